def gd (S T : Sg) (P : Nat) (sc : Nat → Nat) : Prop := S.1 5 0 = nI P ∧ T.1 34 6 = nI P ∧ P ≤ 6 ∧ ∀ q, q < P → S.1 6 q = nI (sc q) ∧ T.1 37 q = nI (sc q) ∧ sc q ≤ 30 ∧ (∀ k, k < sc q → S.1 11 (30 * q + k) = T.1 42 (30 * q + k)) ∧ (∀ x, x < 4 → ∀ k, bt (S.1 10 (4 * q + x)) k = (decide (k < sc q) && bt (T.1 41 (30 * q + k)) x)) ∧ (∃ e : Bool, S.1 9 q = bI e ∧ T.1 38 q = bI e) ∧ S.1 7 q = T.1 39 q ∧ S.1 8 q = T.1 40 q
theorem gd_of {S T : Sg} {P : Nat} (h : good S T P) : ∃ sc, gd S T P sc := by
  refine ⟨fun q => Int32.toNatClampNeg (T.1 37 q), h.1, h.2.1, h.2.2.1, fun q hq => ?_⟩
  obtain ⟨sc, e, h1, h2, h3, h4, h5, h6, h7, h8, h9⟩ := h.2.2.2.1 q hq
  have ee : (fun q => Int32.toNatClampNeg (T.1 37 q)) q = sc := by
    show Int32.toNatClampNeg (T.1 37 q) = sc
    rw [h2, nI_clamp (by omega)]
  rw [ee]
  exact ⟨h1, h2, h3, h4, h5, ⟨e, h6, h7⟩, h8, h9⟩
theorem gd_f {S S' T T' : Sg} {P : Nat} {sc : Nat → Nat} (h : gd S T P sc) (h1 : ∀ id, 5 ≤ id → id ≤ 11 → S'.1 id = S.1 id) (h2 : ∀ id, 34 ≤ id → id ≤ 42 → T'.1 id = T.1 id) : gd S' T' P sc := by
  obtain ⟨a1, a2, a3, a4⟩ := h
  refine ⟨by rw [h1 5 (by omega) (by omega)]; exact a1, by rw [h2 34 (by omega) (by omega)]; exact a2, a3, fun q hq => ?_⟩
  rw [h1 6 (by omega) (by omega), h1 7 (by omega) (by omega), h1 8 (by omega) (by omega), h1 9 (by omega) (by omega), h1 10 (by omega) (by omega), h1 11 (by omega) (by omega), h2 37 (by omega) (by omega), h2 38 (by omega) (by omega), h2 39 (by omega) (by omega), h2 40 (by omega) (by omega), h2 41 (by omega) (by omega), h2 42 (by omega) (by omega)]
  exact a4 q hq
def tkJ (S : Sg) (m j : Nat) (p : Nat) : Bool := if j = 0 then decide (S.1 9 p = 1) else decide (¬ (S.1 (m + 3) (6 * j + p) &&& S.1 8 p = 0))
def bR0 (m s P N : Nat) (S T : Sg) : Prop := S.1 m 0 = nI N ∧ S.1 m 2 = nI P ∧ 1 ≤ N ∧ N ≤ 150 ∧ bkt S m P N ∧ (∀ j, j < N → ∀ p, p < P → S.1 (m + 3) (6 * j + p) = T.1 50 (6 * (150 * s + j) + p)) ∧ (∀ i j, 1 ≤ i → i < j → j < N → ∃ p, p < P ∧ T.1 50 (6 * (150 * s + i) + p) ≠ T.1 50 (6 * (150 * s + j) + p)) ∧ (∀ j, j < N → S.1 (m + 4) j = bI (bJ (S.2.1 5 1) (tkw (tkJ S m j) P))) ∧ ∀ j, 0 < j → j < N → ∃ fr b, fr < j ∧ b < 4 ∧ S.1 (m + 2) j = nI (4 * fr + b) ∧ T.1 52 (150 * s + j) = nI fr ∧ T.1 53 (150 * s + j) = nI b
def stps (m s N k x : Nat) (S T : Sg) : Prop := ∀ j y, y < 4 → (j < k ∨ (j = k ∧ y < x)) → ∃ d, d < N ∧ S.1 (m + 1) (4 * j + y) = nI d ∧ T.1 48 (4 * (150 * s + j) + y) = nI d
def cF (m : Nat) (S S' : Sg) : Prop := S'.2 = S.2 ∧ (∀ id, id < 13 ∨ 16 < id → id < m ∨ m + 4 < id → S'.1 id = S.1 id) ∧ ∀ b, b ≠ 0 → S'.1 m b = S.1 m b
def tF (s : Nat) (T T' : Sg) : Prop := T'.2 = T.2 ∧ (∀ id, id ≠ 48 → id ≠ 50 → id ≠ 52 → id ≠ 53 → id ≠ 66 → T'.1 id = T.1 id) ∧ (∀ j, j < 900 * s ∨ 900 * s + 900 ≤ j → T'.1 50 j = T.1 50 j) ∧ (∀ j, j < 600 * s ∨ 600 * s + 600 ≤ j → T'.1 48 j = T.1 48 j) ∧ ∀ j, j < 150 * s ∨ 150 * s + 150 ≤ j → T'.1 52 j = T.1 52 j ∧ T'.1 53 j = T.1 53 j
theorem cF_r (m : Nat) (S : Sg) : cF m S S := ⟨rfl, fun _ _ _ => rfl, fun _ _ => rfl⟩
theorem cF_t {m : Nat} {S S' S'' : Sg} (h : cF m S S') (g : cF m S' S'') : cF m S S'' := ⟨by rw [g.1, h.1], fun id a b => by rw [g.2.1 id a b, h.2.1 id a b], fun b hb => by rw [g.2.2 b hb, h.2.2 b hb]⟩
theorem tF_r (s : Nat) (T : Sg) : tF s T T := ⟨rfl, fun _ _ _ _ _ _ => rfl, fun _ _ => rfl, fun _ _ => rfl, fun _ _ => ⟨rfl, rfl⟩⟩
theorem tF_t {s : Nat} {T T' T'' : Sg} (h : tF s T T') (g : tF s T' T'') : tF s T T'' := ⟨by rw [g.1, h.1], fun id a b c d e => by rw [g.2.1 id a b c d e, h.2.1 id a b c d e], fun j hj => by rw [g.2.2.1 j hj, h.2.2.1 j hj], fun j hj => by rw [g.2.2.2.1 j hj, h.2.2.2.1 j hj], fun j hj => ⟨by rw [(g.2.2.2.2 j hj).1, (h.2.2.2.2 j hj).1], by rw [(g.2.2.2.2 j hj).2, (h.2.2.2.2 j hj).2]⟩⟩
theorem bR0_f {m s P N : Nat} {S S' T T' : Sg} (h : bR0 m s P N S T) (h2 : S'.2 = S.2) (h1 : ∀ id, id = m ∨ id = m + 2 ∨ id = m + 3 ∨ id = m + 4 ∨ id = 8 ∨ id = 9 ∨ id = 15 ∨ id = 16 → S'.1 id = S.1 id) (h3 : T'.1 50 = T.1 50) (h4 : T'.1 52 = T.1 52) (h5 : T'.1 53 = T.1 53) : bR0 m s P N S' T' := by
  obtain ⟨a1, a2, a3, a4, a5, a6, a7, a8, a9⟩ := h
  have e3 : S'.1 (m + 3) = S.1 (m + 3) := h1 _ (by omega)
  refine ⟨by rw [h1 m (by omega)]; exact a1, by rw [h1 m (by omega)]; exact a2, a3, a4, fun b hb => ?_, fun j hj p hp => by rw [e3, h3]; exact a6 j hj p hp, fun i j i1 i2 i3 => by rw [h3]; exact a7 i j i1 i2 i3, fun j hj => ?_, fun j j1 j2 => by rw [h1 (m + 2) (by omega), h4, h5]; exact a9 j j1 j2⟩
  · obtain ⟨l, l1, l2⟩ := a5 b hb
    refine ⟨l, by rw [h1 15 (by omega)]; exact chn_f l N _ (fun j _ => by rw [h1 16 (by omega)]) l1, fun j => by rw [e3]; exact l2 j⟩
  · rw [h1 (m + 4) (by omega), h2, a8 j hj]
    congr 3
    funext p
    unfold tkJ
    rw [h1 9 (by omega), e3, h1 8 (by omega)]
section BUILD
variable {m s P : Nat} {sc : Nat → Nat}
theorem canCT {S T : Sg} {N k p : Nat} (hg : gd S T P sc) (hR : bR0 m s P N S T) (hk : k < N) (hp : p < P) : canC S m k p (sc p) = canT T s k p (sc p) := by
  obtain ⟨g1, g2, g3, g4, g5, g6, g7, g8⟩ := hg.2.2.2 p hp
  unfold canC canT
  by_cases h0 : k = 0
  · rw [if_pos h0, if_pos h0, g7]
  · rw [if_neg h0, if_neg h0, hR.2.2.2.2.2.1 k hk p hp]
    exact orL_cg _ (fun i hi => g4 i hi)
theorem step_sim {S T : Sg} {N k x : Nat} (hm : 79 ≤ m) (hs : s < 4) (hk : k < N) (hx : x < 4) (hg : gd S T P sc) (hR : bR0 m s P N S T) (hst : stps m s N k x S T) (h13 : ∀ p, p < P → S.1 13 p = canT T s k p (sc p)) : ∃ S' T', cF m S S' ∧ tF s T T' ∧ ((∃ N', N ≤ N' ∧ (∀ KC fl, f_X5_make_L60 KC (fl + 1) m (nI k) (nI x) S = f_X5_make_L60 KC fl m (nI k) (nI (x + 1)) S') ∧ (∀ KT gl, f_X10_builds_L50 KT (gl + 1) (nI s) (nI N) (nI k) (nI x) T = f_X10_builds_L50 KT gl (nI s) (nI N') (nI k) (nI (x + 1)) T') ∧ bR0 m s P N' S' T' ∧ stps m s N' k (x + 1) S' T' ∧ ∀ p, p < P → S'.1 13 p = canT T' s k p (sc p)) ∨ ((∀ KC fl, f_X5_make_L60 KC (fl + 1) m (nI k) (nI x) S = some (0, S')) ∧ ∀ KT gl, f_X10_builds_L50 KT (gl + 1) (nI s) (nI N) (nI k) (nI x) T = some (-2, T'))) := by
  have hg' := hg
  have hR' := hR
  obtain ⟨g5, g6, hP, gq⟩ := hg
  obtain ⟨r1, r2, r3, r4, r5, r6, r7, r8, r9⟩ := hR
  obtain ⟨S1, y1, y2, y3, y4⟩ := setBehind_eq (S := S) hx hP g5
  obtain ⟨T1, z1, z2, z3, z4⟩ := makes_eq (T := T) (s := s) (k := k) (x := x) (sc := sc) hs (by omega) hx hP g6 (fun p hp => ⟨(gq p hp).2.1, (gq p hp).2.2.1⟩)
  have heq : ∀ p, p < P → S1.1 14 p = T1.1 66 p := by
    intro p hp
    apply b_ext
    intro j _
    rw [y4 p hp, b_and, z4 p hp j, h13 p hp, (gq p hp).2.2.2.2.1 x hx j]
    cases decide (j < sc p) <;> cases bt (canT T s k p (sc p)) j <;> cases bt (T.1 41 (30 * p + j)) x <;> rfl
  have hR1 : bR0 m s P N S1 T1 := bR0_f hR' y2 (fun id hid => y3 id (by omega)) (z3 50 (by decide)) (z3 52 (by decide)) (z3 53 (by decide))
  have same : ∀ j, j < N → (sameC S1 m P j ↔ sameT T1 s P j) := by
    intro j hj
    constructor
    · intro h p hp
      rw [← hR1.2.2.2.2.2.1 j hj p hp, h p hp, heq p hp]
    · intro h p hp
      rw [hR1.2.2.2.2.2.1 j hj p hp, h p hp, heq p hp]
  have cF1 : cF m S S1 := ⟨y2, fun id h1 _ => y3 id (by omega), fun b _ => by rw [y3 m (by omega)]⟩
  have tF1 : tF s T T1 := ⟨z2, fun id _ _ _ _ h => z3 id h, fun j _ => by rw [z3 50 (by decide)], fun j _ => by rw [z3 48 (by decide)], fun j _ => ⟨by rw [z3 52 (by decide)], by rw [z3 53 (by decide)]⟩⟩
  obtain ⟨r, u1, u2⟩ := stateBehind_eq (S := S1) hP r3 r4 hR1.1 hR1.2.1 hR1.2.2.2.2.1
  have g61 : T1.1 34 6 = nI P := by rw [z3 34 (by decide)]; exact g6
  have hC : ∀ KC fl, f_X5_make_L60 KC (fl + 1) m (nI k) (nI x) S = if r = N then bd2 (f_X5_addState m (nI (4 * k + x)) S1) (fun r_21 S_20 => (if r_21 = 0 then some ((0 : Int32), S_20) else f_X5_make_L60 KC fl m (nI k) (nI (x + 1)) (sI S_20 (m + 1) (4 * k + x) (nI r)))) else f_X5_make_L60 KC fl m (nI k) (nI (x + 1)) (sI S1 (m + 1) (4 * k + x) (nI r)) := by
    intro KC fl
    have hrN : r ≤ N := by
      rcases u2 with z | z <;> omega
    rw [f_X5_make_L60, k_4, if_neg (by rw [nI_leI (by omega) (by omega)]; omega), ← k_4, ixC4, vl_d, y1, bd_some, u1, bd2_some, vl_d, hR1.1, nI_clamp (by omega), nI_1, ck_nI (by omega) (by decide)]
    by_cases e : r = N
    · rw [if_pos (by rw [e]), if_pos e]
      congr 1
      funext a b
      rw [ck_nI (by omega) (by decide), vl_d, vl_d]
    · rw [if_neg (by rw [nI_eq (by omega) (by omega)]; exact e), if_neg e, vl_d, vl_d]
  rcases u2 with ⟨i1, i2, i3⟩ | ⟨i1, i2⟩
  · -- found
    have hT : ∀ KT gl, f_X10_builds_L50 KT (gl + 1) (nI s) (nI N) (nI k) (nI x) T = f_X10_builds_L50 KT gl (nI s) (nI N) (nI k) (nI (x + 1)) (sI T1 48 (4 * (150 * s + k) + x) (nI r)) := by
      intro KT gl
      rcases findT_eq (T := T1) (s := s) (N := N) (P := P) hs r3 r4 hP g61 with ⟨j, j1, j2, j3, j4⟩ | ⟨j1, j2⟩
      · have ej : j = r := by
          have h3 := (same r i2).mp i3
          rcases Nat.lt_trichotomy j r with z | z | z
          · obtain ⟨p, p1, p2⟩ := hR1.2.2.2.2.2.2.1 j r j1 z i2
            exact absurd (by rw [j3 p p1, h3 p p1]) p2
          · exact z
          · obtain ⟨p, p1, p2⟩ := hR1.2.2.2.2.2.2.1 r j i1 z j2
            exact absurd (by rw [j3 p p1, h3 p p1]) p2
        subst ej
        rw [f_X10_builds_L50, k_4, if_neg (by rw [nI_leI (by omega) (by omega)]; omega), z1, bd_some, j4, bd2_some, vl_d, if_neg (nIm (by omega))]
        unfold f_X10_builds_L178
        rw [ixM4, ck_nI (by omega) (by decide), nI_clamp (by omega), vl_d, nI_1, vl_d]
      · exact absurd ((same r i2).mp i3) (j1 r i1 i2)
    refine ⟨sI S1 (m + 1) (4 * k + x) (nI r), sI T1 48 (4 * (150 * s + k) + x) (nI r), cF_t cF1 ⟨rfl, fun id _ h => sI_id _ _ _ (by omega), fun b _ => by rw [sI_id _ _ _ (by omega)]⟩, tF_t tF1 ⟨rfl, fun id h _ _ _ _ => sI_id _ _ _ h, fun j _ => by rw [sI_id _ _ _ (by decide)], fun j hj => sI_ne _ _ (Or.inr (by omega)), fun j _ => ⟨by rw [sI_id _ _ _ (by decide)], by rw [sI_id _ _ _ (by decide)]⟩⟩, Or.inl ⟨N, Nat.le_refl _, fun KC fl => by rw [hC KC fl, if_neg (by omega)], hT, bR0_f hR1 rfl (fun id hid => sI_id _ _ _ (by omega)) (sI_id _ _ _ (by decide)) (sI_id _ _ _ (by decide)) (sI_id _ _ _ (by decide)), fun j y hy hj => ?_, fun p hp => ?_⟩⟩
    · by_cases e : j = k ∧ y = x
      · obtain ⟨rfl, rfl⟩ := e
        exact ⟨r, i2, sI_at _ _ _ _, sI_at _ _ _ _⟩
      · rw [sI_ne _ _ (Or.inr (by omega)), sI_ne _ _ (Or.inr (by omega)), y3 (m + 1) (by omega), z3 48 (by decide)]
        exact hst j y hy (by omega)
    · rw [sI_id _ _ _ (by omega), y3 13 (by decide), h13 p hp]
      unfold canT
      rw [sI_id _ _ _ (by decide), sI_id _ _ _ (by decide), sI_id _ _ _ (by decide), z3 39 (by decide), z3 42 (by decide), z3 50 (by decide)]
  · subst i1
    have nof : ∀ j, 1 ≤ j → j < r → ¬ sameT T1 s P j := fun j j1 j2 z => i2 j j1 j2 ((same j j2).mpr z)
    have hf : f_X10_find (nI s) (nI r) T1 = some (-1, T1) := by
      rcases findT_eq (T := T1) (s := s) (N := r) (P := P) hs r3 r4 hP g61 with ⟨j, j1, j2, j3, -⟩ | ⟨-, j2⟩
      · exact absurd j3 (nof j j1 j2)
      · exact j2
    by_cases h150 : r = 150
    · -- too many
      refine ⟨S1, T1, cF1, tF1, Or.inr ⟨fun KC fl => ?_, fun KT gl => ?_⟩⟩
      · rw [hC KC fl, if_pos rfl]
        unfold f_X5_addState
        rw [hR1.1, vl_d, if_neg (by rw [k_150, nI_ltI (by omega) (by omega)]; omega), bd2_some, if_pos rfl]
      · rw [f_X10_builds_L50, k_4, if_neg (by rw [nI_leI (by omega) (by omega)]; omega), z1, bd_some, hf, bd2_some, vl_d, if_pos rfl, if_pos (by rw [h150]; rfl)]
    · obtain ⟨S2, v1, v2⟩ := addState_eq (S := S1) (m := m) (N := r) (P := P) (pl := 4 * k + x) hm (by omega) hP hR1.1 (by rw [y3 5 (by decide)]; exact g5) (fun p hp => by rw [y3 9 (by decide)]; obtain ⟨e, he, -⟩ := (gq p hp).2.2.2.2.2.1; exact ⟨e, he⟩)
      have hbl : ∀ KT gl, ∃ T2, f_X10_builds_L97 (f_X10_builds_L178 (f_X10_builds_L50 KT gl)) fu (nI s) (nI (r + 1)) (nI k) (nI x) (nI r) 0 T1 = f_X10_builds_L178 (f_X10_builds_L50 KT gl) (nI s) (nI (r + 1)) (nI k) (nI x) (nI r) T2 ∧ T2.2 = T1.2 ∧ (∀ id, id ≠ 50 → id ≠ 52 → id ≠ 53 → T2.1 id = T1.1 id) ∧ (∀ j, T2.1 50 j = if 6 * (150 * s + r) ≤ j ∧ j < 6 * (150 * s + r) + 6 then (if j - 6 * (150 * s + r) < P then T1.1 66 (j - 6 * (150 * s + r)) else 0) else T1.1 50 j) ∧ (∀ j, T2.1 52 j = if j = 150 * s + r then nI k else T1.1 52 j) ∧ ∀ j, T2.1 53 j = if j = 150 * s + r then nI x else T1.1 53 j := fun KT gl => bl97 hs (by omega) hP g61
      -- one state for all continuations
      let T2 : Sg := (fun id => if id = 50 then (fun j => if 6 * (150 * s + r) ≤ j ∧ j < 6 * (150 * s + r) + 6 then (if j - 6 * (150 * s + r) < P then T1.1 66 (j - 6 * (150 * s + r)) else 0) else T1.1 50 j) else if id = 52 then (fun j => if j = 150 * s + r then nI k else T1.1 52 j) else if id = 53 then (fun j => if j = 150 * s + r then nI x else T1.1 53 j) else T1.1 id, T1.2)
      have hbl2 : ∀ KT gl, f_X10_builds_L97 (f_X10_builds_L178 (f_X10_builds_L50 KT gl)) fu (nI s) (nI (r + 1)) (nI k) (nI x) (nI r) 0 T1 = f_X10_builds_L178 (f_X10_builds_L50 KT gl) (nI s) (nI (r + 1)) (nI k) (nI x) (nI r) T2 := by
        intro KT gl
        obtain ⟨T3, w1, w2, w3, w4, w5, w6⟩ := hbl KT gl
        have : T3 = T2 := by
          refine Prod.ext ?_ w2
          funext id j
          show T3.1 id j = (if id = 50 then _ else if id = 52 then _ else if id = 53 then _ else T1.1 id) j
          by_cases e1 : id = 50
          · subst e1; rw [if_pos rfl]; exact w4 j
          · rw [if_neg e1]
            by_cases e2 : id = 52
            · subst e2; rw [if_pos rfl]; exact w5 j
            · rw [if_neg e2]
              by_cases e3 : id = 53
              · subst e3; rw [if_pos rfl]; exact w6 j
              · rw [if_neg e3, w3 id e1 e2 e3]
        rw [w1, this]
      have t2id : ∀ id, id ≠ 50 → id ≠ 52 → id ≠ 53 → T2.1 id = T1.1 id := fun id e1 e2 e3 => by
        show (if id = 50 then _ else if id = 52 then _ else if id = 53 then _ else T1.1 id) = _
        rw [if_neg e1, if_neg e2, if_neg e3]
      have t50 : ∀ j, T2.1 50 j = if 6 * (150 * s + r) ≤ j ∧ j < 6 * (150 * s + r) + 6 then (if j - 6 * (150 * s + r) < P then T1.1 66 (j - 6 * (150 * s + r)) else 0) else T1.1 50 j := fun j => rfl
      have t52 : ∀ j, T2.1 52 j = if j = 150 * s + r then nI k else T1.1 52 j := fun j => rfl
      have t53 : ∀ j, T2.1 53 j = if j = 150 * s + r then nI x else T1.1 53 j := fun j => rfl
      have tset : ∀ j p, p < P → T2.1 50 (6 * (150 * s + j) + p) = if j = r then T1.1 66 p else T1.1 50 (6 * (150 * s + j) + p) := by
        intro j p hp
        rw [t50]
        by_cases e : j = r
        · subst e; rw [if_pos (by omega), Nat.add_sub_cancel_left, if_pos hp, if_pos rfl]
        · rw [if_neg (by omega), if_neg e]
      have hR2 : bR0 m s P (r + 1) S2 T2 := by
        obtain ⟨b1, b2, b3, b4, b5, b6, b7, b8, b9⟩ := hR1
        refine ⟨v2.2.2.1.1, by rw [v2.2.2.1.2 2 (by decide)]; exact b2, by omega, by omega, bkt_add hP r3 (by omega) v2 b5, fun j hj p hp => ?_, fun i j j1 j2 j3 => ?_, fun j hj => ?_, fun j j1 j2 => ?_⟩
        · rw [added_set v2 hp hP, tset j p hp]
          by_cases e : j = r
          · rw [if_pos e, if_pos e, heq p hp]
          · rw [if_neg e, if_neg e]; exact b6 j (by omega) p hp
        · by_cases e : j = r
          · subst e
            have hn := nof i j1 j2
            have : ∃ p, p < P ∧ ¬ T1.1 50 (6 * (150 * s + i) + p) = T1.1 66 p := by
              refine Classical.byContradiction (fun z => hn (fun p hp => Classical.byContradiction (fun z2 => z ⟨p, hp, z2⟩)))
            obtain ⟨p, p1, p2⟩ := this
            refine ⟨p, p1, ?_⟩
            rw [tset i p p1, tset j p p1, if_neg (by omega), if_pos rfl]
            exact p2
          · obtain ⟨p, p1, p2⟩ := b7 i j j1 j2 (by omega)
            refine ⟨p, p1, ?_⟩
            rw [tset i p p1, tset j p p1, if_neg (by omega), if_neg e]
            exact p2
        · rw [v2.2.2.2.2.2.1 j, v2.1]
          by_cases e : j = r
          · subst e
            rw [if_pos rfl]
            congr 2
            refine tkw_cg P (fun p hp => ?_)
            unfold tkN tkJ
            rw [if_neg (by omega), if_neg (by omega), added_set v2 hp hP, if_pos rfl, v2.2.1 8 (by omega) (by omega) (by omega) (by omega) (by decide) (by decide)]
          · rw [if_neg e, b8 j (by omega)]
            congr 2
            refine tkw_cg P (fun p hp => ?_)
            unfold tkJ
            rw [added_set v2 hp hP, if_neg e, v2.2.1 8 (by omega) (by omega) (by omega) (by omega) (by decide) (by decide), v2.2.1 9 (by omega) (by omega) (by omega) (by omega) (by decide) (by decide)]
        · rw [v2.2.2.2.1 j]
          by_cases e : j = r
          · refine ⟨k, x, by omega, hx, by rw [if_pos e], ?_, ?_⟩
            · rw [t52, if_pos (by omega)]
            · rw [t53, if_pos (by omega)]
          · obtain ⟨fr, b, f1, f2, f3, f4, f5⟩ := b9 j j1 (by omega)
            exact ⟨fr, b, f1, f2, by rw [if_neg e]; exact f3, by rw [t52, if_neg (by omega)]; exact f4, by rw [t53, if_neg (by omega)]; exact f5⟩
      refine ⟨sI S2 (m + 1) (4 * k + x) (nI r), sI T2 48 (4 * (150 * s + k) + x) (nI r), cF_t cF1 (cF_t (S' := S2) ⟨v2.1, fun id h1 h2 => v2.2.1 id (by omega) (by omega) (by omega) (by omega) (by omega) (by omega), fun b hb => v2.2.2.1.2 b hb⟩ ⟨rfl, fun id _ h => sI_id _ _ _ (by omega), fun b _ => by rw [sI_id _ _ _ (by omega)]⟩), tF_t tF1 (tF_t (T' := T2) ⟨rfl, fun id _ e1 e2 e3 _ => t2id id e1 e2 e3, fun j hj => by rw [t50, if_neg (by omega)], fun j _ => by rw [t2id 48 (by decide) (by decide) (by decide)], fun j hj => ⟨by rw [t52, if_neg (by omega)], by rw [t53, if_neg (by omega)]⟩⟩ ⟨rfl, fun id h _ _ _ _ => sI_id _ _ _ h, fun j _ => by rw [sI_id _ _ _ (by decide)], fun j hj => sI_ne _ _ (Or.inr (by omega)), fun j _ => ⟨by rw [sI_id _ _ _ (by decide)], by rw [sI_id _ _ _ (by decide)]⟩⟩), Or.inl ⟨r + 1, by omega, fun KC fl => ?_, fun KT gl => ?_, bR0_f hR2 rfl (fun id hid => sI_id _ _ _ (by omega)) (sI_id _ _ _ (by decide)) (sI_id _ _ _ (by decide)) (sI_id _ _ _ (by decide)), fun j y hy hj => ?_, fun p hp => ?_⟩⟩
      · rw [hC KC fl, if_pos rfl, v1, bd2_some, if_neg n10]
      · rw [f_X10_builds_L50, k_4, if_neg (by rw [nI_leI (by omega) (by omega)]; omega), z1, bd_some, hf, bd2_some, vl_d, if_pos rfl, if_neg (by rw [k_150, nI_eq (by omega) (by omega)]; exact h150), vl_d, nI_1, vl_d, vl_d, hbl2]
        unfold f_X10_builds_L178
        rw [ixM4, ck_nI (by omega) (by decide), nI_clamp (by omega), vl_d, nI_1, vl_d]
      · by_cases e : j = k ∧ y = x
        · obtain ⟨rfl, rfl⟩ := e
          exact ⟨r, by omega, sI_at _ _ _ _, sI_at _ _ _ _⟩
        · rw [sI_ne _ _ (Or.inr (by omega)), sI_ne _ _ (Or.inr (by omega)), v2.2.1 (m + 1) (by omega) (by omega) (by omega) (by omega) (by omega) (by omega), y3 (m + 1) (by omega), t2id 48 (by decide) (by decide) (by decide), z3 48 (by decide)]
          obtain ⟨d, d1, d2⟩ := hst j y hy (by omega)
          exact ⟨d, by omega, d2⟩
      · rw [sI_id _ _ _ (by omega), v2.2.1 13 (by omega) (by omega) (by omega) (by omega) (by omega) (by omega), y3 13 (by decide), h13 p hp]
        unfold canT
        rw [sI_id _ _ _ (by decide), sI_id _ _ _ (by decide), sI_id _ _ _ (by decide), t2id 39 (by decide) (by decide) (by decide), t2id 42 (by decide) (by decide) (by decide), tset k p hp, if_neg (show ¬ k = r by omega), z3 39 (by decide), z3 42 (by decide), z3 50 (by decide)]
end BUILD
