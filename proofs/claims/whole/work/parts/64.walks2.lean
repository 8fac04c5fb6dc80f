section WALK
variable {s1 s2 N1 N2 : Nat} {d1 d2 : Nat → Nat → Nat} {acc1 acc2 : Nat → Bool}
theorem k_22500 : (22500 : Int32) = nI 22500 := by decide +kernel
theorem dm150 {a : Nat} (ha : a < 2 ^ 31) : nI a / (150 : Int32) = nI (a / 150) ∧ nI a - nI a / (150 : Int32) * (150 : Int32) = nI (a % 150) := by
  rw [k_150]
  exact ⟨pk_div ha (by decide) (by decide), pk_rem ha (by decide) (by decide)⟩
theorem nz150 {β : Type} (K : Option β) : nz (150 : Int32) K = K := nz_ok (by decide) K
/-- the four steps of entry k -/
theorem wk_row {K : Int32 → Int32 → Int32 → Sg → Option Sg} {k : Nat} (o1 : autOk N1 d1) (o2 : autOk N2 d2) (h1 : s1 < 4) (h2 : s2 < 4) : ∀ (r x fl : Nat) (S : Sg) (c : Nat) (q fr by_ : Nat → Nat), autM S s1 N1 d1 acc1 → autM S s2 N2 d2 acc2 → x + r = 4 → r + 1 ≤ fl → k < c → bfs N1 N2 d1 d2 c (4 * k + x) q fr by_ → bfsS S c q fr by_ → ∃ (S' : Sg) (c' : Nat) (q' fr' by' : Nat → Nat), f_X10_walks_L47 K fl (nI s1) (nI s2) (nI k) (nI x) S = K (nI s1) (nI s2) (nI (k + 1)) S' ∧ frW S S' ∧ c ≤ c' ∧ bfs N1 N2 d1 d2 c' (4 * (k + 1)) q' fr' by' ∧ bfsS S' c' q' fr' by' := by
  have b1 := o1.2.1
  have b2 := o2.2.1
  intro r
  induction r with
  | zero =>
    intro x fl S c q fr by_ m1 m2 hx hfl hk hb hS
    obtain ⟨f, rfl⟩ : ∃ f, fl = f + 1 := ⟨fl - 1, by omega⟩
    have : x = 4 := by omega
    subst this
    refine ⟨S, c, q, fr, by_, ?_, frW_rf S, Nat.le_refl _, hb, hS⟩
    rw [f_X10_walks_L47, if_pos (by decide +kernel), vl_d, nI_1]
  | succ r ih =>
    intro x fl S c q fr by_ m1 m2 hx hfl hk hb hS
    obtain ⟨f, rfl⟩ : ∃ f, fl = f + 1 := ⟨fl - 1, by omega⟩
    obtain ⟨p1, p2⟩ := hb.2.1 k hk
    obtain ⟨t1, t2⟩ := stp_ok o1 o2 p1 (x := x) (by omega)
    have hkb : k < 22500 := by
      have : ∀ n, n ≤ c → n ≤ 22500 := by
        intro n
        induction n with
        | zero => intro _; omega
        | succ n ihn =>
          intro hn
          have := q_room (c := n) (p := q n) (q := q) (fun i hi => (hb.2.1 i (by omega)).2) (fun i j hi hj e => hb.2.2.2.2.1 i j (by omega) (by omega) e) (hb.2.1 n (by omega)).2 (fun ⟨i, hi, e⟩ => by have := hb.2.2.2.2.1 i n (by omega) (by omega) e; omega)
          omega
      have := this c (Nat.le_refl _)
      omega
    have hdm := dm150 (a := q k) (by omega)
    have step : f_X10_walks_L47 K (f + 1) (nI s1) (nI s2) (nI k) (nI x) S = bd (f_X10_meets (nI (stp d1 d2 (q k) x)) (nI k) (nI x) S) (fun S_11 => f_X10_walks_L47 K f (nI s1) (nI s2) (nI k) (nI (x + 1)) S_11) := by
      rw [f_X10_walks_L47, if_neg (by rw [k_4, nI_leI (by omega) (by omega)]; omega), ck_nI hkb (by decide), nz150, nI_clamp (by omega), hS.2.1 k hk, hdm.1, after_eq h1 (by have := p1.1; omega) (by omega), bd2_some, ck_nI hkb (by decide), nz150, hS.2.1 k hk, hdm.2, after_eq h2 (by have := p1.2; omega) (by omega), bd2_some, m1.2.1 _ p1.1 x (by omega), m2.2.1 _ p1.2 x (by omega), ixM]
      show bd (f_X10_meets (nI (150 * d1 (q k / 150) x + d2 (q k % 150) x)) (nI k) (nI x) S) (fun S_11 => vl (nI x + 1) (fun x4_12 => f_X10_walks_L47 K f (nI s1) (nI s2) (nI k) x4_12 S_11)) = _
      rw [nI_1]
      rfl
    rw [step]
    by_cases hm : ∃ i, i < c ∧ q i = stp d1 d2 (q k) x
    · rw [meets_old hS t2 hm, bd_some]
      exact ih (x + 1) f S c q fr by_ m1 m2 (by omega) (by omega) hk (by have := bfs_old hb rfl (by omega) hk hm; exact this) hS
    · have hc := q_room (fun i hi => (hb.2.1 i hi).2) hb.2.2.2.2.1 t2 hm
      obtain ⟨S1, e1, f1, g1⟩ := meets_new (f := k) (x := x) (y := nI k) hS t2 hm hc (fun _ => rfl)
      rw [e1, bd_some]
      obtain ⟨S', c', q', fr', by', e, w1, w2, w3, w4⟩ := ih (x + 1) f S1 (c + 1) _ _ _ (autM_W m1 f1) (autM_W m2 f1) (by omega) (by omega) (by omega) (bfs_new o1 o2 hb rfl (by omega) hk hm) g1
      exact ⟨S', c', q', fr', by', e, frW_tr f1 w1, by omega, w3, w4⟩
theorem c_bound {c t : Nat} {q fr by_ : Nat → Nat} (hb : bfs N1 N2 d1 d2 c t q fr by_) : c ≤ 22500 := by
  have : ∀ n, n ≤ c → n ≤ 22500 := by
    intro n
    induction n with
    | zero => intro _; omega
    | succ n ihn =>
      intro hn
      have := q_room (c := n) (p := q n) (q := q) (fun i hi => (hb.2.1 i (by omega)).2) (fun i j hi hj e => hb.2.2.2.2.1 i j (by omega) (by omega) e) (hb.2.1 n (by omega)).2 (fun ⟨i, hi, e⟩ => by have := hb.2.2.2.2.1 i n (by omega) (by omega) e; omega)
      omega
  exact this c (Nat.le_refl _)
theorem wk_all (o1 : autOk N1 d1) (o2 : autOk N2 d2) (h1 : s1 < 4) (h2 : s2 < 4) : ∀ (r k fl : Nat) (S : Sg) (c : Nat) (q fr by_ : Nat → Nat), autM S s1 N1 d1 acc1 → autM S s2 N2 d2 acc2 → k + r = 22501 → r + 1 ≤ fl → k ≤ c → bfs N1 N2 d1 d2 c (4 * k) q fr by_ → bfsS S c q fr by_ → ∃ (S' : Sg) (c' : Nat) (q' fr' by' : Nat → Nat), f_X10_walks_L36 fl (nI s1) (nI s2) (nI k) S = some S' ∧ frW S S' ∧ bfs N1 N2 d1 d2 c' (4 * c') q' fr' by' ∧ bfsS S' c' q' fr' by' := by
  intro r
  induction r with
  | zero =>
    intro k fl S c q fr by_ m1 m2 hk hfl hkc hb hS
    have := c_bound hb
    omega
  | succ r ih =>
    intro k fl S c q fr by_ m1 m2 hk hfl hkc hb hS
    obtain ⟨f, rfl⟩ : ∃ f, fl = f + 1 := ⟨fl - 1, by omega⟩
    have hcb := c_bound hb
    by_cases h : k = c
    · subst h
      refine ⟨S, k, q, fr, by_, ?_, frW_rf S, hb, hS⟩
      rw [f_X10_walks_L36, hS.1, if_pos (by rw [nI_leI (by omega) (by omega)]; omega)]
    · obtain ⟨S1, c1, q1, fr1, by1, e1, f1, l1, hb1, hS1⟩ := wk_row (K := f_X10_walks_L36 f) (k := k) o1 o2 h1 h2 4 0 fu S c q fr by_ m1 m2 (by omega) (by unfold fu; omega) (by omega) hb hS
      obtain ⟨S', c', q', fr', by', e, w1, w2, w3⟩ := ih (k + 1) f S1 c1 q1 fr1 by1 (autM_W m1 f1) (autM_W m2 f1) (by omega) (by omega) (by omega) hb1 hS1
      refine ⟨S', c', q', fr', by', ?_, frW_tr f1 w1, w2, w3⟩
      rw [f_X10_walks_L36, hS.1, if_neg (by rw [nI_leI (by omega) (by omega)]; omega), vl_d, k_0, e1]
      exact e
theorem wk_clear (o1 : autOk N1 d1) (o2 : autOk N2 d2) (h1 : s1 < 4) (h2 : s2 < 4) : ∀ (r k fl : Nat) (S : Sg), autM S s1 N1 d1 acc1 → autM S s2 N2 d2 acc2 → k + r = 22500 → r + 1 ≤ fl → (∀ j, j < k → S.1 78 j = 0) → ∃ (S' : Sg) (c' : Nat) (q' fr' by' : Nat → Nat), f_X10_walks_L2 fl (nI s1) (nI s2) (nI k) S = some S' ∧ frW S S' ∧ bfs N1 N2 d1 d2 c' (4 * c') q' fr' by' ∧ bfsS S' c' q' fr' by' := by
  have a1 := o1.1
  have a2 := o2.1
  intro r
  induction r with
  | zero =>
    intro k fl S m1 m2 hk hfl h0
    obtain ⟨f, rfl⟩ : ∃ f, fl = f + 1 := ⟨fl - 1, by omega⟩
    have f0 : frW S (sI S 34 58 0) := ⟨rfl, fun id i1 _ _ _ _ => sI_id _ _ _ i1, fun b hb => sI_ne _ _ (Or.inr hb)⟩
    have hS0 : bfsS (sI S 34 58 0) 0 (fun _ => 0) (fun _ => 0) (fun _ => 0) := ⟨by rw [sI_at, k_0], fun i hi => absurd hi (by omega), fun i _ hi => absurd hi (by omega), fun p hp => Or.inr ⟨by rw [sI_id _ _ _ (by decide)]; exact h0 p (by omega), fun ⟨i, hi, _⟩ => by omega⟩⟩
    obtain ⟨S1, e1, f1, g1⟩ := meets_new (p := 0) (f := 0) (x := 0) (y := (-1 : Int32)) hS0 (by omega) (fun ⟨i, hi, _⟩ => by omega) (by omega) (fun h => absurd h (by omega))
    have hb1 : bfs N1 N2 d1 d2 (0 + 1) (4 * 0) (fun i => if i = 0 then 0 else (fun _ => 0) i) (fun i => if i = 0 then 0 else (fun _ => 0) i) (fun i => if i = 0 then 0 else (fun _ => 0) i) := by
      refine ⟨⟨by omega, rfl⟩, fun i hi => ?_, fun i z hi => absurd hi (by omega), fun i j z hij hj => absurd hj (by omega), fun i j hi hj _ => by omega, fun k x hx hk2 hlt => absurd hlt (by omega)⟩
      have : i = 0 := by omega
      subst this
      exact ⟨⟨by show 0 / 150 < N1; omega, by show 0 % 150 < N2; omega⟩, by show 0 < 22500; omega⟩
    obtain ⟨S', c', q', fr', by', e, w1, w2, w3⟩ := wk_all o1 o2 h1 h2 22501 0 fu S1 1 _ _ _ (autM_W (autM_W m1 f0) f1) (autM_W (autM_W m2 f0) f1) (by omega) (by unfold fu; omega) (by omega) hb1 g1
    refine ⟨S', c', q', fr', by', ?_, frW_tr (frW_tr f0 f1) w1, w2, w3⟩
    rw [f_X10_walks_L2, if_pos (by rw [k_22500, nI_leI (by omega) (by omega)]; omega), vl_d, k_0]
    rw [← k_0] at e1
    rw [← k_0, e1, bd_some, vl_d, k_0]
    exact e
  | succ r ih =>
    intro k fl S m1 m2 hk hfl h0
    obtain ⟨f, rfl⟩ : ∃ f, fl = f + 1 := ⟨fl - 1, by omega⟩
    have f0 : frW S (sI S 78 k 0) := ⟨rfl, fun id _ _ _ _ i5 => sI_id _ _ _ i5, fun b hb => by rw [sI_id _ _ _ (by decide)]⟩
    obtain ⟨S', c', q', fr', by', e, w1, w2, w3⟩ := ih (k + 1) f (sI S 78 k 0) (autM_W m1 f0) (autM_W m2 f0) (by omega) (by omega) (fun j hj => by
      by_cases z : j = k
      · subst z; rw [sI_at]
      · rw [sI_ne _ _ (Or.inr z)]; exact h0 j (by omega))
    refine ⟨S', c', q', fr', by', ?_, frW_tr f0 w1, w2, w3⟩
    rw [f_X10_walks_L2, if_neg (by rw [k_22500, nI_leI (by omega) (by omega)]; omega), ck_nI (by omega) (by decide), nI_clamp (by omega), nar0, vl_d, vl_d, nI_1]
    exact e
theorem walks_eq {S : Sg} (o1 : autOk N1 d1) (o2 : autOk N2 d2) (h1 : s1 < 4) (h2 : s2 < 4) (m1 : autM S s1 N1 d1 acc1) (m2 : autM S s2 N2 d2 acc2) : ∃ (S' : Sg) (c : Nat) (q fr by_ : Nat → Nat), f_X10_walks (nI s1) (nI s2) S = some S' ∧ frW S S' ∧ bfs N1 N2 d1 d2 c (4 * c) q fr by_ ∧ bfsS S' c q fr by_ := by
  obtain ⟨S', c, q, fr, by_, e, w⟩ := wk_clear o1 o2 h1 h2 22500 0 fu S m1 m2 (by omega) (by unfold fu; omega) (fun j hj => absurd hj (by omega))
  refine ⟨S', c, q, fr, by_, ?_, w⟩
  unfold f_X10_walks
  rw [vl_d, k_0]
  exact e
end WALK
