def mixL (f : Nat → Int32) : Nat → Int32
  | 0 => 0
  | p + 1 => (mixL f p + f p) * (-1640531535 : Int32)
def hb (f : Nat → Int32) (P : Nat) : Int32 := (Int32.toUInt32 (mixL f P) >>> (Int32.toUInt32 ((26 : Int32)) &&& Int32.toUInt32 31)).toInt32
theorem mixL_cg {f g : Nat → Int32} : ∀ P, (∀ p, p < P → f p = g p) → mixL f P = mixL g P := by
  intro P
  induction P with
  | zero => intro _; rfl
  | succ P ih =>
    intro h
    show (mixL f P + f P) * (-1640531535 : Int32) = (mixL g P + g P) * (-1640531535 : Int32)
    rw [ih (fun p hp => h p (by omega)), h P (by omega)]
theorem hb_cg {f g : Nat → Int32} {P : Nat} (h : ∀ p, p < P → f p = g p) : hb f P = hb g P := by unfold hb; rw [mixL_cg P h]
theorem hb_lt (f : Nat → Int32) (P : Nat) : ∃ b, b < 64 ∧ hb f P = nI b := by
  unfold hb
  generalize mixL f P = x
  refine ⟨(Int32.toUInt32 x >>> (Int32.toUInt32 ((26 : Int32)) &&& Int32.toUInt32 31)).toNat, ?_, ?_⟩
  · rw [show (Int32.toUInt32 ((26 : Int32)) &&& Int32.toUInt32 31) = (26 : UInt32) by decide +kernel, UInt32.toNat_shiftRight, show (26 : UInt32).toNat % 32 = 26 from rfl, Nat.shiftRight_eq_div_pow]
    have := (Int32.toUInt32 x).toNat_lt
    omega
  · generalize (Int32.toUInt32 x >>> (Int32.toUInt32 ((26 : Int32)) &&& Int32.toUInt32 31)) = u
    apply Int32.toBitVec_inj.mp
    show u.toBitVec = (nI u.toNat).toBitVec
    unfold nI
    show u.toBitVec = BitVec.ofNat 32 u.toNat
    apply BitVec.eq_of_toNat_eq
    rw [BitVec.toNat_ofNat]
    exact (Nat.mod_eq_of_lt u.toNat_lt).symm
section FIND
variable {m s P N : Nat}
theorem bucket_eq {S : Sg} (hP : P ≤ 6) : f_X5_bucketBehind (nI P) S = some (hb (S.1 14) P, S) := by
  have loop : ∀ r p fl, p + r = P → r + 1 ≤ fl → f_X5_bucketBehind_L4 fl (nI P) (mixL (S.1 14) p) (nI p) S = some (hb (S.1 14) P, S) := by
    intro r
    induction r with
    | zero =>
      intro p fl hp hfl
      obtain ⟨f, rfl⟩ : ∃ f, fl = f + 1 := ⟨fl - 1, by omega⟩
      rw [f_X5_bucketBehind_L4, if_pos (by rw [nI_leI (by omega) (by omega)]; omega), show p = P by omega]
      rfl
    | succ r ih =>
      intro p fl hp hfl
      obtain ⟨f, rfl⟩ : ∃ f, fl = f + 1 := ⟨fl - 1, by omega⟩
      rw [f_X5_bucketBehind_L4, if_neg (by rw [nI_leI (by omega) (by omega)]; omega), ck_nI (by omega) (by decide), nI_clamp (by omega), vl_d, nI_1, vl_d]
      exact ih (p + 1) f (by omega) (by omega)
  unfold f_X5_bucketBehind
  rw [vl_d, vl_d]
  exact loop P 0 fu (by omega) (by unfold fu; omega)
abbrev sameC (S : Sg) (m P j : Nat) : Prop := ∀ p, p < P → S.1 (m + 3) (6 * j + p) = S.1 14 p
theorem hasSets_eq {S : Sg} {j : Nat} (hj : j < 150) (hP : P ≤ 6) (h2 : S.1 m 2 = nI P) : (f_X5_hasSetsBehind m (nI j) S = some (1, S) ∧ sameC S m P j) ∨ (f_X5_hasSetsBehind m (nI j) S = some (0, S) ∧ ¬ sameC S m P j) := by
  have loop : ∀ r p fl, p + r = P → r + 1 ≤ fl → (∀ q, q < p → S.1 (m + 3) (6 * j + q) = S.1 14 q) → (f_X5_hasSetsBehind_L2 fl m (nI j) (nI p) S = some (1, S) ∧ sameC S m P j) ∨ (f_X5_hasSetsBehind_L2 fl m (nI j) (nI p) S = some (0, S) ∧ ¬ sameC S m P j) := by
    intro r
    induction r with
    | zero =>
      intro p fl hp hfl h
      obtain ⟨f, rfl⟩ : ∃ f, fl = f + 1 := ⟨fl - 1, by omega⟩
      refine Or.inl ⟨?_, fun q hq => h q (by omega)⟩
      rw [f_X5_hasSetsBehind_L2, h2, if_pos (by rw [nI_leI (by omega) (by omega)]; omega)]
    | succ r ih =>
      intro p fl hp hfl h
      obtain ⟨f, rfl⟩ : ∃ f, fl = f + 1 := ⟨fl - 1, by omega⟩
      rw [f_X5_hasSetsBehind_L2, h2, if_neg (by rw [nI_leI (by omega) (by omega)]; omega), ixC6, ck_nI (by omega) (by decide), ck_nI (by omega) (by decide), nI_clamp (by omega), nI_clamp (by omega)]
      by_cases e : S.1 (m + 3) (6 * j + p) = S.1 14 p
      · rw [if_pos e, nI_1, vl_d]
        refine ih (p + 1) f (by omega) (by omega) (fun q hq => ?_)
        by_cases e2 : q = p
        · subst e2; exact e
        · exact h q (by omega)
      · rw [if_neg e]
        exact Or.inr ⟨rfl, fun z => e (z p (by omega))⟩
  unfold f_X5_hasSetsBehind
  rw [vl_d]
  exact loop P 0 fu (by omega) (by unfold fu; omega) (fun q hq => absurd hq (by omega))
def chn (S : Sg) : Nat → Int32 → List Nat → Prop
  | _, v, [] => v = 0
  | B, v, j :: r => v = nI j ∧ 1 ≤ j ∧ j < B ∧ chn S j (S.1 16 j) r
theorem chn_len {S : Sg} : ∀ (l : List Nat) (B : Nat) (v : Int32), 1 ≤ B → chn S B v l → l.length < B := by
  intro l
  induction l with
  | nil => intro B v hB _; exact hB
  | cons j r ih =>
    intro B v hB h
    have := ih j _ h.2.1 h.2.2.2
    show r.length + 1 < B
    have := h.2.2.1
    omega
theorem chn_f {S S' : Sg} : ∀ (l : List Nat) (B : Nat) (v : Int32), (∀ j, j < B → S'.1 16 j = S.1 16 j) → chn S B v l → chn S' B v l := by
  intro l
  induction l with
  | nil => intro B v _ h; exact h
  | cons j r ih =>
    intro B v hf h
    refine ⟨h.1, h.2.1, h.2.2.1, ?_⟩
    have hj := h.2.2.1
    rw [hf j hj]
    exact ih j _ (fun i hi => hf i (by omega)) h.2.2.2
theorem chn_up {S : Sg} {l : List Nat} {B B' : Nat} {v : Int32} (hB : B ≤ B') (h : chn S B v l) : chn S B' v l := by
  cases l with
  | nil => exact h
  | cons j r => exact ⟨h.1, h.2.1, by have := h.2.2.1; omega, h.2.2.2⟩
theorem stB_loop {S : Sg} (hP : P ≤ 6) (h2 : S.1 m 2 = nI P) : ∀ (l : List Nat) (v : Int32) (t fl B : Nat), chn S B v l → B ≤ 150 → t + l.length < 150 → l.length + 1 ≤ fl → ∃ r, f_X5_stateBehind_L16 fl m v (nI t) S = some (r, S) ∧ ((∃ j, j ∈ l ∧ sameC S m P j ∧ r = nI j) ∨ ((∀ j, j ∈ l → ¬ sameC S m P j) ∧ r = S.1 m 0)) := by
  intro l
  induction l with
  | nil =>
    intro v t fl B h hB ht hfl
    obtain ⟨f, rfl⟩ : ∃ f, fl = f + 1 := ⟨fl - 1, by omega⟩
    refine ⟨S.1 m 0, ?_, Or.inr ⟨fun j hj => absurd hj (by simp), rfl⟩⟩
    have hv : v = 0 := h
    have ht' : t + 0 < 150 := ht
    rw [f_X5_stateBehind_L16, if_neg (by rw [k_150, nI_leI (by omega) (by omega)]; omega), hv, if_pos (by decide)]
  | cons j q ih =>
    intro v t fl B h hB ht hfl
    have hl : (j :: q).length = q.length + 1 := rfl
    obtain ⟨f, rfl⟩ : ∃ f, fl = f + 1 := ⟨fl - 1, by omega⟩
    obtain ⟨h1, h3, h4, h5⟩ := h
    subst h1
    have e0 : f_X5_stateBehind_L16 (f + 1) m (nI j) (nI t) S = bd2 (f_X5_hasSetsBehind m (nI j) S) (fun r_6 S_5 => (if r_6 = 0 then ck (nI j) 150 (vl ((S_5.1 16 (Int32.toNatClampNeg (nI j)))) (fun x2_7 => vl (nI t + (1 : Int32)) (fun x3_8 => (f_X5_stateBehind_L16 f) m x2_7 x3_8 S_5))) else some (nI j, S_5))) := by
      rw [f_X5_stateBehind_L16, if_neg (by rw [k_150, nI_leI (by omega) (by omega)]; omega), if_neg (by rw [k_0, nI_leI (by omega) (by omega)]; omega)]
    rw [e0]
    rcases hasSets_eq (S := S) (m := m) (P := P) (j := j) (by omega) hP h2 with ⟨y1, y2⟩ | ⟨y1, y2⟩
    · refine ⟨nI j, ?_, Or.inl ⟨j, by simp, y2, rfl⟩⟩
      rw [y1, bd2_some, if_neg n10]
    · obtain ⟨r, u1, u2⟩ := ih (S.1 16 j) (t + 1) f j h5 (by omega) (by omega) (by omega)
      refine ⟨r, ?_, ?_⟩
      · rw [y1, bd2_some, if_pos rfl, ck_nI (by omega) (by decide), nI_clamp (by omega), vl_d, nI_1, vl_d, u1]
      · rcases u2 with ⟨i, i1, i2, i3⟩ | ⟨i1, i2⟩
        · exact Or.inl ⟨i, by simp [i1], i2, i3⟩
        · refine Or.inr ⟨fun i hi => ?_, i2⟩
          rcases List.mem_cons.mp hi with z | z
          · subst z; exact y2
          · exact i1 i z
/-- the class's buckets: by state, in one of them -/
def bkt (S : Sg) (m P N : Nat) : Prop := ∀ b, b < 64 → ∃ l, chn S N (S.1 15 b) l ∧ ∀ j, j ∈ l ↔ (1 ≤ j ∧ j < N ∧ hb (fun p => S.1 (m + 3) (6 * j + p)) P = nI b)
theorem stateBehind_eq {S : Sg} (hP : P ≤ 6) (hN : 1 ≤ N) (hN2 : N ≤ 150) (h0 : S.1 m 0 = nI N) (h2 : S.1 m 2 = nI P) (hk : bkt S m P N) : ∃ r, f_X5_stateBehind m S = some (nI r, S) ∧ ((1 ≤ r ∧ r < N ∧ sameC S m P r) ∨ (r = N ∧ ∀ j, 1 ≤ j → j < N → ¬ sameC S m P j)) := by
  obtain ⟨b, hb1, hb2⟩ := hb_lt (S.1 14) P
  obtain ⟨l, hl1, hl2⟩ := hk b hb1
  have hlen := chn_len l N _ hN hl1
  obtain ⟨r, u1, u2⟩ := stB_loop hP h2 l (S.1 15 b) 0 fu N hl1 hN2 (by omega) (by unfold fu; omega)
  have e : f_X5_stateBehind m S = some (r, S) := by
    unfold f_X5_stateBehind
    rw [h2, bucket_eq hP, bd2_some, hb2, ck_nI hb1 (by decide), nI_clamp (by omega), vl_d, vl_d, k_0, u1]
  rcases u2 with ⟨j, j1, j2, rfl⟩ | ⟨j1, j2⟩
  · have := (hl2 j).mp j1
    exact ⟨j, e, Or.inl ⟨this.1, this.2.1, j2⟩⟩
  · refine ⟨N, by rw [e, j2, h0], Or.inr ⟨rfl, fun j h1 h3 h4 => ?_⟩⟩
    refine j1 j ((hl2 j).mpr ⟨h1, h3, ?_⟩) h4
    rw [← hb2]
    exact hb_cg h4
abbrev sameT (T : Sg) (s P j : Nat) : Prop := ∀ p, p < P → T.1 50 (6 * (150 * s + j) + p) = T.1 66 p
theorem fnd13 {T : Sg} {K : Int32 → Int32 → Int32 → Sg → Option (Int32 × Sg)} {j : Nat} (hs : s < 4) (hj : j < 150) (hP : P ≤ 6) (h6 : T.1 34 6 = nI P) : ∀ (r p fl : Nat) (b : Bool), p + r = P → r + 1 ≤ fl → (b = true ↔ ∀ q, q < p → T.1 50 (6 * (150 * s + j) + q) = T.1 66 q) → (f_X10_find_L13 K fl (nI s) (nI N) (nI j) (bI b) (nI p) T = some (nI j, T) ∧ sameT T s P j) ∨ (f_X10_find_L13 K fl (nI s) (nI N) (nI j) (bI b) (nI p) T = K (nI s) (nI N) (nI (j + 1)) T ∧ ¬ sameT T s P j) := by
  intro r
  induction r with
  | zero =>
    intro p fl b hp hfl hb
    obtain ⟨f, rfl⟩ : ∃ f, fl = f + 1 := ⟨fl - 1, by omega⟩
    have e : p = P := by omega
    subst e
    rw [f_X10_find_L13, h6, if_pos (by rw [nI_leI (by omega) (by omega)]; omega)]
    cases b with
    | true => rw [if_neg (show ¬ bI true = 0 by decide)]; exact Or.inl ⟨rfl, hb.mp rfl⟩
    | false => rw [if_pos (show bI false = 0 by decide), nI_1, vl_d]; exact Or.inr ⟨rfl, fun z => absurd (hb.mpr z) (by decide)⟩
  | succ r ih =>
    intro p fl b hp hfl hb
    obtain ⟨f, rfl⟩ : ∃ f, fl = f + 1 := ⟨fl - 1, by omega⟩
    have e0 : f_X10_find_L13 K (f + 1) (nI s) (nI N) (nI j) (bI b) (nI p) T = f_X10_find_L13 K f (nI s) (nI N) (nI j) (bI (b && decide (T.1 50 (6 * (150 * s + j) + p) = T.1 66 p))) (nI (p + 1)) T := by
      rw [f_X10_find_L13, h6, if_neg (by rw [nI_leI (by omega) (by omega)]; omega), ixM6, nI_clamp (by omega), nI_clamp (by omega), nI_1]
      cases b with
      | false => rw [if_pos (show bI false = 0 by decide), vl_d, vl_d]; rfl
      | true =>
        rw [if_neg (show ¬ bI true = 0 by decide), ck_nI (by omega) (by decide), ck_nI (by omega) (by decide)]
        by_cases e : T.1 50 (6 * (150 * s + j) + p) = T.1 66 p
        · rw [if_pos e, vl_d, vl_d, decide_eq_true e]; rfl
        · rw [if_neg e, vl_d, vl_d, decide_eq_false e]; rfl
    rw [e0]
    refine ih (p + 1) f _ (by omega) (by omega) ?_
    rw [Bool.and_eq_true, decide_eq_true_eq, hb]
    constructor
    · rintro ⟨z1, z2⟩ q hq
      by_cases e : q = p
      · subst e; exact z2
      · exact z1 q (by omega)
    · intro z
      exact ⟨fun q hq => z q (by omega), z p (by omega)⟩
theorem findT_eq {T : Sg} (hs : s < 4) (hN : 1 ≤ N) (hN2 : N ≤ 150) (hP : P ≤ 6) (h6 : T.1 34 6 = nI P) : (∃ j, 1 ≤ j ∧ j < N ∧ sameT T s P j ∧ f_X10_find (nI s) (nI N) T = some (nI j, T)) ∨ ((∀ j, 1 ≤ j → j < N → ¬ sameT T s P j) ∧ f_X10_find (nI s) (nI N) T = some (-1, T)) := by
  have loop : ∀ r j fl, j + r = N → 1 ≤ j → r + 1 ≤ fl → (∀ i, 1 ≤ i → i < j → ¬ sameT T s P i) → (∃ i, 1 ≤ i ∧ i < N ∧ sameT T s P i ∧ f_X10_find_L2 fl (nI s) (nI N) (nI j) T = some (nI i, T)) ∨ ((∀ i, 1 ≤ i → i < N → ¬ sameT T s P i) ∧ f_X10_find_L2 fl (nI s) (nI N) (nI j) T = some (-1, T)) := by
    intro r
    induction r with
    | zero =>
      intro j fl hj h1 hfl h
      obtain ⟨f, rfl⟩ : ∃ f, fl = f + 1 := ⟨fl - 1, by omega⟩
      refine Or.inr ⟨fun i i1 i2 => h i i1 (by omega), ?_⟩
      rw [f_X10_find_L2, if_pos (by rw [nI_leI (by omega) (by omega)]; omega)]
    | succ r ih =>
      intro j fl hj h1 hfl h
      obtain ⟨f, rfl⟩ : ∃ f, fl = f + 1 := ⟨fl - 1, by omega⟩
      rw [f_X10_find_L2, if_neg (by rw [nI_leI (by omega) (by omega)]; omega), vl_d, vl_d]
      rcases fnd13 (T := T) (N := N) (K := f_X10_find_L2 f) (j := j) hs (by omega) hP h6 P 0 fu true (by omega) (by unfold fu; omega) ⟨fun _ q hq => absurd hq (by omega), fun _ => rfl⟩ with ⟨y1, y2⟩ | ⟨y1, y2⟩
      · exact Or.inl ⟨j, h1, by omega, y2, y1⟩
      · have y1' : f_X10_find_L13 (f_X10_find_L2 f) fu (nI s) (nI N) (nI j) 1 0 T = f_X10_find_L2 f (nI s) (nI N) (nI (j + 1)) T := y1
        rw [y1']
        refine ih (j + 1) f (by omega) (by omega) (by omega) (fun i i1 i2 => ?_)
        by_cases e : i = j
        · subst e; exact y2
        · exact h i i1 (by omega)
  unfold f_X10_find
  rw [vl_d, k_1]
  exact loop (N - 1) 1 fu (by omega) (by omega) (by unfold fu; omega) (fun i i1 i2 => absurd i2 (by omega))
end FIND
