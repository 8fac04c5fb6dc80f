def tkw (f : Nat → Bool) : Nat → Nat
  | 0 => 0
  | p + 1 => tkw f p + (if f p = true then 2 ^ p else 0)
theorem tkw_lt (f : Nat → Bool) : ∀ P, tkw f P < 2 ^ P := by
  intro P
  induction P with
  | zero => show 0 < 1; decide
  | succ P ih =>
    show tkw f P + (if f P = true then 2 ^ P else 0) < 2 ^ (P + 1)
    rw [Nat.pow_succ]
    by_cases h : f P = true
    · rw [if_pos h]; omega
    · rw [if_neg h]; omega
theorem tkw_64 (f : Nat → Bool) {P : Nat} (hP : P ≤ 6) : tkw f P < 64 := Nat.lt_of_lt_of_le (tkw_lt f P) (Nat.le_trans (Nat.pow_le_pow_right (by decide) hP) (by decide))
theorem tk_or : ∀ p, p < 6 → ∀ w, w < 2 ^ p → nI w ||| ((1 : Int32) <<< (nI p &&& 31)) = nI (w + 2 ^ p) := by decide +kernel
theorem tk_bit : ∀ p, p < 6 → ∀ w, w < 2 ^ p → ∀ q, q < 6 → (w + 2 ^ p).testBit q = (decide (q = p) || w.testBit q) := by decide +kernel
theorem tk_hi : ∀ p, p < 6 → ∀ w, w < 2 ^ p → w.testBit p = false := by decide +kernel
theorem tkw_bit (f : Nat → Bool) : ∀ P, P ≤ 6 → ∀ q, q < 6 → (tkw f P).testBit q = (decide (q < P) && f q) := by
  intro P
  induction P with
  | zero => intro _ q _; rw [decide_eq_false (by omega), Bool.false_and]; show (0 : Nat).testBit q = false; simp
  | succ P ih =>
    intro hP q hq
    have h := ih (by omega) q hq
    have hl := tkw_lt f P
    show (tkw f P + (if f P = true then 2 ^ P else 0)).testBit q = _
    by_cases hf : f P = true
    · rw [if_pos hf, tk_bit P (by omega) _ hl q hq, h]
      by_cases e : q = P
      · subst e; rw [decide_eq_true rfl, decide_eq_true (by omega : q < q + 1), hf]; rfl
      · rw [decide_eq_false e, Bool.false_or]
        by_cases e2 : q < P
        · rw [decide_eq_true e2, decide_eq_true (by omega)]
        · rw [decide_eq_false e2, decide_eq_false (by omega)]
    · rw [if_neg hf, Nat.add_zero, h]
      by_cases e : q = P
      · subst e; rw [decide_eq_false (by omega : ¬ q < q), decide_eq_true (by omega : q < q + 1), Bool.false_and, Bool.true_and]
        cases hh : f q with
        | true => exact absurd hh hf
        | false => rfl
      · by_cases e2 : q < P
        · rw [decide_eq_true e2, decide_eq_true (by omega)]
        · rw [decide_eq_false e2, decide_eq_false (by omega)]
theorem tkw_cg {f g : Nat → Bool} : ∀ P, (∀ p, p < P → f p = g p) → tkw f P = tkw g P := by
  intro P
  induction P with
  | zero => intro _; rfl
  | succ P ih =>
    intro h
    show tkw f P + (if f P = true then 2 ^ P else 0) = tkw g P + (if g P = true then 2 ^ P else 0)
    rw [ih (fun p hp => h p (by omega)), h P (by omega)]
section ADDST
variable {m s P N : Nat}
def tkN (S : Sg) (N : Nat) (p : Nat) : Bool := if N = 0 then decide (S.1 9 p = 1) else decide (¬ (S.1 14 p &&& S.1 8 p = 0))
theorem adstL {S : Sg} {pl : Nat} (hm : 79 ≤ m) (hN : N < 150) (hP : P ≤ 6) (h5 : S.1 5 0 = nI P) (h9 : ∀ p, p < P → ∃ e : Bool, S.1 9 p = bI e) : ∀ (r p fl : Nat) (Z : Sg), p + r = P → r + 1 ≤ fl → Z.2 = S.2 → (∀ id, id ≠ m + 3 → Z.1 id = S.1 id) → (∀ j, Z.1 (m + 3) j = if 6 * N ≤ j ∧ j < 6 * N + p then S.1 14 (j - 6 * N) else S.1 (m + 3) j) → ∃ Z', f_X5_addState_L22 fl m (nI pl) (nI N) (nI (tkw (tkN S N) p)) (nI p) Z = f_X5_addState_L140 m (nI pl) (nI N) (bI (bJ (S.2.1 5 1) (tkw (tkN S N) P))) (nI N) m Z' ∧ Z'.2 = S.2 ∧ (∀ id, id ≠ m + 3 → Z'.1 id = S.1 id) ∧ ∀ j, Z'.1 (m + 3) j = if 6 * N ≤ j ∧ j < 6 * N + P then S.1 14 (j - 6 * N) else S.1 (m + 3) j := by
  intro r
  induction r with
  | zero =>
    intro p fl Z hp hfl z1 z2 z3
    obtain ⟨f, rfl⟩ : ∃ f, fl = f + 1 := ⟨fl - 1, by omega⟩
    have e : p = P := by omega
    subst e
    refine ⟨Z, ?_, z1, z2, z3⟩
    rw [f_X5_addState_L22, z2 5 (by omega), h5, if_pos (by rw [nI_leI (by omega) (by omega)]; omega), z1]
    cases hb : bJ (S.2.1 5 1) (tkw (tkN S N) p) with
    | false => rw [if_pos ((bJ_test _ (tkw_64 _ hP)).mpr hb)]; rfl
    | true => rw [if_neg (fun z => by rw [(bJ_test _ (tkw_64 _ hP)).mp z] at hb; exact absurd hb (by decide))]; rfl
  | succ r ih =>
    intro p fl Z hp hfl z1 z2 z3
    obtain ⟨f, rfl⟩ : ∃ f, fl = f + 1 := ⟨fl - 1, by omega⟩
    obtain ⟨Z', u1, u2⟩ := ih (p + 1) f (sI Z (m + 3) (6 * N + p) (S.1 14 p)) (by omega) (by omega) z1 (fun id hid => by rw [sI_id _ _ _ hid]; exact z2 id hid) (fun j => by
      by_cases e : j = 6 * N + p
      · subst e; rw [sI_at, if_pos (by omega), Nat.add_sub_cancel_left]
      · rw [sI_ne _ _ (Or.inr e), z3 j]
        by_cases e2 : 6 * N ≤ j ∧ j < 6 * N + p
        · rw [if_pos e2, if_pos (by omega)]
        · rw [if_neg e2, if_neg (by omega)])
    refine ⟨Z', ?_, u2⟩
    have L89 : ∀ (b : Bool) (K : Nat → Int32 → Int32 → Int32 → Int32 → Sg → Option (Int32 × Sg)) (Y : Sg), b = tkN S N p → f_X5_addState_L89 K m (nI pl) (nI N) (nI (tkw (tkN S N) p)) (nI p) (bI b) Y = K m (nI pl) (nI N) (nI (tkw (tkN S N) (p + 1))) (nI (p + 1)) Y := by
      intro b K Y hb
      unfold f_X5_addState_L89
      rw [vl_d]
      show _ = K m (nI pl) (nI N) (nI (tkw (tkN S N) p + (if tkN S N p = true then 2 ^ p else 0))) (nI (p + 1)) Y
      rw [← hb]
      cases b with
      | true => rw [if_neg (show ¬ bI true = 0 by decide), tk_or p (by omega) _ (tkw_lt _ p), vl_d, nI_1, vl_d, if_pos rfl]
      | false => rw [if_pos (show bI false = 0 by decide), or_0, vl_d, nI_1, vl_d, if_neg (by decide)]; rfl
    rw [← u1, f_X5_addState_L22, z2 5 (by omega), h5, if_neg (by rw [nI_leI (by omega) (by omega)]; omega), ck_nI (by omega) (by decide), ixC6, ck_nI (by omega) (by decide), nI_clamp (by omega), nI_clamp (by omega), z2 14 (by omega), vl_d]
    have y : ∀ id, id ≠ m + 3 → (sI Z (m + 3) (6 * N + p) (S.1 14 p)).1 id = S.1 id := fun id hid => by rw [sI_id _ _ _ hid]; exact z2 id hid
    rw [y 9 (by omega), y 14 (by omega), y 8 (by omega)]
    by_cases h0 : N = 0
    · obtain ⟨e, he⟩ := h9 p (by omega)
      rw [if_pos (by rw [h0]; rfl), ck_nI (by omega) (by decide), he]
      refine L89 e _ _ ?_
      unfold tkN
      rw [if_pos h0, he]
      cases e <;> decide
    · rw [if_neg (by rw [k_0, nI_eq (by omega) (by omega)]; exact h0), ck_nI (by omega) (by decide), ck_nI (by omega) (by decide)]
      by_cases hz : S.1 14 p &&& S.1 8 p = 0
      · rw [if_pos hz]
        refine L89 false _ _ ?_
        unfold tkN
        rw [if_neg h0, decide_eq_false (fun q => q hz)]
      · rw [if_neg hz]
        refine L89 true _ _ ?_
        unfold tkN
        rw [if_neg h0, decide_eq_true hz]
def added (m P N pl : Nat) (S S' : Sg) : Prop := S'.2 = S.2 ∧ (∀ id, id ≠ m → id ≠ m + 2 → id ≠ m + 3 → id ≠ m + 4 → id ≠ 15 → id ≠ 16 → S'.1 id = S.1 id) ∧ (S'.1 m 0 = nI (N + 1) ∧ ∀ b, b ≠ 0 → S'.1 m b = S.1 m b) ∧ (∀ j, S'.1 (m + 2) j = if j = N then nI pl else S.1 (m + 2) j) ∧ (∀ j, S'.1 (m + 3) j = if 6 * N ≤ j ∧ j < 6 * N + P then S.1 14 (j - 6 * N) else S.1 (m + 3) j) ∧ (∀ j, S'.1 (m + 4) j = if j = N then bI (bJ (S.2.1 5 1) (tkw (tkN S N) P)) else S.1 (m + 4) j) ∧ (N = 0 → S'.1 15 = S.1 15 ∧ S'.1 16 = S.1 16) ∧ (N ≠ 0 → ∃ b, b < 64 ∧ hb (S.1 14) P = nI b ∧ (∀ j, S'.1 15 j = if j = b then nI N else S.1 15 j) ∧ ∀ j, S'.1 16 j = if j = N then S.1 15 b else S.1 16 j)
theorem addState_eq {S : Sg} {pl : Nat} (hm : 79 ≤ m) (hN : N < 150) (hP : P ≤ 6) (h0 : S.1 m 0 = nI N) (h5 : S.1 5 0 = nI P) (h9 : ∀ p, p < P → ∃ e : Bool, S.1 9 p = bI e) : ∃ S', f_X5_addState m (nI pl) S = some (1, S') ∧ added m P N pl S S' := by
  obtain ⟨Z, u1, u2, u3, u4⟩ := adstL (pl := pl) hm hN hP h5 h9 P 0 fu S (by omega) (by unfold fu; omega) rfl (fun _ _ => rfl) (fun j => by rw [if_neg (by omega)])
  let A : Sg := sI (sI (sI Z (m + 4) N (bI (bJ (S.2.1 5 1) (tkw (tkN S N) P)))) (m + 2) N (nI pl)) m 0 (nI (N + 1))
  have aid : ∀ id, id ≠ m → id ≠ m + 2 → id ≠ m + 4 → A.1 id = Z.1 id := fun id i1 i2 i3 => by
    show (sI (sI (sI Z (m + 4) N _) (m + 2) N (nI pl)) m 0 (nI (N + 1))).1 id = _
    rw [sI_id _ _ _ i1, sI_id _ _ _ i2, sI_id _ _ _ i3]
  have am : ∀ b, b ≠ 0 → A.1 m b = S.1 m b := fun b hb => by
    show (sI (sI (sI Z (m + 4) N _) (m + 2) N (nI pl)) m 0 (nI (N + 1))).1 m b = _
    rw [sI_ne _ _ (Or.inr hb), sI_id _ _ _ (by omega), sI_id _ _ _ (by omega), u3 m (by omega)]
  have a2 : ∀ j, A.1 (m + 2) j = if j = N then nI pl else S.1 (m + 2) j := fun j => by
    show (sI (sI (sI Z (m + 4) N _) (m + 2) N (nI pl)) m 0 (nI (N + 1))).1 (m + 2) j = _
    rw [sI_id _ _ _ (by omega)]
    by_cases e : j = N
    · rw [if_pos e, e, sI_at]
    · rw [if_neg e, sI_ne _ _ (Or.inr e), sI_id _ _ _ (by omega), u3 (m + 2) (by omega)]
  have a4 : ∀ j, A.1 (m + 4) j = if j = N then bI (bJ (S.2.1 5 1) (tkw (tkN S N) P)) else S.1 (m + 4) j := fun j => by
    show (sI (sI (sI Z (m + 4) N _) (m + 2) N (nI pl)) m 0 (nI (N + 1))).1 (m + 4) j = _
    rw [sI_id _ _ _ (by omega), sI_id _ _ _ (by omega)]
    by_cases e : j = N
    · rw [if_pos e, e, sI_at]
    · rw [if_neg e, sI_ne _ _ (Or.inr e), u3 (m + 4) (by omega)]
  have hd : f_X5_addState m (nI pl) S = if N = 0 then some (1, A) else bd2 (f_X5_bucketBehind (nI P) A) (fun r_8 S_7 => vl r_8 (fun x6_9 => ck x6_9 64 (ck (nI N) 150 (vl (sI S_7 16 N ((S_7.1 15 (Int32.toNatClampNeg x6_9)))) (fun S_10 => ck x6_9 64 (vl (sI S_10 15 (Int32.toNatClampNeg x6_9) (nI N)) (fun S_11 => some ((1 : Int32), S_11)))))))) := by
    unfold f_X5_addState
    rw [h0, vl_d, if_pos (by rw [k_150, nI_ltI (by omega) (by omega)]; omega), vl_d, vl_d]
    have u1' : f_X5_addState_L22 fu m (nI pl) (nI N) 0 0 S = f_X5_addState_L140 m (nI pl) (nI N) (bI (bJ (S.2.1 5 1) (tkw (tkN S N) P))) (nI N) m Z := u1
    rw [u1']
    unfold f_X5_addState_L140
    rw [ck_nI hN (by decide), nI_clamp (by omega), nar_b, vl_d, ck_nI hN (by decide), vl_d, nI_1, vl_d]
    show (if nI N ≤ 0 then some ((1 : Int32), A) else bd2 (f_X5_bucketBehind (A.1 5 0) A) _) = _
    by_cases e : N = 0
    · rw [if_pos (by rw [e]; decide), if_pos e]
    · rw [if_neg (by rw [k_0, nI_leI (by omega) (by omega)]; omega), if_neg e, aid 5 (by omega) (by omega) (by omega), u3 5 (by omega), h5]
  rw [hd]
  by_cases e : N = 0
  · rw [if_pos e]
    refine ⟨A, rfl, u2, fun id i1 i2 i3 i4 _ _ => by rw [aid id i1 i2 i4, u3 id i3], ⟨sI_at _ _ _ _, am⟩, a2, fun j => by rw [aid (m + 3) (by omega) (by omega) (by omega), u4 j], a4, fun _ => ⟨by rw [aid 15 (by omega) (by omega) (by omega), u3 15 (by omega)], by rw [aid 16 (by omega) (by omega) (by omega), u3 16 (by omega)]⟩, fun z => absurd e z⟩
  · rw [if_neg e]
    have e14 : A.1 14 = S.1 14 := by rw [aid 14 (by omega) (by omega) (by omega), u3 14 (by omega)]
    have e15 : A.1 15 = S.1 15 := by rw [aid 15 (by omega) (by omega) (by omega), u3 15 (by omega)]
    have e16 : A.1 16 = S.1 16 := by rw [aid 16 (by omega) (by omega) (by omega), u3 16 (by omega)]
    obtain ⟨b, hb1, hb2⟩ := hb_lt (S.1 14) P
    have bid : ∀ id, id ≠ 15 → id ≠ 16 → (sI (sI A 16 N (S.1 15 b)) 15 b (nI N)).1 id = A.1 id := fun id i1 i2 => by rw [sI_id _ _ _ i1, sI_id _ _ _ i2]
    refine ⟨sI (sI A 16 N (S.1 15 b)) 15 b (nI N), ?_, u2, fun id i1 i2 i3 i4 i5 i6 => by rw [bid id i5 i6, aid id i1 i2 i4, u3 id i3], ⟨by rw [bid m (by omega) (by omega)]; exact sI_at _ _ _ _, fun c hc => by rw [bid m (by omega) (by omega)]; exact am c hc⟩, fun j => by rw [bid _ (by omega) (by omega)]; exact a2 j, fun j => by rw [bid _ (by omega) (by omega), aid (m + 3) (by omega) (by omega) (by omega), u4 j], fun j => by rw [bid _ (by omega) (by omega)]; exact a4 j, fun z => absurd z e, fun _ => ⟨b, hb1, hb2, fun j => ?_, fun j => ?_⟩⟩
    · rw [bucket_eq hP, bd2_some, vl_d, e14, hb2, ck_nI hb1 (by decide), ck_nI hN (by decide), nI_clamp (by omega), e15, vl_d, ck_nI hb1 (by decide), vl_d]
    · by_cases z : j = b
      · rw [if_pos z, z, sI_at]
      · rw [if_neg z, sI_ne _ _ (Or.inr z), sI_id _ _ _ (by decide), e15]
    · rw [sI_id _ _ _ (by decide)]
      by_cases z : j = N
      · rw [if_pos z, z, sI_at]
      · rw [if_neg z, sI_ne _ _ (Or.inr z), e16]
theorem added_set {S S' : Sg} {pl j p : Nat} (h : added m P N pl S S') (hp : p < P) (hP : P ≤ 6) : S'.1 (m + 3) (6 * j + p) = if j = N then S.1 14 p else S.1 (m + 3) (6 * j + p) := by
  rw [h.2.2.2.2.1]
  by_cases e : j = N
  · rw [if_pos (by omega), if_pos e, e, Nat.add_sub_cancel_left]
  · rw [if_neg e, if_neg (by omega)]
theorem bkt_add {S S' : Sg} {pl : Nat} (hP : P ≤ 6) (hN : 1 ≤ N) (hN2 : N < 150) (h : added m P N pl S S') (hk : bkt S m P N) : bkt S' m P (N + 1) := by
  obtain ⟨b, b1, b2, b3, b4⟩ := h.2.2.2.2.2.2.2 (by omega)
  have hold : ∀ j, j < N → hb (fun p => S'.1 (m + 3) (6 * j + p)) P = hb (fun p => S.1 (m + 3) (6 * j + p)) P := fun j hj => hb_cg (fun p hp => by rw [added_set h hp hP, if_neg (by omega)])
  have hnew : hb (fun p => S'.1 (m + 3) (6 * N + p)) P = nI b := by
    rw [← b2]
    exact hb_cg (fun p hp => by rw [added_set h hp hP, if_pos rfl])
  intro c hc
  obtain ⟨l, l1, l2⟩ := hk c hc
  have lf : chn S' N (S.1 15 c) l := chn_f l N _ (fun j hj => by rw [b4 j, if_neg (by omega)]) l1
  by_cases e : c = b
  · subst e
    refine ⟨N :: l, ⟨by rw [b3, if_pos rfl], hN, by omega, by rw [b4, if_pos rfl]; exact lf⟩, fun j => ?_⟩
    rw [List.mem_cons]
    constructor
    · intro z
      rcases z with z | z
      · subst z; exact ⟨hN, by omega, hnew⟩
      · have q := (l2 j).mp z
        exact ⟨q.1, by omega, by rw [hold j q.2.1]; exact q.2.2⟩
    · intro z
      by_cases ej : j = N
      · exact Or.inl ej
      · exact Or.inr ((l2 j).mpr ⟨z.1, by omega, by rw [← hold j (by omega)]; exact z.2.2⟩)
  · refine ⟨l, by rw [b3, if_neg e]; exact chn_up (by omega) lf, fun j => ?_⟩
    constructor
    · intro z
      have q := (l2 j).mp z
      exact ⟨q.1, by omega, by rw [hold j q.2.1]; exact q.2.2⟩
    · intro z
      by_cases ej : j = N
      · subst ej
        rw [hnew, nI_eq (by omega) (by omega)] at z
        exact absurd z.2.2.symm e
      · exact (l2 j).mpr ⟨z.1, by omega, by rw [← hold j (by omega)]; exact z.2.2⟩
/-- the reference: a new state -/
theorem bl97 {K : Int32 → Int32 → Int32 → Int32 → Int32 → Sg → Option (Int32 × Sg)} {T : Sg} {N2 k x : Nat} (hs : s < 4) (hN : N < 150) (hP : P ≤ 6) (h6 : T.1 34 6 = nI P) : ∃ T', f_X10_builds_L97 K fu (nI s) (nI N2) (nI k) (nI x) (nI N) 0 T = K (nI s) (nI N2) (nI k) (nI x) (nI N) T' ∧ T'.2 = T.2 ∧ (∀ id, id ≠ 50 → id ≠ 52 → id ≠ 53 → T'.1 id = T.1 id) ∧ (∀ j, T'.1 50 j = if 6 * (150 * s + N) ≤ j ∧ j < 6 * (150 * s + N) + 6 then (if j - 6 * (150 * s + N) < P then T.1 66 (j - 6 * (150 * s + N)) else 0) else T.1 50 j) ∧ (∀ j, T'.1 52 j = if j = 150 * s + N then nI k else T.1 52 j) ∧ ∀ j, T'.1 53 j = if j = 150 * s + N then nI x else T.1 53 j := by
  have loop : ∀ r p fl (Z : Sg), p + r = 6 → r + 1 ≤ fl → Z.2 = T.2 → (∀ id, id ≠ 50 → Z.1 id = T.1 id) → (∀ j, Z.1 50 j = if 6 * (150 * s + N) ≤ j ∧ j < 6 * (150 * s + N) + p then (if j - 6 * (150 * s + N) < P then T.1 66 (j - 6 * (150 * s + N)) else 0) else T.1 50 j) → ∃ T', f_X10_builds_L97 K fl (nI s) (nI N2) (nI k) (nI x) (nI N) (nI p) Z = K (nI s) (nI N2) (nI k) (nI x) (nI N) T' ∧ T'.2 = T.2 ∧ (∀ id, id ≠ 50 → id ≠ 52 → id ≠ 53 → T'.1 id = T.1 id) ∧ (∀ j, T'.1 50 j = if 6 * (150 * s + N) ≤ j ∧ j < 6 * (150 * s + N) + 6 then (if j - 6 * (150 * s + N) < P then T.1 66 (j - 6 * (150 * s + N)) else 0) else T.1 50 j) ∧ (∀ j, T'.1 52 j = if j = 150 * s + N then nI k else T.1 52 j) ∧ ∀ j, T'.1 53 j = if j = 150 * s + N then nI x else T.1 53 j := by
    intro r
    induction r with
    | zero =>
      intro p fl Z hp hfl z1 z2 z3
      obtain ⟨f, rfl⟩ : ∃ f, fl = f + 1 := ⟨fl - 1, by omega⟩
      have e : p = 6 := by omega
      subst e
      refine ⟨sI (sI Z 52 (150 * s + N) (nI k)) 53 (150 * s + N) (nI x), ?_, z1, fun id i1 i2 i3 => by rw [sI_id _ _ _ i3, sI_id _ _ _ i2]; exact z2 id i1, fun j => by rw [sI_id _ _ _ (by decide), sI_id _ _ _ (by decide)]; exact z3 j, fun j => ?_, fun j => ?_⟩
      · rw [f_X10_builds_L97, k_6, if_pos (by rw [nI_leI (by omega) (by omega)]; omega), ixM, ck_nI (by omega) (by decide), nI_clamp (by omega), vl_d, ck_nI (by omega) (by decide), vl_d]
      · rw [sI_id _ _ _ (by decide)]
        by_cases e : j = 150 * s + N
        · rw [if_pos e, e, sI_at]
        · rw [if_neg e, sI_ne _ _ (Or.inr e), z2 52 (by decide)]
      · by_cases e : j = 150 * s + N
        · rw [if_pos e, e, sI_at]
        · rw [if_neg e, sI_ne _ _ (Or.inr e), sI_id _ _ _ (by decide), z2 53 (by decide)]
    | succ r ih =>
      intro p fl Z hp hfl z1 z2 z3
      obtain ⟨f, rfl⟩ : ∃ f, fl = f + 1 := ⟨fl - 1, by omega⟩
      obtain ⟨T', u1, u2⟩ := ih (p + 1) f (sI Z 50 (6 * (150 * s + N) + p) (if p < P then T.1 66 p else 0)) (by omega) (by omega) z1 (fun id hid => by rw [sI_id _ _ _ hid]; exact z2 id hid) (fun j => by
        by_cases e : j = 6 * (150 * s + N) + p
        · subst e; rw [sI_at, if_pos (by omega : 6 * (150 * s + N) ≤ 6 * (150 * s + N) + p ∧ 6 * (150 * s + N) + p < 6 * (150 * s + N) + (p + 1)), Nat.add_sub_cancel_left]
        · rw [sI_ne _ _ (Or.inr e), z3 j]
          by_cases e2 : 6 * (150 * s + N) ≤ j ∧ j < 6 * (150 * s + N) + p
          · rw [if_pos e2, if_pos (by omega : 6 * (150 * s + N) ≤ j ∧ j < 6 * (150 * s + N) + (p + 1))]
          · rw [if_neg e2, if_neg (by omega : ¬ (6 * (150 * s + N) ≤ j ∧ j < 6 * (150 * s + N) + (p + 1)))])
      refine ⟨T', ?_, u2⟩
      rw [← u1, f_X10_builds_L97, k_6, if_neg (by rw [nI_leI (by omega) (by omega)]; omega), z2 34 (by decide), h6, ← k_6, ixM6, nI_1, nI_clamp (by omega)]
      by_cases e : p < P
      · rw [if_neg (by rw [nI_leI (by omega) (by omega)]; omega), ck_nI (by omega) (by decide), ck_nI (by omega) (by decide), nI_clamp (by omega), z2 66 (by decide), vl_d, vl_d, if_pos e]
      · rw [if_pos (by rw [nI_leI (by omega) (by omega)]; omega), ck_nI (by omega) (by decide), vl_d, vl_d, if_neg e]
  exact loop 6 0 fu T (by omega) (by unfold fu; omega) rfl (fun _ _ => rfl) (fun j => by rw [if_neg (by omega)])
end ADDST
