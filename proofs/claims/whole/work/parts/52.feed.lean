def bt (x : Int32) (i : Nat) : Bool := x.toBitVec.getLsbD i
theorem b_ext {x y : Int32} (h : ∀ i, i < 32 → bt x i = bt y i) : x = y := Int32.toBitVec_inj.mp (BitVec.eq_of_getLsbD_eq (fun i hi => h i hi))
theorem b_or (x y : Int32) (i : Nat) : bt (x ||| y) i = (bt x i || bt y i) := by unfold bt; rw [Int32.toBitVec_or, BitVec.getLsbD_or]
theorem b_and (x y : Int32) (i : Nat) : bt (x &&& y) i = (bt x i && bt y i) := by unfold bt; rw [Int32.toBitVec_and, BitVec.getLsbD_and]
theorem b_big {x : Int32} {i : Nat} (h : 32 ≤ i) : bt x i = false := BitVec.getLsbD_of_ge _ _ h
theorem b_255 (i : Nat) : bt 255 i = decide (i < 8) := by
  rcases Nat.lt_or_ge i 32 with h | h
  · exact (by decide +kernel : ∀ i, i < 32 → bt 255 i = decide (i < 8)) i h
  · rw [b_big h, decide_eq_false (by omega)]
theorem b_m1 : ∀ i, i < 32 → bt (-1) i = true := by decide +kernel
theorem b_0 (i : Nat) : bt 0 i = false := BitVec.getLsbD_zero
theorem s_l : ∀ n, n < 32 → ((nI n &&& 31).toBitVec.smod 32).toNat = n := by decide +kernel
theorem s_u : ∀ n, n < 32 → (((nI n).toUInt32 &&& Int32.toUInt32 31).toBitVec % 32).toNat = n := by decide +kernel
theorem b_shl (n : Nat) (hn : n < 32) (x : Int32) {i : Nat} (hi : i < 32) : bt (x <<< (nI n &&& 31)) i = (decide (n ≤ i) && bt x (i - n)) := by
  unfold bt
  rw [Int32.toBitVec_shiftLeft]
  show (x.toBitVec <<< ((nI n &&& 31).toBitVec.smod 32).toNat).getLsbD i = _
  rw [s_l n hn, BitVec.getLsbD_shiftLeft]
  rcases Nat.lt_or_ge i n with h | h
  · simp [h, Nat.not_le.mpr h]
  · simp [hi, h, Nat.not_lt.mpr h]
theorem b_ushr (n : Nat) (hn : n < 32) (x : Int32) (i : Nat) : bt ((x.toUInt32 >>> ((nI n).toUInt32 &&& Int32.toUInt32 31)).toInt32) i = bt x (n + i) := by
  show (x.toUInt32 >>> ((nI n).toUInt32 &&& Int32.toUInt32 31)).toBitVec.getLsbD i = x.toUInt32.toBitVec.getLsbD (n + i)
  rw [UInt32.toBitVec_shiftRight]
  show (x.toUInt32.toBitVec >>> (((nI n).toUInt32 &&& Int32.toUInt32 31).toBitVec % 32).toNat).getLsbD i = _
  rw [s_u n hn, BitVec.getLsbD_ushiftRight]
theorem b_sshr (n : Nat) (hn : n < 32) (x : Int32) {i : Nat} (hi : i < 32) : bt (x >>> (nI n &&& 31)) i = if n + i < 32 then bt x (n + i) else bt x 31 := by
  unfold bt
  rw [Int32.toBitVec_shiftRight]
  show (x.toBitVec.sshiftRight ((nI n &&& 31).toBitVec.smod 32).toNat).getLsbD i = _
  rw [s_l n hn, BitVec.getLsbD_sshiftRight, BitVec.msb_eq_getLsbD_last]
  simp [hi]
theorem bp_b (x : Int32) : x.toInt8.toInt32 &&& 255 = x &&& 255 := by
  apply Int32.toBitVec_inj.mp
  rw [Int32.toBitVec_and, Int32.toBitVec_and, Int8.toBitVec_toInt32, Int32.toBitVec_toInt8]
  apply BitVec.eq_of_getLsbD_eq
  intro i hi
  rw [BitVec.getLsbD_and, BitVec.getLsbD_and]
  have hm : ∀ i < 32, 8 ≤ i → (255 : Int32).toBitVec.getLsbD i = false := by decide
  rcases Nat.lt_or_ge i 8 with z | z
  · rw [BitVec.getLsbD_signExtend, BitVec.getLsbD_signExtend, if_pos z, if_pos hi]
    simp only [z, hi, decide_true, Bool.true_and]
  · rw [hm i hi z]; simp
/-- frame: all but some ids -/
def keep (S S' : Sg) (ids : List Nat) : Prop := S'.2.2 = S.2.2 ∧ ∀ i, i ∉ ids → S'.1 i = S.1 i
theorem iMach_cg {S S' : Sg} {m s : Nat} (h1 : ∀ r, r < 6 → S'.1 (m + r) = S.1 (m + r)) (h2 : ∀ i, 44 ≤ i → i ≤ 53 → S'.1 i = S.1 i) (h : iMach S m s) : iMach S' m s := by
  have e0 := h1 0 (by omega)
  rw [Nat.add_zero] at e0
  have e1 := h1 1 (by omega)
  have e2 := h1 2 (by omega)
  have e3 := h1 3 (by omega)
  have e4 := h1 4 (by omega)
  have e5 := h1 5 (by omega)
  have a0 := h2 44 (by omega) (by omega)
  have a1 := h2 45 (by omega) (by omega)
  have a2 := h2 46 (by omega) (by omega)
  have a3 := h2 47 (by omega) (by omega)
  have a4 := h2 48 (by omega) (by omega)
  have a5 := h2 49 (by omega) (by omega)
  have a6 := h2 50 (by omega) (by omega)
  have a7 := h2 51 (by omega) (by omega)
  have a8 := h2 52 (by omega) (by omega)
  have a9 := h2 53 (by omega) (by omega)
  unfold iMach autC autM at *
  simp only [e0, e1, e2, e3, e4, e5, a0, a1, a2, a3, a4, a5, a6, a7, a8, a9]
  exact h
theorem slots_keep {n : Nat} {S S' : Sg} (hR : S'.2.2 = S.2.2) (hk : ∀ i, (44 ≤ i ∧ i ≤ 53) ∨ 79 ≤ i → S'.1 i = S.1 i) (h : ∀ s, s < 4 → iSlot n S s) : ∀ s, s < 4 → iSlot n S' s := by
  intro s hs
  rcases h s hs with ⟨h1, h2⟩ | ⟨m, h1, h2, h3⟩
  · exact Or.inl ⟨by rw [hR]; exact h1, by rw [hk 44 (by omega)]; exact h2⟩
  · obtain ⟨j, hj, rfl⟩ := okM_s h2
    exact Or.inr ⟨_, by rw [hR]; exact h1, h2, iMach_cg (fun r hr => hk _ (by omega)) (fun i h4 h5 => hk i (by omega)) h3⟩
theorem refs_keep {n : Nat} {S S' : Sg} (hR : S'.2.2 = S.2.2) (h : iRefs n S) : iRefs n S' := by
  unfold iRefs at *
  rw [hR]
  exact h
theorem fu_s : fu = 99990 + 1 + 1 + 1 + 1 + 1 + 1 + 1 + 1 + 1 + 1 := rfl
def byC (v : Int32) (i : Nat) : Int32 := (v.toUInt32 >>> ((nI (24 - 8 * i)).toUInt32 &&& Int32.toUInt32 31)).toInt32 &&& 255
def byM (v : Int32) (i : Nat) : Int32 := vp_nar .byte ((v >>> (nI (24 - 8 * i) &&& 31)).toInt8.toInt32)
theorem by_eq (v : Int32) {i : Nat} (hi : i < 4) : byM v i &&& 255 = byC v i := by
  unfold byM byC
  rw [vp_nar_byte, show ∀ z : Int32, z.toInt8.toInt32.toInt8.toInt32 = z.toInt8.toInt32 from fun z => by simp, bp_b]
  apply b_ext
  intro j hj
  rw [b_and, b_and, b_255, b_sshr _ (by omega) _ hj, b_ushr _ (by omega)]
  by_cases h : j < 8
  · rw [if_pos (by omega)]
  · simp [h]
def putC (S : Sg) (t : Nat) (v : Int32) (i : Nat) : Sg := sI (sI S 1 (t + i) (byC v i)) 0 1 (nI (t + i + 1))
def putM (S : Sg) (t : Nat) (v : Int32) (i : Nat) : Sg := sI (sI S 35 (t + i) (byM v i)) 34 2 (nI (t + i + 1))
theorem sI_at (S : Sg) (i k : Nat) (v : Int32) : (sI S i k v).1 i k = v := by rw [sI_get, if_pos rfl, if_pos rfl]
theorem sI_ne (S : Sg) {i k a b : Nat} (v : Int32) (h : a ≠ i ∨ b ≠ k) : (sI S i k v).1 a b = S.1 a b := by
  rw [sI_get]
  by_cases h1 : a = i
  · rw [if_pos h1, if_neg (by omega)]
  · rw [if_neg h1]
theorem putC_step {fl t i : Nat} {S : Sg} {v x : Int32} (hx : x = nI (24 - 8 * i)) (hi : i < 4) (ht : t + i < 100) (h : S.1 0 1 = nI (t + i)) : f_X9_putBytes_L3 (fl + 1) v x S = f_X9_putBytes_L3 fl v (x + -8) (putC S t v i) := by
  subst hx
  rw [f_X9_putBytes_L3, if_neg (nI_pos (by omega)), h, if_neg (by rw [k_100, nI_leI (by omega) (by omega)]; omega), ck_nI ht (by decide), nI_clamp (by omega)]
  simp only [vl]
  rw [sI_ne S _ (Or.inl (by decide)), h, nI_1]
  rfl
theorem putM_step {fl t i : Nat} {S : Sg} {v x : Int32} (hx : x = nI (24 - 8 * i)) (hi : i < 4) (ht : t + i < 100) (h : S.1 34 2 = nI (t + i)) : f_X10_push_L3 (fl + 1) v x S = f_X10_push_L3 fl v (x + -8) (putM S t v i) := by
  subst hx
  rw [f_X10_push_L3, if_neg (nI_pos (by omega)), h, ck_nI ht (by decide), nI_clamp (by omega)]
  simp only [vl]
  rw [sI_ne S _ (Or.inl (by decide)), h, nI_1]
  rfl
theorem putC_eq {t : Nat} {S : Sg} (v : Int32) (ht : t + 4 ≤ 100) (h : S.1 0 1 = nI t) : f_X9_putBytes v S = some (putC (putC (putC (putC S t v 0) t v 1) t v 2) t v 3) := by
  unfold f_X9_putBytes
  simp only [vl]
  rw [fu_s, putC_step (i := 0) (t := t) (by decide +kernel) (by omega) (by omega) h, putC_step (S := putC S t v 0) (i := 1) (t := t) (by decide +kernel) (by omega) (by omega) (sI_at _ _ _ _), putC_step (S := putC (putC S t v 0) t v 1) (i := 2) (t := t) (by decide +kernel) (by omega) (by omega) (sI_at _ _ _ _), putC_step (S := putC (putC (putC S t v 0) t v 1) t v 2) (i := 3) (t := t) (by decide +kernel) (by omega) (by omega) (sI_at _ _ _ _), f_X9_putBytes_L3, if_pos (by decide +kernel)]
theorem putM_eq {t : Nat} {S : Sg} (v : Int32) (ht : t + 4 ≤ 100) (h : S.1 34 2 = nI t) : f_X10_push v S = some (putM (putM (putM (putM S t v 0) t v 1) t v 2) t v 3) := by
  unfold f_X10_push
  simp only [vl]
  rw [fu_s, putM_step (i := 0) (t := t) (by decide +kernel) (by omega) (by omega) h, putM_step (S := putM S t v 0) (i := 1) (t := t) (by decide +kernel) (by omega) (by omega) (sI_at _ _ _ _), putM_step (S := putM (putM S t v 0) t v 1) (i := 2) (t := t) (by decide +kernel) (by omega) (by omega) (sI_at _ _ _ _), putM_step (S := putM (putM (putM S t v 0) t v 1) t v 2) (i := 3) (t := t) (by decide +kernel) (by omega) (by omega) (sI_at _ _ _ _), f_X10_push_L3, if_pos (by decide +kernel)]
/-- what four bytes do to the class's tape -/
theorem putC_s {t : Nat} {S : Sg} (v : Int32) (ht : t + 4 ≤ 100) (h : S.1 0 1 = nI t) : ∃ S', f_X9_putBytes v S = some S' ∧ S'.1 0 1 = nI (t + 4) ∧ (∀ k, k < t → S'.1 1 k = S.1 1 k) ∧ (∀ i, i < 4 → S'.1 1 (t + i) = byC v i) ∧ keep S S' [0, 1] := by
  refine ⟨_, putC_eq v ht h, sI_at _ _ _ _, ?_, ?_, rfl, ?_⟩
  · intro k hk
    simp only [putC, sI_get]
    simp [show k ≠ t by omega, show k ≠ t + 1 by omega, show k ≠ t + 2 by omega, show k ≠ t + 3 by omega]
  · intro i hi
    rcases (show i = 0 ∨ i = 1 ∨ i = 2 ∨ i = 3 by omega) with rfl | rfl | rfl | rfl <;> simp [putC, sI_get]
  · intro i hi
    simp only [List.mem_cons, List.not_mem_nil, or_false, not_or] at hi
    funext b
    simp only [putC, sI_get]
    simp [hi.1, hi.2]
theorem putM_s {t : Nat} {S : Sg} (v : Int32) (ht : t + 4 ≤ 100) (h : S.1 34 2 = nI t) : ∃ S', f_X10_push v S = some S' ∧ S'.1 34 2 = nI (t + 4) ∧ (∀ k, k < t → S'.1 35 k = S.1 35 k) ∧ (∀ i, i < 4 → S'.1 35 (t + i) = byM v i) ∧ keep S S' [34, 35] ∧ ∀ b, b ≠ 2 → S'.1 34 b = S.1 34 b := by
  refine ⟨_, putM_eq v ht h, sI_at _ _ _ _, ?_, ?_, ⟨rfl, ?_⟩, ?_⟩
  · intro k hk
    simp only [putM, sI_get]
    simp [show k ≠ t by omega, show k ≠ t + 1 by omega, show k ≠ t + 2 by omega, show k ≠ t + 3 by omega]
  · intro i hi
    rcases (show i = 0 ∨ i = 1 ∨ i = 2 ∨ i = 3 by omega) with rfl | rfl | rfl | rfl <;> simp [putM, sI_get]
  · intro i hi
    simp only [List.mem_cons, List.not_mem_nil, or_false, not_or] at hi
    funext b
    simp only [putM, sI_get]
    simp [hi.1, hi.2]
  · intro b hb
    simp only [putM, sI_get]
    simp [hb]
theorem keep_tr {S S1 S2 : Sg} {ids : List Nat} (h1 : keep S S1 ids) (h2 : keep S1 S2 ids) : keep S S2 ids := ⟨h2.1.trans h1.1, fun i hi => (h2.2 i hi).trans (h1.2 i hi)⟩
theorem ok_feed : OK_feed Inv := by
  intro n S a b c d e hI
  obtain ⟨⟨t, ht, h1, h2, h3⟩, ⟨q, hq, t1, t2, t3⟩, ⟨f1, f2⟩, hs, hr⟩ := id hI
  by_cases h : t + 20 ≤ 100
  · obtain ⟨A1, ea1, na1, ka1, va1, fa1⟩ := putC_s a (by omega) h1
    obtain ⟨A2, ea2, na2, ka2, va2, fa2⟩ := putC_s b (by omega) na1
    obtain ⟨A3, ea3, na3, ka3, va3, fa3⟩ := putC_s c (by omega) na2
    obtain ⟨A4, ea4, na4, ka4, va4, fa4⟩ := putC_s d (by omega) na3
    obtain ⟨A5, ea5, na5, ka5, va5, fa5⟩ := putC_s e (by omega) na4
    have fA : keep S A5 [0, 1] := keep_tr (keep_tr (keep_tr (keep_tr fa1 fa2) fa3) fa4) fa5
    have h2' : A5.1 34 2 = nI t := by rw [fA.2 34 (by decide)]; exact h2
    obtain ⟨B1, eb1, nb1, kb1, vb1, fb1, gb1⟩ := putM_s a (by omega) h2'
    obtain ⟨B2, eb2, nb2, kb2, vb2, fb2, gb2⟩ := putM_s b (by omega) nb1
    obtain ⟨B3, eb3, nb3, kb3, vb3, fb3, gb3⟩ := putM_s c (by omega) nb2
    obtain ⟨B4, eb4, nb4, kb4, vb4, fb4, gb4⟩ := putM_s d (by omega) nb3
    obtain ⟨B5, eb5, nb5, kb5, vb5, fb5, gb5⟩ := putM_s e (by omega) nb4
    have fB : keep A5 B5 [34, 35] := keep_tr (keep_tr (keep_tr (keep_tr fb1 fb2) fb3) fb4) fb5
    have gB : ∀ x, x ≠ 2 → B5.1 34 x = S.1 34 x := fun x hx => by rw [gb5 x hx, gb4 x hx, gb3 x hx, gb2 x hx, gb1 x hx, fA.2 34 (by decide)]
    have hall : ∀ i, i ≠ 0 → i ≠ 1 → i ≠ 34 → i ≠ 35 → B5.1 i = S.1 i := fun i i1 i2 i3 i4 => by
      rw [fB.2 i (by simp [i3, i4]), fA.2 i (by simp [i1, i2])]
    refine ⟨nI (t + 20), A5, B5, ?_, ?_, ?_⟩
    · unfold f_X9_feed
      rw [h1, k_20, nI_add, k_100, if_pos (by rw [nI_leI (by omega) (by omega)]; omega), ea1, bd_some, ea2, bd_some, ea3, bd_some, ea4, bd_some, ea5, bd_some, na5]
    · unfold f_X10_feed
      rw [h2', k_20, nI_add, k_100, if_pos (by rw [nI_leI (by omega) (by omega)]; omega), eb1, bd_some, eb2, bd_some, eb3, bd_some, eb4, bd_some, eb5, bd_some, nb5]
    · refine ⟨⟨t + 20, by omega, by rw [fB.2 0 (by decide)]; exact na5, nb5, ?_⟩, ⟨q, hq, by rw [hall 32 (by decide) (by decide) (by decide) (by decide)]; exact t1, by rw [gB 25 (by decide)]; exact t2, fun k hk => by rw [hall 33 (by decide) (by decide) (by decide) (by decide), hall 54 (by decide) (by decide) (by decide) (by decide)]; exact t3 k hk⟩, ⟨by rw [hall 3 (by decide) (by decide) (by decide) (by decide), gB 4 (by decide)]; exact f1, by rw [hall 3 (by decide) (by decide) (by decide) (by decide), gB 5 (by decide)]; exact f2⟩, slots_keep (fB.1.trans fA.1) (fun i hi => hall i (by omega) (by omega) (by omega) (by omega)) hs, refs_keep (fB.1.trans fA.1) hr⟩
      intro k hk
      rw [fB.2 1 (by decide)]
      by_cases c0 : k < t
      · rw [ka5 k (by omega), ka4 k (by omega), ka3 k (by omega), ka2 k (by omega), ka1 k (by omega), kb5 k (by omega), kb4 k (by omega), kb3 k (by omega), kb2 k (by omega), kb1 k (by omega), fA.2 35 (by decide)]
        exact h3 k c0
      · by_cases c1 : k < t + 4
        · obtain ⟨i, hi, rfl⟩ : ∃ i, i < 4 ∧ k = t + i := ⟨k - t, by omega, by omega⟩
          rw [ka5 _ (by omega), ka4 _ (by omega), ka3 _ (by omega), ka2 _ (by omega), va1 i hi, kb5 _ (by omega), kb4 _ (by omega), kb3 _ (by omega), kb2 _ (by omega), vb1 i hi, by_eq a hi]
        · by_cases c2 : k < t + 4 + 4
          · obtain ⟨i, hi, rfl⟩ : ∃ i, i < 4 ∧ k = t + 4 + i := ⟨k - (t + 4), by omega, by omega⟩
            rw [ka5 _ (by omega), ka4 _ (by omega), ka3 _ (by omega), va2 i hi, kb5 _ (by omega), kb4 _ (by omega), kb3 _ (by omega), vb2 i hi, by_eq b hi]
          · by_cases c3 : k < t + 4 + 4 + 4
            · obtain ⟨i, hi, rfl⟩ : ∃ i, i < 4 ∧ k = t + 4 + 4 + i := ⟨k - (t + 4 + 4), by omega, by omega⟩
              rw [ka5 _ (by omega), ka4 _ (by omega), va3 i hi, kb5 _ (by omega), kb4 _ (by omega), vb3 i hi, by_eq c hi]
            · by_cases c4 : k < t + 4 + 4 + 4 + 4
              · obtain ⟨i, hi, rfl⟩ : ∃ i, i < 4 ∧ k = t + 4 + 4 + 4 + i := ⟨k - (t + 4 + 4 + 4), by omega, by omega⟩
                rw [ka5 _ (by omega), va4 i hi, kb5 _ (by omega), vb4 i hi, by_eq d hi]
              · obtain ⟨i, hi, rfl⟩ : ∃ i, i < 4 ∧ k = t + 4 + 4 + 4 + 4 + i := ⟨k - (t + 4 + 4 + 4 + 4), by omega, by omega⟩
                rw [va5 i hi, vb5 i hi, by_eq e hi]
  · refine ⟨-1, S, S, ?_, ?_, hI⟩
    · unfold f_X9_feed
      rw [h1, k_20, nI_add, k_100, if_neg (by rw [nI_leI (by omega) (by omega)]; omega)]
    · unfold f_X10_feed
      rw [h2, k_20, nI_add, k_100, if_neg (by rw [nI_leI (by omega) (by omega)]; omega)]
