theorem n10 : ¬ (1 : Int32) = 0 := by decide
theorem slotC {n : Nat} {S : Sg} (hI : ∀ s, s < 4 → iSlot n S s) (x : Int32) : (f_X9_machineIn x S = some (none, S) ∧ f_X10_has x S = some (0, S)) ∨ ∃ s m, s < 4 ∧ x = nI s ∧ okM n m = true ∧ S.2.2 2 s = some m ∧ iMach S m s ∧ f_X9_machineIn x S = some (some m, S) ∧ f_X10_has x S = some (1, S) := by
  have e3 : (3 : Int32) = nI 4 - 1 := by decide +kernel
  unfold f_X9_machineIn f_X10_has
  rcases ixc x 4 (by omega) with h | ⟨h, h'⟩ | ⟨j, hj, rfl⟩
  · exact Or.inl ⟨if_pos h, by rw [lies_lo h]; rfl⟩
  · exact Or.inl ⟨by rw [if_neg h, if_pos (by rw [k_4]; exact h')], by rw [e3, lies_hi h h' (by omega)]; rfl⟩
  · have c1 : (if nI j < 0 then some ((none : Option Nat), S) else if (4 : Int32) ≤ nI j then some (none, S) else ck (nI j) 4 (some (S.2.2 2 (nI j).toNatClampNeg, S))) = some (S.2.2 2 j, S) := by
      rw [if_neg (nI_pos (by omega)), if_neg (by rw [k_4, nI_leI (by omega) (by omega)]; omega), ck_nI hj (by decide), nI_clamp (by omega)]
    rw [c1, e3, lies_in hj (by omega), bd2_some, if_neg (by decide), ck_nI hj (by decide), nI_clamp (by omega)]
    rcases hI j hj with ⟨h1, h2⟩ | ⟨m, h1, h2, h3⟩
    · exact Or.inl ⟨by rw [h1], by rw [h2]; rfl⟩
    · refine Or.inr ⟨j, m, hj, rfl, h2, h1, h3, by rw [h1], ?_⟩
      obtain ⟨N, P, d, acc, fr, by_, ok, -, cM, -⟩ := h3
      rw [cM.1, if_neg]
      rw [k_0, nI_leI (by have := ok.2.1; omega) (by omega)]
      have := ok.1
      omega
theorem hasState_lo {m : Nat} {S : Sg} {x : Int32} (h : x < 0) : f_X4_hasState m x S = some (0, S) := if_pos h
theorem hasState_hi {m N : Nat} {S : Sg} {x : Int32} (hN : S.1 m 0 = nI N) (h0 : ¬ x < 0) (h : nI N ≤ x) : f_X4_hasState m x S = some (0, S) := by
  unfold f_X4_hasState
  rw [if_neg h0, hN, if_pos h]
theorem hasState_in {m N k : Nat} {S : Sg} (hN : S.1 m 0 = nI N) (h : k < N) (hb : N ≤ 150) : f_X4_hasState m (nI k) S = some (1, S) := by
  unfold f_X4_hasState
  rw [if_neg (nI_pos (by omega)), hN, if_neg (by rw [nI_leI (by omega) (by omega)]; omega)]
theorem isState_lo {s : Nat} {S : Sg} {x : Int32} (hs : s < 4) (hh : f_X10_has (nI s) S = some (1, S)) (h : x < 0) : f_X10_isState (nI s) x S = some (0, S) := by
  unfold f_X10_isState
  rw [hh, bd2_some, if_neg (by decide), ck_nI hs (by decide), lies_lo h]
  rfl
theorem isState_hi {s N : Nat} {S : Sg} {x : Int32} (hs : s < 4) (hN : S.1 44 s = nI N) (hb : N ≤ 150) (hh : f_X10_has (nI s) S = some (1, S)) (h0 : ¬ x < 0) (h : nI N ≤ x) : f_X10_isState (nI s) x S = some (0, S) := by
  unfold f_X10_isState
  rw [hh, bd2_some, if_neg (by decide), ck_nI hs (by decide), nI_clamp (by omega), hN, lies_hi h0 h (by omega)]
  rfl
theorem isState_in {s N k : Nat} {S : Sg} (hs : s < 4) (hN : S.1 44 s = nI N) (hb : N ≤ 150) (hh : f_X10_has (nI s) S = some (1, S)) (h : k < N) : f_X10_isState (nI s) (nI k) S = some (1, S) := by
  unfold f_X10_isState
  rw [hh, bd2_some, if_neg (by decide), ck_nI hs (by decide), nI_clamp (by omega), hN, lies_in h (by omega)]
  rfl
theorem ixM (s k : Nat) : (150 : Int32) * nI s + nI k = nI (150 * s + k) := by rw [k_150, pk_mul, nI_add]
theorem ixM4 (s k x : Nat) : (4 : Int32) * ((150 : Int32) * nI s + nI k) + nI x = nI (4 * (150 * s + k) + x) := by rw [ixM, k_4, pk_mul, nI_add]
theorem ixM6 (s k x : Nat) : (6 : Int32) * ((150 : Int32) * nI s + nI k) + nI x = nI (6 * (150 * s + k) + x) := by rw [ixM, k_6, pk_mul, nI_add]
theorem ixC4 (k x : Nat) : nI k * (4 : Int32) + nI x = nI (4 * k + x) := by rw [k_4, pk_mul, nI_add, Nat.mul_comm]
theorem ixC6 (k x : Nat) : nI k * (6 : Int32) + nI x = nI (6 * k + x) := by rw [k_6, pk_mul, nI_add, Nat.mul_comm]
theorem after_eq {s k x : Nat} {S : Sg} (hs : s < 4) (hk : k < 150) (hx : x < 4) : f_X10_after (nI s) (nI k) (nI x) S = some (S.1 48 (4 * (150 * s + k) + x), S) := by
  unfold f_X10_after
  rw [ixM4, ck_nI (by omega) (by decide), nI_clamp (by omega)]
theorem bI_01 (b : Bool) : bI b = 0 ∨ bI b = 1 := by cases b <;> decide
theorem bI_0 (b : Bool) : bI b = 0 ↔ b = false := by cases b <;> decide
theorem isAcc_eq {s k : Nat} {b : Bool} {S : Sg} (hs : s < 4) (hk : k < 150) (h : S.1 49 (150 * s + k) = bI b) : f_X10_isAccepted (nI s) (nI k) S = some (bI b, S) := by
  unfold f_X10_isAccepted
  rw [ixM, ck_nI (by omega) (by decide), nI_clamp (by omega), h, zk_ok (bI_01 b)]
theorem ok_next : OK_next Inv := by
  intro n S a b x hI
  suffices h : ∃ r, f_X9_next n a b x S = some (r, S) ∧ f_X10_next a b x S = some (r, S) by
    obtain ⟨r, e1, e2⟩ := h
    exact ⟨r, S, S, e1, e2, hI⟩
  unfold f_X9_next f_X10_next
  rcases slotC hI.2.2.2.1 a with ⟨h1, h2⟩ | ⟨s, m, hs, rfl, hm, -, ⟨N, P, d, acc, fr, by_, ok, cC, cM, -⟩, h1, h2⟩
  · refine ⟨-1, by rw [h1]; rfl, ?_⟩
    unfold f_X10_isState
    rw [h2]
    rfl
  · rw [h1, bd2_some, nu_some hm]
    have hb := ok.2.1
    rcases ixc b N (by omega) with h | ⟨h, h'⟩ | ⟨k, hk, rfl⟩
    · exact ⟨-1, by rw [hasState_lo h]; rfl, by rw [isState_lo hs h2 h]; rfl⟩
    · exact ⟨-1, by rw [hasState_hi cC.1 h h']; rfl, by rw [isState_hi hs cM.1 hb h2 h h']; rfl⟩
    · rw [hasState_in cC.1 hk hb, isState_in hs cM.1 hb h2 hk, bd2_some, bd2_some, if_neg n10, if_neg n10, show (3 : Int32) = nI 4 - 1 by decide +kernel]
      rcases ixc x 4 (by omega) with h | ⟨h, h'⟩ | ⟨y, hy, rfl⟩
      · exact ⟨-1, by rw [if_pos h], by rw [lies_lo h]; rfl⟩
      · refine ⟨-1, ?_, by rw [lies_hi h h' (by omega)]; rfl⟩
        rw [if_neg h, if_neg]
        intro h3
        rw [k_4, Int32.lt_iff_toInt_lt] at h3
        rw [Int32.le_iff_toInt_le] at h'
        omega
      · refine ⟨nI (d k y), ?_, ?_⟩
        · rw [if_neg (nI_pos (by omega)), if_pos (by rw [k_4, nI_ltI (by omega) (by omega)]; exact hy), ixC4, ck_nI (by omega) (by decide), nI_clamp (by omega), cC.2.1 k hk y hy]
        · rw [lies_in hy (by omega), bd2_some, if_neg (by decide), after_eq hs (by omega) hy, bd2_some, cM.2.1 k hk y hy]
theorem ok_accepts : OK_accepts Inv := by
  intro n S a b hI
  suffices h : ∃ r, f_X9_accepts n a b S = some (r, S) ∧ f_X10_accepts a b S = some (r, S) by
    obtain ⟨r, e1, e2⟩ := h
    exact ⟨r, S, S, e1, e2, hI⟩
  unfold f_X9_accepts f_X10_accepts
  rcases slotC hI.2.2.2.1 a with ⟨h1, h2⟩ | ⟨s, m, hs, rfl, hm, -, ⟨N, P, d, acc, fr, by_, ok, cC, cM, -⟩, h1, h2⟩
  · refine ⟨-1, by rw [h1]; rfl, ?_⟩
    unfold f_X10_isState
    rw [h2]
    rfl
  · rw [h1, bd2_some, nu_some hm]
    have hb := ok.2.1
    rcases ixc b N (by omega) with h | ⟨h, h'⟩ | ⟨k, hk, rfl⟩
    · exact ⟨-1, by rw [hasState_lo h]; rfl, by rw [isState_lo hs h2 h]; rfl⟩
    · exact ⟨-1, by rw [hasState_hi cC.1 h h']; rfl, by rw [isState_hi hs cM.1 hb h2 h h']; rfl⟩
    · rw [hasState_in cC.1 hk hb, isState_in hs cM.1 hb h2 hk, bd2_some, bd2_some, if_neg n10, if_neg n10, ck_nI (by omega) (by decide), nI_clamp (by omega), cC.2.2 k hk, isAcc_eq hs (by omega) (cM.2.2 k hk), bd2_some]
      by_cases h3 : bI (acc k) = 0
      · exact ⟨0, by rw [if_pos h3], by rw [if_pos h3]⟩
      · exact ⟨1, by rw [if_neg h3], by rw [if_neg h3]⟩
theorem ok_spots : OK_spots Inv := by
  intro n S a b x hI
  suffices h : ∃ r, f_X9_spots n a b x S = some (r, S) ∧ f_X10_spots a b x S = some (r, S) by
    obtain ⟨r, e1, e2⟩ := h
    exact ⟨r, S, S, e1, e2, hI⟩
  unfold f_X9_spots f_X10_spots
  rcases slotC hI.2.2.2.1 a with ⟨h1, h2⟩ | ⟨s, m, hs, rfl, hm, -, ⟨N, P, d, acc, fr, by_, ok, cC, cM, hP, p1, p2, -, -, -, hsets, -⟩, h1, h2⟩
  · refine ⟨-1, by rw [h1]; rfl, ?_⟩
    unfold f_X10_isState
    rw [h2]
    rfl
  · rw [h1, bd2_some, nu_some hm]
    have hb := ok.2.1
    rcases ixc b N (by omega) with h | ⟨h, h'⟩ | ⟨k, hk, rfl⟩
    · exact ⟨-1, by rw [hasState_lo h]; rfl, by rw [isState_lo hs h2 h]; rfl⟩
    · exact ⟨-1, by rw [hasState_hi cC.1 h h']; rfl, by rw [isState_hi hs cM.1 hb h2 h h']; rfl⟩
    · rw [hasState_in cC.1 hk hb, isState_in hs cM.1 hb h2 hk, bd2_some, bd2_some, if_neg n10, if_neg n10, p1, ck_nI hs (by decide), nI_clamp (by omega), p2]
      rcases ixc x P (by omega) with h | ⟨h, h'⟩ | ⟨y, hy, rfl⟩
      · exact ⟨-1, by rw [if_pos h], by rw [lies_lo h]; rfl⟩
      · refine ⟨-1, ?_, by rw [lies_hi h h' (by omega)]; rfl⟩
        rw [if_neg h, if_neg]
        intro h3
        rw [Int32.lt_iff_toInt_lt] at h3
        rw [Int32.le_iff_toInt_le] at h'
        omega
      · refine ⟨S.1 (m + 3) (6 * k + y), ?_, ?_⟩
        · rw [if_neg (nI_pos (by omega)), if_pos (by rw [nI_ltI (by omega) (by omega)]; exact hy), ixC6, ck_nI (by omega) (by decide), nI_clamp (by omega)]
        · rw [lies_in hy (by omega), bd2_some, if_neg (by decide), ixM6, ck_nI (by omega) (by decide), nI_clamp (by omega), hsets k hk y hy]
theorem ok_classOf : OK_classOf Inv := by
  intro n S a b hI
  suffices h : ∃ r, f_X9_classOf n a b S = some (r, S) ∧ f_X10_classOf a b S = some (r, S) by
    obtain ⟨r, e1, e2⟩ := h
    exact ⟨r, S, S, e1, e2, hI⟩
  unfold f_X9_classOf f_X10_classOf
  rcases slotC hI.2.2.2.1 a with ⟨h1, h2⟩ | ⟨s, m, hs, rfl, hm, -, ⟨N, P, d, acc, fr, by_, ok, cC, cM, hP, p1, p2, -, -, -, hsets, hcl, -⟩, h1, h2⟩
  · refine ⟨-1, by rw [h1]; rfl, ?_⟩
    unfold f_X10_isState
    rw [h2]
    rfl
  · rw [h1, bd2_some, nu_some hm]
    have hb := ok.2.1
    rcases ixc b N (by omega) with h | ⟨h, h'⟩ | ⟨k, hk, rfl⟩
    · exact ⟨-1, by rw [hasState_lo h]; rfl, by rw [isState_lo hs h2 h]; rfl⟩
    · exact ⟨-1, by rw [hasState_hi cC.1 h h']; rfl, by rw [isState_hi hs cM.1 hb h2 h h']; rfl⟩
    · rw [hasState_in cC.1 hk hb, isState_in hs cM.1 hb h2 hk, bd2_some, bd2_some, if_neg n10, if_neg n10, ck_nI (by omega) (by decide), nI_clamp (by omega), ixM, ck_nI (by omega) (by decide), nI_clamp (by omega)]
      exact ⟨_, rfl, by rw [hcl k hk]⟩
