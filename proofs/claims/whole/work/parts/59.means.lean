theorem and255 (x : Int32) : ∃ j, j < 256 ∧ x &&& 255 = nI j := by
  have := pk_andE x (m := 255) 8 (by decide +kernel)
  exact this
theorem isLetter_eq {j : Nat} (hj : j < 256) (S : Sg) : f_X9_isLetter (nI j) S = some (if 97 ≤ j ∧ j ≤ 100 then 1 else 0, S) := by
  unfold f_X9_isLetter
  rw [k_97, k_100]
  by_cases h1 : j < 97
  · rw [if_pos (by rw [nI_ltI (by omega) (by omega)]; exact h1), if_neg (by omega)]
  · rw [if_neg (by rw [nI_ltI (by omega) (by omega)]; exact h1)]
    by_cases h2 : 100 < j
    · rw [if_pos (by rw [nI_ltI (by omega) (by omega)]; exact h2), if_neg (by omega)]
    · rw [if_neg (by rw [nI_ltI (by omega) (by omega)]; exact h2), if_pos (by omega)]
section MEANS
variable {m s N n q : Nat} {d : Nat → Nat → Nat} {acc : Nat → Bool} {bt : Nat → Nat}
/-- the answer: letters by their bytes -/
def mns (d : Nat → Nat → Nat) (acc : Nat → Bool) (bt : Nat → Nat) : Nat → Nat → Nat → Int32
  | 0, _, k => if bI (acc k) = 0 then 0 else 1
  | r + 1, i, k => if 97 ≤ bt i ∧ bt i ≤ 100 then mns d acc bt r (i + 1) (d k (bt i - 97)) else 0
theorem meansC {S : Sg} (ok : autOk N d) (cC : autC S m N d acc) (hq : q ≤ 100) (hb8 : ∀ i, i < q → bt i < 256 ∧ S.1 1 i = nI (bt i)) : ∀ (r i k fl : Nat), i + r = q → k < N → r + 1 ≤ fl → f_X9_means_L35 n fl (nI q) m (nI k) (nI i) S = some (mns d acc bt r i k, S) := by
  have hb := ok.2.1
  intro r
  induction r with
  | zero =>
    intro i k fl h1 hk h2
    obtain ⟨f, rfl⟩ : ∃ f, fl = f + 1 := ⟨fl - 1, by omega⟩
    rw [f_X9_means_L35, if_pos (by rw [nI_leI (by omega) (by omega)]; omega), ck_nI (by omega) (by decide), nI_clamp (by omega), cC.2.2 k hk]
    unfold mns
    by_cases h : bI (acc k) = 0
    · rw [if_pos h, if_pos h]
    · rw [if_neg h, if_neg h]
  | succ r ih =>
    intro i k fl h1 hk h2
    obtain ⟨f, rfl⟩ : ∃ f, fl = f + 1 := ⟨fl - 1, by omega⟩
    obtain ⟨b1, b2⟩ := hb8 i (by omega)
    rw [f_X9_means_L35, if_neg (by rw [nI_leI (by omega) (by omega)]; omega), ck_nI (by omega) (by decide), nI_clamp (by omega), b2, isLetter_eq b1, bd2_some]
    unfold mns
    by_cases h : 97 ≤ bt i ∧ bt i ≤ 100
    · rw [if_pos h, if_pos h, if_neg n10, ck_nI (by omega) (by decide), b2, ixC4, k_97, pk_sub (by omega), show 4 * k + bt i - 97 = 4 * k + (bt i - 97) by omega, ck_nI (by omega) (by decide), nI_clamp (by omega), cC.2.1 k hk (bt i - 97) (by omega), vl_d, vl_d, nI_1]
      exact ih (i + 1) (d k (bt i - 97)) f (by omega) (ok.2.2 k hk _ (by omega)) (by omega)
    · rw [if_neg h, if_neg h, if_pos rfl]
theorem meansM {S : Sg} (ok : autOk N d) (cM : autM S s N d acc) (hs : s < 4) (hq : q ≤ 100) (hb8 : ∀ i, i < q → bt i < 256 ∧ S.1 35 i &&& 255 = nI (bt i)) : ∀ (r i k fl : Nat), i + r = q → k < N → r + 1 ≤ fl → f_X10_means_L32 fl (nI s) (nI q) (nI k) (nI i) S = some (mns d acc bt r i k, S) := by
  have hb := ok.2.1
  intro r
  induction r with
  | zero =>
    intro i k fl h1 hk h2
    obtain ⟨f, rfl⟩ : ∃ f, fl = f + 1 := ⟨fl - 1, by omega⟩
    rw [f_X10_means_L32, if_pos (by rw [nI_leI (by omega) (by omega)]; omega), isAcc_eq hs (by omega) (cM.2.2 k hk), bd2_some]
    unfold mns
    by_cases h : bI (acc k) = 0
    · rw [if_pos h, if_pos h]
    · rw [if_neg h, if_neg h]
  | succ r ih =>
    intro i k fl h1 hk h2
    obtain ⟨f, rfl⟩ : ∃ f, fl = f + 1 := ⟨fl - 1, by omega⟩
    obtain ⟨b1, b2⟩ := hb8 i (by omega)
    rw [f_X10_means_L32, if_neg (by rw [nI_leI (by omega) (by omega)]; omega), ck_nI (by omega) (by decide), nI_clamp (by omega), b2, vl_d]
    unfold mns
    have e3 : (3 : Int32) = nI 4 - 1 := by decide +kernel
    by_cases hl : bt i < 97
    · rw [if_neg (by omega), lies_lo (by rw [k_97]; exact pk_sneg (by omega) hl), bd2_some, if_pos rfl]
    · rw [k_97, pk_sub (by omega), e3]
      by_cases hh : 100 < bt i
      · rw [if_neg (by omega), lies_hi (nI_pos (by omega)) (by rw [nI_leI (by omega) (by omega)]; omega) (by omega), bd2_some, if_pos rfl]
      · rw [if_pos (by omega), lies_in (by omega) (by omega), bd2_some, if_neg n10, after_eq hs (by omega) (by omega), bd2_some, cM.2.1 k hk (bt i - 97) (by omega), vl_d, vl_d, nI_1]
        exact ih (i + 1) (d k (bt i - 97)) f (by omega) (ok.2.2 k hk _ (by omega)) (by omega)
end MEANS
theorem ok_means : OK_means Inv := by
  intro n S a b hI
  rcases slotC hI.2.2.2.1 a with ⟨h1, h2⟩ | ⟨s, m, hs, rfl, hm, -, ⟨N, P, d, acc, fr, by_, ok, cC, cM, -⟩, h1, h2⟩
  · refine ⟨-1, S, S, ?_, ?_, hI⟩
    · unfold f_X9_means; rw [h1]; rfl
    · unfold f_X10_means; rw [h2]; rfl
  · obtain ⟨⟨t, ht, a1, a2, a3⟩, hT, ⟨f1, f2⟩, hsl, hr⟩ := id hI
    rcases ixc b (t + 1) (by omega) with h | ⟨h, h'⟩ | ⟨q, hq, rfl⟩
    · refine ⟨-1, S, S, ?_, ?_, hI⟩
      · unfold f_X9_means; rw [h1, bd2_some, nu_some hm, if_pos h]
      · unfold f_X10_means; rw [h2, bd2_some, if_neg n10, if_pos h]
    · have hn : ¬ b ≤ nI t := by
        intro z
        rw [Int32.le_iff_toInt_le, nI_toInt (by omega)] at z h'
        omega
      refine ⟨-1, S, S, ?_, ?_, hI⟩
      · unfold f_X9_means; rw [h1, bd2_some, nu_some hm, if_neg h, a1, if_neg hn]
      · unfold f_X10_means; rw [h2, bd2_some, if_neg n10, if_neg h, a2, if_neg hn]
    · obtain ⟨j, hj, hmj⟩ := okM_s hm
      have hb := ok.2.1
      have h0 := ok.1
      have hby : ∃ bt : Nat → Nat, ∀ i, bt i < 256 ∧ S.1 35 i &&& 255 = nI (bt i) := ⟨fun i => Classical.choose (and255 (S.1 35 i)), fun i => Classical.choose_spec (and255 (S.1 35 i))⟩
      obtain ⟨bt, hbt⟩ := hby
      let S1 := sI S 0 1 0
      have cC1 : autC (sI S 0 1 0) m N d acc := autC_cg cC (fun i hi => sI_id _ _ _ (by omega)) (by omega)
      have eC := meansC (n := n) (bt := bt) (q := q) ok cC1 (by omega) (fun i hi => ⟨(hbt i).1, by rw [sI_id _ _ _ (by decide), a3 i (by omega)]; exact (hbt i).2⟩) q 0 0 fu (by omega) (by omega) (by unfold fu; omega)
      have cM1 : autM (sI (sI S 0 1 0) 34 2 0) s N d acc := autM_cg cM (fun i i1 i2 => by rw [sI_id _ _ _ (by omega), sI_id _ _ _ (by omega)])
      have cM0 : autM (sI S 0 1 0) s N d acc := autM_cg cM (fun i i1 i2 => by rw [sI_id _ _ _ (by omega)])
      have eM := meansM (bt := bt) (q := q) ok cM1 hs (by omega) (fun i hi => ⟨(hbt i).1, by rw [sI_id _ _ _ (by decide), sI_id _ _ _ (by decide)]; exact (hbt i).2⟩) q 0 0 fu (by omega) (by omega) (by unfold fu; omega)
      refine ⟨mns d acc bt q 0 0, sI S 0 1 0, sI (sI S 0 1 0) 34 2 0, ?_, ?_, ?_⟩
      · unfold f_X9_means
        rw [h1, bd2_some, nu_some hm, if_neg (nI_pos (by omega)), a1, if_pos (by rw [nI_leI (by omega) (by omega)]; omega), vl_d, vl_d, vl_d]
        rw [← k_0] at eC
        exact eC
      · unfold f_X10_means
        rw [has_ok hs cM0.1 h0 hb, bd2_some, if_neg n10, if_neg (nI_pos (by omega)), sI_id _ _ _ (by decide), a2, if_pos (by rw [nI_leI (by omega) (by omega)]; omega), vl_d, vl_d, vl_d]
        rw [← k_0] at eM
        exact eM
      · obtain ⟨t1, g1, g2, g3, g4⟩ := hT
        have hal : ∀ i, i ≠ 0 → i ≠ 34 → (sI (sI S 0 1 0) 34 2 0).1 i = S.1 i := fun i i1 i2 => by rw [sI_id _ _ _ i2, sI_id _ _ _ i1]
        have h34 : ∀ c, c ≠ 2 → (sI (sI S 0 1 0) 34 2 0).1 34 c = S.1 34 c := fun c hc => by rw [sI_ne _ _ (Or.inr hc), sI_id _ _ _ (by decide)]
        refine ⟨⟨0, by omega, by rw [sI_id _ _ _ (by decide), sI_at, k_0], by rw [sI_at, k_0], fun k hk => absurd hk (by omega)⟩, ⟨t1, g1, by rw [hal 32 (by decide) (by decide)]; exact g2, by rw [h34 25 (by decide)]; exact g3, fun k hk => by rw [hal 33 (by decide) (by decide), hal 54 (by decide) (by decide)]; exact g4 k hk⟩, ⟨by rw [hal 3 (by decide) (by decide), h34 4 (by decide)]; exact f1, by rw [hal 3 (by decide) (by decide), h34 5 (by decide)]; exact f2⟩, slots_keep (S := S) rfl (fun i hi => hal i (by omega) (by omega)) hsl, refs_keep (S := S) rfl hr⟩
