section CNTM
variable {m N s : Nat} {d : Nat → Nat → Nat} {acc : Nat → Bool} {q : Int32}
theorem cM_store {K : Int32 → Int32 → Int32 → Int32 → Sg → Option Sg} {j k : Nat} {S : Sg} (ok : autOk N d) (cM : autM S s N d acc) (hs : s < 4) (hk : k < N) (hj : j ≤ 28) (v : Int64) (hv : 1 ≤ j → v = lN (cnt d acc j k)) : f_X10_counts_L70 K (nI s) q (nI j) (nI k) v S = K (nI s) q (nI j) (nI (k + 1)) (sJ S 74 (150 * j + k) (lN (cnt d acc j k))) := by
  have hb := ok.2.1
  unfold f_X10_counts_L70
  rw [ixM]
  by_cases h0 : j = 0
  · subst h0
    rw [if_pos (by decide +kernel), isAcc_eq hs (by omega) (cM.2.2 k hk), bd2_some, ck_nI (by omega) (by decide), nI_clamp (by omega)]
    simp only [vl]
    rw [nI_1]
    cases hacc : acc k with
    | true =>
      rw [if_neg (by decide), ck_nI (by omega) (by decide), show cnt d acc 0 k = 1 by simp [cnt, hacc]]
      rfl
    | false =>
      rw [if_pos (by decide), show cnt d acc 0 k = 0 by simp [cnt, hacc]]
      rfl
  · rw [if_neg (by rw [k_0, nI_leI (by omega) (by omega)]; omega), ck_nI (by omega) (by decide), nI_clamp (by omega), hv (by omega)]
    simp only [vl]
    rw [nI_1]
theorem cM_step {K : Int32 → Int32 → Int32 → Int32 → Sg → Option Sg} {fl j k x : Nat} {S : Sg} {v : Int64} (ok : autOk N d) (cM : autM S s N d acc) (hs : s < 4) (hk : k < N) (hj : 1 ≤ j ∧ j ≤ 28) (hx : x < 4) : f_X10_counts_L27 K (fl + 1) (nI s) q (nI j) (nI k) v (nI x) S = f_X10_counts_L27 K fl (nI s) q (nI j) (nI k) (v + S.2.1 74 (150 * (j - 1) + d k x)) (nI (x + 1)) S := by
  have hb := ok.2.1
  have hd := ok.2.2 k hk x hx
  rw [f_X10_counts_L27, if_neg (by rw [k_4, nI_leI (by omega) (by omega)]; omega), if_neg (by rw [k_0, nI_leI (by omega) (by omega)]; omega), after_eq hs (by omega) hx, bd2_some, cM.2.1 k hk x hx, k_1, pk_sub hj.1, ixM, ck_nI (by omega) (by decide), nI_clamp (by omega)]
  simp only [vl]
  rw [nI_add]
theorem cM_row {K : Int32 → Int32 → Int32 → Int32 → Sg → Option Sg} {j k : Nat} {S : Sg} (ok : autOk N d) (cM : autM S s N d acc) (hs : s < 4) (hk : k < N) (hj : j ≤ 28) (ht : tabC d acc N (S.2.1 74) j k) : f_X10_counts_L27 K fu (nI s) q (nI j) (nI k) 0 0 S = K (nI s) q (nI j) (nI (k + 1)) (sJ S 74 (150 * j + k) (lN (cnt d acc j k))) := by
  have hb := ok.2.1
  by_cases h0 : j = 0
  · subst h0
    rw [fu_s, f_X10_counts_L27, if_neg (by decide +kernel), if_pos (by decide +kernel)]
    exact cM_store ok cM hs hk hj 0 (fun h => absurd h (by omega))
  · have t : ∀ x, x < 4 → S.2.1 74 (150 * (j - 1) + d k x) = lN (cnt d acc (j - 1) (d k x)) := fun x hx => ht.1 (j - 1) (by omega) _ (ok.2.2 k hk x hx)
    have hj' : 1 ≤ j ∧ j ≤ 28 := by omega
    rw [fu_s, k_0, cM_step ok cM hs hk hj' (by omega), cM_step ok cM hs hk hj' (by omega), cM_step ok cM hs hk hj' (by omega), cM_step ok cM hs hk hj' (by omega), t 0 (by omega), t 1 (by omega), t 2 (by omega), t 3 (by omega)]
    rw [f_X10_counts_L27, if_pos (by rw [k_4, nI_leI (by omega) (by omega)]; omega)]
    refine cM_store ok cM hs hk hj _ (fun _ => ?_)
    have e : (0 : Int64) = lN 0 := by decide +kernel
    rw [e, lN_add, lN_add, lN_add, lN_add, Nat.zero_add]
    obtain ⟨i, rfl⟩ : ∃ i, j = i + 1 := ⟨j - 1, by omega⟩
    rfl
theorem cM_lev {K : Int32 → Int32 → Int32 → Sg → Option Sg} {j : Nat} (ok : autOk N d) (hs : s < 4) (hj : j ≤ 28) : ∀ (r k fl : Nat) (S : Sg), autM S s N d acc → k + r = N → r + 1 ≤ fl → tabC d acc N (S.2.1 74) j k → ∃ S', f_X10_counts_L10 K fl (nI s) q (nI j) (nI k) S = K (nI s) q (nI (j + 1)) S' ∧ S'.1 = S.1 ∧ S'.2.2 = S.2.2 ∧ tabC d acc N (S'.2.1 74) (j + 1) 0 := by
  have hb := ok.2.1
  intro r
  induction r with
  | zero =>
    intro k fl S cM hkr hfl ht
    obtain ⟨f, rfl⟩ : ∃ f, fl = f + 1 := ⟨fl - 1, by omega⟩
    refine ⟨S, ?_, rfl, rfl, tab_level ht (by omega)⟩
    rw [f_X10_counts_L10, ck_nI hs (by decide), nI_clamp (by omega), cM.1, if_pos (by rw [nI_leI (by omega) (by omega)]; omega)]
    simp only [vl]
    rw [nI_1]
  | succ r ih =>
    intro k fl S cM hkr hfl ht
    obtain ⟨f, rfl⟩ : ∃ f, fl = f + 1 := ⟨fl - 1, by omega⟩
    obtain ⟨S', e, h1, h2, h3⟩ := ih (k + 1) f (sJ S 74 (150 * j + k) (lN (cnt d acc j k))) cM (by omega) (by omega) (by rw [sJ_row]; exact tab_next ht (by omega) hb)
    refine ⟨S', ?_, h1, h2, h3⟩
    rw [f_X10_counts_L10, ck_nI hs (by decide), nI_clamp (by omega), cM.1, if_neg (by rw [nI_leI (by omega) (by omega)]; omega)]
    simp only [vl]
    rw [cM_row ok cM hs (by omega) hj ht]
    exact e
theorem cM_all {qn : Nat} (ok : autOk N d) (hs : s < 4) (hq : qn ≤ 28) : ∀ (r j fl : Nat) (S : Sg), autM S s N d acc → j + r = qn + 1 → r + 1 ≤ fl → tabC d acc N (S.2.1 74) j 0 → ∃ S', f_X10_counts_L2 fl (nI s) (nI qn) (nI j) S = some S' ∧ S'.1 = S.1 ∧ S'.2.2 = S.2.2 ∧ tabC d acc N (S'.2.1 74) (qn + 1) 0 := by
  have hb := ok.2.1
  intro r
  induction r with
  | zero =>
    intro j fl S cM hjr hfl ht
    obtain ⟨f, rfl⟩ : ∃ f, fl = f + 1 := ⟨fl - 1, by omega⟩
    have : j = qn + 1 := by omega
    subst this
    refine ⟨S, ?_, rfl, rfl, ht⟩
    rw [f_X10_counts_L2, if_pos (by rw [nI_ltI (by omega) (by omega)]; omega)]
  | succ r ih =>
    intro j fl S cM hjr hfl ht
    obtain ⟨f, rfl⟩ : ∃ f, fl = f + 1 := ⟨fl - 1, by omega⟩
    obtain ⟨S1, e1, a1, b1, t1⟩ := cM_lev (q := nI qn) (K := f_X10_counts_L2 f) ok hs (j := j) (by omega) N 0 fu S cM (by omega) (by unfold fu; omega) ht
    obtain ⟨S', e, h1, h2, h3⟩ := ih (j + 1) f S1 (by unfold autM at *; rw [a1]; exact cM) (by omega) (by omega) t1
    refine ⟨S', ?_, h1.trans a1, h2.trans b1, h3⟩
    rw [f_X10_counts_L2, if_neg (by rw [nI_ltI (by omega) (by omega)]; omega)]
    simp only [vl]
    rw [k_0, e1]
    exact e
theorem counts_eq {qn : Nat} {S : Sg} (ok : autOk N d) (cM : autM S s N d acc) (hs : s < 4) (hq : qn ≤ 28) : ∃ S', f_X10_counts (nI s) (nI qn) S = some S' ∧ S'.1 = S.1 ∧ S'.2.2 = S.2.2 ∧ tabC d acc N (S'.2.1 74) (qn + 1) 0 := by
  obtain ⟨S', e, h⟩ := cM_all ok hs hq (qn + 1) 0 fu S cM (by omega) (by unfold fu; omega) ⟨fun j h => absurd h (by omega), fun k h => absurd h (by omega)⟩
  refine ⟨S', ?_, h⟩
  unfold f_X10_counts
  simp only [vl]
  rw [k_0]
  exact e
end CNTM
theorem k_28 : (28 : Int32) = nI 28 := by decide +kernel
theorem e28 : (28 : Int32) = nI 29 - 1 := by decide +kernel
theorem Inv_1 {n : Nat} {S S' : Sg} (h1 : S'.1 = S.1) (h2 : S'.2.2 = S.2.2) (h : Inv n S) : Inv n S' := by
  unfold Inv iTape iTold iFault iRefs at *
  rw [h1, h2]
  exact ⟨h.1, h.2.1, h.2.2.1, slots_keep h2 (fun i _ => by rw [h1]) h.2.2.2.1, h.2.2.2.2⟩
theorem ok_words : OK_words Inv := by
  intro n S a b hI
  rcases slotC hI.2.2.2.1 a with ⟨h1, h2⟩ | ⟨s, m, hs, rfl, hm, -, ⟨N, P, d, acc, fr, by_, ok, cC, cM, -⟩, h1, h2⟩
  · refine ⟨-1, S, S, ?_, ?_, hI⟩
    · unfold f_X9_words; rw [h1]; rfl
    · unfold f_X10_words; rw [h2]; rfl
  · have hb := ok.2.1
    have h0 := ok.1
    rcases ixc b 29 (by omega) with h | ⟨h, h'⟩ | ⟨q, hq, rfl⟩
    · refine ⟨-1, S, S, ?_, ?_, hI⟩
      · unfold f_X9_words; rw [h1, bd2_some, nu_some hm, if_pos h]
      · unfold f_X10_words; rw [h2, bd2_some, if_neg n10, lies_lo h]; rfl
    · refine ⟨-1, S, S, ?_, ?_, hI⟩
      · unfold f_X9_words
        rw [h1, bd2_some, nu_some hm, if_neg h, if_neg]
        intro h3
        rw [k_28, Int32.le_iff_toInt_le, nI_toInt (by omega)] at h3
        rw [Int32.le_iff_toInt_le, nI_toInt (by omega)] at h'
        omega
      · unfold f_X10_words; rw [h2, bd2_some, if_neg n10, e28, lies_hi h h' (by omega)]; rfl
    · obtain ⟨S1, e1, a1, b1, t1⟩ := count_eq ok cC (qn := q) (by omega)
      have cM' : autM S1 s N d acc := by unfold autM at *; rw [a1]; exact cM
      obtain ⟨S2, e2, a2, b2, t2⟩ := counts_eq ok cM' hs (qn := q) (by omega)
      have hh : f_X10_has (nI s) S1 = some (1, S1) := by
        unfold f_X10_has at h2 ⊢
        rw [lies_eq, bd2_some] at h2 ⊢
        rw [a1]
        have e3 : (3 : Int32) = nI 4 - 1 := by decide +kernel
        have hc := lies_in hs (by omega) S
        rw [lies_eq, ← e3] at hc
        have hc2 : (if nI s < 0 then (0 : Int32) else if 3 < nI s then 0 else 1) = 1 := congrArg Prod.fst (Option.some.inj hc)
        rw [hc2, if_neg n10, ck_nI hs (by decide), nI_clamp (by omega), cM.1, if_neg (by rw [k_0, nI_leI (by omega) (by omega)]; omega)]
      refine ⟨lN (cnt d acc q 0), S1, S2, ?_, ?_, Inv_1 (a2.trans a1) (b2.trans b1) hI⟩
      · unfold f_X9_words
        rw [h1, bd2_some, nu_some hm, if_neg (nI_pos (by omega)), if_pos (by rw [k_28, nI_leI (by omega) (by omega)]; omega), e1, bd_some, k_0, beh (by omega) (by omega), bd2_some, t1.1 q (by omega) 0 (by omega)]
      · unfold f_X10_words
        rw [hh, bd2_some, if_neg n10, e28, lies_in hq (by omega), bd2_some, if_neg n10, e2, bd_some, k_150, pk_mul, ck_nI (by omega) (by decide), nI_clamp (by omega)]
        have := t2.1 q (by omega) 0 (by omega)
        rw [Nat.add_zero] at this
        rw [this]
