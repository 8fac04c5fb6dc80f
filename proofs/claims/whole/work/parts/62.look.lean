section EM2
variable {s N : Nat} {d : Nat → Nat → Nat} {acc : Nat → Bool}
/-- a word of n letters is accepted, n in reach -/
def Hn (d : Nat → Nat → Nat) (acc : Nat → Bool) (N n : Nat) : Prop := N ≤ n ∧ ∃ k, Rn d n k ∧ acc k = true
theorem eM_ask {K : Int32 → Int32 → Sg → Option (Int32 × Sg)} {n : Nat} (ok : autOk N d) (hs : s < 4) (hn : n < 2 * N) {S : Sg} (cM : autM S s N d acc) (h3 : ∀ j, j < N → tv (Rn d n j) (S.1 72 j)) : ∀ (r k fl : Nat), k + r = N → r + 1 ≤ fl → (∀ j, j < k → ¬ (N ≤ n ∧ Rn d n j ∧ acc j = true)) → (Hn d acc N n ∧ f_X10_isEndless_L49 K fl (nI s) (nI n) (nI k) S = some (1, S)) ∨ (¬ Hn d acc N n ∧ f_X10_isEndless_L49 K fl (nI s) (nI n) (nI k) S = f_X10_isEndless_L97 K fu (nI s) (nI n) 0 S) := by
  have hb := ok.2.1
  intro r
  induction r with
  | zero =>
    intro k fl h1 h2 h4
    obtain ⟨f, rfl⟩ : ∃ f, fl = f + 1 := ⟨fl - 1, by omega⟩
    refine Or.inr ⟨?_, ?_⟩
    · rintro ⟨a, j, b, c⟩
      have := Rn_lt ok.2.2 (by have := ok.1; omega) b
      exact h4 j (by omega) ⟨a, b, c⟩
    · rw [f_X10_isEndless_L49, ck_nI hs (by decide), nI_clamp (by omega), cM.1, if_pos (by rw [nI_leI (by omega) (by omega)]; omega), vl_d]
  | succ r ih =>
    intro k fl h1 h2 h4
    obtain ⟨f, rfl⟩ : ∃ f, fl = f + 1 := ⟨fl - 1, by omega⟩
    have hgo : ∀ (hk : ¬ (N ≤ n ∧ Rn d n k ∧ acc k = true)), (Hn d acc N n ∧ f_X10_isEndless_L49 K f (nI s) (nI n) (nI (k + 1)) S = some (1, S)) ∨ (¬ Hn d acc N n ∧ f_X10_isEndless_L49 K f (nI s) (nI n) (nI (k + 1)) S = f_X10_isEndless_L97 K fu (nI s) (nI n) 0 S) := fun hk => ih (k + 1) f (by omega) (by omega) (fun j hj => by
      rcases (show j < k ∨ j = k by omega) with z | rfl
      · exact h4 j z
      · exact hk)
    rw [f_X10_isEndless_L49, ck_nI hs (by decide), nI_clamp (by omega), cM.1, if_neg (by rw [nI_leI (by omega) (by omega)]; omega), ck_nI hs (by decide)]
    by_cases c1 : n < N
    · rw [if_pos (by rw [nI_ltI (by omega) (by omega)]; exact c1), vl_d, nI_1]
      exact hgo (fun z => by omega)
    · rw [if_neg (by rw [nI_ltI (by omega) (by omega)]; exact c1), ck_nI (by omega) (by decide), nI_clamp (by omega)]
      rcases h3 k (by omega) with ⟨v1, hR⟩ | ⟨v0, hR⟩
      · rw [v1, if_neg n10, isAcc_eq hs (by omega) (cM.2.2 k (by omega)), bd2_some]
        cases ha : acc k with
        | true =>
          rw [if_neg (by decide)]
          exact Or.inl ⟨⟨by omega, k, hR, ha⟩, rfl⟩
        | false =>
          rw [if_pos (by decide), vl_d, nI_1]
          exact hgo (fun z => by rw [ha] at z; exact absurd z.2.2 (by decide))
      · rw [v0, if_pos rfl, vl_d, nI_1]
        exact hgo (fun z => hR z.2.1)
theorem eM_main (ok : autOk N d) (hs : s < 4) : ∀ (r n fl : Nat) (S : Sg), autM S s N d acc → n + r = 2 * N → r + 1 ≤ fl → (∀ j, j < N → tv (Rn d n j) (S.1 72 j)) → (∀ n', n' < n → ¬ Hn d acc N n') → ∃ v S', f_X10_isEndless_L35 fl (nI s) (nI n) S = some (v, S') ∧ fr7 S S' ∧ tv (∃ n', n' < 2 * N ∧ Hn d acc N n') v := by
  have hb := ok.2.1
  intro r
  induction r with
  | zero =>
    intro n fl S cM h1 h2 h3 h4
    obtain ⟨f, rfl⟩ : ∃ f, fl = f + 1 := ⟨fl - 1, by omega⟩
    refine ⟨0, S, ?_, fr7_rf S, Or.inr ⟨rfl, fun ⟨n', a, b⟩ => h4 n' (by omega) b⟩⟩
    rw [f_X10_isEndless_L35, ck_nI hs (by decide), nI_clamp (by omega), cM.1, k_2, pk_mul, if_pos (by rw [nI_leI (by omega) (by omega)]; omega)]
  | succ r ih =>
    intro n fl S cM h1 h2 h3 h4
    obtain ⟨f, rfl⟩ : ∃ f, fl = f + 1 := ⟨fl - 1, by omega⟩
    rw [f_X10_isEndless_L35, ck_nI hs (by decide), nI_clamp (by omega), cM.1, k_2, pk_mul, if_neg (by rw [nI_leI (by omega) (by omega)]; omega), vl_d, k_0]
    rcases eM_ask (K := f_X10_isEndless_L35 f) ok hs (n := n) (by omega) cM h3 N 0 fu (by omega) (by unfold fu; omega) (fun j hj => absurd hj (by omega)) with ⟨hH, e⟩ | ⟨hH, e⟩
    · exact ⟨1, S, e, fr7_rf S, Or.inl ⟨rfl, n, by omega, hH⟩⟩
    · obtain ⟨S1, e1, a1, a2⟩ := eM_clear (K := f_X10_isEndless_L35 f) (n := n) ok hs N 0 fu S cM (by omega) (by unfold fu; omega) h3 (fun j hj => absurd hj (by omega))
      obtain ⟨v, S', e2, g1, g2⟩ := ih (n + 1) f S1 (autM_7 cM a1) (by omega) (by omega) a2 (fun n' hn' => by
        rcases (show n' < n ∨ n' = n by omega) with z | rfl
        · exact h4 n' z
        · exact hH)
      refine ⟨v, S', ?_, fr7_tr a1 g1, g2⟩
      rw [e, k_0, e1]
      exact e2
theorem eM_init (ok : autOk N d) (hs : s < 4) : ∀ (r k fl : Nat) (S : Sg), autM S s N d acc → k + r = N → r + 1 ≤ fl → (∀ j, j < k → tv (Rn d 0 j) (S.1 72 j)) → ∃ v S', f_X10_isEndless_L2 fl (nI s) (nI k) S = some (v, S') ∧ fr7 S S' ∧ tv (∃ n', n' < 2 * N ∧ Hn d acc N n') v := by
  have hb := ok.2.1
  intro r
  induction r with
  | zero =>
    intro k fl S cM h1 h2 h3
    obtain ⟨f, rfl⟩ : ∃ f, fl = f + 1 := ⟨fl - 1, by omega⟩
    obtain ⟨v, S', e, g⟩ := eM_main ok hs (2 * N) 0 fu S cM (by omega) (by unfold fu; omega) (fun j hj => h3 j (by omega)) (fun n' hn' => absurd hn' (by omega))
    refine ⟨v, S', ?_, g⟩
    rw [f_X10_isEndless_L2, ck_nI hs (by decide), nI_clamp (by omega), cM.1, if_pos (by rw [nI_leI (by omega) (by omega)]; omega), vl_d, k_0]
    exact e
  | succ r ih =>
    intro k fl S cM h1 h2 h3
    obtain ⟨f, rfl⟩ : ∃ f, fl = f + 1 := ⟨fl - 1, by omega⟩
    by_cases c0 : k = 0
    · subst c0
      obtain ⟨v, S', e, g1, g2⟩ := ih 1 f (sI S 72 0 1) (autM_7 cM (fr7_72 _ _ _)) (by omega) (by omega) (fun j hj => by
        have : j = 0 := by omega
        subst this
        rw [sI_at]
        exact Or.inl ⟨rfl, (Rn_0 d 0).mpr rfl⟩)
      refine ⟨v, S', ?_, fr7_tr (fr7_72 _ _ _) g1, g2⟩
      rw [f_X10_isEndless_L2, ck_nI hs (by decide), nI_clamp (by omega), cM.1, if_neg (by rw [nI_leI (by omega) (by omega)]; omega), if_pos (by decide +kernel), ck_nI (by omega) (by decide), nI_clamp (by omega), nar1, vl_d, vl_d, nI_1]
      exact e
    · obtain ⟨v, S', e, g1, g2⟩ := ih (k + 1) f (sI S 72 k 0) (autM_7 cM (fr7_72 _ _ _)) (by omega) (by omega) (fun j hj => by
        by_cases c : j = k
        · subst c; rw [sI_at]; exact Or.inr ⟨rfl, fun z => c0 ((Rn_0 d j).mp z)⟩
        · rw [sI_ne _ _ (Or.inr c)]; exact h3 j (by omega))
      refine ⟨v, S', ?_, fr7_tr (fr7_72 _ _ _) g1, g2⟩
      rw [f_X10_isEndless_L2, ck_nI hs (by decide), nI_clamp (by omega), cM.1, if_neg (by rw [nI_leI (by omega) (by omega)]; omega), if_neg (by rw [k_0, nI_eq (by omega) (by omega)]; exact c0), ck_nI (by omega) (by decide), nI_clamp (by omega), nar0, vl_d, vl_d, nI_1]
      exact e
theorem endless_eq {S : Sg} (ok : autOk N d) (cM : autM S s N d acc) (hs : s < 4) : ∃ v S', f_X10_isEndless (nI s) S = some (v, S') ∧ fr7 S S' ∧ tv (Inf d acc) v := by
  have hb := ok.2.1
  have h0 := ok.1
  obtain ⟨v, S', e, g1, g2⟩ := eM_init ok hs N 0 fu S cM (by omega) (by unfold fu; omega) (fun j hj => absurd hj (by omega))
  refine ⟨v, S', ?_, g1, tv_iff g2 ?_⟩
  · unfold f_X10_isEndless
    rw [vl_d, k_0]
    exact e
  · rw [inf_iff ok.2.2 (by omega)]
    constructor
    · rintro ⟨n', a, b, k, ⟨w, w1, w2, w3⟩, c⟩
      exact ⟨w, by omega, by omega, w2, by rw [w3]; exact c⟩
    · rintro ⟨w, w1, w2, w3, w4⟩
      exact ⟨w.length, w2, w1, _, ⟨w, rfl, w3, rfl⟩, w4⟩
end EM2
theorem Inv_7 {n : Nat} {S S' : Sg} (hk : fr7 S S') (h : Inv n S) : Inv n S' := by
  have h2 : S'.2.2 = S.2.2 := by rw [hk.1]
  have a : ∀ i, i ≠ 72 → i ≠ 73 → S'.1 i = S.1 i := hk.2
  obtain ⟨i1, i2, i3, i4, i5⟩ := h
  unfold iTape at i1; unfold iTold at i2; unfold iFault at i3
  refine ⟨?_, ?_, ?_, slots_keep h2 (fun i hi => a i (by omega) (by omega)) i4, refs_keep h2 i5⟩
  · unfold iTape; rw [a 0 (by decide) (by decide), a 34 (by decide) (by decide), a 1 (by decide) (by decide), a 35 (by decide) (by decide)]; exact i1
  · unfold iTold; rw [a 32 (by decide) (by decide), a 34 (by decide) (by decide), a 33 (by decide) (by decide), a 54 (by decide) (by decide)]; exact i2
  · unfold iFault; rw [a 3 (by decide) (by decide), a 34 (by decide) (by decide)]; exact i3
theorem ok_look : OK_look Inv := by
  intro n S a b hI
  rcases slotC hI.2.2.2.1 a with ⟨h1, h2⟩ | ⟨s, m, hs, rfl, hm, -, ⟨N, P, d, acc, fr, by_, ok, cC, cM, hP, p1, p2, p3, p4, -, -, -, hfin⟩, h1, h2⟩
  · refine ⟨-1, S, S, ?_, ?_, hI⟩
    · unfold f_X9_look; rw [h1]; rfl
    · unfold f_X10_look; rw [h2]; rfl
  · unfold f_X9_look
    rw [h1, bd2_some, nu_some hm]
    have eM : f_X10_look (nI s) b S = (if b = nI 0 then some (S.1 44 s, S) else if b = nI 1 then some (S.1 47 s, S) else if b = nI 2 then some (S.1 45 s, S) else if b = nI 3 then some (S.1 46 s, S) else if b = nI 4 then bd2 (f_X10_first (nI s) S) (fun r_4 S_3 => if r_4 = (-1 : Int32) then some ((1 : Int32), S_3) else some ((0 : Int32), S_3)) else if b = nI 5 then bd2 (f_X10_isEndless (nI s) S) (fun r_6 S_5 => if r_6 = 0 then some ((1 : Int32), S_5) else some ((0 : Int32), S_5)) else some ((-1 : Int32), S)) := by
      unfold f_X10_look
      rw [h2, bd2_some, if_neg n10, ck_nI hs (by decide), ck_nI hs (by decide), ck_nI hs (by decide), ck_nI hs (by decide), nI_clamp (by omega)]
    by_cases b0 : b = nI 0
    · exact ⟨nI N, S, S, by rw [if_pos b0, cC.1], by rw [eM, if_pos b0, cM.1], hI⟩
    · rw [if_neg b0]
      rw [if_neg b0] at eM
      by_cases b1 : b = nI 1
      · exact ⟨_, S, S, by rw [if_pos b1], by rw [eM, if_pos b1, p3], hI⟩
      · rw [if_neg b1]
        rw [if_neg b1] at eM
        by_cases b2 : b = nI 2
        · exact ⟨_, S, S, by rw [if_pos b2, p1], by rw [eM, if_pos b2, p2], hI⟩
        · rw [if_neg b2]
          rw [if_neg b2] at eM
          by_cases b3 : b = nI 3
          · exact ⟨_, S, S, by rw [if_pos b3], by rw [eM, if_pos b3, p4], hI⟩
          · rw [if_neg b3]
            rw [if_neg b3] at eM
            by_cases b4 : b = nI 4
            · rw [if_pos b4, firstC_eq ok cC, bd2_some]
              rw [if_pos b4, firstM_eq ok cM hs, bd2_some] at eM
              by_cases hf : faI (fa acc N 0) = -1
              · exact ⟨1, S, S, by rw [if_pos hf], by rw [eM, if_pos hf], hI⟩
              · exact ⟨0, S, S, by rw [if_neg hf], by rw [eM, if_neg hf], hI⟩
            · rw [if_neg b4]
              rw [if_neg b4] at eM
              by_cases b5 : b = nI 5
              · rw [if_pos b5]
                rw [if_pos b5] at eM
                obtain ⟨v, S2, e2, g1, g2⟩ := endless_eq ok cM hs
                rw [e2, bd2_some] at eM
                rcases hfin with ⟨f1, f2⟩ | ⟨f1, f2⟩
                · rcases g2 with ⟨v1, z⟩ | ⟨v0, z⟩
                  · exact absurd z f2
                  · exact ⟨1, S, S2, by rw [f1, if_neg n10], by rw [eM, v0, if_pos rfl], Inv_7 g1 hI⟩
                · rcases g2 with ⟨v1, z⟩ | ⟨v0, z⟩
                  · exact ⟨0, S, S2, by rw [f1, if_pos rfl], by rw [eM, v1, if_neg n10], Inv_7 g1 hI⟩
                  · exact absurd f2 z
              · exact ⟨-1, S, S, by rw [if_neg b5], by rw [eM, if_neg b5], hI⟩
