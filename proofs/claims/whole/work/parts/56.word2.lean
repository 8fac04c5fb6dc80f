section TELLM
variable {s N q : Nat} {d : Nat → Nat → Nat} {acc : Nat → Bool}
/-- what is done when the letter x is found -/
def tMfin (K : Int32 → Int32 → Int64 → Int32 → Int32 → Sg → Option (Int32 × Sg)) (d : Nat → Nat → Nat) (s q k i : Nat) (p : Nat × Nat) (S : Sg) : Option (Int32 × Sg) := K (nI s) (nI q) (lN p.2) (nI (d k p.1)) (nI (i + 1)) (sI S 54 i (nI p.1))
theorem tM_step {K : Int32 → Int32 → Int64 → Int32 → Int32 → Sg → Option (Int32 × Sg)} {fl i k x r : Nat} {S : Sg} (ok : autOk N d) (cM : autM S s N d acc) (hs : s < 4) (ht : tabC d acc N (S.2.1 74) (q + 1) 0) (hk : k < N) (hx : x < 4) (hi : i < q) (hq : q ≤ 28) (hr : r < 2 ^ 63) : f_X10_word_L67 K (fl + 1) (nI s) (nI q) (lN r) (nI k) (nI i) (nI x) S = if r < cnt d acc (q - 1 - i) (d k x) then tMfin K d s q k i (x, r) S else f_X10_word_L67 K fl (nI s) (nI q) (lN (r - cnt d acc (q - 1 - i) (d k x))) (nI k) (nI i) (nI (x + 1)) S := by
  have hb := ok.2.1
  have hd := ok.2.2 k hk x hx
  have hc := cnt_b d acc (n := q - 1 - i) (by omega) (d k x)
  rw [f_X10_word_L67, after_eq hs (by omega) hx, bd2_some, cM.2.1 k hk x hx, k_1, pk_sub (by omega), pk_sub (by omega), ixM, ck_nI (by omega) (by decide), nI_clamp (by omega), ht.1 (q - 1 - i) (by omega) _ hd]
  by_cases h : r < cnt d acc (q - 1 - i) (d k x)
  · rw [if_pos ((lcm_lt hr hc).mpr h), if_pos h, ck_nI (by omega) (by decide), nI_clamp (by omega)]
    simp only [vl]
    rw [after_eq hs (by omega) hx, bd2_some, sI_id _ _ _ (by decide), cM.2.1 k hk x hx, nI_add]
    rfl
  · rw [if_neg (fun z => h ((lcm_lt hr hc).mp z)), if_neg h, after_eq hs (by omega) hx, bd2_some, cM.2.1 k hk x hx]
    simp only [vl]
    rw [ixM, ck_nI (by omega) (by decide), nI_clamp (by omega), ht.1 (q - 1 - i) (by omega) _ hd, lN_sub (by omega), nI_add]
theorem tM_pick {K : Int32 → Int32 → Int64 → Int32 → Int32 → Sg → Option (Int32 × Sg)} {i k r : Nat} {S : Sg} (ok : autOk N d) (cM : autM S s N d acc) (hs : s < 4) (ht : tabC d acc N (S.2.1 74) (q + 1) 0) (hk : k < N) (hi : i < q) (hq : q ≤ 28) (hr : r < 2 ^ 63) (hlt : r < cnt d acc (q - 1 - i) (d k 0) + cnt d acc (q - 1 - i) (d k 1) + cnt d acc (q - 1 - i) (d k 2) + cnt d acc (q - 1 - i) (d k 3)) : f_X10_word_L67 K fu (nI s) (nI q) (lN r) (nI k) (nI i) (nI 0) S = tMfin K d s q k i (pk1 (fun x => cnt d acc (q - 1 - i) (d k x)) r) S := by
  rw [fu_s, tM_step ok cM hs ht hk (by omega) hi hq hr]
  unfold pk1
  by_cases h0 : r < cnt d acc (q - 1 - i) (d k 0)
  · rw [if_pos h0, if_pos h0]
  · rw [if_neg h0, if_neg h0, tM_step ok cM hs ht hk (by omega) hi hq (by omega)]
    by_cases h1 : r - cnt d acc (q - 1 - i) (d k 0) < cnt d acc (q - 1 - i) (d k 1)
    · rw [if_pos h1, if_pos h1]
    · rw [if_neg h1, if_neg h1, tM_step ok cM hs ht hk (by omega) hi hq (by omega)]
      by_cases h2 : r - cnt d acc (q - 1 - i) (d k 0) - cnt d acc (q - 1 - i) (d k 1) < cnt d acc (q - 1 - i) (d k 2)
      · rw [if_pos h2, if_pos h2]
      · rw [if_neg h2, if_neg h2, tM_step ok cM hs ht hk (by omega) hi hq (by omega), if_pos (by show r - cnt d acc (q - 1 - i) (d k 0) - cnt d acc (q - 1 - i) (d k 1) - cnt d acc (q - 1 - i) (d k 2) < cnt d acc (q - 1 - i) (d k 3); omega)]
theorem tellM (ok : autOk N d) (hs : s < 4) (hq : q ≤ 28) : ∀ (rem i k r fl : Nat) (S : Sg), autM S s N d acc → tabC d acc N (S.2.1 74) (q + 1) 0 → i + rem = q → k < N → r < cnt d acc rem k → rem + 1 ≤ fl → ∃ S', f_X10_word_L58 fl (nI s) (nI q) (lN r) (nI k) (nI i) S = some (1, S') ∧ S'.2 = S.2 ∧ S'.1 34 25 = nI q ∧ (∀ t, t < i → S'.1 54 t = S.1 54 t) ∧ (∀ t, t < rem → S'.1 54 (i + t) = nI ((wsel d acc rem k r).getD t 0)) ∧ (∀ id, id ≠ 34 → id ≠ 54 → S'.1 id = S.1 id) ∧ ∀ b, b ≠ 25 → S'.1 34 b = S.1 34 b := by
  have hb := ok.2.1
  intro rem
  induction rem with
  | zero =>
    intro i k r fl S cM ht hi hk hr hfl
    obtain ⟨f, rfl⟩ : ∃ f, fl = f + 1 := ⟨fl - 1, by omega⟩
    refine ⟨sI S 34 25 (nI q), ?_, rfl, sI_at _ _ _ _, fun t _ => by rw [sI_id _ _ _ (by decide)], fun t h => absurd h (by omega), fun id h1 _ => sI_id _ _ _ h1, fun b hb => sI_ne _ _ (Or.inr hb)⟩
    rw [f_X10_word_L58, if_pos (by rw [nI_leI (by omega) (by omega)]; omega)]
    rfl
  | succ rem ih =>
    intro i k r fl S cM ht hi hk hr hfl
    obtain ⟨f, rfl⟩ : ∃ f, fl = f + 1 := ⟨fl - 1, by omega⟩
    have hrem : q - 1 - i = rem := by omega
    have hr63 : r < 2 ^ 63 := Nat.lt_trans hr (cnt_b d acc (by omega) k)
    obtain ⟨p1, p2⟩ := pk1_ok (c := fun x => cnt d acc rem (d k x)) (r := r) hr
    have step : f_X10_word_L58 (f + 1) (nI s) (nI q) (lN r) (nI k) (nI i) S = tMfin (f_X10_word_L58 f) d s q k i (pk1 (fun x => cnt d acc rem (d k x)) r) S := by
      rw [f_X10_word_L58, if_neg (by rw [nI_leI (by omega) (by omega)]; omega)]
      simp only [vl]
      rw [k_0, tM_pick ok cM hs ht hk (by omega) hq hr63 (by rw [hrem]; exact hr), hrem]
    have hw : wsel d acc (rem + 1) k r = (pk1 (fun x => cnt d acc rem (d k x)) r).1 :: wsel d acc rem (d k (pk1 (fun x => cnt d acc rem (d k x)) r).1) (pk1 (fun x => cnt d acc rem (d k x)) r).2 := rfl
    generalize pk1 (fun x => cnt d acc rem (d k x)) r = p at p1 p2 step hw
    have hdp := ok.2.2 k hk p.1 p1
    obtain ⟨S', e, g1, g2, g3, g4, g5, g6⟩ := ih (i + 1) (d k p.1) p.2 f (sI S 54 i (nI p.1)) (autM_cg cM (fun j hj hj2 => sI_id _ _ _ (by omega))) ht (by omega) hdp p2 (by omega)
    refine ⟨S', ?_, g1, g2, fun t ht2 => ?_, fun t ht2 => ?_, fun id h1 h2 => by rw [g5 id h1 h2, sI_id _ _ _ h2], fun b hb => by rw [g6 b hb, sI_id _ _ _ (by decide)]⟩
    · rw [step]
      exact e
    · rw [g3 t (by omega), sI_ne _ _ (Or.inr (by omega))]
    · rw [hw]
      by_cases h0 : t = 0
      · subst h0
        rw [Nat.add_zero, g3 i (by omega), sI_at]
        rfl
      · obtain ⟨u, rfl⟩ : ∃ u, t = u + 1 := ⟨t - 1, by omega⟩
        rw [show i + (u + 1) = i + 1 + u by omega, g4 u (by omega)]
        rfl
end TELLM
/-- the told word changed in both alike -/
theorem Inv_told {n : Nat} {S S' : Sg} {q : Nat} {w : Nat → Int32} (hI : Inv n S) (h2 : S'.2.2 = S.2.2) (hq : q ≤ 300) (c1 : S'.1 32 1 = nI q) (m1 : S'.1 34 25 = nI q) (c2 : ∀ t, t < q → S'.1 33 t = w t) (m2 : ∀ t, t < q → S'.1 54 t = w t) (h34 : ∀ b, b ≠ 25 → S'.1 34 b = S.1 34 b) (hk : ∀ id, id = 0 ∨ id = 1 ∨ id = 3 ∨ id = 35 ∨ (44 ≤ id ∧ id ≤ 53) ∨ 79 ≤ id → S'.1 id = S.1 id) : Inv n S' := by
  obtain ⟨⟨t, ht, a1, a2, a3⟩, -, ⟨f1, f2⟩, hs, hr⟩ := hI
  refine ⟨⟨t, ht, by rw [hk 0 (by omega)]; exact a1, by rw [h34 2 (by decide)]; exact a2, fun k hk2 => by rw [hk 1 (by omega), hk 35 (by omega)]; exact a3 k hk2⟩, ⟨q, hq, c1, m1, fun k hk2 => by rw [c2 k hk2, m2 k hk2]⟩, ⟨by rw [hk 3 (by omega), h34 4 (by decide)]; exact f1, by rw [hk 3 (by omega), h34 5 (by decide)]; exact f2⟩, slots_keep h2 (fun i hi => hk i (by omega)) hs, refs_keep h2 hr⟩
theorem lcm_neg (x : Int64) : (0 ≤ lg_cmp x 0) ↔ ¬ x < 0 := by
  unfold lg_cmp
  by_cases h1 : x > 0
  · rw [if_pos h1]
    have h2 : ¬ x < 0 := fun h => Int64.lt_irrefl (Int64.lt_trans h h1)
    exact ⟨fun _ => h2, fun _ => by decide⟩
  · rw [if_neg h1]
    by_cases h2 : x = 0
    · rw [if_pos h2]
      subst h2
      exact ⟨fun _ => by decide, fun _ => by decide⟩
    · rw [if_neg h2]
      refine ⟨fun h => absurd h (by decide), fun h => absurd ?_ h⟩
      rcases Int.lt_trichotomy x.toInt (0 : Int64).toInt with a | a | a
      · exact Int64.lt_iff_toInt_lt.mpr a
      · exact absurd (Int64.toInt_inj.mp a) h2
      · exact absurd (Int64.lt_iff_toInt_lt.mpr a) h1
theorem ok_word : OK_word Inv := by
  intro n S a b x hI
  rcases slotC hI.2.2.2.1 a with ⟨h1, h2⟩ | ⟨s, m, hs, rfl, hm, -, ⟨N, P, d, acc, fr, by_, ok, cC, cM, -⟩, h1, h2⟩
  · refine ⟨0, S, S, ?_, ?_, hI⟩
    · unfold f_X9_word; rw [h1]; rfl
    · unfold f_X10_word; rw [h2]; rfl
  · have hb := ok.2.1
    have h0 := ok.1
    rcases ixc b 29 (by omega) with h | ⟨h, h'⟩ | ⟨q, hq, rfl⟩
    · refine ⟨0, S, S, ?_, ?_, hI⟩
      · unfold f_X9_word; rw [h1, bd2_some, nu_some hm, if_pos h]
      · unfold f_X10_word; rw [h2, bd2_some, if_neg n10, lies_lo h]; rfl
    · refine ⟨0, S, S, ?_, ?_, hI⟩
      · unfold f_X9_word
        rw [h1, bd2_some, nu_some hm, if_neg h, if_pos]
        rw [k_28, Int32.lt_iff_toInt_lt, nI_toInt (by omega)]
        rw [Int32.le_iff_toInt_le, nI_toInt (by omega)] at h'
        omega
      · unfold f_X10_word; rw [h2, bd2_some, if_neg n10, e28, lies_hi h h' (by omega)]; rfl
    · have hcl : f_X10_lies (nI q) 0 28 S = some (1, S) := by rw [e28]; exact lies_in hq (by omega) S
      have hqc : ¬ (28 : Int32) < nI q := by rw [k_28, nI_ltI (by omega) (by omega)]; omega
      by_cases hx : x < 0
      · have hx' : ¬ 0 ≤ lg_cmp x 0 := fun z => (lcm_neg x).mp z hx
        refine ⟨0, S, S, ?_, ?_, hI⟩
        · unfold f_X9_word; rw [h1, bd2_some, nu_some hm, if_neg (nI_pos (by omega)), if_neg hqc, if_neg hx']
        · unfold f_X10_word; rw [h2, bd2_some, if_neg n10, hcl, bd2_some, if_neg n10, if_neg hx']
      · have hx' : 0 ≤ lg_cmp x 0 := (lcm_neg x).mpr hx
        obtain ⟨r, hr, rfl⟩ := pk_lOf hx
        obtain ⟨S1, e1, a1, b1, t1⟩ := count_eq ok cC (qn := q) (by omega)
        have hc := cnt_b d acc (n := q) (by omega) 0
        have eb : f_X0_behind 0 (nI q) S1 = some (lN (cnt d acc q 0), S1) := by rw [k_0, beh (by omega) (by omega), t1.1 q (by omega) 0 (by omega)]
        by_cases hlt : r < cnt d acc q 0
        · have cC1 : autC S1 m N d acc := by unfold autC at *; rw [a1]; exact cC
          obtain ⟨j, hj, hmj⟩ := okM_s hm
          obtain ⟨S2, e2, u1, u2, u3, u4, u5⟩ := tellC ok (by omega) (by omega) q 0 0 r fu S1 cC1 t1 (by omega) (by omega) hlt (by unfold fu; omega)
          have cM2 : autM S2 s N d acc := autM_cg (S := S1) (by unfold autM at *; rw [a1]; exact cM) (fun i i1 i2 => u5 i (by omega) (by omega))
          obtain ⟨S3, e3, a3, b3, t3⟩ := counts_eq ok cM2 hs (qn := q) (by omega)
          have cM3 : autM S3 s N d acc := by unfold autM at *; rw [a3]; exact cM2
          obtain ⟨S4, e4, v1, v2, v3, v4, v5, v6⟩ := tellM ok hs (by omega) q 0 0 r fu S3 cM3 t3 (by omega) (by omega) hlt (by unfold fu; omega)
          have hh : f_X10_has (nI s) S2 = some (1, S2) := has_ok hs cM2.1 h0 hb
          have t30 := t3.1 q (by omega) 0 (by omega)
          rw [Nat.add_zero] at t30
          refine ⟨1, S2, S4, ?_, ?_, ?_⟩
          · unfold f_X9_word
            rw [h1, bd2_some, nu_some hm, if_neg (nI_pos (by omega)), if_neg hqc, if_pos hx', e1, bd_some, eb, bd2_some, if_pos ((lcm_lt hr hc).mpr hlt)]
            unfold f_X0_tellWord
            simp only [vl]
            rw [k_0, e2]
            rfl
          · unfold f_X10_word
            rw [hh, bd2_some, if_neg n10, e28, lies_in hq (by omega), bd2_some, if_neg n10, if_pos hx', e3, bd_some, k_150, pk_mul, ck_nI (by omega) (by decide), nI_clamp (by omega), t30, if_pos ((lcm_lt hr hc).mpr hlt)]
            simp only [vl]
            rw [k_0]
            exact e4
          · have w22 : S4.2.2 = S.2.2 := by rw [v1, b3, u1, b1]
            refine Inv_told (q := q) (w := fun t => nI ((wsel d acc q 0 r).getD t 0)) hI w22 (by omega) ?_ v2 ?_ ?_ ?_ ?_
            · rw [v5 32 (by decide) (by decide), a3]; exact u2
            · intro t ht
              rw [v5 33 (by decide) (by decide), a3]
              have := u4 t ht
              rw [Nat.zero_add] at this
              exact this
            · intro t ht
              have := v4 t ht
              rw [Nat.zero_add] at this
              exact this
            · intro c hc2
              rw [v6 c hc2, a3, u5 34 (by decide) (by decide), a1]
            · intro id hid
              rw [v5 id (by omega) (by omega), a3, u5 id (by omega) (by omega), a1]
        · have cM1 : autM S1 s N d acc := by unfold autM at *; rw [a1]; exact cM
          obtain ⟨S3, e3, a3, b3, t3⟩ := counts_eq ok cM1 hs (qn := q) (by omega)
          have hh : f_X10_has (nI s) S1 = some (1, S1) := has_ok hs cM1.1 h0 hb
          have t30 := t3.1 q (by omega) 0 (by omega)
          rw [Nat.add_zero] at t30
          refine ⟨0, S1, S3, ?_, ?_, Inv_1 (a3.trans a1) (b3.trans b1) hI⟩
          · unfold f_X9_word
            rw [h1, bd2_some, nu_some hm, if_neg (nI_pos (by omega)), if_neg hqc, if_pos hx', e1, bd_some, eb, bd2_some, if_neg (fun z => hlt ((lcm_lt hr hc).mp z))]
          · unfold f_X10_word
            rw [hh, bd2_some, if_neg n10, e28, lies_in hq (by omega), bd2_some, if_neg n10, if_pos hx', e3, bd_some, k_150, pk_mul, ck_nI (by omega) (by decide), nI_clamp (by omega), t30, if_neg (fun z => hlt ((lcm_lt hr hc).mp z))]
