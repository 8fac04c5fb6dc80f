section WHOLE
variable {n : Nat} {tx : Nat → Nat}
theorem side_sim {g0 g1 : Int32 → Sg → Option (Int64 × Sg)} {o : Nat} (ok : okT n tx) (hS : o < 10 → ∀ (l : Nat) (S T : Sg) (a P c fl gl : Nat) (vs : List Int64), tsim n tx S T a P c vs (o + 1) l → c ≤ a → n + 2 ≤ fl + a → n + 2 ≤ gl + a → outS n tx (o + 1) l a c vs S T (g0 (nI (o + 1)) S) (HM fl gl T)) (hT : o < 10 → ∀ (l : Nat) (S T : Sg) (a P c fl gl : Nat) (vs : List Int64), tsim n tx S T a P c vs (o + 1) l → c ≤ a → n + 2 ≤ fl + a → n + 2 ≤ gl + a → T.1 63 l = 0 → T.1 64 l = 0 → brk (o + 1) T → outTp n tx (o + 1) l a c vs S T (g1 (nI (o + 1)) S) (HM fl gl T)) (l : Nat) (S T : Sg) (a P c fl gl : Nat) (vs : List Int64) (h : tsim n tx S T a P c vs o l) (hca : c ≤ a) (hfl : n + 2 ≤ fl + a) (hgl : n + 2 ≤ gl + a) : outS n tx o l a c vs S T (f_X6_side g0 g1 (nI o) S) (HM fl gl T) := by
  have hn := ok.1
  have h' := h
  obtain ⟨hbs, hpl, ho, hl, ho10, hlo⟩ := h
  have hbs' := hbs
  obtain ⟨tc, tm, c1, c2, d1, d2, e1, e2, hP, hpv, ha, h8⟩ := hbs
  obtain ⟨gl1, rfl⟩ : ∃ gl1, gl = gl1 + 1 := ⟨gl - 1, by omega⟩
  by_cases hop : chr n tx a = 33 ∨ chr n tx a = 123
  · have han := chr_in (n := n) (tx := tx) (a := a) (by omega)
    have hcl : f_X6_side g0 g1 (nI o) S = f_X6_side_L22 g0 g1 (nI o) (sgn n tx a) S := by
      unfold f_X6_side
      rw [sign_eq ok tc (by omega), bd2_some, vl_d, k_33, k_123]
      by_cases h33 : chr n tx a = 33
      · rw [if_pos ((sgn_is ok (by decide)).mpr h33)]
      · rw [if_neg (fun z => h33 ((sgn_is ok (by decide)).mp z)), if_pos ((sgn_is ok (by decide)).mpr (by omega))]
    have hml : HM fl (gl1 + 1) T = f_X10_whole_L87 (f_X10_whole_L62 (f_X10_whole_L51 fl) gl1) 1 T := by
      unfold HM
      rw [f_X10_whole_L62, if_pos d1, k_33, ms_is ok tm (by omega) (by decide)]
      by_cases h33 : chr n tx a = 33
      · rw [if_pos h33]
      · rw [if_neg h33, k_123, ms_is ok tm (by omega) (by decide), if_pos (by omega)]
    rw [hcl, hml]
    by_cases h10 : o = 10
    · obtain ⟨S1, y1, y2⟩ := refuse_eq 2 tc c1
      obtain ⟨T1, z1, z2, -⟩ := bad_eq (a := a) 2 d1
      refine Or.inr ⟨0, S1, T1, 2, a, ?_, ?_, dT_ft tc h8 (Or.inr rfl) y2, ⟨z2.2.2.2.1, z2.2.2.2.2⟩, gCl_ft y2, gMl_ft z2⟩
      · unfold f_X6_side_L22
        rw [if_neg (by rw [k_10, nI_ltI (by omega) (by omega)]; omega), y1, bd_some]
      · unfold f_X10_whole_L87
        rw [ho, k_10, if_pos (by rw [h10]), tm.2.1, z1, bd_some]
        unfold f_X10_whole_L105
        rw [if_neg (nle1 (Or.inr z2.2.2.2.1)).1]
    · have hm2 : f_X10_whole_L87 (f_X10_whole_L62 (f_X10_whole_L51 fl) gl1) 1 T = f_X10_whole_L105 (f_X10_whole_L62 (f_X10_whole_L51 fl) gl1) 1 T := by
        unfold f_X10_whole_L87
        rw [ho, k_10, if_neg (by rw [nI_eq (by omega) (by omega)]; exact h10)]
      rw [hm2]
      have olt : nI o < (10 : Int32) := by rw [k_10, nI_ltI (by omega) (by omega)]; omega
      let T1 : Sg := sI (sI T 62 o (bI (decide (chr n tx a = 123)))) 34 29 (nI (o + 1))
      have t34 : ∀ i, i ≠ 29 → T1.1 34 i = T.1 34 i := fun i hi => by
        show (sI (sI T 62 o (bI (decide (chr n tx a = 123)))) 34 29 (nI (o + 1))).1 34 i = _
        rw [sI_ne _ _ (Or.inr hi), sI_id _ _ _ (by decide)]
      have tid : ∀ id, id ≠ 34 → id ≠ 62 → T1.1 id = T.1 id := fun id i1 i2 => by
        show (sI (sI T 62 o (bI (decide (chr n tx a = 123)))) 34 29 (nI (o + 1))).1 id = _
        rw [sI_id _ _ _ i1, sI_id _ _ _ i2]
      have t62 : ∀ k, T1.1 62 k = if k = o then bI (decide (chr n tx a = 123)) else T.1 62 k := fun k => by
        show (sI (sI T 62 o (bI (decide (chr n tx a = 123)))) 34 29 (nI (o + 1))).1 62 k = _
        rw [sI_id _ _ _ (by decide)]
        by_cases hk : k = o
        · rw [if_pos hk, hk, sI_at]
        · rw [if_neg hk, sI_ne _ _ (Or.inr hk)]
      have hb1 : bsim n tx S T1 a P := bsim_M hbs' (fun id i1 i2 => tid id (by omega) (by omega)) (t34 3 (by decide)) (t34 4 (by decide)) (t34 5 (by decide)) (t34 6 (by decide)) (t34 27 (by decide))
      have h1 : tsim n tx S T1 a P c vs (o + 1) l := ⟨hb1, pl_f hpl (tid 43 (by decide) (by decide)) (t34 13 (by decide)), sI_at _ _ _ _, by rw [t34 43 (by decide)]; exact hl, by omega, by omega⟩
      have gM1 : gMl T T1 := ⟨rfl, fun id i1 i2 i3 => tid id i1 (by omega), fun b hb => t34 b hb.2.2.2.2.2.2.1⟩
      have rw1 : rwF o (l + 1) T T1 := ⟨fun k hk => by rw [t62, if_neg (by omega)], fun k _ => ⟨by rw [tid 63 (by decide) (by decide)], by rw [tid 64 (by decide) (by decide)]⟩⟩
      have hm3 : f_X10_whole_L105 (f_X10_whole_L62 (f_X10_whole_L51 fl) gl1) 1 T = if chr n tx a = 123 then HM fl gl1 (sI (sI (sI (sI T1 34 43 (nI (l + 1))) 63 (l + 1) 0) 64 (l + 1) 0) 34 27 (nI (a + 1))) else HM fl gl1 (sI T1 34 27 (nI (a + 1))) := by
        unfold f_X10_whole_L105
        rw [if_pos (le00 d1), k_123, sees_eq ok tm (by omega) (by decide), bd2_some, ho, ck_nI (by omega) (by decide), nI_clamp (by omega), nar_b, vl_d, sI_id _ _ _ (by decide), ho, nI_1, vl_d]
        show bd2 (f_X10_sees (nI 123) T1) _ = _
        rw [ms_is ok hb1.2.1 (by omega) (by decide), t34 27 (by decide), tm.2.1, t34 43 (by decide), hl]
        by_cases h123 : chr n tx a = 123
        · rw [if_pos h123, if_pos h123, nI_1, vl_d, sI_at, ck_nI (by omega) (by decide), nI_clamp (by omega), nar_0, vl_d, sI_id _ _ _ (by decide), sI_at, ck_nI (by omega) (by decide), nI_clamp (by omega), vl_d, sI_id _ _ _ (by decide), sI_id _ _ _ (by decide), sI_ne _ _ (Or.inr (by decide)), t34 27 (by decide), tm.2.1, nI_1, vl_d]
          rfl
        · rw [if_neg h123, if_neg h123, nI_1, vl_d]
          rfl
      rw [hm3]
      by_cases h123 : chr n tx a = 123
      · rw [if_pos h123]
        have hcl2 : f_X6_side_L22 g0 g1 (nI o) (sgn n tx a) S = bd2 (g1 (nI (o + 1)) (sI S 3 2 (nI (a + 1)))) (fun r_6 S_5 => bd (f_X6_pass (nI 125) S_5) (fun S_8 => some (r_6, S_8))) := by
          unfold f_X6_side_L22
          rw [if_pos olt, tc.2.1, nI_1, vl_d, k_33, if_neg (fun z => by have := (sgn_is ok (by decide)).mp z; omega), nI_1, k_125]
          simp only [vl_d]
        rw [hcl2]
        let T2 : Sg := sI (sI (sI T1 34 43 (nI (l + 1))) 63 (l + 1) 0) 64 (l + 1) 0
        have u34 : ∀ i, i ≠ 43 → T2.1 34 i = T1.1 34 i := fun i hi => by
          show (sI (sI (sI T1 34 43 (nI (l + 1))) 63 (l + 1) 0) 64 (l + 1) 0).1 34 i = _
          rw [sI_id _ _ _ (by decide), sI_id _ _ _ (by decide), sI_ne _ _ (Or.inr hi)]
        have uid : ∀ id, id ≠ 34 → id ≠ 63 → id ≠ 64 → T2.1 id = T1.1 id := fun id i1 i2 i3 => by
          show (sI (sI (sI T1 34 43 (nI (l + 1))) 63 (l + 1) 0) 64 (l + 1) 0).1 id = _
          rw [sI_id _ _ _ i3, sI_id _ _ _ i2, sI_id _ _ _ i1]
        have u63 : ∀ k, T2.1 63 k = if k = l + 1 then 0 else T1.1 63 k := fun k => by
          show (sI (sI (sI T1 34 43 (nI (l + 1))) 63 (l + 1) 0) 64 (l + 1) 0).1 63 k = _
          rw [sI_id _ _ _ (by decide)]
          by_cases hk : k = l + 1
          · rw [if_pos hk, hk, sI_at]
          · rw [if_neg hk, sI_ne _ _ (Or.inr hk), sI_id _ _ _ (by decide)]
        have u64 : ∀ k, T2.1 64 k = if k = l + 1 then 0 else T1.1 64 k := fun k => by
          show (sI (sI (sI T1 34 43 (nI (l + 1))) 63 (l + 1) 0) 64 (l + 1) 0).1 64 k = _
          by_cases hk : k = l + 1
          · rw [if_pos hk, hk, sI_at]
          · rw [if_neg hk, sI_ne _ _ (Or.inr hk), sI_id _ _ _ (by decide), sI_id _ _ _ (by decide)]
        have h2 : tsim n tx S T2 a P c vs (o + 1) (l + 1) := by
          refine ⟨bsim_M hb1 (fun id i1 i2 => uid id (by omega) (by omega) (by omega)) (u34 3 (by decide)) (u34 4 (by decide)) (u34 5 (by decide)) (u34 6 (by decide)) (u34 27 (by decide)), pl_f h1.2.1 (uid 43 (by decide) (by decide) (by decide)) (u34 13 (by decide)), by rw [u34 29 (by decide)]; exact h1.2.2.1, ?_, by omega, by omega⟩
          show (sI (sI (sI T1 34 43 (nI (l + 1))) 63 (l + 1) 0) 64 (l + 1) 0).1 34 43 = _
          rw [sI_id _ _ _ (by decide), sI_id _ _ _ (by decide), sI_at]
        have h3 := tsim_at h2 (b := a + 1) (by omega)
        have gM2 : gMl T (sI T2 34 27 (nI (a + 1))) := gMl_t gM1 (gMl_t (T' := T2) ⟨rfl, fun id i1 i2 i3 => uid id i1 (by omega) (by omega), fun b hb => u34 b hb.2.2.2.2.2.2.2.2.2.2⟩ (gMl_at _ _))
        have rw2 : rwF o (l + 1) T (sI T2 34 27 (nI (a + 1))) := rwF_t rw1 ⟨fun k _ => by rw [sI_id _ _ _ (by decide), uid 62 (by decide) (by decide) (by decide)], fun k hk => ⟨by rw [sI_id _ _ _ (by decide), u63, if_neg (by omega)], by rw [sI_id _ _ _ (by decide), u64, if_neg (by omega)]⟩⟩
        show outS n tx o l a c vs S T _ (HM fl gl1 (sI T2 34 27 (nI (a + 1))))
        rcases hT (by omega) (l + 1) (sI S 3 2 (nI (a + 1))) (sI T2 34 27 (nI (a + 1))) (a + 1) P c fl gl1 vs h3 (by omega) (by omega) (by omega) (by rw [sI_id _ _ _ (by decide), u63, if_pos rfl]) (by rw [sI_id _ _ _ (by decide), u64, if_pos rfl]) (Or.inr (by rw [sI_id _ _ _ (by decide), uid 62 (by decide) (by decide) (by decide), Nat.add_sub_cancel, t62, if_pos rfl, b_t h123])) with ⟨v, S1, T3, b, P1, c', fl2, gl2, e, ws, q1, q2, q3, q4, q5, q6, q7, q8, q9, q10, q11, q12, q13, q14, q15⟩ | hX
        · have hb := q3.1.2.2.2.2.2.2.2.2.2.2.1
          have tc3 := q3.1.1
          have tm3 := q3.1.2.1
          obtain ⟨gl3, rfl⟩ : ∃ gl3, gl2 = gl3 + 1 := ⟨gl2 - 1, by omega⟩
          obtain ⟨fl3, rfl⟩ : ∃ fl3, fl2 = fl3 + 1 := ⟨fl2 - 1, by omega⟩
          by_cases h125 : chr n tx b = 125
          · have hbn := chr_in (n := n) (tx := tx) (a := b) (by omega)
            obtain ⟨T4, y1, y2, y3, y4, y5, y6⟩ := ME_eq q3 q15 q4 (by omega)
            let T5 : Sg := sI (sI T4 34 43 (nI l)) 34 29 (nI o)
            have x34 : ∀ i, i ≠ 43 → i ≠ 29 → T5.1 34 i = T4.1 34 i := fun i i1 i2 => by
              show (sI (sI T4 34 43 (nI l)) 34 29 (nI o)).1 34 i = _
              rw [sI_ne _ _ (Or.inr i2), sI_ne _ _ (Or.inr i1)]
            have xid : ∀ id, id ≠ 34 → T5.1 id = T4.1 id := fun id i1 => by
              show (sI (sI T4 34 43 (nI l)) 34 29 (nI o)).1 id = _
              rw [sI_id _ _ _ i1, sI_id _ _ _ i1]
            have h5 : tsim n tx S1 T5 b P1 (c' + e.toNat) (v :: vs) o l := by
              refine ⟨bsim_M y2.1 (fun id i1 i2 => xid id (by omega)) (x34 3 (by decide) (by decide)) (x34 4 (by decide) (by decide)) (x34 5 (by decide) (by decide)) (x34 6 (by decide) (by decide)) (x34 27 (by decide) (by decide)), pl_f y2.2.1 (xid 43 (by decide)) (x34 13 (by decide) (by decide)), sI_at _ _ _ _, ?_, by omega, hlo⟩
              show (sI (sI T4 34 43 (nI l)) 34 29 (nI o)).1 34 43 = _
              rw [sI_ne _ _ (Or.inr (by decide)), sI_at]
            have h6 := tsim_at h5 (b := b + 1) (by omega)
            refine Or.inl ⟨v, sI S1 3 2 (nI (b + 1)), sI T5 34 27 (nI (b + 1)), b + 1, P1, c' + e.toNat, fu, fl3 + 1, gl3, ?_, ?_, h6, by omega, by omega, by unfold fu; omega, by omega, by omega, gCl_t (gCl_at S (nI (a + 1))) (gCl_t q11 (gCl_at S1 _)), gMl_t gM2 (gMl_t q12 (gMl_t y5 (gMl_t (T' := T5) ⟨rfl, fun id i1 _ _ => xid id i1, fun i hi => x34 i hi.2.2.2.2.2.2.2.2.2.2 hi.2.2.2.2.2.2.1⟩ (gMl_at _ _)))), rwF_t rw2 (rwF_t (rwF_le q13 (by omega) (by omega)) (rwF_t (rwF_le y6 (by omega) (by omega)) (rwF_id ?_ ?_ ?_)))⟩
            · rw [q1, bd2_some, pass_t (by decide) ok tc3 hb h125, bd_some]
            · rw [q2]
              unfold AM
              rw [f_X10_whole_L221, q3.2.2.2.1, if_neg (by rw [k_0, nI_leI (by omega) (by omega)]; omega), k_125, ms_is ok tm3 (by omega) (by decide), if_pos h125, y1, bd_some, y2.2.2.2.1, k_1, pk_sub (by omega), Nat.add_sub_cancel, vl_d, sI_ne _ _ (Or.inr (by decide)), y2.2.2.1, pk_sub (by omega), Nat.add_sub_cancel, vl_d, sI_ne _ _ (Or.inr (by decide)), sI_ne _ _ (Or.inr (by decide)), y2.1.2.1.2.1, ← k_1, nI_1, vl_d]
              rfl
            · rw [sI_id _ _ _ (by decide), xid 62 (by decide)]
            · rw [sI_id _ _ _ (by decide), xid 63 (by decide)]
            · rw [sI_id _ _ _ (by decide), xid 64 (by decide)]
          · obtain ⟨S2, y1, y2⟩ := pass_f (S := S1) (v := 125) (by decide) ok tc3 hb h125 q3.1.2.2.1
            obtain ⟨T4, z1, z2, -⟩ := need_0 tm3.2.1 q3.1.2.2.2.2.1
            have n4 := nle1 (x := T4.1 34 4) (Or.inl z2.2.2.2.1)
            refine Or.inr ⟨v, S2, T4, 1, b, ?_, ?_, dT_ft tc3 q3.1.2.2.2.2.2.2.2.2.2.2.2 (Or.inl rfl) y2, ⟨z2.2.2.2.1, z2.2.2.2.2⟩, gCl_t (gCl_at S (nI (a + 1))) (gCl_t q11 (gCl_ft y2)), gMl_t gM2 (gMl_t q12 (gMl_ft z2))⟩
            · rw [q1, bd2_some, y1, bd_some]
            · rw [q2, AM_278 ok q3 (Or.inr h125)]
              have fin : f_X10_whole_L51 (fl3 + 1) 0 T4 = some T4 := by
                rw [f_X10_whole_L51, if_pos rfl]
                unfold f_X10_whole_L378
                rw [if_neg n4.2]
              unfold f_X10_whole_L278
              rw [k_38, ms_is ok tm3 (by omega) (by decide), if_neg q9, k_44, ms_is ok tm3 (by omega) (by decide), if_neg q10, q3.2.2.2.1, if_neg (show ¬ nI (l + 1) = 0 by rw [k_0, nI_eq (by omega) (by omega)]; omega), z1, bd_some, vl_d, fin]
              by_cases hz : T3.1 34 27 = T3.1 34 3
              · rw [if_pos hz]
              · rw [if_neg hz]
        · obtain ⟨w, S1, T3, e, pl', q1, q2, q3, q4, q5, q6⟩ := hX
          refine Or.inr ⟨w, S1, T3, e, pl', ?_, q2, q3, q4, gCl_t (gCl_at S (nI (a + 1))) q5, gMl_t gM2 q6⟩
          rw [q1, bd2_some, pass_d (by decide) ok q3.1 (by rw [q3.2.1]; exact (nle1 q3.2.2.2.2).2), bd_some]
      · rw [if_neg h123]
        have h33 : chr n tx a = 33 := by omega
        have hcl2 : f_X6_side_L22 g0 g1 (nI o) (sgn n tx a) S = bd2 (g0 (nI (o + 1)) (sI S 3 2 (nI (a + 1)))) (fun r_10 S_9 => some ((r_10 ^^^ (-1 : Int64)), S_9)) := by
          unfold f_X6_side_L22
          rw [if_pos olt, tc.2.1, nI_1, vl_d, k_33, if_pos ((sgn_is ok (by decide)).mpr h33), nI_1]
        rw [hcl2]
        have h3 := tsim_at h1 (b := a + 1) (by omega)
        have gM2 : gMl T (sI T1 34 27 (nI (a + 1))) := gMl_t gM1 (gMl_at _ _)
        have rw2 : rwF o (l + 1) T (sI T1 34 27 (nI (a + 1))) := rwF_t rw1 (rwF_id (sI_id _ _ _ (by decide)) (sI_id _ _ _ (by decide)) (sI_id _ _ _ (by decide)))
        rcases hS (by omega) l (sI S 3 2 (nI (a + 1))) (sI T1 34 27 (nI (a + 1))) (a + 1) P c fl gl1 vs h3 (by omega) (by omega) (by omega) with ⟨w, S1, T3, b, P1, c', el, fl2, gl2, q1, q2, q3, q4, q5, q6, q7, q8, q9, q10, q11⟩ | hX
        · have hb := q3.1.2.2.2.2.2.2.2.2.2.2.1
          obtain ⟨el1, rfl⟩ : ∃ el1, el = el1 + 1 := ⟨el - 1, by omega⟩
          obtain ⟨T4, y1, y2, y3, y4⟩ := EM_not (el := el1) (fl := fl2) (gl := gl2) q3 (by rw [q11.1 o (by omega), sI_id _ _ _ (by decide), t62, if_pos rfl, b_f h123]) (by omega) hlo
          exact Or.inl ⟨w ^^^ (-1 : Int64), S1, T4, b, P1, c' + 1, el1, fl2, gl2, by rw [q1, bd2_some], by rw [q2, y1], y2, by omega, by omega, by omega, q7, q8, gCl_t (gCl_at S (nI (a + 1))) q9, gMl_t gM2 (gMl_t q10 y3), rwF_t rw2 (rwF_t (rwF_le q11 (by omega) (by omega)) y4)⟩
        · obtain ⟨w, S1, T3, e, pl', q1, q2, q3, q4, q5, q6⟩ := hX
          exact Or.inr ⟨w ^^^ (-1 : Int64), S1, T3, e, pl', by rw [q1, bd2_some], q2, q3, q4, gCl_t (gCl_at S (nI (a + 1))) q5, gMl_t gM2 q6⟩
  · have hcl : f_X6_side g0 g1 (nI o) S = bd2 (f_X6_joinedPart S) (fun r_13 S_12 => some (r_13, S_12)) := by
      unfold f_X6_side
      rw [sign_eq ok tc (by omega), bd2_some, vl_d, k_33, k_123, if_neg (fun z => hop (Or.inl ((sgn_is ok (by decide)).mp z))), if_neg (fun z => hop (Or.inr ((sgn_is ok (by decide)).mp z)))]
    have hml : HM fl (gl1 + 1) T = f_X10_whole_L190 (f_X10_whole_L51 fl) 1 T := by
      unfold HM
      rw [f_X10_whole_L62, if_pos d1, k_33, ms_is ok tm (by omega) (by decide), if_neg (fun z => hop (Or.inl z)), k_123, ms_is ok tm (by omega) (by decide), if_neg (fun z => hop (Or.inr z))]
    rw [hcl, hml]
    rcases joined_sim ok h' hca hfl with ⟨v, S', T', b, P', c', el, fl', gl', q1, q⟩ | ⟨v, S', T', e, pl', q1, q⟩
    · exact Or.inl ⟨v, S', T', b, P', c', el, fl', gl', by rw [q1, bd2_some], q⟩
    · exact Or.inr ⟨v, S', T', e, pl', by rw [q1, bd2_some], q⟩
theorem sideR_sim (ok : okT n tx) : ∀ (k o : Nat), o + k = 10 → ∀ (l : Nat) (S T : Sg) (a P c fl gl : Nat) (vs : List Int64), tsim n tx S T a P c vs o l → c ≤ a → n + 2 ≤ fl + a → n + 2 ≤ gl + a → outS n tx o l a c vs S T (f_X6_sideR (k + 2) (nI o) S) (HM fl gl T) := by
  intro k
  induction k with
  | zero =>
    intro o ho l S T a P c fl gl vs h hc hfl hgl
    rw [f_X6_sideR]
    exact side_sim ok (fun z => absurd z (by omega)) (fun z => absurd z (by omega)) l S T a P c fl gl vs h hc hfl hgl
  | succ k ih =>
    intro o ho l S T a P c fl gl vs h hc hfl hgl
    rw [f_X6_sideR]
    exact side_sim ok (fun _ => ih (o + 1) (by omega)) (fun _ l => top_sim ok (meet_sim ok (ih (o + 1) (by omega) l))) l S T a P c fl gl vs h hc hfl hgl
theorem topR_sim (ok : okT n tx) (S T : Sg) (fl gl : Nat) (h : tsim n tx S T 0 0 0 [] 0 0) (hfl : n + 2 ≤ fl) (hgl : n + 2 ≤ gl) (h63 : T.1 63 0 = 0) (h64 : T.1 64 0 = 0) : outTp n tx 0 0 0 0 [] S T (f_X6_topR 12 (nI 0) S) (HM fl gl T) := by
  unfold f_X6_topR
  exact top_sim ok (meet_sim ok (sideR_sim ok 10 0 (by omega) 0)) S T 0 0 0 fl gl [] h (by omega) (by omega) (by omega) h63 h64 (Or.inl rfl)
end WHOLE
