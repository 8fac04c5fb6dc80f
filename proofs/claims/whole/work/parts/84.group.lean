section GROUP
variable {n : Nat} {tx : Nat → Nat} {p D : Nat}
theorem opens_eq {T : Sg} (hD : D ≤ 10) (hd : T.1 34 28 = nI D) : ∃ T', f_X10_opens T = some T' ∧ T'.1 55 D = 0 ∧ anyv T' D 0 0 false ∧ T'.2 = T.2 ∧ (∀ id, id < 55 ∨ 61 < id → T'.1 id = T.1 id) ∧ ∀ id d, d ≠ D → T'.1 id d = T.1 id d := by
  refine ⟨sI (sI (sI (sI T 55 D 0) 59 D 0) 60 D 0) 61 D 0, ?_, ?_, ⟨?_, sI_at _ _ _ _, ?_⟩, rfl, fun id hid => by rw [sI_id _ _ _ (by omega), sI_id _ _ _ (by omega), sI_id _ _ _ (by omega), sI_id _ _ _ (by omega)], fun id d hd => by rw [sI_ne _ _ (Or.inr hd), sI_ne _ _ (Or.inr hd), sI_ne _ _ (Or.inr hd), sI_ne _ _ (Or.inr hd)]⟩
  · unfold f_X10_opens
    rw [hd, ck_nI (by omega) (by decide), nI_clamp (by omega), nar_0, vl_d, sI_id _ _ _ (by decide), hd, ck_nI (by omega) (by decide), nI_clamp (by omega), vl_d, sI_id _ _ _ (by decide), sI_id _ _ _ (by decide), hd, ck_nI (by omega) (by decide), nI_clamp (by omega), vl_d, sI_id _ _ _ (by decide), sI_id _ _ _ (by decide), sI_id _ _ _ (by decide), hd, ck_nI (by omega) (by decide), nI_clamp (by omega), vl_d]
  · rw [sI_id _ _ _ (by decide), sI_id _ _ _ (by decide), sI_id _ _ _ (by decide), sI_at]
  · rw [sI_id _ _ _ (by decide), sI_at]
  · rw [sI_id _ _ _ (by decide), sI_id _ _ _ (by decide), sI_at]; rfl
theorem group_sim {g : Int32 → Sg → Option Sg} (ok : okT n tx) (hP : D < 10 → ∀ (S T : Sg) (a fl : Nat), sim n tx p (D + 1) S T a → n + 2 ≤ fl + a → T.1 55 (D + 1) = 0 → anyv T (D + 1) 0 0 false → outP n tx p (D + 1) S T (a + 1) (g (nI (D + 1)) S) (hdM fl T)) (S T : Sg) (a fl : Nat) (h : sim n tx p D S T a) (h40 : chr n tx a = 40) (hfl : n + 2 ≤ fl + a) : outA n tx p D S T a (f_X6_group g (nI D) S) (hdM fl T) := by
  have hn := ok.1
  have h' := h
  obtain ⟨sc, F, R, L, hC, hM, hrl, hs, hp, ha, hD⟩ := h
  have han := chr_in (n := n) (tx := tx) (a := a) (by omega)
  obtain ⟨f, rfl⟩ : ∃ f, fl = f + 1 := ⟨fl - 1, by omega⟩
  have hat : isAt (chr n tx a) := by rw [h40]; decide
  have hd : T.1 34 28 = nI D := hM.2.2.2.2.2.2
  have hm1 : hdM (f + 1) T = if D = 10 then bd (f_X10_bad 2 (nI a) T) (fun S_40 => f_X10_part_L106 (f_X10_part_L52 f) 1 S_40) else f_X10_part_L106 (f_X10_part_L52 f) 1 T := by
    unfold hdM
    rw [f_X10_part_L52, if_neg n10, if_pos hM.2.1, seesAtom_eq ok hM.1 (by omega), bd2_some, b_t hat, need_1, bd_some, if_pos (le00 hM.2.1), k_40, ms_is ok hM.1 (by omega) (by decide), if_pos h40, hd, hM.1.2.1, k_10]
    by_cases h10 : D = 10
    · rw [if_pos (by rw [h10]), if_pos h10]
    · rw [if_neg (by rw [nI_eq (by omega) (by omega)]; exact h10), if_neg h10]
  rw [hm1]
  by_cases h10 : D = 10
  · obtain ⟨T1, e1, w1, -⟩ := bad_eq (a := a) 2 hM.2.1
    have n4 := nle1 (x := T1.1 34 4) (Or.inr w1.2.2.2.1)
    rw [if_pos h10]
    refine Or.inr (refuse_out hC hs (Or.inr rfl) ?_ rfl ?_ w1)
    · unfold f_X6_group
      rw [if_neg (by rw [k_10, nI_ltI (by omega) (by omega)]; omega)]
    · rw [e1, bd_some]
      unfold f_X10_part_L106
      rw [if_neg n4.1]
  · rw [if_neg h10]
    have hM1 : vwM n tx (sI T 34 28 (nI (D + 1))) a p sc F L (D + 1) := vwM_34 hM (fun id hid _ => sI_id _ _ _ hid) (sI_ne _ _ (Or.inr (by decide))) (by rw [sI_ne _ _ (Or.inr (by decide))]; exact hM.1.2.1) (sI_ne _ _ (Or.inr (by decide))) (sI_ne _ _ (Or.inr (by decide))) (sI_ne _ _ (Or.inr (by decide))) (sI_at _ _ _ _)
    obtain ⟨T1, y1, y2, y3, y4, y5, y6⟩ := opens_eq (T := sI T 34 28 (nI (D + 1))) (D := D + 1) (by omega) (sI_at _ _ _ _)
    have s0 : sim n tx p (D + 1) S (sI T 34 28 (nI (D + 1))) a := ⟨sc, F, R, L, hC, hM1, hrl, hs, hp, ha, by omega⟩
    have s1 : sim n tx p (D + 1) S T1 a := sim_rows s0 y5
    have s2 := sim_at s1 (b := a + 1) (by omega)
    have m27 : T1.1 34 27 = nI a := by rw [y5 34 (by omega), sI_ne _ _ (Or.inr (by decide))]; exact hM.1.2.1
    have fM1 : fM p (D + 1) T (sI T1 34 27 (nI (a + 1))) := fM_t (fM_34 p (D + 1) (T' := sI T 34 28 (nI (D + 1))) rfl (fun id hid => sI_id _ _ _ hid) (fun b _ _ _ b4 _ _ _ => sI_ne _ _ (Or.inr b4))) (fM_t (fM_rows p y4 y5 (fun id _ _ d hd => y6 id d (by omega))) (fM_at p (D + 1) T1 _))
    have hm2 : f_X10_part_L106 (f_X10_part_L52 f) 1 T = hdM f (sI T1 34 27 (nI (a + 1))) := by
      unfold f_X10_part_L106
      rw [if_pos (le00 hM.2.1), vl_d, hd, nI_1, y1, bd_some, vl_d, m27, nI_1]
      rfl
    have hcl : f_X6_group g (nI D) S = bd (g (nI (D + 1)) (sI S 3 2 (nI (a + 1)))) (fun S_2 => bd (f_X6_pass (nI 41) S_2) (fun S_3 => some S_3)) := by
      unfold f_X6_group
      rw [if_pos (by rw [k_10, nI_ltI (by omega) (by omega)]; omega), vl_d, hC.1.2.1, nI_1, nI_1, k_41]
    rw [hm2, hcl]
    rcases hP (by omega) (sI S 3 2 (nI (a + 1))) (sI T1 34 27 (nI (a + 1))) (a + 1) f s2 (by omega) (by rw [sI_id _ _ _ (by decide)]; exact y2) (by unfold anyv; rw [sI_id _ _ _ (by decide), sI_id _ _ _ (by decide), sI_id _ _ _ (by decide)]; exact y3) with ⟨S1, T2, b, rf, rl', af, al, re, ae, fl1, gl1, q1, q2, q3, q4, q5, q6, q7, q8, q9, q10, q11, q12, q13⟩ | ⟨S1, T2, e', pl, q1, q2, q3, q4, q5, q6⟩
    · obtain ⟨sc2, F2, R2, L2, hC2, hM2, hrl2, hs2, hp2, ha2, hD2⟩ := q3
      have hd2 : T2.1 34 28 = nI (D + 1) := hM2.2.2.2.2.2.2
      obtain ⟨gl2, rfl⟩ : ∃ gl2, gl1 = gl2 + 1 := ⟨gl1 - 1, by omega⟩
      obtain ⟨fl2, rfl⟩ : ∃ fl2, fl1 = fl2 + 1 := ⟨fl1 - 1, by omega⟩
      by_cases h41 : chr n tx b = 41
      · have hbn := chr_in (n := n) (tx := tx) (a := b) (by omega)
        obtain ⟨T3, z1, z2, z3, z4, z5, z6⟩ := rowEnds_eq hD2 hd2 q6 q7
        have e34 := z5 34 (by omega)
        have d3 : T3.1 34 28 = nI (D + 1) := by rw [e34]; exact hd2
        have a3 : T3.1 34 27 = nI b := by rw [e34]; exact hM2.1.2.1
        have qid : ∀ id, id ≠ 34 → (sI (sI (sI (sI (sI T3 34 37 (bI (ae || re))) 34 38 (af ||| rf)) 34 39 (al ||| rl')) 34 28 (nI D)) 34 27 (nI (b + 1))).1 id = T3.1 id := fun id hid => by rw [sI_id _ _ _ hid, sI_id _ _ _ hid, sI_id _ _ _ hid, sI_id _ _ _ hid, sI_id _ _ _ hid]
        have q34 : ∀ i, i ≠ 37 → i ≠ 38 → i ≠ 39 → i ≠ 28 → i ≠ 27 → (sI (sI (sI (sI (sI T3 34 37 (bI (ae || re))) 34 38 (af ||| rf)) 34 39 (al ||| rl')) 34 28 (nI D)) 34 27 (nI (b + 1))).1 34 i = T2.1 34 i := fun i i1 i2 i3 i4 i5 => by rw [sI_ne _ _ (Or.inr i5), sI_ne _ _ (Or.inr i4), sI_ne _ _ (Or.inr i3), sI_ne _ _ (Or.inr i2), sI_ne _ _ (Or.inr i1), e34]
        refine Or.inl ⟨sI S1 3 2 (nI (b + 1)), sI (sI (sI (sI (sI T3 34 37 (bI (ae || re))) 34 38 (af ||| rf)) 34 39 (al ||| rl')) 34 28 (nI D)) 34 27 (nI (b + 1)), b + 1, af ||| rf, al ||| rl', ae || re, fl2 + 1, gl2, ?_, ?_, ⟨sc2, F2, R2, L2, vwC_at hC2 (b + 1), vwM_34 hM2 (fun id hid hid2 => by rw [qid id hid, z5 id hid2]) (q34 3 (by decide) (by decide) (by decide) (by decide) (by decide)) (sI_at _ _ _ _) (q34 4 (by decide) (by decide) (by decide) (by decide) (by decide)) (q34 5 (by decide) (by decide) (by decide) (by decide) (by decide)) (q34 6 (by decide) (by decide) (by decide) (by decide) (by decide)) (by rw [sI_ne _ _ (Or.inr (by decide)), sI_at]), hrl2, hs2, hp2, by omega, hD⟩, by omega, ?_, ?_, fC_t (fC_at p S _) (fC_t q8 (fC_at p S1 _)), fM_t fM1 (fM_t q9 (fM_t (fM_rows p z4 z5 (fun id _ _ d hd => z6 id d (by omega))) (fM_34 p (D + 1) rfl qid (fun i i1 i2 i3 i4 i5 i6 i7 => by rw [q34 i i5 i6 i7 i4 i3, e34])))), by omega, by omega⟩
        · rw [q1, bd_some, pass_t (by decide) ok hC2.1 ha2 h41, bd_some]
        · rw [q2]
          unfold rpM
          rw [f_X10_part_L157, if_pos hM2.2.1, hd2, if_neg (by rw [k_0, nI_leI (by omega) (by omega)]; omega), k_41, ms_is ok hM2.1 (by omega) (by decide), if_pos h41, z1, bd_some, d3, ck_nI (by omega) (by decide), nI_clamp (by omega), z2.2.2, zk_b, vl_d, sI_ne _ _ (Or.inr (by decide)), sI_id _ _ _ (by decide), d3, ck_nI (by omega) (by decide), nI_clamp (by omega), z2.1, vl_d, sI_ne _ _ (Or.inr (by decide)), sI_ne _ _ (Or.inr (by decide)), sI_id _ _ _ (by decide), sI_id _ _ _ (by decide), d3, ck_nI (by omega) (by decide), nI_clamp (by omega), z2.2.1, vl_d, sI_ne _ _ (Or.inr (by decide)), sI_ne _ _ (Or.inr (by decide)), sI_ne _ _ (Or.inr (by decide)), d3, k_1, pk_sub (by omega), Nat.add_sub_cancel, vl_d, sI_ne _ _ (Or.inr (by decide)), sI_ne _ _ (Or.inr (by decide)), sI_ne _ _ (Or.inr (by decide)), sI_ne _ _ (Or.inr (by decide)), a3, ← k_1, nI_1, vl_d]
          rfl
        · unfold pcs
          rw [sI_ne _ _ (Or.inr (by decide)), sI_ne _ _ (Or.inr (by decide)), sI_ne _ _ (Or.inr (by decide))]
          exact q5
        · refine ⟨?_, ?_, ?_⟩
          · rw [sI_ne _ _ (Or.inr (by decide)), sI_ne _ _ (Or.inr (by decide)), sI_ne _ _ (Or.inr (by decide)), sI_at]
          · rw [sI_ne _ _ (Or.inr (by decide)), sI_ne _ _ (Or.inr (by decide)), sI_at]
          · rw [sI_ne _ _ (Or.inr (by decide)), sI_ne _ _ (Or.inr (by decide)), sI_ne _ _ (Or.inr (by decide)), sI_ne _ _ (Or.inr (by decide)), sI_at]
      · obtain ⟨S3, e1, w1⟩ := pass_f (S := S1) (v := 41) (by decide) ok hC2.1 ha2 h41 hC2.2.1
        obtain ⟨T3, e2, w2, -⟩ := need_0 hM2.1.2.1 hM2.2.1
        have n4 := nle1 (x := T3.1 34 4) (Or.inl w2.2.2.2.1)
        refine Or.inr ⟨S3, T3, 1, b, ?_, ?_, dd_of hC2 hs2 (Or.inl rfl) w1, ⟨w2.2.2.2.1, w2.2.2.2.2⟩, fC_t (fC_at p S _) (fC_t q8 (fC_ft p w1)), fM_0 fM1 (fM_0 q9 (fM_ft p 0 w2))⟩
        · rw [q1, bd_some, e1, bd_some]
        · rw [q2, rp_250 ok hM2 ha2 hD2 (Or.inr h41)]
          unfold f_X10_part_L250
          rw [k_124, ms_is ok hM2.1 (by omega) (by decide), if_neg q13, ms_atom ok hM2.1 (by omega), if_neg q12, hd2, if_neg (by rw [k_0, nI_eq (by omega) (by omega)]; omega), e2, bd_some, vl_d, f_X10_part_L52, if_pos rfl]
          unfold f_X10_part_L304
          rw [if_neg n4.1]
    · refine Or.inr ⟨S1, T2, e', pl, ?_, q2, q3, q4, fC_t (fC_at p S _) q5, fM_0 fM1 q6⟩
      rw [q1, bd_some, pass_d (by decide) ok q3.1 (by rw [q3.2.1]; exact (nle1 q3.2.2.2.2.2.2).2), bd_some]
theorem partR_sim (ok : okT n tx) : ∀ (k D : Nat), D + k = 10 → ∀ (S T : Sg) (a fl : Nat), sim n tx p D S T a → n + 2 ≤ fl + a → T.1 55 D = 0 → anyv T D 0 0 false → outP n tx p D S T (a + 1) (f_X6_partR (k + 2) (nI D) S) (hdM fl T) := by
  intro k
  induction k with
  | zero =>
    intro D hD S T a fl h hfl h0 hany
    rw [f_X6_partR]
    refine part_sim ok (fun S T a fl h hfl h0 => row_sim ok (fun S T a fl h hfl => item_sim ok (fun S T a fl h hfl => atom_sim ok (fun S T a fl h h40 hfl => group_sim ok (fun hlt => absurd hlt (by omega)) S T a fl h h40 hfl) h hfl) h hfl) h hfl h0) h hfl h0 hany
  | succ k ih =>
    intro D hD S T a fl h hfl h0 hany
    rw [f_X6_partR]
    refine part_sim ok (fun S T a fl h hfl h0 => row_sim ok (fun S T a fl h hfl => item_sim ok (fun S T a fl h hfl => atom_sim ok (fun S T a fl h h40 hfl => group_sim ok (fun hlt S T a fl h hfl h0 hany => ih (D + 1) (by omega) S T a fl h hfl h0 hany) S T a fl h h40 hfl) h hfl) h hfl) h hfl h0) h hfl h0 hany
end GROUP
