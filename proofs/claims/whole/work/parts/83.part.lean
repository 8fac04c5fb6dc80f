def outP (n : Nat) (tx : Nat → Nat) (p D : Nat) (S T : Sg) (a : Nat) (r ref : Option Sg) : Prop := (∃ (S' T' : Sg) (b : Nat) (rf rl af al : Int32) (re ae : Bool) (fl gl : Nat), r = some S' ∧ ref = rpM fl gl T' ∧ sim n tx p D S' T' b ∧ a ≤ b ∧ pcs S' (af ||| rf) (al ||| rl) (ae || re) ∧ rowv T' D rf rl re ∧ anyv T' D af al ae ∧ fC p S S' ∧ fM p D T T' ∧ n + 2 ≤ fl + b ∧ n + 2 ≤ gl + b ∧ ¬ isAt (chr n tx b) ∧ ¬ chr n tx b = 124) ∨ outF n tx p S T r ref
section PART
variable {n : Nat} {tx : Nat → Nat} {p D : Nat}
theorem rowEnds_eq {T : Sg} {rf rl af al : Int32} {re ae : Bool} (hD : D ≤ 10) (hd : T.1 34 28 = nI D) (hr : rowv T D rf rl re) (ha : anyv T D af al ae) : ∃ T', f_X10_rowEnds T = some T' ∧ anyv T' D (af ||| rf) (al ||| rl) (ae || re) ∧ T'.1 55 D = 0 ∧ T'.2 = T.2 ∧ (∀ id, id < 55 ∨ 61 < id → T'.1 id = T.1 id) ∧ ∀ id d, d ≠ D → T'.1 id d = T.1 id d := by
  refine ⟨sI (sI (sI (sI T 59 D (bI (ae || re))) 60 D (af ||| rf)) 61 D (al ||| rl)) 55 D 0, ?_, ⟨?_, ?_, ?_⟩, sI_at _ _ _ _, rfl, fun id hid => by rw [sI_id _ _ _ (by omega), sI_id _ _ _ (by omega), sI_id _ _ _ (by omega), sI_id _ _ _ (by omega)], fun id d hd => by rw [sI_ne _ _ (Or.inr hd), sI_ne _ _ (Or.inr hd), sI_ne _ _ (Or.inr hd), sI_ne _ _ (Or.inr hd)]⟩
  · have c : ∀ b : Bool, f_X10_rowEnds_L37 (bI b) (nI D) T = some (sI (sI (sI (sI T 59 D (bI b)) 60 D (af ||| rf)) 61 D (al ||| rl)) 55 D 0) := by
      intro b
      unfold f_X10_rowEnds_L37
      rw [ck_nI (by omega) (by decide), nI_clamp (by omega), nar_b, vl_d, sI_id _ _ _ (by decide), sI_id _ _ _ (by decide), sI_id _ _ _ (by decide), hd, ck_nI (by omega) (by decide), ck_nI (by omega) (by decide), ck_nI (by omega) (by decide), nI_clamp (by omega), ha.1, hr.2.1, vl_d, sI_id _ _ _ (by decide), sI_id _ _ _ (by decide), sI_id _ _ _ (by decide), sI_id _ _ _ (by decide), sI_id _ _ _ (by decide), sI_id _ _ _ (by decide), hd, ck_nI (by omega) (by decide), ck_nI (by omega) (by decide), ck_nI (by omega) (by decide), nI_clamp (by omega), ha.2.1, hr.2.2.1, vl_d, sI_id _ _ _ (by decide), sI_id _ _ _ (by decide), sI_id _ _ _ (by decide), hd, ck_nI (by omega) (by decide), nI_clamp (by omega), nar_0, vl_d]
    unfold f_X10_rowEnds
    rw [hd, ck_nI (by omega) (by decide), nI_clamp (by omega), ha.2.2, hr.2.2.2]
    cases ae with
    | true => rw [if_neg (show ¬ bI true = 0 by decide)]; exact c true
    | false =>
      rw [if_pos (show bI false = 0 by decide), ck_nI (by omega) (by decide)]
      cases re with
      | true => rw [if_neg (show ¬ bI true = 0 by decide)]; exact c true
      | false => rw [if_pos (show bI false = 0 by decide)]; exact c false
  · rw [sI_id _ _ _ (by decide), sI_id _ _ _ (by decide), sI_at]
  · rw [sI_id _ _ _ (by decide), sI_at]
  · rw [sI_id _ _ _ (by decide), sI_id _ _ _ (by decide), sI_id _ _ _ (by decide), sI_at]
theorem part_dead {g : Int32 → Sg → Option Sg} {S : Sg} {e : Int32} {pl fl t : Nat} {x1 x2 x3 : Int32} (b : Bool) (ok : okT n tx) (hfl : 1 ≤ fl) (h : dd n tx p S e pl) : ∃ S', f_X6_part_L24 g fl x1 x2 x3 (bI b) (nI t) S = some S' ∧ dd n tx p S' e pl ∧ fC p S S' := by
  have hn := ok.1
  obtain ⟨f, rfl⟩ : ∃ f, fl = f + 1 := ⟨fl - 1, by omega⟩
  obtain ⟨S', e1, w1, w2⟩ := setPiece_dd h x2 x3 b
  refine ⟨S', ?_, w1, w2⟩
  rw [f_X6_part_L24, h.1.1]
  by_cases hl : nI n ≤ nI t
  · rw [if_pos hl, e1, bd_some]
  · rw [if_neg hl, k_124, cs_is ok h.1 (by omega) (by decide), if_neg (by rw [chr_n]; decide), e1, bd_some]
theorem part_step {g : Int32 → Sg → Option Sg} {K : Int32 → Int32 → Int32 → Int32 → Int32 → Sg → Option Sg} {S : Sg} {x1 x2 x3 : Int32} {t : Nat} {e ae : Bool} (h : S.1 3 8 = bI e) : (if bI ae = 0 then (if (S.1 3 8) = 0 then vl ((0 : Int32)) (fun x4_16 => vl (nI t + (1 : Int32)) (fun x5_17 => K x1 x2 x3 x4_16 x5_17 S)) else vl ((1 : Int32)) (fun x4_18 => vl (nI t + (1 : Int32)) (fun x5_19 => K x1 x2 x3 x4_18 x5_19 S))) else vl ((1 : Int32)) (fun x4_14 => vl (nI t + (1 : Int32)) (fun x5_15 => K x1 x2 x3 x4_14 x5_15 S))) = K x1 x2 x3 (bI (ae || e)) (nI (t + 1)) S := by
  rw [h]
  cases ae with
  | true => rw [if_neg (show ¬ bI true = 0 by decide), vl_d, vl_d, nI_1]; rfl
  | false =>
    rw [if_pos (show bI false = 0 by decide)]
    cases e with
    | true => rw [if_neg (show ¬ bI true = 0 by decide), vl_d, vl_d, nI_1]; rfl
    | false => rw [if_pos (show bI false = 0 by decide), vl_d, vl_d, nI_1]; rfl
theorem partL {g : Int32 → Sg → Option Sg} (ok : okT n tx) (hR : ∀ (S T : Sg) (a fl : Nat), sim n tx p D S T a → n + 2 ≤ fl + a → T.1 55 D = 0 → outR n tx p D S T (a + 1) (g (nI D) S) (hdM fl T)) : ∀ (r a t cl fl gl : Nat) (S T : Sg) (rf rl af al : Int32) (re ae : Bool), n ≤ a + r → t ≤ a → r + 2 ≤ cl → n + 2 ≤ fl + a → n + 2 ≤ gl + a → sim n tx p D S T a → rowv T D rf rl re → anyv T D af al ae → ¬ isAt (chr n tx a) → outP n tx p D S T a (f_X6_part_L24 g cl (nI D) (af ||| rf) (al ||| rl) (bI (ae || re)) (nI t) S) (rpM fl gl T) := by
  have hn := ok.1
  intro r
  induction r with
  | zero =>
    intro a t cl fl gl S T rf rl af al re ae hr ht hcl hfl hgl h hrow hany hat
    obtain ⟨f1, rfl⟩ : ∃ f1, cl = f1 + 1 := ⟨cl - 1, by omega⟩
    have h' := h
    obtain ⟨sc, F, R, L, hC, hM, hrl, hs, hp, ha, hD⟩ := h
    have hc := chr_end (n := n) (tx := tx) (a := a) (by omega)
    obtain ⟨S', e1, w1, w2, w3⟩ := setPiece_vwC hC (af ||| rf) (al ||| rl) (ae || re)
    refine Or.inl ⟨S', T, a, rf, rl, af, al, re, ae, fl, gl, ?_, rfl, ⟨sc, F, R, L, w1, hM, hrl, hs, hp, ha, hD⟩, Nat.le_refl _, w2, hrow, hany, w3, fM_r p D T, hfl, hgl, hat, by omega⟩
    rw [f_X6_part_L24, hC.1.1]
    by_cases hl : nI n ≤ nI t
    · rw [if_pos hl, e1, bd_some]
    · rw [if_neg hl, k_124, cs_is ok hC.1 (by omega) (by decide), if_neg (by omega), e1, bd_some]
  | succ r ih =>
    intro a t cl fl gl S T rf rl af al re ae hr ht hcl hfl hgl h hrow hany hat
    obtain ⟨f1, rfl⟩ : ∃ f1, cl = f1 + 1 := ⟨cl - 1, by omega⟩
    have h' := h
    obtain ⟨sc, F, R, L, hC, hM, hrl, hs, hp, ha, hD⟩ := h
    by_cases h124 : chr n tx a = 124
    · have han := chr_in (n := n) (tx := tx) (a := a) (by omega)
      obtain ⟨gl1, rfl⟩ : ∃ gl1, gl = gl1 + 1 := ⟨gl - 1, by omega⟩
      have hd : T.1 34 28 = nI D := hM.2.2.2.2.2.2
      obtain ⟨T1, y1, y2, y3, y4, y5, y6⟩ := rowEnds_eq hD hd hrow hany
      have s1 : sim n tx p D S T1 a := sim_rows h' y5
      have s2 := sim_at s1 (b := a + 1) (by omega)
      have m27 : T1.1 34 27 = nI a := by rw [y5 34 (by omega)]; exact hM.1.2.1
      have fM1 : fM p D T (sI T1 34 27 (nI (a + 1))) := fM_t (fM_rows p y4 y5 (fun id _ _ d hd => y6 id d (by omega))) (fM_at p D T1 _)
      have hml : rpM fl (gl1 + 1) T = hdM fl (sI T1 34 27 (nI (a + 1))) := by
        rw [rp_250 ok hM ha hD (Or.inr (by omega))]
        unfold f_X10_part_L250
        rw [k_124, ms_is ok hM.1 (by omega) (by decide), if_pos h124, y1, bd_some, vl_d, m27, nI_1]
        rfl
      have head : f_X6_part_L24 g (f1 + 1) (nI D) (af ||| rf) (al ||| rl) (bI (ae || re)) (nI t) S = bd (g (nI D) (sI S 3 2 (nI (a + 1)))) (fun S_11 => vl (((af ||| rf) ||| (S_11.1 3 6))) (fun x2_12 => vl (((al ||| rl) ||| (S_11.1 3 7))) (fun x3_13 => (if bI (ae || re) = 0 then (if (S_11.1 3 8) = 0 then vl ((0 : Int32)) (fun x4_16 => vl (nI t + (1 : Int32)) (fun x5_17 => (f_X6_part_L24 g f1) (nI D) x2_12 x3_13 x4_16 x5_17 S_11)) else vl ((1 : Int32)) (fun x4_18 => vl (nI t + (1 : Int32)) (fun x5_19 => (f_X6_part_L24 g f1) (nI D) x2_12 x3_13 x4_18 x5_19 S_11))) else vl ((1 : Int32)) (fun x4_14 => vl (nI t + (1 : Int32)) (fun x5_15 => (f_X6_part_L24 g f1) (nI D) x2_12 x3_13 x4_14 x5_15 S_11)))))) := by
        rw [f_X6_part_L24, hC.1.1, if_neg (by rw [nI_leI (by omega) (by omega)]; omega), k_124, cs_is ok hC.1 (by omega) (by decide), if_pos h124, vl_d, hC.1.2.1, nI_1]
      rw [head, hml]
      rcases hR (sI S 3 2 (nI (a + 1))) (sI T1 34 27 (nI (a + 1))) (a + 1) fl s2 (by omega) (by rw [sI_id _ _ _ (by decide)]; exact y3) with ⟨S1, T2, b, f', l', e', fl1, gl1', q1, q2, q3, q4, q5, q6, q7, q8, q9, q10, q11, q12⟩ | ⟨S1, T2, e', pl, q1, q2, q3, q4, q5, q6⟩
      · have any2 : anyv T2 D (af ||| rf) (al ||| rl) (ae || re) := by
          unfold anyv
          rw [q7.1, q7.2.1, q7.2.2, sI_id _ _ _ (by decide), sI_id _ _ _ (by decide), sI_id _ _ _ (by decide)]
          exact y2
        have hcl2 : bd (g (nI D) (sI S 3 2 (nI (a + 1)))) (fun S_11 => vl (((af ||| rf) ||| (S_11.1 3 6))) (fun x2_12 => vl (((al ||| rl) ||| (S_11.1 3 7))) (fun x3_13 => (if bI (ae || re) = 0 then (if (S_11.1 3 8) = 0 then vl ((0 : Int32)) (fun x4_16 => vl (nI t + (1 : Int32)) (fun x5_17 => (f_X6_part_L24 g f1) (nI D) x2_12 x3_13 x4_16 x5_17 S_11)) else vl ((1 : Int32)) (fun x4_18 => vl (nI t + (1 : Int32)) (fun x5_19 => (f_X6_part_L24 g f1) (nI D) x2_12 x3_13 x4_18 x5_19 S_11))) else vl ((1 : Int32)) (fun x4_14 => vl (nI t + (1 : Int32)) (fun x5_15 => (f_X6_part_L24 g f1) (nI D) x2_12 x3_13 x4_14 x5_15 S_11)))))) = f_X6_part_L24 g f1 (nI D) ((af ||| rf) ||| f') ((al ||| rl) ||| l') (bI ((ae || re) || e')) (nI (t + 1)) S1 := by
          rw [q1, bd_some, vl_d, vl_d, q5.1, q5.2.1]
          exact part_step (g := g) q5.2.2
        rw [hcl2, q2]
        rcases ih b (t + 1) f1 fl1 gl1' S1 T2 f' l' (af ||| rf) (al ||| rl) e' (ae || re) (by omega) (by omega) (by omega) q10 q11 q3 q6 any2 q12 with ⟨S', T', b2, rf2, rl2, af2, al2, re2, ae2, fl2, gl2, u1, u2, u3, u4, u5, u6, u7, u8, u9, u10, u11, u12, u13⟩ | ⟨S', T', e2, pl, u1, u2, u3, u4, u5, u6⟩
        · exact Or.inl ⟨S', T', b2, rf2, rl2, af2, al2, re2, ae2, fl2, gl2, u1, u2, u3, by omega, u5, u6, u7, fC_t (fC_at p S _) (fC_t q8 u8), fM_t fM1 (fM_t q9 u9), u10, u11, u12, u13⟩
        · exact Or.inr ⟨S', T', e2, pl, u1, u2, u3, u4, fC_t (fC_at p S _) (fC_t q8 u5), fM_0 fM1 (fM_0 q9 u6)⟩
      · obtain ⟨eb, heb⟩ := q3.2.2.2.2.2.1
        obtain ⟨S3, z1, z2, z3⟩ := part_dead (g := g) (fl := f1) (t := t + 1) (x1 := nI D) (x2 := (af ||| rf) ||| S1.1 3 6) (x3 := (al ||| rl) ||| S1.1 3 7) ((ae || re) || eb) ok (by omega) q3
        refine Or.inr ⟨S3, T2, e', pl, ?_, q2, z2, q4, fC_t (fC_at p S _) (fC_t q5 z3), fM_0 fM1 q6⟩
        rw [q1, bd_some, vl_d, vl_d, ← z1]
        exact part_step (g := g) heb
    · obtain ⟨S', e1, w1, w2, w3⟩ := setPiece_vwC hC (af ||| rf) (al ||| rl) (ae || re)
      refine Or.inl ⟨S', T, a, rf, rl, af, al, re, ae, fl, gl, ?_, rfl, ⟨sc, F, R, L, w1, hM, hrl, hs, hp, ha, hD⟩, Nat.le_refl _, w2, hrow, hany, w3, fM_r p D T, hfl, hgl, hat, h124⟩
      rw [f_X6_part_L24, hC.1.1]
      by_cases hl : nI n ≤ nI t
      · rw [if_pos hl, e1, bd_some]
      · rw [if_neg hl, k_124, cs_is ok hC.1 (by omega) (by decide), if_neg h124, e1, bd_some]
theorem part_sim {g : Int32 → Sg → Option Sg} (ok : okT n tx) (hR : ∀ (S T : Sg) (a fl : Nat), sim n tx p D S T a → n + 2 ≤ fl + a → T.1 55 D = 0 → outR n tx p D S T (a + 1) (g (nI D) S) (hdM fl T)) {S T : Sg} {a fl : Nat} (h : sim n tx p D S T a) (hfl : n + 2 ≤ fl + a) (h0 : T.1 55 D = 0) (hany : anyv T D 0 0 false) : outP n tx p D S T (a + 1) (f_X6_part g (nI D) S) (hdM fl T) := by
  have hn := ok.1
  rcases hR S T a fl h hfl h0 with ⟨S1, T2, b, f', l', e', fl1, gl1', q1, q2, q3, q4, q5, q6, q7, q8, q9, q10, q11, q12⟩ | ⟨S1, T2, e', pl, q1, q2, q3, q4, q5, q6⟩
  · have any2 : anyv T2 D 0 0 false := by
      unfold anyv
      rw [q7.1, q7.2.1, q7.2.2]
      exact hany
    have hcl : f_X6_part g (nI D) S = f_X6_part_L24 g fu (nI D) (0 ||| f') (0 ||| l') (bI (false || e')) (nI 0) S1 := by
      unfold f_X6_part
      rw [q1, bd_some, vl_d, vl_d, vl_d, vl_d, q5.1, q5.2.1, q5.2.2, k_0, show (nI 0 : Int32) ||| f' = f' from by rw [← k_0]; simp, show (nI 0 : Int32) ||| l' = l' from by rw [← k_0]; simp, Bool.false_or]
    rw [hcl, q2]
    rcases partL ok hR n b 0 fu fl1 gl1' S1 T2 f' l' 0 0 e' false (by omega) (by omega) (by unfold fu; omega) q10 q11 q3 q6 any2 q12 with ⟨S', T', b2, rf2, rl2, af2, al2, re2, ae2, fl2, gl2, u1, u2, u3, u4, u5, u6, u7, u8, u9, u10, u11, u12, u13⟩ | ⟨S', T', e2, pl, u1, u2, u3, u4, u5, u6⟩
    · exact Or.inl ⟨S', T', b2, rf2, rl2, af2, al2, re2, ae2, fl2, gl2, u1, u2, u3, by omega, u5, u6, u7, fC_t q8 u8, fM_t q9 u9, u10, u11, u12, u13⟩
    · exact Or.inr ⟨S', T', e2, pl, u1, u2, u3, u4, fC_t q8 u5, fM_0 q9 u6⟩
  · obtain ⟨eb, heb⟩ := q3.2.2.2.2.2.1
    obtain ⟨S3, z1, z2, z3⟩ := part_dead (g := g) (fl := fu) (t := 0) (x1 := nI D) (x2 := S1.1 3 6) (x3 := S1.1 3 7) eb ok (by unfold fu; omega) q3
    refine Or.inr ⟨S3, T2, e', pl, ?_, q2, z2, q4, fC_t q5 z3, q6⟩
    unfold f_X6_part
    rw [q1, bd_some, vl_d, vl_d, vl_d, vl_d, heb, k_0]
    exact z1
end PART
