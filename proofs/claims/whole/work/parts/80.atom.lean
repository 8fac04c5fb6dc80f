def hdM (fl : Nat) (T : Sg) : Option Sg := f_X10_part_L52 fl 1 T
def ipM (fl gl : Nat) (T : Sg) : Option Sg := bd (f_X10_item T) (fun Z => f_X10_part_L157 (f_X10_part_L52 fl) gl 1 Z)
def outF (n : Nat) (tx : Nat → Nat) (p : Nat) (S T : Sg) (r ref : Option Sg) : Prop := ∃ (S' T' : Sg) (e : Int32) (pl : Nat), r = some S' ∧ ref = some T' ∧ dd n tx p S' e pl ∧ fm T' e pl ∧ fC p S S' ∧ fM p 0 T T'
def outA (n : Nat) (tx : Nat → Nat) (p D : Nat) (S T : Sg) (a : Nat) (r ref : Option Sg) : Prop := (∃ (S' T' : Sg) (b : Nat) (f l : Int32) (e : Bool) (fl gl : Nat), r = some S' ∧ ref = ipM fl gl T' ∧ sim n tx p D S' T' b ∧ a < b ∧ pcs S' f l e ∧ pms T' f l e ∧ fC p S S' ∧ fM p (D + 1) T T' ∧ n + 2 ≤ fl + b ∧ n + 2 ≤ gl + b) ∨ outF n tx p S T r ref
theorem b_t {P : Prop} [Decidable P] (h : P) : bI (decide P) = 1 := by rw [decide_eq_true h]; rfl
theorem b_f {P : Prop} [Decidable P] (h : ¬ P) : bI (decide P) = 0 := by rw [decide_eq_false h]; rfl
theorem le00 {x : Int32} (h : x = 0) : x ≤ 0 := by rw [h]; decide
theorem nle1 {x : Int32} (h : x = 1 ∨ x = 2) : ¬ x ≤ 0 ∧ ¬ x = 0 := by rcases h with h | h <;> rw [h] <;> decide
section ATOM
variable {n : Nat} {tx : Nat → Nat} {p D : Nat}
/-- head of the reference's loop, at what isn't the beginning of an atom -/
theorem hd_no {T : Sg} {a sc fl : Nat} {F L : Nat → Int32} (ok : okT n tx) (h : vwM n tx T a p sc F L D) (ha : a ≤ n) (hc : ¬ isAt (chr n tx a)) : ∃ T', hdM (fl + 1) T = some T' ∧ ftM T T' 1 a := by
  have hn := ok.1
  obtain ⟨T', e, w, w2⟩ := need_0 h.1.2.1 h.2.1
  refine ⟨T', ?_, w⟩
  unfold hdM
  rw [f_X10_part_L52, if_neg n10, if_pos h.2.1, seesAtom_eq ok h.1 (by omega), bd2_some, b_f hc, e, bd_some, if_neg (nle1 (Or.inl w.2.2.2.1)).1]
theorem hd_atom {T : Sg} {a sc fl : Nat} {F L : Nat → Int32} (ok : okT n tx) (h : vwM n tx T a p sc F L D) (ha : a ≤ n) (hc : isAt (chr n tx a)) (h4 : ¬ chr n tx a = 40) : hdM (fl + 1) T = bd (f_X10_atom T) (fun S_16 => (if (S_16.1 34 4) ≤ 0 then bd (f_X10_item S_16) (fun S_17 => (f_X10_part_L157 (f_X10_part_L52 fl) fu) 1 S_17) else some S_16)) := by
  have hn := ok.1
  unfold hdM
  rw [f_X10_part_L52, if_neg n10, if_pos h.2.1, seesAtom_eq ok h.1 (by omega), bd2_some, b_t hc, need_1, bd_some, if_pos (le00 h.2.1), k_40, ms_is ok h.1 (by omega) (by decide), if_neg h4]
/-- the reference's atom() -/
theorem atomM_spot {T : Sg} {a sc : Nat} {F L : Nat → Int32} (ok : okT n tx) (h : vwM n tx T a p sc F L D) (ha : a < n) (hc : isLt (chr n tx a) ∨ chr n tx a = 46) : f_X10_atom T = bd (f_X10_spot (if chr n tx a = 46 then 15 else (1 : Int32) <<< (nI (chr n tx a - 97) &&& 31)) (nI a) T) (fun S_24 => vl (sI S_24 34 27 (((S_24.1 34 27) + (1 : Int32)))) (fun S_25 => some S_25)) := by
  have hn := ok.1
  unfold f_X10_atom
  rw [vl_d, h.1.2.1, ms_let ok h.1 (by omega)]
  by_cases hl : isLt (chr n tx a)
  · have e1 := hl.1
    have e2 := hl.2
    have hc2 : chr n tx a = tx a := if_pos ha
    rw [if_pos hl, here_eq ok h.1 (by omega), bd2_some, vl_d, if_pos ha, if_neg (by omega), hc2, k_97, pk_sub (by omega)]
  · have h46 : chr n tx a = 46 := by
      rcases hc with z | z
      · exact absurd z hl
      · exact z
    rw [if_neg hl, k_46, ms_is ok h.1 (by omega) (by decide), if_pos h46, if_pos h46]
theorem bad2 {T : Sg} {a sc : Nat} {F L : Nat → Int32} (x : Int32) (h : vwM n tx T a p sc F L D) (hp : p < 6) (hs : sc = 30) : ∃ T', f_X10_spot x (nI a) T = some T' ∧ ftM T T' 2 a := by
  obtain ⟨T', e, w, -⟩ := bad_eq (a := a) 2 h.2.1
  refine ⟨T', ?_, w⟩
  unfold f_X10_spot
  rw [h.2.2.2.1, k_1, pk_sub (by omega), Nat.add_sub_cancel, ck_nI hp (by decide), nI_clamp (by omega), h.2.2.2.2.1, vl_d, hs, k_30, if_pos rfl, e, bd_some]
theorem isFull_eq {S : Sg} {a sc : Nat} {F R : Nat → Int32} (h : vwC n tx S a p sc F R) (hp : p < 6) (hs : sc ≤ 30) : f_X7_isFull S = some (bI (decide (sc = 30)), S) := by
  unfold f_X7_isFull
  rw [h.2.2.2.1, ck_nI hp (by decide), nI_clamp (by omega), h.2.2.2.2.1, k_30]
  by_cases e : sc = 30
  · rw [if_neg (by rw [nI_ltI (by omega) (by omega)]; omega), b_t e]
  · rw [if_pos (by rw [nI_ltI (by omega) (by omega)]; omega), b_f e]
theorem refuse_out {S T T' : Sg} {a sc pl : Nat} {F R : Nat → Int32} {e : Int32} {r ref : Option Sg} (h : vwC n tx S a p sc F R) (hs : sc ≤ 30) (he : e = 1 ∨ e = 2) (hr : r = bd (f_X6_refuse e S) (fun Z => some Z)) (hpl : pl = a) (hm : ref = some T') (w : ftM T T' e pl) : outF n tx p S T r ref := by
  subst hpl
  obtain ⟨S', e1, w1⟩ := refuse_eq e h.1 h.2.1
  exact ⟨S', T', e, pl, by rw [hr, e1, bd_some], hm, dd_of h hs he w1, ⟨w.2.2.2.1, w.2.2.2.2⟩, fC_ft p w1, fM_ft p 0 w⟩
theorem atom_sim {g : Int32 → Sg → Option Sg} (ok : okT n tx) (hG : ∀ (S T : Sg) (a fl : Nat), sim n tx p D S T a → chr n tx a = 40 → n + 2 ≤ fl + a → outA n tx p D S T a (g (nI D) S) (hdM fl T)) {S T : Sg} {a fl : Nat} (h : sim n tx p D S T a) (hfl : n + 2 ≤ fl + a) : outA n tx p D S T a (f_X6_atom g (nI D) S) (hdM fl T) := by
  have hn := ok.1
  have h' := h
  obtain ⟨sc, F, R, L, hC, hM, hrl, hs, hp, ha, hD⟩ := h
  obtain ⟨f, rfl⟩ : ∃ f, fl = f + 1 := ⟨fl - 1, by omega⟩
  have hsig := sign_eq ok hC.1 (by omega)
  by_cases hat : isAt (chr n tx a)
  · have han : a < n := chr_in (n := n) (tx := tx) (a := a) (fun z => by rw [z] at hat; revert hat; decide)
    by_cases h40 : chr n tx a = 40
    · rcases hG S T a (f + 1) h' h40 hfl with ⟨S', T', b, f1, l1, e1, fl1, gl1, q1, q⟩ | ⟨S', T', e1, pl, q1, q⟩
      · refine Or.inl ⟨S', T', b, f1, l1, e1, fl1, gl1, ?_, q⟩
        unfold f_X6_atom
        rw [hsig, bd2_some, vl_d, k_40, if_pos ((sgn_is ok (by decide)).mpr h40), q1, bd_some]
      · refine Or.inr ⟨S', T', e1, pl, ?_, q⟩
        unfold f_X6_atom
        rw [hsig, bd2_some, vl_d, k_40, if_pos ((sgn_is ok (by decide)).mpr h40), q1, bd_some]
    · rw [hd_atom ok hM ha hat h40]
      by_cases h01 : chr n tx a = 48 ∨ chr n tx a = 49
      · -- 0 and 1
        obtain ⟨S1, e1, w1, w2, w3⟩ := setPiece_vwC (vwC_at hC (a + 1)) 0 0 (decide (chr n tx a = 49))
        have hcl : f_X6_atom g (nI D) S = some S1 := by
          have hx : f_X6_atom_L31 g (sgn n tx a) S = some S1 := by
            unfold f_X6_atom_L31
            rw [vl_d, hC.1.2.1, nI_1, k_49]
            by_cases h9 : chr n tx a = 49
            · rw [b_t h9] at e1
              rw [if_pos ((sgn_is ok (by decide)).mpr h9), e1, bd_some]
            · rw [b_f h9] at e1
              rw [if_neg (fun z => h9 ((sgn_is ok (by decide)).mp z)), e1, bd_some]
          unfold f_X6_atom
          rw [hsig, bd2_some, vl_d, k_40, if_neg (fun z => h40 ((sgn_is ok (by decide)).mp z)), k_48, k_49]
          by_cases h8 : chr n tx a = 48
          · rw [if_pos ((sgn_is ok (by decide)).mpr h8), hx]
          · rw [if_neg (fun z => h8 ((sgn_is ok (by decide)).mp z)), if_pos ((sgn_is ok (by decide)).mpr (by omega)), hx]
        have hml : f_X10_atom T = some (sI (sI (sI (sI T 34 37 (bI (decide (chr n tx a = 49)))) 34 38 0) 34 39 0) 34 27 (nI (a + 1))) := by
          unfold f_X10_atom
          rw [vl_d, ms_let ok hM.1 (by omega), if_neg (by omega), k_46, ms_is ok hM.1 (by omega) (by decide), if_neg (by omega), k_91, ms_is ok hM.1 (by omega) (by decide), if_neg (by omega), k_49, sees_eq ok hM.1 (by omega) (by decide), bd2_some, zk_b, vl_d, vl_d, vl_d, vl_d, sI_ne _ _ (Or.inr (by decide)), sI_ne _ _ (Or.inr (by decide)), sI_ne _ _ (Or.inr (by decide)), hM.1.2.1, nI_1]
        have q34 : ∀ b, b ≠ 37 → b ≠ 38 → b ≠ 39 → b ≠ 27 → (sI (sI (sI (sI T 34 37 (bI (decide (chr n tx a = 49)))) 34 38 0) 34 39 0) 34 27 (nI (a + 1))).1 34 b = T.1 34 b := fun b b1 b2 b3 b4 => by rw [sI_ne _ _ (Or.inr b4), sI_ne _ _ (Or.inr b3), sI_ne _ _ (Or.inr b2), sI_ne _ _ (Or.inr b1)]
        have qid : ∀ id, id ≠ 34 → (sI (sI (sI (sI T 34 37 (bI (decide (chr n tx a = 49)))) 34 38 0) 34 39 0) 34 27 (nI (a + 1))).1 id = T.1 id := fun id hid => by rw [sI_id _ _ _ hid, sI_id _ _ _ hid, sI_id _ _ _ hid, sI_id _ _ _ hid]
        refine Or.inl ⟨S1, _, a + 1, 0, 0, decide (chr n tx a = 49), f, fu, hcl, ?_, ⟨sc, F, R, L, w1, vwM_34 hM (fun id hid _ => qid id hid) (q34 3 (by decide) (by decide) (by decide) (by decide)) (sI_at _ _ _ _) (q34 4 (by decide) (by decide) (by decide) (by decide)) (q34 5 (by decide) (by decide) (by decide) (by decide)) (q34 6 (by decide) (by decide) (by decide) (by decide)) (by rw [q34 28 (by decide) (by decide) (by decide) (by decide)]; exact hM.2.2.2.2.2.2), hrl, hs, hp, by omega, hD⟩, by omega, w2, ⟨?_, ?_, ?_⟩, fC_t (fC_at p S _) w3, fM_34 p _ rfl qid (fun b b1 b2 b3 b4 b5 b6 b7 => q34 b b5 b6 b7 b3), by omega, by unfold fu; omega⟩
        · rw [hml, bd_some, if_pos (le00 (by rw [q34 4 (by decide) (by decide) (by decide) (by decide)]; exact hM.2.1))]
          rfl
        · rw [sI_ne _ _ (Or.inr (by decide)), sI_ne _ _ (Or.inr (by decide)), sI_at]
        · rw [sI_ne _ _ (Or.inr (by decide)), sI_at]
        · rw [sI_ne _ _ (Or.inr (by decide)), sI_ne _ _ (Or.inr (by decide)), sI_ne _ _ (Or.inr (by decide)), sI_at]
      · have hcl : f_X6_atom g (nI D) S = if sc = 30 then bd (f_X6_refuse 2 S) (fun Z => some Z) else (if chr n tx a = 91 then bd2 (f_X6_bracket (sI S 3 2 (nI (a + 1)))) (fun r_19 S_18 => (f_X6_atom_L125 g) r_19 S_18) else f_X6_atom_L125 g (if chr n tx a = 46 then 15 else (1 : Int32) <<< (nI (chr n tx a - 97) &&& 31)) (sI S 3 2 (nI (a + 1)))) := by
          unfold f_X6_atom
          rw [hsig, bd2_some, vl_d, k_40, if_neg (fun z => h40 ((sgn_is ok (by decide)).mp z)), k_48, k_49, if_neg (fun z => h01 (Or.inl ((sgn_is ok (by decide)).mp z))), if_neg (fun z => h01 (Or.inr ((sgn_is ok (by decide)).mp z))), cs_atom ok, if_pos hat, isFull_eq hC hp hs, bd2_some]
          by_cases h30 : sc = 30
          · rw [b_t h30, if_neg n10, if_pos h30]
          · rw [b_f h30, if_pos rfl, if_neg h30, vl_d, hC.1.2.1, nI_1, k_91]
            by_cases h91 : chr n tx a = 91
            · rw [if_pos h91, if_pos ((sgn_is ok (by decide)).mpr h91)]
            · rw [if_neg h91, if_neg (fun z => h91 ((sgn_is ok (by decide)).mp z))]
              unfold f_X6_lettersOf
              rw [k_46]
              by_cases h46 : chr n tx a = 46
              · rw [if_pos h46, if_pos ((sgn_is ok (by decide)).mpr h46), bd2_some]
              · have hl : isLt (chr n tx a) := by
                  rcases hat with z | z | z | z | z | z
                  · exact z
                  · exact absurd z h46
                  · exact absurd z h91
                  · exact absurd z h40
                  · exact absurd (Or.inl z) h01
                  · exact absurd (Or.inr z) h01
                have e1 := hl.1
                rw [if_neg h46, if_neg (fun z => h46 ((sgn_is ok (by decide)).mp z)), bd2_some, sgn_lt ok hl, k_97, pk_sub (by omega)]
        rw [hcl]
        by_cases h91 : chr n tx a = 91
        · have hml : f_X10_atom T = if sc = 30 then bd (f_X10_bad 2 (nI a) T) (fun S_18 => (f_X10_atom_L101) (nI a) S_18) else f_X10_atom_L101 (nI a) T := by
            unfold f_X10_atom
            rw [vl_d, ms_let ok hM.1 (by omega), if_neg (by omega), k_46, ms_is ok hM.1 (by omega) (by decide), if_neg (by omega), k_91, ms_is ok hM.1 (by omega) (by decide), if_pos h91, hM.2.2.2.1, k_1, pk_sub (by omega), Nat.add_sub_cancel, ck_nI hp (by decide), nI_clamp (by omega), hM.2.2.2.2.1, hM.1.2.1, k_30]
            by_cases h30 : sc = 30
            · rw [if_pos (by rw [h30]), if_pos h30]
            · rw [if_neg (by rw [nI_eq (by omega) (by omega)]; exact h30), if_neg h30]
          rw [hml, if_pos h91]
          by_cases h30 : sc = 30
          · obtain ⟨T1, e1, w1, -⟩ := bad_eq (a := a) 2 hM.2.1
            have n4 := nle1 (x := T1.1 34 4) (Or.inr w1.2.2.2.1)
            rw [if_pos h30, if_pos h30]
            refine Or.inr (refuse_out hC hs (Or.inr rfl) rfl rfl ?_ w1)
            rw [e1, bd_some]
            unfold f_X10_atom_L101 f_X10_atom_L116
            rw [if_neg n4.1, vl_d, if_neg n4.2, bd_some, if_neg n4.1]
          · rw [if_neg h30, if_neg h30]
            unfold f_X10_atom_L101
            rw [if_pos (le00 hM.2.1)]
            rcases bracket_eq (S := sI S 3 2 (nI (a + 1))) (T := T) (a := a) ok (tC_at hC.1 (a + 1)) hM.1 han (by rw [sI_ne _ _ (Or.inr (by decide))]; exact hC.2.1) hM.2.1 with ⟨v, b, q1, q2, q3, q4⟩ | ⟨v, w, pl, S1, T1, q1, q2, q3, q4⟩
            · have hCb : vwC n tx (sI S 3 2 (nI b)) b p sc F R := vwC_at hC b
              have hMb := vwM_at hM b
              obtain ⟨S2, e2, w1, w2, w3⟩ := vwC_spot (g := g) v hCb hp (by omega)
              obtain ⟨T2, e3, y1, y2, y3⟩ := vwM_spot v (nI a) hMb hp (by omega)
              refine Or.inl ⟨S2, T2, b, _, _, _, f, fu, ?_, ?_, ⟨sc + 1, _, _, _, w1, y1, rl_spot v hrl (by omega), by omega, hp, q4, hD⟩, q3, w2, y2, fC_t (fC_at p S _) w3, fM_t (fM_at p _ T _) (fM_le y3 (by omega)), by omega, by unfold fu; omega⟩
              · rw [q1, bd2_some, sI_sI, e2]
              · rw [q2, bd2_some]
                unfold f_X10_atom_L116
                rw [vl_d, if_pos (by exact hMb.2.1), e3, bd_some, bd_some, if_pos (le00 y1.2.1)]
                rfl
            · have hCa := vwC_at hC (a + 1)
              have n4 := nle1 (x := T1.1 34 4) (Or.inl q4.2.2.2.1)
              obtain ⟨S2, e2, u1, u2, u3, u4, u5⟩ := addSpot_eq (S := S1) (p := p) (sc := sc) v hp (by omega) (by rw [q2.2.1 5 (by decide)]; exact hCa.2.2.2.1) (by rw [q2.2.1 6 (by decide)]; exact hCa.2.2.2.2.1)
              have d2 : dd n tx p S2 1 pl := by
                have t := tC_ft hCa.1 q2
                have e3 := u2 3 (by decide) (by decide) (by decide)
                refine ⟨⟨by rw [e3]; exact t.1, by rw [e3]; exact t.2.1, fun k hk => by rw [u2 4 (by decide) (by decide) (by decide)]; exact t.2.2 k hk⟩, by rw [e3]; exact q2.2.2.2.2.2.1, by rw [e3]; exact q2.2.2.2.2.2.2, ?_, ⟨sc + 1, by omega, by rw [u3 p, if_pos rfl]⟩, ?_, Or.inl rfl⟩
                · rw [u2 5 (by decide) (by decide) (by decide), q2.2.1 5 (by decide)]; exact hCa.2.2.2.1
                · rw [e3, q2.2.2.2.1]; exact hCa.2.2.2.2.2.2.2
              obtain ⟨S3, e4, z1, z2⟩ := setPiece_dd d2 (sb sc) (sb sc) false
              have f2 : fC p S1 S2 := ⟨u1, fun id a b c d => u2 id c b d, by rw [u2 3 (by decide) (by decide) (by decide)], fun q hq => by rw [u3 q, if_neg hq], fun j hj => by rw [u4 j, if_neg (by omega)], fun j hj => by rw [u5 j, if_neg (by omega)]⟩
              refine Or.inr ⟨S3, T1, 1, pl, ?_, ?_, z1, ⟨q4.2.2.2.1, q4.2.2.2.2⟩, fC_t (fC_at p S _) (fC_t (fC_ft p q2) (fC_t f2 z2)), fM_ft p 0 q4⟩
              · rw [q1, bd2_some]
                unfold f_X6_atom_L125
                rw [e2, bd2_some, vl_d, show (0 : Int32) = bI false from rfl, e4, bd_some]
              · rw [q3, bd2_some]
                unfold f_X10_atom_L116
                rw [vl_d, if_neg n4.2, bd_some, if_neg n4.1]
        · have hsp : isLt (chr n tx a) ∨ chr n tx a = 46 := by
            rcases hat with z | z | z | z | z | z
            · exact Or.inl z
            · exact Or.inr z
            · exact absurd z h91
            · exact absurd z h40
            · exact absurd (Or.inl z) h01
            · exact absurd (Or.inr z) h01
          rw [atomM_spot ok hM han hsp, if_neg h91]
          generalize (if chr n tx a = 46 then (15 : Int32) else (1 : Int32) <<< (nI (chr n tx a - 97) &&& 31)) = v
          by_cases h30 : sc = 30
          · obtain ⟨T1, e1, w1⟩ := bad2 v hM hp h30
            have w2 := ftM_at w1 (T1.1 34 27 + 1)
            have n4 := nle1 (x := (sI T1 34 27 (T1.1 34 27 + 1)).1 34 4) (Or.inr w2.2.2.2.1)
            rw [if_pos h30]
            refine Or.inr (refuse_out hC hs (Or.inr rfl) rfl rfl ?_ w2)
            rw [e1, bd_some, vl_d, bd_some, if_neg n4.1]
          · rw [if_neg h30]
            obtain ⟨S2, e2, w1, w2, w3⟩ := vwC_spot (g := g) v (vwC_at hC (a + 1)) hp (by omega)
            obtain ⟨T2, e3, y1, y2, y3⟩ := vwM_spot v (nI a) hM hp (by omega)
            have y1' := vwM_at y1 (a + 1)
            refine Or.inl ⟨S2, sI T2 34 27 (nI (a + 1)), a + 1, _, _, _, f, fu, e2, ?_, ⟨sc + 1, _, _, _, w1, y1', rl_spot v hrl (by omega), by omega, hp, by omega, hD⟩, by omega, w2, ⟨by rw [sI_ne _ _ (Or.inr (by decide))]; exact y2.1, by rw [sI_ne _ _ (Or.inr (by decide))]; exact y2.2.1, by rw [sI_ne _ _ (Or.inr (by decide))]; exact y2.2.2⟩, fC_t (fC_at p S _) w3, fM_t (fM_le y3 (by omega)) (fM_at p _ T2 _), by omega, by unfold fu; omega⟩
            rw [e3, bd_some, vl_d, y1.1.2.1, nI_1, bd_some, if_pos (le00 y1'.2.1)]
            rfl
  · obtain ⟨T', e1, w1⟩ := hd_no (fl := f) ok hM ha hat
    refine Or.inr (refuse_out hC hs (Or.inl rfl) ?_ rfl e1 w1)
    unfold f_X6_atom
    have c40 : ¬ chr n tx a = 40 := fun z => hat (by unfold isAt; omega)
    have c48 : ¬ chr n tx a = 48 := fun z => hat (by unfold isAt; omega)
    have c49 : ¬ chr n tx a = 49 := fun z => hat (by unfold isAt; omega)
    rw [hsig, bd2_some, vl_d, k_40, if_neg (fun z => c40 ((sgn_is ok (by decide)).mp z)), k_48, k_49, if_neg (fun z => c48 ((sgn_is ok (by decide)).mp z)), if_neg (fun z => c49 ((sgn_is ok (by decide)).mp z)), cs_atom ok, if_neg hat]
end ATOM
