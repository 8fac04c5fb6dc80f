def HM (fl gl : Nat) (T : Sg) : Option Sg := f_X10_whole_L62 (f_X10_whole_L51 fl) gl 1 T
def AM (fl gl : Nat) (T : Sg) : Option Sg := f_X10_whole_L221 (f_X10_whole_L51 fl) gl 1 T
def EM (el fl gl : Nat) (T : Sg) : Option Sg := bd (f_X10_sideEnds_L0 el T) (fun Z => AM fl gl Z)
def dT (n : Nat) (tx : Nat → Nat) (S : Sg) (e : Int32) (pl : Nat) : Prop := tC n tx S n ∧ S.1 3 4 = e ∧ S.1 3 5 = nI pl ∧ (∃ b : Bool, S.1 3 8 = bI b) ∧ (e = 1 ∨ e = 2)
def outX (n : Nat) (tx : Nat → Nat) (S T : Sg) (r : Option (Int64 × Sg)) (ref : Option Sg) : Prop := ∃ (v : Int64) (S' T' : Sg) (e : Int32) (pl : Nat), r = some (v, S') ∧ ref = some T' ∧ dT n tx S' e pl ∧ fm T' e pl ∧ gCl S S' ∧ gMl T T'
def tsim (n : Nat) (tx : Nat → Nat) (S T : Sg) (a P c : Nat) (vs : List Int64) (o l : Nat) : Prop := bsim n tx S T a P ∧ pl P T c vs ∧ T.1 34 29 = nI o ∧ T.1 34 43 = nI l ∧ o ≤ 10 ∧ l ≤ o
def outS (n : Nat) (tx : Nat → Nat) (o l a c : Nat) (vs : List Int64) (S T : Sg) (r : Option (Int64 × Sg)) (ref : Option Sg) : Prop := (∃ (v : Int64) (S' T' : Sg) (b P c' el fl gl : Nat), r = some (v, S') ∧ ref = EM el fl gl T' ∧ tsim n tx S' T' b P c' (v :: vs) o l ∧ a < b ∧ c' + a ≤ c + b ∧ o + 1 ≤ el ∧ n + 2 ≤ fl + b ∧ n + 2 ≤ gl + b ∧ gCl S S' ∧ gMl T T' ∧ rwF o (l + 1) T T') ∨ outX n tx S T r ref
section JOINED
variable {n : Nat} {tx : Nat → Nat}
theorem beginL {P : Nat} (hP : P < 6) : ∀ (r x fl : Nat) (S : Sg), x + r = 4 → r + 1 ≤ fl → S.1 5 0 = nI P → ∃ S', f_X7_begin_L12 fl (nI x) S = some S' ∧ S'.2 = S.2 ∧ (∀ id, id ≠ 10 → S'.1 id = S.1 id) ∧ ∀ j, S'.1 10 j = if 4 * P + x ≤ j ∧ j < 4 * P + 4 then 0 else S.1 10 j := by
  intro r
  induction r with
  | zero =>
    intro x fl S hx hfl h5
    obtain ⟨f, rfl⟩ : ∃ f, fl = f + 1 := ⟨fl - 1, by omega⟩
    refine ⟨S, ?_, rfl, fun _ _ => rfl, fun j => by rw [if_neg (by omega)]⟩
    rw [f_X7_begin_L12, k_4, if_pos (by rw [nI_leI (by omega) (by omega)]; omega)]
  | succ r ih =>
    intro x fl S hx hfl h5
    obtain ⟨f, rfl⟩ : ∃ f, fl = f + 1 := ⟨fl - 1, by omega⟩
    obtain ⟨S', e1, w1, w2, w3⟩ := ih (x + 1) f (sI S 10 (P * 4 + x) 0) (by omega) (by omega) (by rw [sI_id _ _ _ (by decide)]; exact h5)
    refine ⟨S', ?_, w1, fun id hid => by rw [w2 id hid, sI_id _ _ _ hid], fun j => ?_⟩
    · rw [f_X7_begin_L12, k_4, if_neg (by rw [nI_leI (by omega) (by omega)]; omega), h5, pk_mul, nI_add, ck_nI (by omega) (by decide), nI_clamp (by omega), vl_d, vl_d, nI_1, e1]
    · rw [w3 j]
      by_cases h1 : j = P * 4 + x
      · rw [if_neg (by omega), if_pos (by omega), h1, sI_at]
      · rw [sI_ne _ _ (Or.inr h1)]
        by_cases h2 : 4 * P + (x + 1) ≤ j ∧ j < 4 * P + 4
        · rw [if_pos h2, if_pos (by omega)]
        · rw [if_neg h2, if_neg (by omega)]
theorem begin_eq {P : Nat} {S : Sg} (hP : P < 6) (h5 : S.1 5 0 = nI P) : ∃ S', f_X7_begin S = some S' ∧ S'.2 = S.2 ∧ (∀ id, id ≠ 6 → id ≠ 10 → S'.1 id = S.1 id) ∧ (∀ q, S'.1 6 q = if q = P then 0 else S.1 6 q) ∧ ∀ j, S'.1 10 j = if 4 * P ≤ j ∧ j < 4 * P + 4 then 0 else S.1 10 j := by
  obtain ⟨S', e1, w1, w2, w3⟩ := beginL hP 4 0 fu (sI S 6 P 0) (by omega) (by unfold fu; omega) (by rw [sI_id _ _ _ (by decide)]; exact h5)
  refine ⟨S', ?_, w1, fun id h6 h10 => by rw [w2 id h10, sI_id _ _ _ h6], fun q => ?_, fun j => ?_⟩
  · unfold f_X7_begin
    rw [h5, ck_nI (by omega) (by decide), nI_clamp (by omega), vl_d, vl_d]
    exact e1
  · rw [w2 6 (by decide)]
    by_cases hq : q = P
    · rw [if_pos hq, hq, sI_at]
    · rw [if_neg hq, sI_ne _ _ (Or.inr hq)]
  · rw [w3 j, sI_id _ _ _ (by decide), Nat.add_zero]
theorem end_eq {P : Nat} {S : Sg} (hP : P < 6) (h5 : S.1 5 0 = nI P) (f l : Int32) (e : Bool) : f_X7_end f l (bI e) S = some (sI (sI (sI (sI S 7 P f) 8 P l) 9 P (bI e)) 5 0 (nI (P + 1))) := by
  unfold f_X7_end
  rw [h5, ck_nI (by omega) (by decide), nI_clamp (by omega), vl_d, sI_id _ _ _ (by decide), h5, ck_nI (by omega) (by decide), nI_clamp (by omega), vl_d, sI_id _ _ _ (by decide), sI_id _ _ _ (by decide), h5, ck_nI (by omega) (by decide), nI_clamp (by omega), nar_b, vl_d, sI_id _ _ _ (by decide), sI_id _ _ _ (by decide), sI_id _ _ _ (by decide), h5, nI_1, vl_d]
theorem gCl_end (P : Nat) (S : Sg) (f l e v : Int32) : gCl S (sI (sI (sI (sI S 7 P f) 8 P l) 9 P e) 5 0 v) := ⟨rfl, fun id hid => by rw [sI_id _ _ _ (by omega), sI_id _ _ _ (by omega), sI_id _ _ _ (by omega), sI_id _ _ _ (by omega)], by rw [sI_id _ _ _ (by decide), sI_id _ _ _ (by decide), sI_id _ _ _ (by decide), sI_id _ _ _ (by decide)]⟩
theorem dT_ft {S S' : Sg} {a pl : Nat} {e : Int32} (h : tC n tx S a) (h8 : ∃ b : Bool, S.1 3 8 = bI b) (he : e = 1 ∨ e = 2) (w : ftC S S' n e pl) : dT n tx S' e pl := ⟨tC_ft h w, w.2.2.2.2.2.1, w.2.2.2.2.2.2, by rw [w.2.2.2.1]; exact h8, he⟩
theorem gCl_ft {S S' : Sg} {pl : Nat} {e : Int32} (w : ftC S S' n e pl) : gCl S S' := gCl_f (fC_ft 0 w)
theorem gMl_ft {T T' : Sg} {pl : Nat} {e : Int32} (w : ftM T T' e pl) : gMl T T' := gMl_f (fM_ft 0 0 w)
/-- one part: the class's joinedPart() against the reference's part() -/
theorem joined_sim {S T : Sg} {a P c o l fl : Nat} {vs : List Int64} (ok : okT n tx) (h : tsim n tx S T a P c vs o l) (hc : c ≤ a) (hfl : n + 2 ≤ fl + a) : outS n tx o l a c vs S T (f_X6_joinedPart S) (f_X10_whole_L190 (f_X10_whole_L51 fl) 1 T) := by
  have hn := ok.1
  obtain ⟨⟨tc, tm, c1, c2, d1, d2, e1, e2, hP, hpv, ha, h8⟩, hpl, ho, hl, ho10, hlo⟩ := h
  have hcl : f_X6_joinedPart S = if isAt (chr n tx a) then (if nI P < 6 then bd (f_X7_begin S) (fun S_6 => bd (f_X6_partR 12 ((0 : Int32)) S_6) (fun S_7 => bd (f_X7_end ((S_7.1 3 6)) ((S_7.1 3 7)) ((S_7.1 3 8)) S_7) (fun S_8 => ck (nI P) 6 (some ((tru (Int32.toNatClampNeg (nI P))), S_8))))) else bd (f_X6_refuse 2 S) (fun S_9 => some ((0 : Int64), S_9))) else bd (f_X6_refuse 1 S) (fun S_10 => some ((0 : Int64), S_10)) := by
    unfold f_X6_joinedPart
    rw [vl_d, e1, sign_eq ok tc (by omega), bd2_some, cs_atom ok]
  have hml : f_X10_whole_L190 (f_X10_whole_L51 fl) 1 T = if isAt (chr n tx a) then bd (f_X10_part T) (fun S_38 => f_X10_whole_L209 (f_X10_whole_L51 fl) 1 S_38) else bd (f_X10_need 0 T) (fun S_14 => (if (S_14.1 34 4) = 0 then bd (f_X10_part S_14) (fun S_38 => f_X10_whole_L209 (f_X10_whole_L51 fl) 1 S_38) else f_X10_whole_L209 (f_X10_whole_L51 fl) 1 S_14)) := by
    unfold f_X10_whole_L190
    rw [seesAtom_eq ok tm (by omega), bd2_some]
    by_cases hat : isAt (chr n tx a)
    · rw [b_t hat, need_1, bd_some, if_pos d1, if_pos hat]
    · rw [b_f hat, if_neg hat]
  rw [hcl, hml]
  by_cases hat : isAt (chr n tx a)
  · rw [if_pos hat, if_pos hat]
    by_cases h6 : P = 6
    · obtain ⟨S', y1, y2⟩ := refuse_eq 2 tc c1
      obtain ⟨T', z1, z2, -⟩ := bad_eq (a := a) 2 d1
      refine Or.inr ⟨0, S', T', 2, a, ?_, ?_, dT_ft tc h8 (Or.inr rfl) y2, ⟨z2.2.2.2.1, z2.2.2.2.2⟩, gCl_ft y2, gMl_ft z2⟩
      · rw [if_neg (by rw [k_6, nI_ltI (by omega) (by omega)]; omega), y1, bd_some]
      · unfold f_X10_part
        rw [e2, k_6, if_pos (by rw [h6]), tm.2.1, z1, bd_some, bd_some]
        unfold f_X10_whole_L209
        rw [if_neg (nle1 (Or.inr z2.2.2.2.1)).1]
    · have hP6 : P < 6 := by omega
      obtain ⟨S1, y1, y2, y3, y4, y5⟩ := begin_eq hP6 e1
      have yi : ∀ id, id ≠ 6 → id ≠ 10 → S1.1 id = S.1 id := y3
      -- the reference up to the head of its loop
      let T1 : Sg := sI (sI (sI T 34 6 (nI (P + 1))) 37 P 0) 34 28 0
      have t34 : ∀ b, b ≠ 6 → b ≠ 28 → T1.1 34 b = T.1 34 b := fun b b1 b2 => by
        show (sI (sI (sI T 34 6 (nI (P + 1))) 37 P 0) 34 28 0).1 34 b = _
        rw [sI_ne _ _ (Or.inr b2), sI_id _ _ _ (by decide), sI_ne _ _ (Or.inr b1)]
      have tid : ∀ id, id ≠ 34 → id ≠ 37 → T1.1 id = T.1 id := fun id i1 i2 => by
        show (sI (sI (sI T 34 6 (nI (P + 1))) 37 P 0) 34 28 0).1 id = _
        rw [sI_id _ _ _ i1, sI_id _ _ _ i2, sI_id _ _ _ i1]
      have t37 : ∀ q, T1.1 37 q = if q = P then 0 else T.1 37 q := fun q => by
        show (sI (sI (sI T 34 6 (nI (P + 1))) 37 P 0) 34 28 0).1 37 q = _
        rw [sI_id _ _ _ (by decide)]
        by_cases hq : q = P
        · rw [if_pos hq, hq, sI_at]
        · rw [if_neg hq, sI_ne _ _ (Or.inr hq), sI_id _ _ _ (by decide)]
      have t28 : T1.1 34 28 = nI 0 := sI_at _ _ _ _
      have t6 : T1.1 34 6 = nI (P + 1) := by
        show (sI (sI (sI T 34 6 (nI (P + 1))) 37 P 0) 34 28 0).1 34 6 = _
        rw [sI_ne _ _ (Or.inr (by decide)), sI_id _ _ _ (by decide), sI_at]
      obtain ⟨T2, z1, z2, z3, z4, z5, z6⟩ := opens_eq (T := T1) (D := 0) (by omega) t28
      have u34 : T2.1 34 = T1.1 34 := z5 34 (by omega)
      have hm1 : f_X10_part T = hdM fu T2 := by
        unfold f_X10_part
        rw [e2, if_neg (by rw [k_6, nI_eq (by omega) (by omega)]; omega), nI_1, vl_d, sI_at, k_1, pk_sub (by omega), Nat.add_sub_cancel, ck_nI hP6 (by decide), nI_clamp (by omega), vl_d, vl_d]
        show bd (f_X10_opens T1) _ = _
        rw [z1, bd_some, vl_d]
        rfl
      have s0 : sim n tx P 0 S1 T2 a := by
        refine ⟨0, fun _ => 0, fun _ => 0, fun _ => 0, ⟨⟨by rw [yi 3 (by decide) (by decide)]; exact tc.1, by rw [yi 3 (by decide) (by decide)]; exact tc.2.1, fun k hk => by rw [yi 4 (by decide) (by decide)]; exact tc.2.2 k hk⟩, by rw [yi 3 (by decide) (by decide)]; exact c1, by rw [yi 3 (by decide) (by decide)]; exact c2, by rw [yi 5 (by decide) (by decide)]; exact e1, by rw [y4 P, if_pos rfl]; rfl, fun k hk => absurd hk (by omega), fun x hx => by rw [y5, if_pos (by omega)], by rw [yi 3 (by decide) (by decide)]; exact h8⟩, ⟨⟨by rw [u34, t34 3 (by decide) (by decide)]; exact tm.1, by rw [u34, t34 27 (by decide) (by decide)]; exact tm.2.1, fun k hk => by rw [z5 36 (by omega), tid 36 (by decide) (by decide)]; exact tm.2.2 k hk⟩, by rw [u34, t34 4 (by decide) (by decide)]; exact d1, by rw [u34, t34 5 (by decide) (by decide)]; exact d2, by rw [u34]; exact t6, by rw [z5 37 (by omega), t37 P, if_pos rfl]; rfl, fun k hk => absurd hk (by omega), by rw [u34]; exact t28⟩, ?_, by omega, hP6, ha, by omega⟩
        intro x _ k
        rw [decide_eq_false (by omega), Bool.false_and]
        exact b_0 k
      have gCl1 : gCl S S1 := ⟨y2, fun id hid => yi id (by omega) (by omega), by rw [yi 3 (by decide) (by decide)]⟩
      have gM1 : gMl T T2 := ⟨z4, fun id i1 i2 i3 => by rw [z5 id (by omega), tid id i1 (by omega)], fun b hb => by rw [u34, t34 b hb.2.2.1 hb.2.2.2.2.2.1]⟩
      have rw1 : rwF o (l + 1) T T2 := rwF_id (by rw [z5 62 (by omega), tid 62 (by decide) (by decide)]) (by rw [z5 63 (by omega), tid 63 (by decide) (by decide)]) (by rw [z5 64 (by omega), tid 64 (by decide) (by decide)])
      rw [if_pos (by rw [k_6, nI_ltI (by omega) (by omega)]; omega), y1, bd_some, hm1]
      rcases partR_sim (p := P) ok 10 0 (by omega) S1 T2 a fu s0 (by unfold fu; omega) z2 z3 with ⟨S2, T3, b, rf, rl', af, al, re, ae, fl1, gl1, q1, q2, q3, q4, q5, q6, q7, q8, q9, q10, q11, q12, q13⟩ | ⟨S2, T3, e', pl', q1, q2, q3, q4, q5, q6⟩
      · obtain ⟨sc, F, R, L, hC, hM, hrl, hs, -, hb, -⟩ := q3
        obtain ⟨gl2, rfl⟩ : ∃ gl2, gl1 = gl2 + 1 := ⟨gl1 - 1, by omega⟩
        obtain ⟨fl2, rfl⟩ : ∃ fl2, fl1 = fl2 + 1 := ⟨fl1 - 1, by omega⟩
        have hd3 : T3.1 34 28 = nI 0 := hM.2.2.2.2.2.2
        obtain ⟨T4, v1, v2, v3, v4, v5, v6⟩ := rowEnds_eq (D := 0) (by omega) hd3 q6 q7
        have w34 : T4.1 34 = T3.1 34 := v5 34 (by omega)
        have w13 : T3.1 34 13 = nI c := by
          rw [q9.2.2.1 13 (by decide) (by decide) (by decide) (by decide) (by decide) (by decide) (by decide), u34, t34 13 (by decide) (by decide)]
          exact hpl.1
        let T5 : Sg := sI (sI (sI T4 38 P (bI (ae || re))) 39 P (af ||| rf)) 40 P (al ||| rl')
        have x34 : T5.1 34 = T3.1 34 := by
          show (sI (sI (sI T4 38 P (bI (ae || re))) 39 P (af ||| rf)) 40 P (al ||| rl')).1 34 = _
          rw [sI_id _ _ _ (by decide), sI_id _ _ _ (by decide), sI_id _ _ _ (by decide), w34]
        have xid : ∀ id, id ≠ 38 → id ≠ 39 → id ≠ 40 → T5.1 id = T4.1 id := fun id i1 i2 i3 => by
          show (sI (sI (sI T4 38 P (bI (ae || re))) 39 P (af ||| rf)) 40 P (al ||| rl')).1 id = _
          rw [sI_id _ _ _ i3, sI_id _ _ _ i2, sI_id _ _ _ i1]
        have x38 : ∀ q, T5.1 38 q = if q = P then bI (ae || re) else T4.1 38 q := fun q => by
          show (sI (sI (sI T4 38 P (bI (ae || re))) 39 P (af ||| rf)) 40 P (al ||| rl')).1 38 q = _
          rw [sI_id _ _ _ (by decide), sI_id _ _ _ (by decide)]
          by_cases hq : q = P
          · rw [if_pos hq, hq, sI_at]
          · rw [if_neg hq, sI_ne _ _ (Or.inr hq)]
        have x39 : ∀ q, T5.1 39 q = if q = P then af ||| rf else T4.1 39 q := fun q => by
          show (sI (sI (sI T4 38 P (bI (ae || re))) 39 P (af ||| rf)) 40 P (al ||| rl')).1 39 q = _
          rw [sI_id _ _ _ (by decide)]
          by_cases hq : q = P
          · rw [if_pos hq, hq, sI_at]
          · rw [if_neg hq, sI_ne _ _ (Or.inr hq), sI_id _ _ _ (by decide)]
        have x40 : ∀ q, T5.1 40 q = if q = P then al ||| rl' else T4.1 40 q := fun q => by
          show (sI (sI (sI T4 38 P (bI (ae || re))) 39 P (af ||| rf)) 40 P (al ||| rl')).1 40 q = _
          by_cases hq : q = P
          · rw [if_pos hq, hq, sI_at]
          · rw [if_neg hq, sI_ne _ _ (Or.inr hq), sI_id _ _ _ (by decide), sI_id _ _ _ (by decide)]
        have hm2 : rpM (fl2 + 1) (gl2 + 1) T3 = some (saysT (nI P) c T5) := by
          rw [rp_250 ok hM hb (by omega) (Or.inl rfl)]
          unfold f_X10_part_L250
          rw [k_124, ms_is ok hM.1 (by omega) (by decide), if_neg q13, ms_atom ok hM.1 (by omega), if_neg q12, hd3, if_pos (show nI 0 = 0 from rfl), need_1, bd_some, vl_d, f_X10_part_L52, if_pos rfl]
          unfold f_X10_part_L304
          rw [if_pos (le00 hM.2.1), v1, bd_some, k_0, ck_nI (by omega) (by decide), w34, hM.2.2.2.1, k_1, pk_sub (by omega), Nat.add_sub_cancel, ck_nI hP6 (by decide), nI_clamp (by omega), nI_clamp (by omega), v2.2.2, nar_b, vl_d, ck_nI (by omega) (by decide), sI_id _ _ _ (by decide), w34, hM.2.2.2.1, pk_sub (by omega), Nat.add_sub_cancel, ck_nI hP6 (by decide), nI_clamp (by omega), sI_id _ _ _ (by decide), v2.1, vl_d, ck_nI (by omega) (by decide), sI_id _ _ _ (by decide), sI_id _ _ _ (by decide), w34, hM.2.2.2.1, pk_sub (by omega), Nat.add_sub_cancel, ck_nI hP6 (by decide), nI_clamp (by omega), sI_id _ _ _ (by decide), sI_id _ _ _ (by decide), v2.2.1, vl_d, sI_id _ _ _ (by decide), sI_id _ _ _ (by decide), sI_id _ _ _ (by decide), w34, hM.2.2.2.1, pk_sub (by omega), Nat.add_sub_cancel]
          show bd (f_X10_says (nI P) T5) _ = _
          rw [says_eq (c := c) (nI P) (by rw [x34]; exact w13) (by omega), bd_some]
        have s34 : ∀ i, i ≠ 13 → (saysT (nI P) c T5).1 34 i = T3.1 34 i := fun i hi => by rw [says_34 _ _ _ hi, x34]
        have sid : ∀ id, id ≠ 34 → id ≠ 43 → (saysT (nI P) c T5).1 id = T5.1 id := fun id i1 i2 => says_id _ _ _ i1 i2
        -- the parts
        have k43 : T5.1 43 = T.1 43 := by
          rw [xid 43 (by decide) (by decide) (by decide), v5 43 (by omega), q9.2.1 43 (by decide) (by decide) (by decide) (by decide) (by omega), z5 43 (by omega), tid 43 (by decide) (by decide)]
        have hpl5 : pl P T5 c vs := pl_f hpl k43 (by rw [x34, w13]; exact hpl.1.symm)
        have f34 : ∀ i, i ≠ 4 → i ≠ 5 → i ≠ 27 → i ≠ 28 → i ≠ 37 → i ≠ 38 → i ≠ 39 → i ≠ 6 → T3.1 34 i = T.1 34 i := fun i i1 i2 i3 i4 i5 i6 i7 i8 => by rw [q9.2.2.1 i i1 i2 i3 i4 i5 i6 i7, u34, t34 i i8 i4]
        let S3 : Sg := sI (sI (sI (sI S2 7 P (af ||| rf)) 8 P (al ||| rl')) 9 P (bI (ae || re))) 5 0 (nI (P + 1))
        have cid : ∀ id, id ≠ 5 → id ≠ 7 → id ≠ 8 → id ≠ 9 → S3.1 id = S2.1 id := fun id i1 i2 i3 i4 => by
          show (sI (sI (sI (sI S2 7 P (af ||| rf)) 8 P (al ||| rl')) 9 P (bI (ae || re))) 5 0 (nI (P + 1))).1 id = _
          rw [sI_id _ _ _ i1, sI_id _ _ _ i4, sI_id _ _ _ i3, sI_id _ _ _ i2]
        have x7 : ∀ q, S3.1 7 q = if q = P then af ||| rf else S2.1 7 q := fun q => by
          show (sI (sI (sI (sI S2 7 P (af ||| rf)) 8 P (al ||| rl')) 9 P (bI (ae || re))) 5 0 (nI (P + 1))).1 7 q = _
          rw [sI_id _ _ _ (by decide), sI_id _ _ _ (by decide), sI_id _ _ _ (by decide)]
          by_cases hq : q = P
          · rw [if_pos hq, hq, sI_at]
          · rw [if_neg hq, sI_ne _ _ (Or.inr hq)]
        have x8 : ∀ q, S3.1 8 q = if q = P then al ||| rl' else S2.1 8 q := fun q => by
          show (sI (sI (sI (sI S2 7 P (af ||| rf)) 8 P (al ||| rl')) 9 P (bI (ae || re))) 5 0 (nI (P + 1))).1 8 q = _
          rw [sI_id _ _ _ (by decide), sI_id _ _ _ (by decide)]
          by_cases hq : q = P
          · rw [if_pos hq, hq, sI_at]
          · rw [if_neg hq, sI_ne _ _ (Or.inr hq), sI_id _ _ _ (by decide)]
        have x9 : ∀ q, S3.1 9 q = if q = P then bI (ae || re) else S2.1 9 q := fun q => by
          show (sI (sI (sI (sI S2 7 P (af ||| rf)) 8 P (al ||| rl')) 9 P (bI (ae || re))) 5 0 (nI (P + 1))).1 9 q = _
          rw [sI_id _ _ _ (by decide)]
          by_cases hq : q = P
          · rw [if_pos hq, hq, sI_at]
          · rw [if_neg hq, sI_ne _ _ (Or.inr hq), sI_id _ _ _ (by decide), sI_id _ _ _ (by decide)]
        have hpv3 : ∀ q, q < P + 1 → pv S3 (saysT (nI P) c T5) q := by
          intro q hq
          by_cases hqP : q = P
          · subst hqP
            refine ⟨sc, ae || re, ?_, ?_, hs, fun k hk => ?_, fun x hx k => ?_, ?_, ?_, ?_, ?_⟩
            · rw [cid 6 (by decide) (by decide) (by decide) (by decide)]; exact hC.2.2.2.2.1
            · rw [sid 37 (by decide) (by decide), xid 37 (by decide) (by decide) (by decide), v5 37 (by omega)]; exact hM.2.2.2.2.1
            · rw [cid 11 (by decide) (by decide) (by decide) (by decide), hC.2.2.2.2.2.1 k hk, sid 42 (by decide) (by decide), xid 42 (by decide) (by decide) (by decide), v5 42 (by omega), (hM.2.2.2.2.2.1 k hk).1]
            · rw [cid 10 (by decide) (by decide) (by decide) (by decide), hC.2.2.2.2.2.2.1 x hx, hrl x hx k]
              by_cases hk : k < sc
              · rw [sid 41 (by decide) (by decide), xid 41 (by decide) (by decide) (by decide), v5 41 (by omega), (hM.2.2.2.2.2.1 k hk).2]
              · rw [decide_eq_false hk, Bool.false_and, Bool.false_and]
            · rw [x9, if_pos rfl]
            · rw [sid 38 (by decide) (by decide), x38, if_pos rfl]
            · rw [x7, if_pos rfl, sid 39 (by decide) (by decide), x39, if_pos rfl]
            · rw [x8, if_pos rfl, sid 40 (by decide) (by decide), x40, if_pos rfl]
          · have m3 : ∀ id, id ≠ 34 → id ≠ 37 → id ≠ 41 → id ≠ 42 → id ≠ 38 → id ≠ 39 → id ≠ 40 → id < 55 → T4.1 id = T.1 id := fun id i1 i2 i3 i4 _ _ _ i5 => by rw [v5 id (by omega), q9.2.1 id i1 i2 i3 i4 (by omega), z5 id (by omega), tid id i1 i2]
            have c3 : ∀ id, id ≠ 3 → id ≠ 6 → id ≠ 10 → id ≠ 11 → S2.1 id = S.1 id := fun id i1 i2 i3 i4 => by rw [q8.2.1 id i1 i2 i3 i4, yi id i2 i3]
            refine pv_f (hpv q (by omega)) ?_ ?_ ?_ ?_ (fun x hx => ?_) (fun k hk => ?_) ?_ ?_ ?_ ?_ (fun k hk => ⟨?_, ?_⟩)
            · rw [cid 6 (by decide) (by decide) (by decide) (by decide), q8.2.2.2.1 q hqP, y4 q, if_neg hqP]
            · rw [x7, if_neg hqP, c3 7 (by decide) (by decide) (by decide) (by decide)]
            · rw [x8, if_neg hqP, c3 8 (by decide) (by decide) (by decide) (by decide)]
            · rw [x9, if_neg hqP, c3 9 (by decide) (by decide) (by decide) (by decide)]
            · rw [cid 10 (by decide) (by decide) (by decide) (by decide), q8.2.2.2.2.1 _ (by omega), y5, if_neg (by omega)]
            · rw [cid 11 (by decide) (by decide) (by decide) (by decide), q8.2.2.2.2.2 _ (by omega), yi 11 (by decide) (by decide)]
            · rw [sid 37 (by decide) (by decide), xid 37 (by decide) (by decide) (by decide), v5 37 (by omega), q9.2.2.2.1 q hqP, z5 37 (by omega), t37 q, if_neg hqP]
            · rw [sid 38 (by decide) (by decide), x38, if_neg hqP, v5 38 (by omega), q9.2.1 38 (by decide) (by decide) (by decide) (by decide) (by omega), z5 38 (by omega), tid 38 (by decide) (by decide)]
            · rw [sid 39 (by decide) (by decide), x39, if_neg hqP, v5 39 (by omega), q9.2.1 39 (by decide) (by decide) (by decide) (by decide) (by omega), z5 39 (by omega), tid 39 (by decide) (by decide)]
            · rw [sid 40 (by decide) (by decide), x40, if_neg hqP, v5 40 (by omega), q9.2.1 40 (by decide) (by decide) (by decide) (by decide) (by omega), z5 40 (by omega), tid 40 (by decide) (by decide)]
            · rw [sid 41 (by decide) (by decide), xid 41 (by decide) (by decide) (by decide), v5 41 (by omega), (q9.2.2.2.2.1 _ (by omega)).1, z5 41 (by omega), tid 41 (by decide) (by decide)]
            · rw [sid 42 (by decide) (by decide), xid 42 (by decide) (by decide) (by decide), v5 42 (by omega), (q9.2.2.2.2.1 _ (by omega)).2, z5 42 (by omega), tid 42 (by decide) (by decide)]
        have s3i := cid 3 (by decide) (by decide) (by decide) (by decide)
        have gM5 : gMl T3 (saysT (nI P) c T5) := gMl_t (T' := T5) ⟨v4, fun id _ i2 i3 => by rw [xid id (by omega) (by omega) (by omega), v5 id (by omega)], fun i _ => by rw [x34]⟩ (gMl_says _ _ _)
        refine Or.inl ⟨tru P, S3, saysT (nI P) c T5, b, P + 1, c + 1, fu, fl, fu, ?_, ?_, ⟨⟨⟨by rw [s3i]; exact hC.1.1, by rw [s3i]; exact hC.1.2.1, fun k hk => by rw [cid 4 (by decide) (by decide) (by decide) (by decide)]; exact hC.1.2.2 k hk⟩, ⟨by rw [s34 3 (by decide)]; exact hM.1.1, by rw [s34 27 (by decide)]; exact hM.1.2.1, fun k hk => by rw [sid 36 (by decide) (by decide), xid 36 (by decide) (by decide) (by decide), v5 36 (by omega)]; exact hM.1.2.2 k hk⟩, by rw [s3i]; exact hC.2.1, by rw [s3i]; exact hC.2.2.1, by rw [s34 4 (by decide)]; exact hM.2.1, by rw [s34 5 (by decide)]; exact hM.2.2.1, sI_at _ _ _ _, by rw [s34 6 (by decide)]; exact hM.2.2.2.1, by omega, hpv3, hb, by rw [s3i]; exact hC.2.2.2.2.2.2.2⟩, pl_says (pl_up (by omega) (by omega) hpl5) (fun w hw => st_part hP6 (by omega) (by omega) vs hw), by rw [s34 29 (by decide), f34 29 (by decide) (by decide) (by decide) (by decide) (by decide) (by decide) (by decide) (by decide)]; exact ho, by rw [s34 43 (by decide), f34 43 (by decide) (by decide) (by decide) (by decide) (by decide) (by decide) (by decide) (by decide)]; exact hl, ho10, hlo⟩, by omega, by omega, by unfold fu; omega, by omega, by unfold fu; omega, gCl_t gCl1 (gCl_t (gCl_f q8) (gCl_end _ _ _ _ _ _)), gMl_t gM1 (gMl_t (gMl_f q9) gM5), rwF_t rw1 (rwF_t (rwF_f q9) (rwF_id ?_ ?_ ?_))⟩
        · rw [show (0 : Int32) = nI 0 from rfl, q1, bd_some, q5.1, q5.2.1, q5.2.2, end_eq hP6 hC.2.2.2.1, bd_some, ck_nI hP6 (by decide), nI_clamp (by omega)]
        · rw [q2, hm2, bd_some]
          unfold f_X10_whole_L209
          rw [if_pos (le00 (by rw [s34 4 (by decide)]; exact hM.2.1))]
          rfl
        · rw [sid 62 (by decide) (by decide), xid 62 (by decide) (by decide) (by decide), v5 62 (by omega)]
        · rw [sid 63 (by decide) (by decide), xid 63 (by decide) (by decide) (by decide), v5 63 (by omega)]
        · rw [sid 64 (by decide) (by decide), xid 64 (by decide) (by decide) (by decide), v5 64 (by omega)]
      · obtain ⟨eb, heb⟩ := q3.2.2.2.2.2.1
        refine Or.inr ⟨tru P, sI (sI (sI (sI S2 7 P (S2.1 3 6)) 8 P (S2.1 3 7)) 9 P (bI eb)) 5 0 (nI (P + 1)), T3, e', pl', ?_, ?_, ?_, q4, gCl_t gCl1 (gCl_t (gCl_f q5) (gCl_end _ _ _ _ _ _)), gMl_t gM1 (gMl_f q6)⟩
        · rw [show (0 : Int32) = nI 0 from rfl, q1, bd_some, heb, end_eq hP6 q3.2.2.2.1, bd_some, ck_nI hP6 (by decide), nI_clamp (by omega)]
        · rw [q2, bd_some]
          unfold f_X10_whole_L209
          rw [if_neg (nle1 (by rw [q4.1]; exact q3.2.2.2.2.2.2)).1]
        · have i3 : ∀ id, id ≠ 5 → id ≠ 7 → id ≠ 8 → id ≠ 9 → (sI (sI (sI (sI S2 7 P (S2.1 3 6)) 8 P (S2.1 3 7)) 9 P (bI eb)) 5 0 (nI (P + 1))).1 id = S2.1 id := fun id i1 i2 i3 i4 => by rw [sI_id _ _ _ i1, sI_id _ _ _ i4, sI_id _ _ _ i3, sI_id _ _ _ i2]
          have j3 := i3 3 (by decide) (by decide) (by decide) (by decide)
          exact ⟨⟨by rw [j3]; exact q3.1.1, by rw [j3]; exact q3.1.2.1, fun k hk => by rw [i3 4 (by decide) (by decide) (by decide) (by decide)]; exact q3.1.2.2 k hk⟩, by rw [j3]; exact q3.2.1, by rw [j3]; exact q3.2.2.1, by rw [j3]; exact ⟨eb, heb⟩, q3.2.2.2.2.2.2⟩
  · rw [if_neg hat, if_neg hat]
    obtain ⟨S', y1, y2⟩ := refuse_eq 1 tc c1
    obtain ⟨T', z1, z2, -⟩ := need_0 tm.2.1 d1
    refine Or.inr ⟨0, S', T', 1, a, ?_, ?_, dT_ft tc h8 (Or.inl rfl) y2, ⟨z2.2.2.2.1, z2.2.2.2.2⟩, gCl_ft y2, gMl_ft z2⟩
    · rw [y1, bd_some]
    · have n4 := nle1 (x := T'.1 34 4) (Or.inl z2.2.2.2.1)
      rw [z1, bd_some, if_neg n4.2]
      unfold f_X10_whole_L209
      rw [if_neg n4.1]
end JOINED
