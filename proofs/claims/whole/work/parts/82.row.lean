def rpM (fl gl : Nat) (T : Sg) : Option Sg := f_X10_part_L157 (f_X10_part_L52 fl) gl 1 T
def rowv (T : Sg) (D : Nat) (f l : Int32) (e : Bool) : Prop := T.1 55 D = 1 ∧ T.1 57 D = f ∧ T.1 58 D = l ∧ T.1 56 D = bI e
def anyv (T : Sg) (D : Nat) (f l : Int32) (e : Bool) : Prop := T.1 60 D = f ∧ T.1 61 D = l ∧ T.1 59 D = bI e
def oz (b : Bool) (x : Int32) : Int32 := if b then x else 0
section ROW
variable {n : Nat} {tx : Nat → Nat} {p D : Nat}
theorem sim_rows {S T T' : Sg} {a : Nat} (h : sim n tx p D S T a) (h1 : ∀ id, id < 55 ∨ 61 < id → T'.1 id = T.1 id) : sim n tx p D S T' a := by
  obtain ⟨sc, F, R, L, hC, hM, hrl, hs, hp, ha, hD⟩ := h
  have q := h1 34 (by omega)
  exact ⟨sc, F, R, L, hC, vwM_34 hM (fun id _ hid => h1 id hid) (by rw [q]) (by rw [q]; exact hM.1.2.1) (by rw [q]) (by rw [q]) (by rw [q]) (by rw [q]; exact hM.2.2.2.2.2.2), hrl, hs, hp, ha, hD⟩
theorem fM_rows {T T' : Sg} (p : Nat) (h2 : T'.2 = T.2) (h1 : ∀ id, id < 55 ∨ 61 < id → T'.1 id = T.1 id) (h3 : ∀ id, 55 ≤ id → id ≤ 61 → ∀ d, d < D → T'.1 id d = T.1 id d) : fM p D T T' := ⟨h2, fun id _ _ _ _ h => h1 id h, fun b _ _ _ _ _ _ _ => by rw [h1 34 (by omega)], fun q _ => by rw [h1 37 (by omega)], fun j _ => ⟨by rw [h1 41 (by omega)], by rw [h1 42 (by omega)]⟩, h3⟩
theorem merge0 {T : Sg} {f l : Int32} {e : Bool} (hD : D ≤ 10) (hd : T.1 34 28 = nI D) (h0 : T.1 55 D = 0) (hm : pms T f l e) : ∃ T', f_X10_item_L93 T = some T' ∧ rowv T' D f l e ∧ T'.2 = T.2 ∧ (∀ id, id < 55 ∨ 58 < id → T'.1 id = T.1 id) ∧ ∀ id d, d ≠ D → T'.1 id d = T.1 id d := by
  refine ⟨sI (sI (sI (sI T 55 D 1) 56 D (bI e)) 57 D f) 58 D l, ?_, ⟨?_, ?_, sI_at _ _ _ _, ?_⟩, rfl, fun id hid => by rw [sI_id _ _ _ (by omega), sI_id _ _ _ (by omega), sI_id _ _ _ (by omega), sI_id _ _ _ (by omega)], fun id d hd => by rw [sI_ne _ _ (Or.inr hd), sI_ne _ _ (Or.inr hd), sI_ne _ _ (Or.inr hd), sI_ne _ _ (Or.inr hd)]⟩
  · unfold f_X10_item_L93
    rw [hd, ck_nI (by omega) (by decide), nI_clamp (by omega), if_pos h0, ck_nI (by omega) (by decide), vl_d, nar_1, sI_id _ _ _ (by decide), hd, ck_nI (by omega) (by decide), nI_clamp (by omega), hm.2.2, nar_b, vl_d, sI_id _ _ _ (by decide), sI_id _ _ _ (by decide), hd, ck_nI (by omega) (by decide), nI_clamp (by omega), hm.1, vl_d, sI_id _ _ _ (by decide), sI_id _ _ _ (by decide), sI_id _ _ _ (by decide), hd, ck_nI (by omega) (by decide), nI_clamp (by omega), hm.2.1, vl_d]
  · rw [sI_id _ _ _ (by decide), sI_id _ _ _ (by decide), sI_id _ _ _ (by decide), sI_at]
  · rw [sI_id _ _ _ (by decide), sI_at]
  · rw [sI_id _ _ _ (by decide), sI_id _ _ _ (by decide), sI_at]
theorem merge1 {T T1 : Sg} {f l rf rl' : Int32} {e re : Bool} (hD : D ≤ 10) (hd : T.1 34 28 = nI D) (hr : rowv T D rf rl' re) (hm : pms T f l e) (hfo : f_X10_follows rl' f T = some T1) (hid : ∀ id, id ≠ 42 → T1.1 id = T.1 id) : ∃ T', f_X10_item_L93 T = some T' ∧ rowv T' D (rf ||| oz re f) (l ||| oz e rl') (re && e) ∧ T'.2 = T1.2 ∧ (∀ id, id < 55 ∨ 58 < id → T'.1 id = T1.1 id) ∧ ∀ id d, d ≠ D → T'.1 id d = T1.1 id d := by
  have hd1 : T1.1 34 28 = nI D := by rw [hid 34 (by decide)]; exact hd
  have hm1 : pms T1 f l e := by unfold pms; rw [hid 34 (by decide)]; exact hm
  have hr1 : rowv T1 D rf rl' re := by unfold rowv; rw [hid 55 (by decide), hid 57 (by decide), hid 58 (by decide), hid 56 (by decide)]; exact hr
  refine ⟨sI (sI (sI T1 57 D (rf ||| oz re f)) 58 D (l ||| oz e rl')) 56 D (bI (re && e)), ?_, ⟨?_, ?_, ?_, sI_at _ _ _ _⟩, rfl, fun id hid => by rw [sI_id _ _ _ (by omega), sI_id _ _ _ (by omega), sI_id _ _ _ (by omega)], fun id d hd => by rw [sI_ne _ _ (Or.inr hd), sI_ne _ _ (Or.inr hd), sI_ne _ _ (Or.inr hd)]⟩
  · have c1 : f_X10_item_L93 T = f_X10_item_L202 (oz re f) rf (nI D) T1 := by
      unfold f_X10_item_L93
      rw [hd, ck_nI (by omega) (by decide), nI_clamp (by omega), if_neg (by rw [hr.1]; decide), ck_nI (by omega) (by decide), hr.2.2.1, hm.1, hfo, bd_some, hd1, ck_nI (by omega) (by decide), ck_nI (by omega) (by decide), nI_clamp (by omega), hr1.2.2.2, hr1.2.1, hm1.1]
      cases re with
      | true => rw [if_neg (show ¬ bI true = 0 by decide)]; rfl
      | false => rw [if_pos (show bI false = 0 by decide)]; rfl
    have c2 : ∀ T2 : Sg, T2.1 34 28 = nI D → pms T2 f l e → T2.1 56 D = bI re → ∀ v, f_X10_item_L236 v l (nI D) T2 = some (sI (sI T2 58 D (l ||| v)) 56 D (bI (re && e))) := by
      intro T2 a1 a2 a3 v
      unfold f_X10_item_L236
      rw [ck_nI (by omega) (by decide), nI_clamp (by omega), vl_d, sI_id _ _ _ (by decide), a1, ck_nI (by omega) (by decide), nI_clamp (by omega), sI_id _ _ _ (by decide), a3, ck_nI (by omega) (by decide), nar_0, nar_1, a2.2.2]
      cases re with
      | true =>
        rw [if_neg (show ¬ bI true = 0 by decide)]
        cases e with
        | true => rw [if_neg (show ¬ bI true = 0 by decide), ck_nI (by omega) (by decide), vl_d]; rfl
        | false => rw [if_pos (show bI false = 0 by decide), vl_d]; rfl
      | false => rw [if_pos (show bI false = 0 by decide), vl_d]; rfl
    rw [c1]
    unfold f_X10_item_L202
    rw [ck_nI (by omega) (by decide), nI_clamp (by omega), vl_d, sI_id _ _ _ (by decide), hm1.2.2, hm1.2.1, hd1, ck_nI (by omega) (by decide), nI_clamp (by omega), sI_id _ _ _ (by decide), hr1.2.2.1]
    have k := c2 (sI T1 57 D (rf ||| oz re f)) (by rw [sI_id _ _ _ (by decide)]; exact hd1) (by unfold pms; rw [sI_id _ _ _ (by decide)]; exact hm1) (by rw [sI_id _ _ _ (by decide)]; exact hr1.2.2.2)
    cases e with
    | true => rw [if_neg (show ¬ bI true = 0 by decide), k]; rfl
    | false => rw [if_pos (show bI false = 0 by decide), k]; rfl
  · rw [sI_id _ _ _ (by decide), sI_id _ _ _ (by decide), sI_id _ _ _ (by decide)]; exact hr1.1
  · rw [sI_id _ _ _ (by decide), sI_id _ _ _ (by decide), sI_at]
  · rw [sI_id _ _ _ (by decide), sI_at]
theorem rp_250 {T : Sg} {a sc fl gl : Nat} {F L : Nat → Int32} (ok : okT n tx) (h : vwM n tx T a p sc F L D) (ha : a ≤ n) (hD : D ≤ 10) (hc : D = 0 ∨ ¬ chr n tx a = 41) : rpM fl (gl + 1) T = f_X10_part_L250 (f_X10_part_L52 fl) 1 T := by
  have hn := ok.1
  unfold rpM
  rw [f_X10_part_L157, if_pos h.2.1, h.2.2.2.2.2.2]
  by_cases h0 : D = 0
  · rw [if_pos (by rw [h0]; decide)]
  · rw [if_neg (by rw [k_0, nI_leI (by omega) (by omega)]; omega), k_41, ms_is ok h.1 (by omega) (by decide), if_neg (by omega)]
theorem rp_atom {T : Sg} {a sc fl gl : Nat} {F L : Nat → Int32} (ok : okT n tx) (h : vwM n tx T a p sc F L D) (ha : a ≤ n) (hD : D ≤ 10) (hc : isAt (chr n tx a)) : rpM fl (gl + 1) T = hdM fl T := by
  have hn := ok.1
  rw [rp_250 ok h ha hD (Or.inr (fun z => by rw [z] at hc; revert hc; decide))]
  unfold f_X10_part_L250
  rw [k_124, ms_is ok h.1 (by omega) (by decide), if_neg (fun z => by rw [z] at hc; revert hc; decide), ms_atom ok h.1 (by omega), if_pos hc]
  rfl
def outR (n : Nat) (tx : Nat → Nat) (p D : Nat) (S T : Sg) (a : Nat) (r ref : Option Sg) : Prop := (∃ (S' T' : Sg) (b : Nat) (f l : Int32) (e : Bool) (fl gl : Nat), r = some S' ∧ ref = rpM fl gl T' ∧ sim n tx p D S' T' b ∧ a ≤ b ∧ pcs S' f l e ∧ rowv T' D f l e ∧ (T'.1 59 D = T.1 59 D ∧ T'.1 60 D = T.1 60 D ∧ T'.1 61 D = T.1 61 D) ∧ fC p S S' ∧ fM p D T T' ∧ n + 2 ≤ fl + b ∧ n + 2 ≤ gl + b ∧ ¬ isAt (chr n tx b)) ∨ outF n tx p S T r ref
theorem fM_0 {T T' T'' : Sg} {D : Nat} (h : fM p D T T') (g : fM p 0 T' T'') : fM p 0 T T'' := fM_t (fM_le h (Nat.zero_le _)) g
/-- what the class does behind an item of a row, if all is dead -/
theorem row_dead {g : Int32 → Sg → Option Sg} {S : Sg} {e : Int32} {pl fl t : Nat} {x1 x2 x3 : Int32} (b : Bool) (ok : okT n tx) (hfl : 1 ≤ fl) (h : dd n tx p S e pl) : ∃ S', f_X6_row_L24 g fl x1 x2 x3 (bI b) (nI t) S = some S' ∧ dd n tx p S' e pl ∧ fC p S S' := by
  have hn := ok.1
  obtain ⟨f, rfl⟩ : ∃ f, fl = f + 1 := ⟨fl - 1, by omega⟩
  obtain ⟨S', e1, w1, w2⟩ := setPiece_dd h x2 x3 b
  refine ⟨S', ?_, w1, w2⟩
  rw [f_X6_row_L24, h.1.1]
  by_cases hl : nI n ≤ nI t
  · rw [if_pos hl, e1, bd_some]
  · rw [if_neg hl, sign_eq ok h.1 (by omega), bd2_some, cs_atom ok, if_neg (by rw [chr_n]; decide), e1, bd_some]
theorem row_tail {g : Int32 → Sg → Option Sg} {K : Int32 → Int32 → Int32 → Int32 → Int32 → Sg → Option Sg} {S : Sg} {x1 x2 x3 : Int32} {t : Nat} {f l : Int32} {e re : Bool} (h1 : S.1 3 7 = l) (h2 : S.1 3 8 = bI e) : f_X6_row_L74 g K x1 x3 (bI re) (nI t) (oz re f) x2 S = K x1 (x2 ||| oz re f) (l ||| oz e x3) (bI (re && e)) (nI (t + 1)) S := by
  unfold f_X6_row_L74
  rw [vl_d, h2, h1]
  have c : ∀ v, f_X6_row_L96 g K x1 (x2 ||| oz re f) (bI re) (nI t) v S = K x1 (x2 ||| oz re f) v (bI (re && e)) (nI (t + 1)) S := by
    intro v
    unfold f_X6_row_L96
    rw [vl_d, h2]
    cases re with
    | true =>
      rw [if_neg (show ¬ bI true = 0 by decide)]
      cases e with
      | true => rw [if_neg (show ¬ bI true = 0 by decide), vl_d, vl_d, nI_1]; rfl
      | false => rw [if_pos (show bI false = 0 by decide), vl_d, vl_d, nI_1]; rfl
    | false => rw [if_pos (show bI false = 0 by decide), vl_d, vl_d, nI_1]; rfl
  cases e with
  | true => rw [if_neg (show ¬ bI true = 0 by decide), c, Int32.or_comm x3 l]; rfl
  | false => rw [if_pos (show bI false = 0 by decide), c, show l ||| oz false x3 = l from by simp [oz]]
theorem row_sel {g : Int32 → Sg → Option Sg} {K : Int32 → Int32 → Int32 → Int32 → Int32 → Sg → Option Sg} {S : Sg} {x1 x2 x3 : Int32} {t : Nat} {f : Int32} {re : Bool} (h1 : S.1 3 6 = f) : (if bI re = 0 then (f_X6_row_L74 g K) x1 x3 (bI re) (nI t) ((0 : Int32)) x2 S else (f_X6_row_L74 g K) x1 x3 (bI re) (nI t) ((S.1 3 6)) x2 S) = f_X6_row_L74 g K x1 x3 (bI re) (nI t) (oz re f) x2 S := by
  cases re with
  | true => rw [if_neg (show ¬ bI true = 0 by decide), h1]; rfl
  | false => rw [if_pos (show bI false = 0 by decide)]; rfl
theorem rowL {g : Int32 → Sg → Option Sg} (ok : okT n tx) (hI : ∀ (S T : Sg) (a fl : Nat), sim n tx p D S T a → n + 2 ≤ fl + a → outI n tx p D S T a (g (nI D) S) (hdM fl T)) : ∀ (r a t cl fl gl : Nat) (S T : Sg) (f l : Int32) (e : Bool), n ≤ a + r → t ≤ a → r + 2 ≤ cl → n + 2 ≤ fl + a → n + 2 ≤ gl + a → sim n tx p D S T a → rowv T D f l e → outR n tx p D S T a (f_X6_row_L24 g cl (nI D) f l (bI e) (nI t) S) (rpM fl gl T) := by
  have hn := ok.1
  intro r
  induction r with
  | zero =>
    intro a t cl fl gl S T f l e hr ht hcl hfl hgl h hrow
    obtain ⟨f1, rfl⟩ : ∃ f1, cl = f1 + 1 := ⟨cl - 1, by omega⟩
    have h' := h
    obtain ⟨sc, F, R, L, hC, hM, hrl, hs, hp, ha, hD⟩ := h
    have hc := chr_end (n := n) (tx := tx) (a := a) (by omega)
    obtain ⟨S', e1, w1, w2, w3⟩ := setPiece_vwC hC f l e
    refine Or.inl ⟨S', T, a, f, l, e, fl, gl, ?_, rfl, ⟨sc, F, R, L, w1, hM, hrl, hs, hp, ha, hD⟩, Nat.le_refl _, w2, hrow, ⟨rfl, rfl, rfl⟩, w3, fM_r p D T, hfl, hgl, by rw [hc]; decide⟩
    rw [f_X6_row_L24, hC.1.1]
    by_cases hl : nI n ≤ nI t
    · rw [if_pos hl, e1, bd_some]
    · rw [if_neg hl, sign_eq ok hC.1 (by omega), bd2_some, cs_atom ok, if_neg (by rw [hc]; decide), e1, bd_some]
  | succ r ih =>
    intro a t cl fl gl S T f l e hr ht hcl hfl hgl h hrow
    obtain ⟨f1, rfl⟩ : ∃ f1, cl = f1 + 1 := ⟨cl - 1, by omega⟩
    have h' := h
    obtain ⟨sc, F, R, L, hC, hM, hrl, hs, hp, ha, hD⟩ := h
    by_cases hat : isAt (chr n tx a)
    · have han := chr_in (n := n) (tx := tx) (a := a) (fun z => by rw [z] at hat; revert hat; decide)
      obtain ⟨gl1, rfl⟩ : ∃ gl1, gl = gl1 + 1 := ⟨gl - 1, by omega⟩
      rw [rp_atom ok hM ha hD hat]
      have head : f_X6_row_L24 g (f1 + 1) (nI D) f l (bI e) (nI t) S = bd (g (nI D) S) (fun S_12 => bd (f_X7_link l ((S_12.1 3 6)) S_12) (fun S_13 => (if bI e = 0 then (f_X6_row_L74 g (f_X6_row_L24 g f1)) (nI D) l (bI e) (nI t) ((0 : Int32)) f S_13 else (f_X6_row_L74 g (f_X6_row_L24 g f1)) (nI D) l (bI e) (nI t) ((S_13.1 3 6)) f S_13))) := by
        rw [f_X6_row_L24, hC.1.1, if_neg (by rw [nI_leI (by omega) (by omega)]; omega), sign_eq ok hC.1 (by omega), bd2_some, cs_atom ok, if_pos hat]
      rcases hI S T a fl h' hfl with ⟨S1, T1, b, f', l', e', fl1, gl1', q1, q2, q3, q4, q5, q6, q7, q8, q9, q10⟩ | ⟨S1, T1, e', pl, q1, q2, q3, q4, q5, q6⟩
      · -- link and merge
        obtain ⟨S2, T2, y1, y2, y3, y4, y5, y6, y7⟩ := link_sim l f' q3
        have hM1 : T1.1 34 28 = nI D := by obtain ⟨_, _, _, _, _, m, _⟩ := q3; exact m.2.2.2.2.2.2
        have hr1 : rowv T1 D f l e := by
          unfold rowv
          rw [q8.2.2.2.2.2 55 (by decide) (by decide) D (by omega), q8.2.2.2.2.2 57 (by decide) (by decide) D (by omega), q8.2.2.2.2.2 58 (by decide) (by decide) D (by omega), q8.2.2.2.2.2 56 (by decide) (by decide) D (by omega)]
          exact hrow
        obtain ⟨T3, z1, z2, z3, z4, z5⟩ := merge1 hD hM1 hr1 q6 y2 y7
        have hs3 : sim n tx p D S2 T3 b := sim_rows y3 (fun id hid => z4 id (by omega))
        have fM3 : fM p D T T3 := fM_t (fM_le q8 (by omega)) (fM_t (fM_le y5 (by omega)) (fM_rows p z3 (fun id hid => z4 id (by omega)) (fun id i1 i2 d hd => z5 id d (by omega))))
        have any3 : T3.1 59 D = T.1 59 D ∧ T3.1 60 D = T.1 60 D ∧ T3.1 61 D = T.1 61 D := by
          refine ⟨?_, ?_, ?_⟩
          · rw [z4 59 (by omega), y7 59 (by decide), q8.2.2.2.2.2 59 (by decide) (by decide) D (by omega)]
          · rw [z4 60 (by omega), y7 60 (by decide), q8.2.2.2.2.2 60 (by decide) (by decide) D (by omega)]
          · rw [z4 61 (by omega), y7 61 (by decide), q8.2.2.2.2.2 61 (by decide) (by decide) D (by omega)]
        have s3 := y6 3 (by decide)
        have hcl2 : f_X6_row_L24 g (f1 + 1) (nI D) f l (bI e) (nI t) S = f_X6_row_L24 g f1 (nI D) (f ||| oz e f') (l' ||| oz e' l) (bI (e && e')) (nI (t + 1)) S2 := by
          rw [head, q1, bd_some, q5.1, y1, bd_some, row_sel (f := f') (by rw [s3]; exact q5.1), row_tail (l := l') (e := e') (by rw [s3]; exact q5.2.1) (by rw [s3]; exact q5.2.2)]
        have hml : hdM fl T = rpM fl1 gl1' T3 := by
          rw [q2]
          unfold mpM
          rw [z1, bd_some]
          rfl
        rw [hcl2, hml]
        rcases ih b (t + 1) f1 fl1 gl1' S2 T3 _ _ _ (by omega) (by omega) (by omega) q9 q10 hs3 z2 with ⟨S', T', b2, f2, l2, e2, fl2, gl2, u1, u2, u3, u4, u5, u6, u7, u8, u9, u10, u11, u12⟩ | ⟨S', T', e2, pl, u1, u2, u3, u4, u5, u6⟩
        · exact Or.inl ⟨S', T', b2, f2, l2, e2, fl2, gl2, u1, u2, u3, by omega, u5, u6, ⟨by rw [u7.1, any3.1], by rw [u7.2.1, any3.2.1], by rw [u7.2.2, any3.2.2]⟩, fC_t q7 (fC_t y4 u8), fM_t fM3 u9, u10, u11, u12⟩
        · exact Or.inr ⟨S', T', e2, pl, u1, u2, u3, u4, fC_t q7 (fC_t y4 u5), fM_0 fM3 u6⟩
      · obtain ⟨sc2, hs2, hsc2⟩ := q3.2.2.2.2.1
        obtain ⟨eb, heb⟩ := q3.2.2.2.2.2.1
        obtain ⟨S2, y1, y2, y3, y4⟩ := link_eq (S := S1) l (S1.1 3 6) hp hs2 q3.2.2.2.1 hsc2
        have s3 := y3 3 (by decide)
        have d2 : dd n tx p S2 e' pl := by
          obtain ⟨⟨t1, t2, t3⟩, a2, a3, a4, a5, a6, a7⟩ := q3
          exact ⟨⟨by rw [s3]; exact t1, by rw [s3]; exact t2, fun k hk => by rw [y3 4 (by decide)]; exact t3 k hk⟩, by rw [s3]; exact a2, by rw [s3]; exact a3, by rw [y3 5 (by decide)]; exact a4, by rw [y3 6 (by decide)]; exact a5, by rw [s3]; exact a6, a7⟩
        have fC2 : fC p S1 S2 := ⟨y2, fun id _ _ _ h => y3 id h, by rw [s3], fun q _ => by rw [y3 6 (by decide)], fun j _ => by rw [y3 10 (by decide)], fun j hj => by rw [y4 j, if_neg (by omega)]⟩
        obtain ⟨S3, z1, z2, z3⟩ := row_dead (g := g) (fl := f1) (t := t + 1) (x1 := nI D) (x2 := f ||| oz e (S1.1 3 6)) (x3 := S2.1 3 7 ||| oz eb l) (e && eb) ok (by omega) d2
        refine Or.inr ⟨S3, T1, e', pl, ?_, q2, z2, q4, fC_t q5 (fC_t fC2 z3), q6⟩
        rw [head, q1, bd_some, y1, bd_some, row_sel (f := S1.1 3 6) (by rw [s3]), row_tail (l := S2.1 3 7) (e := eb) rfl (by rw [s3]; exact heb), z1]
    · obtain ⟨S', e1, w1, w2, w3⟩ := setPiece_vwC hC f l e
      refine Or.inl ⟨S', T, a, f, l, e, fl, gl, ?_, rfl, ⟨sc, F, R, L, w1, hM, hrl, hs, hp, ha, hD⟩, Nat.le_refl _, w2, hrow, ⟨rfl, rfl, rfl⟩, w3, fM_r p D T, hfl, hgl, hat⟩
      rw [f_X6_row_L24, hC.1.1]
      by_cases hl : nI n ≤ nI t
      · rw [if_pos hl, e1, bd_some]
      · rw [if_neg hl, sign_eq ok hC.1 (by omega), bd2_some, cs_atom ok, if_neg hat, e1, bd_some]
theorem row_sim {g : Int32 → Sg → Option Sg} (ok : okT n tx) (hI : ∀ (S T : Sg) (a fl : Nat), sim n tx p D S T a → n + 2 ≤ fl + a → outI n tx p D S T a (g (nI D) S) (hdM fl T)) {S T : Sg} {a fl : Nat} (h : sim n tx p D S T a) (hfl : n + 2 ≤ fl + a) (h0 : T.1 55 D = 0) : outR n tx p D S T (a + 1) (f_X6_row g (nI D) S) (hdM fl T) := by
  have hn := ok.1
  have hD : D ≤ 10 := by obtain ⟨_, _, _, _, _, _, _, _, _, _, hD⟩ := h; exact hD
  rcases hI S T a fl h hfl with ⟨S1, T1, b, f, l, e, fl1, gl1, q1, q2, q3, q4, q5, q6, q7, q8, q9, q10⟩ | ⟨S1, T1, e, pl, q1, q2, q3, q4, q5, q6⟩
  · have hM1 : T1.1 34 28 = nI D := by obtain ⟨_, _, _, _, _, m, _⟩ := q3; exact m.2.2.2.2.2.2
    obtain ⟨T2, z1, z2, z3, z4, z5⟩ := merge0 hD hM1 (by rw [q8.2.2.2.2.2 55 (by decide) (by decide) D (by omega)]; exact h0) q6
    have hs3 : sim n tx p D S1 T2 b := sim_rows q3 (fun id hid => z4 id (by omega))
    have fM3 : fM p D T T2 := fM_t (fM_le q8 (by omega)) (fM_rows p z3 (fun id hid => z4 id (by omega)) (fun id i1 i2 d hd => z5 id d (by omega)))
    have any3 : T2.1 59 D = T.1 59 D ∧ T2.1 60 D = T.1 60 D ∧ T2.1 61 D = T.1 61 D := by
      refine ⟨?_, ?_, ?_⟩
      · rw [z4 59 (by omega), q8.2.2.2.2.2 59 (by decide) (by decide) D (by omega)]
      · rw [z4 60 (by omega), q8.2.2.2.2.2 60 (by decide) (by decide) D (by omega)]
      · rw [z4 61 (by omega), q8.2.2.2.2.2 61 (by decide) (by decide) D (by omega)]
    have hml : hdM fl T = rpM fl1 gl1 T2 := by
      rw [q2]
      unfold mpM
      rw [z1, bd_some]
      rfl
    have hcl : f_X6_row g (nI D) S = f_X6_row_L24 g fu (nI D) f l (bI e) (nI 0) S1 := by
      unfold f_X6_row
      rw [q1, bd_some, vl_d, vl_d, vl_d, vl_d, q5.1, q5.2.1, q5.2.2, k_0]
    rw [hcl, hml]
    rcases rowL ok hI n b 0 fu fl1 gl1 S1 T2 f l e (by omega) (by omega) (by unfold fu; omega) q9 q10 hs3 z2 with ⟨S', T', b2, f2, l2, e2, fl2, gl2, u1, u2, u3, u4, u5, u6, u7, u8, u9, u10, u11, u12⟩ | ⟨S', T', e2, pl, u1, u2, u3, u4, u5, u6⟩
    · exact Or.inl ⟨S', T', b2, f2, l2, e2, fl2, gl2, u1, u2, u3, by omega, u5, u6, ⟨by rw [u7.1, any3.1], by rw [u7.2.1, any3.2.1], by rw [u7.2.2, any3.2.2]⟩, fC_t q7 u8, fM_t fM3 u9, u10, u11, u12⟩
    · exact Or.inr ⟨S', T', e2, pl, u1, u2, u3, u4, fC_t q7 u5, fM_0 fM3 u6⟩
  · obtain ⟨eb, heb⟩ := q3.2.2.2.2.2.1
    obtain ⟨S3, z1, z2, z3⟩ := row_dead (g := g) (fl := fu) (t := 0) (x1 := nI D) (x2 := S1.1 3 6) (x3 := S1.1 3 7) eb ok (by unfold fu; omega) q3
    refine Or.inr ⟨S3, T1, e, pl, ?_, q2, z2, q4, fC_t q5 z3, q6⟩
    unfold f_X6_row
    rw [q1, bd_some, vl_d, vl_d, vl_d, vl_d, heb, k_0]
    exact z1
end ROW
