def gP (S S' : Sg) : Prop := S'.2.2 = S.2.2 ∧ ∀ id, id < 3 ∨ 11 < id → S'.1 id = S.1 id
def good (S T : Sg) (P : Nat) : Prop := S.1 5 0 = nI P ∧ T.1 34 6 = nI P ∧ P ≤ 6 ∧ (∀ q, q < P → pv S T q) ∧ ∃ c, c < 400 ∧ pl P T c [S.2.1 5 1]
def flt (S T : Sg) (e : Int32) : Prop := S.1 3 4 = e ∧ T.1 34 4 = e ∧ S.1 3 5 = T.1 34 5 ∧ ∃ b : Bool, S.1 3 8 = bI b
theorem clampn : ∀ n, n < 101 → (if (0 : Int32) < (if (if (100 : Int32) < (100 : Int32) then (100 : Int32) else (100 : Int32)) < nI n then (if (100 : Int32) < (100 : Int32) then (100 : Int32) else (100 : Int32)) else nI n) then (if (if (100 : Int32) < (100 : Int32) then (100 : Int32) else (100 : Int32)) < nI n then (if (100 : Int32) < (100 : Int32) then (100 : Int32) else (100 : Int32)) else nI n) else (0 : Int32)) = nI n := by decide +kernel
theorem cpk_ok {β : Type} {k N M : Nat} (h1 : k ≤ N) (h2 : k ≤ M) (h3 : k < 2 ^ 31) (K : Option β) : cpk 0 0 (nI k) N M K = K := by
  unfold cpk
  rw [if_neg]
  rw [nI_clamp h3, show Int32.toNatClampNeg 0 = 0 from rfl]
  intro z
  rcases z with z | z | z | z | z
  · exact absurd z (by decide)
  · exact absurd z (by decide)
  · exact absurd z (nI_pos h3)
  · omega
  · omega
theorem parse_sim {n : Nat} {tx : Nat → Nat} {S T : Sg} (ok : okT n tx) (hS : ∀ k, k < n → S.1 1 k = nI (tx k)) (h8 : ∃ b : Bool, S.1 3 8 = bI b) (hT3 : T.1 34 3 = nI n) (hT : ∀ k, k < n → T.1 36 k &&& 255 = nI (tx k)) : ∃ S' T', f_X10_whole T = some T' ∧ gP S S' ∧ gMl T T' ∧ ((f_X6_parse (nI n) S = some (1, S') ∧ flt S' T' 0 ∧ ∃ P, good S' T' P) ∨ (f_X6_parse (nI n) S = some (0, S') ∧ ∃ e, (e = 1 ∨ e = 2) ∧ flt S' T' e)) := by
  have hn := ok.1
  let S2 : Sg := sC (sI S 3 1 (nI n)) 4 (va_cpy ((sI S 3 1 (nI n)).1 1) ((sI S 3 1 (nI n)).1 4) 0 0 n)
  let S6 : Sg := sI (sI (sI (sI S2 3 2 0) 3 4 0) 3 5 (-1)) 5 0 0
  have c2 : ∀ id, id ≠ 4 → id ≠ 3 → S2.1 id = S.1 id := fun id h4 h3 => by
    funext b
    show (sC (sI S 3 1 (nI n)) 4 _).1 id b = _
    rw [sC_get, if_neg h4, sI_id _ _ _ h3]
  have c23 : ∀ b, b ≠ 1 → S2.1 3 b = S.1 3 b := fun b hb => by
    show (sC (sI S 3 1 (nI n)) 4 _).1 3 b = _
    rw [sC_get, if_neg (by decide), sI_ne _ _ (Or.inr hb)]
  have c231 : S2.1 3 1 = nI n := by
    show (sC (sI S 3 1 (nI n)) 4 _).1 3 1 = _
    rw [sC_get, if_neg (by decide), sI_at]
  have c24 : ∀ k, k < n → S2.1 4 k = nI (tx k) := fun k hk => by
    show (sC (sI S 3 1 (nI n)) 4 _).1 4 k = _
    rw [sC_get, if_pos rfl]
    unfold va_cpy
    rw [if_pos (by omega), sI_id _ _ _ (by decide), Nat.zero_add, Nat.sub_zero]
    exact hS k hk
  have c6 : ∀ id, id ≠ 3 → id ≠ 5 → S6.1 id = S2.1 id := fun id h3 h5 => by
    show (sI (sI (sI (sI S2 3 2 0) 3 4 0) 3 5 (-1)) 5 0 0).1 id = _
    rw [sI_id _ _ _ h5, sI_id _ _ _ h3, sI_id _ _ _ h3, sI_id _ _ _ h3]
  have c63 : ∀ b, b ≠ 2 → b ≠ 4 → b ≠ 5 → S6.1 3 b = S2.1 3 b := fun b b1 b2 b3 => by
    show (sI (sI (sI (sI S2 3 2 0) 3 4 0) 3 5 (-1)) 5 0 0).1 3 b = _
    rw [sI_id _ _ _ (by decide), sI_ne _ _ (Or.inr b3), sI_ne _ _ (Or.inr b2), sI_ne _ _ (Or.inr b1)]
  have c632 : S6.1 3 2 = nI 0 := by
    show (sI (sI (sI (sI S2 3 2 0) 3 4 0) 3 5 (-1)) 5 0 0).1 3 2 = _
    rw [sI_id _ _ _ (by decide), sI_ne _ _ (Or.inr (by decide)), sI_ne _ _ (Or.inr (by decide)), sI_at]; rfl
  have c634 : S6.1 3 4 = 0 := by
    show (sI (sI (sI (sI S2 3 2 0) 3 4 0) 3 5 (-1)) 5 0 0).1 3 4 = _
    rw [sI_id _ _ _ (by decide), sI_ne _ _ (Or.inr (by decide)), sI_at]
  have c635 : S6.1 3 5 = -1 := by
    show (sI (sI (sI (sI S2 3 2 0) 3 4 0) 3 5 (-1)) 5 0 0).1 3 5 = _
    rw [sI_id _ _ _ (by decide), sI_at]
  have c65 : S6.1 5 0 = nI 0 := sI_at _ _ _ _
  have cS6 : gP S S6 := ⟨rfl, fun id hid => by rw [c6 id (by omega) (by omega), c2 id (by omega) (by omega)]⟩
  -- the reference at its head
  let T7 : Sg := sI (sI (sI (sI (sI (sI (sI T 34 4 0) 34 5 (-1)) 34 27 0) 34 6 0) 34 13 0) 34 29 0) 34 43 0
  let T9 : Sg := sI (sI T7 63 0 0) 64 0 0
  have m7 : ∀ b, b ≠ 4 → b ≠ 5 → b ≠ 27 → b ≠ 6 → b ≠ 13 → b ≠ 29 → b ≠ 43 → T7.1 34 b = T.1 34 b := fun b b1 b2 b3 b4 b5 b6 b7 => by
    show (sI (sI (sI (sI (sI (sI (sI T 34 4 0) 34 5 (-1)) 34 27 0) 34 6 0) 34 13 0) 34 29 0) 34 43 0).1 34 b = _
    rw [sI_ne _ _ (Or.inr b7), sI_ne _ _ (Or.inr b6), sI_ne _ _ (Or.inr b5), sI_ne _ _ (Or.inr b4), sI_ne _ _ (Or.inr b3), sI_ne _ _ (Or.inr b2), sI_ne _ _ (Or.inr b1)]
  have i7 : ∀ id, id ≠ 34 → T7.1 id = T.1 id := fun id hid => by
    show (sI (sI (sI (sI (sI (sI (sI T 34 4 0) 34 5 (-1)) 34 27 0) 34 6 0) 34 13 0) 34 29 0) 34 43 0).1 id = _
    rw [sI_id _ _ _ hid, sI_id _ _ _ hid, sI_id _ _ _ hid, sI_id _ _ _ hid, sI_id _ _ _ hid, sI_id _ _ _ hid, sI_id _ _ _ hid]
  have m9 : T9.1 34 = T7.1 34 := by
    show (sI (sI T7 63 0 0) 64 0 0).1 34 = _
    rw [sI_id _ _ _ (by decide), sI_id _ _ _ (by decide)]
  have i9 : ∀ id, id ≠ 63 → id ≠ 64 → T9.1 id = T7.1 id := fun id h1 h2 => by
    show (sI (sI T7 63 0 0) 64 0 0).1 id = _
    rw [sI_id _ _ _ h2, sI_id _ _ _ h1]
  have v4 : T7.1 34 4 = 0 := by
    show (sI (sI (sI (sI (sI (sI (sI T 34 4 0) 34 5 (-1)) 34 27 0) 34 6 0) 34 13 0) 34 29 0) 34 43 0).1 34 4 = _
    rw [sI_ne _ _ (Or.inr (by decide)), sI_ne _ _ (Or.inr (by decide)), sI_ne _ _ (Or.inr (by decide)), sI_ne _ _ (Or.inr (by decide)), sI_ne _ _ (Or.inr (by decide)), sI_ne _ _ (Or.inr (by decide)), sI_at]
  have v5 : T7.1 34 5 = -1 := by
    show (sI (sI (sI (sI (sI (sI (sI T 34 4 0) 34 5 (-1)) 34 27 0) 34 6 0) 34 13 0) 34 29 0) 34 43 0).1 34 5 = _
    rw [sI_ne _ _ (Or.inr (by decide)), sI_ne _ _ (Or.inr (by decide)), sI_ne _ _ (Or.inr (by decide)), sI_ne _ _ (Or.inr (by decide)), sI_ne _ _ (Or.inr (by decide)), sI_at]
  have v27 : T7.1 34 27 = nI 0 := by
    show (sI (sI (sI (sI (sI (sI (sI T 34 4 0) 34 5 (-1)) 34 27 0) 34 6 0) 34 13 0) 34 29 0) 34 43 0).1 34 27 = _
    rw [sI_ne _ _ (Or.inr (by decide)), sI_ne _ _ (Or.inr (by decide)), sI_ne _ _ (Or.inr (by decide)), sI_ne _ _ (Or.inr (by decide)), sI_at]; rfl
  have v6 : T7.1 34 6 = nI 0 := by
    show (sI (sI (sI (sI (sI (sI (sI T 34 4 0) 34 5 (-1)) 34 27 0) 34 6 0) 34 13 0) 34 29 0) 34 43 0).1 34 6 = _
    rw [sI_ne _ _ (Or.inr (by decide)), sI_ne _ _ (Or.inr (by decide)), sI_ne _ _ (Or.inr (by decide)), sI_at]; rfl
  have v13 : T7.1 34 13 = nI 0 := by
    show (sI (sI (sI (sI (sI (sI (sI T 34 4 0) 34 5 (-1)) 34 27 0) 34 6 0) 34 13 0) 34 29 0) 34 43 0).1 34 13 = _
    rw [sI_ne _ _ (Or.inr (by decide)), sI_ne _ _ (Or.inr (by decide)), sI_at]; rfl
  have v29 : T7.1 34 29 = nI 0 := by
    show (sI (sI (sI (sI (sI (sI (sI T 34 4 0) 34 5 (-1)) 34 27 0) 34 6 0) 34 13 0) 34 29 0) 34 43 0).1 34 29 = _
    rw [sI_ne _ _ (Or.inr (by decide)), sI_at]; rfl
  have v43 : T7.1 34 43 = nI 0 := sI_at _ _ _ _
  have gM9 : gMl T T9 := ⟨rfl, fun id h1 h2 h3 => by rw [i9 id (by omega) (by omega), i7 id h1], fun b hb => by rw [m9, m7 b hb.1 hb.2.1 hb.2.2.2.2.1 hb.2.2.1 hb.2.2.2.1 hb.2.2.2.2.2.2.1 hb.2.2.2.2.2.2.2.2.2.2]⟩
  have h0 : tsim n tx S6 T9 0 0 0 [] 0 0 := by
    refine ⟨⟨⟨by rw [c63 1 (by decide) (by decide) (by decide)]; exact c231, c632, fun k hk => by rw [c6 4 (by decide) (by decide)]; exact c24 k hk⟩, ⟨by rw [m9, m7 3 (by decide) (by decide) (by decide) (by decide) (by decide) (by decide) (by decide)]; exact hT3, by rw [m9]; exact v27, fun k hk => by rw [i9 36 (by decide) (by decide), i7 36 (by decide)]; exact hT k hk⟩, c634, c635, by rw [m9]; exact v4, by rw [m9]; exact v5, c65, by rw [m9]; exact v6, by omega, fun q hq => absurd hq (by omega), by omega, by rw [c63 8 (by decide) (by decide) (by decide), c23 8 (by decide)]; exact h8⟩, ⟨by rw [m9]; exact v13, fun w _ => rfl⟩, by rw [m9]; exact v29, by rw [m9]; exact v43, by omega, by omega⟩
  obtain ⟨f, hf⟩ : ∃ f, fu = f + 1 := ⟨99999, by unfold fu; omega⟩
  have hfn : n + 2 ≤ f := by
    have : fu = 100000 := rfl
    omega
  have hw : f_X10_whole T = HM f fu T9 := by
    unfold f_X10_whole
    rw [vl_d, vl_d, vl_d, vl_d, vl_d, vl_d, vl_d]
    show ck 0 12 _ = _
    rw [k_0, ck_nI (by omega) (by decide), nI_clamp (by omega), ← k_0, nar_0, vl_d, k_0, ck_nI (by omega) (by decide), ← k_0, vl_d, vl_d]
    show f_X10_whole_L51 fu 1 T9 = _
    have : ∀ g, g = f + 1 → f_X10_whole_L51 g 1 T9 = HM f fu T9 := fun g hg => by rw [hg, L51_1 (by rw [m9]; exact v4)]
    exact this fu hf
  have hp : f_X6_parse (nI n) S = bd2 (f_X6_topR 12 (nI 0) S6) (fun r_8 S_7 => vl (sJ S_7 5 1 r_8) (fun S_9 => (if (S_9.1 3 1) ≤ (S_9.1 3 2) then (f_X6_parse_L84) S_9 else bd (f_X6_refuse ((1 : Int32)) S_9) (fun S_10 => (f_X6_parse_L84) S_10)))) := by
    unfold f_X6_parse
    rw [clampn n (by omega), vl_d, sI_at, cpk_ok (by omega) (by omega) (by omega), nI_clamp (by omega), show Int32.toNatClampNeg 0 = 0 from rfl, vl_d, vl_d, vl_d, vl_d, vl_d]
    rfl
  have h63 : T9.1 63 0 = 0 := by
    show (sI (sI T7 63 0 0) 64 0 0).1 63 0 = 0
    rw [sI_id _ _ _ (by decide), sI_at]
  have h64 : T9.1 64 0 = 0 := sI_at _ _ _ _
  rw [hp, hw]
  rcases topR_sim ok S6 T9 f fu h0 hfn (by unfold fu; omega) h63 h64 with ⟨v, S', T', b, P, c, fl, gl, e, ws, q1, q2, q3, q4, q5, q6, q7, q8, q9, q10, q11, q12, q13, q14, q15⟩ | ⟨v, S', T', e, pl', q1, q2, q3, q4, q5, q6⟩
  · have hb := q3.1.2.2.2.2.2.2.2.2.2.2.1
    have hbs := q3.1
    obtain ⟨gl1, rfl⟩ : ∃ gl1, gl = gl1 + 1 := ⟨gl - 1, by omega⟩
    obtain ⟨fl1, rfl⟩ : ∃ fl1, fl = fl1 + 1 := ⟨fl - 1, by omega⟩
    have tc := hbs.1
    have tm := hbs.2.1
    have hA : AM (fl1 + 1) (gl1 + 1) T' = if b = n then f_X10_whole_L378 T' else bd (f_X10_need 0 T') (fun Z => f_X10_whole_L51 (fl1 + 1) 0 Z) := by
      rw [AM_278 ok q3 (Or.inl rfl)]
      unfold f_X10_whole_L278
      rw [k_38, ms_is ok tm (by omega) (by decide), if_neg q9, k_44, ms_is ok tm (by omega) (by decide), if_neg q10, tm.1, tm.2.1, q3.2.2.2.1]
      by_cases hbn : b = n
      · rw [if_pos (by rw [hbn]), if_pos (show nI 0 = 0 from rfl), need_1, bd_some, vl_d, if_pos hbn, f_X10_whole_L51, if_pos rfl]
      · rw [if_neg (by rw [nI_eq (by omega) (by omega)]; exact hbn), if_neg hbn]
        simp only [vl_d]
    rw [q1, bd2_some, vl_d, q2, hA]
    have gPS : gP S (sJ S' 5 1 v) := ⟨by show S'.2.2 = _; rw [q11.1]; exact cS6.1, fun id hid => by rw [sJ_1, q11.2.1 id (by omega), cS6.2 id hid]⟩
    by_cases hbn : b = n
    · obtain ⟨T2, y1, y2, y3, y4, y5, y6⟩ := ME_eq q3 q15 q4 (by omega)
      have hb2 := y2.1
      refine ⟨sJ S' 5 1 v, T2, ?_, gPS, gMl_t gM9 (gMl_t q12 y5), Or.inl ⟨?_, ⟨hbs.2.2.1, hb2.2.2.2.2.1, by rw [sJ_1, hbs.2.2.2.1, hb2.2.2.2.2.2.1], hbs.2.2.2.2.2.2.2.2.2.2.2⟩, P, hbs.2.2.2.2.2.2.1, hb2.2.2.2.2.2.2.2.1, hbs.2.2.2.2.2.2.2.2.1, hb2.2.2.2.2.2.2.2.2.2.1, c + e.toNat, ?_, ?_⟩⟩
      · rw [if_pos hbn]
        unfold f_X10_whole_L378
        rw [if_pos hbs.2.2.2.2.1, y1, bd_some]
      · rw [sJ_1, tc.1, tc.2.1, if_pos (by rw [nI_leI (by omega) (by omega)]; omega)]
        unfold f_X6_parse_L84
        rw [sJ_1, if_pos hbs.2.2.1]
      · have : e.toNat ≤ 1 := by cases e <;> decide
        omega
      · have e5 : (sJ S' 5 1 v).2.1 5 1 = v := by rw [sJ_get, if_pos rfl, if_pos rfl]
        rw [e5]
        exact y2.2.1
    · obtain ⟨T2, z1, z2, -⟩ := need_0 tm.2.1 hbs.2.2.2.2.1
      have n4 := nle1 (x := T2.1 34 4) (Or.inl z2.2.2.2.1)
      obtain ⟨S2', y1, y2⟩ := refuse_eq (S := sJ S' 5 1 v) (n := n) (tx := tx) (a := b) 1 tc hbs.2.2.1
      have d := dT_ft (S := sJ S' 5 1 v) (n := n) (tx := tx) (a := b) tc hbs.2.2.2.2.2.2.2.2.2.2.2 (Or.inl rfl) y2
      have g2 := gCl_ft y2
      refine ⟨S2', T2, ?_, ⟨by rw [g2.1]; exact gPS.1, fun id hid => by rw [g2.2.1 id (by omega), gPS.2 id hid]⟩, gMl_t gM9 (gMl_t q12 (gMl_ft z2)), Or.inr ⟨?_, 1, Or.inl rfl, d.2.1, z2.2.2.2.1, by rw [d.2.2.1, z2.2.2.2.2], d.2.2.2.1⟩⟩
      · rw [if_neg hbn, z1, bd_some, f_X10_whole_L51, if_pos rfl]
        unfold f_X10_whole_L378
        rw [if_neg n4.2]
      · rw [sJ_1, tc.1, tc.2.1, if_neg (by rw [nI_leI (by omega) (by omega)]; omega), y1, bd_some]
        unfold f_X6_parse_L84
        rw [d.2.1, if_neg (by decide)]
  · refine ⟨sJ S' 5 1 v, T', q2, ⟨by show S'.2.2 = _; rw [q5.1]; exact cS6.1, fun id hid => by rw [sJ_1, q5.2.1 id (by omega), cS6.2 id hid]⟩, gMl_t gM9 q6, Or.inr ⟨?_, e, q3.2.2.2.2, q3.2.1, q4.1, by rw [sJ_1, q3.2.2.1, q4.2], q3.2.2.2.1⟩⟩
    rw [q1, bd2_some, vl_d, sJ_1, q3.1.1, q3.1.2.1, if_pos (by rw [nI_leI (by omega) (by omega)]; omega)]
    unfold f_X6_parse_L84
    rw [sJ_1, if_neg (by rw [q3.2.1]; exact (nle1 q3.2.2.2.2).2)]
