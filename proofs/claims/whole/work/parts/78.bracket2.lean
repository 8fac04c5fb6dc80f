section BRACKET2
variable {n : Nat} {tx : Nat → Nat}
theorem tC_ft {S S' : Sg} {a pl : Nat} {e : Int32} (h : tC n tx S a) (w : ftC S S' n e pl) : tC n tx S' n := ⟨by rw [w.2.2.1]; exact h.1, w.2.2.2.2.1, fun k hk => by rw [w.2.1 4 (by decide)]; exact h.2.2 k hk⟩
theorem sgn_n : sgn n tx n = -1 := if_neg (by omega)
theorem chr_n : chr n tx n = 999 := if_neg (by omega)
theorem chr_end {a : Nat} (h : n ≤ a) : chr n tx a = 999 := if_neg (by omega)
theorem chr_in {a : Nat} (h : chr n tx a ≠ 999) : a < n := by
  by_cases e : a < n
  · exact e
  · exact absurd (chr_end (by omega)) h
theorem pass_d {S : Sg} {v : Nat} (hv : v < 256) (ok : okT n tx) (h : tC n tx S n) (hf : ¬ S.1 3 4 = 0) : f_X6_pass (nI v) S = some S := by
  have := ok.1
  unfold f_X6_pass
  rw [cs_is ok h (by omega) hv, if_neg (by rw [chr_n]; omega), refuse_no _ hf, bd_some]
theorem pass_t {S : Sg} {v a : Nat} (hv : v < 256) (ok : okT n tx) (h : tC n tx S a) (ha : a ≤ n) (hc : chr n tx a = v) : f_X6_pass (nI v) S = some (sI S 3 2 (nI (a + 1))) := by
  have := ok.1
  unfold f_X6_pass
  rw [cs_is ok h (by omega) hv, if_pos hc, vl_d, h.2.1, nI_1]
theorem pass_f {S : Sg} {v a : Nat} (hv : v < 256) (ok : okT n tx) (h : tC n tx S a) (ha : a ≤ n) (hc : ¬ chr n tx a = v) (hf : S.1 3 4 = 0) : ∃ S', f_X6_pass (nI v) S = some S' ∧ ftC S S' n 1 a := by
  have := ok.1
  obtain ⟨S', e, w⟩ := refuse_eq 1 h hf
  refine ⟨S', ?_, w⟩
  unfold f_X6_pass
  rw [cs_is ok h (by omega) hv, if_neg hc, e, bd_some]
theorem end67_d {S : Sg} (x1 x2 : Int32) (ok : okT n tx) (h : tC n tx S n) (hf : ¬ S.1 3 4 = 0) : ∃ w, f_X6_bracket_L67 x1 x2 S = some (w, S) := by
  unfold f_X6_bracket_L67
  rw [k_93, pass_d (by decide) ok h hf, bd_some]
  by_cases e : x1 = 0
  · exact ⟨_, if_pos e⟩
  · exact ⟨_, if_neg e⟩
theorem L36_d {S : Sg} {fl t : Nat} (x1 x2 : Int32) (hfl : 1 ≤ fl) (ht : t < 2 ^ 31) (ok : okT n tx) (h : tC n tx S n) (hf : ¬ S.1 3 4 = 0) : ∃ w, f_X6_bracket_L36 fl x1 x2 (nI t) S = some (w, S) := by
  have hn := ok.1
  obtain ⟨f, rfl⟩ : ∃ f, fl = f + 1 := ⟨fl - 1, by omega⟩
  obtain ⟨w, e⟩ := end67_d x1 x2 ok h hf
  refine ⟨w, ?_⟩
  rw [f_X6_bracket_L36, h.1]
  by_cases hl : nI n ≤ nI t
  · rw [if_pos hl]; exact e
  · rw [if_neg hl, sign_eq ok h (by omega), bd2_some, cs_let ok, if_neg (by rw [chr_n]; unfold isLt; omega)]
    exact e
theorem brEnd {S T : Sg} {a : Nat} (x1 x2 : Int32) (ok : okT n tx) (h : tC n tx S a) (g : tM n tx T a) (ha : a ≤ n) (hf : S.1 3 4 = 0) (gf : T.1 34 4 = 0) :
    (∃ v b, f_X6_bracket_L67 x1 x2 S = some (v, sI S 3 2 (nI b)) ∧ f_X10_bracket_L174 x1 x2 T = some (v, sI T 34 27 (nI b)) ∧ a < b ∧ b ≤ n) ∨ ∃ v w pl S' T', f_X6_bracket_L67 x1 x2 S = some (v, S') ∧ ftC S S' n 1 pl ∧ f_X10_bracket_L174 x1 x2 T = some (w, T') ∧ ftM T T' 1 pl := by
  have hn := ok.1
  unfold f_X6_bracket_L67 f_X10_bracket_L174
  rw [k_93, sees_eq ok g (by omega) (by decide), bd2_some]
  by_cases hc : chr n tx a = 93
  · have := chr_in (n := n) (tx := tx) (a := a) (by omega)
    rw [pass_t (by decide) ok h ha hc, bd_some, decide_eq_true hc, show bI true = 1 from rfl, need_1, bd_some, vl_d, g.2.1, nI_1]
    by_cases e : x1 = 0
    · rw [if_pos e, if_pos e]; exact Or.inl ⟨_, _, rfl, rfl, by omega, by omega⟩
    · rw [if_neg e, if_neg e]; exact Or.inl ⟨_, _, rfl, rfl, by omega, by omega⟩
  · obtain ⟨S', e1, w1⟩ := pass_f (by decide) ok h ha hc hf
    obtain ⟨T', e2, w2, w3⟩ := need_0 g.2.1 gf
    rw [e1, bd_some, decide_eq_false hc, show bI false = 0 from rfl, e2, bd_some, vl_d, w3, nI_1]
    by_cases e : x1 = 0
    · rw [if_pos e, if_pos e]; exact Or.inr ⟨_, _, a, S', _, rfl, w1, rfl, ftM_at w2 _⟩
    · rw [if_neg e, if_neg e]; exact Or.inr ⟨_, _, a, S', _, rfl, w1, rfl, ftM_at w2 _⟩
theorem brL (ok : okT n tx) (x1 : Int32) : ∀ (r a t fl gl : Nat) (S T : Sg) (x2 : Int32), n ≤ a + r → a ≤ n → t ≤ a → r + 2 ≤ fl → r + 2 ≤ gl → tC n tx S a → tM n tx T a → S.1 3 4 = 0 → T.1 34 4 = 0 →
    (∃ v b, f_X6_bracket_L36 fl x1 x2 (nI t) S = some (v, sI S 3 2 (nI b)) ∧ f_X10_bracket_L45 gl x1 x2 T = some (v, sI T 34 27 (nI b)) ∧ a < b ∧ b ≤ n) ∨ ∃ v w pl S' T', f_X6_bracket_L36 fl x1 x2 (nI t) S = some (v, S') ∧ ftC S S' n 1 pl ∧ f_X10_bracket_L45 gl x1 x2 T = some (w, T') ∧ ftM T T' 1 pl := by
  have hn := ok.1
  intro r
  induction r with
  | zero =>
    intro a t fl gl S T x2 hr ha ht hfl hgl h g hf gf
    obtain ⟨f, rfl⟩ : ∃ f, fl = f + 1 := ⟨fl - 1, by omega⟩
    obtain ⟨f2, rfl⟩ : ∃ f2, gl = f2 + 1 := ⟨gl - 1, by omega⟩
    have hnl : ¬ isLt (chr n tx a) := by rw [chr_end (by omega)]; unfold isLt; omega
    have e1 : f_X6_bracket_L36 (f + 1) x1 x2 (nI t) S = f_X6_bracket_L67 x1 x2 S := by
      rw [f_X6_bracket_L36, h.1]
      by_cases hl : nI n ≤ nI t
      · rw [if_pos hl]
      · rw [if_neg hl, sign_eq ok h (by omega), bd2_some, cs_let ok, if_neg hnl]
    have e2 : f_X10_bracket_L45 (f2 + 1) x1 x2 T = f_X10_bracket_L174 x1 x2 T := by
      rw [f_X10_bracket_L45, if_pos gf, ms_let ok g (by omega), if_neg hnl]
    rw [e1, e2]
    exact brEnd x1 x2 ok h g ha hf gf
  | succ r ih =>
    intro a t fl gl S T x2 hr ha ht hfl hgl h g hf gf
    obtain ⟨f, rfl⟩ : ∃ f, fl = f + 1 := ⟨fl - 1, by omega⟩
    obtain ⟨f2, rfl⟩ : ∃ f2, gl = f2 + 1 := ⟨gl - 1, by omega⟩
    by_cases hl : isLt (chr n tx a)
    · have han := chr_in (n := n) (tx := tx) (a := a) (by have := hl.2; omega)
      have e1 : f_X6_bracket_L36 (f + 1) x1 x2 (nI t) S = bd2 (f_X6_range S) (fun r_14 S_13 => vl ((x2 ||| r_14)) (fun x2_15 => vl (nI t + (1 : Int32)) (fun x3_16 => (f_X6_bracket_L36 f) x1 x2_15 x3_16 S_13))) := by
        rw [f_X6_bracket_L36, h.1, if_neg (by rw [nI_leI (by omega) (by omega)]; omega), sign_eq ok h (by omega), bd2_some, cs_let ok, if_pos hl]
      have c1 := range_eq ok h ha hf
      have c2 := loopM (fl := f2) x1 x2 ok g ha gf hl (by omega)
      cases hrg : rg n tx a with
      | inl pl =>
        rw [hrg] at c1 c2
        obtain ⟨S', e3, w3⟩ := c1
        obtain ⟨w, T', e4, w4⟩ := c2
        obtain ⟨u, e5⟩ := L36_d (fl := f) (t := t + 1) x1 (x2 ||| 0) (by omega) (by omega) ok (tC_ft h w3) (by rw [w3.2.2.2.2.2.1]; decide)
        refine Or.inr ⟨u, w, pl, S', T', ?_, w3, e4, w4⟩
        rw [e1, e3, bd2_some, vl_d, vl_d, nI_1]
        exact e5
      | inr vb =>
        obtain ⟨v, b⟩ := vb
        have hb := rg_adv hrg
        rw [hrg] at c1 c2
        have c1 : f_X6_range S = some (v, sI S 3 2 (nI b)) := c1
        have c2 : f_X10_bracket_L45 (f2 + 1) x1 x2 T = f_X10_bracket_L45 f2 x1 (x2 ||| v) (sI T 34 27 (nI b)) := c2
        rw [e1, c1, bd2_some, vl_d, vl_d, nI_1, c2]
        rcases ih b (t + 1) f f2 (sI S 3 2 (nI b)) (sI T 34 27 (nI b)) (x2 ||| v) (by omega) hb.2 (by omega) (by omega) (by omega) (tC_at h b) (tM_at g b) (by rw [sI_ne _ _ (Or.inr (by decide))]; exact hf) (by rw [sI_ne _ _ (Or.inr (by decide))]; exact gf) with ⟨u, b2, q1, q2, q3, q4⟩ | ⟨u, w, pl, S', T', q1, q2, q3, q4⟩
        · exact Or.inl ⟨u, b2, by rw [q1, sI_sI], by rw [q2, sI_sI], by omega, q4⟩
        · exact Or.inr ⟨u, w, pl, S', T', q1, ftC_of q2, q3, ftM_of q4⟩
    · have e1 : f_X6_bracket_L36 (f + 1) x1 x2 (nI t) S = f_X6_bracket_L67 x1 x2 S := by
        rw [f_X6_bracket_L36, h.1]
        by_cases hl : nI n ≤ nI t
        · rw [if_pos hl]
        · rw [if_neg hl, sign_eq ok h (by omega), bd2_some, cs_let ok, if_neg (by assumption)]
      have e2 : f_X10_bracket_L45 (f2 + 1) x1 x2 T = f_X10_bracket_L174 x1 x2 T := by
        rw [f_X10_bracket_L45, if_pos gf, ms_let ok g (by omega), if_neg hl]
      rw [e1, e2]
      exact brEnd x1 x2 ok h g ha hf gf
/-- behind [ and ^ -/
theorem brIn {S T : Sg} {a : Nat} (x1 : Int32) (ok : okT n tx) (h : tC n tx S a) (g : tM n tx T a) (ha : a ≤ n) (hf : S.1 3 4 = 0) (gf : T.1 34 4 = 0) :
    (∃ v b, bd2 (f_X6_range S) (fun r_5 S_4 => vl r_5 (fun x2_6 => vl ((0 : Int32)) (fun x3_7 => (f_X6_bracket_L36 fu) x1 x2_6 x3_7 S_4))) = some (v, sI S 3 2 (nI b)) ∧ bd2 (f_X10_seesLetter T) (fun r_8 S_7 => bd (f_X10_need r_8 S_7) (fun S_9 => (f_X10_bracket_L45 fu) x1 0 S_9)) = some (v, sI T 34 27 (nI b)) ∧ a < b ∧ b ≤ n) ∨ ∃ v w pl S' T', bd2 (f_X6_range S) (fun r_5 S_4 => vl r_5 (fun x2_6 => vl ((0 : Int32)) (fun x3_7 => (f_X6_bracket_L36 fu) x1 x2_6 x3_7 S_4))) = some (v, S') ∧ ftC S S' n 1 pl ∧ bd2 (f_X10_seesLetter T) (fun r_8 S_7 => bd (f_X10_need r_8 S_7) (fun S_9 => (f_X10_bracket_L45 fu) x1 0 S_9)) = some (w, T') ∧ ftM T T' 1 pl := by
  have hn := ok.1
  have c1 := range_eq ok h ha hf
  rw [seesLetter_eq ok g (by omega), bd2_some]
  by_cases hl : isLt (chr n tx a)
  · have c2 := loopM (fl := 99999) x1 0 ok g ha gf hl (by omega)
    have efu : fu = 99999 + 1 := rfl
    rw [decide_eq_true hl, show bI true = 1 from rfl, need_1, bd_some]
    cases hrg : rg n tx a with
    | inl pl =>
      rw [hrg] at c1 c2
      obtain ⟨S', e3, w3⟩ := c1
      obtain ⟨w, T', e4, w4⟩ := c2
      obtain ⟨u, e5⟩ := L36_d (fl := fu) (t := 0) x1 0 (by unfold fu; omega) (by omega) ok (tC_ft h w3) (by rw [w3.2.2.2.2.2.1]; decide)
      refine Or.inr ⟨u, w, pl, S', T', ?_, w3, by rw [efu]; exact e4, w4⟩
      rw [e3, bd2_some, vl_d, vl_d]
      rw [← k_0] at e5
      exact e5
    | inr vb =>
      obtain ⟨v, b⟩ := vb
      have hb := rg_adv hrg
      rw [hrg] at c1 c2
      have c1 : f_X6_range S = some (v, sI S 3 2 (nI b)) := c1
      have c2 : f_X10_bracket_L45 (99999 + 1) x1 0 T = f_X10_bracket_L45 99999 x1 (0 ||| v) (sI T 34 27 (nI b)) := c2
      rw [efu, c2, show (0 : Int32) ||| v = v from by simp, ← efu, c1, bd2_some, vl_d, vl_d, k_0]
      rcases brL ok x1 n b 0 fu 99999 (sI S 3 2 (nI b)) (sI T 34 27 (nI b)) v (by omega) hb.2 (by omega) (by unfold fu; omega) (by omega) (tC_at h b) (tM_at g b) (by rw [sI_ne _ _ (Or.inr (by decide))]; exact hf) (by rw [sI_ne _ _ (Or.inr (by decide))]; exact gf) with ⟨u, b2, q1, q2, q3, q4⟩ | ⟨u, w, pl, S', T', q1, q2, q3, q4⟩
      · exact Or.inl ⟨u, b2, by rw [q1, sI_sI], by rw [q2, sI_sI], by omega, q4⟩
      · exact Or.inr ⟨u, w, pl, S', T', q1, ftC_of q2, q3, ftM_of q4⟩
  · have hrg : rg n tx a = Sum.inl a := if_neg hl
    rw [hrg] at c1
    obtain ⟨S', e3, w3⟩ := c1
    obtain ⟨T1, e2, w2, w4⟩ := need_0 g.2.1 gf
    obtain ⟨u, e5⟩ := L36_d (fl := fu) (t := 0) x1 0 (by unfold fu; omega) (by omega) ok (tC_ft h w3) (by rw [w3.2.2.2.2.2.1]; decide)
    obtain ⟨w, e6⟩ := loop_d (fl := fu) x1 0 (by unfold fu; omega) ok (tM_ft g w2 w4) (by omega) w2.2.2.2.1
    rw [decide_eq_false hl, show bI false = 0 from rfl, e2, bd_some, e6, e3, bd2_some, vl_d, vl_d]
    rw [← k_0] at e5
    exact Or.inr ⟨u, w, a, S', _, e5, w3, rfl, ftM_at w2 _⟩
/-- bracket(): the class behind [, the reference at it -/
theorem bracket_eq {S T : Sg} {a : Nat} (ok : okT n tx) (h : tC n tx S (a + 1)) (g : tM n tx T a) (ha : a < n) (hf : S.1 3 4 = 0) (gf : T.1 34 4 = 0) :
    (∃ v b, f_X6_bracket S = some (v, sI S 3 2 (nI b)) ∧ f_X10_bracket T = some (v, sI T 34 27 (nI b)) ∧ a < b ∧ b ≤ n) ∨ ∃ v w pl S' T', f_X6_bracket S = some (v, S') ∧ ftC S S' n 1 pl ∧ f_X10_bracket T = some (w, T') ∧ ftM T T' 1 pl := by
  have hn := ok.1
  have g1 := tM_at g (a + 1)
  have gf1 : (sI T 34 27 (nI (a + 1))).1 34 4 = 0 := by rw [sI_ne _ _ (Or.inr (by decide))]; exact gf
  unfold f_X6_bracket f_X10_bracket
  rw [k_94, cs_is ok h (by omega) (by decide), g.2.1, nI_1, vl_d, sees_eq ok g1 (by omega) (by decide), bd2_some, vl_d]
  by_cases hc : chr n tx (a + 1) = 94
  · have han := chr_in (n := n) (tx := tx) (a := a + 1) (by omega)
    rw [if_pos hc, decide_eq_true hc, show bI true = 1 from rfl, if_neg n10]
    unfold f_X6_bracket_L14 f_X10_bracket_L31
    rw [vl_d, if_neg n10, vl_d, h.2.1, nI_1, vl_d, vl_d, sI_at, nI_1, sI_sI]
    rcases brIn (S := sI S 3 2 (nI (a + 1 + 1))) (T := sI T 34 27 (nI (a + 1 + 1))) 1 ok (tC_at h (a + 1 + 1)) (tM_at g (a + 1 + 1)) (by omega) (by rw [sI_ne _ _ (Or.inr (by decide))]; exact hf) (by rw [sI_ne _ _ (Or.inr (by decide))]; exact gf) with ⟨u, b2, q1, q2, q3, q4⟩ | ⟨u, w, pl, S', T', q1, q2, q3, q4⟩
    · exact Or.inl ⟨u, b2, by rw [q1, sI_sI], by rw [q2, sI_sI], by omega, q4⟩
    · exact Or.inr ⟨u, w, pl, S', T', q1, ftC_of q2, q3, ftM_of q4⟩
  · rw [if_neg hc, decide_eq_false hc, show bI false = 0 from rfl, if_pos rfl]
    unfold f_X6_bracket_L14 f_X10_bracket_L31
    rw [vl_d, if_pos rfl, vl_d, vl_d, sI_at, show nI (a + 1) + 0 = nI (a + 1) from by simp, sI_sI]
    rcases brIn (S := S) (T := sI T 34 27 (nI (a + 1))) 0 ok h g1 (by omega) hf gf1 with ⟨u, b2, q1, q2, q3, q4⟩ | ⟨u, w, pl, S', T', q1, q2, q3, q4⟩
    · exact Or.inl ⟨u, b2, q1, by rw [q2, sI_sI], by omega, q4⟩
    · exact Or.inr ⟨u, w, pl, S', T', q1, q2, q3, ftM_of q4⟩
end BRACKET2
