theorem sI_sI (S : Sg) (i k : Nat) (v w : Int32) : sI (sI S i k v) i k w = sI S i k w := by
  refine Prod.ext ?_ rfl
  funext a b
  rw [sI_get, sI_get, sI_get]
  by_cases h : a = i
  · by_cases h2 : b = k
    · simp [h, h2]
    · simp [h, h2]
  · simp [h]
def ftC (S S' : Sg) (n : Nat) (e : Int32) (pl : Nat) : Prop := S'.2 = S.2 ∧ (∀ id, id ≠ 3 → S'.1 id = S.1 id) ∧ S'.1 3 1 = S.1 3 1 ∧ S'.1 3 8 = S.1 3 8 ∧ S'.1 3 2 = nI n ∧ S'.1 3 4 = e ∧ S'.1 3 5 = nI pl
def ftM (T T' : Sg) (e : Int32) (pl : Nat) : Prop := T'.2 = T.2 ∧ (∀ id, id ≠ 34 → T'.1 id = T.1 id) ∧ (∀ b, b ≠ 4 → b ≠ 5 → b ≠ 27 → T'.1 34 b = T.1 34 b) ∧ T'.1 34 4 = e ∧ T'.1 34 5 = nI pl
def rng (l h : Nat) : Int32 := ((2 : Int32) <<< (nI h &&& 31)) - ((1 : Int32) <<< (nI l &&& 31))
def rg (n : Nat) (tx : Nat → Nat) (a : Nat) : Sum Nat (Int32 × Nat) :=
  if isLt (chr n tx a) then
    if chr n tx (a + 1) = 45 then
      if isLt (chr n tx (a + 2)) ∧ chr n tx a ≤ chr n tx (a + 2) then Sum.inr (rng (chr n tx a - 97) (chr n tx (a + 2) - 97), a + 3) else Sum.inl (a + 2)
    else Sum.inr (rng (chr n tx a - 97) (chr n tx a - 97), a + 1)
  else Sum.inl a
theorem rng_1 : ∀ l, l < 4 → (1 : Int32) <<< (nI l &&& 31) = rng l l := by decide +kernel
theorem rng_s : ∀ h, h < 4 → ∀ l, l < h → ((1 : Int32) <<< (nI l &&& 31)) ||| rng (l + 1) h = rng l h := by decide +kernel
section BRACKET
variable {n : Nat} {tx : Nat → Nat}
theorem tC_at {S : Sg} {a : Nat} (h : tC n tx S a) (b : Nat) : tC n tx (sI S 3 2 (nI b)) b := ⟨by rw [sI_ne _ _ (Or.inr (by decide))]; exact h.1, sI_at _ _ _ _, fun k hk => by rw [sI_id _ _ _ (by decide)]; exact h.2.2 k hk⟩
theorem tM_at {T : Sg} {a : Nat} (h : tM n tx T a) (b : Nat) : tM n tx (sI T 34 27 (nI b)) b := ⟨by rw [sI_ne _ _ (Or.inr (by decide))]; exact h.1, sI_at _ _ _ _, fun k hk => by rw [sI_id _ _ _ (by decide)]; exact h.2.2 k hk⟩
theorem refuse_eq {S : Sg} {a : Nat} (e : Int32) (h : tC n tx S a) (hf : S.1 3 4 = 0) : ∃ S', f_X6_refuse e S = some S' ∧ ftC S S' n e a := by
  refine ⟨sI (sI (sI S 3 4 e) 3 5 (nI a)) 3 2 (nI n), ?_, rfl, fun id hid => by rw [sI_id _ _ _ hid, sI_id _ _ _ hid, sI_id _ _ _ hid], ?_, ?_, sI_at _ _ _ _, ?_, ?_⟩
  · unfold f_X6_refuse
    rw [if_pos hf, vl_d, vl_d, vl_d, sI_ne _ _ (Or.inr (by decide)), h.2.1, sI_ne _ _ (Or.inr (by decide)), sI_ne _ _ (Or.inr (by decide)), h.1]
  · rw [sI_ne _ _ (Or.inr (by decide)), sI_ne _ _ (Or.inr (by decide)), sI_ne _ _ (Or.inr (by decide))]
  · rw [sI_ne _ _ (Or.inr (by decide)), sI_ne _ _ (Or.inr (by decide)), sI_ne _ _ (Or.inr (by decide))]
  · rw [sI_ne _ _ (Or.inr (by decide)), sI_ne _ _ (Or.inr (by decide)), sI_at]
  · rw [sI_ne _ _ (Or.inr (by decide)), sI_at]
theorem refuse_no {S : Sg} (e : Int32) (hf : ¬ S.1 3 4 = 0) : f_X6_refuse e S = some S := by
  unfold f_X6_refuse
  rw [if_neg hf]
theorem bad_eq {T : Sg} {a : Nat} (e : Int32) (hf : T.1 34 4 = 0) : ∃ T', f_X10_bad e (nI a) T = some T' ∧ ftM T T' e a ∧ T'.1 34 27 = T.1 34 27 := by
  refine ⟨sI (sI T 34 4 e) 34 5 (nI a), ?_, ⟨rfl, fun id hid => by rw [sI_id _ _ _ hid, sI_id _ _ _ hid], fun b b1 b2 b3 => ?_, ?_, sI_at _ _ _ _⟩, ?_⟩
  · unfold f_X10_bad
    rw [if_pos (by rw [hf]; decide), vl_d, vl_d]
  · rw [sI_ne _ _ (Or.inr b2), sI_ne _ _ (Or.inr b1)]
  · rw [sI_ne _ _ (Or.inr (by decide)), sI_at]
  · rw [sI_ne _ _ (Or.inr (by decide)), sI_ne _ _ (Or.inr (by decide))]
theorem need_1 (T : Sg) : f_X10_need 1 T = some T := by
  unfold f_X10_need
  rw [if_neg n10]
theorem need_0 {T : Sg} {a : Nat} (ha : T.1 34 27 = nI a) (hf : T.1 34 4 = 0) : ∃ T', f_X10_need 0 T = some T' ∧ ftM T T' 1 a ∧ T'.1 34 27 = nI a := by
  obtain ⟨T', e, w, w2⟩ := bad_eq (a := a) 1 hf
  refine ⟨T', ?_, w, by rw [w2, ha]⟩
  unfold f_X10_need
  rw [if_pos rfl, ha, e, bd_some]
theorem need_d {T : Sg} (v : Int32) (hf : T.1 34 4 = 1) : f_X10_need v T = some T := by
  unfold f_X10_need f_X10_bad
  by_cases h : v = 0
  · rw [if_pos h, hf, if_neg (show ¬ (1 : Int32) ≤ 0 by decide), bd_some]
  · rw [if_neg h]
theorem range_eq {S : Sg} {a : Nat} (ok : okT n tx) (h : tC n tx S a) (ha : a ≤ n) (hf : S.1 3 4 = 0) : match rg n tx a with
    | Sum.inl pl => ∃ S', f_X6_range S = some (0, S') ∧ ftC S S' n 1 pl
    | Sum.inr (v, b) => f_X6_range S = some (v, sI S 3 2 (nI b)) := by
  have hn := ok.1
  unfold rg f_X6_range
  rw [sign_eq ok h (by omega), bd2_some, vl_d, cs_let ok]
  by_cases h1 : isLt (chr n tx a)
  · have hsg := sgn_lt ok h1
    have e1 := h1.1
    have e2 := h1.2
    have t1 := tC_at h (a + 1)
    rw [if_pos h1, if_pos h1, h.2.1, nI_1, vl_d, k_45, cs_is ok t1 (by omega) (by decide)]
    by_cases h2 : chr n tx (a + 1) = 45
    · have t2 := tC_at h (a + 2)
      rw [if_pos h2, if_pos h2, sI_at, nI_1, vl_d, sI_sI, sign_eq ok t2 (by omega), bd2_some, vl_d, cs_let ok]
      by_cases h3 : isLt (chr n tx (a + 2))
      · have hsg2 := sgn_lt ok h3
        have e3 := h3.1
        have e4 := h3.2
        rw [if_pos h3, hsg, hsg2]
        by_cases h4 : chr n tx a ≤ chr n tx (a + 2)
        · rw [if_pos ⟨h3, h4⟩, if_pos (by rw [nI_leI (by omega) (by omega)]; exact h4), vl_d, sI_at, nI_1, sI_sI, k_97, pk_sub (by omega), pk_sub (by omega)]
          rfl
        · rw [if_neg (fun z => h4 z.2), if_neg (by rw [nI_leI (by omega) (by omega)]; exact h4)]
          obtain ⟨S', e, w⟩ := refuse_eq 1 t2 (by rw [sI_ne _ _ (Or.inr (by decide))]; exact hf)
          refine ⟨S', by rw [e, bd_some], ?_⟩
          obtain ⟨w1, w2, w3, w4, w5⟩ := w
          exact ⟨w1, fun id hid => by rw [w2 id hid, sI_id _ _ _ hid], by rw [w3, sI_ne _ _ (Or.inr (by decide))], by rw [w4, sI_ne _ _ (Or.inr (by decide))], w5⟩
      · rw [if_neg h3, if_neg (fun z => h3 z.1)]
        obtain ⟨S', e, w⟩ := refuse_eq 1 t2 (by rw [sI_ne _ _ (Or.inr (by decide))]; exact hf)
        refine ⟨S', by rw [e, bd_some], ?_⟩
        obtain ⟨w1, w2, w3, w4, w5⟩ := w
        exact ⟨w1, fun id hid => by rw [w2 id hid, sI_id _ _ _ hid], by rw [w3, sI_ne _ _ (Or.inr (by decide))], by rw [w4, sI_ne _ _ (Or.inr (by decide))], w5⟩
    · rw [if_neg h2, if_neg h2, hsg]
      unfold f_X6_lettersOf
      rw [k_46, if_neg (by rw [nI_eq (by omega) (by omega)]; omega), bd2_some, k_97, pk_sub (by omega), rng_1 _ (by omega)]
  · rw [if_neg h1, if_neg h1]
    obtain ⟨S', e, w⟩ := refuse_eq 1 h hf
    exact ⟨S', by rw [e, bd_some], w⟩
theorem rg_adv {a v b} (h : rg n tx a = Sum.inr (v, b)) : a < b ∧ b ≤ n := by
  unfold rg at h
  have hin : ∀ c, isLt (chr n tx c) → c < n := by
    intro c hc
    unfold chr at hc
    by_cases e : c < n
    · exact e
    · rw [if_neg e] at hc; have := hc.2; omega
  by_cases h1 : isLt (chr n tx a)
  · have := hin a h1
    rw [if_pos h1] at h
    by_cases h2 : chr n tx (a + 1) = 45
    · rw [if_pos h2] at h
      by_cases h3 : isLt (chr n tx (a + 2)) ∧ chr n tx a ≤ chr n tx (a + 2)
      · have := hin _ h3.1
        rw [if_pos h3] at h
        injection h with h
        injection h with h4 h5
        omega
      · rw [if_neg h3] at h; cases h
    · rw [if_neg h2] at h
      injection h with h
      injection h with h4 h5
      omega
  · rw [if_neg h1] at h; cases h
/-- the letters from l to h -/
theorem lettersM {K : Int32 → Int32 → Sg → Option (Int32 × Sg)} {T : Sg} {x1 : Int32} {h : Nat} (hh : h < 4) (hf : T.1 34 4 = 0) : ∀ (r l fl : Nat) (x2 : Int32), l + r = h → r + 2 ≤ fl → f_X10_bracket_L144 K fl x1 x2 (nI h) (nI l) T = K x1 (x2 ||| rng l h) T := by
  intro r
  induction r with
  | zero =>
    intro l fl x2 hl hfl
    obtain ⟨f, rfl⟩ : ∃ f, fl = f + 1 + 1 := ⟨fl - 2, by omega⟩
    have : l = h := by omega
    subst this
    rw [f_X10_bracket_L144, if_pos hf, if_neg (by rw [nI_ltI (by omega) (by omega)]; omega), vl_d, vl_d, f_X10_bracket_L144, if_pos hf, nI_1, if_pos (by rw [nI_ltI (by omega) (by omega)]; omega), rng_1 l (by omega)]
  | succ r ih =>
    intro l fl x2 hl hfl
    obtain ⟨f, rfl⟩ : ∃ f, fl = f + 1 := ⟨fl - 1, by omega⟩
    rw [f_X10_bracket_L144, if_pos hf, if_neg (by rw [nI_ltI (by omega) (by omega)]; omega), vl_d, vl_d, nI_1, ih (l + 1) f _ (by omega) (by omega), ← rng_s h hh l (by omega), Int32.or_assoc]
theorem end_d {T : Sg} {a : Nat} (x1 x2 : Int32) (ok : okT n tx) (h : tM n tx T a) (ha : a ≤ n + 9) (hf : T.1 34 4 = 1) : ∃ w, f_X10_bracket_L174 x1 x2 T = some (w, sI T 34 27 (nI (a + 1))) := by
  have hn := ok.1
  unfold f_X10_bracket_L174
  rw [k_93, sees_eq ok h (by omega) (by decide), bd2_some, need_d _ hf, bd_some, vl_d, h.2.1, nI_1]
  by_cases e : x1 = 0
  · exact ⟨_, if_pos e⟩
  · exact ⟨_, if_neg e⟩
theorem loop_d {T : Sg} {a : Nat} (x1 x2 : Int32) {fl : Nat} (hfl : 1 ≤ fl) (ok : okT n tx) (h : tM n tx T a) (ha : a ≤ n + 9) (hf : T.1 34 4 = 1) : ∃ w, f_X10_bracket_L45 fl x1 x2 T = some (w, sI T 34 27 (nI (a + 1))) := by
  obtain ⟨f, rfl⟩ : ∃ f, fl = f + 1 := ⟨fl - 1, by omega⟩
  rw [f_X10_bracket_L45, hf, if_neg n10]
  exact end_d x1 x2 ok h ha hf
theorem ftM_at {T T' : Sg} {e : Int32} {pl : Nat} (h : ftM T T' e pl) (v : Int32) : ftM T (sI T' 34 27 v) e pl := ⟨h.1, fun id hid => by rw [sI_id _ _ _ hid]; exact h.2.1 id hid, fun b b1 b2 b3 => by rw [sI_ne _ _ (Or.inr b3)]; exact h.2.2.1 b b1 b2 b3, by rw [sI_ne _ _ (Or.inr (by decide))]; exact h.2.2.2.1, by rw [sI_ne _ _ (Or.inr (by decide))]; exact h.2.2.2.2⟩
theorem ftM_of {T T' : Sg} {e v : Int32} {pl : Nat} (h : ftM (sI T 34 27 v) T' e pl) : ftM T T' e pl := ⟨h.1, fun id hid => by rw [h.2.1 id hid, sI_id _ _ _ hid], fun b b1 b2 b3 => by rw [h.2.2.1 b b1 b2 b3, sI_ne _ _ (Or.inr b3)], h.2.2.2⟩
theorem ftC_of {S S' : Sg} {e v : Int32} {pl : Nat} (h : ftC (sI S 3 2 v) S' n e pl) : ftC S S' n e pl := ⟨h.1, fun id hid => by rw [h.2.1 id hid, sI_id _ _ _ hid], by rw [h.2.2.1, sI_ne _ _ (Or.inr (by decide))], by rw [h.2.2.2.1, sI_ne _ _ (Or.inr (by decide))], h.2.2.2.2⟩
theorem tM_ft {T T' : Sg} {a pl : Nat} {e : Int32} (h : tM n tx T a) (w : ftM T T' e pl) (ha : T'.1 34 27 = nI a) : tM n tx T' a := ⟨by rw [w.2.2.1 3 (by decide) (by decide) (by decide)]; exact h.1, ha, fun k hk => by rw [w.2.1 36 (by decide)]; exact h.2.2 k hk⟩
theorem loopM {T : Sg} {a fl : Nat} (x1 x2 : Int32) (ok : okT n tx) (h : tM n tx T a) (ha : a ≤ n) (hf : T.1 34 4 = 0) (hl : isLt (chr n tx a)) (hfl : 1 ≤ fl) : match rg n tx a with
    | Sum.inl pl => ∃ w T', f_X10_bracket_L45 (fl + 1) x1 x2 T = some (w, T') ∧ ftM T T' 1 pl
    | Sum.inr (v, b) => f_X10_bracket_L45 (fl + 1) x1 x2 T = f_X10_bracket_L45 fl x1 (x2 ||| v) (sI T 34 27 (nI b)) := by
  have hn := ok.1
  have e1 := hl.1
  have e2 := hl.2
  have han : a < n := by
    unfold chr at e2
    by_cases e : a < n
    · exact e
    · rw [if_neg e] at e2; omega
  have hc : chr n tx a = tx a := if_pos han
  have t1 := tM_at h (a + 1)
  unfold rg
  rw [if_pos hl, f_X10_bracket_L45, if_pos hf, ms_let ok h (by omega), if_pos hl, here_eq ok h (by omega), bd2_some, vl_d, vl_d, vl_d, if_pos han, ← hc, k_97, pk_sub (by omega), h.2.1, nI_1, k_45, ms_is ok t1 (by omega) (by decide)]
  by_cases h2 : chr n tx (a + 1) = 45
  · have t2 := tM_at h (a + 2)
    have f2 : (sI T 34 27 (nI (a + 2))).1 34 4 = 0 := by rw [sI_ne _ _ (Or.inr (by decide))]; exact hf
    have f3 : (sI T 34 27 (nI (a + 3))).1 34 4 = 0 := by rw [sI_ne _ _ (Or.inr (by decide))]; exact hf
    rw [if_pos h2, if_pos h2, vl_d, sI_at, nI_1, sI_sI, seesLetter_eq ok t2 (by omega), bd2_some]
    by_cases h3 : isLt (chr n tx (a + 2))
    · have e3 := h3.1
      have e4 := h3.2
      have han2 : a + 2 < n := by
        unfold chr at e4
        by_cases e : a + 2 < n
        · exact e
        · rw [if_neg e] at e4; omega
      have hc2 : chr n tx (a + 2) = tx (a + 2) := if_pos han2
      rw [decide_eq_true h3, show bI true = 1 from rfl, need_1, bd_some, here_eq ok t2 (by omega), bd2_some, vl_d, if_pos han2, ← hc2, pk_sub (by omega)]
      by_cases h4 : chr n tx a ≤ chr n tx (a + 2)
      · rw [if_pos ⟨h3, h4⟩, if_neg (by rw [nI_ltI (by omega) (by omega)]; omega)]
        unfold f_X10_bracket_L128
        rw [need_1, bd_some, vl_d, vl_d, sI_at, nI_1, sI_sI]
        exact lettersM (by omega) f3 (chr n tx (a + 2) - 97 - (chr n tx a - 97)) _ fu x2 (by omega) (by unfold fu; omega)
      · rw [if_neg (fun z => h4 z.2), if_pos (by rw [nI_ltI (by omega) (by omega)]; omega)]
        unfold f_X10_bracket_L128
        obtain ⟨T1, q1, q2, q3⟩ := need_0 (sI_at _ _ _ _) f2
        rw [q1, bd_some, vl_d, vl_d, q3, nI_1]
        have q4 := ftM_at (ftM_of q2) (nI (a + 2 + 1))
        have t3 : tM n tx (sI T1 34 27 (nI (a + 2 + 1))) (a + 2 + 1) := ⟨(by rw [q4.2.2.1 3 (by decide) (by decide) (by decide)]; exact h.1), sI_at _ _ _ _, fun k hk => by rw [q4.2.1 36 (by decide)]; exact h.2.2 k hk⟩
        rw [fu_s, f_X10_bracket_L144, q4.2.2.2.1, if_neg n10]
        obtain ⟨w, e⟩ := loop_d x1 x2 hfl ok t3 (by omega) q4.2.2.2.1
        exact ⟨w, _, e, ftM_at q4 _⟩
    · rw [if_neg (fun z => h3 z.1), decide_eq_false h3, show bI false = 0 from rfl]
      obtain ⟨T1, q1, q2, q3⟩ := need_0 (sI_at _ _ _ _) f2
      have t2' := tM_ft t2 q2 q3
      rw [q1, bd_some, here_eq ok t2' (by omega), bd2_some, vl_d]
      have gen : ∀ (z y : Int32) (t0 : Int32), ∃ w T', f_X10_bracket_L128 (f_X10_bracket_L144 (f_X10_bracket_L45 fl) fu) x1 x2 z y t0 T1 = some (w, T') ∧ ftM T T' 1 (a + 2) := by
        intro z y t0
        have q4 := ftM_at (ftM_of q2) (nI (a + 2 + 1))
        have t3 : tM n tx (sI T1 34 27 (nI (a + 2 + 1))) (a + 2 + 1) := ⟨(by rw [q4.2.2.1 3 (by decide) (by decide) (by decide)]; exact h.1), sI_at _ _ _ _, fun k hk => by rw [q4.2.1 36 (by decide)]; exact h.2.2 k hk⟩
        obtain ⟨w, e⟩ := loop_d x1 x2 hfl ok t3 (by omega) q4.2.2.2.1
        refine ⟨w, sI (sI T1 34 27 (nI (a + 2 + 1))) 34 27 (nI (a + 2 + 1 + 1)), ?_, ftM_at q4 _⟩
        unfold f_X10_bracket_L128
        rw [need_d _ q2.2.2.2.1, bd_some, vl_d, vl_d, q3, nI_1, fu_s, f_X10_bracket_L144, q4.2.2.2.1, if_neg n10]
        exact e
      generalize nI (chr n tx a - 97) = z
      generalize (if a + 2 < n then nI (tx (a + 2)) else nI 0) - nI 97 = y
      by_cases hz : y < z
      · rw [if_pos hz]; exact gen _ _ _
      · rw [if_neg hz]; exact gen _ _ _
  · rw [if_neg h2, if_neg h2, vl_d]
    exact lettersM (by omega) (by rw [sI_ne _ _ (Or.inr (by decide))]; exact hf) 0 _ fu x2 (by omega) (by unfold fu; omega)
end BRACKET
