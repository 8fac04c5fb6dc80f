def pil (T : Sg) : List Bool → Prop
  | [] => True
  | b :: r => T.1 65 r.length = bI b ∧ pil T r
theorem pil_f {T : Sg} {k : Nat} {v : Int32} : ∀ (l : List Bool), l.length ≤ k → pil T l → pil (sI T 65 k v) l := by
  intro l
  induction l with
  | nil => intro _ _; trivial
  | cons b r ih =>
    intro hl h
    have : r.length + 1 ≤ k := hl
    exact ⟨by rw [sI_ne _ _ (Or.inr (by omega))]; exact h.1, ih (by omega) h.2⟩
theorem pil_up {T : Sg} {b : Bool} {l : List Bool} (h : pil T l) : pil (sI T 65 l.length (bI b)) (b :: l) := ⟨sI_at _ _ _ _, pil_f l (Nat.le_refl _) h⟩
theorem rn_some {P : Nat} {T : Sg} {w : Nat} : ∀ (r j : Nat) (l : List Bool), rn P T w (j + r) = some l → ∃ l', rn P T w j = some l' := by
  intro r
  induction r with
  | zero => intro j l h; exact ⟨l, h⟩
  | succ r ih =>
    intro j l h
    have h' : (rn P T w (j + r)).bind (stepc P (T.1 43 (j + r)) w) = some l := h
    cases hx : rn P T w (j + r) with
    | none => rw [hx] at h'; exact absurd h' (by simp)
    | some l2 => exact ih j l2 hx
def ktv (T : Sg) (s k P w : Nat) : Prop := ∀ p, p < P → (k = 0 → T.1 38 p = bI (w.testBit p)) ∧ (k ≠ 0 → (T.1 50 (6 * (150 * s + k) + p) &&& T.1 40 p = 0 ↔ w.testBit p = false))
theorem sm2 {n : Nat} : nI (n + 2) - (1 : Int32) = nI (n + 1) ∧ nI (n + 2) - (2 : Int32) = nI n ∧ nI (n + 2) + (-1 : Int32) = nI (n + 1) := by
  refine ⟨by rw [k_1, pk_sub (by omega)]; rfl, by rw [k_2, pk_sub (by omega)]; rfl, by rw [nI_m1, k_1, pk_sub (by omega)]; rfl⟩
theorem meantL {P s k w c : Nat} {v : Int64} {T0 : Sg} (hP : P ≤ 6) (hs : s < 4) (hk : k < 150) (hc : c < 400) (h13 : T0.1 34 13 = nI c) (htv : ktv T0 s k P w) (hfin : rn P T0 w c = some [bJ v w]) : ∀ (r j fl : Nat) (T : Sg) (l : List Bool), j + r = c → r + 1 ≤ fl → (T.2 = T0.2 ∧ ∀ id, id ≠ 65 → T.1 id = T0.1 id) → rn P T0 w j = some l → pil T l → l.length ≤ j → ∃ T', f_X10_meant_L5 fl (nI s) (nI k) (nI l.length) (nI j) T = some (bI (bJ v w), T') ∧ T'.2 = T0.2 ∧ ∀ id, id ≠ 65 → T'.1 id = T0.1 id := by
  intro r
  induction r with
  | zero =>
    intro j fl T l hj hfl hT hl hp hlj
    obtain ⟨f, rfl⟩ : ∃ f, fl = f + 1 := ⟨fl - 1, by omega⟩
    have : j = c := by omega
    subst this
    have e : l = [bJ v w] := by rw [hfin] at hl; exact (Option.some.inj hl).symm
    subst e
    refine ⟨T, ?_, hT.1, hT.2⟩
    have h65 : T.1 65 0 = bI (bJ v w) := hp.1
    rw [f_X10_meant_L5, hT.2 34 (by decide), h13, if_pos (by rw [nI_leI (by omega) (by omega)]; omega), k_0, ck_nI (by omega) (by decide), nI_clamp (by omega), h65, zk_b]
  | succ r ih =>
    intro j fl T l hj hfl hT hl hp hlj
    obtain ⟨f, rfl⟩ : ∃ f, fl = f + 1 := ⟨fl - 1, by omega⟩
    obtain ⟨l2, hl2⟩ := rn_some (P := P) (T := T0) (w := w) r (j + 1) _ (by rw [show j + 1 + r = c by omega]; exact hfin)
    have hst : stepc P (T0.1 43 j) w l = some l2 := by
      have h' : (rn P T0 w j).bind (stepc P (T0.1 43 j) w) = some l2 := hl2
      rw [hl] at h'
      exact h'
    have hd : f_X10_meant_L5 (f + 1) (nI s) (nI k) (nI l.length) (nI j) T = f_X10_meant_L5 (f + 1) (nI s) (nI k) (nI l.length) (nI j) T := rfl
    have frm : ∀ (i : Nat) (x : Int32), (sI T 65 i x).2 = T0.2 ∧ ∀ id, id ≠ 65 → (sI T 65 i x).1 id = T0.1 id := fun i x => ⟨hT.1, fun id hid => by rw [sI_id _ _ _ hid]; exact hT.2 id hid⟩
    have a43 : T.1 43 = T0.1 43 := hT.2 43 (by decide)
    rw [f_X10_meant_L5, hT.2 34 (by decide), h13, if_neg (by rw [nI_leI (by omega) (by omega)]; omega), ck_nI (by omega) (by decide), nI_clamp (by omega), vl_d, a43]
    unfold stepc at hst
    generalize hv : T0.1 43 j = x at hst
    by_cases h1 : x = -3
    · rw [if_pos h1] at hst
      subst h1
      rw [if_pos (by decide), if_pos rfl]
      match l, hst, hp, hlj, hl with
      | b :: q, hst, hp, hlj, hl =>
        have e2 : l2 = (!b) :: q := (Option.some.inj hst).symm
        subst e2
        have hq : q.length + 1 ≤ j := hlj
        have hlen : (b :: q).length = q.length + 1 := rfl
        obtain ⟨T', u1, u2⟩ := ih (j + 1) f (sI T 65 q.length (bI (!b))) ((!b) :: q) (by omega) (by omega) (frm _ _) hl2 (pil_up hp.2) (by show q.length + 1 ≤ j + 1; omega)
        refine ⟨T', ?_, u2⟩
        rw [← u1]
        show _ = f_X10_meant_L5 f (nI s) (nI k) (nI (q.length + 1)) (nI (j + 1)) _
        rw [hlen, k_1, pk_sub (by omega), Nat.add_sub_cancel, ck_nI (by omega) (by decide), nI_clamp (by omega), hp.1, ck_nI (by omega) (by decide), ck_nI (by omega) (by decide)]
        cases b with
        | true => rw [if_neg (show ¬ bI true = 0 by decide), ← k_1, nar_0, vl_d, nI_1, vl_d]; rfl
        | false => rw [if_pos (show bI false = 0 by decide), ← k_1, nar_1, vl_d, nI_1, vl_d]; rfl
    · rw [if_neg h1] at hst
      by_cases h2 : x = -1
      · rw [if_pos h2] at hst
        subst h2
        rw [if_pos (by decide), if_neg (by decide), if_pos rfl]
        match l, hst, hp, hlj, hl with
        | b :: a :: q, hst, hp, hlj, hl =>
          have e2 : l2 = (a && b) :: q := (Option.some.inj hst).symm
          subst e2
          have hq : q.length + 2 ≤ j := hlj
          have hlen : (b :: a :: q).length = q.length + 2 := rfl
          have p1 : T.1 65 (q.length + 1) = bI b := hp.1
          have p2 : T.1 65 q.length = bI a := hp.2.1
          obtain ⟨T', u1, u2⟩ := ih (j + 1) f (sI T 65 q.length (bI (a && b))) ((a && b) :: q) (by omega) (by omega) (frm _ _) hl2 (pil_up hp.2.2) (by show q.length + 1 ≤ j + 1; omega)
          refine ⟨T', ?_, u2⟩
          rw [← u1]
          show _ = f_X10_meant_L5 f (nI s) (nI k) (nI (q.length + 1)) (nI (j + 1)) _
          rw [hlen, sm2.1, sm2.2.1, sm2.2.2, ck_nI (by omega) (by decide), nI_clamp (by omega), nI_clamp (by omega), p1, p2, nar_0, nar_1, nI_1]
          cases a with
          | false => rw [if_pos (show bI false = 0 by decide), ck_nI (by omega) (by decide), vl_d, vl_d, vl_d]; rfl
          | true =>
            rw [if_neg (show ¬ bI true = 0 by decide), ck_nI (by omega) (by decide)]
            cases b with
            | false => rw [if_pos (show bI false = 0 by decide), ck_nI (by omega) (by decide), vl_d, vl_d, vl_d]; rfl
            | true => rw [if_neg (show ¬ bI true = 0 by decide), ck_nI (by omega) (by decide), vl_d, vl_d, vl_d]; rfl
      · rw [if_neg h2] at hst
        by_cases h3 : x = -2
        · rw [if_pos h3] at hst
          subst h3
          rw [if_pos (by decide), if_neg (by decide), if_neg (by decide)]
          match l, hst, hp, hlj, hl with
          | b :: a :: q, hst, hp, hlj, hl =>
            have e2 : l2 = (a || b) :: q := (Option.some.inj hst).symm
            subst e2
            have hq : q.length + 2 ≤ j := hlj
            have hlen : (b :: a :: q).length = q.length + 2 := rfl
            have p1 : T.1 65 (q.length + 1) = bI b := hp.1
            have p2 : T.1 65 q.length = bI a := hp.2.1
            obtain ⟨T', u1, u2⟩ := ih (j + 1) f (sI T 65 q.length (bI (a || b))) ((a || b) :: q) (by omega) (by omega) (frm _ _) hl2 (pil_up hp.2.2) (by show q.length + 1 ≤ j + 1; omega)
            refine ⟨T', ?_, u2⟩
            rw [← u1]
            show _ = f_X10_meant_L5 f (nI s) (nI k) (nI (q.length + 1)) (nI (j + 1)) _
            rw [hlen, sm2.1, sm2.2.1, sm2.2.2, ck_nI (by omega) (by decide), nI_clamp (by omega), nI_clamp (by omega), p1, p2, nar_0, nar_1, nI_1]
            cases a with
            | true => rw [if_neg (show ¬ bI true = 0 by decide), ck_nI (by omega) (by decide), vl_d, vl_d, vl_d]; rfl
            | false =>
              rw [if_pos (show bI false = 0 by decide), ck_nI (by omega) (by decide)]
              cases b with
              | false => rw [if_pos (show bI false = 0 by decide), ck_nI (by omega) (by decide), vl_d, vl_d, vl_d]; rfl
              | true => rw [if_neg (show ¬ bI true = 0 by decide), ck_nI (by omega) (by decide), vl_d, vl_d, vl_d]; rfl
        · rw [if_neg h3] at hst
          by_cases h4 : x < nI P ∧ ¬ x < 0
          · rw [if_pos h4] at hst
            obtain ⟨q, hq, rfl⟩ : ∃ q, q < P ∧ x = nI q := by
              rcases ixc x P (by omega) with z | ⟨_, z⟩ | z
              · exact absurd z h4.2
              · exact absurd h4.1 (Int32.not_lt.mpr z)
              · exact z
            have e2 : l2 = w.testBit q :: l := by
              rw [nI_clamp (by omega)] at hst
              exact (Option.some.inj hst).symm
            subst e2
            obtain ⟨T', u1, u2⟩ := ih (j + 1) f (sI T 65 l.length (bI (w.testBit q))) (w.testBit q :: l) (by omega) (by omega) (frm _ _) hl2 (pil_up hp) (by show l.length + 1 ≤ j + 1; omega)
            refine ⟨T', ?_, u2⟩
            rw [← u1]
            show _ = f_X10_meant_L5 f (nI s) (nI k) (nI (l.length + 1)) (nI (j + 1)) _
            rw [if_neg h4.2, hT.2 38 (by decide), hT.2 50 (by decide), hT.2 40 (by decide), nI_clamp (by omega), nI_clamp (by omega), ixM6, nI_clamp (by omega), nI_1, nI_1, nar_0, nar_1]
            by_cases hk0 : k = 0
            · rw [if_pos (by rw [hk0]; rfl), ck_nI (by omega) (by decide), ck_nI (by omega) (by decide), (htv q hq).1 hk0, nar_b, vl_d, vl_d, vl_d]
            · rw [if_neg (by rw [k_0, nI_eq (by omega) (by omega)]; exact hk0), ck_nI (by omega) (by decide), ck_nI (by omega) (by decide)]
              have hh := (htv q hq).2 hk0
              cases hb : w.testBit q with
              | true =>
                rw [if_neg (fun z => by rw [hh.mp z] at hb; exact absurd hb (by decide)), ck_nI (by omega) (by decide), vl_d, vl_d, vl_d]; rfl
              | false =>
                rw [if_pos (hh.mpr hb), ck_nI (by omega) (by decide), vl_d, vl_d, vl_d]; rfl
          · rw [if_neg h4] at hst
            exact absurd hst (by simp)
theorem meant_eq {P s k w c : Nat} {v : Int64} {T : Sg} (hP : P ≤ 6) (hs : s < 4) (hk : k < 150) (hc : c < 400) (hw : w < 64) (hpl : pl P T c [v]) (htv : ktv T s k P w) : ∃ T', f_X10_meant (nI s) (nI k) T = some (bI (bJ v w), T') ∧ T'.2 = T.2 ∧ ∀ id, id ≠ 65 → T'.1 id = T.1 id := by
  unfold f_X10_meant
  rw [vl_d, vl_d]
  exact meantL (T0 := T) hP hs hk hc hpl.1 htv (hpl.2 w hw) c 0 fu T [] (by omega) (by unfold fu; omega) ⟨rfl, fun _ _ => rfl⟩ rfl trivial (by simp)
