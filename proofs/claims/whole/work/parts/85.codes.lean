theorem bJ_tru : ∀ p, p < 6 → ∀ w, w < 64 → bJ (tru p) w = w.testBit p := by decide +kernel
theorem bJ_not (v : Int64) {b : Nat} (hb : b < 64) : bJ (v ^^^ (-1 : Int64)) b = !bJ v b := by
  unfold bJ
  rw [Int64.toBitVec_xor, BitVec.getLsbD_xor, m1J, BitVec.getLsbD_allOnes]
  simp [hb]
theorem bJ_and2 (v w : Int64) (b : Nat) : bJ (v &&& w) b = (bJ v b && bJ w b) := by
  unfold bJ
  rw [Int64.toBitVec_and, BitVec.getLsbD_and]
theorem bJ_or2 (v w : Int64) (b : Nat) : bJ (v ||| w) b = (bJ v b || bJ w b) := by
  unfold bJ
  rw [Int64.toBitVec_or, BitVec.getLsbD_or]
def stepc (P : Nat) (v : Int32) (w : Nat) (l : List Bool) : Option (List Bool) :=
  if v = -3 then (match l with | b :: r => some ((!b) :: r) | [] => none)
  else if v = -1 then (match l with | b :: a :: r => some ((a && b) :: r) | _ => none)
  else if v = -2 then (match l with | b :: a :: r => some ((a || b) :: r) | _ => none)
  else if v < nI P ∧ ¬ v < 0 then some (w.testBit (Int32.toNatClampNeg v) :: l) else none
def rn (P : Nat) (T : Sg) (w : Nat) : Nat → Option (List Bool)
  | 0 => some []
  | k + 1 => (rn P T w k).bind (stepc P (T.1 43 k) w)
theorem rn_ext {P : Nat} {T T' : Sg} (w : Nat) : ∀ c, (∀ k, k < c → T'.1 43 k = T.1 43 k) → rn P T' w c = rn P T w c := by
  intro c
  induction c with
  | zero => intro _; rfl
  | succ c ih =>
    intro h
    show (rn P T' w c).bind (stepc P (T'.1 43 c) w) = (rn P T w c).bind (stepc P (T.1 43 c) w)
    rw [ih (fun k hk => h k (by omega)), h c (by omega)]
theorem stepc_up {P P' : Nat} (hP : P ≤ P') (h31 : P' < 2 ^ 31) {v : Int32} {w : Nat} {l r : List Bool} (h : stepc P v w l = some r) : stepc P' v w l = some r := by
  unfold stepc at *
  by_cases h1 : v = -3
  · rw [if_pos h1] at *; exact h
  · rw [if_neg h1] at *
    by_cases h2 : v = -1
    · rw [if_pos h2] at *; exact h
    · rw [if_neg h2] at *
      by_cases h3 : v = -2
      · rw [if_pos h3] at *; exact h
      · rw [if_neg h3] at *
        by_cases h4 : v < nI P ∧ ¬ v < 0
        · rw [if_pos h4] at h
          have h5 : v < nI P' := by
            rcases ixc v P (by omega) with z | ⟨_, z⟩ | ⟨j, hj, rfl⟩
            · exact absurd z h4.2
            · exact absurd h4.1 (Int32.not_lt.mpr z)
            · rw [nI_ltI (by omega) (by omega)]; omega
          rw [if_pos ⟨h5, h4.2⟩]; exact h
        · rw [if_neg h4] at h; exact absurd h (by simp)
theorem rn_up {P P' : Nat} (hP : P ≤ P') (h31 : P' < 2 ^ 31) {T : Sg} {w : Nat} : ∀ (c : Nat) (r : List Bool), rn P T w c = some r → rn P' T w c = some r := by
  intro c
  induction c with
  | zero => intro r h; exact h
  | succ c ih =>
    intro r h
    have h' : (rn P T w c).bind (stepc P (T.1 43 c) w) = some r := h
    show (rn P' T w c).bind (stepc P' (T.1 43 c) w) = some r
    cases hx : rn P T w c with
    | none => rw [hx] at h'; exact absurd h' (by simp)
    | some l =>
      rw [hx] at h'
      rw [ih l hx]
      exact stepc_up hP h31 h'
def pl (P : Nat) (T : Sg) (c : Nat) (vs : List Int64) : Prop := T.1 34 13 = nI c ∧ ∀ w, w < 64 → rn P T w c = some (vs.map (fun v => bJ v w))
theorem pl_up {P P' : Nat} {T : Sg} {c : Nat} {vs : List Int64} (hP : P ≤ P') (h31 : P' < 2 ^ 31) (h : pl P T c vs) : pl P' T c vs := ⟨h.1, fun w hw => rn_up hP h31 c _ (h.2 w hw)⟩
theorem pl_f {P : Nat} {T T' : Sg} {c : Nat} {vs : List Int64} (h : pl P T c vs) (h1 : T'.1 43 = T.1 43) (h2 : T'.1 34 13 = T.1 34 13) : pl P T' c vs := ⟨by rw [h2]; exact h.1, fun w hw => by rw [rn_ext (T := T) (T' := T') w c (fun k _ => by rw [h1])]; exact h.2 w hw⟩
def saysT (x : Int32) (c : Nat) (T : Sg) : Sg := sI (sI T 43 c x) 34 13 (nI (c + 1))
theorem says_eq {T : Sg} {c : Nat} (x : Int32) (h : T.1 34 13 = nI c) (hc : c < 400) : f_X10_says x T = some (saysT x c T) := by
  unfold f_X10_says
  rw [h, ck_nI (by omega) (by decide), nI_clamp (by omega), vl_d, sI_id _ _ _ (by decide), h, nI_1, vl_d]
  rfl
theorem says_id (x : Int32) (c : Nat) (T : Sg) {id : Nat} (h1 : id ≠ 34) (h2 : id ≠ 43) : (saysT x c T).1 id = T.1 id := by
  unfold saysT
  rw [sI_id _ _ _ h1, sI_id _ _ _ h2]
theorem says_34 (x : Int32) (c : Nat) (T : Sg) {b : Nat} (h : b ≠ 13) : (saysT x c T).1 34 b = T.1 34 b := by
  unfold saysT
  rw [sI_ne _ _ (Or.inr h), sI_id _ _ _ (by decide)]
theorem pl_says {P : Nat} {T : Sg} {c : Nat} {vs ws : List Int64} {x : Int32} (h : pl P T c vs) (hs : ∀ w, w < 64 → stepc P x w (vs.map (fun v => bJ v w)) = some (ws.map (fun v => bJ v w))) : pl P (saysT x c T) (c + 1) ws := by
  refine ⟨sI_at _ _ _ _, fun w hw => ?_⟩
  show (rn P (saysT x c T) w c).bind (stepc P ((saysT x c T).1 43 c) w) = _
  have e1 : (saysT x c T).1 43 c = x := by
    unfold saysT
    rw [sI_id _ _ _ (by decide), sI_at]
  have e2 : rn P (saysT x c T) w c = rn P T w c := rn_ext w c (fun k hk => by unfold saysT; rw [sI_id _ _ _ (by decide), sI_ne _ _ (Or.inr (by omega))])
  rw [e1, e2, h.2 w hw]
  exact hs w hw
theorem st_part {q P : Nat} (hq : q < 6) (hP : q < P) (h31 : P < 2 ^ 31) (vs : List Int64) {w : Nat} (hw : w < 64) : stepc P (nI q) w (vs.map (fun v => bJ v w)) = some ((tru q :: vs).map (fun v => bJ v w)) := by
  have e : ∀ q, q < 6 → ¬ nI q = -3 ∧ ¬ nI q = -1 ∧ ¬ nI q = -2 ∧ (Int32.toNatClampNeg (nI q) = q) ∧ ¬ nI q < 0 := by decide +kernel
  obtain ⟨e1, e2, e3, e4, e5⟩ := e q hq
  unfold stepc
  rw [if_neg e1, if_neg e2, if_neg e3, e4, if_pos ⟨by rw [nI_ltI (by omega) (by omega)]; exact hP, e5⟩, List.map_cons, bJ_tru q hq w hw]
theorem st_not {P : Nat} (v : Int64) (vs : List Int64) {w : Nat} (hw : w < 64) : stepc P (-3) w ((v :: vs).map (fun v => bJ v w)) = some (((v ^^^ (-1 : Int64)) :: vs).map (fun v => bJ v w)) := by
  unfold stepc
  rw [if_pos rfl, List.map_cons, List.map_cons, bJ_not v hw]
theorem st_and {P : Nat} (u v : Int64) (vs : List Int64) {w : Nat} (hw : w < 64) : stepc P (-1) w ((v :: u :: vs).map (fun v => bJ v w)) = some (((u &&& v) :: vs).map (fun v => bJ v w)) := by
  unfold stepc
  rw [if_neg (by decide), if_pos rfl, List.map_cons, List.map_cons, List.map_cons, bJ_and2]
theorem st_or {P : Nat} (u v : Int64) (vs : List Int64) {w : Nat} (hw : w < 64) : stepc P (-2) w ((v :: u :: vs).map (fun v => bJ v w)) = some (((u ||| v) :: vs).map (fun v => bJ v w)) := by
  unfold stepc
  rw [if_neg (by decide), if_neg (by decide), if_pos rfl, List.map_cons, List.map_cons, List.map_cons, bJ_or2]
/-- a part that has been read, in both -/
def pv (S T : Sg) (q : Nat) : Prop := ∃ (sc : Nat) (e : Bool), S.1 6 q = nI sc ∧ T.1 37 q = nI sc ∧ sc ≤ 30 ∧ (∀ k, k < sc → S.1 11 (30 * q + k) = T.1 42 (30 * q + k)) ∧ (∀ x, x < 4 → ∀ k, bt (S.1 10 (4 * q + x)) k = (decide (k < sc) && bt (T.1 41 (30 * q + k)) x)) ∧ S.1 9 q = bI e ∧ T.1 38 q = bI e ∧ S.1 7 q = T.1 39 q ∧ S.1 8 q = T.1 40 q
def bsim (n : Nat) (tx : Nat → Nat) (S T : Sg) (a P : Nat) : Prop := tC n tx S a ∧ tM n tx T a ∧ S.1 3 4 = 0 ∧ S.1 3 5 = -1 ∧ T.1 34 4 = 0 ∧ T.1 34 5 = -1 ∧ S.1 5 0 = nI P ∧ T.1 34 6 = nI P ∧ P ≤ 6 ∧ (∀ q, q < P → pv S T q) ∧ a ≤ n ∧ ∃ b : Bool, S.1 3 8 = bI b
def gCl (S S' : Sg) : Prop := S'.2 = S.2 ∧ (∀ id, id < 3 ∨ 11 < id ∨ id = 4 → S'.1 id = S.1 id) ∧ S'.1 3 1 = S.1 3 1
abbrev k34 (b : Nat) : Prop := b ≠ 4 ∧ b ≠ 5 ∧ b ≠ 6 ∧ b ≠ 13 ∧ b ≠ 27 ∧ b ≠ 28 ∧ b ≠ 29 ∧ b ≠ 37 ∧ b ≠ 38 ∧ b ≠ 39 ∧ b ≠ 43
def gMl (T T' : Sg) : Prop := T'.2 = T.2 ∧ (∀ id, id ≠ 34 → id < 37 ∨ 43 < id → id < 55 ∨ 65 < id → T'.1 id = T.1 id) ∧ ∀ b, k34 b → T'.1 34 b = T.1 34 b
def rwF (o l : Nat) (T T' : Sg) : Prop := (∀ k, k < o → T'.1 62 k = T.1 62 k) ∧ ∀ k, k < l → T'.1 63 k = T.1 63 k ∧ T'.1 64 k = T.1 64 k
theorem gCl_r (S : Sg) : gCl S S := ⟨rfl, fun _ _ => rfl, rfl⟩
theorem gCl_t {S S' S'' : Sg} (h : gCl S S') (g : gCl S' S'') : gCl S S'' := ⟨by rw [g.1, h.1], fun id hid => by rw [g.2.1 id hid, h.2.1 id hid], by rw [g.2.2, h.2.2]⟩
theorem gMl_r (T : Sg) : gMl T T := ⟨rfl, fun _ _ _ _ => rfl, fun _ _ => rfl⟩
theorem gMl_t {T T' T'' : Sg} (h : gMl T T') (g : gMl T' T'') : gMl T T'' := ⟨by rw [g.1, h.1], fun id a b c => by rw [g.2.1 id a b c, h.2.1 id a b c], fun b hb => by rw [g.2.2 b hb, h.2.2 b hb]⟩
theorem rwF_r (o l : Nat) (T : Sg) : rwF o l T T := ⟨fun _ _ => rfl, fun _ _ => ⟨rfl, rfl⟩⟩
theorem rwF_t {o l : Nat} {T T' T'' : Sg} (h : rwF o l T T') (g : rwF o l T' T'') : rwF o l T T'' := ⟨fun k hk => by rw [g.1 k hk, h.1 k hk], fun k hk => ⟨by rw [(g.2 k hk).1, (h.2 k hk).1], by rw [(g.2 k hk).2, (h.2 k hk).2]⟩⟩
theorem rwF_le {o l o' l' : Nat} {T T' : Sg} (h : rwF o l T T') (h1 : o' ≤ o) (h2 : l' ≤ l) : rwF o' l' T T' := ⟨fun k hk => h.1 k (by omega), fun k hk => h.2 k (by omega)⟩
theorem rwF_id {o l : Nat} {T T' : Sg} (h1 : T'.1 62 = T.1 62) (h2 : T'.1 63 = T.1 63) (h3 : T'.1 64 = T.1 64) : rwF o l T T' := ⟨fun k _ => by rw [h1], fun k _ => ⟨by rw [h2], by rw [h3]⟩⟩
theorem gCl_f {p : Nat} {S S' : Sg} (h : fC p S S') : gCl S S' := ⟨h.1, fun id hid => h.2.1 id (by omega) (by omega) (by omega) (by omega), h.2.2.1⟩
theorem gMl_f {p D : Nat} {T T' : Sg} (h : fM p D T T') : gMl T T' := ⟨h.1, fun id a b c => h.2.1 id a (by omega) (by omega) (by omega) (by omega), fun b hb => h.2.2.1 b hb.1 hb.2.1 hb.2.2.2.2.1 hb.2.2.2.2.2.1 hb.2.2.2.2.2.2.2.1 hb.2.2.2.2.2.2.2.2.1 hb.2.2.2.2.2.2.2.2.2.1⟩
theorem rwF_f {p D o l : Nat} {T T' : Sg} (h : fM p D T T') : rwF o l T T' := rwF_id (h.2.1 62 (by decide) (by decide) (by decide) (by decide) (by omega)) (h.2.1 63 (by decide) (by decide) (by decide) (by decide) (by omega)) (h.2.1 64 (by decide) (by decide) (by decide) (by decide) (by omega))
theorem gMl_34 {T T' : Sg} (h : T'.2 = T.2) (h1 : ∀ id, id ≠ 34 → T'.1 id = T.1 id) (h2 : ∀ b, k34 b → T'.1 34 b = T.1 34 b) : gMl T T' := ⟨h, fun id a _ _ => h1 id a, h2⟩
theorem gMl_says (x : Int32) (c : Nat) (T : Sg) : gMl T (saysT x c T) := ⟨rfl, fun id a b _ => says_id x c T a (by omega), fun b hb => says_34 x c T hb.2.2.2.1⟩
theorem pv_f {S S' T T' : Sg} {q : Nat} (h : pv S T q) (c6 : S'.1 6 q = S.1 6 q) (c7 : S'.1 7 q = S.1 7 q) (c8 : S'.1 8 q = S.1 8 q) (c9 : S'.1 9 q = S.1 9 q) (c10 : ∀ x, x < 4 → S'.1 10 (4 * q + x) = S.1 10 (4 * q + x)) (c11 : ∀ k, k < 30 → S'.1 11 (30 * q + k) = S.1 11 (30 * q + k)) (m37 : T'.1 37 q = T.1 37 q) (m38 : T'.1 38 q = T.1 38 q) (m39 : T'.1 39 q = T.1 39 q) (m40 : T'.1 40 q = T.1 40 q) (m4 : ∀ k, k < 30 → T'.1 41 (30 * q + k) = T.1 41 (30 * q + k) ∧ T'.1 42 (30 * q + k) = T.1 42 (30 * q + k)) : pv S' T' q := by
  obtain ⟨sc, e, h1, h2, h3, h4, h5, h6, h7, h8, h9⟩ := h
  refine ⟨sc, e, by rw [c6, h1], by rw [m37, h2], h3, fun k hk => by rw [c11 k (by omega), (m4 k (by omega)).2, h4 k hk], fun x hx k => ?_, by rw [c9, h6], by rw [m38, h7], by rw [c7, m39, h8], by rw [c8, m40, h9]⟩
  rw [c10 x hx, h5 x hx k]
  by_cases hk : k < sc
  · rw [(m4 k (by omega)).1]
  · rw [decide_eq_false hk, Bool.false_and, Bool.false_and]
theorem bsim_M {n : Nat} {tx : Nat → Nat} {S T T' : Sg} {a P : Nat} (h : bsim n tx S T a P) (h1 : ∀ id, 36 ≤ id → id ≤ 42 → T'.1 id = T.1 id) (h3 : T'.1 34 3 = T.1 34 3) (h4 : T'.1 34 4 = T.1 34 4) (h5 : T'.1 34 5 = T.1 34 5) (h6 : T'.1 34 6 = T.1 34 6) (h27 : T'.1 34 27 = T.1 34 27) : bsim n tx S T' a P := by
  obtain ⟨t, ⟨m1, m2, m3⟩, c1, c2, d1, d2, e1, e2, e3, e4, e5, e6⟩ := h
  refine ⟨t, ⟨by rw [h3, m1], by rw [h27, m2], fun k hk => by rw [h1 36 (by omega) (by omega)]; exact m3 k hk⟩, c1, c2, by rw [h4, d1], by rw [h5, d2], e1, by rw [h6, e2], e3, fun q hq => ?_, e5, e6⟩
  exact pv_f (e4 q hq) rfl rfl rfl rfl (fun _ _ => rfl) (fun _ _ => rfl) (by rw [h1 37 (by omega) (by omega)]) (by rw [h1 38 (by omega) (by omega)]) (by rw [h1 39 (by omega) (by omega)]) (by rw [h1 40 (by omega) (by omega)]) (fun k _ => ⟨by rw [h1 41 (by omega) (by omega)], by rw [h1 42 (by omega) (by omega)]⟩)
theorem bsim_at {n : Nat} {tx : Nat → Nat} {S T : Sg} {a b P : Nat} (h : bsim n tx S T a P) (hb : b ≤ n) : bsim n tx (sI S 3 2 (nI b)) (sI T 34 27 (nI b)) b P := by
  obtain ⟨t, m, c1, c2, d1, d2, e1, e2, e3, e4, e5, e6⟩ := h
  have f3 : ∀ i, i ≠ 2 → (sI S 3 2 (nI b)).1 3 i = S.1 3 i := fun i hi => sI_ne _ _ (Or.inr hi)
  have f34 : ∀ i, i ≠ 27 → (sI T 34 27 (nI b)).1 34 i = T.1 34 i := fun i hi => sI_ne _ _ (Or.inr hi)
  have i3 : ∀ id, id ≠ 3 → (sI S 3 2 (nI b)).1 id = S.1 id := fun id hid => sI_id _ _ _ hid
  have i34 : ∀ id, id ≠ 34 → (sI T 34 27 (nI b)).1 id = T.1 id := fun id hid => sI_id _ _ _ hid
  refine ⟨tC_at t b, tM_at m b, by rw [f3 4 (by decide)]; exact c1, by rw [f3 5 (by decide)]; exact c2, by rw [f34 4 (by decide)]; exact d1, by rw [f34 5 (by decide)]; exact d2, by rw [i3 5 (by decide)]; exact e1, by rw [f34 6 (by decide)]; exact e2, e3, fun q hq => ?_, hb, by rw [f3 8 (by decide)]; exact e6⟩
  exact pv_f (e4 q hq) (by rw [i3 6 (by decide)]) (by rw [i3 7 (by decide)]) (by rw [i3 8 (by decide)]) (by rw [i3 9 (by decide)]) (fun _ _ => by rw [i3 10 (by decide)]) (fun _ _ => by rw [i3 11 (by decide)]) (by rw [i34 37 (by decide)]) (by rw [i34 38 (by decide)]) (by rw [i34 39 (by decide)]) (by rw [i34 40 (by decide)]) (fun k _ => ⟨by rw [i34 41 (by decide)], by rw [i34 42 (by decide)]⟩)
