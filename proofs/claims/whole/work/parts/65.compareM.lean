section PAIRS
variable {N1 N2 : Nat} {d1 d2 : Nat → Nat → Nat} {acc1 acc2 : Nat → Bool}
def pairOf (d1 d2 : Nat → Nat → Nat) (w : List Nat) : Nat := 150 * runA d1 0 w + runA d2 0 w
theorem run_snoc (d : Nat → Nat → Nat) (w : List Nat) (x k : Nat) : runA d k (w ++ [x]) = d (runA d k w) x := by rw [run_app]; rfl
theorem pair_ok (o1 : autOk N1 d1) (o2 : autOk N2 d2) {w : List Nat} (hw : let4 w) : pairOf d1 d2 w / 150 = runA d1 0 w ∧ pairOf d1 d2 w % 150 = runA d2 0 w := by
  have h2 := run_lt o2.2.2 w 0 (by have := o2.1; omega) hw
  have b2 := o2.2.1
  unfold pairOf
  generalize runA d1 0 w = a
  generalize runA d2 0 w = b at h2
  omega
theorem pair_snoc (o1 : autOk N1 d1) (o2 : autOk N2 d2) {w : List Nat} (hw : let4 w) (x : Nat) : pairOf d1 d2 (w ++ [x]) = stp d1 d2 (pairOf d1 d2 w) x := by
  obtain ⟨e1, e2⟩ := pair_ok o1 o2 hw
  unfold stp
  rw [e1, e2]
  unfold pairOf
  rw [run_snoc, run_snoc]
theorem let4_snoc {w : List Nat} {x : Nat} (hw : let4 w) (hx : x < 4) : let4 (w ++ [x]) := let4_app hw (fun y hy => by simp at hy; omega)
/-- the word of entry i -/
def wrd (fr by_ : Nat → Nat) (i : Nat) : List Nat := (rp fr by_ i).reverse
theorem bfs_par {c t : Nat} {q fr by_ : Nat → Nat} (h : bfs N1 N2 d1 d2 c t q fr by_) : par fr by_ c := fun k h0 h1 => ⟨(h.2.2.1 k h0 h1).1, (h.2.2.1 k h0 h1).2.1⟩
theorem rp_let {fr by_ : Nat → Nat} {c : Nat} (hp : par fr by_ c) : ∀ (b i : Nat), i ≤ b → i < c → let4 (rp fr by_ i) := by
  intro b
  induction b with
  | zero =>
    intro i h1 _
    have : i = 0 := by omega
    subst this
    intro x hx
    cases hx
  | succ b ih =>
    intro i h1 h2
    by_cases h0 : i = 0
    · subst h0; intro x hx; cases hx
    · have h3 := hp i (by omega) h2
      rw [rp_s hp (by omega) h2]
      intro x hx
      rcases List.mem_cons.mp hx with rfl | hx
      · exact h3.2
      · exact ih (fr i) (by omega) (by omega) x hx
theorem bfs_word (o1 : autOk N1 d1) (o2 : autOk N2 d2) {c t : Nat} {q fr by_ : Nat → Nat} (h : bfs N1 N2 d1 d2 c t q fr by_) : ∀ (b i : Nat), i ≤ b → i < c → let4 (wrd fr by_ i) ∧ pairOf d1 d2 (wrd fr by_ i) = q i := by
  have hp := bfs_par h
  intro b
  induction b with
  | zero =>
    intro i h1 h2
    have : i = 0 := by omega
    subst this
    exact ⟨fun x hx => (by cases hx), h.1.2.symm⟩
  | succ b ih =>
    intro i h1 h2
    by_cases h0 : i = 0
    · subst h0; exact ⟨fun x hx => (by cases hx), h.1.2.symm⟩
    · obtain ⟨u1, u2, u3, -⟩ := h.2.2.1 i (by omega) h2
      obtain ⟨v1, v2⟩ := ih (fr i) (by omega) (by omega)
      have e : wrd fr by_ i = wrd fr by_ (fr i) ++ [by_ i] := by
        unfold wrd
        rw [rp_s hp (by omega) h2, List.reverse_cons]
      rw [e]
      exact ⟨let4_snoc v1 u2, by rw [pair_snoc o1 o2 v1, v2, u3]⟩
theorem bfs_all (o1 : autOk N1 d1) (o2 : autOk N2 d2) {c : Nat} {q fr by_ : Nat → Nat} (h : bfs N1 N2 d1 d2 c (4 * c) q fr by_) : ∀ (l : Nat) (w : List Nat), w.length = l → let4 w → ∃ i, i < c ∧ q i = pairOf d1 d2 w := by
  intro l
  induction l with
  | zero =>
    intro w hl _
    have : w = [] := List.eq_nil_of_length_eq_zero hl
    subst this
    exact ⟨0, by have := h.1.1; omega, h.1.2⟩
  | succ l ih =>
    intro w hl hw
    have hne : w ≠ [] := fun e => by subst e; cases hl
    have e := List.dropLast_concat_getLast hne
    have hw1 : let4 w.dropLast := let4_sub hw (fun x hx => by rw [← e]; exact List.mem_append_left _ hx)
    have hx := hw _ (List.getLast_mem hne)
    obtain ⟨i, hi, ei⟩ := ih w.dropLast (by rw [List.length_dropLast]; omega) hw1
    obtain ⟨j, hj, ej, -⟩ := h.2.2.2.2.2 i (w.getLast hne) hx hi (by omega)
    refine ⟨j, hj, ?_⟩
    rw [ej, ei, ← pair_snoc o1 o2 hw1, e]
/-- some word is meant by the first alone, by the second alone -/
def onlyA (d1 d2 : Nat → Nat → Nat) (acc1 acc2 : Nat → Bool) : Prop := ∃ w, let4 w ∧ acc1 (runA d1 0 w) = true ∧ acc2 (runA d2 0 w) = false
def cv (a b : Bool) : Int32 := if a then (if b then 3 else 1) else (if b then 2 else 0)
def tv2 (A B : Prop) (v : Int32) : Prop := ∃ a b : Bool, (a = true ↔ A) ∧ (b = true ↔ B) ∧ v = cv a b
theorem cv_1 (a b : Bool) : cv a b ||| 1 = cv true b := by cases a <;> cases b <;> decide +kernel
theorem cv_2 (a b : Bool) : cv a b ||| 2 = cv a true := by cases a <;> cases b <;> decide +kernel
theorem cv_0 (a b : Bool) : cv a b ||| 0 = cv a b := by cases a <;> cases b <;> decide +kernel
theorem tv2_cg {A B A' B' : Prop} {v : Int32} (h : tv2 A B v) (hA : A ↔ A') (hB : B ↔ B') : tv2 A' B' v := by
  obtain ⟨a, b, h1, h2, h3⟩ := h
  exact ⟨a, b, h1.trans hA, h2.trans hB, h3⟩
theorem tv2_un {A B : Prop} {v w : Int32} (h : tv2 A B v) (h' : tv2 A B w) : v = w := by
  obtain ⟨a, b, h1, h2, h3⟩ := h
  obtain ⟨a', b', h1', h2', h3'⟩ := h'
  have ea : a = a' := by
    cases a <;> cases a' <;> simp at h1 h1' <;> first | rfl | (exact absurd h1' h1) | (exact absurd h1 h1')
  have eb : b = b' := by
    cases b <;> cases b' <;> simp at h2 h2' <;> first | rfl | (exact absurd h2' h2) | (exact absurd h2 h2')
  rw [h3, h3', ea, eb]
/-- one pair more -/
def pA (acc1 acc2 : Nat → Bool) (p : Nat) : Prop := acc1 (p / 150) = true ∧ acc2 (p % 150) = false
theorem tv2_add {A B : Prop} {v : Int32} {x y : Bool} (h : tv2 A B v) : tv2 (A ∨ (x = true ∧ y = false)) (B ∨ (y = true ∧ x = false)) (v ||| (if x = true ∧ y = false then 1 else if y = true ∧ x = false then 2 else 0)) := by
  obtain ⟨a, b, h1, h2, rfl⟩ := h
  cases x <;> cases y
  · exact ⟨a, b, by simp [h1], by simp [h2], by simp [cv_0]⟩
  · exact ⟨a, true, by simp [h1], by simp, by simp [cv_2]⟩
  · exact ⟨true, b, by simp, by simp [h2], by simp [cv_1]⟩
  · exact ⟨a, b, by simp [h1], by simp [h2], by simp [cv_0]⟩
variable {s1 s2 : Nat}
theorem cmpM {S : Sg} {c t : Nat} {q fr by_ : Nat → Nat} (o1 : autOk N1 d1) (o2 : autOk N2 d2) (h1 : s1 < 4) (h2 : s2 < 4) (m1 : autM S s1 N1 d1 acc1) (m2 : autM S s2 N2 d2 acc2) (hb : bfs N1 N2 d1 d2 c t q fr by_) (hS : bfsS S c q fr by_) : ∀ (r i fl : Nat) (v : Int32), i + r = c → r + 1 ≤ fl → tv2 (∃ j, j < i ∧ pA acc1 acc2 (q j)) (∃ j, j < i ∧ acc2 (q j % 150) = true ∧ acc1 (q j / 150) = false) v → ∃ v', f_X10_compare_L29 fl (nI s1) (nI s2) v (nI i) S = some (v', S) ∧ tv2 (∃ j, j < c ∧ pA acc1 acc2 (q j)) (∃ j, j < c ∧ acc2 (q j % 150) = true ∧ acc1 (q j / 150) = false) v' := by
  have b1 := o1.2.1
  have b2 := o2.2.1
  have hcb := c_bound hb
  intro r
  induction r with
  | zero =>
    intro i fl v hi hfl hv
    obtain ⟨f, rfl⟩ : ∃ f, fl = f + 1 := ⟨fl - 1, by omega⟩
    have : i = c := by omega
    subst this
    refine ⟨v, ?_, hv⟩
    rw [f_X10_compare_L29, hS.1, if_pos (by rw [nI_leI (by omega) (by omega)]; omega)]
  | succ r ih =>
    intro i fl v hi hfl hv
    obtain ⟨f, rfl⟩ : ∃ f, fl = f + 1 := ⟨fl - 1, by omega⟩
    obtain ⟨p1, p2⟩ := hb.2.1 i (by omega)
    have hdm := dm150 (a := q i) (by omega)
    have hnew := tv2_add (x := acc1 (q i / 150)) (y := acc2 (q i % 150)) hv
    obtain ⟨v', e, g⟩ := ih (i + 1) f _ (by omega) (by omega) (tv2_cg hnew (by
      constructor
      · rintro (⟨j, hj, z⟩ | z)
        · exact ⟨j, by omega, z⟩
        · exact ⟨i, by omega, z⟩
      · rintro ⟨j, hj, z⟩
        rcases (show j < i ∨ j = i by omega) with y | rfl
        · exact Or.inl ⟨j, y, z⟩
        · exact Or.inr z) (by
      constructor
      · rintro (⟨j, hj, z⟩ | z)
        · exact ⟨j, by omega, z⟩
        · exact ⟨i, by omega, z⟩
      · rintro ⟨j, hj, z⟩
        rcases (show j < i ∨ j = i by omega) with y | rfl
        · exact Or.inl ⟨j, y, z⟩
        · exact Or.inr z))
    refine ⟨v', ?_, g⟩
    rw [← e, f_X10_compare_L29, hS.1, if_neg (by rw [nI_leI (by omega) (by omega)]; omega), ck_nI (by omega) (by decide), nz150, nI_clamp (by omega), hS.2.1 i (by omega), hdm.1, isAcc_eq h1 (by have := p1.1; omega) (m1.2.2 _ p1.1), bd2_some, vl_d, ck_nI (by omega) (by decide), nz150, hS.2.1 i (by omega), hdm.2, isAcc_eq h2 (by have := p1.2; omega) (m2.2.2 _ p1.2), bd2_some, vl_d]
    unfold f_X10_compare_L89
    cases acc1 (q i / 150) <;> cases acc2 (q i % 150) <;> simp [bI, vl_d, nI_1]
theorem compareM_eq {S : Sg} (o1 : autOk N1 d1) (o2 : autOk N2 d2) (h1 : s1 < 4) (h2 : s2 < 4) (m1 : autM S s1 N1 d1 acc1) (m2 : autM S s2 N2 d2 acc2) : ∃ v S', f_X10_compare (nI s1) (nI s2) S = some (v, S') ∧ frW S S' ∧ tv2 (onlyA d1 d2 acc1 acc2) (onlyA d2 d1 acc2 acc1) v := by
  obtain ⟨S', c, q, fr, by_, e, w1, w2, w3⟩ := walks_eq o1 o2 h1 h2 m1 m2
  have hcb := c_bound w2
  obtain ⟨v, e2, g⟩ := cmpM o1 o2 h1 h2 (autM_W m1 w1) (autM_W m2 w1) w2 w3 c 0 fu 0 (by omega) (by unfold fu; omega) ⟨false, false, by simp, by simp, rfl⟩
  refine ⟨v, S', ?_, w1, tv2_cg g ?_ ?_⟩
  · unfold f_X10_compare
    rw [has_ok h1 m1.1 o1.1 o1.2.1, bd2_some, if_neg n10, has_ok h2 m2.1 o2.1 o2.2.1, bd2_some, if_neg n10, e, bd_some, vl_d, vl_d]
    rw [← k_0] at e2
    exact e2
  · constructor
    · rintro ⟨j, hj, z1, z2⟩
      obtain ⟨u1, u2⟩ := bfs_word o1 o2 w2 j j (Nat.le_refl _) hj
      obtain ⟨e1, e2⟩ := pair_ok o1 o2 u1
      rw [← u2] at z1 z2
      exact ⟨_, u1, by rw [← e1]; exact z1, by rw [← e2]; exact z2⟩
    · rintro ⟨w, u1, z1, z2⟩
      obtain ⟨j, hj, ej⟩ := bfs_all o1 o2 w2 w.length w rfl u1
      obtain ⟨e1, e2⟩ := pair_ok o1 o2 u1
      refine ⟨j, hj, ?_, ?_⟩
      · rw [ej, e1]; exact z1
      · rw [ej, e2]; exact z2
  · constructor
    · rintro ⟨j, hj, z1, z2⟩
      obtain ⟨u1, u2⟩ := bfs_word o1 o2 w2 j j (Nat.le_refl _) hj
      obtain ⟨e1, e2⟩ := pair_ok o1 o2 u1
      rw [← u2] at z1 z2
      exact ⟨_, u1, by rw [← e2]; exact z1, by rw [← e1]; exact z2⟩
    · rintro ⟨w, u1, z1, z2⟩
      obtain ⟨j, hj, ej⟩ := bfs_all o1 o2 w2 w.length w rfl u1
      obtain ⟨e1, e2⟩ := pair_ok o1 o2 u1
      refine ⟨j, hj, ?_, ?_⟩
      · rw [ej, e2]; exact z1
      · rw [ej, e1]; exact z2
end PAIRS
