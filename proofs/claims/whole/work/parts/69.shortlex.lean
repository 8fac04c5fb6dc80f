/-- words in their order: the shorter first, then letter by letter -/
def num (w : List Nat) : Nat := w.foldl (fun a x => 4 * a + x + 1) 0
theorem num_snoc (w : List Nat) (x : Nat) : num (w ++ [x]) = 4 * num w + x + 1 := by
  unfold num
  rw [List.foldl_append]
  rfl
theorem num_app_lt : ∀ (v a b : List Nat), num a < num b → num (a ++ v) < num (b ++ v) := by
  intro v
  induction v with
  | nil => intro a b h; rw [List.append_nil, List.append_nil]; exact h
  | cons x v ih =>
    intro a b h
    have := ih (a ++ [x]) (b ++ [x]) (by rw [num_snoc, num_snoc]; omega)
    rw [List.append_assoc, List.append_assoc] at this
    exact this
theorem num_inj : ∀ (l : Nat) (u w : List Nat), u.length = l → let4 u → let4 w → num u = num w → u = w := by
  intro l
  induction l with
  | zero =>
    intro u w hl hu hw e
    have : u = [] := List.eq_nil_of_length_eq_zero hl
    subst this
    rcases List.eq_nil_or_concat w with rfl | ⟨v, x, rfl⟩
    · rfl
    · rw [List.concat_eq_append, num_snoc] at e
      have : num [] = 0 := rfl
      omega
  | succ l ih =>
    intro u w hl hu hw e
    rcases List.eq_nil_or_concat u with rfl | ⟨u', x, rfl⟩
    · cases hl
    · rcases List.eq_nil_or_concat w with rfl | ⟨v, y, rfl⟩
      · rw [List.concat_eq_append, num_snoc] at e
        have : num [] = 0 := rfl
        omega
      · rw [List.concat_eq_append] at hl hu e ⊢
        rw [List.concat_eq_append] at hw e ⊢
        rw [num_snoc, num_snoc] at e
        have hx : x < 4 := hu x (List.mem_append_right _ (List.mem_singleton.mpr rfl))
        have hy : y < 4 := hw y (List.mem_append_right _ (List.mem_singleton.mpr rfl))
        have e1 : num u' = num v := by omega
        have e2 : x = y := by omega
        rw [List.length_append] at hl
        have := ih u' v (by simp at hl; omega) (let4_sub hu (fun z hz => List.mem_append_left _ hz)) (let4_sub hw (fun z hz => List.mem_append_left _ hz)) e1
        rw [this, e2]
theorem num_le_app : ∀ (v a : List Nat), num a ≤ num (a ++ v) := by
  intro v
  induction v with
  | nil => intro a; rw [List.append_nil]; exact Nat.le_refl _
  | cons x v ih =>
    intro a
    have := ih (a ++ [x])
    rw [num_snoc, List.append_assoc] at this
    have e : a ++ ([x] ++ v) = a ++ x :: v := rfl
    rw [e] at this
    omega
/-- entries in the order of their words -/
def ordd (c : Nat) (fr by_ : Nat → Nat) : Prop := par fr by_ c ∧ ∀ i j, 0 < i → i < j → j < c → 4 * fr i + by_ i < 4 * fr j + by_ j
theorem wrd_s {fr by_ : Nat → Nat} {c i : Nat} (h : par fr by_ c) (h0 : 0 < i) (h1 : i < c) : wrd fr by_ i = wrd fr by_ (fr i) ++ [by_ i] := by
  unfold wrd
  rw [rp_s h h0 h1, List.reverse_cons]
theorem wrd_0 (fr by_ : Nat → Nat) : wrd fr by_ 0 = [] := rfl
theorem num_wrd {fr by_ : Nat → Nat} {c i : Nat} (h : par fr by_ c) (h0 : 0 < i) (h1 : i < c) : num (wrd fr by_ i) = 4 * num (wrd fr by_ (fr i)) + by_ i + 1 := by rw [wrd_s h h0 h1, num_snoc]
theorem num_mono {c : Nat} {fr by_ : Nat → Nat} (h : ordd c fr by_) : ∀ (b i j : Nat), j ≤ b → i < j → j < c → num (wrd fr by_ i) < num (wrd fr by_ j) := by
  intro b
  induction b with
  | zero => intro i j h1 h2; omega
  | succ b ih =>
    intro i j h1 h2 h3
    have hpj := h.1 j (by omega) h3
    rw [num_wrd h.1 (by omega) h3]
    by_cases hi : i = 0
    · subst hi
      show 0 < _
      omega
    · have hpi := h.1 i (by omega) (by omega)
      rw [num_wrd h.1 (by omega) (by omega : i < c)]
      have hk := h.2 i j (by omega) h2 h3
      rcases (show fr i < fr j ∨ (fr i = fr j ∧ by_ i < by_ j) by omega) with z | ⟨z1, z2⟩
      · have := ih (fr i) (fr j) (by omega) z (by omega)
        omega
      · rw [z1]; omega
section DIFF
variable {N1 N2 : Nat} {d1 d2 : Nat → Nat → Nat} {acc1 acc2 : Nat → Bool}
def dif (d1 d2 : Nat → Nat → Nat) (acc1 acc2 : Nat → Bool) (w : List Nat) : Prop := acc1 (runA d1 0 w) ≠ acc2 (runA d2 0 w)
/-- the first word on which they differ -/
def isFirst (d1 d2 : Nat → Nat → Nat) (acc1 acc2 : Nat → Bool) (w : List Nat) : Prop := let4 w ∧ dif d1 d2 acc1 acc2 w ∧ ∀ u, let4 u → dif d1 d2 acc1 acc2 u → num w ≤ num u
theorem first_un {w u : List Nat} (hw : isFirst d1 d2 acc1 acc2 w) (hu : isFirst d1 d2 acc1 acc2 u) : w = u := num_inj w.length w u rfl hw.1 hu.1 (Nat.le_antisymm (hw.2.2 u hu.1 hu.2.1) (hu.2.2 w hw.1 hw.2.1))
theorem bfs_ord {c t : Nat} {q fr by_ : Nat → Nat} (h : bfs N1 N2 d1 d2 c t q fr by_) : ordd c fr by_ := ⟨bfs_par h, h.2.2.2.1⟩
theorem bfs_least (o1 : autOk N1 d1) (o2 : autOk N2 d2) {c : Nat} {q fr by_ : Nat → Nat} (h : bfs N1 N2 d1 d2 c (4 * c) q fr by_) : ∀ (l : Nat) (w : List Nat), w.length = l → let4 w → ∃ i, i < c ∧ q i = pairOf d1 d2 w ∧ num (wrd fr by_ i) ≤ num w := by
  intro l
  induction l with
  | zero =>
    intro w hl _
    have : w = [] := List.eq_nil_of_length_eq_zero hl
    subst this
    exact ⟨0, by have := h.1.1; omega, h.1.2, Nat.le_refl _⟩
  | succ l ih =>
    intro w hl hw
    rcases List.eq_nil_or_concat w with rfl | ⟨u, x, rfl⟩
    · cases hl
    · rw [List.concat_eq_append] at hl hw ⊢
      rw [List.length_append] at hl
      have hu : let4 u := let4_sub hw (fun z hz => List.mem_append_left _ hz)
      have hx : x < 4 := hw x (List.mem_append_right _ (List.mem_singleton.mpr rfl))
      obtain ⟨j, hj, ej, nj⟩ := ih u (by simp at hl; omega) hu
      obtain ⟨i, hi, ei, ki⟩ := h.2.2.2.2.2 j x hx hj (by omega)
      refine ⟨i, hi, by rw [ei, ej, pair_snoc o1 o2 hu], ?_⟩
      rw [num_snoc]
      by_cases h0 : i = 0
      · subst h0
        show 0 ≤ _
        omega
      · rcases ki with z | ki
        · exact absurd z h0
        · have hp := bfs_par h i (by omega) hi
          rw [num_wrd (bfs_par h) (by omega) hi]
          rcases (show fr i < j ∨ (fr i = j ∧ by_ i ≤ x) by omega) with z | ⟨z1, z2⟩
          · have := num_mono (bfs_ord h) j (fr i) j (Nat.le_refl _) z hj
            omega
          · rw [z1]; omega
/-- the reference: the first entry that differs has the first word -/
theorem first_M (o1 : autOk N1 d1) (o2 : autOk N2 d2) {c : Nat} {q fr by_ : Nat → Nat} (h : bfs N1 N2 d1 d2 c (4 * c) q fr by_) {k : Nat} (hk : k < c) (hd : acc1 (q k / 150) ≠ acc2 (q k % 150)) (hf : ∀ j, j < k → acc1 (q j / 150) = acc2 (q j % 150)) : isFirst d1 d2 acc1 acc2 (wrd fr by_ k) := by
  obtain ⟨u1, u2⟩ := bfs_word o1 o2 h k k (Nat.le_refl _) hk
  obtain ⟨e1, e2⟩ := pair_ok o1 o2 u1
  refine ⟨u1, ?_, fun u hu hdu => ?_⟩
  · unfold dif
    rw [← e1, ← e2, u2]
    exact hd
  · obtain ⟨j, hj, ej, nj⟩ := bfs_least o1 o2 h u.length u rfl hu
    obtain ⟨g1, g2⟩ := pair_ok o1 o2 hu
    have hjk : k ≤ j := by
      rcases Nat.lt_or_ge j k with z | z
      · exfalso
        apply hdu
        have := hf j z
        rw [ej, g1, g2] at this
        exact this
      · exact z
    rcases (show k = j ∨ k < j by omega) with rfl | z
    · exact nj
    · exact Nat.le_trans (Nat.le_of_lt (num_mono (bfs_ord h) j k j (Nat.le_refl _) z hj)) nj
theorem none_M (o1 : autOk N1 d1) (o2 : autOk N2 d2) {c : Nat} {q fr by_ : Nat → Nat} (h : bfs N1 N2 d1 d2 c (4 * c) q fr by_) (hf : ∀ j, j < c → acc1 (q j / 150) = acc2 (q j % 150)) (u : List Nat) (hu : let4 u) : ¬ dif d1 d2 acc1 acc2 u := by
  intro hdu
  obtain ⟨j, hj, ej⟩ := bfs_all o1 o2 h u.length u rfl hu
  obtain ⟨g1, g2⟩ := pair_ok o1 o2 hu
  apply hdu
  have := hf j hj
  rw [ej, g1, g2] at this
  exact this
/-- the class: entries, and pairs left out because earlier ones tie them -/
def vA (acc1 acc2 : Nat → Bool) (d1 d2 : Nat → Nat → Nat) (x : Nat) (v : List Nat) : Bool := if x < 150 then acc1 (runA d1 x v) else acc2 (runA d2 (x - 150) v)
def hk (N1 N2 : Nat) (d1 d2 : Nat → Nat → Nat) (acc1 acc2 : Nat → Bool) (c t : Nat) (lf rt fr by_ : Nat → Nat) : Prop :=
  (1 ≤ c ∧ lf 0 = 0 ∧ rt 0 = 0) ∧ (∀ i, i < c → lf i < N1 ∧ rt i < N2) ∧ (∀ i, 0 < i → i < c → fr i < i ∧ by_ i < 4 ∧ lf i = d1 (lf (fr i)) (by_ i) ∧ rt i = d2 (rt (fr i)) (by_ i) ∧ 4 * fr i + by_ i < t) ∧ (∀ i j, 0 < i → i < j → j < c → 4 * fr i + by_ i < 4 * fr j + by_ j) ∧ ∀ k x, x < 4 → k < c → 4 * k + x < t → (∃ i, 0 < i ∧ i < c ∧ fr i = k ∧ by_ i = x) ∨ ∀ v, (∀ i, i < c → (i = 0 ∨ 4 * fr i + by_ i < 4 * k + x) → acc1 (runA d1 (lf i) v) = acc2 (runA d2 (rt i) v)) → acc1 (runA d1 (d1 (lf k) x) v) = acc2 (runA d2 (d2 (rt k) x) v)
theorem hk_ord {c t : Nat} {lf rt fr by_ : Nat → Nat} (h : hk N1 N2 d1 d2 acc1 acc2 c t lf rt fr by_) : ordd c fr by_ := ⟨fun k h0 h1 => ⟨(h.2.2.1 k h0 h1).1, (h.2.2.1 k h0 h1).2.1⟩, h.2.2.2.1⟩
theorem hk_word {c t : Nat} {lf rt fr by_ : Nat → Nat} (h : hk N1 N2 d1 d2 acc1 acc2 c t lf rt fr by_) : ∀ (b i : Nat), i ≤ b → i < c → let4 (wrd fr by_ i) ∧ runA d1 0 (wrd fr by_ i) = lf i ∧ runA d2 0 (wrd fr by_ i) = rt i := by
  intro b
  induction b with
  | zero =>
    intro i h1 h2
    have : i = 0 := by omega
    subst this
    exact ⟨fun x hx => (by cases hx), h.1.2.1.symm, h.1.2.2.symm⟩
  | succ b ih =>
    intro i h1 h2
    by_cases h0 : i = 0
    · subst h0; exact ⟨fun x hx => (by cases hx), h.1.2.1.symm, h.1.2.2.symm⟩
    · obtain ⟨u1, u2, u3, u4, -⟩ := h.2.2.1 i (by omega) h2
      obtain ⟨v1, v2, v3⟩ := ih (fr i) (by omega) (by omega)
      rw [wrd_s (hk_ord h).1 (by omega) h2]
      exact ⟨let4_snoc v1 u2, by rw [run_snoc, v2, u3], by rw [run_snoc, v3, u4]⟩
/-- all that is before entry e (all entries: e = c) agrees: then a word that differs isn't before that of e -/
theorem hk_first {c t e : Nat} {lf rt fr by_ : Nat → Nat} (h : hk N1 N2 d1 d2 acc1 acc2 c t lf rt fr by_) (he : e ≤ c) (ht : 4 * e ≤ t) (hf : ∀ j, j < e → acc1 (lf j) = acc2 (rt j)) {u : List Nat} (hu : isFirst d1 d2 acc1 acc2 u) (hlt : e < c → num u < num (wrd fr by_ e)) : False := by
  have key : ∀ (l : Nat) (a b : List Nat), a.length = l → u = a ++ b → ∃ j, j < e ∧ wrd fr by_ j = a := by
    intro l
    induction l with
    | zero =>
      intro a b hl hab
      have : a = [] := List.eq_nil_of_length_eq_zero hl
      subst this
      refine ⟨0, ?_, rfl⟩
      rcases Nat.eq_zero_or_pos e with z | z
      · subst z
        have := hlt (by have := h.1.1; omega)
        rw [wrd_0] at this
        exact absurd this (Nat.not_lt_zero _)
      · exact z
    | succ l ih =>
      intro a b hl hab
      rcases List.eq_nil_or_concat a with rfl | ⟨a', x, rfl⟩
      · cases hl
      · rw [List.concat_eq_append] at hl hab ⊢
        rw [List.length_append] at hl
        obtain ⟨j, hj, ej⟩ := ih a' ([x] ++ b) (by simp at hl; omega) (by rw [hab, List.append_assoc])
        have hx : x < 4 := hu.1 x (by rw [hab]; exact List.mem_append_left _ (List.mem_append_right _ (List.mem_singleton.mpr rfl)))
        obtain ⟨w1, w2, w3⟩ := hk_word h j j (Nat.le_refl _) (by omega)
        rcases h.2.2.2.2 j x hx (by omega) (by omega) with ⟨i, i0, ic, ef, eb⟩ | hv
        · have ew : wrd fr by_ i = a' ++ [x] := by rw [wrd_s (hk_ord h).1 i0 ic, ef, eb, ej]
          refine ⟨i, ?_, ew⟩
          rcases Nat.lt_or_ge i e with z | z
          · exact z
          · exfalso
            have h1 := hlt (by omega)
            have h2 : num (wrd fr by_ e) ≤ num (wrd fr by_ i) := by
              rcases (show e = i ∨ e < i by omega) with rfl | z2
              · exact Nat.le_refl _
              · exact Nat.le_of_lt (num_mono (hk_ord h) i e i (Nat.le_refl _) z2 ic)
            rw [ew] at h2
            have h3 : num (a' ++ [x]) ≤ num u := by
              rw [hab]
              exact num_le_app b (a' ++ [x])
            omega
        · exfalso
          have hcon : acc1 (runA d1 (d1 (lf j) x) b) ≠ acc2 (runA d2 (d2 (rt j) x) b) := by
            have := hu.2.1
            unfold dif at this
            rw [hab, run_app d1 (a' ++ [x]) b 0, run_app d2 (a' ++ [x]) b 0, run_snoc, run_snoc, ← ej, w2, w3] at this
            exact this
          apply hcon
          apply hv
          intro i hi hor
          apply Classical.byContradiction
          intro hne
          obtain ⟨g1, g2, g3⟩ := hk_word h i i (Nat.le_refl _) hi
          have hd : dif d1 d2 acc1 acc2 (wrd fr by_ i ++ b) := by
            unfold dif
            rw [run_app, run_app, g2, g3]
            exact hne
          have hb4 : let4 b := let4_sub hu.1 (fun z hz => by rw [hab]; exact List.mem_append_right _ hz)
          have hle := hu.2.2 _ (let4_app g1 hb4) hd
          have hlt2 : num (wrd fr by_ i) < num (a' ++ [x]) := by
            rw [num_snoc]
            rcases Nat.eq_zero_or_pos i with z | z
            · subst z; show 0 < _; omega
            · rcases hor with z0 | hor
              · omega
              · have hpi := (hk_ord h).1 i z hi
                rw [num_wrd (hk_ord h).1 z hi]
                rcases (show fr i < j ∨ (fr i = j ∧ by_ i < x) by omega) with y | ⟨y1, y2⟩
                · have := num_mono (hk_ord h) j (fr i) j (Nat.le_refl _) y (by omega)
                  rw [ej] at this
                  omega
                · rw [y1, ej]; omega
          have := num_app_lt b _ _ hlt2
          rw [← hab] at this
          omega
  obtain ⟨j, hj, ej⟩ := key u.length u [] rfl (by rw [List.append_nil])
  obtain ⟨w1, w2, w3⟩ := hk_word h j j (Nat.le_refl _) (by omega)
  apply hu.2.1
  rw [← ej, w2, w3]
  exact hf j hj
end DIFF
