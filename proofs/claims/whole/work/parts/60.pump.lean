theorem pigeon : ∀ (N : Nat) (f : Nat → Nat), (∀ i, i ≤ N → f i < N) → ∃ i j, i < j ∧ j ≤ N ∧ f i = f j := by
  intro N
  induction N with
  | zero => intro f h; exact absurd (h 0 (Nat.le_refl _)) (by omega)
  | succ N ih =>
    intro f h
    by_cases hx : ∃ i, i ≤ N ∧ f i = f (N + 1)
    · obtain ⟨i, hi, e⟩ := hx
      exact ⟨i, N + 1, by omega, Nat.le_refl _, e⟩
    · have hne : ∀ i, i ≤ N → f i ≠ f (N + 1) := fun i hi e => hx ⟨i, hi, e⟩
      have hl := h (N + 1) (Nat.le_refl _)
      obtain ⟨i, j, hij, hj, e⟩ := ih (fun i => if f i = N then f (N + 1) else f i) (fun i hi => by
        have h1 := h i (by omega)
        have h2 := hne i hi
        show (if f i = N then f (N + 1) else f i) < N
        by_cases hc : f i = N
        · rw [if_pos hc]; omega
        · rw [if_neg hc]; omega)
      refine ⟨i, j, hij, by omega, ?_⟩
      have hi1 := hne i (by omega)
      have hj1 := hne j hj
      have e : (if f i = N then f (N + 1) else f i) = (if f j = N then f (N + 1) else f j) := e
      by_cases c1 : f i = N
      · by_cases c2 : f j = N
        · rw [c1, c2]
        · rw [if_pos c1, if_neg c2] at e; exact absurd e.symm hj1
      · by_cases c2 : f j = N
        · rw [if_neg c1, if_pos c2] at e; exact absurd e hi1
        · rw [if_neg c1, if_neg c2] at e; exact e
theorem run_app (d : Nat → Nat → Nat) : ∀ (u v : List Nat) (k : Nat), runA d k (u ++ v) = runA d (runA d k u) v := by
  intro u
  induction u with
  | nil => intro v k; rfl
  | cons x u ih => intro v k; exact ih v (d k x)
def let4 (w : List Nat) : Prop := ∀ x ∈ w, x < 4
theorem run_lt {N : Nat} {d : Nat → Nat → Nat} (h : ∀ k, k < N → ∀ x, x < 4 → d k x < N) : ∀ (w : List Nat) (k : Nat), k < N → let4 w → runA d k w < N := by
  intro w
  induction w with
  | nil => intro k hk _; exact hk
  | cons x w ih => intro k hk hw; exact ih (d k x) (h k hk x (hw x List.mem_cons_self)) (fun y hy => hw y (List.mem_cons_of_mem _ hy))
theorem let4_app {u v : List Nat} (hu : let4 u) (hv : let4 v) : let4 (u ++ v) := fun x hx => by
  rcases List.mem_append.mp hx with h | h
  · exact hu x h
  · exact hv x h
theorem let4_sub {u v : List Nat} (h : let4 v) (hs : ∀ x ∈ u, x ∈ v) : let4 u := fun x hx => h x (hs x hx)
/-- a long word runs into a state twice -/
theorem loop_in {N : Nat} {d : Nat → Nat → Nat} (h : ∀ k, k < N → ∀ x, x < 4 → d k x < N) {w : List Nat} (h0 : 0 < N) (hw : let4 w) (hl : N ≤ w.length) : ∃ a b c, w = a ++ b ++ c ∧ 1 ≤ b.length ∧ a.length + b.length ≤ N ∧ runA d (runA d 0 a) b = runA d 0 a := by
  obtain ⟨i, j, hij, hj, e⟩ := pigeon N (fun i => runA d 0 (w.take i)) (fun i _ => run_lt h _ 0 h0 (let4_sub hw (fun x hx => List.mem_of_mem_take hx)))
  refine ⟨w.take i, (w.take j).drop i, w.drop j, ?_, ?_, ?_, ?_⟩
  · have e1 : w.take i ++ (w.take j).drop i = w.take j := by
      have := List.take_append_drop i (w.take j)
      rw [List.take_take, Nat.min_eq_left (by omega)] at this
      exact this
    rw [e1, List.take_append_drop]
  · rw [List.length_drop, List.length_take]; omega
  · rw [List.length_drop, List.length_take, List.length_take]; omega
  · have e1 : w.take i ++ (w.take j).drop i = w.take j := by
      have := List.take_append_drop i (w.take j)
      rw [List.take_take, Nat.min_eq_left (by omega)] at this
      exact this
    rw [← run_app, e1]
    exact e.symm
def rep (b : List Nat) : Nat → List Nat
  | 0 => []
  | n + 1 => b ++ rep b n
theorem rep_len (b : List Nat) (hb : 1 ≤ b.length) : ∀ n, n ≤ (rep b n).length := by
  intro n
  induction n with
  | zero => exact Nat.zero_le _
  | succ n ih => show n + 1 ≤ (b ++ rep b n).length; rw [List.length_append]; omega
theorem rep_run {d : Nat → Nat → Nat} {b : List Nat} {k : Nat} (h : runA d k b = k) : ∀ n, runA d k (rep b n) = k := by
  intro n
  induction n with
  | zero => rfl
  | succ n ih => show runA d k (b ++ rep b n) = k; rw [run_app, h, ih]
theorem rep_let {b : List Nat} (h : let4 b) : ∀ n, let4 (rep b n) := by
  intro n
  induction n with
  | zero => intro x hx; cases hx
  | succ n ih => exact let4_app h ih
theorem inf_iff {N : Nat} {d : Nat → Nat → Nat} {acc : Nat → Bool} (h : ∀ k, k < N → ∀ x, x < 4 → d k x < N) (h0 : 0 < N) : Inf d acc ↔ ∃ w : List Nat, N ≤ w.length ∧ w.length < 2 * N ∧ let4 w ∧ acc (runA d 0 w) = true := by
  constructor
  · intro hI
    obtain ⟨w0, l0, t0, a0⟩ := hI N
    have key : ∀ (b : Nat) (w : List Nat), w.length ≤ b → N ≤ w.length → let4 w → acc (runA d 0 w) = true → ∃ w : List Nat, N ≤ w.length ∧ w.length < 2 * N ∧ let4 w ∧ acc (runA d 0 w) = true := by
      intro b
      induction b with
      | zero => intro w h1 h2; exact absurd h2 (by omega)
      | succ b ih =>
        intro w h1 h2 h3 h4
        by_cases hs : w.length < 2 * N
        · exact ⟨w, h2, hs, h3, h4⟩
        · obtain ⟨a, m, c, rfl, hb1, hab, e⟩ := loop_in h h0 h3 h2
          rw [List.length_append, List.length_append] at h1 h2 hs
          refine ih (a ++ c) ?_ ?_ ?_ ?_
          · rw [List.length_append]; omega
          · rw [List.length_append]; omega
          · exact let4_sub h3 (fun x hx => by
              rcases List.mem_append.mp hx with z | z
              · exact List.mem_append_left _ (List.mem_append_left _ z)
              · exact List.mem_append_right _ z)
          · rw [run_app, run_app, e] at h4
            rw [run_app]
            exact h4
    exact key w0.length w0 (Nat.le_refl _) l0 t0 a0
  · rintro ⟨w, h1, -, h3, h4⟩ L
    obtain ⟨a, m, c, rfl, hb1, hab, e⟩ := loop_in h h0 h3 h1
    have hm : let4 m := let4_sub h3 (fun x hx => List.mem_append_left _ (List.mem_append_right _ hx))
    refine ⟨a ++ rep m L ++ c, ?_, ?_, ?_⟩
    · rw [List.length_append, List.length_append]
      have := rep_len m hb1 L
      omega
    · exact let4_app (let4_app (let4_sub h3 (fun x hx => List.mem_append_left _ (List.mem_append_left _ hx))) (rep_let hm L)) (let4_sub h3 (fun x hx => List.mem_append_right _ hx))
    · rw [run_app, run_app, rep_run e]
      rw [run_app, run_app, e] at h4
      exact h4
