/-! pure tools -/
theorem k_0 : (0 : Int32) = nI 0 := by decide +kernel
theorem k_1 : (1 : Int32) = nI 1 := by decide +kernel
theorem k_2 : (2 : Int32) = nI 2 := by decide +kernel
theorem k_3 : (3 : Int32) = nI 3 := by decide +kernel
theorem k_4 : (4 : Int32) = nI 4 := by decide +kernel
theorem k_5 : (5 : Int32) = nI 5 := by decide +kernel
theorem k_6 : (6 : Int32) = nI 6 := by decide +kernel
theorem k_20 : (20 : Int32) = nI 20 := by decide +kernel
theorem k_30 : (30 : Int32) = nI 30 := by decide +kernel
theorem k_97 : (97 : Int32) = nI 97 := by decide +kernel
theorem k_100 : (100 : Int32) = nI 100 := by decide +kernel
theorem k_150 : (150 : Int32) = nI 150 := by decide +kernel
theorem k_255 : (255 : Int32) = nI 255 := by decide +kernel
theorem bd_some {α β : Type} (x : α) (K : α → Option β) : bd (some x) K = K x := rfl
theorem bd2_some {α β γ : Type} (x : α) (y : β) (K : α → β → Option γ) : bd2 (some (x, y)) K = K x y := rfl
theorem nu_none {β : Type} (n : Nat) (X : Option β) (Y : Nat → Option β) : nu n none X Y = X := rfl
theorem nu_some {β : Type} {n i : Nat} (h : okM n i = true) (X : Option β) (Y : Nat → Option β) : nu n (some i) X Y = Y i := if_pos h
theorem ck_nI {β : Type} {j N : Nat} (h : j < N) (hN : N < 2 ^ 31) (K : Option β) : ck (nI j) N K = K := if_neg (vp_in_nI h hN)
theorem zk_0 {β : Type} (K : Option β) : zk 0 K = K := rfl
theorem zk_1 {β : Type} (K : Option β) : zk 1 K = K := rfl
theorem zk_ok {β : Type} {v : Int32} (h : v = 0 ∨ v = 1) (K : Option β) : zk v K = K := if_pos h
theorem nz_ok {β : Type} {v : Int32} (h : ¬ v = 0) (K : Option β) : nz v K = K := if_neg h
theorem sI_get (S : Sg) (i k a b : Nat) (v : Int32) : (sI S i k v).1 a b = if a = i then (if b = k then v else S.1 a b) else S.1 a b := by
  unfold sI va_up upd
  by_cases h : a = i
  · subst h; simp
  · simp [h]
theorem sI_2 (S : Sg) (i k : Nat) (v : Int32) : (sI S i k v).2 = S.2 := rfl
theorem sJ_1 (S : Sg) (i k : Nat) (v : Int64) : (sJ S i k v).1 = S.1 := rfl
theorem sJ_22 (S : Sg) (i k : Nat) (v : Int64) : (sJ S i k v).2.2 = S.2.2 := rfl
theorem sJ_get (S : Sg) (i k a b : Nat) (v : Int64) : (sJ S i k v).2.1 a b = if a = i then (if b = k then v else S.2.1 a b) else S.2.1 a b := by
  unfold sJ va_up vp_updL
  by_cases h : a = i
  · subst h; simp
  · simp [h]
theorem sP_1 (S : Sg) (i k : Nat) (v : Option Nat) : (sP S i k v).1 = S.1 := rfl
theorem sP_21 (S : Sg) (i k : Nat) (v : Option Nat) : (sP S i k v).2.1 = S.2.1 := rfl
theorem sP_get (S : Sg) (i k a b : Nat) (v : Option Nat) : (sP S i k v).2.2 a b = if a = i then (if b = k then v else S.2.2 a b) else S.2.2 a b := by
  unfold sP va_up
  by_cases h : a = i
  · subst h; simp
  · simp [h]
theorem sC_get (S : Sg) (d : Nat) (f : Nat → Int32) (a b : Nat) : (sC S d f).1 a b = if a = d then f b else S.1 a b := by
  unfold sC va_up
  by_cases h : a = d
  · subst h; simp
  · simp [h]
theorem sC_2 (S : Sg) (d : Nat) (f : Nat → Int32) : (sC S d f).2 = S.2 := rfl
/-- the numbers of an index argument -/
theorem ixc (x : Int32) (N : Nat) (hN : N < 2 ^ 31) : (x < 0) ∨ (¬ x < 0 ∧ nI N ≤ x) ∨ ∃ j, j < N ∧ x = nI j := by
  by_cases h : x < 0
  · exact Or.inl h
  · rcases pk_ix x hN with h1 | h1 | h1
    · exact absurd h1 h
    · exact Or.inr (Or.inl ⟨h, h1⟩)
    · exact Or.inr (Or.inr h1)
theorem nI_nn {j : Nat} (h : j < 2 ^ 31) : ¬ nI j < 0 := nI_pos h
def bI (b : Bool) : Int32 := if b then 1 else 0
/-- words and runs -/
def runA (d : Nat → Nat → Nat) (k : Nat) : List Nat → Nat
  | [] => k
  | x :: w => runA d (d k x) w
def Inf (d : Nat → Nat → Nat) (acc : Nat → Bool) : Prop := ∀ L : Nat, ∃ w : List Nat, L ≤ w.length ∧ (∀ x ∈ w, x < 4) ∧ acc (runA d 0 w) = true
/-- an automaton in the class (machine m) and in the reference (slot s) -/
def autC (S : Sg) (m N : Nat) (d : Nat → Nat → Nat) (acc : Nat → Bool) : Prop := S.1 m 0 = nI N ∧ (∀ k, k < N → ∀ x, x < 4 → S.1 (m + 1) (4 * k + x) = nI (d k x)) ∧ ∀ k, k < N → S.1 (m + 4) k = bI (acc k)
def autM (S : Sg) (s N : Nat) (d : Nat → Nat → Nat) (acc : Nat → Bool) : Prop := S.1 44 s = nI N ∧ (∀ k, k < N → ∀ x, x < 4 → S.1 48 (4 * (150 * s + k) + x) = nI (d k x)) ∧ ∀ k, k < N → S.1 49 (150 * s + k) = bI (acc k)
def autOk (N : Nat) (d : Nat → Nat → Nat) : Prop := 1 ≤ N ∧ N ≤ 150 ∧ ∀ k, k < N → ∀ x, x < 4 → d k x < N
def iMach (S : Sg) (m s : Nat) : Prop := ∃ (N P : Nat) (d : Nat → Nat → Nat) (acc : Nat → Bool) (fr by_ : Nat → Nat), autOk N d ∧ autC S m N d acc ∧ autM S s N d acc ∧ P ≤ 6 ∧ S.1 m 2 = nI P ∧ S.1 45 s = nI P ∧ S.1 m 1 = S.1 47 s ∧ S.1 m 3 = S.1 46 s ∧ (∀ k, 0 < k → k < N → fr k < k ∧ by_ k < 4 ∧ S.1 (m + 2) k = nI (4 * fr k + by_ k) ∧ S.1 52 (150 * s + k) = nI (fr k) ∧ S.1 53 (150 * s + k) = nI (by_ k)) ∧ (∀ k, k < N → ∀ p, p < P → S.1 (m + 3) (6 * k + p) = S.1 50 (6 * (150 * s + k) + p)) ∧ (∀ k, k < N → S.1 (m + 5) k = S.1 51 (150 * s + k)) ∧ ((S.1 m 4 = 1 ∧ ¬ Inf d acc) ∨ (S.1 m 4 = 0 ∧ Inf d acc))
def iSlot (n : Nat) (S : Sg) (s : Nat) : Prop := (S.2.2 2 s = none ∧ S.1 44 s = 0) ∨ ∃ m, S.2.2 2 s = some m ∧ okM n m = true ∧ iMach S m s
def iTape (S : Sg) : Prop := ∃ t, t ≤ 100 ∧ S.1 0 1 = nI t ∧ S.1 34 2 = nI t ∧ ∀ k, k < t → S.1 1 k = S.1 35 k &&& 255
def iTold (S : Sg) : Prop := ∃ t, t ≤ 300 ∧ S.1 32 1 = nI t ∧ S.1 34 25 = nI t ∧ ∀ k, k < t → S.1 33 k = S.1 54 k
def iFault (S : Sg) : Prop := S.1 3 4 = S.1 34 4 ∧ S.1 3 5 = S.1 34 5 ∧ (S.1 3 8 = 0 ∨ S.1 3 8 = 1)
def iRefs (n : Nat) (S : Sg) : Prop := (∀ m, S.2.2 0 3 = some m → okM n m = true ∧ ∀ s, s < 4 → S.2.2 2 s ≠ some m) ∧ ∀ s t m, s < 4 → t < 4 → S.2.2 2 s = some m → S.2.2 2 t = some m → s = t
def Inv (n : Nat) (S : Sg) : Prop := iTape S ∧ iTold S ∧ iFault S ∧ (∀ s, s < 4 → iSlot n S s) ∧ iRefs n S
theorem Inv_0 : Inv 0 S0 := by
  refine ⟨⟨0, by omega, rfl, rfl, fun k h => absurd h (by omega)⟩, ⟨0, by omega, rfl, rfl, fun k h => absurd h (by omega)⟩, ⟨rfl, rfl, Or.inl rfl⟩, fun s _ => Or.inl ⟨rfl, rfl⟩, ?_, ?_⟩
  · intro m h; cases h
  · intro s t m _ _ h; cases h
theorem ok_fault : OK_fault Inv := by
  intro n S a hI
  obtain ⟨-, -, ⟨h1, h2, -⟩, -, -⟩ := id hI
  unfold f_X9_fault f_X10_fault
  by_cases h0 : a = 0
  · exact ⟨_, S, S, if_pos h0, by rw [if_pos h0, h1], hI⟩
  · by_cases h3 : a = 1
    · exact ⟨_, S, S, by rw [if_neg h0, if_pos h3], by rw [if_neg h0, if_pos h3, h2], hI⟩
    · exact ⟨_, S, S, by rw [if_neg h0, if_neg h3], by rw [if_neg h0, if_neg h3], hI⟩
theorem lies_eq (x a b : Int32) (S : Sg) : f_X10_lies x a b S = some (if x < a then 0 else if b < x then 0 else 1, S) := by
  unfold f_X10_lies
  by_cases h : x < a
  · rw [if_pos h, if_pos h]
  · rw [if_neg h, if_neg h]
    by_cases h2 : b < x
    · rw [if_pos h2, if_pos h2]
    · rw [if_neg h2, if_neg h2]
/-- lies(x, 0, N - 1) -/
theorem lies_in {N j : Nat} (h : j < N) (hN : N < 2 ^ 30) (S : Sg) : f_X10_lies (nI j) 0 (nI N - 1) S = some (1, S) := by
  rw [lies_eq, if_neg (nI_pos (by omega)), if_neg]
  rw [k_1, pk_sub (by omega)]
  exact nI_nlt (by omega) (by omega)
theorem lies_lo {x b : Int32} (h : x < 0) (S : Sg) : f_X10_lies x 0 b S = some (0, S) := by rw [lies_eq, if_pos h]
theorem lies_hi {x : Int32} {N : Nat} (h0 : ¬ x < 0) (h : nI N ≤ x) (hN : N < 2 ^ 30) (S : Sg) : f_X10_lies x 0 (nI N - 1) S = some (0, S) := by
  rw [lies_eq, if_neg h0, if_pos]
  rw [Int32.lt_iff_toInt_lt, k_1, pk_sub_toInt (by omega) (by omega)]
  rw [Int32.le_iff_toInt_le, nI_toInt (by omega)] at h
  omega
theorem ok_letter : OK_letter Inv := by
  intro n S a hI
  obtain ⟨-, ⟨t, ht, h1, h2, h3⟩, -⟩ := id hI
  suffices h : ∃ r, f_X9_letter a S = some (r, S) ∧ f_X10_letter a S = some (r, S) by
    obtain ⟨r, e1, e2⟩ := h
    exact ⟨r, S, S, e1, e2, hI⟩
  unfold f_X9_letter f_X10_letter
  rw [h1, h2]
  rcases ixc a t (by omega) with h | ⟨h, h'⟩ | ⟨j, hj, rfl⟩
  · exact ⟨-1, if_pos h, by rw [lies_lo h]; rfl⟩
  · exact ⟨-1, by rw [if_neg h, if_pos h'], by rw [lies_hi h h' (by omega)]; rfl⟩
  · refine ⟨S.1 33 j, ?_, ?_⟩
    · rw [if_neg (nI_pos (by omega)), if_neg (by rw [nI_leI (by omega) (by omega)]; omega), ck_nI (by omega) (by decide), nI_clamp (by omega)]
    · rw [lies_in hj (by omega), bd2_some, if_neg (by decide), ck_nI (by omega) (by decide), nI_clamp (by omega), h3 j hj]
