def cnt (d : Nat → Nat → Nat) (acc : Nat → Bool) : Nat → Nat → Nat
  | 0, k => if acc k = true then 1 else 0
  | n + 1, k => cnt d acc n (d k 0) + cnt d acc n (d k 1) + cnt d acc n (d k 2) + cnt d acc n (d k 3)
theorem cnt_le (d : Nat → Nat → Nat) (acc : Nat → Bool) : ∀ n k, cnt d acc n k ≤ 4 ^ n := by
  intro n
  induction n with
  | zero => intro k; unfold cnt; split <;> simp
  | succ n ih =>
    intro k
    unfold cnt
    have h0 := ih (d k 0)
    have h1 := ih (d k 1)
    have h2 := ih (d k 2)
    have h3 := ih (d k 3)
    rw [Nat.pow_succ]
    omega
theorem cnt_b (d : Nat → Nat → Nat) (acc : Nat → Bool) {n : Nat} (hn : n ≤ 28) (k : Nat) : cnt d acc n k < 2 ^ 63 := by
  have h1 := cnt_le d acc n k
  have h2 : 4 ^ n ≤ 4 ^ 28 := Nat.pow_le_pow_right (by decide) hn
  have h3 : (4 : Nat) ^ 28 < 2 ^ 63 := by decide
  omega
theorem lcm_lt {a b : Nat} (ha : a < 2 ^ 63) (hb : b < 2 ^ 63) : lg_cmp (lN a) (lN b) < 0 ↔ a < b := by
  unfold lg_cmp
  by_cases h1 : lN a > lN b
  · rw [if_pos h1]
    have : b < a := (pk_lLT hb ha).mp h1
    constructor
    · intro h; exact absurd h (by decide)
    · intro h; omega
  · rw [if_neg h1]
    have h1' : ¬ b < a := fun h => h1 ((pk_lLT hb ha).mpr h)
    by_cases h2 : lN a = lN b
    · rw [if_pos h2]
      have := (pk_lEQ ha hb).mp h2
      constructor
      · intro h; exact absurd h (by decide)
      · intro h; omega
    · rw [if_neg h2]
      have h2' : ¬ a = b := fun h => h2 ((pk_lEQ ha hb).mpr h)
      constructor
      · intro _; omega
      · intro _; decide
theorem beh {k j : Nat} {S : Sg} (hk : k < 150) (hj : j < 29) : f_X0_behind (nI k) (nI j) S = some (S.2.1 23 (150 * j + k), S) := by
  unfold f_X0_behind
  rw [k_150, pk_mul, nI_add, Nat.mul_comm j 150, ck_nI (by omega) (by decide), nI_clamp (by omega)]
/-- the table of the class is filled below level j, and at level j for states below k -/
def tabC (d : Nat → Nat → Nat) (acc : Nat → Bool) (N : Nat) (T : Nat → Int64) (j k : Nat) : Prop := (∀ j', j' < j → ∀ k', k' < N → T (150 * j' + k') = lN (cnt d acc j' k')) ∧ ∀ k', k' < k → k' < N → T (150 * j + k') = lN (cnt d acc j k')
theorem tab_next {d : Nat → Nat → Nat} {acc : Nat → Bool} {N : Nat} {T : Nat → Int64} {j k : Nat} (h : tabC d acc N T j k) (hk : k < N) (hN : N ≤ 150) : tabC d acc N (fun b => if b = 150 * j + k then lN (cnt d acc j k) else T b) j (k + 1) := by
  refine ⟨fun j' hj' k' hk' => ?_, fun k' h1 h2 => ?_⟩
  · show (if 150 * j' + k' = 150 * j + k then _ else _) = _
    rw [if_neg (by omega)]
    exact h.1 j' hj' k' hk'
  · show (if 150 * j + k' = 150 * j + k then _ else _) = _
    by_cases e : k' = k
    · subst e; rw [if_pos rfl]
    · rw [if_neg (by omega)]
      exact h.2 k' (by omega) h2
theorem tab_level {d : Nat → Nat → Nat} {acc : Nat → Bool} {N : Nat} {T : Nat → Int64} {j k : Nat} (h : tabC d acc N T j k) (hk : N ≤ k) : tabC d acc N T (j + 1) 0 := by
  refine ⟨fun j' hj' k' hk' => ?_, fun k' h1 _ => absurd h1 (by omega)⟩
  by_cases e : j' = j
  · subst e; exact h.2 k' (by omega) hk'
  · exact h.1 j' (by omega) k' hk'
theorem sJ_row (S : Sg) (i k : Nat) (v : Int64) : (sJ S i k v).2.1 i = fun b => if b = k then v else S.2.1 i b := by
  funext b
  rw [sJ_get, if_pos rfl]
section CNTC
variable {S : Sg} {m N : Nat} {d : Nat → Nat → Nat} {acc : Nat → Bool} {q : Int32}
theorem cC_step {K : Nat → Int32 → Int32 → Int32 → Sg → Option Sg} {fl j k x : Nat} {v : Int64} (ok : autOk N d) (cC : autC S m N d acc) (hk : k < N) (hj : 1 ≤ j ∧ j ≤ 28) (hx : x < 4) : f_X0_count_L67 K (fl + 1) m q (nI j) (nI k) v (nI x) S = f_X0_count_L67 K fl m q (nI j) (nI k) (v + S.2.1 23 (150 * (j - 1) + d k x)) (nI (x + 1)) S := by
  have hb := ok.2.1
  have hd := ok.2.2 k hk x hx
  rw [f_X0_count_L67, if_neg (by rw [k_4, nI_leI (by omega) (by omega)]; omega), ixC4, ck_nI (by omega) (by decide), nI_clamp (by omega), cC.2.1 k hk x hx, k_1, pk_sub hj.1, beh (by omega) (by omega), bd2_some]
  simp only [vl]
  rw [nI_add]
theorem cC_end {K : Nat → Int32 → Int32 → Int32 → Sg → Option Sg} {fl j k : Nat} {v : Int64} (hk : k < 150) (hj : j ≤ 28) : f_X0_count_L67 K (fl + 1) m q (nI j) (nI k) v (nI 4) S = K m q (nI j) (nI (k + 1)) (sJ S 23 (150 * j + k) v) := by
  rw [f_X0_count_L67, if_pos (by rw [k_4, nI_leI (by omega) (by omega)]; omega), k_150, pk_mul, nI_add, Nat.mul_comm j 150, ck_nI (by omega) (by decide), nI_clamp (by omega)]
  simp only [vl]
  rw [nI_1]
theorem cC_row {K : Nat → Int32 → Int32 → Int32 → Sg → Option Sg} {j k : Nat} (ok : autOk N d) (cC : autC S m N d acc) (hk : k < N) (hj : 1 ≤ j ∧ j ≤ 28) (ht : tabC d acc N (S.2.1 23) j k) : f_X0_count_L67 K fu m q (nI j) (nI k) 0 0 S = K m q (nI j) (nI (k + 1)) (sJ S 23 (150 * j + k) (lN (cnt d acc j k))) := by
  have hb := ok.2.1
  have t : ∀ x, x < 4 → S.2.1 23 (150 * (j - 1) + d k x) = lN (cnt d acc (j - 1) (d k x)) := fun x hx => ht.1 (j - 1) (by omega) _ (ok.2.2 k hk x hx)
  rw [fu_s, k_0, cC_step ok cC hk hj (by omega), cC_step ok cC hk hj (by omega), cC_step ok cC hk hj (by omega), cC_step ok cC hk hj (by omega), cC_end (by omega) hj.2, t 0 (by omega), t 1 (by omega), t 2 (by omega), t 3 (by omega)]
  have e : (0 : Int64) = lN 0 := by decide +kernel
  rw [e, lN_add, lN_add, lN_add, lN_add, Nat.zero_add]
  have e2 : cnt d acc j k = cnt d acc (j - 1) (d k 0) + cnt d acc (j - 1) (d k 1) + cnt d acc (j - 1) (d k 2) + cnt d acc (j - 1) (d k 3) := by
    obtain ⟨i, rfl⟩ : ∃ i, j = i + 1 := ⟨j - 1, by omega⟩
    rfl
  rw [e2]
theorem cC_lev {K : Nat → Int32 → Int32 → Sg → Option Sg} {j : Nat} (ok : autOk N d) (hj : 1 ≤ j ∧ j ≤ 28) : ∀ (r k fl : Nat) (S : Sg), autC S m N d acc → k + r = N → r + 1 ≤ fl → tabC d acc N (S.2.1 23) j k → ∃ S', f_X0_count_L52 K fl m q (nI j) (nI k) S = K m q (nI (j + 1)) S' ∧ S'.1 = S.1 ∧ S'.2.2 = S.2.2 ∧ tabC d acc N (S'.2.1 23) (j + 1) 0 := by
  have hb := ok.2.1
  intro r
  induction r with
  | zero =>
    intro k fl S cC hkr hfl ht
    obtain ⟨f, rfl⟩ : ∃ f, fl = f + 1 := ⟨fl - 1, by omega⟩
    refine ⟨S, ?_, rfl, rfl, tab_level ht (by omega)⟩
    rw [f_X0_count_L52, cC.1, if_pos (by rw [nI_leI (by omega) (by omega)]; omega)]
    simp only [vl]
    rw [nI_1]
  | succ r ih =>
    intro k fl S cC hkr hfl ht
    obtain ⟨f, rfl⟩ : ∃ f, fl = f + 1 := ⟨fl - 1, by omega⟩
    obtain ⟨S', e, h1, h2, h3⟩ := ih (k + 1) f (sJ S 23 (150 * j + k) (lN (cnt d acc j k))) cC (by omega) (by omega) (by rw [sJ_row]; exact tab_next ht (by omega) hb)
    refine ⟨S', ?_, h1, h2, h3⟩
    rw [f_X0_count_L52, cC.1, if_neg (by rw [nI_leI (by omega) (by omega)]; omega)]
    simp only [vl]
    rw [cC_row ok cC (by omega) hj ht]
    exact e
theorem cC_all {qn : Nat} (ok : autOk N d) (hq : qn ≤ 28) : ∀ (r j fl : Nat) (S : Sg), autC S m N d acc → j + r = qn + 1 → 1 ≤ j → r + 1 ≤ fl → tabC d acc N (S.2.1 23) j 0 → ∃ S', f_X0_count_L38 fl m (nI qn) (nI j) S = some S' ∧ S'.1 = S.1 ∧ S'.2.2 = S.2.2 ∧ tabC d acc N (S'.2.1 23) (qn + 1) 0 := by
  have hb := ok.2.1
  intro r
  induction r with
  | zero =>
    intro j fl S cC hjr hj hfl ht
    obtain ⟨f, rfl⟩ : ∃ f, fl = f + 1 := ⟨fl - 1, by omega⟩
    have : j = qn + 1 := by omega
    subst this
    refine ⟨S, ?_, rfl, rfl, ht⟩
    rw [f_X0_count_L38, if_pos (by rw [nI_ltI (by omega) (by omega)]; omega)]
  | succ r ih =>
    intro j fl S cC hjr hj hfl ht
    obtain ⟨f, rfl⟩ : ∃ f, fl = f + 1 := ⟨fl - 1, by omega⟩
    obtain ⟨S1, e1, a1, b1, t1⟩ := cC_lev (q := nI qn) (K := f_X0_count_L38 f) ok (j := j) (by omega) N 0 fu S cC (by omega) (by unfold fu; omega) ht
    obtain ⟨S', e, h1, h2, h3⟩ := ih (j + 1) f S1 (by unfold autC at *; rw [a1]; exact cC) (by omega) (by omega) (by omega) t1
    refine ⟨S', ?_, h1.trans a1, h2.trans b1, h3⟩
    rw [f_X0_count_L38, if_neg (by rw [nI_ltI (by omega) (by omega)]; omega), if_neg (by rw [show (28 : Int32) = nI 28 by decide +kernel, nI_ltI (by omega) (by omega)]; omega)]
    simp only [vl]
    rw [k_0, e1]
    exact e
theorem cC_0 {qn : Nat} (ok : autOk N d) (hq : qn ≤ 28) : ∀ (r k fl : Nat) (S : Sg), autC S m N d acc → k + r = N → r + 1 ≤ fl → tabC d acc N (S.2.1 23) 0 k → ∃ S', f_X0_count_L2 fl m (nI qn) (nI k) S = some S' ∧ S'.1 = S.1 ∧ S'.2.2 = S.2.2 ∧ tabC d acc N (S'.2.1 23) (qn + 1) 0 := by
  have hb := ok.2.1
  intro r
  induction r with
  | zero =>
    intro k fl S cC hkr hfl ht
    obtain ⟨f, rfl⟩ : ∃ f, fl = f + 1 := ⟨fl - 1, by omega⟩
    obtain ⟨S', e, h1, h2, h3⟩ := cC_all ok hq qn 1 fu S cC (by omega) (by omega) (by unfold fu; omega) (tab_level ht (by omega))
    refine ⟨S', ?_, h1, h2, h3⟩
    rw [f_X0_count_L2, cC.1, if_pos (by rw [nI_leI (by omega) (by omega)]; omega)]
    simp only [vl]
    rw [k_1]
    exact e
  | succ r ih =>
    intro k fl S cC hkr hfl ht
    obtain ⟨f, rfl⟩ : ∃ f, fl = f + 1 := ⟨fl - 1, by omega⟩
    obtain ⟨S', e, h1, h2, h3⟩ := ih (k + 1) f (sJ S 23 k (lN (cnt d acc 0 k))) cC (by omega) (by omega) (by rw [sJ_row]; have := tab_next ht (by omega) hb; rw [Nat.mul_zero, Nat.zero_add] at this; exact this)
    refine ⟨S', ?_, h1, h2, h3⟩
    rw [f_X0_count_L2, cC.1, if_neg (by rw [nI_leI (by omega) (by omega)]; omega), ck_nI (by omega) (by decide), nI_clamp (by omega), cC.2.2 k (by omega)]
    rw [← e, ck_nI (by omega) (by decide)]
    simp only [vl]
    rw [nI_1]
    cases hacc : acc k with
    | true =>
      rw [if_neg (by decide), ck_nI (by omega) (by decide)]
      rw [show cnt d acc 0 k = 1 by simp [cnt, hacc]]
      rfl
    | false =>
      rw [if_pos (by decide)]
      rw [show cnt d acc 0 k = 0 by simp [cnt, hacc]]
      rfl
theorem count_eq {qn : Nat} (ok : autOk N d) (cC : autC S m N d acc) (hq : qn ≤ 28) : ∃ S', f_X0_count m (nI qn) S = some S' ∧ S'.1 = S.1 ∧ S'.2.2 = S.2.2 ∧ tabC d acc N (S'.2.1 23) (qn + 1) 0 := by
  have hb := ok.2.1
  obtain ⟨S', e, h⟩ := cC_0 ok hq N 0 fu S cC (by omega) (by unfold fu; omega) ⟨fun j h => absurd h (by omega), fun k h => absurd h (by omega)⟩
  refine ⟨S', ?_, h⟩
  unfold f_X0_count
  simp only [vl]
  rw [k_0]
  exact e
end CNTC
