theorem has_ok {s N : Nat} {S : Sg} (hs : s < 4) (h : S.1 44 s = nI N) (h1 : 1 ≤ N) (h2 : N ≤ 150) : f_X10_has (nI s) S = some (1, S) := by
  unfold f_X10_has
  rw [show (3 : Int32) = nI 4 - 1 by decide +kernel, lies_in hs (by omega), bd2_some, if_neg n10, ck_nI hs (by decide), nI_clamp (by omega), h, if_neg (by rw [k_0, nI_leI (by omega) (by omega)]; omega)]
def pk1 (c : Nat → Nat) (r : Nat) : Nat × Nat := if r < c 0 then (0, r) else if r - c 0 < c 1 then (1, r - c 0) else if r - c 0 - c 1 < c 2 then (2, r - c 0 - c 1) else (3, r - c 0 - c 1 - c 2)
theorem pk1_ok {c : Nat → Nat} {r : Nat} (h : r < c 0 + c 1 + c 2 + c 3) : (pk1 c r).1 < 4 ∧ (pk1 c r).2 < c (pk1 c r).1 := by
  unfold pk1
  split
  · exact ⟨by omega, by assumption⟩
  · split
    · exact ⟨by omega, by assumption⟩
    · split
      · exact ⟨by omega, by assumption⟩
      · refine ⟨by omega, ?_⟩
        show r - c 0 - c 1 - c 2 < c 3
        omega
def wsel (d : Nat → Nat → Nat) (acc : Nat → Bool) : Nat → Nat → Nat → List Nat
  | 0, _, _ => []
  | n + 1, k, r => (pk1 (fun x => cnt d acc n (d k x)) r).1 :: wsel d acc n (d k (pk1 (fun x => cnt d acc n (d k x)) r).1) (pk1 (fun x => cnt d acc n (d k x)) r).2
theorem autC_cg {S S' : Sg} {m N : Nat} {d : Nat → Nat → Nat} {acc : Nat → Bool} (h : autC S m N d acc) (hk : ∀ i, 79 ≤ i → S'.1 i = S.1 i) (hm : 79 ≤ m) : autC S' m N d acc := by
  unfold autC at *
  rw [hk m hm, hk (m + 1) (by omega), hk (m + 4) (by omega)]
  exact h
theorem autM_cg {S S' : Sg} {s N : Nat} {d : Nat → Nat → Nat} {acc : Nat → Bool} (h : autM S s N d acc) (hk : ∀ i, 44 ≤ i → i ≤ 53 → S'.1 i = S.1 i) : autM S' s N d acc := by
  unfold autM at *
  rw [hk 44 (by omega) (by omega), hk 48 (by omega) (by omega), hk 49 (by omega) (by omega)]
  exact h
theorem sI_id (S : Sg) {i j : Nat} (k : Nat) (v : Int32) (h : j ≠ i) : (sI S i k v).1 j = S.1 j := (sI_n S i k v j h).1
theorem lN_subb {a b : Nat} (h : b ≤ a) : lN a - lN b = lN (a - b) := lN_sub h
section TELLC
variable {m N q : Nat} {d : Nat → Nat → Nat} {acc : Nat → Bool}
theorem tC_step {K : Nat → Int32 → Int64 → Int32 → Int32 → Sg → Option Sg} {fl i k x r : Nat} {S : Sg} (ok : autOk N d) (cC : autC S m N d acc) (ht : tabC d acc N (S.2.1 23) (q + 1) 0) (hk : k < N) (hx : x < 3) (hi : i < q) (hq : q ≤ 28) (hr : r < 2 ^ 63) : f_X0_tellWord_L39 K (fl + 1) m (nI q) (lN r) (nI k) (nI i) (nI x) (lN (cnt d acc (q - 1 - i) (d k x))) S = if r < cnt d acc (q - 1 - i) (d k x) then f_X0_tellWord_L90 K m (nI q) (lN r) (nI k) (nI i) (nI x) S else f_X0_tellWord_L39 K fl m (nI q) (lN (r - cnt d acc (q - 1 - i) (d k x))) (nI k) (nI i) (nI (x + 1)) (lN (cnt d acc (q - 1 - i) (d k (x + 1)))) S := by
  have hb := ok.2.1
  have hd := ok.2.2 k hk (x + 1) (by omega)
  have hc := cnt_b d acc (n := q - 1 - i) (by omega) (d k x)
  rw [f_X0_tellWord_L39, if_neg (by rw [k_3, nI_leI (by omega) (by omega)]; omega)]
  by_cases h : r < cnt d acc (q - 1 - i) (d k x)
  · rw [if_pos ((lcm_lt hr hc).mpr h), if_pos h]
  · rw [if_neg (fun z => h ((lcm_lt hr hc).mp z)), if_neg h]
    simp only [vl]
    rw [lN_sub (by omega), nI_1, ixC4, ck_nI (by omega) (by decide), nI_clamp (by omega), cC.2.1 k hk (x + 1) (by omega), k_1, pk_sub (by omega), pk_sub (by omega), beh (by omega) (by omega), bd2_some, ht.1 (q - 1 - i) (by omega) _ hd]
theorem tC_pick {K : Nat → Int32 → Int64 → Int32 → Int32 → Sg → Option Sg} {i k r : Nat} {S : Sg} (ok : autOk N d) (cC : autC S m N d acc) (ht : tabC d acc N (S.2.1 23) (q + 1) 0) (hk : k < N) (hi : i < q) (hq : q ≤ 28) (hr : r < 2 ^ 63) : f_X0_tellWord_L39 K fu m (nI q) (lN r) (nI k) (nI i) (nI 0) (lN (cnt d acc (q - 1 - i) (d k 0))) S = f_X0_tellWord_L90 K m (nI q) (lN (pk1 (fun x => cnt d acc (q - 1 - i) (d k x)) r).2) (nI k) (nI i) (nI (pk1 (fun x => cnt d acc (q - 1 - i) (d k x)) r).1) S := by
  rw [fu_s, tC_step ok cC ht hk (by omega) hi hq hr]
  unfold pk1
  by_cases h0 : r < cnt d acc (q - 1 - i) (d k 0)
  · rw [if_pos h0, if_pos h0]
  · rw [if_neg h0, if_neg h0, tC_step ok cC ht hk (by omega) hi hq (by omega)]
    by_cases h1 : r - cnt d acc (q - 1 - i) (d k 0) < cnt d acc (q - 1 - i) (d k 1)
    · rw [if_pos h1, if_pos h1]
    · rw [if_neg h1, if_neg h1, tC_step ok cC ht hk (by omega) hi hq (by omega)]
      by_cases h2 : r - cnt d acc (q - 1 - i) (d k 0) - cnt d acc (q - 1 - i) (d k 1) < cnt d acc (q - 1 - i) (d k 2)
      · rw [if_pos h2, if_pos h2]
      · rw [if_neg h2, if_neg h2, f_X0_tellWord_L39, if_pos (by decide +kernel)]
theorem tellC (ok : autOk N d) (hm : 79 ≤ m) (hq : q ≤ 28) : ∀ (rem i k r fl : Nat) (S : Sg), autC S m N d acc → tabC d acc N (S.2.1 23) (q + 1) 0 → i + rem = q → k < N → r < cnt d acc rem k → rem + 1 ≤ fl → ∃ S', f_X0_tellWord_L9 fl m (nI q) (lN r) (nI k) (nI i) S = some S' ∧ S'.2 = S.2 ∧ S'.1 32 1 = nI q ∧ (∀ t, t < i → S'.1 33 t = S.1 33 t) ∧ (∀ t, t < rem → S'.1 33 (i + t) = nI ((wsel d acc rem k r).getD t 0)) ∧ ∀ id, id ≠ 32 → id ≠ 33 → S'.1 id = S.1 id := by
  have hb := ok.2.1
  intro rem
  induction rem with
  | zero =>
    intro i k r fl S cC ht hi hk hr hfl
    obtain ⟨f, rfl⟩ : ∃ f, fl = f + 1 := ⟨fl - 1, by omega⟩
    refine ⟨sI S 32 1 (nI q), ?_, rfl, sI_at _ _ _ _, fun t _ => by rw [sI_id _ _ _ (by decide)], fun t h => absurd h (by omega), fun id h1 _ => sI_id _ _ _ h1⟩
    rw [f_X0_tellWord_L9, if_pos (by rw [nI_leI (by omega) (by omega)]; omega)]
    rfl
  | succ rem ih =>
    intro i k r fl S cC ht hi hk hr hfl
    obtain ⟨f, rfl⟩ : ∃ f, fl = f + 1 := ⟨fl - 1, by omega⟩
    have hrem : q - 1 - i = rem := by omega
    have hr63 : r < 2 ^ 63 := Nat.lt_trans hr (cnt_b d acc (by omega) k)
    have hd0 := ok.2.2 k hk 0 (by omega)
    obtain ⟨p1, p2⟩ := pk1_ok (c := fun x => cnt d acc rem (d k x)) (r := r) hr
    have step : f_X0_tellWord_L9 (f + 1) m (nI q) (lN r) (nI k) (nI i) S = f_X0_tellWord_L90 (f_X0_tellWord_L9 f) m (nI q) (lN (pk1 (fun x => cnt d acc rem (d k x)) r).2) (nI k) (nI i) (nI (pk1 (fun x => cnt d acc rem (d k x)) r).1) S := by
      rw [f_X0_tellWord_L9, if_neg (by rw [nI_leI (by omega) (by omega)]; omega)]
      simp only [vl]
      rw [k_4, pk_mul, ck_nI (by omega) (by decide), nI_clamp (by omega), show k * 4 = 4 * k + 0 by omega, cC.2.1 k hk 0 (by omega), k_1, pk_sub (by omega), pk_sub (by omega), beh (by omega) (by omega), bd2_some, ht.1 (q - 1 - i) (by omega) _ hd0, k_0, tC_pick ok cC ht hk (by omega) hq hr63, hrem]
    have hw : wsel d acc (rem + 1) k r = (pk1 (fun x => cnt d acc rem (d k x)) r).1 :: wsel d acc rem (d k (pk1 (fun x => cnt d acc rem (d k x)) r).1) (pk1 (fun x => cnt d acc rem (d k x)) r).2 := rfl
    generalize pk1 (fun x => cnt d acc rem (d k x)) r = p at p1 p2 step hw
    have hdp := ok.2.2 k hk p.1 p1
    obtain ⟨S', e, g1, g2, g3, g4, g5⟩ := ih (i + 1) (d k p.1) p.2 f (sI S 33 i (nI p.1)) (autC_cg cC (fun j hj => sI_id _ _ _ (by omega)) hm) ht (by omega) hdp p2 (by omega)

    refine ⟨S', ?_, g1, g2, fun t ht2 => ?_, fun t ht2 => ?_, fun id h1 h2 => by rw [g5 id h1 h2, sI_id _ _ _ h2]⟩
    · rw [step]
      unfold f_X0_tellWord_L90
      rw [ck_nI (by omega) (by decide), nI_clamp (by omega)]
      simp only [vl]
      rw [ixC4, ck_nI (by omega) (by decide), nI_clamp (by omega), sI_id _ _ _ (by omega), cC.2.1 k hk p.1 p1, nI_1]
      exact e
    · rw [g3 t (by omega), sI_ne _ _ (Or.inr (by omega))]
    · rw [hw]
      by_cases h0 : t = 0
      · subst h0
        rw [Nat.add_zero, g3 i (by omega), sI_at]
        rfl
      · obtain ⟨u, rfl⟩ : ∃ u, t = u + 1 := ⟨t - 1, by omega⟩
        rw [show i + (u + 1) = i + 1 + u by omega, g4 u (by omega)]
        rfl
end TELLC
