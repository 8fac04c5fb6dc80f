section TRACED
variable {N : Nat} {fr by_ : Nat → Nat}
def orgD (S : Sg) (N : Nat) (fr by_ : Nat → Nat) : Prop := ∀ k, 0 < k → k < N → S.1 31 k = nI (4 * fr k + by_ k)
theorem trD_back (hp : par fr by_ N) (hN : N ≤ 300) {x3 : Int32} : ∀ (c j fl : Nat) (S : Sg), orgD S N fr by_ → j < N → (rp fr by_ j).length = c → c + 1 ≤ fl → ∃ S', f_X8_trace_d_L41 fl x3 (nI j) (nI c - 1) S = some S' ∧ S'.2 = S.2 ∧ S'.1 32 1 = x3 ∧ (∀ t, c ≤ t → S'.1 33 t = S.1 33 t) ∧ (∀ u, u < c → S'.1 33 (c - 1 - u) = nI ((rp fr by_ j).getD u 0)) ∧ ∀ id, id ≠ 32 → id ≠ 33 → S'.1 id = S.1 id := by
  intro c
  induction c with
  | zero =>
    intro j fl S ho hj hl hfl
    obtain ⟨f, rfl⟩ : ∃ f, fl = f + 1 := ⟨fl - 1, by omega⟩
    refine ⟨sI S 32 1 x3, ?_, rfl, sI_at _ _ _ _, fun t _ => by rw [sI_id _ _ _ (by decide)], fun u h => absurd h (by omega), fun id h1 _ => sI_id _ _ _ h1⟩
    rw [f_X8_trace_d_L41, if_pos nI_0m1]
    rfl
  | succ c ih =>
    intro j fl S ho hj hl hfl
    obtain ⟨f, rfl⟩ : ∃ f, fl = f + 1 := ⟨fl - 1, by omega⟩
    have hj0 : 0 < j := by
      rcases Nat.eq_zero_or_pos j with h | h
      · subst h; rw [rp_0] at hl; simp at hl
      · exact h
    have hpj := hp j hj0 hj
    have hrp := rp_s hp hj0 hj
    have hlen : c + 1 ≤ j := by rw [← hl]; exact rp_len hp j j (Nat.le_refl _) hj
    rw [hrp, List.length_cons] at hl
    have ho' : orgD (sI S 33 c (nI (by_ j))) N fr by_ := fun k h1 h2 => by rw [sI_id _ _ _ (by decide)]; exact ho k h1 h2
    obtain ⟨S', e, g1, g2, g3, g4, g5⟩ := ih (fr j) f (sI S 33 c (nI (by_ j))) ho' (by omega) (by omega) (by omega)
    refine ⟨S', ?_, g1, g2, fun t ht => ?_, fun u hu => ?_, fun id h1 h2 => by rw [g5 id h1 h2, sI_id _ _ _ h2]⟩
    · have hr := remd (a := 4 * fr j + by_ j) (by omega)
      rw [f_X8_trace_d_L41, k_1, pk_sub (by omega), Nat.add_sub_cancel, if_neg (nI_pos (by omega)), ck_nI (by omega) (by decide), nz4, ck_nI (by omega) (by decide), nI_clamp (by omega), nI_clamp (by omega), ho j hj0 hj, hr.1, show (4 * fr j + by_ j) % 4 = by_ j by omega]
      simp only [vl]
      rw [ck_nI (by omega) (by decide), nz4, sI_id _ _ _ (by decide), ho j hj0 hj, hr.2, show (4 * fr j + by_ j) / 4 = fr j by omega, ← k_1, nI_m1]
      exact e
    · rw [g3 t (by omega), sI_ne _ _ (Or.inr (by omega))]
    · rw [hrp]
      by_cases h0 : u = 0
      · subst h0
        rw [show c + 1 - 1 - 0 = c by omega, g3 c (by omega), sI_at]
        rfl
      · obtain ⟨v, rfl⟩ : ∃ v, u = v + 1 := ⟨u - 1, by omega⟩
        rw [show c + 1 - 1 - (v + 1) = c - 1 - v by omega, g4 v (by omega)]
        rfl
theorem trD_len {last : Int32} (hp : par fr by_ N) (hN : N ≤ 300) : ∀ (b j c fl : Nat) (S : Sg), j ≤ b → orgD S N fr by_ → j < N → c + j < 300 → j + 1 ≤ fl → f_X8_trace_d_L5 fl last (nI c) (nI j) S = f_X8_trace_d_L41 fu (nI (c + (rp fr by_ j).length)) last (nI (c + (rp fr by_ j).length) - 1) S := by
  intro b
  induction b with
  | zero =>
    intro j c fl S hb ho hj hc hfl
    obtain ⟨f, rfl⟩ : ∃ f, fl = f + 1 := ⟨fl - 1, by omega⟩
    have : j = 0 := by omega
    subst this
    rw [f_X8_trace_d_L5, if_pos (by decide +kernel), rp_0]
    simp only [vl, List.length_nil, Nat.add_zero]
  | succ b ih =>
    intro j c fl S hb ho hj hc hfl
    obtain ⟨f, rfl⟩ : ∃ f, fl = f + 1 := ⟨fl - 1, by omega⟩
    by_cases hj0 : j = 0
    · subst hj0
      rw [f_X8_trace_d_L5, if_pos (by decide +kernel), rp_0]
      simp only [vl, List.length_nil, Nat.add_zero]
    · have hpj := hp j (by omega) hj
      have hr := remd (a := 4 * fr j + by_ j) (by omega)
      rw [f_X8_trace_d_L5, if_neg (by rw [k_0, nI_leI (by omega) (by omega)]; omega), if_neg (by rw [show (300 : Int32) = nI 300 by decide +kernel, nI_leI (by omega) (by omega)]; omega), ck_nI (by omega) (by decide), nz4, nI_clamp (by omega), ho j (by omega) hj, hr.2, show (4 * fr j + by_ j) / 4 = fr j by omega]
      simp only [vl]
      rw [nI_1, ih (fr j) (c + 1) f S (by omega) ho (by omega) (by omega) (by omega), rp_s hp (by omega) hj, List.length_cons, show c + 1 + (rp fr by_ (fr j)).length = c + ((rp fr by_ (fr j)).length + 1) by omega]
theorem traceD_eq {S : Sg} {k : Nat} (hp : par fr by_ N) (hN : N ≤ 300) (ho : orgD S N fr by_) (hk : k < N) : ∃ S', f_X8_trace_d (nI k) S = some S' ∧ S'.2 = S.2 ∧ S'.1 32 1 = nI (rp fr by_ k).length ∧ (∀ u, u < (rp fr by_ k).length → S'.1 33 ((rp fr by_ k).length - 1 - u) = nI ((rp fr by_ k).getD u 0)) ∧ ∀ id, id ≠ 32 → id ≠ 33 → S'.1 id = S.1 id := by
  have hl := rp_len hp k k (Nat.le_refl _) hk
  obtain ⟨S', e, g1, g2, -, g4, g5⟩ := trD_back (x3 := nI (rp fr by_ k).length) hp hN (rp fr by_ k).length k fu S ho hk rfl (by unfold fu; omega)
  refine ⟨S', ?_, g1, g2, g4, g5⟩
  unfold f_X8_trace_d
  simp only [vl]
  rw [k_0, trD_len hp hN k k 0 fu S (Nat.le_refl _) ho hk (by omega) (by unfold fu; omega), Nat.zero_add]
  exact e
end TRACED
