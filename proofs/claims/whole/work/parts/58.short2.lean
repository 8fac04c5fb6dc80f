section SHM
variable {s N : Nat} {fr by_ : Nat → Nat}
def orgM (S : Sg) (s N : Nat) (fr by_ : Nat → Nat) : Prop := ∀ k, 0 < k → k < N → S.1 52 (150 * s + k) = nI (fr k) ∧ S.1 53 (150 * s + k) = nI (by_ k)
theorem shM_back (hp : par fr by_ N) (hN : N ≤ 150) (hs : s < 4) : ∀ (c j fl : Nat) (S : Sg), orgM S s N fr by_ → j < N → (rp fr by_ j).length = c → c + 1 ≤ fl → ∃ S', f_X10_shortest_L64 fl (nI s) (nI c) (nI j) S = some (S.1 34 25, S') ∧ S'.2 = S.2 ∧ (∀ t, c ≤ t → S'.1 54 t = S.1 54 t) ∧ (∀ u, u < c → S'.1 54 (c - 1 - u) = nI ((rp fr by_ j).getD u 0)) ∧ ∀ id, id ≠ 54 → S'.1 id = S.1 id := by
  intro c
  induction c with
  | zero =>
    intro j fl S ho hj hl hfl
    obtain ⟨f, rfl⟩ : ∃ f, fl = f + 1 := ⟨fl - 1, by omega⟩
    have hj0 : j = 0 := by
      rcases Nat.eq_zero_or_pos j with h | h
      · exact h
      · rw [rp_s hp h hj] at hl; simp at hl
    subst hj0
    refine ⟨S, ?_, rfl, fun t _ => rfl, fun u h => absurd h (by omega), fun id _ => rfl⟩
    rw [f_X10_shortest_L64, if_pos (by decide +kernel)]
  | succ c ih =>
    intro j fl S ho hj hl hfl
    obtain ⟨f, rfl⟩ : ∃ f, fl = f + 1 := ⟨fl - 1, by omega⟩
    have hj0 : 0 < j := by
      rcases Nat.eq_zero_or_pos j with h | h
      · subst h; rw [rp_0] at hl; simp at hl
      · exact h
    have hpj := hp j hj0 hj
    have hrp := rp_s hp hj0 hj
    have hlen : c + 1 ≤ j := by rw [← hl]; exact rp_len hp j j (Nat.le_refl _) hj
    rw [hrp, List.length_cons] at hl
    have ho' : orgM (sI S 54 c (nI (by_ j))) s N fr by_ := fun k h1 h2 => by rw [sI_id _ _ _ (by decide), sI_id _ _ _ (by decide)]; exact ho k h1 h2
    obtain ⟨S', e, g1, g3, g4, g5⟩ := ih (fr j) f (sI S 54 c (nI (by_ j))) ho' (by omega) (by omega) (by omega)
    refine ⟨S', ?_, g1, fun t ht => ?_, fun u hu => ?_, fun id h1 => by rw [g5 id h1, sI_id _ _ _ h1]⟩
    · rw [f_X10_shortest_L64, if_neg (by rw [k_0, nI_leI (by omega) (by omega)]; omega)]
      simp only [vl]
      rw [pk_m1, ixM, ck_nI (by omega) (by decide), ck_nI (by omega) (by decide), nI_clamp (by omega), nI_clamp (by omega), (ho j hj0 hj).2, ck_nI (by omega) (by decide), sI_id _ _ _ (by decide), (ho j hj0 hj).1, e, sI_id _ _ _ (by decide)]
    · rw [g3 t (by omega), sI_ne _ _ (Or.inr (by omega))]
    · rw [hrp]
      by_cases h0 : u = 0
      · subst h0
        rw [show c + 1 - 1 - 0 = c by omega, g3 c (by omega), sI_at]
        rfl
      · obtain ⟨v, rfl⟩ : ∃ v, u = v + 1 := ⟨u - 1, by omega⟩
        rw [show c + 1 - 1 - (v + 1) = c - 1 - v by omega, g4 v (by omega)]
        rfl
theorem shM_len {last : Int32} (hp : par fr by_ N) (hN : N ≤ 150) (hs : s < 4) : ∀ (b j c fl : Nat) (S : Sg), j ≤ b → orgM S s N fr by_ → j < N → c + j < 300 → j + 1 ≤ fl → f_X10_shortest_L30 fl (nI s) last (nI c) (nI j) S = f_X10_shortest_L64 fu (nI s) (nI (c + (rp fr by_ j).length)) last (sI S 34 25 (nI (c + (rp fr by_ j).length))) := by
  intro b
  induction b with
  | zero =>
    intro j c fl S hb ho hj hc hfl
    obtain ⟨f, rfl⟩ : ∃ f, fl = f + 1 := ⟨fl - 1, by omega⟩
    have : j = 0 := by omega
    subst this
    rw [f_X10_shortest_L30, if_pos (by decide +kernel), rp_0]
    simp only [vl, List.length_nil, Nat.add_zero]
  | succ b ih =>
    intro j c fl S hb ho hj hc hfl
    obtain ⟨f, rfl⟩ : ∃ f, fl = f + 1 := ⟨fl - 1, by omega⟩
    by_cases hj0 : j = 0
    · subst hj0
      rw [f_X10_shortest_L30, if_pos (by decide +kernel), rp_0]
      simp only [vl, List.length_nil, Nat.add_zero]
    · have hpj := hp j (by omega) hj
      rw [f_X10_shortest_L30, if_neg (by rw [k_0, nI_leI (by omega) (by omega)]; omega)]
      simp only [vl]
      rw [ixM, ck_nI (by omega) (by decide), nI_clamp (by omega), (ho j (by omega) hj).1, nI_1, ih (fr j) (c + 1) f S (by omega) ho (by omega) (by omega) (by omega), rp_s hp (by omega) hj, List.length_cons, show c + 1 + (rp fr by_ (fr j)).length = c + ((rp fr by_ (fr j)).length + 1) by omega]
end SHM
theorem nIm {j : Nat} (h : j < 2 ^ 31) : ¬ nI j = (-1 : Int32) := by
  intro e
  have := congrArg Int32.toInt e
  rw [nI_toInt h] at this
  have h2 : (-1 : Int32).toInt = -1 := by decide +kernel
  omega
theorem vl_d {α β : Type} (e : α) (K : α → β) : vl e K = K e := rfl
theorem faI_s (k : Nat) : faI (some k) = nI k := rfl
theorem faI_n : faI none = (-1 : Int32) := rfl
theorem ok_shortest : OK_shortest Inv := by
  intro n S a hI
  rcases slotC hI.2.2.2.1 a with ⟨h1, h2⟩ | ⟨s, m, hs, rfl, hm, -, ⟨N, P, d, acc, fr, by_, ok, cC, cM, -, -, -, -, -, hor, -⟩, h1, h2⟩
  · refine ⟨-1, S, S, ?_, ?_, hI⟩
    · unfold f_X9_shortest; rw [h1]; rfl
    · unfold f_X10_shortest; rw [h2, bd2_some, if_pos rfl]; unfold f_X10_shortest_L17; rw [vl_d, if_pos rfl]
  · have hb := ok.2.1
    have h0 := ok.1
    have hp : par fr by_ N := fun k k1 k2 => ⟨(hor k k1 k2).1, (hor k k1 k2).2.1⟩
    have oC : orgC S m N fr by_ := fun k k1 k2 => (hor k k1 k2).2.2.1
    have oM : orgM S s N fr by_ := fun k k1 k2 => (hor k k1 k2).2.2.2
    cases hf : fa acc N 0 with
    | none =>
      refine ⟨-1, S, S, ?_, ?_, hI⟩
      · unfold f_X9_shortest; rw [h1, bd2_some, nu_some hm, firstC_eq ok cC, hf, faI_n, bd2_some]; rw [vl_d, if_pos rfl]
      · unfold f_X10_shortest; rw [h2, bd2_some, if_neg n10, firstM_eq ok cM hs, hf, faI_n, bd2_some]; unfold f_X10_shortest_L17; rw [vl_d, if_pos rfl]
    | some k =>
      have hk : k < N := by have := fa_lt _ _ _ hf; omega
      obtain ⟨j, hj, hmj⟩ := okM_s hm
      obtain ⟨S1, e1, u1, u2, u4, u5⟩ := traceM_eq hp hb (by omega) oC hk
      have hl := rp_len hp k k (Nat.le_refl _) hk
      have cM1 : autM S1 s N d acc := autM_cg cM (fun i i1 i2 => u5 i (by omega) (by omega))
      have oM1 : orgM (sI S1 34 25 (nI (rp fr by_ k).length)) s N fr by_ := fun i i1 i2 => by
        rw [sI_id _ _ _ (by decide), sI_id _ _ _ (by decide), u5 52 (by decide) (by decide), u5 53 (by decide) (by decide)]; exact oM i i1 i2
      obtain ⟨S2, e2, v1, v3, v4, v5⟩ := shM_back hp hb hs (rp fr by_ k).length k fu (sI S1 34 25 (nI (rp fr by_ k).length)) oM1 hk rfl (by unfold fu; omega)
      refine ⟨nI (rp fr by_ k).length, S1, S2, ?_, ?_, ?_⟩
      · unfold f_X9_shortest
        rw [h1, bd2_some, nu_some hm, firstC_eq ok cC, hf, faI_s, bd2_some]
        rw [vl_d, if_neg (nIm (j := k) (by omega)), e1, bd_some, u2]
      · unfold f_X10_shortest
        rw [has_ok hs cM1.1 h0 hb, bd2_some, if_neg n10, firstM_eq ok cM1 hs, hf, faI_s, bd2_some]
        unfold f_X10_shortest_L17
        rw [vl_d, if_neg (nIm (j := k) (by omega)), vl_d, vl_d, k_0, shM_len hp hb hs k k 0 fu S1 (Nat.le_refl _) (fun i i1 i2 => by rw [u5 52 (by decide) (by decide), u5 53 (by decide) (by decide)]; exact oM i i1 i2) hk (by omega) (by unfold fu; omega), Nat.zero_add, e2, sI_at]
      · have w22 : S2.2.2 = S.2.2 := by rw [v1]; show S1.2.2 = S.2.2; rw [u1]
        refine Inv_told (q := (rp fr by_ k).length) (w := fun t => nI ((rp fr by_ k).getD ((rp fr by_ k).length - 1 - t) 0)) hI w22 (by omega) ?_ ?_ ?_ ?_ ?_ ?_
        · rw [v5 32 (by decide), sI_id _ _ _ (by decide)]; exact u2
        · rw [v5 34 (by decide), sI_at]
        · intro t ht
          rw [v5 33 (by decide), sI_id _ _ _ (by decide)]
          have := u4 ((rp fr by_ k).length - 1 - t) (by omega)
          rw [show (rp fr by_ k).length - 1 - ((rp fr by_ k).length - 1 - t) = t by omega] at this
          exact this
        · intro t ht
          have := v4 ((rp fr by_ k).length - 1 - t) (by omega)
          rw [show (rp fr by_ k).length - 1 - ((rp fr by_ k).length - 1 - t) = t by omega] at this
          exact this
        · intro c hc
          rw [v5 34 (by decide), sI_ne _ _ (Or.inr hc), u5 34 (by decide) (by decide)]
        · intro id hid
          rw [v5 id (by omega), sI_id _ _ _ (by omega), u5 id (by omega) (by omega)]
