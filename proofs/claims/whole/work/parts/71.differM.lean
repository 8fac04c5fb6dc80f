section DFM
variable {N : Nat} {fr by_ : Nat → Nat}
def orgQ (S : Sg) (c : Nat) (fr by_ : Nat → Nat) : Prop := ∀ k, 0 < k → k < c → S.1 76 k = nI (fr k) ∧ S.1 77 k = nI (by_ k)
theorem dfM_back (hp : par fr by_ N) (hN : N ≤ 22500) : ∀ (c j fl : Nat) (S : Sg), orgQ S N fr by_ → j < N → (rp fr by_ j).length = c → c + 1 ≤ fl → ∃ S', f_X10_differ_L118 fl (nI c) (nI j) S = some (S.1 34 25, S') ∧ S'.2 = S.2 ∧ (∀ t, c ≤ t → S'.1 54 t = S.1 54 t) ∧ (∀ u, u < c → S'.1 54 (c - 1 - u) = nI ((rp fr by_ j).getD u 0)) ∧ ∀ id, id ≠ 54 → S'.1 id = S.1 id := by
  intro c
  induction c with
  | zero =>
    intro j fl S ho hj hl hfl
    obtain ⟨f, rfl⟩ : ∃ f, fl = f + 1 := ⟨fl - 1, by omega⟩
    have hj0 : j = 0 := by
      rcases Nat.eq_zero_or_pos j with h | h
      · exact h
      · rw [rp_s hp h hj] at hl; simp at hl
    subst hj0
    refine ⟨S, ?_, rfl, fun t _ => rfl, fun u h => absurd h (by omega), fun id _ => rfl⟩
    rw [f_X10_differ_L118, if_pos (by decide +kernel)]
  | succ c ih =>
    intro j fl S ho hj hl hfl
    obtain ⟨f, rfl⟩ : ∃ f, fl = f + 1 := ⟨fl - 1, by omega⟩
    have hj0 : 0 < j := by
      rcases Nat.eq_zero_or_pos j with h | h
      · subst h; rw [rp_0] at hl; simp at hl
      · exact h
    have hpj := hp j hj0 hj
    have hrp := rp_s hp hj0 hj
    have hlen : c + 1 ≤ j := by rw [← hl]; exact rp_len hp j j (Nat.le_refl _) hj
    rw [hrp, List.length_cons] at hl
    have ho' : orgQ (sI S 54 c (nI (by_ j))) N fr by_ := fun k h1 h2 => by rw [sI_id _ _ _ (by decide), sI_id _ _ _ (by decide)]; exact ho k h1 h2
    obtain ⟨S', e, g1, g3, g4, g5⟩ := ih (fr j) f (sI S 54 c (nI (by_ j))) ho' (by omega) (by omega) (by omega)
    refine ⟨S', ?_, g1, fun t ht => ?_, fun u hu => ?_, fun id h1 => by rw [g5 id h1, sI_id _ _ _ h1]⟩
    · rw [f_X10_differ_L118, if_neg (by rw [k_0, nI_leI (by omega) (by omega)]; omega), vl_d, pk_m1, ck_nI (by omega) (by decide), ck_nI (by omega) (by decide), nI_clamp (by omega), nI_clamp (by omega), (ho j hj0 hj).2, vl_d, ck_nI (by omega) (by decide), sI_id _ _ _ (by decide), (ho j hj0 hj).1, vl_d, e, sI_id _ _ _ (by decide)]
    · rw [g3 t (by omega), sI_ne _ _ (Or.inr (by omega))]
    · rw [hrp]
      by_cases h0 : u = 0
      · subst h0
        rw [show c + 1 - 1 - 0 = c by omega, g3 c (by omega), sI_at]
        rfl
      · obtain ⟨v, rfl⟩ : ∃ v, u = v + 1 := ⟨u - 1, by omega⟩
        rw [show c + 1 - 1 - (v + 1) = c - 1 - v by omega, g4 v (by omega)]
        rfl
theorem dfM_len {last : Int32} (hp : par fr by_ N) (hN : N ≤ 22500) : ∀ (b j c fl : Nat) (S : Sg), j ≤ b → orgQ S N fr by_ → j < N → c + j < 22600 → j + 1 ≤ fl → f_X10_differ_L89 fl last (nI c) (nI j) S = f_X10_differ_L118 fu (nI (c + (rp fr by_ j).length)) last (sI S 34 25 (nI (c + (rp fr by_ j).length))) := by
  intro b
  induction b with
  | zero =>
    intro j c fl S hb ho hj hc hfl
    obtain ⟨f, rfl⟩ : ∃ f, fl = f + 1 := ⟨fl - 1, by omega⟩
    have : j = 0 := by omega
    subst this
    rw [f_X10_differ_L89, if_pos (by decide +kernel), rp_0, vl_d, vl_d, List.length_nil, Nat.add_zero]
  | succ b ih =>
    intro j c fl S hb ho hj hc hfl
    obtain ⟨f, rfl⟩ : ∃ f, fl = f + 1 := ⟨fl - 1, by omega⟩
    by_cases hj0 : j = 0
    · subst hj0
      rw [f_X10_differ_L89, if_pos (by decide +kernel), rp_0, vl_d, vl_d, List.length_nil, Nat.add_zero]
    · have hpj := hp j (by omega) hj
      rw [f_X10_differ_L89, if_neg (by rw [k_0, nI_leI (by omega) (by omega)]; omega), vl_d, ck_nI (by omega) (by decide), nI_clamp (by omega), (ho j (by omega) hj).1, vl_d, nI_1, ih (fr j) (c + 1) f S (by omega) ho (by omega) (by omega) (by omega), rp_s hp (by omega) hj, List.length_cons, show c + 1 + (rp fr by_ (fr j)).length = c + ((rp fr by_ (fr j)).length + 1) by omega]
end DFM
theorem rev_getD (l : List Nat) {t : Nat} (h : t < l.length) : l.reverse.getD t 0 = l.getD (l.length - 1 - t) 0 := by
  rw [List.getD_eq_getElem?_getD, List.getD_eq_getElem?_getD, List.getElem?_reverse h]
section DFM2
variable {s1 s2 N1 N2 : Nat} {d1 d2 : Nat → Nat → Nat} {acc1 acc2 : Nat → Bool}
theorem dfM_scan {S : Sg} {c t : Nat} {q fr by_ : Nat → Nat} (o1 : autOk N1 d1) (o2 : autOk N2 d2) (h1 : s1 < 4) (h2 : s2 < 4) (m1 : autM S s1 N1 d1 acc1) (m2 : autM S s2 N2 d2 acc2) (hb : bfs N1 N2 d1 d2 c t q fr by_) (hS : bfsS S c q fr by_) : ∀ (r i fl : Nat), i + r = c → r + 1 ≤ fl → (∀ j, j < i → acc1 (q j / 150) = acc2 (q j % 150)) → ∃ k, k ≤ c ∧ f_X10_differ_L26 fl (nI s1) (nI s2) (nI i) S = f_X10_differ_L73 (nI k) S ∧ (∀ j, j < k → acc1 (q j / 150) = acc2 (q j % 150)) ∧ (k < c → acc1 (q k / 150) ≠ acc2 (q k % 150)) := by
  have b1 := o1.2.1
  have b2 := o2.2.1
  have hcb := c_bound hb
  intro r
  induction r with
  | zero =>
    intro i fl hi hfl hv
    obtain ⟨f, rfl⟩ : ∃ f, fl = f + 1 := ⟨fl - 1, by omega⟩
    refine ⟨i, by omega, ?_, hv, fun h => absurd h (by omega)⟩
    rw [f_X10_differ_L26, hS.1, if_pos (by rw [nI_leI (by omega) (by omega)]; omega)]
  | succ r ih =>
    intro i fl hi hfl hv
    obtain ⟨f, rfl⟩ : ∃ f, fl = f + 1 := ⟨fl - 1, by omega⟩
    obtain ⟨p1, p2⟩ := hb.2.1 i (by omega)
    have hdm := dm150 (a := q i) (by omega)
    have head : f_X10_differ_L26 (f + 1) (nI s1) (nI s2) (nI i) S = if bI (acc1 (q i / 150)) = bI (acc2 (q i % 150)) then f_X10_differ_L26 f (nI s1) (nI s2) (nI (i + 1)) S else f_X10_differ_L73 (nI i) S := by
      rw [f_X10_differ_L26, hS.1, if_neg (by rw [nI_leI (by omega) (by omega)]; omega), ck_nI (by omega) (by decide), nz150, nI_clamp (by omega), hS.2.1 i (by omega), hdm.1, isAcc_eq h1 (by have := p1.1; omega) (m1.2.2 _ p1.1), bd2_some, ck_nI (by omega) (by decide), nz150, hS.2.1 i (by omega), hdm.2, isAcc_eq h2 (by have := p1.2; omega) (m2.2.2 _ p1.2), bd2_some, vl_d, nI_1]
    rw [head]
    by_cases h : acc1 (q i / 150) = acc2 (q i % 150)
    · rw [if_pos (by rw [h])]
      exact ih (i + 1) f (by omega) (by omega) (fun j hj => by
        rcases (show j < i ∨ j = i by omega) with z | rfl
        · exact hv j z
        · exact h)
    · rw [if_neg (by cases ha : acc1 (q i / 150) <;> cases hb2 : acc2 (q i % 150) <;> first | (rw [ha, hb2] at h; exact absurd rfl h) | decide)]
      exact ⟨i, by omega, rfl, hv, fun _ => h⟩
/-- differ() of the reference -/
theorem differM_eq {S : Sg} (o1 : autOk N1 d1) (o2 : autOk N2 d2) (h1 : s1 < 4) (h2 : s2 < 4) (m1 : autM S s1 N1 d1 acc1) (m2 : autM S s2 N2 d2 acc2) : (∃ S', f_X10_differ (nI s1) (nI s2) S = some (-1, S') ∧ frW S S' ∧ ∀ u, let4 u → ¬ dif d1 d2 acc1 acc2 u) ∨ ∃ w S', isFirst d1 d2 acc1 acc2 w ∧ f_X10_differ (nI s1) (nI s2) S = some (nI w.length, S') ∧ S'.2 = S.2 ∧ S'.1 34 25 = nI w.length ∧ (∀ t, t < w.length → S'.1 54 t = nI (w.getD t 0)) ∧ (∀ id, id ≠ 34 → id ≠ 54 → id ≠ 75 → id ≠ 76 → id ≠ 77 → id ≠ 78 → S'.1 id = S.1 id) ∧ ∀ b, b ≠ 58 → b ≠ 25 → S'.1 34 b = S.1 34 b := by
  obtain ⟨S1, c, q, fr, by_, e, w1, w2, w3⟩ := walks_eq o1 o2 h1 h2 m1 m2
  have hcb := c_bound w2
  obtain ⟨k, hkc, e2, hall, hne⟩ := dfM_scan o1 o2 h1 h2 (autM_W m1 w1) (autM_W m2 w1) w2 w3 c 0 fu (by omega) (by unfold fu; omega) (fun j hj => absurd hj (by omega))
  have head : f_X10_differ (nI s1) (nI s2) S = f_X10_differ_L73 (nI k) S1 := by
    unfold f_X10_differ
    rw [has_ok h1 m1.1 o1.1 o1.2.1, bd2_some, if_neg n10, has_ok h2 m2.1 o2.1 o2.2.1, bd2_some, if_neg n10, e, bd_some, vl_d, k_0]
    exact e2
  by_cases hk : k < c
  · have hf := first_M o1 o2 w2 hk (hne hk) hall
    have hp := bfs_par w2
    have hl := rp_len hp k k (Nat.le_refl _) hk
    have ho : orgQ S1 c fr by_ := fun i i0 i1 => w3.2.2.1 i i0 i1
    have ho2 : orgQ (sI S1 34 25 (nI (rp fr by_ k).length)) c fr by_ := fun i i0 i1 => by rw [sI_id _ _ _ (by decide), sI_id _ _ _ (by decide)]; exact ho i i0 i1
    obtain ⟨S2, e3, g1, g3, g4, g5⟩ := dfM_back hp hcb (rp fr by_ k).length k fu (sI S1 34 25 (nI (rp fr by_ k).length)) ho2 hk rfl (by unfold fu; omega)
    have hwl : (wrd fr by_ k).length = (rp fr by_ k).length := by unfold wrd; rw [List.length_reverse]
    refine Or.inr ⟨wrd fr by_ k, S2, hf, ?_, by rw [g1]; exact w1.1, ?_, fun t ht => ?_, fun id a1 a2 a3 a4 a5 a6 => ?_, fun b hb hb2 => ?_⟩
    · rw [head]
      unfold f_X10_differ_L73
      rw [w3.1, if_neg (by rw [nI_eq (by omega) (by omega)]; omega), vl_d, vl_d, k_0, dfM_len hp hcb k k 0 fu S1 (Nat.le_refl _) ho hk (by omega) (by unfold fu; omega), Nat.zero_add, e3, sI_at, hwl]
    · rw [g5 34 (by decide), sI_at, hwl]
    · rw [hwl] at ht
      have := g4 ((rp fr by_ k).length - 1 - t) (by omega)
      rw [show (rp fr by_ k).length - 1 - ((rp fr by_ k).length - 1 - t) = t by omega] at this
      unfold wrd
      rw [this, rev_getD _ ht]
    · rw [g5 id a2, sI_id _ _ _ a1]
      exact w1.2.1 id a1 a3 a4 a5 a6
    · rw [g5 34 (by decide), sI_ne _ _ (Or.inr hb2)]
      exact w1.2.2 b hb
  · have hkc2 : k = c := by omega
    subst hkc2
    refine Or.inl ⟨S1, ?_, w1, fun u hu => none_M o1 o2 w2 hall u hu⟩
    rw [head]
    unfold f_X10_differ_L73
    rw [w3.1, if_pos rfl]
end DFM2
