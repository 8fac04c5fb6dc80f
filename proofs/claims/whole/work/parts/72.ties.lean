theorem k_300 : (300 : Int32) = nI 300 := by decide +kernel
section TIES
/-- ties: who was tied when; the groups' heads -/
def uf (S : Sg) (c : Nat) (t ρ root g : Nat → Nat) : Prop := c ≤ 300 ∧ (∀ x, x < 300 → S.1 28 x = nI (t x) ∧ t x < 300 ∧ ((t x = x ∧ ρ x = 300 ∧ root x = x) ∨ (t x ≠ x ∧ ρ x < c ∧ ρ x < ρ (t x) ∧ root (t x) = root x))) ∧ ∀ i, i < c → g i < 300 ∧ ρ (g i) = i
theorem grp_L {c : Nat} {ρ root g : Nat → Nat} : ∀ (r k fl : Nat) (S : Sg) (t : Nat → Nat) (x : Nat), k + r = 300 → r + 1 ≤ fl → k ≤ ρ x → x < 300 → uf S c t ρ root g → ∃ S' t', f_X1_groupOf_L4 fl (nI x) (nI k) S = some (nI (root x), S') ∧ uf S' c t' ρ root g ∧ S'.2 = S.2 ∧ (∀ id, id ≠ 28 → S'.1 id = S.1 id) ∧ root x < 300 ∧ root (root x) = root x ∧ ρ (root x) = 300 := by
  intro r
  induction r with
  | zero =>
    intro k fl S t x hk hfl hr hx hu
    obtain ⟨f, rfl⟩ : ∃ f, fl = f + 1 := ⟨fl - 1, by omega⟩
    obtain ⟨u1, u2, u3⟩ := hu.2.1 x hx
    have hc := hu.1
    rcases u3 with ⟨z1, z2, z3⟩ | ⟨z1, z2, z3, z4⟩
    · refine ⟨S, t, ?_, hu, rfl, fun _ _ => rfl, by omega, by rw [z3, z3], by rw [z3, z2]⟩
      rw [f_X1_groupOf_L4, k_300, if_pos (by rw [nI_leI (by omega) (by omega)]; omega), z3]
    · omega
  | succ r ih =>
    intro k fl S t x hk hfl hr hx hu
    obtain ⟨f, rfl⟩ : ∃ f, fl = f + 1 := ⟨fl - 1, by omega⟩
    obtain ⟨u1, u2, u3⟩ := hu.2.1 x hx
    obtain ⟨v1, v2, v3⟩ := hu.2.1 (t x) u2
    rcases u3 with ⟨z1, z2, z3⟩ | ⟨z1, z2, z3, z4⟩
    · refine ⟨S, t, ?_, hu, rfl, fun _ _ => rfl, by omega, by rw [z3, z3], by rw [z3, z2]⟩
      rw [f_X1_groupOf_L4, k_300, if_neg (by rw [nI_leI (by omega) (by omega)]; omega), ck_nI hx (by decide), nI_clamp (by omega), if_pos (by rw [u1, z1]), z3]
    · have hm : ρ (t x) ≤ ρ (t (t x)) := by
        rcases v3 with ⟨y1, -⟩ | ⟨-, -, y3, -⟩
        · rw [y1]; exact Nat.le_refl _
        · omega
      have hne : t (t x) ≠ x := fun e => by rw [e] at hm; omega
      have hro : root (t (t x)) = root x := by
        rcases v3 with ⟨y1, -⟩ | ⟨-, -, -, y4⟩
        · rw [y1, z4]
        · rw [y4, z4]
      have hu' : uf (sI S 28 x (nI (t (t x)))) c (fun y => if y = x then t (t x) else t y) ρ root g := by
        refine ⟨hu.1, fun y hy => ?_, hu.2.2⟩
        by_cases e : y = x
        · subst e
          show _ ∧ (if y = y then t (t y) else t y) < 300 ∧ _
          rw [sI_at]
          simp only [if_true]
          exact ⟨trivial, v2, Or.inr ⟨hne, z2, by omega, hro⟩⟩
        · rw [sI_ne _ _ (Or.inr e)]
          simp only [if_neg e]
          exact hu.2.1 y hy
      obtain ⟨S', t', e, w1, w2, w3, w4, w5, w6⟩ := ih (k + 1) f _ _ (t (t x)) (by omega) (by omega) (by omega) v2 hu'
      rw [hro] at e w4 w5 w6
      refine ⟨S', t', ?_, w1, by rw [w2]; rfl, fun id h => by rw [w3 id h, sI_id _ _ _ h], w4, w5, w6⟩
      rw [f_X1_groupOf_L4, k_300, if_neg (by rw [nI_leI (by omega) (by omega)]; omega), ck_nI hx (by decide), nI_clamp (by omega), if_neg (by rw [u1, nI_eq (by omega) (by omega)]; exact z1), ck_nI hx (by decide), u1, ck_nI u2 (by decide), nI_clamp (by omega), v1, ck_nI hx (by decide), vl_d, ck_nI hx (by decide), sI_at, vl_d, vl_d, nI_1]
      exact e
theorem grp {c : Nat} {ρ root g t : Nat → Nat} {S : Sg} {x : Nat} (hx : x < 300) (hu : uf S c t ρ root g) : ∃ S' t', f_X1_groupOf (nI x) S = some (nI (root x), S') ∧ uf S' c t' ρ root g ∧ S'.2 = S.2 ∧ (∀ id, id ≠ 28 → S'.1 id = S.1 id) ∧ root x < 300 ∧ root (root x) = root x ∧ ρ (root x) = 300 := by
  obtain ⟨S', t', e, w⟩ := grp_L 300 0 fu S t x (by omega) (by unfold fu; omega) (by omega) hx hu
  refine ⟨S', t', ?_, w⟩
  unfold f_X1_groupOf
  rw [vl_d, vl_d, k_0]
  exact e
theorem uf_bound {c : Nat} {ρ root g t : Nat → Nat} {S : Sg} (hu : uf S c t ρ root g) {p q : Nat} (hp : p < 300) (hq : q < 300) (rp : ρ p = 300) (rq : ρ q = 300) (hne : p ≠ q) : c + 2 ≤ 300 := by
  rcases Nat.lt_or_ge c 299 with h | h
  · omega
  exfalso
  obtain ⟨i, j, hij, hj, e⟩ := pigeon 300 (fun i => if i < 299 then g i else if i = 299 then p else q) (fun i hi => by
    show (if i < 299 then g i else if i = 299 then p else q) < 300
    by_cases h1 : i < 299
    · rw [if_pos h1]; exact (hu.2.2 i (by omega)).1
    · rw [if_neg h1]
      by_cases h2 : i = 299
      · rw [if_pos h2]; exact hp
      · rw [if_neg h2]; exact hq)
  have e : (if i < 299 then g i else if i = 299 then p else q) = (if j < 299 then g j else if j = 299 then p else q) := e
  by_cases h1 : i < 299
  · have gi := (hu.2.2 i (by omega)).2
    rw [if_pos h1] at e
    by_cases h2 : j < 299
    · have gj := (hu.2.2 j (by omega)).2
      rw [if_pos h2] at e
      rw [e] at gi
      omega
    · rw [if_neg h2] at e
      by_cases h3 : j = 299
      · rw [if_pos h3] at e; rw [e] at gi; omega
      · rw [if_neg h3] at e; rw [e] at gi; omega
  · rw [if_neg h1, if_pos (by omega : i = 299), if_neg (by omega), if_neg (by omega)] at e
    exact hne e
theorem tie_eq {c : Nat} {ρ root g t : Nat → Nat} {S : Sg} (hu : uf S c t ρ root g) (hc : S.1 27 4 = nI c) {a b : Nat} (ha : a < 150) (hb : b < 150) (o : Int32) :
    (root a = root (150 + b) ∧ ∃ S' t', f_X1_tiePair (nI a) (nI b) o S = some S' ∧ uf S' c t' ρ root g ∧ S'.2 = S.2 ∧ ∀ id, id ≠ 28 → S'.1 id = S.1 id) ∨
    (root (root a) = root a ∧ root (root (150 + b)) = root (150 + b) ∧ root a < 300 ∧ c < 300 ∧ ∃ S' t' ρ' g', f_X1_tiePair (nI a) (nI b) o S = some S' ∧ uf S' (c + 1) t' ρ' (fun y => if root y = root a then root (150 + b) else root y) g' ∧ S'.2 = S.2 ∧ S'.1 27 4 = nI (c + 1) ∧ S'.1 29 c = nI a ∧ S'.1 30 c = nI b ∧ S'.1 31 c = o ∧ (∀ i, i ≠ c → S'.1 29 i = S.1 29 i ∧ S'.1 30 i = S.1 30 i ∧ S'.1 31 i = S.1 31 i) ∧ ∀ id, id < 27 ∨ 31 < id → S'.1 id = S.1 id) := by
  obtain ⟨S1, t1, e1, w1, w2, w3, w4, w5, w6⟩ := grp (x := a) (by omega) hu
  obtain ⟨S2, t2, e2, y1, y2, y3, y4, y5, y6⟩ := grp (x := 150 + b) (by omega) w1
  have hc2 : S2.1 27 4 = nI c := by rw [y3 27 (by decide), w3 27 (by decide), hc]
  have head : f_X1_tiePair (nI a) (nI b) o S = if nI (root a) = nI (root (150 + b)) then some S2 else (if nI c < nI 300 then ck (nI (root a)) 300 (vl (sI S2 28 (root a) (nI (root (150 + b)))) (fun S_7 => ck ((S_7.1 27 4)) 300 (vl (sI S_7 29 (Int32.toNatClampNeg ((S_7.1 27 4))) (nI a)) (fun S_8 => ck ((S_8.1 27 4)) 300 (vl (sI S_8 30 (Int32.toNatClampNeg ((S_8.1 27 4))) (nI b)) (fun S_9 => ck ((S_9.1 27 4)) 300 (vl (sI S_9 31 (Int32.toNatClampNeg ((S_9.1 27 4))) o) (fun S_10 => vl (sI S_10 27 4 (((S_10.1 27 4) + (1 : Int32)))) (fun S_11 => some S_11))))))))) else some S2) := by
    unfold f_X1_tiePair
    rw [e1, bd2_some, vl_d, k_150, nI_add, e2, bd2_some, vl_d, hc2, k_300, nI_clamp (by omega)]
  by_cases h : root a = root (150 + b)
  · refine Or.inl ⟨h, S2, t2, ?_, y1, by rw [y2, w2], fun id hid => by rw [y3 id hid, w3 id hid]⟩
    rw [head, if_pos (by rw [h])]
  · have hbd := uf_bound y1 w4 y4 w6 y6 h
    refine Or.inr ⟨w5, y5, w4, by omega, ?_⟩
    generalize hra : root a = ra at *
    generalize hrb : root (150 + b) = rb at *
    refine ⟨sI (sI (sI (sI (sI S2 28 ra (nI rb)) 29 c (nI a)) 30 c (nI b)) 31 c o) 27 4 (nI (c + 1)), fun y => if y = ra then rb else t2 y, fun y => if y = ra then c else ρ y, fun i => if i = c then ra else g i, ?_, ⟨by omega, fun y hy => ?_, fun i hi => ?_⟩, by simp only [sI_2]; rw [y2, w2], sI_at _ _ _ _, ?_, ?_, ?_, fun i hi => ⟨?_, ?_, ?_⟩, fun id hid => ?_⟩
    · rw [head, if_neg (by rw [nI_eq (by omega) (by omega)]; exact h), if_pos (by rw [nI_ltI (by omega) (by omega)]; omega), ck_nI w4 (by decide), vl_d, sI_id S2 _ _ (by decide : (27:Nat) ≠ 28), hc2, ck_nI (by omega) (by decide), nI_clamp (by omega), vl_d, sI_id _ _ _ (by decide : (27:Nat) ≠ 29), sI_id _ _ _ (by decide : (27:Nat) ≠ 28), hc2, ck_nI (by omega) (by decide), nI_clamp (by omega), vl_d, sI_id _ _ _ (by decide : (27:Nat) ≠ 30), sI_id _ _ _ (by decide : (27:Nat) ≠ 29), sI_id _ _ _ (by decide : (27:Nat) ≠ 28), hc2, ck_nI (by omega) (by decide), nI_clamp (by omega), vl_d, sI_id _ _ _ (by decide : (27:Nat) ≠ 31), sI_id _ _ _ (by decide : (27:Nat) ≠ 30), sI_id _ _ _ (by decide : (27:Nat) ≠ 29), sI_id _ _ _ (by decide : (27:Nat) ≠ 28), hc2, nI_1, vl_d]
    · have e28 : (sI (sI (sI (sI (sI S2 28 ra (nI rb)) 29 c (nI a)) 30 c (nI b)) 31 c o) 27 4 (nI (c + 1))).1 28 y = if y = ra then nI rb else S2.1 28 y := by
        rw [sI_id _ _ _ (by decide), sI_id _ _ _ (by decide), sI_id _ _ _ (by decide), sI_id _ _ _ (by decide), sI_get, if_pos rfl]
      rw [e28]
      obtain ⟨u1, u2, u3⟩ := y1.2.1 y hy
      by_cases e : y = ra
      · subst e
        simp only [if_true]
        refine ⟨trivial, y4, Or.inr ⟨fun e => h e.symm, by omega, ?_, ?_⟩⟩
        · rw [if_neg (fun e => h e.symm), y6]; omega
        · rw [if_neg (by rw [y5]; exact fun e => h e.symm), if_pos w5, y5]
      · simp only [if_neg e]
        refine ⟨u1, u2, ?_⟩
        rcases u3 with ⟨z1, z2, z3⟩ | ⟨z1, z2, z3, z4⟩
        · exact Or.inl ⟨z1, z2, by rw [z3, if_neg e]⟩
        · refine Or.inr ⟨z1, by omega, ?_, by rw [z4]⟩
          by_cases e2 : t2 y = ra
          · rw [if_pos e2]; exact z2
          · rw [if_neg e2]; exact z3
    · by_cases e : i = c
      · subst e
        simp only [if_true]
        exact ⟨w4, trivial⟩
      · have := y1.2.2 i (by omega)
        simp only [if_neg e]
        rw [if_neg (fun e2 => by rw [e2, w6] at this; omega)]
        exact this
    · rw [sI_id _ _ _ (by decide), sI_id _ _ _ (by decide), sI_id _ _ _ (by decide), sI_at]
    · rw [sI_id _ _ _ (by decide), sI_id _ _ _ (by decide), sI_at]
    · rw [sI_id _ _ _ (by decide), sI_at]
    · rw [sI_id _ _ _ (by decide), sI_id _ _ _ (by decide), sI_id _ _ _ (by decide), sI_ne _ _ (Or.inr hi), sI_id _ _ _ (by decide), y3 29 (by decide), w3 29 (by decide)]
    · rw [sI_id _ _ _ (by decide), sI_id _ _ _ (by decide), sI_ne _ _ (Or.inr hi), sI_id _ _ _ (by decide), sI_id _ _ _ (by decide), y3 30 (by decide), w3 30 (by decide)]
    · rw [sI_id _ _ _ (by decide), sI_ne _ _ (Or.inr hi), sI_id _ _ _ (by decide), sI_id _ _ _ (by decide), sI_id _ _ _ (by decide), y3 31 (by decide), w3 31 (by decide)]
    · rw [sI_id _ _ _ (by omega), sI_id _ _ _ (by omega), sI_id _ _ _ (by omega), sI_id _ _ _ (by omega), sI_id _ _ _ (by omega), y3 id (by omega), w3 id (by omega)]
end TIES
