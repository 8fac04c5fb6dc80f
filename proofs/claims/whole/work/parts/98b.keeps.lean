theorem k_900 : (900 : Int32) = nI 900 := by decide +kernel
theorem k_600 : (600 : Int32) = nI 600 := by decide +kernel
section KEEPS
variable {s : Nat}
theorem keeps0_eq {T : Sg} (hs : s < 4) : ∃ T', f_X10_keeps (nI s) 0 T = some T' ∧ T'.2 = T.2 ∧ (∀ id, id < 68 ∨ 71 < id → T'.1 id = T.1 id) ∧ (∀ k, k < 900 → T'.1 68 k = T.1 50 (900 * s + k)) ∧ (∀ k, k < 600 → T'.1 69 k = T.1 48 (600 * s + k)) ∧ ∀ k, k < 150 → T'.1 70 k = T.1 52 (150 * s + k) ∧ T'.1 71 k = T.1 53 (150 * s + k) := by
  have l3 : ∀ r k fl (Z : Sg), k + r = 150 → r + 1 ≤ fl → (∀ j, j < k → Z.1 70 j = Z.1 52 (150 * s + j) ∧ Z.1 71 j = Z.1 53 (150 * s + j)) → ∃ T', f_X10_keeps_L118 fl (nI s) 0 (nI k) Z = some T' ∧ T'.2 = Z.2 ∧ (∀ id, id ≠ 70 → id ≠ 71 → T'.1 id = Z.1 id) ∧ ∀ j, j < 150 → T'.1 70 j = Z.1 52 (150 * s + j) ∧ T'.1 71 j = Z.1 53 (150 * s + j) := by
    intro r
    induction r with
    | zero =>
      intro k fl Z hk hfl h
      obtain ⟨f, rfl⟩ : ∃ f, fl = f + 1 := ⟨fl - 1, by omega⟩
      refine ⟨Z, ?_, rfl, fun _ _ _ => rfl, fun j hj => h j (by omega)⟩
      rw [f_X10_keeps_L118, k_150, if_pos (by rw [nI_leI (by omega) (by omega)]; omega)]
    | succ r ih =>
      intro k fl Z hk hfl h
      obtain ⟨f, rfl⟩ : ∃ f, fl = f + 1 := ⟨fl - 1, by omega⟩
      let Y : Sg := sI (sI Z 70 k (Z.1 52 (150 * s + k))) 71 k (Z.1 53 (150 * s + k))
      have yid : ∀ id, id ≠ 70 → id ≠ 71 → Y.1 id = Z.1 id := fun id i1 i2 => by
        show (sI (sI Z 70 k _) 71 k _).1 id = _
        rw [sI_id _ _ _ i2, sI_id _ _ _ i1]
      obtain ⟨T', u1, u2, u3, u4⟩ := ih (k + 1) f Y (by omega) (by omega) (fun j hj => by
        rw [yid 52 (by decide) (by decide), yid 53 (by decide) (by decide)]
        show (sI (sI Z 70 k _) 71 k _).1 70 j = _ ∧ (sI (sI Z 70 k _) 71 k _).1 71 j = _
        rw [sI_id _ _ _ (by decide)]
        by_cases e : j = k
        · subst e; rw [sI_at, sI_at]; exact ⟨rfl, rfl⟩
        · rw [sI_ne _ _ (Or.inr e), sI_ne _ _ (Or.inr e), sI_id _ _ _ (by decide)]; exact h j (by omega))
      refine ⟨T', ?_, u2, fun id i1 i2 => by rw [u3 id i1 i2, yid id i1 i2], fun j hj => by rw [(u4 j hj).1, (u4 j hj).2, yid 52 (by decide) (by decide), yid 53 (by decide) (by decide)]; exact ⟨rfl, rfl⟩⟩
      rw [← u1, f_X10_keeps_L118, k_150, if_neg (by rw [nI_leI (by omega) (by omega)]; omega), if_pos rfl, ← k_150, ixM, ck_nI (by omega) (by decide), ck_nI (by omega) (by decide), nI_clamp (by omega), nI_clamp (by omega), vl_d, ck_nI (by omega) (by decide), ck_nI (by omega) (by decide), sI_id _ _ _ (by decide), vl_d, nI_1, vl_d]
  have l2 : ∀ r k fl (Z : Sg), k + r = 600 → r + 1 ≤ fl → (∀ j, j < k → Z.1 69 j = Z.1 48 (600 * s + j)) → ∃ T', f_X10_keeps_L60 fl (nI s) 0 (nI k) Z = f_X10_keeps_L118 fu (nI s) 0 (nI 0) T' ∧ T'.2 = Z.2 ∧ (∀ id, id ≠ 69 → T'.1 id = Z.1 id) ∧ ∀ j, j < 600 → T'.1 69 j = Z.1 48 (600 * s + j) := by
    intro r
    induction r with
    | zero =>
      intro k fl Z hk hfl h
      obtain ⟨f, rfl⟩ : ∃ f, fl = f + 1 := ⟨fl - 1, by omega⟩
      refine ⟨Z, ?_, rfl, fun _ _ => rfl, fun j hj => h j (by omega)⟩
      rw [f_X10_keeps_L60, k_600, if_pos (by rw [nI_leI (by omega) (by omega)]; omega), vl_d]; rfl
    | succ r ih =>
      intro k fl Z hk hfl h
      obtain ⟨f, rfl⟩ : ∃ f, fl = f + 1 := ⟨fl - 1, by omega⟩
      obtain ⟨T', u1, u2, u3, u4⟩ := ih (k + 1) f (sI Z 69 k (Z.1 48 (600 * s + k))) (by omega) (by omega) (fun j hj => by
        rw [sI_id (j := 48) _ _ _ (by decide)]
        by_cases e : j = k
        · subst e; rw [sI_at]
        · rw [sI_ne _ _ (Or.inr e)]; exact h j (by omega))
      refine ⟨T', ?_, u2, fun id i1 => by rw [u3 id i1, sI_id _ _ _ i1], fun j hj => by rw [u4 j hj, sI_id _ _ _ (by decide)]⟩
      rw [← u1, f_X10_keeps_L60, k_600, if_neg (by rw [nI_leI (by omega) (by omega)]; omega), if_pos rfl, pk_mul, nI_add, ck_nI (by omega) (by decide), ck_nI (by omega) (by decide), nI_clamp (by omega), nI_clamp (by omega), vl_d, nI_1, vl_d]
  have l1 : ∀ r k fl (Z : Sg), k + r = 900 → r + 1 ≤ fl → (∀ j, j < k → Z.1 68 j = Z.1 50 (900 * s + j)) → ∃ T', f_X10_keeps_L2 fl (nI s) 0 (nI k) Z = f_X10_keeps_L60 fu (nI s) 0 (nI 0) T' ∧ T'.2 = Z.2 ∧ (∀ id, id ≠ 68 → T'.1 id = Z.1 id) ∧ ∀ j, j < 900 → T'.1 68 j = Z.1 50 (900 * s + j) := by
    intro r
    induction r with
    | zero =>
      intro k fl Z hk hfl h
      obtain ⟨f, rfl⟩ : ∃ f, fl = f + 1 := ⟨fl - 1, by omega⟩
      refine ⟨Z, ?_, rfl, fun _ _ => rfl, fun j hj => h j (by omega)⟩
      rw [f_X10_keeps_L2, k_900, if_pos (by rw [nI_leI (by omega) (by omega)]; omega), vl_d]; rfl
    | succ r ih =>
      intro k fl Z hk hfl h
      obtain ⟨f, rfl⟩ : ∃ f, fl = f + 1 := ⟨fl - 1, by omega⟩
      obtain ⟨T', u1, u2, u3, u4⟩ := ih (k + 1) f (sI Z 68 k (Z.1 50 (900 * s + k))) (by omega) (by omega) (fun j hj => by
        rw [sI_id (j := 50) _ _ _ (by decide)]
        by_cases e : j = k
        · subst e; rw [sI_at]
        · rw [sI_ne _ _ (Or.inr e)]; exact h j (by omega))
      refine ⟨T', ?_, u2, fun id i1 => by rw [u3 id i1, sI_id _ _ _ i1], fun j hj => by rw [u4 j hj, sI_id _ _ _ (by decide)]⟩
      rw [← u1, f_X10_keeps_L2, k_900, if_neg (by rw [nI_leI (by omega) (by omega)]; omega), if_pos rfl, pk_mul, nI_add, ck_nI (by omega) (by decide), ck_nI (by omega) (by decide), nI_clamp (by omega), nI_clamp (by omega), vl_d, nI_1, vl_d]
  obtain ⟨T1, a1, a2, a3, a4⟩ := l1 900 0 fu T (by omega) (by unfold fu; omega) (fun j hj => absurd hj (by omega))
  obtain ⟨T2, b1, b2, b3, b4⟩ := l2 600 0 fu T1 (by omega) (by unfold fu; omega) (fun j hj => absurd hj (by omega))
  obtain ⟨T3, c1, c2, c3, c4⟩ := l3 150 0 fu T2 (by omega) (by unfold fu; omega) (fun j hj => absurd hj (by omega))
  refine ⟨T3, ?_, by rw [c2, b2, a2], fun id hid => by rw [c3 id (by omega) (by omega), b3 id (by omega), a3 id (by omega)], fun k hk => by rw [c3 68 (by decide) (by decide), b3 68 (by decide), a4 k hk], fun k hk => by rw [c3 69 (by decide) (by decide), b4 k hk, a3 48 (by decide)], fun k hk => by rw [(c4 k hk).1, (c4 k hk).2, b3 52 (by decide), b3 53 (by decide), a3 52 (by decide), a3 53 (by decide)]; exact ⟨rfl, rfl⟩⟩
  unfold f_X10_keeps
  rw [vl_d]
  have a1' : f_X10_keeps_L2 fu (nI s) 0 0 T = _ := a1
  rw [a1', b1, c1]
theorem keeps1_eq {T : Sg} (hs : s < 4) : ∃ T', f_X10_keeps (nI s) 1 T = some T' ∧ T'.2 = T.2 ∧ (∀ id, id ≠ 48 → id ≠ 50 → id ≠ 52 → id ≠ 53 → T'.1 id = T.1 id) ∧ (∀ j, T'.1 50 j = if 900 * s ≤ j ∧ j < 900 * s + 900 then T.1 68 (j - 900 * s) else T.1 50 j) ∧ (∀ j, T'.1 48 j = if 600 * s ≤ j ∧ j < 600 * s + 600 then T.1 69 (j - 600 * s) else T.1 48 j) ∧ (∀ j, T'.1 52 j = if 150 * s ≤ j ∧ j < 150 * s + 150 then T.1 70 (j - 150 * s) else T.1 52 j) ∧ ∀ j, T'.1 53 j = if 150 * s ≤ j ∧ j < 150 * s + 150 then T.1 71 (j - 150 * s) else T.1 53 j := by
  have stepA : ∀ (Z T : Sg) (id src W b k : Nat), (∀ j, Z.1 id j = if b ≤ j ∧ j < b + k then T.1 src (j - b) else T.1 id j) → ∀ j, (sI Z id (b + k) (T.1 src k)).1 id j = if b ≤ j ∧ j < b + (k + 1) then T.1 src (j - b) else T.1 id j := by
    intro Z T id src W b k h j
    by_cases e : j = b + k
    · subst e; rw [sI_at, if_pos (by omega), Nat.add_sub_cancel_left]
    · rw [sI_ne _ _ (Or.inr e), h j]
      by_cases e2 : b ≤ j ∧ j < b + k
      · rw [if_pos e2, if_pos (by omega)]
      · rw [if_neg e2, if_neg (by omega)]
  have l3 : ∀ r k fl (Z : Sg), k + r = 150 → r + 1 ≤ fl → Z.2 = T.2 → (∀ id, id ≠ 48 → id ≠ 50 → id ≠ 52 → id ≠ 53 → Z.1 id = T.1 id) → (∀ j, Z.1 52 j = if 150 * s ≤ j ∧ j < 150 * s + k then T.1 70 (j - 150 * s) else T.1 52 j) → (∀ j, Z.1 53 j = if 150 * s ≤ j ∧ j < 150 * s + k then T.1 71 (j - 150 * s) else T.1 53 j) → ∃ T', f_X10_keeps_L118 fl (nI s) 1 (nI k) Z = some T' ∧ T'.2 = T.2 ∧ (∀ id, id ≠ 52 → id ≠ 53 → T'.1 id = Z.1 id) ∧ (∀ j, T'.1 52 j = if 150 * s ≤ j ∧ j < 150 * s + 150 then T.1 70 (j - 150 * s) else T.1 52 j) ∧ ∀ j, T'.1 53 j = if 150 * s ≤ j ∧ j < 150 * s + 150 then T.1 71 (j - 150 * s) else T.1 53 j := by
    intro r
    induction r with
    | zero =>
      intro k fl Z hk hfl z1 z2 z3 z4
      obtain ⟨f, rfl⟩ : ∃ f, fl = f + 1 := ⟨fl - 1, by omega⟩
      have e : k = 150 := by omega
      subst e
      refine ⟨Z, ?_, z1, fun _ _ _ => rfl, z3, z4⟩
      rw [f_X10_keeps_L118, k_150, if_pos (by rw [nI_leI (by omega) (by omega)]; omega)]
    | succ r ih =>
      intro k fl Z hk hfl z1 z2 z3 z4
      obtain ⟨f, rfl⟩ : ∃ f, fl = f + 1 := ⟨fl - 1, by omega⟩
      obtain ⟨T', u1, u2, u3, u4⟩ := ih (k + 1) f (sI (sI Z 52 (150 * s + k) (T.1 70 k)) 53 (150 * s + k) (T.1 71 k)) (by omega) (by omega) z1 (fun id i1 i2 i3 i4 => by rw [sI_id _ _ _ i4, sI_id _ _ _ i3]; exact z2 id i1 i2 i3 i4) (fun j => by rw [sI_id _ _ _ (by decide)]; exact stepA Z T 52 70 150 (150 * s) k z3 j) (fun j => stepA _ T 53 71 150 (150 * s) k (fun j => by rw [sI_id _ _ _ (by decide)]; exact z4 j) j)
      refine ⟨T', ?_, u2, fun id i1 i2 => by rw [u3 id i1 i2, sI_id _ _ _ i2, sI_id _ _ _ i1], u4⟩
      rw [← u1, f_X10_keeps_L118, k_150, if_neg (by rw [nI_leI (by omega) (by omega)]; omega), if_neg n10, ← k_150, ixM, ck_nI (by omega) (by decide), ck_nI (by omega) (by decide), nI_clamp (by omega), nI_clamp (by omega), vl_d, ck_nI (by omega) (by decide), ck_nI (by omega) (by decide), sI_id _ _ _ (by decide), z2 70 (by decide) (by decide) (by decide) (by decide), z2 71 (by decide) (by decide) (by decide) (by decide), vl_d, nI_1, vl_d]
  have l2 : ∀ r k fl (Z : Sg), k + r = 600 → r + 1 ≤ fl → Z.2 = T.2 → (∀ id, id ≠ 48 → id ≠ 50 → Z.1 id = T.1 id) → (∀ j, Z.1 48 j = if 600 * s ≤ j ∧ j < 600 * s + k then T.1 69 (j - 600 * s) else T.1 48 j) → ∃ T', f_X10_keeps_L60 fl (nI s) 1 (nI k) Z = f_X10_keeps_L118 fu (nI s) 1 (nI 0) T' ∧ T'.2 = T.2 ∧ (∀ id, id ≠ 48 → T'.1 id = Z.1 id) ∧ ∀ j, T'.1 48 j = if 600 * s ≤ j ∧ j < 600 * s + 600 then T.1 69 (j - 600 * s) else T.1 48 j := by
    intro r
    induction r with
    | zero =>
      intro k fl Z hk hfl z1 z2 z3
      obtain ⟨f, rfl⟩ : ∃ f, fl = f + 1 := ⟨fl - 1, by omega⟩
      have e : k = 600 := by omega
      subst e
      refine ⟨Z, ?_, z1, fun _ _ => rfl, z3⟩
      rw [f_X10_keeps_L60, k_600, if_pos (by rw [nI_leI (by omega) (by omega)]; omega), vl_d]; rfl
    | succ r ih =>
      intro k fl Z hk hfl z1 z2 z3
      obtain ⟨f, rfl⟩ : ∃ f, fl = f + 1 := ⟨fl - 1, by omega⟩
      obtain ⟨T', u1, u2, u3, u4⟩ := ih (k + 1) f (sI Z 48 (600 * s + k) (T.1 69 k)) (by omega) (by omega) z1 (fun id i1 i2 => by rw [sI_id _ _ _ i1]; exact z2 id i1 i2) (fun j => stepA Z T 48 69 600 (600 * s) k z3 j)
      refine ⟨T', ?_, u2, fun id i1 => by rw [u3 id i1, sI_id _ _ _ i1], u4⟩
      rw [← u1, f_X10_keeps_L60, k_600, if_neg (by rw [nI_leI (by omega) (by omega)]; omega), if_neg n10, pk_mul, nI_add, ck_nI (by omega) (by decide), ck_nI (by omega) (by decide), nI_clamp (by omega), nI_clamp (by omega), z2 69 (by decide) (by decide), vl_d, nI_1, vl_d]
  have l1 : ∀ r k fl (Z : Sg), k + r = 900 → r + 1 ≤ fl → Z.2 = T.2 → (∀ id, id ≠ 50 → Z.1 id = T.1 id) → (∀ j, Z.1 50 j = if 900 * s ≤ j ∧ j < 900 * s + k then T.1 68 (j - 900 * s) else T.1 50 j) → ∃ T', f_X10_keeps_L2 fl (nI s) 1 (nI k) Z = f_X10_keeps_L60 fu (nI s) 1 (nI 0) T' ∧ T'.2 = T.2 ∧ (∀ id, id ≠ 50 → T'.1 id = T.1 id) ∧ ∀ j, T'.1 50 j = if 900 * s ≤ j ∧ j < 900 * s + 900 then T.1 68 (j - 900 * s) else T.1 50 j := by
    intro r
    induction r with
    | zero =>
      intro k fl Z hk hfl z1 z2 z3
      obtain ⟨f, rfl⟩ : ∃ f, fl = f + 1 := ⟨fl - 1, by omega⟩
      have e : k = 900 := by omega
      subst e
      refine ⟨Z, ?_, z1, z2, z3⟩
      rw [f_X10_keeps_L2, k_900, if_pos (by rw [nI_leI (by omega) (by omega)]; omega), vl_d]; rfl
    | succ r ih =>
      intro k fl Z hk hfl z1 z2 z3
      obtain ⟨f, rfl⟩ : ∃ f, fl = f + 1 := ⟨fl - 1, by omega⟩
      obtain ⟨T', u1, u2, u3, u4⟩ := ih (k + 1) f (sI Z 50 (900 * s + k) (T.1 68 k)) (by omega) (by omega) z1 (fun id i1 => by rw [sI_id _ _ _ i1]; exact z2 id i1) (fun j => stepA Z T 50 68 900 (900 * s) k z3 j)
      refine ⟨T', ?_, u2, u3, u4⟩
      rw [← u1, f_X10_keeps_L2, k_900, if_neg (by rw [nI_leI (by omega) (by omega)]; omega), if_neg n10, pk_mul, nI_add, ck_nI (by omega) (by decide), ck_nI (by omega) (by decide), nI_clamp (by omega), nI_clamp (by omega), z2 68 (by decide), vl_d, nI_1, vl_d]
  obtain ⟨T1, a1, a2, a3, a4⟩ := l1 900 0 fu T (by omega) (by unfold fu; omega) rfl (fun _ _ => rfl) (fun j => by rw [if_neg (by omega)])
  obtain ⟨T2, b1, b2, b3, b4⟩ := l2 600 0 fu T1 (by omega) (by unfold fu; omega) a2 (fun id _ i2 => a3 id i2) (fun j => by rw [if_neg (by omega), a3 48 (by decide)])
  obtain ⟨T3, c1, c2, c3, c4, c5⟩ := l3 150 0 fu T2 (by omega) (by unfold fu; omega) b2 (fun id i1 i2 i3 i4 => by rw [b3 id i1, a3 id i2]) (fun j => by rw [if_neg (by omega), b3 52 (by decide), a3 52 (by decide)]) (fun j => by rw [if_neg (by omega), b3 53 (by decide), a3 53 (by decide)])
  refine ⟨T3, ?_, c2, fun id i1 i2 i3 i4 => by rw [c3 id i3 i4, b3 id i1, a3 id i2], fun j => by rw [c3 50 (by decide) (by decide), b3 50 (by decide), a4 j], fun j => by rw [c3 48 (by decide) (by decide), b4 j], c4, c5⟩
  unfold f_X10_keeps
  rw [vl_d]
  have a1' : f_X10_keeps_L2 fu (nI s) 1 0 T = _ := a1
  rw [a1', b1, c1]
/-- a read that came to nothing leaves the slot as it was -/
theorem keeps_back {T T7 T8 : Sg} (hs : s < 4) (h0 : T7.2 = T.2 ∧ (∀ id, id < 68 ∨ 71 < id → T7.1 id = T.1 id) ∧ (∀ k, k < 900 → T7.1 68 k = T.1 50 (900 * s + k)) ∧ (∀ k, k < 600 → T7.1 69 k = T.1 48 (600 * s + k)) ∧ ∀ k, k < 150 → T7.1 70 k = T.1 52 (150 * s + k) ∧ T7.1 71 k = T.1 53 (150 * s + k)) (h : tF s T7 T8) : ∃ T9, f_X10_keeps (nI s) 1 T8 = some T9 ∧ T9.2 = T.2 ∧ ∀ id, id < 66 ∨ 71 < id → T9.1 id = T.1 id := by
  obtain ⟨T9, a1, a2, a3, a4, a5, a6, a7⟩ := keeps1_eq (s := s) (T := T8) hs
  obtain ⟨b1, b2, b3, b4, b5⟩ := h0
  have e68 : ∀ id, 68 ≤ id → id ≤ 71 → T8.1 id = T7.1 id := fun id i1 i2 => h.2.1 id (by omega) (by omega) (by omega) (by omega) (by omega)
  refine ⟨T9, a1, by rw [a2, h.1, b1], fun id hid => ?_⟩
  by_cases c50 : id = 50
  · subst c50
    funext j
    rw [a4 j]
    by_cases e : 900 * s ≤ j ∧ j < 900 * s + 900
    · rw [if_pos e, e68 68 (by omega) (by omega), b3 _ (by omega), show 900 * s + (j - 900 * s) = j by omega]
    · rw [if_neg e, h.2.2.1 j (by omega), b2 50 (by omega)]
  · by_cases c48 : id = 48
    · subst c48
      funext j
      rw [a5 j]
      by_cases e : 600 * s ≤ j ∧ j < 600 * s + 600
      · rw [if_pos e, e68 69 (by omega) (by omega), b4 _ (by omega), show 600 * s + (j - 600 * s) = j by omega]
      · rw [if_neg e, h.2.2.2.1 j (by omega), b2 48 (by omega)]
    · by_cases c52 : id = 52
      · subst c52
        funext j
        rw [a6 j]
        by_cases e : 150 * s ≤ j ∧ j < 150 * s + 150
        · rw [if_pos e, e68 70 (by omega) (by omega), (b5 _ (by omega)).1, show 150 * s + (j - 150 * s) = j by omega]
        · rw [if_neg e, (h.2.2.2.2 j (by omega)).1, b2 52 (by omega)]
      · by_cases c53 : id = 53
        · subst c53
          funext j
          rw [a7 j]
          by_cases e : 150 * s ≤ j ∧ j < 150 * s + 150
          · rw [if_pos e, e68 71 (by omega) (by omega), (b5 _ (by omega)).2, show 150 * s + (j - 150 * s) = j by omega]
          · rw [if_neg e, (h.2.2.2.2 j (by omega)).2, b2 53 (by omega)]
        · rw [a3 id c48 c50 c52 c53, h.2.1 id c48 c50 c52 c53 (by omega), b2 id (by omega)]
end KEEPS
