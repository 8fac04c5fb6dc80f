section SPOTS
variable {p sc : Nat}
theorem linkL {x y : Int32} (hp : p < 6) (hs : sc ≤ 30) : ∀ (r k fl : Nat) (S : Sg), k + r = sc → r + 1 ≤ fl → S.1 5 0 = nI p → S.1 6 p = nI sc → ∃ S', f_X7_link_L2 fl x y (nI k) S = some S' ∧ S'.2 = S.2 ∧ (∀ id, id ≠ 11 → S'.1 id = S.1 id) ∧ ∀ j, S'.1 11 j = if 30 * p + k ≤ j ∧ j < 30 * p + sc ∧ bt x (j - 30 * p) = true then S.1 11 j ||| y else S.1 11 j := by
  intro r
  induction r with
  | zero =>
    intro k fl S hk hfl h5 h6
    obtain ⟨f, rfl⟩ : ∃ f, fl = f + 1 := ⟨fl - 1, by omega⟩
    refine ⟨S, ?_, rfl, fun _ _ => rfl, fun j => by rw [if_neg (by omega)]⟩
    rw [f_X7_link_L2, h5, ck_nI hp (by decide), nI_clamp (by omega), h6, if_pos (by rw [nI_leI (by omega) (by omega)]; omega)]
  | succ r ih =>
    intro k fl S hk hfl h5 h6
    obtain ⟨f, rfl⟩ : ∃ f, fl = f + 1 := ⟨fl - 1, by omega⟩
    rw [f_X7_link_L2, h5, ck_nI hp (by decide), nI_clamp (by omega), h6, if_neg (by rw [nI_leI (by omega) (by omega)]; omega)]
    cases hb : bt x k with
    | false =>
      obtain ⟨S', e, w1, w2, w3⟩ := ih (k + 1) f S (by omega) (by omega) h5 h6
      refine ⟨S', ?_, w1, w2, fun j => ?_⟩
      · rw [if_pos ((tst0 x (by omega)).mpr hb), vl_d, nI_1]; exact e
      · rw [w3 j]
        by_cases hj : j = 30 * p + k
        · subst hj
          rw [if_neg (by omega), if_neg (by rw [Nat.add_sub_cancel_left, hb]; simp)]
        · by_cases h1 : 30 * p + k ≤ j ∧ j < 30 * p + sc ∧ bt x (j - 30 * p) = true
          · rw [if_pos h1, if_pos ⟨by omega, h1.2⟩]
          · rw [if_neg h1, if_neg (fun z => h1 ⟨by omega, z.2⟩)]
    | true =>
      obtain ⟨S', e, w1, w2, w3⟩ := ih (k + 1) f (sI S 11 (30 * p + k) (S.1 11 (30 * p + k) ||| y)) (by omega) (by omega) (by rw [sI_id _ _ _ (by decide)]; exact h5) (by rw [sI_id _ _ _ (by decide)]; exact h6)
      refine ⟨S', ?_, w1, fun id h => by rw [w2 id h, sI_id _ _ _ h], fun j => ?_⟩
      · rw [if_neg (by rw [tst0 x (by omega), hb]; decide), k_30, pk_mul, nI_add, ck_nI (by omega) (by decide), ck_nI (by omega) (by decide), nI_clamp (by omega), Nat.mul_comm p 30, vl_d, vl_d, nI_1]; exact e
      · rw [w3 j]
        by_cases hj : j = 30 * p + k
        · subst hj
          rw [if_neg (by omega), if_pos ⟨by omega, by omega, by rw [Nat.add_sub_cancel_left, hb]⟩, sI_at]
        · rw [sI_ne _ _ (Or.inr hj)]
          by_cases h1 : 30 * p + k ≤ j ∧ j < 30 * p + sc ∧ bt x (j - 30 * p) = true
          · rw [if_pos h1, if_pos ⟨by omega, h1.2⟩]
          · rw [if_neg h1, if_neg (fun z => h1 ⟨by omega, z.2⟩)]
theorem link_eq {S : Sg} (x y : Int32) (hp : p < 6) (hs : sc ≤ 30) (h5 : S.1 5 0 = nI p) (h6 : S.1 6 p = nI sc) : ∃ S', f_X7_link x y S = some S' ∧ S'.2 = S.2 ∧ (∀ id, id ≠ 11 → S'.1 id = S.1 id) ∧ ∀ j, S'.1 11 j = if 30 * p ≤ j ∧ j < 30 * p + sc ∧ bt x (j - 30 * p) = true then S.1 11 j ||| y else S.1 11 j := by
  obtain ⟨S', e, w1, w2, w3⟩ := linkL (x := x) (y := y) hp hs sc 0 fu S (by omega) (by unfold fu; omega) h5 h6
  refine ⟨S', ?_, w1, w2, w3⟩
  unfold f_X7_link
  rw [vl_d, k_0]
  exact e
theorem followsL {x y : Int32} (hp : p < 6) : ∀ (r k fl : Nat) (T : Sg), k + r = 30 → r + 1 ≤ fl → T.1 34 6 = nI (p + 1) → ∃ T', f_X10_follows_L2 fl x y (nI k) T = some T' ∧ T'.2 = T.2 ∧ (∀ id, id ≠ 42 → T'.1 id = T.1 id) ∧ ∀ j, T'.1 42 j = if 30 * p + k ≤ j ∧ j < 30 * p + 30 ∧ bt x (j - 30 * p) = true then T.1 42 j ||| y else T.1 42 j := by
  intro r
  induction r with
  | zero =>
    intro k fl S hk hfl h5
    obtain ⟨f, rfl⟩ : ∃ f, fl = f + 1 := ⟨fl - 1, by omega⟩
    refine ⟨S, ?_, rfl, fun _ _ => rfl, fun j => by rw [if_neg (by omega)]⟩
    rw [f_X10_follows_L2, k_30, if_pos (by rw [nI_leI (by omega) (by omega)]; omega)]
  | succ r ih =>
    intro k fl S hk hfl h5
    obtain ⟨f, rfl⟩ : ∃ f, fl = f + 1 := ⟨fl - 1, by omega⟩
    rw [f_X10_follows_L2, k_30, if_neg (by rw [nI_leI (by omega) (by omega)]; omega)]
    cases hb : bt x k with
    | false =>
      obtain ⟨S', e, w1, w2, w3⟩ := ih (k + 1) f S (by omega) (by omega) h5
      refine ⟨S', ?_, w1, w2, fun j => ?_⟩
      · rw [if_neg (by rw [tst1 x (by omega), hb]; decide), vl_d, nI_1]; exact e
      · rw [w3 j]
        by_cases hj : j = 30 * p + k
        · subst hj
          rw [if_neg (by omega), if_neg (by rw [Nat.add_sub_cancel_left, hb]; simp)]
        · by_cases h1 : 30 * p + k ≤ j ∧ j < 30 * p + 30 ∧ bt x (j - 30 * p) = true
          · rw [if_pos h1, if_pos ⟨by omega, h1.2⟩]
          · rw [if_neg h1, if_neg (fun z => h1 ⟨by omega, z.2⟩)]
    | true =>
      obtain ⟨S', e, w1, w2, w3⟩ := ih (k + 1) f (sI S 42 (30 * p + k) (S.1 42 (30 * p + k) ||| y)) (by omega) (by omega) (by rw [sI_id _ _ _ (by decide)]; exact h5)
      refine ⟨S', ?_, w1, fun id h => by rw [w2 id h, sI_id _ _ _ h], fun j => ?_⟩
      · unfold f_X10_spotAt
        rw [if_pos ((tst1 x (by omega)).mpr hb), bd2_some, h5, k_30, k_1, pk_sub (by omega), Nat.add_sub_cancel, pk_mul, nI_add, ck_nI (by omega) (by decide), ck_nI (by omega) (by decide), nI_clamp (by omega), vl_d, vl_d, nI_add]; exact e
      · rw [w3 j]
        by_cases hj : j = 30 * p + k
        · subst hj
          rw [if_neg (by omega), if_pos ⟨by omega, by omega, by rw [Nat.add_sub_cancel_left, hb]⟩, sI_at]
        · rw [sI_ne _ _ (Or.inr hj)]
          by_cases h1 : 30 * p + k ≤ j ∧ j < 30 * p + 30 ∧ bt x (j - 30 * p) = true
          · rw [if_pos h1, if_pos ⟨by omega, h1.2⟩]
          · rw [if_neg h1, if_neg (fun z => h1 ⟨by omega, z.2⟩)]
theorem follows_eq {T : Sg} (x y : Int32) (hp : p < 6) (h5 : T.1 34 6 = nI (p + 1)) : ∃ T', f_X10_follows x y T = some T' ∧ T'.2 = T.2 ∧ (∀ id, id ≠ 42 → T'.1 id = T.1 id) ∧ ∀ j, T'.1 42 j = if 30 * p ≤ j ∧ j < 30 * p + 30 ∧ bt x (j - 30 * p) = true then T.1 42 j ||| y else T.1 42 j := by
  obtain ⟨S', e, w1, w2, w3⟩ := followsL (x := x) (y := y) hp 30 0 fu T (by omega) (by unfold fu; omega) h5
  refine ⟨S', ?_, w1, w2, w3⟩
  unfold f_X10_follows
  rw [vl_d, k_0]
  exact e
theorem addL {x b : Int32} (hp : p < 6) : ∀ (r k fl : Nat) (S : Sg), k + r = 4 → r + 1 ≤ fl → S.1 5 0 = nI p → ∃ S', f_X7_addSpot_L32 fl x (nI sc) b (nI k) S = some (b, S') ∧ S'.2 = S.2 ∧ (∀ id, id ≠ 10 → id ≠ 6 → S'.1 id = S.1 id) ∧ (∀ q, S'.1 6 q = if q = p then nI (sc + 1) else S.1 6 q) ∧ ∀ j, S'.1 10 j = if 4 * p + k ≤ j ∧ j < 4 * p + 4 ∧ bt x (j - 4 * p) = true then S.1 10 j ||| b else S.1 10 j := by
  intro r
  induction r with
  | zero =>
    intro k fl S hk hfl h5
    obtain ⟨f, rfl⟩ : ∃ f, fl = f + 1 := ⟨fl - 1, by omega⟩
    refine ⟨sI S 6 p (nI (sc + 1)), ?_, rfl, fun id h1 h2 => sI_id _ _ _ h2, fun q => by rw [sI_get, if_pos rfl], fun j => by rw [sI_id _ _ _ (by decide), if_neg (by omega)]⟩
    rw [f_X7_addSpot_L32, k_4, if_pos (by rw [nI_leI (by omega) (by omega)]; omega), h5, ck_nI hp (by decide), nI_clamp (by omega), vl_d, nI_1]
  | succ r ih =>
    intro k fl S hk hfl h5
    obtain ⟨f, rfl⟩ : ∃ f, fl = f + 1 := ⟨fl - 1, by omega⟩
    rw [f_X7_addSpot_L32, k_4, if_neg (by rw [nI_leI (by omega) (by omega)]; omega)]
    cases hb : bt x k with
    | false =>
      obtain ⟨S', e, w1, w2, w4, w3⟩ := ih (k + 1) f S (by omega) (by omega) h5
      refine ⟨S', ?_, w1, w2, w4, fun j => ?_⟩
      · rw [if_pos ((tst0 x (by omega)).mpr hb), vl_d, nI_1]; exact e
      · rw [w3 j]
        by_cases hj : j = 4 * p + k
        · subst hj
          rw [if_neg (by omega), if_neg (by rw [Nat.add_sub_cancel_left, hb]; simp)]
        · by_cases h1 : 4 * p + k ≤ j ∧ j < 4 * p + 4 ∧ bt x (j - 4 * p) = true
          · rw [if_pos h1, if_pos ⟨by omega, h1.2⟩]
          · rw [if_neg h1, if_neg (fun z => h1 ⟨by omega, z.2⟩)]
    | true =>
      obtain ⟨S', e, w1, w2, w4, w3⟩ := ih (k + 1) f (sI S 10 (4 * p + k) (S.1 10 (4 * p + k) ||| b)) (by omega) (by omega) (by rw [sI_id _ _ _ (by decide)]; exact h5)
      refine ⟨S', ?_, w1, fun id h h2 => by rw [w2 id h h2, sI_id _ _ _ h], fun q => by rw [w4 q, sI_id _ _ _ (by decide)], fun j => ?_⟩
      · rw [if_neg (by rw [tst0 x (by omega), hb]; decide), h5, pk_mul, nI_add, ck_nI (by omega) (by decide), ck_nI (by omega) (by decide), nI_clamp (by omega), Nat.mul_comm p 4, vl_d, vl_d, nI_1]; exact e
      · rw [w3 j]
        by_cases hj : j = 4 * p + k
        · subst hj
          rw [if_neg (by omega), if_pos ⟨by omega, by omega, by rw [Nat.add_sub_cancel_left, hb]⟩, sI_at]
        · rw [sI_ne _ _ (Or.inr hj)]
          by_cases h1 : 4 * p + k ≤ j ∧ j < 4 * p + 4 ∧ bt x (j - 4 * p) = true
          · rw [if_pos h1, if_pos ⟨by omega, h1.2⟩]
          · rw [if_neg h1, if_neg (fun z => h1 ⟨by omega, z.2⟩)]
/-- a new spot's bit -/
def sb (k : Nat) : Int32 := (1 : Int32) <<< (nI k &&& 31)
theorem addSpot_eq {S : Sg} (x : Int32) (hp : p < 6) (hs : sc < 30) (h5 : S.1 5 0 = nI p) (h6 : S.1 6 p = nI sc) : ∃ S', f_X7_addSpot x S = some (sb sc, S') ∧ S'.2 = S.2 ∧ (∀ id, id ≠ 10 → id ≠ 6 → id ≠ 11 → S'.1 id = S.1 id) ∧ (∀ q, S'.1 6 q = if q = p then nI (sc + 1) else S.1 6 q) ∧ (∀ j, S'.1 10 j = if 4 * p ≤ j ∧ j < 4 * p + 4 ∧ bt x (j - 4 * p) = true then S.1 10 j ||| sb sc else S.1 10 j) ∧ ∀ j, S'.1 11 j = if j = 30 * p + sc then 0 else S.1 11 j := by
  obtain ⟨S', e, w1, w2, w3, w4⟩ := addL (x := x) (b := sb sc) (sc := sc) hp 4 0 fu (sI S 11 (30 * p + sc) 0) (by omega) (by unfold fu; omega) (by rw [sI_id _ _ _ (by decide)]; exact h5)
  refine ⟨S', ?_, w1, fun id i1 i2 i3 => by rw [w2 id i1 i2, sI_id _ _ _ i3], fun q => by rw [w3 q, sI_id _ _ _ (by decide)], fun j => by rw [w4 j, sI_id _ _ _ (by decide)]; rfl, fun j => by rw [w2 11 (by decide) (by decide), sI_get, if_pos rfl]⟩
  unfold f_X7_addSpot
  rw [h5, ck_nI hp (by decide), nI_clamp (by omega), h6, vl_d, vl_d, k_30, pk_mul, nI_add, ck_nI (by omega) (by decide), nI_clamp (by omega), Nat.mul_comm p 30, vl_d, vl_d]
  rw [← k_0] at e
  exact e
theorem spot_eq {T : Sg} (x w : Int32) (hp : p < 6) (hs : sc < 30) (h5 : T.1 34 6 = nI (p + 1)) (h6 : T.1 37 p = nI sc) : f_X10_spot x w T = some (sI (sI (sI (sI (sI (sI T 41 (30 * p + sc) x) 42 (30 * p + sc) 0) 37 p (nI (sc + 1))) 34 37 0) 34 38 (sb sc)) 34 39 (sb sc)) := by
  unfold f_X10_spot f_X10_spotAt
  rw [h5, k_1, pk_sub (by omega), Nat.add_sub_cancel, ck_nI hp (by decide), nI_clamp (by omega), h6, vl_d, k_30, if_neg (by rw [nI_eq (by omega) (by omega)]; omega), bd2_some, pk_mul, nI_add, ck_nI (by omega) (by decide), nI_clamp (by omega), vl_d, bd2_some, sI_id _ _ _ (by decide), h5, pk_sub (by omega), Nat.add_sub_cancel, pk_mul, nI_add, ck_nI (by omega) (by decide), nI_clamp (by omega), vl_d, sI_id _ _ _ (by decide), sI_id _ _ _ (by decide), h5, pk_sub (by omega), Nat.add_sub_cancel, ck_nI hp (by decide), ck_nI hp (by decide), nI_clamp (by omega), sI_id _ _ _ (by decide), sI_id _ _ _ (by decide), h6, nI_add, vl_d, k_0]
  rw [← k_0, zk_0, vl_d, vl_d, vl_d]
  rfl
end SPOTS
