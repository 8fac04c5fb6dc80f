def clT (T : Sg) (s N : Nat) (f : Nat → Key) : Prop := ∀ k, k < N → T.1 51 (150 * s + k) = nI (nc f k)
def clG (s : Nat) (T T' : Sg) : Prop := T'.2 = T.2 ∧ (∀ id, id ≠ 47 → id ≠ 51 → id ≠ 67 → T'.1 id = T.1 id) ∧ (∀ j, j < 150 * s ∨ 150 * s + 150 ≤ j → T'.1 51 j = T.1 51 j) ∧ ∀ j, j ≠ s → T'.1 47 j = T.1 47 j
theorem clG_r (s : Nat) (T : Sg) : clG s T T := ⟨rfl, fun _ _ _ _ => rfl, fun _ _ => rfl, fun _ _ => rfl⟩
theorem clG_t {s : Nat} {T T' T'' : Sg} (h : clG s T T') (g : clG s T' T'') : clG s T T'' := ⟨by rw [g.1, h.1], fun id a b c => by rw [g.2.1 id a b c, h.2.1 id a b c], fun j hj => by rw [g.2.2.1 j hj, h.2.2.1 j hj], fun j hj => by rw [g.2.2.2 j hj, h.2.2.2 j hj]⟩
theorem autM_f {T T' : Sg} {s N : Nat} {d : Nat → Nat → Nat} {acc : Nat → Bool} (h : autM T s N d acc) (w : clG s T T') : autM T' s N d acc := ⟨by rw [w.2.1 44 (by decide) (by decide) (by decide)]; exact h.1, fun k hk x hx => by rw [w.2.1 48 (by decide) (by decide) (by decide)]; exact h.2.1 k hk x hx, fun k hk => by rw [w.2.1 49 (by decide) (by decide) (by decide)]; exact h.2.2 k hk⟩
section CLT
variable {s N : Nat} {d : Nat → Nat → Nat} {acc : Nat → Bool}
theorem areAlike_eq {T : Sg} {f : Nat → Key} {j k : Nat} (hs : s < 4) (ok : autOk N d) (h : autM T s N d acc) (hc : clT T s N f) (hk : k < N) (hj : j < N) : f_X10_areAlike (nI s) (nI j) (nI k) T = some (bI (decide (keyN d (nc f) j = keyN d (nc f) k)), T) := by
  have hN := ok.2.1
  have hlt : ∀ i, i < N → nc f i < 150 := fun i hi => by have := nc_lt (f := f) hi; have := ct_le f N; omega
  have loop : ∀ r x fl, x + r = 4 → r + 1 ≤ fl → nc f j = nc f k → (∀ y, y < x → nc f (d k y) = nc f (d j y)) → f_X10_areAlike_L32 fl (nI s) (nI j) (nI k) (nI x) T = some (bI (decide (keyN d (nc f) j = keyN d (nc f) k)), T) := by
    intro r
    induction r with
    | zero =>
      intro x fl hx hfl he hy
      obtain ⟨q, rfl⟩ : ∃ q, fl = q + 1 := ⟨fl - 1, by omega⟩
      rw [f_X10_areAlike_L32, k_4, if_pos (by rw [nI_leI (by omega) (by omega)]; omega), b_t ((keyN_eq d (nc f) j k).mpr ⟨he, fun y hy2 => hy y (by omega)⟩)]
    | succ r ih =>
      intro x fl hx hfl he hy
      obtain ⟨q, rfl⟩ : ∃ q, fl = q + 1 := ⟨fl - 1, by omega⟩
      have a1 := ok.2.2 k hk x (by omega)
      have a2 := ok.2.2 j hj x (by omega)
      have b1 := hlt _ a1
      have b2 := hlt _ a2
      rw [f_X10_areAlike_L32, k_4, if_neg (by rw [nI_leI (by omega) (by omega)]; omega), ← k_4, ixM4, ixM4, ck_nI (by omega) (by decide), nI_clamp (by omega), nI_clamp (by omega), h.2.1 j hj x (by omega), h.2.1 k hk x (by omega), ixM, ixM, ck_nI (by omega) (by decide), ck_nI (by omega) (by decide), ck_nI (by omega) (by decide), nI_clamp (by omega), nI_clamp (by omega), hc _ a1, hc _ a2]
      by_cases e : nc f (d k x) = nc f (d j x)
      · rw [if_pos (by rw [e]), nI_1, vl_d]
        refine ih (x + 1) q (by omega) (by omega) he (fun y hy2 => ?_)
        by_cases e2 : y = x
        · subst e2; exact e
        · exact hy y (by omega)
      · rw [if_neg (by rw [nI_eq (by omega) (by omega)]; exact fun z => e z.symm), b_f (fun z => e (((keyN_eq d (nc f) j k).mp z).2 x (by omega)))]
  have c1 := hlt j hj
  have c2 := hlt k hk
  unfold f_X10_areAlike
  rw [ixM, ixM, ck_nI (by omega) (by decide), ck_nI (by omega) (by decide), nI_clamp (by omega), nI_clamp (by omega), hc j hj, hc k hk]
  by_cases e : nc f j = nc f k
  · rw [if_pos (by rw [e]), vl_d]
    exact loop 4 0 fu (by omega) (by unfold fu; omega) e (fun y hy => absurd hy (by omega))
  · rw [if_neg (by rw [nI_eq (by omega) (by omega)]; exact e), b_f (fun z => e ((keyN_eq d (nc f) j k).mp z).1)]
theorem div84 {K : Int32 → Int32 → Int32 → Int32 → Int32 → Sg → Option Sg} {T : Sg} {f : Nat → Key} {k : Nat} {x3 x4 : Int32} (hs : s < 4) (ok : autOk N d) (h : autM T s N d acc) (hc : clT T s N f) (hk : k < N) : ∀ (r j fl : Nat), j + r = k → r + 1 ≤ fl → j ≤ ld (keyN d (nc f)) k → f_X10_divides_L84 K fl (nI s) (nI N) x3 x4 (nI k) (nI j) T = f_X10_divides_L109 K (nI s) (nI N) x3 x4 (nI k) (nI (ld (keyN d (nc f)) k)) T := by
  have hN := ok.2.1
  have hld := ld_spec (keyN d (nc f)) k
  intro r
  induction r with
  | zero =>
    intro j fl hj hfl hle
    obtain ⟨q, rfl⟩ : ∃ q, fl = q + 1 := ⟨fl - 1, by omega⟩
    rw [f_X10_divides_L84, if_pos (by rw [nI_leI (by omega) (by omega)]; omega), show ld (keyN d (nc f)) k = j by omega]
  | succ r ih =>
    intro j fl hj hfl hle
    obtain ⟨q, rfl⟩ : ∃ q, fl = q + 1 := ⟨fl - 1, by omega⟩
    rw [f_X10_divides_L84, if_neg (by rw [nI_leI (by omega) (by omega)]; omega), areAlike_eq hs ok h hc hk (show j < N by omega), bd2_some]
    by_cases e : keyN d (nc f) j = keyN d (nc f) k
    · have : ld (keyN d (nc f)) k = j := by
        rcases Nat.lt_or_ge j (ld (keyN d (nc f)) k) with z | z
        · exact absurd e (hld.2.2 j z)
        · omega
      rw [b_t e, if_neg n10, this]
    · rw [b_f e, if_pos rfl, nI_1, vl_d]
      refine ih (j + 1) q (by omega) (by omega) ?_
      rcases Nat.lt_or_ge j (ld (keyN d (nc f)) k) with z | z
      · omega
      · have : ld (keyN d (nc f)) k = j := by omega
        rw [← this] at e
        exact absurd hld.2.1 e
theorem div75 {K : Int32 → Int32 → Int32 → Int32 → Sg → Option Sg} {T0 : Sg} {f : Nat → Key} {x3 : Int32} (hs : s < 4) (ok : autOk N d) (h : autM T0 s N d acc) (hc : clT T0 s N f) : ∃ T', f_X10_divides_L75 K fu (nI s) (nI N) x3 (nI 0) (nI 0) T0 = K (nI s) (nI N) x3 (nI (ct (keyN d (nc f)) N)) T' ∧ clG s T0 T' ∧ clT T' s N (keyN d (nc f)) ∧ T'.1 47 = T0.1 47 := by
  have hN := ok.2.1
  generalize hg : keyN d (nc f) = g
  have cp : ∀ r k fl (Z : Sg), k + r = N → r + 1 ≤ fl → clG s T0 Z → Z.1 47 = T0.1 47 → (∀ j, j < k → Z.1 51 (150 * s + j) = nI (nc g j)) → (∀ j, j < N → Z.1 67 j = nI (nc g j)) → ∃ T', f_X10_divides_L161 K fl (nI s) (nI N) x3 (nI (ct g N)) (nI k) Z = K (nI s) (nI N) x3 (nI (ct g N)) T' ∧ clG s T0 T' ∧ clT T' s N g ∧ T'.1 47 = T0.1 47 := by
    intro r
    induction r with
    | zero =>
      intro k fl Z hk hfl z1 z2 z3 z4
      obtain ⟨q, rfl⟩ : ∃ q, fl = q + 1 := ⟨fl - 1, by omega⟩
      refine ⟨Z, ?_, z1, fun j hj => z3 j (by omega), z2⟩
      rw [f_X10_divides_L161, if_pos (by rw [nI_leI (by omega) (by omega)]; omega)]
    | succ r ih =>
      intro k fl Z hk hfl z1 z2 z3 z4
      obtain ⟨q, rfl⟩ : ∃ q, fl = q + 1 := ⟨fl - 1, by omega⟩
      obtain ⟨T', u1, u2⟩ := ih (k + 1) q (sI Z 51 (150 * s + k) (nI (nc g k))) (by omega) (by omega) (clG_t z1 ⟨rfl, fun id _ i2 _ => sI_id _ _ _ i2, fun j hj => sI_ne _ _ (Or.inr (by omega)), fun j _ => by rw [sI_id _ _ _ (by decide)]⟩) (by rw [sI_id _ _ _ (by decide)]; exact z2) (fun j hj => by
        by_cases e : j = k
        · subst e; exact sI_at _ _ _ _
        · rw [sI_ne _ _ (Or.inr (by omega))]; exact z3 j (by omega)) (fun j hj => by rw [sI_id _ _ _ (by decide)]; exact z4 j hj)
      refine ⟨T', ?_, u2⟩
      rw [← u1, f_X10_divides_L161, if_neg (by rw [nI_leI (by omega) (by omega)]; omega), ck_nI (by omega) (by decide), ixM, ck_nI (by omega) (by decide), nI_clamp (by omega), nI_clamp (by omega), z4 k (by omega), vl_d, nI_1, vl_d]
  have loop : ∀ r k fl (Z : Sg), k + r = N → r + 1 ≤ fl → (Z.2 = T0.2 ∧ ∀ id, id ≠ 67 → Z.1 id = T0.1 id) → (∀ j, j < k → Z.1 67 j = nI (nc g j)) → ∃ T', f_X10_divides_L75 K fl (nI s) (nI N) x3 (nI (ct g k)) (nI k) Z = K (nI s) (nI N) x3 (nI (ct g N)) T' ∧ clG s T0 T' ∧ clT T' s N g ∧ T'.1 47 = T0.1 47 := by
    intro r
    induction r with
    | zero =>
      intro k fl Z hk hfl z1 z2
      obtain ⟨q, rfl⟩ : ∃ q, fl = q + 1 := ⟨fl - 1, by omega⟩
      have e : k = N := by omega
      subst e
      obtain ⟨T', u1, u2⟩ := cp k 0 fu Z (by omega) (by unfold fu; omega) ⟨z1.1, fun id _ _ i3 => z1.2 id i3, fun j _ => by rw [z1.2 51 (by decide)], fun j _ => by rw [z1.2 47 (by decide)]⟩ (z1.2 47 (by decide)) (fun j hj => absurd hj (by omega)) z2
      refine ⟨T', ?_, u2⟩
      rw [← u1, f_X10_divides_L75, if_pos (by rw [nI_leI (by omega) (by omega)]; omega), vl_d]
      rfl
    | succ r ih =>
      intro k fl Z hk hfl z1 z2
      obtain ⟨q, rfl⟩ : ∃ q, fl = q + 1 := ⟨fl - 1, by omega⟩
      have hZ : autM Z s N d acc := ⟨by rw [z1.2 44 (by decide)]; exact h.1, fun k hk x hx => by rw [z1.2 48 (by decide)]; exact h.2.1 k hk x hx, fun k hk => by rw [z1.2 49 (by decide)]; exact h.2.2 k hk⟩
      have hcZ : clT Z s N f := fun j hj => by rw [z1.2 51 (by decide)]; exact hc j hj
      have hld := ld_spec g k
      have hctk : ct g k ≤ k := ct_le g k
      obtain ⟨T', u1, u2⟩ := ih (k + 1) q (sI Z 67 k (nI (nc g k))) (by omega) (by omega) ⟨z1.1, fun id hid => by rw [sI_id _ _ _ hid]; exact z1.2 id hid⟩ (fun j hj => by
        by_cases e : j = k
        · subst e; exact sI_at _ _ _ _
        · rw [sI_ne _ _ (Or.inr e)]; exact z2 j (by omega))
      refine ⟨T', ?_, u2⟩
      have e84 := div84 (K := f_X10_divides_L75 K q) (x3 := x3) (x4 := nI (ct g k)) hs ok hZ hcZ (show k < N by omega) k 0 fu (by omega) (by unfold fu; omega) (Nat.zero_le _)
      rw [hg] at e84
      rw [← u1, f_X10_divides_L75, if_neg (by rw [nI_leI (by omega) (by omega)]; omega), vl_d]
      have e84' : f_X10_divides_L84 (f_X10_divides_L75 K q) fu (nI s) (nI N) x3 (nI (ct g k)) (nI k) 0 Z = _ := e84
      rw [e84']
      have hs2 := ct_s g k
      unfold f_X10_divides_L109 f_X10_divides_L134
      by_cases e : ld g k = k
      · rw [if_pos e] at hs2
        have hnk : nc g k = ct g k := by unfold nc; rw [e]
        rw [e, if_pos (by rw [nI_leI (by omega) (by omega)]; omega), ck_nI (by omega) (by decide), nI_clamp (by omega), vl_d, if_pos (by rw [nI_leI (by omega) (by omega)]; omega), nI_1, vl_d, nI_1, vl_d, hs2, hnk]
      · rw [if_neg e] at hs2
        have hnk : nc g (ld g k) = nc g k := by unfold nc; rw [ld_ld]
        rw [if_neg (by rw [nI_leI (by omega) (by omega)]; omega), ck_nI (by omega) (by decide), ck_nI (by omega) (by decide), nI_clamp (by omega), nI_clamp (by omega), z2 _ (by omega), vl_d, if_neg (by rw [nI_leI (by omega) (by omega)]; omega), k_0, nI_add, vl_d, nI_1, vl_d, hs2, hnk]
  exact loop N 0 fu T0 (by omega) (by unfold fu; omega) ⟨rfl, fun _ _ => rfl⟩ (fun j hj => absurd hj (by omega))
theorem div2 {T : Sg} (hs : s < 4) (ok : autOk N d) (h : autM T s N d acc) : ∃ T', f_X10_divides (nI s) (nI N) T = f_X10_divides_L60 fu (nI s) (nI N) (nI 0) (nI 1) T' ∧ clG s T T' ∧ clT T' s N (key0 acc) := by
  have hN := ok.2.1
  have hN1 := ok.1
  have loop : ∀ r k fl (Z : Sg), k + r = N → r + 1 ≤ fl → clG s T Z → (∀ j, j < k → Z.1 51 (150 * s + j) = nI (nc (key0 acc) j)) → ∃ T', f_X10_divides_L2 fl (nI s) (nI N) (nI k) Z = f_X10_divides_L60 fu (nI s) (nI N) (nI 0) (nI 1) T' ∧ clG s T T' ∧ clT T' s N (key0 acc) := by
    intro r
    induction r with
    | zero =>
      intro k fl Z hk hfl z1 z2
      obtain ⟨q, rfl⟩ : ∃ q, fl = q + 1 := ⟨fl - 1, by omega⟩
      refine ⟨Z, ?_, z1, fun j hj => z2 j (by omega)⟩
      rw [f_X10_divides_L2, if_pos (by rw [nI_leI (by omega) (by omega)]; omega), vl_d, vl_d]
      rfl
    | succ r ih =>
      intro k fl Z hk hfl z1 z2
      obtain ⟨q, rfl⟩ : ∃ q, fl = q + 1 := ⟨fl - 1, by omega⟩
      have hZ := autM_f h z1
      obtain ⟨T', u1, u2⟩ := ih (k + 1) q (sI Z 51 (150 * s + k) (nI (nc (key0 acc) k))) (by omega) (by omega) (clG_t z1 ⟨rfl, fun id _ i2 _ => sI_id _ _ _ i2, fun j hj => sI_ne _ _ (Or.inr (by omega)), fun j _ => by rw [sI_id _ _ _ (by decide)]⟩) (fun j hj => by
        by_cases e : j = k
        · subst e; exact sI_at _ _ _ _
        · rw [sI_ne _ _ (Or.inr (by omega))]; exact z2 j (by omega))
      refine ⟨T', ?_, u2⟩
      have h00 := hZ.2.2 0 (by omega)
      rw [Nat.add_zero] at h00
      rw [← u1, f_X10_divides_L2, if_neg (by rw [nI_leI (by omega) (by omega)]; omega), ixM, k_150, pk_mul, ck_nI (by omega) (by decide), ck_nI (by omega) (by decide), nI_clamp (by omega), nI_clamp (by omega), hZ.2.2 k (by omega), h00, nc_0 acc k, nI_1]
      by_cases e : acc k = acc 0
      · rw [if_pos (by rw [e]), ck_nI (by omega) (by decide), vl_d, vl_d, if_pos e]; rfl
      · rw [if_neg (by rw [bI_eq]; exact e), ck_nI (by omega) (by decide), vl_d, vl_d, if_neg e]; rfl
  unfold f_X10_divides
  rw [vl_d]
  exact loop N 0 fu T (by omega) (by unfold fu; omega) (clG_r s T) (fun j hj => absurd hj (by omega))
theorem divides_eq {T : Sg} (hs : s < 4) (ok : autOk N d) (h : autM T s N d acc) : ∃ i T', f_X10_divides (nI s) (nI N) T = some T' ∧ clG s T T' ∧ clT T' s N (fs d acc (i + 1)) ∧ T'.1 47 s = nI (ct (fs d acc (i + 1)) N) ∧ ct (fs d acc i) N = ct (fs d acc (i + 1)) N := by
  have hN := ok.2.1
  have hN1 := ok.1
  have loop : ∀ r i hd fl (Z : Sg), i + r = 150 → r + 1 ≤ fl → clG s T Z → clT Z s N (fs d acc (i + 1)) → i + 1 ≤ hd → hd ≤ ct (fs d acc (i + 1)) N → (hd = ct (fs d acc i) N ∨ (i = 0 ∧ hd = 1)) → ∃ i' T', f_X10_divides_L60 fl (nI s) (nI N) (nI hd) (nI (ct (fs d acc (i + 1)) N)) Z = some T' ∧ clG s T T' ∧ clT T' s N (fs d acc (i' + 1)) ∧ T'.1 47 s = nI (ct (fs d acc (i' + 1)) N) ∧ ct (fs d acc i') N = ct (fs d acc (i' + 1)) N := by
    intro r
    induction r with
    | zero =>
      intro i hd fl Z hi hfl z1 z2 z3 z4 z5
      have := ct_le (fs d acc (i + 1)) N
      omega
    | succ r ih =>
      intro i hd fl Z hi hfl z1 z2 z3 z4 z5
      obtain ⟨q, rfl⟩ : ∃ q, fl = q + 1 := ⟨fl - 1, by omega⟩
      have hle := ct_le (fs d acc (i + 1)) N
      have hfi := fine_le (fs_fine d acc i) N
      have hpo := ct_pos (f := fs d acc i) hN1
      by_cases e : ct (fs d acc (i + 1)) N = hd
      · refine ⟨i, sI Z 47 s (nI (ct (fs d acc (i + 1)) N)), ?_, clG_t z1 ⟨rfl, fun id i1 _ _ => sI_id _ _ _ i1, fun j _ => by rw [sI_id _ _ _ (by decide)], fun j hj => sI_ne _ _ (Or.inr hj)⟩, fun k hk => by rw [sI_id _ _ _ (by decide)]; exact z2 k hk, sI_at _ _ _ _, by omega⟩
        rw [f_X10_divides_L60, if_pos (by rw [e]), ck_nI hs (by decide), nI_clamp (by omega), vl_d]
      · obtain ⟨T1, u1, u2, u3, u4⟩ := div75 (K := f_X10_divides_L60 q) (x3 := nI (ct (fs d acc (i + 1)) N)) hs ok (autM_f h z1) z2
        have hd' : f_X10_divides_L60 (q + 1) (nI s) (nI N) (nI hd) (nI (ct (fs d acc (i + 1)) N)) Z = f_X10_divides_L60 q (nI s) (nI N) (nI (ct (fs d acc (i + 1)) N)) (nI (ct (fs d acc (i + 1 + 1)) N)) T1 := by
          rw [f_X10_divides_L60, if_neg (by rw [nI_eq (by omega) (by omega)]; exact e), vl_d, vl_d, vl_d]
          exact u1
        rw [hd']
        exact ih (i + 1) (ct (fs d acc (i + 1)) N) q T1 (by omega) (by omega) (clG_t z1 u2) u3 (by omega) (fine_le (fs_fine d acc (i + 1)) N) (Or.inl rfl)
  obtain ⟨T1, e1, e2, e3⟩ := div2 hs ok h
  obtain ⟨T2, u1, u2, u3, u4⟩ := div75 (K := f_X10_divides_L60 99999) (x3 := nI 1) (f := fs d acc 0) hs ok (autM_f h e2) e3
  obtain ⟨i', T', w⟩ := loop 150 0 1 99999 T2 (by omega) (by omega) (clG_t e2 u2) u3 (by omega) (ct_pos hN1) (Or.inr ⟨rfl, rfl⟩)
  refine ⟨i', T', ?_, w.2⟩
  rw [← w.1, e1]
  have : ∀ g, g = 99999 + 1 → f_X10_divides_L60 g (nI s) (nI N) (nI 0) (nI 1) T1 = f_X10_divides_L60 99999 (nI s) (nI N) (nI 1) (nI (ct (fs d acc (0 + 1)) N)) T2 := by
    intro g hg
    rw [hg, f_X10_divides_L60, if_neg (by rw [nI_eq (by omega) (by omega)]; omega), vl_d, vl_d, vl_d]
    exact u1
  exact this fu (by unfold fu; omega)
end CLT
