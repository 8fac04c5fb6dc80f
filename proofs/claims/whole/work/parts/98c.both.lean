def dOf (S : Sg) (m k x : Nat) : Nat := Int32.toNatClampNeg (S.1 (m + 1) (4 * k + x))
def aOf (S : Sg) (m k : Nat) : Bool := decide (S.1 (m + 4) k = 1)
def bothOk (m s P N : Nat) (S T : Sg) : Prop := autOk N (dOf S m) ∧ autC S m N (dOf S m) (aOf S m) ∧ (∀ k, k < N → ∀ x, x < 4 → T.1 48 (4 * (150 * s + k) + x) = nI (dOf S m k x)) ∧ (∀ k, k < N → T.1 49 (150 * s + k) = bI (aOf S m k)) ∧ S.1 m 2 = nI P ∧ (∀ j, j < N → ∀ p, p < P → S.1 (m + 3) (6 * j + p) = T.1 50 (6 * (150 * s + j) + p)) ∧ ∀ j, 0 < j → j < N → ∃ fr b, fr < j ∧ b < 4 ∧ S.1 (m + 2) j = nI (4 * fr + b) ∧ T.1 52 (150 * s + j) = nI fr ∧ T.1 53 (150 * s + j) = nI b
def mkF (m : Nat) (S S' : Sg) : Prop := S'.2 = S.2 ∧ ∀ id, id < 13 ∨ 16 < id → id < m ∨ m + 4 < id → S'.1 id = S.1 id
def tG (s : Nat) (T T' : Sg) : Prop := T'.2 = T.2 ∧ (∀ id, id < 48 ∨ 53 < id → id ≠ 65 → id ≠ 66 → T'.1 id = T.1 id) ∧ (∀ j, j < 900 * s ∨ 900 * s + 900 ≤ j → T'.1 50 j = T.1 50 j) ∧ (∀ j, j < 600 * s ∨ 600 * s + 600 ≤ j → T'.1 48 j = T.1 48 j) ∧ ∀ j, j < 150 * s ∨ 150 * s + 150 ≤ j → T'.1 49 j = T.1 49 j ∧ T'.1 51 j = T.1 51 j ∧ T'.1 52 j = T.1 52 j ∧ T'.1 53 j = T.1 53 j
theorem bothRun {m s P : Nat} {sc : Nat → Nat} {S T : Sg} {c : Nat} (hm : 79 ≤ m) (hs : s < 4) (hg : gd S T P sc) (hc : c < 400) (hpl : pl P T c [S.2.1 5 1]) : ∃ S' T', mkF m S S' ∧ S'.1 m 3 = sumL (S.1 6) P ∧ ((f_X5_make m S = some (0, S') ∧ f_X10_builds (nI s) T = some (-2, T') ∧ tF s T T') ∨ (∃ N, f_X5_make m S = some (1, S') ∧ f_X10_builds (nI s) T = some (nI N, T') ∧ bothOk m s P N S' T' ∧ tG s T T')) := by
  obtain ⟨S1, T1, a1, a2, a3, a4, h⟩ := make_sim hm hs hg
  rcases h with ⟨N, e1, e2, e3, e4⟩ | ⟨e1, e2⟩
  · have hg1 : gd S1 T1 P sc := gd_f hg (fun id i1 i2 => a2 id (by omega) (by omega)) (fun id i1 i2 => a3.2.1 id (by omega) (by omega) (by omega) (by omega) (by omega))
    have hpl1 : pl P T1 c [S1.2.1 5 1] := by
      rw [a1]
      exact pl_f hpl (a3.2.1 43 (by decide) (by decide) (by decide) (by decide) (by decide)) (by rw [a3.2.1 34 (by decide) (by decide) (by decide) (by decide) (by decide)])
    obtain ⟨T2, b1, b2, b3, b4, b5⟩ := bl211 hs hg1 e3 hc hpl1
    obtain ⟨r1, r2, r3, r4, r5, r6, r7, r8, r9⟩ := e3
    have hst : ∀ k, k < N → ∀ x, x < 4 → dOf S1 m k x < N ∧ S1.1 (m + 1) (4 * k + x) = nI (dOf S1 m k x) ∧ T1.1 48 (4 * (150 * s + k) + x) = nI (dOf S1 m k x) := by
      intro k hk x hx
      obtain ⟨d, d1, d2, d3⟩ := e4 k x hx (Or.inl hk)
      have : dOf S1 m k x = d := by unfold dOf; rw [d2, nI_clamp (by omega)]
      rw [this]
      exact ⟨d1, d2, d3⟩
    have hac : ∀ k, k < N → S1.1 (m + 4) k = bI (aOf S1 m k) := by
      intro k hk
      unfold aOf
      rw [r8 k hk]
      cases bJ (S1.2.1 5 1) (tkw (tkJ S1 m k) P) <;> decide
    refine ⟨S1, T2, ⟨a1, a2⟩, a4, Or.inr ⟨N, e1, by rw [e2, b1], ⟨⟨r3, r4, fun k hk x hx => (hst k hk x hx).1⟩, ⟨r1, fun k hk x hx => (hst k hk x hx).2.1, hac⟩, fun k hk x hx => by rw [b3 48 (by decide) (by decide)]; exact (hst k hk x hx).2.2, fun k hk => by rw [b4 k hk]; exact hac k hk, r2, fun j hj p hp => by rw [b3 50 (by decide) (by decide)]; exact r6 j hj p hp, fun j j1 j2 => by rw [b3 52 (by decide) (by decide), b3 53 (by decide) (by decide)]; exact r9 j j1 j2⟩, by rw [b2, a3.1], fun id i1 i2 i3 => by rw [b3 id (by omega) i2, a3.2.1 id (by omega) (by omega) (by omega) (by omega) i3], fun j hj => by rw [b3 50 (by decide) (by decide), a3.2.2.1 j hj], fun j hj => by rw [b3 48 (by decide) (by decide), a3.2.2.2.1 j hj], fun j hj => ⟨by rw [b5 j (by omega), a3.2.1 49 (by decide) (by decide) (by decide) (by decide) (by decide)], by rw [b3 51 (by decide) (by decide), a3.2.1 51 (by decide) (by decide) (by decide) (by decide) (by decide)], by rw [b3 52 (by decide) (by decide), (a3.2.2.2.2 j hj).1], by rw [b3 53 (by decide) (by decide), (a3.2.2.2.2 j hj).2]⟩⟩⟩
  · exact ⟨S1, T1, ⟨a1, a2⟩, a4, Or.inl ⟨e1, e2, a3⟩⟩
/-- the class's part behind make -/
theorem classRun {m N : Nat} {S : Sg} {d : Nat → Nat → Nat} {acc : Nat → Bool} (hm : 79 ≤ m) (ok : autOk N d) (h : autC S m N d acc) : ∃ i S' b, f_X3_classify m S = some S' ∧ S'.2 = S.2 ∧ (∀ id, id < 18 ∨ 21 < id → id ≠ m → id ≠ m + 5 → S'.1 id = S.1 id) ∧ (∀ b, b ≠ 1 → b ≠ 4 → S'.1 m b = S.1 m b) ∧ (∀ k, k < N → S'.1 (m + 5) k = nI (nc (fs d acc (i + 1)) k)) ∧ S'.1 m 1 = nI (ct (fs d acc (i + 1)) N) ∧ S'.1 m 4 = bI b ∧ ((b = true ∧ ¬ Inf d acc) ∨ (b = false ∧ Inf d acc)) ∧ ct (fs d acc i) N = ct (fs d acc (i + 1)) N := by
  obtain ⟨i, S1, e1, e2, e3, e4⟩ := classify_eq hm ok h
  have hle := ct_le (fs d acc (i + 1)) N
  have hN := ok.2.1
  have hN1 := ok.1
  obtain ⟨b, S2, f1, f2, f3⟩ := isFinite_eq (S := S1) (n := ct (fs d acc (i + 1)) N) (c := nc (fs d acc (i + 1))) hm ok (autC_f hm h e2) (by omega) (ct_pos hN1) e3.2 (fun k hk => ⟨e3.1 k hk, nc_lt hk⟩) (by unfold nc; have := (ld_spec (fs d acc (i + 1)) 0).1; rw [show ld (fs d acc (i + 1)) 0 = 0 by omega]; rfl) (fs_cong ok e4)
  refine ⟨i, sI S2 m 4 (bI b), b, ?_, by rw [sI_2, f2.1, e2.1], fun id i1 i2 i3 => by rw [sI_id _ _ _ i2, f2.2 id (by omega), e2.2.1 id i1 i2 i3], fun c c1 c2 => by rw [sI_ne _ _ (Or.inr c2), f2.2 m (by omega), e2.2.2 c c1], fun k hk => by rw [sI_id _ _ _ (by omega), f2.2 (m + 5) (by omega)]; exact e3.1 k hk, by rw [sI_ne _ _ (Or.inr (by decide)), f2.2 m (by omega)]; exact e3.2, sI_at _ _ _ _, f3, e4⟩
  rw [e1]
  unfold finC
  rw [f1, bd2_some, zk_b, vl_d]
/-- where a read of the reference begins -/
def rS (k : Nat) (T T5 : Sg) : Prop := T5.2 = T.2 ∧ (∀ id, id ≠ 34 → id ≠ 36 → T5.1 id = T.1 id) ∧ (∀ b, b ≠ 2 → b ≠ 3 → T5.1 34 b = T.1 34 b) ∧ T5.1 34 3 = nI k ∧ T5.1 34 2 = 0 ∧ ∀ j, j < k → T5.1 36 j &&& 255 = T.1 35 j &&& 255
def rK (s : Nat) (T6 : Sg) : Option (Int32 × Sg) := if (T6.1 34 4) ≤ 0 then bd (f_X10_keeps (nI s) ((0 : Int32)) T6) (fun S_7 => bd2 (f_X10_builds (nI s) S_7) (fun r_9 S_8 => vl r_9 (fun x3_10 => (if 0 ≤ x3_10 then ck (nI s) 4 (vl (sI S_8 44 (Int32.toNatClampNeg (nI s)) x3_10) (fun S_11 => ck (nI s) 4 (vl (sI S_11 45 (Int32.toNatClampNeg (nI s)) ((S_11.1 34 6))) (fun S_12 => ck (nI s) 4 (vl (sI S_12 46 (Int32.toNatClampNeg (nI s)) ((0 : Int32))) (fun S_13 => vl ((0 : Int32)) (fun x4_14 => (f_X10_read_L123 fu) (nI s) x3_10 x4_14 S_13))))))) else bd (f_X10_keeps (nI s) ((1 : Int32)) S_8) (fun S_18 => some ((-2 : Int32), S_18)))))) else some ((0 : Int32), T6)
theorem nar_by (x : Int32) : vp_nar .byte x &&& 255 = x &&& 255 := by
  rw [vp_nar_byte, bp_b]
theorem rd_eq {s k t : Nat} {T : Sg} (hs : s < 4) (hk : k ≤ t) (ht : t ≤ 100) (h2 : T.1 34 2 = nI t) : ∃ T5, f_X10_read (nI s) (nI k) T = bd (f_X10_whole T5) (fun T6 => rK s T6) ∧ rS k T T5 := by
  have loop : ∀ r j fl (Z : Sg), j + r = k → r + 1 ≤ fl → Z.2 = T.2 → (∀ id, id ≠ 36 → Z.1 id = T.1 id) → (∀ i, i < j → Z.1 36 i &&& 255 = T.1 35 i &&& 255) → ∃ T5, f_X10_read_L25 fl (nI s) (nI k) (nI j) Z = bd (f_X10_whole T5) (fun T6 => rK s T6) ∧ rS k T T5 := by
    intro r
    induction r with
    | zero =>
      intro j fl Z hj hfl z1 z2 z3
      obtain ⟨f, rfl⟩ : ∃ f, fl = f + 1 := ⟨fl - 1, by omega⟩
      refine ⟨sI (sI Z 34 3 (nI k)) 34 2 0, ?_, z1, fun id i1 i2 => by rw [sI_id _ _ _ i1, sI_id _ _ _ i1]; exact z2 id i2, fun b b1 b2 => by rw [sI_ne _ _ (Or.inr b1), sI_ne _ _ (Or.inr b2), z2 34 (by decide)], by rw [sI_ne _ _ (Or.inr (by decide)), sI_at], sI_at _ _ _ _, fun i hi => by rw [sI_id _ _ _ (by decide), sI_id _ _ _ (by decide)]; exact z3 i (by omega)⟩
      rw [f_X10_read_L25, if_pos (by rw [nI_leI (by omega) (by omega)]; omega), vl_d, vl_d]
      rfl
    | succ r ih =>
      intro j fl Z hj hfl z1 z2 z3
      obtain ⟨f, rfl⟩ : ∃ f, fl = f + 1 := ⟨fl - 1, by omega⟩
      obtain ⟨T5, u1, u2⟩ := ih (j + 1) f (sI Z 36 j (vp_nar .byte (T.1 35 j))) (by omega) (by omega) z1 (fun id hid => by rw [sI_id _ _ _ hid]; exact z2 id hid) (fun i hi => by
        by_cases e : i = j
        · subst e; rw [sI_at]; exact nar_by _
        · rw [sI_ne _ _ (Or.inr e)]; exact z3 i (by omega))
      refine ⟨T5, ?_, u2⟩
      rw [← u1, f_X10_read_L25, if_neg (by rw [nI_leI (by omega) (by omega)]; omega), ck_nI (by omega) (by decide), ck_nI (by omega) (by decide), nI_clamp (by omega), z2 35 (by decide), vl_d, nI_1, vl_d]
  unfold f_X10_read
  have hl : f_X10_lies (nI s) 0 3 T = some (1, T) := lies_in (N := 4) (j := s) hs (by decide) T
  rw [hl, bd2_some, if_neg n10, if_neg (nI_pos (by omega)), h2, if_pos (by rw [nI_leI (by omega) (by omega)]; omega), vl_d]
  exact loop k 0 fu T (by omega) (by unfold fu; omega) rfl (fun _ _ => rfl) (fun i hi => absurd hi (by omega))
theorem rd123 {s N P : Nat} {T : Sg} (hs : s < 4) (hP : P ≤ 6) (h6 : T.1 34 6 = nI P) : f_X10_read_L123 fu (nI s) (nI N) 0 (sI T 46 s 0) = bd (f_X10_divides (nI s) (nI N) (sI T 46 s (sumL (T.1 37) P))) (fun S_15 => some (nI N, S_15)) := by
  have loop : ∀ r p fl, p + r = P → r + 1 ≤ fl → f_X10_read_L123 fl (nI s) (nI N) (nI p) (sI T 46 s (sumL (T.1 37) p)) = bd (f_X10_divides (nI s) (nI N) (sI T 46 s (sumL (T.1 37) P))) (fun S_15 => some (nI N, S_15)) := by
    intro r
    induction r with
    | zero =>
      intro p fl hp hfl
      obtain ⟨f, rfl⟩ : ∃ f, fl = f + 1 := ⟨fl - 1, by omega⟩
      rw [f_X10_read_L123, sI_id _ _ _ (by decide), h6, if_pos (by rw [nI_leI (by omega) (by omega)]; omega), show p = P by omega]
    | succ r ih =>
      intro p fl hp hfl
      obtain ⟨f, rfl⟩ : ∃ f, fl = f + 1 := ⟨fl - 1, by omega⟩
      rw [f_X10_read_L123, sI_id _ _ _ (by decide), h6, if_neg (by rw [nI_leI (by omega) (by omega)]; omega), ck_nI hs (by decide), ck_nI (by omega) (by decide), ck_nI hs (by decide), nI_clamp (by omega), nI_clamp (by omega), sI_at, sI_id _ _ _ (by decide), vl_d, nI_1, vl_d, sI_sI]
      exact ih (p + 1) f (by omega) (by omega)
  exact loop P 0 fu (by omega) (by unfold fu; omega)
theorem iMach_loc {S S' : Sg} {m s : Nat} (h1 : ∀ r, r < 6 → S'.1 (m + r) = S.1 (m + r)) (h2 : ∀ i, 44 ≤ i → i ≤ 47 → S'.1 i s = S.1 i s) (h50 : ∀ j, 900 * s ≤ j → j < 900 * s + 900 → S'.1 50 j = S.1 50 j) (h48 : ∀ j, 600 * s ≤ j → j < 600 * s + 600 → S'.1 48 j = S.1 48 j) (h9 : ∀ j, 150 * s ≤ j → j < 150 * s + 150 → S'.1 49 j = S.1 49 j ∧ S'.1 51 j = S.1 51 j ∧ S'.1 52 j = S.1 52 j ∧ S'.1 53 j = S.1 53 j) (h : iMach S m s) : iMach S' m s := by
  have e0 := h1 0 (by omega)
  rw [Nat.add_zero] at e0
  obtain ⟨N, P, d, acc, fr, by_, ok, ⟨c1, c2, c3⟩, ⟨a1, a2, a3⟩, hP, p1, p2, q1, q2, o, st, cl, fi⟩ := h
  have hN := ok.2.1
  refine ⟨N, P, d, acc, fr, by_, ok, ⟨by rw [e0]; exact c1, fun k hk x hx => by rw [h1 1 (by omega)]; exact c2 k hk x hx, fun k hk => by rw [h1 4 (by omega)]; exact c3 k hk⟩, ⟨by rw [h2 44 (by omega) (by omega)]; exact a1, fun k hk x hx => by rw [h48 _ (by omega) (by omega)]; exact a2 k hk x hx, fun k hk => by rw [(h9 _ (by omega) (by omega)).1]; exact a3 k hk⟩, hP, by rw [e0]; exact p1, by rw [h2 45 (by omega) (by omega)]; exact p2, by rw [e0, h2 47 (by omega) (by omega)]; exact q1, by rw [e0, h2 46 (by omega) (by omega)]; exact q2, fun k k1 k2 => by rw [h1 2 (by omega), (h9 _ (by omega) (by omega)).2.2.1, (h9 _ (by omega) (by omega)).2.2.2]; exact o k k1 k2, fun k hk p hp => by rw [h1 3 (by omega), h50 _ (by omega) (by omega)]; exact st k hk p hp, fun k hk => by rw [h1 5 (by omega), (h9 _ (by omega) (by omega)).2.1]; exact cl k hk, by rw [e0]; exact fi⟩
