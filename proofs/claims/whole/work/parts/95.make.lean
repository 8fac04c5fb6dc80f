section MAKE
variable {m s P : Nat} {sc : Nat → Nat}
theorem innerL {KC : Nat → Int32 → Sg → Option (Int32 × Sg)} {KT : Int32 → Int32 → Int32 → Sg → Option (Int32 × Sg)} {k : Nat} (hm : 79 ≤ m) (hs : s < 4) : ∀ (r x N fl gl : Nat) (S T : Sg), x + r = 4 → r + 1 ≤ fl → r + 1 ≤ gl → k < N → gd S T P sc → bR0 m s P N S T → stps m s N k x S T → (∀ p, p < P → S.1 13 p = canT T s k p (sc p)) → ∃ S' T', cF m S S' ∧ tF s T T' ∧ ((∃ N', N ≤ N' ∧ f_X5_make_L60 KC fl m (nI k) (nI x) S = KC m (nI (k + 1)) S' ∧ f_X10_builds_L50 KT gl (nI s) (nI N) (nI k) (nI x) T = KT (nI s) (nI N') (nI (k + 1)) T' ∧ bR0 m s P N' S' T' ∧ stps m s N' (k + 1) 0 S' T') ∨ (f_X5_make_L60 KC fl m (nI k) (nI x) S = some (0, S') ∧ f_X10_builds_L50 KT gl (nI s) (nI N) (nI k) (nI x) T = some (-2, T'))) := by
  intro r
  induction r with
  | zero =>
    intro x N fl gl S T hx hfl hgl hk hg hR hst h13
    obtain ⟨f, rfl⟩ : ∃ f, fl = f + 1 := ⟨fl - 1, by omega⟩
    obtain ⟨g, rfl⟩ : ∃ g, gl = g + 1 := ⟨gl - 1, by omega⟩
    have hN := hR.2.2.2.1
    refine ⟨S, T, cF_r m S, tF_r s T, Or.inl ⟨N, Nat.le_refl _, ?_, ?_, hR, fun j y hy hj => hst j y hy (by omega)⟩⟩
    · rw [f_X5_make_L60, k_4, if_pos (by rw [nI_leI (by omega) (by omega)]; omega), vl_d, nI_1]
    · rw [f_X10_builds_L50, k_4, if_pos (by rw [nI_leI (by omega) (by omega)]; omega), vl_d, nI_1]
  | succ r ih =>
    intro x N fl gl S T hx hfl hgl hk hg hR hst h13
    obtain ⟨f, rfl⟩ : ∃ f, fl = f + 1 := ⟨fl - 1, by omega⟩
    obtain ⟨g, rfl⟩ : ∃ g, gl = g + 1 := ⟨gl - 1, by omega⟩
    obtain ⟨S1, T1, c1, t1, h | ⟨h1, h2⟩⟩ := step_sim hm hs hk (by omega) hg hR hst h13
    · obtain ⟨N1, n1, e1, e2, e3, e4, e5⟩ := h
      have hg1 : gd S1 T1 P sc := gd_f hg (fun id i1 i2 => c1.2.1 id (by omega) (by omega)) (fun id i1 i2 => t1.2.1 id (by omega) (by omega) (by omega) (by omega) (by omega))
      obtain ⟨S', T', c2, t2, h⟩ := ih (x + 1) N1 f g S1 T1 (by omega) (by omega) (by omega) (by omega) hg1 e3 e4 e5
      refine ⟨S', T', cF_t c1 c2, tF_t t1 t2, ?_⟩
      rw [e1, e2]
      rcases h with ⟨N', h1, h2, h3, h4, h5⟩ | h
      · exact Or.inl ⟨N', by omega, h2, h3, h4, h5⟩
      · exact Or.inr h
    · exact ⟨S1, T1, c1, t1, Or.inr ⟨h1 KC f, h2 KT g⟩⟩
theorem outerL (hm : 79 ≤ m) (hs : s < 4) : ∀ (r k N fl gl : Nat) (S T : Sg), k + r = 150 → r + 1 ≤ fl → r + 1 ≤ gl → k ≤ N → gd S T P sc → bR0 m s P N S T → stps m s N k 0 S T → ∃ S' T', cF m S S' ∧ tF s T T' ∧ ((∃ N', f_X5_make_L35 fl m (nI k) S = some (1, S') ∧ f_X10_builds_L42 gl (nI s) (nI N) (nI k) T = f_X10_builds_L211 fu (nI s) (nI N') (nI 0) T' ∧ bR0 m s P N' S' T' ∧ stps m s N' N' 0 S' T') ∨ (f_X5_make_L35 fl m (nI k) S = some (0, S') ∧ f_X10_builds_L42 gl (nI s) (nI N) (nI k) T = some (-2, T'))) := by
  intro r
  induction r with
  | zero =>
    intro k N fl gl S T hk hfl hgl hkN hg hR hst
    obtain ⟨f, rfl⟩ : ∃ f, fl = f + 1 := ⟨fl - 1, by omega⟩
    obtain ⟨g, rfl⟩ : ∃ g, gl = g + 1 := ⟨gl - 1, by omega⟩
    have hN := hR.2.2.2.1
    have e : k = N := by omega
    subst e
    refine ⟨S, T, cF_r m S, tF_r s T, Or.inl ⟨k, ?_, ?_, hR, hst⟩⟩
    · rw [f_X5_make_L35, hR.1, if_pos (by rw [nI_leI (by omega) (by omega)]; omega)]
    · rw [f_X10_builds_L42, if_pos (by rw [nI_leI (by omega) (by omega)]; omega), vl_d]; rfl
  | succ r ih =>
    intro k N fl gl S T hk hfl hgl hkN hg hR hst
    obtain ⟨f, rfl⟩ : ∃ f, fl = f + 1 := ⟨fl - 1, by omega⟩
    obtain ⟨g, rfl⟩ : ∃ g, gl = g + 1 := ⟨gl - 1, by omega⟩
    have hN := hR.2.2.2.1
    by_cases e : k = N
    · subst e
      refine ⟨S, T, cF_r m S, tF_r s T, Or.inl ⟨k, ?_, ?_, hR, hst⟩⟩
      · rw [f_X5_make_L35, hR.1, if_pos (by rw [nI_leI (by omega) (by omega)]; omega)]
      · rw [f_X10_builds_L42, if_pos (by rw [nI_leI (by omega) (by omega)]; omega), vl_d]; rfl
    · obtain ⟨S1, y1, y2, y3, y4⟩ := setReach_eq (S := S) (m := m) (k := k) (P := P) (sc := sc) hm (by omega) hg.2.2.1 hg.1 (fun p hp => ⟨(hg.2.2.2 p hp).1, (hg.2.2.2 p hp).2.2.1⟩)
      have c1 : cF m S S1 := ⟨y2, fun id h1 _ => y3 id (by omega), fun b _ => by rw [y3 m (by omega)]⟩
      have hg1 : gd S1 T P sc := gd_f hg (fun id i1 i2 => y3 id (by omega)) (fun _ _ _ => rfl)
      have hR1 : bR0 m s P N S1 T := bR0_f hR y2 (fun id hid => y3 id (by omega)) rfl rfl rfl
      obtain ⟨S2, T2, c2, t2, h⟩ := innerL (KC := f_X5_make_L35 f) (KT := f_X10_builds_L42 g) (k := k) (P := P) (sc := sc) hm hs 4 0 N fu fu S1 T (by omega) (by unfold fu; omega) (by unfold fu; omega) (by omega) hg1 hR1 (fun j y hy hj => by rw [y3 (m + 1) (by omega)]; exact hst j y hy hj) (fun p hp => by rw [y4 p hp]; exact canCT hg hR (by omega) hp)
      have hC : f_X5_make_L35 (f + 1) m (nI k) S = f_X5_make_L60 (f_X5_make_L35 f) fu m (nI k) (nI 0) S1 := by
        rw [f_X5_make_L35, hR.1, if_neg (by rw [nI_leI (by omega) (by omega)]; omega), if_neg (by rw [k_150, nI_leI (by omega) (by omega)]; omega), y1, bd_some, vl_d]; rfl
      have hT : f_X10_builds_L42 (g + 1) (nI s) (nI N) (nI k) T = f_X10_builds_L50 (f_X10_builds_L42 g) fu (nI s) (nI N) (nI k) (nI 0) T := by
        rw [f_X10_builds_L42, if_neg (by rw [nI_leI (by omega) (by omega)]; omega), vl_d]; rfl
      rw [hC, hT]
      rcases h with ⟨N1, n1, e1, e2, e3, e4⟩ | ⟨e1, e2⟩
      · have hg2 : gd S2 T2 P sc := gd_f hg1 (fun id i1 i2 => c2.2.1 id (by omega) (by omega)) (fun id i1 i2 => t2.2.1 id (by omega) (by omega) (by omega) (by omega) (by omega))
        obtain ⟨S', T', c3, t3, h⟩ := ih (k + 1) N1 f g S2 T2 (by omega) (by omega) (by omega) (by omega) hg2 e3 e4
        refine ⟨S', T', cF_t c1 (cF_t c2 c3), tF_t t2 t3, ?_⟩
        rw [e1, e2]
        exact h
      · exact ⟨S2, T2, cF_t c1 c2, t2, Or.inr ⟨e1, e2⟩⟩
def sumL (f : Nat → Int32) : Nat → Int32
  | 0 => 0
  | p + 1 => sumL f p + f p
theorem sumL_cg {f g : Nat → Int32} : ∀ P, (∀ p, p < P → f p = g p) → sumL f P = sumL g P := by
  intro P
  induction P with
  | zero => intro _; rfl
  | succ P ih =>
    intro h
    show sumL f P + f P = sumL g P + g P
    rw [ih (fun p hp => h p (by omega)), h P (by omega)]
theorem spots_eq {S : Sg} (hP : P ≤ 6) (h5 : S.1 5 0 = nI P) : f_X7_spotsInAll S = some (sumL (S.1 6) P, S) := by
  have loop : ∀ r p fl, p + r = P → r + 1 ≤ fl → f_X7_spotsInAll_L4 fl (sumL (S.1 6) p) (nI p) S = some (sumL (S.1 6) P, S) := by
    intro r
    induction r with
    | zero =>
      intro p fl hp hfl
      obtain ⟨f, rfl⟩ : ∃ f, fl = f + 1 := ⟨fl - 1, by omega⟩
      rw [f_X7_spotsInAll_L4, h5, if_pos (by rw [nI_leI (by omega) (by omega)]; omega), show p = P by omega]
    | succ r ih =>
      intro p fl hp hfl
      obtain ⟨f, rfl⟩ : ∃ f, fl = f + 1 := ⟨fl - 1, by omega⟩
      rw [f_X7_spotsInAll_L4, h5, if_neg (by rw [nI_leI (by omega) (by omega)]; omega), ck_nI (by omega) (by decide), nI_clamp (by omega), vl_d, nI_1, vl_d]
      exact ih (p + 1) f (by omega) (by omega)
  unfold f_X7_spotsInAll
  rw [vl_d, vl_d]
  exact loop P 0 fu (by omega) (by unfold fu; omega)
theorem beginE_eq {S : Sg} : ∃ S', f_X5_beginEmpty S = some S' ∧ S'.2 = S.2 ∧ (∀ id, id ≠ 14 → id ≠ 15 → S'.1 id = S.1 id) ∧ (∀ p, p < 6 → S'.1 14 p = 0) ∧ ∀ b, b < 64 → S'.1 15 b = 0 := by
  have l2 : ∀ r b fl (Z : Sg), b + r = 64 → r + 1 ≤ fl → (∀ c, c < b → Z.1 15 c = 0) → ∃ S', f_X5_beginEmpty_L23 fl (nI b) Z = some S' ∧ S'.2 = Z.2 ∧ (∀ id, id ≠ 15 → S'.1 id = Z.1 id) ∧ ∀ c, c < 64 → S'.1 15 c = 0 := by
    intro r
    induction r with
    | zero =>
      intro b fl Z hb hfl h
      obtain ⟨f, rfl⟩ : ∃ f, fl = f + 1 := ⟨fl - 1, by omega⟩
      refine ⟨Z, ?_, rfl, fun _ _ => rfl, fun c hc => h c (by omega)⟩
      rw [f_X5_beginEmpty_L23, k_64, if_pos (by rw [nI_leI (by omega) (by omega)]; omega)]
    | succ r ih =>
      intro b fl Z hb hfl h
      obtain ⟨f, rfl⟩ : ∃ f, fl = f + 1 := ⟨fl - 1, by omega⟩
      obtain ⟨S', u1, u2, u3, u4⟩ := ih (b + 1) f (sI Z 15 b 0) (by omega) (by omega) (fun c hc => by
        by_cases e : c = b
        · subst e; exact sI_at _ _ _ _
        · rw [sI_ne _ _ (Or.inr e)]; exact h c (by omega))
      refine ⟨S', ?_, u2, fun id hid => by rw [u3 id hid, sI_id _ _ _ hid], u4⟩
      rw [← u1, f_X5_beginEmpty_L23, k_64, if_neg (by rw [nI_leI (by omega) (by omega)]; omega), ck_nI (by omega) (by decide), nI_clamp (by omega), vl_d, nI_1, vl_d]
  have l1 : ∀ r p fl (Z : Sg), p + r = 6 → r + 1 ≤ fl → (∀ c, c < p → Z.1 14 c = 0) → ∃ S', f_X5_beginEmpty_L2 fl (nI p) Z = f_X5_beginEmpty_L23 fu (nI 0) S' ∧ S'.2 = Z.2 ∧ (∀ id, id ≠ 14 → S'.1 id = Z.1 id) ∧ ∀ c, c < 6 → S'.1 14 c = 0 := by
    intro r
    induction r with
    | zero =>
      intro b fl Z hb hfl h
      obtain ⟨f, rfl⟩ : ∃ f, fl = f + 1 := ⟨fl - 1, by omega⟩
      refine ⟨Z, ?_, rfl, fun _ _ => rfl, fun c hc => h c (by omega)⟩
      rw [f_X5_beginEmpty_L2, k_6, if_pos (by rw [nI_leI (by omega) (by omega)]; omega), vl_d]; rfl
    | succ r ih =>
      intro b fl Z hb hfl h
      obtain ⟨f, rfl⟩ : ∃ f, fl = f + 1 := ⟨fl - 1, by omega⟩
      obtain ⟨S', u1, u2, u3, u4⟩ := ih (b + 1) f (sI Z 14 b 0) (by omega) (by omega) (fun c hc => by
        by_cases e : c = b
        · subst e; exact sI_at _ _ _ _
        · rw [sI_ne _ _ (Or.inr e)]; exact h c (by omega))
      refine ⟨S', ?_, u2, fun id hid => by rw [u3 id hid, sI_id _ _ _ hid], u4⟩
      rw [← u1, f_X5_beginEmpty_L2, k_6, if_neg (by rw [nI_leI (by omega) (by omega)]; omega), ck_nI (by omega) (by decide), nI_clamp (by omega), vl_d, nI_1, vl_d]
  obtain ⟨S1, e1, f1, g1, h1⟩ := l1 6 0 fu S (by omega) (by unfold fu; omega) (fun c hc => absurd hc (by omega))
  obtain ⟨S2, e2, f2, g2, h2⟩ := l2 64 0 fu S1 (by omega) (by unfold fu; omega) (fun c hc => absurd hc (by omega))
  refine ⟨S2, ?_, by rw [f2, f1], fun id i1 i2 => by rw [g2 id i2, g1 id i1], fun p hp => by rw [g2 14 (by decide)]; exact h1 p hp, h2⟩
  unfold f_X5_beginEmpty
  rw [vl_d]
  have e1' : f_X5_beginEmpty_L2 fu 0 S = f_X5_beginEmpty_L23 fu (nI 0) S1 := e1
  rw [e1', e2]
/-- the reference's beginning -/
theorem bl4 {T : Sg} (hs : s < 4) : ∃ T', f_X10_builds (nI s) T = f_X10_builds_L42 fu (nI s) (nI 1) (nI 0) T' ∧ T'.2 = T.2 ∧ (∀ id, id ≠ 50 → id ≠ 52 → T'.1 id = T.1 id) ∧ (∀ j, T'.1 50 j = if 900 * s ≤ j ∧ j < 900 * s + 6 then 0 else T.1 50 j) ∧ ∀ j, j ≠ 150 * s → T'.1 52 j = T.1 52 j := by
  have k9 : (900 : Int32) = nI 900 := by decide +kernel
  have l1 : ∀ r p fl (Z : Sg), p + r = 6 → r + 1 ≤ fl → ∃ T', f_X10_builds_L4 fl (nI s) (nI 1) (nI p) Z = f_X10_builds_L42 fu (nI s) (nI 1) (nI 0) T' ∧ T'.2 = Z.2 ∧ (∀ id, id ≠ 50 → id ≠ 52 → T'.1 id = Z.1 id) ∧ (∀ j, T'.1 50 j = if 900 * s + p ≤ j ∧ j < 900 * s + 6 then 0 else Z.1 50 j) ∧ ∀ j, j ≠ 150 * s → T'.1 52 j = Z.1 52 j := by
    intro r
    induction r with
    | zero =>
      intro p fl Z hp hfl
      obtain ⟨f, rfl⟩ : ∃ f, fl = f + 1 := ⟨fl - 1, by omega⟩
      refine ⟨sI Z 52 (150 * s) (-1), ?_, rfl, fun id _ i2 => sI_id _ _ _ i2, fun j => by rw [sI_id _ _ _ (by decide), if_neg (by omega)], fun j hj => sI_ne _ _ (Or.inr hj)⟩
      rw [f_X10_builds_L4, k_6, if_pos (by rw [nI_leI (by omega) (by omega)]; omega), k_150, pk_mul, ck_nI (by omega) (by decide), nI_clamp (by omega), vl_d, vl_d]; rfl
    | succ r ih =>
      intro p fl Z hp hfl
      obtain ⟨f, rfl⟩ : ∃ f, fl = f + 1 := ⟨fl - 1, by omega⟩
      obtain ⟨T', u1, u2, u3, u4, u5⟩ := ih (p + 1) f (sI Z 50 (900 * s + p) 0) (by omega) (by omega)
      refine ⟨T', ?_, u2, fun id i1 i2 => by rw [u3 id i1 i2, sI_id _ _ _ i1], fun j => ?_, fun j hj => by rw [u5 j hj, sI_id _ _ _ (by decide)]⟩
      · rw [← u1, f_X10_builds_L4, k_6, if_neg (by rw [nI_leI (by omega) (by omega)]; omega), k9, pk_mul, nI_add, ck_nI (by omega) (by decide), nI_clamp (by omega), vl_d, nI_1, vl_d]
      · rw [u4 j]
        by_cases e : j = 900 * s + p
        · rw [if_neg (by omega), if_pos (by omega), e, sI_at]
        · rw [sI_ne _ _ (Or.inr e)]
          by_cases e2 : 900 * s + (p + 1) ≤ j ∧ j < 900 * s + 6
          · rw [if_pos e2, if_pos (by omega)]
          · rw [if_neg e2, if_neg (by omega)]
  unfold f_X10_builds
  rw [vl_d, vl_d]
  exact l1 6 0 fu T (by omega) (by unfold fu; omega)
theorem make_sim {S T : Sg} (hm : 79 ≤ m) (hs : s < 4) (hg : gd S T P sc) : ∃ S' T', S'.2 = S.2 ∧ (∀ id, id < 13 ∨ 16 < id → id < m ∨ m + 4 < id → S'.1 id = S.1 id) ∧ tF s T T' ∧ S'.1 m 3 = sumL (S.1 6) P ∧ ((∃ N, f_X5_make m S = some (1, S') ∧ f_X10_builds (nI s) T = f_X10_builds_L211 fu (nI s) (nI N) (nI 0) T' ∧ bR0 m s P N S' T' ∧ stps m s N N 0 S' T') ∨ (f_X5_make m S = some (0, S') ∧ f_X10_builds (nI s) T = some (-2, T'))) := by
  have hP := hg.2.2.1
  let S1 : Sg := sI (sI S m 0 0) m 2 (nI P)
  have i1 : ∀ id, id ≠ m → S1.1 id = S.1 id := fun id hid => by
    show (sI (sI S m 0 0) m 2 (nI P)).1 id = _
    rw [sI_id _ _ _ hid, sI_id _ _ _ hid]
  let S2 : Sg := sI S1 m 3 (sumL (S.1 6) P)
  have i2 : ∀ id, id ≠ m → S2.1 id = S.1 id := fun id hid => by
    show (sI S1 m 3 _).1 id = _
    rw [sI_id _ _ _ hid, i1 id hid]
  have m20 : S2.1 m 0 = nI 0 := by
    show (sI (sI (sI S m 0 0) m 2 (nI P)) m 3 _).1 m 0 = _
    rw [sI_ne _ _ (Or.inr (by decide)), sI_ne _ _ (Or.inr (by decide)), sI_at]; rfl
  have m22 : S2.1 m 2 = nI P := by
    show (sI (sI (sI S m 0 0) m 2 (nI P)) m 3 _).1 m 2 = _
    rw [sI_ne _ _ (Or.inr (by decide)), sI_at]
  have m23 : S2.1 m 3 = sumL (S.1 6) P := sI_at _ _ _ _
  obtain ⟨S3, b1, b2, b3, b4, b5⟩ := beginE_eq (S := S2)
  obtain ⟨S4, a1, a2⟩ := addState_eq (S := S3) (m := m) (N := 0) (P := P) (pl := 0) hm (by omega) hP (by rw [b3 m (by omega) (by omega)]; exact m20) (by rw [b3 5 (by decide) (by decide), i2 5 (by omega)]; exact hg.1) (fun p hp => by rw [b3 9 (by decide) (by decide), i2 9 (by omega)]; obtain ⟨e, he, -⟩ := (hg.2.2.2 p hp).2.2.2.2.2.1; exact ⟨e, he⟩)
  obtain ⟨T1, t1, t2, t3, t4, t5⟩ := bl4 (T := T) hs
  have id4 : ∀ id, id < 13 ∨ 16 < id → id < m ∨ m + 4 < id → S4.1 id = S.1 id := fun id h1 h2 => by rw [a2.2.1 id (by omega) (by omega) (by omega) (by omega) (by omega) (by omega), b3 id (by omega) (by omega), i2 id (by omega)]
  have hg4 : gd S4 T1 P sc := gd_f hg (fun id h1 h2 => id4 id (by omega) (by omega)) (fun id h1 h2 => t3 id (by omega) (by omega))
  have s2 : S4.2 = S.2 := by
    rw [a2.1, b2]
    rfl
  have hR : bR0 m s P 1 S4 T1 := by
    refine ⟨a2.2.2.1.1, by rw [a2.2.2.1.2 2 (by decide), b3 m (by omega) (by omega)]; exact m22, by omega, by omega, fun b hb => ⟨[], ?_, fun j => ?_⟩, fun j hj p hp => ?_, fun i j h1 h2 h3 => absurd h3 (by omega), fun j hj => ?_, fun j h1 h2 => absurd h2 (by omega)⟩
    · show S4.1 15 b = 0
      rw [(a2.2.2.2.2.2.2.1 rfl).1]
      exact b5 b hb
    · constructor
      · intro z; exact absurd z (by simp)
      · intro z; omega
    · have e : j = 0 := by omega
      subst e
      rw [added_set a2 hp hP, if_pos rfl, b4 p (by omega), t4, if_pos (by omega)]
    · have e : j = 0 := by omega
      subst e
      have e : tkw (tkN S3 0) P = tkw (tkJ S4 m 0) P := by
        refine tkw_cg P (fun p hp => ?_)
        unfold tkN tkJ
        rw [if_pos rfl, if_pos rfl, a2.2.1 9 (by omega) (by omega) (by omega) (by omega) (by decide) (by decide)]
      rw [a2.2.2.2.2.2.1, if_pos rfl, a2.1, e]
  have tF1 : tF s T T1 := ⟨t2, fun id _ h2 h3 _ _ => t3 id h2 h3, fun j hj => by rw [t4, if_neg (by omega)], fun j _ => by rw [t3 48 (by decide) (by decide)], fun j hj => ⟨t5 j (by omega), by rw [t3 53 (by decide) (by decide)]⟩⟩
  obtain ⟨S', T', c, t, h⟩ := outerL (P := P) (sc := sc) hm hs 150 0 1 fu fu S4 T1 (by omega) (by unfold fu; omega) (by unfold fu; omega) (by omega) hg4 hR (fun j y _ hj => absurd hj (by omega))
  have hmk : f_X5_make m S = f_X5_make_L35 fu m (nI 0) S4 := by
    unfold f_X5_make
    rw [vl_d, sI_id _ _ _ (by omega), hg.1, vl_d]
    show bd2 (f_X7_spotsInAll S1) _ = _
    rw [spots_eq (S := S1) hP (by rw [i1 5 (by omega)]; exact hg.1), bd2_some, i1 6 (by omega), vl_d]
    show bd (f_X5_beginEmpty S2) _ = _
    have a1' : f_X5_addState m 0 S3 = some (1, S4) := a1
    rw [b1, bd_some, a1', bd2_some, vl_d]
    rfl
  refine ⟨S', T', by rw [c.1, s2], fun id h1 h2 => by rw [c.2.1 id h1 h2, id4 id h1 h2], tF_t tF1 t, by rw [c.2.2 3 (by decide), a2.2.2.1.2 3 (by decide), b3 m (by omega) (by omega)]; exact m23, ?_⟩
  rw [hmk, t1]
  exact h
theorem bl211 {S T : Sg} {N c : Nat} (hs : s < 4) (hg : gd S T P sc) (hR : bR0 m s P N S T) (hc : c < 400) (hpl : pl P T c [S.2.1 5 1]) : ∃ T', f_X10_builds_L211 fu (nI s) (nI N) (nI 0) T = some (nI N, T') ∧ T'.2 = T.2 ∧ (∀ id, id ≠ 49 → id ≠ 65 → T'.1 id = T.1 id) ∧ (∀ j, j < N → T'.1 49 (150 * s + j) = S.1 (m + 4) j) ∧ ∀ j, j < 150 * s ∨ 150 * s + N ≤ j → T'.1 49 j = T.1 49 j := by
  have hP := hg.2.2.1
  have hN := hR.2.2.2.1
  have loop : ∀ r j fl (Z : Sg), j + r = N → r + 1 ≤ fl → Z.2 = T.2 → (∀ id, id ≠ 49 → id ≠ 65 → Z.1 id = T.1 id) → (∀ i, i < j → Z.1 49 (150 * s + i) = S.1 (m + 4) i) → (∀ i, i < 150 * s ∨ 150 * s + N ≤ i → Z.1 49 i = T.1 49 i) → ∃ T', f_X10_builds_L211 fl (nI s) (nI N) (nI j) Z = some (nI N, T') ∧ T'.2 = T.2 ∧ (∀ id, id ≠ 49 → id ≠ 65 → T'.1 id = T.1 id) ∧ (∀ j, j < N → T'.1 49 (150 * s + j) = S.1 (m + 4) j) ∧ ∀ j, j < 150 * s ∨ 150 * s + N ≤ j → T'.1 49 j = T.1 49 j := by
    intro r
    induction r with
    | zero =>
      intro j fl Z hj hfl z1 z2 z3 z4
      obtain ⟨f, rfl⟩ : ∃ f, fl = f + 1 := ⟨fl - 1, by omega⟩
      refine ⟨Z, ?_, z1, z2, fun i hi => z3 i (by omega), z4⟩
      rw [f_X10_builds_L211, if_pos (by rw [nI_leI (by omega) (by omega)]; omega)]
    | succ r ih =>
      intro j fl Z hj hfl z1 z2 z3 z4
      obtain ⟨f, rfl⟩ : ∃ f, fl = f + 1 := ⟨fl - 1, by omega⟩
      have htv : ktv Z s j P (tkw (tkJ S m j) P) := by
        intro p hp
        obtain ⟨g1, g2, g3, g4, g5, ⟨e, g6, g7⟩, g8, g9⟩ := hg.2.2.2 p hp
        rw [tkw_bit _ P hP p (by omega), decide_eq_true hp, Bool.true_and, z2 38 (by decide) (by decide), z2 40 (by decide) (by decide), z2 50 (by decide) (by decide)]
        unfold tkJ
        constructor
        · intro h0
          rw [if_pos h0, g7, g6]
          cases e <;> decide
        · intro h0
          rw [if_neg h0, ← hR.2.2.2.2.2.1 j (by omega) p hp, ← g9]
          constructor
          · intro z; exact decide_eq_false (fun q => q z)
          · intro z; exact Classical.byContradiction (fun q => by rw [decide_eq_true q] at z; exact absurd z (by decide))
      obtain ⟨T1, u1, u2, u3⟩ := meant_eq (T := Z) (v := S.2.1 5 1) (w := tkw (tkJ S m j) P) hP hs (by omega) hc (tkw_64 _ hP) (pl_f hpl (z2 43 (by decide) (by decide)) (by rw [z2 34 (by decide) (by decide)])) htv
      obtain ⟨T', w1, w2⟩ := ih (j + 1) f (sI T1 49 (150 * s + j) (S.1 (m + 4) j)) (by omega) (by omega) (by rw [sI_2, u2, z1]) (fun id h1 h2 => by rw [sI_id _ _ _ h1, u3 id h2]; exact z2 id h1 h2) (fun i hi => by
        by_cases e : i = j
        · subst e; exact sI_at _ _ _ _
        · rw [sI_ne _ _ (Or.inr (by omega)), u3 49 (by decide)]; exact z3 i (by omega)) (fun i hi => by rw [sI_ne _ _ (Or.inr (by omega)), u3 49 (by decide)]; exact z4 i hi)
      refine ⟨T', ?_, w2⟩
      rw [← w1, f_X10_builds_L211, if_neg (by rw [nI_leI (by omega) (by omega)]; omega), u1, bd2_some, ixM, ck_nI (by omega) (by decide), nI_clamp (by omega), nar_b, hR.2.2.2.2.2.2.2.1 j (by omega), vl_d, nI_1, vl_d]
  exact loop N 0 fu T (by omega) (by unfold fu; omega) rfl (fun _ _ _ => rfl) (fun i hi => absurd hi (by omega)) (fun _ _ => rfl)
end MAKE
