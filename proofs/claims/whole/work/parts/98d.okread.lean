def txO (S : Sg) (j : Nat) : Nat := (S.1 35 j).toBitVec.toNat % 2 ^ 8
theorem tx_eq (S : Sg) (j : Nat) : S.1 35 j &&& 255 = nI (txO S j) := pk_and (S.1 35 j) 8 (by decide)
theorem tx_lt (S : Sg) (j : Nat) : txO S j < 256 := Nat.mod_lt _ (by decide)
theorem okM_up {n n1 m : Nat} (hn : n ≤ n1) (h : okM n m = true) : okM n1 m = true := by
  obtain ⟨j, hj, rfl⟩ := okM_s h
  exact okM_i (by omega)
theorem ne10 {A B : Sg} (h : some ((1 : Int32), A) = some ((0 : Int32), B)) : False := by
  have e : (1 : Int32) = 0 := congrArg Prod.fst (Option.some.inj h)
  exact n10 e
/-- from the reference's beginning to its parts -/
theorem ref_parse {n k t : Nat} {s : Nat} {S T : Sg} (hI : Inv n S) (hs : s < 4) (hk : k ≤ t) (ht : t ≤ 100) (h1 : S.1 0 1 = nI t) (h2 : T.1 34 2 = nI t) (h35 : T.1 35 = S.1 35) (htp : ∀ j, j < t → S.1 1 j = S.1 35 j &&& 255) : ∃ S' T6, f_X10_read (nI s) (nI k) T = rK s T6 ∧ gP (sI S 0 1 0) S' ∧ T6.2 = T.2 ∧ (∀ id, id ≠ 34 → id < 36 ∨ 43 < id → id < 55 ∨ 65 < id → T6.1 id = T.1 id) ∧ T6.1 34 2 = 0 ∧ T6.1 34 25 = T.1 34 25 ∧ ((f_X6_parse (nI k) (sI S 0 1 0) = some (1, S') ∧ flt S' T6 0 ∧ ∃ P, good S' T6 P) ∨ (f_X6_parse (nI k) (sI S 0 1 0) = some (0, S') ∧ ∃ e, (e = 1 ∨ e = 2) ∧ flt S' T6 e)) := by
  obtain ⟨T5, e1, r1, r2, r3, r4, r5, r6⟩ := rd_eq (s := s) hs hk ht h2
  have h8 : ∃ b : Bool, (sI S 0 1 0).1 3 8 = bI b := by
    rw [sI_id _ _ _ (by decide)]
    rcases hI.2.2.1.2.2 with z | z
    · exact ⟨false, z⟩
    · exact ⟨true, z⟩
  obtain ⟨S', T6, p1, p2, p3, p4⟩ := parse_sim (n := k) (tx := txO S) (S := sI S 0 1 0) (T := T5) ⟨by omega, fun j => tx_lt S j⟩ (fun j hj => by rw [sI_id _ _ _ (by decide), htp j (by omega), tx_eq]) h8 r4 (fun j hj => by rw [r6 j hj, h35, tx_eq])
  exact ⟨S', T6, by rw [e1, p1, bd_some], p2, by rw [p3.1, r1], fun id i1 i2 i3 => by rw [p3.2.1 id i1 (by omega) i3, r2 id i1 (by omega)], by rw [p3.2.2 2 (by decide)]; exact r5, by rw [p3.2.2 25 (by decide), r3 25 (by decide) (by decide)], p4⟩
theorem read_core {n n1 i s k t : Nat} {S S' Sm : Sg} (hI : Inv n S) (hs : s < 4) (hk : k ≤ t) (ht : t ≤ 100) (h1 : S.1 0 1 = nI t) (h2 : S.1 34 2 = nI t) (htp : ∀ j, j < t → S.1 1 j = S.1 35 j &&& 255) (hpar : f_X6_parse (nI k) (sI S 0 1 0) = some (1, S')) (hm2 : Sm.2 = S'.2) (hmid : ∀ id, id < 79 + 6 * n → Sm.1 id = S'.1 id) (hn : n ≤ n1) (hi : okM n1 i = true) (hfree : ∀ t, t < 4 → S.2.2 2 t ≠ some i) : ∃ r S1 S2, f_X9_readT (nI s) i Sm = some (r, S1) ∧ f_X10_read (nI s) (nI k) S1 = some (r, S2) ∧ Inv n1 S2 := by
  obtain ⟨ji, hji, rfl⟩ := okM_s hi
  have hm : 79 ≤ 79 + 6 * ji := by omega
  -- first: what the class does
  obtain ⟨Sx, T6a, -, a2, a3, a4, a5, a6, a7⟩ := ref_parse (s := s) (T := S) hI hs hk ht h1 h2 rfl htp
  have hSx : Sx = S' := by
    rcases a7 with ⟨q, -⟩ | ⟨q, -⟩
    · rw [hpar] at q; exact (congrArg Prod.snd (Option.some.inj q)).symm
    · rw [hpar] at q; exact (ne10 q).elim
  subst hSx
  obtain ⟨Pa, hgood⟩ : ∃ P, good Sx T6a P := by
    rcases a7 with ⟨-, -, q⟩ | ⟨q, -⟩
    · exact q
    · rw [hpar] at q; exact (ne10 q).elim
  obtain ⟨sca, hga⟩ := gd_of hgood
  obtain ⟨ca, hca, hpla⟩ := hgood.2.2.2.2
  have hgam : gd Sm T6a Pa sca := gd_f hga (fun id i1 i2 => hmid id (by omega)) (fun _ _ _ => rfl)
  obtain ⟨S3, T8a, m1, m2, m3⟩ := bothRun (m := 79 + 6 * ji) (s := s) hm hs hgam hca (by rw [hm2]; exact hpla)
  -- ids that the class leaves alone
  have idS : ∀ id, id < 3 ∨ 11 < id → id < 79 + 6 * n → id ≠ 0 → Sm.1 id = S.1 id := fun id j1 j2 j3 => by rw [hmid id j2, a2.2 id j1, sI_id _ _ _ j3]
  have id0 : Sm.1 0 1 = 0 := by rw [hmid 0 (by omega), a2.2 0 (by omega), sI_at]
  have ref0 : ∀ id, 22 ≤ id → id < 79 → S3.1 id = S.1 id := fun id j1 j2 => by rw [m1.2 id (by omega) (by omega), idS id (by omega) (by omega) (by omega)]
  have r22 : S3.2.2 = S.2.2 := by rw [m1.1, hm2, a2.1]; rfl
  -- the reference behind a class that ended in S1
  have second : ∀ S1 : Sg, S1.1 34 = S.1 34 → S1.1 35 = S.1 35 → ∃ T6 P sc c, f_X10_read (nI s) (nI k) S1 = rK s T6 ∧ T6.2 = S1.2 ∧ (∀ id, id ≠ 34 → id < 36 ∨ 43 < id → id < 55 ∨ 65 < id → T6.1 id = S1.1 id) ∧ T6.1 34 2 = 0 ∧ T6.1 34 25 = S1.1 34 25 ∧ flt Sx T6 0 ∧ gd Sx T6 P sc ∧ c < 400 ∧ pl P T6 c [Sx.2.1 5 1] := by
    intro S1 e34 e35
    obtain ⟨Sy, T6, b1, b2, b3, b4, b5, b6, b7⟩ := ref_parse (s := s) (T := S1) hI hs hk ht h1 (by rw [e34]; exact h2) e35 htp
    rcases b7 with ⟨q, q1, P, q2⟩ | ⟨q, -⟩
    · have : Sy = Sx := by rw [hpar] at q; exact (congrArg Prod.snd (Option.some.inj q)).symm
      subst this
      obtain ⟨sc, hg⟩ := gd_of q2
      obtain ⟨c, hc, hpl⟩ := q2.2.2.2.2
      exact ⟨T6, P, sc, c, b1, b3, b4, b5, b6, q1, hg, hc, hpl⟩
    · rw [hpar] at q; exact (ne10 q).elim
  -- the new invariant: all but the slots
  have common : ∀ (S1 T6 Tf : Sg), S1.1 0 1 = 0 → S1.1 3 = Sx.1 3 → (∀ id, 22 ≤ id → id < 79 → S1.1 id = S.1 id) → T6.1 34 2 = 0 → T6.1 34 25 = S1.1 34 25 → flt Sx T6 0 → Tf.1 34 = T6.1 34 → (∀ id, id < 34 ∨ id = 54 → Tf.1 id = S1.1 id) → iTape Tf ∧ iTold Tf ∧ iFault Tf := by
    intro S1 T6 Tf c0 c3 c22 c2 c25 cf f34 fid
    refine ⟨⟨0, by omega, by rw [fid 0 (by omega)]; exact c0, by rw [f34]; exact c2, fun k hk => absurd hk (by omega)⟩, ?_, ?_⟩
    · obtain ⟨u, u1, u2, u3, u4⟩ := hI.2.1
      exact ⟨u, u1, by rw [fid 32 (by omega), c22 32 (by omega) (by omega)]; exact u2, by rw [f34, c25, c22 34 (by omega) (by omega)]; exact u3, fun k hk => by rw [fid 33 (by omega), fid 54 (by omega), c22 33 (by omega) (by omega), c22 54 (by omega) (by omega)]; exact u4 k hk⟩
    · obtain ⟨w1, w2, w3, b, w4⟩ := cf
      refine ⟨by rw [fid 3 (by omega), c3, f34, w1, w2], by rw [fid 3 (by omega), c3, f34]; exact w3, ?_⟩
      rw [fid 3 (by omega), c3, w4]
      cases b
      · exact Or.inl rfl
      · exact Or.inr rfl
  have mach : ∀ u m, u < 4 → S.2.2 2 u = some m → okM n m = true → ∀ r, r < 6 → m + r < 79 + 6 * n ∧ (m + r < 79 + 6 * ji ∨ 79 + 6 * ji + 5 < m + r) ∧ 79 ≤ m := by
    intro u m hu hum hok r hr
    obtain ⟨j, hj, rfl⟩ := okM_s hok
    have : j ≠ ji := fun z => by rw [z] at hum; exact hfree u hu hum
    omega
  rcases m3 with ⟨e1, -, -⟩ | ⟨N, e1, -, e3, -⟩
  · -- too many states
    let S1 : Sg := sP S3 0 3 (some (79 + 6 * ji))
    have hr : f_X9_readT (nI s) (79 + 6 * ji) Sm = some (-2, S1) := by
      unfold f_X9_readT f_X9_readT_L66
      rw [e1, bd2_some, if_pos rfl, vl_d]
    obtain ⟨T6, P, sc, c, f1, f2, f3, f4, f5, f6, f7, f8, f9⟩ := second S1 (ref0 34 (by omega) (by omega)) (ref0 35 (by omega) (by omega))
    obtain ⟨T7, k1, k2⟩ := keeps0_eq (s := s) (T := T6) hs
    have hg7 : gd Sm T7 P sc := gd_f f7 (fun id i1 i2 => hmid id (by omega)) (fun id i1 i2 => k2.2.1 id (by omega))
    have hpl7 : pl P T7 c [Sm.2.1 5 1] := by rw [hm2]; exact pl_f f9 (k2.2.1 43 (by omega)) (by rw [k2.2.1 34 (by omega)])
    obtain ⟨S3', T8, -, -, g3⟩ := bothRun (m := 79 + 6 * ji) (s := s) hm hs hg7 f8 hpl7
    rcases g3 with ⟨-, g4, g5⟩ | ⟨N, g4, -⟩
    · obtain ⟨T9, w1, w2, w3⟩ := keeps_back hs k2 g5
      refine ⟨-2, S1, T9, hr, ?_, ?_⟩
      · rw [f1]
        unfold rK
        rw [if_pos (le00 f6.2.1), k1, bd_some, g4, bd2_some, vl_d, if_neg (by decide), w1, bd_some]
      · have fid : ∀ id, id < 34 ∨ (43 < id ∧ id < 55) ∨ 78 < id → T9.1 id = S1.1 id := fun id hid => by rw [w3 id (by omega), f3 id (by omega) (by omega) (by omega)]
        have t22 : T9.2.2 = S1.2.2 := by rw [w2, f2]
        have s1p : ∀ u, S1.2.2 2 u = S.2.2 2 u := fun u => by
          show (sP S3 0 3 (some (79 + 6 * ji))).2.2 2 u = _
          rw [sP_get, if_neg (by decide), r22]
        obtain ⟨i1, i2, i3⟩ := common S1 T6 T9 (by show S3.1 0 1 = 0; rw [m1.2 0 (by omega) (by omega)]; exact id0) (by show S3.1 3 = _; rw [m1.2 3 (by omega) (by omega), hmid 3 (by omega)]) ref0 f4 f5 f6 (w3 34 (by omega)) (fun id hid => fid id (by omega))
        refine ⟨i1, i2, i3, fun u hu => ?_, ?_, ?_⟩
        · rcases hI.2.2.2.1 u hu with ⟨q1, q2⟩ | ⟨m, q1, q2, q3⟩
          · exact Or.inl ⟨by rw [t22, s1p]; exact q1, by rw [fid 44 (by omega)]; show S3.1 44 u = 0; rw [ref0 44 (by omega) (by omega)]; exact q2⟩
          · refine Or.inr ⟨m, by rw [t22, s1p]; exact q1, okM_up hn q2, iMach_cg (fun r hr => ?_) (fun id j1 j2 => ?_) q3⟩
            · obtain ⟨v1, v2, v3⟩ := mach u m hu q1 q2 r hr
              rw [fid _ (by omega)]
              show S3.1 (m + r) = _
              rw [m1.2 _ (by omega) (by omega), idS _ (by omega) v1 (by omega)]
            · rw [fid id (by omega)]
              exact ref0 id (by omega) (by omega)
        · intro m hmm
          have e : S1.2.2 0 3 = some (79 + 6 * ji) := by
            show (sP S3 0 3 (some (79 + 6 * ji))).2.2 0 3 = _
            rw [sP_get, if_pos rfl, if_pos rfl]
          rw [t22, e] at hmm
          have := Option.some.inj hmm
          subst this
          exact ⟨hi, fun u hu => by rw [t22, s1p]; exact hfree u hu⟩
        · intro u v m hu hv q1 q2
          rw [t22, s1p] at q1 q2
          exact hI.2.2.2.2.2 u v m hu hv q1 q2
    · rw [e1] at g4
      exact (ne10 g4.symm).elim
  · -- a machine
    obtain ⟨ok, hC, -, -, -, -, -⟩ := e3
    obtain ⟨ic, S6, b, c1, c2, c3, c4, c5, c6, c7, c8, c9⟩ := classRun hm ok hC
    have c22 : S6.2.2 = S.2.2 := by rw [c2]; exact r22
    let S1 : Sg := sP (sP S6 0 3 (S6.2.2 2 s)) 2 s (some (79 + 6 * ji))
    have hr : f_X9_readT (nI s) (79 + 6 * ji) Sm = some (nI N, S1) := by
      unfold f_X9_readT f_X9_readT_L66
      rw [e1, bd2_some, if_neg n10, c1, bd_some, ck_nI hs (by decide), nI_clamp (by omega), vl_d, ck_nI hs (by decide), vl_d]
      show some (S6.1 (79 + 6 * ji) 0, _) = _
      rw [c4 0 (by decide) (by decide), hC.1]
    have ref1 : ∀ id, 22 ≤ id → id < 79 → S6.1 id = S.1 id := fun id j1 j2 => by rw [c3 id (by omega) (by omega) (by omega), ref0 id j1 j2]
    obtain ⟨T6, P, sc, c, f1, f2, f3, f4, f5, f6, f7, f8, f9⟩ := second S1 (ref1 34 (by omega) (by omega)) (ref1 35 (by omega) (by omega))
    obtain ⟨T7, k1, k2⟩ := keeps0_eq (s := s) (T := T6) hs
    have hg7 : gd Sm T7 P sc := gd_f f7 (fun id i1 i2 => hmid id (by omega)) (fun id i1 i2 => k2.2.1 id (by omega))
    have hpl7 : pl P T7 c [Sm.2.1 5 1] := by rw [hm2]; exact pl_f f9 (k2.2.1 43 (by omega)) (by rw [k2.2.1 34 (by omega)])
    have hP := hg7.2.2.1
    obtain ⟨S3', T8, g1, g2, g3⟩ := bothRun (m := 79 + 6 * ji) (s := s) hm hs hg7 f8 hpl7
    rcases g3 with ⟨g4, -⟩ | ⟨N', g4, g5, g6, g7⟩
    · rw [e1] at g4
      exact (ne10 g4).elim
    · have hS3 : S3' = S3 := by rw [e1] at g4; exact (congrArg Prod.snd (Option.some.inj g4)).symm
      subst hS3
      obtain ⟨ok', hC', h48, h49, hp2, hset, hori⟩ := g6
      have hNN : N' = N := by
        have q := hC'.1
        rw [hC.1, nI_eq (by have := ok.2.1; omega) (by have := ok'.2.1; omega)] at q
        exact q.symm
      subst hNN
      have hN := ok.2.1
      -- the reference's last steps
      let T9 : Sg := sI (sI T8 44 s (nI N')) 45 s (nI P)
      have t9 : ∀ id, id ≠ 44 → id ≠ 45 → T9.1 id = T8.1 id := fun id j1 j2 => by
        show (sI (sI T8 44 s (nI N')) 45 s (nI P)).1 id = _
        rw [sI_id _ _ _ j2, sI_id _ _ _ j1]
      let T10 : Sg := sI T9 46 s (sumL (T9.1 37) P)
      have t10 : ∀ id, id ≠ 44 → id ≠ 45 → id ≠ 46 → T10.1 id = T8.1 id := fun id j1 j2 j3 => by
        show (sI T9 46 s _).1 id = _
        rw [sI_id _ _ _ j3, t9 id j1 j2]
      have h6 : T8.1 34 6 = nI P := by rw [g7.2.1 34 (by omega) (by omega) (by omega)]; exact hg7.2.1
      have hM : autM T10 s N' (dOf S3' (79 + 6 * ji)) (aOf S3' (79 + 6 * ji)) := by
        refine ⟨?_, fun k hk x hx => by rw [t10 48 (by decide) (by decide) (by decide)]; exact h48 k hk x hx, fun k hk => by rw [t10 49 (by decide) (by decide) (by decide)]; exact h49 k hk⟩
        show (sI (sI (sI T8 44 s (nI N')) 45 s (nI P)) 46 s _).1 44 s = _
        rw [sI_id _ _ _ (by decide), sI_id _ _ _ (by decide), sI_at]
      obtain ⟨it, T11, v1, v2, v3, v4, v5⟩ := divides_eq hs ok hM
      have hsame := fs_same ok.2.2 c9 v5
      have f44 : ∀ id, id ≠ 47 → id ≠ 51 → id ≠ 67 → T11.1 id = T10.1 id := v2.2.1
      have chain : ∀ id, id < 36 ∨ 43 < id → id < 44 ∨ 53 < id → id < 55 ∨ 71 < id → id ≠ 34 → T11.1 id = S1.1 id := fun id j1 j2 j3 j4 => by rw [f44 id (by omega) (by omega) (by omega), t10 id (by omega) (by omega) (by omega), g7.2.1 id (by omega) (by omega) (by omega), k2.2.1 id (by omega), f3 id j4 j1 (by omega)]
      have t34 : T11.1 34 = T6.1 34 := by rw [f44 34 (by decide) (by decide) (by decide), t10 34 (by decide) (by decide) (by decide), g7.2.1 34 (by omega) (by omega) (by omega), k2.2.1 34 (by omega)]
      have t22 : T11.2.2 = S1.2.2 := by
        rw [v2.1]
        show T8.2.2 = _
        rw [g7.1, k2.1, f2]
      -- cells of another slot
      have other : ∀ u, u < 4 → u ≠ s → (∀ id, 44 ≤ id → id ≤ 47 → T11.1 id u = S.1 id u) ∧ (∀ j, 900 * u ≤ j → j < 900 * u + 900 → T11.1 50 j = S.1 50 j) ∧ (∀ j, 600 * u ≤ j → j < 600 * u + 600 → T11.1 48 j = S.1 48 j) ∧ ∀ j, 150 * u ≤ j → j < 150 * u + 150 → T11.1 49 j = S.1 49 j ∧ T11.1 51 j = S.1 51 j ∧ T11.1 52 j = S.1 52 j ∧ T11.1 53 j = S.1 53 j := by
        intro u hu hus
        have base : ∀ id, 44 ≤ id → id ≤ 53 → T7.1 id = S.1 id := fun id j1 j2 => by
          rw [k2.2.1 id (by omega), f3 id (by omega) (by omega) (by omega)]
          exact ref1 id (by omega) (by omega)
        refine ⟨fun id j1 j2 => ?_, fun j j1 j2 => ?_, fun j j1 j2 => ?_, fun j j1 j2 => ?_⟩
        · have e8 : T8.1 id u = S.1 id u := by rw [g7.2.1 id (by omega) (by omega) (by omega), base id (by omega) (by omega)]
          have e10 : T10.1 id u = T8.1 id u := by
            show (sI (sI (sI T8 44 s (nI N')) 45 s (nI P)) 46 s _).1 id u = _
            rw [sI_ne _ _ (Or.inr hus), sI_ne _ _ (Or.inr hus), sI_ne _ _ (Or.inr hus)]
          by_cases e : id = 47
          · subst e; rw [v2.2.2.2 u hus, e10, e8]
          · rw [f44 id e (by omega) (by omega), e10, e8]
        · rw [f44 50 (by decide) (by decide) (by decide), t10 50 (by decide) (by decide) (by decide), g7.2.2.1 j (by omega), base 50 (by omega) (by omega)]
        · rw [f44 48 (by decide) (by decide) (by decide), t10 48 (by decide) (by decide) (by decide), g7.2.2.2.1 j (by omega), base 48 (by omega) (by omega)]
        · have q := g7.2.2.2.2 j (by omega)
          rw [f44 49 (by decide) (by decide) (by decide), t10 49 (by decide) (by decide) (by decide), q.1, v2.2.2.1 j (by omega), t10 51 (by decide) (by decide) (by decide), q.2.1, f44 52 (by decide) (by decide) (by decide), t10 52 (by decide) (by decide) (by decide), q.2.2.1, f44 53 (by decide) (by decide) (by decide), t10 53 (by decide) (by decide) (by decide), q.2.2.2, base 49 (by omega) (by omega), base 51 (by omega) (by omega), base 52 (by omega) (by omega), base 53 (by omega) (by omega)]
          exact ⟨rfl, rfl, rfl, rfl⟩
      have s1p : ∀ u, S1.2.2 2 u = if u = s then some (79 + 6 * ji) else S.2.2 2 u := fun u => by
        show (sP (sP S6 0 3 (S6.2.2 2 s)) 2 s (some (79 + 6 * ji))).2.2 2 u = _
        rw [sP_get, if_pos rfl]
        by_cases e : u = s
        · rw [if_pos e, if_pos e]
        · rw [if_neg e, if_neg e, sP_get, if_neg (by decide), c22]
      have s1q : S1.2.2 0 3 = S.2.2 2 s := by
        show (sP (sP S6 0 3 (S6.2.2 2 s)) 2 s (some (79 + 6 * ji))).2.2 0 3 = _
        rw [sP_get, if_neg (by decide), sP_get, if_pos rfl, if_pos rfl, c22]
      have mid : ∀ r, r < 6 → T11.1 (79 + 6 * ji + r) = S6.1 (79 + 6 * ji + r) := fun r hr => by
        rw [chain _ (by omega) (by omega) (by omega) (by omega)]
        rfl
      have mid0 : T11.1 (79 + 6 * ji) = S6.1 (79 + 6 * ji) := mid 0 (by omega)
      refine ⟨nI N', S1, T11, hr, ?_, ?_⟩
      · rw [f1]
        unfold rK
        rw [if_pos (le00 f6.2.1), k1, bd_some, g5, bd2_some, vl_d, if_pos (nI_pos' (by omega)), ck_nI hs (by decide), nI_clamp (by omega), vl_d, ck_nI hs (by decide), sI_id _ _ _ (by decide), h6, vl_d, ck_nI hs (by decide), vl_d, vl_d]
        show f_X10_read_L123 fu (nI s) (nI N') 0 (sI T9 46 s 0) = _
        rw [rd123 hs hP (by rw [t9 34 (by decide) (by decide)]; exact h6)]
        show bd (f_X10_divides (nI s) (nI N') T10) _ = _
        rw [v1, bd_some]
      · have m3' : ∀ id, id < 13 → S6.1 id = Sm.1 id := fun id hid => by rw [c3 id (by omega) (by omega) (by omega), m1.2 id (by omega) (by omega)]
        obtain ⟨i1, i2, i3⟩ := common S1 T6 T11 (by show S6.1 0 1 = 0; rw [m3' 0 (by omega)]; exact id0) (by show S6.1 3 = _; rw [m3' 3 (by omega), hmid 3 (by omega)]) ref1 f4 f5 f6 t34 (fun id hid => chain id (by omega) (by omega) (by omega) (by omega))
        refine ⟨i1, i2, i3, fun u hu => ?_, ?_, ?_⟩
        · by_cases e : u = s
          · subst e
            refine Or.inr ⟨79 + 6 * ji, by rw [t22, s1p, if_pos rfl], hi, ?_⟩
            refine ⟨N', P, dOf S3' (79 + 6 * ji), aOf S3' (79 + 6 * ji), fun j => Int32.toNatClampNeg (T8.1 52 (150 * u + j)), fun j => Int32.toNatClampNeg (T8.1 53 (150 * u + j)), ok, ⟨?_, fun k hk x hx => ?_, fun k hk => ?_⟩, autM_f hM v2, hP, ?_, ?_, ?_, ?_, fun j j1 j2 => ?_, fun j hj p hp => ?_, fun j hj => ?_, ?_⟩
            · rw [mid0, c4 0 (by decide) (by decide)]; exact hC.1
            · rw [mid 1 (by omega), c3 _ (by omega) (by omega) (by omega)]; exact hC.2.1 k hk x hx
            · rw [mid 4 (by omega), c3 _ (by omega) (by omega) (by omega)]; exact hC.2.2 k hk
            · rw [mid0, c4 2 (by decide) (by decide)]; exact hp2
            · rw [f44 45 (by decide) (by decide) (by decide)]
              show (sI (sI (sI T8 44 u (nI N')) 45 u (nI P)) 46 u _).1 45 u = _
              rw [sI_id _ _ _ (by decide), sI_at]
            · rw [mid0, c6, v4, hsame.2]
            · rw [mid0, c4 3 (by decide) (by decide), g2, f44 46 (by decide) (by decide) (by decide)]
              show _ = (sI T9 46 u (sumL (T9.1 37) P)).1 46 u
              rw [sI_at]
              refine sumL_cg P (fun p hp => ?_)
              rw [t9 37 (by decide) (by decide), g7.2.1 37 (by omega) (by omega) (by omega), (hg7.2.2.2 p hp).1, (hg7.2.2.2 p hp).2.1]
            · obtain ⟨fr, b', q1, q2, q3, q4, q5⟩ := hori j j1 j2
              show Int32.toNatClampNeg (T8.1 52 (150 * u + j)) < j ∧ Int32.toNatClampNeg (T8.1 53 (150 * u + j)) < 4 ∧ T11.1 (79 + 6 * ji + 2) j = nI (4 * Int32.toNatClampNeg (T8.1 52 (150 * u + j)) + Int32.toNatClampNeg (T8.1 53 (150 * u + j))) ∧ T11.1 52 (150 * u + j) = nI (Int32.toNatClampNeg (T8.1 52 (150 * u + j))) ∧ T11.1 53 (150 * u + j) = nI (Int32.toNatClampNeg (T8.1 53 (150 * u + j)))
              rw [f44 52 (by decide) (by decide) (by decide), t10 52 (by decide) (by decide) (by decide), f44 53 (by decide) (by decide) (by decide), t10 53 (by decide) (by decide) (by decide), q4, q5, nI_clamp (by omega), nI_clamp (by omega), mid 2 (by omega), c3 _ (by omega) (by omega) (by omega)]
              exact ⟨q1, q2, q3, rfl, rfl⟩
            · rw [mid 3 (by omega), c3 _ (by omega) (by omega) (by omega), f44 50 (by decide) (by decide) (by decide), t10 50 (by decide) (by decide) (by decide)]
              exact hset j hj p hp
            · rw [mid 5 (by omega), c5 j hj, v3 j hj, hsame.1 j hj]
            · rw [mid0, c7]
              rcases c8 with ⟨z1, z2⟩ | ⟨z1, z2⟩
              · rw [z1]; exact Or.inl ⟨rfl, z2⟩
              · rw [z1]; exact Or.inr ⟨rfl, z2⟩
          · obtain ⟨o1, o2, o3, o4⟩ := other u hu e
            rcases hI.2.2.2.1 u hu with ⟨q1, q2⟩ | ⟨m, q1, q2, q3⟩
            · exact Or.inl ⟨by rw [t22, s1p, if_neg e]; exact q1, by rw [o1 44 (by omega) (by omega)]; exact q2⟩
            · refine Or.inr ⟨m, by rw [t22, s1p, if_neg e]; exact q1, okM_up hn q2, iMach_loc (fun r hr => ?_) o1 o2 o3 o4 q3⟩
              obtain ⟨w1, w2, w3⟩ := mach u m hu q1 q2 r hr
              rw [chain _ (by omega) (by omega) (by omega) (by omega)]
              show S6.1 (m + r) = _
              rw [c3 _ (by omega) (by omega) (by omega), m1.2 _ (by omega) (by omega), idS _ (by omega) w1 (by omega)]
        · intro m hmm
          rw [t22, s1q] at hmm
          rcases hI.2.2.2.1 s hs with ⟨q1, -⟩ | ⟨m', q1, q2, -⟩
          · rw [q1] at hmm; exact absurd hmm (by simp)
          · rw [q1] at hmm
            have := Option.some.inj hmm
            subst this
            refine ⟨okM_up hn q2, fun u hu => ?_⟩
            rw [t22, s1p]
            by_cases e : u = s
            · rw [if_pos e]
              intro z
              rw [Option.some.inj z] at hfree
              exact hfree s hs q1
            · rw [if_neg e]
              intro z
              exact e (hI.2.2.2.2.2 u s m' hu hs z q1)
        · intro u w m hu hw q1 q2
          rw [t22, s1p] at q1 q2
          by_cases e : u = s
          · by_cases e' : w = s
            · omega
            · rw [if_pos e] at q1
              rw [if_neg e'] at q2
              rw [← q1] at q2
              exact absurd q2 (hfree w hw)
          · by_cases e' : w = s
            · rw [if_neg e] at q1
              rw [if_pos e'] at q2
              rw [← q2] at q1
              exact absurd q1 (hfree u hu)
            · rw [if_neg e] at q1
              rw [if_neg e'] at q2
              exact hI.2.2.2.2.2 u w m hu hw q1 q2
theorem ok_read : OK_read Inv := by
  intro n S a0 a1 hI
  obtain ⟨t, ht, h1, h2, htp⟩ := id hI.1
  have bad : (f_X9_read n a0 a1 S = some (-1, n, S) ∧ f_X10_read a0 a1 S = some (-1, S)) → ∃ (r : Int32) (n1 : Nat) (S1 S2 : Sg), f_X9_read n a0 a1 S = some (r, n1, S1) ∧ f_X10_read a0 a1 S1 = some (r, S2) ∧ Inv n1 S2 := fun h => ⟨-1, n, S, S, h.1, h.2, hI⟩
  have k3 : (3 : Int32) = nI 4 - 1 := by decide +kernel
  rcases ixc a0 4 (by decide) with z | ⟨z0, z⟩ | ⟨s, hs, rfl⟩
  · refine bad ⟨?_, ?_⟩
    · unfold f_X9_read
      rw [if_pos z]
    · unfold f_X10_read
      rw [lies_lo z, bd2_some, if_pos rfl]
  · refine bad ⟨?_, ?_⟩
    · unfold f_X9_read
      rw [if_neg z0, k_4, if_pos z]
    · unfold f_X10_read
      rw [k3, lies_hi z0 z (by decide), bd2_some, if_pos rfl]
  · have c4 : ¬ (4 : Int32) ≤ nI s := by rw [k_4, nI_leI (by omega) (by omega)]; omega
    have hl : f_X10_lies (nI s) 0 3 S = some (1, S) := by rw [k3]; exact lies_in hs (by decide) S
    rcases ixc a1 (t + 1) (by omega) with z | ⟨z0, z⟩ | ⟨k, hk, rfl⟩
    · refine bad ⟨?_, ?_⟩
      · unfold f_X9_read
        rw [if_neg (nI_pos (by omega)), if_neg c4, if_pos z]
      · unfold f_X10_read
        rw [hl, bd2_some, if_neg n10, if_pos z]
    · have hgt : ¬ a1 ≤ nI t := by
        rw [Int32.le_iff_toInt_le, nI_toInt (by omega)]
        rw [Int32.le_iff_toInt_le, nI_toInt (by omega)] at z
        omega
      refine bad ⟨?_, ?_⟩
      · unfold f_X9_read
        rw [if_neg (nI_pos (by omega)), if_neg c4, if_neg z0, h1, if_neg hgt]
      · unfold f_X10_read
        rw [hl, bd2_some, if_neg n10, if_neg z0, h2, if_neg hgt]
    · have hk' : k ≤ t := by omega
      have head : f_X9_read n (nI s) (nI k) S = bd2 (f_X6_parse (nI k) (sI S 0 1 0)) (fun r2 S2 => if r2 = 0 then some (0, n, S2) else nu n (S2.2.2 0 3) (if okR n S2 = true then bd2 (f_X9_readT (nI s) (gN0 n) (newM n S2)) (fun r3 S3 => some (r3, n + 1, S3)) else none) (fun i => bd2 (f_X9_readT (nI s) i S2) (fun r3 S3 => some (r3, n, S3)))) := by
        unfold f_X9_read
        rw [if_neg (nI_pos (by omega)), if_neg c4, if_neg (nI_pos (by omega)), h1, if_pos (by rw [nI_leI (by omega) (by omega)]; omega), vl_d]
      obtain ⟨S', T6, -, a2, a3, a4, a5, a6, a7⟩ := ref_parse (s := s) (T := S) hI hs hk' ht h1 h2 rfl htp
      have r22 : S'.2.2 = S.2.2 := a2.1
      rcases a7 with ⟨hpar, -, -⟩ | ⟨hpar, -⟩
      · rw [head, hpar, bd2_some, if_neg n10, r22]
        cases hsp : S.2.2 0 3 with
        | none =>
          have hslot : ∀ u, u < 4 → okr n (S.2.2 2 u) = true := by
            intro u hu
            rcases hI.2.2.2.1 u hu with ⟨q1, -⟩ | ⟨m, q1, q2, -⟩
            · rw [q1]; rfl
            · rw [q1]; exact q2
          have hok : okR n S' = true := by
            unfold okR
            rw [r22, hsp, hslot 0 (by omega), hslot 1 (by omega), hslot 2 (by omega), hslot 3 (by omega)]
            rfl
          obtain ⟨r, S1, S2, q1, q2, q3⟩ := read_core (n := n) (n1 := n + 1) (i := 79 + 6 * n) (Sm := newM n S') hI hs hk' ht h1 h2 htp hpar rfl (fun id hid => if_neg (by omega)) (by omega) (okM_i (by omega)) (fun u hu z => by
            rcases hI.2.2.2.1 u hu with ⟨w1, -⟩ | ⟨m, w1, w2, -⟩
            · rw [w1] at z; exact absurd z (by simp)
            · obtain ⟨j, hj, rfl⟩ := okM_s w2
              rw [w1] at z
              have := Option.some.inj z
              omega)
          refine ⟨r, n + 1, S1, S2, ?_, q2, q3⟩
          rw [nu_none, if_pos hok]
          show bd2 (f_X9_readT (nI s) (79 + 6 * n) (newM n S')) _ = _
          rw [q1, bd2_some]
        | some i =>
          obtain ⟨w1, w2⟩ := hI.2.2.2.2.1 i hsp
          obtain ⟨r, S1, S2, q1, q2, q3⟩ := read_core (n := n) (n1 := n) (i := i) (Sm := S') hI hs hk' ht h1 h2 htp hpar rfl (fun _ _ => rfl) (Nat.le_refl _) w1 w2
          refine ⟨r, n, S1, S2, ?_, q2, q3⟩
          rw [nu_some w1, q1, bd2_some]
      · -- a fault
        have e22 : ∀ id, 11 < id → S'.1 id = S.1 id := fun id hid => by rw [a2.2 id (by omega), sI_id _ _ _ (by omega)]
        obtain ⟨Sy, T7, b1, b2, b3, b4, b5, b6, b7⟩ := ref_parse (s := s) (T := S') hI hs hk' ht h1 (by rw [e22 34 (by omega)]; exact h2) (e22 35 (by omega)) htp
        rcases b7 with ⟨q, -⟩ | ⟨q, e, he, hf⟩
        · rw [hpar] at q; exact (ne10 q.symm).elim
        · have : Sy = S' := by rw [hpar] at q; exact (congrArg Prod.snd (Option.some.inj q)).symm
          subst this
          obtain ⟨w1, w2, w3, b, w4⟩ := hf
          refine ⟨0, n, Sy, T7, by rw [head, hpar, bd2_some, if_pos rfl], ?_, ?_⟩
          · rw [b1]
            unfold rK
            rw [if_neg (nle1 (by rw [w2]; exact he)).1]
          · have t22 : T7.2.2 = S.2.2 := by rw [b3]; exact r22
            refine ⟨⟨0, by omega, by rw [b4 0 (by omega) (by omega) (by omega), a2.2 0 (by omega), sI_at]; rfl, b5, fun k hk => absurd hk (by omega)⟩, ?_, ⟨by rw [b4 3 (by omega) (by omega) (by omega), w1, w2], by rw [b4 3 (by omega) (by omega) (by omega)]; exact w3, ?_⟩, slots_keep t22 (fun id hid => by rw [b4 id (by omega) (by omega) (by omega), e22 id (by omega)]) hI.2.2.2.1, refs_keep t22 hI.2.2.2.2⟩
            · obtain ⟨u, u1, u2, u3, u4⟩ := hI.2.1
              exact ⟨u, u1, by rw [b4 32 (by omega) (by omega) (by omega), e22 32 (by omega)]; exact u2, by rw [b6, e22 34 (by omega)]; exact u3, fun k hk => by rw [b4 33 (by omega) (by omega) (by omega), b4 54 (by omega) (by omega) (by omega), e22 33 (by omega), e22 54 (by omega)]; exact u4 k hk⟩
            · rw [b4 3 (by omega) (by omega) (by omega), w4]
              cases b
              · exact Or.inl rfl
              · exact Or.inr rfl
