theorem Inv_told2 {n : Nat} {S S' : Sg} {q : Nat} {w : Nat → Int32} (hI : Inv n S) (h2 : S'.2.2 = S.2.2) (hq : q ≤ 300) (c1 : S'.1 32 1 = nI q) (m1 : S'.1 34 25 = nI q) (c2 : ∀ t, t < q → S'.1 33 t = w t) (m2 : ∀ t, t < q → S'.1 54 t = w t) (h34 : ∀ b, b ≠ 58 → b ≠ 25 → S'.1 34 b = S.1 34 b) (hk : ∀ id, id = 0 ∨ id = 1 ∨ id = 3 ∨ id = 35 ∨ (44 ≤ id ∧ id ≤ 53) ∨ 79 ≤ id → S'.1 id = S.1 id) : Inv n S' := by
  obtain ⟨⟨t, ht, a1, a2, a3⟩, -, ⟨f1, f2⟩, hs, hr⟩ := hI
  refine ⟨⟨t, ht, by rw [hk 0 (by omega)]; exact a1, by rw [h34 2 (by decide) (by decide)]; exact a2, fun k hk2 => by rw [hk 1 (by omega), hk 35 (by omega)]; exact a3 k hk2⟩, ⟨q, hq, c1, m1, fun k hk2 => by rw [c2 k hk2, m2 k hk2]⟩, ⟨by rw [hk 3 (by omega), h34 4 (by decide) (by decide)]; exact f1, by rw [hk 3 (by omega), h34 5 (by decide) (by decide)]; exact f2⟩, slots_keep h2 (fun i hi => hk i (by omega)) hs, refs_keep h2 hr⟩
theorem Inv_D {n : Nat} {S S' : Sg} (hk : frD S S') (h : Inv n S) : Inv n S' := by
  have h2 : S'.2.2 = S.2.2 := by rw [hk.1]
  have a : ∀ i, i < 27 ∨ 31 < i → S'.1 i = S.1 i := hk.2
  obtain ⟨⟨t, t1, t2, t3, t4⟩, ⟨q, q1, q2, q3, q4⟩, ⟨f1, f2⟩, i4, i5⟩ := h
  refine ⟨⟨t, t1, by rw [a 0 (by omega)]; exact t2, by rw [a 34 (by omega)]; exact t3, fun k hk => by rw [a 1 (by omega), a 35 (by omega)]; exact t4 k hk⟩, ⟨q, q1, by rw [a 32 (by omega)]; exact q2, by rw [a 34 (by omega)]; exact q3, fun k hk => by rw [a 33 (by omega), a 54 (by omega)]; exact q4 k hk⟩, ⟨by rw [a 3 (by omega), a 34 (by omega)]; exact f1, by rw [a 3 (by omega), a 34 (by omega)]; exact f2⟩, slots_keep h2 (fun i hi => a i (by omega)) i4, refs_keep h2 i5⟩
theorem ok_differ : OK_differ Inv := by
  intro n S a b hI
  rcases slotC hI.2.2.2.1 a with ⟨h1, h2⟩ | ⟨s1, m1, hs1, rfl, hm1, -, ⟨N1, P1, d1, acc1, fr1, by1, o1, cC1, cM1, -⟩, h1, h2⟩
  · refine ⟨-1, S, S, ?_, ?_, hI⟩
    · unfold f_X9_differ
      rw [h1, bd2_some]
      rcases slotC hI.2.2.2.1 b with ⟨g1, -⟩ | ⟨_, _, _, _, _, _, _, g1, -⟩
      · rw [g1]; rfl
      · rw [g1]; rfl
    · unfold f_X10_differ; rw [h2]; rfl
  · rcases slotC hI.2.2.2.1 b with ⟨g1, g2⟩ | ⟨s2, m2, hs2, rfl, hm2, -, ⟨N2, P2, d2, acc2, fr2, by2, o2, cC2, cM2, -⟩, g1, g2⟩
    · refine ⟨-1, S, S, ?_, ?_, hI⟩
      · unfold f_X9_differ; rw [h1, bd2_some, g1, bd2_some, nu_some hm1]; rfl
      · unfold f_X10_differ; rw [h2, bd2_some, if_neg n10, g2]; rfl
    · obtain ⟨j1, hj1, hmj1⟩ := okM_s hm1
      obtain ⟨j2, hj2, hmj2⟩ := okM_s hm2
      have hcl : ∀ r S', f_X1_find m1 m2 S = some (r, S') → f_X9_differ n (nI s1) (nI s2) S = if r = 0 then some (-1, S') else some (S'.1 32 1, S') := by
        intro r S' e
        unfold f_X9_differ
        rw [h1, bd2_some, g1, bd2_some, nu_some hm1, nu_some hm2, e, bd2_some]
      rcases find_eq o1 o2 (by omega) (by omega) cC1 cC2 with ⟨S1, e1, f1, hn⟩ | ⟨w, S1, e1, y1, y2, y3, y4, y5, y6, y7, y8⟩
      · have M1 : autM S1 s1 N1 d1 acc1 := autM_cg cM1 (fun i i1 i2 => f1.2 i (by omega))
        have M2 : autM S1 s2 N2 d2 acc2 := autM_cg cM2 (fun i i1 i2 => f1.2 i (by omega))
        rcases differM_eq o1 o2 hs1 hs2 M1 M2 with ⟨S2, e2, f2, -⟩ | ⟨w, S2, hw, -⟩
        · exact ⟨-1, S1, S2, by rw [hcl _ _ e1, if_pos rfl], e2, Inv_W f2 (Inv_D f1 hI)⟩
        · exact absurd hw (hn w)
      · have M1 : autM S1 s1 N1 d1 acc1 := autM_cg cM1 (fun i i1 i2 => y8 i (by omega))
        have M2 : autM S1 s2 N2 d2 acc2 := autM_cg cM2 (fun i i1 i2 => y8 i (by omega))
        rcases differM_eq o1 o2 hs1 hs2 M1 M2 with ⟨S2, e2, f2, hn⟩ | ⟨w2, S2, hw, e2, z1, z2, z3, z4, z5⟩
        · exact absurd y3 (hn w y2)
        · have := y4 w2 hw
          subst this
          refine ⟨nI w2.length, S1, S2, by rw [hcl _ _ e1, if_neg (by decide), y6], e2, ?_⟩
          refine Inv_told2 (q := w2.length) (w := fun t => nI (w2.getD t 0)) hI (by rw [z1, y5]) y1 ?_ z2 (fun t ht => ?_) z3 (fun b hb hb2 => ?_) (fun id hid => ?_)
          · rw [z4 32 (by decide) (by decide) (by decide) (by decide) (by decide) (by decide)]; exact y6
          · rw [z4 33 (by decide) (by decide) (by decide) (by decide) (by decide) (by decide)]; exact y7 t ht
          · rw [z5 b hb hb2, y8 34 (by omega)]
          · rw [z4 id (by omega) (by omega) (by omega) (by omega) (by omega) (by omega), y8 id (by omega)]
