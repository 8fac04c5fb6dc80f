section SURP2
variable {i1 i2 N1 N2 R : Nat} {d1 d2 : Nat → Nat → Nat} {acc1 acc2 : Nat → Bool}
theorem sweep {K : Nat → Nat → Int32 → Int32 → Int32 → Int32 → Int32 → Sg → Option (Int32 × Sg)} {S0 : Sg} {P w : Nat} (o1 : autOk N1 d1) (o2 : autOk N2 d2) (hR : N1 * N2 ≤ 64 * R) (hR2 : R ≤ 352) (C1 : autC S0 i1 N1 d1 acc1) (C2 : autC S0 i2 N2 d2 acc2) : ∀ (k r fl : Nat) (S : Sg) (v m : Int32), frJ S0 S → r + k = R → k + 1 ≤ fl → sInv R N2 d1 d2 acc1 acc2 S v → ∃ S' v' m', f_X2_surplus_L92 K fl i1 i2 (nI P) (nI R) v m (nI w) (nI r) S = K i1 i2 (nI P) (nI R) v' m' (nI (w + 1)) S' ∧ frJ S0 S' ∧ sInv R N2 d1 d2 acc1 acc2 S' v' ∧ (∀ p, (dn S R p → dn S' R p) ∧ (sn S R p → sn S' R p)) ∧ ((m' = m ∧ S' = S ∧ v' = v ∧ ∀ p, 64 * r ≤ p → sn S R p → dn S R p) ∨ (m' = 1 ∧ ∃ p, dn S' R p ∧ ¬ dn S R p)) := by
  intro k
  induction k with
  | zero =>
    intro r fl S v m hf hr hfl hi
    obtain ⟨f, rfl⟩ : ∃ f, fl = f + 1 := ⟨fl - 1, by omega⟩
    refine ⟨S, v, m, ?_, hf, hi, fun _ => ⟨id, id⟩, Or.inl ⟨rfl, rfl, rfl, fun p h1 h2 => by have := h2.1; omega⟩⟩
    rw [f_X2_surplus_L92, if_pos (by rw [nI_leI (by omega) (by omega)]; omega), vl_d, nI_1]
  | succ k ih =>
    intro r fl S v m hf hr hfl hi
    obtain ⟨f, rfl⟩ : ∃ f, fl = f + 1 := ⟨fl - 1, by omega⟩
    have c1 : autC S i1 N1 d1 acc1 := by unfold autC at *; rw [hf.1]; exact C1
    have c2 : autC S i2 N2 d2 acc2 := by unfold autC at *; rw [hf.1]; exact C2
    have tst : lg_cmp (S.2.1 25 r &&& (S.2.1 26 r ^^^ (-1 : Int64))) 0 = 0 ↔ ∀ b, b < 64 → sn S R (64 * r + b) → dn S R (64 * r + b) := by
      rw [bJ_zero]
      constructor
      · intro h b hb hs
        have h1 := h b hb
        rw [bJ_andn _ _ hb] at h1
        have e1 : (64 * r + b) / 64 = r := by omega
        have e2 : (64 * r + b) % 64 = b := by omega
        refine ⟨hs.1, ?_⟩
        have h2 := hs.2
        rw [e1, e2] at h2 ⊢
        rw [h2] at h1
        simpa using h1
      · intro h b hb
        rw [bJ_andn _ _ hb]
        have e1 : (64 * r + b) / 64 = r := by omega
        have e2 : (64 * r + b) % 64 = b := by omega
        cases h2 : bJ (S.2.1 25 r) b with
        | false => rfl
        | true =>
          have h3 := (h b hb ⟨by omega, by rw [e1, e2]; exact h2⟩).2
          rw [e1, e2] at h3
          rw [h3]
          rfl
    rw [f_X2_surplus_L92, if_neg (by rw [nI_leI (by omega) (by omega)]; omega), ck_nI (by omega) (by decide), ck_nI (by omega) (by decide), nI_clamp (by omega)]
    by_cases h : lg_cmp (S.2.1 25 r &&& (S.2.1 26 r ^^^ (-1 : Int64))) 0 = 0
    · rw [if_pos h, vl_d, nI_1]
      obtain ⟨S', v', m', e, q1, q2, q3, q4⟩ := ih (r + 1) f S v m hf (by omega) (by omega) hi
      refine ⟨S', v', m', e, q1, q2, q3, ?_⟩
      rcases q4 with ⟨a, b, c, g⟩ | g
      · refine Or.inl ⟨a, b, c, fun p h1 h2 => ?_⟩
        rcases (show p < 64 * r + 64 ∨ 64 * (r + 1) ≤ p by omega) with z | z
        · have := tst.mp h (p - 64 * r) (by omega)
          rw [show 64 * r + (p - 64 * r) = p by omega] at this
          exact this h2
        · exact g p z h2
      · exact Or.inr g
    · rw [if_neg h, vl_d]
      have hpend : ∃ b, b < 64 ∧ sn S R (64 * r + b) ∧ ¬ dn S R (64 * r + b) := by
        apply Classical.byContradiction
        intro hn
        exact h (tst.mpr (fun b hb hs => Classical.byContradiction fun hd => hn ⟨b, hb, hs, hd⟩))
      obtain ⟨b, hb, hs, hd⟩ := hpend
      obtain ⟨S1, x1, e1, g1, g2, g3, g4⟩ := vrow (S0 := S0) (r := r) (v := v) o1 o2 hR hR2 (by omega) 64 0 fu S 0 hf c1 c2 (by omega) (by unfold fu; omega) (by rw [show v ||| (0 : Int32) = v from by simp]; exact hi)
      have ev : f_X2_visitRow i1 i2 (nI r) S = some (x1, S1) := by
        unfold f_X2_visitRow
        rw [vl_d, vl_d]
        rw [← k_0] at e1
        exact e1
      rw [ev, bd2_some, vl_d, vl_d, nI_1]
      obtain ⟨S', v', m', e, q1, q2, q3, q4⟩ := ih (r + 1) f S1 (v ||| x1) 1 g1 (by omega) (by omega) g2
      refine ⟨S', v', m', e, q1, q2, fun p => ⟨fun hp => (q3 p).1 ((g3 p).1 hp), fun hp => (q3 p).2 ((g3 p).2 hp)⟩, Or.inr ⟨?_, 64 * r + b, (q3 _).1 (g4 b (Nat.zero_le _) hb hs), hd⟩⟩
      rcases q4 with ⟨a, -⟩ | ⟨a, -⟩
      · exact a
      · exact a
/-- done is all that can be reached -/
theorem closed_all (o1 : autOk N1 d1) (o2 : autOk N2 d2) {S : Sg} {v : Int32} (hi : sInv R N2 d1 d2 acc1 acc2 S v) (h0 : sn S R 0) (hc : ∀ p, sn S R p → dn S R p) : ∀ (l : Nat) (w : List Nat), w.length = l → let4 w → dn S R (runA d1 0 w * N2 + runA d2 0 w) := by
  intro l
  induction l with
  | zero =>
    intro w hl _
    have : w = [] := List.eq_nil_of_length_eq_zero hl
    subst this
    show dn S R (0 * N2 + 0)
    rw [Nat.zero_mul]
    exact hc 0 h0
  | succ l ih =>
    intro w hl hw
    have hne : w ≠ [] := fun e => by subst e; cases hl
    have e := List.dropLast_concat_getLast hne
    have hw1 : let4 w.dropLast := let4_sub hw (fun x hx => by rw [← e]; exact List.mem_append_left _ hx)
    have hx := hw _ (List.getLast_mem hne)
    have hd := ih w.dropLast (by rw [List.length_dropLast]; omega) hw1
    have hs := hi.2.2.1 _ _ hx hd
    obtain ⟨-, e1, e2⟩ := rch_lt o1 o2 hw1
    unfold stC at hs
    rw [e1, e2, ← run_snoc d1 w.dropLast (w.getLast hne) 0, ← run_snoc d2 w.dropLast (w.getLast hne) 0, e] at hs
    exact hc _ hs
theorem spec_of (o1 : autOk N1 d1) (o2 : autOk N2 d2) {S : Sg} {v : Int32} (hi : sInv R N2 d1 d2 acc1 acc2 S v) (h : v = 3 ∨ (sn S R 0 ∧ ∀ p, sn S R p → dn S R p)) : tv2 (onlyA d1 d2 acc1 acc2) (onlyA d2 d1 acc2 acc1) v := by
  have toA : (∃ p, dn S R p ∧ acc1 (p / N2) = true ∧ acc2 (p % N2) = false) → onlyA d1 d2 acc1 acc2 := by
    rintro ⟨p, hp, z1, z2⟩
    obtain ⟨w, hw, rfl⟩ := hi.1 p (hi.2.1 p hp)
    obtain ⟨-, e1, e2⟩ := rch_lt o1 o2 hw
    rw [e1] at z1
    rw [e2] at z2
    exact ⟨w, hw, z1, z2⟩
  have toB : (∃ p, dn S R p ∧ acc2 (p % N2) = true ∧ acc1 (p / N2) = false) → onlyA d2 d1 acc2 acc1 := by
    rintro ⟨p, hp, z1, z2⟩
    obtain ⟨w, hw, rfl⟩ := hi.1 p (hi.2.1 p hp)
    obtain ⟨-, e1, e2⟩ := rch_lt o1 o2 hw
    rw [e2] at z1
    rw [e1] at z2
    exact ⟨w, hw, z1, z2⟩
  rcases h with rfl | ⟨h0, hc⟩
  · obtain ⟨a, b, h1, h2, h3⟩ := hi.2.2.2
    have ha : a = true := by cases a <;> cases b <;> first | rfl | (exact absurd h3 (by decide))
    have hb : b = true := by cases a <;> cases b <;> first | rfl | (exact absurd h3 (by decide))
    exact ⟨true, true, ⟨fun _ => toA (h1.mp ha), fun _ => rfl⟩, ⟨fun _ => toB (h2.mp hb), fun _ => rfl⟩, rfl⟩
  · refine tv2_cg hi.2.2.2 ⟨toA, ?_⟩ ⟨toB, ?_⟩
    · rintro ⟨w, hw, z1, z2⟩
      obtain ⟨-, e1, e2⟩ := rch_lt o1 o2 hw
      exact ⟨_, closed_all o1 o2 hi h0 hc w.length w rfl hw, by rw [e1]; exact z1, by rw [e2]; exact z2⟩
    · rintro ⟨w, hw, z1, z2⟩
      obtain ⟨-, e1, e2⟩ := rch_lt o1 o2 hw
      exact ⟨_, closed_all o1 o2 hi h0 hc w.length w rfl hw, by rw [e2]; exact z1, by rw [e1]; exact z2⟩
theorem sweeps {S0 : Sg} (o1 : autOk N1 d1) (o2 : autOk N2 d2) (hR : N1 * N2 ≤ 64 * R) (hR2 : R ≤ 352) (C1 : autC S0 i1 N1 d1 acc1) (C2 : autC S0 i2 N2 d2 acc2) : ∀ (k w fl : Nat) (S : Sg) (v m : Int32) (g : Nat → Nat), frJ S0 S → w + k = N1 * N2 + 1 → k + 1 ≤ fl → sInv R N2 d1 d2 acc1 acc2 S v → sn S R 0 → (m = 1 ∨ (m = 0 ∧ ∀ p, sn S R p → dn S R p)) → (∀ i, i < w → m = 1 → dn S R (g i)) → (∀ i j, i < w → j < w → m = 1 → g i = g j → i = j) → ∃ S' v', f_X2_surplus_L69 fl i1 i2 (nI (N1 * N2)) (nI R) v m (nI w) S = some (v', S') ∧ frJ S0 S' ∧ tv2 (onlyA d1 d2 acc1 acc2) (onlyA d2 d1 acc2 acc1) v' := by
  have hm := mulN_le o1 o2
  intro k
  induction k with
  | zero =>
    intro w fl S v m g hf hw hfl hi h0 hmm hg hinj
    obtain ⟨f, rfl⟩ : ∃ f, fl = f + 1 := ⟨fl - 1, by omega⟩
    refine ⟨S, v, ?_, hf, spec_of o1 o2 hi ?_⟩
    · rw [f_X2_surplus_L69, if_pos (by rw [nI_ltI (by omega) (by omega)]; omega)]
    · rcases hmm with rfl | ⟨-, hc⟩
      · obtain ⟨i, j, hij, hj, e⟩ := pigeon (N1 * N2) g (fun i hi2 => by
          obtain ⟨u, hu, eu⟩ := hi.1 _ (hi.2.1 _ (hg i (by omega) rfl))
          rw [eu]
          exact (rch_lt o1 o2 hu).1)
        have := hinj i j (by omega) (by omega) rfl e
        omega
      · exact Or.inr ⟨h0, hc⟩
  | succ k ih =>
    intro w fl S v m g hf hw hfl hi h0 hmm hg hinj
    obtain ⟨f, rfl⟩ : ∃ f, fl = f + 1 := ⟨fl - 1, by omega⟩
    rw [f_X2_surplus_L69, if_neg (by rw [nI_ltI (by omega) (by omega)]; omega)]
    rcases hmm with rfl | ⟨rfl, hc⟩
    · rw [if_neg n10]
      by_cases h3 : v = 3
      · rw [if_pos h3]
        exact ⟨S, v, rfl, hf, spec_of o1 o2 hi (Or.inl h3)⟩
      · rw [if_neg h3, vl_d, vl_d]
        obtain ⟨S1, v1, m1, e1, q1, q2, q3, q4⟩ := sweep (K := f_X2_surplus_L69 f) (P := N1 * N2) (w := w) o1 o2 hR hR2 C1 C2 R 0 fu S v 0 hf (by omega) (by unfold fu; omega) hi
        rw [← k_0] at e1
        rw [e1]
        have hs0 : sn S1 R 0 := (q3 0).2 h0
        rcases q4 with ⟨rfl, rfl, rfl, hall⟩ | ⟨rfl, p, hp1, hp2⟩
        · exact ih (w + 1) f S1 v1 0 g q1 (by omega) (by omega) q2 hs0 (Or.inr ⟨rfl, fun p hp => hall p (by omega) hp⟩) (fun i _ z => absurd z (by decide)) (fun i j _ _ z => absurd z (by decide))
        · refine ih (w + 1) f S1 v1 1 (fun i => if i = w then p else g i) q1 (by omega) (by omega) q2 hs0 (Or.inl rfl) (fun i hi2 _ => ?_) (fun i j hi2 hj2 _ e => ?_)
          · show dn S1 R (if i = w then p else g i)
            by_cases c : i = w
            · rw [if_pos c]; exact hp1
            · rw [if_neg c]; exact (q3 _).1 (hg i (by omega) rfl)
          · have e : (if i = w then p else g i) = (if j = w then p else g j) := e
            by_cases c : i = w
            · by_cases c2 : j = w
              · omega
              · rw [if_pos c, if_neg c2] at e
                exact absurd (e ▸ hg j (by omega) rfl) hp2
            · by_cases c2 : j = w
              · rw [if_neg c, if_pos c2] at e
                exact absurd (e ▸ hg i (by omega) rfl) hp2
              · rw [if_neg c, if_neg c2] at e
                exact hinj i j (by omega) (by omega) rfl e
    · rw [if_pos rfl]
      exact ⟨S, v, rfl, hf, spec_of o1 o2 hi (Or.inr ⟨h0, hc⟩)⟩
theorem clearC {S0 : Sg} (o1 : autOk N1 d1) (o2 : autOk N2 d2) (hR : N1 * N2 ≤ 64 * R) (hR1 : 1 ≤ R) (hR2 : R ≤ 352) (C1 : autC S0 i1 N1 d1 acc1) (C2 : autC S0 i2 N2 d2 acc2) : ∀ (k r fl : Nat) (S : Sg), frJ S0 S → r + k = R → k + 1 ≤ fl → (∀ j, j < r → S.2.1 25 j = 0 ∧ S.2.1 26 j = 0) → ∃ S' v', f_X2_surplus_L24 fl i1 i2 (nI (N1 * N2)) (nI R) (nI r) S = some (v', S') ∧ frJ S0 S' ∧ tv2 (onlyA d1 d2 acc1 acc2) (onlyA d2 d1 acc2 acc1) v' := by
  have hm := mulN_le o1 o2
  intro k
  induction k with
  | zero =>
    intro r fl S hf hr hfl hz
    obtain ⟨f, rfl⟩ : ∃ f, fl = f + 1 := ⟨fl - 1, by omega⟩
    have hsn : ∀ p, sn (sJ S 25 0 1) R p ↔ p = 0 := by
      intro p
      unfold sn
      rw [sJ_get, if_pos rfl]
      by_cases h : p / 64 = 0
      · rw [if_pos h, bJ_1]
        constructor
        · rintro ⟨-, z⟩
          have := of_decide_eq_true z
          omega
        · rintro rfl
          exact ⟨by omega, by simp⟩
      · rw [if_neg h]
        constructor
        · rintro ⟨a, z⟩
          rw [(hz (p / 64) (by omega)).1, bJ_0] at z
          exact absurd z (by decide)
        · rintro rfl
          exact absurd rfl h
    have hdn : ∀ p, ¬ dn (sJ S 25 0 1) R p := by
      rintro p ⟨a, z⟩
      rw [sJ_get, if_neg (by decide), (hz (p / 64) (by omega)).2, bJ_0] at z
      exact absurd z (by decide)
    obtain ⟨S', v', e, q1, q2⟩ := sweeps (S0 := S0) o1 o2 hR hR2 C1 C2 (N1 * N2 + 1) 0 fu (sJ S 25 0 1) 0 1 (fun _ => 0) hf (by omega) (by unfold fu; omega) ⟨fun p hp => by rw [(hsn p).mp hp]; exact ⟨[], fun x hx => (by cases hx), by show 0 = 0 * N2 + 0; rw [Nat.zero_mul]⟩, fun p hp => absurd hp (hdn p), fun p x _ hp => absurd hp (hdn p), ⟨false, false, by simp; intro p hp; exact absurd hp (hdn p), by simp; intro p hp; exact absurd hp (hdn p), rfl⟩⟩ ((hsn 0).mpr rfl) (Or.inl rfl) (fun i hi => absurd hi (by omega)) (fun i j hi => absurd hi (by omega))
    refine ⟨S', v', ?_, q1, q2⟩
    rw [f_X2_surplus_L24, if_pos (by rw [nI_leI (by omega) (by omega)]; omega), k_0, ck_nI (by omega) (by decide), nI_clamp (by omega), vl_d, vl_d, vl_d, vl_d]
    rw [← k_0] at e ⊢
    exact e
  | succ k ih =>
    intro r fl S hf hr hfl hz
    obtain ⟨f, rfl⟩ : ∃ f, fl = f + 1 := ⟨fl - 1, by omega⟩
    obtain ⟨S', v', e, q1, q2⟩ := ih (r + 1) f (sJ (sJ S 25 r 0) 26 r 0) hf (by omega) (by omega) (fun j hj => by
      by_cases c : j = r
      · subst c; simp [sJ_get]
      · have := hz j (by omega)
        simp [sJ_get, c, this.1, this.2])
    refine ⟨S', v', ?_, q1, q2⟩
    rw [f_X2_surplus_L24, if_neg (by rw [nI_leI (by omega) (by omega)]; omega), ck_nI (by omega) (by decide), nI_clamp (by omega), vl_d, ck_nI (by omega) (by decide), vl_d, vl_d, nI_1]
    exact e
theorem surplus_eq {S : Sg} (o1 : autOk N1 d1) (o2 : autOk N2 d2) (C1 : autC S i1 N1 d1 acc1) (C2 : autC S i2 N2 d2 acc2) : ∃ S' v, f_X2_surplus i1 i2 S = some (v, S') ∧ frJ S S' ∧ tv2 (onlyA d1 d2 acc1 acc2) (onlyA d2 d1 acc2 acc1) v := by
  have hm := mulN_le o1 o2
  have a1 := o1.1
  have a2 := o2.1
  have hpos : 1 ≤ N1 * N2 := Nat.mul_pos a1 a2
  obtain ⟨S', v, e, q1, q2⟩ := clearC (R := (N1 * N2 + 63) / 64) o1 o2 (by omega) (by omega) (by omega) C1 C2 ((N1 * N2 + 63) / 64) 0 fu S ⟨rfl, rfl⟩ (by omega) (by unfold fu; omega) (fun j hj => absurd hj (by omega))
  refine ⟨S', v, ?_, q1, q2⟩
  unfold f_X2_surplus
  rw [C1.1, C2.1, pk_mul, vl_d, nz64, k_64, nI_add, k_1, pk_sub (by omega), pk_div (by omega) (by decide) (by decide), vl_d, vl_d, show N1 * N2 + 64 - 1 = N1 * N2 + 63 by omega, k_0]
  exact e
end SURP2
theorem Inv_W {n : Nat} {S S' : Sg} (hk : frW S S') (h : Inv n S) : Inv n S' := by
  have h2 : S'.2.2 = S.2.2 := by rw [hk.1]
  have a : ∀ i, i ≠ 34 → i ≠ 75 → i ≠ 76 → i ≠ 77 → i ≠ 78 → S'.1 i = S.1 i := hk.2.1
  have b : ∀ c, c ≠ 58 → S'.1 34 c = S.1 34 c := hk.2.2
  obtain ⟨⟨t, t1, t2, t3, t4⟩, ⟨q, q1, q2, q3, q4⟩, ⟨f1, f2⟩, i4, i5⟩ := h
  refine ⟨⟨t, t1, by rw [a 0 (by decide) (by decide) (by decide) (by decide) (by decide)]; exact t2, by rw [b 2 (by decide)]; exact t3, fun k hk => by rw [a 1 (by decide) (by decide) (by decide) (by decide) (by decide), a 35 (by decide) (by decide) (by decide) (by decide) (by decide)]; exact t4 k hk⟩, ⟨q, q1, by rw [a 32 (by decide) (by decide) (by decide) (by decide) (by decide)]; exact q2, by rw [b 25 (by decide)]; exact q3, fun k hk => by rw [a 33 (by decide) (by decide) (by decide) (by decide) (by decide), a 54 (by decide) (by decide) (by decide) (by decide) (by decide)]; exact q4 k hk⟩, ⟨by rw [a 3 (by decide) (by decide) (by decide) (by decide) (by decide), b 4 (by decide)]; exact f1, by rw [a 3 (by decide) (by decide) (by decide) (by decide) (by decide), b 5 (by decide)]; exact f2⟩, slots_keep h2 (fun i hi => a i (by omega) (by omega) (by omega) (by omega) (by omega)) i4, refs_keep h2 i5⟩
theorem ok_compare : OK_compare Inv := by
  intro n S a b hI
  rcases slotC hI.2.2.2.1 a with ⟨h1, h2⟩ | ⟨s1, m1, hs1, rfl, hm1, -, ⟨N1, P1, d1, acc1, fr1, by1, o1, cC1, cM1, -⟩, h1, h2⟩
  · refine ⟨-1, S, S, ?_, ?_, hI⟩
    · unfold f_X9_compare
      rw [h1, bd2_some]
      rcases slotC hI.2.2.2.1 b with ⟨g1, -⟩ | ⟨_, _, _, _, _, _, _, g1, -⟩
      · rw [g1]; rfl
      · rw [g1]; rfl
    · unfold f_X10_compare; rw [h2]; rfl
  · rcases slotC hI.2.2.2.1 b with ⟨g1, g2⟩ | ⟨s2, m2, hs2, rfl, hm2, -, ⟨N2, P2, d2, acc2, fr2, by2, o2, cC2, cM2, -⟩, g1, g2⟩
    · refine ⟨-1, S, S, ?_, ?_, hI⟩
      · unfold f_X9_compare; rw [h1, bd2_some, g1, bd2_some, nu_some hm1]; rfl
      · unfold f_X10_compare; rw [h2, bd2_some, if_neg n10, g2]; rfl
    · obtain ⟨S1, v, e1, q1, q2⟩ := surplus_eq o1 o2 cC1 cC2
      have M1 : autM S1 s1 N1 d1 acc1 := by unfold autM at *; rw [q1.1]; exact cM1
      have M2 : autM S1 s2 N2 d2 acc2 := by unfold autM at *; rw [q1.1]; exact cM2
      obtain ⟨v2, S2, e2, p1, p2⟩ := compareM_eq o1 o2 hs1 hs2 M1 M2
      have := tv2_un q2 p2
      subst this
      refine ⟨v, S1, S2, ?_, e2, Inv_W p1 (Inv_1 q1.1 q1.2 hI)⟩
      unfold f_X9_compare
      rw [h1, bd2_some, g1, bd2_some, nu_some hm1, nu_some hm2, e1, bd2_some]
