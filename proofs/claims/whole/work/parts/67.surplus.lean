section SURP
variable {i1 i2 N1 N2 R : Nat} {d1 d2 : Nat → Nat → Nat} {acc1 acc2 : Nat → Bool}
def rchC (N2 : Nat) (d1 d2 : Nat → Nat → Nat) (p : Nat) : Prop := ∃ w, let4 w ∧ p = runA d1 0 w * N2 + runA d2 0 w
theorem rch_lt (o1 : autOk N1 d1) (o2 : autOk N2 d2) {w : List Nat} (hw : let4 w) : runA d1 0 w * N2 + runA d2 0 w < N1 * N2 ∧ (runA d1 0 w * N2 + runA d2 0 w) / N2 = runA d1 0 w ∧ (runA d1 0 w * N2 + runA d2 0 w) % N2 = runA d2 0 w := by
  have a2 := o2.1
  have h1 := run_lt o1.2.2 w 0 (by have := o1.1; omega) hw
  have h2 := run_lt o2.2.2 w 0 (by omega) hw
  generalize runA d1 0 w = a at h1
  generalize runA d2 0 w = b at h2
  refine ⟨?_, ?_, ?_⟩
  · have : (a + 1) * N2 ≤ N1 * N2 := Nat.mul_le_mul_right _ (by omega)
    rw [Nat.add_mul, Nat.one_mul] at this
    omega
  · rw [Nat.add_comm, Nat.add_mul_div_right _ _ (by omega), Nat.div_eq_of_lt h2, Nat.zero_add]
  · rw [Nat.add_comm, Nat.add_mul_mod_self_right, Nat.mod_eq_of_lt h2]
theorem rch_step (o1 : autOk N1 d1) (o2 : autOk N2 d2) {p x : Nat} (h : rchC N2 d1 d2 p) (hx : x < 4) : rchC N2 d1 d2 (stC N2 d1 d2 p x) := by
  obtain ⟨w, hw, rfl⟩ := h
  obtain ⟨-, e1, e2⟩ := rch_lt o1 o2 hw
  refine ⟨w ++ [x], let4_snoc hw hx, ?_⟩
  unfold stC
  rw [e1, e2, run_snoc, run_snoc]
def sInv (R N2 : Nat) (d1 d2 : Nat → Nat → Nat) (acc1 acc2 : Nat → Bool) (S : Sg) (v : Int32) : Prop := (∀ p, sn S R p → rchC N2 d1 d2 p) ∧ (∀ p, dn S R p → sn S R p) ∧ (∀ p x, x < 4 → dn S R p → sn S R (stC N2 d1 d2 p x)) ∧ tv2 (∃ p, dn S R p ∧ acc1 (p / N2) = true ∧ acc2 (p % N2) = false) (∃ p, dn S R p ∧ acc2 (p % N2) = true ∧ acc1 (p / N2) = false) v
theorem vrow {S0 : Sg} {r : Nat} {v : Int32} (o1 : autOk N1 d1) (o2 : autOk N2 d2) (hR : N1 * N2 ≤ 64 * R) (hR2 : R ≤ 352) (hr : r < R) : ∀ (k b fl : Nat) (S : Sg) (x : Int32), frJ S0 S → autC S i1 N1 d1 acc1 → autC S i2 N2 d2 acc2 → b + k = 64 → k + 1 ≤ fl → sInv R N2 d1 d2 acc1 acc2 S (v ||| x) → ∃ S' x', f_X2_visitRow_L6 fl i1 i2 (nI r) x (nI b) S = some (x', S') ∧ frJ S0 S' ∧ sInv R N2 d1 d2 acc1 acc2 S' (v ||| x') ∧ (∀ p, (dn S R p → dn S' R p) ∧ (sn S R p → sn S' R p)) ∧ ∀ b', b ≤ b' → b' < 64 → sn S R (64 * r + b') → dn S' R (64 * r + b') := by
  have hm := mulN_le o1 o2
  intro k
  induction k with
  | zero =>
    intro b fl S x hf c1 c2 hb hfl hi
    obtain ⟨f, rfl⟩ : ∃ f, fl = f + 1 := ⟨fl - 1, by omega⟩
    refine ⟨S, x, ?_, hf, hi, fun _ => ⟨id, id⟩, fun b' a c => absurd c (by omega)⟩
    rw [f_X2_visitRow_L6, if_pos (by rw [k_64, nI_leI (by omega) (by omega)]; omega)]
  | succ k ih =>
    intro b fl S x hf c1 c2 hb hfl hi
    obtain ⟨f, rfl⟩ : ∃ f, fl = f + 1 := ⟨fl - 1, by omega⟩
    have hp64 : (64 * r + b) / 64 = r ∧ (64 * r + b) % 64 = b := by omega
    have tst : lg_cmp ((((S.2.1 25 r &&& (S.2.1 26 r ^^^ (-1 : Int64))).toUInt64 >>> ((nI b).toInt64.toUInt64 &&& Int64.toUInt64 63)).toInt64) &&& 1) 0 = 0 ↔ ¬ (sn S R (64 * r + b) ∧ ¬ dn S R (64 * r + b)) := by
      rw [bJ_test _ (by omega), bJ_andn _ _ (by omega)]
      unfold sn dn
      rw [hp64.1, hp64.2]
      cases bJ (S.2.1 25 r) b <;> cases bJ (S.2.1 26 r) b <;> simp <;> omega
    have head : f_X2_visitRow_L6 (f + 1) i1 i2 (nI r) x (nI b) S = if lg_cmp ((((S.2.1 25 r &&& (S.2.1 26 r ^^^ (-1 : Int64))).toUInt64 >>> ((nI b).toInt64.toUInt64 &&& Int64.toUInt64 63)).toInt64) &&& 1) 0 = 0 then f_X2_visitRow_L6 f i1 i2 (nI r) x (nI (b + 1)) S else bd2 (f_X2_visit i1 i2 (nI (64 * r + b)) (sJ S 26 r (S.2.1 26 r ||| ((1 : Int64) <<< ((nI b).toInt64 &&& 63))))) (fun r_6 S_5 => f_X2_visitRow_L6 f i1 i2 (nI r) (x ||| r_6) (nI (b + 1)) S_5) := by
      rw [f_X2_visitRow_L6, if_neg (by rw [k_64, nI_leI (by omega) (by omega)]; omega), ck_nI (by omega) (by decide), ck_nI (by omega) (by decide), nI_clamp (by omega), ck_nI (by omega) (by decide), ck_nI (by omega) (by decide), vl_d, vl_d, nI_1, k_64, pk_mul, nI_add, Nat.mul_comm r 64]
      rfl
    rw [head]
    by_cases h : sn S R (64 * r + b) ∧ ¬ dn S R (64 * r + b)
    · rw [if_neg (fun z => tst.mp z h)]
      obtain ⟨w, hw, ew⟩ := hi.1 _ h.1
      have hlt : 64 * r + b < N1 * N2 := by rw [ew]; exact (rch_lt o1 o2 hw).1
      have hrch := hi.1 _ h.1
      obtain ⟨S2, e2, g1, g2, g3⟩ := visit_eq (i1 := i1) (i2 := i2) (acc1 := acc1) (acc2 := acc2) (S := sJ S 26 r (S.2.1 26 r ||| ((1 : Int64) <<< ((nI b).toInt64 &&& 63)))) o1 o2 hR hR2 hlt c1 c2
      rw [e2, bd2_some]
      have dn1 : ∀ p, dn (sJ S 26 r (S.2.1 26 r ||| ((1 : Int64) <<< ((nI b).toInt64 &&& 63)))) R p ↔ dn S R p ∨ p = 64 * r + b := by
        intro p
        have := dn_or (S := S) (R := R) (t := 64 * r + b) (by omega) p
        rw [hp64.1, hp64.2] at this
        exact this
      have dn2 : ∀ p, dn S2 R p ↔ dn S R p ∨ p = 64 * r + b := by
        intro p
        rw [← dn1 p]
        unfold dn
        rw [g2]
      have sn1 : ∀ p, sn (sJ S 26 r (S.2.1 26 r ||| ((1 : Int64) <<< ((nI b).toInt64 &&& 63)))) R p ↔ sn S R p := by
        intro p
        unfold sn
        rw [sJ_get, if_neg (by decide)]
      have sn2 : ∀ p, sn S2 R p ↔ sn S R p ∨ ∃ y, y < 4 ∧ p = stC N2 d1 d2 (64 * r + b) y := by
        intro p
        rw [g3 p, sn1 p]
      have hi2 : sInv R N2 d1 d2 acc1 acc2 S2 (v ||| (x ||| bitV (acc1 ((64 * r + b) / N2)) (acc2 ((64 * r + b) % N2)))) := by
        refine ⟨fun p hp => ?_, fun p hp => ?_, fun p y hy hp => ?_, ?_⟩
        · rcases (sn2 p).mp hp with z | ⟨y, hy, rfl⟩
          · exact hi.1 p z
          · exact rch_step o1 o2 hrch hy
        · rcases (dn2 p).mp hp with z | rfl
          · exact (sn2 p).mpr (Or.inl (hi.2.1 p z))
          · exact (sn2 _).mpr (Or.inl h.1)
        · rcases (dn2 p).mp hp with z | rfl
          · exact (sn2 _).mpr (Or.inl (hi.2.2.1 p y hy z))
          · exact (sn2 _).mpr (Or.inr ⟨y, hy, rfl⟩)
        · have := tv2_add (x := acc1 ((64 * r + b) / N2)) (y := acc2 ((64 * r + b) % N2)) hi.2.2.2
          rw [← Int32.or_assoc]
          refine tv2_cg this ?_ ?_
          · constructor
            · rintro (⟨p, a, c⟩ | c)
              · exact ⟨p, (dn2 p).mpr (Or.inl a), c⟩
              · exact ⟨_, (dn2 _).mpr (Or.inr rfl), c⟩
            · rintro ⟨p, a, c⟩
              rcases (dn2 p).mp a with z | rfl
              · exact Or.inl ⟨p, z, c⟩
              · exact Or.inr c
          · constructor
            · rintro (⟨p, a, c⟩ | c)
              · exact ⟨p, (dn2 p).mpr (Or.inl a), c⟩
              · exact ⟨_, (dn2 _).mpr (Or.inr rfl), c⟩
            · rintro ⟨p, a, c⟩
              rcases (dn2 p).mp a with z | rfl
              · exact Or.inl ⟨p, z, c⟩
              · exact Or.inr c
      have f2 : frJ S0 S2 := ⟨g1.1.trans hf.1, g1.2.trans hf.2⟩
      obtain ⟨S', x', e, q1, q2, q3, q4⟩ := ih (b + 1) f S2 _ f2 (by unfold autC at *; rw [g1.1]; exact c1) (by unfold autC at *; rw [g1.1]; exact c2) (by omega) (by omega) hi2
      refine ⟨S', x', e, q1, q2, fun p => ⟨fun hp => (q3 p).1 ((dn2 p).mpr (Or.inl hp)), fun hp => (q3 p).2 ((sn2 p).mpr (Or.inl hp))⟩, fun b' a c hs => ?_⟩
      rcases (show b = b' ∨ b + 1 ≤ b' by omega) with rfl | z
      · exact (q3 _).1 ((dn2 _).mpr (Or.inr rfl))
      · exact q4 b' z c ((sn2 _).mpr (Or.inl hs))
    · rw [if_pos (tst.mpr h)]
      obtain ⟨S', x', e, q1, q2, q3, q4⟩ := ih (b + 1) f S x hf c1 c2 (by omega) (by omega) hi
      refine ⟨S', x', e, q1, q2, q3, fun b' a c hs => ?_⟩
      rcases (show b = b' ∨ b + 1 ≤ b' by omega) with rfl | z
      · exact (q3 _).1 (Classical.byContradiction fun hn => h ⟨hs, hn⟩)
      · exact q4 b' z c hs
end SURP
