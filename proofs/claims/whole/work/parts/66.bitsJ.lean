theorem ts_nf {x : Bool} (h : ¬ x = false) : x = true := by cases x <;> first | rfl | exact absurd rfl h
theorem ts_nt {x : Bool} (h : ¬ x = true) : x = false := by cases x <;> first | rfl | exact absurd rfl h
theorem ts_bit {w : Int64} {s : UInt64} {j : Nat} (hj : j < 64) (hs : s.toNat = j) : ((w.toUInt64 >>> s).toInt64 &&& 1) = 0 ↔ w.toBitVec.getLsbD j = false := by
  have e : (w.toUInt64 >>> s).toInt64.toBitVec = w.toBitVec >>> j := by
    apply BitVec.eq_of_toNat_eq
    show (w.toUInt64 >>> s).toNat = _
    rw [UInt64.toNat_shiftRight, hs, Nat.mod_eq_of_lt hj, BitVec.toNat_ushiftRight]
    rfl
  rw [← Int64.toBitVec_inj, Int64.toBitVec_and, e]
  show w.toBitVec >>> j &&& 1#64 = 0#64 ↔ _
  constructor
  · intro h
    have t := congrArg (fun x => x.getLsbD 0) h
    simpa using t
  · intro h
    apply BitVec.eq_of_getLsbD_eq
    intro i hi
    cases i with
    | zero => simp [h]
    | succ i => simp
theorem wb_c : ∀ k, k < 64 → ((nI k).toInt64 &&& 63) = lN k := by decide +kernel
theorem wb_cu : ∀ k, k < 64 → ((nI k).toInt64.toUInt64 &&& Int64.toUInt64 63) = UInt64.ofNat k := by decide +kernel
theorem u_tn {n : Nat} (h : n < 2 ^ 64) : (UInt64.ofNat n).toNat = n := Nat.mod_eq_of_lt h
def bJ (v : Int64) (b : Nat) : Bool := v.toBitVec.getLsbD b
theorem one_shl : ∀ j, j < 64 → ((1 : Int64) <<< ((nI j).toInt64 &&& 63)).toBitVec = BitVec.twoPow 64 j := by decide +kernel
theorem bJ_or (v : Int64) {j : Nat} (hj : j < 64) (b : Nat) : bJ (v ||| ((1 : Int64) <<< ((nI j).toInt64 &&& 63))) b = (bJ v b || decide (b = j)) := by
  unfold bJ
  rw [Int64.toBitVec_or, BitVec.getLsbD_or, one_shl j hj, BitVec.getLsbD_twoPow]
  congr 1
  by_cases h : b = j
  · subst h; simp [hj]
  · rw [decide_eq_false h]
    simp
    intro _ z
    exact h z.symm
theorem m1J : (-1 : Int64).toBitVec = BitVec.allOnes 64 := by decide +kernel
theorem bJ_andn (v w : Int64) {b : Nat} (hb : b < 64) : bJ (v &&& (w ^^^ (-1 : Int64))) b = (bJ v b && !bJ w b) := by
  unfold bJ
  rw [Int64.toBitVec_and, BitVec.getLsbD_and, Int64.toBitVec_xor, BitVec.getLsbD_xor, m1J, BitVec.getLsbD_allOnes]
  simp [hb]
theorem lcm0 (x : Int64) : lg_cmp x 0 = 0 ↔ x = 0 := by
  unfold lg_cmp
  by_cases h1 : x > 0
  · rw [if_pos h1]
    refine ⟨fun h => absurd h (by decide), fun h => ?_⟩
    subst h
    exact absurd h1 (Int64.lt_irrefl)
  · rw [if_neg h1]
    by_cases h2 : x = 0
    · rw [if_pos h2]; exact ⟨fun _ => h2, fun _ => rfl⟩
    · rw [if_neg h2]; exact ⟨fun h => absurd h (by decide), fun h => absurd h h2⟩
theorem bJ_test (w : Int64) {j : Nat} (hj : j < 64) : lg_cmp ((w.toUInt64 >>> ((nI j).toInt64.toUInt64 &&& Int64.toUInt64 63)).toInt64 &&& 1) 0 = 0 ↔ bJ w j = false := by
  rw [lcm0]
  exact ts_bit hj (by rw [wb_cu j hj]; exact u_tn (by omega))
theorem bJ_zero (x : Int64) : lg_cmp x 0 = 0 ↔ ∀ b, b < 64 → bJ x b = false := by
  rw [lcm0]
  constructor
  · intro h b _
    subst h
    exact BitVec.getLsbD_zero
  · intro h
    apply Int64.toBitVec_inj.mp
    apply BitVec.eq_of_getLsbD_eq
    intro i hi
    rw [show (0 : Int64).toBitVec = 0#64 by decide +kernel, BitVec.getLsbD_zero]
    exact h i hi
theorem bJ_1 : ∀ b, bJ (1 : Int64) b = decide (b = 0) := by
  intro b
  rcases Nat.lt_or_ge b 64 with h | h
  · exact (by decide +kernel : ∀ b, b < 64 → bJ (1 : Int64) b = decide (b = 0)) b h
  · unfold bJ
    rw [BitVec.getLsbD_of_ge _ _ h]
    simp
    omega
theorem bJ_0 (b : Nat) : bJ (0 : Int64) b = false := by
  unfold bJ
  rw [show (0 : Int64).toBitVec = 0#64 by decide +kernel, BitVec.getLsbD_zero]
theorem k_64 : (64 : Int32) = nI 64 := by decide +kernel
theorem dm64 {a : Nat} (ha : a < 2 ^ 31) : nI a / (64 : Int32) = nI (a / 64) ∧ nI a - nI a / (64 : Int32) * (64 : Int32) = nI (a % 64) := by
  rw [k_64]
  exact ⟨pk_div ha (by decide) (by decide), pk_rem ha (by decide) (by decide)⟩
theorem nz64 {β : Type} (K : Option β) : nz (64 : Int32) K = K := nz_ok (by decide) K
/-- the sets of the class -/
def sn (S : Sg) (R p : Nat) : Prop := p < 64 * R ∧ bJ (S.2.1 25 (p / 64)) (p % 64) = true
def dn (S : Sg) (R p : Nat) : Prop := p < 64 * R ∧ bJ (S.2.1 26 (p / 64)) (p % 64) = true
theorem sn_or {S : Sg} {R t : Nat} (ht : t < 64 * R) (p : Nat) : sn (sJ S 25 (t / 64) (S.2.1 25 (t / 64) ||| ((1 : Int64) <<< ((nI (t % 64)).toInt64 &&& 63)))) R p ↔ sn S R p ∨ p = t := by
  unfold sn
  rw [sJ_get, if_pos rfl]
  by_cases h : p / 64 = t / 64
  · rw [if_pos h, bJ_or _ (by omega), h]
    constructor
    · rintro ⟨a, b⟩
      rcases Bool.or_eq_true _ _ |>.mp b with z | z
      · exact Or.inl ⟨a, z⟩
      · have := of_decide_eq_true z
        exact Or.inr (by omega)
    · rintro (⟨a, b⟩ | rfl)
      · exact ⟨a, by rw [b]; rfl⟩
      · exact ⟨ht, by simp⟩
  · rw [if_neg h]
    constructor
    · rintro ⟨a, b⟩
      exact Or.inl ⟨a, b⟩
    · rintro (z | rfl)
      · exact z
      · exact absurd rfl h
theorem dn_or {S : Sg} {R t : Nat} (ht : t < 64 * R) (p : Nat) : dn (sJ S 26 (t / 64) (S.2.1 26 (t / 64) ||| ((1 : Int64) <<< ((nI (t % 64)).toInt64 &&& 63)))) R p ↔ dn S R p ∨ p = t := by
  unfold dn
  rw [sJ_get, if_pos rfl]
  by_cases h : p / 64 = t / 64
  · rw [if_pos h, bJ_or _ (by omega), h]
    constructor
    · rintro ⟨a, b⟩
      rcases Bool.or_eq_true _ _ |>.mp b with z | z
      · exact Or.inl ⟨a, z⟩
      · have := of_decide_eq_true z
        exact Or.inr (by omega)
    · rintro (⟨a, b⟩ | rfl)
      · exact ⟨a, by rw [b]; rfl⟩
      · exact ⟨ht, by simp⟩
  · rw [if_neg h]
    constructor
    · rintro ⟨a, b⟩
      exact Or.inl ⟨a, b⟩
    · rintro (z | rfl)
      · exact z
      · exact absurd rfl h
section VISIT
variable {i1 i2 N1 N2 R : Nat} {d1 d2 : Nat → Nat → Nat} {acc1 acc2 : Nat → Bool}
def stC (N2 : Nat) (d1 d2 : Nat → Nat → Nat) (p x : Nat) : Nat := d1 (p / N2) x * N2 + d2 (p % N2) x
theorem stC_lt (o1 : autOk N1 d1) (o2 : autOk N2 d2) {p x : Nat} (hp : p < N1 * N2) (hx : x < 4) : stC N2 d1 d2 p x < N1 * N2 ∧ p / N2 < N1 ∧ p % N2 < N2 := by
  have a2 := o2.1
  have h1 : p / N2 < N1 := (Nat.div_lt_iff_lt_mul (by omega)).mpr hp
  have h2 : p % N2 < N2 := Nat.mod_lt _ (by omega)
  have e1 := o1.2.2 _ h1 x hx
  have e2 := o2.2.2 _ h2 x hx
  refine ⟨?_, h1, h2⟩
  unfold stC
  have : (d1 (p / N2) x + 1) * N2 ≤ N1 * N2 := Nat.mul_le_mul_right _ (by omega)
  rw [Nat.add_mul, Nat.one_mul] at this
  omega
def bitV (a b : Bool) : Int32 := if a = true ∧ b = false then 1 else if b = true ∧ a = false then 2 else 0
/-- the class keeps all but its two rows of bits -/
def frJ (S S' : Sg) : Prop := S'.1 = S.1 ∧ S'.2.2 = S.2.2
theorem mulN_le (o1 : autOk N1 d1) (o2 : autOk N2 d2) : N1 * N2 ≤ 22500 := Nat.mul_le_mul o1.2.1 o2.2.1
theorem vis_step {p : Nat} (o1 : autOk N1 d1) (o2 : autOk N2 d2) (hR : N1 * N2 ≤ 64 * R) (hR2 : R ≤ 352) (hp : p < N1 * N2) : ∀ (r x fl : Nat) (S : Sg), autC S i1 N1 d1 acc1 → autC S i2 N2 d2 acc2 → x + r = 4 → r + 1 ≤ fl → ∃ S', f_X2_visit_L25 fl i1 i2 (nI N2) (nI (p / N2)) (nI (p % N2)) (nI x) S = some (bitV (acc1 (p / N2)) (acc2 (p % N2)), S') ∧ frJ S S' ∧ S'.2.1 26 = S.2.1 26 ∧ ∀ t, sn S' R t ↔ sn S R t ∨ ∃ y, x ≤ y ∧ y < 4 ∧ t = stC N2 d1 d2 p y := by
  have b1 := o1.2.1
  have b2 := o2.2.1
  have hm := mulN_le o1 o2
  intro r
  induction r with
  | zero =>
    intro x fl S c1 c2 hx hfl
    obtain ⟨f, rfl⟩ : ∃ f, fl = f + 1 := ⟨fl - 1, by omega⟩
    have hx4 : x = 4 := by omega
    subst hx4
    obtain ⟨-, l1, l2⟩ := stC_lt (x := 0) o1 o2 hp (by omega)
    refine ⟨S, ?_, ⟨rfl, rfl⟩, rfl, fun t => ⟨Or.inl, fun h => h.elim id (fun ⟨y, a, b, _⟩ => absurd b (by omega))⟩⟩
    rw [f_X2_visit_L25, if_pos (by decide +kernel), ck_nI (by omega) (by decide), ck_nI (by omega) (by decide), nI_clamp (by omega), nI_clamp (by omega), c1.2.2 _ l1, c2.2.2 _ l2]
    unfold bitV
    cases acc1 (p / N2) <;> cases acc2 (p % N2) <;> simp [bI, ck_nI (show p / N2 < 150 by omega) (by decide : 150 < 2 ^ 31)]
  | succ r ih =>
    intro x fl S c1 c2 hx hfl
    obtain ⟨f, rfl⟩ : ∃ f, fl = f + 1 := ⟨fl - 1, by omega⟩
    obtain ⟨l0, l1, l2⟩ := stC_lt (x := x) o1 o2 hp (by omega)
    have hdm := dm64 (a := stC N2 d1 d2 p x) (by omega)
    obtain ⟨S', e, g1, g2, g3⟩ := ih (x + 1) f (sJ S 25 (stC N2 d1 d2 p x / 64) (S.2.1 25 (stC N2 d1 d2 p x / 64) ||| ((1 : Int64) <<< ((nI (stC N2 d1 d2 p x % 64)).toInt64 &&& 63)))) c1 c2 (by omega) (by omega)
    refine ⟨S', ?_, g1, g2.trans ?_, fun t => ?_⟩
    · rw [f_X2_visit_L25, if_neg (by rw [k_4, nI_leI (by omega) (by omega)]; omega), ixC4, ixC4, ck_nI (by omega) (by decide), ck_nI (by omega) (by decide), nI_clamp (by omega), nI_clamp (by omega), c1.2.1 _ l1 x (by omega), c2.2.1 _ l2 x (by omega), pk_mul, nI_add]
      show vl (nI (stC N2 d1 d2 p x)) _ = _
      rw [vl_d, nz64, hdm.2, hdm.1, ck_nI (by omega) (by decide), nz64, ck_nI (by omega) (by decide), nI_clamp (by omega), vl_d, vl_d, nI_1]
      exact e
    · funext b
      rw [sJ_get, if_neg (by decide)]
    · rw [g3 t, sn_or (by omega)]
      constructor
      · rintro ((a | rfl) | ⟨y, a, b, c⟩)
        · exact Or.inl a
        · exact Or.inr ⟨x, Nat.le_refl _, by omega, rfl⟩
        · exact Or.inr ⟨y, by omega, b, c⟩
      · rintro (a | ⟨y, a, b, c⟩)
        · exact Or.inl (Or.inl a)
        · rcases (show x = y ∨ x + 1 ≤ y by omega) with rfl | z
          · exact Or.inl (Or.inr c)
          · exact Or.inr ⟨y, z, b, c⟩
theorem visit_eq {p : Nat} {S : Sg} (o1 : autOk N1 d1) (o2 : autOk N2 d2) (hR : N1 * N2 ≤ 64 * R) (hR2 : R ≤ 352) (hp : p < N1 * N2) (c1 : autC S i1 N1 d1 acc1) (c2 : autC S i2 N2 d2 acc2) : ∃ S', f_X2_visit i1 i2 (nI p) S = some (bitV (acc1 (p / N2)) (acc2 (p % N2)), S') ∧ frJ S S' ∧ S'.2.1 26 = S.2.1 26 ∧ ∀ t, sn S' R t ↔ sn S R t ∨ ∃ y, y < 4 ∧ t = stC N2 d1 d2 p y := by
  have a2 := o2.1
  have b2 := o2.2.1
  have hm := mulN_le o1 o2
  obtain ⟨S', e, g1, g2, g3⟩ := vis_step o1 o2 hR hR2 hp 4 0 fu S c1 c2 (by omega) (by unfold fu; omega)
  refine ⟨S', ?_, g1, g2, fun t => by rw [g3 t]; constructor <;> (rintro (a | ⟨y, a⟩); exact Or.inl a; exact Or.inr ⟨y, by first | exact ⟨Nat.zero_le _, a⟩ | exact a.2⟩)⟩
  unfold f_X2_visit
  rw [c2.1]
  have hw : (if (1 : Int32) < nI N2 then nI N2 else 1) = nI N2 := by
    by_cases h : (1 : Int32) < nI N2
    · rw [if_pos h]
    · rw [if_neg h]
      rw [k_1, nI_ltI (by omega) (by omega)] at h
      have : N2 = 1 := by omega
      subst this
      exact k_1
  have hz : ¬ nI N2 = 0 := by rw [k_0, nI_eq (by omega) (by omega)]; omega
  rw [hw, vl_d, nz_ok hz, vl_d, nz_ok hz, vl_d, vl_d, pk_div (by omega) (by omega) (by omega), pk_mul, k_0]
  have hr := pk_rem (a := p) (d := N2) (by omega) (by omega) (by omega)
  rw [pk_div (by omega) (by omega) (by omega), pk_mul] at hr
  rw [hr]
  exact e
end VISIT
