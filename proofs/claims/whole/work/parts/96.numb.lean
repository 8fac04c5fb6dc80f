def lsF (p : Nat → Bool) : Nat → Nat → Nat
  | 0, j => j
  | r + 1, j => if p j = true then j else lsF p r (j + 1)
theorem lsF_spec (p : Nat → Bool) : ∀ r j, j ≤ lsF p r j ∧ lsF p r j ≤ j + r ∧ (p (lsF p r j) = true ∨ lsF p r j = j + r) ∧ ∀ i, j ≤ i → i < lsF p r j → p i = false := by
  intro r
  induction r with
  | zero => intro j; exact ⟨Nat.le_refl _, Nat.le_refl _, Or.inr rfl, fun i h1 h2 => absurd h2 (by show ¬ i < j; omega)⟩
  | succ r ih =>
    intro j
    show j ≤ (if p j = true then j else lsF p r (j + 1)) ∧ (if p j = true then j else lsF p r (j + 1)) ≤ j + (r + 1) ∧ (p (if p j = true then j else lsF p r (j + 1)) = true ∨ (if p j = true then j else lsF p r (j + 1)) = j + (r + 1)) ∧ ∀ i, j ≤ i → i < (if p j = true then j else lsF p r (j + 1)) → p i = false
    by_cases h : p j = true
    · rw [if_pos h]
      exact ⟨Nat.le_refl _, by omega, Or.inl h, fun i h1 h2 => absurd h2 (by omega)⟩
    · rw [if_neg h]
      obtain ⟨a, b, c, d⟩ := ih (j + 1)
      refine ⟨by omega, by omega, ?_, fun i h1 h2 => ?_⟩
      · rcases c with c | c
        · exact Or.inl c
        · exact Or.inr (by omega)
      · by_cases e : i = j
        · subst e
          cases hh : p i with
          | true => exact absurd hh h
          | false => rfl
        · exact d i (by omega) h2
abbrev Key : Type := Nat × Nat × Nat × Nat × Nat
def ld (f : Nat → Key) (k : Nat) : Nat := lsF (fun j => decide (f j = f k)) k 0
theorem ld_spec (f : Nat → Key) (k : Nat) : ld f k ≤ k ∧ f (ld f k) = f k ∧ ∀ i, i < ld f k → f i ≠ f k := by
  obtain ⟨a, b, c, d⟩ := lsF_spec (fun j => decide (f j = f k)) k 0
  refine ⟨by have := b; unfold ld; omega, ?_, fun i hi => ?_⟩
  · rcases c with c | c
    · exact of_decide_eq_true c
    · have : ld f k = k := by unfold ld; omega
      rw [this]
  · exact of_decide_eq_false (d i (by omega) hi)
theorem ld_eq {f : Nat → Key} {j k : Nat} : ld f j = ld f k ↔ f j = f k := by
  obtain ⟨-, a2, a3⟩ := ld_spec f j
  obtain ⟨-, b2, b3⟩ := ld_spec f k
  constructor
  · intro h; rw [← a2, h, b2]
  · intro h
    rcases Nat.lt_trichotomy (ld f j) (ld f k) with z | z | z
    · exact absurd (by rw [a2, h]) (b3 _ z)
    · exact z
    · exact absurd (by rw [b2, h]) (a3 _ z)
theorem ld_ld (f : Nat → Key) (k : Nat) : ld f (ld f k) = ld f k := ld_eq.mpr (ld_spec f k).2.1
def ct (f : Nat → Key) : Nat → Nat
  | 0 => 0
  | n + 1 => ct f n + (if ld f n = n then 1 else 0)
theorem ct_s (f : Nat → Key) (n : Nat) : ct f (n + 1) = ct f n + (if ld f n = n then 1 else 0) := rfl
theorem ct_mono (f : Nat → Key) : ∀ r n, ct f n ≤ ct f (n + r) := by
  intro r
  induction r with
  | zero => intro n; exact Nat.le_refl _
  | succ r ih =>
    intro n
    have := ih n
    have h : ct f (n + (r + 1)) = ct f (n + r) + (if ld f (n + r) = n + r then 1 else 0) := rfl
    omega
theorem ct_lt {f : Nat → Key} {a b : Nat} (ha : ld f a = a) (h : a < b) : ct f a < ct f b := by
  have h1 := ct_mono f (b - (a + 1)) (a + 1)
  rw [show a + 1 + (b - (a + 1)) = b by omega] at h1
  have h2 := ct_s f a
  rw [if_pos ha] at h2
  omega
theorem ct_le (f : Nat → Key) : ∀ n, ct f n ≤ n := by
  intro n
  induction n with
  | zero => exact Nat.le_refl _
  | succ n ih =>
    have := ct_s f n
    by_cases h : ld f n = n
    · rw [if_pos h] at this; omega
    · rw [if_neg h] at this; omega
def nc (f : Nat → Key) (k : Nat) : Nat := ct f (ld f k)
theorem nc_eq {f : Nat → Key} {j k : Nat} : nc f j = nc f k ↔ f j = f k := by
  unfold nc
  constructor
  · intro h
    rcases Nat.lt_trichotomy (ld f j) (ld f k) with z | z | z
    · have := ct_lt (ld_ld f j) z; omega
    · exact ld_eq.mp z
    · have := ct_lt (ld_ld f k) z; omega
  · intro h; rw [ld_eq.mpr h]
theorem nc_lt {f : Nat → Key} {k N : Nat} (h : k < N) : nc f k < ct f N := ct_lt (ld_ld f k) (Nat.lt_of_le_of_lt (ld_spec f k).1 h)
theorem ct_pos {f : Nat → Key} {N : Nat} (h : 1 ≤ N) : 1 ≤ ct f N := by
  have := nc_lt (f := f) (k := 0) (N := N) (by omega)
  omega
theorem ld_cg {f g : Nat → Key} {N k : Nat} (h : ∀ j, j < N → f j = g j) (hk : k < N) : ld f k = ld g k := by
  obtain ⟨a1, a2, a3⟩ := ld_spec f k
  obtain ⟨b1, b2, b3⟩ := ld_spec g k
  rcases Nat.lt_trichotomy (ld f k) (ld g k) with z | z | z
  · exact absurd (by rw [← h _ (by omega), a2, h k hk]) (b3 _ z)
  · exact z
  · exact absurd (by rw [h _ (by omega), b2, h k hk]) (a3 _ z)
theorem ct_cg {f g : Nat → Key} {N : Nat} (h : ∀ j, j < N → f j = g j) : ∀ n, n ≤ N → ct f n = ct g n := by
  intro n
  induction n with
  | zero => intro _; rfl
  | succ n ih =>
    intro hn
    rw [ct_s, ct_s, ih (by omega), ld_cg h (by omega)]
theorem nc_cg {f g : Nat → Key} {N k : Nat} (h : ∀ j, j < N → f j = g j) (hk : k < N) : nc f k = nc g k := by
  unfold nc
  rw [ld_cg h hk]
  exact ct_cg h _ (by have := (ld_spec g k).1; omega)
/-- a finer key -/
theorem fine_ld {f g : Nat → Key} (h : ∀ j k, g j = g k → f j = f k) {i : Nat} (hi : ld f i = i) : ld g i = i := by
  obtain ⟨a1, a2, -⟩ := ld_spec g i
  obtain ⟨-, -, b3⟩ := ld_spec f i
  rcases Nat.lt_or_ge (ld g i) i with z | z
  · exact absurd (h _ _ a2) (b3 _ (by rw [hi]; exact z))
  · omega
theorem fine_ct {f g : Nat → Key} (h : ∀ j k, g j = g k → f j = f k) : ∀ r n, ct f (n + r) + ct g n ≤ ct g (n + r) + ct f n := by
  intro r
  induction r with
  | zero => intro n; rw [Nat.add_zero]; omega
  | succ r ih =>
    intro n
    have h1 := ih n
    have e1 : ct f (n + (r + 1)) = ct f (n + r) + (if ld f (n + r) = n + r then 1 else 0) := rfl
    have e2 : ct g (n + (r + 1)) = ct g (n + r) + (if ld g (n + r) = n + r then 1 else 0) := rfl
    by_cases z : ld f (n + r) = n + r
    · rw [if_pos z] at e1
      rw [if_pos (fine_ld h z)] at e2
      omega
    · rw [if_neg z] at e1
      by_cases z2 : ld g (n + r) = n + r
      · rw [if_pos z2] at e2; omega
      · rw [if_neg z2] at e2; omega
theorem fine_le {f g : Nat → Key} (h : ∀ j k, g j = g k → f j = f k) (n : Nat) : ct f n ≤ ct g n := by
  have := fine_ct h n 0
  rw [Nat.zero_add] at this
  have e1 : ct g 0 = 0 := rfl
  have e2 : ct f 0 = 0 := rfl
  omega
theorem fine_nc {f g : Nat → Key} (h : ∀ j k, g j = g k → f j = f k) {N : Nat} (he : ct f N = ct g N) {k : Nat} (hk : k < N) : nc g k = nc f k := by
  have all : ∀ n, n ≤ N → ct f n = ct g n := by
    intro n hn
    have h1 := fine_ct h (N - n) n
    rw [show n + (N - n) = N by omega] at h1
    have h2 := fine_le h n
    omega
  have lead : ∀ i, i < N → ld g i = i → ld f i = i := by
    intro i hi hg
    have a1 := all i (by omega)
    have a2 := all (i + 1) (by omega)
    rw [ct_s, ct_s, if_pos hg] at a2
    by_cases z : ld f i = i
    · exact z
    · rw [if_neg z] at a2; omega
  obtain ⟨b1, b2, -⟩ := ld_spec g k
  have e : ld f k = ld g k := by
    have e1 := lead (ld g k) (by omega) (ld_ld g k)
    rw [← ld_eq.mpr (h _ _ b2), e1]
  unfold nc
  rw [e]
  exact (all _ (by omega)).symm
def keyN (d : Nat → Nat → Nat) (c : Nat → Nat) (k : Nat) : Key := (c k, c (d k 0), c (d k 1), c (d k 2), c (d k 3))
def key0 (acc : Nat → Bool) (k : Nat) : Key := ((acc k).toNat, 0, 0, 0, 0)
def fs (d : Nat → Nat → Nat) (acc : Nat → Bool) : Nat → Nat → Key
  | 0 => key0 acc
  | i + 1 => keyN d (nc (fs d acc i))
theorem fs_fine (d : Nat → Nat → Nat) (acc : Nat → Bool) (i : Nat) : ∀ j k, fs d acc (i + 1) j = fs d acc (i + 1) k → fs d acc i j = fs d acc i k := by
  intro j k h
  have h' : keyN d (nc (fs d acc i)) j = keyN d (nc (fs d acc i)) k := h
  have : nc (fs d acc i) j = nc (fs d acc i) k := congrArg Prod.fst h'
  exact nc_eq.mp this
theorem fs_keep {d : Nat → Nat → Nat} {acc : Nat → Bool} {N i : Nat} (hd : ∀ k, k < N → ∀ x, x < 4 → d k x < N) (h : ct (fs d acc i) N = ct (fs d acc (i + 1)) N) : ∀ r, (∀ k, k < N → nc (fs d acc (i + r)) k = nc (fs d acc i) k) ∧ ct (fs d acc (i + r)) N = ct (fs d acc i) N := by
  intro r
  induction r with
  | zero => exact ⟨fun _ _ => rfl, rfl⟩
  | succ r ih =>
    have c1 : ∀ k, k < N → nc (fs d acc (i + 1)) k = nc (fs d acc i) k := fun k hk => fine_nc (fs_fine d acc i) h hk
    have key : ∀ k, k < N → fs d acc (i + (r + 1)) k = fs d acc (i + 1) k := by
      intro k hk
      show keyN d (nc (fs d acc (i + r))) k = keyN d (nc (fs d acc i)) k
      unfold keyN
      rw [ih.1 k hk, ih.1 _ (hd k hk 0 (by omega)), ih.1 _ (hd k hk 1 (by omega)), ih.1 _ (hd k hk 2 (by omega)), ih.1 _ (hd k hk 3 (by omega))]
    exact ⟨fun k hk => by rw [nc_cg key hk, c1 k hk], by rw [ct_cg key N (Nat.le_refl _), ← h]⟩
/-- two places at which nothing more divides are alike -/
theorem fs_same {d : Nat → Nat → Nat} {acc : Nat → Bool} {N i j : Nat} (hd : ∀ k, k < N → ∀ x, x < 4 → d k x < N) (hi : ct (fs d acc i) N = ct (fs d acc (i + 1)) N) (hj : ct (fs d acc j) N = ct (fs d acc (j + 1)) N) : (∀ k, k < N → nc (fs d acc (i + 1)) k = nc (fs d acc (j + 1)) k) ∧ ct (fs d acc (i + 1)) N = ct (fs d acc (j + 1)) N := by
  have a := fs_keep hd hi (1 + j)
  have a1 := fs_keep hd hi 1
  have b := fs_keep hd hj (1 + i)
  have b1 := fs_keep hd hj 1
  rw [show i + (1 + j) = i + j + 1 by omega] at a
  rw [show j + (1 + i) = i + j + 1 by omega] at b
  exact ⟨fun k hk => by rw [a1.1 k hk, ← a.1 k hk, b.1 k hk, ← b1.1 k hk], by rw [a1.2, ← a.2, b.2, ← b1.2]⟩
theorem nc_0 (acc : Nat → Bool) : ∀ k, nc (key0 acc) k = if acc k = acc 0 then 0 else 1 := by
  intro k
  have l0 : ld (key0 acc) 0 = 0 := by have := (ld_spec (key0 acc) 0).1; omega
  have keq : ∀ a b, key0 acc a = key0 acc b ↔ acc a = acc b := by
    intro a b
    unfold key0
    constructor
    · intro h
      have h1 : (acc a).toNat = (acc b).toNat := congrArg Prod.fst h
      cases ha : acc a <;> cases hb : acc b <;> rw [ha, hb] at h1 <;> first | rfl | exact absurd h1 (by decide)
    · intro h; rw [h]
  by_cases h : acc k = acc 0
  · rw [if_pos h]
    unfold nc
    rw [ld_eq.mpr ((keq k 0).mpr h), l0]
    rfl
  · rw [if_neg h]
    have hk := ld_spec (key0 acc) k
    have hl : ∀ r, r + 1 ≤ ld (key0 acc) k → ct (key0 acc) (r + 1) = 1 := by
      intro r
      induction r with
      | zero => intro _; rw [ct_s, if_pos l0]; rfl
      | succ r ih =>
        intro hr
        rw [ct_s, ih (by omega)]
        have hn : acc (r + 1) = acc 0 := by
          have z := hk.2.2 (r + 1) (by omega)
          have z2 : ¬ acc (r + 1) = acc k := fun q => z ((keq _ _).mpr q)
          cases h1 : acc (r + 1) <;> cases h2 : acc k <;> cases h3 : acc 0 <;> rw [h1, h2] at z2 <;> rw [h2, h3] at h <;> first | rfl | exact absurd rfl z2 | exact absurd rfl h
        have : ld (key0 acc) (r + 1) = 0 := by rw [ld_eq.mpr ((keq _ _).mpr hn), l0]
        rw [this, if_neg (by omega)]
    have hpos : 1 ≤ ld (key0 acc) k := by
      rcases Nat.eq_zero_or_pos (ld (key0 acc) k) with z | z
      · have q := hk.2.1
        rw [z] at q
        exact absurd ((keq _ _).mp q).symm h
      · exact z
    unfold nc
    have := hl (ld (key0 acc) k - 1) (by omega)
    rw [show ld (key0 acc) k - 1 + 1 = ld (key0 acc) k by omega] at this
    exact this
