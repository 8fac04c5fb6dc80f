def cb (p : Nat → Bool) : Nat → Nat
  | 0 => 0
  | n + 1 => cb p n + (p n).toNat
theorem cb_le (p : Nat → Bool) : ∀ n, cb p n ≤ n := by
  intro n
  induction n with
  | zero => exact Nat.le_refl _
  | succ n ih =>
    show cb p n + (p n).toNat ≤ n + 1
    have : (p n).toNat ≤ 1 := by cases p n <;> decide
    omega
theorem cb_mono {p q : Nat → Bool} (h : ∀ i, p i = true → q i = true) : ∀ n, cb p n ≤ cb q n := by
  intro n
  induction n with
  | zero => exact Nat.le_refl _
  | succ n ih =>
    show cb p n + (p n).toNat ≤ cb q n + (q n).toNat
    cases hp : p n with
    | false => rw [show Bool.toNat false = 0 from rfl]; omega
    | true => rw [h n hp]; omega
theorem cb_lt {p q : Nat → Bool} (h : ∀ i, p i = true → q i = true) : ∀ n i, i < n → p i = false → q i = true → cb p n < cb q n := by
  intro n
  induction n with
  | zero => intro i hi; omega
  | succ n ih =>
    intro i hi h1 h2
    show cb p n + (p n).toNat < cb q n + (q n).toNat
    by_cases e : i = n
    · subst e
      have := cb_mono h i
      rw [h1, h2, show Bool.toNat false = 0 from rfl, show Bool.toNat true = 1 from rfl]
      omega
    · have := ih i (by omega) h1 h2
      cases hp : p n with
      | false => rw [show Bool.toNat false = 0 from rfl]; omega
      | true => rw [h n hp]; omega
def deadK (d : Nat → Nat → Nat) (acc : Nat → Bool) (k : Nat) : Prop := ∀ w, let4 w → acc (runA d k w) = false
def FinK (d : Nat → Nat → Nat) (acc : Nat → Bool) (k : Nat) : Prop := ∃ B : Nat, ∀ w, let4 w → acc (runA d k w) = true → w.length < B
/-- what the classes are good for -/
def cong (N : Nat) (d : Nat → Nat → Nat) (acc : Nat → Bool) (c : Nat → Nat) : Prop := (∀ j k, j < N → k < N → c j = c k → acc j = acc k ∧ ∀ x, x < 4 → c (d j x) = c (d k x)) ∧ ∀ j k, deadK d acc j → deadK d acc k → c j = c k
section FIN
variable {m N n : Nat} {d : Nat → Nat → Nat} {acc : Nat → Bool} {c : Nat → Nat}
theorem dead_step {k x : Nat} (hx : x < 4) (h : deadK d acc k) : deadK d acc (d k x) := fun w hw => h (x :: w) (fun y hy => by
  rcases List.mem_cons.mp hy with z | z
  · rw [z]; exact hx
  · exact hw y z)
theorem fs_acc : ∀ i j k, fs d acc i j = fs d acc i k → acc j = acc k := by
  intro i
  induction i with
  | zero =>
    intro j k h
    have h1 : (acc j).toNat = (acc k).toNat := congrArg Prod.fst h
    cases ha : acc j <;> cases hb : acc k <;> rw [ha, hb] at h1 <;> first | rfl | exact absurd h1 (by decide)
  | succ i ih => intro j k h; exact ih j k (fs_fine d acc i j k h)
theorem fs_dead : ∀ i j k, deadK d acc j → deadK d acc k → fs d acc i j = fs d acc i k := by
  intro i
  induction i with
  | zero =>
    intro j k hj hk
    show key0 acc j = key0 acc k
    unfold key0
    rw [show acc j = false from hj [] (fun x hx => absurd hx (by simp)), show acc k = false from hk [] (fun x hx => absurd hx (by simp))]
  | succ i ih =>
    intro j k hj hk
    show keyN d (nc (fs d acc i)) j = keyN d (nc (fs d acc i)) k
    unfold keyN
    rw [nc_eq.mpr (ih j k hj hk), nc_eq.mpr (ih _ _ (dead_step (x := 0) (by omega) hj) (dead_step (x := 0) (by omega) hk)), nc_eq.mpr (ih _ _ (dead_step (x := 1) (by omega) hj) (dead_step (x := 1) (by omega) hk)), nc_eq.mpr (ih _ _ (dead_step (x := 2) (by omega) hj) (dead_step (x := 2) (by omega) hk)), nc_eq.mpr (ih _ _ (dead_step (x := 3) (by omega) hj) (dead_step (x := 3) (by omega) hk))]
theorem fs_cong {i : Nat} (ok : autOk N d) (hi : ct (fs d acc i) N = ct (fs d acc (i + 1)) N) : cong N d acc (nc (fs d acc (i + 1))) := by
  refine ⟨fun j k hj hk h => ?_, fun j k hj hk => nc_eq.mpr (fs_dead _ j k hj hk)⟩
  have h1 := nc_eq.mp h
  refine ⟨fs_acc _ j k h1, fun x hx => ?_⟩
  have h2 := ((keyN_eq d (nc (fs d acc i)) j k).mp h1).2 x hx
  have e := fs_keep ok.2.2 hi 1
  rw [e.1 _ (ok.2.2 j hj x hx), e.1 _ (ok.2.2 k hk x hx)]
  exact h2.symm
theorem cong_run (ok : autOk N d) (h : cong N d acc c) : ∀ (w : List Nat) (j k : Nat), j < N → k < N → c j = c k → let4 w → c (runA d j w) = c (runA d k w) ∧ acc (runA d j w) = acc (runA d k w) := by
  intro w
  induction w with
  | nil => intro j k hj hk he _; exact ⟨he, (h.1 j k hj hk he).1⟩
  | cons x w ih =>
    intro j k hj hk he hw
    have hx : x < 4 := hw x (by simp)
    exact ih _ _ (ok.2.2 j hj x hx) (ok.2.2 k hk x hx) ((h.1 j k hj hk he).2 x hx) (fun y hy => hw y (by simp [hy]))
theorem fin_cong (ok : autOk N d) (h : cong N d acc c) {j k : Nat} (hj : j < N) (hk : k < N) (he : c j = c k) (hf : FinK d acc j) : FinK d acc k := by
  obtain ⟨B, hB⟩ := hf
  exact ⟨B, fun w hw ha => hB w hw (by rw [(cong_run ok h w j k hj hk he hw).2]; exact ha)⟩
theorem dead_fin {k : Nat} (h : deadK d acc k) : FinK d acc k := ⟨0, fun w hw ha => by rw [h w hw] at ha; exact absurd ha (by decide)⟩
theorem succ_fin {k : Nat} (h : ∀ x, x < 4 → FinK d acc (d k x)) : FinK d acc k := by
  obtain ⟨B0, h0⟩ := h 0 (by omega)
  obtain ⟨B1, h1⟩ := h 1 (by omega)
  obtain ⟨B2, h2⟩ := h 2 (by omega)
  obtain ⟨B3, h3⟩ := h 3 (by omega)
  refine ⟨B0 + B1 + B2 + B3 + 1, fun w hw ha => ?_⟩
  cases w with
  | nil => show 0 < _; omega
  | cons x w =>
    have hx : x < 4 := hw x (by simp)
    have hw' : let4 w := fun y hy => hw y (by simp [hy])
    show w.length + 1 < _
    rcases (show x = 0 ∨ x = 1 ∨ x = 2 ∨ x = 3 by omega) with rfl | rfl | rfl | rfl
    · have := h0 w hw' ha; omega
    · have := h1 w hw' ha; omega
    · have := h2 w hw' ha; omega
    · have := h3 w hw' ha; omega
abbrev MN (d : Nat → Nat → Nat) (acc : Nat → Bool) (c : Nat → Nat) (k : Nat) : Prop := (∀ x, x < 4 → c (d k x) = c k) ∧ acc k = false
theorem MN_dead (ok : autOk N d) (h : cong N d acc c) {k : Nat} (hk : k < N) : MN d acc c k ↔ deadK d acc k := by
  constructor
  · intro hm w hw
    have gen : ∀ (w : List Nat) (q : Nat), q < N → c q = c k → let4 w → acc (runA d q w) = false := by
      intro w
      induction w with
      | nil => intro q hq he _; show acc q = false; rw [(h.1 q k hq hk he).1]; exact hm.2
      | cons x w ih =>
        intro q hq he hw
        have hx : x < 4 := hw x (by simp)
        exact ih _ (ok.2.2 q hq x hx) (by rw [(h.1 q k hq hk he).2 x hx, hm.1 x hx]) (fun y hy => hw y (by simp [hy]))
    exact gen w k hk rfl hw
  · intro hd
    exact ⟨fun x hx => h.2 _ _ (dead_step hx hd) hd, hd [] (fun x hx => absurd hx (by simp))⟩
theorem mnC {S : Sg} {k : Nat} (ok : autOk N d) (h : autC S m N d acc) (hc : ∀ k, k < N → S.1 (m + 5) k = nI (c k) ∧ c k < 150) (hk : k < N) : (f_X3_meansNothing m (nI k) S = some (1, S) ∧ MN d acc c k) ∨ (f_X3_meansNothing m (nI k) S = some (0, S) ∧ ¬ MN d acc c k) := by
  have hN := ok.2.1
  have loop : ∀ r x fl, x + r = 4 → r + 1 ≤ fl → (∀ y, y < x → c (d k y) = c k) → (f_X3_meansNothing_L2 fl m (nI k) (nI x) S = some (1, S) ∧ MN d acc c k) ∨ (f_X3_meansNothing_L2 fl m (nI k) (nI x) S = some (0, S) ∧ ¬ MN d acc c k) := by
    intro r
    induction r with
    | zero =>
      intro x fl hx hfl hy
      obtain ⟨f, rfl⟩ : ∃ f, fl = f + 1 := ⟨fl - 1, by omega⟩
      rw [f_X3_meansNothing_L2, k_4, if_pos (by rw [nI_leI (by omega) (by omega)]; omega), ck_nI (by omega) (by decide), nI_clamp (by omega), h.2.2 k hk]
      cases ha : acc k with
      | false => rw [if_pos (show bI false = 0 by decide)]; exact Or.inl ⟨rfl, fun y hy2 => hy y (by omega), ha⟩
      | true => rw [if_neg (show ¬ bI true = 0 by decide)]; exact Or.inr ⟨rfl, fun z => by rw [z.2] at ha; exact absurd ha (by decide)⟩
    | succ r ih =>
      intro x fl hx hfl hy
      obtain ⟨f, rfl⟩ : ∃ f, fl = f + 1 := ⟨fl - 1, by omega⟩
      have a1 := ok.2.2 k hk x (by omega)
      have b1 := (hc _ a1).2
      have b2 := (hc k hk).2
      rw [f_X3_meansNothing_L2, k_4, if_neg (by rw [nI_leI (by omega) (by omega)]; omega), ← k_4, ixC4, ck_nI (by omega) (by decide), nI_clamp (by omega), h.2.1 k hk x (by omega), ck_nI (by omega) (by decide), ck_nI (by omega) (by decide), nI_clamp (by omega), nI_clamp (by omega), (hc _ a1).1, (hc k hk).1]
      by_cases e : c (d k x) = c k
      · rw [if_pos (by rw [e]), nI_1, vl_d]
        refine ih (x + 1) f (by omega) (by omega) (fun y hy2 => ?_)
        by_cases e2 : y = x
        · subst e2; exact e
        · exact hy y (by omega)
      · rw [if_neg (by rw [nI_eq (by omega) (by omega)]; exact e)]
        exact Or.inr ⟨rfl, fun z => e (z.1 x (by omega))⟩
  unfold f_X3_meansNothing
  rw [vl_d]
  exact loop 4 0 fu (by omega) (by unfold fu; omega) (fun y hy => absurd hy (by omega))
abbrev GE (d : Nat → Nat → Nat) (c : Nat → Nat) (en : Nat → Bool) (k : Nat) : Prop := ∀ x, x < 4 → en (c (d k x)) = true
theorem geC {S : Sg} {k : Nat} {en : Nat → Bool} (ok : autOk N d) (h : autC S m N d acc) (hc : ∀ k, k < N → S.1 (m + 5) k = nI (c k) ∧ c k < 150 ∧ c k < n) (he : ∀ i, i < n → S.1 21 i = bI (en i)) (hk : k < N) : (f_X3_goesToEndedOnly m (nI k) S = some (1, S) ∧ GE d c en k) ∨ (f_X3_goesToEndedOnly m (nI k) S = some (0, S) ∧ ¬ GE d c en k) := by
  have hN := ok.2.1
  have loop : ∀ r x fl, x + r = 4 → r + 1 ≤ fl → (∀ y, y < x → en (c (d k y)) = true) → (f_X3_goesToEndedOnly_L2 fl m (nI k) (nI x) S = some (1, S) ∧ GE d c en k) ∨ (f_X3_goesToEndedOnly_L2 fl m (nI k) (nI x) S = some (0, S) ∧ ¬ GE d c en k) := by
    intro r
    induction r with
    | zero =>
      intro x fl hx hfl hy
      obtain ⟨f, rfl⟩ : ∃ f, fl = f + 1 := ⟨fl - 1, by omega⟩
      rw [f_X3_goesToEndedOnly_L2, k_4, if_pos (by rw [nI_leI (by omega) (by omega)]; omega)]
      exact Or.inl ⟨rfl, fun y hy2 => hy y (by omega)⟩
    | succ r ih =>
      intro x fl hx hfl hy
      obtain ⟨f, rfl⟩ : ∃ f, fl = f + 1 := ⟨fl - 1, by omega⟩
      have a1 := ok.2.2 k hk x (by omega)
      obtain ⟨b1, b2, b3⟩ := hc _ a1
      rw [f_X3_goesToEndedOnly_L2, k_4, if_neg (by rw [nI_leI (by omega) (by omega)]; omega), ← k_4, ixC4, ck_nI (by omega) (by decide), nI_clamp (by omega), h.2.1 k hk x (by omega), ck_nI (by omega) (by decide), nI_clamp (by omega), b1, ck_nI (by omega) (by decide), nI_clamp (by omega), he _ b3]
      cases e : en (c (d k x)) with
      | false => rw [if_pos (show bI false = 0 by decide)]; exact Or.inr ⟨rfl, fun z => by rw [z x (by omega)] at e; exact absurd e (by decide)⟩
      | true =>
        rw [if_neg (show ¬ bI true = 0 by decide), nI_1, vl_d]
        refine ih (x + 1) f (by omega) (by omega) (fun y hy2 => ?_)
        by_cases e2 : y = x
        · subst e2; exact e
        · exact hy y (by omega)
  unfold f_X3_goesToEndedOnly
  rw [vl_d]
  exact loop 4 0 fu (by omega) (by unfold fu; omega) (fun y hy => absurd hy (by omega))
def f21 (S S' : Sg) : Prop := S'.2 = S.2 ∧ ∀ id, id ≠ 21 → S'.1 id = S.1 id
def snd (N : Nat) (d : Nat → Nat → Nat) (acc : Nat → Bool) (c : Nat → Nat) (en : Nat → Bool) : Prop := ∀ k, k < N → en (c k) = true → FinK d acc k
def clo (d : Nat → Nat → Nat) (acc : Nat → Bool) (c : Nat → Nat) (en : Nat → Bool) (k : Nat) : Prop := en (c k) = true ∨ (¬ MN d acc c k ∧ ¬ GE d c en k)
theorem passL {K : Nat → Int32 → Int32 → Sg → Option (Int32 × Sg)} {S : Sg} {en0 : Nat → Bool} {t : Nat} (hm : 79 ≤ m) (ok : autOk N d) (h : autC S m N d acc) (hc : ∀ k, k < N → S.1 (m + 5) k = nI (c k) ∧ c k < 150 ∧ c k < n) (hg : cong N d acc c) : ∀ (r fl : Nat) (Z : Sg) (en : Nat → Bool) (b : Bool), r ≤ N → r + 1 ≤ fl → f21 S Z → (∀ i, i < n → Z.1 21 i = bI (en i)) → (∀ i, en0 i = true → en i = true) → snd N d acc c en → (b = false → en = en0 ∧ ∀ k, r ≤ k → k < N → clo d acc c en0 k) → (b = true → ∃ i, i < n ∧ en0 i = false ∧ en i = true) → ∃ Z' en' b', f_X3_isFinite_L48 K fl m (bI b) (nI t) (nI r - 1) Z = K m (bI b') (nI (t + 1)) Z' ∧ f21 S Z' ∧ (∀ i, i < n → Z'.1 21 i = bI (en' i)) ∧ (∀ i, en0 i = true → en' i = true) ∧ snd N d acc c en' ∧ (b' = false → en' = en0 ∧ ∀ k, k < N → clo d acc c en0 k) ∧ (b' = true → ∃ i, i < n ∧ en0 i = false ∧ en' i = true) := by
  have hN := ok.2.1
  intro r
  induction r with
  | zero =>
    intro fl Z en b hr hfl z1 z2 z3 z4 z5 z6
    obtain ⟨f, rfl⟩ : ∃ f, fl = f + 1 := ⟨fl - 1, by omega⟩
    refine ⟨Z, en, b, ?_, z1, z2, z3, z4, fun hb => ⟨(z5 hb).1, fun k hk => (z5 hb).2 k (by omega) hk⟩, z6⟩
    rw [f_X3_isFinite_L48, if_pos (show nI 0 - 1 < 0 by decide), vl_d, nI_1]
  | succ r ih =>
    intro fl Z en b hr hfl z1 z2 z3 z4 z5 z6
    obtain ⟨f, rfl⟩ : ∃ f, fl = f + 1 := ⟨fl - 1, by omega⟩
    have hk : r < N := by omega
    have hZ : autC Z m N d acc := ⟨by rw [z1.2 m (by omega)]; exact h.1, fun k hk x hx => by rw [z1.2 (m + 1) (by omega)]; exact h.2.1 k hk x hx, fun k hk => by rw [z1.2 (m + 4) (by omega)]; exact h.2.2 k hk⟩
    have hcZ : ∀ k, k < N → Z.1 (m + 5) k = nI (c k) ∧ c k < 150 ∧ c k < n := fun k hk => by rw [z1.2 (m + 5) (by omega)]; exact hc k hk
    obtain ⟨b1, b2, b3⟩ := hcZ r hk
    have e0 : nI (r + 1) - 1 = nI r := by rw [k_1, pk_sub (by omega), Nat.add_sub_cancel]
    have hd : f_X3_isFinite_L48 K (f + 1) m (bI b) (nI t) (nI (r + 1) - 1) Z = if en (c r) = true then f_X3_isFinite_L48 K f m (bI b) (nI t) (nI r - 1) Z else bd2 (f_X3_meansNothing m (nI r) Z) (fun r_10 S_9 => (if r_10 = 0 then bd2 (f_X3_goesToEndedOnly m (nI r) S_9) (fun r_15 S_14 => (if r_15 = 0 then f_X3_isFinite_L48 K f m (bI b) (nI t) (nI r - 1) S_14 else f_X3_isFinite_L48 K f m 1 (nI t) (nI r - 1) (sI S_14 21 (c r) 1))) else f_X3_isFinite_L48 K f m 1 (nI t) (nI r - 1) (sI S_9 21 (c r) 1))) := by
      rw [f_X3_isFinite_L48, e0, if_neg (nI_pos (by omega)), ck_nI (by omega) (by decide), nI_clamp (by omega), b1, vl_d, ck_nI (by omega) (by decide), nI_clamp (by omega), z2 _ b3, nI_m1]
      have s1 : ∀ (X : Option (Int32 × Sg)), ck (nI (c r)) 150 X = X := fun X => ck_nI (by omega) (by decide) X
      cases en (c r) with
      | true => rw [if_neg (show ¬ bI true = 0 by decide), if_pos rfl, vl_d]
      | false =>
        rw [if_pos (show bI false = 0 by decide), if_neg (by decide)]
        simp only [s1, vl_d, nar_1]
    rw [hd]
    by_cases e1 : en (c r) = true
    · rw [if_pos e1]
      refine ih f Z en b (by omega) (by omega) z1 z2 z3 z4 (fun hb => ⟨(z5 hb).1, fun k k1 k2 => ?_⟩) z6
      by_cases e : k = r
      · subst e; exact Or.inl (by rw [← (z5 hb).1]; exact e1)
      · exact (z5 hb).2 k (by omega) k2
    · rw [if_neg e1]
      have e1' : en (c r) = false := by
        cases hh : en (c r) with
        | true => exact absurd hh e1
        | false => rfl
      -- the class of this state ends
      have fin : FinK d acc r → ∃ Z' en' b', f_X3_isFinite_L48 K f m 1 (nI t) (nI r - 1) (sI Z 21 (c r) 1) = K m (bI b') (nI (t + 1)) Z' ∧ f21 S Z' ∧ (∀ i, i < n → Z'.1 21 i = bI (en' i)) ∧ (∀ i, en0 i = true → en' i = true) ∧ snd N d acc c en' ∧ (b' = false → en' = en0 ∧ ∀ k, k < N → clo d acc c en0 k) ∧ (b' = true → ∃ i, i < n ∧ en0 i = false ∧ en' i = true) := by
        intro hf
        refine ih f (sI Z 21 (c r) 1) (fun i => en i || decide (i = c r)) true (by omega) (by omega) ⟨z1.1, fun id hid => by rw [sI_id _ _ _ hid]; exact z1.2 id hid⟩ (fun i hi => ?_) (fun i hi => ?_) (fun k hk2 he => ?_) (fun z => absurd z (by decide)) (fun _ => ⟨c r, b3, ?_, ?_⟩)
        · by_cases e : i = c r
          · subst e; rw [sI_at]
            show (1 : Int32) = bI (en (c r) || decide (c r = c r))
            rw [decide_eq_true rfl, Bool.or_true]; rfl
          · rw [sI_ne _ _ (Or.inr e)]
            show Z.1 21 i = bI (en i || decide (i = c r))
            rw [decide_eq_false e, Bool.or_false]; exact z2 i hi
        · show (en i || decide (i = c r)) = true
          rw [z3 i hi, Bool.true_or]
        · have he' : (en (c k) || decide (c k = c r)) = true := he
          rw [Bool.or_eq_true, decide_eq_true_eq] at he'
          rcases he' with z | z
          · exact z4 k hk2 z
          · exact fin_cong ok hg hk hk2 z.symm hf
        · cases hh : en0 (c r) with
          | true => exact absurd (z3 _ hh) e1
          | false => rfl
        · show (en (c r) || decide (c r = c r)) = true
          rw [decide_eq_true rfl, Bool.or_true]
      rcases mnC ok hZ (fun k hk => ⟨(hcZ k hk).1, (hcZ k hk).2.1⟩) hk with ⟨y1, y2⟩ | ⟨y1, y2⟩
      · rw [y1, bd2_some, if_neg n10]
        exact fin (dead_fin ((MN_dead ok hg hk).mp y2))
      · rw [y1, bd2_some, if_pos rfl]
        rcases geC ok hZ hcZ z2 hk with ⟨y3, y4⟩ | ⟨y3, y4⟩
        · rw [y3, bd2_some, if_neg n10]
          exact fin (succ_fin (fun x hx => z4 _ (ok.2.2 r hk x hx) (y4 x hx)))
        · rw [y3, bd2_some, if_pos rfl]
          refine ih f Z en b (by omega) (by omega) z1 z2 z3 z4 (fun hb => ⟨(z5 hb).1, fun k k1 k2 => ?_⟩) z6
          by_cases e : k = r
          · subst e; exact Or.inr ⟨y2, by rw [← (z5 hb).1]; exact y4⟩
          · exact (z5 hb).2 k (by omega) k2
theorem clo_inf {en : Nat → Bool} (ok : autOk N d) (hg : cong N d acc c) (h : ∀ k, k < N → clo d acc c en k) (h0 : en (c 0) = false) : Inf d acc := by
  have path : ∀ L k, k < N → en (c k) = false → ∃ w, w.length = L ∧ let4 w ∧ en (c (runA d k w)) = false := by
    intro L
    induction L with
    | zero => intro k hk he; exact ⟨[], rfl, fun x hx => absurd hx (by simp), he⟩
    | succ L ih =>
      intro k hk he
      rcases h k hk with z | ⟨-, z⟩
      · rw [z] at he; exact absurd he (by decide)
      · have : ∃ x, x < 4 ∧ en (c (d k x)) = false := by
          refine Classical.byContradiction (fun q => z (fun x hx => ?_))
          cases hh : en (c (d k x)) with
          | true => rfl
          | false => exact absurd ⟨x, hx, hh⟩ q
        obtain ⟨x, hx, hx2⟩ := this
        obtain ⟨w, w1, w2, w3⟩ := ih (d k x) (ok.2.2 k hk x hx) hx2
        exact ⟨x :: w, by show w.length + 1 = L + 1; omega, fun y hy => by
          rcases List.mem_cons.mp hy with q | q
          · rw [q]; exact hx
          · exact w2 y q, w3⟩
  intro L
  obtain ⟨w, w1, w2, w3⟩ := path L 0 (by have := ok.1; omega) h0
  have hq := run_lt ok.2.2 w 0 (by have := ok.1; omega) w2
  have hnd : ¬ deadK d acc (runA d 0 w) := by
    rcases h _ hq with z | ⟨z, -⟩
    · rw [z] at w3; exact absurd w3 (by decide)
    · exact fun q => z ((MN_dead ok hg hq).mpr q)
  have : ∃ v, let4 v ∧ acc (runA d (runA d 0 w) v) = true := by
    refine Classical.byContradiction (fun q => hnd (fun v hv => ?_))
    cases hh : acc (runA d (runA d 0 w) v) with
    | false => rfl
    | true => exact absurd ⟨v, hv, hh⟩ q
  obtain ⟨v, v1, v2⟩ := this
  refine ⟨w ++ v, by rw [List.length_append]; omega, fun x hx => ?_, by rw [run_app]; exact v2⟩
  rcases List.mem_append.mp hx with z | z
  · exact w2 x z
  · exact v1 x z
theorem isFinite_eq {S : Sg} (hm : 79 ≤ m) (ok : autOk N d) (h : autC S m N d acc) (hn : n ≤ 150) (hn0 : 1 ≤ n) (h1 : S.1 m 1 = nI n) (hc : ∀ k, k < N → S.1 (m + 5) k = nI (c k) ∧ c k < n) (hc0 : c 0 = 0) (hg : cong N d acc c) : ∃ b S', f_X3_isFinite m S = some (bI b, S') ∧ f21 S S' ∧ ((b = true ∧ ¬ Inf d acc) ∨ (b = false ∧ Inf d acc)) := by
  have hN := ok.2.1
  have hN1 := ok.1
  have l2 : ∀ r i fl (Z : Sg), i + r = n → r + 1 ≤ fl → f21 S Z → (∀ j, j < i → Z.1 21 j = 0) → ∃ S', f_X3_isFinite_L2 fl m (nI i) Z = f_X3_isFinite_L27 fu m 1 (nI 0) S' ∧ f21 S S' ∧ ∀ j, j < n → S'.1 21 j = 0 := by
    intro r
    induction r with
    | zero =>
      intro i fl Z hi hfl z1 z2
      obtain ⟨f, rfl⟩ : ∃ f, fl = f + 1 := ⟨fl - 1, by omega⟩
      refine ⟨Z, ?_, z1, fun j hj => z2 j (by omega)⟩
      rw [f_X3_isFinite_L2, z1.2 m (by omega), h1, if_pos (by rw [nI_leI (by omega) (by omega)]; omega), vl_d, vl_d]; rfl
    | succ r ih =>
      intro i fl Z hi hfl z1 z2
      obtain ⟨f, rfl⟩ : ∃ f, fl = f + 1 := ⟨fl - 1, by omega⟩
      obtain ⟨S', u1, u2⟩ := ih (i + 1) f (sI Z 21 i 0) (by omega) (by omega) ⟨z1.1, fun id hid => by rw [sI_id _ _ _ hid]; exact z1.2 id hid⟩ (fun j hj => by
        by_cases e : j = i
        · subst e; exact sI_at _ _ _ _
        · rw [sI_ne _ _ (Or.inr e)]; exact z2 j (by omega))
      refine ⟨S', ?_, u2⟩
      rw [← u1, f_X3_isFinite_L2, z1.2 m (by omega), h1, if_neg (by rw [nI_leI (by omega) (by omega)]; omega), ck_nI (by omega) (by decide), nI_clamp (by omega), nar_0, vl_d, nI_1, vl_d]
  have loop : ∀ r t fl (Z : Sg) (en : Nat → Bool), t + r = 151 → r + 2 ≤ fl → f21 S Z → (∀ i, i < n → Z.1 21 i = bI (en i)) → snd N d acc c en → t ≤ cb en n → ∃ b S', f_X3_isFinite_L27 fl m 1 (nI t) Z = some (bI b, S') ∧ f21 S S' ∧ ((b = true ∧ ¬ Inf d acc) ∨ (b = false ∧ Inf d acc)) := by
    intro r
    induction r with
    | zero =>
      intro t fl Z en ht hfl z1 z2 z3 z4
      have := cb_le en n
      omega
    | succ r ih =>
      intro t fl Z en ht hfl z1 z2 z3 z4
      obtain ⟨f, rfl⟩ : ∃ f, fl = f + 1 := ⟨fl - 1, by omega⟩
      have hle := cb_le en n
      have hZ : autC Z m N d acc := ⟨by rw [z1.2 m (by omega)]; exact h.1, fun k hk x hx => by rw [z1.2 (m + 1) (by omega)]; exact h.2.1 k hk x hx, fun k hk => by rw [z1.2 (m + 4) (by omega)]; exact h.2.2 k hk⟩
      obtain ⟨Z', en', b', u1, u2, u3, u4, u5, u6, u7⟩ := passL (K := f_X3_isFinite_L27 f) (en0 := en) (t := t) (n := n) hm ok h (fun k hk => ⟨(hc k hk).1, by have := (hc k hk).2; omega, (hc k hk).2⟩) hg N fu Z en false (Nat.le_refl _) (by unfold fu; omega) z1 z2 (fun i hi => hi) z3 (fun _ => ⟨rfl, fun k k1 k2 => absurd k2 (by omega)⟩) (fun z => absurd z (by decide))
      have hd : f_X3_isFinite_L27 (f + 1) m 1 (nI t) Z = f_X3_isFinite_L27 f m (bI b') (nI (t + 1)) Z' := by
        rw [f_X3_isFinite_L27, if_neg (by rw [k_150, nI_ltI (by omega) (by omega)]; omega), if_neg n10, vl_d, hZ.1, vl_d]
        exact u1
      rw [hd]
      cases hb : b' with
      | true =>
        obtain ⟨i, i1, i2, i3⟩ := u7 hb
        have := cb_lt u4 n i i1 i2 i3
        exact ih (t + 1) f Z' en' (by omega) (by omega) u2 u3 u5 (by omega)
      | false =>
        obtain ⟨e1, e2⟩ := u6 hb
        obtain ⟨f2, rfl⟩ : ∃ f2, f = f2 + 1 := ⟨f - 1, by omega⟩
        refine ⟨en (c 0), Z', ?_, u2, ?_⟩
        · have h21 : Z'.1 21 0 = bI (en (c 0)) := by rw [u3 0 (by omega), e1, hc0]
          rw [f_X3_isFinite_L27, if_pos (show bI false = 0 by decide), k_0, ck_nI (by omega) (by decide), nI_clamp (by omega), h21, zk_b]
          by_cases z : (150 : Int32) < nI (t + 1)
          · rw [if_pos z]
          · rw [if_neg z]
        · cases he : en (c 0) with
          | true =>
            refine Or.inl ⟨rfl, fun hi => ?_⟩
            obtain ⟨B, hB⟩ := z3 0 (by omega) he
            obtain ⟨w, w1, w2, w3⟩ := hi B
            have := hB w w2 w3
            omega
          | false => exact Or.inr ⟨rfl, clo_inf ok hg e2 he⟩
  obtain ⟨S1, e1, e2, e3⟩ := l2 n 0 fu S (by omega) (by unfold fu; omega) ⟨rfl, fun _ _ => rfl⟩ (fun j hj => absurd hj (by omega))
  obtain ⟨b, S', u1, u2⟩ := loop 151 0 fu S1 (fun _ => false) (by omega) (by unfold fu; omega) e2 (fun i hi => e3 i hi) (fun k _ z => absurd (show false = true from z) (by decide)) (Nat.zero_le _)
  refine ⟨b, S', ?_, u2⟩
  unfold f_X3_isFinite
  rw [vl_d]
  have e1' : f_X3_isFinite_L2 fu m 0 S = f_X3_isFinite_L27 fu m 1 (nI 0) S1 := e1
  rw [e1', u1]
end FIN
