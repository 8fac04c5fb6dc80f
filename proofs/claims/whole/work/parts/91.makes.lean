def orL (F : Nat → Int32) (st : Int32) : Nat → Int32
  | 0 => 0
  | i + 1 => orL F st i ||| (if bt st i = true then F i else 0)
theorem or_0 (x : Int32) : x ||| 0 = x := by simp
theorem zr_or (x : Int32) : (0 : Int32) ||| x = x := by simp
theorem orL_0 (F : Nat → Int32) : ∀ i, orL F 0 i = 0 := by
  intro i
  induction i with
  | zero => rfl
  | succ i ih =>
    show orL F 0 i ||| (if bt 0 i = true then F i else 0) = 0
    rw [ih, b_0, if_neg (by decide), or_0]
theorem orL_cg {F G : Nat → Int32} {st : Int32} : ∀ n, (∀ i, i < n → F i = G i) → orL F st n = orL G st n := by
  intro n
  induction n with
  | zero => intro _; rfl
  | succ n ih =>
    intro h
    show orL F st n ||| (if bt st n = true then F n else 0) = orL G st n ||| (if bt st n = true then G n else 0)
    rw [ih (fun i hi => h i (by omega)), h n (by omega)]
section MAKES
variable {s k x P m : Nat}
theorem following_eq {p sc : Nat} {st : Int32} {S : Sg} (hp : p < 6) (hs : sc ≤ 30) (h6 : S.1 6 p = nI sc) : f_X7_following (nI p) st S = some (orL (fun i => S.1 11 (30 * p + i)) st sc, S) := by
  have loop : ∀ r i fl, i + r = sc → r + 1 ≤ fl → f_X7_following_L5 fl (nI p) st (orL (fun i => S.1 11 (30 * p + i)) st i) (nI i) S = some (orL (fun i => S.1 11 (30 * p + i)) st sc, S) := by
    intro r
    induction r with
    | zero =>
      intro i fl hi hfl
      obtain ⟨f, rfl⟩ : ∃ f, fl = f + 1 := ⟨fl - 1, by omega⟩
      rw [f_X7_following_L5, ck_nI hp (by decide), nI_clamp (by omega), h6, if_pos (by rw [nI_leI (by omega) (by omega)]; omega), show i = sc by omega]
    | succ r ih =>
      intro i fl hi hfl
      obtain ⟨f, rfl⟩ : ∃ f, fl = f + 1 := ⟨fl - 1, by omega⟩
      rw [f_X7_following_L5, ck_nI hp (by decide), nI_clamp (by omega), h6, if_neg (by rw [nI_leI (by omega) (by omega)]; omega), k_30, pk_mul, nI_add, nI_clamp (by omega), nI_1, Nat.mul_comm p 30]
      have e := ih (i + 1) f (by omega) (by omega)
      cases hb : bt st i with
      | false =>
        rw [if_pos ((tst0 st (by omega)).mpr hb), vl_d, ← e]
        show _ = f_X7_following_L5 f (nI p) st (orL (fun i => S.1 11 (30 * p + i)) st i ||| (if bt st i = true then S.1 11 (30 * p + i) else 0)) (nI (i + 1)) S
        rw [hb, if_neg (by decide), or_0]
      | true =>
        rw [if_neg (fun z => by rw [(tst0 st (by omega)).mp z] at hb; exact absurd hb (by decide)), ck_nI (by omega) (by decide), vl_d, vl_d, ← e]
        show _ = f_X7_following_L5 f (nI p) st (orL (fun i => S.1 11 (30 * p + i)) st i ||| (if bt st i = true then S.1 11 (30 * p + i) else 0)) (nI (i + 1)) S
        rw [hb, if_pos rfl]
  unfold f_X7_following
  rw [vl_d, vl_d]
  exact loop sc 0 fu (by omega) (by unfold fu; omega)
def canC (S : Sg) (m k p sc : Nat) : Int32 := if k = 0 then S.1 7 p else orL (fun i => S.1 11 (30 * p + i)) (S.1 (m + 3) (6 * k + p)) sc
def canT (T : Sg) (s k p sc : Nat) : Int32 := if k = 0 then T.1 39 p else orL (fun i => T.1 42 (30 * p + i)) (T.1 50 (6 * (150 * s + k) + p)) sc
theorem setReach_eq {S : Sg} {sc : Nat → Nat} (hm : 79 ≤ m) (hk : k < 150) (hP : P ≤ 6) (h5 : S.1 5 0 = nI P) (hsc : ∀ p, p < P → S.1 6 p = nI (sc p) ∧ sc p ≤ 30) : ∃ S', f_X5_setReach m (nI k) S = some S' ∧ S'.2 = S.2 ∧ (∀ id, id ≠ 13 → S'.1 id = S.1 id) ∧ ∀ p, p < P → S'.1 13 p = canC S m k p (sc p) := by
  have loop : ∀ r p fl (Z : Sg), p + r = P → r + 1 ≤ fl → Z.2 = S.2 → (∀ id, id ≠ 13 → Z.1 id = S.1 id) → (∀ q, q < p → Z.1 13 q = canC S m k q (sc q)) → ∃ S', f_X5_setReach_L3 fl m (nI k) (nI p) Z = some S' ∧ S'.2 = S.2 ∧ (∀ id, id ≠ 13 → S'.1 id = S.1 id) ∧ ∀ q, q < P → S'.1 13 q = canC S m k q (sc q) := by
    intro r
    induction r with
    | zero =>
      intro p fl Z hp hfl z1 z2 z3
      obtain ⟨f, rfl⟩ : ∃ f, fl = f + 1 := ⟨fl - 1, by omega⟩
      refine ⟨Z, ?_, z1, z2, fun q hq => z3 q (by omega)⟩
      rw [f_X5_setReach_L3, z2 5 (by decide), h5, if_pos (by rw [nI_leI (by omega) (by omega)]; omega)]
    | succ r ih =>
      intro p fl Z hp hfl z1 z2 z3
      obtain ⟨f, rfl⟩ : ∃ f, fl = f + 1 := ⟨fl - 1, by omega⟩
      obtain ⟨S', u1, u2⟩ := ih (p + 1) f (sI Z 13 p (canC S m k p (sc p))) (by omega) (by omega) z1 (fun id hid => by rw [sI_id _ _ _ hid]; exact z2 id hid) (fun q hq => by
        by_cases e : q = p
        · subst e; exact sI_at _ _ _ _
        · rw [sI_ne _ _ (Or.inr e)]; exact z3 q (by omega))
      refine ⟨S', ?_, u2⟩
      rw [← u1, f_X5_setReach_L3, z2 5 (by decide), h5, if_neg (by rw [nI_leI (by omega) (by omega)]; omega)]
      by_cases hk0 : k = 0
      · rw [if_pos (by rw [hk0]; rfl), ck_nI (by omega) (by decide), ck_nI (by omega) (by decide), nI_clamp (by omega), z2 7 (by decide), vl_d, vl_d, nI_1]
        unfold canC
        rw [if_pos hk0]
      · rw [if_neg (by rw [k_0, nI_eq (by omega) (by omega)]; exact hk0), ixC6, ck_nI (by omega) (by decide), nI_clamp (by omega), z2 (m + 3) (by omega), following_eq (sc := sc p) (by omega) (hsc p (by omega)).2 (by rw [z2 6 (by decide)]; exact (hsc p (by omega)).1), bd2_some, ck_nI (by omega) (by decide), nI_clamp (by omega), vl_d, vl_d, nI_1, z2 11 (by decide)]
        unfold canC
        rw [if_neg hk0]
  unfold f_X5_setReach
  rw [vl_d]
  exact loop P 0 fu S (by omega) (by unfold fu; omega) rfl (fun _ _ => rfl) (fun q hq => absurd hq (by omega))
theorem setBehind_eq {S : Sg} (hx : x < 4) (hP : P ≤ 6) (h5 : S.1 5 0 = nI P) : ∃ S', f_X5_setBehind (nI x) S = some S' ∧ S'.2 = S.2 ∧ (∀ id, id ≠ 14 → S'.1 id = S.1 id) ∧ ∀ p, p < P → S'.1 14 p = S.1 13 p &&& S.1 10 (4 * p + x) := by
  have loop : ∀ r p fl (Z : Sg), p + r = P → r + 1 ≤ fl → Z.2 = S.2 → (∀ id, id ≠ 14 → Z.1 id = S.1 id) → (∀ q, q < p → Z.1 14 q = S.1 13 q &&& S.1 10 (4 * q + x)) → ∃ S', f_X5_setBehind_L2 fl (nI x) (nI p) Z = some S' ∧ S'.2 = S.2 ∧ (∀ id, id ≠ 14 → S'.1 id = S.1 id) ∧ ∀ q, q < P → S'.1 14 q = S.1 13 q &&& S.1 10 (4 * q + x) := by
    intro r
    induction r with
    | zero =>
      intro p fl Z hp hfl z1 z2 z3
      obtain ⟨f, rfl⟩ : ∃ f, fl = f + 1 := ⟨fl - 1, by omega⟩
      refine ⟨Z, ?_, z1, z2, fun q hq => z3 q (by omega)⟩
      rw [f_X5_setBehind_L2, z2 5 (by decide), h5, if_pos (by rw [nI_leI (by omega) (by omega)]; omega)]
    | succ r ih =>
      intro p fl Z hp hfl z1 z2 z3
      obtain ⟨f, rfl⟩ : ∃ f, fl = f + 1 := ⟨fl - 1, by omega⟩
      obtain ⟨S', u1, u2⟩ := ih (p + 1) f (sI Z 14 p (S.1 13 p &&& S.1 10 (4 * p + x))) (by omega) (by omega) z1 (fun id hid => by rw [sI_id _ _ _ hid]; exact z2 id hid) (fun q hq => by
        by_cases e : q = p
        · subst e; exact sI_at _ _ _ _
        · rw [sI_ne _ _ (Or.inr e)]; exact z3 q (by omega))
      refine ⟨S', ?_, u2⟩
      rw [← u1, f_X5_setBehind_L2, z2 5 (by decide), h5, if_neg (by rw [nI_leI (by omega) (by omega)]; omega), ck_nI (by omega) (by decide), ixC4, ck_nI (by omega) (by decide), ck_nI (by omega) (by decide), nI_clamp (by omega), nI_clamp (by omega), z2 13 (by decide), z2 10 (by decide), vl_d, vl_d, nI_1]
  unfold f_X5_setBehind
  rw [vl_d]
  exact loop P 0 fu S (by omega) (by unfold fu; omega) rfl (fun _ _ => rfl) (fun q hq => absurd hq (by omega))
/-- the reference: which of the spots that can read do read the letter -/
theorem mk122 {K : Int32 → Int32 → Int32 → Int32 → Sg → Option Sg} {p sc : Nat} {can : Int32} {T0 : Sg} (hp : p < 6) (hx : x < 4) (hsc : sc ≤ 30) (h37 : T0.1 37 p = nI sc) : ∀ (r i fl : Nat) (T : Sg), i + r = sc → r + 1 ≤ fl → T.2 = T0.2 → (∀ id, id ≠ 66 → T.1 id = T0.1 id) → (∀ q, q ≠ p → T.1 66 q = T0.1 66 q) → (∀ j, bt (T.1 66 p) j = (decide (j < i) && (bt can j && bt (T0.1 41 (30 * p + j)) x))) → ∃ T', f_X10_makes_L122 K fl (nI s) (nI k) (nI x) (nI p) can (nI i) T = K (nI s) (nI k) (nI x) (nI (p + 1)) T' ∧ T'.2 = T0.2 ∧ (∀ id, id ≠ 66 → T'.1 id = T0.1 id) ∧ (∀ q, q ≠ p → T'.1 66 q = T0.1 66 q) ∧ ∀ j, bt (T'.1 66 p) j = (decide (j < sc) && (bt can j && bt (T0.1 41 (30 * p + j)) x)) := by
  intro r
  induction r with
  | zero =>
    intro i fl T hi hfl z1 z2 z3 z4
    obtain ⟨f, rfl⟩ : ∃ f, fl = f + 1 := ⟨fl - 1, by omega⟩
    refine ⟨T, ?_, z1, z2, z3, fun j => by rw [z4 j, show i = sc by omega]⟩
    rw [f_X10_makes_L122, ck_nI hp (by decide), nI_clamp (by omega), z2 37 (by decide), h37, if_pos (by rw [nI_leI (by omega) (by omega)]; omega), vl_d, nI_1]
  | succ r ih =>
    intro i fl T hi hfl z1 z2 z3 z4
    obtain ⟨f, rfl⟩ : ∃ f, fl = f + 1 := ⟨fl - 1, by omega⟩
    have hd : f_X10_makes_L122 K (f + 1) (nI s) (nI k) (nI x) (nI p) can (nI i) T = if bt can i = true ∧ bt (T0.1 41 (30 * p + i)) x = true then f_X10_makes_L122 K f (nI s) (nI k) (nI x) (nI p) can (nI (i + 1)) (sI T 66 p (T.1 66 p ||| ((1 : Int32) <<< (nI i &&& 31)))) else f_X10_makes_L122 K f (nI s) (nI k) (nI x) (nI p) can (nI (i + 1)) T := by
      rw [f_X10_makes_L122, ck_nI hp (by decide), nI_clamp (by omega), z2 37 (by decide), h37, if_neg (by rw [nI_leI (by omega) (by omega)]; omega), k_30, pk_mul, nI_add, nI_clamp (by omega), z2 41 (by decide), nI_1]
      by_cases h1 : bt can i = true
      · rw [if_pos ((tst1 can (by omega)).mpr h1), ck_nI (by omega) (by decide)]
        by_cases h2 : bt (T0.1 41 (30 * p + i)) x = true
        · rw [if_pos ((tst1 _ (by omega)).mpr h2), ck_nI hp (by decide), ck_nI hp (by decide), vl_d, vl_d, if_pos ⟨h1, h2⟩]
        · rw [if_neg (fun z => h2 ((tst1 _ (by omega)).mp z)), vl_d, if_neg (fun z => h2 z.2)]
      · rw [if_neg (fun z => h1 ((tst1 _ (by omega)).mp z)), vl_d, if_neg (fun z => h1 z.1)]
    rw [hd]
    by_cases h : bt can i = true ∧ bt (T0.1 41 (30 * p + i)) x = true
    · rw [if_pos h]
      refine ih (i + 1) f _ (by omega) (by omega) z1 (fun id hid => by rw [sI_id _ _ _ hid]; exact z2 id hid) (fun q hq => by rw [sI_ne _ _ (Or.inr hq)]; exact z3 q hq) (fun j => ?_)
      rw [sI_at, b_or, bt_shl (by omega), z4 j]
      by_cases e : j = i
      · subst e
        rw [h.1, h.2, decide_eq_true (by omega : j < j + 1), decide_eq_true rfl]; simp
      · rw [decide_eq_false e, Bool.or_false]
        by_cases e2 : j < i
        · rw [decide_eq_true e2, decide_eq_true (by omega)]
        · rw [decide_eq_false e2, decide_eq_false (by omega)]
    · rw [if_neg h]
      refine ih (i + 1) f _ (by omega) (by omega) z1 z2 z3 (fun j => ?_)
      rw [z4 j]
      by_cases e : j = i
      · subst e
        rw [decide_eq_false (by omega : ¬ j < j), decide_eq_true (by omega : j < j + 1), Bool.false_and, Bool.true_and]
        cases h1 : bt can j with
        | false => rfl
        | true =>
          cases h2 : bt (T0.1 41 (30 * p + j)) x with
          | false => rfl
          | true => exact absurd ⟨h1, h2⟩ h
      · by_cases e2 : j < i
        · rw [decide_eq_true e2, decide_eq_true (by omega)]
        · rw [decide_eq_false e2, decide_eq_false (by omega)]
theorem mk60 {K : Int32 → Int32 → Int32 → Int32 → Sg → Option Sg} {p sc : Nat} {c0 has : Int32} {T : Sg} (hp : p < 6) (hx : x < 4) (hsc : sc ≤ 30) (h37 : T.1 37 p = nI sc) : ∀ (r i fl : Nat), i + r = sc → r + 1 ≤ fl → f_X10_makes_L60 K fl (nI s) (nI k) (nI x) (nI p) (c0 ||| orL (fun i => T.1 42 (30 * p + i)) has i) has (nI i) T = f_X10_makes_L122 K fu (nI s) (nI k) (nI x) (nI p) (c0 ||| orL (fun i => T.1 42 (30 * p + i)) has sc) (nI 0) (sI T 66 p 0) := by
  intro r
  induction r with
  | zero =>
    intro i fl hi hfl
    obtain ⟨f, rfl⟩ : ∃ f, fl = f + 1 := ⟨fl - 1, by omega⟩
    rw [f_X10_makes_L60, ck_nI hp (by decide), nI_clamp (by omega), h37, if_pos (by rw [nI_leI (by omega) (by omega)]; omega), ck_nI hp (by decide), vl_d, vl_d, show i = sc by omega]
    rfl
  | succ r ih =>
    intro i fl hi hfl
    obtain ⟨f, rfl⟩ : ∃ f, fl = f + 1 := ⟨fl - 1, by omega⟩
    rw [f_X10_makes_L60, ck_nI hp (by decide), nI_clamp (by omega), h37, if_neg (by rw [nI_leI (by omega) (by omega)]; omega), k_30, pk_mul, nI_add, nI_clamp (by omega), nI_1]
    have e := ih (i + 1) f (by omega) (by omega)
    rw [← e]
    show _ = f_X10_makes_L60 K f (nI s) (nI k) (nI x) (nI p) (c0 ||| (orL (fun i => T.1 42 (30 * p + i)) has i ||| (if bt has i = true then T.1 42 (30 * p + i) else 0))) has (nI (i + 1)) T
    cases hb : bt has i with
    | true => rw [if_pos ((tst1 has (by omega)).mpr hb), ck_nI (by omega) (by decide), vl_d, vl_d, if_pos rfl, Int32.or_assoc]
    | false => rw [if_neg (fun z => by rw [(tst1 has (by omega)).mp z] at hb; exact absurd hb (by decide)), vl_d, vl_d, if_neg (by decide), or_0, or_0]
theorem makes_eq {T : Sg} {sc : Nat → Nat} (hs : s < 4) (hk : k < 150) (hx : x < 4) (hP : P ≤ 6) (h6 : T.1 34 6 = nI P) (hsc : ∀ p, p < P → T.1 37 p = nI (sc p) ∧ sc p ≤ 30) : ∃ T', f_X10_makes (nI s) (nI k) (nI x) T = some T' ∧ T'.2 = T.2 ∧ (∀ id, id ≠ 66 → T'.1 id = T.1 id) ∧ ∀ p, p < P → ∀ j, bt (T'.1 66 p) j = (decide (j < sc p) && (bt (canT T s k p (sc p)) j && bt (T.1 41 (30 * p + j)) x)) := by
  have loop : ∀ r p fl (Z : Sg), p + r = P → r + 1 ≤ fl → Z.2 = T.2 → (∀ id, id ≠ 66 → Z.1 id = T.1 id) → (∀ q, q < p → ∀ j, bt (Z.1 66 q) j = (decide (j < sc q) && (bt (canT T s k q (sc q)) j && bt (T.1 41 (30 * q + j)) x))) → ∃ T', f_X10_makes_L3 fl (nI s) (nI k) (nI x) (nI p) Z = some T' ∧ T'.2 = T.2 ∧ (∀ id, id ≠ 66 → T'.1 id = T.1 id) ∧ ∀ q, q < P → ∀ j, bt (T'.1 66 q) j = (decide (j < sc q) && (bt (canT T s k q (sc q)) j && bt (T.1 41 (30 * q + j)) x)) := by
    intro r
    induction r with
    | zero =>
      intro p fl Z hp hfl z1 z2 z3
      obtain ⟨f, rfl⟩ : ∃ f, fl = f + 1 := ⟨fl - 1, by omega⟩
      refine ⟨Z, ?_, z1, z2, fun q hq => z3 q (by omega)⟩
      rw [f_X10_makes_L3, z2 34 (by decide), h6, if_pos (by rw [nI_leI (by omega) (by omega)]; omega)]
    | succ r ih =>
      intro p fl Z hp hfl z1 z2 z3
      obtain ⟨f, rfl⟩ : ∃ f, fl = f + 1 := ⟨fl - 1, by omega⟩
      have hp6 : p < 6 := by omega
      obtain ⟨s1, s2⟩ := hsc p (by omega)
      have e60 : ∀ (c0 has : Int32), f_X10_makes_L60 (f_X10_makes_L3 f) fu (nI s) (nI k) (nI x) (nI p) c0 has (nI 0) Z = f_X10_makes_L122 (f_X10_makes_L3 f) fu (nI s) (nI k) (nI x) (nI p) (c0 ||| orL (fun i => T.1 42 (30 * p + i)) has (sc p)) (nI 0) (sI Z 66 p 0) := by
        intro c0 has
        have q := mk60 (s := s) (k := k) (x := x) (K := f_X10_makes_L3 f) (c0 := c0) (has := has) (T := Z) hp6 hx s2 (by rw [z2 37 (by decide)]; exact s1) (sc p) 0 fu (by omega) (by unfold fu; omega)
        rw [show orL (fun i => Z.1 42 (30 * p + i)) has 0 = 0 from rfl, or_0, z2 42 (by decide)] at q
        exact q
      have hcan : f_X10_makes_L3 (f + 1) (nI s) (nI k) (nI x) (nI p) Z = f_X10_makes_L122 (f_X10_makes_L3 f) fu (nI s) (nI k) (nI x) (nI p) (canT T s k p (sc p)) (nI 0) (sI Z 66 p 0) := by
        rw [f_X10_makes_L3, z2 34 (by decide), h6, if_neg (by rw [nI_leI (by omega) (by omega)]; omega)]
        unfold f_X10_makes_L27 canT
        by_cases hk0 : k = 0
        · rw [if_pos (show nI k = 0 by rw [hk0]; rfl), if_pos hk0, ck_nI hp6 (by decide), nI_clamp (by omega), z2 39 (by decide), vl_d, if_pos (show nI k = 0 by rw [hk0]; rfl), vl_d, vl_d]
          have q := e60 (T.1 39 p) 0
          rw [orL_0, or_0] at q
          exact q
        · have hne : ¬ nI k = 0 := by rw [k_0, nI_eq (by omega) (by omega)]; exact hk0
          rw [if_neg hne, if_neg hk0, vl_d, if_neg hne, ixM6, ck_nI (by omega) (by decide), nI_clamp (by omega), z2 50 (by decide), vl_d, vl_d]
          have q := e60 0 (T.1 50 (6 * (150 * s + k) + p))
          rw [zr_or] at q
          exact q
      obtain ⟨T1, y1, y2, y3, y4, y5⟩ := mk122 (s := s) (k := k) (x := x) (K := f_X10_makes_L3 f) (p := p) (sc := sc p) (can := canT T s k p (sc p)) (T0 := sI Z 66 p 0) hp6 hx s2 (by rw [sI_id _ _ _ (by decide), z2 37 (by decide)]; exact s1) (sc p) 0 fu (sI Z 66 p 0) (by omega) (by unfold fu; omega) rfl (fun _ _ => rfl) (fun _ _ => rfl) (fun j => by rw [sI_at, b_0, decide_eq_false (by omega), Bool.false_and])
      obtain ⟨T', u1, u2⟩ := ih (p + 1) f T1 (by omega) (by omega) (by rw [y2]; exact z1) (fun id hid => by rw [y3 id hid, sI_id _ _ _ hid]; exact z2 id hid) (fun q hq j => by
        by_cases e : q = p
        · subst e
          rw [y5 j, sI_id _ _ _ (by decide), z2 41 (by decide)]
        · rw [y4 q e, sI_ne _ _ (Or.inr e)]; exact z3 q (by omega) j)
      exact ⟨T', by rw [hcan, y1, u1], u2⟩
  unfold f_X10_makes
  rw [vl_d]
  exact loop P 0 fu T (by omega) (by unfold fu; omega) rfl (fun _ _ => rfl) (fun q hq => absurd hq (by omega))
end MAKES
