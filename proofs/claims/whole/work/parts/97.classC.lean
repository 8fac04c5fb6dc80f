def clC (S : Sg) (m N : Nat) (f : Nat → Key) : Prop := (∀ k, k < N → S.1 (m + 5) k = nI (nc f k)) ∧ S.1 m 1 = nI (ct f N)
def clF (m : Nat) (S S' : Sg) : Prop := S'.2 = S.2 ∧ (∀ id, id < 18 ∨ 21 < id → id ≠ m → id ≠ m + 5 → S'.1 id = S.1 id) ∧ ∀ b, b ≠ 1 → S'.1 m b = S.1 m b
theorem clF_r (m : Nat) (S : Sg) : clF m S S := ⟨rfl, fun _ _ _ _ => rfl, fun _ _ => rfl⟩
theorem clF_t {m : Nat} {S S' S'' : Sg} (h : clF m S S') (g : clF m S' S'') : clF m S S'' := ⟨by rw [g.1, h.1], fun id a b c => by rw [g.2.1 id a b c, h.2.1 id a b c], fun b hb => by rw [g.2.2 b hb, h.2.2 b hb]⟩
theorem autC_f {S S' : Sg} {m N : Nat} {d : Nat → Nat → Nat} {acc : Nat → Bool} (hm : 79 ≤ m) (h : autC S m N d acc) (w : clF m S S') : autC S' m N d acc := ⟨by rw [w.2.2 0 (by decide)]; exact h.1, fun k hk x hx => by rw [w.2.1 (m + 1) (by omega) (by omega) (by omega)]; exact h.2.1 k hk x hx, fun k hk => by rw [w.2.1 (m + 4) (by omega) (by omega) (by omega)]; exact h.2.2 k hk⟩
section CLC
variable {m N : Nat} {d : Nat → Nat → Nat} {acc : Nat → Bool}
theorem ct0_le (acc : Nat → Bool) : ∀ n, ct (key0 acc) n ≤ 2 := by
  intro n
  induction n with
  | zero => exact Nat.zero_le _
  | succ n ih =>
    rw [ct_s]
    by_cases h : ld (key0 acc) n = n
    · rw [if_pos h]
      have e : nc (key0 acc) n = ct (key0 acc) n := by unfold nc; rw [h]
      have := nc_0 acc n
      rw [e] at this
      by_cases z : acc n = acc 0
      · rw [if_pos z] at this; omega
      · rw [if_neg z] at this; omega
    · rw [if_neg h]; omega
theorem bI_eq (a b : Bool) : bI a = bI b ↔ a = b := by cases a <;> cases b <;> decide
theorem divAcc_eq {S : Sg} (hm : 79 ≤ m) (ok : autOk N d) (h : autC S m N d acc) : ∃ S', f_X3_divideByAccepting m S = some S' ∧ clF m S S' ∧ clC S' m N (key0 acc) := by
  have hN := ok.2.1
  have hN1 := ok.1
  have loop : ∀ r k fl (Z : Sg), k + r = N → r + 1 ≤ fl → clF m S Z → (∀ j, j < k → Z.1 (m + 5) j = nI (nc (key0 acc) j)) → Z.1 m 1 = nI (max 1 (ct (key0 acc) k)) → ∃ S', f_X3_divideByAccepting_L7 fl m (nI k) Z = some S' ∧ clF m S S' ∧ clC S' m N (key0 acc) := by
    intro r
    induction r with
    | zero =>
      intro k fl Z hk hfl z1 z2 z3
      obtain ⟨f, rfl⟩ : ∃ f, fl = f + 1 := ⟨fl - 1, by omega⟩
      have hZ := autC_f hm h z1
      refine ⟨Z, ?_, z1, fun j hj => z2 j (by omega), ?_⟩
      · rw [f_X3_divideByAccepting_L7, hZ.1, if_pos (by rw [nI_leI (by omega) (by omega)]; omega)]
      · have := ct_pos (f := key0 acc) hN1
        rw [z3, show k = N by omega, show max 1 (ct (key0 acc) N) = ct (key0 acc) N by omega]
    | succ r ih =>
      intro k fl Z hk hfl z1 z2 z3
      obtain ⟨f, rfl⟩ : ∃ f, fl = f + 1 := ⟨fl - 1, by omega⟩
      have hZ := autC_f hm h z1
      have n0 := nc_0 acc k
      have hs := ct_s (key0 acc) k
      have h2 := ct0_le acc (k + 1)
      have l0 : ld (key0 acc) 0 = 0 := by have := (ld_spec (key0 acc) 0).1; omega
      let Y : Sg := sI (sI Z (m + 5) k (nI (nc (key0 acc) k))) m 1 (nI (max 1 (ct (key0 acc) (k + 1))))
      have cY : clF m S Y := clF_t z1 ⟨rfl, fun id _ i2 i3 => by
        show (sI (sI Z (m + 5) k _) m 1 _).1 id = _
        rw [sI_id _ _ _ i2, sI_id _ _ _ i3], fun b hb => by
        show (sI (sI Z (m + 5) k _) m 1 _).1 m b = _
        rw [sI_ne _ _ (Or.inr hb), sI_id _ _ _ (by omega)]⟩
      obtain ⟨S', u1, u2⟩ := ih (k + 1) f Y (by omega) (by omega) cY (fun j hj => by
        show (sI (sI Z (m + 5) k _) m 1 _).1 (m + 5) j = _
        rw [sI_id _ _ _ (by omega)]
        by_cases e : j = k
        · subst e; exact sI_at _ _ _ _
        · rw [sI_ne _ _ (Or.inr e)]; exact z2 j (by omega)) (sI_at _ _ _ _)
      refine ⟨S', ?_, u2⟩
      rw [← u1, f_X3_divideByAccepting_L7, hZ.1, if_neg (by rw [nI_leI (by omega) (by omega)]; omega), ck_nI (by omega) (by decide), k_0, ck_nI (by omega) (by decide), nI_clamp (by omega), nI_clamp (by omega), hZ.2.2 k (by omega), hZ.2.2 0 (by omega), ← k_0]
      unfold f_X3_divideByAccepting_L35 f_X3_divideByAccepting_L50
      by_cases e : acc k = acc 0
      · rw [if_pos e] at n0
        have hc : max 1 (ct (key0 acc) (k + 1)) = max 1 (ct (key0 acc) k) := by
          by_cases k0 : k = 0
          · subst k0
            have : ct (key0 acc) 0 = 0 := rfl
            rw [if_pos l0] at hs
            omega
          · have : ld (key0 acc) k = 0 := by
              have q : nc (key0 acc) k = nc (key0 acc) 0 := by rw [n0, nc_0, if_pos rfl]
              rw [ld_eq.mpr (nc_eq.mp q), l0]
            rw [this, if_neg (by omega)] at hs
            omega
        rw [if_pos (by rw [e]), vl_d, if_neg n10, ck_nI (by omega) (by decide), vl_d, if_neg n10, sI_id _ _ _ (by omega), z3, vl_d, nI_1, vl_d]
        rw [nI_clamp (by omega)]
        show f_X3_divideByAccepting_L7 f m (nI (k + 1)) (sI (sI Z (m + 5) k 0) m 1 (nI (max 1 (ct (key0 acc) k)))) = f_X3_divideByAccepting_L7 f m (nI (k + 1)) (sI (sI Z (m + 5) k (nI (nc (key0 acc) k))) m 1 (nI (max 1 (ct (key0 acc) (k + 1)))))
        rw [n0, hc]
        rfl
      · rw [if_neg e] at n0
        have hc : max 1 (ct (key0 acc) (k + 1)) = 2 := by
          have := nc_lt (f := key0 acc) (k := k) (N := k + 1) (by omega)
          omega
        rw [if_neg (by rw [bI_eq]; exact e), vl_d, if_pos rfl, ck_nI (by omega) (by decide), vl_d, if_pos rfl, vl_d, nI_1, vl_d]
        rw [nI_clamp (by omega)]
        show f_X3_divideByAccepting_L7 f m (nI (k + 1)) (sI (sI Z (m + 5) k 1) m 1 2) = f_X3_divideByAccepting_L7 f m (nI (k + 1)) (sI (sI Z (m + 5) k (nI (nc (key0 acc) k))) m 1 (nI (max 1 (ct (key0 acc) (k + 1)))))
        rw [n0, hc]
        rfl
  unfold f_X3_divideByAccepting
  rw [vl_d, vl_d]
  exact loop N 0 fu _ (by omega) (by unfold fu; omega) ⟨rfl, fun id _ i2 _ => sI_id _ _ _ i2, fun b hb => sI_ne _ _ (Or.inr hb)⟩ (fun j hj => absurd hj (by omega)) (sI_at _ _ _ _)
abbrev goA (d : Nat → Nat → Nat) (c : Nat → Nat) (j k : Nat) : Prop := ∀ x, x < 4 → c (d k x) = c (d j x)
theorem goAlike_eq {S : Sg} {c : Nat → Nat} {j k : Nat} (ok : autOk N d) (h : autC S m N d acc) (hc : ∀ k, k < N → S.1 (m + 5) k = nI (c k) ∧ c k < 150) (hk : k < N) (hj : j < N) : (f_X3_goAlike m (nI k) (nI j) S = some (1, S) ∧ goA d c j k) ∨ (f_X3_goAlike m (nI k) (nI j) S = some (0, S) ∧ ¬ goA d c j k) := by
  have hN := ok.2.1
  have loop : ∀ r x fl, x + r = 4 → r + 1 ≤ fl → (∀ y, y < x → c (d k y) = c (d j y)) → (f_X3_goAlike_L2 fl m (nI k) (nI j) (nI x) S = some (1, S) ∧ goA d c j k) ∨ (f_X3_goAlike_L2 fl m (nI k) (nI j) (nI x) S = some (0, S) ∧ ¬ goA d c j k) := by
    intro r
    induction r with
    | zero =>
      intro x fl hx hfl hy
      obtain ⟨f, rfl⟩ : ∃ f, fl = f + 1 := ⟨fl - 1, by omega⟩
      refine Or.inl ⟨?_, fun y hy2 => hy y (by omega)⟩
      rw [f_X3_goAlike_L2, k_4, if_pos (by rw [nI_leI (by omega) (by omega)]; omega)]
    | succ r ih =>
      intro x fl hx hfl hy
      obtain ⟨f, rfl⟩ : ∃ f, fl = f + 1 := ⟨fl - 1, by omega⟩
      have a1 := ok.2.2 k hk x (by omega)
      have a2 := ok.2.2 j hj x (by omega)
      rw [f_X3_goAlike_L2, k_4, if_neg (by rw [nI_leI (by omega) (by omega)]; omega), ← k_4, ixC4, ck_nI (by omega) (by decide), nI_clamp (by omega), h.2.1 k hk x (by omega), vl_d, ixC4, ck_nI (by omega) (by decide), nI_clamp (by omega), h.2.1 j hj x (by omega), vl_d, ck_nI (by omega) (by decide), ck_nI (by omega) (by decide), nI_clamp (by omega), nI_clamp (by omega), (hc _ a1).1, (hc _ a2).1]
      have b1 := (hc _ a1).2
      have b2 := (hc _ a2).2
      by_cases e : c (d k x) = c (d j x)
      · rw [if_pos (by rw [e]), nI_1, vl_d]
        refine ih (x + 1) f (by omega) (by omega) (fun y hy2 => ?_)
        by_cases e2 : y = x
        · subst e2; exact e
        · exact hy y (by omega)
      · rw [if_neg (by rw [nI_eq (by omega) (by omega)]; exact e)]
        exact Or.inr ⟨rfl, fun z => e (z x (by omega))⟩
  unfold f_X3_goAlike
  rw [vl_d]
  exact loop 4 0 fu (by omega) (by unfold fu; omega) (fun y hy => absurd hy (by omega))
def chn2 (S : Sg) : Nat → Int32 → List Nat → Prop
  | _, v, [] => v = -1
  | B, v, j :: r => v = nI j ∧ j < B ∧ chn2 S j (S.1 20 j) r
theorem chn2_len {S : Sg} : ∀ (l : List Nat) (B : Nat) (v : Int32), chn2 S B v l → l.length ≤ B := by
  intro l
  induction l with
  | nil => intro B v _; exact Nat.zero_le _
  | cons j r ih =>
    intro B v h
    have := ih j _ h.2.2
    have := h.2.1
    show r.length + 1 ≤ B
    omega
theorem chn2_f {S S' : Sg} : ∀ (l : List Nat) (B : Nat) (v : Int32), (∀ j, j < B → S'.1 20 j = S.1 20 j) → chn2 S B v l → chn2 S' B v l := by
  intro l
  induction l with
  | nil => intro B v _ h; exact h
  | cons j r ih =>
    intro B v hf h
    refine ⟨h.1, h.2.1, ?_⟩
    have hj := h.2.1
    rw [hf j hj]
    exact ih j _ (fun i hi => hf i (by omega)) h.2.2
theorem chn2_up {S : Sg} {l : List Nat} {B B' : Nat} {v : Int32} (hB : B ≤ B') (h : chn2 S B v l) : chn2 S B' v l := by
  cases l with
  | nil => exact h
  | cons j r => exact ⟨h.1, by have := h.2.1; omega, h.2.2⟩
theorem ldr_loop {S : Sg} {c : Nat → Nat} {k : Nat} (ok : autOk N d) (h : autC S m N d acc) (hc : ∀ k, k < N → S.1 (m + 5) k = nI (c k) ∧ c k < 150) (hk : k < N) : ∀ (l : List Nat) (v : Int32) (t fl B : Nat), chn2 S B v l → B ≤ k → t + l.length < 150 → l.length + 1 ≤ fl → (∃ j, j ∈ l ∧ goA d c j k ∧ f_X3_leaderLike_L15 fl m (nI k) v (nI t) S = some (nI j, S)) ∨ ((∀ j, j ∈ l → ¬ goA d c j k) ∧ f_X3_leaderLike_L15 fl m (nI k) v (nI t) S = some (-1, S)) := by
  have hN := ok.2.1
  intro l
  induction l with
  | nil =>
    intro v t fl B hch hB ht hfl
    obtain ⟨f, rfl⟩ : ∃ f, fl = f + 1 := ⟨fl - 1, by omega⟩
    have ht' : t + 0 < 150 := ht
    have hv : v = -1 := hch
    refine Or.inr ⟨fun j hj => absurd hj (by simp), ?_⟩
    rw [f_X3_leaderLike_L15, if_neg (by rw [k_150, nI_leI (by omega) (by omega)]; omega), if_pos hv]
  | cons j q ih =>
    intro v t fl B hch hB ht hfl
    have hl : (j :: q).length = q.length + 1 := rfl
    obtain ⟨f, rfl⟩ : ∃ f, fl = f + 1 := ⟨fl - 1, by omega⟩
    obtain ⟨h1, h3, h4⟩ := hch
    subst h1
    have e0 : f_X3_leaderLike_L15 (f + 1) m (nI k) (nI j) (nI t) S = bd2 (f_X3_goAlike m (nI k) (nI j) S) (fun r_4 S_3 => (if r_4 = 0 then ck (nI j) 150 (vl ((S_3.1 20 (Int32.toNatClampNeg (nI j)))) (fun x3_5 => vl (nI t + (1 : Int32)) (fun x4_6 => (f_X3_leaderLike_L15 f) m (nI k) x3_5 x4_6 S_3))) else some (nI j, S_3))) := by
      rw [f_X3_leaderLike_L15, if_neg (by rw [k_150, nI_leI (by omega) (by omega)]; omega), if_neg (nIm (by omega))]
    rw [e0]
    rcases goAlike_eq ok h hc hk (show j < N by omega) with ⟨y1, y2⟩ | ⟨y1, y2⟩
    · exact Or.inl ⟨j, by simp, y2, by rw [y1, bd2_some, if_neg n10]⟩
    · rw [y1, bd2_some, if_pos rfl, ck_nI (by omega) (by decide), nI_clamp (by omega), vl_d, nI_1, vl_d]
      rcases ih (S.1 20 j) (t + 1) f j h4 (by omega) (by omega) (by omega) with ⟨i, i1, i2, i3⟩ | ⟨i1, i2⟩
      · exact Or.inl ⟨i, by simp [i1], i2, i3⟩
      · refine Or.inr ⟨fun i hi => ?_, i2⟩
        rcases List.mem_cons.mp hi with z | z
        · subst z; exact y2
        · exact i1 i z
theorem keyN_eq (d : Nat → Nat → Nat) (c : Nat → Nat) (j k : Nat) : keyN d c j = keyN d c k ↔ c j = c k ∧ goA d c j k := by
  unfold keyN
  constructor
  · intro h
    have h1 := congrArg Prod.fst h
    have h2 := congrArg (fun z => z.2.1) h
    have h3 := congrArg (fun z => z.2.2.1) h
    have h4 := congrArg (fun z => z.2.2.2.1) h
    have h5 := congrArg (fun z => z.2.2.2.2) h
    refine ⟨h1, fun x hx => ?_⟩
    rcases (show x = 0 ∨ x = 1 ∨ x = 2 ∨ x = 3 by omega) with rfl | rfl | rfl | rfl
    · exact h2.symm
    · exact h3.symm
    · exact h4.symm
    · exact h5.symm
  · rintro ⟨h1, h2⟩
    rw [h1, h2 0 (by omega), h2 1 (by omega), h2 2 (by omega), h2 3 (by omega)]
def ldrs (S : Sg) (c : Nat → Nat) (g : Nat → Key) (n k : Nat) : Prop := ∀ b, b < n → ∃ l, chn2 S k (S.1 19 b) l ∧ ∀ i, i ∈ l ↔ (i < k ∧ ld g i = i ∧ c i = b)
theorem divNext_eq {S : Sg} {f : Nat → Key} (hm : 79 ≤ m) (ok : autOk N d) (h : autC S m N d acc) (hcl : clC S m N f) : ∃ S', f_X3_divideByNext m S = some (bI (decide (ct f N < ct (keyN d (nc f)) N)), S') ∧ clF m S S' ∧ clC S' m N (keyN d (nc f)) := by
  have hN := ok.2.1
  have hN1 := ok.1
  have hct : ct f N ≤ N := ct_le f N
  have hcl' : ∀ k, k < N → nc f k < 150 := fun k hk => by have := nc_lt (f := f) hk; omega
  -- all leaders away
  have l2 : ∀ r b fl (Z : Sg), b + r = ct f N → r + 1 ≤ fl → (Z.2 = S.2 ∧ ∀ id, id ≠ 19 → Z.1 id = S.1 id) → (∀ c, c < b → Z.1 19 c = -1) → ∃ S', f_X3_divideByNext_L2 fl m (nI b) Z = f_X3_divideByNext_L27 fu m (nI 0) (nI 0) S' ∧ (S'.2 = S.2 ∧ ∀ id, id ≠ 19 → S'.1 id = S.1 id) ∧ ∀ c, c < ct f N → S'.1 19 c = -1 := by
    intro r
    induction r with
    | zero =>
      intro b fl Z hb hfl z1 z2
      obtain ⟨g, rfl⟩ : ∃ g, fl = g + 1 := ⟨fl - 1, by omega⟩
      refine ⟨Z, ?_, z1, fun c hc => z2 c (by omega)⟩
      rw [f_X3_divideByNext_L2, z1.2 m (by omega), hcl.2, if_pos (by rw [nI_leI (by omega) (by omega)]; omega), vl_d, vl_d]; rfl
    | succ r ih =>
      intro b fl Z hb hfl z1 z2
      obtain ⟨g, rfl⟩ : ∃ g, fl = g + 1 := ⟨fl - 1, by omega⟩
      obtain ⟨S', u1, u2⟩ := ih (b + 1) g (sI Z 19 b (-1)) (by omega) (by omega) ⟨z1.1, fun id hid => by rw [sI_id _ _ _ hid]; exact z1.2 id hid⟩ (fun c hc => by
        by_cases e : c = b
        · subst e; exact sI_at _ _ _ _
        · rw [sI_ne _ _ (Or.inr e)]; exact z2 c (by omega))
      refine ⟨S', ?_, u2⟩
      rw [← u1, f_X3_divideByNext_L2, z1.2 m (by omega), hcl.2, if_neg (by rw [nI_leI (by omega) (by omega)]; omega), ck_nI (by omega) (by decide), nI_clamp (by omega), vl_d, nI_1, vl_d]
  generalize hg : keyN d (nc f) = g
  have hgk : ∀ j k, g j = g k ↔ nc f j = nc f k ∧ goA d (nc f) j k := fun j k => by rw [← hg]; exact keyN_eq d (nc f) j k
  have loop : ∀ r k fl (Z : Sg), k + r = N → r + 1 ≤ fl → (Z.2 = S.2 ∧ ∀ id, id ≠ 18 → id ≠ 19 → id ≠ 20 → Z.1 id = S.1 id) → (∀ j, j < k → Z.1 18 j = nI (nc g j)) → ldrs Z (nc f) g (ct f N) k → ∃ S', f_X3_divideByNext_L27 fl m (nI (ct g k)) (nI k) Z = some (bI (decide (ct f N < ct g N)), S') ∧ clF m S S' ∧ clC S' m N g := by
    intro r
    induction r with
    | zero =>
      intro k fl Z hk hfl z1 z2 z3
      obtain ⟨q, rfl⟩ : ∃ q, fl = q + 1 := ⟨fl - 1, by omega⟩
      have e : k = N := by omega
      subst e
      have hg2 : ct g k ≤ k := ct_le g k
      have fin : ∀ b : Bool, ∃ S', f_X3_divideByNext_L123 m (nI (ct g k)) (bI b) Z = some (bI b, S') ∧ clF m S S' ∧ clC S' m k g := by
        intro b
        let Y : Sg := sC Z (m + 5) (va_cpy (Z.1 18) (Z.1 (m + 5)) 0 0 k)
        have y1 : ∀ id, id ≠ m + 5 → Y.1 id = Z.1 id := fun id hid => by
          funext x
          show (sC Z (m + 5) _).1 id x = _
          rw [sC_get, if_neg hid]
        refine ⟨sI Y m 1 (nI (ct g k)), ?_, ⟨z1.1, fun id i1 i2 i3 => by rw [sI_id _ _ _ i2, y1 id i3]; exact z1.2 id (by omega) (by omega) (by omega), fun b hb => by rw [sI_ne _ _ (Or.inr hb), y1 m (by omega), z1.2 m (by omega) (by omega) (by omega)]⟩, fun j hj => ?_, sI_at _ _ _ _⟩
        · unfold f_X3_divideByNext_L123
          rw [vl_d, z1.2 m (by omega) (by omega) (by omega), h.1, cpk_ok (by omega) (by omega) (by omega), nI_clamp (by omega), show Int32.toNatClampNeg 0 = 0 from rfl, vl_d, vl_d, zk_b]
        · rw [sI_id _ _ _ (by omega)]
          show (sC Z (m + 5) _).1 (m + 5) j = _
          rw [sC_get, if_pos rfl]
          unfold va_cpy
          rw [if_pos (by omega), Nat.zero_add, Nat.sub_zero]
          exact z2 j hj
      rw [f_X3_divideByNext_L27, z1.2 m (by omega) (by omega) (by omega), h.1, hcl.2, if_pos (by rw [nI_leI (by omega) (by omega)]; omega)]
      by_cases e : ct f k < ct g k
      · rw [if_neg (by rw [nI_leI (by omega) (by omega)]; omega), decide_eq_true e]
        exact fin true
      · rw [if_pos (by rw [nI_leI (by omega) (by omega)]; omega), decide_eq_false e]
        exact fin false
    | succ r ih =>
      intro k fl Z hk hfl z1 z2 z3
      obtain ⟨q, rfl⟩ : ∃ q, fl = q + 1 := ⟨fl - 1, by omega⟩
      have hk' : k < N := by omega
      have hZ : autC Z m N d acc := ⟨by rw [z1.2 m (by omega) (by omega) (by omega)]; exact h.1, fun i hi x hx => by rw [z1.2 (m + 1) (by omega) (by omega) (by omega)]; exact h.2.1 i hi x hx, fun i hi => by rw [z1.2 (m + 4) (by omega) (by omega) (by omega)]; exact h.2.2 i hi⟩
      have hcZ : ∀ i, i < N → Z.1 (m + 5) i = nI (nc f i) ∧ nc f i < 150 := fun i hi => ⟨by rw [z1.2 (m + 5) (by omega) (by omega) (by omega)]; exact hcl.1 i hi, hcl' i hi⟩
      have hck := nc_lt (f := f) hk'
      have hctk : ct g k ≤ k := ct_le g k
      obtain ⟨l, l1, l2'⟩ := z3 (nc f k) hck
      have hlen := chn2_len l k _ l1
      have hll : f_X3_leaderLike m (nI k) Z = f_X3_leaderLike_L15 fu m (nI k) (Z.1 19 (nc f k)) (nI 0) Z := by
        unfold f_X3_leaderLike
        rw [ck_nI (by omega) (by decide), nI_clamp (by omega), (hcZ k hk').1, ck_nI (by omega) (by decide), nI_clamp (by omega), vl_d, vl_d]; rfl
      have hs := ct_s g k
      rcases ldr_loop ok hZ hcZ hk' l (Z.1 19 (nc f k)) 0 fu k l1 (by omega) (by omega) (by unfold fu; omega) with ⟨j, j1, j2, j3⟩ | ⟨j1, j2⟩
      · have hj := (l2' j).mp j1
        have hld : ld g k = j := by
          have e : g j = g k := (hgk j k).mpr ⟨hj.2.2, j2⟩
          rw [← ld_eq.mpr e, hj.2.1]
        rw [hld, if_neg (by omega)] at hs
        obtain ⟨S', u1, u2⟩ := ih (k + 1) q (sI Z 18 k (nI (nc g k))) (by omega) (by omega) ⟨z1.1, fun id i1 i2 i3 => by rw [sI_id _ _ _ i1]; exact z1.2 id i1 i2 i3⟩ (fun i hi => by
          by_cases e : i = k
          · subst e; exact sI_at _ _ _ _
          · rw [sI_ne _ _ (Or.inr e)]; exact z2 i (by omega)) (fun b hb => by
          obtain ⟨lb, m1, m2⟩ := z3 b hb
          refine ⟨lb, chn2_up (by omega) (chn2_f (S := Z) lb k _ (fun i _ => by rw [sI_id _ _ _ (by decide)]) (by rw [sI_id _ _ _ (by decide)]; exact m1)), fun i => ?_⟩
          rw [m2 i]
          constructor
          · rintro ⟨a1, a2, a3⟩; exact ⟨by omega, a2, a3⟩
          · rintro ⟨a1, a2, a3⟩
            refine ⟨?_, a2, a3⟩
            by_cases e : i = k
            · subst e; omega
            · omega)
        rw [hs, Nat.add_zero] at u1
        refine ⟨S', ?_, u2⟩
        rw [← u1, f_X3_divideByNext_L27, hZ.1, if_neg (by rw [nI_leI (by omega) (by omega)]; omega), hll, j3, bd2_some, vl_d, if_neg (nIm (by omega)), ck_nI (by omega) (by decide), ck_nI (by omega) (by decide), nI_clamp (by omega), nI_clamp (by omega), z2 j hj.1, vl_d, nI_1, vl_d]
        have : nc g j = nc g k := by unfold nc; rw [hld, hj.2.1]
        rw [this]
      · have hld : ld g k = k := by
          obtain ⟨b1, b2, -⟩ := ld_spec g k
          rcases Nat.lt_or_ge (ld g k) k with z | z
          · have e := (hgk (ld g k) k).mp b2
            exact absurd e.2 (j1 _ ((l2' _).mpr ⟨z, ld_ld g k, e.1⟩))
          · omega
        rw [if_pos hld] at hs
        have hnk : nc g k = ct g k := by unfold nc; rw [hld]
        let Y : Sg := sI (sI (sI Z 20 k (Z.1 19 (nc f k))) 19 (nc f k) (nI k)) 18 k (nI (ct g k))
        have yid : ∀ id, id ≠ 18 → id ≠ 19 → id ≠ 20 → Y.1 id = Z.1 id := fun id i1 i2 i3 => by
          show (sI (sI (sI Z 20 k _) 19 (nc f k) (nI k)) 18 k (nI (ct g k))).1 id = _
          rw [sI_id _ _ _ i1, sI_id _ _ _ i2, sI_id _ _ _ i3]
        have y20 : ∀ i, Y.1 20 i = if i = k then Z.1 19 (nc f k) else Z.1 20 i := fun i => by
          show (sI (sI (sI Z 20 k _) 19 (nc f k) (nI k)) 18 k (nI (ct g k))).1 20 i = _
          rw [sI_id _ _ _ (by decide), sI_id _ _ _ (by decide)]
          by_cases e : i = k
          · rw [if_pos e, e, sI_at]
          · rw [if_neg e, sI_ne _ _ (Or.inr e)]
        have y19 : ∀ i, Y.1 19 i = if i = nc f k then nI k else Z.1 19 i := fun i => by
          show (sI (sI (sI Z 20 k _) 19 (nc f k) (nI k)) 18 k (nI (ct g k))).1 19 i = _
          rw [sI_id _ _ _ (by decide)]
          by_cases e : i = nc f k
          · rw [if_pos e, e, sI_at]
          · rw [if_neg e, sI_ne _ _ (Or.inr e), sI_id _ _ _ (by decide)]
        obtain ⟨S', u1, u2⟩ := ih (k + 1) q Y (by omega) (by omega) ⟨z1.1, fun id i1 i2 i3 => by rw [yid id i1 i2 i3]; exact z1.2 id i1 i2 i3⟩ (fun i hi => by
          show (sI (sI (sI Z 20 k _) 19 (nc f k) (nI k)) 18 k (nI (ct g k))).1 18 i = _
          by_cases e : i = k
          · subst e; rw [sI_at, hnk]
          · rw [sI_ne _ _ (Or.inr e), sI_id _ _ _ (by decide), sI_id _ _ _ (by decide)]; exact z2 i (by omega)) (fun b hb => by
          obtain ⟨lb, m1, m2⟩ := z3 b hb
          have mf : chn2 Y k (Z.1 19 b) lb := chn2_f lb k _ (fun i hi => by rw [y20, if_neg (by omega)]) m1
          by_cases e : b = nc f k
          · refine ⟨k :: lb, ⟨by rw [y19, if_pos e], by omega, by rw [y20, if_pos rfl, ← e]; exact mf⟩, fun i => ?_⟩
            rw [List.mem_cons, m2 i]
            constructor
            · rintro (z | ⟨a1, a2, a3⟩)
              · subst z; exact ⟨by omega, hld, e.symm⟩
              · exact ⟨by omega, a2, a3⟩
            · rintro ⟨a1, a2, a3⟩
              by_cases ei : i = k
              · exact Or.inl ei
              · exact Or.inr ⟨by omega, a2, a3⟩
          · refine ⟨lb, by rw [y19, if_neg e]; exact chn2_up (by omega) mf, fun i => ?_⟩
            rw [m2 i]
            constructor
            · rintro ⟨a1, a2, a3⟩; exact ⟨by omega, a2, a3⟩
            · rintro ⟨a1, a2, a3⟩
              refine ⟨?_, a2, a3⟩
              by_cases ei : i = k
              · subst ei; exact absurd a3.symm e
              · omega)
        refine ⟨S', ?_, u2⟩
        rw [← u1, f_X3_divideByNext_L27, hZ.1, if_neg (by rw [nI_leI (by omega) (by omega)]; omega), hll, j2, bd2_some, vl_d, if_pos rfl, ck_nI (by omega) (by decide), nI_clamp (by omega), (hcZ k hk').1, vl_d, ck_nI (by omega) (by decide), ck_nI (by omega) (by decide), nI_clamp (by omega), vl_d, ck_nI (by omega) (by decide), vl_d, ck_nI (by omega) (by decide), vl_d, nI_1, vl_d, nI_1, vl_d, hs]
  obtain ⟨S1, e1, e2, e3⟩ := l2 (ct f N) 0 fu S (by omega) (by unfold fu; omega) ⟨rfl, fun _ _ => rfl⟩ (fun c hc => absurd hc (by omega))
  obtain ⟨S', u1, u2⟩ := loop N 0 fu S1 (by omega) (by unfold fu; omega) ⟨e2.1, fun id _ i2 _ => e2.2 id i2⟩ (fun j hj => absurd hj (by omega)) (fun b hb => ⟨[], e3 b hb, fun i => ⟨fun z => absurd z (by simp), fun z => absurd z.1 (by omega)⟩⟩)
  refine ⟨S', ?_, u2⟩
  unfold f_X3_divideByNext
  rw [vl_d]
  have e1' : f_X3_divideByNext_L2 fu m 0 S = f_X3_divideByNext_L27 fu m (nI 0) (nI 0) S1 := e1
  rw [e1']
  exact u1
def finC (m : Nat) (S : Sg) : Option Sg := bd2 (f_X3_isFinite m S) (fun r Z => zk r (vl (sI Z m 4 r) (fun Y => some Y)))
theorem classify_eq {S : Sg} (hm : 79 ≤ m) (ok : autOk N d) (h : autC S m N d acc) : ∃ i S', f_X3_classify m S = finC m S' ∧ clF m S S' ∧ clC S' m N (fs d acc (i + 1)) ∧ ct (fs d acc i) N = ct (fs d acc (i + 1)) N := by
  have hN := ok.2.1
  have loop2 : ∀ r i fl (Z : Sg), i + r = 150 → r + 2 ≤ fl → clF m S Z → clC Z m N (fs d acc i) → i + 1 ≤ ct (fs d acc i) N → ∃ i' S', f_X3_classify_L8 fl m 1 (nI i) Z = finC m S' ∧ clF m S S' ∧ clC S' m N (fs d acc (i' + 1)) ∧ ct (fs d acc i') N = ct (fs d acc (i' + 1)) N := by
    intro r
    induction r with
    | zero =>
      intro i fl Z hi hfl z1 z2 z3
      have := ct_le (fs d acc i) N
      omega
    | succ r ih =>
      intro i fl Z hi hfl z1 z2 z3
      obtain ⟨q, rfl⟩ : ∃ q, fl = q + 1 := ⟨fl - 1, by omega⟩
      obtain ⟨S1, e1, e2, e3⟩ := divNext_eq hm ok (autC_f hm h z1) z2
      have hd : f_X3_classify_L8 (q + 1) m 1 (nI i) Z = f_X3_classify_L8 q m (bI (decide (ct (fs d acc i) N < ct (fs d acc (i + 1)) N))) (nI (i + 1)) S1 := by
        rw [f_X3_classify_L8, if_neg (by rw [k_150, nI_leI (by omega) (by omega)]; omega), if_neg n10, e1, bd2_some, vl_d, nI_1, vl_d]
        rfl
      rw [hd]
      by_cases e : ct (fs d acc i) N < ct (fs d acc (i + 1)) N
      · rw [decide_eq_true e]
        exact ih (i + 1) q S1 (by omega) (by omega) (clF_t z1 e2) e3 (by omega)
      · rw [decide_eq_false e]
        have := fine_le (fs_fine d acc i) N
        refine ⟨i, S1, ?_, clF_t z1 e2, e3, by omega⟩
        obtain ⟨q2, rfl⟩ : ∃ q2, q = q2 + 1 := ⟨q - 1, by omega⟩
        rw [f_X3_classify_L8]
        by_cases z : (150 : Int32) ≤ nI (i + 1)
        · rw [if_pos z]; rfl
        · rw [if_neg z, if_pos (show bI false = 0 by decide)]; rfl
  obtain ⟨S1, a1, a2, a3⟩ := divAcc_eq hm ok h
  obtain ⟨i', S', u⟩ := loop2 150 0 fu S1 (by omega) (by unfold fu; omega) a2 a3 (by have := ct_pos (f := fs d acc 0) ok.1; omega)
  refine ⟨i', S', ?_, u.2⟩
  rw [← u.1]
  unfold f_X3_classify
  rw [a1, bd_some, vl_d, vl_d]
  rfl
end CLC
