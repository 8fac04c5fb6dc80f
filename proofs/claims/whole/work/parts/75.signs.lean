theorem k_10 : (10 : Int32) = nI 10 := by decide +kernel
theorem k_33 : (33 : Int32) = nI 33 := by decide +kernel
theorem k_38 : (38 : Int32) = nI 38 := by decide +kernel
theorem k_40 : (40 : Int32) = nI 40 := by decide +kernel
theorem k_41 : (41 : Int32) = nI 41 := by decide +kernel
theorem k_42 : (42 : Int32) = nI 42 := by decide +kernel
theorem k_43 : (43 : Int32) = nI 43 := by decide +kernel
theorem k_44 : (44 : Int32) = nI 44 := by decide +kernel
theorem k_45 : (45 : Int32) = nI 45 := by decide +kernel
theorem k_46 : (46 : Int32) = nI 46 := by decide +kernel
theorem k_48 : (48 : Int32) = nI 48 := by decide +kernel
theorem k_49 : (49 : Int32) = nI 49 := by decide +kernel
theorem k_63 : (63 : Int32) = nI 63 := by decide +kernel
theorem k_91 : (91 : Int32) = nI 91 := by decide +kernel
theorem k_93 : (93 : Int32) = nI 93 := by decide +kernel
theorem k_94 : (94 : Int32) = nI 94 := by decide +kernel
theorem k_123 : (123 : Int32) = nI 123 := by decide +kernel
theorem k_124 : (124 : Int32) = nI 124 := by decide +kernel
theorem k_125 : (125 : Int32) = nI 125 := by decide +kernel
theorem nar_0 : vp_nar .boolean (0 : Int32) = 0 := by decide +kernel
theorem nar_1 : vp_nar .boolean (1 : Int32) = 1 := by decide +kernel
theorem nar_b (b : Bool) : vp_nar .boolean (bI b) = bI b := by cases b <;> decide +kernel
theorem zk_b {β : Type} (b : Bool) (K : Option β) : zk (bI b) K = K := by cases b <;> rfl
/-- bit k of x, as both texts ask for it -/
theorem tst0 (x : Int32) {k : Nat} (hk : k < 32) : ((x >>> (nI k &&& 31)) &&& (1 : Int32)) = 0 ↔ bt x k = false := by
  have h1 : ∀ i, i < 32 → bt (1 : Int32) i = decide (i = 0) := by decide +kernel
  constructor
  · intro h
    have := congrArg (fun z => bt z 0) h
    simp only [b_and, b_0] at this
    rw [b_sshr k hk x (by omega), if_pos (by omega), h1 0 (by omega)] at this
    simpa using this
  · intro h
    apply b_ext
    intro i hi
    rw [b_and, b_0, b_sshr k hk x hi, h1 i hi]
    by_cases e : i = 0
    · subst e; rw [if_pos (by omega), Nat.add_zero, h]; rfl
    · rw [decide_eq_false e, Bool.and_false]
theorem tst1 (x : Int32) {k : Nat} (hk : k < 32) : ((x >>> (nI k &&& 31)) &&& (1 : Int32)) = 1 ↔ bt x k = true := by
  have h1 : ∀ i, i < 32 → bt (1 : Int32) i = decide (i = 0) := by decide +kernel
  constructor
  · intro h
    have := congrArg (fun z => bt z 0) h
    simp only [b_and] at this
    rw [b_sshr k hk x (by omega), if_pos (by omega), h1 0 (by omega)] at this
    simpa using this
  · intro h
    apply b_ext
    intro i hi
    rw [b_and, b_sshr k hk x hi, h1 i hi]
    by_cases e : i = 0
    · subst e; rw [if_pos (by omega), Nat.add_zero, h]; rfl
    · rw [decide_eq_false e, Bool.and_false]
theorem bt_shl {k : Nat} (hk : k < 32) (i : Nat) : bt ((1 : Int32) <<< (nI k &&& 31)) i = decide (i = k) := by
  rcases Nat.lt_or_ge i 32 with h | h
  · have h1 : ∀ i, i < 32 → bt (1 : Int32) i = decide (i = 0) := by decide +kernel
    rw [b_shl k hk _ h]
    by_cases e : i = k
    · subst e; rw [Nat.sub_self, h1 0 (by omega)]; simp
    · by_cases e2 : k ≤ i
      · rw [h1 (i - k) (by omega), decide_eq_false (by omega : ¬ i - k = 0), decide_eq_false e, Bool.and_false]
      · rw [decide_eq_false e2, decide_eq_false e, Bool.false_and]
  · rw [b_big h, decide_eq_false (by omega)]
/-- the text and the place in it: 999 is the end -/
def chr (n : Nat) (tx : Nat → Nat) (a : Nat) : Nat := if a < n then tx a else 999
abbrev isLt (c : Nat) : Prop := 97 ≤ c ∧ c ≤ 100
abbrev isAt (c : Nat) : Prop := isLt c ∨ c = 46 ∨ c = 91 ∨ c = 40 ∨ c = 48 ∨ c = 49
def okT (n : Nat) (tx : Nat → Nat) : Prop := n ≤ 100 ∧ ∀ k, tx k < 256
def tC (n : Nat) (tx : Nat → Nat) (S : Sg) (a : Nat) : Prop := S.1 3 1 = nI n ∧ S.1 3 2 = nI a ∧ (∀ k, k < n → S.1 4 k = nI (tx k))
def tM (n : Nat) (tx : Nat → Nat) (T : Sg) (a : Nat) : Prop := T.1 34 3 = nI n ∧ T.1 34 27 = nI a ∧ (∀ k, k < n → T.1 36 k &&& 255 = nI (tx k))
def sgn (n : Nat) (tx : Nat → Nat) (a : Nat) : Int32 := if a < n then nI (tx a) else -1
section SIGNS
variable {n : Nat} {tx : Nat → Nat} {S T : Sg} {a : Nat}
theorem sign_eq (ok : okT n tx) (h : tC n tx S a) (ha : a < 2 ^ 31) : f_X6_sign S = some (sgn n tx a, S) := by
  have := ok.1
  unfold f_X6_sign sgn
  rw [h.1, h.2.1]
  by_cases e : a < n
  · rw [if_neg (by rw [nI_leI (by omega) (by omega)]; omega), if_pos e, ck_nI (by omega) (by decide), nI_clamp (by omega), h.2.2 a e]
  · rw [if_pos (by rw [nI_leI (by omega) (by omega)]; omega), if_neg e]
theorem sgn_is (ok : okT n tx) {k : Nat} (hk : k < 256) : sgn n tx a = nI k ↔ chr n tx a = k := by
  unfold sgn chr
  have := ok.2 a
  by_cases e : a < n
  · rw [if_pos e, if_pos e, nI_eq (by omega) (by omega)]
  · rw [if_neg e, if_neg e]
    constructor
    · intro h
      exact absurd h.symm (nIm (by omega))
    · intro h; omega
theorem sgn_lt (ok : okT n tx) (h : isLt (chr n tx a)) : sgn n tx a = nI (chr n tx a) := (sgn_is ok (by have := h.2; omega)).mpr rfl
theorem isLet_eq (ok : okT n tx) : f_X9_isLetter (sgn n tx a) S = some (bI (decide (isLt (chr n tx a))), S) := by
  unfold f_X9_isLetter
  have := ok.2 a
  by_cases h : isLt (chr n tx a)
  · have h2 := h.1
    have h3 := h.2
    rw [sgn_lt ok h, k_97, k_100, if_neg (by rw [nI_ltI (by omega) (by omega)]; omega), if_neg (by rw [nI_ltI (by omega) (by omega)]; omega), decide_eq_true h]
    rfl
  · rw [decide_eq_false h]
    unfold sgn
    by_cases e : a < n
    · have hc : chr n tx a = tx a := if_pos e
      rw [hc] at h
      rw [if_pos e, k_97, k_100]
      unfold isLt at h
      by_cases h1 : tx a < 97
      · rw [if_pos (by rw [nI_ltI (by omega) (by omega)]; exact h1)]; rfl
      · rw [if_neg (by rw [nI_ltI (by omega) (by omega)]; exact h1), if_pos (by rw [nI_ltI (by omega) (by omega)]; omega)]; rfl
    · rw [if_neg e, if_pos (by decide)]; rfl
theorem beginsAtom_eq (ok : okT n tx) : f_X6_beginsAtom (sgn n tx a) S = some (bI (decide (isAt (chr n tx a))), S) := by
  unfold f_X6_beginsAtom
  rw [isLet_eq ok, bd2_some, k_46, k_91, k_40, k_48, k_49]
  simp only [sgn_is ok (show 46 < 256 by decide), sgn_is ok (show 91 < 256 by decide), sgn_is ok (show 40 < 256 by decide), sgn_is ok (show 48 < 256 by decide), sgn_is ok (show 49 < 256 by decide)]
  generalize chr n tx a = c
  unfold isAt
  by_cases h : isLt c
  · rw [decide_eq_true h, if_neg (show ¬ bI true = 0 by decide), decide_eq_true (Or.inl h)]; rfl
  · rw [decide_eq_false h, if_pos (show bI false = 0 by decide)]
    by_cases h1 : c = 46
    · simp [h1, bI]
    · by_cases h2 : c = 91
      · simp [h2, bI]
      · by_cases h3 : c = 40
        · simp [h3, bI]
        · by_cases h4 : c = 48
          · simp [h4, bI]
          · by_cases h5 : c = 49
            · simp [h5, bI]
            · simp [h, h1, h2, h3, h4, h5, bI]
/-- class: decisions on the sign -/
theorem cs_is {β : Type} (ok : okT n tx) (h : tC n tx S a) (ha : a < 2 ^ 31) {k : Nat} (hk : k < 256) (A B : Sg → Option β) : bd2 (f_X6_sign S) (fun r Z => if r = nI k then A Z else B Z) = if chr n tx a = k then A S else B S := by
  rw [sign_eq ok h ha, bd2_some]
  by_cases e : chr n tx a = k
  · rw [if_pos e, if_pos ((sgn_is ok hk).mpr e)]
  · rw [if_neg e, if_neg (fun z => e ((sgn_is ok hk).mp z))]
theorem here_eq (ok : okT n tx) (h : tM n tx T a) (ha : a < 2 ^ 31) : f_X10_here T = some (if a < n then nI (tx a) else nI 0, T) := by
  have := ok.1
  unfold f_X10_here
  rw [h.1, h.2.1]
  by_cases e : a < n
  · rw [if_neg (by rw [nI_leI (by omega) (by omega)]; omega), if_pos e, ck_nI (by omega) (by decide), nI_clamp (by omega), h.2.2 a e]
  · rw [if_pos (by rw [nI_leI (by omega) (by omega)]; omega), if_neg e, k_0]
theorem sees_eq (ok : okT n tx) (h : tM n tx T a) (ha : a < 2 ^ 31) {k : Nat} (hk : k < 256) : f_X10_sees (nI k) T = some (bI (decide (chr n tx a = k)), T) := by
  have := ok.1
  have := ok.2 a
  unfold f_X10_sees chr
  rw [h.1, h.2.1]
  by_cases e : a < n
  · rw [if_neg (by rw [nI_leI (by omega) (by omega)]; omega), if_pos e, ck_nI (by omega) (by decide), nI_clamp (by omega), h.2.2 a e]
    by_cases e2 : tx a = k
    · rw [if_pos (by rw [e2]), decide_eq_true e2]; rfl
    · rw [if_neg (by rw [nI_eq (by omega) (by omega)]; exact e2), decide_eq_false e2]; rfl
  · rw [if_pos (by rw [nI_leI (by omega) (by omega)]; omega), if_neg e, decide_eq_false (by omega)]; rfl
theorem seesLetter_eq (ok : okT n tx) (h : tM n tx T a) (ha : a < 2 ^ 31) : f_X10_seesLetter T = some (bI (decide (isLt (chr n tx a))), T) := by
  have := ok.2 a
  unfold f_X10_seesLetter chr isLt
  rw [here_eq ok h ha, bd2_some, lies_eq, bd2_some, k_97, k_100]
  by_cases e : a < n
  · rw [if_pos e, if_pos e]
    by_cases e1 : tx a < 97
    · rw [if_pos (by rw [nI_ltI (by omega) (by omega)]; exact e1), decide_eq_false (by omega)]; rfl
    · by_cases e2 : 100 < tx a
      · rw [if_neg (by rw [nI_ltI (by omega) (by omega)]; exact e1), if_pos (by rw [nI_ltI (by omega) (by omega)]; exact e2), decide_eq_false (by omega)]; rfl
      · rw [if_neg (by rw [nI_ltI (by omega) (by omega)]; exact e1), if_neg (by rw [nI_ltI (by omega) (by omega)]; exact e2), decide_eq_true (by omega)]; rfl
  · rw [if_neg e, if_neg e, if_pos (by decide), decide_eq_false (by omega)]; rfl
theorem seesAtom_eq (ok : okT n tx) (h : tM n tx T a) (ha : a < 2 ^ 31) : f_X10_seesAtom T = some (bI (decide (isAt (chr n tx a))), T) := by
  unfold f_X10_seesAtom
  rw [seesLetter_eq ok h ha, bd2_some, k_46, k_91, k_40, k_48, k_49]
  unfold isAt
  by_cases h0 : isLt (chr n tx a)
  · rw [decide_eq_true h0, if_neg (show ¬ bI true = 0 by decide), decide_eq_true (Or.inl h0)]; rfl
  · rw [decide_eq_false h0, if_pos (show bI false = 0 by decide), sees_eq ok h ha (by decide), bd2_some]
    by_cases h1 : chr n tx a = 46
    · simp [h1, bI]
    · rw [decide_eq_false h1, if_pos (show bI false = 0 by decide), sees_eq ok h ha (by decide), bd2_some]
      by_cases h2 : chr n tx a = 91
      · simp [h2, bI]
      · rw [decide_eq_false h2, if_pos (show bI false = 0 by decide), sees_eq ok h ha (by decide), bd2_some]
        by_cases h3 : chr n tx a = 40
        · simp [h3, bI]
        · rw [decide_eq_false h3, if_pos (show bI false = 0 by decide), sees_eq ok h ha (by decide), bd2_some]
          by_cases h4 : chr n tx a = 48
          · simp [h4, bI]
          · rw [decide_eq_false h4, if_pos (show bI false = 0 by decide), sees_eq ok h ha (by decide), bd2_some]
            by_cases h5 : chr n tx a = 49
            · simp [h5, bI]
            · simp [h0, h1, h2, h3, h4, h5, bI]
/-- a decision by a boolean -/
theorem dec_b {β : Type} {P : Prop} [Decidable P] {f : Option (Int32 × Sg)} (h : f = some (bI (decide P), T)) (A B : Sg → Option β) : bd2 f (fun r Z => if r = 0 then A Z else B Z) = if P then B T else A T := by
  rw [h, bd2_some]
  by_cases e : P
  · rw [if_pos e, decide_eq_true e, if_neg (show ¬ bI true = 0 by decide)]
  · rw [if_neg e, decide_eq_false e, if_pos (show bI false = 0 by decide)]
theorem ms_is {β : Type} (ok : okT n tx) (h : tM n tx T a) (ha : a < 2 ^ 31) {k : Nat} (hk : k < 256) (A B : Sg → Option β) : bd2 (f_X10_sees (nI k) T) (fun r Z => if r = 0 then A Z else B Z) = if chr n tx a = k then B T else A T := dec_b (sees_eq ok h ha hk) A B
theorem ms_let {β : Type} (ok : okT n tx) (h : tM n tx T a) (ha : a < 2 ^ 31) (A B : Sg → Option β) : bd2 (f_X10_seesLetter T) (fun r Z => if r = 0 then A Z else B Z) = if isLt (chr n tx a) then B T else A T := dec_b (seesLetter_eq ok h ha) A B
theorem ms_atom {β : Type} (ok : okT n tx) (h : tM n tx T a) (ha : a < 2 ^ 31) (A B : Sg → Option β) : bd2 (f_X10_seesAtom T) (fun r Z => if r = 0 then A Z else B Z) = if isAt (chr n tx a) then B T else A T := dec_b (seesAtom_eq ok h ha) A B
theorem cs_let {β : Type} (ok : okT n tx) (A B : Sg → Option β) : bd2 (f_X9_isLetter (sgn n tx a) T) (fun r Z => if r = 0 then A Z else B Z) = if isLt (chr n tx a) then B T else A T := dec_b (isLet_eq ok) A B
theorem cs_atom {β : Type} (ok : okT n tx) (A B : Sg → Option β) : bd2 (f_X6_beginsAtom (sgn n tx a) T) (fun r Z => if r = 0 then A Z else B Z) = if isAt (chr n tx a) then B T else A T := dec_b (beginsAtom_eq ok) A B
end SIGNS
