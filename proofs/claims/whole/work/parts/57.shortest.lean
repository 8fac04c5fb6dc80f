def fa (acc : Nat → Bool) : Nat → Nat → Option Nat
  | 0, _ => none
  | r + 1, k => if acc k = true then some k else fa acc r (k + 1)
theorem fa_lt {acc : Nat → Bool} : ∀ (r k j : Nat), fa acc r k = some j → k ≤ j ∧ j < k + r := by
  intro r
  induction r with
  | zero => intro k j h; cases h
  | succ r ih =>
    intro k j h
    unfold fa at h
    by_cases hc : acc k = true
    · rw [if_pos hc] at h; cases h; omega
    · rw [if_neg hc] at h
      have := ih _ _ h
      omega
def faI (o : Option Nat) : Int32 := match o with
  | none => -1
  | some j => nI j
theorem firstC {S : Sg} {m N : Nat} {d : Nat → Nat → Nat} {acc : Nat → Bool} (ok : autOk N d) (cC : autC S m N d acc) : ∀ (r k fl : Nat), k + r = N → r + 1 ≤ fl → f_X4_firstAccepting_L2 fl m (nI k) S = some (faI (fa acc r k), S) := by
  have hb := ok.2.1
  intro r
  induction r with
  | zero =>
    intro k fl h1 h2
    obtain ⟨f, rfl⟩ : ∃ f, fl = f + 1 := ⟨fl - 1, by omega⟩
    rw [f_X4_firstAccepting_L2, cC.1, if_pos (by rw [nI_leI (by omega) (by omega)]; omega)]
    rfl
  | succ r ih =>
    intro k fl h1 h2
    obtain ⟨f, rfl⟩ : ∃ f, fl = f + 1 := ⟨fl - 1, by omega⟩
    rw [f_X4_firstAccepting_L2, cC.1, if_neg (by rw [nI_leI (by omega) (by omega)]; omega), ck_nI (by omega) (by decide), nI_clamp (by omega), cC.2.2 k (by omega)]
    unfold fa
    by_cases hc : acc k = true
    · rw [hc, if_neg (by decide), if_pos rfl]
      rfl
    · rw [Bool.not_eq_true _ |>.mp hc, if_pos (by decide), if_neg (by decide)]
      simp only [vl]
      rw [nI_1]
      exact ih (k + 1) f (by omega) (by omega)
theorem firstM {S : Sg} {s N : Nat} {d : Nat → Nat → Nat} {acc : Nat → Bool} (ok : autOk N d) (cM : autM S s N d acc) (hs : s < 4) : ∀ (r k fl : Nat), k + r = N → r + 1 ≤ fl → f_X10_first_L2 fl (nI s) (nI k) S = some (faI (fa acc r k), S) := by
  have hb := ok.2.1
  intro r
  induction r with
  | zero =>
    intro k fl h1 h2
    obtain ⟨f, rfl⟩ : ∃ f, fl = f + 1 := ⟨fl - 1, by omega⟩
    rw [f_X10_first_L2, ck_nI hs (by decide), nI_clamp (by omega), cM.1, if_pos (by rw [nI_leI (by omega) (by omega)]; omega)]
    rfl
  | succ r ih =>
    intro k fl h1 h2
    obtain ⟨f, rfl⟩ : ∃ f, fl = f + 1 := ⟨fl - 1, by omega⟩
    rw [f_X10_first_L2, ck_nI hs (by decide), nI_clamp (by omega), cM.1, if_neg (by rw [nI_leI (by omega) (by omega)]; omega), isAcc_eq hs (by omega) (cM.2.2 k (by omega)), bd2_some]
    unfold fa
    by_cases hc : acc k = true
    · rw [hc, if_neg (by decide), if_pos rfl]
      rfl
    · rw [Bool.not_eq_true _ |>.mp hc, if_pos (by decide), if_neg (by decide)]
      simp only [vl]
      rw [nI_1]
      exact ih (k + 1) f (by omega) (by omega)
theorem firstC_eq {S : Sg} {m N : Nat} {d : Nat → Nat → Nat} {acc : Nat → Bool} (ok : autOk N d) (cC : autC S m N d acc) : f_X4_firstAccepting m S = some (faI (fa acc N 0), S) := by
  have hb := ok.2.1
  unfold f_X4_firstAccepting
  simp only [vl]
  rw [k_0]
  exact firstC ok cC N 0 fu (by omega) (by unfold fu; omega)
theorem firstM_eq {S : Sg} {s N : Nat} {d : Nat → Nat → Nat} {acc : Nat → Bool} (ok : autOk N d) (cM : autM S s N d acc) (hs : s < 4) : f_X10_first (nI s) S = some (faI (fa acc N 0), S) := by
  have hb := ok.2.1
  unfold f_X10_first
  simp only [vl]
  rw [k_0]
  exact firstM ok cM hs N 0 fu (by omega) (by unfold fu; omega)
/-- the way back, last letter first -/
def pth (fr by_ : Nat → Nat) : Nat → Nat → List Nat
  | 0, _ => []
  | f + 1, k => if k = 0 then [] else by_ k :: pth fr by_ f (fr k)
def par (fr by_ : Nat → Nat) (N : Nat) : Prop := ∀ k, 0 < k → k < N → fr k < k ∧ by_ k < 4
theorem pth_fu {fr by_ : Nat → Nat} {N : Nat} (h : par fr by_ N) : ∀ (b k f g : Nat), k ≤ b → k ≤ f → k ≤ g → k < N → pth fr by_ f k = pth fr by_ g k := by
  intro b
  induction b with
  | zero =>
    intro k f g h0 _ _ _
    have : k = 0 := by omega
    subst this
    cases f <;> cases g <;> rfl
  | succ b ih =>
    intro k f g h0 h1 h2 h3
    cases k with
    | zero => cases f <;> cases g <;> rfl
    | succ j =>
      obtain ⟨f, rfl⟩ : ∃ f', f = f' + 1 := ⟨f - 1, by omega⟩
      obtain ⟨g, rfl⟩ : ∃ g', g = g' + 1 := ⟨g - 1, by omega⟩
      have h4 := (h (j + 1) (by omega) h3).1
      show (if j + 1 = 0 then [] else by_ (j + 1) :: pth fr by_ f (fr (j + 1))) = (if j + 1 = 0 then [] else by_ (j + 1) :: pth fr by_ g (fr (j + 1)))
      rw [if_neg (by omega), if_neg (by omega), ih (fr (j + 1)) f g (by omega) (by omega) (by omega) (by omega)]
def rp (fr by_ : Nat → Nat) (k : Nat) : List Nat := pth fr by_ k k
theorem rp_0 (fr by_ : Nat → Nat) : rp fr by_ 0 = [] := rfl
theorem rp_s {fr by_ : Nat → Nat} {N k : Nat} (h : par fr by_ N) (h0 : 0 < k) (h1 : k < N) : rp fr by_ k = by_ k :: rp fr by_ (fr k) := by
  obtain ⟨j, rfl⟩ : ∃ j, k = j + 1 := ⟨k - 1, by omega⟩
  have h4 := (h (j + 1) (by omega) h1).1
  unfold rp
  show (if j + 1 = 0 then [] else by_ (j + 1) :: pth fr by_ j (fr (j + 1))) = _
  rw [if_neg (by omega), pth_fu h j (fr (j + 1)) j (fr (j + 1)) (by omega) (by omega) (Nat.le_refl _) (by omega)]
theorem rp_len {fr by_ : Nat → Nat} {N : Nat} (h : par fr by_ N) : ∀ (b k : Nat), k ≤ b → k < N → (rp fr by_ k).length ≤ k := by
  intro b
  induction b with
  | zero =>
    intro k h0 _
    have : k = 0 := by omega
    subst this
    exact Nat.le_refl _
  | succ b ih =>
    intro k h0 h1
    by_cases hk : k = 0
    · subst hk; exact Nat.le_refl _
    · have h4 := (h k (by omega) h1).1
      rw [rp_s h (by omega) h1, List.length_cons]
      have := ih (fr k) (by omega) (by omega)
      omega
theorem nI_m1 (c : Nat) : nI c + (-1 : Int32) = nI c - 1 := by
  rw [Int32.sub_eq_add_neg]
theorem nI_0m1 : nI 0 - 1 < (0 : Int32) := by decide +kernel
theorem remd {a : Nat} (ha : a < 2 ^ 31) : nI a - nI a / (4 : Int32) * (4 : Int32) = nI (a % 4) ∧ nI a / (4 : Int32) = nI (a / 4) := by
  rw [k_4]
  exact ⟨pk_rem ha (by decide) (by decide), pk_div ha (by decide) (by decide)⟩
theorem nz4 {β : Type} (K : Option β) : nz (4 : Int32) K = K := nz_ok (by decide) K
section TRACE
variable {m N : Nat} {fr by_ : Nat → Nat}
def orgC (S : Sg) (m N : Nat) (fr by_ : Nat → Nat) : Prop := ∀ k, 0 < k → k < N → S.1 (m + 2) k = nI (4 * fr k + by_ k)
theorem trC_back (hp : par fr by_ N) (hN : N ≤ 150) (hm : 79 ≤ m) {x3 : Int32} : ∀ (c j fl : Nat) (S : Sg), orgC S m N fr by_ → j < N → (rp fr by_ j).length = c → c + 1 ≤ fl → ∃ S', f_X8_trace_m_L41 fl m x3 (nI j) (nI c - 1) S = some S' ∧ S'.2 = S.2 ∧ S'.1 32 1 = x3 ∧ (∀ t, c ≤ t → S'.1 33 t = S.1 33 t) ∧ (∀ u, u < c → S'.1 33 (c - 1 - u) = nI ((rp fr by_ j).getD u 0)) ∧ ∀ id, id ≠ 32 → id ≠ 33 → S'.1 id = S.1 id := by
  intro c
  induction c with
  | zero =>
    intro j fl S ho hj hl hfl
    obtain ⟨f, rfl⟩ : ∃ f, fl = f + 1 := ⟨fl - 1, by omega⟩
    refine ⟨sI S 32 1 x3, ?_, rfl, sI_at _ _ _ _, fun t _ => by rw [sI_id _ _ _ (by decide)], fun u h => absurd h (by omega), fun id h1 _ => sI_id _ _ _ h1⟩
    rw [f_X8_trace_m_L41, if_pos nI_0m1]
    rfl
  | succ c ih =>
    intro j fl S ho hj hl hfl
    obtain ⟨f, rfl⟩ : ∃ f, fl = f + 1 := ⟨fl - 1, by omega⟩
    have hj0 : 0 < j := by
      rcases Nat.eq_zero_or_pos j with h | h
      · subst h; rw [rp_0] at hl; simp at hl
      · exact h
    have hpj := hp j hj0 hj
    have hrp := rp_s hp hj0 hj
    have hlen : c + 1 ≤ j := by rw [← hl]; exact rp_len hp j j (Nat.le_refl _) hj
    rw [hrp, List.length_cons] at hl
    have ho' : orgC (sI S 33 c (nI (by_ j))) m N fr by_ := fun k h1 h2 => by rw [sI_id _ _ _ (by omega)]; exact ho k h1 h2
    obtain ⟨S', e, g1, g2, g3, g4, g5⟩ := ih (fr j) f (sI S 33 c (nI (by_ j))) ho' (by omega) (by omega) (by omega)
    refine ⟨S', ?_, g1, g2, fun t ht => ?_, fun u hu => ?_, fun id h1 h2 => by rw [g5 id h1 h2, sI_id _ _ _ h2]⟩
    · have hr := remd (a := 4 * fr j + by_ j) (by omega)
      rw [f_X8_trace_m_L41, k_1, pk_sub (by omega), Nat.add_sub_cancel, if_neg (nI_pos (by omega)), ck_nI (by omega) (by decide), nz4, ck_nI (by omega) (by decide), nI_clamp (by omega), nI_clamp (by omega), ho j hj0 hj, hr.1, show (4 * fr j + by_ j) % 4 = by_ j by omega]
      simp only [vl]
      rw [ck_nI (by omega) (by decide), nz4, sI_id _ _ _ (by omega), ho j hj0 hj, hr.2, show (4 * fr j + by_ j) / 4 = fr j by omega, ← k_1, nI_m1]
      exact e
    · rw [g3 t (by omega), sI_ne _ _ (Or.inr (by omega))]
    · rw [hrp]
      by_cases h0 : u = 0
      · subst h0
        rw [show c + 1 - 1 - 0 = c by omega, g3 c (by omega), sI_at]
        rfl
      · obtain ⟨v, rfl⟩ : ∃ v, u = v + 1 := ⟨u - 1, by omega⟩
        rw [show c + 1 - 1 - (v + 1) = c - 1 - v by omega, g4 v (by omega)]
        rfl
theorem trC_len {last : Int32} (hp : par fr by_ N) (hN : N ≤ 150) : ∀ (b j c fl : Nat) (S : Sg), j ≤ b → orgC S m N fr by_ → j < N → c + j < 300 → j + 1 ≤ fl → f_X8_trace_m_L5 fl m last (nI c) (nI j) S = f_X8_trace_m_L41 fu m (nI (c + (rp fr by_ j).length)) last (nI (c + (rp fr by_ j).length) - 1) S := by
  intro b
  induction b with
  | zero =>
    intro j c fl S hb ho hj hc hfl
    obtain ⟨f, rfl⟩ : ∃ f, fl = f + 1 := ⟨fl - 1, by omega⟩
    have : j = 0 := by omega
    subst this
    rw [f_X8_trace_m_L5, if_pos (by decide +kernel), rp_0]
    simp only [vl, List.length_nil, Nat.add_zero]
  | succ b ih =>
    intro j c fl S hb ho hj hc hfl
    obtain ⟨f, rfl⟩ : ∃ f, fl = f + 1 := ⟨fl - 1, by omega⟩
    by_cases hj0 : j = 0
    · subst hj0
      rw [f_X8_trace_m_L5, if_pos (by decide +kernel), rp_0]
      simp only [vl, List.length_nil, Nat.add_zero]
    · have hpj := hp j (by omega) hj
      have hr := remd (a := 4 * fr j + by_ j) (by omega)
      rw [f_X8_trace_m_L5, if_neg (by rw [k_0, nI_leI (by omega) (by omega)]; omega), if_neg (by rw [show (300 : Int32) = nI 300 by decide +kernel, nI_leI (by omega) (by omega)]; omega), ck_nI (by omega) (by decide), nz4, nI_clamp (by omega), ho j (by omega) hj, hr.2, show (4 * fr j + by_ j) / 4 = fr j by omega]
      simp only [vl]
      rw [nI_1, ih (fr j) (c + 1) f S (by omega) ho (by omega) (by omega) (by omega), rp_s hp (by omega) hj, List.length_cons, show c + 1 + (rp fr by_ (fr j)).length = c + ((rp fr by_ (fr j)).length + 1) by omega]
theorem traceM_eq {S : Sg} {k : Nat} (hp : par fr by_ N) (hN : N ≤ 150) (hm : 79 ≤ m) (ho : orgC S m N fr by_) (hk : k < N) : ∃ S', f_X8_trace_m m (nI k) S = some S' ∧ S'.2 = S.2 ∧ S'.1 32 1 = nI (rp fr by_ k).length ∧ (∀ u, u < (rp fr by_ k).length → S'.1 33 ((rp fr by_ k).length - 1 - u) = nI ((rp fr by_ k).getD u 0)) ∧ ∀ id, id ≠ 32 → id ≠ 33 → S'.1 id = S.1 id := by
  have hl := rp_len hp k k (Nat.le_refl _) hk
  obtain ⟨S', e, g1, g2, -, g4, g5⟩ := trC_back (x3 := nI (rp fr by_ k).length) hp hN hm (rp fr by_ k).length k fu S ho hk rfl (by unfold fu; omega)
  refine ⟨S', ?_, g1, g2, g4, g5⟩
  unfold f_X8_trace_m
  simp only [vl]
  rw [k_0, trC_len hp hN k k 0 fu S (Nat.le_refl _) ho hk (by omega) (by unfold fu; omega), Nat.zero_add]
  exact e
end TRACE
