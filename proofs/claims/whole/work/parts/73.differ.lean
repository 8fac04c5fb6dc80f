section DIFJ
variable {N1 N2 : Nat} {d1 d2 : Nat → Nat → Nat} {acc1 acc2 : Nat → Bool}
theorem hk_mono {c t : Nat} {lf rt fr by_ : Nat → Nat} (h : hk N1 N2 d1 d2 acc1 acc2 c t lf rt fr by_) {k x : Nat} (hx : x < 4) (ht : t = 4 * k + x) (hv : ∀ v, (∀ i, i < c → acc1 (runA d1 (lf i) v) = acc2 (runA d2 (rt i) v)) → acc1 (runA d1 (d1 (lf k) x) v) = acc2 (runA d2 (d2 (rt k) x) v)) : hk N1 N2 d1 d2 acc1 acc2 c (t + 1) lf rt fr by_ := by
  refine ⟨h.1, h.2.1, fun i i0 i1 => ?_, h.2.2.2.1, fun k' x' hx' hk' hlt => ?_⟩
  · obtain ⟨a1, a2, a3, a4, a5⟩ := h.2.2.1 i i0 i1
    exact ⟨a1, a2, a3, a4, by omega⟩
  · rcases (show 4 * k' + x' < t ∨ (k' = k ∧ x' = x) by omega) with z | ⟨rfl, rfl⟩
    · exact h.2.2.2.2 k' x' hx' hk' z
    · refine Or.inr fun v hv2 => hv v (fun i hi => hv2 i hi ?_)
      rcases Nat.eq_zero_or_pos i with z | z
      · exact Or.inl z
      · exact Or.inr (by have := (h.2.2.1 i z hi).2.2.2.2; omega)
theorem hk_add {c t : Nat} {lf rt fr by_ lf' rt' fr' by' : Nat → Nat} (o1 : autOk N1 d1) (o2 : autOk N2 d2) (h : hk N1 N2 d1 d2 acc1 acc2 c t lf rt fr by_) {k x : Nat} (hx : x < 4) (hkc : k < c) (ht : t = 4 * k + x) (hu : ∀ i, i < c → lf' i = lf i ∧ rt' i = rt i ∧ fr' i = fr i ∧ by' i = by_ i) (ha : lf' c = d1 (lf k) x) (hb : rt' c = d2 (rt k) x) (hf : fr' c = k) (hy : by' c = x) : hk N1 N2 d1 d2 acc1 acc2 (c + 1) (t + 1) lf' rt' fr' by' := by
  have hk1 := h.2.1 k hkc
  refine ⟨⟨by omega, by rw [(hu 0 h.1.1).1]; exact h.1.2.1, by rw [(hu 0 h.1.1).2.1]; exact h.1.2.2⟩, fun i hi => ?_, fun i i0 i1 => ?_, fun i j i0 hij hj => ?_, fun k' x' hx' hk' hlt => ?_⟩
  · rcases (show i < c ∨ i = c by omega) with z | rfl
    · rw [(hu i z).1, (hu i z).2.1]; exact h.2.1 i z
    · rw [ha, hb]
      exact ⟨o1.2.2 _ hk1.1 x hx, o2.2.2 _ hk1.2 x hx⟩
  · rcases (show i < c ∨ i = c by omega) with z | rfl
    · obtain ⟨a1, a2, a3, a4, a5⟩ := h.2.2.1 i i0 z
      obtain ⟨b1, b2, b3, b4⟩ := hu i z
      rw [b1, b2, b3, b4, (hu (fr i) (by omega)).1, (hu (fr i) (by omega)).2.1]
      exact ⟨a1, a2, a3, a4, by omega⟩
    · rw [ha, hb, hf, hy, (hu k hkc).1, (hu k hkc).2.1]
      exact ⟨hkc, hx, rfl, rfl, by omega⟩
  · obtain ⟨b1, b2, b3, b4⟩ := hu i (by omega)
    rw [b3, b4]
    rcases (show j < c ∨ j = c by omega) with z | rfl
    · rw [(hu j z).2.2.1, (hu j z).2.2.2]
      exact h.2.2.2.1 i j i0 hij z
    · rw [hf, hy]
      have := (h.2.2.1 i i0 hij).2.2.2.2
      omega
  · rcases (show 4 * k' + x' < t ∨ (k' = k ∧ x' = x) by omega) with z | ⟨rfl, rfl⟩
    · have hk'c : k' < c := by omega
      rcases h.2.2.2.2 k' x' hx' hk'c z with ⟨i, i0, ic, e1, e2⟩ | hv
      · exact Or.inl ⟨i, i0, by omega, by rw [(hu i ic).2.2.1]; exact e1, by rw [(hu i ic).2.2.2]; exact e2⟩
      · refine Or.inr fun v hv2 => ?_
        rw [(hu k' hk'c).1, (hu k' hk'c).2.1]
        refine hv v fun i hi hor => ?_
        have := hv2 i (by omega) (by rw [(hu i hi).2.2.1, (hu i hi).2.2.2]; exact hor)
        rw [(hu i hi).1, (hu i hi).2.1] at this
        exact this
    · exact Or.inl ⟨c, by omega, by omega, hf, hy⟩
def agr (d1 d2 : Nat → Nat → Nat) (acc1 acc2 : Nat → Bool) (c : Nat) (lf rt : Nat → Nat) (v : List Nat) : Prop := ∀ i, i < c → acc1 (runA d1 (lf i) v) = acc2 (runA d2 (rt i) v)
def DU (d1 d2 : Nat → Nat → Nat) (acc1 acc2 : Nat → Bool) (S : Sg) (c : Nat) (lf rt : Nat → Nat) : Prop := ∃ tt ρ root g : Nat → Nat, uf S c tt ρ root g ∧ ∀ v, agr d1 d2 acc1 acc2 c lf rt v → ∀ x, x < 300 → vA acc1 acc2 d1 d2 x v = vA acc1 acc2 d1 d2 (root x) v
def frD (S S' : Sg) : Prop := S'.2 = S.2 ∧ ∀ id, id < 27 ∨ 31 < id → S'.1 id = S.1 id
theorem vA_l {a : Nat} (h : a < 150) (v : List Nat) : vA acc1 acc2 d1 d2 a v = acc1 (runA d1 a v) := if_pos h
theorem vA_r (b : Nat) (v : List Nat) : vA acc1 acc2 d1 d2 (150 + b) v = acc2 (runA d2 b v) := by
  unfold vA
  rw [if_neg (by omega), Nat.add_sub_cancel_left]
theorem tieD {S : Sg} {c : Nat} {lf rt : Nat → Nat} (h : DU d1 d2 acc1 acc2 S c lf rt) (hc : S.1 27 4 = nI c) {a b : Nat} (ha : a < 150) (hb : b < 150) (o : Int32) :
    (∃ S', f_X1_tiePair (nI a) (nI b) o S = some S' ∧ DU d1 d2 acc1 acc2 S' c lf rt ∧ S'.1 27 4 = nI c ∧ (∀ i, S'.1 29 i = S.1 29 i ∧ S'.1 30 i = S.1 30 i ∧ S'.1 31 i = S.1 31 i) ∧ frD S S' ∧ ∀ v, agr d1 d2 acc1 acc2 c lf rt v → acc1 (runA d1 a v) = acc2 (runA d2 b v)) ∨
    (c < 300 ∧ ∃ S', f_X1_tiePair (nI a) (nI b) o S = some S' ∧ DU d1 d2 acc1 acc2 S' (c + 1) (fun i => if i = c then a else lf i) (fun i => if i = c then b else rt i) ∧ S'.1 27 4 = nI (c + 1) ∧ S'.1 29 c = nI a ∧ S'.1 30 c = nI b ∧ S'.1 31 c = o ∧ (∀ i, i ≠ c → S'.1 29 i = S.1 29 i ∧ S'.1 30 i = S.1 30 i ∧ S'.1 31 i = S.1 31 i) ∧ frD S S') := by
  obtain ⟨tt, ρ, root, g, hu, hv⟩ := h
  rcases tie_eq hu hc ha hb o with ⟨hr, S', t', e, w1, w2, w3⟩ | ⟨r1, r2, ra, hc3, S', t', ρ', g', e, w1, w2, w3, w4, w5, w6, w7, w8⟩
  · refine Or.inl ⟨S', e, ⟨t', ρ, root, g, w1, hv⟩, by rw [w3 27 (by decide)]; exact hc, fun i => ⟨by rw [w3 29 (by decide)], by rw [w3 30 (by decide)], by rw [w3 31 (by decide)]⟩, ⟨w2, fun id hid => w3 id (by omega)⟩, fun v ag => ?_⟩
    have e1 := hv v ag a (by omega)
    have e2 := hv v ag (150 + b) (by omega)
    rw [hr, ← e2, vA_l ha, vA_r] at e1
    exact e1
  · refine Or.inr ⟨hc3, S', e, ⟨t', ρ', _, g', w1, fun v ag x hx => ?_⟩, w3, w4, w5, w6, w7, w2, w8⟩
    have ag0 : agr d1 d2 acc1 acc2 c lf rt v := fun i hi => by
      have := ag i (by omega)
      simp only [if_neg (show ¬ i = c by omega)] at this
      exact this
    have agc := ag c (by omega)
    simp only [if_true] at agc
    show vA acc1 acc2 d1 d2 x v = vA acc1 acc2 d1 d2 (if root x = root a then root (150 + b) else root x) v
    by_cases hra : root x = root a
    · rw [if_pos hra, hv v ag0 x hx, hra, ← hv v ag0 a (by omega), ← hv v ag0 (150 + b) (by omega), vA_l ha, vA_r]
      exact agc
    · rw [if_neg hra]
      exact hv v ag0 x hx
def DI (N1 N2 : Nat) (d1 d2 : Nat → Nat → Nat) (acc1 acc2 : Nat → Bool) (S : Sg) (c t : Nat) (lf rt fr by_ : Nat → Nat) : Prop := DU d1 d2 acc1 acc2 S c lf rt ∧ S.1 27 4 = nI c ∧ (∀ i, i < c → S.1 29 i = nI (lf i) ∧ S.1 30 i = nI (rt i)) ∧ orgD S c fr by_ ∧ hk N1 N2 d1 d2 acc1 acc2 c t lf rt fr by_ ∧ c ≤ 300
theorem tieS {S : Sg} {c t k x : Nat} {lf rt fr by_ : Nat → Nat} (o1 : autOk N1 d1) (o2 : autOk N2 d2) (h : DI N1 N2 d1 d2 acc1 acc2 S c t lf rt fr by_) (hx : x < 4) (hkc : k < c) (ht : t = 4 * k + x) : ∃ (S' : Sg) (c' : Nat) (lf' rt' fr' by' : Nat → Nat), f_X1_tiePair (nI (d1 (lf k) x)) (nI (d2 (rt k) x)) (nI t) S = some S' ∧ DI N1 N2 d1 d2 acc1 acc2 S' c' (t + 1) lf' rt' fr' by' ∧ c ≤ c' ∧ (∀ i, i < c → lf' i = lf i ∧ rt' i = rt i) ∧ frD S S' := by
  obtain ⟨h1, h2, h3, h4, h5, h6⟩ := h
  have hk1 := h5.2.1 k hkc
  have ha := o1.2.2 _ hk1.1 x hx
  have hb := o2.2.2 _ hk1.2 x hx
  have n1 := o1.2.1
  have n2 := o2.2.1
  rcases tieD h1 h2 (a := d1 (lf k) x) (b := d2 (rt k) x) (by omega) (by omega) (nI t) with ⟨S', e, w1, w2, w3, w4, w5⟩ | ⟨hc3, S', e, w1, w2, w3, w4, w5, w6, w7⟩
  · refine ⟨S', c, lf, rt, fr, by_, e, ⟨w1, w2, fun i hi => ?_, fun i i0 i1 => ?_, hk_mono h5 hx ht w5, h6⟩, Nat.le_refl _, fun i _ => ⟨rfl, rfl⟩, w4⟩
    · rw [(w3 i).1, (w3 i).2.1]; exact h3 i hi
    · rw [(w3 i).2.2]; exact h4 i i0 i1
  · refine ⟨S', c + 1, _, _, fun i => if i = c then k else fr i, fun i => if i = c then x else by_ i, e, ⟨w1, w2, fun i hi => ?_, fun i i0 i1 => ?_, hk_add o1 o2 h5 hx hkc ht (fun i hi => ?_) (if_pos rfl) (if_pos rfl) (if_pos rfl) (if_pos rfl), by omega⟩, by omega, fun i hi => ?_, w7⟩
    · by_cases e : i = c
      · subst e
        simp only [if_true]
        exact ⟨w3, w4⟩
      · simp only [if_neg e]
        rw [(w6 i e).1, (w6 i e).2.1]
        exact h3 i (by omega)
    · show S'.1 31 i = nI (4 * (if i = c then k else fr i) + (if i = c then x else by_ i))
      by_cases e : i = c
      · subst e
        rw [if_pos rfl, if_pos rfl, w5, ht]
      · rw [if_neg e, if_neg e, (w6 i e).2.2]
        exact h4 i i0 (by omega)
    · have : ¬ i = c := by omega
      exact ⟨if_neg this, if_neg this, if_neg this, if_neg this⟩
    · have : ¬ i = c := by omega
      exact ⟨if_neg this, if_neg this⟩
variable {i1 i2 : Nat}
theorem letters {K : Nat → Nat → Int32 → Sg → Option (Int32 × Sg)} {k : Nat} (o1 : autOk N1 d1) (o2 : autOk N2 d2) (hi1 : 79 ≤ i1) (hi2 : 79 ≤ i2) : ∀ (r x fl : Nat) (S : Sg) (c : Nat) (lf rt fr by_ : Nat → Nat), x + r = 4 → r + 1 ≤ fl → autC S i1 N1 d1 acc1 → autC S i2 N2 d2 acc2 → k < c → DI N1 N2 d1 d2 acc1 acc2 S c (4 * k + x) lf rt fr by_ → ∃ (S' : Sg) (c' : Nat) (lf' rt' fr' by' : Nat → Nat), f_X1_find_L100 K fl i1 i2 (nI k) (nI x) S = K i1 i2 (nI (k + 1)) S' ∧ DI N1 N2 d1 d2 acc1 acc2 S' c' (4 * (k + 1)) lf' rt' fr' by' ∧ c ≤ c' ∧ (∀ i, i < c → lf' i = lf i ∧ rt' i = rt i) ∧ frD S S' := by
  intro r
  induction r with
  | zero =>
    intro x fl S c lf rt fr by_ hx hfl c1 c2 hkc h
    obtain ⟨f, rfl⟩ : ∃ f, fl = f + 1 := ⟨fl - 1, by omega⟩
    have : x = 4 := by omega
    subst this
    refine ⟨S, c, lf, rt, fr, by_, ?_, h, Nat.le_refl _, fun i _ => ⟨rfl, rfl⟩, rfl, fun _ _ => rfl⟩
    rw [f_X1_find_L100, k_4, if_pos (by rw [nI_leI (by omega) (by omega)]; omega), vl_d, nI_1]
  | succ r ih =>
    intro x fl S c lf rt fr by_ hx hfl c1 c2 hkc h
    obtain ⟨f, rfl⟩ : ∃ f, fl = f + 1 := ⟨fl - 1, by omega⟩
    obtain ⟨S1, c', lf', rt', fr', by', e, w1, w2, w3, w4⟩ := tieS o1 o2 h (by omega : x < 4) hkc rfl
    have n1 := o1.2.1
    have n2 := o2.2.1
    have hc3 := h.2.2.2.2.2
    have hk1 := h.2.2.2.2.1.2.1 k hkc
    have hr := h.2.2.1 k hkc
    obtain ⟨S2, c'', lf'', rt'', fr'', by'', e2, y1, y2, y3, y4⟩ := ih (x + 1) f S1 c' lf' rt' fr' by' (by omega) (by omega) (autC_cg c1 (fun i hi => w4.2 i (by omega)) hi1) (autC_cg c2 (fun i hi => w4.2 i (by omega)) hi2) (by omega) w1
    refine ⟨S2, c'', lf'', rt'', fr'', by'', ?_, y1, by omega, fun i hi => ⟨by rw [(y3 i (by omega)).1, (w3 i hi).1], by rw [(y3 i (by omega)).2, (w3 i hi).2]⟩, by rw [y4.1, w4.1], fun id hid => by rw [y4.2 id hid, w4.2 id hid]⟩
    rw [f_X1_find_L100, k_4, if_neg (by rw [nI_leI (by omega) (by omega)]; omega), ck_nI (by omega) (by decide), nI_clamp (by omega), hr.1, pk_mul, nI_add, ck_nI (by omega) (by decide), nI_clamp (by omega), vl_d, ck_nI (by omega) (by decide), hr.2, pk_mul, nI_add, ck_nI (by omega) (by decide), nI_clamp (by omega), vl_d, Nat.mul_comm (lf k) 4, Nat.mul_comm (rt k) 4, c1.2.1 _ hk1.1 x (by omega), c2.2.1 _ hk1.2 x (by omega), pk_mul, nI_add, Nat.mul_comm k 4, e, bd_some, vl_d, nI_1]
    exact e2
theorem findL (o1 : autOk N1 d1) (o2 : autOk N2 d2) (hi1 : 79 ≤ i1) (hi2 : 79 ≤ i2) : ∀ (r k fl : Nat) (S : Sg) (c : Nat) (lf rt fr by_ : Nat → Nat), k + r = 301 → r + 1 ≤ fl → autC S i1 N1 d1 acc1 → autC S i2 N2 d2 acc2 → k ≤ c → DI N1 N2 d1 d2 acc1 acc2 S c (4 * k) lf rt fr by_ → (∀ j, j < k → acc1 (lf j) = acc2 (rt j)) → (∃ S', f_X1_find_L41 fl i1 i2 (nI k) S = some (0, S') ∧ frD S S' ∧ ∀ u, ¬ isFirst d1 d2 acc1 acc2 u) ∨ ∃ w S', f_X1_find_L41 fl i1 i2 (nI k) S = some (1, S') ∧ w.length ≤ 300 ∧ let4 w ∧ dif d1 d2 acc1 acc2 w ∧ (∀ u, isFirst d1 d2 acc1 acc2 u → u = w) ∧ S'.2 = S.2 ∧ S'.1 32 1 = nI w.length ∧ (∀ t, t < w.length → S'.1 33 t = nI (w.getD t 0)) ∧ ∀ id, id < 27 ∨ 33 < id → S'.1 id = S.1 id := by
  intro r
  induction r with
  | zero =>
    intro k fl S c lf rt fr by_ hkr hfl c1 c2 hkc h hag
    have := h.2.2.2.2.2
    omega
  | succ r ih =>
    intro k fl S c lf rt fr by_ hkr hfl c1 c2 hkc h hag
    obtain ⟨f, rfl⟩ : ∃ f, fl = f + 1 := ⟨fl - 1, by omega⟩
    have h' := h
    obtain ⟨h1, h2, h3, h4, h5, h6⟩ := h
    have n1 := o1.2.1
    have n2 := o2.2.1
    by_cases hk : k = c
    · refine Or.inl ⟨S, ?_, ⟨rfl, fun _ _ => rfl⟩, fun u hu => hk_first h5 (e := k) (by omega) (Nat.le_refl _) hag hu (fun z => by omega)⟩
      rw [f_X1_find_L41, h2, if_pos (by rw [nI_leI (by omega) (by omega)]; omega)]
    · have hkl : k < c := by omega
      have hk1 := h5.2.1 k hkl
      have hr := h3 k hkl
      have head : f_X1_find_L41 (f + 1) i1 i2 (nI k) S = if bI (acc1 (lf k)) = bI (acc2 (rt k)) then (f_X1_find_L100 (f_X1_find_L41 f) fu) i1 i2 (nI k) (nI 0) S else bd (f_X8_trace_d (nI k) S) (fun S_11 => some ((1 : Int32), S_11)) := by
        rw [f_X1_find_L41, h2, if_neg (by rw [nI_leI (by omega) (by omega)]; omega), k_300, if_neg (by rw [nI_leI (by omega) (by omega)]; omega), ck_nI (by omega) (by decide), nI_clamp (by omega), hr.1, ck_nI (by omega) (by decide), ck_nI (by omega) (by decide), hr.2, ck_nI (by omega) (by decide), nI_clamp (by omega), nI_clamp (by omega), c1.2.2 _ hk1.1, c2.2.2 _ hk1.2, vl_d, k_0]
      by_cases ha : acc1 (lf k) = acc2 (rt k)
      · obtain ⟨S1, c', lf', rt', fr', by', e, w1, w2, w3, w4⟩ := letters (K := f_X1_find_L41 f) (k := k) o1 o2 hi1 hi2 4 0 fu S c lf rt fr by_ (by omega) (by unfold fu; omega) c1 c2 hkl h'
        rw [head, if_pos (by rw [ha]), e]
        rcases ih (k + 1) f S1 c' lf' rt' fr' by' (by omega) (by omega) (autC_cg c1 (fun i hi => w4.2 i (by omega)) hi1) (autC_cg c2 (fun i hi => w4.2 i (by omega)) hi2) (by omega) w1 (fun j hj => by
          rw [(w3 j (by omega)).1, (w3 j (by omega)).2]
          rcases (show j < k ∨ j = k by omega) with z | rfl
          · exact hag j z
          · exact ha) with ⟨S', e2, y1, y2⟩ | ⟨w, S', e2, y1, y2, y3, y4, y5, y6, y7, y8⟩
        · exact Or.inl ⟨S', e2, ⟨by rw [y1.1, w4.1], fun id hid => by rw [y1.2 id hid, w4.2 id hid]⟩, y2⟩
        · exact Or.inr ⟨w, S', e2, y1, y2, y3, y4, by rw [y5, w4.1], y6, y7, fun id hid => by rw [y8 id hid, w4.2 id (by omega)]⟩
      · have hp := (hk_ord h5).1
        obtain ⟨S', e, g1, g2, g3, g4⟩ := traceD_eq hp h6 h4 hkl
        have hl := rp_len hp k k (Nat.le_refl _) hkl
        have hwl : (wrd fr by_ k).length = (rp fr by_ k).length := by unfold wrd; rw [List.length_reverse]
        obtain ⟨w1, w2, w3⟩ := hk_word h5 k k (Nat.le_refl _) hkl
        have hd : dif d1 d2 acc1 acc2 (wrd fr by_ k) := by unfold dif; rw [w2, w3]; exact ha
        refine Or.inr ⟨wrd fr by_ k, S', ?_, by omega, w1, hd, fun u hu => ?_, g1, by rw [g2, hwl], fun t ht => ?_, fun id hid => g4 id (by omega) (by omega)⟩
        · rw [head, if_neg (by cases hx : acc1 (lf k) <;> cases hy : acc2 (rt k) <;> first | (rw [hx, hy] at ha; exact absurd rfl ha) | decide), e, bd_some]
        · have q1 := hu.2.2 _ w1 hd
          rcases Nat.lt_or_ge (num u) (num (wrd fr by_ k)) with z | z
          · exact absurd (hk_first h5 (e := k) (by omega) (Nat.le_refl _) hag hu (fun _ => z)) id
          · exact num_inj u.length u _ rfl hu.1 w1 (by omega)
        · rw [hwl] at ht
          have := g3 ((rp fr by_ k).length - 1 - t) (by omega)
          rw [show (rp fr by_ k).length - 1 - ((rp fr by_ k).length - 1 - t) = t by omega] at this
          unfold wrd
          rw [this, rev_getD _ ht]
theorem fillT {R : Option (Int32 × Sg) → Prop} : ∀ (r k fl : Nat) (S : Sg), k + r = 300 → r + 1 ≤ fl → (∀ j, j < k → S.1 28 j = nI j) → (∀ S1 : Sg, S1.2 = S.2 → (∀ id, id ≠ 28 → S1.1 id = S.1 id) → (∀ j, j < 300 → S1.1 28 j = nI j) → R (vl (sI S1 27 4 ((0 : Int32))) (fun S_2 => bd (f_X1_tiePair ((0 : Int32)) ((0 : Int32)) ((0 : Int32)) S_2) (fun S_3 => vl ((0 : Int32)) (fun x4_4 => (f_X1_find_L41 fu) i1 i2 x4_4 S_3))))) → R (f_X1_find_L3 fl i1 i2 (nI k) S) := by
  intro r
  induction r with
  | zero =>
    intro k fl S hk hfl hz H
    obtain ⟨f, rfl⟩ : ∃ f, fl = f + 1 := ⟨fl - 1, by omega⟩
    rw [f_X1_find_L3, k_300, if_pos (by rw [nI_leI (by omega) (by omega)]; omega)]
    exact H S rfl (fun _ _ => rfl) (fun j hj => hz j (by omega))
  | succ r ih =>
    intro k fl S hk hfl hz H
    obtain ⟨f, rfl⟩ : ∃ f, fl = f + 1 := ⟨fl - 1, by omega⟩
    rw [f_X1_find_L3, k_300, if_neg (by rw [nI_leI (by omega) (by omega)]; omega), ck_nI (by omega) (by decide), nI_clamp (by omega), vl_d, vl_d, nI_1]
    refine ih (k + 1) f _ (by omega) (by omega) (fun j hj => ?_) (fun S1 q1 q2 q3 => H S1 q1 (fun id hid => by rw [q2 id hid, sI_id _ _ _ hid]) q3)
    rw [sI_get, if_pos rfl]
    by_cases e : j = k
    · rw [if_pos e, e]
    · rw [if_neg e]; exact hz j (by omega)
theorem find_eq {S : Sg} (o1 : autOk N1 d1) (o2 : autOk N2 d2) (hi1 : 79 ≤ i1) (hi2 : 79 ≤ i2) (C1 : autC S i1 N1 d1 acc1) (C2 : autC S i2 N2 d2 acc2) : (∃ S', f_X1_find i1 i2 S = some (0, S') ∧ frD S S' ∧ ∀ u, ¬ isFirst d1 d2 acc1 acc2 u) ∨ ∃ w S', f_X1_find i1 i2 S = some (1, S') ∧ w.length ≤ 300 ∧ let4 w ∧ dif d1 d2 acc1 acc2 w ∧ (∀ u, isFirst d1 d2 acc1 acc2 u → u = w) ∧ S'.2 = S.2 ∧ S'.1 32 1 = nI w.length ∧ (∀ t, t < w.length → S'.1 33 t = nI (w.getD t 0)) ∧ ∀ id, id < 27 ∨ 33 < id → S'.1 id = S.1 id := by
  unfold f_X1_find
  rw [vl_d, k_0]
  refine fillT (R := fun Z => (∃ S', Z = some (nI 0, S') ∧ frD S S' ∧ ∀ u, ¬ isFirst d1 d2 acc1 acc2 u) ∨ ∃ w S', Z = some (1, S') ∧ w.length ≤ 300 ∧ let4 w ∧ dif d1 d2 acc1 acc2 w ∧ (∀ u, isFirst d1 d2 acc1 acc2 u → u = w) ∧ S'.2 = S.2 ∧ S'.1 32 1 = nI w.length ∧ (∀ t, t < w.length → S'.1 33 t = nI (w.getD t 0)) ∧ ∀ id, id < 27 ∨ 33 < id → S'.1 id = S.1 id) 300 0 fu S (by omega) (by unfold fu; omega) (fun j hj => absurd hj (by omega)) (fun S1 q1 q2 q3 => ?_)
  have a1 := o1.1
  have a2 := o2.1
  have hu : uf (sI S1 27 4 (nI 0)) 0 (fun x => x) (fun _ => 300) (fun x => x) (fun _ => 0) := ⟨by omega, fun x hx => ⟨by rw [sI_id _ _ _ (by decide)]; exact q3 x hx, hx, Or.inl ⟨rfl, rfl, rfl⟩⟩, fun i hi => absurd hi (by omega)⟩
  have hD : DU d1 d2 acc1 acc2 (sI S1 27 4 (nI 0)) 0 (fun _ => 0) (fun _ => 0) := ⟨_, _, _, _, hu, fun v _ x _ => rfl⟩
  rw [vl_d, k_0]
  rcases tie_eq hu (sI_at _ _ _ _) (a := 0) (b := 0) (by omega) (by omega) (nI 0) with ⟨z, -⟩ | ⟨-, -, -, -, T, -, -, -, eT, -, -, cT, -⟩
  · exact absurd z (by decide)
  rcases tieD hD (sI_at _ _ _ _) (a := 0) (b := 0) (by omega) (by omega) (nI 0) with ⟨S', e, w1, w2, w3, w4, w5⟩ | ⟨hc3, S', e, w1, w2, w3, w4, w5, w6, w7⟩
  · rw [eT] at e
    have := Option.some.inj e
    rw [← this, cT, nI_eq (by omega) (by omega)] at w2
    omega
  · have f1 : ∀ id, id < 27 ∨ 31 < id → S'.1 id = S.1 id := fun id hid => by rw [w7.2 id hid, sI_id _ _ _ (by omega), q2 id (by omega)]
    have f2 : S'.2 = S.2 := by rw [w7.1, sI_2, q1]
    rw [e, bd_some, vl_d]
    rcases findL o1 o2 hi1 hi2 301 0 fu S' 1 _ _ (fun _ => 0) (fun _ => 0) (by omega) (by unfold fu; omega) (autC_cg C1 (fun i hi => f1 i (by omega)) hi1) (autC_cg C2 (fun i hi => f1 i (by omega)) hi2) (by omega) ⟨w1, w2, fun i hi => (by have : i = 0 := (by omega); subst this; exact ⟨w3, w4⟩), fun i i0 i1 => absurd i0 (by omega), ⟨⟨by omega, rfl, rfl⟩, fun i hi => (by have : i = 0 := (by omega); subst this; exact ⟨a1, a2⟩), fun i i0 i1 => absurd i0 (by omega), fun i j i0 hij hj => absurd i0 (by omega), fun k x _ _ hlt => absurd hlt (by omega)⟩, by omega⟩ (fun j hj => absurd hj (by omega)) with ⟨S2, e2, y1, y2⟩ | ⟨w, S2, e2, y1, y2, y3, y4, y5, y6, y7, y8⟩
    · exact Or.inl ⟨S2, e2, ⟨by rw [y1.1, f2], fun id hid => by rw [y1.2 id hid, f1 id hid]⟩, y2⟩
    · exact Or.inr ⟨w, S2, e2, y1, y2, y3, y4, by rw [y5, f2], y6, y7, fun id hid => by rw [y8 id hid, f1 id (by omega)]⟩
end DIFJ
