def newM (n : Nat) (S : Sg) : Sg := (fun i => if 79 + 6 * n ≤ i then (fun _ => 0) else S.1 i, S.2)
def okr (n : Nat) (r : Option Nat) : Bool := match r with
  | none => true
  | some i => okM n i
def okR (n : Nat) (S : Sg) : Bool := okr n (S.2.2 0 3) && (okr n (S.2.2 2 0) && (okr n (S.2.2 2 1) && (okr n (S.2.2 2 2) && okr n (S.2.2 2 3))))
theorem okr_lt {n : Nat} {r : Option Nat} (h : okr n r = true) {i : Nat} (hr : r = some i) : i < gN0 n := by
  subst hr
  obtain ⟨j, hj, rfl⟩ := okM_s h
  unfold gN0
  omega
theorem arrV_cg (cI : ClassId) {N : Nat} {f g : Nat → Value} (h : ∀ j, j < N → f j = g j) : arrV cI N f = arrV cI N g := by
  unfold arrV
  have : (Array.ofFn (n := N) fun j => f j.val) = Array.ofFn (n := N) fun j => g j.val := by
    congr 1
    funext j
    exact h j.val j.isLt
  rw [this]
theorem cell_ad {cy : Nat → ClassId} {ad ad' : Nat → Nat} {i n : Nat} {f : Nat → Int32} {g : Nat → Int64} {h : Nat → Option Nat} (K : Nat × Nat) (hs : ∀ j, j < gN0 n → ad' j = ad j) (hm : K.1 = 4 → i + 5 < gN0 n) (h9 : K.1 = 9 → ∀ r, h 3 = some r → r < gN0 n) (h15 : K.1 ≠ 15) : cellOf cy ad' i K f g h = cellOf cy ad i K f g h := by
  have hS : ∀ j, j < 79 → ad' j = ad j := fun j hj => hs j (by unfold gN0; omega)
  obtain ⟨c, N⟩ := K
  match c, hm, h9, h15 with
  | 0, _, _, _ => simp [cellOf, flds, hS]
  | 1, _, _, _ => simp [cellOf, flds, hS]
  | 2, _, _, _ => simp [cellOf, flds, hS]
  | 3, _, _, _ => simp [cellOf, flds, hS]
  | 4, hm, _, _ =>
    have h5 := hm rfl
    simp [cellOf, flds, hs (i + 1) (by omega), hs (i + 2) (by omega), hs (i + 3) (by omega), hs (i + 4) (by omega), hs (i + 5) (by omega)]
  | 5, _, _, _ => simp [cellOf, flds, hS]
  | 6, _, _, _ => simp [cellOf, flds, hS]
  | 7, _, _, _ => simp [cellOf, flds, hS]
  | 8, _, _, _ => simp [cellOf, flds, hS]
  | 9, _, h9, _ =>
    have e : rv ad' (h 3) = rv ad (h 3) := by
      cases hr : h 3 with
      | none => rfl
      | some r => show Value.ref (ad' r) = Value.ref (ad r); rw [hs r (h9 rfl r hr)]
    simp [cellOf, flds, hS, e]
  | 10, _, _, _ => simp [cellOf, flds, hS]
  | 11, _, _, _ => rfl
  | 12, _, _, _ => rfl
  | 13, _, _, _ => rfl
  | 14, _, _, _ => rfl
  | 15, _, _, h15 => exact absurd rfl h15
  | k + 16, _, _, _ => simp [cellOf, flds, hS]
def adX (n : Nat) (ad : Nat → Nat) (qs : List Nat) : Nat → Nat := fun i => if i < gN0 n then ad i else qs.getD (i - gN0 n) 0
theorem adX_lo {n : Nat} {ad : Nat → Nat} {qs : List Nat} {i : Nat} (h : i < gN0 n) : adX n ad qs i = ad i := if_pos h
theorem adX_hi {n : Nat} {ad : Nat → Nat} {qs : List Nat} (r : Nat) : adX n ad qs (gN0 n + r) = qs.getD r 0 := by
  unfold adX
  rw [if_neg (by omega), show gN0 n + r - gN0 n = r by omega]
theorem kd_lo : ∀ i, i < 79 → kd i ≠ (4, 0) ∧ ((kd i).1 = 4 → False) ∧ ((kd i).1 = 9 → i = 0) ∧ ((kd i).1 = 15 → i = 2 ∧ kd i = (15, 4)) := by decide +kernel
theorem kd_hi {n r : Nat} (hr : r < 6) : kd (gN0 n + r) = kdM r := by
  unfold kd gN0
  rw [if_neg (by omega), show (79 + 6 * n + r - 79) % 6 = r by omega]
theorem kd_m4 {i n : Nat} (hi : i < gN0 n) (h : (kd i).1 = 4) : i + 5 < gN0 n := by
  by_cases h1 : i < 79
  · exact absurd h (kd_lo i h1).2.1
  · unfold kd at h
    rw [if_neg h1] at h
    unfold gN0 at *
    have h2 : (i - 79) % 6 < 6 := Nat.mod_lt _ (by decide)
    have h3 : (i - 79) % 6 = 0 := by
      generalize (i - 79) % 6 = r at h h2
      match r, h2, h with
      | 0, _, _ => rfl
      | 1, _, h => cases h
      | 2, _, h => cases h
      | 3, _, h => cases h
      | 4, _, h => cases h
      | 5, _, h => cases h
    omega
theorem kd_m9 {i : Nat} (h : (kd i).1 = 9) : i = 0 := by
  by_cases h1 : i < 79
  · exact (kd_lo i h1).2.2.1 h
  · unfold kd at h
    rw [if_neg h1] at h
    have h2 : (i - 79) % 6 < 6 := Nat.mod_lt _ (by decide)
    generalize (i - 79) % 6 = r at h h2
    match r, h2, h with
    | 0, _, h => cases h
    | 1, _, h => cases h
    | 2, _, h => cases h
    | 3, _, h => cases h
    | 4, _, h => cases h
    | 5, _, h => cases h
theorem kd_m15 {i : Nat} (h : (kd i).1 = 15) : i = 2 ∧ kd i = (15, 4) := by
  by_cases h1 : i < 79
  · exact (kd_lo i h1).2.2.2 h
  · unfold kd at h
    rw [if_neg h1] at h
    have h2 : (i - 79) % 6 < 6 := Nat.mod_lt _ (by decide)
    generalize (i - 79) % 6 = r at h h2
    match r, h2, h with
    | 0, _, h => cases h
    | 1, _, h => cases h
    | 2, _, h => cases h
    | 3, _, h => cases h
    | 4, _, h => cases h
    | 5, _, h => cases h
theorem wN_P {D : va_G} {cy : Nat → ClassId} {ad : Nat → Nat} {n : Nat} {S : Sg} {H : Heap} {h0 q1 q2 q3 q4 q5 : Nat} (hR : okR n S = true) (hP : va_P D vwCl (wW cy ad n S ++ [(h0, .inr (4, [.int (0 : Int32), .int (0 : Int32), .int (0 : Int32), .int (0 : Int32), .int (0 : Int32), .ref q1, .ref q2, .ref q3, .ref q4, .ref q5])), (q1, .inl (cy 1, 600, .inl (fun _ => 0))), (q2, .inl (cy 1, 150, .inl (fun _ => 0))), (q3, .inl (cy 1, 900, .inl (fun _ => 0))), (q4, .inl (cy 3, 150, .inl (fun _ => 0))), (q5, .inl (cy 1, 150, .inl (fun _ => 0)))]) H) : va_P D vwCl (wW cy (adX n ad [h0, q1, q2, q3, q4, q5]) (n + 1) (newM n S)) H := by
  intro k x hx
  obtain ⟨hk, -⟩ := wW_lt hx
  rw [wW_get (K := kd k) ⟨hk, rfl⟩] at hx
  cases hx
  have hk6 : k < gN0 n + 6 := by unfold gN0 at *; omega
  by_cases h1 : k < gN0 n
  · have h2 : (wW cy ad n S ++ [(h0, .inr (4, [.int (0 : Int32), .int (0 : Int32), .int (0 : Int32), .int (0 : Int32), .int (0 : Int32), .ref q1, .ref q2, .ref q3, .ref q4, .ref q5])), (q1, .inl (cy 1, 600, .inl (fun _ => 0))), (q2, .inl (cy 1, 150, .inl (fun _ => 0))), (q3, .inl (cy 1, 900, .inl (fun _ => 0))), (q4, .inl (cy 3, 150, .inl (fun _ => 0))), (q5, .inl (cy 1, 150, .inl (fun _ => 0)))])[k]? = some (ad k, cellOf cy ad k (kd k) (S.1 k) (S.2.1 k) (S.2.2 k)) := by
      rw [List.getElem?_append_left (by rw [wW_len]; exact h1), wW_get (K := kd k) ⟨h1, rfl⟩]
    have h3 := hP k _ h2
    have e1 : (newM n S).1 k = S.1 k := if_neg (by unfold gN0 at h1; omega)
    rw [adX_lo h1, e1]
    simp only [okR, Bool.and_eq_true] at hR
    by_cases h15 : (kd k).1 = 15
    · obtain ⟨rfl, hk2⟩ := kd_m15 h15
      rw [hk2] at h3 ⊢
      have e2 : ∀ j, j < 4 → (S.2.2 2 j).map (adX n ad [h0, q1, q2, q3, q4, q5]) = (S.2.2 2 j).map ad := by
        intro j hj
        have h5 : okr n (S.2.2 2 j) = true := by
          rcases (show j = 0 ∨ j = 1 ∨ j = 2 ∨ j = 3 by omega) with rfl | rfl | rfl | rfl
          · exact hR.2.1
          · exact hR.2.2.1
          · exact hR.2.2.2.1
          · exact hR.2.2.2.2
        cases hr : S.2.2 2 j with
        | none => rfl
        | some i => show some _ = some _; rw [adX_lo (okr_lt h5 hr)]
      have e3 : vp_cell (cy 4) (4, .inr (.inr (.inr (.inr (fun j => (S.2.2 2 j).map (adX n ad [h0, q1, q2, q3, q4, q5])))))) = vp_cell (cy 4) (4, .inr (.inr (.inr (.inr (fun j => (S.2.2 2 j).map ad))))) := by
        rw [vp_cell_q, vp_cell_q]
        exact arrV_cg _ (fun j hj => by rw [e2 j hj])
      show H[ad 2]? = some (vp_cell (cy 4) (4, .inr (.inr (.inr (.inr (fun j => (S.2.2 2 j).map (adX n ad [h0, q1, q2, q3, q4, q5])))))))
      rw [e3]
      exact h3
    · have e4 := cell_ad (cy := cy) (ad := ad) (ad' := adX n ad [h0, q1, q2, q3, q4, q5]) (i := k) (n := n) (f := S.1 k) (g := S.2.1 k) (h := S.2.2 k) (kd k) (fun j hj => adX_lo hj) (fun h => kd_m4 h1 h) (fun h r hr => by
        have h0 := kd_m9 h
        subst h0
        exact okr_lt hR.1 hr) h15
      show va_at D vwCl (ad k, cellOf cy (adX n ad [h0, q1, q2, q3, q4, q5]) k (kd k) (S.1 k) (S.2.1 k) (S.2.2 k)) H
      rw [e4]
      exact h3
  · obtain ⟨r, rfl⟩ : ∃ r, k = gN0 n + r := ⟨k - gN0 n, by omega⟩
    have hr : r < 6 := by omega
    have h2 : ∀ x, ([(h0, .inr (4, [.int (0 : Int32), .int (0 : Int32), .int (0 : Int32), .int (0 : Int32), .int (0 : Int32), .ref q1, .ref q2, .ref q3, .ref q4, .ref q5])), (q1, .inl (cy 1, 600, .inl (fun _ => 0))), (q2, .inl (cy 1, 150, .inl (fun _ => 0))), (q3, .inl (cy 1, 900, .inl (fun _ => 0))), (q4, .inl (cy 3, 150, .inl (fun _ => 0))), (q5, .inl (cy 1, 150, .inl (fun _ => 0)))] : va_W)[r]? = some x → va_at D vwCl x H := fun x hx => hP (gN0 n + r) x (by
      rw [List.getElem?_append_right (by rw [wW_len]; omega), wW_len, show gN0 n + r - gN0 n = r by omega]
      exact hx)
    have e1 : (newM n S).1 (gN0 n + r) = fun _ => 0 := if_pos (by unfold gN0; omega)
    rw [kd_hi hr, e1, adX_hi]
    have a1 := adX_hi (n := n) (ad := ad) (qs := [h0, q1, q2, q3, q4, q5]) 1
    have a2 := adX_hi (n := n) (ad := ad) (qs := [h0, q1, q2, q3, q4, q5]) 2
    have a3 := adX_hi (n := n) (ad := ad) (qs := [h0, q1, q2, q3, q4, q5]) 3
    have a4 := adX_hi (n := n) (ad := ad) (qs := [h0, q1, q2, q3, q4, q5]) 4
    have a5 := adX_hi (n := n) (ad := ad) (qs := [h0, q1, q2, q3, q4, q5]) 5
    rcases (show r = 0 ∨ r = 1 ∨ r = 2 ∨ r = 3 ∨ r = 4 ∨ r = 5 by omega) with rfl | rfl | rfl | rfl | rfl | rfl
    · have h3 := h2 _ rfl
      have e2 : cellOf cy (adX n ad [h0, q1, q2, q3, q4, q5]) (gN0 n + 0) (kdM 0) (fun _ => 0) (S.2.1 (gN0 n + 0)) (S.2.2 (gN0 n + 0)) = .inr (4, [.int (0 : Int32), .int (0 : Int32), .int (0 : Int32), .int (0 : Int32), .int (0 : Int32), .ref q1, .ref q2, .ref q3, .ref q4, .ref q5]) := by
        show Sum.inr (4, [Value.int 0, .int 0, .int 0, .int 0, .int 0, .ref (adX n ad _ (gN0 n + 0 + 1)), .ref (adX n ad _ (gN0 n + 0 + 2)), .ref (adX n ad _ (gN0 n + 0 + 3)), .ref (adX n ad _ (gN0 n + 0 + 4)), .ref (adX n ad _ (gN0 n + 0 + 5))]) = _
        rw [Nat.add_zero, a1, a2, a3, a4, a5]
        rfl
      exact e2 ▸ h3
    · exact h2 _ rfl
    · exact h2 _ rfl
    · exact h2 _ rfl
    · exact h2 _ rfl
    · exact h2 _ rfl
theorem D_fst {A : Nat → Prop} {ws ws' : va_W} (h : va_D A ws) (e : ws'.map (·.1) = ws.map (·.1)) : va_D A ws' := by
  have key : ∀ (i : Nat) (q : Nat × va_E), ws'[i]? = some q → ∃ x, ws[i]? = some x ∧ x.1 = q.1 := by
    intro i q hq
    have h1 : (ws'.map (·.1))[i]? = some q.1 := by rw [List.getElem?_map, hq]; rfl
    rw [e, List.getElem?_map] at h1
    cases hx : ws[i]? with
    | none => rw [hx] at h1; cases h1
    | some x => rw [hx] at h1; exact ⟨x, rfl, Option.some.inj h1⟩
  refine ⟨fun i j p q hp hq epq => ?_, fun k q hq => ?_⟩
  · obtain ⟨x, hx, ex⟩ := key i p hp
    obtain ⟨y, hy, ey⟩ := key j q hq
    exact h.1 i j x y hx hy (by rw [ex, ey]; exact epq)
  · obtain ⟨x, hx, ex⟩ := key k q hq
    rw [← ex]
    exact h.2 k x hx
theorem wN_D {A : Nat → Prop} {cy : Nat → ClassId} {ad : Nat → Nat} {n : Nat} {S : Sg} {w1 : va_W} {qs : List Nat} (hl : w1.map (·.1) = qs) (h6 : qs.length = 6) (h : va_D A (wW cy ad n S ++ w1)) (S' : Sg) : va_D A (wW cy (adX n ad qs) (n + 1) S') := by
  refine D_fst h ?_
  apply List.ext_getElem?
  intro k
  have hl6 : w1.length = 6 := by rw [← h6, ← hl]; simp
  by_cases hk : k < gN0 (n + 1)
  · rw [List.getElem?_map, wW_get (K := kd k) ⟨hk, rfl⟩]
    by_cases h1 : k < gN0 n
    · rw [List.getElem?_map, List.getElem?_append_left (by rw [wW_len]; exact h1), wW_get (K := kd k) ⟨h1, rfl⟩]
      show some (adX n ad qs k) = some (ad k)
      rw [adX_lo h1]
    · obtain ⟨r, rfl⟩ : ∃ r, k = gN0 n + r := ⟨k - gN0 n, by omega⟩
      have hr : r < 6 := by unfold gN0 at *; omega
      rw [List.map_append, List.getElem?_append_right (by rw [List.length_map, wW_len]; omega), List.length_map, wW_len, show gN0 n + r - gN0 n = r by omega, hl]
      show some (adX n ad qs (gN0 n + r)) = _
      rw [adX_hi, List.getD_eq_getElem?_getD]
      have : r < qs.length := by omega
      rw [List.getElem?_eq_getElem this]
      rfl
  · rw [List.getElem?_eq_none (by rw [List.length_map, wW_len]; omega), List.getElem?_eq_none (by rw [List.length_map, List.length_append, wW_len, hl6]; unfold gN0 at *; omega)]
def f_X9_readT_L66 (x1 : Int32) (i_t0 : Nat) (S : Sg) : Option (Int32 × Sg) := bd2 (f_X5_make i_t0 S) (fun r_2 S_1 => (if r_2 = 0 then vl (sP S_1 0 3 ((some i_t0))) (fun S_6 => some ((-2 : Int32), S_6)) else bd (f_X3_classify i_t0 S_1) (fun S_3 => ck x1 4 (vl (sP S_3 0 3 ((S_3.2.2 2 (Int32.toNatClampNeg x1)))) (fun S_4 => ck x1 4 (vl (sP S_4 2 (Int32.toNatClampNeg x1) (some i_t0)) (fun S_5 => some ((S_5.1 i_t0 0), S_5))))))))
def f_X9_readT (x1 : Int32) (i3 : Nat) (S : Sg) : Option (Int32 × Sg) := (f_X9_readT_L66) x1 i3 S
def rm_X9_read : Room := { frames := 1458, cells := 6, slots := 1960, locals := 31844 }
theorem wl_9_89 : Cond.methodLinkNest RX9 89 yX5_make "WordMachines" ∈ tables_1 := List.mem_of_getElem? (i := 424) (by decide +kernel)
theorem wi_X5_make : Cond.instanceMethod yX5_make ∈ wsAll := wA 426 (by decide +kernel) (by decide +kernel)
theorem we_X5_make : Cond.selects RX5 yX5_make yX5_make ∈ wsAll := wAp 22 (by decide +kernel) (by decide +kernel)
theorem wo_X5_make : Cond.code yX5_make cX5_make 7 (some .boolean) ∈ wsAll := wA 427 (by decide +kernel) (by decide +kernel)
theorem cl_9_89 {p : Program} {l : Launch} {e : Env} {R : Room} {s : State} {m : MethodId} {args : Array Value} {below : List Frame} {meth : Method} {c : Code} {cc : ByteArray} {nL : Nat} {D : va_G} {cy : Nat → ClassId} {ad : Nat → Nat} {n : Nat} {A : Nat → Prop} {mc ms : Nat} {Q : State → Prop} {S : Sg} {pc : Nat} {lv : List (Nat × Value)} {st : List Value} {ζ : Type} {z : ζ} (C : gC p s m args meth c cc nL RX9 D cy ad n A) (nx : Nat) {i2 : Nat} (h_i2 : okM n i2 = true) (hR : Room.frames rm_X5_make + 1 ≤ R.frames ∧ 8 + (7 + 11) + Room.locals rm_X5_make ≤ R.locals) (hcm : mc ≤ R.cells ∧ ms ≤ R.slots) (hrest : (st.map fun v => v.category).sum ≤ 8) (hd : decode cc pc = .ok (.invokevirtual 89, 3)) (hn : pc + 3 = nx) {K : Int32 → Sg → Option ζ} (hz : bd2 (f_X5_make i2 S) K = some z) (kk : ∀ r S', K r S' = some z → gW p l e R s m args below meth c D cy ad n A nL mc ms Q S' nx lv (.int r :: st)) : gW p l e R s m args below meth c D cy ad n A nL mc ms Q S pc lv (.ref (ad i2) :: .ref (ad 5) :: .ref (ad 12) :: st) := by
  obtain ⟨q, hq, hk⟩ := bd2_s hz
  exact g_callVN C (i := 12) (ci := 5) (Cn := RX5) (T := TX5) (N := 4) (y := yX5_make) (rm := rm_X5_make) (As := [.ref (ad 5), .ref (ad i2)]) (rest := st) (na := 2) (fun sz => c_X5_make l D cy ad n S sz i2 q h_i2 hq) ha_12 rfl rfl wl_9_89 wi_X5_make we_X5_make wz_5 wo_X5_make (by decide +kernel) rfl rfl hR hcm rfl hrest hn hd (kk q.1 q.2 hk)
theorem wl_9_93 : Cond.methodLinkNest RX9 93 yX3_classify "WordMachines" ∈ tables_1 := List.mem_of_getElem? (i := 465) (by decide +kernel)
theorem wi_X3_classify : Cond.instanceMethod yX3_classify ∈ wsAll := wA 467 (by decide +kernel) (by decide +kernel)
theorem we_X3_classify : Cond.selects RX3 yX3_classify yX3_classify ∈ wsAll := wAp 32 (by decide +kernel) (by decide +kernel)
theorem wo_X3_classify : Cond.code yX3_classify cX3_classify 4 none ∈ wsAll := wA 468 (by decide +kernel) (by decide +kernel)
theorem cl_9_93 {p : Program} {l : Launch} {e : Env} {R : Room} {s : State} {m : MethodId} {args : Array Value} {below : List Frame} {meth : Method} {c : Code} {cc : ByteArray} {nL : Nat} {D : va_G} {cy : Nat → ClassId} {ad : Nat → Nat} {n : Nat} {A : Nat → Prop} {mc ms : Nat} {Q : State → Prop} {S : Sg} {pc : Nat} {lv : List (Nat × Value)} {st : List Value} {ζ : Type} {z : ζ} (C : gC p s m args meth c cc nL RX9 D cy ad n A) (nx : Nat) {i1 : Nat} (h_i1 : okM n i1 = true) (hR : Room.frames rm_X3_classify + 1 ≤ R.frames ∧ 8 + (4 + 11) + Room.locals rm_X3_classify ≤ R.locals) (hcm : mc ≤ R.cells ∧ ms ≤ R.slots) (hrest : (st.map fun v => v.category).sum ≤ 8) (hd : decode cc pc = .ok (.invokevirtual 93, 3)) (hn : pc + 3 = nx) {K : Sg → Option ζ} (hz : bd (f_X3_classify i1 S) K = some z) (kk : ∀ S', K S' = some z → gW p l e R s m args below meth c D cy ad n A nL mc ms Q S' nx lv st) : gW p l e R s m args below meth c D cy ad n A nL mc ms Q S pc lv (.ref (ad i1) :: .ref (ad 17) :: st) := by
  obtain ⟨q, hq, hk⟩ := bd_s hz
  exact g_callVN C (i := 17) (ci := 3) (Cn := RX3) (T := TX3) (N := 4) (y := yX3_classify) (rm := rm_X3_classify) (As := [.ref (ad i1)]) (rest := st) (na := 1) (fun sz => c_X3_classify l D cy ad n S sz i1 q h_i1 hq) ha_17 rfl rfl wl_9_93 wi_X3_classify we_X3_classify wz_3 wo_X3_classify (by decide +kernel) rfl rfl hR hcm rfl hrest hn hd (kk q hk)
set_option maxRecDepth 20000 in
theorem t_X9_readT_L66 {p : Program} {l : Launch} {e : Env} {s : State} {m : MethodId} {args : Array Value} {below : List Frame} {meth : Method} {c : Code} {D : va_G} {cy : Nat → ClassId} {ad : Nat → Nat} {n : Nat} {A : Nat → Prop} (C : gC p s m args meth c cX9_read 4 RX9 D cy ad n A) (hr : meth.sig.returnType = (some .int)) {z : Int32 × Sg} : ∀ (x1 : Int32) (i_t0 : Nat) (S : Sg), okM n i_t0 = true → f_X9_readT_L66 x1 i_t0 S = some z → gW p l e rm_X9_read s m args below meth c D cy ad n A 4 6 1960 (MQ below (gQ D cy ad n A (some (.int z.1)) z.2) args s 6 1960 A) S 66 [(0, .ref (ad 0)), (1, .int x1)] [.ref (ad i_t0)] := by
  intro x1 i_t0 S h_i_t0 hz
  unfold f_X9_readT_L66 at hz
  refine g_astoreN_n C 67 (i := 3) (r := some i_t0) [1, 2, 0] [(0, .ref (ad 0)), (1, .int x1), (3, .ref (ad i_t0))] dX9_read_66 rfl rfl (by decide) rfl ?_
  refine g_aload_n C 68 0 rfl dX9_read_67 rfl ?_
  refine gf_9_37 C 71 dX9_read_68 rfl ?_
  refine g_aload_n C 72 0 rfl dX9_read_71 rfl ?_
  refine gf_9_30 C 75 dX9_read_72 rfl ?_
  refine gf_9_85 C 78 dX9_read_75 rfl ?_
  refine g_aload_n C 79 2 rfl dX9_read_78 rfl ?_
  refine cl_9_89 C 82 h_i_t0 ⟨Nat.le_of_ble_eq_true rfl, Nat.le_of_ble_eq_true rfl⟩ ⟨Nat.le_of_ble_eq_true rfl, Nat.le_of_ble_eq_true rfl⟩ (Nat.le_of_ble_eq_true rfl) dX9_read_79 rfl hz (fun r_2 S_1 hz => ?_)
  refine g_if_ne C 93 85 dX9_read_82 rfl rfl hz (fun hz => ?_) (fun hz => ?_)
  · refine g_aload_n C 94 0 rfl dX9_read_93 rfl ?_
    refine gf_9_44 C 97 dX9_read_94 rfl ?_
    refine g_aload_n C 98 2 rfl dX9_read_97 rfl ?_
    refine cl_9_93 C 101 h_i_t0 ⟨Nat.le_of_ble_eq_true rfl, Nat.le_of_ble_eq_true rfl⟩ ⟨Nat.le_of_ble_eq_true rfl, Nat.le_of_ble_eq_true rfl⟩ (Nat.le_of_ble_eq_true rfl) dX9_read_98 rfl hz (fun S_3 hz => ?_)
    refine g_aload_n C 102 0 rfl dX9_read_101 rfl ?_
    refine g_aload_n C 103 0 rfl dX9_read_102 rfl ?_
    refine gf_9_19 C 106 dX9_read_103 rfl ?_
    refine g_iload_n C 107 1 rfl dX9_read_106 rfl ?_
    refine g_aald C 108 ha_2 dX9_read_107 rfl hz (fun hz => ?_)
    refine pf_9_23 C 111 dX9_read_108 rfl hz (fun S_4 hz => ?_)
    refine g_aload_n C 112 0 rfl dX9_read_111 rfl ?_
    refine gf_9_19 C 115 dX9_read_112 rfl ?_
    refine g_iload_n C 116 1 rfl dX9_read_115 rfl ?_
    refine g_aload_n C 117 2 rfl dX9_read_116 rfl ?_
    refine g_aast C 118 ha_2 h_i_t0 dX9_read_117 rfl hz (fun S_5 hz => ?_)
    refine g_aload_n C 119 2 rfl dX9_read_118 rfl ?_
    refine gf_9_97 C 122 h_i_t0 dX9_read_119 rfl ?_
    exact g_iret C hr dX9_read_122 hz
  · refine g_aload_n C 86 0 rfl dX9_read_85 rfl ?_
    refine g_aload_n C 87 2 rfl dX9_read_86 rfl ?_
    refine pf_9_23 C 90 (x := some i_t0) dX9_read_87 rfl hz (fun S_6 hz => ?_)
    refine g_bipush C 92 (-2 : Int32) cb_m2 dX9_read_90 rfl ?_
    exact g_iret C hr dX9_read_92 hz
set_option maxRecDepth 20000 in
theorem t_X9_readT {p : Program} {l : Launch} {e : Env} {s : State} {m : MethodId} {args : Array Value} {below : List Frame} {meth : Method} {c : Code} {D : va_G} {cy : Nat → ClassId} {ad : Nat → Nat} {n : Nat} {A : Nat → Prop} (C : gC p s m args meth c cX9_read 4 RX9 D cy ad n A) (hr : meth.sig.returnType = some .int) {z : Int32 × Sg} {S : Sg} {x1 : Int32} {i3 : Nat} (h_i3 : okM n i3 = true) (hz : f_X9_readT x1 i3 S = some z) : gW p l e rm_X9_read s m args below meth c D cy ad n A 4 6 1960 (MQ below (gQ D cy ad n A (some (.int z.1)) z.2) args s 6 1960 A) S 66 [(0, .ref (ad 0)), (1, .int x1)] [.ref (ad i3)] := by
  unfold f_X9_readT at hz
  exact (t_X9_readT_L66 C hr) x1 i3 S h_i3 hz
def f_X9_read (n : Nat) (x1 x2 : Int32) (S : Sg) : Option (Int32 × Nat × Sg) :=
  if x1 < 0 then some (-1, n, S) else if 4 ≤ x1 then some (-1, n, S) else if x2 < 0 then some (-1, n, S) else if x2 ≤ S.1 0 1 then
    vl (sI S 0 1 0) (fun S1 => bd2 (f_X6_parse x2 S1) (fun r2 S2 => if r2 = 0 then some (0, n, S2) else
      nu n (S2.2.2 0 3) (if okR n S2 = true then bd2 (f_X9_readT x1 (gN0 n) (newM n S2)) (fun r3 S3 => some (r3, n + 1, S3)) else none) (fun i => bd2 (f_X9_readT x1 i S2) (fun r3 S3 => some (r3, n, S3)))))
  else some (-1, n, S)
def gR (D : va_G) (cy : Nat → ClassId) (ad : Nat → Nat) (n : Nat) (A : Nat → Prop) (z : Int32 × Nat × Sg) : Array Value → State → Outcome → State → Prop := fun _ st oc t =>
  (oc = .returned (some (.int z.1)) ∧ ∃ ad', (∀ i, i < gN0 n → ad' i = ad i) ∧ va_P D vwCl (wW cy ad' z.2.1 z.2.2) t.heap ∧ ∀ S, va_D A (wW cy ad' z.2.1 S)) ∧ va_F A st t
theorem MQ_mono {below : List Frame} {Q1 Q2 : Array Value → State → Outcome → State → Prop} {a : Array Value} {s : State} {mc ms : Nat} {free : Addr → Prop} (h : ∀ o t, Q1 a s o t → Q2 a s o t) (t : State) (hq : MQ below Q1 a s mc ms free t) : MQ below Q2 a s mc ms free t := by
  obtain ⟨o, h1, h2, h3, h4⟩ := hq
  exact ⟨o, h1, h2, h o t h3, h4⟩
theorem W_mono {p : Program} {l : Launch} {e : Env} {R : Room} {s : State} {m : MethodId} {args : Array Value} {below : List Frame} {meth : Method} {c : Code} {H : Heap} {locs : List Loc} {mc ms : Nat} {Q1 Q2 : State → Prop} {g : JFrame} (h : ∀ t, Q1 t → Q2 t) (k : W p l e R s m args below meth c H locs mc ms Q1 g) : W p l e R s m args below meth c H locs mc ms Q2 g := fun T hT X => by
  obtain ⟨t, a, b⟩ := k T hT X
  exact ⟨t, a, h t b⟩
theorem g_iretR {p : Program} {l : Launch} {e : Env} {s : State} {m : MethodId} {args : Array Value} {below : List Frame} {meth : Method} {c : Code} {D : va_G} {cy : Nat → ClassId} {ad : Nat → Nat} {n : Nat} {A : Nat → Prop} (C : gC p s m args meth c cX9_read 4 RX9 D cy ad n A) (hr : meth.sig.returnType = some .int) {z : Int32 × Nat × Sg} {S : Sg} {v : Int32} {pc : Nat} {lv : List (Nat × Value)} (hd : decode cX9_read pc = .ok (.ireturn, 1)) (hz : some (v, n, S) = some z) : gW p l e rm_X9_read s m args below meth c D cy ad n A 4 0 0 (MQ below (gR D cy ad n A z) args s 6 1960 A) S pc lv [.int v] := by
  cases hz
  intro H locs ls hP hS hl
  refine W.widen (k := 6) (n := 1960) (by decide) (by decide) ?_
  exact W.iret C.1 C.2.1 hr (fun t ht hW => ⟨⟨rfl, ad, fun _ _ => rfl, by rw [ht]; exact hP, C.2.2.2.2.2.2.1⟩, hS.F ht⟩) hS.2.2 hd C.2.2.2.2.2.2.2.2.2.2
theorem wkc_9_17b : Cond.classLink RX9 17 RX4 ∈ wsAll := wA 22 (by decide +kernel) (by decide +kernel)
theorem wkm_9_84 : Cond.methodLinkNest RX9 84 yX4_init "WordMachines" ∈ tables_1 := List.mem_of_getElem? (i := 358) (by decide +kernel)
theorem wl_9_80 : Cond.methodLinkNest RX9 80 yX6_parse "WordMachines" ∈ tables_1 := List.mem_of_getElem? (i := 249) (by decide +kernel)
theorem wi_X6_parse : Cond.instanceMethod yX6_parse ∈ wsAll := wA 251 (by decide +kernel) (by decide +kernel)
theorem we_X6_parse : Cond.selects RX6 yX6_parse yX6_parse ∈ wsAll := wAp 1 (by decide +kernel) (by decide +kernel)
theorem wo_X6_parse : Cond.code yX6_parse cX6_parse 3 (some .boolean) ∈ wsAll := wA 252 (by decide +kernel) (by decide +kernel)
theorem cl_9_80 {p : Program} {l : Launch} {e : Env} {R : Room} {s : State} {m : MethodId} {args : Array Value} {below : List Frame} {meth : Method} {c : Code} {cc : ByteArray} {nL : Nat} {D : va_G} {cy : Nat → ClassId} {ad : Nat → Nat} {n : Nat} {A : Nat → Prop} {mc ms : Nat} {Q : State → Prop} {S : Sg} {pc : Nat} {lv : List (Nat × Value)} {st : List Value} {ζ : Type} {z : ζ} (C : gC p s m args meth c cc nL RX9 D cy ad n A) (nx : Nat) {x2 : Int32} (hR : Room.frames rm_X6_parse + 1 ≤ R.frames ∧ 8 + (3 + 11) + Room.locals rm_X6_parse ≤ R.locals) (hcm : mc ≤ R.cells ∧ ms ≤ R.slots) (hrest : (st.map fun v => v.category).sum ≤ 8) (hd : decode cc pc = .ok (.invokevirtual 80, 3)) (hn : pc + 3 = nx) {K : Int32 → Sg → Option ζ} (hz : bd2 (f_X6_parse x2 S) K = some z) (kk : ∀ r S', K r S' = some z → gW p l e R s m args below meth c D cy ad n A nL mc ms Q S' nx lv (.int r :: st)) : gW p l e R s m args below meth c D cy ad n A nL mc ms Q S pc lv (.int x2 :: .ref (ad 1) :: .ref (ad 3) :: st) := by
  obtain ⟨q, hq, hk⟩ := bd2_s hz
  exact g_callVN C (i := 3) (ci := 6) (Cn := RX6) (T := TX6) (N := 9) (y := yX6_parse) (rm := rm_X6_parse) (As := [.ref (ad 1), .int x2]) (rest := st) (na := 2) (fun sz => c_X6_parse l D cy ad n S sz x2 q hq) ha_3 rfl rfl wl_9_80 wi_X6_parse we_X6_parse wz_6 wo_X6_parse (by decide +kernel) rfl rfl hR hcm rfl hrest hn hd (kk q.1 q.2 hk)
set_option maxRecDepth 20000 in
theorem t_X9_read {p : Program} {l : Launch} {e : Env} {s : State} {m : MethodId} {args : Array Value} {below : List Frame} {meth : Method} {c : Code} {D : va_G} {cy : Nat → ClassId} {ad : Nat → Nat} {n : Nat} {A : Nat → Prop} (C : gC p s m args meth c cX9_read 4 RX9 D cy ad n A) (hr : meth.sig.returnType = some .int) {z : Int32 × Nat × Sg} {S : Sg} {x1 x2 : Int32} (hz : f_X9_read n x1 x2 S = some z) : gW p l e rm_X9_read s m args below meth c D cy ad n A 4 0 0 (MQ below (gR D cy ad n A z) args s 6 1960 A) S 0 [(0, .ref (ad 0)), (1, .int x1), (2, .int x2)] [] := by
  unfold f_X9_read at hz
  refine g_iload_n C 1 1 rfl dX9_read_0 rfl ?_
  refine g_if_lt C 21 4 dX9_read_1 rfl rfl hz (fun hz => ?_) (fun hz => ?_)
  · refine g_iconst C 22 (-1 : Int32) ci_m1 dX9_read_21 rfl ?_
    exact g_iretR C hr dX9_read_22 hz
  refine g_iload_n C 5 1 rfl dX9_read_4 rfl ?_
  refine g_iconst C 6 (4 : Int32) ci_4 dX9_read_5 rfl ?_
  refine g_icmp_ge C 21 9 dX9_read_6 rfl rfl hz (fun hz => ?_) (fun hz => ?_)
  · refine g_iconst C 22 (-1 : Int32) ci_m1 dX9_read_21 rfl ?_
    exact g_iretR C hr dX9_read_22 hz
  refine g_iload_n C 10 2 rfl dX9_read_9 rfl ?_
  refine g_if_lt C 21 13 dX9_read_10 rfl rfl hz (fun hz => ?_) (fun hz => ?_)
  · refine g_iconst C 22 (-1 : Int32) ci_m1 dX9_read_21 rfl ?_
    exact g_iretR C hr dX9_read_22 hz
  refine g_iload_n C 14 2 rfl dX9_read_13 rfl ?_
  refine g_aload_n C 15 0 rfl dX9_read_14 rfl ?_
  refine gf_9_13 C 18 dX9_read_15 rfl ?_
  refine g_icmp_le C 23 21 dX9_read_18 rfl rfl hz (fun hz => ?_) (fun hz => ?_)
  · refine g_aload_n C 24 0 rfl dX9_read_23 rfl ?_
    refine g_iconst C 25 (0 : Int32) ci_0 dX9_read_24 rfl ?_
    refine pf_9_13 C 28 dX9_read_25 rfl hz (fun S1 hz => ?_)
    refine g_aload_n C 29 0 rfl dX9_read_28 rfl ?_
    refine gf_9_30 C 32 dX9_read_29 rfl ?_
    refine g_aload_n C 33 0 rfl dX9_read_32 rfl ?_
    refine gf_9_9 C 36 dX9_read_33 rfl ?_
    refine g_iload_n C 37 2 rfl dX9_read_36 rfl ?_
    refine cl_9_80 C 40 ⟨Nat.le_of_ble_eq_true rfl, Nat.le_of_ble_eq_true rfl⟩ ⟨Nat.zero_le _, Nat.zero_le _⟩ (Nat.le_of_ble_eq_true rfl) dX9_read_37 rfl hz (fun r2 S2 hz => ?_)
    refine g_if_ne C 45 43 dX9_read_40 rfl rfl hz (fun hz => ?_) (fun hz => ?_)
    · refine g_aload_n C 46 0 rfl dX9_read_45 rfl ?_
      refine gf_9_23 C 49 dX9_read_46 rfl ?_
      refine g_ifnonnull C 62 52 dX9_read_49 rfl rfl hz (fun i3 e_r h_i3 hz1 => ?_) (fun e_r hz1 => ?_)
      · refine g_aload_n C 63 0 rfl dX9_read_62 rfl ?_
        refine gf_9_23 C 66 dX9_read_63 rfl ?_
        rw [e_r, rv_some]
        obtain ⟨q, hq, hk⟩ := bd2_s hz1
        cases hk
        refine g_lv [0, 1] rfl ?_
        refine g_widen (mc' := 6) (ms' := 1960) (by decide) (by decide) ?_
        intro H locs ls hP hS hl
        refine W_mono (MQ_mono (fun o t h => ?_)) (t_X9_readT C hr h_i3 hq H locs ls hP hS hl)
        exact ⟨⟨h.1.1, ad, fun _ _ => rfl, h.1.2, C.2.2.2.2.2.2.1⟩, h.2⟩
      · by_cases hR : okR n S2 = true
        · rw [if_pos hR] at hz1
          obtain ⟨q, hq, hk⟩ := bd2_s hz1
          cases hk
          intro H locs ls hP hS hl
          have KC : kC p s m args meth c cX9_read 4 RX9 D cy false A := ⟨C.1, C.2.1, C.2.2.1, C.2.2.2.1, C.2.2.2.2.1, C.2.2.2.2.2.1, C.2.2.2.2.2.2.2.1, C.2.2.2.2.2.2.2.2.1, C.2.2.2.2.2.2.2.2.2.2, fun h => by cases h⟩
          refine k_newCN KC (own := RX9) 55 56 59 (rm := rm_X4_init) (ty := tyX4) (fs := [.int 0, .int 0, .int 0, .int 0, .int 0, .null, .null, .null, .null, .null]) (fun h0 sz => c_X4_init l D cy false h0 sz) rfl inA4 tyX4_ok wkc_9_17b wkn_4 wkz_4 (fun j hj => by rcases (show j = 0 ∨ j = 1 ∨ j = 2 ∨ j = 3 ∨ j = 4 ∨ j = 5 ∨ j = 6 ∨ j = 7 ∨ j = 8 ∨ j = 9 by omega) with rfl | rfl | rfl | rfl | rfl | rfl | rfl | rfl | rfl | rfl <;> rfl) wkm_9_84 wki_4 wkd_4 wkz_4 rfl (by decide +kernel) rfl rfl ⟨Nat.le_of_ble_eq_true rfl, Nat.le_of_ble_eq_true rfl⟩ ⟨Nat.le_of_ble_eq_true rfl, Nat.le_of_ble_eq_true rfl⟩ (Nat.le_of_ble_eq_true rfl) dX9_read_52 rfl dX9_read_55 rfl dX9_read_56 rfl (fun h0 w1 hB => ?_) H locs ls hP (C.2.2.2.2.2.2.1 S2) hS hl
          obtain ⟨q1, q2, q3, q4, q5, rfl⟩ := hB
          intro H locs ls hP hD hS hl
          have hD' := wN_D (qs := [h0, q1, q2, q3, q4, q5]) rfl rfl hD
          have C' : gC p s m args meth c cX9_read 4 RX9 D cy (adX n ad [h0, q1, q2, q3, q4, q5]) (n + 1) A := ⟨C.1, C.2.1, C.2.2.1, C.2.2.2.1, C.2.2.2.2.1, C.2.2.2.2.2.1, hD', C.2.2.2.2.2.2.2.1, C.2.2.2.2.2.2.2.2.1, C.2.2.2.2.2.2.2.2.2.1, C.2.2.2.2.2.2.2.2.2.2⟩
          have hP' := wN_P hR hP
          have e0 : adX n ad [h0, q1, q2, q3, q4, q5] 0 = ad 0 := adX_lo (by unfold gN0; omega)
          have e1 : adX n ad [h0, q1, q2, q3, q4, q5] (gN0 n) = h0 := adX_hi (n := n) (ad := ad) (qs := [h0, q1, q2, q3, q4, q5]) 0
          refine lv_goto C.1 C.2.1 dX9_read_59 (tgt := 66) rfl ?_
          have key := t_X9_readT C' (l := l) (e := e) (below := below) hr (i3 := gN0 n) (okM_i (Nat.lt_succ_self n)) hq H locs ls hP' hS (by rw [e0]; exact lv_sub hl [0, 1] rfl)
          rw [e1] at key
          refine W_mono (MQ_mono (fun o t h => ?_)) key
          exact ⟨⟨h.1.1, _, fun i hi => adX_lo hi, h.1.2, hD'⟩, h.2⟩
        · rw [if_neg hR] at hz1
          cases hz1
    · refine g_iconst C 44 (0 : Int32) ci_0 dX9_read_43 rfl ?_
      exact g_iretR C hr dX9_read_44 hz
  · refine g_iconst C 22 (-1 : Int32) ci_m1 dX9_read_21 rfl ?_
    exact g_iretR C hr dX9_read_22 hz
theorem c_X9_read (l : Launch) (D : va_G) (cy : Nat → ClassId) (ad : Nat → Nat) (n : Nat) (S : Sg) (sz : Nat) (x1 x2 : Int32) (z : Int32 × Nat × Sg) (hz : f_X9_read n x1 x2 S = some z) : Met l yX9_read (.code yX9_read cX9_read 4 (some .int) :: wsAll) rm_X9_read (gPc D cy ad n S sz [.ref (ad 0), .int x1, .int x2]) (gR D cy ad n (va_A (wW cy ad n S) sz) z) 6 1960 (va_A (wW cy ad n S) sz) := by
  refine Met.ofW (cc := cX9_read) (maxL := 4) (ret := some .int) (by decide) rfl ?_
  intro p e s m args below meth c s₁ B hml hv
  obtain ⟨rfl, hsz, hP, hK, hD0, hN, hT⟩ := hv
  have hts := atoms_spec (ws := .code yX9_read cX9_read 4 (some .int) :: wsAll) B.pre
  subst hsz
  have hl := lv_entry [.ref (ad 0), .int x1, .int x2] (n := 4) (Nat.le_of_ble_eq_true rfl)
  rw [lg_entry_eq]
  exact t_X9_read ⟨B.exec, B.bytes, hml, findClass_of_methodNamed B.named, fun w h => hts w (List.mem_cons_of_mem _ h), hK, fun S2 => wD hD0 (fun i hi => Or.inl ⟨i, _, wW_get (K := kd i) ⟨hi, rfl⟩⟩) S2, fun q h => Or.inr h, hN, hT, B.notSynchronized⟩ B.returns hz s.heap [] _ hP va_S.rf hl
