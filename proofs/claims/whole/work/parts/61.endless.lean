def Rn (d : Nat → Nat → Nat) (n k : Nat) : Prop := ∃ w : List Nat, w.length = n ∧ let4 w ∧ runA d 0 w = k
theorem Rn_0 (d : Nat → Nat → Nat) (k : Nat) : Rn d 0 k ↔ k = 0 := by
  constructor
  · rintro ⟨w, h1, -, h3⟩
    have : w = [] := List.eq_nil_of_length_eq_zero h1
    subst this
    exact h3.symm
  · rintro rfl
    exact ⟨[], rfl, fun x hx => (by cases hx), rfl⟩
theorem Rn_s (d : Nat → Nat → Nat) (n k : Nat) : Rn d (n + 1) k ↔ ∃ j x, Rn d n j ∧ x < 4 ∧ d j x = k := by
  constructor
  · rintro ⟨w, h1, h2, h3⟩
    have hne : w ≠ [] := fun e => by subst e; cases h1
    have e := List.dropLast_concat_getLast hne
    refine ⟨runA d 0 w.dropLast, w.getLast hne, ⟨w.dropLast, by rw [List.length_dropLast]; omega, let4_sub h2 (fun x hx => by rw [← e]; exact List.mem_append_left _ hx), rfl⟩, h2 _ (List.getLast_mem hne), ?_⟩
    rw [← e, run_app] at h3
    exact h3
  · rintro ⟨j, x, ⟨w, h1, h2, h3⟩, hx, rfl⟩
    refine ⟨w ++ [x], by rw [List.length_append]; simp [h1], let4_app h2 (fun y hy => by simp at hy; omega), ?_⟩
    rw [run_app, h3]
    rfl
theorem Rn_lt {N : Nat} {d : Nat → Nat → Nat} (h : ∀ k, k < N → ∀ x, x < 4 → d k x < N) (h0 : 0 < N) {n k : Nat} (hr : Rn d n k) : k < N := by
  obtain ⟨w, -, h2, rfl⟩ := hr
  exact run_lt h w 0 h0 h2
def fr7 (S S' : Sg) : Prop := S'.2 = S.2 ∧ ∀ id, id ≠ 72 → id ≠ 73 → S'.1 id = S.1 id
theorem fr7_rf (S : Sg) : fr7 S S := ⟨rfl, fun _ _ _ => rfl⟩
theorem fr7_tr {S S1 S2 : Sg} (h1 : fr7 S S1) (h2 : fr7 S1 S2) : fr7 S S2 := ⟨h2.1.trans h1.1, fun i a b => (h2.2 i a b).trans (h1.2 i a b)⟩
theorem fr7_72 (S : Sg) (k : Nat) (v : Int32) : fr7 S (sI S 72 k v) := ⟨rfl, fun _ a _ => sI_id _ _ _ a⟩
theorem fr7_73 (S : Sg) (k : Nat) (v : Int32) : fr7 S (sI S 73 k v) := ⟨rfl, fun _ _ b => sI_id _ _ _ b⟩
theorem autM_7 {S S' : Sg} {s N : Nat} {d : Nat → Nat → Nat} {acc : Nat → Bool} (h : autM S s N d acc) (hk : fr7 S S') : autM S' s N d acc := autM_cg h (fun i a b => hk.2 i (by omega) (by omega))
def tv (P : Prop) (v : Int32) : Prop := (v = 1 ∧ P) ∨ (v = 0 ∧ ¬ P)
theorem nar1 : vp_nar .boolean 1 = 1 := by decide +kernel
theorem nar0 : vp_nar .boolean 0 = 0 := by decide +kernel
theorem narv {P : Prop} {v : Int32} (h : tv P v) : vp_nar .boolean v = v := by
  rcases h with ⟨rfl, -⟩ | ⟨rfl, -⟩
  · exact nar1
  · exact nar0
theorem tv_iff {P Q : Prop} {v : Int32} (h : tv P v) (e : P ↔ Q) : tv Q v := by
  rcases h with ⟨a, b⟩ | ⟨a, b⟩
  · exact Or.inl ⟨a, e.mp b⟩
  · exact Or.inr ⟨a, fun q => b (e.mpr q)⟩
section EM
variable {s N : Nat} {d : Nat → Nat → Nat} {acc : Nat → Bool}
theorem eM_copy {K : Int32 → Int32 → Sg → Option (Int32 × Sg)} {n : Nat} {Pj : Nat → Prop} (ok : autOk N d) (hs : s < 4) : ∀ (r k fl : Nat) (S : Sg), autM S s N d acc → k + r = N → r + 1 ≤ fl → (∀ j, j < N → tv (Pj j) (S.1 73 j)) → (∀ j, j < k → tv (Pj j) (S.1 72 j)) → ∃ S', f_X10_isEndless_L178 K fl (nI s) (nI n) (nI k) S = K (nI s) (nI (n + 1)) S' ∧ fr7 S S' ∧ ∀ j, j < N → tv (Pj j) (S'.1 72 j) := by
  have hb := ok.2.1
  intro r
  induction r with
  | zero =>
    intro k fl S cM h1 h2 h3 h4
    obtain ⟨f, rfl⟩ : ∃ f, fl = f + 1 := ⟨fl - 1, by omega⟩
    refine ⟨S, ?_, fr7_rf S, fun j hj => h4 j (by omega)⟩
    rw [f_X10_isEndless_L178, ck_nI hs (by decide), nI_clamp (by omega), cM.1, if_pos (by rw [nI_leI (by omega) (by omega)]; omega), vl_d, nI_1]
  | succ r ih =>
    intro k fl S cM h1 h2 h3 h4
    obtain ⟨f, rfl⟩ : ∃ f, fl = f + 1 := ⟨fl - 1, by omega⟩
    obtain ⟨S', e, g1, g2⟩ := ih (k + 1) f (sI S 72 k (S.1 73 k)) (autM_7 cM (fr7_72 _ _ _)) (by omega) (by omega) (fun j hj => by rw [sI_id _ _ _ (by decide)]; exact h3 j hj) (fun j hj => by
      by_cases c : j = k
      · subst c; rw [sI_at]; exact h3 j (by omega)
      · rw [sI_ne _ _ (Or.inr c)]; exact h4 j (by omega))
    refine ⟨S', ?_, fr7_tr (fr7_72 _ _ _) g1, g2⟩
    rw [f_X10_isEndless_L178, ck_nI hs (by decide), nI_clamp (by omega), cM.1, if_neg (by rw [nI_leI (by omega) (by omega)]; omega), ck_nI (by omega) (by decide), ck_nI (by omega) (by decide), nI_clamp (by omega), narv (h3 k (by omega)), vl_d, vl_d, nI_1]
    exact e
def hit (d : Nat → Nat → Nat) (n k x j : Nat) : Prop := ∃ k' x', x' < 4 ∧ (k' < k ∨ (k' = k ∧ x' < x)) ∧ Rn d n k' ∧ d k' x' = j
theorem eM_row {K : Int32 → Int32 → Int32 → Sg → Option (Int32 × Sg)} {n k : Nat} (ok : autOk N d) (hs : s < 4) (hk : k < N) : ∀ (r x fl : Nat) (S : Sg), autM S s N d acc → x + r = 4 → r + 1 ≤ fl → (∀ j, j < N → tv (Rn d n j) (S.1 72 j)) → (∀ j, j < N → tv (hit d n k x j) (S.1 73 j)) → ∃ S', f_X10_isEndless_L135 K fl (nI s) (nI n) (nI k) (nI x) S = K (nI s) (nI n) (nI (k + 1)) S' ∧ fr7 S S' ∧ (∀ j, j < N → tv (Rn d n j) (S'.1 72 j)) ∧ ∀ j, j < N → tv (hit d n (k + 1) 0 j) (S'.1 73 j) := by
  have hb := ok.2.1
  intro r
  induction r with
  | zero =>
    intro x fl S cM h1 h2 h3 h4
    obtain ⟨f, rfl⟩ : ∃ f, fl = f + 1 := ⟨fl - 1, by omega⟩
    have : x = 4 := by omega
    subst this
    refine ⟨S, ?_, fr7_rf S, h3, fun j hj => tv_iff (h4 j hj) ⟨?_, ?_⟩⟩
    · rw [f_X10_isEndless_L135, if_pos (by decide +kernel), vl_d, nI_1]
    · rintro ⟨k', x', a, b, c, e⟩
      exact ⟨k', x', a, by omega, c, e⟩
    · rintro ⟨k', x', a, b, c, e⟩
      exact ⟨k', x', a, by omega, c, e⟩
  | succ r ih =>
    intro x fl S cM h1 h2 h3 h4
    obtain ⟨f, rfl⟩ : ∃ f, fl = f + 1 := ⟨fl - 1, by omega⟩
    rcases h3 k hk with ⟨v1, hR⟩ | ⟨v0, hR⟩
    · have hd := ok.2.2 k hk x (by omega)
      obtain ⟨S', e, g1, g2, g3⟩ := ih (x + 1) f (sI S 73 (d k x) 1) (autM_7 cM (fr7_73 _ _ _)) (by omega) (by omega) (fun j hj => by rw [sI_id _ _ _ (by decide)]; exact h3 j hj) (fun j hj => by
        by_cases c : j = d k x
        · subst c; rw [sI_at]; exact Or.inl ⟨rfl, k, x, by omega, by omega, hR, rfl⟩
        · rw [sI_ne _ _ (Or.inr c)]
          refine tv_iff (h4 j hj) ⟨?_, ?_⟩
          · rintro ⟨k', x', a, b, c2, e⟩
            exact ⟨k', x', a, by omega, c2, e⟩
          · rintro ⟨k', x', a, b, c2, e⟩
            refine ⟨k', x', a, ?_, c2, e⟩
            rcases b with b | ⟨rfl, b⟩
            · exact Or.inl b
            · refine Or.inr ⟨rfl, ?_⟩
              rcases (show x' < x ∨ x' = x by omega) with z | rfl
              · exact z
              · exact absurd e.symm c)
      refine ⟨S', ?_, fr7_tr (fr7_73 _ _ _) g1, g2, g3⟩
      rw [f_X10_isEndless_L135, if_neg (by rw [k_4, nI_leI (by omega) (by omega)]; omega), ck_nI (by omega) (by decide), nI_clamp (by omega), v1, if_neg n10, after_eq hs (by omega) (by omega), bd2_some, cM.2.1 k hk x (by omega), ck_nI (by omega) (by decide), nI_clamp (by omega), nar1, vl_d, vl_d, nI_1]
      exact e
    · refine ⟨S, ?_, fr7_rf S, h3, fun j hj => tv_iff (h4 j hj) ⟨?_, ?_⟩⟩
      · rw [f_X10_isEndless_L135, if_neg (by rw [k_4, nI_leI (by omega) (by omega)]; omega), ck_nI (by omega) (by decide), nI_clamp (by omega), v0, if_pos rfl, vl_d, nI_1]
      · rintro ⟨k', x', a, b, c, e⟩
        exact ⟨k', x', a, by omega, c, e⟩
      · rintro ⟨k', x', a, b, c, e⟩
        refine ⟨k', x', a, ?_, c, e⟩
        rcases (show k' < k ∨ k' = k by omega) with z | rfl
        · exact Or.inl z
        · exact absurd c hR
theorem eM_rows {K : Int32 → Int32 → Sg → Option (Int32 × Sg)} {n : Nat} (ok : autOk N d) (hs : s < 4) : ∀ (r k fl : Nat) (S : Sg), autM S s N d acc → k + r = N → r + 1 ≤ fl → (∀ j, j < N → tv (Rn d n j) (S.1 72 j)) → (∀ j, j < N → tv (hit d n k 0 j) (S.1 73 j)) → ∃ S', f_X10_isEndless_L122 K fl (nI s) (nI n) (nI k) S = K (nI s) (nI (n + 1)) S' ∧ fr7 S S' ∧ ∀ j, j < N → tv (Rn d (n + 1) j) (S'.1 72 j) := by
  have hb := ok.2.1
  intro r
  induction r with
  | zero =>
    intro k fl S cM h1 h2 h3 h4
    obtain ⟨f, rfl⟩ : ∃ f, fl = f + 1 := ⟨fl - 1, by omega⟩
    obtain ⟨S', e, g1, g2⟩ := eM_copy (K := K) (n := n) (Pj := Rn d (n + 1)) ok hs N 0 fu S cM (by omega) (by unfold fu; omega) (fun j hj => tv_iff (h4 j hj) (by
      rw [Rn_s]
      constructor
      · rintro ⟨k', x', a, b, c, e⟩
        exact ⟨k', x', c, a, e⟩
      · rintro ⟨k', x', c, a, e⟩
        have := Rn_lt ok.2.2 (by have := ok.1; omega) c
        exact ⟨k', x', a, by omega, c, e⟩)) (fun j hj => absurd hj (by omega))
    refine ⟨S', ?_, g1, g2⟩
    rw [f_X10_isEndless_L122, ck_nI hs (by decide), nI_clamp (by omega), cM.1, if_pos (by rw [nI_leI (by omega) (by omega)]; omega), vl_d, k_0]
    exact e
  | succ r ih =>
    intro k fl S cM h1 h2 h3 h4
    obtain ⟨f, rfl⟩ : ∃ f, fl = f + 1 := ⟨fl - 1, by omega⟩
    obtain ⟨S1, e1, a1, a2, a3⟩ := eM_row (K := f_X10_isEndless_L122 K f) (n := n) (k := k) ok hs (by omega) 4 0 fu S cM (by omega) (by unfold fu; omega) h3 h4
    obtain ⟨S', e, g1, g2⟩ := ih (k + 1) f S1 (autM_7 cM a1) (by omega) (by omega) a2 a3
    refine ⟨S', ?_, fr7_tr a1 g1, g2⟩
    rw [f_X10_isEndless_L122, ck_nI hs (by decide), nI_clamp (by omega), cM.1, if_neg (by rw [nI_leI (by omega) (by omega)]; omega), vl_d, k_0, e1]
    exact e
theorem eM_clear {K : Int32 → Int32 → Sg → Option (Int32 × Sg)} {n : Nat} (ok : autOk N d) (hs : s < 4) : ∀ (r k fl : Nat) (S : Sg), autM S s N d acc → k + r = N → r + 1 ≤ fl → (∀ j, j < N → tv (Rn d n j) (S.1 72 j)) → (∀ j, j < k → S.1 73 j = 0) → ∃ S', f_X10_isEndless_L97 K fl (nI s) (nI n) (nI k) S = K (nI s) (nI (n + 1)) S' ∧ fr7 S S' ∧ ∀ j, j < N → tv (Rn d (n + 1) j) (S'.1 72 j) := by
  have hb := ok.2.1
  intro r
  induction r with
  | zero =>
    intro k fl S cM h1 h2 h3 h4
    obtain ⟨f, rfl⟩ : ∃ f, fl = f + 1 := ⟨fl - 1, by omega⟩
    obtain ⟨S', e, g1, g2⟩ := eM_rows (K := K) (n := n) ok hs N 0 fu S cM (by omega) (by unfold fu; omega) h3 (fun j hj => Or.inr ⟨h4 j (by omega), fun ⟨k', x', _, b, _, _⟩ => by omega⟩)
    refine ⟨S', ?_, g1, g2⟩
    rw [f_X10_isEndless_L97, ck_nI hs (by decide), nI_clamp (by omega), cM.1, if_pos (by rw [nI_leI (by omega) (by omega)]; omega), vl_d, k_0]
    exact e
  | succ r ih =>
    intro k fl S cM h1 h2 h3 h4
    obtain ⟨f, rfl⟩ : ∃ f, fl = f + 1 := ⟨fl - 1, by omega⟩
    obtain ⟨S', e, g1, g2⟩ := ih (k + 1) f (sI S 73 k 0) (autM_7 cM (fr7_73 _ _ _)) (by omega) (by omega) (fun j hj => by rw [sI_id _ _ _ (by decide)]; exact h3 j hj) (fun j hj => by
      by_cases c : j = k
      · subst c; rw [sI_at]
      · rw [sI_ne _ _ (Or.inr c)]; exact h4 j (by omega))
    refine ⟨S', ?_, fr7_tr (fr7_73 _ _ _) g1, g2⟩
    rw [f_X10_isEndless_L97, ck_nI hs (by decide), nI_clamp (by omega), cM.1, if_neg (by rw [nI_leI (by omega) (by omega)]; omega), ck_nI (by omega) (by decide), nI_clamp (by omega), nar0, vl_d, vl_d, nI_1]
    exact e
end EM
