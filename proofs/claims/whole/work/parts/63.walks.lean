/-- pairs as the reference numbers them -/
def stp (d1 d2 : Nat → Nat → Nat) (p x : Nat) : Nat := 150 * d1 (p / 150) x + d2 (p % 150) x
def pOk (N1 N2 p : Nat) : Prop := p / 150 < N1 ∧ p % 150 < N2
theorem stp_ok {N1 N2 : Nat} {d1 d2 : Nat → Nat → Nat} (o1 : autOk N1 d1) (o2 : autOk N2 d2) {p x : Nat} (hp : pOk N1 N2 p) (hx : x < 4) : pOk N1 N2 (stp d1 d2 p x) ∧ stp d1 d2 p x < 22500 := by
  have h1 := o1.2.2 _ hp.1 x hx
  have h2 := o2.2.2 _ hp.2 x hx
  have b1 := o1.2.1
  have b2 := o2.2.1
  unfold stp pOk
  generalize d1 (p / 150) x = a at h1
  generalize d2 (p % 150) x = b at h2
  refine ⟨⟨?_, ?_⟩, ?_⟩
  · rw [show (150 * a + b) / 150 = a by omega]; exact h1
  · rw [show (150 * a + b) % 150 = b by omega]; exact h2
  · omega
/-- the queue of pairs: c entries, all steps before step t = 4 * k + x done -/
def bfs (N1 N2 : Nat) (d1 d2 : Nat → Nat → Nat) (c t : Nat) (q fr by_ : Nat → Nat) : Prop :=
  (1 ≤ c ∧ q 0 = 0) ∧ (∀ i, i < c → pOk N1 N2 (q i) ∧ q i < 22500) ∧ (∀ i, 0 < i → i < c → fr i < i ∧ by_ i < 4 ∧ q i = stp d1 d2 (q (fr i)) (by_ i) ∧ 4 * fr i + by_ i < t) ∧ (∀ i j, 0 < i → i < j → j < c → 4 * fr i + by_ i < 4 * fr j + by_ j) ∧ (∀ i j, i < c → j < c → q i = q j → i = j) ∧ ∀ k x, x < 4 → k < c → 4 * k + x < t → ∃ i, i < c ∧ q i = stp d1 d2 (q k) x ∧ (i = 0 ∨ 4 * fr i + by_ i ≤ 4 * k + x)
def bfsS (S : Sg) (c : Nat) (q fr by_ : Nat → Nat) : Prop := S.1 34 58 = nI c ∧ (∀ i, i < c → S.1 75 i = nI (q i)) ∧ (∀ i, 0 < i → i < c → S.1 76 i = nI (fr i) ∧ S.1 77 i = nI (by_ i)) ∧ ∀ p, p < 22500 → tv (∃ i, i < c ∧ q i = p) (S.1 78 p)
def frW (S S' : Sg) : Prop := S'.2 = S.2 ∧ (∀ id, id ≠ 34 → id ≠ 75 → id ≠ 76 → id ≠ 77 → id ≠ 78 → S'.1 id = S.1 id) ∧ ∀ b, b ≠ 58 → S'.1 34 b = S.1 34 b
theorem frW_rf (S : Sg) : frW S S := ⟨rfl, fun _ _ _ _ _ _ => rfl, fun _ _ => rfl⟩
theorem frW_tr {S S1 S2 : Sg} (h1 : frW S S1) (h2 : frW S1 S2) : frW S S2 := ⟨h2.1.trans h1.1, fun i a b c d e => (h2.2.1 i a b c d e).trans (h1.2.1 i a b c d e), fun b hb => (h2.2.2 b hb).trans (h1.2.2 b hb)⟩
theorem autM_W {S S' : Sg} {s N : Nat} {d : Nat → Nat → Nat} {acc : Nat → Bool} (h : autM S s N d acc) (hk : frW S S') : autM S' s N d acc := autM_cg h (fun i a b => hk.2.1 i (by omega) (by omega) (by omega) (by omega) (by omega))
theorem q_room {c p : Nat} {q : Nat → Nat} (h1 : ∀ i, i < c → q i < 22500) (hinj : ∀ i j, i < c → j < c → q i = q j → i = j) (hp : p < 22500) (hn : ¬ ∃ i, i < c ∧ q i = p) : c < 22500 := by
  apply Classical.byContradiction
  intro hc
  obtain ⟨i, j, hij, hj, e⟩ := pigeon 22500 (fun i => if i < 22500 then q i else p) (fun i _ => by
    show (if i < 22500 then q i else p) < 22500
    by_cases h : i < 22500
    · rw [if_pos h]; exact h1 i (by omega)
    · rw [if_neg h]; exact hp)
  have e : (if i < 22500 then q i else p) = (if j < 22500 then q j else p) := e
  rw [if_pos (by omega)] at e
  by_cases h : j < 22500
  · rw [if_pos h] at e
    have := hinj i j (by omega) (by omega) e
    omega
  · rw [if_neg h] at e
    exact hn ⟨i, by omega, e⟩
/-- meets: an old pair changes nothing -/
theorem meets_old {S : Sg} {c p : Nat} {q fr by_ : Nat → Nat} {y z : Int32} (hb : bfsS S c q fr by_) (hp : p < 22500) (h : ∃ i, i < c ∧ q i = p) : f_X10_meets (nI p) y z S = some S := by
  unfold f_X10_meets
  rcases hb.2.2.2 p hp with ⟨v, -⟩ | ⟨-, hn⟩
  · rw [ck_nI hp (by decide), nI_clamp (by omega), v, if_neg n10]
  · exact absurd h hn
/-- meets: a new pair is the queue's last -/
theorem meets_new {S : Sg} {c p : Nat} {q fr by_ : Nat → Nat} {f x : Nat} {y : Int32} (hb : bfsS S c q fr by_) (hp : p < 22500) (h : ¬ ∃ i, i < c ∧ q i = p) (hc : c < 22500) (hy : 0 < c → y = nI f) : ∃ S', f_X10_meets (nI p) y (nI x) S = some S' ∧ frW S S' ∧ bfsS S' (c + 1) (fun i => if i = c then p else q i) (fun i => if i = c then f else fr i) (fun i => if i = c then x else by_ i) := by
  obtain ⟨b1, b2, b3, b4⟩ := hb
  have e0 : f_X10_meets (nI p) y (nI x) S = some (sI (sI (sI (sI (sI S 78 p 1) 75 c (nI p)) 76 c y) 77 c (nI x)) 34 58 (nI (c + 1))) := by
    unfold f_X10_meets
    rcases b4 p hp with ⟨-, hn⟩ | ⟨v, -⟩
    · exact absurd hn h
    · rw [ck_nI hp (by decide), nI_clamp (by omega), v, if_pos rfl, ck_nI hp (by decide), nar1, vl_d, sI_id _ _ _ (by decide), b1, ck_nI hc (by decide), nI_clamp (by omega), vl_d, sI_id _ _ _ (by decide), sI_id _ _ _ (by decide), b1, ck_nI hc (by decide), nI_clamp (by omega), vl_d, sI_id _ _ _ (by decide), sI_id _ _ _ (by decide), sI_id _ _ _ (by decide), b1, ck_nI hc (by decide), nI_clamp (by omega), vl_d, vl_d, sI_id _ _ _ (by decide), sI_id _ _ _ (by decide), sI_id _ _ _ (by decide), sI_id _ _ _ (by decide), b1, nI_1]
  refine ⟨_, e0, ⟨rfl, fun id i1 i2 i3 i4 i5 => by rw [sI_id _ _ _ i1, sI_id _ _ _ i4, sI_id _ _ _ i3, sI_id _ _ _ i2, sI_id _ _ _ i5], fun b hb => by rw [sI_ne _ _ (Or.inr hb), sI_id _ _ _ (by decide), sI_id _ _ _ (by decide), sI_id _ _ _ (by decide), sI_id _ _ _ (by decide)]⟩, sI_at _ _ _ _, fun i hi => ?_, fun i h0 hi => ?_, fun r hr => ?_⟩
  · rw [sI_id _ _ _ (by decide), sI_id _ _ _ (by decide), sI_id _ _ _ (by decide)]
    show _ = nI (if i = c then p else q i)
    by_cases e : i = c
    · subst e; rw [sI_at, if_pos rfl]
    · rw [sI_ne _ _ (Or.inr e), sI_id _ _ _ (by decide), if_neg e]; exact b2 i (by omega)
  · show _ = nI (if i = c then f else fr i) ∧ _ = nI (if i = c then x else by_ i)
    have v76 : (sI (sI (sI (sI (sI S 78 p 1) 75 c (nI p)) 76 c y) 77 c (nI x)) 34 58 (nI (c + 1))).1 76 i = if i = c then y else S.1 76 i := by simp [sI_get]
    have v77 : (sI (sI (sI (sI (sI S 78 p 1) 75 c (nI p)) 76 c y) 77 c (nI x)) 34 58 (nI (c + 1))).1 77 i = if i = c then nI x else S.1 77 i := by simp [sI_get]
    rw [v76, v77]
    by_cases e : i = c
    · subst e; rw [if_pos rfl, if_pos rfl, if_pos rfl, if_pos rfl]; exact ⟨hy h0, rfl⟩
    · rw [if_neg e, if_neg e, if_neg e, if_neg e]; exact b3 i h0 (by omega)
  · rw [sI_id _ _ _ (by decide), sI_id _ _ _ (by decide), sI_id _ _ _ (by decide), sI_id _ _ _ (by decide)]
    by_cases e : r = p
    · subst e
      rw [sI_at]
      exact Or.inl ⟨rfl, c, by omega, if_pos rfl⟩
    · rw [sI_ne _ _ (Or.inr e)]
      refine tv_iff (b4 r hr) ⟨?_, ?_⟩
      · rintro ⟨i, hi, z⟩
        exact ⟨i, by omega, by show (if i = c then p else q i) = r; rw [if_neg (by omega)]; exact z⟩
      · rintro ⟨i, hi, z⟩
        have z : (if i = c then p else q i) = r := z
        by_cases c2 : i = c
        · rw [if_pos c2] at z; exact absurd z.symm e
        · rw [if_neg c2] at z; exact ⟨i, by omega, z⟩
section BFS
variable {N1 N2 : Nat} {d1 d2 : Nat → Nat → Nat}
/-- one step on the queue, in the abstract -/
theorem bfs_old {c t k x : Nat} {q fr by_ : Nat → Nat} (h : bfs N1 N2 d1 d2 c t q fr by_) (ht : t = 4 * k + x) (hx : x < 4) (hk : k < c) (hm : ∃ i, i < c ∧ q i = stp d1 d2 (q k) x) : bfs N1 N2 d1 d2 c (t + 1) q fr by_ := by
  obtain ⟨a, b, c3, d4, e5, f6⟩ := h
  refine ⟨a, b, fun i h0 hi => ?_, d4, e5, fun k' x' hx' hk' hlt => ?_⟩
  · obtain ⟨u1, u2, u3, u4⟩ := c3 i h0 hi
    exact ⟨u1, u2, u3, by omega⟩
  · by_cases hh : 4 * k' + x' < t
    · exact f6 k' x' hx' hk' hh
    · have h1 : k' = k := by omega
      have h2 : x' = x := by omega
      subst h1; subst h2
      obtain ⟨i, hi, e⟩ := hm
      refine ⟨i, hi, e, ?_⟩
      rcases Nat.eq_zero_or_pos i with z | z
      · exact Or.inl z
      · have := (c3 i z hi).2.2.2
        exact Or.inr (by omega)
theorem bfs_new {c t k x : Nat} {q fr by_ : Nat → Nat} (o1 : autOk N1 d1) (o2 : autOk N2 d2) (h : bfs N1 N2 d1 d2 c t q fr by_) (ht : t = 4 * k + x) (hx : x < 4) (hk : k < c) (hm : ¬ ∃ i, i < c ∧ q i = stp d1 d2 (q k) x) : bfs N1 N2 d1 d2 (c + 1) (t + 1) (fun i => if i = c then stp d1 d2 (q k) x else q i) (fun i => if i = c then k else fr i) (fun i => if i = c then x else by_ i) := by
  obtain ⟨a, b, c3, d4, e5, f6⟩ := h
  obtain ⟨s1, s2⟩ := stp_ok o1 o2 (b k hk).1 hx
  have qlo : ∀ i, i < c → (if i = c then stp d1 d2 (q k) x else q i) = q i := fun i hi => if_neg (by omega)
  have flo : ∀ i, i < c → (if i = c then k else fr i) = fr i := fun i hi => if_neg (by omega)
  have blo : ∀ i, i < c → (if i = c then x else by_ i) = by_ i := fun i hi => if_neg (by omega)
  refine ⟨⟨by omega, ?_⟩, fun i hi => ?_, fun i h0 hi => ?_, fun i j h0 hij hj => ?_, fun i j hi hj e => ?_, fun k' x' hx' hk' hlt => ?_⟩
  · show (if 0 = c then _ else q 0) = 0
    rw [if_neg (by omega)]; exact a.2
  · show pOk N1 N2 (if i = c then _ else q i) ∧ (if i = c then _ else q i) < 22500
    by_cases z : i = c
    · rw [if_pos z]; exact ⟨s1, s2⟩
    · rw [if_neg z]; exact b i (by omega)
  · show (if i = c then k else fr i) < i ∧ (if i = c then x else by_ i) < 4 ∧ (if i = c then stp d1 d2 (q k) x else q i) = stp d1 d2 (if (if i = c then k else fr i) = c then stp d1 d2 (q k) x else q (if i = c then k else fr i)) (if i = c then x else by_ i) ∧ 4 * (if i = c then k else fr i) + (if i = c then x else by_ i) < t + 1
    by_cases z : i = c
    · subst z
      rw [if_pos rfl, if_pos rfl, if_pos rfl, qlo k hk]
      exact ⟨hk, hx, rfl, by omega⟩
    · obtain ⟨u1, u2, u3, u4⟩ := c3 i h0 (by omega)
      rw [if_neg z, if_neg z, if_neg z, qlo (fr i) (by omega)]
      exact ⟨u1, u2, u3, by omega⟩
  · show 4 * (if i = c then k else fr i) + (if i = c then x else by_ i) < 4 * (if j = c then k else fr j) + (if j = c then x else by_ j)
    rw [flo i (by omega), blo i (by omega)]
    by_cases z : j = c
    · rw [if_pos z, if_pos z]
      have := (c3 i h0 (by omega)).2.2.2
      omega
    · rw [if_neg z, if_neg z]; exact d4 i j h0 hij (by omega)
  · have e : (if i = c then stp d1 d2 (q k) x else q i) = (if j = c then stp d1 d2 (q k) x else q j) := e
    by_cases z1 : i = c
    · by_cases z2 : j = c
      · omega
      · rw [if_pos z1, if_neg z2] at e; exact absurd ⟨j, by omega, e.symm⟩ hm
    · by_cases z2 : j = c
      · rw [if_neg z1, if_pos z2] at e; exact absurd ⟨i, by omega, e⟩ hm
      · rw [if_neg z1, if_neg z2] at e; exact e5 i j (by omega) (by omega) e
  · show ∃ i, i < c + 1 ∧ (if i = c then stp d1 d2 (q k) x else q i) = stp d1 d2 (if k' = c then stp d1 d2 (q k) x else q k') x' ∧ (i = 0 ∨ 4 * (if i = c then k else fr i) + (if i = c then x else by_ i) ≤ 4 * k' + x')
    have hk'c : k' < c := by omega
    rw [qlo k' hk'c]
    by_cases hh : 4 * k' + x' < t
    · obtain ⟨i, hi, e, w⟩ := f6 k' x' hx' hk'c hh
      exact ⟨i, by omega, by rw [qlo i hi]; exact e, by rw [flo i hi, blo i hi]; exact w⟩
    · have h1 : k' = k := by omega
      have h2 : x' = x := by omega
      subst h1; subst h2
      exact ⟨c, by omega, if_pos rfl, Or.inr (by rw [if_pos rfl, if_pos rfl]; exact Nat.le_refl _)⟩
end BFS
