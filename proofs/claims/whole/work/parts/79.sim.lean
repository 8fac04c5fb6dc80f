def fC (p : Nat) (S S' : Sg) : Prop := S'.2 = S.2 ∧ (∀ id, id ≠ 3 → id ≠ 6 → id ≠ 10 → id ≠ 11 → S'.1 id = S.1 id) ∧ S'.1 3 1 = S.1 3 1 ∧ (∀ q, q ≠ p → S'.1 6 q = S.1 6 q) ∧ (∀ j, j < 4 * p ∨ 4 * p + 4 ≤ j → S'.1 10 j = S.1 10 j) ∧ ∀ j, j < 30 * p ∨ 30 * p + 30 ≤ j → S'.1 11 j = S.1 11 j
def fM (p D : Nat) (T T' : Sg) : Prop := T'.2 = T.2 ∧ (∀ id, id ≠ 34 → id ≠ 37 → id ≠ 41 → id ≠ 42 → (id < 55 ∨ 61 < id) → T'.1 id = T.1 id) ∧ (∀ b, b ≠ 4 → b ≠ 5 → b ≠ 27 → b ≠ 28 → b ≠ 37 → b ≠ 38 → b ≠ 39 → T'.1 34 b = T.1 34 b) ∧ (∀ q, q ≠ p → T'.1 37 q = T.1 37 q) ∧ (∀ j, j < 30 * p ∨ 30 * p + 30 ≤ j → T'.1 41 j = T.1 41 j ∧ T'.1 42 j = T.1 42 j) ∧ ∀ id, 55 ≤ id → id ≤ 61 → ∀ d, d < D → T'.1 id d = T.1 id d
def vwC (n : Nat) (tx : Nat → Nat) (S : Sg) (a p sc : Nat) (F R : Nat → Int32) : Prop := tC n tx S a ∧ S.1 3 4 = 0 ∧ S.1 3 5 = -1 ∧ S.1 5 0 = nI p ∧ S.1 6 p = nI sc ∧ (∀ k, k < sc → S.1 11 (30 * p + k) = F k) ∧ (∀ x, x < 4 → S.1 10 (4 * p + x) = R x) ∧ ∃ b : Bool, S.1 3 8 = bI b
def vwM (n : Nat) (tx : Nat → Nat) (T : Sg) (a p sc : Nat) (F L : Nat → Int32) (D : Nat) : Prop := tM n tx T a ∧ T.1 34 4 = 0 ∧ T.1 34 5 = -1 ∧ T.1 34 6 = nI (p + 1) ∧ T.1 37 p = nI sc ∧ (∀ k, k < sc → T.1 42 (30 * p + k) = F k ∧ T.1 41 (30 * p + k) = L k) ∧ T.1 34 28 = nI D
def rl (sc : Nat) (R L : Nat → Int32) : Prop := ∀ x, x < 4 → ∀ k, bt (R x) k = (decide (k < sc) && bt (L k) x)
def sim (n : Nat) (tx : Nat → Nat) (p D : Nat) (S T : Sg) (a : Nat) : Prop := ∃ (sc : Nat) (F R L : Nat → Int32), vwC n tx S a p sc F R ∧ vwM n tx T a p sc F L D ∧ rl sc R L ∧ sc ≤ 30 ∧ p < 6 ∧ a ≤ n ∧ D ≤ 10
def pcs (S : Sg) (f l : Int32) (e : Bool) : Prop := S.1 3 6 = f ∧ S.1 3 7 = l ∧ S.1 3 8 = bI e
def pms (T : Sg) (f l : Int32) (e : Bool) : Prop := T.1 34 38 = f ∧ T.1 34 39 = l ∧ T.1 34 37 = bI e
def dd (n : Nat) (tx : Nat → Nat) (p : Nat) (S : Sg) (e : Int32) (pl : Nat) : Prop := tC n tx S n ∧ S.1 3 4 = e ∧ S.1 3 5 = nI pl ∧ S.1 5 0 = nI p ∧ (∃ sc, sc ≤ 30 ∧ S.1 6 p = nI sc) ∧ (∃ b : Bool, S.1 3 8 = bI b) ∧ (e = 1 ∨ e = 2)
def fm (T : Sg) (e : Int32) (pl : Nat) : Prop := T.1 34 4 = e ∧ T.1 34 5 = nI pl
theorem fC_r (p : Nat) (S : Sg) : fC p S S := ⟨rfl, fun _ _ _ _ _ => rfl, rfl, fun _ _ => rfl, fun _ _ => rfl, fun _ _ => rfl⟩
theorem fC_t {p : Nat} {S S' S'' : Sg} (h : fC p S S') (g : fC p S' S'') : fC p S S'' := ⟨by rw [g.1, h.1], fun id a b c d => by rw [g.2.1 id a b c d, h.2.1 id a b c d], by rw [g.2.2.1, h.2.2.1], fun q hq => by rw [g.2.2.2.1 q hq, h.2.2.2.1 q hq], fun j hj => by rw [g.2.2.2.2.1 j hj, h.2.2.2.2.1 j hj], fun j hj => by rw [g.2.2.2.2.2 j hj, h.2.2.2.2.2 j hj]⟩
theorem fM_r (p D : Nat) (T : Sg) : fM p D T T := ⟨rfl, fun _ _ _ _ _ _ => rfl, fun _ _ _ _ _ _ _ _ => rfl, fun _ _ => rfl, fun _ _ => ⟨rfl, rfl⟩, fun _ _ _ _ _ => rfl⟩
theorem fM_t {p D : Nat} {T T' T'' : Sg} (h : fM p D T T') (g : fM p D T' T'') : fM p D T T'' := ⟨by rw [g.1, h.1], fun id a b c d e => by rw [g.2.1 id a b c d e, h.2.1 id a b c d e], fun id a b c d e f i => by rw [g.2.2.1 id a b c d e f i, h.2.2.1 id a b c d e f i], fun q hq => by rw [g.2.2.2.1 q hq, h.2.2.2.1 q hq], fun j hj => ⟨by rw [(g.2.2.2.2.1 j hj).1, (h.2.2.2.2.1 j hj).1], by rw [(g.2.2.2.2.1 j hj).2, (h.2.2.2.2.1 j hj).2]⟩, fun id a b d hd => by rw [g.2.2.2.2.2 id a b d hd, h.2.2.2.2.2 id a b d hd]⟩
theorem fM_le {p D D' : Nat} {T T' : Sg} (h : fM p D T T') (hd : D' ≤ D) : fM p D' T T' := ⟨h.1, h.2.1, h.2.2.1, h.2.2.2.1, h.2.2.2.2.1, fun id a b d hd2 => h.2.2.2.2.2 id a b d (by omega)⟩
theorem fC_3 (p : Nat) {S S' : Sg} (h : S'.2 = S.2) (h1 : ∀ id, id ≠ 3 → S'.1 id = S.1 id) (h2 : S'.1 3 1 = S.1 3 1) : fC p S S' := ⟨h, fun id a _ _ _ => h1 id a, h2, fun _ _ => by rw [h1 6 (by decide)], fun _ _ => by rw [h1 10 (by decide)], fun _ _ => by rw [h1 11 (by decide)]⟩
theorem fM_34 (p D : Nat) {T T' : Sg} (h : T'.2 = T.2) (h1 : ∀ id, id ≠ 34 → T'.1 id = T.1 id) (h2 : ∀ b, b ≠ 4 → b ≠ 5 → b ≠ 27 → b ≠ 28 → b ≠ 37 → b ≠ 38 → b ≠ 39 → T'.1 34 b = T.1 34 b) : fM p D T T' := ⟨h, fun id a _ _ _ _ => h1 id a, h2, fun _ _ => by rw [h1 37 (by decide)], fun _ _ => ⟨by rw [h1 41 (by decide)], by rw [h1 42 (by decide)]⟩, fun id a b _ _ => by rw [h1 id (by omega)]⟩
theorem fC_ft (p : Nat) {S S' : Sg} {n pl : Nat} {e : Int32} (h : ftC S S' n e pl) : fC p S S' := fC_3 p h.1 h.2.1 h.2.2.1
theorem fM_ft (p D : Nat) {T T' : Sg} {pl : Nat} {e : Int32} (h : ftM T T' e pl) : fM p D T T' := fM_34 p D h.1 h.2.1 (fun b b1 b2 b3 _ _ _ _ => h.2.2.1 b b1 b2 b3)
theorem fC_at (p : Nat) (S : Sg) (v : Int32) : fC p S (sI S 3 2 v) := fC_3 p rfl (fun id h => sI_id _ _ _ h) (sI_ne _ _ (Or.inr (by decide)))
theorem fM_at (p D : Nat) (T : Sg) (v : Int32) : fM p D T (sI T 34 27 v) := fM_34 p D rfl (fun id h => sI_id _ _ _ h) (fun b _ _ h _ _ _ _ => sI_ne _ _ (Or.inr h))
section SIMS
variable {n : Nat} {tx : Nat → Nat} {p D : Nat}
theorem vwC_3 {S S' : Sg} {a b sc : Nat} {F R : Nat → Int32} (h : vwC n tx S a p sc F R) (h1 : ∀ id, id ≠ 3 → S'.1 id = S.1 id) (h2 : S'.1 3 1 = S.1 3 1) (h3 : S'.1 3 2 = nI b) (h4 : S'.1 3 4 = S.1 3 4) (h5 : S'.1 3 5 = S.1 3 5) (h8 : ∃ b : Bool, S'.1 3 8 = bI b) : vwC n tx S' b p sc F R := by
  obtain ⟨⟨t1, t2, t3⟩, c1, c2, c3, c4, c5, c6, -⟩ := h
  refine ⟨⟨by rw [h2, t1], h3, fun k hk => by rw [h1 4 (by decide)]; exact t3 k hk⟩, by rw [h4, c1], by rw [h5, c2], by rw [h1 5 (by decide)]; exact c3, by rw [h1 6 (by decide)]; exact c4, fun k hk => by rw [h1 11 (by decide)]; exact c5 k hk, fun x hx => by rw [h1 10 (by decide)]; exact c6 x hx, h8⟩
theorem vwC_at {S : Sg} {a sc : Nat} {F R : Nat → Int32} (h : vwC n tx S a p sc F R) (b : Nat) : vwC n tx (sI S 3 2 (nI b)) b p sc F R := vwC_3 h (fun id hid => sI_id _ _ _ hid) (sI_ne _ _ (Or.inr (by decide))) (sI_at _ _ _ _) (sI_ne _ _ (Or.inr (by decide))) (sI_ne _ _ (Or.inr (by decide))) (by rw [sI_ne _ _ (Or.inr (by decide))]; exact h.2.2.2.2.2.2.2)
theorem vwM_34 {T T' : Sg} {a b sc : Nat} {F L : Nat → Int32} {D' : Nat} (h : vwM n tx T a p sc F L D) (h1 : ∀ id, id ≠ 34 → id < 55 ∨ 61 < id → T'.1 id = T.1 id) (h3 : T'.1 34 3 = T.1 34 3) (h27 : T'.1 34 27 = nI b) (h4 : T'.1 34 4 = T.1 34 4) (h5 : T'.1 34 5 = T.1 34 5) (h6 : T'.1 34 6 = T.1 34 6) (h28 : T'.1 34 28 = nI D') : vwM n tx T' b p sc F L D' := by
  obtain ⟨⟨t1, t2, t3⟩, c1, c2, c3, c4, c5, c6⟩ := h
  exact ⟨⟨by rw [h3, t1], h27, fun k hk => by rw [h1 36 (by decide) (by omega)]; exact t3 k hk⟩, by rw [h4, c1], by rw [h5, c2], by rw [h6, c3], by rw [h1 37 (by decide) (by omega)]; exact c4, fun k hk => by rw [h1 42 (by decide) (by omega), h1 41 (by decide) (by omega)]; exact c5 k hk, h28⟩
theorem vwM_at {T : Sg} {a sc : Nat} {F L : Nat → Int32} (h : vwM n tx T a p sc F L D) (b : Nat) : vwM n tx (sI T 34 27 (nI b)) b p sc F L D := vwM_34 h (fun id hid _ => sI_id _ _ _ hid) (sI_ne _ _ (Or.inr (by decide))) (sI_at _ _ _ _) (sI_ne _ _ (Or.inr (by decide))) (sI_ne _ _ (Or.inr (by decide))) (sI_ne _ _ (Or.inr (by decide))) (by rw [sI_ne _ _ (Or.inr (by decide))]; exact h.2.2.2.2.2.2)
theorem setPiece_eq (S : Sg) (f l : Int32) (e : Bool) : f_X6_setPiece f l (bI e) S = some (sI (sI (sI S 3 6 f) 3 7 l) 3 8 (bI e)) := by
  unfold f_X6_setPiece
  rw [vl_d, vl_d, zk_b, vl_d]
theorem setPiece_fr (S : Sg) (f l : Int32) (e : Bool) : ∃ S', f_X6_setPiece f l (bI e) S = some S' ∧ S'.2 = S.2 ∧ (∀ id, id ≠ 3 → S'.1 id = S.1 id) ∧ (∀ b, b ≠ 6 → b ≠ 7 → b ≠ 8 → S'.1 3 b = S.1 3 b) ∧ pcs S' f l e := by
  refine ⟨_, setPiece_eq S f l e, rfl, fun id h => by rw [sI_id _ _ _ h, sI_id _ _ _ h, sI_id _ _ _ h], fun b b1 b2 b3 => by rw [sI_ne _ _ (Or.inr b3), sI_ne _ _ (Or.inr b2), sI_ne _ _ (Or.inr b1)], ?_, ?_, sI_at _ _ _ _⟩
  · rw [sI_ne _ _ (Or.inr (by decide)), sI_ne _ _ (Or.inr (by decide)), sI_at]
  · rw [sI_ne _ _ (Or.inr (by decide)), sI_at]
theorem setPiece_vwC {S : Sg} {a sc : Nat} {F R : Nat → Int32} (h : vwC n tx S a p sc F R) (f l : Int32) (e : Bool) : ∃ S', f_X6_setPiece f l (bI e) S = some S' ∧ vwC n tx S' a p sc F R ∧ pcs S' f l e ∧ fC p S S' := by
  obtain ⟨S', e1, w1, w2, w3, w4⟩ := setPiece_fr S f l e
  exact ⟨S', e1, vwC_3 h w2 (w3 1 (by decide) (by decide) (by decide)) (by rw [w3 2 (by decide) (by decide) (by decide)]; exact h.1.2.1) (w3 4 (by decide) (by decide) (by decide)) (w3 5 (by decide) (by decide) (by decide)) ⟨e, w4.2.2⟩, w4, fC_3 p w1 w2 (w3 1 (by decide) (by decide) (by decide))⟩
theorem setPiece_dd {S : Sg} {e : Int32} {pl : Nat} (h : dd n tx p S e pl) (f l : Int32) (b : Bool) : ∃ S', f_X6_setPiece f l (bI b) S = some S' ∧ dd n tx p S' e pl ∧ fC p S S' := by
  obtain ⟨S', e1, w1, w2, w3, w4⟩ := setPiece_fr S f l b
  obtain ⟨⟨t1, t2, t3⟩, h2, h3, h4, h5, h6, h7⟩ := h
  have w3' : ∀ b, b < 6 → S'.1 3 b = S.1 3 b := fun b hb => w3 b (by omega) (by omega) (by omega)
  exact ⟨S', e1, ⟨⟨by rw [w3' 1 (by omega)]; exact t1, by rw [w3' 2 (by omega)]; exact t2, fun k hk => by rw [w2 4 (by decide)]; exact t3 k hk⟩, by rw [w3' 4 (by omega)]; exact h2, by rw [w3' 5 (by omega)]; exact h3, by rw [w2 5 (by decide)]; exact h4, by rw [w2 6 (by decide)]; exact h5, ⟨b, w4.2.2⟩, h7⟩, fC_3 p w1 w2 (w3' 1 (by omega))⟩
theorem dd_of {S S' : Sg} {a sc pl : Nat} {F R : Nat → Int32} {e : Int32} (h : vwC n tx S a p sc F R) (hs : sc ≤ 30) (he : e = 1 ∨ e = 2) (w : ftC S S' n e pl) : dd n tx p S' e pl := by
  obtain ⟨t, c1, c2, c3, c4, c5, c6, c7⟩ := h
  exact ⟨tC_ft t w, w.2.2.2.2.2.1, w.2.2.2.2.2.2, by rw [w.2.1 5 (by decide)]; exact c3, ⟨sc, hs, by rw [w.2.1 6 (by decide)]; exact c4⟩, by rw [w.2.2.2.1]; exact c7, he⟩
/-- the new spot, in the class -/
theorem vwC_spot {g : Int32 → Sg → Option Sg} {S : Sg} {a sc : Nat} {F R : Nat → Int32} (x : Int32) (h : vwC n tx S a p sc F R) (hp : p < 6) (hs : sc < 30) : ∃ S', f_X6_atom_L125 g x S = some S' ∧ vwC n tx S' a p (sc + 1) (fun k => if k = sc then 0 else F k) (fun y => if bt x y = true then R y ||| sb sc else R y) ∧ pcs S' (sb sc) (sb sc) false ∧ fC p S S' := by
  obtain ⟨⟨t1, t2, t3⟩, c1, c2, c3, c4, c5, c6, c7⟩ := h
  obtain ⟨S1, e1, w1, w2, w3, w4, w5⟩ := addSpot_eq x hp hs c3 c4
  have h1 : vwC n tx S1 a p (sc + 1) (fun k => if k = sc then 0 else F k) (fun y => if bt x y = true then R y ||| sb sc else R y) := by
    have e3 := w2 3 (by decide) (by decide) (by decide)
    refine ⟨⟨by rw [e3]; exact t1, by rw [e3]; exact t2, fun k hk => by rw [w2 4 (by decide) (by decide) (by decide)]; exact t3 k hk⟩, by rw [e3]; exact c1, by rw [e3]; exact c2, by rw [w2 5 (by decide) (by decide) (by decide)]; exact c3, by rw [w3 p, if_pos rfl], fun k hk => ?_, fun y hy => ?_, by rw [e3]; exact c7⟩
    · rw [w5]
      by_cases e : k = sc
      · subst e; simp
      · rw [if_neg (by omega)]; simp only [if_neg e]; exact c5 k (by omega)
    · show _ = if bt x y = true then R y ||| sb sc else R y
      rw [w4, Nat.add_sub_cancel_left, c6 y hy]
      cases hb : bt x y with
      | true => rw [if_pos ⟨by omega, by omega, rfl⟩, if_pos rfl]
      | false => rw [if_neg (fun z => absurd z.2.2 (by decide)), if_neg (by decide)]
  have f1 : fC p S S1 := ⟨w1, fun id a b c d => w2 id c b d, by rw [w2 3 (by decide) (by decide) (by decide)], fun q hq => by rw [w3 q, if_neg hq], fun j hj => by rw [w4 j, if_neg (by omega)], fun j hj => by rw [w5 j, if_neg (by omega)]⟩
  obtain ⟨S2, e2, y1, y2, y3⟩ := setPiece_vwC h1 (sb sc) (sb sc) false
  refine ⟨S2, ?_, y1, y2, fC_t f1 y3⟩
  unfold f_X6_atom_L125
  rw [e1, bd2_some, vl_d, show (0 : Int32) = bI false from rfl, e2, bd_some]
theorem vwM_spot {T : Sg} {a sc : Nat} {F L : Nat → Int32} (x w : Int32) (h : vwM n tx T a p sc F L D) (hp : p < 6) (hs : sc < 30) : ∃ T', f_X10_spot x w T = some T' ∧ vwM n tx T' a p (sc + 1) (fun k => if k = sc then 0 else F k) (fun k => if k = sc then x else L k) D ∧ pms T' (sb sc) (sb sc) false ∧ fM p 12 T T' := by
  obtain ⟨⟨t1, t2, t3⟩, c1, c2, c3, c4, c5, c6⟩ := h
  refine ⟨_, spot_eq x w hp hs c3 c4, ?_, ?_, ?_⟩
  · have q34 : ∀ b, b ≠ 37 → b ≠ 38 → b ≠ 39 → (sI (sI (sI (sI (sI (sI T 41 (30 * p + sc) x) 42 (30 * p + sc) 0) 37 p (nI (sc + 1))) 34 37 0) 34 38 (sb sc)) 34 39 (sb sc)).1 34 b = T.1 34 b := fun b b1 b2 b3 => by rw [sI_ne _ _ (Or.inr b3), sI_ne _ _ (Or.inr b2), sI_ne _ _ (Or.inr b1), sI_id _ _ _ (by decide), sI_id _ _ _ (by decide), sI_id _ _ _ (by decide)]
    refine ⟨⟨by rw [q34 3 (by decide) (by decide) (by decide)]; exact t1, by rw [q34 27 (by decide) (by decide) (by decide)]; exact t2, fun k hk => ?_⟩, by rw [q34 4 (by decide) (by decide) (by decide)]; exact c1, by rw [q34 5 (by decide) (by decide) (by decide)]; exact c2, by rw [q34 6 (by decide) (by decide) (by decide)]; exact c3, ?_, fun k hk => ⟨?_, ?_⟩, by rw [q34 28 (by decide) (by decide) (by decide)]; exact c6⟩
    · rw [sI_id _ _ _ (by decide), sI_id _ _ _ (by decide), sI_id _ _ _ (by decide), sI_id _ _ _ (by decide), sI_id _ _ _ (by decide), sI_id _ _ _ (by decide)]; exact t3 k hk
    · rw [sI_id _ _ _ (by decide), sI_id _ _ _ (by decide), sI_id _ _ _ (by decide), sI_at]
    · rw [sI_id _ _ _ (by decide), sI_id _ _ _ (by decide), sI_id _ _ _ (by decide), sI_id _ _ _ (by decide), sI_get, if_pos rfl, sI_id _ _ _ (by decide)]
      by_cases e : k = sc
      · subst e; simp
      · rw [if_neg (by omega)]; simp only [if_neg e]; exact (c5 k (by omega)).1
    · rw [sI_id _ _ _ (by decide), sI_id _ _ _ (by decide), sI_id _ _ _ (by decide), sI_id _ _ _ (by decide), sI_id _ _ _ (by decide), sI_get, if_pos rfl]
      by_cases e : k = sc
      · subst e; simp
      · rw [if_neg (by omega)]; simp only [if_neg e]; exact (c5 k (by omega)).2
  · refine ⟨?_, sI_at _ _ _ _, ?_⟩
    · rw [sI_ne _ _ (Or.inr (by decide)), sI_at]
    · rw [sI_ne _ _ (Or.inr (by decide)), sI_ne _ _ (Or.inr (by decide)), sI_at]; rfl
  · refine ⟨rfl, fun id i1 i2 i3 i4 i5 => by rw [sI_id _ _ _ i1, sI_id _ _ _ i1, sI_id _ _ _ i1, sI_id _ _ _ i2, sI_id _ _ _ i4, sI_id _ _ _ i3], fun b b1 b2 b3 b4 b5 b6 b7 => by rw [sI_ne _ _ (Or.inr b7), sI_ne _ _ (Or.inr b6), sI_ne _ _ (Or.inr b5), sI_id _ _ _ (by decide), sI_id _ _ _ (by decide), sI_id _ _ _ (by decide)], fun q hq => by rw [sI_id _ _ _ (by decide), sI_id _ _ _ (by decide), sI_id _ _ _ (by decide), sI_ne _ _ (Or.inr hq), sI_id _ _ _ (by decide), sI_id _ _ _ (by decide)], fun j hj => ⟨?_, ?_⟩, fun id i1 i2 d hd => by rw [sI_id _ _ _ (by omega), sI_id _ _ _ (by omega), sI_id _ _ _ (by omega), sI_id _ _ _ (by omega), sI_id _ _ _ (by omega), sI_id _ _ _ (by omega)]⟩
    · rw [sI_id _ _ _ (by decide), sI_id _ _ _ (by decide), sI_id _ _ _ (by decide), sI_id _ _ _ (by decide), sI_id _ _ _ (by decide), sI_ne _ _ (Or.inr (by omega))]
    · rw [sI_id _ _ _ (by decide), sI_id _ _ _ (by decide), sI_id _ _ _ (by decide), sI_id _ _ _ (by decide), sI_ne _ _ (Or.inr (by omega)), sI_id _ _ _ (by decide)]
theorem rl_spot {sc : Nat} {R L : Nat → Int32} (x : Int32) (h : rl sc R L) (hs : sc < 30) : rl (sc + 1) (fun y => if bt x y = true then R y ||| sb sc else R y) (fun k => if k = sc then x else L k) := by
  intro y hy k
  show bt (if bt x y = true then R y ||| sb sc else R y) k = (decide (k < sc + 1) && bt (if k = sc then x else L k) y)
  have h0 := h y hy k
  by_cases e : k = sc
  · subst e
    rw [if_pos rfl, decide_eq_true (by omega)]
    rw [decide_eq_false (by omega), Bool.false_and] at h0
    cases hb : bt x y with
    | true => rw [if_pos rfl, b_or, h0]; unfold sb; rw [bt_shl (by omega), decide_eq_true rfl]; rfl
    | false => rw [if_neg (by decide), h0]; rfl
  · rw [if_neg e]
    have e2 : bt (if bt x y = true then R y ||| sb sc else R y) k = bt (R y) k := by
      cases hb : bt x y with
      | true => rw [if_pos rfl, b_or]; unfold sb; rw [bt_shl (by omega), decide_eq_false e, Bool.or_false]
      | false => rw [if_neg (by decide)]
    rw [e2, h0]
    by_cases e3 : k < sc
    · rw [decide_eq_true e3, decide_eq_true (by omega)]
    · rw [decide_eq_false e3, decide_eq_false (by omega)]
end SIMS
