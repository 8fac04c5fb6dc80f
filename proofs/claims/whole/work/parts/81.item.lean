section ITEM
variable {n : Nat} {tx : Nat → Nat} {p D : Nat}
theorem link_sim {S T : Sg} {a : Nat} (x y : Int32) (h : sim n tx p D S T a) : ∃ S' T', f_X7_link x y S = some S' ∧ f_X10_follows x y T = some T' ∧ sim n tx p D S' T' a ∧ fC p S S' ∧ fM p 12 T T' ∧ (∀ id, id ≠ 11 → S'.1 id = S.1 id) ∧ ∀ id, id ≠ 42 → T'.1 id = T.1 id := by
  obtain ⟨sc, F, R, L, ⟨⟨t1, t2, t3⟩, c1, c2, c3, c4, c5, c6, c7⟩, ⟨⟨m1, m2, m3⟩, b1, b2, b3, b4, b5, b6⟩, hrl, hs, hp, ha, hD⟩ := h
  obtain ⟨S', e1, w1, w2, w3⟩ := link_eq x y hp hs c3 c4
  obtain ⟨T', e2, y1, y2, y3⟩ := follows_eq x y hp b3
  have s3 := w2 3 (by decide)
  have m34 := y2 34 (by decide)
  refine ⟨S', T', e1, e2, ⟨sc, fun k => if bt x k = true then F k ||| y else F k, R, L, ⟨⟨by rw [s3]; exact t1, by rw [s3]; exact t2, fun k hk => by rw [w2 4 (by decide)]; exact t3 k hk⟩, by rw [s3]; exact c1, by rw [s3]; exact c2, by rw [w2 5 (by decide)]; exact c3, by rw [w2 6 (by decide)]; exact c4, fun k hk => ?_, fun z hz => by rw [w2 10 (by decide)]; exact c6 z hz, by rw [s3]; exact c7⟩, ⟨⟨by rw [m34]; exact m1, by rw [m34]; exact m2, fun k hk => by rw [y2 36 (by decide)]; exact m3 k hk⟩, by rw [m34]; exact b1, by rw [m34]; exact b2, by rw [m34]; exact b3, by rw [y2 37 (by decide)]; exact b4, fun k hk => ⟨?_, by rw [y2 41 (by decide)]; exact (b5 k hk).2⟩, by rw [m34]; exact b6⟩, hrl, hs, hp, ha, hD⟩, ⟨w1, fun id _ _ _ h => w2 id h, by rw [s3], fun q _ => by rw [w2 6 (by decide)], fun j _ => by rw [w2 10 (by decide)], fun j hj => by rw [w3 j, if_neg (by omega)]⟩, ⟨y1, fun id _ _ _ h _ => y2 id h, fun b _ _ _ _ _ _ _ => by rw [m34], fun q _ => by rw [y2 37 (by decide)], fun j hj => ⟨by rw [y2 41 (by decide)], by rw [y3 j, if_neg (by omega)]⟩, fun id i1 i2 d _ => by rw [y2 id (by omega)]⟩, w2, y2⟩
  · show _ = if bt x k = true then F k ||| y else F k
    rw [w3, Nat.add_sub_cancel_left, c5 k hk]
    cases hb : bt x k with
    | true => rw [if_pos ⟨by omega, by omega, rfl⟩, if_pos rfl]
    | false => rw [if_neg (fun z => absurd z.2.2 (by decide)), if_neg (by decide)]
  · show _ = if bt x k = true then F k ||| y else F k
    rw [y3, Nat.add_sub_cancel_left, (b5 k hk).1]
    cases hb : bt x k with
    | true => rw [if_pos ⟨by omega, by omega, rfl⟩, if_pos rfl]
    | false => rw [if_neg (fun z => absurd z.2.2 (by decide)), if_neg (by decide)]
theorem sim_at {S T : Sg} {a b : Nat} (h : sim n tx p D S T a) (hb : b ≤ n) : sim n tx p D (sI S 3 2 (nI b)) (sI T 34 27 (nI b)) b := by
  obtain ⟨sc, F, R, L, hC, hM, hrl, hs, hp, ha, hD⟩ := h
  exact ⟨sc, F, R, L, vwC_at hC b, vwM_at hM b, hrl, hs, hp, hb, hD⟩
abbrev isRp (c : Nat) : Prop := c = 42 ∨ c = 43 ∨ c = 63
theorem isRepeat_eq {a : Nat} {S : Sg} (ok : okT n tx) : f_X6_isRepeat (sgn n tx a) S = some (bI (decide (isRp (chr n tx a))), S) := by
  unfold f_X6_isRepeat
  rw [k_42, k_43, k_63]
  simp only [sgn_is ok (show 42 < 256 by decide), sgn_is ok (show 43 < 256 by decide), sgn_is ok (show 63 < 256 by decide)]
  generalize chr n tx a = c
  by_cases h1 : c = 42
  · simp [h1, bI]
  · by_cases h2 : c = 43
    · simp [h2, bI]
    · by_cases h3 : c = 63
      · simp [h3, bI]
      · simp [h1, h2, h3, bI]
/-- the marks behind an atom -/
theorem itemL {g : Int32 → Sg → Option Sg} (ok : okT n tx) : ∀ (r a t fl gl : Nat) (S T : Sg) (f l : Int32) (e : Bool), n ≤ a + r → t ≤ a → r + 1 ≤ fl → r + 1 ≤ gl → sim n tx p D S T a → pcs S f l e → pms T f l e → ∃ (S' T' : Sg) (b : Nat) (e' : Bool), f_X6_item_L7 g fl (nI t) S = some S' ∧ f_X10_item_L0 gl T = f_X10_item_L93 T' ∧ sim n tx p D S' T' b ∧ a ≤ b ∧ pcs S' f l e' ∧ pms T' f l e' ∧ fC p S S' ∧ fM p 12 T T' := by
  have hn := ok.1
  intro r
  induction r with
  | zero =>
    intro a t fl gl S T f l e hr ht hfl hgl h hp1 hp2
    obtain ⟨f1, rfl⟩ : ∃ f1, fl = f1 + 1 := ⟨fl - 1, by omega⟩
    obtain ⟨f2, rfl⟩ : ∃ f2, gl = f2 + 1 := ⟨gl - 1, by omega⟩
    have h' := h
    obtain ⟨sc, F, R, L, hC, hM, hrl, hs, hp, ha, hD⟩ := h
    have hc := chr_end (n := n) (tx := tx) (a := a) (by omega)
    refine ⟨S, T, a, e, ?_, ?_, h', Nat.le_refl _, hp1, hp2, fC_r p S, fM_r p 12 T⟩
    · rw [f_X6_item_L7, hC.1.1]
      by_cases hl : nI n ≤ nI t
      · rw [if_pos hl]
      · rw [if_neg hl, sign_eq ok hC.1 (by omega), bd2_some, isRepeat_eq ok, bd2_some, b_f (by rw [hc]; unfold isRp; omega), if_pos rfl]
    · rw [f_X10_item_L0, if_pos hM.2.1, k_42, ms_is ok hM.1 (by omega) (by decide), if_neg (by omega), k_43, ms_is ok hM.1 (by omega) (by decide), if_neg (by omega), k_63, ms_is ok hM.1 (by omega) (by decide), if_neg (by omega)]
  | succ r ih =>
    intro a t fl gl S T f l e hr ht hfl hgl h hp1 hp2
    obtain ⟨f1, rfl⟩ : ∃ f1, fl = f1 + 1 := ⟨fl - 1, by omega⟩
    obtain ⟨f2, rfl⟩ : ∃ f2, gl = f2 + 1 := ⟨gl - 1, by omega⟩
    have h' := h
    obtain ⟨sc, F, R, L, hC, hM, hrl, hs, hp, ha, hD⟩ := h
    by_cases hrp : isRp (chr n tx a)
    · have han := chr_in (n := n) (tx := tx) (a := a) (fun z => by rw [z] at hrp; unfold isRp at hrp; omega)
      have e1 : f_X6_item_L7 g (f1 + 1) (nI t) S = if chr n tx a = 63 then f_X6_item_L49 g (f_X6_item_L7 g f1) (nI t) S else bd (f_X7_link l f S) (fun S_16 => (f_X6_item_L49 g (f_X6_item_L7 g f1)) (nI t) S_16) := by
        rw [f_X6_item_L7, hC.1.1, if_neg (by rw [nI_leI (by omega) (by omega)]; omega), sign_eq ok hC.1 (by omega), bd2_some, isRepeat_eq ok, bd2_some, b_t hrp, if_neg n10, k_63, cs_is ok hC.1 (by omega) (by decide), hp1.1, hp1.2.1]
      have e2 : f_X10_item_L0 (f2 + 1) T = if chr n tx a = 63 then f_X10_item_L55 (f_X10_item_L0 f2) T else bd (f_X10_follows l f T) (fun S_23 => f_X10_item_L55 (f_X10_item_L0 f2) S_23) := by
        have q : f_X10_item_L34 (f_X10_item_L0 f2) T = if chr n tx a = 63 then f_X10_item_L55 (f_X10_item_L0 f2) T else bd (f_X10_follows l f T) (fun S_23 => f_X10_item_L55 (f_X10_item_L0 f2) S_23) := by
          unfold f_X10_item_L34
          rw [k_63, ms_is ok hM.1 (by omega) (by decide), hp2.1, hp2.2.1]
        rw [← q, f_X10_item_L0, if_pos hM.2.1, k_42, ms_is ok hM.1 (by omega) (by decide)]
        by_cases z1 : chr n tx a = 42
        · rw [if_pos z1]
        · rw [if_neg z1, k_43, ms_is ok hM.1 (by omega) (by decide)]
          by_cases z2 : chr n tx a = 43
          · rw [if_pos z2]
          · rw [if_neg z2, k_63, ms_is ok hM.1 (by omega) (by decide), if_pos (by unfold isRp at hrp; omega)]
      -- what follows in both
      have tail : ∀ (S1 T1 : Sg), sim n tx p D S1 T1 a → pcs S1 f l e → pms T1 f l e → ∃ (S' T' : Sg) (b : Nat) (e' : Bool), f_X6_item_L49 g (f_X6_item_L7 g f1) (nI t) S1 = some S' ∧ f_X10_item_L55 (f_X10_item_L0 f2) T1 = f_X10_item_L93 T' ∧ sim n tx p D S' T' b ∧ a ≤ b ∧ pcs S' f l e' ∧ pms T' f l e' ∧ fC p S1 S' ∧ fM p 12 T1 T' := by
        intro S1 T1 g0 p1 p2
        have g' := g0
        obtain ⟨sc1, F1, R1, L1, hC1, hM1, hrl1, hs1, hp1', ha1, hD1⟩ := g0
        let e2 : Bool := e || decide (¬ chr n tx a = 43)
        have hS : ∃ S2, f_X6_item_L49 g (f_X6_item_L7 g f1) (nI t) S1 = f_X6_item_L7 g f1 (nI (t + 1)) S2 ∧ pcs S2 f l e2 ∧ vwC n tx S2 (a + 1) p sc1 F1 R1 ∧ fC p S1 S2 := by
          by_cases z : chr n tx a = 43
          · have : e2 = e := by show (e || decide (¬ chr n tx a = 43)) = e; rw [decide_eq_false (fun q => q z), Bool.or_false]
            refine ⟨sI S1 3 2 (nI (a + 1)), ?_, ?_, vwC_at hC1 (a + 1), fC_at p S1 _⟩
            · unfold f_X6_item_L49
              rw [k_43, cs_is ok hC1.1 (by omega) (by decide), if_pos z, vl_d, vl_d, hC1.1.2.1, nI_1, nI_1]
            · rw [this]
              exact ⟨by rw [sI_ne _ _ (Or.inr (by decide))]; exact p1.1, by rw [sI_ne _ _ (Or.inr (by decide))]; exact p1.2.1, by rw [sI_ne _ _ (Or.inr (by decide))]; exact p1.2.2⟩
          · have : e2 = true := by show (e || decide (¬ chr n tx a = 43)) = true; rw [decide_eq_true z, Bool.or_true]
            refine ⟨sI (sI S1 3 8 1) 3 2 (nI (a + 1)), ?_, ?_, ?_, ?_⟩
            · unfold f_X6_item_L49
              rw [k_43, cs_is ok hC1.1 (by omega) (by decide), if_neg z, zk_1, vl_d, vl_d, vl_d, sI_ne _ _ (Or.inr (by decide)), hC1.1.2.1, nI_1, nI_1]
            · rw [this]
              exact ⟨by rw [sI_ne _ _ (Or.inr (by decide)), sI_ne _ _ (Or.inr (by decide))]; exact p1.1, by rw [sI_ne _ _ (Or.inr (by decide)), sI_ne _ _ (Or.inr (by decide))]; exact p1.2.1, by rw [sI_ne _ _ (Or.inr (by decide)), sI_at]; rfl⟩
            · exact vwC_3 hC1 (fun id hid => by rw [sI_id _ _ _ hid, sI_id _ _ _ hid]) (by rw [sI_ne _ _ (Or.inr (by decide)), sI_ne _ _ (Or.inr (by decide))]) (sI_at _ _ _ _) (by rw [sI_ne _ _ (Or.inr (by decide)), sI_ne _ _ (Or.inr (by decide))]) (by rw [sI_ne _ _ (Or.inr (by decide)), sI_ne _ _ (Or.inr (by decide))]) ⟨true, by rw [sI_ne _ _ (Or.inr (by decide)), sI_at]; rfl⟩
            · exact fC_3 p rfl (fun id hid => by rw [sI_id _ _ _ hid, sI_id _ _ _ hid]) (by rw [sI_ne _ _ (Or.inr (by decide)), sI_ne _ _ (Or.inr (by decide))])
        have hT : ∃ T2, f_X10_item_L55 (f_X10_item_L0 f2) T1 = f_X10_item_L0 f2 T2 ∧ pms T2 f l e2 ∧ vwM n tx T2 (a + 1) p sc1 F1 L1 D ∧ fM p 12 T1 T2 := by
          have fin : ∀ v : Int32, v = bI e2 → pms (sI (sI T1 34 37 v) 34 27 (nI (a + 1))) f l e2 ∧ vwM n tx (sI (sI T1 34 37 v) 34 27 (nI (a + 1))) (a + 1) p sc1 F1 L1 D ∧ fM p 12 T1 (sI (sI T1 34 37 v) 34 27 (nI (a + 1))) := by
            intro v hv
            have q34 : ∀ b, b ≠ 37 → b ≠ 27 → (sI (sI T1 34 37 v) 34 27 (nI (a + 1))).1 34 b = T1.1 34 b := fun b b1 b2 => by rw [sI_ne _ _ (Or.inr b2), sI_ne _ _ (Or.inr b1)]
            have qid : ∀ id, id ≠ 34 → (sI (sI T1 34 37 v) 34 27 (nI (a + 1))).1 id = T1.1 id := fun id hid => by rw [sI_id _ _ _ hid, sI_id _ _ _ hid]
            exact ⟨⟨by rw [q34 38 (by decide) (by decide)]; exact p2.1, by rw [q34 39 (by decide) (by decide)]; exact p2.2.1, by rw [sI_ne _ _ (Or.inr (by decide)), sI_at, hv]⟩, vwM_34 hM1 (fun id hid _ => qid id hid) (q34 3 (by decide) (by decide)) (sI_at _ _ _ _) (q34 4 (by decide) (by decide)) (q34 5 (by decide) (by decide)) (q34 6 (by decide) (by decide)) (by rw [q34 28 (by decide) (by decide)]; exact hM1.2.2.2.2.2.2), fM_34 p 12 rfl qid (fun b b1 b2 b3 b4 b5 b6 b7 => q34 b b5 b3)⟩
          have at2 : ∀ v : Int32, (sI T1 34 37 v).1 34 27 + 1 = nI (a + 1) := fun v => by rw [sI_ne _ _ (Or.inr (by decide)), hM1.1.2.1, nI_1]
          unfold f_X10_item_L55
          rw [p2.2.2]
          cases he : e with
          | true =>
            refine ⟨sI (sI T1 34 37 1) 34 27 (nI (a + 1)), ?_, fin 1 ?_⟩
            · rw [if_neg (show ¬ bI true = 0 by decide), zk_1, vl_d, vl_d, at2]
            · show (1 : Int32) = bI (e || decide (¬ chr n tx a = 43)); rw [he, Bool.true_or]; rfl
          | false =>
            rw [if_pos (show bI false = 0 by decide), k_43, ms_is ok hM1.1 (by omega) (by decide)]
            by_cases z : chr n tx a = 43
            · refine ⟨sI (sI T1 34 37 0) 34 27 (nI (a + 1)), ?_, fin 0 ?_⟩
              · rw [if_pos z, zk_0, vl_d, vl_d, at2]
              · show (0 : Int32) = bI (e || decide (¬ chr n tx a = 43)); rw [he, decide_eq_false (fun q => q z)]; rfl
            · refine ⟨sI (sI T1 34 37 1) 34 27 (nI (a + 1)), ?_, fin 1 ?_⟩
              · rw [if_neg z, zk_1, vl_d, vl_d, at2]
              · show (1 : Int32) = bI (e || decide (¬ chr n tx a = 43)); rw [he, decide_eq_true z]; rfl
        obtain ⟨S2, q1, q2, q3, q4⟩ := hS
        obtain ⟨T2, r1, r2, r3, r4⟩ := hT
        obtain ⟨S', T', b, e', u1, u2, u3, u4, u5, u6, u7, u8⟩ := ih (a + 1) (t + 1) f1 f2 S2 T2 f l e2 (by omega) (by omega) (by omega) (by omega) ⟨sc1, F1, R1, L1, q3, r3, hrl1, hs1, hp1', by omega, hD1⟩ q2 r2
        exact ⟨S', T', b, e', by rw [q1, u1], by rw [r1, u2], u3, by omega, u5, u6, fC_t q4 u7, fM_t r4 u8⟩
      rw [e1, e2]
      by_cases z : chr n tx a = 63
      · rw [if_pos z, if_pos z]
        exact tail S T h' hp1 hp2
      · rw [if_neg z, if_neg z]
        obtain ⟨S1, T1, q1, q2, q3, q4, q5, q6, q7⟩ := link_sim l f h'
        obtain ⟨S', T', b, e', u1, u2, u3, u4, u5, u6, u7, u8⟩ := tail S1 T1 q3 (by unfold pcs; rw [q6 3 (by decide)]; exact hp1) (by unfold pms; rw [q7 34 (by decide)]; exact hp2)
        exact ⟨S', T', b, e', by rw [q1, bd_some, u1], by rw [q2, bd_some, u2], u3, u4, u5, u6, fC_t q4 u7, fM_t q5 u8⟩
    · refine ⟨S, T, a, e, ?_, ?_, h', Nat.le_refl _, hp1, hp2, fC_r p S, fM_r p 12 T⟩
      · rw [f_X6_item_L7, hC.1.1]
        by_cases hl : nI n ≤ nI t
        · rw [if_pos hl]
        · rw [if_neg hl, sign_eq ok hC.1 (by omega), bd2_some, isRepeat_eq ok, bd2_some, b_f hrp, if_pos rfl]
      · unfold isRp at hrp
        rw [f_X10_item_L0, if_pos hM.2.1, k_42, ms_is ok hM.1 (by omega) (by decide), if_neg (by omega), k_43, ms_is ok hM.1 (by omega) (by decide), if_neg (by omega), k_63, ms_is ok hM.1 (by omega) (by decide), if_neg (by omega)]
end ITEM
def mpM (fl gl : Nat) (T : Sg) : Option Sg := bd (f_X10_item_L93 T) (fun Z => f_X10_part_L157 (f_X10_part_L52 fl) gl 1 Z)
def outI (n : Nat) (tx : Nat → Nat) (p D : Nat) (S T : Sg) (a : Nat) (r ref : Option Sg) : Prop := (∃ (S' T' : Sg) (b : Nat) (f l : Int32) (e : Bool) (fl gl : Nat), r = some S' ∧ ref = mpM fl gl T' ∧ sim n tx p D S' T' b ∧ a < b ∧ pcs S' f l e ∧ pms T' f l e ∧ fC p S S' ∧ fM p (D + 1) T T' ∧ n + 2 ≤ fl + b ∧ n + 2 ≤ gl + b) ∨ outF n tx p S T r ref
theorem item_sim {n : Nat} {tx : Nat → Nat} {p D : Nat} {g : Int32 → Sg → Option Sg} (ok : okT n tx) (hA : ∀ (S T : Sg) (a fl : Nat), sim n tx p D S T a → n + 2 ≤ fl + a → outA n tx p D S T a (g (nI D) S) (hdM fl T)) {S T : Sg} {a fl : Nat} (h : sim n tx p D S T a) (hfl : n + 2 ≤ fl + a) : outI n tx p D S T a (f_X6_item g (nI D) S) (hdM fl T) := by
  have hn := ok.1
  have hD : D ≤ 10 := by obtain ⟨_, _, _, _, _, _, _, _, _, _, hD⟩ := h; exact hD
  rcases hA S T a fl h hfl with ⟨S1, T1, b, f, l, e, fl1, gl1, q1, q2, q3, q4, q5, q6, q7, q8, q9, q10⟩ | ⟨S1, T1, e, pl, q1, q2, q3, q4, q5, q6⟩
  · obtain ⟨S', T', b2, e', u1, u2, u3, u4, u5, u6, u7, u8⟩ := itemL (g := g) ok n b 0 fu fu S1 T1 f l e (by omega) (by omega) (by unfold fu; omega) (by unfold fu; omega) q3 q5 q6
    refine Or.inl ⟨S', T', b2, f, l, e', fl1, gl1, ?_, ?_, u3, by omega, u5, u6, fC_t q7 u7, fM_t q8 (fM_le u8 (by omega)), by omega, by omega⟩
    · unfold f_X6_item
      rw [q1, bd_some, vl_d, k_0, u1]
    · rw [q2]
      unfold ipM mpM f_X10_item
      rw [u2]
  · refine Or.inr ⟨S1, T1, e, pl, ?_, q2, q3, q4, q5, q6⟩
    unfold f_X6_item
    rw [q1, bd_some, vl_d, fu_s, f_X6_item_L7, q3.1.1]
    by_cases hl : nI n ≤ 0
    · rw [if_pos hl]
    · rw [if_neg hl, sign_eq ok q3.1 (by omega), bd2_some, isRepeat_eq ok, bd2_some, b_f (by rw [chr_n]; unfold isRp; omega), if_pos rfl]
