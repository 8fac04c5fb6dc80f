def brk (o : Nat) (T : Sg) : Prop := o = 0 ∨ T.1 62 (o - 1) = 1
def pd (e : Bool) (v : Int64) (vs ws : List Int64) : Prop := (e = false ∧ ws = v :: vs) ∨ (e = true ∧ ∃ u w, v = u ||| w ∧ ws = w :: u :: vs)
def outMt (n : Nat) (tx : Nat → Nat) (o l a c : Nat) (vs : List Int64) (S T : Sg) (r : Option (Int64 × Sg)) (ref : Option Sg) : Prop := (∃ (v : Int64) (S' T' : Sg) (b P c' fl gl : Nat), r = some (v, S') ∧ ref = AM fl gl T' ∧ tsim n tx S' T' b P c' (v :: vs) o l ∧ a < b ∧ c' + a ≤ c + b ∧ n + 2 ≤ fl + b ∧ n + 2 ≤ gl + b ∧ ¬ chr n tx b = 38 ∧ gCl S S' ∧ gMl T T' ∧ rwF o l T T' ∧ T'.1 63 l = 0 ∧ T'.1 64 l = T.1 64 l) ∨ outX n tx S T r ref
def outTp (n : Nat) (tx : Nat → Nat) (o l a c : Nat) (vs : List Int64) (S T : Sg) (r : Option (Int64 × Sg)) (ref : Option Sg) : Prop := (∃ (v : Int64) (S' T' : Sg) (b P c' fl gl : Nat) (e : Bool) (ws : List Int64), r = some (v, S') ∧ ref = AM fl gl T' ∧ tsim n tx S' T' b P c' ws o l ∧ pd e v vs ws ∧ a < b ∧ c' + e.toNat + a ≤ c + b ∧ n + 2 ≤ fl + b ∧ n + 2 ≤ gl + b ∧ ¬ chr n tx b = 38 ∧ ¬ chr n tx b = 44 ∧ gCl S S' ∧ gMl T T' ∧ rwF o l T T' ∧ T'.1 63 l = 0 ∧ T'.1 64 l = bI e) ∨ outX n tx S T r ref
section SIDE
variable {n : Nat} {tx : Nat → Nat}
theorem outX_t {S S1 T T1 : Sg} {r : Option (Int64 × Sg)} {ref : Option Sg} (h1 : gCl S S1) (h2 : gMl T T1) (h : outX n tx S1 T1 r ref) : outX n tx S T r ref := by
  obtain ⟨v, S', T', e, pl', q1, q2, q3, q4, q5, q6⟩ := h
  exact ⟨v, S', T', e, pl', q1, q2, q3, q4, gCl_t h1 q5, gMl_t h2 q6⟩
theorem gCl_at (S : Sg) (v : Int32) : gCl S (sI S 3 2 v) := gCl_f (fC_at 0 S v)
theorem gMl_at (T : Sg) (v : Int32) : gMl T (sI T 34 27 v) := gMl_f (fM_at 0 0 T v)
theorem brk_f {o l : Nat} {T T' : Sg} (h : brk o T) (w : rwF o l T T') : brk o T' := by
  rcases h with h | h
  · exact Or.inl h
  · by_cases h0 : o = 0
    · exact Or.inl h0
    · exact Or.inr (by rw [w.1 (o - 1) (by omega)]; exact h)
theorem tsim_M {S T T' : Sg} {a P c o l : Nat} {vs : List Int64} (h : tsim n tx S T a P c vs o l) (h1 : ∀ id, 36 ≤ id → id ≤ 43 → T'.1 id = T.1 id) (h34 : T'.1 34 = T.1 34) : tsim n tx S T' a P c vs o l := by
  obtain ⟨hb, hp, ho, hl, h10, hlo⟩ := h
  exact ⟨bsim_M hb (fun id i1 i2 => h1 id i1 (by omega)) (by rw [h34]) (by rw [h34]) (by rw [h34]) (by rw [h34]) (by rw [h34]), pl_f hp (h1 43 (by omega) (by omega)) (by rw [h34]), by rw [h34]; exact ho, by rw [h34]; exact hl, h10, hlo⟩
theorem tsim_says {S T : Sg} {a P c o l : Nat} {vs ws : List Int64} {x : Int32} (h : tsim n tx S T a P c vs o l) (hs : ∀ w, w < 64 → stepc P x w (vs.map (fun v => bJ v w)) = some (ws.map (fun v => bJ v w))) : tsim n tx S (saysT x c T) a P (c + 1) ws o l := by
  obtain ⟨hb, hp, ho, hl, h10, hlo⟩ := h
  exact ⟨bsim_M hb (fun id i1 i2 => says_id _ _ _ (by omega) (by omega)) (says_34 _ _ _ (by decide)) (says_34 _ _ _ (by decide)) (says_34 _ _ _ (by decide)) (says_34 _ _ _ (by decide)) (says_34 _ _ _ (by decide)), pl_says hp hs, by rw [says_34 _ _ _ (by decide)]; exact ho, by rw [says_34 _ _ _ (by decide)]; exact hl, h10, hlo⟩
theorem tsim_at {S T : Sg} {a b P c o l : Nat} {vs : List Int64} (h : tsim n tx S T a P c vs o l) (hb : b ≤ n) : tsim n tx (sI S 3 2 (nI b)) (sI T 34 27 (nI b)) b P c vs o l := by
  obtain ⟨h1, hp, ho, hl, h10, hlo⟩ := h
  exact ⟨bsim_at h1 hb, pl_f hp (sI_id _ _ _ (by decide)) (sI_ne _ _ (Or.inr (by decide))), by rw [sI_ne _ _ (Or.inr (by decide))]; exact ho, by rw [sI_ne _ _ (Or.inr (by decide))]; exact hl, h10, hlo⟩
theorem tsim_row {S T : Sg} {a P c o l : Nat} {vs : List Int64} (h : tsim n tx S T a P c vs o l) {id : Nat} (hid : 62 ≤ id) (k : Nat) (v : Int32) : tsim n tx S (sI T id k v) a P c vs o l := tsim_M h (fun j _ j2 => sI_id _ _ _ (by omega)) (sI_id _ _ _ (by omega))
theorem gMl_row (T : Sg) {id : Nat} (h1 : 55 ≤ id) (h2 : id ≤ 65) (k : Nat) (v : Int32) : gMl T (sI T id k v) := ⟨rfl, fun j _ _ j3 => sI_id _ _ _ (by omega), fun b _ => by rw [sI_id _ _ _ (by omega)]⟩
/-- sideEnds, behind the last side's own marks -/
theorem se_stop {T : Sg} {o el : Nat} (ho : T.1 34 29 = nI o) (h10 : o ≤ 10) (hb : brk o T) : f_X10_sideEnds_L0 (el + 1) T = f_X10_sideEnds_L40 T := by
  rw [f_X10_sideEnds_L0, ho]
  by_cases h0 : o = 0
  · rw [if_pos (by rw [h0]; decide)]
  · rcases hb with hb | hb
    · exact absurd hb h0
    · rw [if_neg (by rw [k_0, nI_leI (by omega) (by omega)]; omega), k_1, pk_sub (by omega), ck_nI (by omega) (by decide), nI_clamp (by omega), hb, if_neg (by decide)]
theorem EM_0 {S T : Sg} {a P c o l el fl gl : Nat} {vs : List Int64} (h : tsim n tx S T a P c vs o l) (hb : brk o T) (h63 : T.1 63 l = 0) : ∃ T', EM (el + 1) fl gl T = AM fl gl T' ∧ tsim n tx S T' a P c vs o l ∧ T'.1 63 l = 0 ∧ T'.1 64 = T.1 64 ∧ gMl T T' ∧ rwF o l T T' := by
  have h' := h
  obtain ⟨hbs, hp, ho, hl, h10, hlo⟩ := h
  refine ⟨sI T 63 l 0, ?_, tsim_row h' (by omega) l 0, sI_at _ _ _ _, sI_id _ _ _ (by decide), gMl_row T (by omega) (by omega) l 0, ⟨fun k _ => by rw [sI_id _ _ _ (by decide)], fun k hk => ⟨by rw [sI_ne _ _ (Or.inr (by omega))], by rw [sI_id _ _ _ (by decide)]⟩⟩⟩
  unfold EM
  rw [se_stop ho h10 hb]
  unfold f_X10_sideEnds_L40
  rw [hl, ck_nI (by omega) (by decide), nI_clamp (by omega), if_pos h63, ck_nI (by omega) (by decide), nar_0, vl_d, bd_some]
theorem EM_1 {S T : Sg} {a P c o l el fl gl : Nat} {u w : Int64} {vs : List Int64} (h : tsim n tx S T a P c (w :: u :: vs) o l) (hb : brk o T) (h63 : T.1 63 l = 1) (hc : c < 400) : ∃ T', EM (el + 1) fl gl T = AM fl gl T' ∧ tsim n tx S T' a P (c + 1) ((u &&& w) :: vs) o l ∧ T'.1 63 l = 0 ∧ T'.1 64 = T.1 64 ∧ gMl T T' ∧ rwF o l T T' := by
  have h' := h
  obtain ⟨hbs, hp, ho, hl, h10, hlo⟩ := h
  refine ⟨sI (saysT (-1) c T) 63 l 0, ?_, tsim_row (tsim_says h' (fun x hx => st_and u w vs hx)) (by omega) l 0, sI_at _ _ _ _, ?_, gMl_t (gMl_says _ _ _) (gMl_row _ (by omega) (by omega) l 0), ⟨fun k _ => ?_, fun k hk => ⟨?_, ?_⟩⟩⟩
  · unfold EM
    rw [se_stop ho h10 hb]
    unfold f_X10_sideEnds_L40
    rw [hl, ck_nI (by omega) (by decide), nI_clamp (by omega), h63, if_neg (by decide), says_eq _ hp.1 hc, bd_some, says_34 _ _ _ (by decide), hl, ck_nI (by omega) (by decide), nI_clamp (by omega), nar_0, vl_d, bd_some]
  · rw [sI_id _ _ _ (by decide), says_id _ _ _ (by decide) (by decide)]
  · rw [sI_id _ _ _ (by decide), says_id _ _ _ (by decide) (by decide)]
  · rw [sI_ne _ _ (Or.inr (by omega)), says_id _ _ _ (by decide) (by decide)]
  · rw [sI_id _ _ _ (by decide), says_id _ _ _ (by decide) (by decide)]
theorem EM_not {S T : Sg} {a P c o l el fl gl : Nat} {v : Int64} {vs : List Int64} (h : tsim n tx S T a P c (v :: vs) (o + 1) l) (h62 : T.1 62 o = 0) (hc : c < 400) (hlo : l ≤ o) : ∃ T', EM (el + 1) fl gl T = EM el fl gl T' ∧ tsim n tx S T' a P (c + 1) ((v ^^^ (-1 : Int64)) :: vs) o l ∧ gMl T T' ∧ rwF o (l + 1) T T' := by
  have h' := h
  obtain ⟨hbs, hp, ho, hl, h10, -⟩ := h
  obtain ⟨g1, g2, g3, g4, g5, g6⟩ := tsim_says h' (fun x hx => st_not v vs hx)
  have i34 : ∀ i, i ≠ 29 → (sI (saysT (-3) c T) 34 29 (nI o)).1 34 i = (saysT (-3) c T).1 34 i := fun i hi => sI_ne _ _ (Or.inr hi)
  refine ⟨sI (saysT (-3) c T) 34 29 (nI o), ?_, ⟨bsim_M g1 (fun id i1 i2 => sI_id _ _ _ (by omega)) (i34 3 (by decide)) (i34 4 (by decide)) (i34 5 (by decide)) (i34 6 (by decide)) (i34 27 (by decide)), pl_f g2 (sI_id _ _ _ (by decide)) (i34 13 (by decide)), sI_at _ _ _ _, by rw [i34 43 (by decide)]; exact g4, by omega, hlo⟩, gMl_t (gMl_says _ _ _) (gMl_34 rfl (fun id hid => sI_id _ _ _ hid) (fun b hb => i34 b hb.2.2.2.2.2.2.1)), rwF_id ?_ ?_ ?_⟩
  · unfold EM
    rw [f_X10_sideEnds_L0, ho, if_neg (by rw [k_0, nI_leI (by omega) (by omega)]; omega), k_1, pk_sub (by omega), Nat.add_sub_cancel, ck_nI (by omega) (by decide), nI_clamp (by omega), h62, if_pos rfl, says_eq _ hp.1 hc, bd_some, says_34 _ _ _ (by decide), ho, pk_sub (by omega), Nat.add_sub_cancel, vl_d]
  · rw [sI_id _ _ _ (by decide), says_id _ _ _ (by decide) (by decide)]
  · rw [sI_id _ _ _ (by decide), says_id _ _ _ (by decide) (by decide)]
  · rw [sI_id _ _ _ (by decide), says_id _ _ _ (by decide) (by decide)]
theorem ME_eq {S T : Sg} {a P c o l : Nat} {v : Int64} {vs ws : List Int64} {e : Bool} (h : tsim n tx S T a P c ws o l) (he : T.1 64 l = bI e) (hp : pd e v vs ws) (hc : c < 400) : ∃ T', f_X10_meetEnds T = some T' ∧ tsim n tx S T' a P (c + e.toNat) (v :: vs) o l ∧ T'.1 64 l = 0 ∧ T'.1 63 = T.1 63 ∧ gMl T T' ∧ rwF o l T T' := by
  have h' := h
  obtain ⟨hbs, hpl, ho, hl, h10, hlo⟩ := h
  rcases hp with ⟨rfl, rfl⟩ | ⟨rfl, u, w, rfl, rfl⟩
  · refine ⟨sI T 64 l 0, ?_, tsim_row h' (by omega) l 0, sI_at _ _ _ _, sI_id _ _ _ (by decide), gMl_row T (by omega) (by omega) l 0, ⟨fun k _ => by rw [sI_id _ _ _ (by decide)], fun k hk => ⟨by rw [sI_id _ _ _ (by decide)], by rw [sI_ne _ _ (Or.inr (by omega))]⟩⟩⟩
    unfold f_X10_meetEnds
    rw [hl, ck_nI (by omega) (by decide), nI_clamp (by omega), he, if_pos (show bI false = 0 by decide), ck_nI (by omega) (by decide), nar_0, vl_d]
  · refine ⟨sI (saysT (-2) c T) 64 l 0, ?_, tsim_row (tsim_says h' (fun x hx => st_or u w vs hx)) (by omega) l 0, sI_at _ _ _ _, ?_, gMl_t (gMl_says _ _ _) (gMl_row _ (by omega) (by omega) l 0), ⟨fun k _ => ?_, fun k hk => ⟨?_, ?_⟩⟩⟩
    · unfold f_X10_meetEnds
      rw [hl, ck_nI (by omega) (by decide), nI_clamp (by omega), he, if_neg (show ¬ bI true = 0 by decide), says_eq _ hpl.1 hc, bd_some, says_34 _ _ _ (by decide), hl, ck_nI (by omega) (by decide), nI_clamp (by omega), nar_0, vl_d]
    · rw [sI_id _ _ _ (by decide), says_id _ _ _ (by decide) (by decide)]
    · rw [sI_id _ _ _ (by decide), says_id _ _ _ (by decide) (by decide)]
    · rw [sI_id _ _ _ (by decide), says_id _ _ _ (by decide) (by decide)]
    · rw [sI_ne _ _ (Or.inr (by omega)), says_id _ _ _ (by decide) (by decide)]
/-- the head of the closing loop, where nothing closes -/
theorem AM_278 {S T : Sg} {a P c o l fl gl : Nat} {vs : List Int64} (ok : okT n tx) (h : tsim n tx S T a P c vs o l) (hc : l = 0 ∨ ¬ chr n tx a = 125) : AM fl (gl + 1) T = f_X10_whole_L278 (f_X10_whole_L51 fl) 1 T := by
  have hn := ok.1
  obtain ⟨⟨tc, tm, c1, c2, d1, d2, e1, e2, hP, hpv, ha, h8⟩, hpl, ho, hl, ho10, hlo⟩ := h
  unfold AM
  rw [f_X10_whole_L221, hl]
  by_cases h0 : l = 0
  · rw [if_pos (by rw [h0]; decide)]
  · rw [if_neg (by rw [k_0, nI_leI (by omega) (by omega)]; omega), k_125, ms_is ok tm (by omega) (by decide), if_neg (by omega)]
theorem L51_1 {T : Sg} {fl : Nat} (h : T.1 34 4 = 0) : f_X10_whole_L51 (fl + 1) 1 T = HM fl fu T := by
  rw [f_X10_whole_L51, if_neg n10, if_pos h]
  rfl
theorem meetL {g : Int32 → Sg → Option (Int64 × Sg)} {o l : Nat} (ok : okT n tx) (hS : ∀ (S T : Sg) (a P c fl gl : Nat) (vs : List Int64), tsim n tx S T a P c vs o l → c ≤ a → n + 2 ≤ fl + a → n + 2 ≤ gl + a → outS n tx o l a c vs S T (g (nI o) S) (HM fl gl T)) : ∀ (r a t cl P c fl gl : Nat) (S T : Sg) (v : Int64) (vs : List Int64), n ≤ a + r → t ≤ a → r + 2 ≤ cl → n + 2 ≤ fl + a → n + 2 ≤ gl + a → tsim n tx S T a P c (v :: vs) o l → c ≤ a → T.1 63 l = 0 → brk o T → ∀ a0 c0, a0 < a → c + a0 ≤ c0 + a → outMt n tx o l a0 c0 vs S T (f_X6_meet_L9 g cl (nI o) v (nI t) S) (AM fl gl T) := by
  have hn := ok.1
  intro r
  induction r with
  | zero =>
    intro a t cl P c fl gl S T v vs hr ht hcl hfl hgl h hca h63 hbr a0 c0 ha0 hc0
    obtain ⟨f1, rfl⟩ : ∃ f1, cl = f1 + 1 := ⟨cl - 1, by omega⟩
    have hc := chr_end (n := n) (tx := tx) (a := a) (by omega)
    have tc := h.1.1
    have ha := h.1.2.2.2.2.2.2.2.2.2.2.1
    refine Or.inl ⟨v, S, T, a, P, c, fl, gl, ?_, rfl, h, ha0, hc0, hfl, hgl, by omega, gCl_r S, gMl_r T, rwF_r o l T, h63, rfl⟩
    rw [f_X6_meet_L9, tc.1]
    by_cases hl : nI n ≤ nI t
    · rw [if_pos hl]
    · rw [if_neg hl, k_38, cs_is ok tc (by omega) (by decide), if_neg (by omega)]
  | succ r ih =>
    intro a t cl P c fl gl S T v vs hr ht hcl hfl hgl h hca h63 hbr a0 c0 ha0 hc0
    obtain ⟨f1, rfl⟩ : ∃ f1, cl = f1 + 1 := ⟨cl - 1, by omega⟩
    have tc := h.1.1
    have tm := h.1.2.1
    have ha := h.1.2.2.2.2.2.2.2.2.2.2.1
    have hl := h.2.2.2.1
    have h10 := h.2.2.2.2.1
    have hlo := h.2.2.2.2.2
    by_cases h38 : chr n tx a = 38
    · have han := chr_in (n := n) (tx := tx) (a := a) (by omega)
      obtain ⟨gl1, rfl⟩ : ∃ gl1, gl = gl1 + 1 := ⟨gl - 1, by omega⟩
      obtain ⟨fl1, rfl⟩ : ∃ fl1, fl = fl1 + 1 := ⟨fl - 1, by omega⟩
      have h1 := tsim_at (tsim_row h (id := 63) (by omega) l 1) (b := a + 1) (by omega)
      have hml : AM (fl1 + 1) (gl1 + 1) T = HM fl1 fu (sI (sI T 63 l 1) 34 27 (nI (a + 1))) := by
        rw [AM_278 ok h (Or.inr (by omega))]
        unfold f_X10_whole_L278
        rw [k_38, ms_is ok tm (by omega) (by decide), if_pos h38, hl, ck_nI (by omega) (by decide), nI_clamp (by omega), nar_1, vl_d, sI_id _ _ _ (by decide), tm.2.1, nI_1, vl_d]
        exact L51_1 h1.1.2.2.2.2.1
      have gM1 : gMl T (sI (sI T 63 l 1) 34 27 (nI (a + 1))) := gMl_t (gMl_row T (by omega) (by omega) l 1) (gMl_at _ _)
      have rw1 : rwF o l T (sI (sI T 63 l 1) 34 27 (nI (a + 1))) := ⟨fun k _ => by rw [sI_id _ _ _ (by decide), sI_id _ _ _ (by decide)], fun k hk => ⟨by rw [sI_id _ _ _ (by decide), sI_ne _ _ (Or.inr (by omega))], by rw [sI_id _ _ _ (by decide), sI_id _ _ _ (by decide)]⟩⟩
      have hcl2 : f_X6_meet_L9 g (f1 + 1) (nI o) v (nI t) S = bd2 (g (nI o) (sI S 3 2 (nI (a + 1)))) (fun r_9 S_8 => f_X6_meet_L9 g f1 (nI o) (v &&& r_9) (nI (t + 1)) S_8) := by
        rw [f_X6_meet_L9, tc.1, if_neg (by rw [nI_leI (by omega) (by omega)]; omega), k_38, cs_is ok tc (by omega) (by decide), if_pos h38, vl_d, tc.2.1, nI_1]
        simp only [vl_d, nI_1]
      rw [hcl2, hml]
      rcases hS (sI S 3 2 (nI (a + 1))) (sI (sI T 63 l 1) 34 27 (nI (a + 1))) (a + 1) P c fl1 fu (v :: vs) h1 (by omega) (by omega) (by unfold fu; omega) with ⟨w, S1, T1, b, P1, c1, el, fl2, gl2, q1, q2, q3, q4, q5, q6, q7, q8, q9, q10, q11⟩ | hX
      · have hb := q3.1.2.2.2.2.2.2.2.2.2.2.1
        obtain ⟨el1, rfl⟩ : ∃ el1, el = el1 + 1 := ⟨el - 1, by omega⟩
        have hbr1 : brk o T1 := brk_f (brk_f hbr rw1) q11
        have e63 : T1.1 63 l = 1 := by rw [(q11.2 l (by omega)).1, sI_id _ _ _ (by decide), sI_at]
        obtain ⟨T2, y1, y2, y3, y4, y5, y6⟩ := EM_1 (el := el1) (fl := fl2) (gl := gl2) q3 hbr1 e63 (by omega)
        rcases ih b (t + 1) f1 P1 (c1 + 1) fl2 gl2 S1 T2 (v &&& w) vs (by omega) (by omega) (by omega) q7 q8 y2 (by omega) y3 (brk_f hbr1 y6) a0 c0 (by omega) (by omega) with ⟨v', S', T', b2, P2, c2, fl3, gl3, u1, u2, u3, u4, u5, u6, u7, u8, u9, u10, u11, u12, u13⟩ | hX
        · refine Or.inl ⟨v', S', T', b2, P2, c2, fl3, gl3, ?_, ?_, u3, u4, u5, u6, u7, u8, gCl_t (gCl_at S _) (gCl_t q9 u9), gMl_t gM1 (gMl_t q10 (gMl_t y5 u10)), rwF_t rw1 (rwF_t (rwF_le q11 (by omega) (by omega)) (rwF_t y6 u11)), u12, ?_⟩
          · rw [q1, bd2_some, u1]
          · rw [q2, y1, u2]
          · rw [u13, y4, (q11.2 l (by omega)).2, sI_id _ _ _ (by decide), sI_id _ _ _ (by decide)]
        · refine Or.inr (outX_t (gCl_t (gCl_at S _) q9) (gMl_t gM1 (gMl_t q10 y5)) ?_)
          rw [q1, bd2_some, q2, y1]
          exact hX
      · refine Or.inr (outX_t (gCl_at S (nI (a + 1))) gM1 ?_)
        obtain ⟨w, S1, T1, e, pl', q1, q2, q3, q4, q5, q6⟩ := hX
        refine ⟨v &&& w, S1, T1, e, pl', ?_, q2, q3, q4, q5, q6⟩
        obtain ⟨f2, rfl⟩ : ∃ f2, f1 = f2 + 1 := ⟨f1 - 1, by omega⟩
        rw [q1, bd2_some, f_X6_meet_L9, q3.1.1]
        by_cases hl : nI n ≤ nI (t + 1)
        · rw [if_pos hl]
        · rw [if_neg hl, k_38, cs_is ok q3.1 (by omega) (by decide), if_neg (by rw [chr_n]; decide)]
    · refine Or.inl ⟨v, S, T, a, P, c, fl, gl, ?_, rfl, h, ha0, hc0, hfl, hgl, h38, gCl_r S, gMl_r T, rwF_r o l T, h63, rfl⟩
      rw [f_X6_meet_L9, tc.1]
      by_cases hl : nI n ≤ nI t
      · rw [if_pos hl]
      · rw [if_neg hl, k_38, cs_is ok tc (by omega) (by decide), if_neg h38]
theorem meet_sim {g : Int32 → Sg → Option (Int64 × Sg)} {o l : Nat} (ok : okT n tx) (hS : ∀ (S T : Sg) (a P c fl gl : Nat) (vs : List Int64), tsim n tx S T a P c vs o l → c ≤ a → n + 2 ≤ fl + a → n + 2 ≤ gl + a → outS n tx o l a c vs S T (g (nI o) S) (HM fl gl T)) (S T : Sg) (a P c fl gl : Nat) (vs : List Int64) (h : tsim n tx S T a P c vs o l) (hca : c ≤ a) (hfl : n + 2 ≤ fl + a) (hgl : n + 2 ≤ gl + a) (h63 : T.1 63 l = 0) (hbr : brk o T) : outMt n tx o l a c vs S T (f_X6_meet g (nI o) S) (HM fl gl T) := by
  have hn := ok.1
  rcases hS S T a P c fl gl vs h hca hfl hgl with ⟨w, S1, T1, b, P1, c1, el, fl2, gl2, q1, q2, q3, q4, q5, q6, q7, q8, q9, q10, q11⟩ | hX
  · have hb := q3.1.2.2.2.2.2.2.2.2.2.2.1
    obtain ⟨el1, rfl⟩ : ∃ el1, el = el1 + 1 := ⟨el - 1, by omega⟩
    have hbr1 : brk o T1 := brk_f hbr q11
    have e63 : T1.1 63 l = 0 := by rw [(q11.2 l (by omega)).1, h63]
    obtain ⟨T2, y1, y2, y3, y4, y5, y6⟩ := EM_0 (el := el1) (fl := fl2) (gl := gl2) q3 hbr1 e63
    have hcl : f_X6_meet g (nI o) S = f_X6_meet_L9 g fu (nI o) w (nI 0) S1 := by
      unfold f_X6_meet
      rw [q1, bd2_some, vl_d, vl_d, k_0]
    rw [hcl, q2, y1]
    rcases meetL ok hS n b 0 fu P1 c1 fl2 gl2 S1 T2 w vs (by omega) (by omega) (by unfold fu; omega) q7 q8 y2 (by omega) y3 (brk_f hbr1 y6) a c q4 q5 with ⟨v', S', T', b2, P2, c2, fl3, gl3, u1, u2, u3, u4, u5, u6, u7, u8, u9, u10, u11, u12, u13⟩ | hX
    · exact Or.inl ⟨v', S', T', b2, P2, c2, fl3, gl3, u1, u2, u3, u4, u5, u6, u7, u8, gCl_t q9 u9, gMl_t q10 (gMl_t y5 u10), rwF_t (rwF_le q11 (by omega) (by omega)) (rwF_t y6 u11), u12, by rw [u13, y4, (q11.2 l (by omega)).2]⟩
    · exact Or.inr (outX_t q9 (gMl_t q10 y5) hX)
  · obtain ⟨w, S1, T1, e, pl', q1, q2, q3, q4, q5, q6⟩ := hX
    refine Or.inr ⟨w, S1, T1, e, pl', ?_, q2, q3, q4, q5, q6⟩
    unfold f_X6_meet
    rw [q1, bd2_some, vl_d, vl_d, fu_s, f_X6_meet_L9, q3.1.1]
    by_cases hl : nI n ≤ 0
    · rw [if_pos hl]
    · rw [if_neg hl, k_38, cs_is ok q3.1 (by omega) (by decide), if_neg (by rw [chr_n]; decide)]
theorem topL {g : Int32 → Sg → Option (Int64 × Sg)} {o l : Nat} (ok : okT n tx) (hG : ∀ (S T : Sg) (a P c fl gl : Nat) (vs : List Int64), tsim n tx S T a P c vs o l → c ≤ a → n + 2 ≤ fl + a → n + 2 ≤ gl + a → T.1 63 l = 0 → brk o T → outMt n tx o l a c vs S T (g (nI o) S) (HM fl gl T)) : ∀ (r a t cl P c fl gl : Nat) (S T : Sg) (v : Int64) (vs ws : List Int64) (e : Bool), n ≤ a + r → t ≤ a → r + 2 ≤ cl → n + 2 ≤ fl + a → n + 2 ≤ gl + a → tsim n tx S T a P c ws o l → pd e v vs ws → c + e.toNat ≤ a → T.1 63 l = 0 → T.1 64 l = bI e → brk o T → ¬ chr n tx a = 38 → ∀ a0 c0, a0 < a → c + e.toNat + a0 ≤ c0 + a → outTp n tx o l a0 c0 vs S T (f_X6_top_L9 g cl (nI o) v (nI t) S) (AM fl gl T) := by
  have hn := ok.1
  intro r
  induction r with
  | zero =>
    intro a t cl P c fl gl S T v vs ws e hr ht hcl hfl hgl h hpd hca h63 h64 hbr h38 a0 c0 ha0 hc0
    obtain ⟨f1, rfl⟩ : ∃ f1, cl = f1 + 1 := ⟨cl - 1, by omega⟩
    have hc := chr_end (n := n) (tx := tx) (a := a) (by omega)
    have tc := h.1.1
    have ha := h.1.2.2.2.2.2.2.2.2.2.2.1
    refine Or.inl ⟨v, S, T, a, P, c, fl, gl, e, ws, ?_, rfl, h, hpd, ha0, hc0, hfl, hgl, h38, by omega, gCl_r S, gMl_r T, rwF_r o l T, h63, h64⟩
    rw [f_X6_top_L9, tc.1]
    by_cases hl : nI n ≤ nI t
    · rw [if_pos hl]
    · rw [if_neg hl, k_44, cs_is ok tc (by omega) (by decide), if_neg (by omega)]
  | succ r ih =>
    intro a t cl P c fl gl S T v vs ws e hr ht hcl hfl hgl h hpd hca h63 h64 hbr h38 a0 c0 ha0 hc0
    obtain ⟨f1, rfl⟩ : ∃ f1, cl = f1 + 1 := ⟨cl - 1, by omega⟩
    have tc := h.1.1
    have tm := h.1.2.1
    have ha := h.1.2.2.2.2.2.2.2.2.2.2.1
    have hl := h.2.2.2.1
    have h10 := h.2.2.2.2.1
    have hlo := h.2.2.2.2.2
    by_cases h44 : chr n tx a = 44
    · have han := chr_in (n := n) (tx := tx) (a := a) (by omega)
      obtain ⟨gl1, rfl⟩ : ∃ gl1, gl = gl1 + 1 := ⟨gl - 1, by omega⟩
      obtain ⟨fl1, rfl⟩ : ∃ fl1, fl = fl1 + 1 := ⟨fl - 1, by omega⟩
      obtain ⟨T1, y1, y2, y3, y4, y5, y6⟩ := ME_eq h h64 hpd (by omega)
      have tm1 := y2.1.2.1
      have h1 := tsim_at (tsim_row y2 (id := 64) (by omega) l 1) (b := a + 1) (by omega)
      have hml : AM (fl1 + 1) (gl1 + 1) T = HM fl1 fu (sI (sI T1 64 l 1) 34 27 (nI (a + 1))) := by
        rw [AM_278 ok h (Or.inr (by omega))]
        unfold f_X10_whole_L278
        rw [k_38, ms_is ok tm (by omega) (by decide), if_neg h38, k_44, ms_is ok tm (by omega) (by decide), if_pos h44, y1, bd_some, y2.2.2.2.1, ck_nI (by omega) (by decide), nI_clamp (by omega), nar_1, vl_d, sI_id _ _ _ (by decide), tm1.2.1, nI_1, vl_d]
        exact L51_1 h1.1.2.2.2.2.1
      have gM1 : gMl T (sI (sI T1 64 l 1) 34 27 (nI (a + 1))) := gMl_t y5 (gMl_t (gMl_row T1 (by omega) (by omega) l 1) (gMl_at _ _))
      have rw1 : rwF o l T (sI (sI T1 64 l 1) 34 27 (nI (a + 1))) := rwF_t y6 ⟨fun k _ => by rw [sI_id _ _ _ (by decide), sI_id _ _ _ (by decide)], fun k hk => ⟨by rw [sI_id _ _ _ (by decide), sI_id _ _ _ (by decide)], by rw [sI_id _ _ _ (by decide), sI_ne _ _ (Or.inr (by omega))]⟩⟩
      have hcl2 : f_X6_top_L9 g (f1 + 1) (nI o) v (nI t) S = bd2 (g (nI o) (sI S 3 2 (nI (a + 1)))) (fun r_9 S_8 => f_X6_top_L9 g f1 (nI o) (v ||| r_9) (nI (t + 1)) S_8) := by
        rw [f_X6_top_L9, tc.1, if_neg (by rw [nI_leI (by omega) (by omega)]; omega), k_44, cs_is ok tc (by omega) (by decide), if_pos h44, vl_d, tc.2.1, nI_1]
        simp only [vl_d, nI_1]
      rw [hcl2, hml]
      rcases hG (sI S 3 2 (nI (a + 1))) (sI (sI T1 64 l 1) 34 27 (nI (a + 1))) (a + 1) P (c + e.toNat) fl1 fu (v :: vs) h1 (by omega) (by omega) (by unfold fu; omega) (by rw [sI_id _ _ _ (by decide), sI_id _ _ _ (by decide), y4]; exact h63) (brk_f hbr rw1) with ⟨w, S1, T2, b, P1, c1, fl2, gl2, q1, q2, q3, q4, q5, q6, q7, q8, q9, q10, q11, q12, q13⟩ | hX
      · have hb := q3.1.2.2.2.2.2.2.2.2.2.2.1
        have hbr1 : brk o T2 := brk_f (brk_f hbr rw1) q11
        rcases ih b (t + 1) f1 P1 c1 fl2 gl2 S1 T2 (v ||| w) vs (w :: v :: vs) true (by omega) (by omega) (by omega) q6 q7 q3 (Or.inr ⟨rfl, v, w, rfl, rfl⟩) (by simp only [Bool.toNat_true]; omega) q12 (by rw [q13, sI_id _ _ _ (by decide), sI_at]; rfl) hbr1 q8 a0 c0 (by omega) (by simp only [Bool.toNat_true]; omega) with ⟨v', S', T', b2, P2, c2, fl3, gl3, e', ws', u1, u2, u3, u4, u5, u6, u7, u8, u9, u10, u11, u12, u13, u14, u15⟩ | hX
        · refine Or.inl ⟨v', S', T', b2, P2, c2, fl3, gl3, e', ws', ?_, ?_, u3, u4, u5, u6, u7, u8, u9, u10, gCl_t (gCl_at S _) (gCl_t q9 u11), gMl_t gM1 (gMl_t q10 u12), rwF_t rw1 (rwF_t q11 u13), u14, u15⟩
          · rw [q1, bd2_some, u1]
          · rw [q2, u2]
        · refine Or.inr (outX_t (gCl_t (gCl_at S _) q9) (gMl_t gM1 q10) ?_)
          rw [q1, bd2_some, q2]
          exact hX
      · refine Or.inr (outX_t (gCl_at S (nI (a + 1))) gM1 ?_)
        obtain ⟨w, S1, T1, e, pl', q1, q2, q3, q4, q5, q6⟩ := hX
        refine ⟨v ||| w, S1, T1, e, pl', ?_, q2, q3, q4, q5, q6⟩
        obtain ⟨f2, rfl⟩ : ∃ f2, f1 = f2 + 1 := ⟨f1 - 1, by omega⟩
        rw [q1, bd2_some, f_X6_top_L9, q3.1.1]
        by_cases hl : nI n ≤ nI (t + 1)
        · rw [if_pos hl]
        · rw [if_neg hl, k_44, cs_is ok q3.1 (by omega) (by decide), if_neg (by rw [chr_n]; decide)]
    · refine Or.inl ⟨v, S, T, a, P, c, fl, gl, e, ws, ?_, rfl, h, hpd, ha0, hc0, hfl, hgl, h38, h44, gCl_r S, gMl_r T, rwF_r o l T, h63, h64⟩
      rw [f_X6_top_L9, tc.1]
      by_cases hl : nI n ≤ nI t
      · rw [if_pos hl]
      · rw [if_neg hl, k_44, cs_is ok tc (by omega) (by decide), if_neg h44]
theorem top_sim {g : Int32 → Sg → Option (Int64 × Sg)} {o l : Nat} (ok : okT n tx) (hG : ∀ (S T : Sg) (a P c fl gl : Nat) (vs : List Int64), tsim n tx S T a P c vs o l → c ≤ a → n + 2 ≤ fl + a → n + 2 ≤ gl + a → T.1 63 l = 0 → brk o T → outMt n tx o l a c vs S T (g (nI o) S) (HM fl gl T)) (S T : Sg) (a P c fl gl : Nat) (vs : List Int64) (h : tsim n tx S T a P c vs o l) (hca : c ≤ a) (hfl : n + 2 ≤ fl + a) (hgl : n + 2 ≤ gl + a) (h63 : T.1 63 l = 0) (h64 : T.1 64 l = 0) (hbr : brk o T) : outTp n tx o l a c vs S T (f_X6_top g (nI o) S) (HM fl gl T) := by
  have hn := ok.1
  rcases hG S T a P c fl gl vs h hca hfl hgl h63 hbr with ⟨w, S1, T2, b, P1, c1, fl2, gl2, q1, q2, q3, q4, q5, q6, q7, q8, q9, q10, q11, q12, q13⟩ | hX
  · have hb := q3.1.2.2.2.2.2.2.2.2.2.2.1
    have hcl : f_X6_top g (nI o) S = f_X6_top_L9 g fu (nI o) w (nI 0) S1 := by
      unfold f_X6_top
      rw [q1, bd2_some, vl_d, vl_d, k_0]
    rw [hcl, q2]
    rcases topL ok hG n b 0 fu P1 c1 fl2 gl2 S1 T2 w vs (w :: vs) false (by omega) (by omega) (by unfold fu; omega) q6 q7 q3 (Or.inl ⟨rfl, rfl⟩) (by simp only [Bool.toNat_false]; omega) q12 (by rw [q13]; exact h64) (brk_f hbr q11) q8 a c q4 (by simp only [Bool.toNat_false]; omega) with ⟨v', S', T', b2, P2, c2, fl3, gl3, e', ws', u1, u2, u3, u4, u5, u6, u7, u8, u9, u10, u11, u12, u13, u14, u15⟩ | hX
    · exact Or.inl ⟨v', S', T', b2, P2, c2, fl3, gl3, e', ws', u1, u2, u3, u4, u5, u6, u7, u8, u9, u10, gCl_t q9 u11, gMl_t q10 u12, rwF_t q11 u13, u14, u15⟩
    · exact Or.inr (outX_t q9 q10 hX)
  · obtain ⟨w, S1, T1, e, pl', q1, q2, q3, q4, q5, q6⟩ := hX
    refine Or.inr ⟨w, S1, T1, e, pl', ?_, q2, q3, q4, q5, q6⟩
    unfold f_X6_top
    rw [q1, bd2_some, vl_d, vl_d, fu_s, f_X6_top_L9, q3.1.1]
    by_cases hl : nI n ≤ 0
    · rw [if_pos hl]
    · rw [if_neg hl, k_44, cs_is ok q3.1 (by omega) (by decide), if_neg (by rw [chr_n]; decide)]
end SIDE
