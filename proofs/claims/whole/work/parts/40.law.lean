/-! THE CLAIM OUT OF ONE WALK OF THE LAW'S BODY. Your part is whole_start (and what it stands on); all else here is the same for every law, but numbers. -/
def R_law : String := "WordMachinesLaw"
def lw_P (b : Addr) (xs : List Int32) (args : Array Value) (s : State) : Prop := args = #[.ref b] ∧ s.IntsAt b xs ∧ xs.length ≤ 3072 ∧ (Jvm.Cond.and given_1 narrow_1).before args s = true
def lw_Q (_ : Array Value) (s : State) (o : Outcome) (t : State) : Prop := o = .returned (some (.int 1)) ∧ Framed s o t [] 600000 7302250
def lw_Z (below : List Frame) (a : Array Value) (s : State) : State → Prop := fun t => ∃ o, t.status = .running ∧ Ended t below o ∧ lw_Q a s o t
/-- the law's own end, with 1 on the stack, nothing written that was there before, its room as the claim has it -/
theorem lw_ret {p : Program} {l : Launch} {e : Env} {s : State} {m : MethodId} {below : List Frame} {meth : Method} {c : Code} {b : Nat} (hx : p.tables.exec = Jvm.exec) (hb : c.code = code) (hr : meth.sig.returnType = ret) (hlocks : meth.locks = false) {pc : Nat} {H : Heap} {ls : Array Slot} (hdg : decode code pc = .ok (.ireturn, 1)) : W p l e room_1 s m #[Value.ref b] below meth c H [] 600000 7302250 (lw_Z below #[Value.ref b] s) (F0 m pc ls [.int 1]) := by
  intro T hT X
  obtain ⟨fs, hret, hrun, hended, hW, hframe⟩ := X.leave (v := some (.int 1)) (hlocks := hlocks) (fun h => by rw [hr] at h; cases h)
  have hmeth' : T.vm.method? m = some meth := X.method'
  refine ⟨T.setFrames fs, ?_, .returned (some (.int 1)), hrun, hended, rfl, ⟨_, rfl⟩, hW, hframe⟩
  jvm_step X.here [X.here.top, hx, hb, hdg, hmeth', hr, ret, narrow_b1]
  (try refine ⟨rfl, ?_⟩); (try refine ⟨rfl, ?_⟩)
  first | (intro acts; rw [hret _ acts rfl rfl rfl]) | rw [hret _ _ rfl rfl rfl]
  exact Steps.refl _
/-- what holds at the law's entry: the machine, the code, the tables' words (any of lw_tbl by 'hts w (by decide +kernel)'), the script of L ints xs at the cell b, what the Statement gives of the start (any of its parts by flat_of_before) -/
def lw_At (p : Program) (s : State) (m : MethodId) (meth : Method) (c : Code) (b L : Nat) (xs : Nat → Int32) : Prop :=
  p.tables.exec = Jvm.exec ∧ c.code = code ∧ meth.sig.returnType = ret ∧ c.maxLocals = 4 ∧ s.vm.findClass R_law = some m.cls ∧ (∀ w ∈ lw_tbl, w.before #[Value.ref b] s = true) ∧ va_X b L xs s s.heap ∧ b < s.heap.size ∧ meth.locks = false ∧ (Jvm.Cond.and given_1 narrow_1).before #[Value.ref b] s = true
def S0 : Sg := (fun i k => if i = 3 ∧ k = 5 then -1 else if i = 34 ∧ k = 5 then -1 else 0, fun _ _ => 0, fun _ _ => none)
def OK_feed (Inv : Nat → Sg → Prop) : Prop := ∀ (n : Nat) (S : Sg) (a0 : Int32) (a1 : Int32) (a2 : Int32) (a3 : Int32) (a4 : Int32), Inv n S → ∃ (r : Int32) (S1 S2 : Sg), f_X9_feed a0 a1 a2 a3 a4 S = some (r, S1) ∧ f_X10_feed a0 a1 a2 a3 a4 S1 = some (r, S2) ∧ Inv n S2
def OK_read (Inv : Nat → Sg → Prop) : Prop := ∀ (n : Nat) (S : Sg) (a0 : Int32) (a1 : Int32), Inv n S → ∃ (r : Int32) (n1 : Nat) (S1 S2 : Sg), f_X9_read n a0 a1 S = some (r, n1, S1) ∧ f_X10_read a0 a1 S1 = some (r, S2) ∧ Inv n1 S2
def OK_fault (Inv : Nat → Sg → Prop) : Prop := ∀ (n : Nat) (S : Sg) (a0 : Int32), Inv n S → ∃ (r : Int32) (S1 S2 : Sg), f_X9_fault a0 S = some (r, S1) ∧ f_X10_fault a0 S1 = some (r, S2) ∧ Inv n S2
def OK_look (Inv : Nat → Sg → Prop) : Prop := ∀ (n : Nat) (S : Sg) (a0 : Int32) (a1 : Int32), Inv n S → ∃ (r : Int32) (S1 S2 : Sg), f_X9_look n a0 a1 S = some (r, S1) ∧ f_X10_look a0 a1 S1 = some (r, S2) ∧ Inv n S2
def OK_next (Inv : Nat → Sg → Prop) : Prop := ∀ (n : Nat) (S : Sg) (a0 : Int32) (a1 : Int32) (a2 : Int32), Inv n S → ∃ (r : Int32) (S1 S2 : Sg), f_X9_next n a0 a1 a2 S = some (r, S1) ∧ f_X10_next a0 a1 a2 S1 = some (r, S2) ∧ Inv n S2
def OK_accepts (Inv : Nat → Sg → Prop) : Prop := ∀ (n : Nat) (S : Sg) (a0 : Int32) (a1 : Int32), Inv n S → ∃ (r : Int32) (S1 S2 : Sg), f_X9_accepts n a0 a1 S = some (r, S1) ∧ f_X10_accepts a0 a1 S1 = some (r, S2) ∧ Inv n S2
def OK_spots (Inv : Nat → Sg → Prop) : Prop := ∀ (n : Nat) (S : Sg) (a0 : Int32) (a1 : Int32) (a2 : Int32), Inv n S → ∃ (r : Int32) (S1 S2 : Sg), f_X9_spots n a0 a1 a2 S = some (r, S1) ∧ f_X10_spots a0 a1 a2 S1 = some (r, S2) ∧ Inv n S2
def OK_classOf (Inv : Nat → Sg → Prop) : Prop := ∀ (n : Nat) (S : Sg) (a0 : Int32) (a1 : Int32), Inv n S → ∃ (r : Int32) (S1 S2 : Sg), f_X9_classOf n a0 a1 S = some (r, S1) ∧ f_X10_classOf a0 a1 S1 = some (r, S2) ∧ Inv n S2
def OK_means (Inv : Nat → Sg → Prop) : Prop := ∀ (n : Nat) (S : Sg) (a0 : Int32) (a1 : Int32), Inv n S → ∃ (r : Int32) (S1 S2 : Sg), f_X9_means n a0 a1 S = some (r, S1) ∧ f_X10_means a0 a1 S1 = some (r, S2) ∧ Inv n S2
def OK_words (Inv : Nat → Sg → Prop) : Prop := ∀ (n : Nat) (S : Sg) (a0 : Int32) (a1 : Int32), Inv n S → ∃ (r : Int64) (S1 S2 : Sg), f_X9_words n a0 a1 S = some (r, S1) ∧ f_X10_words a0 a1 S1 = some (r, S2) ∧ Inv n S2
def OK_word (Inv : Nat → Sg → Prop) : Prop := ∀ (n : Nat) (S : Sg) (a0 : Int32) (a1 : Int32) (a2 : Int64), Inv n S → ∃ (r : Int32) (S1 S2 : Sg), f_X9_word n a0 a1 a2 S = some (r, S1) ∧ f_X10_word a0 a1 a2 S1 = some (r, S2) ∧ Inv n S2
def OK_shortest (Inv : Nat → Sg → Prop) : Prop := ∀ (n : Nat) (S : Sg) (a0 : Int32), Inv n S → ∃ (r : Int32) (S1 S2 : Sg), f_X9_shortest n a0 S = some (r, S1) ∧ f_X10_shortest a0 S1 = some (r, S2) ∧ Inv n S2
def OK_compare (Inv : Nat → Sg → Prop) : Prop := ∀ (n : Nat) (S : Sg) (a0 : Int32) (a1 : Int32), Inv n S → ∃ (r : Int32) (S1 S2 : Sg), f_X9_compare n a0 a1 S = some (r, S1) ∧ f_X10_compare a0 a1 S1 = some (r, S2) ∧ Inv n S2
def OK_differ (Inv : Nat → Sg → Prop) : Prop := ∀ (n : Nat) (S : Sg) (a0 : Int32) (a1 : Int32), Inv n S → ∃ (r : Int32) (S1 S2 : Sg), f_X9_differ n a0 a1 S = some (r, S1) ∧ f_X10_differ a0 a1 S1 = some (r, S2) ∧ Inv n S2
def OK_letter (Inv : Nat → Sg → Prop) : Prop := ∀ (n : Nat) (S : Sg) (a0 : Int32), Inv n S → ∃ (r : Int32) (S1 S2 : Sg), f_X9_letter a0 S = some (r, S1) ∧ f_X10_letter a0 S1 = some (r, S2) ∧ Inv n S2
def OK_all (Inv : Nat → Sg → Prop) : Prop := OK_feed Inv ∧ OK_read Inv ∧ OK_fault Inv ∧ OK_look Inv ∧ OK_next Inv ∧ OK_accepts Inv ∧ OK_spots Inv ∧ OK_classOf Inv ∧ OK_means Inv ∧ OK_words Inv ∧ OK_word Inv ∧ OK_shortest Inv ∧ OK_compare Inv ∧ OK_differ Inv ∧ OK_letter Inv
theorem ci_5 : Int32.ofInt (5) = (5 : Int32) := by decide +kernel
theorem ci_6 : Int32.ofInt (6) = (6 : Int32) := by decide +kernel
theorem cb_32 : (Int8.ofInt (32)).toInt32 = (32 : Int32) := by decide +kernel
theorem lgc (r : Int64) : lg_cmp r r = 0 := by simp [lg_cmp, Int64.lt_irrefl]
section LAWROWS
variable {p : Program} {l : Launch} {e : Env} {R : Room} {s : State} {m : MethodId} {args : Array Value} {below : List Frame} {meth : Method} {c : Code} {cc : ByteArray} {nL : Nat} {own : String} {D : va_G} {cy : Nat → ClassId} {ad : Nat → Nat} {n : Nat} {A : Nat → Prop} {mc ms : Nat} {Q : State → Prop} {S : Sg} {pc : Nat} {lv : List (Nat × Value)} {st : List Value}
theorem g_sld (C : gC p s m args meth c cc nL own D cy ad n A) {b L : Nat} {xs : Nat → Int32} (hX : va_X b L xs s s.heap) (hbl : b < s.heap.size) (hbA : ¬ A b) (nx : Nat) {j : Int32} (hin : vp_in j L) (hd : decode cc pc = .ok (.iaload, 1)) (hn : pc + 1 = nx) (kk : gW p l e R s m args below meth c D cy ad n A nL mc ms Q S nx lv (.int (xs j.toNatClampNeg) :: st)) : gW p l e R s m args below meth c D cy ad n A nL mc ms Q S pc lv (.int j :: .ref b :: st) := by
  intro H locs ls hP hS hl
  subst hn
  exact va_sld C.1 C.2.1 hX hbl hbA hS hin hd (kk H locs ls hP hS hl)
theorem g_slen (C : gC p s m args meth c cc nL own D cy ad n A) {b L : Nat} {xs : Nat → Int32} (hX : va_X b L xs s s.heap) (hbl : b < s.heap.size) (hbA : ¬ A b) (nx : Nat) (hd : decode cc pc = .ok (.arraylength, 1)) (hn : pc + 1 = nx) (kk : gW p l e R s m args below meth c D cy ad n A nL mc ms Q S nx lv (.int (nI L) :: st)) : gW p l e R s m args below meth c D cy ad n A nL mc ms Q S pc lv (.ref b :: st) := by
  intro H locs ls hP hS hl
  subst hn
  exact va_slen C.1 C.2.1 hX hbl hbA hS hd (kk H locs ls hP hS hl)
theorem g_eqk (C : gC p s m args meth c cc nL own D cy ad n A) (tgt nx : Nat) {x : Int32} {off : Int} (hd : decode cc pc = .ok (.if_icmp .eq off, 3)) (ht : (pc : Int) + off = (tgt : Int)) (hn : pc + 3 = nx) (kk : gW p l e R s m args below meth c D cy ad n A nL mc ms Q S tgt lv st) : gW p l e R s m args below meth c D cy ad n A nL mc ms Q S pc lv (.int x :: .int x :: st) :=
  g_icmp_eq C tgt nx (ζ := Unit) (K1 := some ()) (K2 := none) (z := ()) hd ht hn (if_pos rfl) (fun _ => kk) (fun h => by cases h)
theorem g_eqL (C : gC p s m args meth c cc nL own D cy ad n A) (tgt n1 nx : Nat) {x : Int64} {off : Int} (hd0 : decode cc pc = .ok (.lcmp, 1)) (hn0 : pc + 1 = n1) (hd : decode cc n1 = .ok (.ifCond .eq off, 3)) (ht : (n1 : Int) + off = (tgt : Int)) (hn : n1 + 3 = nx) (kk : gW p l e R s m args below meth c D cy ad n A nL mc ms Q S tgt lv st) : gW p l e R s m args below meth c D cy ad n A nL mc ms Q S pc lv (.long x :: .long x :: st) :=
  g_lcmp C n1 hd0 hn0 (g_if_eq C tgt nx (ζ := Unit) (K1 := some ()) (K2 := none) (z := ()) hd ht hn (if_pos (lgc x)) (fun _ => kk) (fun h => by cases h))
end LAWROWS
theorem wl_L_18 : Cond.methodLink RL 18 yX9_read ∈ wsAll := wA 245 (by decide +kernel) (by decide +kernel)
theorem wi_X9_read : Cond.instanceMethod yX9_read ∈ wsAll := wA 246 (by decide +kernel) (by decide +kernel)
theorem we_X9_read : Cond.selects RX9 yX9_read yX9_read ∈ wsAll := wA 247 (by decide +kernel) (by decide +kernel)
theorem wo_X9_read : Cond.code yX9_read cX9_read 4 (some .int) ∈ wsAll := wA 248 (by decide +kernel) (by decide +kernel)
theorem lw_read {p : Program} {l : Launch} {e : Env} {s : State} {m : MethodId} {args : Array Value} {below : List Frame} {meth : Method} {c : Code} {D : va_G} {cy : Nat → ClassId} {ad : Nat → Nat} {n : Nat} {A : Nat → Prop} {mc ms : Nat} {Q : State → Prop} {S : Sg} {pc : Nat} {lv : List (Nat × Value)} {x1 x2 : Int32} {z : Int32 × Nat × Sg} (C : gC p s m args meth c code 4 RL D cy ad n A) (nx : Nat) (hcm : mc + 6 ≤ room_1.cells ∧ ms + 1960 ≤ room_1.slots) (hd : decode code pc = .ok (.invokevirtual 18, 3)) (hn : pc + 3 = nx) (hq : f_X9_read n x1 x2 S = some z) (kk : ∀ ad', (∀ i, i < gN0 n → ad' i = ad i) → gC p s m args meth c code 4 RL D cy ad' z.2.1 A → gW p l e room_1 s m args below meth c D cy ad' z.2.1 A 4 (mc + 6) (ms + 1960) Q z.2.2 nx lv [.int z.1]) : gW p l e room_1 s m args below meth c D cy ad n A 4 mc ms Q S pc lv [.int x2, .int x1, .ref (ad 0)] := by
  intro H locs ls hP hS hl
  subst hn
  have hFc : ∀ q, va_A (wW cy ad n S) H.size q → A q := by
    rintro q (⟨k, e, h⟩ | h)
    · exact (C.2.2.2.2.2.2.1 S).2 k (q, e) h
    · exact C.2.2.2.2.2.2.2.1 q (Nat.le_trans hS.1 h)
  have hrun := va_runV (As := [.int x1, .int x2]) (rest := []) (b := ad 0) (g := F0 m pc ls [.int x2, .int x1, .ref (ad 0)]) (locs := locs) (cells := mc) (slots := ms) (e := e) (below := below) (meth := meth) (H := H) (R := room_1) ⟨C.1, C.2.1, C.2.2.1, C.2.2.2.1, C.2.2.2.2.1⟩ (c_X9_read l D cy ad n S H.size x1 x2 z hq) (cwV 2 C.2.2.2.2.1 (gi_app (in4 wl_L_18 wi_X9_read we_X9_read wkz_9) (gi_all wo_X9_read)) rfl rfl rfl (by decide +kernel) ⟨Nat.le_of_ble_eq_true rfl, Nat.le_of_ble_eq_true rfl⟩) ⟨gBlind, va_recv C.2.2.2.2.2.1 hP (ci := 9) rfl (wW_get ha_0), g_pre C hP hS _⟩ rfl rfl hl.1 rfl (lv_room (Nat.le_of_ble_eq_true rfl)) hd hcm
  intro T hT X
  obtain ⟨v, st₀, t, T', L, h0, X', hL, e1, e2, ⟨⟨hv, ad', had, hp, hd'⟩, hz, hk⟩, stp⟩ := hrun T hT X
  cases hv
  rw [h0] at hz hk
  have hD' : ∀ S', va_D A (wW cy ad' z.2.1 S') := fun S' => (hd' S').weaken (fun _ q _ h => hFc q.1 h)
  obtain ⟨t2, a1, b1⟩ := kk ad' had ⟨C.1, C.2.1, C.2.2.1, C.2.2.2.1, C.2.2.2.2.1, C.2.2.2.2.2.1, hD', C.2.2.2.2.2.2.2.1, C.2.2.2.2.2.2.2.2.1, C.2.2.2.2.2.2.2.2.2.1, C.2.2.2.2.2.2.2.2.2.2⟩ T'.heap (locs ++ L) ls (by rw [e1]; exact hp)
    ⟨Nat.le_trans hS.1 (by rw [e1]; exact hz), fun q h1 h2 => by rw [e1, hk q (Nat.lt_of_lt_of_le h1 hS.1) (fun z => h2 (hFc q z))]; exact hS.2.1 q h1 h2, fun q hq => by
      rcases List.mem_append.mp hq with h | h
      · exact hS.2.2 q h
      · exact hFc _ (hL q h)⟩ hl T' rfl X'
  exact ⟨t2, stp t2 a1, b1⟩
theorem wc_L_58 : Cond.constantLong RL 58 4294967295 ∈ wsAll := wA 998 (by decide +kernel) (by decide +kernel)
theorem wl_L_13 : Cond.methodLink RL 13 yX9_feed ∈ wsAll := wA 237 (by decide +kernel) (by decide +kernel)
theorem wi_X9_feed : Cond.instanceMethod yX9_feed ∈ wsAll := wA 238 (by decide +kernel) (by decide +kernel)
theorem we_X9_feed : Cond.selects RX9 yX9_feed yX9_feed ∈ wsAll := wA 239 (by decide +kernel) (by decide +kernel)
theorem wo_X9_feed : Cond.code yX9_feed cX9_feed 6 (some .int) ∈ wsAll := wA 240 (by decide +kernel) (by decide +kernel)
theorem cl_L_13 {p : Program} {l : Launch} {e : Env} {R : Room} {s : State} {m : MethodId} {args : Array Value} {below : List Frame} {meth : Method} {c : Code} {cc : ByteArray} {nL : Nat} {D : va_G} {cy : Nat → ClassId} {ad : Nat → Nat} {n : Nat} {A : Nat → Prop} {mc ms : Nat} {Q : State → Prop} {S : Sg} {pc : Nat} {lv : List (Nat × Value)} {st : List Value} {ζ : Type} {z : ζ} (C : gC p s m args meth c cc nL RL D cy ad n A) (nx : Nat) {x1 : Int32} {x2 : Int32} {x3 : Int32} {x4 : Int32} {x5 : Int32} (hR : Room.frames rm_X9_feed + 1 ≤ R.frames ∧ 8 + (6 + 11) + Room.locals rm_X9_feed ≤ R.locals) (hcm : mc ≤ R.cells ∧ ms ≤ R.slots) (hrest : (st.map fun v => v.category).sum ≤ 8) (hd : decode cc pc = .ok (.invokevirtual 13, 3)) (hn : pc + 3 = nx) {K : Int32 → Sg → Option ζ} (hz : bd2 (f_X9_feed x1 x2 x3 x4 x5 S) K = some z) (kk : ∀ r S', K r S' = some z → gW p l e R s m args below meth c D cy ad n A nL mc ms Q S' nx lv (.int r :: st)) : gW p l e R s m args below meth c D cy ad n A nL mc ms Q S pc lv (.int x5 :: .int x4 :: .int x3 :: .int x2 :: .int x1 :: .ref (ad 0) :: st) := by
  obtain ⟨q, hq, hk⟩ := bd2_s hz
  exact g_callV C (i := 0) (ci := 9) (Cn := RX9) (T := TX9) (N := 11) (y := yX9_feed) (rm := rm_X9_feed) (As := [.int x1, .int x2, .int x3, .int x4, .int x5]) (rest := st) (na := 5) (fun sz => c_X9_feed l D cy ad n S sz x1 x2 x3 x4 x5 q hq) ha_0 rfl rfl wl_L_13 wi_X9_feed we_X9_feed wz_9 wo_X9_feed (by decide +kernel) rfl rfl hR hcm rfl hrest hn hd (kk q.1 q.2 hk)
theorem wl_L_17 : Cond.methodLink RL 17 yX10_feed ∈ wsAll := wA 790 (by decide +kernel) (by decide +kernel)
theorem wi_X10_feed : Cond.instanceMethod yX10_feed ∈ wsAll := wA 791 (by decide +kernel) (by decide +kernel)
theorem we_X10_feed : Cond.selects RX10 yX10_feed yX10_feed ∈ wsAll := wA 792 (by decide +kernel) (by decide +kernel)
theorem wo_X10_feed : Cond.code yX10_feed cX10_feed 6 (some .int) ∈ wsAll := wA 793 (by decide +kernel) (by decide +kernel)
theorem cl_L_17 {p : Program} {l : Launch} {e : Env} {R : Room} {s : State} {m : MethodId} {args : Array Value} {below : List Frame} {meth : Method} {c : Code} {cc : ByteArray} {nL : Nat} {D : va_G} {cy : Nat → ClassId} {ad : Nat → Nat} {n : Nat} {A : Nat → Prop} {mc ms : Nat} {Q : State → Prop} {S : Sg} {pc : Nat} {lv : List (Nat × Value)} {st : List Value} {ζ : Type} {z : ζ} (C : gC p s m args meth c cc nL RL D cy ad n A) (nx : Nat) {x1 : Int32} {x2 : Int32} {x3 : Int32} {x4 : Int32} {x5 : Int32} (hR : Room.frames rm_X10_feed + 1 ≤ R.frames ∧ 8 + (6 + 11) + Room.locals rm_X10_feed ≤ R.locals) (hcm : mc ≤ R.cells ∧ ms ≤ R.slots) (hrest : (st.map fun v => v.category).sum ≤ 8) (hd : decode cc pc = .ok (.invokevirtual 17, 3)) (hn : pc + 3 = nx) {K : Int32 → Sg → Option ζ} (hz : bd2 (f_X10_feed x1 x2 x3 x4 x5 S) K = some z) (kk : ∀ r S', K r S' = some z → gW p l e R s m args below meth c D cy ad n A nL mc ms Q S' nx lv (.int r :: st)) : gW p l e R s m args below meth c D cy ad n A nL mc ms Q S pc lv (.int x5 :: .int x4 :: .int x3 :: .int x2 :: .int x1 :: .ref (ad 34) :: st) := by
  obtain ⟨q, hq, hk⟩ := bd2_s hz
  exact g_callV C (i := 34) (ci := 10) (Cn := RX10) (T := TX10) (N := 59) (y := yX10_feed) (rm := rm_X10_feed) (As := [.int x1, .int x2, .int x3, .int x4, .int x5]) (rest := st) (na := 5) (fun sz => c_X10_feed l D cy ad n S sz x1 x2 x3 x4 x5 q hq) ha_34 rfl rfl wl_L_17 wi_X10_feed we_X10_feed wz_10 wo_X10_feed (by decide +kernel) rfl rfl hR hcm rfl hrest hn hd (kk q.1 q.2 hk)
set_option maxRecDepth 20000 in
theorem lw_c0 {p : Program} {l : Launch} {e : Env} {s : State} {m : MethodId} {below : List Frame} {meth : Method} {c : Code} {D : va_G} {cy : Nat → ClassId} {ad : Nat → Nat} {n : Nat} {mc ms : Nat} {S : Sg} {b L : Nat} {xs : Nat → Int32} {x3 : Int32} {Inv : Nat → Sg → Prop} (C : gC p s m #[Value.ref b] meth c code 4 RL D cy ad n (fun q : Nat => s.heap.size ≤ q)) (hX : va_X b L xs s s.heap) (hbl : b < s.heap.size) (hbA : ¬ (fun q : Nat => s.heap.size ≤ q) b) (h1 : vp_in (x3 + (1 : Int32)) L) (h2 : vp_in (x3 + (2 : Int32)) L) (h3 : vp_in (x3 + (3 : Int32)) L) (h4 : vp_in (x3 + (4 : Int32)) L) (h5 : vp_in (x3 + (5 : Int32)) L) (hcm : mc ≤ room_1.cells ∧ ms ≤ room_1.slots) (hI : Inv n S) (ok : OK_feed Inv) (kk : ∀ S' : Sg, Inv n S' → gW p l e room_1 s m #[Value.ref b] below meth c D cy ad n (fun q : Nat => s.heap.size ≤ q) 4 mc ms (lw_Z below #[Value.ref b] s) S' 664 [(0, .ref b), (1, .ref (ad 0)), (2, .ref (ad 34)), (3, .int x3)] []) : gW p l e room_1 s m #[Value.ref b] below meth c D cy ad n (fun q : Nat => s.heap.size ≤ q) 4 mc ms (lw_Z below #[Value.ref b] s) S 108 [(0, .ref b), (1, .ref (ad 0)), (2, .ref (ad 34)), (3, .int x3)] [] := by
  obtain ⟨r, S1, S2, e1, e2, hI2⟩ := ok n S ((xs (Int32.toNatClampNeg (x3 + (1 : Int32))))) ((xs (Int32.toNatClampNeg (x3 + (2 : Int32))))) ((xs (Int32.toNatClampNeg (x3 + (3 : Int32))))) ((xs (Int32.toNatClampNeg (x3 + (4 : Int32))))) ((xs (Int32.toNatClampNeg (x3 + (5 : Int32))))) hI
  refine g_aload_n C 109 1 rfl dL_law_108 rfl ?_
  refine g_aload_n C 110 0 rfl dL_law_109 rfl ?_
  refine g_iload_n C 111 3 rfl dL_law_110 rfl ?_
  refine g_iconst C 112 (1 : Int32) ci_1 dL_law_111 rfl ?_
  refine g_iadd C 113 dL_law_112 rfl ?_
  refine g_sld C hX hbl hbA 114 h1 dL_law_113 rfl ?_
  refine g_aload_n C 115 0 rfl dL_law_114 rfl ?_
  refine g_iload_n C 116 3 rfl dL_law_115 rfl ?_
  refine g_iconst C 117 (2 : Int32) ci_2 dL_law_116 rfl ?_
  refine g_iadd C 118 dL_law_117 rfl ?_
  refine g_sld C hX hbl hbA 119 h2 dL_law_118 rfl ?_
  refine g_aload_n C 120 0 rfl dL_law_119 rfl ?_
  refine g_iload_n C 121 3 rfl dL_law_120 rfl ?_
  refine g_iconst C 122 (3 : Int32) ci_3 dL_law_121 rfl ?_
  refine g_iadd C 123 dL_law_122 rfl ?_
  refine g_sld C hX hbl hbA 124 h3 dL_law_123 rfl ?_
  refine g_aload_n C 125 0 rfl dL_law_124 rfl ?_
  refine g_iload_n C 126 3 rfl dL_law_125 rfl ?_
  refine g_iconst C 127 (4 : Int32) ci_4 dL_law_126 rfl ?_
  refine g_iadd C 128 dL_law_127 rfl ?_
  refine g_sld C hX hbl hbA 129 h4 dL_law_128 rfl ?_
  refine g_aload_n C 130 0 rfl dL_law_129 rfl ?_
  refine g_iload_n C 131 3 rfl dL_law_130 rfl ?_
  refine g_iconst C 132 (5 : Int32) ci_5 dL_law_131 rfl ?_
  refine g_iadd C 133 dL_law_132 rfl ?_
  refine g_sld C hX hbl hbA 134 h5 dL_law_133 rfl ?_
  refine cl_L_13 C 137 ⟨Nat.le_of_ble_eq_true rfl, Nat.le_of_ble_eq_true rfl⟩ hcm (Nat.le_of_ble_eq_true rfl) dL_law_134 rfl (K := fun r1 T1 => some (r1, T1)) (z := (r, S1)) (by rw [e1]; rfl) (fun r1 T1 hz => ?_)
  cases hz
  refine g_aload_n C 138 2 rfl dL_law_137 rfl ?_
  refine g_aload_n C 139 0 rfl dL_law_138 rfl ?_
  refine g_iload_n C 140 3 rfl dL_law_139 rfl ?_
  refine g_iconst C 141 (1 : Int32) ci_1 dL_law_140 rfl ?_
  refine g_iadd C 142 dL_law_141 rfl ?_
  refine g_sld C hX hbl hbA 143 h1 dL_law_142 rfl ?_
  refine g_aload_n C 144 0 rfl dL_law_143 rfl ?_
  refine g_iload_n C 145 3 rfl dL_law_144 rfl ?_
  refine g_iconst C 146 (2 : Int32) ci_2 dL_law_145 rfl ?_
  refine g_iadd C 147 dL_law_146 rfl ?_
  refine g_sld C hX hbl hbA 148 h2 dL_law_147 rfl ?_
  refine g_aload_n C 149 0 rfl dL_law_148 rfl ?_
  refine g_iload_n C 150 3 rfl dL_law_149 rfl ?_
  refine g_iconst C 151 (3 : Int32) ci_3 dL_law_150 rfl ?_
  refine g_iadd C 152 dL_law_151 rfl ?_
  refine g_sld C hX hbl hbA 153 h3 dL_law_152 rfl ?_
  refine g_aload_n C 154 0 rfl dL_law_153 rfl ?_
  refine g_iload_n C 155 3 rfl dL_law_154 rfl ?_
  refine g_iconst C 156 (4 : Int32) ci_4 dL_law_155 rfl ?_
  refine g_iadd C 157 dL_law_156 rfl ?_
  refine g_sld C hX hbl hbA 158 h4 dL_law_157 rfl ?_
  refine g_aload_n C 159 0 rfl dL_law_158 rfl ?_
  refine g_iload_n C 160 3 rfl dL_law_159 rfl ?_
  refine g_iconst C 161 (5 : Int32) ci_5 dL_law_160 rfl ?_
  refine g_iadd C 162 dL_law_161 rfl ?_
  refine g_sld C hX hbl hbA 163 h5 dL_law_162 rfl ?_
  refine cl_L_17 C 166 ⟨Nat.le_of_ble_eq_true rfl, Nat.le_of_ble_eq_true rfl⟩ hcm (Nat.le_of_ble_eq_true rfl) dL_law_163 rfl (K := fun r1 T1 => some (r1, T1)) (z := (r, S2)) (by rw [e2]; rfl) (fun r1 T1 hz => ?_)
  cases hz
  refine g_eqk C 664 169 dL_law_166 rfl rfl ?_
  exact kk _ hI2
theorem wl_L_22 : Cond.methodLink RL 22 yX10_read ∈ wsAll := wA 798 (by decide +kernel) (by decide +kernel)
theorem wi_X10_read : Cond.instanceMethod yX10_read ∈ wsAll := wA 799 (by decide +kernel) (by decide +kernel)
theorem we_X10_read : Cond.selects RX10 yX10_read yX10_read ∈ wsAll := wA 800 (by decide +kernel) (by decide +kernel)
theorem wo_X10_read : Cond.code yX10_read cX10_read 5 (some .int) ∈ wsAll := wA 801 (by decide +kernel) (by decide +kernel)
theorem cl_L_22 {p : Program} {l : Launch} {e : Env} {R : Room} {s : State} {m : MethodId} {args : Array Value} {below : List Frame} {meth : Method} {c : Code} {cc : ByteArray} {nL : Nat} {D : va_G} {cy : Nat → ClassId} {ad : Nat → Nat} {n : Nat} {A : Nat → Prop} {mc ms : Nat} {Q : State → Prop} {S : Sg} {pc : Nat} {lv : List (Nat × Value)} {st : List Value} {ζ : Type} {z : ζ} (C : gC p s m args meth c cc nL RL D cy ad n A) (nx : Nat) {x1 : Int32} {x2 : Int32} (hR : Room.frames rm_X10_read + 1 ≤ R.frames ∧ 8 + (5 + 11) + Room.locals rm_X10_read ≤ R.locals) (hcm : mc ≤ R.cells ∧ ms ≤ R.slots) (hrest : (st.map fun v => v.category).sum ≤ 8) (hd : decode cc pc = .ok (.invokevirtual 22, 3)) (hn : pc + 3 = nx) {K : Int32 → Sg → Option ζ} (hz : bd2 (f_X10_read x1 x2 S) K = some z) (kk : ∀ r S', K r S' = some z → gW p l e R s m args below meth c D cy ad n A nL mc ms Q S' nx lv (.int r :: st)) : gW p l e R s m args below meth c D cy ad n A nL mc ms Q S pc lv (.int x2 :: .int x1 :: .ref (ad 34) :: st) := by
  obtain ⟨q, hq, hk⟩ := bd2_s hz
  exact g_callV C (i := 34) (ci := 10) (Cn := RX10) (T := TX10) (N := 59) (y := yX10_read) (rm := rm_X10_read) (As := [.int x1, .int x2]) (rest := st) (na := 2) (fun sz => c_X10_read l D cy ad n S sz x1 x2 q hq) ha_34 rfl rfl wl_L_22 wi_X10_read we_X10_read wz_10 wo_X10_read (by decide +kernel) rfl rfl hR hcm rfl hrest hn hd (kk q.1 q.2 hk)
set_option maxRecDepth 20000 in
theorem lw_c1 {p : Program} {l : Launch} {e : Env} {s : State} {m : MethodId} {below : List Frame} {meth : Method} {c : Code} {D : va_G} {cy : Nat → ClassId} {ad : Nat → Nat} {n : Nat} {mc ms : Nat} {S : Sg} {b L : Nat} {xs : Nat → Int32} {x3 : Int32} {Inv : Nat → Sg → Prop} (C : gC p s m #[Value.ref b] meth c code 4 RL D cy ad n (fun q : Nat => s.heap.size ≤ q)) (hX : va_X b L xs s s.heap) (hbl : b < s.heap.size) (hbA : ¬ (fun q : Nat => s.heap.size ≤ q) b) (h1 : vp_in (x3 + (1 : Int32)) L) (h2 : vp_in (x3 + (2 : Int32)) L) (h3 : vp_in (x3 + (3 : Int32)) L) (h4 : vp_in (x3 + (4 : Int32)) L) (h5 : vp_in (x3 + (5 : Int32)) L) (hcm : mc + 6 ≤ room_1.cells ∧ ms + 1960 ≤ room_1.slots) (hI : Inv n S) (ok : OK_read Inv) (kk : ∀ (ad' : Nat → Nat) (n' : Nat) (S' : Sg), ad' 0 = ad 0 → ad' 34 = ad 34 → gC p s m #[Value.ref b] meth c code 4 RL D cy ad' n' (fun q : Nat => s.heap.size ≤ q) → Inv n' S' → gW p l e room_1 s m #[Value.ref b] below meth c D cy ad' n' (fun q : Nat => s.heap.size ≤ q) 4 (mc + 6) (ms + 1960) (lw_Z below #[Value.ref b] s) S' 664 [(0, .ref b), (1, .ref (ad' 0)), (2, .ref (ad' 34)), (3, .int x3)] []) : gW p l e room_1 s m #[Value.ref b] below meth c D cy ad n (fun q : Nat => s.heap.size ≤ q) 4 mc ms (lw_Z below #[Value.ref b] s) S 171 [(0, .ref b), (1, .ref (ad 0)), (2, .ref (ad 34)), (3, .int x3)] [] := by
  obtain ⟨r, n1, S1, S2, e1, e2, hI2⟩ := ok n S ((xs (Int32.toNatClampNeg (x3 + (1 : Int32))))) ((xs (Int32.toNatClampNeg (x3 + (2 : Int32))))) hI
  refine g_aload_n C 172 1 rfl dL_law_171 rfl ?_
  refine g_aload_n C 173 0 rfl dL_law_172 rfl ?_
  refine g_iload_n C 174 3 rfl dL_law_173 rfl ?_
  refine g_iconst C 175 (1 : Int32) ci_1 dL_law_174 rfl ?_
  refine g_iadd C 176 dL_law_175 rfl ?_
  refine g_sld C hX hbl hbA 177 h1 dL_law_176 rfl ?_
  refine g_aload_n C 178 0 rfl dL_law_177 rfl ?_
  refine g_iload_n C 179 3 rfl dL_law_178 rfl ?_
  refine g_iconst C 180 (2 : Int32) ci_2 dL_law_179 rfl ?_
  refine g_iadd C 181 dL_law_180 rfl ?_
  refine g_sld C hX hbl hbA 182 h2 dL_law_181 rfl ?_
  refine lw_read C 185 hcm dL_law_182 rfl e1 (fun ad' had C' => ?_)
  have e0 : ad' 0 = ad 0 := had 0 (by unfold gN0; omega)
  have em : ad' 34 = ad 34 := had 34 (by unfold gN0; omega)
  show gW p l e room_1 s m #[Value.ref b] below meth c D cy ad' n1 (fun q : Nat => s.heap.size ≤ q) 4 (mc + 6) (ms + 1960) (lw_Z below #[Value.ref b] s) S1 185 [(0, .ref b), (1, .ref (ad 0)), (2, .ref (ad 34)), (3, .int x3)] [.int r]
  rw [← e0, ← em]
  refine g_aload_n C' 186 2 rfl dL_law_185 rfl ?_
  refine g_aload_n C' 187 0 rfl dL_law_186 rfl ?_
  refine g_iload_n C' 188 3 rfl dL_law_187 rfl ?_
  refine g_iconst C' 189 (1 : Int32) ci_1 dL_law_188 rfl ?_
  refine g_iadd C' 190 dL_law_189 rfl ?_
  refine g_sld C' hX hbl hbA 191 h1 dL_law_190 rfl ?_
  refine g_aload_n C' 192 0 rfl dL_law_191 rfl ?_
  refine g_iload_n C' 193 3 rfl dL_law_192 rfl ?_
  refine g_iconst C' 194 (2 : Int32) ci_2 dL_law_193 rfl ?_
  refine g_iadd C' 195 dL_law_194 rfl ?_
  refine g_sld C' hX hbl hbA 196 h2 dL_law_195 rfl ?_
  refine cl_L_22 C' 199 ⟨Nat.le_of_ble_eq_true rfl, Nat.le_of_ble_eq_true rfl⟩ hcm (Nat.le_of_ble_eq_true rfl) dL_law_196 rfl (K := fun r1 T1 => some (r1, T1)) (z := (r, S2)) (by rw [e2]; rfl) (fun r1 T1 hz => ?_)
  cases hz
  refine g_eqk C' 664 202 dL_law_199 rfl rfl ?_
  exact kk ad' n1 _ e0 em C' hI2
theorem wl_L_23 : Cond.methodLink RL 23 yX9_fault ∈ wsAll := wA 495 (by decide +kernel) (by decide +kernel)
theorem wi_X9_fault : Cond.instanceMethod yX9_fault ∈ wsAll := wA 496 (by decide +kernel) (by decide +kernel)
theorem we_X9_fault : Cond.selects RX9 yX9_fault yX9_fault ∈ wsAll := wA 497 (by decide +kernel) (by decide +kernel)
theorem wo_X9_fault : Cond.code yX9_fault cX9_fault 2 (some .int) ∈ wsAll := wA 498 (by decide +kernel) (by decide +kernel)
theorem cl_L_23 {p : Program} {l : Launch} {e : Env} {R : Room} {s : State} {m : MethodId} {args : Array Value} {below : List Frame} {meth : Method} {c : Code} {cc : ByteArray} {nL : Nat} {D : va_G} {cy : Nat → ClassId} {ad : Nat → Nat} {n : Nat} {A : Nat → Prop} {mc ms : Nat} {Q : State → Prop} {S : Sg} {pc : Nat} {lv : List (Nat × Value)} {st : List Value} {ζ : Type} {z : ζ} (C : gC p s m args meth c cc nL RL D cy ad n A) (nx : Nat) {x1 : Int32} (hR : Room.frames rm_X9_fault + 1 ≤ R.frames ∧ 8 + (2 + 11) + Room.locals rm_X9_fault ≤ R.locals) (hcm : mc ≤ R.cells ∧ ms ≤ R.slots) (hrest : (st.map fun v => v.category).sum ≤ 8) (hd : decode cc pc = .ok (.invokevirtual 23, 3)) (hn : pc + 3 = nx) {K : Int32 → Sg → Option ζ} (hz : bd2 (f_X9_fault x1 S) K = some z) (kk : ∀ r S', K r S' = some z → gW p l e R s m args below meth c D cy ad n A nL mc ms Q S' nx lv (.int r :: st)) : gW p l e R s m args below meth c D cy ad n A nL mc ms Q S pc lv (.int x1 :: .ref (ad 0) :: st) := by
  obtain ⟨q, hq, hk⟩ := bd2_s hz
  exact g_callV C (i := 0) (ci := 9) (Cn := RX9) (T := TX9) (N := 11) (y := yX9_fault) (rm := rm_X9_fault) (As := [.int x1]) (rest := st) (na := 1) (fun sz => c_X9_fault l D cy ad n S sz x1 q hq) ha_0 rfl rfl wl_L_23 wi_X9_fault we_X9_fault wz_9 wo_X9_fault (by decide +kernel) rfl rfl hR hcm rfl hrest hn hd (kk q.1 q.2 hk)
theorem wl_L_27 : Cond.methodLink RL 27 yX10_fault ∈ wsAll := wA 909 (by decide +kernel) (by decide +kernel)
theorem wi_X10_fault : Cond.instanceMethod yX10_fault ∈ wsAll := wA 910 (by decide +kernel) (by decide +kernel)
theorem we_X10_fault : Cond.selects RX10 yX10_fault yX10_fault ∈ wsAll := wA 911 (by decide +kernel) (by decide +kernel)
theorem wo_X10_fault : Cond.code yX10_fault cX10_fault 2 (some .int) ∈ wsAll := wA 912 (by decide +kernel) (by decide +kernel)
theorem cl_L_27 {p : Program} {l : Launch} {e : Env} {R : Room} {s : State} {m : MethodId} {args : Array Value} {below : List Frame} {meth : Method} {c : Code} {cc : ByteArray} {nL : Nat} {D : va_G} {cy : Nat → ClassId} {ad : Nat → Nat} {n : Nat} {A : Nat → Prop} {mc ms : Nat} {Q : State → Prop} {S : Sg} {pc : Nat} {lv : List (Nat × Value)} {st : List Value} {ζ : Type} {z : ζ} (C : gC p s m args meth c cc nL RL D cy ad n A) (nx : Nat) {x1 : Int32} (hR : Room.frames rm_X10_fault + 1 ≤ R.frames ∧ 8 + (2 + 11) + Room.locals rm_X10_fault ≤ R.locals) (hcm : mc ≤ R.cells ∧ ms ≤ R.slots) (hrest : (st.map fun v => v.category).sum ≤ 8) (hd : decode cc pc = .ok (.invokevirtual 27, 3)) (hn : pc + 3 = nx) {K : Int32 → Sg → Option ζ} (hz : bd2 (f_X10_fault x1 S) K = some z) (kk : ∀ r S', K r S' = some z → gW p l e R s m args below meth c D cy ad n A nL mc ms Q S' nx lv (.int r :: st)) : gW p l e R s m args below meth c D cy ad n A nL mc ms Q S pc lv (.int x1 :: .ref (ad 34) :: st) := by
  obtain ⟨q, hq, hk⟩ := bd2_s hz
  exact g_callV C (i := 34) (ci := 10) (Cn := RX10) (T := TX10) (N := 59) (y := yX10_fault) (rm := rm_X10_fault) (As := [.int x1]) (rest := st) (na := 1) (fun sz => c_X10_fault l D cy ad n S sz x1 q hq) ha_34 rfl rfl wl_L_27 wi_X10_fault we_X10_fault wz_10 wo_X10_fault (by decide +kernel) rfl rfl hR hcm rfl hrest hn hd (kk q.1 q.2 hk)
set_option maxRecDepth 20000 in
theorem lw_c2 {p : Program} {l : Launch} {e : Env} {s : State} {m : MethodId} {below : List Frame} {meth : Method} {c : Code} {D : va_G} {cy : Nat → ClassId} {ad : Nat → Nat} {n : Nat} {mc ms : Nat} {S : Sg} {b L : Nat} {xs : Nat → Int32} {x3 : Int32} {Inv : Nat → Sg → Prop} (C : gC p s m #[Value.ref b] meth c code 4 RL D cy ad n (fun q : Nat => s.heap.size ≤ q)) (hX : va_X b L xs s s.heap) (hbl : b < s.heap.size) (hbA : ¬ (fun q : Nat => s.heap.size ≤ q) b) (h1 : vp_in (x3 + (1 : Int32)) L) (h2 : vp_in (x3 + (2 : Int32)) L) (h3 : vp_in (x3 + (3 : Int32)) L) (h4 : vp_in (x3 + (4 : Int32)) L) (h5 : vp_in (x3 + (5 : Int32)) L) (hcm : mc ≤ room_1.cells ∧ ms ≤ room_1.slots) (hI : Inv n S) (ok : OK_fault Inv) (kk : ∀ S' : Sg, Inv n S' → gW p l e room_1 s m #[Value.ref b] below meth c D cy ad n (fun q : Nat => s.heap.size ≤ q) 4 mc ms (lw_Z below #[Value.ref b] s) S' 664 [(0, .ref b), (1, .ref (ad 0)), (2, .ref (ad 34)), (3, .int x3)] []) : gW p l e room_1 s m #[Value.ref b] below meth c D cy ad n (fun q : Nat => s.heap.size ≤ q) 4 mc ms (lw_Z below #[Value.ref b] s) S 204 [(0, .ref b), (1, .ref (ad 0)), (2, .ref (ad 34)), (3, .int x3)] [] := by
  obtain ⟨r, S1, S2, e1, e2, hI2⟩ := ok n S ((xs (Int32.toNatClampNeg (x3 + (1 : Int32))))) hI
  refine g_aload_n C 205 1 rfl dL_law_204 rfl ?_
  refine g_aload_n C 206 0 rfl dL_law_205 rfl ?_
  refine g_iload_n C 207 3 rfl dL_law_206 rfl ?_
  refine g_iconst C 208 (1 : Int32) ci_1 dL_law_207 rfl ?_
  refine g_iadd C 209 dL_law_208 rfl ?_
  refine g_sld C hX hbl hbA 210 h1 dL_law_209 rfl ?_
  refine cl_L_23 C 213 ⟨Nat.le_of_ble_eq_true rfl, Nat.le_of_ble_eq_true rfl⟩ hcm (Nat.le_of_ble_eq_true rfl) dL_law_210 rfl (K := fun r1 T1 => some (r1, T1)) (z := (r, S1)) (by rw [e1]; rfl) (fun r1 T1 hz => ?_)
  cases hz
  refine g_aload_n C 214 2 rfl dL_law_213 rfl ?_
  refine g_aload_n C 215 0 rfl dL_law_214 rfl ?_
  refine g_iload_n C 216 3 rfl dL_law_215 rfl ?_
  refine g_iconst C 217 (1 : Int32) ci_1 dL_law_216 rfl ?_
  refine g_iadd C 218 dL_law_217 rfl ?_
  refine g_sld C hX hbl hbA 219 h1 dL_law_218 rfl ?_
  refine cl_L_27 C 222 ⟨Nat.le_of_ble_eq_true rfl, Nat.le_of_ble_eq_true rfl⟩ hcm (Nat.le_of_ble_eq_true rfl) dL_law_219 rfl (K := fun r1 T1 => some (r1, T1)) (z := (r, S2)) (by rw [e2]; rfl) (fun r1 T1 hz => ?_)
  cases hz
  refine g_eqk C 664 225 dL_law_222 rfl rfl ?_
  exact kk _ hI2
theorem wl_L_28 : Cond.methodLink RL 28 yX9_look ∈ wsAll := wA 499 (by decide +kernel) (by decide +kernel)
theorem wi_X9_look : Cond.instanceMethod yX9_look ∈ wsAll := wA 500 (by decide +kernel) (by decide +kernel)
theorem we_X9_look : Cond.selects RX9 yX9_look yX9_look ∈ wsAll := wA 501 (by decide +kernel) (by decide +kernel)
theorem wo_X9_look : Cond.code yX9_look cX9_look 4 (some .int) ∈ wsAll := wA 502 (by decide +kernel) (by decide +kernel)
theorem cl_L_28 {p : Program} {l : Launch} {e : Env} {R : Room} {s : State} {m : MethodId} {args : Array Value} {below : List Frame} {meth : Method} {c : Code} {cc : ByteArray} {nL : Nat} {D : va_G} {cy : Nat → ClassId} {ad : Nat → Nat} {n : Nat} {A : Nat → Prop} {mc ms : Nat} {Q : State → Prop} {S : Sg} {pc : Nat} {lv : List (Nat × Value)} {st : List Value} {ζ : Type} {z : ζ} (C : gC p s m args meth c cc nL RL D cy ad n A) (nx : Nat) {x1 : Int32} {x2 : Int32} (hR : Room.frames rm_X9_look + 1 ≤ R.frames ∧ 8 + (4 + 11) + Room.locals rm_X9_look ≤ R.locals) (hcm : mc ≤ R.cells ∧ ms ≤ R.slots) (hrest : (st.map fun v => v.category).sum ≤ 8) (hd : decode cc pc = .ok (.invokevirtual 28, 3)) (hn : pc + 3 = nx) {K : Int32 → Sg → Option ζ} (hz : bd2 (f_X9_look n x1 x2 S) K = some z) (kk : ∀ r S', K r S' = some z → gW p l e R s m args below meth c D cy ad n A nL mc ms Q S' nx lv (.int r :: st)) : gW p l e R s m args below meth c D cy ad n A nL mc ms Q S pc lv (.int x2 :: .int x1 :: .ref (ad 0) :: st) := by
  obtain ⟨q, hq, hk⟩ := bd2_s hz
  exact g_callV C (i := 0) (ci := 9) (Cn := RX9) (T := TX9) (N := 11) (y := yX9_look) (rm := rm_X9_look) (As := [.int x1, .int x2]) (rest := st) (na := 2) (fun sz => c_X9_look l D cy ad n S sz x1 x2 q hq) ha_0 rfl rfl wl_L_28 wi_X9_look we_X9_look wz_9 wo_X9_look (by decide +kernel) rfl rfl hR hcm rfl hrest hn hd (kk q.1 q.2 hk)
theorem wl_L_31 : Cond.methodLink RL 31 yX10_look ∈ wsAll := wA 913 (by decide +kernel) (by decide +kernel)
theorem wi_X10_look : Cond.instanceMethod yX10_look ∈ wsAll := wA 914 (by decide +kernel) (by decide +kernel)
theorem we_X10_look : Cond.selects RX10 yX10_look yX10_look ∈ wsAll := wA 915 (by decide +kernel) (by decide +kernel)
theorem wo_X10_look : Cond.code yX10_look cX10_look 3 (some .int) ∈ wsAll := wA 916 (by decide +kernel) (by decide +kernel)
theorem cl_L_31 {p : Program} {l : Launch} {e : Env} {R : Room} {s : State} {m : MethodId} {args : Array Value} {below : List Frame} {meth : Method} {c : Code} {cc : ByteArray} {nL : Nat} {D : va_G} {cy : Nat → ClassId} {ad : Nat → Nat} {n : Nat} {A : Nat → Prop} {mc ms : Nat} {Q : State → Prop} {S : Sg} {pc : Nat} {lv : List (Nat × Value)} {st : List Value} {ζ : Type} {z : ζ} (C : gC p s m args meth c cc nL RL D cy ad n A) (nx : Nat) {x1 : Int32} {x2 : Int32} (hR : Room.frames rm_X10_look + 1 ≤ R.frames ∧ 8 + (3 + 11) + Room.locals rm_X10_look ≤ R.locals) (hcm : mc ≤ R.cells ∧ ms ≤ R.slots) (hrest : (st.map fun v => v.category).sum ≤ 8) (hd : decode cc pc = .ok (.invokevirtual 31, 3)) (hn : pc + 3 = nx) {K : Int32 → Sg → Option ζ} (hz : bd2 (f_X10_look x1 x2 S) K = some z) (kk : ∀ r S', K r S' = some z → gW p l e R s m args below meth c D cy ad n A nL mc ms Q S' nx lv (.int r :: st)) : gW p l e R s m args below meth c D cy ad n A nL mc ms Q S pc lv (.int x2 :: .int x1 :: .ref (ad 34) :: st) := by
  obtain ⟨q, hq, hk⟩ := bd2_s hz
  exact g_callV C (i := 34) (ci := 10) (Cn := RX10) (T := TX10) (N := 59) (y := yX10_look) (rm := rm_X10_look) (As := [.int x1, .int x2]) (rest := st) (na := 2) (fun sz => c_X10_look l D cy ad n S sz x1 x2 q hq) ha_34 rfl rfl wl_L_31 wi_X10_look we_X10_look wz_10 wo_X10_look (by decide +kernel) rfl rfl hR hcm rfl hrest hn hd (kk q.1 q.2 hk)
set_option maxRecDepth 20000 in
theorem lw_c3 {p : Program} {l : Launch} {e : Env} {s : State} {m : MethodId} {below : List Frame} {meth : Method} {c : Code} {D : va_G} {cy : Nat → ClassId} {ad : Nat → Nat} {n : Nat} {mc ms : Nat} {S : Sg} {b L : Nat} {xs : Nat → Int32} {x3 : Int32} {Inv : Nat → Sg → Prop} (C : gC p s m #[Value.ref b] meth c code 4 RL D cy ad n (fun q : Nat => s.heap.size ≤ q)) (hX : va_X b L xs s s.heap) (hbl : b < s.heap.size) (hbA : ¬ (fun q : Nat => s.heap.size ≤ q) b) (h1 : vp_in (x3 + (1 : Int32)) L) (h2 : vp_in (x3 + (2 : Int32)) L) (h3 : vp_in (x3 + (3 : Int32)) L) (h4 : vp_in (x3 + (4 : Int32)) L) (h5 : vp_in (x3 + (5 : Int32)) L) (hcm : mc ≤ room_1.cells ∧ ms ≤ room_1.slots) (hI : Inv n S) (ok : OK_look Inv) (kk : ∀ S' : Sg, Inv n S' → gW p l e room_1 s m #[Value.ref b] below meth c D cy ad n (fun q : Nat => s.heap.size ≤ q) 4 mc ms (lw_Z below #[Value.ref b] s) S' 664 [(0, .ref b), (1, .ref (ad 0)), (2, .ref (ad 34)), (3, .int x3)] []) : gW p l e room_1 s m #[Value.ref b] below meth c D cy ad n (fun q : Nat => s.heap.size ≤ q) 4 mc ms (lw_Z below #[Value.ref b] s) S 227 [(0, .ref b), (1, .ref (ad 0)), (2, .ref (ad 34)), (3, .int x3)] [] := by
  obtain ⟨r, S1, S2, e1, e2, hI2⟩ := ok n S ((xs (Int32.toNatClampNeg (x3 + (1 : Int32))))) ((xs (Int32.toNatClampNeg (x3 + (2 : Int32))))) hI
  refine g_aload_n C 228 1 rfl dL_law_227 rfl ?_
  refine g_aload_n C 229 0 rfl dL_law_228 rfl ?_
  refine g_iload_n C 230 3 rfl dL_law_229 rfl ?_
  refine g_iconst C 231 (1 : Int32) ci_1 dL_law_230 rfl ?_
  refine g_iadd C 232 dL_law_231 rfl ?_
  refine g_sld C hX hbl hbA 233 h1 dL_law_232 rfl ?_
  refine g_aload_n C 234 0 rfl dL_law_233 rfl ?_
  refine g_iload_n C 235 3 rfl dL_law_234 rfl ?_
  refine g_iconst C 236 (2 : Int32) ci_2 dL_law_235 rfl ?_
  refine g_iadd C 237 dL_law_236 rfl ?_
  refine g_sld C hX hbl hbA 238 h2 dL_law_237 rfl ?_
  refine cl_L_28 C 241 ⟨Nat.le_of_ble_eq_true rfl, Nat.le_of_ble_eq_true rfl⟩ hcm (Nat.le_of_ble_eq_true rfl) dL_law_238 rfl (K := fun r1 T1 => some (r1, T1)) (z := (r, S1)) (by rw [e1]; rfl) (fun r1 T1 hz => ?_)
  cases hz
  refine g_aload_n C 242 2 rfl dL_law_241 rfl ?_
  refine g_aload_n C 243 0 rfl dL_law_242 rfl ?_
  refine g_iload_n C 244 3 rfl dL_law_243 rfl ?_
  refine g_iconst C 245 (1 : Int32) ci_1 dL_law_244 rfl ?_
  refine g_iadd C 246 dL_law_245 rfl ?_
  refine g_sld C hX hbl hbA 247 h1 dL_law_246 rfl ?_
  refine g_aload_n C 248 0 rfl dL_law_247 rfl ?_
  refine g_iload_n C 249 3 rfl dL_law_248 rfl ?_
  refine g_iconst C 250 (2 : Int32) ci_2 dL_law_249 rfl ?_
  refine g_iadd C 251 dL_law_250 rfl ?_
  refine g_sld C hX hbl hbA 252 h2 dL_law_251 rfl ?_
  refine cl_L_31 C 255 ⟨Nat.le_of_ble_eq_true rfl, Nat.le_of_ble_eq_true rfl⟩ hcm (Nat.le_of_ble_eq_true rfl) dL_law_252 rfl (K := fun r1 T1 => some (r1, T1)) (z := (r, S2)) (by rw [e2]; rfl) (fun r1 T1 hz => ?_)
  cases hz
  refine g_eqk C 664 258 dL_law_255 rfl rfl ?_
  exact kk _ hI2
theorem wl_L_32 : Cond.methodLink RL 32 yX9_next ∈ wsAll := wA 511 (by decide +kernel) (by decide +kernel)
theorem wi_X9_next : Cond.instanceMethod yX9_next ∈ wsAll := wA 512 (by decide +kernel) (by decide +kernel)
theorem we_X9_next : Cond.selects RX9 yX9_next yX9_next ∈ wsAll := wA 513 (by decide +kernel) (by decide +kernel)
theorem wo_X9_next : Cond.code yX9_next cX9_next 5 (some .int) ∈ wsAll := wA 514 (by decide +kernel) (by decide +kernel)
theorem cl_L_32 {p : Program} {l : Launch} {e : Env} {R : Room} {s : State} {m : MethodId} {args : Array Value} {below : List Frame} {meth : Method} {c : Code} {cc : ByteArray} {nL : Nat} {D : va_G} {cy : Nat → ClassId} {ad : Nat → Nat} {n : Nat} {A : Nat → Prop} {mc ms : Nat} {Q : State → Prop} {S : Sg} {pc : Nat} {lv : List (Nat × Value)} {st : List Value} {ζ : Type} {z : ζ} (C : gC p s m args meth c cc nL RL D cy ad n A) (nx : Nat) {x1 : Int32} {x2 : Int32} {x3 : Int32} (hR : Room.frames rm_X9_next + 1 ≤ R.frames ∧ 8 + (5 + 11) + Room.locals rm_X9_next ≤ R.locals) (hcm : mc ≤ R.cells ∧ ms ≤ R.slots) (hrest : (st.map fun v => v.category).sum ≤ 8) (hd : decode cc pc = .ok (.invokevirtual 32, 3)) (hn : pc + 3 = nx) {K : Int32 → Sg → Option ζ} (hz : bd2 (f_X9_next n x1 x2 x3 S) K = some z) (kk : ∀ r S', K r S' = some z → gW p l e R s m args below meth c D cy ad n A nL mc ms Q S' nx lv (.int r :: st)) : gW p l e R s m args below meth c D cy ad n A nL mc ms Q S pc lv (.int x3 :: .int x2 :: .int x1 :: .ref (ad 0) :: st) := by
  obtain ⟨q, hq, hk⟩ := bd2_s hz
  exact g_callV C (i := 0) (ci := 9) (Cn := RX9) (T := TX9) (N := 11) (y := yX9_next) (rm := rm_X9_next) (As := [.int x1, .int x2, .int x3]) (rest := st) (na := 3) (fun sz => c_X9_next l D cy ad n S sz x1 x2 x3 q hq) ha_0 rfl rfl wl_L_32 wi_X9_next we_X9_next wz_9 wo_X9_next (by decide +kernel) rfl rfl hR hcm rfl hrest hn hd (kk q.1 q.2 hk)
theorem wl_L_36 : Cond.methodLink RL 36 yX10_next ∈ wsAll := wA 937 (by decide +kernel) (by decide +kernel)
theorem wi_X10_next : Cond.instanceMethod yX10_next ∈ wsAll := wA 938 (by decide +kernel) (by decide +kernel)
theorem we_X10_next : Cond.selects RX10 yX10_next yX10_next ∈ wsAll := wA 939 (by decide +kernel) (by decide +kernel)
theorem wo_X10_next : Cond.code yX10_next cX10_next 4 (some .int) ∈ wsAll := wA 940 (by decide +kernel) (by decide +kernel)
theorem cl_L_36 {p : Program} {l : Launch} {e : Env} {R : Room} {s : State} {m : MethodId} {args : Array Value} {below : List Frame} {meth : Method} {c : Code} {cc : ByteArray} {nL : Nat} {D : va_G} {cy : Nat → ClassId} {ad : Nat → Nat} {n : Nat} {A : Nat → Prop} {mc ms : Nat} {Q : State → Prop} {S : Sg} {pc : Nat} {lv : List (Nat × Value)} {st : List Value} {ζ : Type} {z : ζ} (C : gC p s m args meth c cc nL RL D cy ad n A) (nx : Nat) {x1 : Int32} {x2 : Int32} {x3 : Int32} (hR : Room.frames rm_X10_next + 1 ≤ R.frames ∧ 8 + (4 + 11) + Room.locals rm_X10_next ≤ R.locals) (hcm : mc ≤ R.cells ∧ ms ≤ R.slots) (hrest : (st.map fun v => v.category).sum ≤ 8) (hd : decode cc pc = .ok (.invokevirtual 36, 3)) (hn : pc + 3 = nx) {K : Int32 → Sg → Option ζ} (hz : bd2 (f_X10_next x1 x2 x3 S) K = some z) (kk : ∀ r S', K r S' = some z → gW p l e R s m args below meth c D cy ad n A nL mc ms Q S' nx lv (.int r :: st)) : gW p l e R s m args below meth c D cy ad n A nL mc ms Q S pc lv (.int x3 :: .int x2 :: .int x1 :: .ref (ad 34) :: st) := by
  obtain ⟨q, hq, hk⟩ := bd2_s hz
  exact g_callV C (i := 34) (ci := 10) (Cn := RX10) (T := TX10) (N := 59) (y := yX10_next) (rm := rm_X10_next) (As := [.int x1, .int x2, .int x3]) (rest := st) (na := 3) (fun sz => c_X10_next l D cy ad n S sz x1 x2 x3 q hq) ha_34 rfl rfl wl_L_36 wi_X10_next we_X10_next wz_10 wo_X10_next (by decide +kernel) rfl rfl hR hcm rfl hrest hn hd (kk q.1 q.2 hk)
set_option maxRecDepth 20000 in
theorem lw_c4 {p : Program} {l : Launch} {e : Env} {s : State} {m : MethodId} {below : List Frame} {meth : Method} {c : Code} {D : va_G} {cy : Nat → ClassId} {ad : Nat → Nat} {n : Nat} {mc ms : Nat} {S : Sg} {b L : Nat} {xs : Nat → Int32} {x3 : Int32} {Inv : Nat → Sg → Prop} (C : gC p s m #[Value.ref b] meth c code 4 RL D cy ad n (fun q : Nat => s.heap.size ≤ q)) (hX : va_X b L xs s s.heap) (hbl : b < s.heap.size) (hbA : ¬ (fun q : Nat => s.heap.size ≤ q) b) (h1 : vp_in (x3 + (1 : Int32)) L) (h2 : vp_in (x3 + (2 : Int32)) L) (h3 : vp_in (x3 + (3 : Int32)) L) (h4 : vp_in (x3 + (4 : Int32)) L) (h5 : vp_in (x3 + (5 : Int32)) L) (hcm : mc ≤ room_1.cells ∧ ms ≤ room_1.slots) (hI : Inv n S) (ok : OK_next Inv) (kk : ∀ S' : Sg, Inv n S' → gW p l e room_1 s m #[Value.ref b] below meth c D cy ad n (fun q : Nat => s.heap.size ≤ q) 4 mc ms (lw_Z below #[Value.ref b] s) S' 664 [(0, .ref b), (1, .ref (ad 0)), (2, .ref (ad 34)), (3, .int x3)] []) : gW p l e room_1 s m #[Value.ref b] below meth c D cy ad n (fun q : Nat => s.heap.size ≤ q) 4 mc ms (lw_Z below #[Value.ref b] s) S 260 [(0, .ref b), (1, .ref (ad 0)), (2, .ref (ad 34)), (3, .int x3)] [] := by
  obtain ⟨r, S1, S2, e1, e2, hI2⟩ := ok n S ((xs (Int32.toNatClampNeg (x3 + (1 : Int32))))) ((xs (Int32.toNatClampNeg (x3 + (2 : Int32))))) ((xs (Int32.toNatClampNeg (x3 + (3 : Int32))))) hI
  refine g_aload_n C 261 1 rfl dL_law_260 rfl ?_
  refine g_aload_n C 262 0 rfl dL_law_261 rfl ?_
  refine g_iload_n C 263 3 rfl dL_law_262 rfl ?_
  refine g_iconst C 264 (1 : Int32) ci_1 dL_law_263 rfl ?_
  refine g_iadd C 265 dL_law_264 rfl ?_
  refine g_sld C hX hbl hbA 266 h1 dL_law_265 rfl ?_
  refine g_aload_n C 267 0 rfl dL_law_266 rfl ?_
  refine g_iload_n C 268 3 rfl dL_law_267 rfl ?_
  refine g_iconst C 269 (2 : Int32) ci_2 dL_law_268 rfl ?_
  refine g_iadd C 270 dL_law_269 rfl ?_
  refine g_sld C hX hbl hbA 271 h2 dL_law_270 rfl ?_
  refine g_aload_n C 272 0 rfl dL_law_271 rfl ?_
  refine g_iload_n C 273 3 rfl dL_law_272 rfl ?_
  refine g_iconst C 274 (3 : Int32) ci_3 dL_law_273 rfl ?_
  refine g_iadd C 275 dL_law_274 rfl ?_
  refine g_sld C hX hbl hbA 276 h3 dL_law_275 rfl ?_
  refine cl_L_32 C 279 ⟨Nat.le_of_ble_eq_true rfl, Nat.le_of_ble_eq_true rfl⟩ hcm (Nat.le_of_ble_eq_true rfl) dL_law_276 rfl (K := fun r1 T1 => some (r1, T1)) (z := (r, S1)) (by rw [e1]; rfl) (fun r1 T1 hz => ?_)
  cases hz
  refine g_aload_n C 280 2 rfl dL_law_279 rfl ?_
  refine g_aload_n C 281 0 rfl dL_law_280 rfl ?_
  refine g_iload_n C 282 3 rfl dL_law_281 rfl ?_
  refine g_iconst C 283 (1 : Int32) ci_1 dL_law_282 rfl ?_
  refine g_iadd C 284 dL_law_283 rfl ?_
  refine g_sld C hX hbl hbA 285 h1 dL_law_284 rfl ?_
  refine g_aload_n C 286 0 rfl dL_law_285 rfl ?_
  refine g_iload_n C 287 3 rfl dL_law_286 rfl ?_
  refine g_iconst C 288 (2 : Int32) ci_2 dL_law_287 rfl ?_
  refine g_iadd C 289 dL_law_288 rfl ?_
  refine g_sld C hX hbl hbA 290 h2 dL_law_289 rfl ?_
  refine g_aload_n C 291 0 rfl dL_law_290 rfl ?_
  refine g_iload_n C 292 3 rfl dL_law_291 rfl ?_
  refine g_iconst C 293 (3 : Int32) ci_3 dL_law_292 rfl ?_
  refine g_iadd C 294 dL_law_293 rfl ?_
  refine g_sld C hX hbl hbA 295 h3 dL_law_294 rfl ?_
  refine cl_L_36 C 298 ⟨Nat.le_of_ble_eq_true rfl, Nat.le_of_ble_eq_true rfl⟩ hcm (Nat.le_of_ble_eq_true rfl) dL_law_295 rfl (K := fun r1 T1 => some (r1, T1)) (z := (r, S2)) (by rw [e2]; rfl) (fun r1 T1 hz => ?_)
  cases hz
  refine g_eqk C 664 301 dL_law_298 rfl rfl ?_
  exact kk _ hI2
theorem wl_L_37 : Cond.methodLink RL 37 yX9_accepts ∈ wsAll := wA 519 (by decide +kernel) (by decide +kernel)
theorem wi_X9_accepts : Cond.instanceMethod yX9_accepts ∈ wsAll := wA 520 (by decide +kernel) (by decide +kernel)
theorem we_X9_accepts : Cond.selects RX9 yX9_accepts yX9_accepts ∈ wsAll := wA 521 (by decide +kernel) (by decide +kernel)
theorem wo_X9_accepts : Cond.code yX9_accepts cX9_accepts 4 (some .int) ∈ wsAll := wA 522 (by decide +kernel) (by decide +kernel)
theorem cl_L_37 {p : Program} {l : Launch} {e : Env} {R : Room} {s : State} {m : MethodId} {args : Array Value} {below : List Frame} {meth : Method} {c : Code} {cc : ByteArray} {nL : Nat} {D : va_G} {cy : Nat → ClassId} {ad : Nat → Nat} {n : Nat} {A : Nat → Prop} {mc ms : Nat} {Q : State → Prop} {S : Sg} {pc : Nat} {lv : List (Nat × Value)} {st : List Value} {ζ : Type} {z : ζ} (C : gC p s m args meth c cc nL RL D cy ad n A) (nx : Nat) {x1 : Int32} {x2 : Int32} (hR : Room.frames rm_X9_accepts + 1 ≤ R.frames ∧ 8 + (4 + 11) + Room.locals rm_X9_accepts ≤ R.locals) (hcm : mc ≤ R.cells ∧ ms ≤ R.slots) (hrest : (st.map fun v => v.category).sum ≤ 8) (hd : decode cc pc = .ok (.invokevirtual 37, 3)) (hn : pc + 3 = nx) {K : Int32 → Sg → Option ζ} (hz : bd2 (f_X9_accepts n x1 x2 S) K = some z) (kk : ∀ r S', K r S' = some z → gW p l e R s m args below meth c D cy ad n A nL mc ms Q S' nx lv (.int r :: st)) : gW p l e R s m args below meth c D cy ad n A nL mc ms Q S pc lv (.int x2 :: .int x1 :: .ref (ad 0) :: st) := by
  obtain ⟨q, hq, hk⟩ := bd2_s hz
  exact g_callV C (i := 0) (ci := 9) (Cn := RX9) (T := TX9) (N := 11) (y := yX9_accepts) (rm := rm_X9_accepts) (As := [.int x1, .int x2]) (rest := st) (na := 2) (fun sz => c_X9_accepts l D cy ad n S sz x1 x2 q hq) ha_0 rfl rfl wl_L_37 wi_X9_accepts we_X9_accepts wz_9 wo_X9_accepts (by decide +kernel) rfl rfl hR hcm rfl hrest hn hd (kk q.1 q.2 hk)
theorem wl_L_40 : Cond.methodLink RL 40 yX10_accepts ∈ wsAll := wA 945 (by decide +kernel) (by decide +kernel)
theorem wi_X10_accepts : Cond.instanceMethod yX10_accepts ∈ wsAll := wA 946 (by decide +kernel) (by decide +kernel)
theorem we_X10_accepts : Cond.selects RX10 yX10_accepts yX10_accepts ∈ wsAll := wA 947 (by decide +kernel) (by decide +kernel)
theorem wo_X10_accepts : Cond.code yX10_accepts cX10_accepts 3 (some .int) ∈ wsAll := wA 948 (by decide +kernel) (by decide +kernel)
theorem cl_L_40 {p : Program} {l : Launch} {e : Env} {R : Room} {s : State} {m : MethodId} {args : Array Value} {below : List Frame} {meth : Method} {c : Code} {cc : ByteArray} {nL : Nat} {D : va_G} {cy : Nat → ClassId} {ad : Nat → Nat} {n : Nat} {A : Nat → Prop} {mc ms : Nat} {Q : State → Prop} {S : Sg} {pc : Nat} {lv : List (Nat × Value)} {st : List Value} {ζ : Type} {z : ζ} (C : gC p s m args meth c cc nL RL D cy ad n A) (nx : Nat) {x1 : Int32} {x2 : Int32} (hR : Room.frames rm_X10_accepts + 1 ≤ R.frames ∧ 8 + (3 + 11) + Room.locals rm_X10_accepts ≤ R.locals) (hcm : mc ≤ R.cells ∧ ms ≤ R.slots) (hrest : (st.map fun v => v.category).sum ≤ 8) (hd : decode cc pc = .ok (.invokevirtual 40, 3)) (hn : pc + 3 = nx) {K : Int32 → Sg → Option ζ} (hz : bd2 (f_X10_accepts x1 x2 S) K = some z) (kk : ∀ r S', K r S' = some z → gW p l e R s m args below meth c D cy ad n A nL mc ms Q S' nx lv (.int r :: st)) : gW p l e R s m args below meth c D cy ad n A nL mc ms Q S pc lv (.int x2 :: .int x1 :: .ref (ad 34) :: st) := by
  obtain ⟨q, hq, hk⟩ := bd2_s hz
  exact g_callV C (i := 34) (ci := 10) (Cn := RX10) (T := TX10) (N := 59) (y := yX10_accepts) (rm := rm_X10_accepts) (As := [.int x1, .int x2]) (rest := st) (na := 2) (fun sz => c_X10_accepts l D cy ad n S sz x1 x2 q hq) ha_34 rfl rfl wl_L_40 wi_X10_accepts we_X10_accepts wz_10 wo_X10_accepts (by decide +kernel) rfl rfl hR hcm rfl hrest hn hd (kk q.1 q.2 hk)
set_option maxRecDepth 20000 in
theorem lw_c5 {p : Program} {l : Launch} {e : Env} {s : State} {m : MethodId} {below : List Frame} {meth : Method} {c : Code} {D : va_G} {cy : Nat → ClassId} {ad : Nat → Nat} {n : Nat} {mc ms : Nat} {S : Sg} {b L : Nat} {xs : Nat → Int32} {x3 : Int32} {Inv : Nat → Sg → Prop} (C : gC p s m #[Value.ref b] meth c code 4 RL D cy ad n (fun q : Nat => s.heap.size ≤ q)) (hX : va_X b L xs s s.heap) (hbl : b < s.heap.size) (hbA : ¬ (fun q : Nat => s.heap.size ≤ q) b) (h1 : vp_in (x3 + (1 : Int32)) L) (h2 : vp_in (x3 + (2 : Int32)) L) (h3 : vp_in (x3 + (3 : Int32)) L) (h4 : vp_in (x3 + (4 : Int32)) L) (h5 : vp_in (x3 + (5 : Int32)) L) (hcm : mc ≤ room_1.cells ∧ ms ≤ room_1.slots) (hI : Inv n S) (ok : OK_accepts Inv) (kk : ∀ S' : Sg, Inv n S' → gW p l e room_1 s m #[Value.ref b] below meth c D cy ad n (fun q : Nat => s.heap.size ≤ q) 4 mc ms (lw_Z below #[Value.ref b] s) S' 664 [(0, .ref b), (1, .ref (ad 0)), (2, .ref (ad 34)), (3, .int x3)] []) : gW p l e room_1 s m #[Value.ref b] below meth c D cy ad n (fun q : Nat => s.heap.size ≤ q) 4 mc ms (lw_Z below #[Value.ref b] s) S 303 [(0, .ref b), (1, .ref (ad 0)), (2, .ref (ad 34)), (3, .int x3)] [] := by
  obtain ⟨r, S1, S2, e1, e2, hI2⟩ := ok n S ((xs (Int32.toNatClampNeg (x3 + (1 : Int32))))) ((xs (Int32.toNatClampNeg (x3 + (2 : Int32))))) hI
  refine g_aload_n C 304 1 rfl dL_law_303 rfl ?_
  refine g_aload_n C 305 0 rfl dL_law_304 rfl ?_
  refine g_iload_n C 306 3 rfl dL_law_305 rfl ?_
  refine g_iconst C 307 (1 : Int32) ci_1 dL_law_306 rfl ?_
  refine g_iadd C 308 dL_law_307 rfl ?_
  refine g_sld C hX hbl hbA 309 h1 dL_law_308 rfl ?_
  refine g_aload_n C 310 0 rfl dL_law_309 rfl ?_
  refine g_iload_n C 311 3 rfl dL_law_310 rfl ?_
  refine g_iconst C 312 (2 : Int32) ci_2 dL_law_311 rfl ?_
  refine g_iadd C 313 dL_law_312 rfl ?_
  refine g_sld C hX hbl hbA 314 h2 dL_law_313 rfl ?_
  refine cl_L_37 C 317 ⟨Nat.le_of_ble_eq_true rfl, Nat.le_of_ble_eq_true rfl⟩ hcm (Nat.le_of_ble_eq_true rfl) dL_law_314 rfl (K := fun r1 T1 => some (r1, T1)) (z := (r, S1)) (by rw [e1]; rfl) (fun r1 T1 hz => ?_)
  cases hz
  refine g_aload_n C 318 2 rfl dL_law_317 rfl ?_
  refine g_aload_n C 319 0 rfl dL_law_318 rfl ?_
  refine g_iload_n C 320 3 rfl dL_law_319 rfl ?_
  refine g_iconst C 321 (1 : Int32) ci_1 dL_law_320 rfl ?_
  refine g_iadd C 322 dL_law_321 rfl ?_
  refine g_sld C hX hbl hbA 323 h1 dL_law_322 rfl ?_
  refine g_aload_n C 324 0 rfl dL_law_323 rfl ?_
  refine g_iload_n C 325 3 rfl dL_law_324 rfl ?_
  refine g_iconst C 326 (2 : Int32) ci_2 dL_law_325 rfl ?_
  refine g_iadd C 327 dL_law_326 rfl ?_
  refine g_sld C hX hbl hbA 328 h2 dL_law_327 rfl ?_
  refine cl_L_40 C 331 ⟨Nat.le_of_ble_eq_true rfl, Nat.le_of_ble_eq_true rfl⟩ hcm (Nat.le_of_ble_eq_true rfl) dL_law_328 rfl (K := fun r1 T1 => some (r1, T1)) (z := (r, S2)) (by rw [e2]; rfl) (fun r1 T1 hz => ?_)
  cases hz
  refine g_eqk C 664 334 dL_law_331 rfl rfl ?_
  exact kk _ hI2
theorem wl_L_41 : Cond.methodLink RL 41 yX9_spots ∈ wsAll := wA 523 (by decide +kernel) (by decide +kernel)
theorem wi_X9_spots : Cond.instanceMethod yX9_spots ∈ wsAll := wA 524 (by decide +kernel) (by decide +kernel)
theorem we_X9_spots : Cond.selects RX9 yX9_spots yX9_spots ∈ wsAll := wA 525 (by decide +kernel) (by decide +kernel)
theorem wo_X9_spots : Cond.code yX9_spots cX9_spots 5 (some .int) ∈ wsAll := wA 526 (by decide +kernel) (by decide +kernel)
theorem cl_L_41 {p : Program} {l : Launch} {e : Env} {R : Room} {s : State} {m : MethodId} {args : Array Value} {below : List Frame} {meth : Method} {c : Code} {cc : ByteArray} {nL : Nat} {D : va_G} {cy : Nat → ClassId} {ad : Nat → Nat} {n : Nat} {A : Nat → Prop} {mc ms : Nat} {Q : State → Prop} {S : Sg} {pc : Nat} {lv : List (Nat × Value)} {st : List Value} {ζ : Type} {z : ζ} (C : gC p s m args meth c cc nL RL D cy ad n A) (nx : Nat) {x1 : Int32} {x2 : Int32} {x3 : Int32} (hR : Room.frames rm_X9_spots + 1 ≤ R.frames ∧ 8 + (5 + 11) + Room.locals rm_X9_spots ≤ R.locals) (hcm : mc ≤ R.cells ∧ ms ≤ R.slots) (hrest : (st.map fun v => v.category).sum ≤ 8) (hd : decode cc pc = .ok (.invokevirtual 41, 3)) (hn : pc + 3 = nx) {K : Int32 → Sg → Option ζ} (hz : bd2 (f_X9_spots n x1 x2 x3 S) K = some z) (kk : ∀ r S', K r S' = some z → gW p l e R s m args below meth c D cy ad n A nL mc ms Q S' nx lv (.int r :: st)) : gW p l e R s m args below meth c D cy ad n A nL mc ms Q S pc lv (.int x3 :: .int x2 :: .int x1 :: .ref (ad 0) :: st) := by
  obtain ⟨q, hq, hk⟩ := bd2_s hz
  exact g_callV C (i := 0) (ci := 9) (Cn := RX9) (T := TX9) (N := 11) (y := yX9_spots) (rm := rm_X9_spots) (As := [.int x1, .int x2, .int x3]) (rest := st) (na := 3) (fun sz => c_X9_spots l D cy ad n S sz x1 x2 x3 q hq) ha_0 rfl rfl wl_L_41 wi_X9_spots we_X9_spots wz_9 wo_X9_spots (by decide +kernel) rfl rfl hR hcm rfl hrest hn hd (kk q.1 q.2 hk)
theorem wl_L_44 : Cond.methodLink RL 44 yX10_spots ∈ wsAll := wA 949 (by decide +kernel) (by decide +kernel)
theorem wi_X10_spots : Cond.instanceMethod yX10_spots ∈ wsAll := wA 950 (by decide +kernel) (by decide +kernel)
theorem we_X10_spots : Cond.selects RX10 yX10_spots yX10_spots ∈ wsAll := wA 951 (by decide +kernel) (by decide +kernel)
theorem wo_X10_spots : Cond.code yX10_spots cX10_spots 4 (some .int) ∈ wsAll := wA 952 (by decide +kernel) (by decide +kernel)
theorem cl_L_44 {p : Program} {l : Launch} {e : Env} {R : Room} {s : State} {m : MethodId} {args : Array Value} {below : List Frame} {meth : Method} {c : Code} {cc : ByteArray} {nL : Nat} {D : va_G} {cy : Nat → ClassId} {ad : Nat → Nat} {n : Nat} {A : Nat → Prop} {mc ms : Nat} {Q : State → Prop} {S : Sg} {pc : Nat} {lv : List (Nat × Value)} {st : List Value} {ζ : Type} {z : ζ} (C : gC p s m args meth c cc nL RL D cy ad n A) (nx : Nat) {x1 : Int32} {x2 : Int32} {x3 : Int32} (hR : Room.frames rm_X10_spots + 1 ≤ R.frames ∧ 8 + (4 + 11) + Room.locals rm_X10_spots ≤ R.locals) (hcm : mc ≤ R.cells ∧ ms ≤ R.slots) (hrest : (st.map fun v => v.category).sum ≤ 8) (hd : decode cc pc = .ok (.invokevirtual 44, 3)) (hn : pc + 3 = nx) {K : Int32 → Sg → Option ζ} (hz : bd2 (f_X10_spots x1 x2 x3 S) K = some z) (kk : ∀ r S', K r S' = some z → gW p l e R s m args below meth c D cy ad n A nL mc ms Q S' nx lv (.int r :: st)) : gW p l e R s m args below meth c D cy ad n A nL mc ms Q S pc lv (.int x3 :: .int x2 :: .int x1 :: .ref (ad 34) :: st) := by
  obtain ⟨q, hq, hk⟩ := bd2_s hz
  exact g_callV C (i := 34) (ci := 10) (Cn := RX10) (T := TX10) (N := 59) (y := yX10_spots) (rm := rm_X10_spots) (As := [.int x1, .int x2, .int x3]) (rest := st) (na := 3) (fun sz => c_X10_spots l D cy ad n S sz x1 x2 x3 q hq) ha_34 rfl rfl wl_L_44 wi_X10_spots we_X10_spots wz_10 wo_X10_spots (by decide +kernel) rfl rfl hR hcm rfl hrest hn hd (kk q.1 q.2 hk)
set_option maxRecDepth 20000 in
theorem lw_c6 {p : Program} {l : Launch} {e : Env} {s : State} {m : MethodId} {below : List Frame} {meth : Method} {c : Code} {D : va_G} {cy : Nat → ClassId} {ad : Nat → Nat} {n : Nat} {mc ms : Nat} {S : Sg} {b L : Nat} {xs : Nat → Int32} {x3 : Int32} {Inv : Nat → Sg → Prop} (C : gC p s m #[Value.ref b] meth c code 4 RL D cy ad n (fun q : Nat => s.heap.size ≤ q)) (hX : va_X b L xs s s.heap) (hbl : b < s.heap.size) (hbA : ¬ (fun q : Nat => s.heap.size ≤ q) b) (h1 : vp_in (x3 + (1 : Int32)) L) (h2 : vp_in (x3 + (2 : Int32)) L) (h3 : vp_in (x3 + (3 : Int32)) L) (h4 : vp_in (x3 + (4 : Int32)) L) (h5 : vp_in (x3 + (5 : Int32)) L) (hcm : mc ≤ room_1.cells ∧ ms ≤ room_1.slots) (hI : Inv n S) (ok : OK_spots Inv) (kk : ∀ S' : Sg, Inv n S' → gW p l e room_1 s m #[Value.ref b] below meth c D cy ad n (fun q : Nat => s.heap.size ≤ q) 4 mc ms (lw_Z below #[Value.ref b] s) S' 664 [(0, .ref b), (1, .ref (ad 0)), (2, .ref (ad 34)), (3, .int x3)] []) : gW p l e room_1 s m #[Value.ref b] below meth c D cy ad n (fun q : Nat => s.heap.size ≤ q) 4 mc ms (lw_Z below #[Value.ref b] s) S 336 [(0, .ref b), (1, .ref (ad 0)), (2, .ref (ad 34)), (3, .int x3)] [] := by
  obtain ⟨r, S1, S2, e1, e2, hI2⟩ := ok n S ((xs (Int32.toNatClampNeg (x3 + (1 : Int32))))) ((xs (Int32.toNatClampNeg (x3 + (2 : Int32))))) ((xs (Int32.toNatClampNeg (x3 + (3 : Int32))))) hI
  refine g_aload_n C 337 1 rfl dL_law_336 rfl ?_
  refine g_aload_n C 338 0 rfl dL_law_337 rfl ?_
  refine g_iload_n C 339 3 rfl dL_law_338 rfl ?_
  refine g_iconst C 340 (1 : Int32) ci_1 dL_law_339 rfl ?_
  refine g_iadd C 341 dL_law_340 rfl ?_
  refine g_sld C hX hbl hbA 342 h1 dL_law_341 rfl ?_
  refine g_aload_n C 343 0 rfl dL_law_342 rfl ?_
  refine g_iload_n C 344 3 rfl dL_law_343 rfl ?_
  refine g_iconst C 345 (2 : Int32) ci_2 dL_law_344 rfl ?_
  refine g_iadd C 346 dL_law_345 rfl ?_
  refine g_sld C hX hbl hbA 347 h2 dL_law_346 rfl ?_
  refine g_aload_n C 348 0 rfl dL_law_347 rfl ?_
  refine g_iload_n C 349 3 rfl dL_law_348 rfl ?_
  refine g_iconst C 350 (3 : Int32) ci_3 dL_law_349 rfl ?_
  refine g_iadd C 351 dL_law_350 rfl ?_
  refine g_sld C hX hbl hbA 352 h3 dL_law_351 rfl ?_
  refine cl_L_41 C 355 ⟨Nat.le_of_ble_eq_true rfl, Nat.le_of_ble_eq_true rfl⟩ hcm (Nat.le_of_ble_eq_true rfl) dL_law_352 rfl (K := fun r1 T1 => some (r1, T1)) (z := (r, S1)) (by rw [e1]; rfl) (fun r1 T1 hz => ?_)
  cases hz
  refine g_aload_n C 356 2 rfl dL_law_355 rfl ?_
  refine g_aload_n C 357 0 rfl dL_law_356 rfl ?_
  refine g_iload_n C 358 3 rfl dL_law_357 rfl ?_
  refine g_iconst C 359 (1 : Int32) ci_1 dL_law_358 rfl ?_
  refine g_iadd C 360 dL_law_359 rfl ?_
  refine g_sld C hX hbl hbA 361 h1 dL_law_360 rfl ?_
  refine g_aload_n C 362 0 rfl dL_law_361 rfl ?_
  refine g_iload_n C 363 3 rfl dL_law_362 rfl ?_
  refine g_iconst C 364 (2 : Int32) ci_2 dL_law_363 rfl ?_
  refine g_iadd C 365 dL_law_364 rfl ?_
  refine g_sld C hX hbl hbA 366 h2 dL_law_365 rfl ?_
  refine g_aload_n C 367 0 rfl dL_law_366 rfl ?_
  refine g_iload_n C 368 3 rfl dL_law_367 rfl ?_
  refine g_iconst C 369 (3 : Int32) ci_3 dL_law_368 rfl ?_
  refine g_iadd C 370 dL_law_369 rfl ?_
  refine g_sld C hX hbl hbA 371 h3 dL_law_370 rfl ?_
  refine cl_L_44 C 374 ⟨Nat.le_of_ble_eq_true rfl, Nat.le_of_ble_eq_true rfl⟩ hcm (Nat.le_of_ble_eq_true rfl) dL_law_371 rfl (K := fun r1 T1 => some (r1, T1)) (z := (r, S2)) (by rw [e2]; rfl) (fun r1 T1 hz => ?_)
  cases hz
  refine g_eqk C 664 377 dL_law_374 rfl rfl ?_
  exact kk _ hI2
theorem wl_L_45 : Cond.methodLink RL 45 yX9_classOf ∈ wsAll := wA 527 (by decide +kernel) (by decide +kernel)
theorem wi_X9_classOf : Cond.instanceMethod yX9_classOf ∈ wsAll := wA 528 (by decide +kernel) (by decide +kernel)
theorem we_X9_classOf : Cond.selects RX9 yX9_classOf yX9_classOf ∈ wsAll := wA 529 (by decide +kernel) (by decide +kernel)
theorem wo_X9_classOf : Cond.code yX9_classOf cX9_classOf 4 (some .int) ∈ wsAll := wA 530 (by decide +kernel) (by decide +kernel)
theorem cl_L_45 {p : Program} {l : Launch} {e : Env} {R : Room} {s : State} {m : MethodId} {args : Array Value} {below : List Frame} {meth : Method} {c : Code} {cc : ByteArray} {nL : Nat} {D : va_G} {cy : Nat → ClassId} {ad : Nat → Nat} {n : Nat} {A : Nat → Prop} {mc ms : Nat} {Q : State → Prop} {S : Sg} {pc : Nat} {lv : List (Nat × Value)} {st : List Value} {ζ : Type} {z : ζ} (C : gC p s m args meth c cc nL RL D cy ad n A) (nx : Nat) {x1 : Int32} {x2 : Int32} (hR : Room.frames rm_X9_classOf + 1 ≤ R.frames ∧ 8 + (4 + 11) + Room.locals rm_X9_classOf ≤ R.locals) (hcm : mc ≤ R.cells ∧ ms ≤ R.slots) (hrest : (st.map fun v => v.category).sum ≤ 8) (hd : decode cc pc = .ok (.invokevirtual 45, 3)) (hn : pc + 3 = nx) {K : Int32 → Sg → Option ζ} (hz : bd2 (f_X9_classOf n x1 x2 S) K = some z) (kk : ∀ r S', K r S' = some z → gW p l e R s m args below meth c D cy ad n A nL mc ms Q S' nx lv (.int r :: st)) : gW p l e R s m args below meth c D cy ad n A nL mc ms Q S pc lv (.int x2 :: .int x1 :: .ref (ad 0) :: st) := by
  obtain ⟨q, hq, hk⟩ := bd2_s hz
  exact g_callV C (i := 0) (ci := 9) (Cn := RX9) (T := TX9) (N := 11) (y := yX9_classOf) (rm := rm_X9_classOf) (As := [.int x1, .int x2]) (rest := st) (na := 2) (fun sz => c_X9_classOf l D cy ad n S sz x1 x2 q hq) ha_0 rfl rfl wl_L_45 wi_X9_classOf we_X9_classOf wz_9 wo_X9_classOf (by decide +kernel) rfl rfl hR hcm rfl hrest hn hd (kk q.1 q.2 hk)
theorem wl_L_48 : Cond.methodLink RL 48 yX10_classOf ∈ wsAll := wA 953 (by decide +kernel) (by decide +kernel)
theorem wi_X10_classOf : Cond.instanceMethod yX10_classOf ∈ wsAll := wA 954 (by decide +kernel) (by decide +kernel)
theorem we_X10_classOf : Cond.selects RX10 yX10_classOf yX10_classOf ∈ wsAll := wA 955 (by decide +kernel) (by decide +kernel)
theorem wo_X10_classOf : Cond.code yX10_classOf cX10_classOf 3 (some .int) ∈ wsAll := wA 956 (by decide +kernel) (by decide +kernel)
theorem cl_L_48 {p : Program} {l : Launch} {e : Env} {R : Room} {s : State} {m : MethodId} {args : Array Value} {below : List Frame} {meth : Method} {c : Code} {cc : ByteArray} {nL : Nat} {D : va_G} {cy : Nat → ClassId} {ad : Nat → Nat} {n : Nat} {A : Nat → Prop} {mc ms : Nat} {Q : State → Prop} {S : Sg} {pc : Nat} {lv : List (Nat × Value)} {st : List Value} {ζ : Type} {z : ζ} (C : gC p s m args meth c cc nL RL D cy ad n A) (nx : Nat) {x1 : Int32} {x2 : Int32} (hR : Room.frames rm_X10_classOf + 1 ≤ R.frames ∧ 8 + (3 + 11) + Room.locals rm_X10_classOf ≤ R.locals) (hcm : mc ≤ R.cells ∧ ms ≤ R.slots) (hrest : (st.map fun v => v.category).sum ≤ 8) (hd : decode cc pc = .ok (.invokevirtual 48, 3)) (hn : pc + 3 = nx) {K : Int32 → Sg → Option ζ} (hz : bd2 (f_X10_classOf x1 x2 S) K = some z) (kk : ∀ r S', K r S' = some z → gW p l e R s m args below meth c D cy ad n A nL mc ms Q S' nx lv (.int r :: st)) : gW p l e R s m args below meth c D cy ad n A nL mc ms Q S pc lv (.int x2 :: .int x1 :: .ref (ad 34) :: st) := by
  obtain ⟨q, hq, hk⟩ := bd2_s hz
  exact g_callV C (i := 34) (ci := 10) (Cn := RX10) (T := TX10) (N := 59) (y := yX10_classOf) (rm := rm_X10_classOf) (As := [.int x1, .int x2]) (rest := st) (na := 2) (fun sz => c_X10_classOf l D cy ad n S sz x1 x2 q hq) ha_34 rfl rfl wl_L_48 wi_X10_classOf we_X10_classOf wz_10 wo_X10_classOf (by decide +kernel) rfl rfl hR hcm rfl hrest hn hd (kk q.1 q.2 hk)
set_option maxRecDepth 20000 in
theorem lw_c7 {p : Program} {l : Launch} {e : Env} {s : State} {m : MethodId} {below : List Frame} {meth : Method} {c : Code} {D : va_G} {cy : Nat → ClassId} {ad : Nat → Nat} {n : Nat} {mc ms : Nat} {S : Sg} {b L : Nat} {xs : Nat → Int32} {x3 : Int32} {Inv : Nat → Sg → Prop} (C : gC p s m #[Value.ref b] meth c code 4 RL D cy ad n (fun q : Nat => s.heap.size ≤ q)) (hX : va_X b L xs s s.heap) (hbl : b < s.heap.size) (hbA : ¬ (fun q : Nat => s.heap.size ≤ q) b) (h1 : vp_in (x3 + (1 : Int32)) L) (h2 : vp_in (x3 + (2 : Int32)) L) (h3 : vp_in (x3 + (3 : Int32)) L) (h4 : vp_in (x3 + (4 : Int32)) L) (h5 : vp_in (x3 + (5 : Int32)) L) (hcm : mc ≤ room_1.cells ∧ ms ≤ room_1.slots) (hI : Inv n S) (ok : OK_classOf Inv) (kk : ∀ S' : Sg, Inv n S' → gW p l e room_1 s m #[Value.ref b] below meth c D cy ad n (fun q : Nat => s.heap.size ≤ q) 4 mc ms (lw_Z below #[Value.ref b] s) S' 664 [(0, .ref b), (1, .ref (ad 0)), (2, .ref (ad 34)), (3, .int x3)] []) : gW p l e room_1 s m #[Value.ref b] below meth c D cy ad n (fun q : Nat => s.heap.size ≤ q) 4 mc ms (lw_Z below #[Value.ref b] s) S 379 [(0, .ref b), (1, .ref (ad 0)), (2, .ref (ad 34)), (3, .int x3)] [] := by
  obtain ⟨r, S1, S2, e1, e2, hI2⟩ := ok n S ((xs (Int32.toNatClampNeg (x3 + (1 : Int32))))) ((xs (Int32.toNatClampNeg (x3 + (2 : Int32))))) hI
  refine g_aload_n C 380 1 rfl dL_law_379 rfl ?_
  refine g_aload_n C 381 0 rfl dL_law_380 rfl ?_
  refine g_iload_n C 382 3 rfl dL_law_381 rfl ?_
  refine g_iconst C 383 (1 : Int32) ci_1 dL_law_382 rfl ?_
  refine g_iadd C 384 dL_law_383 rfl ?_
  refine g_sld C hX hbl hbA 385 h1 dL_law_384 rfl ?_
  refine g_aload_n C 386 0 rfl dL_law_385 rfl ?_
  refine g_iload_n C 387 3 rfl dL_law_386 rfl ?_
  refine g_iconst C 388 (2 : Int32) ci_2 dL_law_387 rfl ?_
  refine g_iadd C 389 dL_law_388 rfl ?_
  refine g_sld C hX hbl hbA 390 h2 dL_law_389 rfl ?_
  refine cl_L_45 C 393 ⟨Nat.le_of_ble_eq_true rfl, Nat.le_of_ble_eq_true rfl⟩ hcm (Nat.le_of_ble_eq_true rfl) dL_law_390 rfl (K := fun r1 T1 => some (r1, T1)) (z := (r, S1)) (by rw [e1]; rfl) (fun r1 T1 hz => ?_)
  cases hz
  refine g_aload_n C 394 2 rfl dL_law_393 rfl ?_
  refine g_aload_n C 395 0 rfl dL_law_394 rfl ?_
  refine g_iload_n C 396 3 rfl dL_law_395 rfl ?_
  refine g_iconst C 397 (1 : Int32) ci_1 dL_law_396 rfl ?_
  refine g_iadd C 398 dL_law_397 rfl ?_
  refine g_sld C hX hbl hbA 399 h1 dL_law_398 rfl ?_
  refine g_aload_n C 400 0 rfl dL_law_399 rfl ?_
  refine g_iload_n C 401 3 rfl dL_law_400 rfl ?_
  refine g_iconst C 402 (2 : Int32) ci_2 dL_law_401 rfl ?_
  refine g_iadd C 403 dL_law_402 rfl ?_
  refine g_sld C hX hbl hbA 404 h2 dL_law_403 rfl ?_
  refine cl_L_48 C 407 ⟨Nat.le_of_ble_eq_true rfl, Nat.le_of_ble_eq_true rfl⟩ hcm (Nat.le_of_ble_eq_true rfl) dL_law_404 rfl (K := fun r1 T1 => some (r1, T1)) (z := (r, S2)) (by rw [e2]; rfl) (fun r1 T1 hz => ?_)
  cases hz
  refine g_eqk C 664 410 dL_law_407 rfl rfl ?_
  exact kk _ hI2
theorem wl_L_49 : Cond.methodLink RL 49 yX9_means ∈ wsAll := wA 531 (by decide +kernel) (by decide +kernel)
theorem wi_X9_means : Cond.instanceMethod yX9_means ∈ wsAll := wA 532 (by decide +kernel) (by decide +kernel)
theorem we_X9_means : Cond.selects RX9 yX9_means yX9_means ∈ wsAll := wA 533 (by decide +kernel) (by decide +kernel)
theorem wo_X9_means : Cond.code yX9_means cX9_means 6 (some .int) ∈ wsAll := wA 534 (by decide +kernel) (by decide +kernel)
theorem cl_L_49 {p : Program} {l : Launch} {e : Env} {R : Room} {s : State} {m : MethodId} {args : Array Value} {below : List Frame} {meth : Method} {c : Code} {cc : ByteArray} {nL : Nat} {D : va_G} {cy : Nat → ClassId} {ad : Nat → Nat} {n : Nat} {A : Nat → Prop} {mc ms : Nat} {Q : State → Prop} {S : Sg} {pc : Nat} {lv : List (Nat × Value)} {st : List Value} {ζ : Type} {z : ζ} (C : gC p s m args meth c cc nL RL D cy ad n A) (nx : Nat) {x1 : Int32} {x2 : Int32} (hR : Room.frames rm_X9_means + 1 ≤ R.frames ∧ 8 + (6 + 11) + Room.locals rm_X9_means ≤ R.locals) (hcm : mc ≤ R.cells ∧ ms ≤ R.slots) (hrest : (st.map fun v => v.category).sum ≤ 8) (hd : decode cc pc = .ok (.invokevirtual 49, 3)) (hn : pc + 3 = nx) {K : Int32 → Sg → Option ζ} (hz : bd2 (f_X9_means n x1 x2 S) K = some z) (kk : ∀ r S', K r S' = some z → gW p l e R s m args below meth c D cy ad n A nL mc ms Q S' nx lv (.int r :: st)) : gW p l e R s m args below meth c D cy ad n A nL mc ms Q S pc lv (.int x2 :: .int x1 :: .ref (ad 0) :: st) := by
  obtain ⟨q, hq, hk⟩ := bd2_s hz
  exact g_callV C (i := 0) (ci := 9) (Cn := RX9) (T := TX9) (N := 11) (y := yX9_means) (rm := rm_X9_means) (As := [.int x1, .int x2]) (rest := st) (na := 2) (fun sz => c_X9_means l D cy ad n S sz x1 x2 q hq) ha_0 rfl rfl wl_L_49 wi_X9_means we_X9_means wz_9 wo_X9_means (by decide +kernel) rfl rfl hR hcm rfl hrest hn hd (kk q.1 q.2 hk)
theorem wl_L_52 : Cond.methodLink RL 52 yX10_means ∈ wsAll := wA 957 (by decide +kernel) (by decide +kernel)
theorem wi_X10_means : Cond.instanceMethod yX10_means ∈ wsAll := wA 958 (by decide +kernel) (by decide +kernel)
theorem we_X10_means : Cond.selects RX10 yX10_means yX10_means ∈ wsAll := wA 959 (by decide +kernel) (by decide +kernel)
theorem wo_X10_means : Cond.code yX10_means cX10_means 6 (some .int) ∈ wsAll := wA 960 (by decide +kernel) (by decide +kernel)
theorem cl_L_52 {p : Program} {l : Launch} {e : Env} {R : Room} {s : State} {m : MethodId} {args : Array Value} {below : List Frame} {meth : Method} {c : Code} {cc : ByteArray} {nL : Nat} {D : va_G} {cy : Nat → ClassId} {ad : Nat → Nat} {n : Nat} {A : Nat → Prop} {mc ms : Nat} {Q : State → Prop} {S : Sg} {pc : Nat} {lv : List (Nat × Value)} {st : List Value} {ζ : Type} {z : ζ} (C : gC p s m args meth c cc nL RL D cy ad n A) (nx : Nat) {x1 : Int32} {x2 : Int32} (hR : Room.frames rm_X10_means + 1 ≤ R.frames ∧ 8 + (6 + 11) + Room.locals rm_X10_means ≤ R.locals) (hcm : mc ≤ R.cells ∧ ms ≤ R.slots) (hrest : (st.map fun v => v.category).sum ≤ 8) (hd : decode cc pc = .ok (.invokevirtual 52, 3)) (hn : pc + 3 = nx) {K : Int32 → Sg → Option ζ} (hz : bd2 (f_X10_means x1 x2 S) K = some z) (kk : ∀ r S', K r S' = some z → gW p l e R s m args below meth c D cy ad n A nL mc ms Q S' nx lv (.int r :: st)) : gW p l e R s m args below meth c D cy ad n A nL mc ms Q S pc lv (.int x2 :: .int x1 :: .ref (ad 34) :: st) := by
  obtain ⟨q, hq, hk⟩ := bd2_s hz
  exact g_callV C (i := 34) (ci := 10) (Cn := RX10) (T := TX10) (N := 59) (y := yX10_means) (rm := rm_X10_means) (As := [.int x1, .int x2]) (rest := st) (na := 2) (fun sz => c_X10_means l D cy ad n S sz x1 x2 q hq) ha_34 rfl rfl wl_L_52 wi_X10_means we_X10_means wz_10 wo_X10_means (by decide +kernel) rfl rfl hR hcm rfl hrest hn hd (kk q.1 q.2 hk)
set_option maxRecDepth 20000 in
theorem lw_c8 {p : Program} {l : Launch} {e : Env} {s : State} {m : MethodId} {below : List Frame} {meth : Method} {c : Code} {D : va_G} {cy : Nat → ClassId} {ad : Nat → Nat} {n : Nat} {mc ms : Nat} {S : Sg} {b L : Nat} {xs : Nat → Int32} {x3 : Int32} {Inv : Nat → Sg → Prop} (C : gC p s m #[Value.ref b] meth c code 4 RL D cy ad n (fun q : Nat => s.heap.size ≤ q)) (hX : va_X b L xs s s.heap) (hbl : b < s.heap.size) (hbA : ¬ (fun q : Nat => s.heap.size ≤ q) b) (h1 : vp_in (x3 + (1 : Int32)) L) (h2 : vp_in (x3 + (2 : Int32)) L) (h3 : vp_in (x3 + (3 : Int32)) L) (h4 : vp_in (x3 + (4 : Int32)) L) (h5 : vp_in (x3 + (5 : Int32)) L) (hcm : mc ≤ room_1.cells ∧ ms ≤ room_1.slots) (hI : Inv n S) (ok : OK_means Inv) (kk : ∀ S' : Sg, Inv n S' → gW p l e room_1 s m #[Value.ref b] below meth c D cy ad n (fun q : Nat => s.heap.size ≤ q) 4 mc ms (lw_Z below #[Value.ref b] s) S' 664 [(0, .ref b), (1, .ref (ad 0)), (2, .ref (ad 34)), (3, .int x3)] []) : gW p l e room_1 s m #[Value.ref b] below meth c D cy ad n (fun q : Nat => s.heap.size ≤ q) 4 mc ms (lw_Z below #[Value.ref b] s) S 412 [(0, .ref b), (1, .ref (ad 0)), (2, .ref (ad 34)), (3, .int x3)] [] := by
  obtain ⟨r, S1, S2, e1, e2, hI2⟩ := ok n S ((xs (Int32.toNatClampNeg (x3 + (1 : Int32))))) ((xs (Int32.toNatClampNeg (x3 + (2 : Int32))))) hI
  refine g_aload_n C 413 1 rfl dL_law_412 rfl ?_
  refine g_aload_n C 414 0 rfl dL_law_413 rfl ?_
  refine g_iload_n C 415 3 rfl dL_law_414 rfl ?_
  refine g_iconst C 416 (1 : Int32) ci_1 dL_law_415 rfl ?_
  refine g_iadd C 417 dL_law_416 rfl ?_
  refine g_sld C hX hbl hbA 418 h1 dL_law_417 rfl ?_
  refine g_aload_n C 419 0 rfl dL_law_418 rfl ?_
  refine g_iload_n C 420 3 rfl dL_law_419 rfl ?_
  refine g_iconst C 421 (2 : Int32) ci_2 dL_law_420 rfl ?_
  refine g_iadd C 422 dL_law_421 rfl ?_
  refine g_sld C hX hbl hbA 423 h2 dL_law_422 rfl ?_
  refine cl_L_49 C 426 ⟨Nat.le_of_ble_eq_true rfl, Nat.le_of_ble_eq_true rfl⟩ hcm (Nat.le_of_ble_eq_true rfl) dL_law_423 rfl (K := fun r1 T1 => some (r1, T1)) (z := (r, S1)) (by rw [e1]; rfl) (fun r1 T1 hz => ?_)
  cases hz
  refine g_aload_n C 427 2 rfl dL_law_426 rfl ?_
  refine g_aload_n C 428 0 rfl dL_law_427 rfl ?_
  refine g_iload_n C 429 3 rfl dL_law_428 rfl ?_
  refine g_iconst C 430 (1 : Int32) ci_1 dL_law_429 rfl ?_
  refine g_iadd C 431 dL_law_430 rfl ?_
  refine g_sld C hX hbl hbA 432 h1 dL_law_431 rfl ?_
  refine g_aload_n C 433 0 rfl dL_law_432 rfl ?_
  refine g_iload_n C 434 3 rfl dL_law_433 rfl ?_
  refine g_iconst C 435 (2 : Int32) ci_2 dL_law_434 rfl ?_
  refine g_iadd C 436 dL_law_435 rfl ?_
  refine g_sld C hX hbl hbA 437 h2 dL_law_436 rfl ?_
  refine cl_L_52 C 440 ⟨Nat.le_of_ble_eq_true rfl, Nat.le_of_ble_eq_true rfl⟩ hcm (Nat.le_of_ble_eq_true rfl) dL_law_437 rfl (K := fun r1 T1 => some (r1, T1)) (z := (r, S2)) (by rw [e2]; rfl) (fun r1 T1 hz => ?_)
  cases hz
  refine g_eqk C 664 443 dL_law_440 rfl rfl ?_
  exact kk _ hI2
theorem wl_L_53 : Cond.methodLink RL 53 yX9_words ∈ wsAll := wA 536 (by decide +kernel) (by decide +kernel)
theorem wi_X9_words : Cond.instanceMethod yX9_words ∈ wsAll := wA 537 (by decide +kernel) (by decide +kernel)
theorem we_X9_words : Cond.selects RX9 yX9_words yX9_words ∈ wsAll := wA 538 (by decide +kernel) (by decide +kernel)
theorem wo_X9_words : Cond.code yX9_words cX9_words 4 (some .long) ∈ wsAll := wA 539 (by decide +kernel) (by decide +kernel)
theorem cl_L_53 {p : Program} {l : Launch} {e : Env} {R : Room} {s : State} {m : MethodId} {args : Array Value} {below : List Frame} {meth : Method} {c : Code} {cc : ByteArray} {nL : Nat} {D : va_G} {cy : Nat → ClassId} {ad : Nat → Nat} {n : Nat} {A : Nat → Prop} {mc ms : Nat} {Q : State → Prop} {S : Sg} {pc : Nat} {lv : List (Nat × Value)} {st : List Value} {ζ : Type} {z : ζ} (C : gC p s m args meth c cc nL RL D cy ad n A) (nx : Nat) {x1 : Int32} {x2 : Int32} (hR : Room.frames rm_X9_words + 1 ≤ R.frames ∧ 8 + (4 + 11) + Room.locals rm_X9_words ≤ R.locals) (hcm : mc ≤ R.cells ∧ ms ≤ R.slots) (hrest : (st.map fun v => v.category).sum ≤ 8) (hd : decode cc pc = .ok (.invokevirtual 53, 3)) (hn : pc + 3 = nx) {K : Int64 → Sg → Option ζ} (hz : bd2 (f_X9_words n x1 x2 S) K = some z) (kk : ∀ r S', K r S' = some z → gW p l e R s m args below meth c D cy ad n A nL mc ms Q S' nx lv (.long r :: st)) : gW p l e R s m args below meth c D cy ad n A nL mc ms Q S pc lv (.int x2 :: .int x1 :: .ref (ad 0) :: st) := by
  obtain ⟨q, hq, hk⟩ := bd2_s hz
  exact g_callV C (i := 0) (ci := 9) (Cn := RX9) (T := TX9) (N := 11) (y := yX9_words) (rm := rm_X9_words) (As := [.int x1, .int x2]) (rest := st) (na := 2) (fun sz => c_X9_words l D cy ad n S sz x1 x2 q hq) ha_0 rfl rfl wl_L_53 wi_X9_words we_X9_words wz_9 wo_X9_words (by decide +kernel) rfl rfl hR hcm rfl hrest hn hd (kk q.1 q.2 hk)
theorem wl_L_57 : Cond.methodLink RL 57 yX10_words ∈ wsAll := wA 961 (by decide +kernel) (by decide +kernel)
theorem wi_X10_words : Cond.instanceMethod yX10_words ∈ wsAll := wA 962 (by decide +kernel) (by decide +kernel)
theorem we_X10_words : Cond.selects RX10 yX10_words yX10_words ∈ wsAll := wA 963 (by decide +kernel) (by decide +kernel)
theorem wo_X10_words : Cond.code yX10_words cX10_words 3 (some .long) ∈ wsAll := wA 964 (by decide +kernel) (by decide +kernel)
theorem cl_L_57 {p : Program} {l : Launch} {e : Env} {R : Room} {s : State} {m : MethodId} {args : Array Value} {below : List Frame} {meth : Method} {c : Code} {cc : ByteArray} {nL : Nat} {D : va_G} {cy : Nat → ClassId} {ad : Nat → Nat} {n : Nat} {A : Nat → Prop} {mc ms : Nat} {Q : State → Prop} {S : Sg} {pc : Nat} {lv : List (Nat × Value)} {st : List Value} {ζ : Type} {z : ζ} (C : gC p s m args meth c cc nL RL D cy ad n A) (nx : Nat) {x1 : Int32} {x2 : Int32} (hR : Room.frames rm_X10_words + 1 ≤ R.frames ∧ 8 + (3 + 11) + Room.locals rm_X10_words ≤ R.locals) (hcm : mc ≤ R.cells ∧ ms ≤ R.slots) (hrest : (st.map fun v => v.category).sum ≤ 8) (hd : decode cc pc = .ok (.invokevirtual 57, 3)) (hn : pc + 3 = nx) {K : Int64 → Sg → Option ζ} (hz : bd2 (f_X10_words x1 x2 S) K = some z) (kk : ∀ r S', K r S' = some z → gW p l e R s m args below meth c D cy ad n A nL mc ms Q S' nx lv (.long r :: st)) : gW p l e R s m args below meth c D cy ad n A nL mc ms Q S pc lv (.int x2 :: .int x1 :: .ref (ad 34) :: st) := by
  obtain ⟨q, hq, hk⟩ := bd2_s hz
  exact g_callV C (i := 34) (ci := 10) (Cn := RX10) (T := TX10) (N := 59) (y := yX10_words) (rm := rm_X10_words) (As := [.int x1, .int x2]) (rest := st) (na := 2) (fun sz => c_X10_words l D cy ad n S sz x1 x2 q hq) ha_34 rfl rfl wl_L_57 wi_X10_words we_X10_words wz_10 wo_X10_words (by decide +kernel) rfl rfl hR hcm rfl hrest hn hd (kk q.1 q.2 hk)
set_option maxRecDepth 20000 in
theorem lw_c9 {p : Program} {l : Launch} {e : Env} {s : State} {m : MethodId} {below : List Frame} {meth : Method} {c : Code} {D : va_G} {cy : Nat → ClassId} {ad : Nat → Nat} {n : Nat} {mc ms : Nat} {S : Sg} {b L : Nat} {xs : Nat → Int32} {x3 : Int32} {Inv : Nat → Sg → Prop} (C : gC p s m #[Value.ref b] meth c code 4 RL D cy ad n (fun q : Nat => s.heap.size ≤ q)) (hX : va_X b L xs s s.heap) (hbl : b < s.heap.size) (hbA : ¬ (fun q : Nat => s.heap.size ≤ q) b) (h1 : vp_in (x3 + (1 : Int32)) L) (h2 : vp_in (x3 + (2 : Int32)) L) (h3 : vp_in (x3 + (3 : Int32)) L) (h4 : vp_in (x3 + (4 : Int32)) L) (h5 : vp_in (x3 + (5 : Int32)) L) (hcm : mc ≤ room_1.cells ∧ ms ≤ room_1.slots) (hI : Inv n S) (ok : OK_words Inv) (kk : ∀ S' : Sg, Inv n S' → gW p l e room_1 s m #[Value.ref b] below meth c D cy ad n (fun q : Nat => s.heap.size ≤ q) 4 mc ms (lw_Z below #[Value.ref b] s) S' 664 [(0, .ref b), (1, .ref (ad 0)), (2, .ref (ad 34)), (3, .int x3)] []) : gW p l e room_1 s m #[Value.ref b] below meth c D cy ad n (fun q : Nat => s.heap.size ≤ q) 4 mc ms (lw_Z below #[Value.ref b] s) S 445 [(0, .ref b), (1, .ref (ad 0)), (2, .ref (ad 34)), (3, .int x3)] [] := by
  obtain ⟨r, S1, S2, e1, e2, hI2⟩ := ok n S ((xs (Int32.toNatClampNeg (x3 + (1 : Int32))))) ((xs (Int32.toNatClampNeg (x3 + (2 : Int32))))) hI
  refine g_aload_n C 446 1 rfl dL_law_445 rfl ?_
  refine g_aload_n C 447 0 rfl dL_law_446 rfl ?_
  refine g_iload_n C 448 3 rfl dL_law_447 rfl ?_
  refine g_iconst C 449 (1 : Int32) ci_1 dL_law_448 rfl ?_
  refine g_iadd C 450 dL_law_449 rfl ?_
  refine g_sld C hX hbl hbA 451 h1 dL_law_450 rfl ?_
  refine g_aload_n C 452 0 rfl dL_law_451 rfl ?_
  refine g_iload_n C 453 3 rfl dL_law_452 rfl ?_
  refine g_iconst C 454 (2 : Int32) ci_2 dL_law_453 rfl ?_
  refine g_iadd C 455 dL_law_454 rfl ?_
  refine g_sld C hX hbl hbA 456 h2 dL_law_455 rfl ?_
  refine cl_L_53 C 459 ⟨Nat.le_of_ble_eq_true rfl, Nat.le_of_ble_eq_true rfl⟩ hcm (Nat.le_of_ble_eq_true rfl) dL_law_456 rfl (K := fun r1 T1 => some (r1, T1)) (z := (r, S1)) (by rw [e1]; rfl) (fun r1 T1 hz => ?_)
  cases hz
  refine g_aload_n C 460 2 rfl dL_law_459 rfl ?_
  refine g_aload_n C 461 0 rfl dL_law_460 rfl ?_
  refine g_iload_n C 462 3 rfl dL_law_461 rfl ?_
  refine g_iconst C 463 (1 : Int32) ci_1 dL_law_462 rfl ?_
  refine g_iadd C 464 dL_law_463 rfl ?_
  refine g_sld C hX hbl hbA 465 h1 dL_law_464 rfl ?_
  refine g_aload_n C 466 0 rfl dL_law_465 rfl ?_
  refine g_iload_n C 467 3 rfl dL_law_466 rfl ?_
  refine g_iconst C 468 (2 : Int32) ci_2 dL_law_467 rfl ?_
  refine g_iadd C 469 dL_law_468 rfl ?_
  refine g_sld C hX hbl hbA 470 h2 dL_law_469 rfl ?_
  refine cl_L_57 C 473 ⟨Nat.le_of_ble_eq_true rfl, Nat.le_of_ble_eq_true rfl⟩ hcm (Nat.le_of_ble_eq_true rfl) dL_law_470 rfl (K := fun r1 T1 => some (r1, T1)) (z := (r, S2)) (by rw [e2]; rfl) (fun r1 T1 hz => ?_)
  cases hz
  refine g_eqL C 664 474 477 dL_law_473 rfl dL_law_474 rfl rfl ?_
  exact kk _ hI2
theorem wl_L_60 : Cond.methodLink RL 60 yX9_word ∈ wsAll := wA 550 (by decide +kernel) (by decide +kernel)
theorem wi_X9_word : Cond.instanceMethod yX9_word ∈ wsAll := wA 551 (by decide +kernel) (by decide +kernel)
theorem we_X9_word : Cond.selects RX9 yX9_word yX9_word ∈ wsAll := wA 552 (by decide +kernel) (by decide +kernel)
theorem wo_X9_word : Cond.code yX9_word cX9_word 6 (some .boolean) ∈ wsAll := wA 553 (by decide +kernel) (by decide +kernel)
theorem cl_L_60 {p : Program} {l : Launch} {e : Env} {R : Room} {s : State} {m : MethodId} {args : Array Value} {below : List Frame} {meth : Method} {c : Code} {cc : ByteArray} {nL : Nat} {D : va_G} {cy : Nat → ClassId} {ad : Nat → Nat} {n : Nat} {A : Nat → Prop} {mc ms : Nat} {Q : State → Prop} {S : Sg} {pc : Nat} {lv : List (Nat × Value)} {st : List Value} {ζ : Type} {z : ζ} (C : gC p s m args meth c cc nL RL D cy ad n A) (nx : Nat) {x1 : Int32} {x2 : Int32} {x3 : Int64} (hR : Room.frames rm_X9_word + 1 ≤ R.frames ∧ 8 + (6 + 11) + Room.locals rm_X9_word ≤ R.locals) (hcm : mc ≤ R.cells ∧ ms ≤ R.slots) (hrest : (st.map fun v => v.category).sum ≤ 8) (hd : decode cc pc = .ok (.invokevirtual 60, 3)) (hn : pc + 3 = nx) {K : Int32 → Sg → Option ζ} (hz : bd2 (f_X9_word n x1 x2 x3 S) K = some z) (kk : ∀ r S', K r S' = some z → gW p l e R s m args below meth c D cy ad n A nL mc ms Q S' nx lv (.int r :: st)) : gW p l e R s m args below meth c D cy ad n A nL mc ms Q S pc lv (.long x3 :: .int x2 :: .int x1 :: .ref (ad 0) :: st) := by
  obtain ⟨q, hq, hk⟩ := bd2_s hz
  exact g_callV C (i := 0) (ci := 9) (Cn := RX9) (T := TX9) (N := 11) (y := yX9_word) (rm := rm_X9_word) (As := [.int x1, .int x2, .long x3]) (rest := st) (na := 3) (fun sz => c_X9_word l D cy ad n S sz x1 x2 x3 q hq) ha_0 rfl rfl wl_L_60 wi_X9_word we_X9_word wz_9 wo_X9_word (by decide +kernel) rfl rfl hR hcm rfl hrest hn hd (kk q.1 q.2 hk)
theorem wl_L_64 : Cond.methodLink RL 64 yX10_word ∈ wsAll := wA 970 (by decide +kernel) (by decide +kernel)
theorem wi_X10_word : Cond.instanceMethod yX10_word ∈ wsAll := wA 971 (by decide +kernel) (by decide +kernel)
theorem we_X10_word : Cond.selects RX10 yX10_word yX10_word ∈ wsAll := wA 972 (by decide +kernel) (by decide +kernel)
theorem wo_X10_word : Cond.code yX10_word cX10_word 10 (some .boolean) ∈ wsAll := wA 973 (by decide +kernel) (by decide +kernel)
theorem cl_L_64 {p : Program} {l : Launch} {e : Env} {R : Room} {s : State} {m : MethodId} {args : Array Value} {below : List Frame} {meth : Method} {c : Code} {cc : ByteArray} {nL : Nat} {D : va_G} {cy : Nat → ClassId} {ad : Nat → Nat} {n : Nat} {A : Nat → Prop} {mc ms : Nat} {Q : State → Prop} {S : Sg} {pc : Nat} {lv : List (Nat × Value)} {st : List Value} {ζ : Type} {z : ζ} (C : gC p s m args meth c cc nL RL D cy ad n A) (nx : Nat) {x1 : Int32} {x2 : Int32} {x3 : Int64} (hR : Room.frames rm_X10_word + 1 ≤ R.frames ∧ 8 + (10 + 11) + Room.locals rm_X10_word ≤ R.locals) (hcm : mc ≤ R.cells ∧ ms ≤ R.slots) (hrest : (st.map fun v => v.category).sum ≤ 8) (hd : decode cc pc = .ok (.invokevirtual 64, 3)) (hn : pc + 3 = nx) {K : Int32 → Sg → Option ζ} (hz : bd2 (f_X10_word x1 x2 x3 S) K = some z) (kk : ∀ r S', K r S' = some z → gW p l e R s m args below meth c D cy ad n A nL mc ms Q S' nx lv (.int r :: st)) : gW p l e R s m args below meth c D cy ad n A nL mc ms Q S pc lv (.long x3 :: .int x2 :: .int x1 :: .ref (ad 34) :: st) := by
  obtain ⟨q, hq, hk⟩ := bd2_s hz
  exact g_callV C (i := 34) (ci := 10) (Cn := RX10) (T := TX10) (N := 59) (y := yX10_word) (rm := rm_X10_word) (As := [.int x1, .int x2, .long x3]) (rest := st) (na := 3) (fun sz => c_X10_word l D cy ad n S sz x1 x2 x3 q hq) ha_34 rfl rfl wl_L_64 wi_X10_word we_X10_word wz_10 wo_X10_word (by decide +kernel) rfl rfl hR hcm rfl hrest hn hd (kk q.1 q.2 hk)
set_option maxRecDepth 20000 in
theorem lw_c10 {p : Program} {l : Launch} {e : Env} {s : State} {m : MethodId} {below : List Frame} {meth : Method} {c : Code} {D : va_G} {cy : Nat → ClassId} {ad : Nat → Nat} {n : Nat} {mc ms : Nat} {S : Sg} {b L : Nat} {xs : Nat → Int32} {x3 : Int32} {Inv : Nat → Sg → Prop} (C : gC p s m #[Value.ref b] meth c code 4 RL D cy ad n (fun q : Nat => s.heap.size ≤ q)) (hX : va_X b L xs s s.heap) (hbl : b < s.heap.size) (hbA : ¬ (fun q : Nat => s.heap.size ≤ q) b) (h1 : vp_in (x3 + (1 : Int32)) L) (h2 : vp_in (x3 + (2 : Int32)) L) (h3 : vp_in (x3 + (3 : Int32)) L) (h4 : vp_in (x3 + (4 : Int32)) L) (h5 : vp_in (x3 + (5 : Int32)) L) (hcm : mc ≤ room_1.cells ∧ ms ≤ room_1.slots) (hI : Inv n S) (ok : OK_word Inv) (kk : ∀ S' : Sg, Inv n S' → gW p l e room_1 s m #[Value.ref b] below meth c D cy ad n (fun q : Nat => s.heap.size ≤ q) 4 mc ms (lw_Z below #[Value.ref b] s) S' 664 [(0, .ref b), (1, .ref (ad 0)), (2, .ref (ad 34)), (3, .int x3)] []) : gW p l e room_1 s m #[Value.ref b] below meth c D cy ad n (fun q : Nat => s.heap.size ≤ q) 4 mc ms (lw_Z below #[Value.ref b] s) S 479 [(0, .ref b), (1, .ref (ad 0)), (2, .ref (ad 34)), (3, .int x3)] [] := by
  obtain ⟨r, S1, S2, e1, e2, hI2⟩ := ok n S ((xs (Int32.toNatClampNeg (x3 + (1 : Int32))))) ((xs (Int32.toNatClampNeg (x3 + (2 : Int32))))) ((((Int32.toInt64 (xs (Int32.toNatClampNeg (x3 + (3 : Int32))))) <<< (Int32.toInt64 (32 : Int32) &&& 63)) ||| ((Int32.toInt64 (xs (Int32.toNatClampNeg (x3 + (4 : Int32))))) &&& (4294967295 : Int64)))) hI
  refine g_aload_n C 480 1 rfl dL_law_479 rfl ?_
  refine g_aload_n C 481 0 rfl dL_law_480 rfl ?_
  refine g_iload_n C 482 3 rfl dL_law_481 rfl ?_
  refine g_iconst C 483 (1 : Int32) ci_1 dL_law_482 rfl ?_
  refine g_iadd C 484 dL_law_483 rfl ?_
  refine g_sld C hX hbl hbA 485 h1 dL_law_484 rfl ?_
  refine g_aload_n C 486 0 rfl dL_law_485 rfl ?_
  refine g_iload_n C 487 3 rfl dL_law_486 rfl ?_
  refine g_iconst C 488 (2 : Int32) ci_2 dL_law_487 rfl ?_
  refine g_iadd C 489 dL_law_488 rfl ?_
  refine g_sld C hX hbl hbA 490 h2 dL_law_489 rfl ?_
  refine g_aload_n C 491 0 rfl dL_law_490 rfl ?_
  refine g_iload_n C 492 3 rfl dL_law_491 rfl ?_
  refine g_iconst C 493 (3 : Int32) ci_3 dL_law_492 rfl ?_
  refine g_iadd C 494 dL_law_493 rfl ?_
  refine g_sld C hX hbl hbA 495 h3 dL_law_494 rfl ?_
  refine g_i2l C 496 dL_law_495 rfl ?_
  refine g_bipush C 498 (32 : Int32) cb_32 dL_law_496 rfl ?_
  refine g_lshl C 499 dL_law_498 rfl ?_
  refine g_aload_n C 500 0 rfl dL_law_499 rfl ?_
  refine g_iload_n C 501 3 rfl dL_law_500 rfl ?_
  refine g_iconst C 502 (4 : Int32) ci_4 dL_law_501 rfl ?_
  refine g_iadd C 503 dL_law_502 rfl ?_
  refine g_sld C hX hbl hbA 504 h4 dL_law_503 rfl ?_
  refine g_i2l C 505 dL_law_504 rfl ?_
  refine g_ldc2 C 508 wc_L_58 dL_law_505 rfl ?_
  refine g_land C 509 dL_law_508 rfl ?_
  refine g_lor C 510 dL_law_509 rfl ?_
  refine cl_L_60 C 513 ⟨Nat.le_of_ble_eq_true rfl, Nat.le_of_ble_eq_true rfl⟩ hcm (Nat.le_of_ble_eq_true rfl) dL_law_510 rfl (K := fun r1 T1 => some (r1, T1)) (z := (r, S1)) (by rw [e1]; rfl) (fun r1 T1 hz => ?_)
  cases hz
  refine g_aload_n C 514 2 rfl dL_law_513 rfl ?_
  refine g_aload_n C 515 0 rfl dL_law_514 rfl ?_
  refine g_iload_n C 516 3 rfl dL_law_515 rfl ?_
  refine g_iconst C 517 (1 : Int32) ci_1 dL_law_516 rfl ?_
  refine g_iadd C 518 dL_law_517 rfl ?_
  refine g_sld C hX hbl hbA 519 h1 dL_law_518 rfl ?_
  refine g_aload_n C 520 0 rfl dL_law_519 rfl ?_
  refine g_iload_n C 521 3 rfl dL_law_520 rfl ?_
  refine g_iconst C 522 (2 : Int32) ci_2 dL_law_521 rfl ?_
  refine g_iadd C 523 dL_law_522 rfl ?_
  refine g_sld C hX hbl hbA 524 h2 dL_law_523 rfl ?_
  refine g_aload_n C 525 0 rfl dL_law_524 rfl ?_
  refine g_iload_n C 526 3 rfl dL_law_525 rfl ?_
  refine g_iconst C 527 (3 : Int32) ci_3 dL_law_526 rfl ?_
  refine g_iadd C 528 dL_law_527 rfl ?_
  refine g_sld C hX hbl hbA 529 h3 dL_law_528 rfl ?_
  refine g_i2l C 530 dL_law_529 rfl ?_
  refine g_bipush C 532 (32 : Int32) cb_32 dL_law_530 rfl ?_
  refine g_lshl C 533 dL_law_532 rfl ?_
  refine g_aload_n C 534 0 rfl dL_law_533 rfl ?_
  refine g_iload_n C 535 3 rfl dL_law_534 rfl ?_
  refine g_iconst C 536 (4 : Int32) ci_4 dL_law_535 rfl ?_
  refine g_iadd C 537 dL_law_536 rfl ?_
  refine g_sld C hX hbl hbA 538 h4 dL_law_537 rfl ?_
  refine g_i2l C 539 dL_law_538 rfl ?_
  refine g_ldc2 C 542 wc_L_58 dL_law_539 rfl ?_
  refine g_land C 543 dL_law_542 rfl ?_
  refine g_lor C 544 dL_law_543 rfl ?_
  refine cl_L_64 C 547 ⟨Nat.le_of_ble_eq_true rfl, Nat.le_of_ble_eq_true rfl⟩ hcm (Nat.le_of_ble_eq_true rfl) dL_law_544 rfl (K := fun r1 T1 => some (r1, T1)) (z := (r, S2)) (by rw [e2]; rfl) (fun r1 T1 hz => ?_)
  cases hz
  refine g_eqk C 664 550 dL_law_547 rfl rfl ?_
  exact kk _ hI2
theorem wl_L_65 : Cond.methodLink RL 65 yX9_shortest ∈ wsAll := wA 558 (by decide +kernel) (by decide +kernel)
theorem wi_X9_shortest : Cond.instanceMethod yX9_shortest ∈ wsAll := wA 559 (by decide +kernel) (by decide +kernel)
theorem we_X9_shortest : Cond.selects RX9 yX9_shortest yX9_shortest ∈ wsAll := wA 560 (by decide +kernel) (by decide +kernel)
theorem wo_X9_shortest : Cond.code yX9_shortest cX9_shortest 4 (some .int) ∈ wsAll := wA 561 (by decide +kernel) (by decide +kernel)
theorem cl_L_65 {p : Program} {l : Launch} {e : Env} {R : Room} {s : State} {m : MethodId} {args : Array Value} {below : List Frame} {meth : Method} {c : Code} {cc : ByteArray} {nL : Nat} {D : va_G} {cy : Nat → ClassId} {ad : Nat → Nat} {n : Nat} {A : Nat → Prop} {mc ms : Nat} {Q : State → Prop} {S : Sg} {pc : Nat} {lv : List (Nat × Value)} {st : List Value} {ζ : Type} {z : ζ} (C : gC p s m args meth c cc nL RL D cy ad n A) (nx : Nat) {x1 : Int32} (hR : Room.frames rm_X9_shortest + 1 ≤ R.frames ∧ 8 + (4 + 11) + Room.locals rm_X9_shortest ≤ R.locals) (hcm : mc ≤ R.cells ∧ ms ≤ R.slots) (hrest : (st.map fun v => v.category).sum ≤ 8) (hd : decode cc pc = .ok (.invokevirtual 65, 3)) (hn : pc + 3 = nx) {K : Int32 → Sg → Option ζ} (hz : bd2 (f_X9_shortest n x1 S) K = some z) (kk : ∀ r S', K r S' = some z → gW p l e R s m args below meth c D cy ad n A nL mc ms Q S' nx lv (.int r :: st)) : gW p l e R s m args below meth c D cy ad n A nL mc ms Q S pc lv (.int x1 :: .ref (ad 0) :: st) := by
  obtain ⟨q, hq, hk⟩ := bd2_s hz
  exact g_callV C (i := 0) (ci := 9) (Cn := RX9) (T := TX9) (N := 11) (y := yX9_shortest) (rm := rm_X9_shortest) (As := [.int x1]) (rest := st) (na := 1) (fun sz => c_X9_shortest l D cy ad n S sz x1 q hq) ha_0 rfl rfl wl_L_65 wi_X9_shortest we_X9_shortest wz_9 wo_X9_shortest (by decide +kernel) rfl rfl hR hcm rfl hrest hn hd (kk q.1 q.2 hk)
theorem wl_L_68 : Cond.methodLink RL 68 yX10_shortest ∈ wsAll := wA 974 (by decide +kernel) (by decide +kernel)
theorem wi_X10_shortest : Cond.instanceMethod yX10_shortest ∈ wsAll := wA 975 (by decide +kernel) (by decide +kernel)
theorem we_X10_shortest : Cond.selects RX10 yX10_shortest yX10_shortest ∈ wsAll := wA 976 (by decide +kernel) (by decide +kernel)
theorem wo_X10_shortest : Cond.code yX10_shortest cX10_shortest 5 (some .int) ∈ wsAll := wA 977 (by decide +kernel) (by decide +kernel)
theorem cl_L_68 {p : Program} {l : Launch} {e : Env} {R : Room} {s : State} {m : MethodId} {args : Array Value} {below : List Frame} {meth : Method} {c : Code} {cc : ByteArray} {nL : Nat} {D : va_G} {cy : Nat → ClassId} {ad : Nat → Nat} {n : Nat} {A : Nat → Prop} {mc ms : Nat} {Q : State → Prop} {S : Sg} {pc : Nat} {lv : List (Nat × Value)} {st : List Value} {ζ : Type} {z : ζ} (C : gC p s m args meth c cc nL RL D cy ad n A) (nx : Nat) {x1 : Int32} (hR : Room.frames rm_X10_shortest + 1 ≤ R.frames ∧ 8 + (5 + 11) + Room.locals rm_X10_shortest ≤ R.locals) (hcm : mc ≤ R.cells ∧ ms ≤ R.slots) (hrest : (st.map fun v => v.category).sum ≤ 8) (hd : decode cc pc = .ok (.invokevirtual 68, 3)) (hn : pc + 3 = nx) {K : Int32 → Sg → Option ζ} (hz : bd2 (f_X10_shortest x1 S) K = some z) (kk : ∀ r S', K r S' = some z → gW p l e R s m args below meth c D cy ad n A nL mc ms Q S' nx lv (.int r :: st)) : gW p l e R s m args below meth c D cy ad n A nL mc ms Q S pc lv (.int x1 :: .ref (ad 34) :: st) := by
  obtain ⟨q, hq, hk⟩ := bd2_s hz
  exact g_callV C (i := 34) (ci := 10) (Cn := RX10) (T := TX10) (N := 59) (y := yX10_shortest) (rm := rm_X10_shortest) (As := [.int x1]) (rest := st) (na := 1) (fun sz => c_X10_shortest l D cy ad n S sz x1 q hq) ha_34 rfl rfl wl_L_68 wi_X10_shortest we_X10_shortest wz_10 wo_X10_shortest (by decide +kernel) rfl rfl hR hcm rfl hrest hn hd (kk q.1 q.2 hk)
set_option maxRecDepth 20000 in
theorem lw_c11 {p : Program} {l : Launch} {e : Env} {s : State} {m : MethodId} {below : List Frame} {meth : Method} {c : Code} {D : va_G} {cy : Nat → ClassId} {ad : Nat → Nat} {n : Nat} {mc ms : Nat} {S : Sg} {b L : Nat} {xs : Nat → Int32} {x3 : Int32} {Inv : Nat → Sg → Prop} (C : gC p s m #[Value.ref b] meth c code 4 RL D cy ad n (fun q : Nat => s.heap.size ≤ q)) (hX : va_X b L xs s s.heap) (hbl : b < s.heap.size) (hbA : ¬ (fun q : Nat => s.heap.size ≤ q) b) (h1 : vp_in (x3 + (1 : Int32)) L) (h2 : vp_in (x3 + (2 : Int32)) L) (h3 : vp_in (x3 + (3 : Int32)) L) (h4 : vp_in (x3 + (4 : Int32)) L) (h5 : vp_in (x3 + (5 : Int32)) L) (hcm : mc ≤ room_1.cells ∧ ms ≤ room_1.slots) (hI : Inv n S) (ok : OK_shortest Inv) (kk : ∀ S' : Sg, Inv n S' → gW p l e room_1 s m #[Value.ref b] below meth c D cy ad n (fun q : Nat => s.heap.size ≤ q) 4 mc ms (lw_Z below #[Value.ref b] s) S' 664 [(0, .ref b), (1, .ref (ad 0)), (2, .ref (ad 34)), (3, .int x3)] []) : gW p l e room_1 s m #[Value.ref b] below meth c D cy ad n (fun q : Nat => s.heap.size ≤ q) 4 mc ms (lw_Z below #[Value.ref b] s) S 552 [(0, .ref b), (1, .ref (ad 0)), (2, .ref (ad 34)), (3, .int x3)] [] := by
  obtain ⟨r, S1, S2, e1, e2, hI2⟩ := ok n S ((xs (Int32.toNatClampNeg (x3 + (1 : Int32))))) hI
  refine g_aload_n C 553 1 rfl dL_law_552 rfl ?_
  refine g_aload_n C 554 0 rfl dL_law_553 rfl ?_
  refine g_iload_n C 555 3 rfl dL_law_554 rfl ?_
  refine g_iconst C 556 (1 : Int32) ci_1 dL_law_555 rfl ?_
  refine g_iadd C 557 dL_law_556 rfl ?_
  refine g_sld C hX hbl hbA 558 h1 dL_law_557 rfl ?_
  refine cl_L_65 C 561 ⟨Nat.le_of_ble_eq_true rfl, Nat.le_of_ble_eq_true rfl⟩ hcm (Nat.le_of_ble_eq_true rfl) dL_law_558 rfl (K := fun r1 T1 => some (r1, T1)) (z := (r, S1)) (by rw [e1]; rfl) (fun r1 T1 hz => ?_)
  cases hz
  refine g_aload_n C 562 2 rfl dL_law_561 rfl ?_
  refine g_aload_n C 563 0 rfl dL_law_562 rfl ?_
  refine g_iload_n C 564 3 rfl dL_law_563 rfl ?_
  refine g_iconst C 565 (1 : Int32) ci_1 dL_law_564 rfl ?_
  refine g_iadd C 566 dL_law_565 rfl ?_
  refine g_sld C hX hbl hbA 567 h1 dL_law_566 rfl ?_
  refine cl_L_68 C 570 ⟨Nat.le_of_ble_eq_true rfl, Nat.le_of_ble_eq_true rfl⟩ hcm (Nat.le_of_ble_eq_true rfl) dL_law_567 rfl (K := fun r1 T1 => some (r1, T1)) (z := (r, S2)) (by rw [e2]; rfl) (fun r1 T1 hz => ?_)
  cases hz
  refine g_eqk C 664 573 dL_law_570 rfl rfl ?_
  exact kk _ hI2
theorem wl_L_69 : Cond.methodLink RL 69 yX9_compare ∈ wsAll := wA 566 (by decide +kernel) (by decide +kernel)
theorem wi_X9_compare : Cond.instanceMethod yX9_compare ∈ wsAll := wA 567 (by decide +kernel) (by decide +kernel)
theorem we_X9_compare : Cond.selects RX9 yX9_compare yX9_compare ∈ wsAll := wA 568 (by decide +kernel) (by decide +kernel)
theorem wo_X9_compare : Cond.code yX9_compare cX9_compare 5 (some .int) ∈ wsAll := wA 569 (by decide +kernel) (by decide +kernel)
theorem cl_L_69 {p : Program} {l : Launch} {e : Env} {R : Room} {s : State} {m : MethodId} {args : Array Value} {below : List Frame} {meth : Method} {c : Code} {cc : ByteArray} {nL : Nat} {D : va_G} {cy : Nat → ClassId} {ad : Nat → Nat} {n : Nat} {A : Nat → Prop} {mc ms : Nat} {Q : State → Prop} {S : Sg} {pc : Nat} {lv : List (Nat × Value)} {st : List Value} {ζ : Type} {z : ζ} (C : gC p s m args meth c cc nL RL D cy ad n A) (nx : Nat) {x1 : Int32} {x2 : Int32} (hR : Room.frames rm_X9_compare + 1 ≤ R.frames ∧ 8 + (5 + 11) + Room.locals rm_X9_compare ≤ R.locals) (hcm : mc ≤ R.cells ∧ ms ≤ R.slots) (hrest : (st.map fun v => v.category).sum ≤ 8) (hd : decode cc pc = .ok (.invokevirtual 69, 3)) (hn : pc + 3 = nx) {K : Int32 → Sg → Option ζ} (hz : bd2 (f_X9_compare n x1 x2 S) K = some z) (kk : ∀ r S', K r S' = some z → gW p l e R s m args below meth c D cy ad n A nL mc ms Q S' nx lv (.int r :: st)) : gW p l e R s m args below meth c D cy ad n A nL mc ms Q S pc lv (.int x2 :: .int x1 :: .ref (ad 0) :: st) := by
  obtain ⟨q, hq, hk⟩ := bd2_s hz
  exact g_callV C (i := 0) (ci := 9) (Cn := RX9) (T := TX9) (N := 11) (y := yX9_compare) (rm := rm_X9_compare) (As := [.int x1, .int x2]) (rest := st) (na := 2) (fun sz => c_X9_compare l D cy ad n S sz x1 x2 q hq) ha_0 rfl rfl wl_L_69 wi_X9_compare we_X9_compare wz_9 wo_X9_compare (by decide +kernel) rfl rfl hR hcm rfl hrest hn hd (kk q.1 q.2 hk)
theorem wl_L_72 : Cond.methodLink RL 72 yX10_compare ∈ wsAll := wA 978 (by decide +kernel) (by decide +kernel)
theorem wi_X10_compare : Cond.instanceMethod yX10_compare ∈ wsAll := wA 979 (by decide +kernel) (by decide +kernel)
theorem we_X10_compare : Cond.selects RX10 yX10_compare yX10_compare ∈ wsAll := wA 980 (by decide +kernel) (by decide +kernel)
theorem wo_X10_compare : Cond.code yX10_compare cX10_compare 7 (some .int) ∈ wsAll := wA 981 (by decide +kernel) (by decide +kernel)
theorem cl_L_72 {p : Program} {l : Launch} {e : Env} {R : Room} {s : State} {m : MethodId} {args : Array Value} {below : List Frame} {meth : Method} {c : Code} {cc : ByteArray} {nL : Nat} {D : va_G} {cy : Nat → ClassId} {ad : Nat → Nat} {n : Nat} {A : Nat → Prop} {mc ms : Nat} {Q : State → Prop} {S : Sg} {pc : Nat} {lv : List (Nat × Value)} {st : List Value} {ζ : Type} {z : ζ} (C : gC p s m args meth c cc nL RL D cy ad n A) (nx : Nat) {x1 : Int32} {x2 : Int32} (hR : Room.frames rm_X10_compare + 1 ≤ R.frames ∧ 8 + (7 + 11) + Room.locals rm_X10_compare ≤ R.locals) (hcm : mc ≤ R.cells ∧ ms ≤ R.slots) (hrest : (st.map fun v => v.category).sum ≤ 8) (hd : decode cc pc = .ok (.invokevirtual 72, 3)) (hn : pc + 3 = nx) {K : Int32 → Sg → Option ζ} (hz : bd2 (f_X10_compare x1 x2 S) K = some z) (kk : ∀ r S', K r S' = some z → gW p l e R s m args below meth c D cy ad n A nL mc ms Q S' nx lv (.int r :: st)) : gW p l e R s m args below meth c D cy ad n A nL mc ms Q S pc lv (.int x2 :: .int x1 :: .ref (ad 34) :: st) := by
  obtain ⟨q, hq, hk⟩ := bd2_s hz
  exact g_callV C (i := 34) (ci := 10) (Cn := RX10) (T := TX10) (N := 59) (y := yX10_compare) (rm := rm_X10_compare) (As := [.int x1, .int x2]) (rest := st) (na := 2) (fun sz => c_X10_compare l D cy ad n S sz x1 x2 q hq) ha_34 rfl rfl wl_L_72 wi_X10_compare we_X10_compare wz_10 wo_X10_compare (by decide +kernel) rfl rfl hR hcm rfl hrest hn hd (kk q.1 q.2 hk)
set_option maxRecDepth 20000 in
theorem lw_c12 {p : Program} {l : Launch} {e : Env} {s : State} {m : MethodId} {below : List Frame} {meth : Method} {c : Code} {D : va_G} {cy : Nat → ClassId} {ad : Nat → Nat} {n : Nat} {mc ms : Nat} {S : Sg} {b L : Nat} {xs : Nat → Int32} {x3 : Int32} {Inv : Nat → Sg → Prop} (C : gC p s m #[Value.ref b] meth c code 4 RL D cy ad n (fun q : Nat => s.heap.size ≤ q)) (hX : va_X b L xs s s.heap) (hbl : b < s.heap.size) (hbA : ¬ (fun q : Nat => s.heap.size ≤ q) b) (h1 : vp_in (x3 + (1 : Int32)) L) (h2 : vp_in (x3 + (2 : Int32)) L) (h3 : vp_in (x3 + (3 : Int32)) L) (h4 : vp_in (x3 + (4 : Int32)) L) (h5 : vp_in (x3 + (5 : Int32)) L) (hcm : mc ≤ room_1.cells ∧ ms ≤ room_1.slots) (hI : Inv n S) (ok : OK_compare Inv) (kk : ∀ S' : Sg, Inv n S' → gW p l e room_1 s m #[Value.ref b] below meth c D cy ad n (fun q : Nat => s.heap.size ≤ q) 4 mc ms (lw_Z below #[Value.ref b] s) S' 664 [(0, .ref b), (1, .ref (ad 0)), (2, .ref (ad 34)), (3, .int x3)] []) : gW p l e room_1 s m #[Value.ref b] below meth c D cy ad n (fun q : Nat => s.heap.size ≤ q) 4 mc ms (lw_Z below #[Value.ref b] s) S 575 [(0, .ref b), (1, .ref (ad 0)), (2, .ref (ad 34)), (3, .int x3)] [] := by
  obtain ⟨r, S1, S2, e1, e2, hI2⟩ := ok n S ((xs (Int32.toNatClampNeg (x3 + (1 : Int32))))) ((xs (Int32.toNatClampNeg (x3 + (2 : Int32))))) hI
  refine g_aload_n C 576 1 rfl dL_law_575 rfl ?_
  refine g_aload_n C 577 0 rfl dL_law_576 rfl ?_
  refine g_iload_n C 578 3 rfl dL_law_577 rfl ?_
  refine g_iconst C 579 (1 : Int32) ci_1 dL_law_578 rfl ?_
  refine g_iadd C 580 dL_law_579 rfl ?_
  refine g_sld C hX hbl hbA 581 h1 dL_law_580 rfl ?_
  refine g_aload_n C 582 0 rfl dL_law_581 rfl ?_
  refine g_iload_n C 583 3 rfl dL_law_582 rfl ?_
  refine g_iconst C 584 (2 : Int32) ci_2 dL_law_583 rfl ?_
  refine g_iadd C 585 dL_law_584 rfl ?_
  refine g_sld C hX hbl hbA 586 h2 dL_law_585 rfl ?_
  refine cl_L_69 C 589 ⟨Nat.le_of_ble_eq_true rfl, Nat.le_of_ble_eq_true rfl⟩ hcm (Nat.le_of_ble_eq_true rfl) dL_law_586 rfl (K := fun r1 T1 => some (r1, T1)) (z := (r, S1)) (by rw [e1]; rfl) (fun r1 T1 hz => ?_)
  cases hz
  refine g_aload_n C 590 2 rfl dL_law_589 rfl ?_
  refine g_aload_n C 591 0 rfl dL_law_590 rfl ?_
  refine g_iload_n C 592 3 rfl dL_law_591 rfl ?_
  refine g_iconst C 593 (1 : Int32) ci_1 dL_law_592 rfl ?_
  refine g_iadd C 594 dL_law_593 rfl ?_
  refine g_sld C hX hbl hbA 595 h1 dL_law_594 rfl ?_
  refine g_aload_n C 596 0 rfl dL_law_595 rfl ?_
  refine g_iload_n C 597 3 rfl dL_law_596 rfl ?_
  refine g_iconst C 598 (2 : Int32) ci_2 dL_law_597 rfl ?_
  refine g_iadd C 599 dL_law_598 rfl ?_
  refine g_sld C hX hbl hbA 600 h2 dL_law_599 rfl ?_
  refine cl_L_72 C 603 ⟨Nat.le_of_ble_eq_true rfl, Nat.le_of_ble_eq_true rfl⟩ hcm (Nat.le_of_ble_eq_true rfl) dL_law_600 rfl (K := fun r1 T1 => some (r1, T1)) (z := (r, S2)) (by rw [e2]; rfl) (fun r1 T1 hz => ?_)
  cases hz
  refine g_eqk C 664 606 dL_law_603 rfl rfl ?_
  exact kk _ hI2
theorem wl_L_73 : Cond.methodLink RL 73 yX9_differ ∈ wsAll := wA 584 (by decide +kernel) (by decide +kernel)
theorem wi_X9_differ : Cond.instanceMethod yX9_differ ∈ wsAll := wA 585 (by decide +kernel) (by decide +kernel)
theorem we_X9_differ : Cond.selects RX9 yX9_differ yX9_differ ∈ wsAll := wA 586 (by decide +kernel) (by decide +kernel)
theorem wo_X9_differ : Cond.code yX9_differ cX9_differ 5 (some .int) ∈ wsAll := wA 587 (by decide +kernel) (by decide +kernel)
theorem cl_L_73 {p : Program} {l : Launch} {e : Env} {R : Room} {s : State} {m : MethodId} {args : Array Value} {below : List Frame} {meth : Method} {c : Code} {cc : ByteArray} {nL : Nat} {D : va_G} {cy : Nat → ClassId} {ad : Nat → Nat} {n : Nat} {A : Nat → Prop} {mc ms : Nat} {Q : State → Prop} {S : Sg} {pc : Nat} {lv : List (Nat × Value)} {st : List Value} {ζ : Type} {z : ζ} (C : gC p s m args meth c cc nL RL D cy ad n A) (nx : Nat) {x1 : Int32} {x2 : Int32} (hR : Room.frames rm_X9_differ + 1 ≤ R.frames ∧ 8 + (5 + 11) + Room.locals rm_X9_differ ≤ R.locals) (hcm : mc ≤ R.cells ∧ ms ≤ R.slots) (hrest : (st.map fun v => v.category).sum ≤ 8) (hd : decode cc pc = .ok (.invokevirtual 73, 3)) (hn : pc + 3 = nx) {K : Int32 → Sg → Option ζ} (hz : bd2 (f_X9_differ n x1 x2 S) K = some z) (kk : ∀ r S', K r S' = some z → gW p l e R s m args below meth c D cy ad n A nL mc ms Q S' nx lv (.int r :: st)) : gW p l e R s m args below meth c D cy ad n A nL mc ms Q S pc lv (.int x2 :: .int x1 :: .ref (ad 0) :: st) := by
  obtain ⟨q, hq, hk⟩ := bd2_s hz
  exact g_callV C (i := 0) (ci := 9) (Cn := RX9) (T := TX9) (N := 11) (y := yX9_differ) (rm := rm_X9_differ) (As := [.int x1, .int x2]) (rest := st) (na := 2) (fun sz => c_X9_differ l D cy ad n S sz x1 x2 q hq) ha_0 rfl rfl wl_L_73 wi_X9_differ we_X9_differ wz_9 wo_X9_differ (by decide +kernel) rfl rfl hR hcm rfl hrest hn hd (kk q.1 q.2 hk)
theorem wl_L_76 : Cond.methodLink RL 76 yX10_differ ∈ wsAll := wA 990 (by decide +kernel) (by decide +kernel)
theorem wi_X10_differ : Cond.instanceMethod yX10_differ ∈ wsAll := wA 991 (by decide +kernel) (by decide +kernel)
theorem we_X10_differ : Cond.selects RX10 yX10_differ yX10_differ ∈ wsAll := wA 992 (by decide +kernel) (by decide +kernel)
theorem wo_X10_differ : Cond.code yX10_differ cX10_differ 6 (some .int) ∈ wsAll := wA 993 (by decide +kernel) (by decide +kernel)
theorem cl_L_76 {p : Program} {l : Launch} {e : Env} {R : Room} {s : State} {m : MethodId} {args : Array Value} {below : List Frame} {meth : Method} {c : Code} {cc : ByteArray} {nL : Nat} {D : va_G} {cy : Nat → ClassId} {ad : Nat → Nat} {n : Nat} {A : Nat → Prop} {mc ms : Nat} {Q : State → Prop} {S : Sg} {pc : Nat} {lv : List (Nat × Value)} {st : List Value} {ζ : Type} {z : ζ} (C : gC p s m args meth c cc nL RL D cy ad n A) (nx : Nat) {x1 : Int32} {x2 : Int32} (hR : Room.frames rm_X10_differ + 1 ≤ R.frames ∧ 8 + (6 + 11) + Room.locals rm_X10_differ ≤ R.locals) (hcm : mc ≤ R.cells ∧ ms ≤ R.slots) (hrest : (st.map fun v => v.category).sum ≤ 8) (hd : decode cc pc = .ok (.invokevirtual 76, 3)) (hn : pc + 3 = nx) {K : Int32 → Sg → Option ζ} (hz : bd2 (f_X10_differ x1 x2 S) K = some z) (kk : ∀ r S', K r S' = some z → gW p l e R s m args below meth c D cy ad n A nL mc ms Q S' nx lv (.int r :: st)) : gW p l e R s m args below meth c D cy ad n A nL mc ms Q S pc lv (.int x2 :: .int x1 :: .ref (ad 34) :: st) := by
  obtain ⟨q, hq, hk⟩ := bd2_s hz
  exact g_callV C (i := 34) (ci := 10) (Cn := RX10) (T := TX10) (N := 59) (y := yX10_differ) (rm := rm_X10_differ) (As := [.int x1, .int x2]) (rest := st) (na := 2) (fun sz => c_X10_differ l D cy ad n S sz x1 x2 q hq) ha_34 rfl rfl wl_L_76 wi_X10_differ we_X10_differ wz_10 wo_X10_differ (by decide +kernel) rfl rfl hR hcm rfl hrest hn hd (kk q.1 q.2 hk)
set_option maxRecDepth 20000 in
theorem lw_c13 {p : Program} {l : Launch} {e : Env} {s : State} {m : MethodId} {below : List Frame} {meth : Method} {c : Code} {D : va_G} {cy : Nat → ClassId} {ad : Nat → Nat} {n : Nat} {mc ms : Nat} {S : Sg} {b L : Nat} {xs : Nat → Int32} {x3 : Int32} {Inv : Nat → Sg → Prop} (C : gC p s m #[Value.ref b] meth c code 4 RL D cy ad n (fun q : Nat => s.heap.size ≤ q)) (hX : va_X b L xs s s.heap) (hbl : b < s.heap.size) (hbA : ¬ (fun q : Nat => s.heap.size ≤ q) b) (h1 : vp_in (x3 + (1 : Int32)) L) (h2 : vp_in (x3 + (2 : Int32)) L) (h3 : vp_in (x3 + (3 : Int32)) L) (h4 : vp_in (x3 + (4 : Int32)) L) (h5 : vp_in (x3 + (5 : Int32)) L) (hcm : mc ≤ room_1.cells ∧ ms ≤ room_1.slots) (hI : Inv n S) (ok : OK_differ Inv) (kk : ∀ S' : Sg, Inv n S' → gW p l e room_1 s m #[Value.ref b] below meth c D cy ad n (fun q : Nat => s.heap.size ≤ q) 4 mc ms (lw_Z below #[Value.ref b] s) S' 664 [(0, .ref b), (1, .ref (ad 0)), (2, .ref (ad 34)), (3, .int x3)] []) : gW p l e room_1 s m #[Value.ref b] below meth c D cy ad n (fun q : Nat => s.heap.size ≤ q) 4 mc ms (lw_Z below #[Value.ref b] s) S 608 [(0, .ref b), (1, .ref (ad 0)), (2, .ref (ad 34)), (3, .int x3)] [] := by
  obtain ⟨r, S1, S2, e1, e2, hI2⟩ := ok n S ((xs (Int32.toNatClampNeg (x3 + (1 : Int32))))) ((xs (Int32.toNatClampNeg (x3 + (2 : Int32))))) hI
  refine g_aload_n C 609 1 rfl dL_law_608 rfl ?_
  refine g_aload_n C 610 0 rfl dL_law_609 rfl ?_
  refine g_iload_n C 611 3 rfl dL_law_610 rfl ?_
  refine g_iconst C 612 (1 : Int32) ci_1 dL_law_611 rfl ?_
  refine g_iadd C 613 dL_law_612 rfl ?_
  refine g_sld C hX hbl hbA 614 h1 dL_law_613 rfl ?_
  refine g_aload_n C 615 0 rfl dL_law_614 rfl ?_
  refine g_iload_n C 616 3 rfl dL_law_615 rfl ?_
  refine g_iconst C 617 (2 : Int32) ci_2 dL_law_616 rfl ?_
  refine g_iadd C 618 dL_law_617 rfl ?_
  refine g_sld C hX hbl hbA 619 h2 dL_law_618 rfl ?_
  refine cl_L_73 C 622 ⟨Nat.le_of_ble_eq_true rfl, Nat.le_of_ble_eq_true rfl⟩ hcm (Nat.le_of_ble_eq_true rfl) dL_law_619 rfl (K := fun r1 T1 => some (r1, T1)) (z := (r, S1)) (by rw [e1]; rfl) (fun r1 T1 hz => ?_)
  cases hz
  refine g_aload_n C 623 2 rfl dL_law_622 rfl ?_
  refine g_aload_n C 624 0 rfl dL_law_623 rfl ?_
  refine g_iload_n C 625 3 rfl dL_law_624 rfl ?_
  refine g_iconst C 626 (1 : Int32) ci_1 dL_law_625 rfl ?_
  refine g_iadd C 627 dL_law_626 rfl ?_
  refine g_sld C hX hbl hbA 628 h1 dL_law_627 rfl ?_
  refine g_aload_n C 629 0 rfl dL_law_628 rfl ?_
  refine g_iload_n C 630 3 rfl dL_law_629 rfl ?_
  refine g_iconst C 631 (2 : Int32) ci_2 dL_law_630 rfl ?_
  refine g_iadd C 632 dL_law_631 rfl ?_
  refine g_sld C hX hbl hbA 633 h2 dL_law_632 rfl ?_
  refine cl_L_76 C 636 ⟨Nat.le_of_ble_eq_true rfl, Nat.le_of_ble_eq_true rfl⟩ hcm (Nat.le_of_ble_eq_true rfl) dL_law_633 rfl (K := fun r1 T1 => some (r1, T1)) (z := (r, S2)) (by rw [e2]; rfl) (fun r1 T1 hz => ?_)
  cases hz
  refine g_eqk C 664 639 dL_law_636 rfl rfl ?_
  exact kk _ hI2
theorem wl_L_77 : Cond.methodLink RL 77 yX9_letter ∈ wsAll := wA 601 (by decide +kernel) (by decide +kernel)
theorem wi_X9_letter : Cond.instanceMethod yX9_letter ∈ wsAll := wA 602 (by decide +kernel) (by decide +kernel)
theorem we_X9_letter : Cond.selects RX9 yX9_letter yX9_letter ∈ wsAll := wA 603 (by decide +kernel) (by decide +kernel)
theorem wo_X9_letter : Cond.code yX9_letter cX9_letter 2 (some .int) ∈ wsAll := wA 604 (by decide +kernel) (by decide +kernel)
theorem cl_L_77 {p : Program} {l : Launch} {e : Env} {R : Room} {s : State} {m : MethodId} {args : Array Value} {below : List Frame} {meth : Method} {c : Code} {cc : ByteArray} {nL : Nat} {D : va_G} {cy : Nat → ClassId} {ad : Nat → Nat} {n : Nat} {A : Nat → Prop} {mc ms : Nat} {Q : State → Prop} {S : Sg} {pc : Nat} {lv : List (Nat × Value)} {st : List Value} {ζ : Type} {z : ζ} (C : gC p s m args meth c cc nL RL D cy ad n A) (nx : Nat) {x1 : Int32} (hR : Room.frames rm_X9_letter + 1 ≤ R.frames ∧ 8 + (2 + 11) + Room.locals rm_X9_letter ≤ R.locals) (hcm : mc ≤ R.cells ∧ ms ≤ R.slots) (hrest : (st.map fun v => v.category).sum ≤ 8) (hd : decode cc pc = .ok (.invokevirtual 77, 3)) (hn : pc + 3 = nx) {K : Int32 → Sg → Option ζ} (hz : bd2 (f_X9_letter x1 S) K = some z) (kk : ∀ r S', K r S' = some z → gW p l e R s m args below meth c D cy ad n A nL mc ms Q S' nx lv (.int r :: st)) : gW p l e R s m args below meth c D cy ad n A nL mc ms Q S pc lv (.int x1 :: .ref (ad 0) :: st) := by
  obtain ⟨q, hq, hk⟩ := bd2_s hz
  exact g_callV C (i := 0) (ci := 9) (Cn := RX9) (T := TX9) (N := 11) (y := yX9_letter) (rm := rm_X9_letter) (As := [.int x1]) (rest := st) (na := 1) (fun sz => c_X9_letter l D cy ad n S sz x1 q hq) ha_0 rfl rfl wl_L_77 wi_X9_letter we_X9_letter wz_9 wo_X9_letter (by decide +kernel) rfl rfl hR hcm rfl hrest hn hd (kk q.1 q.2 hk)
theorem wl_L_80 : Cond.methodLink RL 80 yX10_letter ∈ wsAll := wA 994 (by decide +kernel) (by decide +kernel)
theorem wi_X10_letter : Cond.instanceMethod yX10_letter ∈ wsAll := wA 995 (by decide +kernel) (by decide +kernel)
theorem we_X10_letter : Cond.selects RX10 yX10_letter yX10_letter ∈ wsAll := wA 996 (by decide +kernel) (by decide +kernel)
theorem wo_X10_letter : Cond.code yX10_letter cX10_letter 2 (some .int) ∈ wsAll := wA 997 (by decide +kernel) (by decide +kernel)
theorem cl_L_80 {p : Program} {l : Launch} {e : Env} {R : Room} {s : State} {m : MethodId} {args : Array Value} {below : List Frame} {meth : Method} {c : Code} {cc : ByteArray} {nL : Nat} {D : va_G} {cy : Nat → ClassId} {ad : Nat → Nat} {n : Nat} {A : Nat → Prop} {mc ms : Nat} {Q : State → Prop} {S : Sg} {pc : Nat} {lv : List (Nat × Value)} {st : List Value} {ζ : Type} {z : ζ} (C : gC p s m args meth c cc nL RL D cy ad n A) (nx : Nat) {x1 : Int32} (hR : Room.frames rm_X10_letter + 1 ≤ R.frames ∧ 8 + (2 + 11) + Room.locals rm_X10_letter ≤ R.locals) (hcm : mc ≤ R.cells ∧ ms ≤ R.slots) (hrest : (st.map fun v => v.category).sum ≤ 8) (hd : decode cc pc = .ok (.invokevirtual 80, 3)) (hn : pc + 3 = nx) {K : Int32 → Sg → Option ζ} (hz : bd2 (f_X10_letter x1 S) K = some z) (kk : ∀ r S', K r S' = some z → gW p l e R s m args below meth c D cy ad n A nL mc ms Q S' nx lv (.int r :: st)) : gW p l e R s m args below meth c D cy ad n A nL mc ms Q S pc lv (.int x1 :: .ref (ad 34) :: st) := by
  obtain ⟨q, hq, hk⟩ := bd2_s hz
  exact g_callV C (i := 34) (ci := 10) (Cn := RX10) (T := TX10) (N := 59) (y := yX10_letter) (rm := rm_X10_letter) (As := [.int x1]) (rest := st) (na := 1) (fun sz => c_X10_letter l D cy ad n S sz x1 q hq) ha_34 rfl rfl wl_L_80 wi_X10_letter we_X10_letter wz_10 wo_X10_letter (by decide +kernel) rfl rfl hR hcm rfl hrest hn hd (kk q.1 q.2 hk)
set_option maxRecDepth 20000 in
theorem lw_c14 {p : Program} {l : Launch} {e : Env} {s : State} {m : MethodId} {below : List Frame} {meth : Method} {c : Code} {D : va_G} {cy : Nat → ClassId} {ad : Nat → Nat} {n : Nat} {mc ms : Nat} {S : Sg} {b L : Nat} {xs : Nat → Int32} {x3 : Int32} {Inv : Nat → Sg → Prop} (C : gC p s m #[Value.ref b] meth c code 4 RL D cy ad n (fun q : Nat => s.heap.size ≤ q)) (hX : va_X b L xs s s.heap) (hbl : b < s.heap.size) (hbA : ¬ (fun q : Nat => s.heap.size ≤ q) b) (h1 : vp_in (x3 + (1 : Int32)) L) (h2 : vp_in (x3 + (2 : Int32)) L) (h3 : vp_in (x3 + (3 : Int32)) L) (h4 : vp_in (x3 + (4 : Int32)) L) (h5 : vp_in (x3 + (5 : Int32)) L) (hcm : mc ≤ room_1.cells ∧ ms ≤ room_1.slots) (hI : Inv n S) (ok : OK_letter Inv) (kk : ∀ S' : Sg, Inv n S' → gW p l e room_1 s m #[Value.ref b] below meth c D cy ad n (fun q : Nat => s.heap.size ≤ q) 4 mc ms (lw_Z below #[Value.ref b] s) S' 664 [(0, .ref b), (1, .ref (ad 0)), (2, .ref (ad 34)), (3, .int x3)] []) : gW p l e room_1 s m #[Value.ref b] below meth c D cy ad n (fun q : Nat => s.heap.size ≤ q) 4 mc ms (lw_Z below #[Value.ref b] s) S 641 [(0, .ref b), (1, .ref (ad 0)), (2, .ref (ad 34)), (3, .int x3)] [] := by
  obtain ⟨r, S1, S2, e1, e2, hI2⟩ := ok n S ((xs (Int32.toNatClampNeg (x3 + (1 : Int32))))) hI
  refine g_aload_n C 642 1 rfl dL_law_641 rfl ?_
  refine g_aload_n C 643 0 rfl dL_law_642 rfl ?_
  refine g_iload_n C 644 3 rfl dL_law_643 rfl ?_
  refine g_iconst C 645 (1 : Int32) ci_1 dL_law_644 rfl ?_
  refine g_iadd C 646 dL_law_645 rfl ?_
  refine g_sld C hX hbl hbA 647 h1 dL_law_646 rfl ?_
  refine cl_L_77 C 650 ⟨Nat.le_of_ble_eq_true rfl, Nat.le_of_ble_eq_true rfl⟩ hcm (Nat.le_of_ble_eq_true rfl) dL_law_647 rfl (K := fun r1 T1 => some (r1, T1)) (z := (r, S1)) (by rw [e1]; rfl) (fun r1 T1 hz => ?_)
  cases hz
  refine g_aload_n C 651 2 rfl dL_law_650 rfl ?_
  refine g_aload_n C 652 0 rfl dL_law_651 rfl ?_
  refine g_iload_n C 653 3 rfl dL_law_652 rfl ?_
  refine g_iconst C 654 (1 : Int32) ci_1 dL_law_653 rfl ?_
  refine g_iadd C 655 dL_law_654 rfl ?_
  refine g_sld C hX hbl hbA 656 h1 dL_law_655 rfl ?_
  refine cl_L_80 C 659 ⟨Nat.le_of_ble_eq_true rfl, Nat.le_of_ble_eq_true rfl⟩ hcm (Nat.le_of_ble_eq_true rfl) dL_law_656 rfl (K := fun r1 T1 => some (r1, T1)) (z := (r, S2)) (by rw [e2]; rfl) (fun r1 T1 hz => ?_)
  cases hz
  refine g_eqk C 664 662 dL_law_659 rfl rfl ?_
  exact kk _ hI2
theorem lw_in {L i k : Nat} {x3 : Int32} {y : Int32} (hx : x3 = nI i) (hy : y = nI k) (hi : i + 6 ≤ L) (hk : k < 6) (hL : L ≤ 3072) : vp_in (x3 + y) L := by
  subst hx; subst hy
  rw [nI_add]
  exact vp_in_nI (by omega) (by omega)
theorem lw_lt {L i : Nat} (hL : L ≤ 3072) (hi : i ≤ 4000) : (nI L - (6 : Int32) < nI i) ↔ L < i + 6 := by
  rw [Int32.lt_iff_toInt_lt, show (6 : Int32) = nI 6 by decide +kernel, pk_sub_toInt (by omega) (by omega), nI_toInt (by omega)]
  omega
set_option maxRecDepth 20000 in
set_option maxHeartbeats 1000000 in
theorem lw_loop {p : Program} {l : Launch} {e : Env} {s : State} {m : MethodId} {below : List Frame} {meth : Method} {c : Code} {D : va_G} {cy : Nat → ClassId} {b L : Nat} {xs : Nat → Int32} {Inv : Nat → Sg → Prop} (hL : L ≤ 3072) (hX : va_X b L xs s s.heap) (hbl : b < s.heap.size) (hr : meth.sig.returnType = ret) (ok : OK_all Inv) : ∀ (f i n : Nat) (ad : Nat → Nat) (S : Sg) (mc ms : Nat) (x3 : Int32), gC p s m #[Value.ref b] meth c code 4 RL D cy ad n (fun q : Nat => s.heap.size ≤ q) → Inv n S → x3 = nI i → i ≤ L + 6 → L + 7 ≤ i + f → mc ≤ 79 + i → ms ≤ 137043 + 327 * i → gW p l e room_1 s m #[Value.ref b] below meth c D cy ad n (fun q : Nat => s.heap.size ≤ q) 4 mc ms (lw_Z below #[Value.ref b] s) S 18 [(0, .ref b), (1, .ref (ad 0)), (2, .ref (ad 34)), (3, .int x3)] [] := by
  have hbA : ¬ (fun q : Nat => s.heap.size ≤ q) b := Nat.not_le.mpr hbl
  obtain ⟨o0, o1, o2, o3, o4, o5, o6, o7, o8, o9, o10, o11, o12, o13, o14⟩ := ok
  intro f
  induction f with
  | zero => intro i n ad S mc ms x3 C hI hx h1 h2; exact absurd h2 (by omega)
  | succ f ih =>
    intro i n ad S mc ms x3 C hI hx h1 h2 hm1 hm2
    have hcm : mc ≤ room_1.cells ∧ ms ≤ room_1.slots := ⟨Nat.le_trans hm1 (by show 79 + i ≤ 600000; omega), Nat.le_trans hm2 (by show 137043 + 327 * i ≤ 7302250; omega)⟩
    have hcm6 : mc + 6 ≤ room_1.cells ∧ ms + 1960 ≤ room_1.slots := ⟨by show mc + 6 ≤ 600000; omega, by show ms + 1960 ≤ 7302250; omega⟩
    refine g_iload_n C 19 3 rfl dL_law_18 rfl ?_
    refine g_aload_n C 20 0 rfl dL_law_19 rfl ?_
    refine g_slen C hX hbl hbA 21 dL_law_20 rfl ?_
    refine g_bipush C 23 (6 : Int32) cb_6 dL_law_21 rfl ?_
    refine g_isub C 24 dL_law_23 rfl ?_
    by_cases hc : nI L - (6 : Int32) < x3
    · refine g_icmp_gt C 670 27 (ζ := Unit) (K1 := some ()) (K2 := none) (z := ()) dL_law_24 rfl rfl (if_pos hc) (fun _ => ?_) (fun h => by cases h)
      refine g_iconst C 671 (1 : Int32) ci_1 dL_law_670 rfl ?_
      intro H locs ls hP hS hl
      refine va_forget (fun q hq => hS.2.2 q hq) ?_
      refine W.widen (k := 600000) (n := 7302250) hcm.1 hcm.2 ?_
      exact lw_ret C.1 C.2.1 hr C.2.2.2.2.2.2.2.2.2.2 dL_law_671
    · refine g_icmp_gt C 670 27 (ζ := Unit) (K1 := none) (K2 := some ()) (z := ()) dL_law_24 rfl rfl (if_neg hc) (fun h => by cases h) (fun _ => ?_)
      have hi6 : i + 6 ≤ L := by
        rw [hx, lw_lt hL (by omega)] at hc
        omega
      have i0 : vp_in x3 L := by rw [hx]; exact vp_in_nI (by omega) (by omega)
      have i1 : vp_in (x3 + (1 : Int32)) L := lw_in hx (k := 1) (by decide +kernel) hi6 (by decide) hL
      have i2 : vp_in (x3 + (2 : Int32)) L := lw_in hx (k := 2) (by decide +kernel) hi6 (by decide) hL
      have i3 : vp_in (x3 + (3 : Int32)) L := lw_in hx (k := 3) (by decide +kernel) hi6 (by decide) hL
      have i4 : vp_in (x3 + (4 : Int32)) L := lw_in hx (k := 4) (by decide +kernel) hi6 (by decide) hL
      have i5 : vp_in (x3 + (5 : Int32)) L := lw_in hx (k := 5) (by decide +kernel) hi6 (by decide) hL
      refine g_aload_n C 28 0 rfl dL_law_27 rfl ?_
      refine g_iload_n C 29 3 rfl dL_law_28 rfl ?_
      refine g_sld C hX hbl hbA 30 i0 dL_law_29 rfl ?_
      refine g_bipush C 32 (15 : Int32) cb_15 dL_law_30 rfl ?_
      refine g_iand C 33 dL_law_32 rfl ?_
      have nxt : ∀ (n' : Nat) (ad' : Nat → Nat) (S' : Sg) (mc' ms' : Nat), gC p s m #[Value.ref b] meth c code 4 RL D cy ad' n' (fun q : Nat => s.heap.size ≤ q) → Inv n' S' → mc' ≤ mc + 6 → ms' ≤ ms + 1960 → gW p l e room_1 s m #[Value.ref b] below meth c D cy ad' n' (fun q : Nat => s.heap.size ≤ q) 4 mc' ms' (lw_Z below #[Value.ref b] s) S' 664 [(0, .ref b), (1, .ref (ad' 0)), (2, .ref (ad' 34)), (3, .int x3)] [] := by
        intro n' ad' S' mc' ms' C' hI' m1 m2
        refine g_iinc C' 667 3 [1, 2, 3, 0] (6 : Int32) ci_6 (fun y => [(0, .ref b), (1, .ref (ad' 0)), (2, .ref (ad' 34)), (3, .int y)]) dL_law_664 rfl rfl (by decide) (fun y => rfl) (ζ := Int32) (z := x3 + 6) (K := fun y => some y) rfl (fun y hy => ?_)
        cases hy
        refine g_goto C' 18 dL_law_667 rfl ?_
        exact ih (i + 6) n' ad' S' mc' ms' (x3 + 6) C' hI' (by rw [hx, show (6 : Int32) = nI 6 by decide +kernel, nI_add]) (by omega) (by omega) (by omega) (by omega)
      generalize hv : (xs x3.toNatClampNeg &&& (15 : Int32)) = v
      by_cases hq0 : v = nI 0
      · refine g_tabIn C 108 0 (by decide) dL_law_33 rfl hq0 rfl ?_
        exact lw_c0 C hX hbl hbA i1 i2 i3 i4 i5 hcm hI o0 (fun S' hI' => nxt n ad S' _ _ C hI' (Nat.le_add_right _ _) (Nat.le_add_right _ _))
      by_cases hq1 : v = nI 1
      · refine g_tabIn C 171 1 (by decide) dL_law_33 rfl hq1 rfl ?_
        exact lw_c1 C hX hbl hbA i1 i2 i3 i4 i5 hcm6 hI o1 (fun ad' n' S' e0 em C' hI' => nxt n' ad' S' _ _ C' hI' (Nat.le_refl _) (Nat.le_refl _))
      by_cases hq2 : v = nI 2
      · refine g_tabIn C 204 2 (by decide) dL_law_33 rfl hq2 rfl ?_
        exact lw_c2 C hX hbl hbA i1 i2 i3 i4 i5 hcm hI o2 (fun S' hI' => nxt n ad S' _ _ C hI' (Nat.le_add_right _ _) (Nat.le_add_right _ _))
      by_cases hq3 : v = nI 3
      · refine g_tabIn C 227 3 (by decide) dL_law_33 rfl hq3 rfl ?_
        exact lw_c3 C hX hbl hbA i1 i2 i3 i4 i5 hcm hI o3 (fun S' hI' => nxt n ad S' _ _ C hI' (Nat.le_add_right _ _) (Nat.le_add_right _ _))
      by_cases hq4 : v = nI 4
      · refine g_tabIn C 260 4 (by decide) dL_law_33 rfl hq4 rfl ?_
        exact lw_c4 C hX hbl hbA i1 i2 i3 i4 i5 hcm hI o4 (fun S' hI' => nxt n ad S' _ _ C hI' (Nat.le_add_right _ _) (Nat.le_add_right _ _))
      by_cases hq5 : v = nI 5
      · refine g_tabIn C 303 5 (by decide) dL_law_33 rfl hq5 rfl ?_
        exact lw_c5 C hX hbl hbA i1 i2 i3 i4 i5 hcm hI o5 (fun S' hI' => nxt n ad S' _ _ C hI' (Nat.le_add_right _ _) (Nat.le_add_right _ _))
      by_cases hq6 : v = nI 6
      · refine g_tabIn C 336 6 (by decide) dL_law_33 rfl hq6 rfl ?_
        exact lw_c6 C hX hbl hbA i1 i2 i3 i4 i5 hcm hI o6 (fun S' hI' => nxt n ad S' _ _ C hI' (Nat.le_add_right _ _) (Nat.le_add_right _ _))
      by_cases hq7 : v = nI 7
      · refine g_tabIn C 379 7 (by decide) dL_law_33 rfl hq7 rfl ?_
        exact lw_c7 C hX hbl hbA i1 i2 i3 i4 i5 hcm hI o7 (fun S' hI' => nxt n ad S' _ _ C hI' (Nat.le_add_right _ _) (Nat.le_add_right _ _))
      by_cases hq8 : v = nI 8
      · refine g_tabIn C 412 8 (by decide) dL_law_33 rfl hq8 rfl ?_
        exact lw_c8 C hX hbl hbA i1 i2 i3 i4 i5 hcm hI o8 (fun S' hI' => nxt n ad S' _ _ C hI' (Nat.le_add_right _ _) (Nat.le_add_right _ _))
      by_cases hq9 : v = nI 9
      · refine g_tabIn C 445 9 (by decide) dL_law_33 rfl hq9 rfl ?_
        exact lw_c9 C hX hbl hbA i1 i2 i3 i4 i5 hcm hI o9 (fun S' hI' => nxt n ad S' _ _ C hI' (Nat.le_add_right _ _) (Nat.le_add_right _ _))
      by_cases hq10 : v = nI 10
      · refine g_tabIn C 479 10 (by decide) dL_law_33 rfl hq10 rfl ?_
        exact lw_c10 C hX hbl hbA i1 i2 i3 i4 i5 hcm hI o10 (fun S' hI' => nxt n ad S' _ _ C hI' (Nat.le_add_right _ _) (Nat.le_add_right _ _))
      by_cases hq11 : v = nI 11
      · refine g_tabIn C 552 11 (by decide) dL_law_33 rfl hq11 rfl ?_
        exact lw_c11 C hX hbl hbA i1 i2 i3 i4 i5 hcm hI o11 (fun S' hI' => nxt n ad S' _ _ C hI' (Nat.le_add_right _ _) (Nat.le_add_right _ _))
      by_cases hq12 : v = nI 12
      · refine g_tabIn C 575 12 (by decide) dL_law_33 rfl hq12 rfl ?_
        exact lw_c12 C hX hbl hbA i1 i2 i3 i4 i5 hcm hI o12 (fun S' hI' => nxt n ad S' _ _ C hI' (Nat.le_add_right _ _) (Nat.le_add_right _ _))
      by_cases hq13 : v = nI 13
      · refine g_tabIn C 608 13 (by decide) dL_law_33 rfl hq13 rfl ?_
        exact lw_c13 C hX hbl hbA i1 i2 i3 i4 i5 hcm hI o13 (fun S' hI' => nxt n ad S' _ _ C hI' (Nat.le_add_right _ _) (Nat.le_add_right _ _))
      by_cases hq14 : v = nI 14
      · refine g_tabIn C 641 14 (by decide) dL_law_33 rfl hq14 rfl ?_
        exact lw_c14 C hX hbl hbA i1 i2 i3 i4 i5 hcm hI o14 (fun S' hI' => nxt n ad S' _ _ C hI' (Nat.le_add_right _ _) (Nat.le_add_right _ _))
      refine g_tabOut C 664 dL_law_33 (tsw_out (hi := 14) (by decide) (fun k hk => by rcases (show k = 0 ∨ k = 1 ∨ k = 2 ∨ k = 3 ∨ k = 4 ∨ k = 5 ∨ k = 6 ∨ k = 7 ∨ k = 8 ∨ k = 9 ∨ k = 10 ∨ k = 11 ∨ k = 12 ∨ k = 13 ∨ k = 14 by omega) with rfl | rfl | rfl | rfl | rfl | rfl | rfl | rfl | rfl | rfl | rfl | rfl | rfl | rfl | rfl <;> assumption)) rfl ?_
      exact nxt n ad S _ _ C hI (Nat.le_add_right _ _) (Nat.le_add_right _ _)
theorem wkc_L_0 : Cond.classLink RL 7 RX9 ∈ wsAll := wA 14 (by decide +kernel) (by decide +kernel)
theorem wkc_L_1 : Cond.classLink RL 10 RX10 ∈ wsAll := wA 605 (by decide +kernel) (by decide +kernel)
theorem wkm_L_0 : Cond.methodLink RL 9 yX9_init ∈ wsAll := wA 16 (by decide +kernel) (by decide +kernel)
theorem wkm_L_1 : Cond.methodLink RL 12 yX10_init ∈ wsAll := wA 607 (by decide +kernel) (by decide +kernel)
theorem S0_P {D : va_G} {cy : Nat → ClassId} {H : Heap} {h0 q1 q2 q3 q4 q5 q6 q7 q8 q9 q10 q11 q12 q13 q14 q15 q16 q17 q18 q19 q20 q21 q22 q23 q24 q25 q26 q27 q28 q29 q30 q31 q32 q33 g0 g1 g2 g3 g4 g5 g6 g7 g8 g9 g10 g11 g12 g13 g14 g15 g16 g17 g18 g19 g20 g21 g22 g23 g24 g25 g26 g27 g28 g29 g30 g31 g32 g33 g34 g35 g36 g37 g38 g39 g40 g41 g42 g43 g44 : Nat} (hP : va_P D vwCl [(h0, .inr (9, [.ref q1, .int (0 : Int32), .ref q2, .null, .ref q3, .ref q12, .ref q17, .ref q22, .ref q24, .ref q27, .ref q32])), (q1, .inl (cy 1, 100, .inl (fun _ => 0))), (q2, .inl (cy 4, 4, .inr (.inr (.inr (.inr (fun _ => none)))))), (q3, .inr (6, [.ref q4, .int (0 : Int32), .int (0 : Int32), .ref q5, .int (0 : Int32), .int (-1 : Int32), .int (0 : Int32), .int (0 : Int32), .int (0 : Int32)])), (q4, .inl (cy 1, 100, .inl (fun _ => 0))), (q5, .inr (7, [.int (0 : Int32), .long (0 : Int64), .ref q6, .ref q7, .ref q8, .ref q9, .ref q10, .ref q11])), (q6, .inl (cy 1, 6, .inl (fun _ => 0))), (q7, .inl (cy 1, 6, .inl (fun _ => 0))), (q8, .inl (cy 1, 6, .inl (fun _ => 0))), (q9, .inl (cy 3, 6, .inl (fun _ => 0))), (q10, .inl (cy 1, 24, .inl (fun _ => 0))), (q11, .inl (cy 1, 180, .inl (fun _ => 0))), (q12, .inr (5, [.ref q13, .ref q14, .ref q15, .ref q16])), (q13, .inl (cy 1, 6, .inl (fun _ => 0))), (q14, .inl (cy 1, 6, .inl (fun _ => 0))), (q15, .inl (cy 1, 64, .inl (fun _ => 0))), (q16, .inl (cy 1, 150, .inl (fun _ => 0))), (q17, .inr (3, [.ref q18, .ref q19, .ref q20, .ref q21])), (q18, .inl (cy 1, 150, .inl (fun _ => 0))), (q19, .inl (cy 1, 150, .inl (fun _ => 0))), (q20, .inl (cy 1, 150, .inl (fun _ => 0))), (q21, .inl (cy 3, 150, .inl (fun _ => 0))), (q22, .inr (0, [.ref q23])), (q23, .inl (cy 2, 4350, .inr (.inl (fun _ => 0)))), (q24, .inr (2, [.ref q25, .ref q26])), (q25, .inl (cy 2, 352, .inr (.inl (fun _ => 0)))), (q26, .inl (cy 2, 352, .inr (.inl (fun _ => 0)))), (q27, .inr (1, [.ref q28, .ref q29, .ref q30, .ref q31, .int (0 : Int32)])), (q28, .inl (cy 1, 300, .inl (fun _ => 0))), (q29, .inl (cy 1, 300, .inl (fun _ => 0))), (q30, .inl (cy 1, 300, .inl (fun _ => 0))), (q31, .inl (cy 1, 300, .inl (fun _ => 0))), (q32, .inr (8, [.ref q33, .int (0 : Int32)])), (q33, .inl (cy 1, 300, .inl (fun _ => 0))), (g0, .inr (10, [.ref g1, .ref g2, .int 0, .int 0, .int 0, .int (-1 : Int32), .int 0, .ref g3, .ref g4, .ref g5, .ref g6, .ref g7, .ref g8, .int 0, .ref g9, .ref g10, .ref g11, .ref g12, .ref g13, .ref g14, .ref g15, .ref g16, .ref g17, .ref g18, .ref g19, .int 0, .ref g20, .int 0, .int 0, .int 0, .ref g21, .ref g22, .ref g23, .ref g24, .ref g25, .ref g26, .ref g27, .int 0, .int 0, .int 0, .ref g28, .ref g29, .ref g30, .int 0, .ref g31, .ref g32, .ref g33, .ref g34, .ref g35, .ref g36, .ref g37, .ref g38, .ref g39, .ref g40, .ref g41, .ref g42, .ref g43, .ref g44, .int 0])), (g1, .inl (cy 0, 100, .inl (fun _ => 0))), (g2, .inl (cy 0, 100, .inl (fun _ => 0))), (g3, .inl (cy 1, 6, .inl (fun _ => 0))), (g4, .inl (cy 3, 6, .inl (fun _ => 0))), (g5, .inl (cy 1, 6, .inl (fun _ => 0))), (g6, .inl (cy 1, 6, .inl (fun _ => 0))), (g7, .inl (cy 1, 180, .inl (fun _ => 0))), (g8, .inl (cy 1, 180, .inl (fun _ => 0))), (g9, .inl (cy 1, 400, .inl (fun _ => 0))), (g10, .inl (cy 1, 4, .inl (fun _ => 0))), (g11, .inl (cy 1, 4, .inl (fun _ => 0))), (g12, .inl (cy 1, 4, .inl (fun _ => 0))), (g13, .inl (cy 1, 4, .inl (fun _ => 0))), (g14, .inl (cy 1, 2400, .inl (fun _ => 0))), (g15, .inl (cy 3, 600, .inl (fun _ => 0))), (g16, .inl (cy 1, 3600, .inl (fun _ => 0))), (g17, .inl (cy 1, 600, .inl (fun _ => 0))), (g18, .inl (cy 1, 600, .inl (fun _ => 0))), (g19, .inl (cy 1, 600, .inl (fun _ => 0))), (g20, .inl (cy 1, 22600, .inl (fun _ => 0))), (g21, .inl (cy 3, 12, .inl (fun _ => 0))), (g22, .inl (cy 3, 12, .inl (fun _ => 0))), (g23, .inl (cy 1, 12, .inl (fun _ => 0))), (g24, .inl (cy 1, 12, .inl (fun _ => 0))), (g25, .inl (cy 3, 12, .inl (fun _ => 0))), (g26, .inl (cy 1, 12, .inl (fun _ => 0))), (g27, .inl (cy 1, 12, .inl (fun _ => 0))), (g28, .inl (cy 3, 12, .inl (fun _ => 0))), (g29, .inl (cy 3, 12, .inl (fun _ => 0))), (g30, .inl (cy 3, 12, .inl (fun _ => 0))), (g31, .inl (cy 3, 400, .inl (fun _ => 0))), (g32, .inl (cy 1, 6, .inl (fun _ => 0))), (g33, .inl (cy 1, 150, .inl (fun _ => 0))), (g34, .inl (cy 1, 900, .inl (fun _ => 0))), (g35, .inl (cy 1, 600, .inl (fun _ => 0))), (g36, .inl (cy 1, 150, .inl (fun _ => 0))), (g37, .inl (cy 1, 150, .inl (fun _ => 0))), (g38, .inl (cy 3, 150, .inl (fun _ => 0))), (g39, .inl (cy 3, 150, .inl (fun _ => 0))), (g40, .inl (cy 2, 4350, .inr (.inl (fun _ => 0)))), (g41, .inl (cy 1, 22500, .inl (fun _ => 0))), (g42, .inl (cy 1, 22500, .inl (fun _ => 0))), (g43, .inl (cy 1, 22500, .inl (fun _ => 0))), (g44, .inl (cy 3, 22500, .inl (fun _ => 0)))] H) : va_P D vwCl (wW cy (fun i => ([h0, q1, q2, q3, q4, q5, q6, q7, q8, q9, q10, q11, q12, q13, q14, q15, q16, q17, q18, q19, q20, q21, q22, q23, q24, q25, q26, q27, q28, q29, q30, q31, q32, q33, g0, g1, g2, g3, g4, g5, g6, g7, g8, g9, g10, g11, g12, g13, g14, g15, g16, g17, g18, g19, g20, g21, g22, g23, g24, g25, g26, g27, g28, g29, g30, g31, g32, g33, g34, g35, g36, g37, g38, g39, g40, g41, g42, g43, g44] : List Nat).getD i 0) 0 S0) H := by
  intro k x hx
  obtain ⟨hk, -⟩ := wW_lt hx
  rw [wW_get (K := kd k) ⟨hk, rfl⟩] at hx
  cases hx
  have hk : k < 79 := hk
  match k, hk with
  | 0, _ => exact hP 0 _ rfl
  | 1, _ => exact hP 1 _ rfl
  | 2, _ => exact hP 2 _ rfl
  | 3, _ => exact hP 3 _ rfl
  | 4, _ => exact hP 4 _ rfl
  | 5, _ => exact hP 5 _ rfl
  | 6, _ => exact hP 6 _ rfl
  | 7, _ => exact hP 7 _ rfl
  | 8, _ => exact hP 8 _ rfl
  | 9, _ => exact hP 9 _ rfl
  | 10, _ => exact hP 10 _ rfl
  | 11, _ => exact hP 11 _ rfl
  | 12, _ => exact hP 12 _ rfl
  | 13, _ => exact hP 13 _ rfl
  | 14, _ => exact hP 14 _ rfl
  | 15, _ => exact hP 15 _ rfl
  | 16, _ => exact hP 16 _ rfl
  | 17, _ => exact hP 17 _ rfl
  | 18, _ => exact hP 18 _ rfl
  | 19, _ => exact hP 19 _ rfl
  | 20, _ => exact hP 20 _ rfl
  | 21, _ => exact hP 21 _ rfl
  | 22, _ => exact hP 22 _ rfl
  | 23, _ => exact hP 23 _ rfl
  | 24, _ => exact hP 24 _ rfl
  | 25, _ => exact hP 25 _ rfl
  | 26, _ => exact hP 26 _ rfl
  | 27, _ => exact hP 27 _ rfl
  | 28, _ => exact hP 28 _ rfl
  | 29, _ => exact hP 29 _ rfl
  | 30, _ => exact hP 30 _ rfl
  | 31, _ => exact hP 31 _ rfl
  | 32, _ => exact hP 32 _ rfl
  | 33, _ => exact hP 33 _ rfl
  | 34, _ => exact hP 34 _ rfl
  | 35, _ => exact hP 35 _ rfl
  | 36, _ => exact hP 36 _ rfl
  | 37, _ => exact hP 37 _ rfl
  | 38, _ => exact hP 38 _ rfl
  | 39, _ => exact hP 39 _ rfl
  | 40, _ => exact hP 40 _ rfl
  | 41, _ => exact hP 41 _ rfl
  | 42, _ => exact hP 42 _ rfl
  | 43, _ => exact hP 43 _ rfl
  | 44, _ => exact hP 44 _ rfl
  | 45, _ => exact hP 45 _ rfl
  | 46, _ => exact hP 46 _ rfl
  | 47, _ => exact hP 47 _ rfl
  | 48, _ => exact hP 48 _ rfl
  | 49, _ => exact hP 49 _ rfl
  | 50, _ => exact hP 50 _ rfl
  | 51, _ => exact hP 51 _ rfl
  | 52, _ => exact hP 52 _ rfl
  | 53, _ => exact hP 53 _ rfl
  | 54, _ => exact hP 54 _ rfl
  | 55, _ => exact hP 55 _ rfl
  | 56, _ => exact hP 56 _ rfl
  | 57, _ => exact hP 57 _ rfl
  | 58, _ => exact hP 58 _ rfl
  | 59, _ => exact hP 59 _ rfl
  | 60, _ => exact hP 60 _ rfl
  | 61, _ => exact hP 61 _ rfl
  | 62, _ => exact hP 62 _ rfl
  | 63, _ => exact hP 63 _ rfl
  | 64, _ => exact hP 64 _ rfl
  | 65, _ => exact hP 65 _ rfl
  | 66, _ => exact hP 66 _ rfl
  | 67, _ => exact hP 67 _ rfl
  | 68, _ => exact hP 68 _ rfl
  | 69, _ => exact hP 69 _ rfl
  | 70, _ => exact hP 70 _ rfl
  | 71, _ => exact hP 71 _ rfl
  | 72, _ => exact hP 72 _ rfl
  | 73, _ => exact hP 73 _ rfl
  | 74, _ => exact hP 74 _ rfl
  | 75, _ => exact hP 75 _ rfl
  | 76, _ => exact hP 76 _ rfl
  | 77, _ => exact hP 77 _ rfl
  | 78, _ => exact hP 78 _ rfl
  | k + 79, hk => exact absurd hk (by omega)
theorem S0_D {A : Nat → Prop} {cy : Nat → ClassId} {h0 q1 q2 q3 q4 q5 q6 q7 q8 q9 q10 q11 q12 q13 q14 q15 q16 q17 q18 q19 q20 q21 q22 q23 q24 q25 q26 q27 q28 q29 q30 q31 q32 q33 g0 g1 g2 g3 g4 g5 g6 g7 g8 g9 g10 g11 g12 g13 g14 g15 g16 g17 g18 g19 g20 g21 g22 g23 g24 g25 g26 g27 g28 g29 g30 g31 g32 g33 g34 g35 g36 g37 g38 g39 g40 g41 g42 g43 g44 : Nat} (hD : va_D A [(h0, .inr (9, [.ref q1, .int (0 : Int32), .ref q2, .null, .ref q3, .ref q12, .ref q17, .ref q22, .ref q24, .ref q27, .ref q32])), (q1, .inl (cy 1, 100, .inl (fun _ => 0))), (q2, .inl (cy 4, 4, .inr (.inr (.inr (.inr (fun _ => none)))))), (q3, .inr (6, [.ref q4, .int (0 : Int32), .int (0 : Int32), .ref q5, .int (0 : Int32), .int (-1 : Int32), .int (0 : Int32), .int (0 : Int32), .int (0 : Int32)])), (q4, .inl (cy 1, 100, .inl (fun _ => 0))), (q5, .inr (7, [.int (0 : Int32), .long (0 : Int64), .ref q6, .ref q7, .ref q8, .ref q9, .ref q10, .ref q11])), (q6, .inl (cy 1, 6, .inl (fun _ => 0))), (q7, .inl (cy 1, 6, .inl (fun _ => 0))), (q8, .inl (cy 1, 6, .inl (fun _ => 0))), (q9, .inl (cy 3, 6, .inl (fun _ => 0))), (q10, .inl (cy 1, 24, .inl (fun _ => 0))), (q11, .inl (cy 1, 180, .inl (fun _ => 0))), (q12, .inr (5, [.ref q13, .ref q14, .ref q15, .ref q16])), (q13, .inl (cy 1, 6, .inl (fun _ => 0))), (q14, .inl (cy 1, 6, .inl (fun _ => 0))), (q15, .inl (cy 1, 64, .inl (fun _ => 0))), (q16, .inl (cy 1, 150, .inl (fun _ => 0))), (q17, .inr (3, [.ref q18, .ref q19, .ref q20, .ref q21])), (q18, .inl (cy 1, 150, .inl (fun _ => 0))), (q19, .inl (cy 1, 150, .inl (fun _ => 0))), (q20, .inl (cy 1, 150, .inl (fun _ => 0))), (q21, .inl (cy 3, 150, .inl (fun _ => 0))), (q22, .inr (0, [.ref q23])), (q23, .inl (cy 2, 4350, .inr (.inl (fun _ => 0)))), (q24, .inr (2, [.ref q25, .ref q26])), (q25, .inl (cy 2, 352, .inr (.inl (fun _ => 0)))), (q26, .inl (cy 2, 352, .inr (.inl (fun _ => 0)))), (q27, .inr (1, [.ref q28, .ref q29, .ref q30, .ref q31, .int (0 : Int32)])), (q28, .inl (cy 1, 300, .inl (fun _ => 0))), (q29, .inl (cy 1, 300, .inl (fun _ => 0))), (q30, .inl (cy 1, 300, .inl (fun _ => 0))), (q31, .inl (cy 1, 300, .inl (fun _ => 0))), (q32, .inr (8, [.ref q33, .int (0 : Int32)])), (q33, .inl (cy 1, 300, .inl (fun _ => 0))), (g0, .inr (10, [.ref g1, .ref g2, .int 0, .int 0, .int 0, .int (-1 : Int32), .int 0, .ref g3, .ref g4, .ref g5, .ref g6, .ref g7, .ref g8, .int 0, .ref g9, .ref g10, .ref g11, .ref g12, .ref g13, .ref g14, .ref g15, .ref g16, .ref g17, .ref g18, .ref g19, .int 0, .ref g20, .int 0, .int 0, .int 0, .ref g21, .ref g22, .ref g23, .ref g24, .ref g25, .ref g26, .ref g27, .int 0, .int 0, .int 0, .ref g28, .ref g29, .ref g30, .int 0, .ref g31, .ref g32, .ref g33, .ref g34, .ref g35, .ref g36, .ref g37, .ref g38, .ref g39, .ref g40, .ref g41, .ref g42, .ref g43, .ref g44, .int 0])), (g1, .inl (cy 0, 100, .inl (fun _ => 0))), (g2, .inl (cy 0, 100, .inl (fun _ => 0))), (g3, .inl (cy 1, 6, .inl (fun _ => 0))), (g4, .inl (cy 3, 6, .inl (fun _ => 0))), (g5, .inl (cy 1, 6, .inl (fun _ => 0))), (g6, .inl (cy 1, 6, .inl (fun _ => 0))), (g7, .inl (cy 1, 180, .inl (fun _ => 0))), (g8, .inl (cy 1, 180, .inl (fun _ => 0))), (g9, .inl (cy 1, 400, .inl (fun _ => 0))), (g10, .inl (cy 1, 4, .inl (fun _ => 0))), (g11, .inl (cy 1, 4, .inl (fun _ => 0))), (g12, .inl (cy 1, 4, .inl (fun _ => 0))), (g13, .inl (cy 1, 4, .inl (fun _ => 0))), (g14, .inl (cy 1, 2400, .inl (fun _ => 0))), (g15, .inl (cy 3, 600, .inl (fun _ => 0))), (g16, .inl (cy 1, 3600, .inl (fun _ => 0))), (g17, .inl (cy 1, 600, .inl (fun _ => 0))), (g18, .inl (cy 1, 600, .inl (fun _ => 0))), (g19, .inl (cy 1, 600, .inl (fun _ => 0))), (g20, .inl (cy 1, 22600, .inl (fun _ => 0))), (g21, .inl (cy 3, 12, .inl (fun _ => 0))), (g22, .inl (cy 3, 12, .inl (fun _ => 0))), (g23, .inl (cy 1, 12, .inl (fun _ => 0))), (g24, .inl (cy 1, 12, .inl (fun _ => 0))), (g25, .inl (cy 3, 12, .inl (fun _ => 0))), (g26, .inl (cy 1, 12, .inl (fun _ => 0))), (g27, .inl (cy 1, 12, .inl (fun _ => 0))), (g28, .inl (cy 3, 12, .inl (fun _ => 0))), (g29, .inl (cy 3, 12, .inl (fun _ => 0))), (g30, .inl (cy 3, 12, .inl (fun _ => 0))), (g31, .inl (cy 3, 400, .inl (fun _ => 0))), (g32, .inl (cy 1, 6, .inl (fun _ => 0))), (g33, .inl (cy 1, 150, .inl (fun _ => 0))), (g34, .inl (cy 1, 900, .inl (fun _ => 0))), (g35, .inl (cy 1, 600, .inl (fun _ => 0))), (g36, .inl (cy 1, 150, .inl (fun _ => 0))), (g37, .inl (cy 1, 150, .inl (fun _ => 0))), (g38, .inl (cy 3, 150, .inl (fun _ => 0))), (g39, .inl (cy 3, 150, .inl (fun _ => 0))), (g40, .inl (cy 2, 4350, .inr (.inl (fun _ => 0)))), (g41, .inl (cy 1, 22500, .inl (fun _ => 0))), (g42, .inl (cy 1, 22500, .inl (fun _ => 0))), (g43, .inl (cy 1, 22500, .inl (fun _ => 0))), (g44, .inl (cy 3, 22500, .inl (fun _ => 0)))]) (S : Sg) : va_D A (wW cy (fun i => ([h0, q1, q2, q3, q4, q5, q6, q7, q8, q9, q10, q11, q12, q13, q14, q15, q16, q17, q18, q19, q20, q21, q22, q23, q24, q25, q26, q27, q28, q29, q30, q31, q32, q33, g0, g1, g2, g3, g4, g5, g6, g7, g8, g9, g10, g11, g12, g13, g14, g15, g16, g17, g18, g19, g20, g21, g22, g23, g24, g25, g26, g27, g28, g29, g30, g31, g32, g33, g34, g35, g36, g37, g38, g39, g40, g41, g42, g43, g44] : List Nat).getD i 0) 0 S) := D_fst hD rfl
theorem lw_K {args : Array Value} {s : State} (hts : ∀ w ∈ lw_tbl, w.before args s = true) : ∃ (D : va_G) (cy : Nat → ClassId), va_K D vwCl (tysOf cy) s := by
  have htA : ∀ w ∈ wsAll, w.before args s = true := fun w h => hts w (List.mem_filter.mp h).1
  have hC : ∀ k : Nat, ∃ cd : ClassId × (Nat → Nat), ∀ q : vw_C, vwCl[k]? = some q → u_Kn s q.1 q.2.1 q.2.2 cd.1 cd.2 := by
    intro k
    match k with
    | 0 =>
      obtain ⟨c, i, h⟩ := u_known (C := RX0) (T := TX0) (N := 1) (n := 1) htA inA0 (htA _ wkn_0)
      exact ⟨(c, i), fun q hq => by cases hq; exact h⟩
    | 1 =>
      obtain ⟨c, i, h⟩ := u_known (C := RX1) (T := TX1) (N := 5) (n := 5) htA inA1 (htA _ wkn_1)
      exact ⟨(c, i), fun q hq => by cases hq; exact h⟩
    | 2 =>
      obtain ⟨c, i, h⟩ := u_known (C := RX2) (T := TX2) (N := 2) (n := 2) htA inA2 (htA _ wkn_2)
      exact ⟨(c, i), fun q hq => by cases hq; exact h⟩
    | 3 =>
      obtain ⟨c, i, h⟩ := u_known (C := RX3) (T := TX3) (N := 4) (n := 4) htA inA3 (htA _ wkn_3)
      exact ⟨(c, i), fun q hq => by cases hq; exact h⟩
    | 4 =>
      obtain ⟨c, i, h⟩ := u_known (C := RX4) (T := TX4) (N := 10) (n := 10) htA inA4 (htA _ wkn_4)
      exact ⟨(c, i), fun q hq => by cases hq; exact h⟩
    | 5 =>
      obtain ⟨c, i, h⟩ := u_known (C := RX5) (T := TX5) (N := 4) (n := 4) htA inA5 (htA _ wkn_5)
      exact ⟨(c, i), fun q hq => by cases hq; exact h⟩
    | 6 =>
      obtain ⟨c, i, h⟩ := u_known (C := RX6) (T := TX6) (N := 9) (n := 9) htA inA6 (htA _ wkn_6)
      exact ⟨(c, i), fun q hq => by cases hq; exact h⟩
    | 7 =>
      obtain ⟨c, i, h⟩ := u_known (C := RX7) (T := TX7) (N := 8) (n := 8) htA inA7 (htA _ wkn_7)
      exact ⟨(c, i), fun q hq => by cases hq; exact h⟩
    | 8 =>
      obtain ⟨c, i, h⟩ := u_known (C := RX8) (T := TX8) (N := 2) (n := 2) htA inA8 (htA _ wkn_8)
      exact ⟨(c, i), fun q hq => by cases hq; exact h⟩
    | 9 =>
      obtain ⟨c, i, h⟩ := u_known (C := RX9) (T := TX9) (N := 11) (n := 11) htA inA9 (htA _ wkn_9)
      exact ⟨(c, i), fun q hq => by cases hq; exact h⟩
    | 10 =>
      obtain ⟨c, i, h⟩ := u_known (C := RX10) (T := TX10) (N := 59) (n := 59) htA inA10 (htA _ wkn_10)
      exact ⟨(c, i), fun q hq => by cases hq; exact h⟩
    | k + 11 =>
      obtain ⟨c, i, h⟩ := u_known (C := RX0) (T := TX0) (N := 1) (n := 1) htA inA0 (htA _ wkn_0)
      exact ⟨(c, i), fun q hq => by simp [vwCl] at hq⟩
  have ar : ∀ ty : FieldType, (∀ C, ty ≠ .object C) → (Cond.arrayClass ty).before args s = true → ∃ cA, ArrOfT s cA ty ∧ va_RA s cA ty := by
    intro ty hty h
    obtain ⟨c, k, comp, h1, h2, h3⟩ := Cond.arrayClass_spec h
    refine ⟨c, fun n z => ⟨fun k h => (by cases h), k, h2, comp, h3⟩, ?_⟩
    cases ty with
    | object n => exact absurd rfl (hty n)
    | _ => exact h1
  obtain ⟨c0, k0⟩ := ar .byte (fun _ h => by cases h) (htA _ wka_byte)
  obtain ⟨c1, k1⟩ := ar .int (fun _ h => by cases h) (htA _ wka_int)
  obtain ⟨c2, k2⟩ := ar .long (fun _ h => by cases h) (htA _ wka_long)
  obtain ⟨c3, k3⟩ := ar .boolean (fun _ h => by cases h) (htA _ wka_boolean)
  have h4 : (Cond.arrayOver (.object "WordMachines$Machine")).before args s = true := hts _ (List.mem_append_right _ (List.mem_of_getElem? (i := 23) (by decide +kernel)))
  obtain ⟨comp, c4, k4, g1, g2, g3, g4, g5⟩ := Cond.arrayOver_spec h4
  refine ⟨(fun k => (Classical.choose (hC k)).1, fun k => (Classical.choose (hC k)).2), fun i => if i = 0 then c0 else if i = 1 then c1 else if i = 2 then c2 else if i = 3 then c3 else c4, fun k q hq => Classical.choose_spec (hC k) q hq, fun k q hq => ?_⟩
  match k, hq with
  | 0, hq => cases hq; exact k0
  | 1, hq => cases hq; exact k1
  | 2, hq => cases hq; exact k2
  | 3, hq => cases hq; exact k3
  | 4, hq => cases hq; exact ⟨fun n z => ⟨fun k h => (by cases h), k4, g3, comp, g4⟩, k4, comp, g3, g4, g1, g5⟩
  | k + 5, hq => simp [tysOf] at hq
theorem lw_N {args : Array Value} {s : State} (hts : ∀ w ∈ lw_tbl, w.before args s = true) : gN s := by
  intro w hw hn
  have h := hts w (List.mem_append_right _ hw)
  cases w <;> first | (simp [isNest] at hn; done) | exact va_Nw.of rfl h
theorem lw_T {b : Nat} {s : State} (hts : ∀ w ∈ lw_tbl, w.before #[Value.ref b] s = true) (hgv : (Jvm.Cond.and given_1 narrow_1).before #[Value.ref b] s = true) : gT (fun q : Nat => s.heap.size ≤ q) s s.heap := by
  have hs := flat_of_before _ hgv
  have hA : ∀ a : Nat, a < s.heap.size → ¬ (fun q : Nat => s.heap.size ≤ q) a := fun a h => Nat.not_le.mpr h
  obtain ⟨t, h1, h2⟩ := va_Tof (tm := Term.static "WordMachines$Parser" "TRUTHS" "[J") (ty := .long) (N := 6) (f := fun j => .long (tru j)) (A := fun q : Nat => s.heap.size ≤ q) (by decide) (hs (Cond.arrayOf (Term.static "WordMachines$Parser" "TRUTHS" "[J") .long) (by decide +kernel)) (va_eqt (hs (Cond.eq (Term.length (Term.static "WordMachines$Parser" "TRUTHS" "[J")) (.int 6)) (by decide +kernel))) (fun j hj => by
    match j, hj with
    | 0, _ => exact va_eqtl (hs (Cond.eq (Term.elem (Term.static "WordMachines$Parser" "TRUTHS" "[J") (.int 0)) (.long (-6148914691236517206))) (by decide +kernel))
    | 1, _ => exact va_eqtl (hs (Cond.eq (Term.elem (Term.static "WordMachines$Parser" "TRUTHS" "[J") (.int 1)) (.long (-3689348814741910324))) (by decide +kernel))
    | 2, _ => exact va_eqtl (hs (Cond.eq (Term.elem (Term.static "WordMachines$Parser" "TRUTHS" "[J") (.int 2)) (.long (-1085102592571150096))) (by decide +kernel))
    | 3, _ => exact va_eqtl (hs (Cond.eq (Term.elem (Term.static "WordMachines$Parser" "TRUTHS" "[J") (.int 3)) (.long (-71777214294589696))) (by decide +kernel))
    | 4, _ => exact va_eqtl (hs (Cond.eq (Term.elem (Term.static "WordMachines$Parser" "TRUTHS" "[J") (.int 4)) (.long (-281470681808896))) (by decide +kernel))
    | 5, _ => exact va_eqtl (hs (Cond.eq (Term.elem (Term.static "WordMachines$Parser" "TRUTHS" "[J") (.int 5)) (.long (-4294967296))) (by decide +kernel))
    | k + 6, hj => exact absurd hj (by omega)) hA
  exact ⟨t, va_Zref (hts _ (List.mem_append_right _ (List.mem_of_getElem? (i := 355) (by decide +kernel)))) (hts _ (List.mem_append_right _ (List.mem_of_getElem? (i := 2) (by decide +kernel)))) h1 hA, h2⟩
set_option maxRecDepth 40000 in
set_option maxHeartbeats 4000000 in
/-- the law from its entry, out of the pure claim -/
theorem whole_of {Inv : Nat → Sg → Prop} (hI : Inv 0 S0) (ok : OK_all Inv) {p : Program} {e : Env} {s : State} {m : MethodId} {below : List Frame} {meth : Method} {c : Code} (l : Launch) {b L : Nat} {xs : Nat → Int32} (hL : L ≤ 3072) (C0 : lw_At p s m meth c b L xs) : W p l e room_1 s m #[Value.ref b] below meth c s.heap [] 0 0 (lw_Z below #[Value.ref b] s) (entryFrame m ([Value.ref b] : List Value).toArray 4) := by
  obtain ⟨hx, hb, hr, hml, hown, hts, hX, hbl, hlocks, hgv⟩ := id C0
  have hA : ∀ q : Nat, s.heap.size ≤ q → (fun q : Nat => s.heap.size ≤ q) q := fun _ h => h
  have htA : ∀ w ∈ wsAll, w.before #[Value.ref b] s = true := fun w h => hts w (List.mem_filter.mp h).1
  obtain ⟨D, cy, hK⟩ := lw_K hts
  have hN := lw_N hts
  have hT := lw_T hts hgv
  have KC : kC p s m #[Value.ref b] meth c code 4 RL D cy true (fun q : Nat => s.heap.size ≤ q) := ⟨hx, hb, hml, hown, htA, hK, hA, hN, hlocks, fun _ => va_AO.of (hts _ (List.mem_append_right _ (List.mem_of_getElem? (i := 23) (by decide +kernel))))⟩
  have hl := lv_entry ([.ref b]) (n := 4) (Nat.le_of_ble_eq_true rfl)
  rw [lg_entry_eq]
  have hl : lv_has _ 4 [(0, .ref b)] := hl
  have hP : va_P D vwCl [] s.heap := fun k q h => by simp at h
  have hD : va_D (fun q : Nat => s.heap.size ≤ q) [] := ⟨fun i j p q h => by simp at h, fun k q h => by simp at h⟩
  refine k_newC KC (own := RL) 3 4 7 (rm := rm_X9_init) (ty := tyX9) (fs := [.null, .int 0, .null, .null, .null, .null, .null, .null, .null, .null, .null]) (fun h0 sz => c_X9_init l D cy h0 sz) rfl inA9 tyX9_ok wkc_L_0 wkn_9 wkz_9 (fun j hj => by rcases (show j = 0 ∨ j = 1 ∨ j = 2 ∨ j = 3 ∨ j = 4 ∨ j = 5 ∨ j = 6 ∨ j = 7 ∨ j = 8 ∨ j = 9 ∨ j = 10 by omega) with rfl | rfl | rfl | rfl | rfl | rfl | rfl | rfl | rfl | rfl | rfl <;> rfl) wkm_L_0 wki_9 wkd_9 wkz_9 rfl (by decide +kernel) rfl rfl ⟨Nat.le_of_ble_eq_true rfl, Nat.le_of_ble_eq_true rfl⟩ ⟨Nat.le_of_ble_eq_true rfl, Nat.le_of_ble_eq_true rfl⟩ (Nat.le_of_ble_eq_true rfl) dL_law_0 rfl dL_law_3 rfl dL_law_4 rfl (fun h0 w1 hB => ?_) s.heap [] _ hP hD va_S.rf hl
  obtain ⟨q1, q2, q3, q4, q5, q6, q7, q8, q9, q10, q11, q12, q13, q14, q15, q16, q17, q18, q19, q20, q21, q22, q23, q24, q25, q26, q27, q28, q29, q30, q31, q32, q33, rfl⟩ := hB
  intro H locs ls hP hD hS hl
  refine lv_astore_n (lv' := [(1, .ref h0), (0, .ref b)]) hx hb dL_law_7 rfl hl (by decide) rfl (fun ls hl => ?_)
  refine k_newC KC (own := RL) 11 12 15 (rm := rm_X10_init) (ty := tyX10) (fs := [.null, .null, .int 0, .int 0, .int 0, .int 0, .int 0, .null, .null, .null, .null, .null, .null, .int 0, .null, .null, .null, .null, .null, .null, .null, .null, .null, .null, .null, .int 0, .null, .int 0, .int 0, .int 0, .null, .null, .null, .null, .null, .null, .null, .int 0, .int 0, .int 0, .null, .null, .null, .int 0, .null, .null, .null, .null, .null, .null, .null, .null, .null, .null, .null, .null, .null, .null, .int 0]) (fun h0 sz => c_X10_init l D cy true h0 sz) rfl inA10 tyX10_ok wkc_L_1 wkn_10 wkz_10 (fun j hj => by rcases (show j = 0 ∨ j = 1 ∨ j = 2 ∨ j = 3 ∨ j = 4 ∨ j = 5 ∨ j = 6 ∨ j = 7 ∨ j = 8 ∨ j = 9 ∨ j = 10 ∨ j = 11 ∨ j = 12 ∨ j = 13 ∨ j = 14 ∨ j = 15 ∨ j = 16 ∨ j = 17 ∨ j = 18 ∨ j = 19 ∨ j = 20 ∨ j = 21 ∨ j = 22 ∨ j = 23 ∨ j = 24 ∨ j = 25 ∨ j = 26 ∨ j = 27 ∨ j = 28 ∨ j = 29 ∨ j = 30 ∨ j = 31 ∨ j = 32 ∨ j = 33 ∨ j = 34 ∨ j = 35 ∨ j = 36 ∨ j = 37 ∨ j = 38 ∨ j = 39 ∨ j = 40 ∨ j = 41 ∨ j = 42 ∨ j = 43 ∨ j = 44 ∨ j = 45 ∨ j = 46 ∨ j = 47 ∨ j = 48 ∨ j = 49 ∨ j = 50 ∨ j = 51 ∨ j = 52 ∨ j = 53 ∨ j = 54 ∨ j = 55 ∨ j = 56 ∨ j = 57 ∨ j = 58 by omega) with rfl | rfl | rfl | rfl | rfl | rfl | rfl | rfl | rfl | rfl | rfl | rfl | rfl | rfl | rfl | rfl | rfl | rfl | rfl | rfl | rfl | rfl | rfl | rfl | rfl | rfl | rfl | rfl | rfl | rfl | rfl | rfl | rfl | rfl | rfl | rfl | rfl | rfl | rfl | rfl | rfl | rfl | rfl | rfl | rfl | rfl | rfl | rfl | rfl | rfl | rfl | rfl | rfl | rfl | rfl | rfl | rfl | rfl | rfl <;> rfl) wkm_L_1 wki_10 wkd_10 wkz_10 rfl (by decide +kernel) rfl rfl ⟨Nat.le_of_ble_eq_true rfl, Nat.le_of_ble_eq_true rfl⟩ ⟨Nat.le_of_ble_eq_true rfl, Nat.le_of_ble_eq_true rfl⟩ (Nat.le_of_ble_eq_true rfl) dL_law_8 rfl dL_law_11 rfl dL_law_12 rfl (fun g0 w1 hB => ?_) H locs ls hP hD hS hl
  obtain ⟨g1, g2, g3, g4, g5, g6, g7, g8, g9, g10, g11, g12, g13, g14, g15, g16, g17, g18, g19, g20, g21, g22, g23, g24, g25, g26, g27, g28, g29, g30, g31, g32, g33, g34, g35, g36, g37, g38, g39, g40, g41, g42, g43, g44, rfl⟩ := hB
  intro H locs ls hP hD hS hl
  refine lv_astore_n (lv' := [(2, .ref g0), (1, .ref h0), (0, .ref b)]) hx hb dL_law_15 rfl hl (by decide) rfl (fun ls hl => ?_)
  refine lv_iconst (v := 0) hx hb dL_law_16 (by decide) ?_
  refine lv_istore_n (lv' := [(3, .int 0), (2, .ref g0), (1, .ref h0), (0, .ref b)]) hx hb dL_law_17 rfl hl (by decide) rfl (fun ls hl => ?_)
  have hP' := S0_P hP
  have hD' := S0_D (cy := cy) hD
  exact lw_loop hL hX hbl hr ok (L + 7) 0 0 _ S0 _ _ 0 ⟨hx, hb, hml, hown, htA, hK, hD', hA, hN, hT, hlocks⟩ hI nI_0.symm (by omega) (by omega) (Nat.le_of_ble_eq_true rfl) (Nat.le_of_ble_eq_true rfl) H locs ls hP' hS (lv_sub hl [3, 2, 1, 0] rfl)
