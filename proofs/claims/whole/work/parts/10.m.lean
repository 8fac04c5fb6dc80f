def rm_X10_lies : Room := { frames := 0, cells := 0, slots := 0, locals := 0 }
set_option maxRecDepth 20000 in
theorem t_X10_lies {p : Program} {l : Launch} {e : Env} {s : State} {m : MethodId} {args : Array Value} {below : List Frame} {meth : Method} {c : Code} {D : va_G} {cy : Nat → ClassId} {ad : Nat → Nat} {n : Nat} {A : Nat → Prop} (C : gC p s m args meth c cX10_lies 3 RX10 D cy ad n A) (hr : meth.sig.returnType = (some .boolean)) {z : Int32 × Sg} {S : Sg} {x0 : Int32} {x1 : Int32} {x2 : Int32} (hz : f_X10_lies x0 x1 x2 S = some z) : gW p l e rm_X10_lies s m args below meth c D cy ad n A 3 0 0 (MQ below (gQ D cy ad n A (some (.int z.1)) z.2) args s 0 0 A) S 0 [(0, .int x0), (1, .int x1), (2, .int x2)] [] := by
  unfold f_X10_lies at hz
  refine g_iload_n C 1 0 rfl dX10_lies_0 rfl ?_
  refine g_iload_n C 2 1 rfl dX10_lies_1 rfl ?_
  refine g_icmp_lt C 14 5 dX10_lies_2 rfl rfl hz (fun hz => ?_) (fun hz => ?_)
  · refine g_iconst C 15 (0 : Int32) ci_0 dX10_lies_14 rfl ?_
    exact g_zretc C hr (by decide) dX10_lies_15 hz
  · refine g_iload_n C 6 0 rfl dX10_lies_5 rfl ?_
    refine g_iload_n C 7 2 rfl dX10_lies_6 rfl ?_
    refine g_icmp_gt C 14 10 dX10_lies_7 rfl rfl hz (fun hz => ?_) (fun hz => ?_)
    · refine g_iconst C 15 (0 : Int32) ci_0 dX10_lies_14 rfl ?_
      exact g_zretc C hr (by decide) dX10_lies_15 hz
    · refine g_iconst C 11 (1 : Int32) ci_1 dX10_lies_10 rfl ?_
      refine g_goto C 15 dX10_lies_11 rfl ?_
      exact g_zretc C hr (by decide) dX10_lies_15 hz
theorem c_X10_lies (l : Launch) (D : va_G) (cy : Nat → ClassId) (ad : Nat → Nat) (n : Nat) (S : Sg) (sz : Nat) (x0 : Int32) (x1 : Int32) (x2 : Int32) (z : Int32 × Sg) (hz : f_X10_lies x0 x1 x2 S = some z) : Met l yX10_lies (.code yX10_lies cX10_lies 3 (some .boolean) :: wsAll) rm_X10_lies (gPc D cy ad n S sz [.int x0, .int x1, .int x2]) (gQ D cy ad n (va_A (wW cy ad n S) sz) (some (.int z.1)) z.2) 0 0 (va_A (wW cy ad n S) sz) := by
  refine gMet (lv := [(0, .int x0), (1, .int x1), (2, .int x2)]) (by decide) (Nat.le_of_ble_eq_true rfl) rfl ?_
  intro p e s m args below meth c A hA hr C
  exact t_X10_lies C hr hz
def rm_X10_push : Room := { frames := 0, cells := 0, slots := 0, locals := 0 }
set_option maxRecDepth 20000 in
theorem t_X10_push_L3 {p : Program} {l : Launch} {e : Env} {s : State} {m : MethodId} {args : Array Value} {below : List Frame} {meth : Method} {c : Code} {D : va_G} {cy : Nat → ClassId} {ad : Nat → Nat} {n : Nat} {A : Nat → Prop} (C : gC p s m args meth c cX10_push 3 RX10 D cy ad n A) (hr : meth.sig.returnType = none) {z : Sg} : ∀ (fl : Nat) (x1 : Int32) (x2 : Int32) (S : Sg), f_X10_push_L3 fl x1 x2 S = some z → gW p l e rm_X10_push s m args below meth c D cy ad n A 3 0 0 (MQ below (gQ D cy ad n A none z) args s 0 0 A) S 3 [(0, .ref (ad 34)), (1, .int x1), (2, .int x2)] [] := by
  intro fl
  induction fl with
  | zero =>
    intro x1 x2 S hz
    rw [f_X10_push_L3] at hz
    cases hz
  | succ fl ih =>
    intro x1 x2 S hz
    rw [f_X10_push_L3] at hz
    refine g_iload_n C 4 2 rfl dX10_push_3 rfl ?_
    refine g_if_lt C 36 7 dX10_push_4 rfl rfl hz (fun hz => ?_) (fun hz => ?_)
    · exact g_vret C hr dX10_push_36 hz
    · refine g_aload_n C 8 0 rfl dX10_push_7 rfl ?_
      refine gf_10_7 C 11 dX10_push_8 rfl ?_
      refine g_aload_n C 12 0 rfl dX10_push_11 rfl ?_
      refine gf_10_149 C 15 dX10_push_12 rfl ?_
      refine g_iload_n C 16 1 rfl dX10_push_15 rfl ?_
      refine g_iload_n C 17 2 rfl dX10_push_16 rfl ?_
      refine g_ishr C 18 dX10_push_17 rfl ?_
      refine g_i2b C 19 dX10_push_18 rfl ?_
      refine g_bast C 20 ha_35 dX10_push_19 rfl hz (fun S_2 hz => ?_)
      refine g_aload_n C 21 0 rfl dX10_push_20 rfl ?_
      refine g_dup C 22 rfl dX10_push_21 rfl ?_
      refine gf_10_149 C 25 dX10_push_22 rfl ?_
      refine g_iconst C 26 (1 : Int32) ci_1 dX10_push_25 rfl ?_
      refine g_iadd C 27 dX10_push_26 rfl ?_
      refine pf_10_149 C 30 dX10_push_27 rfl hz (fun S_3 hz => ?_)
      refine g_iinc C 33 2 [1, 2, 0] (-8 : Int32) ci_m8 (fun x2_4 => [(0, .ref (ad 34)), (1, .int x1), (2, .int x2_4)]) dX10_push_30 rfl rfl (by decide) (fun x2_4 => rfl) hz (fun x2_4 hz => ?_)
      refine g_goto C 3 dX10_push_33 rfl ?_
      exact ih x1 x2_4 S_3 hz
set_option maxRecDepth 20000 in
theorem t_X10_push {p : Program} {l : Launch} {e : Env} {s : State} {m : MethodId} {args : Array Value} {below : List Frame} {meth : Method} {c : Code} {D : va_G} {cy : Nat → ClassId} {ad : Nat → Nat} {n : Nat} {A : Nat → Prop} (C : gC p s m args meth c cX10_push 3 RX10 D cy ad n A) (hr : meth.sig.returnType = none) {z : Sg} {S : Sg} {x1 : Int32} (hz : f_X10_push x1 S = some z) : gW p l e rm_X10_push s m args below meth c D cy ad n A 3 0 0 (MQ below (gQ D cy ad n A none z) args s 0 0 A) S 0 [(0, .ref (ad 34)), (1, .int x1)] [] := by
  unfold f_X10_push at hz
  refine g_bipush C 2 (24 : Int32) cb_24 dX10_push_0 rfl ?_
  refine g_istore_n C 3 (i := 2) [1, 2, 0] (fun x2_1 => [(0, .ref (ad 34)), (1, .int x1), (2, .int x2_1)]) dX10_push_2 rfl rfl (by decide) (fun x2_1 => rfl) hz (fun x2_1 hz => ?_)
  exact (t_X10_push_L3 C hr fu) x1 x2_1 S hz
theorem c_X10_push (l : Launch) (D : va_G) (cy : Nat → ClassId) (ad : Nat → Nat) (n : Nat) (S : Sg) (sz : Nat) (x1 : Int32) (z : Sg) (hz : f_X10_push x1 S = some z) : Met l yX10_push (.code yX10_push cX10_push 3 none :: wsAll) rm_X10_push (gPc D cy ad n S sz [.ref (ad 34), .int x1]) (gQ D cy ad n (va_A (wW cy ad n S) sz) none z) 0 0 (va_A (wW cy ad n S) sz) := by
  refine gMet (lv := [(0, .ref (ad 34)), (1, .int x1)]) (by decide) (Nat.le_of_ble_eq_true rfl) rfl ?_
  intro p e s m args below meth c A hA hr C
  exact t_X10_push C hr hz
def rm_X10_feed : Room := { frames := 1, cells := 0, slots := 0, locals := 22 }
theorem wl_10_152 : Cond.methodLink RX10 152 yX10_push ∈ wsAll := wA 794 (by decide +kernel) (by decide +kernel)
theorem wi_X10_push : Cond.instanceMethod yX10_push ∈ wsAll := wA 796 (by decide +kernel) (by decide +kernel)
theorem we_X10_push : Cond.selects RX10 yX10_push yX10_push ∈ wsAll := wAp 50 (by decide +kernel) (by decide +kernel)
theorem wz_10 : Cond.initialized RX10 ∈ wsAll := wA 10 (by decide +kernel) (by decide +kernel)
theorem wo_X10_push : Cond.code yX10_push cX10_push 3 none ∈ wsAll := wA 797 (by decide +kernel) (by decide +kernel)
theorem cl_10_152 {p : Program} {l : Launch} {e : Env} {R : Room} {s : State} {m : MethodId} {args : Array Value} {below : List Frame} {meth : Method} {c : Code} {cc : ByteArray} {nL : Nat} {D : va_G} {cy : Nat → ClassId} {ad : Nat → Nat} {n : Nat} {A : Nat → Prop} {mc ms : Nat} {Q : State → Prop} {S : Sg} {pc : Nat} {lv : List (Nat × Value)} {st : List Value} {ζ : Type} {z : ζ} (C : gC p s m args meth c cc nL RX10 D cy ad n A) (nx : Nat) {x1 : Int32} (hR : Room.frames rm_X10_push + 1 ≤ R.frames ∧ 8 + (3 + 11) + Room.locals rm_X10_push ≤ R.locals) (hcm : mc ≤ R.cells ∧ ms ≤ R.slots) (hrest : (st.map fun v => v.category).sum ≤ 8) (hd : decode cc pc = .ok (.invokevirtual 152, 3)) (hn : pc + 3 = nx) {K : Sg → Option ζ} (hz : bd (f_X10_push x1 S) K = some z) (kk : ∀ S', K S' = some z → gW p l e R s m args below meth c D cy ad n A nL mc ms Q S' nx lv st) : gW p l e R s m args below meth c D cy ad n A nL mc ms Q S pc lv (.int x1 :: .ref (ad 34) :: st) := by
  obtain ⟨q, hq, hk⟩ := bd_s hz
  exact g_callV C (i := 34) (ci := 10) (Cn := RX10) (T := TX10) (N := 59) (y := yX10_push) (rm := rm_X10_push) (As := [.int x1]) (rest := st) (na := 1) (fun sz => c_X10_push l D cy ad n S sz x1 q hq) ha_34 rfl rfl wl_10_152 wi_X10_push we_X10_push wz_10 wo_X10_push (by decide +kernel) rfl rfl hR hcm rfl hrest hn hd (kk q hk)
set_option maxRecDepth 20000 in
theorem t_X10_feed {p : Program} {l : Launch} {e : Env} {s : State} {m : MethodId} {args : Array Value} {below : List Frame} {meth : Method} {c : Code} {D : va_G} {cy : Nat → ClassId} {ad : Nat → Nat} {n : Nat} {A : Nat → Prop} (C : gC p s m args meth c cX10_feed 6 RX10 D cy ad n A) (hr : meth.sig.returnType = (some .int)) {z : Int32 × Sg} {S : Sg} {x1 : Int32} {x2 : Int32} {x3 : Int32} {x4 : Int32} {x5 : Int32} (hz : f_X10_feed x1 x2 x3 x4 x5 S = some z) : gW p l e rm_X10_feed s m args below meth c D cy ad n A 6 0 0 (MQ below (gQ D cy ad n A (some (.int z.1)) z.2) args s 0 0 A) S 0 [(0, .ref (ad 34)), (1, .int x1), (2, .int x2), (3, .int x3), (4, .int x4), (5, .int x5)] [] := by
  unfold f_X10_feed at hz
  refine g_aload_n C 1 0 rfl dX10_feed_0 rfl ?_
  refine gf_10_149 C 4 dX10_feed_1 rfl ?_
  refine g_bipush C 6 (20 : Int32) cb_20 dX10_feed_4 rfl ?_
  refine g_iadd C 7 dX10_feed_6 rfl ?_
  refine g_bipush C 9 (100 : Int32) cb_100 dX10_feed_7 rfl ?_
  refine g_icmp_le C 14 12 dX10_feed_9 rfl rfl hz (fun hz => ?_) (fun hz => ?_)
  · refine g_aload_n C 15 0 rfl dX10_feed_14 rfl ?_
    refine g_iload_n C 16 1 rfl dX10_feed_15 rfl ?_
    refine cl_10_152 C 19 ⟨Nat.le_of_ble_eq_true rfl, Nat.le_of_ble_eq_true rfl⟩ ⟨Nat.zero_le _, Nat.zero_le _⟩ (Nat.le_of_ble_eq_true rfl) dX10_feed_16 rfl hz (fun S_1 hz => ?_)
    refine g_aload_n C 20 0 rfl dX10_feed_19 rfl ?_
    refine g_iload_n C 21 2 rfl dX10_feed_20 rfl ?_
    refine cl_10_152 C 24 ⟨Nat.le_of_ble_eq_true rfl, Nat.le_of_ble_eq_true rfl⟩ ⟨Nat.zero_le _, Nat.zero_le _⟩ (Nat.le_of_ble_eq_true rfl) dX10_feed_21 rfl hz (fun S_2 hz => ?_)
    refine g_aload_n C 25 0 rfl dX10_feed_24 rfl ?_
    refine g_iload_n C 26 3 rfl dX10_feed_25 rfl ?_
    refine cl_10_152 C 29 ⟨Nat.le_of_ble_eq_true rfl, Nat.le_of_ble_eq_true rfl⟩ ⟨Nat.zero_le _, Nat.zero_le _⟩ (Nat.le_of_ble_eq_true rfl) dX10_feed_26 rfl hz (fun S_3 hz => ?_)
    refine g_aload_n C 30 0 rfl dX10_feed_29 rfl ?_
    refine g_iload C 32 4 rfl dX10_feed_30 rfl ?_
    refine cl_10_152 C 35 ⟨Nat.le_of_ble_eq_true rfl, Nat.le_of_ble_eq_true rfl⟩ ⟨Nat.zero_le _, Nat.zero_le _⟩ (Nat.le_of_ble_eq_true rfl) dX10_feed_32 rfl hz (fun S_4 hz => ?_)
    refine g_aload_n C 36 0 rfl dX10_feed_35 rfl ?_
    refine g_iload C 38 5 rfl dX10_feed_36 rfl ?_
    refine cl_10_152 C 41 ⟨Nat.le_of_ble_eq_true rfl, Nat.le_of_ble_eq_true rfl⟩ ⟨Nat.zero_le _, Nat.zero_le _⟩ (Nat.le_of_ble_eq_true rfl) dX10_feed_38 rfl hz (fun S_5 hz => ?_)
    refine g_aload_n C 42 0 rfl dX10_feed_41 rfl ?_
    refine gf_10_149 C 45 dX10_feed_42 rfl ?_
    exact g_iret C hr dX10_feed_45 hz
  · refine g_iconst C 13 (-1 : Int32) ci_m1 dX10_feed_12 rfl ?_
    exact g_iret C hr dX10_feed_13 hz
theorem c_X10_feed (l : Launch) (D : va_G) (cy : Nat → ClassId) (ad : Nat → Nat) (n : Nat) (S : Sg) (sz : Nat) (x1 : Int32) (x2 : Int32) (x3 : Int32) (x4 : Int32) (x5 : Int32) (z : Int32 × Sg) (hz : f_X10_feed x1 x2 x3 x4 x5 S = some z) : Met l yX10_feed (.code yX10_feed cX10_feed 6 (some .int) :: wsAll) rm_X10_feed (gPc D cy ad n S sz [.ref (ad 34), .int x1, .int x2, .int x3, .int x4, .int x5]) (gQ D cy ad n (va_A (wW cy ad n S) sz) (some (.int z.1)) z.2) 0 0 (va_A (wW cy ad n S) sz) := by
  refine gMet (lv := [(0, .ref (ad 34)), (1, .int x1), (2, .int x2), (3, .int x3), (4, .int x4), (5, .int x5)]) (by decide) (Nat.le_of_ble_eq_true rfl) rfl ?_
  intro p e s m args below meth c A hA hr C
  exact t_X10_feed C hr hz
def rm_X10_here : Room := { frames := 0, cells := 0, slots := 0, locals := 0 }
set_option maxRecDepth 20000 in
theorem t_X10_here {p : Program} {l : Launch} {e : Env} {s : State} {m : MethodId} {args : Array Value} {below : List Frame} {meth : Method} {c : Code} {D : va_G} {cy : Nat → ClassId} {ad : Nat → Nat} {n : Nat} {A : Nat → Prop} (C : gC p s m args meth c cX10_here 1 RX10 D cy ad n A) (hr : meth.sig.returnType = (some .int)) {z : Int32 × Sg} {S : Sg} (hz : f_X10_here S = some z) : gW p l e rm_X10_here s m args below meth c D cy ad n A 1 0 0 (MQ below (gQ D cy ad n A (some (.int z.1)) z.2) args s 0 0 A) S 0 [(0, .ref (ad 34))] [] := by
  unfold f_X10_here at hz
  refine g_aload_n C 1 0 rfl dX10_here_0 rfl ?_
  refine gf_10_156 C 4 dX10_here_1 rfl ?_
  refine g_aload_n C 5 0 rfl dX10_here_4 rfl ?_
  refine gf_10_159 C 8 dX10_here_5 rfl ?_
  refine g_icmp_ge C 27 11 dX10_here_8 rfl rfl hz (fun hz => ?_) (fun hz => ?_)
  · refine g_iconst C 28 (0 : Int32) ci_0 dX10_here_27 rfl ?_
    exact g_iret C hr dX10_here_28 hz
  · refine g_aload_n C 12 0 rfl dX10_here_11 rfl ?_
    refine gf_10_13 C 15 dX10_here_12 rfl ?_
    refine g_aload_n C 16 0 rfl dX10_here_15 rfl ?_
    refine gf_10_156 C 19 dX10_here_16 rfl ?_
    refine g_bald C 20 ha_36 dX10_here_19 rfl hz (fun hz => ?_)
    refine g_sipush C 23 (255 : Int32) cs_255 dX10_here_20 rfl ?_
    refine g_iand C 24 dX10_here_23 rfl ?_
    refine g_goto C 28 dX10_here_24 rfl ?_
    exact g_iret C hr dX10_here_28 hz
theorem c_X10_here (l : Launch) (D : va_G) (cy : Nat → ClassId) (ad : Nat → Nat) (n : Nat) (S : Sg) (sz : Nat) (z : Int32 × Sg) (hz : f_X10_here S = some z) : Met l yX10_here (.code yX10_here cX10_here 1 (some .int) :: wsAll) rm_X10_here (gPc D cy ad n S sz [.ref (ad 34)]) (gQ D cy ad n (va_A (wW cy ad n S) sz) (some (.int z.1)) z.2) 0 0 (va_A (wW cy ad n S) sz) := by
  refine gMet (lv := [(0, .ref (ad 34))]) (by decide) (Nat.le_of_ble_eq_true rfl) rfl ?_
  intro p e s m args below meth c A hA hr C
  exact t_X10_here C hr hz
def rm_X10_sees : Room := { frames := 0, cells := 0, slots := 0, locals := 0 }
set_option maxRecDepth 20000 in
theorem t_X10_sees {p : Program} {l : Launch} {e : Env} {s : State} {m : MethodId} {args : Array Value} {below : List Frame} {meth : Method} {c : Code} {D : va_G} {cy : Nat → ClassId} {ad : Nat → Nat} {n : Nat} {A : Nat → Prop} (C : gC p s m args meth c cX10_sees 2 RX10 D cy ad n A) (hr : meth.sig.returnType = (some .boolean)) {z : Int32 × Sg} {S : Sg} {x1 : Int32} (hz : f_X10_sees x1 S = some z) : gW p l e rm_X10_sees s m args below meth c D cy ad n A 2 0 0 (MQ below (gQ D cy ad n A (some (.int z.1)) z.2) args s 0 0 A) S 0 [(0, .ref (ad 34)), (1, .int x1)] [] := by
  unfold f_X10_sees at hz
  refine g_aload_n C 1 0 rfl dX10_sees_0 rfl ?_
  refine gf_10_156 C 4 dX10_sees_1 rfl ?_
  refine g_aload_n C 5 0 rfl dX10_sees_4 rfl ?_
  refine gf_10_159 C 8 dX10_sees_5 rfl ?_
  refine g_icmp_ge C 32 11 dX10_sees_8 rfl rfl hz (fun hz => ?_) (fun hz => ?_)
  · refine g_iconst C 33 (0 : Int32) ci_0 dX10_sees_32 rfl ?_
    exact g_zretc C hr (by decide) dX10_sees_33 hz
  · refine g_aload_n C 12 0 rfl dX10_sees_11 rfl ?_
    refine gf_10_13 C 15 dX10_sees_12 rfl ?_
    refine g_aload_n C 16 0 rfl dX10_sees_15 rfl ?_
    refine gf_10_156 C 19 dX10_sees_16 rfl ?_
    refine g_bald C 20 ha_36 dX10_sees_19 rfl hz (fun hz => ?_)
    refine g_sipush C 23 (255 : Int32) cs_255 dX10_sees_20 rfl ?_
    refine g_iand C 24 dX10_sees_23 rfl ?_
    refine g_iload_n C 25 1 rfl dX10_sees_24 rfl ?_
    refine g_icmp_ne C 32 28 dX10_sees_25 rfl rfl hz (fun hz => ?_) (fun hz => ?_)
    · refine g_iconst C 33 (0 : Int32) ci_0 dX10_sees_32 rfl ?_
      exact g_zretc C hr (by decide) dX10_sees_33 hz
    · refine g_iconst C 29 (1 : Int32) ci_1 dX10_sees_28 rfl ?_
      refine g_goto C 33 dX10_sees_29 rfl ?_
      exact g_zretc C hr (by decide) dX10_sees_33 hz
theorem c_X10_sees (l : Launch) (D : va_G) (cy : Nat → ClassId) (ad : Nat → Nat) (n : Nat) (S : Sg) (sz : Nat) (x1 : Int32) (z : Int32 × Sg) (hz : f_X10_sees x1 S = some z) : Met l yX10_sees (.code yX10_sees cX10_sees 2 (some .boolean) :: wsAll) rm_X10_sees (gPc D cy ad n S sz [.ref (ad 34), .int x1]) (gQ D cy ad n (va_A (wW cy ad n S) sz) (some (.int z.1)) z.2) 0 0 (va_A (wW cy ad n S) sz) := by
  refine gMet (lv := [(0, .ref (ad 34)), (1, .int x1)]) (by decide) (Nat.le_of_ble_eq_true rfl) rfl ?_
  intro p e s m args below meth c A hA hr C
  exact t_X10_sees C hr hz
def rm_X10_seesLetter : Room := { frames := 1, cells := 0, slots := 0, locals := 22 }
theorem wl_10_162 : Cond.methodLink RX10 162 yX10_here ∈ wsAll := wA 825 (by decide +kernel) (by decide +kernel)
theorem wi_X10_here : Cond.instanceMethod yX10_here ∈ wsAll := wA 827 (by decide +kernel) (by decide +kernel)
theorem we_X10_here : Cond.selects RX10 yX10_here yX10_here ∈ wsAll := wAp 56 (by decide +kernel) (by decide +kernel)
theorem wo_X10_here : Cond.code yX10_here cX10_here 1 (some .int) ∈ wsAll := wA 828 (by decide +kernel) (by decide +kernel)
theorem cl_10_162 {p : Program} {l : Launch} {e : Env} {R : Room} {s : State} {m : MethodId} {args : Array Value} {below : List Frame} {meth : Method} {c : Code} {cc : ByteArray} {nL : Nat} {D : va_G} {cy : Nat → ClassId} {ad : Nat → Nat} {n : Nat} {A : Nat → Prop} {mc ms : Nat} {Q : State → Prop} {S : Sg} {pc : Nat} {lv : List (Nat × Value)} {st : List Value} {ζ : Type} {z : ζ} (C : gC p s m args meth c cc nL RX10 D cy ad n A) (nx : Nat) (hR : Room.frames rm_X10_here + 1 ≤ R.frames ∧ 8 + (1 + 11) + Room.locals rm_X10_here ≤ R.locals) (hcm : mc ≤ R.cells ∧ ms ≤ R.slots) (hrest : (st.map fun v => v.category).sum ≤ 8) (hd : decode cc pc = .ok (.invokevirtual 162, 3)) (hn : pc + 3 = nx) {K : Int32 → Sg → Option ζ} (hz : bd2 (f_X10_here S) K = some z) (kk : ∀ r S', K r S' = some z → gW p l e R s m args below meth c D cy ad n A nL mc ms Q S' nx lv (.int r :: st)) : gW p l e R s m args below meth c D cy ad n A nL mc ms Q S pc lv (.ref (ad 34) :: st) := by
  obtain ⟨q, hq, hk⟩ := bd2_s hz
  exact g_callV C (i := 34) (ci := 10) (Cn := RX10) (T := TX10) (N := 59) (y := yX10_here) (rm := rm_X10_here) (As := []) (rest := st) (na := 0) (fun sz => c_X10_here l D cy ad n S sz  q hq) ha_34 rfl rfl wl_10_162 wi_X10_here we_X10_here wz_10 wo_X10_here (by decide +kernel) rfl rfl hR hcm rfl hrest hn hd (kk q.1 q.2 hk)
theorem wl_10_166 : Cond.methodLink RX10 166 yX10_lies ∈ wsAll := wA 802 (by decide +kernel) (by decide +kernel)
theorem ws_X10_lies : Cond.static yX10_lies ∈ wsAll := wA 803 (by decide +kernel) (by decide +kernel)
theorem wo_X10_lies : Cond.code yX10_lies cX10_lies 3 (some .boolean) ∈ wsAll := wA 804 (by decide +kernel) (by decide +kernel)
theorem cl_10_166 {p : Program} {l : Launch} {e : Env} {R : Room} {s : State} {m : MethodId} {args : Array Value} {below : List Frame} {meth : Method} {c : Code} {cc : ByteArray} {nL : Nat} {D : va_G} {cy : Nat → ClassId} {ad : Nat → Nat} {n : Nat} {A : Nat → Prop} {mc ms : Nat} {Q : State → Prop} {S : Sg} {pc : Nat} {lv : List (Nat × Value)} {st : List Value} {ζ : Type} {z : ζ} (C : gC p s m args meth c cc nL RX10 D cy ad n A) (nx : Nat) {x0 : Int32} {x1 : Int32} {x2 : Int32} (hR : Room.frames rm_X10_lies + 1 ≤ R.frames ∧ 8 + (3 + 11) + Room.locals rm_X10_lies ≤ R.locals) (hcm : mc ≤ R.cells ∧ ms ≤ R.slots) (hrest : (st.map fun v => v.category).sum ≤ 8) (hd : decode cc pc = .ok (.invokestatic 166, 3)) (hn : pc + 3 = nx) {K : Int32 → Sg → Option ζ} (hz : bd2 (f_X10_lies x0 x1 x2 S) K = some z) (kk : ∀ r S', K r S' = some z → gW p l e R s m args below meth c D cy ad n A nL mc ms Q S' nx lv (.int r :: st)) : gW p l e R s m args below meth c D cy ad n A nL mc ms Q S pc lv (.int x2 :: .int x1 :: .int x0 :: st) := by
  obtain ⟨q, hq, hk⟩ := bd2_s hz
  exact g_callS C (y := yX10_lies) (rm := rm_X10_lies) (As := [.int x0, .int x1, .int x2]) (rest := st) (na := 3) (fun sz => c_X10_lies l D cy ad n S sz x0 x1 x2 q hq) wl_10_166 ws_X10_lies wz_10 wo_X10_lies (by decide +kernel) rfl rfl hR hcm rfl hrest hn hd (kk q.1 q.2 hk)
set_option maxRecDepth 20000 in
theorem t_X10_seesLetter {p : Program} {l : Launch} {e : Env} {s : State} {m : MethodId} {args : Array Value} {below : List Frame} {meth : Method} {c : Code} {D : va_G} {cy : Nat → ClassId} {ad : Nat → Nat} {n : Nat} {A : Nat → Prop} (C : gC p s m args meth c cX10_seesLetter 1 RX10 D cy ad n A) (hr : meth.sig.returnType = (some .boolean)) {z : Int32 × Sg} {S : Sg} (hz : f_X10_seesLetter S = some z) : gW p l e rm_X10_seesLetter s m args below meth c D cy ad n A 1 0 0 (MQ below (gQ D cy ad n A (some (.int z.1)) z.2) args s 0 0 A) S 0 [(0, .ref (ad 34))] [] := by
  unfold f_X10_seesLetter at hz
  refine g_aload_n C 1 0 rfl dX10_seesLetter_0 rfl ?_
  refine cl_10_162 C 4 ⟨Nat.le_of_ble_eq_true rfl, Nat.le_of_ble_eq_true rfl⟩ ⟨Nat.zero_le _, Nat.zero_le _⟩ (Nat.le_of_ble_eq_true rfl) dX10_seesLetter_1 rfl hz (fun r_2 S_1 hz => ?_)
  refine g_bipush C 6 (97 : Int32) cb_97 dX10_seesLetter_4 rfl ?_
  refine g_bipush C 8 (100 : Int32) cb_100 dX10_seesLetter_6 rfl ?_
  refine cl_10_166 C 11 ⟨Nat.le_of_ble_eq_true rfl, Nat.le_of_ble_eq_true rfl⟩ ⟨Nat.zero_le _, Nat.zero_le _⟩ (Nat.le_of_ble_eq_true rfl) dX10_seesLetter_8 rfl hz (fun r_4 S_3 hz => ?_)
  exact g_zret C hr dX10_seesLetter_11 hz
theorem c_X10_seesLetter (l : Launch) (D : va_G) (cy : Nat → ClassId) (ad : Nat → Nat) (n : Nat) (S : Sg) (sz : Nat) (z : Int32 × Sg) (hz : f_X10_seesLetter S = some z) : Met l yX10_seesLetter (.code yX10_seesLetter cX10_seesLetter 1 (some .boolean) :: wsAll) rm_X10_seesLetter (gPc D cy ad n S sz [.ref (ad 34)]) (gQ D cy ad n (va_A (wW cy ad n S) sz) (some (.int z.1)) z.2) 0 0 (va_A (wW cy ad n S) sz) := by
  refine gMet (lv := [(0, .ref (ad 34))]) (by decide) (Nat.le_of_ble_eq_true rfl) rfl ?_
  intro p e s m args below meth c A hA hr C
  exact t_X10_seesLetter C hr hz
def rm_X10_seesAtom : Room := { frames := 2, cells := 0, slots := 0, locals := 42 }
theorem wl_10_170 : Cond.methodLink RX10 170 yX10_seesLetter ∈ wsAll := wA 821 (by decide +kernel) (by decide +kernel)
theorem wi_X10_seesLetter : Cond.instanceMethod yX10_seesLetter ∈ wsAll := wA 823 (by decide +kernel) (by decide +kernel)
theorem we_X10_seesLetter : Cond.selects RX10 yX10_seesLetter yX10_seesLetter ∈ wsAll := wAp 55 (by decide +kernel) (by decide +kernel)
theorem wo_X10_seesLetter : Cond.code yX10_seesLetter cX10_seesLetter 1 (some .boolean) ∈ wsAll := wA 824 (by decide +kernel) (by decide +kernel)
theorem cl_10_170 {p : Program} {l : Launch} {e : Env} {R : Room} {s : State} {m : MethodId} {args : Array Value} {below : List Frame} {meth : Method} {c : Code} {cc : ByteArray} {nL : Nat} {D : va_G} {cy : Nat → ClassId} {ad : Nat → Nat} {n : Nat} {A : Nat → Prop} {mc ms : Nat} {Q : State → Prop} {S : Sg} {pc : Nat} {lv : List (Nat × Value)} {st : List Value} {ζ : Type} {z : ζ} (C : gC p s m args meth c cc nL RX10 D cy ad n A) (nx : Nat) (hR : Room.frames rm_X10_seesLetter + 1 ≤ R.frames ∧ 8 + (1 + 11) + Room.locals rm_X10_seesLetter ≤ R.locals) (hcm : mc ≤ R.cells ∧ ms ≤ R.slots) (hrest : (st.map fun v => v.category).sum ≤ 8) (hd : decode cc pc = .ok (.invokevirtual 170, 3)) (hn : pc + 3 = nx) {K : Int32 → Sg → Option ζ} (hz : bd2 (f_X10_seesLetter S) K = some z) (kk : ∀ r S', K r S' = some z → gW p l e R s m args below meth c D cy ad n A nL mc ms Q S' nx lv (.int r :: st)) : gW p l e R s m args below meth c D cy ad n A nL mc ms Q S pc lv (.ref (ad 34) :: st) := by
  obtain ⟨q, hq, hk⟩ := bd2_s hz
  exact g_callV C (i := 34) (ci := 10) (Cn := RX10) (T := TX10) (N := 59) (y := yX10_seesLetter) (rm := rm_X10_seesLetter) (As := []) (rest := st) (na := 0) (fun sz => c_X10_seesLetter l D cy ad n S sz  q hq) ha_34 rfl rfl wl_10_170 wi_X10_seesLetter we_X10_seesLetter wz_10 wo_X10_seesLetter (by decide +kernel) rfl rfl hR hcm rfl hrest hn hd (kk q.1 q.2 hk)
theorem wl_10_174 : Cond.methodLink RX10 174 yX10_sees ∈ wsAll := wA 809 (by decide +kernel) (by decide +kernel)
theorem wi_X10_sees : Cond.instanceMethod yX10_sees ∈ wsAll := wA 811 (by decide +kernel) (by decide +kernel)
theorem we_X10_sees : Cond.selects RX10 yX10_sees yX10_sees ∈ wsAll := wAp 52 (by decide +kernel) (by decide +kernel)
theorem wo_X10_sees : Cond.code yX10_sees cX10_sees 2 (some .boolean) ∈ wsAll := wA 812 (by decide +kernel) (by decide +kernel)
theorem cl_10_174 {p : Program} {l : Launch} {e : Env} {R : Room} {s : State} {m : MethodId} {args : Array Value} {below : List Frame} {meth : Method} {c : Code} {cc : ByteArray} {nL : Nat} {D : va_G} {cy : Nat → ClassId} {ad : Nat → Nat} {n : Nat} {A : Nat → Prop} {mc ms : Nat} {Q : State → Prop} {S : Sg} {pc : Nat} {lv : List (Nat × Value)} {st : List Value} {ζ : Type} {z : ζ} (C : gC p s m args meth c cc nL RX10 D cy ad n A) (nx : Nat) {x1 : Int32} (hR : Room.frames rm_X10_sees + 1 ≤ R.frames ∧ 8 + (2 + 11) + Room.locals rm_X10_sees ≤ R.locals) (hcm : mc ≤ R.cells ∧ ms ≤ R.slots) (hrest : (st.map fun v => v.category).sum ≤ 8) (hd : decode cc pc = .ok (.invokevirtual 174, 3)) (hn : pc + 3 = nx) {K : Int32 → Sg → Option ζ} (hz : bd2 (f_X10_sees x1 S) K = some z) (kk : ∀ r S', K r S' = some z → gW p l e R s m args below meth c D cy ad n A nL mc ms Q S' nx lv (.int r :: st)) : gW p l e R s m args below meth c D cy ad n A nL mc ms Q S pc lv (.int x1 :: .ref (ad 34) :: st) := by
  obtain ⟨q, hq, hk⟩ := bd2_s hz
  exact g_callV C (i := 34) (ci := 10) (Cn := RX10) (T := TX10) (N := 59) (y := yX10_sees) (rm := rm_X10_sees) (As := [.int x1]) (rest := st) (na := 1) (fun sz => c_X10_sees l D cy ad n S sz x1 q hq) ha_34 rfl rfl wl_10_174 wi_X10_sees we_X10_sees wz_10 wo_X10_sees (by decide +kernel) rfl rfl hR hcm rfl hrest hn hd (kk q.1 q.2 hk)
set_option maxRecDepth 20000 in
theorem t_X10_seesAtom {p : Program} {l : Launch} {e : Env} {s : State} {m : MethodId} {args : Array Value} {below : List Frame} {meth : Method} {c : Code} {D : va_G} {cy : Nat → ClassId} {ad : Nat → Nat} {n : Nat} {A : Nat → Prop} (C : gC p s m args meth c cX10_seesAtom 1 RX10 D cy ad n A) (hr : meth.sig.returnType = (some .boolean)) {z : Int32 × Sg} {S : Sg} (hz : f_X10_seesAtom S = some z) : gW p l e rm_X10_seesAtom s m args below meth c D cy ad n A 1 0 0 (MQ below (gQ D cy ad n A (some (.int z.1)) z.2) args s 0 0 A) S 0 [(0, .ref (ad 34))] [] := by
  unfold f_X10_seesAtom at hz
  refine g_aload_n C 1 0 rfl dX10_seesAtom_0 rfl ?_
  refine cl_10_170 C 4 ⟨Nat.le_of_ble_eq_true rfl, Nat.le_of_ble_eq_true rfl⟩ ⟨Nat.zero_le _, Nat.zero_le _⟩ (Nat.le_of_ble_eq_true rfl) dX10_seesAtom_1 rfl hz (fun r_2 S_1 hz => ?_)
  refine g_if_ne C 52 7 dX10_seesAtom_4 rfl rfl hz (fun hz => ?_) (fun hz => ?_)
  · refine g_iconst C 53 (1 : Int32) ci_1 dX10_seesAtom_52 rfl ?_
    refine g_goto C 57 dX10_seesAtom_53 rfl ?_
    exact g_zretc C hr (by decide) dX10_seesAtom_57 hz
  · refine g_aload_n C 8 0 rfl dX10_seesAtom_7 rfl ?_
    refine g_bipush C 10 (46 : Int32) cb_46 dX10_seesAtom_8 rfl ?_
    refine cl_10_174 C 13 ⟨Nat.le_of_ble_eq_true rfl, Nat.le_of_ble_eq_true rfl⟩ ⟨Nat.zero_le _, Nat.zero_le _⟩ (Nat.le_of_ble_eq_true rfl) dX10_seesAtom_10 rfl hz (fun r_4 S_3 hz => ?_)
    refine g_if_ne C 52 16 dX10_seesAtom_13 rfl rfl hz (fun hz => ?_) (fun hz => ?_)
    · refine g_iconst C 53 (1 : Int32) ci_1 dX10_seesAtom_52 rfl ?_
      refine g_goto C 57 dX10_seesAtom_53 rfl ?_
      exact g_zretc C hr (by decide) dX10_seesAtom_57 hz
    · refine g_aload_n C 17 0 rfl dX10_seesAtom_16 rfl ?_
      refine g_bipush C 19 (91 : Int32) cb_91 dX10_seesAtom_17 rfl ?_
      refine cl_10_174 C 22 ⟨Nat.le_of_ble_eq_true rfl, Nat.le_of_ble_eq_true rfl⟩ ⟨Nat.zero_le _, Nat.zero_le _⟩ (Nat.le_of_ble_eq_true rfl) dX10_seesAtom_19 rfl hz (fun r_6 S_5 hz => ?_)
      refine g_if_ne C 52 25 dX10_seesAtom_22 rfl rfl hz (fun hz => ?_) (fun hz => ?_)
      · refine g_iconst C 53 (1 : Int32) ci_1 dX10_seesAtom_52 rfl ?_
        refine g_goto C 57 dX10_seesAtom_53 rfl ?_
        exact g_zretc C hr (by decide) dX10_seesAtom_57 hz
      · refine g_aload_n C 26 0 rfl dX10_seesAtom_25 rfl ?_
        refine g_bipush C 28 (40 : Int32) cb_40 dX10_seesAtom_26 rfl ?_
        refine cl_10_174 C 31 ⟨Nat.le_of_ble_eq_true rfl, Nat.le_of_ble_eq_true rfl⟩ ⟨Nat.zero_le _, Nat.zero_le _⟩ (Nat.le_of_ble_eq_true rfl) dX10_seesAtom_28 rfl hz (fun r_8 S_7 hz => ?_)
        refine g_if_ne C 52 34 dX10_seesAtom_31 rfl rfl hz (fun hz => ?_) (fun hz => ?_)
        · refine g_iconst C 53 (1 : Int32) ci_1 dX10_seesAtom_52 rfl ?_
          refine g_goto C 57 dX10_seesAtom_53 rfl ?_
          exact g_zretc C hr (by decide) dX10_seesAtom_57 hz
        · refine g_aload_n C 35 0 rfl dX10_seesAtom_34 rfl ?_
          refine g_bipush C 37 (48 : Int32) cb_48 dX10_seesAtom_35 rfl ?_
          refine cl_10_174 C 40 ⟨Nat.le_of_ble_eq_true rfl, Nat.le_of_ble_eq_true rfl⟩ ⟨Nat.zero_le _, Nat.zero_le _⟩ (Nat.le_of_ble_eq_true rfl) dX10_seesAtom_37 rfl hz (fun r_10 S_9 hz => ?_)
          refine g_if_ne C 52 43 dX10_seesAtom_40 rfl rfl hz (fun hz => ?_) (fun hz => ?_)
          · refine g_iconst C 53 (1 : Int32) ci_1 dX10_seesAtom_52 rfl ?_
            refine g_goto C 57 dX10_seesAtom_53 rfl ?_
            exact g_zretc C hr (by decide) dX10_seesAtom_57 hz
          · refine g_aload_n C 44 0 rfl dX10_seesAtom_43 rfl ?_
            refine g_bipush C 46 (49 : Int32) cb_49 dX10_seesAtom_44 rfl ?_
            refine cl_10_174 C 49 ⟨Nat.le_of_ble_eq_true rfl, Nat.le_of_ble_eq_true rfl⟩ ⟨Nat.zero_le _, Nat.zero_le _⟩ (Nat.le_of_ble_eq_true rfl) dX10_seesAtom_46 rfl hz (fun r_12 S_11 hz => ?_)
            refine g_if_eq C 56 52 dX10_seesAtom_49 rfl rfl hz (fun hz => ?_) (fun hz => ?_)
            · refine g_iconst C 57 (0 : Int32) ci_0 dX10_seesAtom_56 rfl ?_
              exact g_zretc C hr (by decide) dX10_seesAtom_57 hz
            · refine g_iconst C 53 (1 : Int32) ci_1 dX10_seesAtom_52 rfl ?_
              refine g_goto C 57 dX10_seesAtom_53 rfl ?_
              exact g_zretc C hr (by decide) dX10_seesAtom_57 hz
theorem c_X10_seesAtom (l : Launch) (D : va_G) (cy : Nat → ClassId) (ad : Nat → Nat) (n : Nat) (S : Sg) (sz : Nat) (z : Int32 × Sg) (hz : f_X10_seesAtom S = some z) : Met l yX10_seesAtom (.code yX10_seesAtom cX10_seesAtom 1 (some .boolean) :: wsAll) rm_X10_seesAtom (gPc D cy ad n S sz [.ref (ad 34)]) (gQ D cy ad n (va_A (wW cy ad n S) sz) (some (.int z.1)) z.2) 0 0 (va_A (wW cy ad n S) sz) := by
  refine gMet (lv := [(0, .ref (ad 34))]) (by decide) (Nat.le_of_ble_eq_true rfl) rfl ?_
  intro p e s m args below meth c A hA hr C
  exact t_X10_seesAtom C hr hz
def rm_X10_bad : Room := { frames := 0, cells := 0, slots := 0, locals := 0 }
set_option maxRecDepth 20000 in
theorem t_X10_bad {p : Program} {l : Launch} {e : Env} {s : State} {m : MethodId} {args : Array Value} {below : List Frame} {meth : Method} {c : Code} {D : va_G} {cy : Nat → ClassId} {ad : Nat → Nat} {n : Nat} {A : Nat → Prop} (C : gC p s m args meth c cX10_bad 3 RX10 D cy ad n A) (hr : meth.sig.returnType = none) {z : Sg} {S : Sg} {x1 : Int32} {x2 : Int32} (hz : f_X10_bad x1 x2 S = some z) : gW p l e rm_X10_bad s m args below meth c D cy ad n A 3 0 0 (MQ below (gQ D cy ad n A none z) args s 0 0 A) S 0 [(0, .ref (ad 34)), (1, .int x1), (2, .int x2)] [] := by
  unfold f_X10_bad at hz
  refine g_aload_n C 1 0 rfl dX10_bad_0 rfl ?_
  refine gf_10_178 C 4 dX10_bad_1 rfl ?_
  refine g_if_le C 8 7 dX10_bad_4 rfl rfl hz (fun hz => ?_) (fun hz => ?_)
  · refine g_aload_n C 9 0 rfl dX10_bad_8 rfl ?_
    refine g_iload_n C 10 1 rfl dX10_bad_9 rfl ?_
    refine pf_10_178 C 13 dX10_bad_10 rfl hz (fun S_1 hz => ?_)
    refine g_aload_n C 14 0 rfl dX10_bad_13 rfl ?_
    refine g_iload_n C 15 2 rfl dX10_bad_14 rfl ?_
    refine pf_10_16 C 18 dX10_bad_15 rfl hz (fun S_2 hz => ?_)
    exact g_vret C hr dX10_bad_18 hz
  · exact g_vret C hr dX10_bad_7 hz
theorem c_X10_bad (l : Launch) (D : va_G) (cy : Nat → ClassId) (ad : Nat → Nat) (n : Nat) (S : Sg) (sz : Nat) (x1 : Int32) (x2 : Int32) (z : Sg) (hz : f_X10_bad x1 x2 S = some z) : Met l yX10_bad (.code yX10_bad cX10_bad 3 none :: wsAll) rm_X10_bad (gPc D cy ad n S sz [.ref (ad 34), .int x1, .int x2]) (gQ D cy ad n (va_A (wW cy ad n S) sz) none z) 0 0 (va_A (wW cy ad n S) sz) := by
  refine gMet (lv := [(0, .ref (ad 34)), (1, .int x1), (2, .int x2)]) (by decide) (Nat.le_of_ble_eq_true rfl) rfl ?_
  intro p e s m args below meth c A hA hr C
  exact t_X10_bad C hr hz
def rm_X10_need : Room := { frames := 1, cells := 0, slots := 0, locals := 22 }
theorem wl_10_181 : Cond.methodLink RX10 181 yX10_bad ∈ wsAll := wA 813 (by decide +kernel) (by decide +kernel)
theorem wi_X10_bad : Cond.instanceMethod yX10_bad ∈ wsAll := wA 815 (by decide +kernel) (by decide +kernel)
theorem we_X10_bad : Cond.selects RX10 yX10_bad yX10_bad ∈ wsAll := wAp 53 (by decide +kernel) (by decide +kernel)
theorem wo_X10_bad : Cond.code yX10_bad cX10_bad 3 none ∈ wsAll := wA 816 (by decide +kernel) (by decide +kernel)
theorem cl_10_181 {p : Program} {l : Launch} {e : Env} {R : Room} {s : State} {m : MethodId} {args : Array Value} {below : List Frame} {meth : Method} {c : Code} {cc : ByteArray} {nL : Nat} {D : va_G} {cy : Nat → ClassId} {ad : Nat → Nat} {n : Nat} {A : Nat → Prop} {mc ms : Nat} {Q : State → Prop} {S : Sg} {pc : Nat} {lv : List (Nat × Value)} {st : List Value} {ζ : Type} {z : ζ} (C : gC p s m args meth c cc nL RX10 D cy ad n A) (nx : Nat) {x1 : Int32} {x2 : Int32} (hR : Room.frames rm_X10_bad + 1 ≤ R.frames ∧ 8 + (3 + 11) + Room.locals rm_X10_bad ≤ R.locals) (hcm : mc ≤ R.cells ∧ ms ≤ R.slots) (hrest : (st.map fun v => v.category).sum ≤ 8) (hd : decode cc pc = .ok (.invokevirtual 181, 3)) (hn : pc + 3 = nx) {K : Sg → Option ζ} (hz : bd (f_X10_bad x1 x2 S) K = some z) (kk : ∀ S', K S' = some z → gW p l e R s m args below meth c D cy ad n A nL mc ms Q S' nx lv st) : gW p l e R s m args below meth c D cy ad n A nL mc ms Q S pc lv (.int x2 :: .int x1 :: .ref (ad 34) :: st) := by
  obtain ⟨q, hq, hk⟩ := bd_s hz
  exact g_callV C (i := 34) (ci := 10) (Cn := RX10) (T := TX10) (N := 59) (y := yX10_bad) (rm := rm_X10_bad) (As := [.int x1, .int x2]) (rest := st) (na := 2) (fun sz => c_X10_bad l D cy ad n S sz x1 x2 q hq) ha_34 rfl rfl wl_10_181 wi_X10_bad we_X10_bad wz_10 wo_X10_bad (by decide +kernel) rfl rfl hR hcm rfl hrest hn hd (kk q hk)
set_option maxRecDepth 20000 in
theorem t_X10_need {p : Program} {l : Launch} {e : Env} {s : State} {m : MethodId} {args : Array Value} {below : List Frame} {meth : Method} {c : Code} {D : va_G} {cy : Nat → ClassId} {ad : Nat → Nat} {n : Nat} {A : Nat → Prop} (C : gC p s m args meth c cX10_need 2 RX10 D cy ad n A) (hr : meth.sig.returnType = none) {z : Sg} {S : Sg} {x1 : Int32} (hz : f_X10_need x1 S = some z) : gW p l e rm_X10_need s m args below meth c D cy ad n A 2 0 0 (MQ below (gQ D cy ad n A none z) args s 0 0 A) S 0 [(0, .ref (ad 34)), (1, .int x1)] [] := by
  unfold f_X10_need at hz
  refine g_iload_n C 1 1 rfl dX10_need_0 rfl ?_
  refine g_if_ne C 13 4 dX10_need_1 rfl rfl hz (fun hz => ?_) (fun hz => ?_)
  · exact g_vret C hr dX10_need_13 hz
  · refine g_aload_n C 5 0 rfl dX10_need_4 rfl ?_
    refine g_iconst C 6 (1 : Int32) ci_1 dX10_need_5 rfl ?_
    refine g_aload_n C 7 0 rfl dX10_need_6 rfl ?_
    refine gf_10_156 C 10 dX10_need_7 rfl ?_
    refine cl_10_181 C 13 ⟨Nat.le_of_ble_eq_true rfl, Nat.le_of_ble_eq_true rfl⟩ ⟨Nat.zero_le _, Nat.zero_le _⟩ (Nat.le_of_ble_eq_true rfl) dX10_need_10 rfl hz (fun S_1 hz => ?_)
    exact g_vret C hr dX10_need_13 hz
theorem c_X10_need (l : Launch) (D : va_G) (cy : Nat → ClassId) (ad : Nat → Nat) (n : Nat) (S : Sg) (sz : Nat) (x1 : Int32) (z : Sg) (hz : f_X10_need x1 S = some z) : Met l yX10_need (.code yX10_need cX10_need 2 none :: wsAll) rm_X10_need (gPc D cy ad n S sz [.ref (ad 34), .int x1]) (gQ D cy ad n (va_A (wW cy ad n S) sz) none z) 0 0 (va_A (wW cy ad n S) sz) := by
  refine gMet (lv := [(0, .ref (ad 34)), (1, .int x1)]) (by decide) (Nat.le_of_ble_eq_true rfl) rfl ?_
  intro p e s m args below meth c A hA hr C
  exact t_X10_need C hr hz
def rm_X10_opens : Room := { frames := 0, cells := 0, slots := 0, locals := 0 }
set_option maxRecDepth 20000 in
theorem t_X10_opens {p : Program} {l : Launch} {e : Env} {s : State} {m : MethodId} {args : Array Value} {below : List Frame} {meth : Method} {c : Code} {D : va_G} {cy : Nat → ClassId} {ad : Nat → Nat} {n : Nat} {A : Nat → Prop} (C : gC p s m args meth c cX10_opens 1 RX10 D cy ad n A) (hr : meth.sig.returnType = none) {z : Sg} {S : Sg} (hz : f_X10_opens S = some z) : gW p l e rm_X10_opens s m args below meth c D cy ad n A 1 0 0 (MQ below (gQ D cy ad n A none z) args s 0 0 A) S 0 [(0, .ref (ad 34))] [] := by
  unfold f_X10_opens at hz
  refine g_aload_n C 1 0 rfl dX10_opens_0 rfl ?_
  refine gf_10_76 C 4 dX10_opens_1 rfl ?_
  refine g_aload_n C 5 0 rfl dX10_opens_4 rfl ?_
  refine gf_10_185 C 8 dX10_opens_5 rfl ?_
  refine g_iconst C 9 (0 : Int32) ci_0 dX10_opens_8 rfl ?_
  refine g_zast C 10 ha_55 dX10_opens_9 rfl hz (fun S_1 hz => ?_)
  refine g_aload_n C 11 0 rfl dX10_opens_10 rfl ?_
  refine gf_10_88 C 14 dX10_opens_11 rfl ?_
  refine g_aload_n C 15 0 rfl dX10_opens_14 rfl ?_
  refine gf_10_185 C 18 dX10_opens_15 rfl ?_
  refine g_iconst C 19 (0 : Int32) ci_0 dX10_opens_18 rfl ?_
  refine g_zast C 20 ha_59 dX10_opens_19 rfl hz (fun S_2 hz => ?_)
  refine g_aload_n C 21 0 rfl dX10_opens_20 rfl ?_
  refine gf_10_91 C 24 dX10_opens_21 rfl ?_
  refine g_aload_n C 25 0 rfl dX10_opens_24 rfl ?_
  refine gf_10_185 C 28 dX10_opens_25 rfl ?_
  refine g_iconst C 29 (0 : Int32) ci_0 dX10_opens_28 rfl ?_
  refine g_iast C 30 ha_60 dX10_opens_29 rfl hz (fun S_3 hz => ?_)
  refine g_aload_n C 31 0 rfl dX10_opens_30 rfl ?_
  refine gf_10_94 C 34 dX10_opens_31 rfl ?_
  refine g_aload_n C 35 0 rfl dX10_opens_34 rfl ?_
  refine gf_10_185 C 38 dX10_opens_35 rfl ?_
  refine g_iconst C 39 (0 : Int32) ci_0 dX10_opens_38 rfl ?_
  refine g_iast C 40 ha_61 dX10_opens_39 rfl hz (fun S_4 hz => ?_)
  exact g_vret C hr dX10_opens_40 hz
theorem c_X10_opens (l : Launch) (D : va_G) (cy : Nat → ClassId) (ad : Nat → Nat) (n : Nat) (S : Sg) (sz : Nat) (z : Sg) (hz : f_X10_opens S = some z) : Met l yX10_opens (.code yX10_opens cX10_opens 1 none :: wsAll) rm_X10_opens (gPc D cy ad n S sz [.ref (ad 34)]) (gQ D cy ad n (va_A (wW cy ad n S) sz) none z) 0 0 (va_A (wW cy ad n S) sz) := by
  refine gMet (lv := [(0, .ref (ad 34))]) (by decide) (Nat.le_of_ble_eq_true rfl) rfl ?_
  intro p e s m args below meth c A hA hr C
  exact t_X10_opens C hr hz
def rm_X10_spotAt : Room := { frames := 0, cells := 0, slots := 0, locals := 0 }
set_option maxRecDepth 20000 in
theorem t_X10_spotAt {p : Program} {l : Launch} {e : Env} {s : State} {m : MethodId} {args : Array Value} {below : List Frame} {meth : Method} {c : Code} {D : va_G} {cy : Nat → ClassId} {ad : Nat → Nat} {n : Nat} {A : Nat → Prop} (C : gC p s m args meth c cX10_spotAt 2 RX10 D cy ad n A) (hr : meth.sig.returnType = (some .int)) {z : Int32 × Sg} {S : Sg} {x1 : Int32} (hz : f_X10_spotAt x1 S = some z) : gW p l e rm_X10_spotAt s m args below meth c D cy ad n A 2 0 0 (MQ below (gQ D cy ad n A (some (.int z.1)) z.2) args s 0 0 A) S 0 [(0, .ref (ad 34)), (1, .int x1)] [] := by
  unfold f_X10_spotAt at hz
  refine g_bipush C 2 (30 : Int32) cb_30 dX10_spotAt_0 rfl ?_
  refine g_aload_n C 3 0 rfl dX10_spotAt_2 rfl ?_
  refine gf_10_188 C 6 dX10_spotAt_3 rfl ?_
  refine g_iconst C 7 (1 : Int32) ci_1 dX10_spotAt_6 rfl ?_
  refine g_isub C 8 dX10_spotAt_7 rfl ?_
  refine g_imul C 9 dX10_spotAt_8 rfl ?_
  refine g_iload_n C 10 1 rfl dX10_spotAt_9 rfl ?_
  refine g_iadd C 11 dX10_spotAt_10 rfl ?_
  exact g_iret C hr dX10_spotAt_11 hz
theorem c_X10_spotAt (l : Launch) (D : va_G) (cy : Nat → ClassId) (ad : Nat → Nat) (n : Nat) (S : Sg) (sz : Nat) (x1 : Int32) (z : Int32 × Sg) (hz : f_X10_spotAt x1 S = some z) : Met l yX10_spotAt (.code yX10_spotAt cX10_spotAt 2 (some .int) :: wsAll) rm_X10_spotAt (gPc D cy ad n S sz [.ref (ad 34), .int x1]) (gQ D cy ad n (va_A (wW cy ad n S) sz) (some (.int z.1)) z.2) 0 0 (va_A (wW cy ad n S) sz) := by
  refine gMet (lv := [(0, .ref (ad 34)), (1, .int x1)]) (by decide) (Nat.le_of_ble_eq_true rfl) rfl ?_
  intro p e s m args below meth c A hA hr C
  exact t_X10_spotAt C hr hz
def rm_X10_follows : Room := { frames := 1, cells := 0, slots := 0, locals := 21 }
theorem wl_10_191 : Cond.methodLink RX10 191 yX10_spotAt ∈ wsAll := wA 849 (by decide +kernel) (by decide +kernel)
theorem wi_X10_spotAt : Cond.instanceMethod yX10_spotAt ∈ wsAll := wA 851 (by decide +kernel) (by decide +kernel)
theorem we_X10_spotAt : Cond.selects RX10 yX10_spotAt yX10_spotAt ∈ wsAll := wAp 62 (by decide +kernel) (by decide +kernel)
theorem wo_X10_spotAt : Cond.code yX10_spotAt cX10_spotAt 2 (some .int) ∈ wsAll := wA 852 (by decide +kernel) (by decide +kernel)
theorem cl_10_191 {p : Program} {l : Launch} {e : Env} {R : Room} {s : State} {m : MethodId} {args : Array Value} {below : List Frame} {meth : Method} {c : Code} {cc : ByteArray} {nL : Nat} {D : va_G} {cy : Nat → ClassId} {ad : Nat → Nat} {n : Nat} {A : Nat → Prop} {mc ms : Nat} {Q : State → Prop} {S : Sg} {pc : Nat} {lv : List (Nat × Value)} {st : List Value} {ζ : Type} {z : ζ} (C : gC p s m args meth c cc nL RX10 D cy ad n A) (nx : Nat) {x1 : Int32} (hR : Room.frames rm_X10_spotAt + 1 ≤ R.frames ∧ 8 + (2 + 11) + Room.locals rm_X10_spotAt ≤ R.locals) (hcm : mc ≤ R.cells ∧ ms ≤ R.slots) (hrest : (st.map fun v => v.category).sum ≤ 8) (hd : decode cc pc = .ok (.invokevirtual 191, 3)) (hn : pc + 3 = nx) {K : Int32 → Sg → Option ζ} (hz : bd2 (f_X10_spotAt x1 S) K = some z) (kk : ∀ r S', K r S' = some z → gW p l e R s m args below meth c D cy ad n A nL mc ms Q S' nx lv (.int r :: st)) : gW p l e R s m args below meth c D cy ad n A nL mc ms Q S pc lv (.int x1 :: .ref (ad 34) :: st) := by
  obtain ⟨q, hq, hk⟩ := bd2_s hz
  exact g_callV C (i := 34) (ci := 10) (Cn := RX10) (T := TX10) (N := 59) (y := yX10_spotAt) (rm := rm_X10_spotAt) (As := [.int x1]) (rest := st) (na := 1) (fun sz => c_X10_spotAt l D cy ad n S sz x1 q hq) ha_34 rfl rfl wl_10_191 wi_X10_spotAt we_X10_spotAt wz_10 wo_X10_spotAt (by decide +kernel) rfl rfl hR hcm rfl hrest hn hd (kk q.1 q.2 hk)
set_option maxRecDepth 20000 in
theorem t_X10_follows_L2 {p : Program} {l : Launch} {e : Env} {s : State} {m : MethodId} {args : Array Value} {below : List Frame} {meth : Method} {c : Code} {D : va_G} {cy : Nat → ClassId} {ad : Nat → Nat} {n : Nat} {A : Nat → Prop} (C : gC p s m args meth c cX10_follows 4 RX10 D cy ad n A) (hr : meth.sig.returnType = none) {z : Sg} : ∀ (fl : Nat) (x1 : Int32) (x2 : Int32) (x3 : Int32) (S : Sg), f_X10_follows_L2 fl x1 x2 x3 S = some z → gW p l e rm_X10_follows s m args below meth c D cy ad n A 4 0 0 (MQ below (gQ D cy ad n A none z) args s 0 0 A) S 2 [(0, .ref (ad 34)), (1, .int x1), (2, .int x2), (3, .int x3)] [] := by
  intro fl
  induction fl with
  | zero =>
    intro x1 x2 x3 S hz
    rw [f_X10_follows_L2] at hz
    cases hz
  | succ fl ih =>
    intro x1 x2 x3 S hz
    rw [f_X10_follows_L2] at hz
    refine g_iload_n C 3 3 rfl dX10_follows_2 rfl ?_
    refine g_bipush C 5 (30 : Int32) cb_30 dX10_follows_3 rfl ?_
    refine g_icmp_ge C 37 8 dX10_follows_5 rfl rfl hz (fun hz => ?_) (fun hz => ?_)
    · exact g_vret C hr dX10_follows_37 hz
    · refine g_iload_n C 9 1 rfl dX10_follows_8 rfl ?_
      refine g_iload_n C 10 3 rfl dX10_follows_9 rfl ?_
      refine g_ishr C 11 dX10_follows_10 rfl ?_
      refine g_iconst C 12 (1 : Int32) ci_1 dX10_follows_11 rfl ?_
      refine g_iand C 13 dX10_follows_12 rfl ?_
      refine g_iconst C 14 (1 : Int32) ci_1 dX10_follows_13 rfl ?_
      refine g_icmp_ne C 31 17 dX10_follows_14 rfl rfl hz (fun hz => ?_) (fun hz => ?_)
      · refine g_iinc C 34 3 [1, 2, 3, 0] (1 : Int32) ci_1 (fun x3_2 => [(0, .ref (ad 34)), (1, .int x1), (2, .int x2), (3, .int x3_2)]) dX10_follows_31 rfl rfl (by decide) (fun x3_2 => rfl) hz (fun x3_2 hz => ?_)
        refine g_goto C 2 dX10_follows_34 rfl ?_
        exact ih x1 x2 x3_2 S hz
      · refine g_aload_n C 18 0 rfl dX10_follows_17 rfl ?_
        refine gf_10_37 C 21 dX10_follows_18 rfl ?_
        refine g_aload_n C 22 0 rfl dX10_follows_21 rfl ?_
        refine g_iload_n C 23 3 rfl dX10_follows_22 rfl ?_
        refine cl_10_191 C 26 ⟨Nat.le_of_ble_eq_true rfl, Nat.le_of_ble_eq_true rfl⟩ ⟨Nat.zero_le _, Nat.zero_le _⟩ (Nat.le_of_ble_eq_true rfl) dX10_follows_23 rfl hz (fun r_4 S_3 hz => ?_)
        refine g_dup2 C 27 rfl rfl dX10_follows_26 rfl ?_
        refine g_iald C 28 ha_42 dX10_follows_27 rfl hz (fun hz => ?_)
        refine g_iload_n C 29 2 rfl dX10_follows_28 rfl ?_
        refine g_ior C 30 dX10_follows_29 rfl ?_
        refine g_iast C 31 ha_42 dX10_follows_30 rfl hz (fun S_5 hz => ?_)
        refine g_iinc C 34 3 [1, 2, 3, 0] (1 : Int32) ci_1 (fun x3_6 => [(0, .ref (ad 34)), (1, .int x1), (2, .int x2), (3, .int x3_6)]) dX10_follows_31 rfl rfl (by decide) (fun x3_6 => rfl) hz (fun x3_6 hz => ?_)
        refine g_goto C 2 dX10_follows_34 rfl ?_
        exact ih x1 x2 x3_6 S_5 hz
set_option maxRecDepth 20000 in
theorem t_X10_follows {p : Program} {l : Launch} {e : Env} {s : State} {m : MethodId} {args : Array Value} {below : List Frame} {meth : Method} {c : Code} {D : va_G} {cy : Nat → ClassId} {ad : Nat → Nat} {n : Nat} {A : Nat → Prop} (C : gC p s m args meth c cX10_follows 4 RX10 D cy ad n A) (hr : meth.sig.returnType = none) {z : Sg} {S : Sg} {x1 : Int32} {x2 : Int32} (hz : f_X10_follows x1 x2 S = some z) : gW p l e rm_X10_follows s m args below meth c D cy ad n A 4 0 0 (MQ below (gQ D cy ad n A none z) args s 0 0 A) S 0 [(0, .ref (ad 34)), (1, .int x1), (2, .int x2)] [] := by
  unfold f_X10_follows at hz
  refine g_iconst C 1 (0 : Int32) ci_0 dX10_follows_0 rfl ?_
  refine g_istore_n C 2 (i := 3) [1, 2, 3, 0] (fun x3_1 => [(0, .ref (ad 34)), (1, .int x1), (2, .int x2), (3, .int x3_1)]) dX10_follows_1 rfl rfl (by decide) (fun x3_1 => rfl) hz (fun x3_1 hz => ?_)
  exact (t_X10_follows_L2 C hr fu) x1 x2 x3_1 S hz
theorem c_X10_follows (l : Launch) (D : va_G) (cy : Nat → ClassId) (ad : Nat → Nat) (n : Nat) (S : Sg) (sz : Nat) (x1 : Int32) (x2 : Int32) (z : Sg) (hz : f_X10_follows x1 x2 S = some z) : Met l yX10_follows (.code yX10_follows cX10_follows 4 none :: wsAll) rm_X10_follows (gPc D cy ad n S sz [.ref (ad 34), .int x1, .int x2]) (gQ D cy ad n (va_A (wW cy ad n S) sz) none z) 0 0 (va_A (wW cy ad n S) sz) := by
  refine gMet (lv := [(0, .ref (ad 34)), (1, .int x1), (2, .int x2)]) (by decide) (Nat.le_of_ble_eq_true rfl) rfl ?_
  intro p e s m args below meth c A hA hr C
  exact t_X10_follows C hr hz
def rm_X10_spot : Room := { frames := 1, cells := 0, slots := 0, locals := 22 }
set_option maxRecDepth 20000 in
theorem t_X10_spot {p : Program} {l : Launch} {e : Env} {s : State} {m : MethodId} {args : Array Value} {below : List Frame} {meth : Method} {c : Code} {D : va_G} {cy : Nat → ClassId} {ad : Nat → Nat} {n : Nat} {A : Nat → Prop} (C : gC p s m args meth c cX10_spot 4 RX10 D cy ad n A) (hr : meth.sig.returnType = none) {z : Sg} {S : Sg} {x1 : Int32} {x2 : Int32} (hz : f_X10_spot x1 x2 S = some z) : gW p l e rm_X10_spot s m args below meth c D cy ad n A 4 0 0 (MQ below (gQ D cy ad n A none z) args s 0 0 A) S 0 [(0, .ref (ad 34)), (1, .int x1), (2, .int x2)] [] := by
  unfold f_X10_spot at hz
  refine g_aload_n C 1 0 rfl dX10_spot_0 rfl ?_
  refine gf_10_20 C 4 dX10_spot_1 rfl ?_
  refine g_aload_n C 5 0 rfl dX10_spot_4 rfl ?_
  refine gf_10_188 C 8 dX10_spot_5 rfl ?_
  refine g_iconst C 9 (1 : Int32) ci_1 dX10_spot_8 rfl ?_
  refine g_isub C 10 dX10_spot_9 rfl ?_
  refine g_iald C 11 ha_37 dX10_spot_10 rfl hz (fun hz => ?_)
  refine g_istore_n C 12 (i := 3) [1, 2, 3, 0] (fun x3_1 => [(0, .ref (ad 34)), (1, .int x1), (2, .int x2), (3, .int x3_1)]) dX10_spot_11 rfl rfl (by decide) (fun x3_1 => rfl) hz (fun x3_1 hz => ?_)
  refine g_iload_n C 13 3 rfl dX10_spot_12 rfl ?_
  refine g_bipush C 15 (30 : Int32) cb_30 dX10_spot_13 rfl ?_
  refine g_icmp_ne C 25 18 dX10_spot_15 rfl rfl hz (fun hz => ?_) (fun hz => ?_)
  · refine g_aload_n C 26 0 rfl dX10_spot_25 rfl ?_
    refine gf_10_34 C 29 dX10_spot_26 rfl ?_
    refine g_aload_n C 30 0 rfl dX10_spot_29 rfl ?_
    refine g_iload_n C 31 3 rfl dX10_spot_30 rfl ?_
    refine cl_10_191 C 34 ⟨Nat.le_of_ble_eq_true rfl, Nat.le_of_ble_eq_true rfl⟩ ⟨Nat.zero_le _, Nat.zero_le _⟩ (Nat.le_of_ble_eq_true rfl) dX10_spot_31 rfl hz (fun r_3 S_2 hz => ?_)
    refine g_iload_n C 35 1 rfl dX10_spot_34 rfl ?_
    refine g_iast C 36 ha_41 dX10_spot_35 rfl hz (fun S_4 hz => ?_)
    refine g_aload_n C 37 0 rfl dX10_spot_36 rfl ?_
    refine gf_10_37 C 40 dX10_spot_37 rfl ?_
    refine g_aload_n C 41 0 rfl dX10_spot_40 rfl ?_
    refine g_iload_n C 42 3 rfl dX10_spot_41 rfl ?_
    refine cl_10_191 C 45 ⟨Nat.le_of_ble_eq_true rfl, Nat.le_of_ble_eq_true rfl⟩ ⟨Nat.zero_le _, Nat.zero_le _⟩ (Nat.le_of_ble_eq_true rfl) dX10_spot_42 rfl hz (fun r_6 S_5 hz => ?_)
    refine g_iconst C 46 (0 : Int32) ci_0 dX10_spot_45 rfl ?_
    refine g_iast C 47 ha_42 dX10_spot_46 rfl hz (fun S_7 hz => ?_)
    refine g_aload_n C 48 0 rfl dX10_spot_47 rfl ?_
    refine gf_10_20 C 51 dX10_spot_48 rfl ?_
    refine g_aload_n C 52 0 rfl dX10_spot_51 rfl ?_
    refine gf_10_188 C 55 dX10_spot_52 rfl ?_
    refine g_iconst C 56 (1 : Int32) ci_1 dX10_spot_55 rfl ?_
    refine g_isub C 57 dX10_spot_56 rfl ?_
    refine g_dup2 C 58 rfl rfl dX10_spot_57 rfl ?_
    refine g_iald C 59 ha_37 dX10_spot_58 rfl hz (fun hz => ?_)
    refine g_iconst C 60 (1 : Int32) ci_1 dX10_spot_59 rfl ?_
    refine g_iadd C 61 dX10_spot_60 rfl ?_
    refine g_iast C 62 ha_37 dX10_spot_61 rfl hz (fun S_8 hz => ?_)
    refine g_aload_n C 63 0 rfl dX10_spot_62 rfl ?_
    refine g_iconst C 64 (0 : Int32) ci_0 dX10_spot_63 rfl ?_
    refine pf_10_195 C 67 dX10_spot_64 rfl hz (fun S_9 hz => ?_)
    refine g_aload_n C 68 0 rfl dX10_spot_67 rfl ?_
    refine g_iconst C 69 (1 : Int32) ci_1 dX10_spot_68 rfl ?_
    refine g_iload_n C 70 3 rfl dX10_spot_69 rfl ?_
    refine g_ishl C 71 dX10_spot_70 rfl ?_
    refine pf_10_199 C 74 dX10_spot_71 rfl hz (fun S_10 hz => ?_)
    refine g_aload_n C 75 0 rfl dX10_spot_74 rfl ?_
    refine g_iconst C 76 (1 : Int32) ci_1 dX10_spot_75 rfl ?_
    refine g_iload_n C 77 3 rfl dX10_spot_76 rfl ?_
    refine g_ishl C 78 dX10_spot_77 rfl ?_
    refine pf_10_202 C 81 dX10_spot_78 rfl hz (fun S_11 hz => ?_)
    exact g_vret C hr dX10_spot_81 hz
  · refine g_aload_n C 19 0 rfl dX10_spot_18 rfl ?_
    refine g_iconst C 20 (2 : Int32) ci_2 dX10_spot_19 rfl ?_
    refine g_iload_n C 21 2 rfl dX10_spot_20 rfl ?_
    refine cl_10_181 C 24 ⟨Nat.le_of_ble_eq_true rfl, Nat.le_of_ble_eq_true rfl⟩ ⟨Nat.zero_le _, Nat.zero_le _⟩ (Nat.le_of_ble_eq_true rfl) dX10_spot_21 rfl hz (fun S_12 hz => ?_)
    exact g_vret C hr dX10_spot_24 hz
theorem c_X10_spot (l : Launch) (D : va_G) (cy : Nat → ClassId) (ad : Nat → Nat) (n : Nat) (S : Sg) (sz : Nat) (x1 : Int32) (x2 : Int32) (z : Sg) (hz : f_X10_spot x1 x2 S = some z) : Met l yX10_spot (.code yX10_spot cX10_spot 4 none :: wsAll) rm_X10_spot (gPc D cy ad n S sz [.ref (ad 34), .int x1, .int x2]) (gQ D cy ad n (va_A (wW cy ad n S) sz) none z) 0 0 (va_A (wW cy ad n S) sz) := by
  refine gMet (lv := [(0, .ref (ad 34)), (1, .int x1), (2, .int x2)]) (by decide) (Nat.le_of_ble_eq_true rfl) rfl ?_
  intro p e s m args below meth c A hA hr C
  exact t_X10_spot C hr hz
def rm_X10_bracket : Room := { frames := 2, cells := 0, slots := 0, locals := 43 }
theorem wl_10_205 : Cond.methodLink RX10 205 yX10_need ∈ wsAll := wA 829 (by decide +kernel) (by decide +kernel)
theorem wi_X10_need : Cond.instanceMethod yX10_need ∈ wsAll := wA 831 (by decide +kernel) (by decide +kernel)
theorem we_X10_need : Cond.selects RX10 yX10_need yX10_need ∈ wsAll := wAp 57 (by decide +kernel) (by decide +kernel)
theorem wo_X10_need : Cond.code yX10_need cX10_need 2 none ∈ wsAll := wA 832 (by decide +kernel) (by decide +kernel)
theorem cl_10_205 {p : Program} {l : Launch} {e : Env} {R : Room} {s : State} {m : MethodId} {args : Array Value} {below : List Frame} {meth : Method} {c : Code} {cc : ByteArray} {nL : Nat} {D : va_G} {cy : Nat → ClassId} {ad : Nat → Nat} {n : Nat} {A : Nat → Prop} {mc ms : Nat} {Q : State → Prop} {S : Sg} {pc : Nat} {lv : List (Nat × Value)} {st : List Value} {ζ : Type} {z : ζ} (C : gC p s m args meth c cc nL RX10 D cy ad n A) (nx : Nat) {x1 : Int32} (hR : Room.frames rm_X10_need + 1 ≤ R.frames ∧ 8 + (2 + 11) + Room.locals rm_X10_need ≤ R.locals) (hcm : mc ≤ R.cells ∧ ms ≤ R.slots) (hrest : (st.map fun v => v.category).sum ≤ 8) (hd : decode cc pc = .ok (.invokevirtual 205, 3)) (hn : pc + 3 = nx) {K : Sg → Option ζ} (hz : bd (f_X10_need x1 S) K = some z) (kk : ∀ S', K S' = some z → gW p l e R s m args below meth c D cy ad n A nL mc ms Q S' nx lv st) : gW p l e R s m args below meth c D cy ad n A nL mc ms Q S pc lv (.int x1 :: .ref (ad 34) :: st) := by
  obtain ⟨q, hq, hk⟩ := bd_s hz
  exact g_callV C (i := 34) (ci := 10) (Cn := RX10) (T := TX10) (N := 59) (y := yX10_need) (rm := rm_X10_need) (As := [.int x1]) (rest := st) (na := 1) (fun sz => c_X10_need l D cy ad n S sz x1 q hq) ha_34 rfl rfl wl_10_205 wi_X10_need we_X10_need wz_10 wo_X10_need (by decide +kernel) rfl rfl hR hcm rfl hrest hn hd (kk q hk)
set_option maxRecDepth 20000 in
theorem t_X10_bracket_L174 {p : Program} {l : Launch} {e : Env} {s : State} {m : MethodId} {args : Array Value} {below : List Frame} {meth : Method} {c : Code} {D : va_G} {cy : Nat → ClassId} {ad : Nat → Nat} {n : Nat} {A : Nat → Prop} (C : gC p s m args meth c cX10_bracket 6 RX10 D cy ad n A) (hr : meth.sig.returnType = (some .int)) {z : Int32 × Sg} : ∀ (x1 : Int32) (x2 : Int32) (S : Sg), f_X10_bracket_L174 x1 x2 S = some z → gW p l e rm_X10_bracket s m args below meth c D cy ad n A 6 0 0 (MQ below (gQ D cy ad n A (some (.int z.1)) z.2) args s 0 0 A) S 174 [(0, .ref (ad 34)), (1, .int x1), (2, .int x2)] [] := by
  intro x1 x2 S hz
  unfold f_X10_bracket_L174 at hz
  refine g_aload_n C 175 0 rfl dX10_bracket_174 rfl ?_
  refine g_aload_n C 176 0 rfl dX10_bracket_175 rfl ?_
  refine g_bipush C 178 (93 : Int32) cb_93 dX10_bracket_176 rfl ?_
  refine cl_10_174 C 181 ⟨Nat.le_of_ble_eq_true rfl, Nat.le_of_ble_eq_true rfl⟩ ⟨Nat.zero_le _, Nat.zero_le _⟩ (Nat.le_of_ble_eq_true rfl) dX10_bracket_178 rfl hz (fun r_11 S_10 hz => ?_)
  refine cl_10_205 C 184 ⟨Nat.le_of_ble_eq_true rfl, Nat.le_of_ble_eq_true rfl⟩ ⟨Nat.zero_le _, Nat.zero_le _⟩ (Nat.le_of_ble_eq_true rfl) dX10_bracket_181 rfl hz (fun S_12 hz => ?_)
  refine g_aload_n C 185 0 rfl dX10_bracket_184 rfl ?_
  refine g_dup C 186 rfl dX10_bracket_185 rfl ?_
  refine gf_10_156 C 189 dX10_bracket_186 rfl ?_
  refine g_iconst C 190 (1 : Int32) ci_1 dX10_bracket_189 rfl ?_
  refine g_iadd C 191 dX10_bracket_190 rfl ?_
  refine pf_10_156 C 194 dX10_bracket_191 rfl hz (fun S_13 hz => ?_)
  refine g_iload_n C 195 1 rfl dX10_bracket_194 rfl ?_
  refine g_if_eq C 207 198 dX10_bracket_195 rfl rfl hz (fun hz => ?_) (fun hz => ?_)
  · refine g_iload_n C 208 2 rfl dX10_bracket_207 rfl ?_
    exact g_iret C hr dX10_bracket_208 hz
  · refine g_bipush C 200 (15 : Int32) cb_15 dX10_bracket_198 rfl ?_
    refine g_iload_n C 201 2 rfl dX10_bracket_200 rfl ?_
    refine g_iconst C 202 (-1 : Int32) ci_m1 dX10_bracket_201 rfl ?_
    refine g_ixor C 203 dX10_bracket_202 rfl ?_
    refine g_iand C 204 dX10_bracket_203 rfl ?_
    refine g_goto C 208 dX10_bracket_204 rfl ?_
    exact g_iret C hr dX10_bracket_208 hz
set_option maxRecDepth 20000 in
theorem t_X10_bracket_L144 {p : Program} {l : Launch} {e : Env} {s : State} {m : MethodId} {args : Array Value} {below : List Frame} {meth : Method} {c : Code} {D : va_G} {cy : Nat → ClassId} {ad : Nat → Nat} {n : Nat} {A : Nat → Prop} (C : gC p s m args meth c cX10_bracket 6 RX10 D cy ad n A) (hr : meth.sig.returnType = (some .int)) {z : Int32 × Sg} {k45 : Int32 → Int32 → Sg → Option (Int32 × Sg)} (hk45 : ∀ (x1 : Int32) (x2 : Int32) (S : Sg), k45 x1 x2 S = some z → gW p l e rm_X10_bracket s m args below meth c D cy ad n A 6 0 0 (MQ below (gQ D cy ad n A (some (.int z.1)) z.2) args s 0 0 A) S 45 [(0, .ref (ad 34)), (1, .int x1), (2, .int x2)] []) : ∀ (fl : Nat) (x1 : Int32) (x2 : Int32) (x4 : Int32) (x5 : Int32) (S : Sg), f_X10_bracket_L144 k45 fl x1 x2 x4 x5 S = some z → gW p l e rm_X10_bracket s m args below meth c D cy ad n A 6 0 0 (MQ below (gQ D cy ad n A (some (.int z.1)) z.2) args s 0 0 A) S 144 [(0, .ref (ad 34)), (1, .int x1), (2, .int x2), (4, .int x4), (5, .int x5)] [] := by
  intro fl
  induction fl with
  | zero =>
    intro x1 x2 x4 x5 S hz
    rw [f_X10_bracket_L144] at hz
    cases hz
  | succ fl ih =>
    intro x1 x2 x4 x5 S hz
    rw [f_X10_bracket_L144] at hz
    refine g_aload_n C 145 0 rfl dX10_bracket_144 rfl ?_
    refine gf_10_178 C 148 dX10_bracket_145 rfl ?_
    refine g_if_ne C 171 151 dX10_bracket_148 rfl rfl hz (fun hz => ?_) (fun hz => ?_)
    · refine g_goto C 45 dX10_bracket_171 rfl ?_
      refine g_lv [0, 1, 2] rfl ?_
      exact hk45 x1 x2 S hz
    · refine g_iload C 153 4 rfl dX10_bracket_151 rfl ?_
      refine g_iload C 155 3 rfl dX10_bracket_153 rfl ?_
      refine g_icmp_gt C 171 158 dX10_bracket_155 rfl rfl hz (fun hz => ?_) (fun hz => ?_)
      · refine g_goto C 45 dX10_bracket_171 rfl ?_
        refine g_lv [0, 1, 2] rfl ?_
        exact hk45 x1 x2 S hz
      · refine g_iload_n C 159 2 rfl dX10_bracket_158 rfl ?_
        refine g_iconst C 160 (1 : Int32) ci_1 dX10_bracket_159 rfl ?_
        refine g_iload C 162 4 rfl dX10_bracket_160 rfl ?_
        refine g_ishl C 163 dX10_bracket_162 rfl ?_
        refine g_ior C 164 dX10_bracket_163 rfl ?_
        refine g_istore_n C 165 (i := 2) [1, 2, 0, 3, 4] (fun x2_24 => [(0, .ref (ad 34)), (1, .int x1), (2, .int x2_24), (4, .int x4), (5, .int x5)]) dX10_bracket_164 rfl rfl (by decide) (fun x2_24 => rfl) hz (fun x2_24 hz => ?_)
        refine g_iinc C 168 4 [1, 2, 3, 4, 0] (1 : Int32) ci_1 (fun x5_25 => [(0, .ref (ad 34)), (1, .int x1), (2, .int x2_24), (4, .int x4), (5, .int x5_25)]) dX10_bracket_165 rfl rfl (by decide) (fun x5_25 => rfl) hz (fun x5_25 hz => ?_)
        refine g_goto C 144 dX10_bracket_168 rfl ?_
        exact ih x1 x2_24 x4 x5_25 S hz
set_option maxRecDepth 20000 in
theorem t_X10_bracket_L128 {p : Program} {l : Launch} {e : Env} {s : State} {m : MethodId} {args : Array Value} {below : List Frame} {meth : Method} {c : Code} {D : va_G} {cy : Nat → ClassId} {ad : Nat → Nat} {n : Nat} {A : Nat → Prop} (C : gC p s m args meth c cX10_bracket 6 RX10 D cy ad n A) (hr : meth.sig.returnType = (some .int)) {z : Int32 × Sg} {k144 : Int32 → Int32 → Int32 → Int32 → Sg → Option (Int32 × Sg)} (hk144 : ∀ (x1 : Int32) (x2 : Int32) (x4 : Int32) (x5 : Int32) (S : Sg), k144 x1 x2 x4 x5 S = some z → gW p l e rm_X10_bracket s m args below meth c D cy ad n A 6 0 0 (MQ below (gQ D cy ad n A (some (.int z.1)) z.2) args s 0 0 A) S 144 [(0, .ref (ad 34)), (1, .int x1), (2, .int x2), (4, .int x4), (5, .int x5)] []) : ∀ (x1 : Int32) (x2 : Int32) (x3 : Int32) (x4 : Int32) (t0 : Int32) (S : Sg), f_X10_bracket_L128 k144 x1 x2 x3 x4 t0 S = some z → gW p l e rm_X10_bracket s m args below meth c D cy ad n A 6 0 0 (MQ below (gQ D cy ad n A (some (.int z.1)) z.2) args s 0 0 A) S 128 [(0, .ref (ad 34)), (1, .int x1), (2, .int x2), (3, .int x3), (4, .int x4)] [.int t0, .ref (ad 34)] := by
  intro x1 x2 x3 x4 t0 S hz
  unfold f_X10_bracket_L128 at hz
  refine cl_10_205 C 131 ⟨Nat.le_of_ble_eq_true rfl, Nat.le_of_ble_eq_true rfl⟩ ⟨Nat.zero_le _, Nat.zero_le _⟩ (Nat.le_of_ble_eq_true rfl) dX10_bracket_128 rfl hz (fun S_33 hz => ?_)
  refine g_aload_n C 132 0 rfl dX10_bracket_131 rfl ?_
  refine g_dup C 133 rfl dX10_bracket_132 rfl ?_
  refine gf_10_156 C 136 dX10_bracket_133 rfl ?_
  refine g_iconst C 137 (1 : Int32) ci_1 dX10_bracket_136 rfl ?_
  refine g_iadd C 138 dX10_bracket_137 rfl ?_
  refine pf_10_156 C 141 dX10_bracket_138 rfl hz (fun S_34 hz => ?_)
  refine g_iload_n C 142 3 rfl dX10_bracket_141 rfl ?_
  refine g_istore C 144 (i := 5) [1, 2, 3, 5, 0] (fun x5_35 => [(0, .ref (ad 34)), (1, .int x1), (2, .int x2), (4, .int x4), (5, .int x5_35)]) dX10_bracket_142 rfl (by decide) (fun x5_35 => rfl) hz (fun x5_35 hz => ?_)
  exact hk144 x1 x2 x4 x5_35 S_34 hz
set_option maxRecDepth 20000 in
theorem t_X10_bracket_L45 {p : Program} {l : Launch} {e : Env} {s : State} {m : MethodId} {args : Array Value} {below : List Frame} {meth : Method} {c : Code} {D : va_G} {cy : Nat → ClassId} {ad : Nat → Nat} {n : Nat} {A : Nat → Prop} (C : gC p s m args meth c cX10_bracket 6 RX10 D cy ad n A) (hr : meth.sig.returnType = (some .int)) {z : Int32 × Sg} : ∀ (fl : Nat) (x1 : Int32) (x2 : Int32) (S : Sg), f_X10_bracket_L45 fl x1 x2 S = some z → gW p l e rm_X10_bracket s m args below meth c D cy ad n A 6 0 0 (MQ below (gQ D cy ad n A (some (.int z.1)) z.2) args s 0 0 A) S 45 [(0, .ref (ad 34)), (1, .int x1), (2, .int x2)] [] := by
  intro fl
  induction fl with
  | zero =>
    intro x1 x2 S hz
    rw [f_X10_bracket_L45] at hz
    cases hz
  | succ fl ih =>
    intro x1 x2 S hz
    rw [f_X10_bracket_L45] at hz
    refine g_aload_n C 46 0 rfl dX10_bracket_45 rfl ?_
    refine gf_10_178 C 49 dX10_bracket_46 rfl ?_
    refine g_if_ne C 174 52 dX10_bracket_49 rfl rfl hz (fun hz => ?_) (fun hz => ?_)
    · exact (t_X10_bracket_L174 C hr) x1 x2 S hz
    · refine g_aload_n C 53 0 rfl dX10_bracket_52 rfl ?_
      refine cl_10_170 C 56 ⟨Nat.le_of_ble_eq_true rfl, Nat.le_of_ble_eq_true rfl⟩ ⟨Nat.zero_le _, Nat.zero_le _⟩ (Nat.le_of_ble_eq_true rfl) dX10_bracket_53 rfl hz (fun r_15 S_14 hz => ?_)
      refine g_if_eq C 174 59 dX10_bracket_56 rfl rfl hz (fun hz => ?_) (fun hz => ?_)
      · exact (t_X10_bracket_L174 C hr) x1 x2 S_14 hz
      · refine g_aload_n C 60 0 rfl dX10_bracket_59 rfl ?_
        refine cl_10_162 C 63 ⟨Nat.le_of_ble_eq_true rfl, Nat.le_of_ble_eq_true rfl⟩ ⟨Nat.zero_le _, Nat.zero_le _⟩ (Nat.le_of_ble_eq_true rfl) dX10_bracket_60 rfl hz (fun r_17 S_16 hz => ?_)
        refine g_bipush C 65 (97 : Int32) cb_97 dX10_bracket_63 rfl ?_
        refine g_isub C 66 dX10_bracket_65 rfl ?_
        refine g_istore_n C 67 (i := 3) [1, 2, 3, 0] (fun x3_18 => [(0, .ref (ad 34)), (1, .int x1), (2, .int x2), (3, .int x3_18)]) dX10_bracket_66 rfl rfl (by decide) (fun x3_18 => rfl) hz (fun x3_18 hz => ?_)
        refine g_iload_n C 68 3 rfl dX10_bracket_67 rfl ?_
        refine g_istore C 70 (i := 4) [1, 2, 3, 4, 0] (fun x4_19 => [(0, .ref (ad 34)), (1, .int x1), (2, .int x2), (3, .int x3_18), (4, .int x4_19)]) dX10_bracket_68 rfl (by decide) (fun x4_19 => rfl) hz (fun x4_19 hz => ?_)
        refine g_aload_n C 71 0 rfl dX10_bracket_70 rfl ?_
        refine g_dup C 72 rfl dX10_bracket_71 rfl ?_
        refine gf_10_156 C 75 dX10_bracket_72 rfl ?_
        refine g_iconst C 76 (1 : Int32) ci_1 dX10_bracket_75 rfl ?_
        refine g_iadd C 77 dX10_bracket_76 rfl ?_
        refine pf_10_156 C 80 dX10_bracket_77 rfl hz (fun S_20 hz => ?_)
        refine g_aload_n C 81 0 rfl dX10_bracket_80 rfl ?_
        refine g_bipush C 83 (45 : Int32) cb_45 dX10_bracket_81 rfl ?_
        refine cl_10_174 C 86 ⟨Nat.le_of_ble_eq_true rfl, Nat.le_of_ble_eq_true rfl⟩ ⟨Nat.zero_le _, Nat.zero_le _⟩ (Nat.le_of_ble_eq_true rfl) dX10_bracket_83 rfl hz (fun r_22 S_21 hz => ?_)
        refine g_if_eq C 141 89 dX10_bracket_86 rfl rfl hz (fun hz => ?_) (fun hz => ?_)
        · refine g_iload_n C 142 3 rfl dX10_bracket_141 rfl ?_
          refine g_istore C 144 (i := 5) [1, 2, 3, 5, 0] (fun x5_23 => [(0, .ref (ad 34)), (1, .int x1), (2, .int x2), (4, .int x4_19), (5, .int x5_23)]) dX10_bracket_142 rfl (by decide) (fun x5_23 => rfl) hz (fun x5_23 hz => ?_)
          exact (t_X10_bracket_L144 C hr ih fu) x1 x2 x4_19 x5_23 S_21 hz
        · refine g_aload_n C 90 0 rfl dX10_bracket_89 rfl ?_
          refine g_dup C 91 rfl dX10_bracket_90 rfl ?_
          refine gf_10_156 C 94 dX10_bracket_91 rfl ?_
          refine g_iconst C 95 (1 : Int32) ci_1 dX10_bracket_94 rfl ?_
          refine g_iadd C 96 dX10_bracket_95 rfl ?_
          refine pf_10_156 C 99 dX10_bracket_96 rfl hz (fun S_26 hz => ?_)
          refine g_aload_n C 100 0 rfl dX10_bracket_99 rfl ?_
          refine g_aload_n C 101 0 rfl dX10_bracket_100 rfl ?_
          refine cl_10_170 C 104 ⟨Nat.le_of_ble_eq_true rfl, Nat.le_of_ble_eq_true rfl⟩ ⟨Nat.zero_le _, Nat.zero_le _⟩ (Nat.le_of_ble_eq_true rfl) dX10_bracket_101 rfl hz (fun r_28 S_27 hz => ?_)
          refine cl_10_205 C 107 ⟨Nat.le_of_ble_eq_true rfl, Nat.le_of_ble_eq_true rfl⟩ ⟨Nat.zero_le _, Nat.zero_le _⟩ (Nat.le_of_ble_eq_true rfl) dX10_bracket_104 rfl hz (fun S_29 hz => ?_)
          refine g_aload_n C 108 0 rfl dX10_bracket_107 rfl ?_
          refine cl_10_162 C 111 ⟨Nat.le_of_ble_eq_true rfl, Nat.le_of_ble_eq_true rfl⟩ ⟨Nat.zero_le _, Nat.zero_le _⟩ (Nat.le_of_ble_eq_true rfl) dX10_bracket_108 rfl hz (fun r_31 S_30 hz => ?_)
          refine g_bipush C 113 (97 : Int32) cb_97 dX10_bracket_111 rfl ?_
          refine g_isub C 114 dX10_bracket_113 rfl ?_
          refine g_istore C 116 (i := 4) [1, 2, 3, 4, 0] (fun x4_32 => [(0, .ref (ad 34)), (1, .int x1), (2, .int x2), (3, .int x3_18), (4, .int x4_32)]) dX10_bracket_114 rfl (by decide) (fun x4_32 => rfl) hz (fun x4_32 hz => ?_)
          refine g_aload_n C 117 0 rfl dX10_bracket_116 rfl ?_
          refine g_iload C 119 4 rfl dX10_bracket_117 rfl ?_
          refine g_iload_n C 120 3 rfl dX10_bracket_119 rfl ?_
          refine g_icmp_lt C 127 123 dX10_bracket_120 rfl rfl hz (fun hz => ?_) (fun hz => ?_)
          · refine g_iconst C 128 (0 : Int32) ci_0 dX10_bracket_127 rfl ?_
            exact (t_X10_bracket_L128 C hr ((t_X10_bracket_L144 C hr ih fu))) x1 x2 x3_18 x4_32 ((0 : Int32)) S_30 hz
          · refine g_iconst C 124 (1 : Int32) ci_1 dX10_bracket_123 rfl ?_
            refine g_goto C 128 dX10_bracket_124 rfl ?_
            exact (t_X10_bracket_L128 C hr ((t_X10_bracket_L144 C hr ih fu))) x1 x2 x3_18 x4_32 ((1 : Int32)) S_30 hz
set_option maxRecDepth 20000 in
theorem t_X10_bracket_L31 {p : Program} {l : Launch} {e : Env} {s : State} {m : MethodId} {args : Array Value} {below : List Frame} {meth : Method} {c : Code} {D : va_G} {cy : Nat → ClassId} {ad : Nat → Nat} {n : Nat} {A : Nat → Prop} (C : gC p s m args meth c cX10_bracket 6 RX10 D cy ad n A) (hr : meth.sig.returnType = (some .int)) {z : Int32 × Sg} : ∀ (x1 : Int32) (t0 : Int32) (t1 : Int32) (S : Sg), f_X10_bracket_L31 x1 t0 t1 S = some z → gW p l e rm_X10_bracket s m args below meth c D cy ad n A 6 0 0 (MQ below (gQ D cy ad n A (some (.int z.1)) z.2) args s 0 0 A) S 31 [(0, .ref (ad 34)), (1, .int x1)] [.int t0, .int t1, .ref (ad 34)] := by
  intro x1 t0 t1 S hz
  unfold f_X10_bracket_L31 at hz
  refine g_iadd C 32 dX10_bracket_31 rfl ?_
  refine pf_10_156 C 35 dX10_bracket_32 rfl hz (fun S_5 hz => ?_)
  refine g_iconst C 36 (0 : Int32) ci_0 dX10_bracket_35 rfl ?_
  refine g_istore_n C 37 (i := 2) [1, 2, 0] (fun x2_6 => [(0, .ref (ad 34)), (1, .int x1), (2, .int x2_6)]) dX10_bracket_36 rfl rfl (by decide) (fun x2_6 => rfl) hz (fun x2_6 hz => ?_)
  refine g_aload_n C 38 0 rfl dX10_bracket_37 rfl ?_
  refine g_aload_n C 39 0 rfl dX10_bracket_38 rfl ?_
  refine cl_10_170 C 42 ⟨Nat.le_of_ble_eq_true rfl, Nat.le_of_ble_eq_true rfl⟩ ⟨Nat.zero_le _, Nat.zero_le _⟩ (Nat.le_of_ble_eq_true rfl) dX10_bracket_39 rfl hz (fun r_8 S_7 hz => ?_)
  refine cl_10_205 C 45 ⟨Nat.le_of_ble_eq_true rfl, Nat.le_of_ble_eq_true rfl⟩ ⟨Nat.zero_le _, Nat.zero_le _⟩ (Nat.le_of_ble_eq_true rfl) dX10_bracket_42 rfl hz (fun S_9 hz => ?_)
  exact (t_X10_bracket_L45 C hr fu) x1 x2_6 S_9 hz
set_option maxRecDepth 20000 in
theorem t_X10_bracket {p : Program} {l : Launch} {e : Env} {s : State} {m : MethodId} {args : Array Value} {below : List Frame} {meth : Method} {c : Code} {D : va_G} {cy : Nat → ClassId} {ad : Nat → Nat} {n : Nat} {A : Nat → Prop} (C : gC p s m args meth c cX10_bracket 6 RX10 D cy ad n A) (hr : meth.sig.returnType = (some .int)) {z : Int32 × Sg} {S : Sg} (hz : f_X10_bracket S = some z) : gW p l e rm_X10_bracket s m args below meth c D cy ad n A 6 0 0 (MQ below (gQ D cy ad n A (some (.int z.1)) z.2) args s 0 0 A) S 0 [(0, .ref (ad 34))] [] := by
  unfold f_X10_bracket at hz
  refine g_aload_n C 1 0 rfl dX10_bracket_0 rfl ?_
  refine g_dup C 2 rfl dX10_bracket_1 rfl ?_
  refine gf_10_156 C 5 dX10_bracket_2 rfl ?_
  refine g_iconst C 6 (1 : Int32) ci_1 dX10_bracket_5 rfl ?_
  refine g_iadd C 7 dX10_bracket_6 rfl ?_
  refine pf_10_156 C 10 dX10_bracket_7 rfl hz (fun S_1 hz => ?_)
  refine g_aload_n C 11 0 rfl dX10_bracket_10 rfl ?_
  refine g_bipush C 13 (94 : Int32) cb_94 dX10_bracket_11 rfl ?_
  refine cl_10_174 C 16 ⟨Nat.le_of_ble_eq_true rfl, Nat.le_of_ble_eq_true rfl⟩ ⟨Nat.zero_le _, Nat.zero_le _⟩ (Nat.le_of_ble_eq_true rfl) dX10_bracket_13 rfl hz (fun r_3 S_2 hz => ?_)
  refine g_istore_n C 17 (i := 1) [1, 0] (fun x1_4 => [(0, .ref (ad 34)), (1, .int x1_4)]) dX10_bracket_16 rfl rfl (by decide) (fun x1_4 => rfl) hz (fun x1_4 hz => ?_)
  refine g_aload_n C 18 0 rfl dX10_bracket_17 rfl ?_
  refine g_dup C 19 rfl dX10_bracket_18 rfl ?_
  refine gf_10_156 C 22 dX10_bracket_19 rfl ?_
  refine g_iload_n C 23 1 rfl dX10_bracket_22 rfl ?_
  refine g_if_eq C 30 26 dX10_bracket_23 rfl rfl hz (fun hz => ?_) (fun hz => ?_)
  · refine g_iconst C 31 (0 : Int32) ci_0 dX10_bracket_30 rfl ?_
    exact (t_X10_bracket_L31 C hr) x1_4 ((0 : Int32)) ((S_2.1 34 27)) S_2 hz
  · refine g_iconst C 27 (1 : Int32) ci_1 dX10_bracket_26 rfl ?_
    refine g_goto C 31 dX10_bracket_27 rfl ?_
    exact (t_X10_bracket_L31 C hr) x1_4 ((1 : Int32)) ((S_2.1 34 27)) S_2 hz
theorem c_X10_bracket (l : Launch) (D : va_G) (cy : Nat → ClassId) (ad : Nat → Nat) (n : Nat) (S : Sg) (sz : Nat) (z : Int32 × Sg) (hz : f_X10_bracket S = some z) : Met l yX10_bracket (.code yX10_bracket cX10_bracket 6 (some .int) :: wsAll) rm_X10_bracket (gPc D cy ad n S sz [.ref (ad 34)]) (gQ D cy ad n (va_A (wW cy ad n S) sz) (some (.int z.1)) z.2) 0 0 (va_A (wW cy ad n S) sz) := by
  refine gMet (lv := [(0, .ref (ad 34))]) (by decide) (Nat.le_of_ble_eq_true rfl) rfl ?_
  intro p e s m args below meth c A hA hr C
  exact t_X10_bracket C hr hz
