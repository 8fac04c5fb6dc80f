def rm_X9_putBytes : Room := { frames := 0, cells := 0, slots := 0, locals := 0 }
set_option maxRecDepth 20000 in
theorem t_X9_putBytes_L3 {p : Program} {l : Launch} {e : Env} {s : State} {m : MethodId} {args : Array Value} {below : List Frame} {meth : Method} {c : Code} {D : va_G} {cy : Nat → ClassId} {ad : Nat → Nat} {n : Nat} {A : Nat → Prop} (C : gC p s m args meth c cX9_putBytes 3 RX9 D cy ad n A) (hr : meth.sig.returnType = none) {z : Sg} : ∀ (fl : Nat) (x1 : Int32) (x2 : Int32) (S : Sg), f_X9_putBytes_L3 fl x1 x2 S = some z → gW p l e rm_X9_putBytes s m args below meth c D cy ad n A 3 0 0 (MQ below (gQ D cy ad n A none z) args s 0 0 A) S 3 [(0, .ref (ad 0)), (1, .int x1), (2, .int x2)] [] := by
  intro fl
  induction fl with
  | zero =>
    intro x1 x2 S hz
    rw [f_X9_putBytes_L3] at hz
    cases hz
  | succ fl ih =>
    intro x1 x2 S hz
    rw [f_X9_putBytes_L3] at hz
    refine g_iload_n C 4 2 rfl dX9_putBytes_3 rfl ?_
    refine g_if_lt C 48 7 dX9_putBytes_4 rfl rfl hz (fun hz => ?_) (fun hz => ?_)
    · exact g_vret C hr dX9_putBytes_48 hz
    · refine g_aload_n C 8 0 rfl dX9_putBytes_7 rfl ?_
      refine gf_9_13 C 11 dX9_putBytes_8 rfl ?_
      refine g_bipush C 13 (100 : Int32) cb_100 dX9_putBytes_11 rfl ?_
      refine g_icmp_ge C 48 16 dX9_putBytes_13 rfl rfl hz (fun hz => ?_) (fun hz => ?_)
      · exact g_vret C hr dX9_putBytes_48 hz
      · refine g_aload_n C 17 0 rfl dX9_putBytes_16 rfl ?_
        refine gf_9_9 C 20 dX9_putBytes_17 rfl ?_
        refine g_aload_n C 21 0 rfl dX9_putBytes_20 rfl ?_
        refine gf_9_13 C 24 dX9_putBytes_21 rfl ?_
        refine g_iload_n C 25 1 rfl dX9_putBytes_24 rfl ?_
        refine g_iload_n C 26 2 rfl dX9_putBytes_25 rfl ?_
        refine g_iushr C 27 dX9_putBytes_26 rfl ?_
        refine g_sipush C 30 (255 : Int32) cs_255 dX9_putBytes_27 rfl ?_
        refine g_iand C 31 dX9_putBytes_30 rfl ?_
        refine g_iast C 32 ha_1 dX9_putBytes_31 rfl hz (fun S_2 hz => ?_)
        refine g_aload_n C 33 0 rfl dX9_putBytes_32 rfl ?_
        refine g_dup C 34 rfl dX9_putBytes_33 rfl ?_
        refine gf_9_13 C 37 dX9_putBytes_34 rfl ?_
        refine g_iconst C 38 (1 : Int32) ci_1 dX9_putBytes_37 rfl ?_
        refine g_iadd C 39 dX9_putBytes_38 rfl ?_
        refine pf_9_13 C 42 dX9_putBytes_39 rfl hz (fun S_3 hz => ?_)
        refine g_iinc C 45 2 [1, 2, 0] (-8 : Int32) ci_m8 (fun x2_4 => [(0, .ref (ad 0)), (1, .int x1), (2, .int x2_4)]) dX9_putBytes_42 rfl rfl (by decide) (fun x2_4 => rfl) hz (fun x2_4 hz => ?_)
        refine g_goto C 3 dX9_putBytes_45 rfl ?_
        exact ih x1 x2_4 S_3 hz
set_option maxRecDepth 20000 in
theorem t_X9_putBytes {p : Program} {l : Launch} {e : Env} {s : State} {m : MethodId} {args : Array Value} {below : List Frame} {meth : Method} {c : Code} {D : va_G} {cy : Nat → ClassId} {ad : Nat → Nat} {n : Nat} {A : Nat → Prop} (C : gC p s m args meth c cX9_putBytes 3 RX9 D cy ad n A) (hr : meth.sig.returnType = none) {z : Sg} {S : Sg} {x1 : Int32} (hz : f_X9_putBytes x1 S = some z) : gW p l e rm_X9_putBytes s m args below meth c D cy ad n A 3 0 0 (MQ below (gQ D cy ad n A none z) args s 0 0 A) S 0 [(0, .ref (ad 0)), (1, .int x1)] [] := by
  unfold f_X9_putBytes at hz
  refine g_bipush C 2 (24 : Int32) cb_24 dX9_putBytes_0 rfl ?_
  refine g_istore_n C 3 (i := 2) [1, 2, 0] (fun x2_1 => [(0, .ref (ad 0)), (1, .int x1), (2, .int x2_1)]) dX9_putBytes_2 rfl rfl (by decide) (fun x2_1 => rfl) hz (fun x2_1 hz => ?_)
  exact (t_X9_putBytes_L3 C hr fu) x1 x2_1 S hz
theorem c_X9_putBytes (l : Launch) (D : va_G) (cy : Nat → ClassId) (ad : Nat → Nat) (n : Nat) (S : Sg) (sz : Nat) (x1 : Int32) (z : Sg) (hz : f_X9_putBytes x1 S = some z) : Met l yX9_putBytes (.code yX9_putBytes cX9_putBytes 3 none :: wsAll) rm_X9_putBytes (gPc D cy ad n S sz [.ref (ad 0), .int x1]) (gQ D cy ad n (va_A (wW cy ad n S) sz) none z) 0 0 (va_A (wW cy ad n S) sz) := by
  refine gMet (lv := [(0, .ref (ad 0)), (1, .int x1)]) (by decide) (Nat.le_of_ble_eq_true rfl) rfl ?_
  intro p e s m args below meth c A hA hr C
  exact t_X9_putBytes C hr hz
def rm_X9_feed : Room := { frames := 1, cells := 0, slots := 0, locals := 22 }
theorem wl_9_76 : Cond.methodLink RX9 76 yX9_putBytes ∈ wsAll := wA 241 (by decide +kernel) (by decide +kernel)
theorem wi_X9_putBytes : Cond.instanceMethod yX9_putBytes ∈ wsAll := wA 243 (by decide +kernel) (by decide +kernel)
theorem we_X9_putBytes : Cond.selects RX9 yX9_putBytes yX9_putBytes ∈ wsAll := wAp 0 (by decide +kernel) (by decide +kernel)
theorem wz_9 : Cond.initialized RX9 ∈ wsAll := wA 1 (by decide +kernel) (by decide +kernel)
theorem wo_X9_putBytes : Cond.code yX9_putBytes cX9_putBytes 3 none ∈ wsAll := wA 244 (by decide +kernel) (by decide +kernel)
theorem cl_9_76 {p : Program} {l : Launch} {e : Env} {R : Room} {s : State} {m : MethodId} {args : Array Value} {below : List Frame} {meth : Method} {c : Code} {cc : ByteArray} {nL : Nat} {D : va_G} {cy : Nat → ClassId} {ad : Nat → Nat} {n : Nat} {A : Nat → Prop} {mc ms : Nat} {Q : State → Prop} {S : Sg} {pc : Nat} {lv : List (Nat × Value)} {st : List Value} {ζ : Type} {z : ζ} (C : gC p s m args meth c cc nL RX9 D cy ad n A) (nx : Nat) {x1 : Int32} (hR : Room.frames rm_X9_putBytes + 1 ≤ R.frames ∧ 8 + (3 + 11) + Room.locals rm_X9_putBytes ≤ R.locals) (hcm : mc ≤ R.cells ∧ ms ≤ R.slots) (hrest : (st.map fun v => v.category).sum ≤ 8) (hd : decode cc pc = .ok (.invokevirtual 76, 3)) (hn : pc + 3 = nx) {K : Sg → Option ζ} (hz : bd (f_X9_putBytes x1 S) K = some z) (kk : ∀ S', K S' = some z → gW p l e R s m args below meth c D cy ad n A nL mc ms Q S' nx lv st) : gW p l e R s m args below meth c D cy ad n A nL mc ms Q S pc lv (.int x1 :: .ref (ad 0) :: st) := by
  obtain ⟨q, hq, hk⟩ := bd_s hz
  exact g_callV C (i := 0) (ci := 9) (Cn := RX9) (T := TX9) (N := 11) (y := yX9_putBytes) (rm := rm_X9_putBytes) (As := [.int x1]) (rest := st) (na := 1) (fun sz => c_X9_putBytes l D cy ad n S sz x1 q hq) ha_0 rfl rfl wl_9_76 wi_X9_putBytes we_X9_putBytes wz_9 wo_X9_putBytes (by decide +kernel) rfl rfl hR hcm rfl hrest hn hd (kk q hk)
set_option maxRecDepth 20000 in
theorem t_X9_feed {p : Program} {l : Launch} {e : Env} {s : State} {m : MethodId} {args : Array Value} {below : List Frame} {meth : Method} {c : Code} {D : va_G} {cy : Nat → ClassId} {ad : Nat → Nat} {n : Nat} {A : Nat → Prop} (C : gC p s m args meth c cX9_feed 6 RX9 D cy ad n A) (hr : meth.sig.returnType = (some .int)) {z : Int32 × Sg} {S : Sg} {x1 : Int32} {x2 : Int32} {x3 : Int32} {x4 : Int32} {x5 : Int32} (hz : f_X9_feed x1 x2 x3 x4 x5 S = some z) : gW p l e rm_X9_feed s m args below meth c D cy ad n A 6 0 0 (MQ below (gQ D cy ad n A (some (.int z.1)) z.2) args s 0 0 A) S 0 [(0, .ref (ad 0)), (1, .int x1), (2, .int x2), (3, .int x3), (4, .int x4), (5, .int x5)] [] := by
  unfold f_X9_feed at hz
  refine g_aload_n C 1 0 rfl dX9_feed_0 rfl ?_
  refine gf_9_13 C 4 dX9_feed_1 rfl ?_
  refine g_bipush C 6 (20 : Int32) cb_20 dX9_feed_4 rfl ?_
  refine g_iadd C 7 dX9_feed_6 rfl ?_
  refine g_bipush C 9 (100 : Int32) cb_100 dX9_feed_7 rfl ?_
  refine g_icmp_le C 14 12 dX9_feed_9 rfl rfl hz (fun hz => ?_) (fun hz => ?_)
  · refine g_aload_n C 15 0 rfl dX9_feed_14 rfl ?_
    refine g_iload_n C 16 1 rfl dX9_feed_15 rfl ?_
    refine cl_9_76 C 19 ⟨Nat.le_of_ble_eq_true rfl, Nat.le_of_ble_eq_true rfl⟩ ⟨Nat.zero_le _, Nat.zero_le _⟩ (Nat.le_of_ble_eq_true rfl) dX9_feed_16 rfl hz (fun S_1 hz => ?_)
    refine g_aload_n C 20 0 rfl dX9_feed_19 rfl ?_
    refine g_iload_n C 21 2 rfl dX9_feed_20 rfl ?_
    refine cl_9_76 C 24 ⟨Nat.le_of_ble_eq_true rfl, Nat.le_of_ble_eq_true rfl⟩ ⟨Nat.zero_le _, Nat.zero_le _⟩ (Nat.le_of_ble_eq_true rfl) dX9_feed_21 rfl hz (fun S_2 hz => ?_)
    refine g_aload_n C 25 0 rfl dX9_feed_24 rfl ?_
    refine g_iload_n C 26 3 rfl dX9_feed_25 rfl ?_
    refine cl_9_76 C 29 ⟨Nat.le_of_ble_eq_true rfl, Nat.le_of_ble_eq_true rfl⟩ ⟨Nat.zero_le _, Nat.zero_le _⟩ (Nat.le_of_ble_eq_true rfl) dX9_feed_26 rfl hz (fun S_3 hz => ?_)
    refine g_aload_n C 30 0 rfl dX9_feed_29 rfl ?_
    refine g_iload C 32 4 rfl dX9_feed_30 rfl ?_
    refine cl_9_76 C 35 ⟨Nat.le_of_ble_eq_true rfl, Nat.le_of_ble_eq_true rfl⟩ ⟨Nat.zero_le _, Nat.zero_le _⟩ (Nat.le_of_ble_eq_true rfl) dX9_feed_32 rfl hz (fun S_4 hz => ?_)
    refine g_aload_n C 36 0 rfl dX9_feed_35 rfl ?_
    refine g_iload C 38 5 rfl dX9_feed_36 rfl ?_
    refine cl_9_76 C 41 ⟨Nat.le_of_ble_eq_true rfl, Nat.le_of_ble_eq_true rfl⟩ ⟨Nat.zero_le _, Nat.zero_le _⟩ (Nat.le_of_ble_eq_true rfl) dX9_feed_38 rfl hz (fun S_5 hz => ?_)
    refine g_aload_n C 42 0 rfl dX9_feed_41 rfl ?_
    refine gf_9_13 C 45 dX9_feed_42 rfl ?_
    exact g_iret C hr dX9_feed_45 hz
  · refine g_iconst C 13 (-1 : Int32) ci_m1 dX9_feed_12 rfl ?_
    exact g_iret C hr dX9_feed_13 hz
theorem c_X9_feed (l : Launch) (D : va_G) (cy : Nat → ClassId) (ad : Nat → Nat) (n : Nat) (S : Sg) (sz : Nat) (x1 : Int32) (x2 : Int32) (x3 : Int32) (x4 : Int32) (x5 : Int32) (z : Int32 × Sg) (hz : f_X9_feed x1 x2 x3 x4 x5 S = some z) : Met l yX9_feed (.code yX9_feed cX9_feed 6 (some .int) :: wsAll) rm_X9_feed (gPc D cy ad n S sz [.ref (ad 0), .int x1, .int x2, .int x3, .int x4, .int x5]) (gQ D cy ad n (va_A (wW cy ad n S) sz) (some (.int z.1)) z.2) 0 0 (va_A (wW cy ad n S) sz) := by
  refine gMet (lv := [(0, .ref (ad 0)), (1, .int x1), (2, .int x2), (3, .int x3), (4, .int x4), (5, .int x5)]) (by decide) (Nat.le_of_ble_eq_true rfl) rfl ?_
  intro p e s m args below meth c A hA hr C
  exact t_X9_feed C hr hz
def rm_X9_fault : Room := { frames := 0, cells := 0, slots := 0, locals := 0 }
set_option maxRecDepth 20000 in
theorem t_X9_fault {p : Program} {l : Launch} {e : Env} {s : State} {m : MethodId} {args : Array Value} {below : List Frame} {meth : Method} {c : Code} {D : va_G} {cy : Nat → ClassId} {ad : Nat → Nat} {n : Nat} {A : Nat → Prop} (C : gC p s m args meth c cX9_fault 2 RX9 D cy ad n A) (hr : meth.sig.returnType = (some .int)) {z : Int32 × Sg} {S : Sg} {x1 : Int32} (hz : f_X9_fault x1 S = some z) : gW p l e rm_X9_fault s m args below meth c D cy ad n A 2 0 0 (MQ below (gQ D cy ad n A (some (.int z.1)) z.2) args s 0 0 A) S 0 [(0, .ref (ad 0)), (1, .int x1)] [] := by
  unfold f_X9_fault at hz
  refine g_iload_n C 1 1 rfl dX9_fault_0 rfl ?_
  refine g_if_ne C 12 4 dX9_fault_1 rfl rfl hz (fun hz => ?_) (fun hz => ?_)
  · refine g_iload_n C 13 1 rfl dX9_fault_12 rfl ?_
    refine g_iconst C 14 (1 : Int32) ci_1 dX9_fault_13 rfl ?_
    refine g_icmp_ne C 27 17 dX9_fault_14 rfl rfl hz (fun hz => ?_) (fun hz => ?_)
    · refine g_iconst C 28 (-1 : Int32) ci_m1 dX9_fault_27 rfl ?_
      exact g_iret C hr dX9_fault_28 hz
    · refine g_aload_n C 18 0 rfl dX9_fault_17 rfl ?_
      refine gf_9_30 C 21 dX9_fault_18 rfl ?_
      refine gf_9_103 C 24 dX9_fault_21 rfl ?_
      refine g_goto C 28 dX9_fault_24 rfl ?_
      exact g_iret C hr dX9_fault_28 hz
  · refine g_aload_n C 5 0 rfl dX9_fault_4 rfl ?_
    refine gf_9_30 C 8 dX9_fault_5 rfl ?_
    refine gf_9_100 C 11 dX9_fault_8 rfl ?_
    exact g_iret C hr dX9_fault_11 hz
theorem c_X9_fault (l : Launch) (D : va_G) (cy : Nat → ClassId) (ad : Nat → Nat) (n : Nat) (S : Sg) (sz : Nat) (x1 : Int32) (z : Int32 × Sg) (hz : f_X9_fault x1 S = some z) : Met l yX9_fault (.code yX9_fault cX9_fault 2 (some .int) :: wsAll) rm_X9_fault (gPc D cy ad n S sz [.ref (ad 0), .int x1]) (gQ D cy ad n (va_A (wW cy ad n S) sz) (some (.int z.1)) z.2) 0 0 (va_A (wW cy ad n S) sz) := by
  refine gMet (lv := [(0, .ref (ad 0)), (1, .int x1)]) (by decide) (Nat.le_of_ble_eq_true rfl) rfl ?_
  intro p e s m args below meth c A hA hr C
  exact t_X9_fault C hr hz
def rm_X9_machineIn : Room := { frames := 0, cells := 0, slots := 0, locals := 0 }
set_option maxRecDepth 20000 in
theorem t_X9_machineIn {p : Program} {l : Launch} {e : Env} {s : State} {m : MethodId} {args : Array Value} {below : List Frame} {meth : Method} {c : Code} {D : va_G} {cy : Nat → ClassId} {ad : Nat → Nat} {n : Nat} {A : Nat → Prop} (C : gC p s m args meth c cX9_machineIn 2 RX9 D cy ad n A) (hr : meth.sig.returnType = (some (.object "WordMachines$Machine"))) {z : Option Nat × Sg} {S : Sg} {x1 : Int32} (hz : f_X9_machineIn x1 S = some z) : gW p l e rm_X9_machineIn s m args below meth c D cy ad n A 2 0 0 (MQ below (gQ D cy ad n A (some (rv ad z.1)) z.2) args s 0 0 A) S 0 [(0, .ref (ad 0)), (1, .int x1)] [] := by
  unfold f_X9_machineIn at hz
  refine g_iload_n C 1 1 rfl dX9_machineIn_0 rfl ?_
  refine g_if_lt C 18 4 dX9_machineIn_1 rfl rfl hz (fun hz => ?_) (fun hz => ?_)
  · refine g_nullN C 19 dX9_machineIn_18 rfl ?_
    exact g_aret C hr dX9_machineIn_19 hz
  · refine g_iload_n C 5 1 rfl dX9_machineIn_4 rfl ?_
    refine g_iconst C 6 (4 : Int32) ci_4 dX9_machineIn_5 rfl ?_
    refine g_icmp_ge C 18 9 dX9_machineIn_6 rfl rfl hz (fun hz => ?_) (fun hz => ?_)
    · refine g_nullN C 19 dX9_machineIn_18 rfl ?_
      exact g_aret C hr dX9_machineIn_19 hz
    · refine g_aload_n C 10 0 rfl dX9_machineIn_9 rfl ?_
      refine gf_9_19 C 13 dX9_machineIn_10 rfl ?_
      refine g_iload_n C 14 1 rfl dX9_machineIn_13 rfl ?_
      refine g_aald C 15 ha_2 dX9_machineIn_14 rfl hz (fun hz => ?_)
      refine g_goto C 19 dX9_machineIn_15 rfl ?_
      exact g_aret C hr dX9_machineIn_19 hz
theorem c_X9_machineIn (l : Launch) (D : va_G) (cy : Nat → ClassId) (ad : Nat → Nat) (n : Nat) (S : Sg) (sz : Nat) (x1 : Int32) (z : Option Nat × Sg) (hz : f_X9_machineIn x1 S = some z) : Met l yX9_machineIn (.code yX9_machineIn cX9_machineIn 2 (some (.object "WordMachines$Machine")) :: wsAll) rm_X9_machineIn (gPc D cy ad n S sz [.ref (ad 0), .int x1]) (gQ D cy ad n (va_A (wW cy ad n S) sz) (some (rv ad z.1)) z.2) 0 0 (va_A (wW cy ad n S) sz) := by
  refine gMet (lv := [(0, .ref (ad 0)), (1, .int x1)]) (by decide) (Nat.le_of_ble_eq_true rfl) rfl ?_
  intro p e s m args below meth c A hA hr C
  exact t_X9_machineIn C hr hz
def rm_X4_firstAccepting : Room := { frames := 0, cells := 0, slots := 0, locals := 0 }
set_option maxRecDepth 20000 in
theorem t_X4_firstAccepting_L2 {p : Program} {l : Launch} {e : Env} {s : State} {m : MethodId} {args : Array Value} {below : List Frame} {meth : Method} {c : Code} {D : va_G} {cy : Nat → ClassId} {ad : Nat → Nat} {n : Nat} {A : Nat → Prop} (C : gC p s m args meth c cX4_firstAccepting 2 RX4 D cy ad n A) (hr : meth.sig.returnType = (some .int)) {z : Int32 × Sg} : ∀ (fl : Nat) (i0 : Nat) (x1 : Int32) (S : Sg), okM n i0 = true → f_X4_firstAccepting_L2 fl i0 x1 S = some z → gW p l e rm_X4_firstAccepting s m args below meth c D cy ad n A 2 0 0 (MQ below (gQ D cy ad n A (some (.int z.1)) z.2) args s 0 0 A) S 2 [(0, .ref (ad i0)), (1, .int x1)] [] := by
  intro fl
  induction fl with
  | zero =>
    intro i0 x1 S h_i0 hz
    rw [f_X4_firstAccepting_L2] at hz
    cases hz
  | succ fl ih =>
    intro i0 x1 S h_i0 hz
    rw [f_X4_firstAccepting_L2] at hz
    refine g_iload_n C 3 1 rfl dX4_firstAccepting_2 rfl ?_
    refine g_aload_n C 4 0 rfl dX4_firstAccepting_3 rfl ?_
    refine gf_4_9 C 7 h_i0 dX4_firstAccepting_4 rfl ?_
    refine g_icmp_ge C 27 10 dX4_firstAccepting_7 rfl rfl hz (fun hz => ?_) (fun hz => ?_)
    · refine g_iconst C 28 (-1 : Int32) ci_m1 dX4_firstAccepting_27 rfl ?_
      exact g_iret C hr dX4_firstAccepting_28 hz
    · refine g_aload_n C 11 0 rfl dX4_firstAccepting_10 rfl ?_
      refine gf_4_38 C 14 h_i0 dX4_firstAccepting_11 rfl ?_
      refine g_iload_n C 15 1 rfl dX4_firstAccepting_14 rfl ?_
      refine g_zald C 16 (has_m h_i0 4 (by decide)) dX4_firstAccepting_15 rfl hz (fun hz => ?_)
      refine g_if_eq C 21 19 dX4_firstAccepting_16 rfl rfl hz (fun hz => ?_) (fun hz => ?_)
      · refine g_iinc C 24 1 [1, 0] (1 : Int32) ci_1 (fun x1_2 => [(0, .ref (ad i0)), (1, .int x1_2)]) dX4_firstAccepting_21 rfl rfl (by decide) (fun x1_2 => rfl) hz (fun x1_2 hz => ?_)
        refine g_goto C 2 dX4_firstAccepting_24 rfl ?_
        exact ih i0 x1_2 S h_i0 hz
      · refine g_iload_n C 20 1 rfl dX4_firstAccepting_19 rfl ?_
        exact g_iret C hr dX4_firstAccepting_20 hz
set_option maxRecDepth 20000 in
theorem t_X4_firstAccepting {p : Program} {l : Launch} {e : Env} {s : State} {m : MethodId} {args : Array Value} {below : List Frame} {meth : Method} {c : Code} {D : va_G} {cy : Nat → ClassId} {ad : Nat → Nat} {n : Nat} {A : Nat → Prop} (C : gC p s m args meth c cX4_firstAccepting 2 RX4 D cy ad n A) (hr : meth.sig.returnType = (some .int)) {z : Int32 × Sg} {S : Sg} {i0 : Nat} (h_i0 : okM n i0 = true) (hz : f_X4_firstAccepting i0 S = some z) : gW p l e rm_X4_firstAccepting s m args below meth c D cy ad n A 2 0 0 (MQ below (gQ D cy ad n A (some (.int z.1)) z.2) args s 0 0 A) S 0 [(0, .ref (ad i0))] [] := by
  unfold f_X4_firstAccepting at hz
  refine g_iconst C 1 (0 : Int32) ci_0 dX4_firstAccepting_0 rfl ?_
  refine g_istore_n C 2 (i := 1) [1, 0] (fun x1_1 => [(0, .ref (ad i0)), (1, .int x1_1)]) dX4_firstAccepting_1 rfl rfl (by decide) (fun x1_1 => rfl) hz (fun x1_1 hz => ?_)
  exact (t_X4_firstAccepting_L2 C hr fu) i0 x1_1 S h_i0 hz
theorem c_X4_firstAccepting (l : Launch) (D : va_G) (cy : Nat → ClassId) (ad : Nat → Nat) (n : Nat) (S : Sg) (sz : Nat) (i0 : Nat) (z : Int32 × Sg) (h_i0 : okM n i0 = true) (hz : f_X4_firstAccepting i0 S = some z) : Met l yX4_firstAccepting (.code yX4_firstAccepting cX4_firstAccepting 2 (some .int) :: wsAll) rm_X4_firstAccepting (gPc D cy ad n S sz [.ref (ad i0)]) (gQ D cy ad n (va_A (wW cy ad n S) sz) (some (.int z.1)) z.2) 0 0 (va_A (wW cy ad n S) sz) := by
  refine gMet (lv := [(0, .ref (ad i0))]) (by decide) (Nat.le_of_ble_eq_true rfl) rfl ?_
  intro p e s m args below meth c A hA hr C
  exact t_X4_firstAccepting C hr h_i0 hz
def rm_X9_look : Room := { frames := 1, cells := 0, slots := 0, locals := 21 }
theorem wl_9_106 : Cond.methodLink RX9 106 yX9_machineIn ∈ wsAll := wA 503 (by decide +kernel) (by decide +kernel)
theorem wi_X9_machineIn : Cond.instanceMethod yX9_machineIn ∈ wsAll := wA 505 (by decide +kernel) (by decide +kernel)
theorem we_X9_machineIn : Cond.selects RX9 yX9_machineIn yX9_machineIn ∈ wsAll := wAp 37 (by decide +kernel) (by decide +kernel)
theorem wo_X9_machineIn : Cond.code yX9_machineIn cX9_machineIn 2 (some (.object "WordMachines$Machine")) ∈ wsAll := wA 506 (by decide +kernel) (by decide +kernel)
theorem cl_9_106 {p : Program} {l : Launch} {e : Env} {R : Room} {s : State} {m : MethodId} {args : Array Value} {below : List Frame} {meth : Method} {c : Code} {cc : ByteArray} {nL : Nat} {D : va_G} {cy : Nat → ClassId} {ad : Nat → Nat} {n : Nat} {A : Nat → Prop} {mc ms : Nat} {Q : State → Prop} {S : Sg} {pc : Nat} {lv : List (Nat × Value)} {st : List Value} {ζ : Type} {z : ζ} (C : gC p s m args meth c cc nL RX9 D cy ad n A) (nx : Nat) {x1 : Int32} (hR : Room.frames rm_X9_machineIn + 1 ≤ R.frames ∧ 8 + (2 + 11) + Room.locals rm_X9_machineIn ≤ R.locals) (hcm : mc ≤ R.cells ∧ ms ≤ R.slots) (hrest : (st.map fun v => v.category).sum ≤ 8) (hd : decode cc pc = .ok (.invokevirtual 106, 3)) (hn : pc + 3 = nx) {K : Option Nat → Sg → Option ζ} (hz : bd2 (f_X9_machineIn x1 S) K = some z) (kk : ∀ r S', K r S' = some z → gW p l e R s m args below meth c D cy ad n A nL mc ms Q S' nx lv (rv ad r :: st)) : gW p l e R s m args below meth c D cy ad n A nL mc ms Q S pc lv (.int x1 :: .ref (ad 0) :: st) := by
  obtain ⟨q, hq, hk⟩ := bd2_s hz
  exact g_callV C (i := 0) (ci := 9) (Cn := RX9) (T := TX9) (N := 11) (y := yX9_machineIn) (rm := rm_X9_machineIn) (As := [.int x1]) (rest := st) (na := 1) (fun sz => c_X9_machineIn l D cy ad n S sz x1 q hq) ha_0 rfl rfl wl_9_106 wi_X9_machineIn we_X9_machineIn wz_9 wo_X9_machineIn (by decide +kernel) rfl rfl hR hcm rfl hrest hn hd (kk q.1 q.2 hk)
theorem wl_9_118 : Cond.methodLinkNest RX9 118 yX4_firstAccepting "WordMachines" ∈ tables_1 := List.mem_of_getElem? (i := 507) (by decide +kernel)
theorem wi_X4_firstAccepting : Cond.instanceMethod yX4_firstAccepting ∈ wsAll := wA 509 (by decide +kernel) (by decide +kernel)
theorem we_X4_firstAccepting : Cond.selects RX4 yX4_firstAccepting yX4_firstAccepting ∈ wsAll := wAp 38 (by decide +kernel) (by decide +kernel)
theorem wz_4 : Cond.initialized RX4 ∈ wsAll := wA 13 (by decide +kernel) (by decide +kernel)
theorem wo_X4_firstAccepting : Cond.code yX4_firstAccepting cX4_firstAccepting 2 (some .int) ∈ wsAll := wA 510 (by decide +kernel) (by decide +kernel)
theorem cl_9_118 {p : Program} {l : Launch} {e : Env} {R : Room} {s : State} {m : MethodId} {args : Array Value} {below : List Frame} {meth : Method} {c : Code} {cc : ByteArray} {nL : Nat} {D : va_G} {cy : Nat → ClassId} {ad : Nat → Nat} {n : Nat} {A : Nat → Prop} {mc ms : Nat} {Q : State → Prop} {S : Sg} {pc : Nat} {lv : List (Nat × Value)} {st : List Value} {ζ : Type} {z : ζ} (C : gC p s m args meth c cc nL RX9 D cy ad n A) (nx : Nat) {i0 : Nat} (h_i0 : okM n i0 = true) (hR : Room.frames rm_X4_firstAccepting + 1 ≤ R.frames ∧ 8 + (2 + 11) + Room.locals rm_X4_firstAccepting ≤ R.locals) (hcm : mc ≤ R.cells ∧ ms ≤ R.slots) (hrest : (st.map fun v => v.category).sum ≤ 8) (hd : decode cc pc = .ok (.invokevirtual 118, 3)) (hn : pc + 3 = nx) {K : Int32 → Sg → Option ζ} (hz : bd2 (f_X4_firstAccepting i0 S) K = some z) (kk : ∀ r S', K r S' = some z → gW p l e R s m args below meth c D cy ad n A nL mc ms Q S' nx lv (.int r :: st)) : gW p l e R s m args below meth c D cy ad n A nL mc ms Q S pc lv (.ref (ad i0) :: st) := by
  obtain ⟨q, hq, hk⟩ := bd2_s hz
  exact g_callVN C (i := i0) (ci := 4) (Cn := RX4) (T := TX4) (N := 10) (y := yX4_firstAccepting) (rm := rm_X4_firstAccepting) (As := []) (rest := st) (na := 0) (fun sz => c_X4_firstAccepting l D cy ad n S sz i0 q h_i0 hq) (has_m0 h_i0) rfl rfl wl_9_118 wi_X4_firstAccepting we_X4_firstAccepting wz_4 wo_X4_firstAccepting (by decide +kernel) rfl rfl hR hcm rfl hrest hn hd (kk q.1 q.2 hk)
set_option maxRecDepth 20000 in
theorem t_X9_look {p : Program} {l : Launch} {e : Env} {s : State} {m : MethodId} {args : Array Value} {below : List Frame} {meth : Method} {c : Code} {D : va_G} {cy : Nat → ClassId} {ad : Nat → Nat} {n : Nat} {A : Nat → Prop} (C : gC p s m args meth c cX9_look 4 RX9 D cy ad n A) (hr : meth.sig.returnType = (some .int)) {z : Int32 × Sg} {S : Sg} {x1 : Int32} {x2 : Int32} (hz : f_X9_look n x1 x2 S = some z) : gW p l e rm_X9_look s m args below meth c D cy ad n A 4 0 0 (MQ below (gQ D cy ad n A (some (.int z.1)) z.2) args s 0 0 A) S 0 [(0, .ref (ad 0)), (1, .int x1), (2, .int x2)] [] := by
  unfold f_X9_look at hz
  refine g_aload_n C 1 0 rfl dX9_look_0 rfl ?_
  refine g_iload_n C 2 1 rfl dX9_look_1 rfl ?_
  refine cl_9_106 C 5 ⟨Nat.le_of_ble_eq_true rfl, Nat.le_of_ble_eq_true rfl⟩ ⟨Nat.zero_le _, Nat.zero_le _⟩ (Nat.le_of_ble_eq_true rfl) dX9_look_2 rfl hz (fun r_2 S_1 hz => ?_)
  refine g_astoreN_n C 6 (i := 3) [3, 0] [(2, .int x2), (3, rv ad r_2)] dX9_look_5 rfl rfl (by decide) rfl ?_
  refine g_aloadN_n C 7 1 rfl dX9_look_6 rfl ?_
  refine g_ifnonnull C 12 10 dX9_look_7 rfl rfl hz (fun i_3 e_r h_i_3 hz_i_3 => ?_) (fun e_r hz_i_3 => ?_)
  · subst e_r; have hz := hz_i_3
    try rw [rv_some]
    refine g_iload_n C 13 0 rfl dX9_look_12 rfl ?_
    by_cases hq0 : x2 = nI 0
    · rw [if_pos hq0] at hz
      refine g_tabIn C 52 0 (by decide) dX9_look_13 rfl hq0 rfl ?_
      refine g_aload_n C 53 1 rfl dX9_look_52 rfl ?_
      refine gf_9_97 C 56 h_i_3 dX9_look_53 rfl ?_
      exact g_iret C hr dX9_look_56 hz
    rw [if_neg hq0] at hz
    by_cases hq1 : x2 = nI 1
    · rw [if_pos hq1] at hz
      refine g_tabIn C 57 1 (by decide) dX9_look_13 rfl hq1 rfl ?_
      refine g_aload_n C 58 1 rfl dX9_look_57 rfl ?_
      refine gf_9_110 C 61 h_i_3 dX9_look_58 rfl ?_
      exact g_iret C hr dX9_look_61 hz
    rw [if_neg hq1] at hz
    by_cases hq2 : x2 = nI 2
    · rw [if_pos hq2] at hz
      refine g_tabIn C 62 2 (by decide) dX9_look_13 rfl hq2 rfl ?_
      refine g_aload_n C 63 1 rfl dX9_look_62 rfl ?_
      refine gf_9_113 C 66 h_i_3 dX9_look_63 rfl ?_
      exact g_iret C hr dX9_look_66 hz
    rw [if_neg hq2] at hz
    by_cases hq3 : x2 = nI 3
    · rw [if_pos hq3] at hz
      refine g_tabIn C 67 3 (by decide) dX9_look_13 rfl hq3 rfl ?_
      refine g_aload_n C 68 1 rfl dX9_look_67 rfl ?_
      refine gf_9_115 C 71 h_i_3 dX9_look_68 rfl ?_
      exact g_iret C hr dX9_look_71 hz
    rw [if_neg hq3] at hz
    by_cases hq4 : x2 = nI 4
    · rw [if_pos hq4] at hz
      refine g_tabIn C 72 4 (by decide) dX9_look_13 rfl hq4 rfl ?_
      refine g_aload_n C 73 1 rfl dX9_look_72 rfl ?_
      refine cl_9_118 C 76 h_i_3 ⟨Nat.le_of_ble_eq_true rfl, Nat.le_of_ble_eq_true rfl⟩ ⟨Nat.zero_le _, Nat.zero_le _⟩ (Nat.le_of_ble_eq_true rfl) dX9_look_73 rfl hz (fun r_5 S_4 hz => ?_)
      refine g_iconst C 77 (-1 : Int32) ci_m1 dX9_look_76 rfl ?_
      refine g_icmp_ne C 84 80 dX9_look_77 rfl rfl hz (fun hz => ?_) (fun hz => ?_)
      · refine g_iconst C 85 (0 : Int32) ci_0 dX9_look_84 rfl ?_
        exact g_iret C hr dX9_look_85 hz
      · refine g_iconst C 81 (1 : Int32) ci_1 dX9_look_80 rfl ?_
        refine g_goto C 85 dX9_look_81 rfl ?_
        exact g_iret C hr dX9_look_85 hz
    rw [if_neg hq4] at hz
    by_cases hq5 : x2 = nI 5
    · rw [if_pos hq5] at hz
      refine g_tabIn C 86 5 (by decide) dX9_look_13 rfl hq5 rfl ?_
      refine g_aload_n C 87 1 rfl dX9_look_86 rfl ?_
      refine gf_9_122 C 90 h_i_3 dX9_look_87 rfl ?_
      refine g_if_eq C 97 93 dX9_look_90 rfl rfl hz (fun hz => ?_) (fun hz => ?_)
      · refine g_iconst C 98 (0 : Int32) ci_0 dX9_look_97 rfl ?_
        exact g_iret C hr dX9_look_98 hz
      · refine g_iconst C 94 (1 : Int32) ci_1 dX9_look_93 rfl ?_
        refine g_goto C 98 dX9_look_94 rfl ?_
        exact g_iret C hr dX9_look_98 hz
    rw [if_neg hq5] at hz
    refine g_tabOut C 99 dX9_look_13 (tsw_out (hi := 5) (by decide) (fun k hk => by rcases (show k = 0 ∨ k = 1 ∨ k = 2 ∨ k = 3 ∨ k = 4 ∨ k = 5 by omega) with rfl | rfl | rfl | rfl | rfl | rfl <;> assumption)) rfl ?_
    refine g_iconst C 100 (-1 : Int32) ci_m1 dX9_look_99 rfl ?_
    exact g_iret C hr dX9_look_100 hz
  · subst e_r; have hz := hz_i_3
    try rw [rv_none]
    refine g_iconst C 11 (-1 : Int32) ci_m1 dX9_look_10 rfl ?_
    exact g_iret C hr dX9_look_11 hz
theorem c_X9_look (l : Launch) (D : va_G) (cy : Nat → ClassId) (ad : Nat → Nat) (n : Nat) (S : Sg) (sz : Nat) (x1 : Int32) (x2 : Int32) (z : Int32 × Sg) (hz : f_X9_look n x1 x2 S = some z) : Met l yX9_look (.code yX9_look cX9_look 4 (some .int) :: wsAll) rm_X9_look (gPc D cy ad n S sz [.ref (ad 0), .int x1, .int x2]) (gQ D cy ad n (va_A (wW cy ad n S) sz) (some (.int z.1)) z.2) 0 0 (va_A (wW cy ad n S) sz) := by
  refine gMet (lv := [(0, .ref (ad 0)), (1, .int x1), (2, .int x2)]) (by decide) (Nat.le_of_ble_eq_true rfl) rfl ?_
  intro p e s m args below meth c A hA hr C
  exact t_X9_look C hr hz
def rm_X4_hasState : Room := { frames := 0, cells := 0, slots := 0, locals := 0 }
set_option maxRecDepth 20000 in
theorem t_X4_hasState {p : Program} {l : Launch} {e : Env} {s : State} {m : MethodId} {args : Array Value} {below : List Frame} {meth : Method} {c : Code} {D : va_G} {cy : Nat → ClassId} {ad : Nat → Nat} {n : Nat} {A : Nat → Prop} (C : gC p s m args meth c cX4_hasState 2 RX4 D cy ad n A) (hr : meth.sig.returnType = (some .boolean)) {z : Int32 × Sg} {S : Sg} {i0 : Nat} {x1 : Int32} (h_i0 : okM n i0 = true) (hz : f_X4_hasState i0 x1 S = some z) : gW p l e rm_X4_hasState s m args below meth c D cy ad n A 2 0 0 (MQ below (gQ D cy ad n A (some (.int z.1)) z.2) args s 0 0 A) S 0 [(0, .ref (ad i0)), (1, .int x1)] [] := by
  unfold f_X4_hasState at hz
  refine g_iload_n C 1 1 rfl dX4_hasState_0 rfl ?_
  refine g_if_lt C 16 4 dX4_hasState_1 rfl rfl hz (fun hz => ?_) (fun hz => ?_)
  · refine g_iconst C 17 (0 : Int32) ci_0 dX4_hasState_16 rfl ?_
    exact g_zretc C hr (by decide) dX4_hasState_17 hz
  · refine g_iload_n C 5 1 rfl dX4_hasState_4 rfl ?_
    refine g_aload_n C 6 0 rfl dX4_hasState_5 rfl ?_
    refine gf_4_9 C 9 h_i0 dX4_hasState_6 rfl ?_
    refine g_icmp_ge C 16 12 dX4_hasState_9 rfl rfl hz (fun hz => ?_) (fun hz => ?_)
    · refine g_iconst C 17 (0 : Int32) ci_0 dX4_hasState_16 rfl ?_
      exact g_zretc C hr (by decide) dX4_hasState_17 hz
    · refine g_iconst C 13 (1 : Int32) ci_1 dX4_hasState_12 rfl ?_
      refine g_goto C 17 dX4_hasState_13 rfl ?_
      exact g_zretc C hr (by decide) dX4_hasState_17 hz
theorem c_X4_hasState (l : Launch) (D : va_G) (cy : Nat → ClassId) (ad : Nat → Nat) (n : Nat) (S : Sg) (sz : Nat) (i0 : Nat) (x1 : Int32) (z : Int32 × Sg) (h_i0 : okM n i0 = true) (hz : f_X4_hasState i0 x1 S = some z) : Met l yX4_hasState (.code yX4_hasState cX4_hasState 2 (some .boolean) :: wsAll) rm_X4_hasState (gPc D cy ad n S sz [.ref (ad i0), .int x1]) (gQ D cy ad n (va_A (wW cy ad n S) sz) (some (.int z.1)) z.2) 0 0 (va_A (wW cy ad n S) sz) := by
  refine gMet (lv := [(0, .ref (ad i0)), (1, .int x1)]) (by decide) (Nat.le_of_ble_eq_true rfl) rfl ?_
  intro p e s m args below meth c A hA hr C
  exact t_X4_hasState C hr h_i0 hz
def rm_X9_next : Room := { frames := 1, cells := 0, slots := 0, locals := 21 }
theorem wl_9_126 : Cond.methodLinkNest RX9 126 yX4_hasState "WordMachines" ∈ tables_1 := List.mem_of_getElem? (i := 515) (by decide +kernel)
theorem wi_X4_hasState : Cond.instanceMethod yX4_hasState ∈ wsAll := wA 517 (by decide +kernel) (by decide +kernel)
theorem we_X4_hasState : Cond.selects RX4 yX4_hasState yX4_hasState ∈ wsAll := wAp 39 (by decide +kernel) (by decide +kernel)
theorem wo_X4_hasState : Cond.code yX4_hasState cX4_hasState 2 (some .boolean) ∈ wsAll := wA 518 (by decide +kernel) (by decide +kernel)
theorem cl_9_126 {p : Program} {l : Launch} {e : Env} {R : Room} {s : State} {m : MethodId} {args : Array Value} {below : List Frame} {meth : Method} {c : Code} {cc : ByteArray} {nL : Nat} {D : va_G} {cy : Nat → ClassId} {ad : Nat → Nat} {n : Nat} {A : Nat → Prop} {mc ms : Nat} {Q : State → Prop} {S : Sg} {pc : Nat} {lv : List (Nat × Value)} {st : List Value} {ζ : Type} {z : ζ} (C : gC p s m args meth c cc nL RX9 D cy ad n A) (nx : Nat) {i0 : Nat} {x1 : Int32} (h_i0 : okM n i0 = true) (hR : Room.frames rm_X4_hasState + 1 ≤ R.frames ∧ 8 + (2 + 11) + Room.locals rm_X4_hasState ≤ R.locals) (hcm : mc ≤ R.cells ∧ ms ≤ R.slots) (hrest : (st.map fun v => v.category).sum ≤ 8) (hd : decode cc pc = .ok (.invokevirtual 126, 3)) (hn : pc + 3 = nx) {K : Int32 → Sg → Option ζ} (hz : bd2 (f_X4_hasState i0 x1 S) K = some z) (kk : ∀ r S', K r S' = some z → gW p l e R s m args below meth c D cy ad n A nL mc ms Q S' nx lv (.int r :: st)) : gW p l e R s m args below meth c D cy ad n A nL mc ms Q S pc lv (.int x1 :: .ref (ad i0) :: st) := by
  obtain ⟨q, hq, hk⟩ := bd2_s hz
  exact g_callVN C (i := i0) (ci := 4) (Cn := RX4) (T := TX4) (N := 10) (y := yX4_hasState) (rm := rm_X4_hasState) (As := [.int x1]) (rest := st) (na := 1) (fun sz => c_X4_hasState l D cy ad n S sz i0 x1 q h_i0 hq) (has_m0 h_i0) rfl rfl wl_9_126 wi_X4_hasState we_X4_hasState wz_4 wo_X4_hasState (by decide +kernel) rfl rfl hR hcm rfl hrest hn hd (kk q.1 q.2 hk)
set_option maxRecDepth 20000 in
theorem t_X9_next {p : Program} {l : Launch} {e : Env} {s : State} {m : MethodId} {args : Array Value} {below : List Frame} {meth : Method} {c : Code} {D : va_G} {cy : Nat → ClassId} {ad : Nat → Nat} {n : Nat} {A : Nat → Prop} (C : gC p s m args meth c cX9_next 5 RX9 D cy ad n A) (hr : meth.sig.returnType = (some .int)) {z : Int32 × Sg} {S : Sg} {x1 : Int32} {x2 : Int32} {x3 : Int32} (hz : f_X9_next n x1 x2 x3 S = some z) : gW p l e rm_X9_next s m args below meth c D cy ad n A 5 0 0 (MQ below (gQ D cy ad n A (some (.int z.1)) z.2) args s 0 0 A) S 0 [(0, .ref (ad 0)), (1, .int x1), (2, .int x2), (3, .int x3)] [] := by
  unfold f_X9_next at hz
  refine g_aload_n C 1 0 rfl dX9_next_0 rfl ?_
  refine g_iload_n C 2 1 rfl dX9_next_1 rfl ?_
  refine cl_9_106 C 5 ⟨Nat.le_of_ble_eq_true rfl, Nat.le_of_ble_eq_true rfl⟩ ⟨Nat.zero_le _, Nat.zero_le _⟩ (Nat.le_of_ble_eq_true rfl) dX9_next_2 rfl hz (fun r_2 S_1 hz => ?_)
  refine g_astoreN C 7 (i := 4) [3, 4, 0] [(2, .int x2), (3, .int x3), (4, rv ad r_2)] dX9_next_5 rfl (by decide) rfl ?_
  refine g_aloadN C 9 2 rfl dX9_next_7 rfl ?_
  refine g_ifnull C 30 12 dX9_next_9 rfl rfl hz (fun e_r hz_i_3 => ?_) (fun i_3 e_r h_i_3 hz_i_3 => ?_)
  · subst e_r; have hz := hz_i_3
    try rw [rv_none]
    refine g_iconst C 31 (-1 : Int32) ci_m1 dX9_next_30 rfl ?_
    exact g_iret C hr dX9_next_31 hz
  · subst e_r; have hz := hz_i_3
    try rw [rv_some]
    refine g_aload C 14 2 rfl dX9_next_12 rfl ?_
    refine g_iload_n C 15 0 rfl dX9_next_14 rfl ?_
    refine cl_9_126 C 18 h_i_3 ⟨Nat.le_of_ble_eq_true rfl, Nat.le_of_ble_eq_true rfl⟩ ⟨Nat.zero_le _, Nat.zero_le _⟩ (Nat.le_of_ble_eq_true rfl) dX9_next_15 rfl hz (fun r_5 S_4 hz => ?_)
    refine g_if_eq C 30 21 dX9_next_18 rfl rfl hz (fun hz => ?_) (fun hz => ?_)
    · refine g_iconst C 31 (-1 : Int32) ci_m1 dX9_next_30 rfl ?_
      exact g_iret C hr dX9_next_31 hz
    · refine g_iload_n C 22 1 rfl dX9_next_21 rfl ?_
      refine g_if_lt C 30 25 dX9_next_22 rfl rfl hz (fun hz => ?_) (fun hz => ?_)
      · refine g_iconst C 31 (-1 : Int32) ci_m1 dX9_next_30 rfl ?_
        exact g_iret C hr dX9_next_31 hz
      · refine g_iload_n C 26 1 rfl dX9_next_25 rfl ?_
        refine g_iconst C 27 (4 : Int32) ci_4 dX9_next_26 rfl ?_
        refine g_icmp_lt C 32 30 dX9_next_27 rfl rfl hz (fun hz => ?_) (fun hz => ?_)
        · refine g_aload C 34 2 rfl dX9_next_32 rfl ?_
          refine gf_9_130 C 37 h_i_3 dX9_next_34 rfl ?_
          refine g_iload_n C 38 0 rfl dX9_next_37 rfl ?_
          refine g_iconst C 39 (4 : Int32) ci_4 dX9_next_38 rfl ?_
          refine g_imul C 40 dX9_next_39 rfl ?_
          refine g_iload_n C 41 1 rfl dX9_next_40 rfl ?_
          refine g_iadd C 42 dX9_next_41 rfl ?_
          refine g_iald C 43 (has_m h_i_3 1 (by decide)) dX9_next_42 rfl hz (fun hz => ?_)
          exact g_iret C hr dX9_next_43 hz
        · refine g_iconst C 31 (-1 : Int32) ci_m1 dX9_next_30 rfl ?_
          exact g_iret C hr dX9_next_31 hz
theorem c_X9_next (l : Launch) (D : va_G) (cy : Nat → ClassId) (ad : Nat → Nat) (n : Nat) (S : Sg) (sz : Nat) (x1 : Int32) (x2 : Int32) (x3 : Int32) (z : Int32 × Sg) (hz : f_X9_next n x1 x2 x3 S = some z) : Met l yX9_next (.code yX9_next cX9_next 5 (some .int) :: wsAll) rm_X9_next (gPc D cy ad n S sz [.ref (ad 0), .int x1, .int x2, .int x3]) (gQ D cy ad n (va_A (wW cy ad n S) sz) (some (.int z.1)) z.2) 0 0 (va_A (wW cy ad n S) sz) := by
  refine gMet (lv := [(0, .ref (ad 0)), (1, .int x1), (2, .int x2), (3, .int x3)]) (by decide) (Nat.le_of_ble_eq_true rfl) rfl ?_
  intro p e s m args below meth c A hA hr C
  exact t_X9_next C hr hz
def rm_X9_accepts : Room := { frames := 1, cells := 0, slots := 0, locals := 21 }
set_option maxRecDepth 20000 in
theorem t_X9_accepts {p : Program} {l : Launch} {e : Env} {s : State} {m : MethodId} {args : Array Value} {below : List Frame} {meth : Method} {c : Code} {D : va_G} {cy : Nat → ClassId} {ad : Nat → Nat} {n : Nat} {A : Nat → Prop} (C : gC p s m args meth c cX9_accepts 4 RX9 D cy ad n A) (hr : meth.sig.returnType = (some .int)) {z : Int32 × Sg} {S : Sg} {x1 : Int32} {x2 : Int32} (hz : f_X9_accepts n x1 x2 S = some z) : gW p l e rm_X9_accepts s m args below meth c D cy ad n A 4 0 0 (MQ below (gQ D cy ad n A (some (.int z.1)) z.2) args s 0 0 A) S 0 [(0, .ref (ad 0)), (1, .int x1), (2, .int x2)] [] := by
  unfold f_X9_accepts at hz
  refine g_aload_n C 1 0 rfl dX9_accepts_0 rfl ?_
  refine g_iload_n C 2 1 rfl dX9_accepts_1 rfl ?_
  refine cl_9_106 C 5 ⟨Nat.le_of_ble_eq_true rfl, Nat.le_of_ble_eq_true rfl⟩ ⟨Nat.zero_le _, Nat.zero_le _⟩ (Nat.le_of_ble_eq_true rfl) dX9_accepts_2 rfl hz (fun r_2 S_1 hz => ?_)
  refine g_astoreN_n C 6 (i := 3) [3, 0] [(2, .int x2), (3, rv ad r_2)] dX9_accepts_5 rfl rfl (by decide) rfl ?_
  refine g_aloadN_n C 7 1 rfl dX9_accepts_6 rfl ?_
  refine g_ifnull C 18 10 dX9_accepts_7 rfl rfl hz (fun e_r hz_i_3 => ?_) (fun i_3 e_r h_i_3 hz_i_3 => ?_)
  · subst e_r; have hz := hz_i_3
    try rw [rv_none]
    refine g_iconst C 19 (-1 : Int32) ci_m1 dX9_accepts_18 rfl ?_
    exact g_iret C hr dX9_accepts_19 hz
  · subst e_r; have hz := hz_i_3
    try rw [rv_some]
    refine g_aload_n C 11 1 rfl dX9_accepts_10 rfl ?_
    refine g_iload_n C 12 0 rfl dX9_accepts_11 rfl ?_
    refine cl_9_126 C 15 h_i_3 ⟨Nat.le_of_ble_eq_true rfl, Nat.le_of_ble_eq_true rfl⟩ ⟨Nat.zero_le _, Nat.zero_le _⟩ (Nat.le_of_ble_eq_true rfl) dX9_accepts_12 rfl hz (fun r_5 S_4 hz => ?_)
    refine g_if_ne C 20 18 dX9_accepts_15 rfl rfl hz (fun hz => ?_) (fun hz => ?_)
    · refine g_aload_n C 21 1 rfl dX9_accepts_20 rfl ?_
      refine gf_9_133 C 24 h_i_3 dX9_accepts_21 rfl ?_
      refine g_iload_n C 25 0 rfl dX9_accepts_24 rfl ?_
      refine g_zald C 26 (has_m h_i_3 4 (by decide)) dX9_accepts_25 rfl hz (fun hz => ?_)
      refine g_if_eq C 33 29 dX9_accepts_26 rfl rfl hz (fun hz => ?_) (fun hz => ?_)
      · refine g_iconst C 34 (0 : Int32) ci_0 dX9_accepts_33 rfl ?_
        exact g_iret C hr dX9_accepts_34 hz
      · refine g_iconst C 30 (1 : Int32) ci_1 dX9_accepts_29 rfl ?_
        refine g_goto C 34 dX9_accepts_30 rfl ?_
        exact g_iret C hr dX9_accepts_34 hz
    · refine g_iconst C 19 (-1 : Int32) ci_m1 dX9_accepts_18 rfl ?_
      exact g_iret C hr dX9_accepts_19 hz
theorem c_X9_accepts (l : Launch) (D : va_G) (cy : Nat → ClassId) (ad : Nat → Nat) (n : Nat) (S : Sg) (sz : Nat) (x1 : Int32) (x2 : Int32) (z : Int32 × Sg) (hz : f_X9_accepts n x1 x2 S = some z) : Met l yX9_accepts (.code yX9_accepts cX9_accepts 4 (some .int) :: wsAll) rm_X9_accepts (gPc D cy ad n S sz [.ref (ad 0), .int x1, .int x2]) (gQ D cy ad n (va_A (wW cy ad n S) sz) (some (.int z.1)) z.2) 0 0 (va_A (wW cy ad n S) sz) := by
  refine gMet (lv := [(0, .ref (ad 0)), (1, .int x1), (2, .int x2)]) (by decide) (Nat.le_of_ble_eq_true rfl) rfl ?_
  intro p e s m args below meth c A hA hr C
  exact t_X9_accepts C hr hz
def rm_X9_spots : Room := { frames := 1, cells := 0, slots := 0, locals := 21 }
set_option maxRecDepth 20000 in
theorem t_X9_spots {p : Program} {l : Launch} {e : Env} {s : State} {m : MethodId} {args : Array Value} {below : List Frame} {meth : Method} {c : Code} {D : va_G} {cy : Nat → ClassId} {ad : Nat → Nat} {n : Nat} {A : Nat → Prop} (C : gC p s m args meth c cX9_spots 5 RX9 D cy ad n A) (hr : meth.sig.returnType = (some .int)) {z : Int32 × Sg} {S : Sg} {x1 : Int32} {x2 : Int32} {x3 : Int32} (hz : f_X9_spots n x1 x2 x3 S = some z) : gW p l e rm_X9_spots s m args below meth c D cy ad n A 5 0 0 (MQ below (gQ D cy ad n A (some (.int z.1)) z.2) args s 0 0 A) S 0 [(0, .ref (ad 0)), (1, .int x1), (2, .int x2), (3, .int x3)] [] := by
  unfold f_X9_spots at hz
  refine g_aload_n C 1 0 rfl dX9_spots_0 rfl ?_
  refine g_iload_n C 2 1 rfl dX9_spots_1 rfl ?_
  refine cl_9_106 C 5 ⟨Nat.le_of_ble_eq_true rfl, Nat.le_of_ble_eq_true rfl⟩ ⟨Nat.zero_le _, Nat.zero_le _⟩ (Nat.le_of_ble_eq_true rfl) dX9_spots_2 rfl hz (fun r_2 S_1 hz => ?_)
  refine g_astoreN C 7 (i := 4) [3, 4, 0] [(2, .int x2), (3, .int x3), (4, rv ad r_2)] dX9_spots_5 rfl (by decide) rfl ?_
  refine g_aloadN C 9 2 rfl dX9_spots_7 rfl ?_
  refine g_ifnull C 34 12 dX9_spots_9 rfl rfl hz (fun e_r hz_i_3 => ?_) (fun i_3 e_r h_i_3 hz_i_3 => ?_)
  · subst e_r; have hz := hz_i_3
    try rw [rv_none]
    refine g_iconst C 35 (-1 : Int32) ci_m1 dX9_spots_34 rfl ?_
    exact g_iret C hr dX9_spots_35 hz
  · subst e_r; have hz := hz_i_3
    try rw [rv_some]
    refine g_aload C 14 2 rfl dX9_spots_12 rfl ?_
    refine g_iload_n C 15 0 rfl dX9_spots_14 rfl ?_
    refine cl_9_126 C 18 h_i_3 ⟨Nat.le_of_ble_eq_true rfl, Nat.le_of_ble_eq_true rfl⟩ ⟨Nat.zero_le _, Nat.zero_le _⟩ (Nat.le_of_ble_eq_true rfl) dX9_spots_15 rfl hz (fun r_5 S_4 hz => ?_)
    refine g_if_eq C 34 21 dX9_spots_18 rfl rfl hz (fun hz => ?_) (fun hz => ?_)
    · refine g_iconst C 35 (-1 : Int32) ci_m1 dX9_spots_34 rfl ?_
      exact g_iret C hr dX9_spots_35 hz
    · refine g_iload_n C 22 1 rfl dX9_spots_21 rfl ?_
      refine g_if_lt C 34 25 dX9_spots_22 rfl rfl hz (fun hz => ?_) (fun hz => ?_)
      · refine g_iconst C 35 (-1 : Int32) ci_m1 dX9_spots_34 rfl ?_
        exact g_iret C hr dX9_spots_35 hz
      · refine g_iload_n C 26 1 rfl dX9_spots_25 rfl ?_
        refine g_aload C 28 2 rfl dX9_spots_26 rfl ?_
        refine gf_9_113 C 31 h_i_3 dX9_spots_28 rfl ?_
        refine g_icmp_lt C 36 34 dX9_spots_31 rfl rfl hz (fun hz => ?_) (fun hz => ?_)
        · refine g_aload C 38 2 rfl dX9_spots_36 rfl ?_
          refine gf_9_137 C 41 h_i_3 dX9_spots_38 rfl ?_
          refine g_iload_n C 42 0 rfl dX9_spots_41 rfl ?_
          refine g_bipush C 44 (6 : Int32) cb_6 dX9_spots_42 rfl ?_
          refine g_imul C 45 dX9_spots_44 rfl ?_
          refine g_iload_n C 46 1 rfl dX9_spots_45 rfl ?_
          refine g_iadd C 47 dX9_spots_46 rfl ?_
          refine g_iald C 48 (has_m h_i_3 3 (by decide)) dX9_spots_47 rfl hz (fun hz => ?_)
          exact g_iret C hr dX9_spots_48 hz
        · refine g_iconst C 35 (-1 : Int32) ci_m1 dX9_spots_34 rfl ?_
          exact g_iret C hr dX9_spots_35 hz
theorem c_X9_spots (l : Launch) (D : va_G) (cy : Nat → ClassId) (ad : Nat → Nat) (n : Nat) (S : Sg) (sz : Nat) (x1 : Int32) (x2 : Int32) (x3 : Int32) (z : Int32 × Sg) (hz : f_X9_spots n x1 x2 x3 S = some z) : Met l yX9_spots (.code yX9_spots cX9_spots 5 (some .int) :: wsAll) rm_X9_spots (gPc D cy ad n S sz [.ref (ad 0), .int x1, .int x2, .int x3]) (gQ D cy ad n (va_A (wW cy ad n S) sz) (some (.int z.1)) z.2) 0 0 (va_A (wW cy ad n S) sz) := by
  refine gMet (lv := [(0, .ref (ad 0)), (1, .int x1), (2, .int x2), (3, .int x3)]) (by decide) (Nat.le_of_ble_eq_true rfl) rfl ?_
  intro p e s m args below meth c A hA hr C
  exact t_X9_spots C hr hz
def rm_X9_classOf : Room := { frames := 1, cells := 0, slots := 0, locals := 21 }
set_option maxRecDepth 20000 in
theorem t_X9_classOf {p : Program} {l : Launch} {e : Env} {s : State} {m : MethodId} {args : Array Value} {below : List Frame} {meth : Method} {c : Code} {D : va_G} {cy : Nat → ClassId} {ad : Nat → Nat} {n : Nat} {A : Nat → Prop} (C : gC p s m args meth c cX9_classOf 4 RX9 D cy ad n A) (hr : meth.sig.returnType = (some .int)) {z : Int32 × Sg} {S : Sg} {x1 : Int32} {x2 : Int32} (hz : f_X9_classOf n x1 x2 S = some z) : gW p l e rm_X9_classOf s m args below meth c D cy ad n A 4 0 0 (MQ below (gQ D cy ad n A (some (.int z.1)) z.2) args s 0 0 A) S 0 [(0, .ref (ad 0)), (1, .int x1), (2, .int x2)] [] := by
  unfold f_X9_classOf at hz
  refine g_aload_n C 1 0 rfl dX9_classOf_0 rfl ?_
  refine g_iload_n C 2 1 rfl dX9_classOf_1 rfl ?_
  refine cl_9_106 C 5 ⟨Nat.le_of_ble_eq_true rfl, Nat.le_of_ble_eq_true rfl⟩ ⟨Nat.zero_le _, Nat.zero_le _⟩ (Nat.le_of_ble_eq_true rfl) dX9_classOf_2 rfl hz (fun r_2 S_1 hz => ?_)
  refine g_astoreN_n C 6 (i := 3) [3, 0] [(2, .int x2), (3, rv ad r_2)] dX9_classOf_5 rfl rfl (by decide) rfl ?_
  refine g_aloadN_n C 7 1 rfl dX9_classOf_6 rfl ?_
  refine g_ifnull C 18 10 dX9_classOf_7 rfl rfl hz (fun e_r hz_i_3 => ?_) (fun i_3 e_r h_i_3 hz_i_3 => ?_)
  · subst e_r; have hz := hz_i_3
    try rw [rv_none]
    refine g_iconst C 19 (-1 : Int32) ci_m1 dX9_classOf_18 rfl ?_
    exact g_iret C hr dX9_classOf_19 hz
  · subst e_r; have hz := hz_i_3
    try rw [rv_some]
    refine g_aload_n C 11 1 rfl dX9_classOf_10 rfl ?_
    refine g_iload_n C 12 0 rfl dX9_classOf_11 rfl ?_
    refine cl_9_126 C 15 h_i_3 ⟨Nat.le_of_ble_eq_true rfl, Nat.le_of_ble_eq_true rfl⟩ ⟨Nat.zero_le _, Nat.zero_le _⟩ (Nat.le_of_ble_eq_true rfl) dX9_classOf_12 rfl hz (fun r_5 S_4 hz => ?_)
    refine g_if_ne C 20 18 dX9_classOf_15 rfl rfl hz (fun hz => ?_) (fun hz => ?_)
    · refine g_aload_n C 21 1 rfl dX9_classOf_20 rfl ?_
      refine gf_9_140 C 24 h_i_3 dX9_classOf_21 rfl ?_
      refine g_iload_n C 25 0 rfl dX9_classOf_24 rfl ?_
      refine g_iald C 26 (has_m h_i_3 5 (by decide)) dX9_classOf_25 rfl hz (fun hz => ?_)
      exact g_iret C hr dX9_classOf_26 hz
    · refine g_iconst C 19 (-1 : Int32) ci_m1 dX9_classOf_18 rfl ?_
      exact g_iret C hr dX9_classOf_19 hz
theorem c_X9_classOf (l : Launch) (D : va_G) (cy : Nat → ClassId) (ad : Nat → Nat) (n : Nat) (S : Sg) (sz : Nat) (x1 : Int32) (x2 : Int32) (z : Int32 × Sg) (hz : f_X9_classOf n x1 x2 S = some z) : Met l yX9_classOf (.code yX9_classOf cX9_classOf 4 (some .int) :: wsAll) rm_X9_classOf (gPc D cy ad n S sz [.ref (ad 0), .int x1, .int x2]) (gQ D cy ad n (va_A (wW cy ad n S) sz) (some (.int z.1)) z.2) 0 0 (va_A (wW cy ad n S) sz) := by
  refine gMet (lv := [(0, .ref (ad 0)), (1, .int x1), (2, .int x2)]) (by decide) (Nat.le_of_ble_eq_true rfl) rfl ?_
  intro p e s m args below meth c A hA hr C
  exact t_X9_classOf C hr hz
def rm_X9_isLetter : Room := { frames := 0, cells := 0, slots := 0, locals := 0 }
set_option maxRecDepth 20000 in
theorem t_X9_isLetter {p : Program} {l : Launch} {e : Env} {s : State} {m : MethodId} {args : Array Value} {below : List Frame} {meth : Method} {c : Code} {D : va_G} {cy : Nat → ClassId} {ad : Nat → Nat} {n : Nat} {A : Nat → Prop} (C : gC p s m args meth c cX9_isLetter 1 RX9 D cy ad n A) (hr : meth.sig.returnType = (some .boolean)) {z : Int32 × Sg} {S : Sg} {x0 : Int32} (hz : f_X9_isLetter x0 S = some z) : gW p l e rm_X9_isLetter s m args below meth c D cy ad n A 1 0 0 (MQ below (gQ D cy ad n A (some (.int z.1)) z.2) args s 0 0 A) S 0 [(0, .int x0)] [] := by
  unfold f_X9_isLetter at hz
  refine g_iload_n C 1 0 rfl dX9_isLetter_0 rfl ?_
  refine g_bipush C 3 (97 : Int32) cb_97 dX9_isLetter_1 rfl ?_
  refine g_icmp_lt C 16 6 dX9_isLetter_3 rfl rfl hz (fun hz => ?_) (fun hz => ?_)
  · refine g_iconst C 17 (0 : Int32) ci_0 dX9_isLetter_16 rfl ?_
    exact g_zretc C hr (by decide) dX9_isLetter_17 hz
  · refine g_iload_n C 7 0 rfl dX9_isLetter_6 rfl ?_
    refine g_bipush C 9 (100 : Int32) cb_100 dX9_isLetter_7 rfl ?_
    refine g_icmp_gt C 16 12 dX9_isLetter_9 rfl rfl hz (fun hz => ?_) (fun hz => ?_)
    · refine g_iconst C 17 (0 : Int32) ci_0 dX9_isLetter_16 rfl ?_
      exact g_zretc C hr (by decide) dX9_isLetter_17 hz
    · refine g_iconst C 13 (1 : Int32) ci_1 dX9_isLetter_12 rfl ?_
      refine g_goto C 17 dX9_isLetter_13 rfl ?_
      exact g_zretc C hr (by decide) dX9_isLetter_17 hz
theorem c_X9_isLetter (l : Launch) (D : va_G) (cy : Nat → ClassId) (ad : Nat → Nat) (n : Nat) (S : Sg) (sz : Nat) (x0 : Int32) (z : Int32 × Sg) (hz : f_X9_isLetter x0 S = some z) : Met l yX9_isLetter (.code yX9_isLetter cX9_isLetter 1 (some .boolean) :: wsAll) rm_X9_isLetter (gPc D cy ad n S sz [.int x0]) (gQ D cy ad n (va_A (wW cy ad n S) sz) (some (.int z.1)) z.2) 0 0 (va_A (wW cy ad n S) sz) := by
  refine gMet (lv := [(0, .int x0)]) (by decide) (Nat.le_of_ble_eq_true rfl) rfl ?_
  intro p e s m args below meth c A hA hr C
  exact t_X9_isLetter C hr hz
def rm_X9_means : Room := { frames := 1, cells := 0, slots := 0, locals := 21 }
theorem wl_9_143 : Cond.methodLink RX9 143 yX9_isLetter ∈ wsAll := wA 535 (by decide +kernel) (by decide +kernel)
theorem ws_X9_isLetter : Cond.static yX9_isLetter ∈ wsAll := wA 286 (by decide +kernel) (by decide +kernel)
theorem wo_X9_isLetter : Cond.code yX9_isLetter cX9_isLetter 1 (some .boolean) ∈ wsAll := wA 287 (by decide +kernel) (by decide +kernel)
theorem cl_9_143 {p : Program} {l : Launch} {e : Env} {R : Room} {s : State} {m : MethodId} {args : Array Value} {below : List Frame} {meth : Method} {c : Code} {cc : ByteArray} {nL : Nat} {D : va_G} {cy : Nat → ClassId} {ad : Nat → Nat} {n : Nat} {A : Nat → Prop} {mc ms : Nat} {Q : State → Prop} {S : Sg} {pc : Nat} {lv : List (Nat × Value)} {st : List Value} {ζ : Type} {z : ζ} (C : gC p s m args meth c cc nL RX9 D cy ad n A) (nx : Nat) {x0 : Int32} (hR : Room.frames rm_X9_isLetter + 1 ≤ R.frames ∧ 8 + (1 + 11) + Room.locals rm_X9_isLetter ≤ R.locals) (hcm : mc ≤ R.cells ∧ ms ≤ R.slots) (hrest : (st.map fun v => v.category).sum ≤ 8) (hd : decode cc pc = .ok (.invokestatic 143, 3)) (hn : pc + 3 = nx) {K : Int32 → Sg → Option ζ} (hz : bd2 (f_X9_isLetter x0 S) K = some z) (kk : ∀ r S', K r S' = some z → gW p l e R s m args below meth c D cy ad n A nL mc ms Q S' nx lv (.int r :: st)) : gW p l e R s m args below meth c D cy ad n A nL mc ms Q S pc lv (.int x0 :: st) := by
  obtain ⟨q, hq, hk⟩ := bd2_s hz
  exact g_callS C (y := yX9_isLetter) (rm := rm_X9_isLetter) (As := [.int x0]) (rest := st) (na := 1) (fun sz => c_X9_isLetter l D cy ad n S sz x0 q hq) wl_9_143 ws_X9_isLetter wz_9 wo_X9_isLetter (by decide +kernel) rfl rfl hR hcm rfl hrest hn hd (kk q.1 q.2 hk)
set_option maxRecDepth 20000 in
theorem t_X9_means_L35 {p : Program} {l : Launch} {e : Env} {s : State} {m : MethodId} {args : Array Value} {below : List Frame} {meth : Method} {c : Code} {D : va_G} {cy : Nat → ClassId} {ad : Nat → Nat} {n : Nat} {A : Nat → Prop} (C : gC p s m args meth c cX9_means 6 RX9 D cy ad n A) (hr : meth.sig.returnType = (some .int)) {z : Int32 × Sg} : ∀ (fl : Nat) (x2 : Int32) (i3 : Nat) (x4 : Int32) (x5 : Int32) (S : Sg), okM n i3 = true → f_X9_means_L35 n fl x2 i3 x4 x5 S = some z → gW p l e rm_X9_means s m args below meth c D cy ad n A 6 0 0 (MQ below (gQ D cy ad n A (some (.int z.1)) z.2) args s 0 0 A) S 35 [(0, .ref (ad 0)), (2, .int x2), (3, .ref (ad i3)), (4, .int x4), (5, .int x5)] [] := by
  intro fl
  induction fl with
  | zero =>
    intro x2 i3 x4 x5 S h_i3 hz
    rw [f_X9_means_L35] at hz
    cases hz
  | succ fl ih =>
    intro x2 i3 x4 x5 S h_i3 hz
    rw [f_X9_means_L35] at hz
    refine g_iload C 37 4 rfl dX9_means_35 rfl ?_
    refine g_iload_n C 38 1 rfl dX9_means_37 rfl ?_
    refine g_icmp_ge C 84 41 dX9_means_38 rfl rfl hz (fun hz => ?_) (fun hz => ?_)
    · refine g_aload_n C 85 2 rfl dX9_means_84 rfl ?_
      refine gf_9_133 C 88 h_i3 dX9_means_85 rfl ?_
      refine g_iload C 90 3 rfl dX9_means_88 rfl ?_
      refine g_zald C 91 (has_m h_i3 4 (by decide)) dX9_means_90 rfl hz (fun hz => ?_)
      refine g_if_eq C 98 94 dX9_means_91 rfl rfl hz (fun hz => ?_) (fun hz => ?_)
      · refine g_iconst C 99 (0 : Int32) ci_0 dX9_means_98 rfl ?_
        exact g_iret C hr dX9_means_99 hz
      · refine g_iconst C 95 (1 : Int32) ci_1 dX9_means_94 rfl ?_
        refine g_goto C 99 dX9_means_95 rfl ?_
        exact g_iret C hr dX9_means_99 hz
    · refine g_aload_n C 42 0 rfl dX9_means_41 rfl ?_
      refine gf_9_9 C 45 dX9_means_42 rfl ?_
      refine g_iload C 47 4 rfl dX9_means_45 rfl ?_
      refine g_iald C 48 ha_1 dX9_means_47 rfl hz (fun hz => ?_)
      refine cl_9_143 C 51 ⟨Nat.le_of_ble_eq_true rfl, Nat.le_of_ble_eq_true rfl⟩ ⟨Nat.zero_le _, Nat.zero_le _⟩ (Nat.le_of_ble_eq_true rfl) dX9_means_48 rfl hz (fun r_8 S_7 hz => ?_)
      refine g_if_ne C 56 54 dX9_means_51 rfl rfl hz (fun hz => ?_) (fun hz => ?_)
      · refine g_aload_n C 57 2 rfl dX9_means_56 rfl ?_
        refine gf_9_130 C 60 h_i3 dX9_means_57 rfl ?_
        refine g_iload C 62 3 rfl dX9_means_60 rfl ?_
        refine g_iconst C 63 (4 : Int32) ci_4 dX9_means_62 rfl ?_
        refine g_imul C 64 dX9_means_63 rfl ?_
        refine g_aload_n C 65 0 rfl dX9_means_64 rfl ?_
        refine gf_9_9 C 68 dX9_means_65 rfl ?_
        refine g_iload C 70 4 rfl dX9_means_68 rfl ?_
        refine g_iald C 71 ha_1 dX9_means_70 rfl hz (fun hz => ?_)
        refine g_iadd C 72 dX9_means_71 rfl ?_
        refine g_bipush C 74 (97 : Int32) cb_97 dX9_means_72 rfl ?_
        refine g_isub C 75 dX9_means_74 rfl ?_
        refine g_iald C 76 (has_m h_i3 1 (by decide)) dX9_means_75 rfl hz (fun hz => ?_)
        refine g_istore C 78 (i := 4) [1, 2, 3, 0, 4] (fun x4_9 => [(0, .ref (ad 0)), (2, .int x2), (3, .ref (ad i3)), (4, .int x4_9), (5, .int x5)]) dX9_means_76 rfl (by decide) (fun x4_9 => rfl) hz (fun x4_9 hz => ?_)
        refine g_iinc C 81 4 [1, 2, 3, 4, 0] (1 : Int32) ci_1 (fun x5_10 => [(0, .ref (ad 0)), (2, .int x2), (3, .ref (ad i3)), (4, .int x4_9), (5, .int x5_10)]) dX9_means_78 rfl rfl (by decide) (fun x5_10 => rfl) hz (fun x5_10 hz => ?_)
        refine g_goto C 35 dX9_means_81 rfl ?_
        exact ih x2 i3 x4_9 x5_10 S_7 h_i3 hz
      · refine g_iconst C 55 (0 : Int32) ci_0 dX9_means_54 rfl ?_
        exact g_iret C hr dX9_means_55 hz
set_option maxRecDepth 20000 in
theorem t_X9_means {p : Program} {l : Launch} {e : Env} {s : State} {m : MethodId} {args : Array Value} {below : List Frame} {meth : Method} {c : Code} {D : va_G} {cy : Nat → ClassId} {ad : Nat → Nat} {n : Nat} {A : Nat → Prop} (C : gC p s m args meth c cX9_means 6 RX9 D cy ad n A) (hr : meth.sig.returnType = (some .int)) {z : Int32 × Sg} {S : Sg} {x1 : Int32} {x2 : Int32} (hz : f_X9_means n x1 x2 S = some z) : gW p l e rm_X9_means s m args below meth c D cy ad n A 6 0 0 (MQ below (gQ D cy ad n A (some (.int z.1)) z.2) args s 0 0 A) S 0 [(0, .ref (ad 0)), (1, .int x1), (2, .int x2)] [] := by
  unfold f_X9_means at hz
  refine g_aload_n C 1 0 rfl dX9_means_0 rfl ?_
  refine g_iload_n C 2 1 rfl dX9_means_1 rfl ?_
  refine cl_9_106 C 5 ⟨Nat.le_of_ble_eq_true rfl, Nat.le_of_ble_eq_true rfl⟩ ⟨Nat.zero_le _, Nat.zero_le _⟩ (Nat.le_of_ble_eq_true rfl) dX9_means_2 rfl hz (fun r_2 S_1 hz => ?_)
  refine g_astoreN_n C 6 (i := 3) [1, 3, 0] [(0, .ref (ad 0)), (2, .int x2), (3, rv ad r_2)] dX9_means_5 rfl rfl (by decide) rfl ?_
  refine g_aloadN_n C 7 2 rfl dX9_means_6 rfl ?_
  refine g_ifnull C 22 10 dX9_means_7 rfl rfl hz (fun e_r hz_i_3 => ?_) (fun i_3 e_r h_i_3 hz_i_3 => ?_)
  · subst e_r; have hz := hz_i_3
    try rw [rv_none]
    refine g_iconst C 23 (-1 : Int32) ci_m1 dX9_means_22 rfl ?_
    exact g_iret C hr dX9_means_23 hz
  · subst e_r; have hz := hz_i_3
    try rw [rv_some]
    refine g_iload_n C 11 1 rfl dX9_means_10 rfl ?_
    refine g_if_lt C 22 14 dX9_means_11 rfl rfl hz (fun hz => ?_) (fun hz => ?_)
    · refine g_iconst C 23 (-1 : Int32) ci_m1 dX9_means_22 rfl ?_
      exact g_iret C hr dX9_means_23 hz
    · refine g_iload_n C 15 1 rfl dX9_means_14 rfl ?_
      refine g_aload_n C 16 0 rfl dX9_means_15 rfl ?_
      refine gf_9_13 C 19 dX9_means_16 rfl ?_
      refine g_icmp_le C 24 22 dX9_means_19 rfl rfl hz (fun hz => ?_) (fun hz => ?_)
      · refine g_aload_n C 25 0 rfl dX9_means_24 rfl ?_
        refine g_iconst C 26 (0 : Int32) ci_0 dX9_means_25 rfl ?_
        refine pf_9_13 C 29 dX9_means_26 rfl hz (fun S_4 hz => ?_)
        refine g_iconst C 30 (0 : Int32) ci_0 dX9_means_29 rfl ?_
        refine g_istore C 32 (i := 4) [1, 2, 3, 0] (fun x4_5 => [(0, .ref (ad 0)), (2, .int x2), (3, .ref (ad i_3)), (4, .int x4_5)]) dX9_means_30 rfl (by decide) (fun x4_5 => rfl) hz (fun x4_5 hz => ?_)
        refine g_iconst C 33 (0 : Int32) ci_0 dX9_means_32 rfl ?_
        refine g_istore C 35 (i := 5) [1, 2, 3, 4, 0] (fun x5_6 => [(0, .ref (ad 0)), (2, .int x2), (3, .ref (ad i_3)), (4, .int x4_5), (5, .int x5_6)]) dX9_means_33 rfl (by decide) (fun x5_6 => rfl) hz (fun x5_6 hz => ?_)
        exact (t_X9_means_L35 C hr fu) x2 i_3 x4_5 x5_6 S_4 h_i_3 hz
      · refine g_iconst C 23 (-1 : Int32) ci_m1 dX9_means_22 rfl ?_
        exact g_iret C hr dX9_means_23 hz
theorem c_X9_means (l : Launch) (D : va_G) (cy : Nat → ClassId) (ad : Nat → Nat) (n : Nat) (S : Sg) (sz : Nat) (x1 : Int32) (x2 : Int32) (z : Int32 × Sg) (hz : f_X9_means n x1 x2 S = some z) : Met l yX9_means (.code yX9_means cX9_means 6 (some .int) :: wsAll) rm_X9_means (gPc D cy ad n S sz [.ref (ad 0), .int x1, .int x2]) (gQ D cy ad n (va_A (wW cy ad n S) sz) (some (.int z.1)) z.2) 0 0 (va_A (wW cy ad n S) sz) := by
  refine gMet (lv := [(0, .ref (ad 0)), (1, .int x1), (2, .int x2)]) (by decide) (Nat.le_of_ble_eq_true rfl) rfl ?_
  intro p e s m args below meth c A hA hr C
  exact t_X9_means C hr hz
def rm_X0_behind : Room := { frames := 0, cells := 0, slots := 0, locals := 0 }
set_option maxRecDepth 20000 in
theorem t_X0_behind {p : Program} {l : Launch} {e : Env} {s : State} {m : MethodId} {args : Array Value} {below : List Frame} {meth : Method} {c : Code} {D : va_G} {cy : Nat → ClassId} {ad : Nat → Nat} {n : Nat} {A : Nat → Prop} (C : gC p s m args meth c cX0_behind 3 RX0 D cy ad n A) (hr : meth.sig.returnType = (some .long)) {z : Int64 × Sg} {S : Sg} {x1 : Int32} {x2 : Int32} (hz : f_X0_behind x1 x2 S = some z) : gW p l e rm_X0_behind s m args below meth c D cy ad n A 3 0 0 (MQ below (gQ D cy ad n A (some (.long z.1)) z.2) args s 0 0 A) S 0 [(0, .ref (ad 22)), (1, .int x1), (2, .int x2)] [] := by
  unfold f_X0_behind at hz
  refine g_aload_n C 1 0 rfl dX0_behind_0 rfl ?_
  refine gf_0_9 C 4 dX0_behind_1 rfl ?_
  refine g_iload_n C 5 2 rfl dX0_behind_4 rfl ?_
  refine g_sipush C 8 (150 : Int32) cs_150 dX0_behind_5 rfl ?_
  refine g_imul C 9 dX0_behind_8 rfl ?_
  refine g_iload_n C 10 1 rfl dX0_behind_9 rfl ?_
  refine g_iadd C 11 dX0_behind_10 rfl ?_
  refine g_lald C 12 ha_23 dX0_behind_11 rfl hz (fun hz => ?_)
  exact g_lret C hr dX0_behind_12 hz
theorem c_X0_behind (l : Launch) (D : va_G) (cy : Nat → ClassId) (ad : Nat → Nat) (n : Nat) (S : Sg) (sz : Nat) (x1 : Int32) (x2 : Int32) (z : Int64 × Sg) (hz : f_X0_behind x1 x2 S = some z) : Met l yX0_behind (.code yX0_behind cX0_behind 3 (some .long) :: wsAll) rm_X0_behind (gPc D cy ad n S sz [.ref (ad 22), .int x1, .int x2]) (gQ D cy ad n (va_A (wW cy ad n S) sz) (some (.long z.1)) z.2) 0 0 (va_A (wW cy ad n S) sz) := by
  refine gMet (lv := [(0, .ref (ad 22)), (1, .int x1), (2, .int x2)]) (by decide) (Nat.le_of_ble_eq_true rfl) rfl ?_
  intro p e s m args below meth c A hA hr C
  exact t_X0_behind C hr hz
def rm_X0_count : Room := { frames := 1, cells := 0, slots := 0, locals := 22 }
theorem wl_0_29 : Cond.methodLink RX0 29 yX0_behind ∈ wsAll := wA 545 (by decide +kernel) (by decide +kernel)
theorem wi_X0_behind : Cond.instanceMethod yX0_behind ∈ wsAll := wA 547 (by decide +kernel) (by decide +kernel)
theorem we_X0_behind : Cond.selects RX0 yX0_behind yX0_behind ∈ wsAll := wAp 41 (by decide +kernel) (by decide +kernel)
theorem wz_0 : Cond.initialized RX0 ∈ wsAll := wA 6 (by decide +kernel) (by decide +kernel)
theorem wo_X0_behind : Cond.code yX0_behind cX0_behind 3 (some .long) ∈ wsAll := wA 548 (by decide +kernel) (by decide +kernel)
theorem cl_0_29 {p : Program} {l : Launch} {e : Env} {R : Room} {s : State} {m : MethodId} {args : Array Value} {below : List Frame} {meth : Method} {c : Code} {cc : ByteArray} {nL : Nat} {D : va_G} {cy : Nat → ClassId} {ad : Nat → Nat} {n : Nat} {A : Nat → Prop} {mc ms : Nat} {Q : State → Prop} {S : Sg} {pc : Nat} {lv : List (Nat × Value)} {st : List Value} {ζ : Type} {z : ζ} (C : gC p s m args meth c cc nL RX0 D cy ad n A) (nx : Nat) {x1 : Int32} {x2 : Int32} (hR : Room.frames rm_X0_behind + 1 ≤ R.frames ∧ 8 + (3 + 11) + Room.locals rm_X0_behind ≤ R.locals) (hcm : mc ≤ R.cells ∧ ms ≤ R.slots) (hrest : (st.map fun v => v.category).sum ≤ 8) (hd : decode cc pc = .ok (.invokevirtual 29, 3)) (hn : pc + 3 = nx) {K : Int64 → Sg → Option ζ} (hz : bd2 (f_X0_behind x1 x2 S) K = some z) (kk : ∀ r S', K r S' = some z → gW p l e R s m args below meth c D cy ad n A nL mc ms Q S' nx lv (.long r :: st)) : gW p l e R s m args below meth c D cy ad n A nL mc ms Q S pc lv (.int x2 :: .int x1 :: .ref (ad 22) :: st) := by
  obtain ⟨q, hq, hk⟩ := bd2_s hz
  exact g_callV C (i := 22) (ci := 0) (Cn := RX0) (T := TX0) (N := 1) (y := yX0_behind) (rm := rm_X0_behind) (As := [.int x1, .int x2]) (rest := st) (na := 2) (fun sz => c_X0_behind l D cy ad n S sz x1 x2 q hq) ha_22 rfl rfl wl_0_29 wi_X0_behind we_X0_behind wz_0 wo_X0_behind (by decide +kernel) rfl rfl hR hcm rfl hrest hn hd (kk q.1 q.2 hk)
set_option maxRecDepth 20000 in
theorem t_X0_count_L67 {p : Program} {l : Launch} {e : Env} {s : State} {m : MethodId} {args : Array Value} {below : List Frame} {meth : Method} {c : Code} {D : va_G} {cy : Nat → ClassId} {ad : Nat → Nat} {n : Nat} {A : Nat → Prop} (C : gC p s m args meth c cX0_count 8 RX0 D cy ad n A) (hr : meth.sig.returnType = none) {z : Sg} {k52 : Nat → Int32 → Int32 → Int32 → Sg → Option (Sg)} (hk52 : ∀ (i1 : Nat) (x2 : Int32) (x3 : Int32) (x4 : Int32) (S : Sg), okM n i1 = true → k52 i1 x2 x3 x4 S = some z → gW p l e rm_X0_count s m args below meth c D cy ad n A 8 0 0 (MQ below (gQ D cy ad n A none z) args s 0 0 A) S 52 [(0, .ref (ad 22)), (1, .ref (ad i1)), (2, .int x2), (3, .int x3), (4, .int x4)] []) : ∀ (fl : Nat) (i1 : Nat) (x2 : Int32) (x3 : Int32) (x4 : Int32) (x5 : Int64) (x7 : Int32) (S : Sg), okM n i1 = true → f_X0_count_L67 k52 fl i1 x2 x3 x4 x5 x7 S = some z → gW p l e rm_X0_count s m args below meth c D cy ad n A 8 0 0 (MQ below (gQ D cy ad n A none z) args s 0 0 A) S 67 [(0, .ref (ad 22)), (1, .ref (ad i1)), (2, .int x2), (3, .int x3), (4, .int x4), (5, .long x5), (7, .int x7)] [] := by
  intro fl
  induction fl with
  | zero =>
    intro i1 x2 x3 x4 x5 x7 S h_i1 hz
    rw [f_X0_count_L67] at hz
    cases hz
  | succ fl ih =>
    intro i1 x2 x3 x4 x5 x7 S h_i1 hz
    rw [f_X0_count_L67] at hz
    refine g_iload C 69 6 rfl dX0_count_67 rfl ?_
    refine g_iconst C 70 (4 : Int32) ci_4 dX0_count_69 rfl ?_
    refine g_icmp_ge C 103 73 dX0_count_70 rfl rfl hz (fun hz => ?_) (fun hz => ?_)
    · refine g_aload_n C 104 0 rfl dX0_count_103 rfl ?_
      refine gf_0_9 C 107 dX0_count_104 rfl ?_
      refine g_iload_n C 108 3 rfl dX0_count_107 rfl ?_
      refine g_sipush C 111 (150 : Int32) cs_150 dX0_count_108 rfl ?_
      refine g_imul C 112 dX0_count_111 rfl ?_
      refine g_iload C 114 4 rfl dX0_count_112 rfl ?_
      refine g_iadd C 115 dX0_count_114 rfl ?_
      refine g_lload C 117 5 rfl dX0_count_115 rfl ?_
      refine g_last C 118 ha_23 dX0_count_117 rfl hz (fun S_7 hz => ?_)
      refine g_iinc C 121 4 [1, 2, 3, 4, 0] (1 : Int32) ci_1 (fun x4_8 => [(0, .ref (ad 22)), (1, .ref (ad i1)), (2, .int x2), (3, .int x3), (4, .int x4_8)]) dX0_count_118 rfl rfl (by decide) (fun x4_8 => rfl) hz (fun x4_8 hz => ?_)
      refine g_goto C 52 dX0_count_121 rfl ?_
      exact hk52 i1 x2 x3 x4_8 S_7 h_i1 hz
    · refine g_lload C 75 5 rfl dX0_count_73 rfl ?_
      refine g_aload_n C 76 0 rfl dX0_count_75 rfl ?_
      refine g_aload_n C 77 1 rfl dX0_count_76 rfl ?_
      refine gf_0_25 C 80 h_i1 dX0_count_77 rfl ?_
      refine g_iload C 82 4 rfl dX0_count_80 rfl ?_
      refine g_iconst C 83 (4 : Int32) ci_4 dX0_count_82 rfl ?_
      refine g_imul C 84 dX0_count_83 rfl ?_
      refine g_iload C 86 6 rfl dX0_count_84 rfl ?_
      refine g_iadd C 87 dX0_count_86 rfl ?_
      refine g_iald C 88 (has_m h_i1 1 (by decide)) dX0_count_87 rfl hz (fun hz => ?_)
      refine g_iload_n C 89 3 rfl dX0_count_88 rfl ?_
      refine g_iconst C 90 (1 : Int32) ci_1 dX0_count_89 rfl ?_
      refine g_isub C 91 dX0_count_90 rfl ?_
      refine cl_0_29 C 94 ⟨Nat.le_of_ble_eq_true rfl, Nat.le_of_ble_eq_true rfl⟩ ⟨Nat.zero_le _, Nat.zero_le _⟩ (Nat.le_of_ble_eq_true rfl) dX0_count_91 rfl hz (fun r_10 S_9 hz => ?_)
      refine g_ladd C 95 dX0_count_94 rfl ?_
      refine g_lstore C 97 (i := 5) [1, 2, 3, 4, 5, 0, 6] (fun x5_11 => [(0, .ref (ad 22)), (1, .ref (ad i1)), (2, .int x2), (3, .int x3), (4, .int x4), (5, .long x5_11), (7, .int x7)]) dX0_count_95 rfl (by decide) (fun x5_11 => rfl) hz (fun x5_11 hz => ?_)
      refine g_iinc C 100 6 [1, 2, 3, 4, 5, 6, 0] (1 : Int32) ci_1 (fun x7_12 => [(0, .ref (ad 22)), (1, .ref (ad i1)), (2, .int x2), (3, .int x3), (4, .int x4), (5, .long x5_11), (7, .int x7_12)]) dX0_count_97 rfl rfl (by decide) (fun x7_12 => rfl) hz (fun x7_12 hz => ?_)
      refine g_goto C 67 dX0_count_100 rfl ?_
      exact ih i1 x2 x3 x4 x5_11 x7_12 S_9 h_i1 hz
set_option maxRecDepth 20000 in
theorem t_X0_count_L52 {p : Program} {l : Launch} {e : Env} {s : State} {m : MethodId} {args : Array Value} {below : List Frame} {meth : Method} {c : Code} {D : va_G} {cy : Nat → ClassId} {ad : Nat → Nat} {n : Nat} {A : Nat → Prop} (C : gC p s m args meth c cX0_count 8 RX0 D cy ad n A) (hr : meth.sig.returnType = none) {z : Sg} {k38 : Nat → Int32 → Int32 → Sg → Option (Sg)} (hk38 : ∀ (i1 : Nat) (x2 : Int32) (x3 : Int32) (S : Sg), okM n i1 = true → k38 i1 x2 x3 S = some z → gW p l e rm_X0_count s m args below meth c D cy ad n A 8 0 0 (MQ below (gQ D cy ad n A none z) args s 0 0 A) S 38 [(0, .ref (ad 22)), (1, .ref (ad i1)), (2, .int x2), (3, .int x3)] []) : ∀ (fl : Nat) (i1 : Nat) (x2 : Int32) (x3 : Int32) (x4 : Int32) (S : Sg), okM n i1 = true → f_X0_count_L52 k38 fl i1 x2 x3 x4 S = some z → gW p l e rm_X0_count s m args below meth c D cy ad n A 8 0 0 (MQ below (gQ D cy ad n A none z) args s 0 0 A) S 52 [(0, .ref (ad 22)), (1, .ref (ad i1)), (2, .int x2), (3, .int x3), (4, .int x4)] [] := by
  intro fl
  induction fl with
  | zero =>
    intro i1 x2 x3 x4 S h_i1 hz
    rw [f_X0_count_L52] at hz
    cases hz
  | succ fl ih =>
    intro i1 x2 x3 x4 S h_i1 hz
    rw [f_X0_count_L52] at hz
    refine g_iload C 54 4 rfl dX0_count_52 rfl ?_
    refine g_aload_n C 55 1 rfl dX0_count_54 rfl ?_
    refine gf_0_15 C 58 h_i1 dX0_count_55 rfl ?_
    refine g_icmp_ge C 124 61 dX0_count_58 rfl rfl hz (fun hz => ?_) (fun hz => ?_)
    · refine g_iinc C 127 3 [1, 2, 3, 0] (1 : Int32) ci_1 (fun x3_4 => [(0, .ref (ad 22)), (1, .ref (ad i1)), (2, .int x2), (3, .int x3_4)]) dX0_count_124 rfl rfl (by decide) (fun x3_4 => rfl) hz (fun x3_4 hz => ?_)
      refine g_goto C 38 dX0_count_127 rfl ?_
      exact hk38 i1 x2 x3_4 S h_i1 hz
    · refine g_lconst C 62 (0 : Int64) cl_0 dX0_count_61 rfl ?_
      refine g_lstore C 64 (i := 5) [1, 2, 3, 4, 5, 0] (fun x5_5 => [(0, .ref (ad 22)), (1, .ref (ad i1)), (2, .int x2), (3, .int x3), (4, .int x4), (5, .long x5_5)]) dX0_count_62 rfl (by decide) (fun x5_5 => rfl) hz (fun x5_5 hz => ?_)
      refine g_iconst C 65 (0 : Int32) ci_0 dX0_count_64 rfl ?_
      refine g_istore C 67 (i := 7) [1, 2, 3, 4, 5, 6, 0] (fun x7_6 => [(0, .ref (ad 22)), (1, .ref (ad i1)), (2, .int x2), (3, .int x3), (4, .int x4), (5, .long x5_5), (7, .int x7_6)]) dX0_count_65 rfl (by decide) (fun x7_6 => rfl) hz (fun x7_6 hz => ?_)
      exact (t_X0_count_L67 C hr ih fu) i1 x2 x3 x4 x5_5 x7_6 S h_i1 hz
set_option maxRecDepth 20000 in
theorem t_X0_count_L38 {p : Program} {l : Launch} {e : Env} {s : State} {m : MethodId} {args : Array Value} {below : List Frame} {meth : Method} {c : Code} {D : va_G} {cy : Nat → ClassId} {ad : Nat → Nat} {n : Nat} {A : Nat → Prop} (C : gC p s m args meth c cX0_count 8 RX0 D cy ad n A) (hr : meth.sig.returnType = none) {z : Sg} : ∀ (fl : Nat) (i1 : Nat) (x2 : Int32) (x3 : Int32) (S : Sg), okM n i1 = true → f_X0_count_L38 fl i1 x2 x3 S = some z → gW p l e rm_X0_count s m args below meth c D cy ad n A 8 0 0 (MQ below (gQ D cy ad n A none z) args s 0 0 A) S 38 [(0, .ref (ad 22)), (1, .ref (ad i1)), (2, .int x2), (3, .int x3)] [] := by
  intro fl
  induction fl with
  | zero =>
    intro i1 x2 x3 S h_i1 hz
    rw [f_X0_count_L38] at hz
    cases hz
  | succ fl ih =>
    intro i1 x2 x3 S h_i1 hz
    rw [f_X0_count_L38] at hz
    refine g_iload_n C 39 3 rfl dX0_count_38 rfl ?_
    refine g_iload_n C 40 2 rfl dX0_count_39 rfl ?_
    refine g_icmp_gt C 130 43 dX0_count_40 rfl rfl hz (fun hz => ?_) (fun hz => ?_)
    · exact g_vret C hr dX0_count_130 hz
    · refine g_iload_n C 44 3 rfl dX0_count_43 rfl ?_
      refine g_bipush C 46 (28 : Int32) cb_28 dX0_count_44 rfl ?_
      refine g_icmp_gt C 130 49 dX0_count_46 rfl rfl hz (fun hz => ?_) (fun hz => ?_)
      · exact g_vret C hr dX0_count_130 hz
      · refine g_iconst C 50 (0 : Int32) ci_0 dX0_count_49 rfl ?_
        refine g_istore C 52 (i := 4) [1, 2, 3, 4, 0] (fun x4_3 => [(0, .ref (ad 22)), (1, .ref (ad i1)), (2, .int x2), (3, .int x3), (4, .int x4_3)]) dX0_count_50 rfl (by decide) (fun x4_3 => rfl) hz (fun x4_3 hz => ?_)
        exact (t_X0_count_L52 C hr ih fu) i1 x2 x3 x4_3 S h_i1 hz
set_option maxRecDepth 20000 in
theorem t_X0_count_L2 {p : Program} {l : Launch} {e : Env} {s : State} {m : MethodId} {args : Array Value} {below : List Frame} {meth : Method} {c : Code} {D : va_G} {cy : Nat → ClassId} {ad : Nat → Nat} {n : Nat} {A : Nat → Prop} (C : gC p s m args meth c cX0_count 8 RX0 D cy ad n A) (hr : meth.sig.returnType = none) {z : Sg} : ∀ (fl : Nat) (i1 : Nat) (x2 : Int32) (x3 : Int32) (S : Sg), okM n i1 = true → f_X0_count_L2 fl i1 x2 x3 S = some z → gW p l e rm_X0_count s m args below meth c D cy ad n A 8 0 0 (MQ below (gQ D cy ad n A none z) args s 0 0 A) S 2 [(0, .ref (ad 22)), (1, .ref (ad i1)), (2, .int x2), (3, .int x3)] [] := by
  intro fl
  induction fl with
  | zero =>
    intro i1 x2 x3 S h_i1 hz
    rw [f_X0_count_L2] at hz
    cases hz
  | succ fl ih =>
    intro i1 x2 x3 S h_i1 hz
    rw [f_X0_count_L2] at hz
    refine g_iload_n C 3 3 rfl dX0_count_2 rfl ?_
    refine g_aload_n C 4 1 rfl dX0_count_3 rfl ?_
    refine gf_0_15 C 7 h_i1 dX0_count_4 rfl ?_
    refine g_icmp_ge C 36 10 dX0_count_7 rfl rfl hz (fun hz => ?_) (fun hz => ?_)
    · refine g_iconst C 37 (1 : Int32) ci_1 dX0_count_36 rfl ?_
      refine g_istore_n C 38 (i := 3) [1, 2, 3, 0] (fun x3_2 => [(0, .ref (ad 22)), (1, .ref (ad i1)), (2, .int x2), (3, .int x3_2)]) dX0_count_37 rfl rfl (by decide) (fun x3_2 => rfl) hz (fun x3_2 hz => ?_)
      exact (t_X0_count_L38 C hr fu) i1 x2 x3_2 S h_i1 hz
    · refine g_aload_n C 11 0 rfl dX0_count_10 rfl ?_
      refine gf_0_9 C 14 dX0_count_11 rfl ?_
      refine g_iload_n C 15 3 rfl dX0_count_14 rfl ?_
      refine g_aload_n C 16 1 rfl dX0_count_15 rfl ?_
      refine gf_0_21 C 19 h_i1 dX0_count_16 rfl ?_
      refine g_iload_n C 20 3 rfl dX0_count_19 rfl ?_
      refine g_zald C 21 (has_m h_i1 4 (by decide)) dX0_count_20 rfl hz (fun hz => ?_)
      refine g_if_eq C 28 24 dX0_count_21 rfl rfl hz (fun hz => ?_) (fun hz => ?_)
      · refine g_lconst C 29 (0 : Int64) cl_0 dX0_count_28 rfl ?_
        refine g_last C 30 ha_23 dX0_count_29 rfl hz (fun S_13 hz => ?_)
        refine g_iinc C 33 3 [1, 2, 3, 0] (1 : Int32) ci_1 (fun x3_14 => [(0, .ref (ad 22)), (1, .ref (ad i1)), (2, .int x2), (3, .int x3_14)]) dX0_count_30 rfl rfl (by decide) (fun x3_14 => rfl) hz (fun x3_14 hz => ?_)
        refine g_goto C 2 dX0_count_33 rfl ?_
        exact ih i1 x2 x3_14 S_13 h_i1 hz
      · refine g_lconst C 25 (1 : Int64) cl_1 dX0_count_24 rfl ?_
        refine g_goto C 29 dX0_count_25 rfl ?_
        refine g_last C 30 ha_23 dX0_count_29 rfl hz (fun S_15 hz => ?_)
        refine g_iinc C 33 3 [1, 2, 3, 0] (1 : Int32) ci_1 (fun x3_16 => [(0, .ref (ad 22)), (1, .ref (ad i1)), (2, .int x2), (3, .int x3_16)]) dX0_count_30 rfl rfl (by decide) (fun x3_16 => rfl) hz (fun x3_16 hz => ?_)
        refine g_goto C 2 dX0_count_33 rfl ?_
        exact ih i1 x2 x3_16 S_15 h_i1 hz
set_option maxRecDepth 20000 in
theorem t_X0_count {p : Program} {l : Launch} {e : Env} {s : State} {m : MethodId} {args : Array Value} {below : List Frame} {meth : Method} {c : Code} {D : va_G} {cy : Nat → ClassId} {ad : Nat → Nat} {n : Nat} {A : Nat → Prop} (C : gC p s m args meth c cX0_count 8 RX0 D cy ad n A) (hr : meth.sig.returnType = none) {z : Sg} {S : Sg} {i1 : Nat} {x2 : Int32} (h_i1 : okM n i1 = true) (hz : f_X0_count i1 x2 S = some z) : gW p l e rm_X0_count s m args below meth c D cy ad n A 8 0 0 (MQ below (gQ D cy ad n A none z) args s 0 0 A) S 0 [(0, .ref (ad 22)), (1, .ref (ad i1)), (2, .int x2)] [] := by
  unfold f_X0_count at hz
  refine g_iconst C 1 (0 : Int32) ci_0 dX0_count_0 rfl ?_
  refine g_istore_n C 2 (i := 3) [1, 2, 3, 0] (fun x3_1 => [(0, .ref (ad 22)), (1, .ref (ad i1)), (2, .int x2), (3, .int x3_1)]) dX0_count_1 rfl rfl (by decide) (fun x3_1 => rfl) hz (fun x3_1 hz => ?_)
  exact (t_X0_count_L2 C hr fu) i1 x2 x3_1 S h_i1 hz
theorem c_X0_count (l : Launch) (D : va_G) (cy : Nat → ClassId) (ad : Nat → Nat) (n : Nat) (S : Sg) (sz : Nat) (i1 : Nat) (x2 : Int32) (z : Sg) (h_i1 : okM n i1 = true) (hz : f_X0_count i1 x2 S = some z) : Met l yX0_count (.code yX0_count cX0_count 8 none :: wsAll) rm_X0_count (gPc D cy ad n S sz [.ref (ad 22), .ref (ad i1), .int x2]) (gQ D cy ad n (va_A (wW cy ad n S) sz) none z) 0 0 (va_A (wW cy ad n S) sz) := by
  refine gMet (lv := [(0, .ref (ad 22)), (1, .ref (ad i1)), (2, .int x2)]) (by decide) (Nat.le_of_ble_eq_true rfl) rfl ?_
  intro p e s m args below meth c A hA hr C
  exact t_X0_count C hr h_i1 hz
