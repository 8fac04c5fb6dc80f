def rm_X7_spotsInAll : Room := { frames := 0, cells := 0, slots := 0, locals := 0 }
set_option maxRecDepth 20000 in
theorem t_X7_spotsInAll_L4 {p : Program} {l : Launch} {e : Env} {s : State} {m : MethodId} {args : Array Value} {below : List Frame} {meth : Method} {c : Code} {D : va_G} {cy : Nat → ClassId} {ad : Nat → Nat} {n : Nat} {A : Nat → Prop} (C : gC p s m args meth c cX7_spotsInAll 3 RX7 D cy ad n A) (hr : meth.sig.returnType = (some .int)) {z : Int32 × Sg} : ∀ (fl : Nat) (x1 : Int32) (x2 : Int32) (S : Sg), f_X7_spotsInAll_L4 fl x1 x2 S = some z → gW p l e rm_X7_spotsInAll s m args below meth c D cy ad n A 3 0 0 (MQ below (gQ D cy ad n A (some (.int z.1)) z.2) args s 0 0 A) S 4 [(0, .ref (ad 5)), (1, .int x1), (2, .int x2)] [] := by
  intro fl
  induction fl with
  | zero =>
    intro x1 x2 S hz
    rw [f_X7_spotsInAll_L4] at hz
    cases hz
  | succ fl ih =>
    intro x1 x2 S hz
    rw [f_X7_spotsInAll_L4] at hz
    refine g_iload_n C 5 2 rfl dX7_spotsInAll_4 rfl ?_
    refine g_aload_n C 6 0 rfl dX7_spotsInAll_5 rfl ?_
    refine gf_7_9 C 9 dX7_spotsInAll_6 rfl ?_
    refine g_icmp_ge C 27 12 dX7_spotsInAll_9 rfl rfl hz (fun hz => ?_) (fun hz => ?_)
    · refine g_iload_n C 28 1 rfl dX7_spotsInAll_27 rfl ?_
      exact g_iret C hr dX7_spotsInAll_28 hz
    · refine g_iload_n C 13 1 rfl dX7_spotsInAll_12 rfl ?_
      refine g_aload_n C 14 0 rfl dX7_spotsInAll_13 rfl ?_
      refine gf_7_19 C 17 dX7_spotsInAll_14 rfl ?_
      refine g_iload_n C 18 2 rfl dX7_spotsInAll_17 rfl ?_
      refine g_iald C 19 ha_6 dX7_spotsInAll_18 rfl hz (fun hz => ?_)
      refine g_iadd C 20 dX7_spotsInAll_19 rfl ?_
      refine g_istore_n C 21 (i := 1) [1, 0, 2] (fun x1_3 => [(0, .ref (ad 5)), (1, .int x1_3), (2, .int x2)]) dX7_spotsInAll_20 rfl rfl (by decide) (fun x1_3 => rfl) hz (fun x1_3 hz => ?_)
      refine g_iinc C 24 2 [1, 2, 0] (1 : Int32) ci_1 (fun x2_4 => [(0, .ref (ad 5)), (1, .int x1_3), (2, .int x2_4)]) dX7_spotsInAll_21 rfl rfl (by decide) (fun x2_4 => rfl) hz (fun x2_4 hz => ?_)
      refine g_goto C 4 dX7_spotsInAll_24 rfl ?_
      exact ih x1_3 x2_4 S hz
set_option maxRecDepth 20000 in
theorem t_X7_spotsInAll {p : Program} {l : Launch} {e : Env} {s : State} {m : MethodId} {args : Array Value} {below : List Frame} {meth : Method} {c : Code} {D : va_G} {cy : Nat → ClassId} {ad : Nat → Nat} {n : Nat} {A : Nat → Prop} (C : gC p s m args meth c cX7_spotsInAll 3 RX7 D cy ad n A) (hr : meth.sig.returnType = (some .int)) {z : Int32 × Sg} {S : Sg} (hz : f_X7_spotsInAll S = some z) : gW p l e rm_X7_spotsInAll s m args below meth c D cy ad n A 3 0 0 (MQ below (gQ D cy ad n A (some (.int z.1)) z.2) args s 0 0 A) S 0 [(0, .ref (ad 5))] [] := by
  unfold f_X7_spotsInAll at hz
  refine g_iconst C 1 (0 : Int32) ci_0 dX7_spotsInAll_0 rfl ?_
  refine g_istore_n C 2 (i := 1) [1, 0] (fun x1_1 => [(0, .ref (ad 5)), (1, .int x1_1)]) dX7_spotsInAll_1 rfl rfl (by decide) (fun x1_1 => rfl) hz (fun x1_1 hz => ?_)
  refine g_iconst C 3 (0 : Int32) ci_0 dX7_spotsInAll_2 rfl ?_
  refine g_istore_n C 4 (i := 2) [1, 2, 0] (fun x2_2 => [(0, .ref (ad 5)), (1, .int x1_1), (2, .int x2_2)]) dX7_spotsInAll_3 rfl rfl (by decide) (fun x2_2 => rfl) hz (fun x2_2 hz => ?_)
  exact (t_X7_spotsInAll_L4 C hr fu) x1_1 x2_2 S hz
theorem c_X7_spotsInAll (l : Launch) (D : va_G) (cy : Nat → ClassId) (ad : Nat → Nat) (n : Nat) (S : Sg) (sz : Nat) (z : Int32 × Sg) (hz : f_X7_spotsInAll S = some z) : Met l yX7_spotsInAll (.code yX7_spotsInAll cX7_spotsInAll 3 (some .int) :: wsAll) rm_X7_spotsInAll (gPc D cy ad n S sz [.ref (ad 5)]) (gQ D cy ad n (va_A (wW cy ad n S) sz) (some (.int z.1)) z.2) 0 0 (va_A (wW cy ad n S) sz) := by
  refine gMet (lv := [(0, .ref (ad 5))]) (by decide) (Nat.le_of_ble_eq_true rfl) rfl ?_
  intro p e s m args below meth c A hA hr C
  exact t_X7_spotsInAll C hr hz
def rm_X5_beginEmpty : Room := { frames := 0, cells := 0, slots := 0, locals := 0 }
set_option maxRecDepth 20000 in
theorem t_X5_beginEmpty_L23 {p : Program} {l : Launch} {e : Env} {s : State} {m : MethodId} {args : Array Value} {below : List Frame} {meth : Method} {c : Code} {D : va_G} {cy : Nat → ClassId} {ad : Nat → Nat} {n : Nat} {A : Nat → Prop} (C : gC p s m args meth c cX5_beginEmpty 2 RX5 D cy ad n A) (hr : meth.sig.returnType = none) {z : Sg} : ∀ (fl : Nat) (x1 : Int32) (S : Sg), f_X5_beginEmpty_L23 fl x1 S = some z → gW p l e rm_X5_beginEmpty s m args below meth c D cy ad n A 2 0 0 (MQ below (gQ D cy ad n A none z) args s 0 0 A) S 23 [(0, .ref (ad 12)), (1, .int x1)] [] := by
  intro fl
  induction fl with
  | zero =>
    intro x1 S hz
    rw [f_X5_beginEmpty_L23] at hz
    cases hz
  | succ fl ih =>
    intro x1 S hz
    rw [f_X5_beginEmpty_L23] at hz
    refine g_iload_n C 24 1 rfl dX5_beginEmpty_23 rfl ?_
    refine g_bipush C 26 (64 : Int32) cb_64 dX5_beginEmpty_24 rfl ?_
    refine g_icmp_ge C 42 29 dX5_beginEmpty_26 rfl rfl hz (fun hz => ?_) (fun hz => ?_)
    · exact g_vret C hr dX5_beginEmpty_42 hz
    · refine g_aload_n C 30 0 rfl dX5_beginEmpty_29 rfl ?_
      refine gf_5_18 C 33 dX5_beginEmpty_30 rfl ?_
      refine g_iload_n C 34 1 rfl dX5_beginEmpty_33 rfl ?_
      refine g_iconst C 35 (0 : Int32) ci_0 dX5_beginEmpty_34 rfl ?_
      refine g_iast C 36 ha_15 dX5_beginEmpty_35 rfl hz (fun S_3 hz => ?_)
      refine g_iinc C 39 1 [1, 0] (1 : Int32) ci_1 (fun x1_4 => [(0, .ref (ad 12)), (1, .int x1_4)]) dX5_beginEmpty_36 rfl rfl (by decide) (fun x1_4 => rfl) hz (fun x1_4 hz => ?_)
      refine g_goto C 23 dX5_beginEmpty_39 rfl ?_
      exact ih x1_4 S_3 hz
set_option maxRecDepth 20000 in
theorem t_X5_beginEmpty_L2 {p : Program} {l : Launch} {e : Env} {s : State} {m : MethodId} {args : Array Value} {below : List Frame} {meth : Method} {c : Code} {D : va_G} {cy : Nat → ClassId} {ad : Nat → Nat} {n : Nat} {A : Nat → Prop} (C : gC p s m args meth c cX5_beginEmpty 2 RX5 D cy ad n A) (hr : meth.sig.returnType = none) {z : Sg} : ∀ (fl : Nat) (x1 : Int32) (S : Sg), f_X5_beginEmpty_L2 fl x1 S = some z → gW p l e rm_X5_beginEmpty s m args below meth c D cy ad n A 2 0 0 (MQ below (gQ D cy ad n A none z) args s 0 0 A) S 2 [(0, .ref (ad 12)), (1, .int x1)] [] := by
  intro fl
  induction fl with
  | zero =>
    intro x1 S hz
    rw [f_X5_beginEmpty_L2] at hz
    cases hz
  | succ fl ih =>
    intro x1 S hz
    rw [f_X5_beginEmpty_L2] at hz
    refine g_iload_n C 3 1 rfl dX5_beginEmpty_2 rfl ?_
    refine g_bipush C 5 (6 : Int32) cb_6 dX5_beginEmpty_3 rfl ?_
    refine g_icmp_ge C 21 8 dX5_beginEmpty_5 rfl rfl hz (fun hz => ?_) (fun hz => ?_)
    · refine g_iconst C 22 (0 : Int32) ci_0 dX5_beginEmpty_21 rfl ?_
      refine g_istore_n C 23 (i := 1) [1, 0] (fun x1_2 => [(0, .ref (ad 12)), (1, .int x1_2)]) dX5_beginEmpty_22 rfl rfl (by decide) (fun x1_2 => rfl) hz (fun x1_2 hz => ?_)
      exact (t_X5_beginEmpty_L23 C hr fu) x1_2 S hz
    · refine g_aload_n C 9 0 rfl dX5_beginEmpty_8 rfl ?_
      refine gf_5_15 C 12 dX5_beginEmpty_9 rfl ?_
      refine g_iload_n C 13 1 rfl dX5_beginEmpty_12 rfl ?_
      refine g_iconst C 14 (0 : Int32) ci_0 dX5_beginEmpty_13 rfl ?_
      refine g_iast C 15 ha_14 dX5_beginEmpty_14 rfl hz (fun S_5 hz => ?_)
      refine g_iinc C 18 1 [1, 0] (1 : Int32) ci_1 (fun x1_6 => [(0, .ref (ad 12)), (1, .int x1_6)]) dX5_beginEmpty_15 rfl rfl (by decide) (fun x1_6 => rfl) hz (fun x1_6 hz => ?_)
      refine g_goto C 2 dX5_beginEmpty_18 rfl ?_
      exact ih x1_6 S_5 hz
set_option maxRecDepth 20000 in
theorem t_X5_beginEmpty {p : Program} {l : Launch} {e : Env} {s : State} {m : MethodId} {args : Array Value} {below : List Frame} {meth : Method} {c : Code} {D : va_G} {cy : Nat → ClassId} {ad : Nat → Nat} {n : Nat} {A : Nat → Prop} (C : gC p s m args meth c cX5_beginEmpty 2 RX5 D cy ad n A) (hr : meth.sig.returnType = none) {z : Sg} {S : Sg} (hz : f_X5_beginEmpty S = some z) : gW p l e rm_X5_beginEmpty s m args below meth c D cy ad n A 2 0 0 (MQ below (gQ D cy ad n A none z) args s 0 0 A) S 0 [(0, .ref (ad 12))] [] := by
  unfold f_X5_beginEmpty at hz
  refine g_iconst C 1 (0 : Int32) ci_0 dX5_beginEmpty_0 rfl ?_
  refine g_istore_n C 2 (i := 1) [1, 0] (fun x1_1 => [(0, .ref (ad 12)), (1, .int x1_1)]) dX5_beginEmpty_1 rfl rfl (by decide) (fun x1_1 => rfl) hz (fun x1_1 hz => ?_)
  exact (t_X5_beginEmpty_L2 C hr fu) x1_1 S hz
theorem c_X5_beginEmpty (l : Launch) (D : va_G) (cy : Nat → ClassId) (ad : Nat → Nat) (n : Nat) (S : Sg) (sz : Nat) (z : Sg) (hz : f_X5_beginEmpty S = some z) : Met l yX5_beginEmpty (.code yX5_beginEmpty cX5_beginEmpty 2 none :: wsAll) rm_X5_beginEmpty (gPc D cy ad n S sz [.ref (ad 12)]) (gQ D cy ad n (va_A (wW cy ad n S) sz) none z) 0 0 (va_A (wW cy ad n S) sz) := by
  refine gMet (lv := [(0, .ref (ad 12))]) (by decide) (Nat.le_of_ble_eq_true rfl) rfl ?_
  intro p e s m args below meth c A hA hr C
  exact t_X5_beginEmpty C hr hz
def rm_X5_bucketBehind : Room := { frames := 0, cells := 0, slots := 0, locals := 0 }
theorem wc_5_87 : Cond.constant RX5 87 (-1640531535) ∈ wsAll := wA 444 (by decide +kernel) (by decide +kernel)
set_option maxRecDepth 20000 in
theorem t_X5_bucketBehind_L4 {p : Program} {l : Launch} {e : Env} {s : State} {m : MethodId} {args : Array Value} {below : List Frame} {meth : Method} {c : Code} {D : va_G} {cy : Nat → ClassId} {ad : Nat → Nat} {n : Nat} {A : Nat → Prop} (C : gC p s m args meth c cX5_bucketBehind 4 RX5 D cy ad n A) (hr : meth.sig.returnType = (some .int)) {z : Int32 × Sg} : ∀ (fl : Nat) (x1 : Int32) (x2 : Int32) (x3 : Int32) (S : Sg), f_X5_bucketBehind_L4 fl x1 x2 x3 S = some z → gW p l e rm_X5_bucketBehind s m args below meth c D cy ad n A 4 0 0 (MQ below (gQ D cy ad n A (some (.int z.1)) z.2) args s 0 0 A) S 4 [(0, .ref (ad 12)), (1, .int x1), (2, .int x2), (3, .int x3)] [] := by
  intro fl
  induction fl with
  | zero =>
    intro x1 x2 x3 S hz
    rw [f_X5_bucketBehind_L4] at hz
    cases hz
  | succ fl ih =>
    intro x1 x2 x3 S hz
    rw [f_X5_bucketBehind_L4] at hz
    refine g_iload_n C 5 3 rfl dX5_bucketBehind_4 rfl ?_
    refine g_iload_n C 6 1 rfl dX5_bucketBehind_5 rfl ?_
    refine g_icmp_ge C 27 9 dX5_bucketBehind_6 rfl rfl hz (fun hz => ?_) (fun hz => ?_)
    · refine g_iload_n C 28 2 rfl dX5_bucketBehind_27 rfl ?_
      refine g_bipush C 30 (26 : Int32) cb_26 dX5_bucketBehind_28 rfl ?_
      refine g_iushr C 31 dX5_bucketBehind_30 rfl ?_
      exact g_iret C hr dX5_bucketBehind_31 hz
    · refine g_iload_n C 10 2 rfl dX5_bucketBehind_9 rfl ?_
      refine g_aload_n C 11 0 rfl dX5_bucketBehind_10 rfl ?_
      refine gf_5_15 C 14 dX5_bucketBehind_11 rfl ?_
      refine g_iload_n C 15 3 rfl dX5_bucketBehind_14 rfl ?_
      refine g_iald C 16 ha_14 dX5_bucketBehind_15 rfl hz (fun hz => ?_)
      refine g_iadd C 17 dX5_bucketBehind_16 rfl ?_
      refine g_ldc C 19 wc_5_87 dX5_bucketBehind_17 rfl ?_
      refine g_imul C 20 dX5_bucketBehind_19 rfl ?_
      refine g_istore_n C 21 (i := 2) [1, 2, 0, 3] (fun x2_3 => [(0, .ref (ad 12)), (1, .int x1), (2, .int x2_3), (3, .int x3)]) dX5_bucketBehind_20 rfl rfl (by decide) (fun x2_3 => rfl) hz (fun x2_3 hz => ?_)
      refine g_iinc C 24 3 [1, 2, 3, 0] (1 : Int32) ci_1 (fun x3_4 => [(0, .ref (ad 12)), (1, .int x1), (2, .int x2_3), (3, .int x3_4)]) dX5_bucketBehind_21 rfl rfl (by decide) (fun x3_4 => rfl) hz (fun x3_4 hz => ?_)
      refine g_goto C 4 dX5_bucketBehind_24 rfl ?_
      exact ih x1 x2_3 x3_4 S hz
set_option maxRecDepth 20000 in
theorem t_X5_bucketBehind {p : Program} {l : Launch} {e : Env} {s : State} {m : MethodId} {args : Array Value} {below : List Frame} {meth : Method} {c : Code} {D : va_G} {cy : Nat → ClassId} {ad : Nat → Nat} {n : Nat} {A : Nat → Prop} (C : gC p s m args meth c cX5_bucketBehind 4 RX5 D cy ad n A) (hr : meth.sig.returnType = (some .int)) {z : Int32 × Sg} {S : Sg} {x1 : Int32} (hz : f_X5_bucketBehind x1 S = some z) : gW p l e rm_X5_bucketBehind s m args below meth c D cy ad n A 4 0 0 (MQ below (gQ D cy ad n A (some (.int z.1)) z.2) args s 0 0 A) S 0 [(0, .ref (ad 12)), (1, .int x1)] [] := by
  unfold f_X5_bucketBehind at hz
  refine g_iconst C 1 (0 : Int32) ci_0 dX5_bucketBehind_0 rfl ?_
  refine g_istore_n C 2 (i := 2) [1, 2, 0] (fun x2_1 => [(0, .ref (ad 12)), (1, .int x1), (2, .int x2_1)]) dX5_bucketBehind_1 rfl rfl (by decide) (fun x2_1 => rfl) hz (fun x2_1 hz => ?_)
  refine g_iconst C 3 (0 : Int32) ci_0 dX5_bucketBehind_2 rfl ?_
  refine g_istore_n C 4 (i := 3) [1, 2, 3, 0] (fun x3_2 => [(0, .ref (ad 12)), (1, .int x1), (2, .int x2_1), (3, .int x3_2)]) dX5_bucketBehind_3 rfl rfl (by decide) (fun x3_2 => rfl) hz (fun x3_2 hz => ?_)
  exact (t_X5_bucketBehind_L4 C hr fu) x1 x2_1 x3_2 S hz
theorem c_X5_bucketBehind (l : Launch) (D : va_G) (cy : Nat → ClassId) (ad : Nat → Nat) (n : Nat) (S : Sg) (sz : Nat) (x1 : Int32) (z : Int32 × Sg) (hz : f_X5_bucketBehind x1 S = some z) : Met l yX5_bucketBehind (.code yX5_bucketBehind cX5_bucketBehind 4 (some .int) :: wsAll) rm_X5_bucketBehind (gPc D cy ad n S sz [.ref (ad 12), .int x1]) (gQ D cy ad n (va_A (wW cy ad n S) sz) (some (.int z.1)) z.2) 0 0 (va_A (wW cy ad n S) sz) := by
  refine gMet (lv := [(0, .ref (ad 12)), (1, .int x1)]) (by decide) (Nat.le_of_ble_eq_true rfl) rfl ?_
  intro p e s m args below meth c A hA hr C
  exact t_X5_bucketBehind C hr hz
def rm_X5_addState : Room := { frames := 1, cells := 0, slots := 0, locals := 23 }
theorem wl_5_79 : Cond.methodLink RX5 79 yX5_bucketBehind ∈ wsAll := wA 440 (by decide +kernel) (by decide +kernel)
theorem wi_X5_bucketBehind : Cond.instanceMethod yX5_bucketBehind ∈ wsAll := wA 442 (by decide +kernel) (by decide +kernel)
theorem we_X5_bucketBehind : Cond.selects RX5 yX5_bucketBehind yX5_bucketBehind ∈ wsAll := wAp 26 (by decide +kernel) (by decide +kernel)
theorem wz_5 : Cond.initialized RX5 ∈ wsAll := wA 4 (by decide +kernel) (by decide +kernel)
theorem wo_X5_bucketBehind : Cond.code yX5_bucketBehind cX5_bucketBehind 4 (some .int) ∈ wsAll := wA 443 (by decide +kernel) (by decide +kernel)
theorem cl_5_79 {p : Program} {l : Launch} {e : Env} {R : Room} {s : State} {m : MethodId} {args : Array Value} {below : List Frame} {meth : Method} {c : Code} {cc : ByteArray} {nL : Nat} {D : va_G} {cy : Nat → ClassId} {ad : Nat → Nat} {n : Nat} {A : Nat → Prop} {mc ms : Nat} {Q : State → Prop} {S : Sg} {pc : Nat} {lv : List (Nat × Value)} {st : List Value} {ζ : Type} {z : ζ} (C : gC p s m args meth c cc nL RX5 D cy ad n A) (nx : Nat) {x1 : Int32} (hR : Room.frames rm_X5_bucketBehind + 1 ≤ R.frames ∧ 8 + (4 + 11) + Room.locals rm_X5_bucketBehind ≤ R.locals) (hcm : mc ≤ R.cells ∧ ms ≤ R.slots) (hrest : (st.map fun v => v.category).sum ≤ 8) (hd : decode cc pc = .ok (.invokevirtual 79, 3)) (hn : pc + 3 = nx) {K : Int32 → Sg → Option ζ} (hz : bd2 (f_X5_bucketBehind x1 S) K = some z) (kk : ∀ r S', K r S' = some z → gW p l e R s m args below meth c D cy ad n A nL mc ms Q S' nx lv (.int r :: st)) : gW p l e R s m args below meth c D cy ad n A nL mc ms Q S pc lv (.int x1 :: .ref (ad 12) :: st) := by
  obtain ⟨q, hq, hk⟩ := bd2_s hz
  exact g_callV C (i := 12) (ci := 5) (Cn := RX5) (T := TX5) (N := 4) (y := yX5_bucketBehind) (rm := rm_X5_bucketBehind) (As := [.int x1]) (rest := st) (na := 1) (fun sz => c_X5_bucketBehind l D cy ad n S sz x1 q hq) ha_12 rfl rfl wl_5_79 wi_X5_bucketBehind we_X5_bucketBehind wz_5 wo_X5_bucketBehind (by decide +kernel) rfl rfl hR hcm rfl hrest hn hd (kk q.1 q.2 hk)
set_option maxRecDepth 20000 in
theorem t_X5_addState_L140 {p : Program} {l : Launch} {e : Env} {s : State} {m : MethodId} {args : Array Value} {below : List Frame} {meth : Method} {c : Code} {D : va_G} {cy : Nat → ClassId} {ad : Nat → Nat} {n : Nat} {A : Nat → Prop} (C : gC p s m args meth c cX5_addState 8 RX5 D cy ad n A) (hr : meth.sig.returnType = (some .boolean)) {z : Int32 × Sg} : ∀ (i2 : Nat) (x3 : Int32) (x4 : Int32) (t0 : Int32) (t1 : Int32) (i_t2 : Nat) (S : Sg), okM n i2 = true → okM n i_t2 = true → f_X5_addState_L140 i2 x3 x4 t0 t1 i_t2 S = some z → gW p l e rm_X5_addState s m args below meth c D cy ad n A 8 0 0 (MQ below (gQ D cy ad n A (some (.int z.1)) z.2) args s 0 0 A) S 140 [(0, .ref (ad 12)), (1, .ref (ad 5)), (2, .ref (ad i2)), (3, .int x3), (4, .int x4)] [.int t0, .int t1, .ref (ad (i_t2 + 4))] := by
  intro i2 x3 x4 t0 t1 i_t2 S h_i2 h_i_t2 hz
  unfold f_X5_addState_L140 at hz
  refine g_zast C 141 (has_m h_i_t2 4 (by decide)) dX5_addState_140 rfl hz (fun S_4 hz => ?_)
  refine g_aload_n C 142 2 rfl dX5_addState_141 rfl ?_
  refine gf_5_102 C 145 h_i2 dX5_addState_142 rfl ?_
  refine g_iload C 147 4 rfl dX5_addState_145 rfl ?_
  refine g_iload_n C 148 3 rfl dX5_addState_147 rfl ?_
  refine g_iast C 149 (has_m h_i2 2 (by decide)) dX5_addState_148 rfl hz (fun S_5 hz => ?_)
  refine g_aload_n C 150 2 rfl dX5_addState_149 rfl ?_
  refine g_iload C 152 4 rfl dX5_addState_150 rfl ?_
  refine g_iconst C 153 (1 : Int32) ci_1 dX5_addState_152 rfl ?_
  refine g_iadd C 154 dX5_addState_153 rfl ?_
  refine pf_5_24 C 157 h_i2 dX5_addState_154 rfl hz (fun S_6 hz => ?_)
  refine g_iload C 159 4 rfl dX5_addState_157 rfl ?_
  refine g_if_le C 195 162 dX5_addState_159 rfl rfl hz (fun hz => ?_) (fun hz => ?_)
  · refine g_iconst C 196 (1 : Int32) ci_1 dX5_addState_195 rfl ?_
    exact g_zretc C hr (by decide) dX5_addState_196 hz
  · refine g_aload_n C 163 0 rfl dX5_addState_162 rfl ?_
    refine g_aload_n C 164 1 rfl dX5_addState_163 rfl ?_
    refine gf_5_30 C 167 dX5_addState_164 rfl ?_
    refine cl_5_79 C 170 ⟨Nat.le_of_ble_eq_true rfl, Nat.le_of_ble_eq_true rfl⟩ ⟨Nat.zero_le _, Nat.zero_le _⟩ (Nat.le_of_ble_eq_true rfl) dX5_addState_167 rfl hz (fun r_8 S_7 hz => ?_)
    refine g_istore C 172 (i := 6) [1, 5, 0] (fun x6_9 => [(0, .ref (ad 12)), (4, .int x4), (6, .int x6_9)]) dX5_addState_170 rfl (by decide) (fun x6_9 => rfl) hz (fun x6_9 hz => ?_)
    refine g_aload_n C 173 0 rfl dX5_addState_172 rfl ?_
    refine gf_5_21 C 176 dX5_addState_173 rfl ?_
    refine g_iload C 178 1 rfl dX5_addState_176 rfl ?_
    refine g_aload_n C 179 0 rfl dX5_addState_178 rfl ?_
    refine gf_5_18 C 182 dX5_addState_179 rfl ?_
    refine g_iload C 184 2 rfl dX5_addState_182 rfl ?_
    refine g_iald C 185 ha_15 dX5_addState_184 rfl hz (fun hz => ?_)
    refine g_iast C 186 ha_16 dX5_addState_185 rfl hz (fun S_10 hz => ?_)
    refine g_aload_n C 187 0 rfl dX5_addState_186 rfl ?_
    refine gf_5_18 C 190 dX5_addState_187 rfl ?_
    refine g_iload C 192 2 rfl dX5_addState_190 rfl ?_
    refine g_iload C 194 1 rfl dX5_addState_192 rfl ?_
    refine g_iast C 195 ha_15 dX5_addState_194 rfl hz (fun S_11 hz => ?_)
    refine g_iconst C 196 (1 : Int32) ci_1 dX5_addState_195 rfl ?_
    exact g_zretc C hr (by decide) dX5_addState_196 hz
set_option maxRecDepth 20000 in
theorem t_X5_addState_L89 {p : Program} {l : Launch} {e : Env} {s : State} {m : MethodId} {args : Array Value} {below : List Frame} {meth : Method} {c : Code} {D : va_G} {cy : Nat → ClassId} {ad : Nat → Nat} {n : Nat} {A : Nat → Prop} (C : gC p s m args meth c cX5_addState 8 RX5 D cy ad n A) (hr : meth.sig.returnType = (some .boolean)) {z : Int32 × Sg} {k22 : Nat → Int32 → Int32 → Int32 → Int32 → Sg → Option (Int32 × Sg)} (hk22 : ∀ (i2 : Nat) (x3 : Int32) (x4 : Int32) (x5 : Int32) (x6 : Int32) (S : Sg), okM n i2 = true → k22 i2 x3 x4 x5 x6 S = some z → gW p l e rm_X5_addState s m args below meth c D cy ad n A 8 0 0 (MQ below (gQ D cy ad n A (some (.int z.1)) z.2) args s 0 0 A) S 22 [(0, .ref (ad 12)), (1, .ref (ad 5)), (2, .ref (ad i2)), (3, .int x3), (4, .int x4), (5, .int x5), (6, .int x6)] []) : ∀ (i2 : Nat) (x3 : Int32) (x4 : Int32) (x5 : Int32) (x6 : Int32) (t0 : Int32) (S : Sg), okM n i2 = true → f_X5_addState_L89 k22 i2 x3 x4 x5 x6 t0 S = some z → gW p l e rm_X5_addState s m args below meth c D cy ad n A 8 0 0 (MQ below (gQ D cy ad n A (some (.int z.1)) z.2) args s 0 0 A) S 89 [(0, .ref (ad 12)), (1, .ref (ad 5)), (2, .ref (ad i2)), (3, .int x3), (4, .int x4), (5, .int x5), (6, .int x6)] [.int t0] := by
  intro i2 x3 x4 x5 x6 t0 S h_i2 hz
  unfold f_X5_addState_L89 at hz
  refine g_istore C 91 (i := 7) [1, 2, 3, 4, 5, 6, 7, 0] (fun x7_13 => [(0, .ref (ad 12)), (1, .ref (ad 5)), (2, .ref (ad i2)), (3, .int x3), (4, .int x4), (5, .int x5), (6, .int x6), (7, .int x7_13)]) dX5_addState_89 rfl (by decide) (fun x7_13 => rfl) hz (fun x7_13 hz => ?_)
  refine g_iload C 93 5 rfl dX5_addState_91 rfl ?_
  refine g_iload C 95 7 rfl dX5_addState_93 rfl ?_
  refine g_if_eq C 105 98 dX5_addState_95 rfl rfl hz (fun hz => ?_) (fun hz => ?_)
  · refine g_iconst C 106 (0 : Int32) ci_0 dX5_addState_105 rfl ?_
    refine g_ior C 107 dX5_addState_106 rfl ?_
    refine g_istore C 109 (i := 5) [1, 2, 3, 4, 5, 0, 6] (fun x5_14 => [(0, .ref (ad 12)), (1, .ref (ad 5)), (2, .ref (ad i2)), (3, .int x3), (4, .int x4), (5, .int x5_14), (6, .int x6)]) dX5_addState_107 rfl (by decide) (fun x5_14 => rfl) hz (fun x5_14 hz => ?_)
    refine g_iinc C 112 6 [1, 2, 3, 4, 5, 6, 0] (1 : Int32) ci_1 (fun x6_15 => [(0, .ref (ad 12)), (1, .ref (ad 5)), (2, .ref (ad i2)), (3, .int x3), (4, .int x4), (5, .int x5_14), (6, .int x6_15)]) dX5_addState_109 rfl rfl (by decide) (fun x6_15 => rfl) hz (fun x6_15 hz => ?_)
    refine g_goto C 22 dX5_addState_112 rfl ?_
    exact hk22 i2 x3 x4 x5_14 x6_15 S h_i2 hz
  · refine g_iconst C 99 (1 : Int32) ci_1 dX5_addState_98 rfl ?_
    refine g_iload C 101 6 rfl dX5_addState_99 rfl ?_
    refine g_ishl C 102 dX5_addState_101 rfl ?_
    refine g_goto C 106 dX5_addState_102 rfl ?_
    refine g_ior C 107 dX5_addState_106 rfl ?_
    refine g_istore C 109 (i := 5) [1, 2, 3, 4, 5, 0, 6] (fun x5_16 => [(0, .ref (ad 12)), (1, .ref (ad 5)), (2, .ref (ad i2)), (3, .int x3), (4, .int x4), (5, .int x5_16), (6, .int x6)]) dX5_addState_107 rfl (by decide) (fun x5_16 => rfl) hz (fun x5_16 hz => ?_)
    refine g_iinc C 112 6 [1, 2, 3, 4, 5, 6, 0] (1 : Int32) ci_1 (fun x6_17 => [(0, .ref (ad 12)), (1, .ref (ad 5)), (2, .ref (ad i2)), (3, .int x3), (4, .int x4), (5, .int x5_16), (6, .int x6_17)]) dX5_addState_109 rfl rfl (by decide) (fun x6_17 => rfl) hz (fun x6_17 hz => ?_)
    refine g_goto C 22 dX5_addState_112 rfl ?_
    exact hk22 i2 x3 x4 x5_16 x6_17 S h_i2 hz
set_option maxRecDepth 20000 in
theorem t_X5_addState_L22 {p : Program} {l : Launch} {e : Env} {s : State} {m : MethodId} {args : Array Value} {below : List Frame} {meth : Method} {c : Code} {D : va_G} {cy : Nat → ClassId} {ad : Nat → Nat} {n : Nat} {A : Nat → Prop} (C : gC p s m args meth c cX5_addState 8 RX5 D cy ad n A) (hr : meth.sig.returnType = (some .boolean)) {z : Int32 × Sg} : ∀ (fl : Nat) (i2 : Nat) (x3 : Int32) (x4 : Int32) (x5 : Int32) (x6 : Int32) (S : Sg), okM n i2 = true → f_X5_addState_L22 fl i2 x3 x4 x5 x6 S = some z → gW p l e rm_X5_addState s m args below meth c D cy ad n A 8 0 0 (MQ below (gQ D cy ad n A (some (.int z.1)) z.2) args s 0 0 A) S 22 [(0, .ref (ad 12)), (1, .ref (ad 5)), (2, .ref (ad i2)), (3, .int x3), (4, .int x4), (5, .int x5), (6, .int x6)] [] := by
  intro fl
  induction fl with
  | zero =>
    intro i2 x3 x4 x5 x6 S h_i2 hz
    rw [f_X5_addState_L22] at hz
    cases hz
  | succ fl ih =>
    intro i2 x3 x4 x5 x6 S h_i2 hz
    rw [f_X5_addState_L22] at hz
    refine g_iload C 24 6 rfl dX5_addState_22 rfl ?_
    refine g_aload_n C 25 1 rfl dX5_addState_24 rfl ?_
    refine gf_5_30 C 28 dX5_addState_25 rfl ?_
    refine g_icmp_ge C 115 31 dX5_addState_28 rfl rfl hz (fun hz => ?_) (fun hz => ?_)
    · refine g_aload_n C 116 2 rfl dX5_addState_115 rfl ?_
      refine gf_5_95 C 119 h_i2 dX5_addState_116 rfl ?_
      refine g_iload C 121 4 rfl dX5_addState_119 rfl ?_
      refine g_aload_n C 122 1 rfl dX5_addState_121 rfl ?_
      refine gf_5_98 C 125 dX5_addState_122 rfl ?_
      refine g_iload C 127 5 rfl dX5_addState_125 rfl ?_
      refine g_lushr C 128 dX5_addState_127 rfl ?_
      refine g_lconst C 129 (1 : Int64) cl_1 dX5_addState_128 rfl ?_
      refine g_land C 130 dX5_addState_129 rfl ?_
      refine g_lconst C 131 (0 : Int64) cl_0 dX5_addState_130 rfl ?_
      refine g_lcmp C 132 dX5_addState_131 rfl ?_
      refine g_if_eq C 139 135 dX5_addState_132 rfl rfl hz (fun hz => ?_) (fun hz => ?_)
      · refine g_iconst C 140 (0 : Int32) ci_0 dX5_addState_139 rfl ?_
        refine g_lv [0, 1, 2, 3, 4] rfl ?_
        exact (t_X5_addState_L140 C hr) i2 x3 x4 ((0 : Int32)) x4 i2 S h_i2 h_i2 hz
      · refine g_iconst C 136 (1 : Int32) ci_1 dX5_addState_135 rfl ?_
        refine g_goto C 140 dX5_addState_136 rfl ?_
        refine g_lv [0, 1, 2, 3, 4] rfl ?_
        exact (t_X5_addState_L140 C hr) i2 x3 x4 ((1 : Int32)) x4 i2 S h_i2 h_i2 hz
    · refine g_aload_n C 32 2 rfl dX5_addState_31 rfl ?_
      refine gf_5_69 C 35 h_i2 dX5_addState_32 rfl ?_
      refine g_iload C 37 4 rfl dX5_addState_35 rfl ?_
      refine g_bipush C 39 (6 : Int32) cb_6 dX5_addState_37 rfl ?_
      refine g_imul C 40 dX5_addState_39 rfl ?_
      refine g_iload C 42 6 rfl dX5_addState_40 rfl ?_
      refine g_iadd C 43 dX5_addState_42 rfl ?_
      refine g_aload_n C 44 0 rfl dX5_addState_43 rfl ?_
      refine gf_5_15 C 47 dX5_addState_44 rfl ?_
      refine g_iload C 49 6 rfl dX5_addState_47 rfl ?_
      refine g_iald C 50 ha_14 dX5_addState_49 rfl hz (fun hz => ?_)
      refine g_iast C 51 (has_m h_i2 3 (by decide)) dX5_addState_50 rfl hz (fun S_12 hz => ?_)
      refine g_iload C 53 4 rfl dX5_addState_51 rfl ?_
      refine g_if_ne C 66 56 dX5_addState_53 rfl rfl hz (fun hz => ?_) (fun hz => ?_)
      · refine g_aload_n C 67 0 rfl dX5_addState_66 rfl ?_
        refine gf_5_15 C 70 dX5_addState_67 rfl ?_
        refine g_iload C 72 6 rfl dX5_addState_70 rfl ?_
        refine g_iald C 73 ha_14 dX5_addState_72 rfl hz (fun hz => ?_)
        refine g_aload_n C 74 1 rfl dX5_addState_73 rfl ?_
        refine gf_5_92 C 77 dX5_addState_74 rfl ?_
        refine g_iload C 79 6 rfl dX5_addState_77 rfl ?_
        refine g_iald C 80 ha_8 dX5_addState_79 rfl hz (fun hz => ?_)
        refine g_iand C 81 dX5_addState_80 rfl ?_
        refine g_if_eq C 88 84 dX5_addState_81 rfl rfl hz (fun hz => ?_) (fun hz => ?_)
        · refine g_iconst C 89 (0 : Int32) ci_0 dX5_addState_88 rfl ?_
          exact (t_X5_addState_L89 C hr ih) i2 x3 x4 x5 x6 ((0 : Int32)) S_12 h_i2 hz
        · refine g_iconst C 85 (1 : Int32) ci_1 dX5_addState_84 rfl ?_
          refine g_goto C 89 dX5_addState_85 rfl ?_
          exact (t_X5_addState_L89 C hr ih) i2 x3 x4 x5 x6 ((1 : Int32)) S_12 h_i2 hz
      · refine g_aload_n C 57 1 rfl dX5_addState_56 rfl ?_
        refine gf_5_88 C 60 dX5_addState_57 rfl ?_
        refine g_iload C 62 6 rfl dX5_addState_60 rfl ?_
        refine g_zald C 63 ha_9 dX5_addState_62 rfl hz (fun hz => ?_)
        refine g_goto C 89 dX5_addState_63 rfl ?_
        exact (t_X5_addState_L89 C hr ih) i2 x3 x4 x5 x6 ((S_12.1 9 (Int32.toNatClampNeg x6))) S_12 h_i2 hz
set_option maxRecDepth 20000 in
theorem t_X5_addState {p : Program} {l : Launch} {e : Env} {s : State} {m : MethodId} {args : Array Value} {below : List Frame} {meth : Method} {c : Code} {D : va_G} {cy : Nat → ClassId} {ad : Nat → Nat} {n : Nat} {A : Nat → Prop} (C : gC p s m args meth c cX5_addState 8 RX5 D cy ad n A) (hr : meth.sig.returnType = (some .boolean)) {z : Int32 × Sg} {S : Sg} {i2 : Nat} {x3 : Int32} (h_i2 : okM n i2 = true) (hz : f_X5_addState i2 x3 S = some z) : gW p l e rm_X5_addState s m args below meth c D cy ad n A 8 0 0 (MQ below (gQ D cy ad n A (some (.int z.1)) z.2) args s 0 0 A) S 0 [(0, .ref (ad 12)), (1, .ref (ad 5)), (2, .ref (ad i2)), (3, .int x3)] [] := by
  unfold f_X5_addState at hz
  refine g_aload_n C 1 2 rfl dX5_addState_0 rfl ?_
  refine gf_5_24 C 4 h_i2 dX5_addState_1 rfl ?_
  refine g_istore C 6 (i := 4) [1, 2, 3, 4, 0] (fun x4_1 => [(0, .ref (ad 12)), (1, .ref (ad 5)), (2, .ref (ad i2)), (3, .int x3), (4, .int x4_1)]) dX5_addState_4 rfl (by decide) (fun x4_1 => rfl) hz (fun x4_1 hz => ?_)
  refine g_iload C 8 4 rfl dX5_addState_6 rfl ?_
  refine g_sipush C 11 (150 : Int32) cs_150 dX5_addState_8 rfl ?_
  refine g_icmp_lt C 16 14 dX5_addState_11 rfl rfl hz (fun hz => ?_) (fun hz => ?_)
  · refine g_iconst C 17 (0 : Int32) ci_0 dX5_addState_16 rfl ?_
    refine g_istore C 19 (i := 5) [1, 2, 3, 4, 5, 0] (fun x5_2 => [(0, .ref (ad 12)), (1, .ref (ad 5)), (2, .ref (ad i2)), (3, .int x3), (4, .int x4_1), (5, .int x5_2)]) dX5_addState_17 rfl (by decide) (fun x5_2 => rfl) hz (fun x5_2 hz => ?_)
    refine g_iconst C 20 (0 : Int32) ci_0 dX5_addState_19 rfl ?_
    refine g_istore C 22 (i := 6) [1, 2, 3, 4, 5, 6, 0] (fun x6_3 => [(0, .ref (ad 12)), (1, .ref (ad 5)), (2, .ref (ad i2)), (3, .int x3), (4, .int x4_1), (5, .int x5_2), (6, .int x6_3)]) dX5_addState_20 rfl (by decide) (fun x6_3 => rfl) hz (fun x6_3 hz => ?_)
    exact (t_X5_addState_L22 C hr fu) i2 x3 x4_1 x5_2 x6_3 S h_i2 hz
  · refine g_iconst C 15 (0 : Int32) ci_0 dX5_addState_14 rfl ?_
    exact g_zretc C hr (by decide) dX5_addState_15 hz
theorem c_X5_addState (l : Launch) (D : va_G) (cy : Nat → ClassId) (ad : Nat → Nat) (n : Nat) (S : Sg) (sz : Nat) (i2 : Nat) (x3 : Int32) (z : Int32 × Sg) (h_i2 : okM n i2 = true) (hz : f_X5_addState i2 x3 S = some z) : Met l yX5_addState (.code yX5_addState cX5_addState 8 (some .boolean) :: wsAll) rm_X5_addState (gPc D cy ad n S sz [.ref (ad 12), .ref (ad 5), .ref (ad i2), .int x3]) (gQ D cy ad n (va_A (wW cy ad n S) sz) (some (.int z.1)) z.2) 0 0 (va_A (wW cy ad n S) sz) := by
  refine gMet (lv := [(0, .ref (ad 12)), (1, .ref (ad 5)), (2, .ref (ad i2)), (3, .int x3)]) (by decide) (Nat.le_of_ble_eq_true rfl) rfl ?_
  intro p e s m args below meth c A hA hr C
  exact t_X5_addState C hr h_i2 hz
def rm_X7_following : Room := { frames := 0, cells := 0, slots := 0, locals := 0 }
set_option maxRecDepth 20000 in
theorem t_X7_following_L5 {p : Program} {l : Launch} {e : Env} {s : State} {m : MethodId} {args : Array Value} {below : List Frame} {meth : Method} {c : Code} {D : va_G} {cy : Nat → ClassId} {ad : Nat → Nat} {n : Nat} {A : Nat → Prop} (C : gC p s m args meth c cX7_following 5 RX7 D cy ad n A) (hr : meth.sig.returnType = (some .int)) {z : Int32 × Sg} : ∀ (fl : Nat) (x1 : Int32) (x2 : Int32) (x3 : Int32) (x4 : Int32) (S : Sg), f_X7_following_L5 fl x1 x2 x3 x4 S = some z → gW p l e rm_X7_following s m args below meth c D cy ad n A 5 0 0 (MQ below (gQ D cy ad n A (some (.int z.1)) z.2) args s 0 0 A) S 5 [(0, .ref (ad 5)), (1, .int x1), (2, .int x2), (3, .int x3), (4, .int x4)] [] := by
  intro fl
  induction fl with
  | zero =>
    intro x1 x2 x3 x4 S hz
    rw [f_X7_following_L5] at hz
    cases hz
  | succ fl ih =>
    intro x1 x2 x3 x4 S hz
    rw [f_X7_following_L5] at hz
    refine g_iload C 7 4 rfl dX7_following_5 rfl ?_
    refine g_aload_n C 8 0 rfl dX7_following_7 rfl ?_
    refine gf_7_19 C 11 dX7_following_8 rfl ?_
    refine g_iload_n C 12 1 rfl dX7_following_11 rfl ?_
    refine g_iald C 13 ha_6 dX7_following_12 rfl hz (fun hz => ?_)
    refine g_icmp_ge C 46 16 dX7_following_13 rfl rfl hz (fun hz => ?_) (fun hz => ?_)
    · refine g_iload_n C 47 3 rfl dX7_following_46 rfl ?_
      exact g_iret C hr dX7_following_47 hz
    · refine g_iload_n C 17 2 rfl dX7_following_16 rfl ?_
      refine g_iload C 19 4 rfl dX7_following_17 rfl ?_
      refine g_ishr C 20 dX7_following_19 rfl ?_
      refine g_iconst C 21 (1 : Int32) ci_1 dX7_following_20 rfl ?_
      refine g_iand C 22 dX7_following_21 rfl ?_
      refine g_if_eq C 40 25 dX7_following_22 rfl rfl hz (fun hz => ?_) (fun hz => ?_)
      · refine g_iinc C 43 4 [1, 2, 3, 4, 0] (1 : Int32) ci_1 (fun x4_3 => [(0, .ref (ad 5)), (1, .int x1), (2, .int x2), (3, .int x3), (4, .int x4_3)]) dX7_following_40 rfl rfl (by decide) (fun x4_3 => rfl) hz (fun x4_3 hz => ?_)
        refine g_goto C 5 dX7_following_43 rfl ?_
        exact ih x1 x2 x3 x4_3 S hz
      · refine g_iload_n C 26 3 rfl dX7_following_25 rfl ?_
        refine g_aload_n C 27 0 rfl dX7_following_26 rfl ?_
        refine gf_7_36 C 30 dX7_following_27 rfl ?_
        refine g_iload_n C 31 1 rfl dX7_following_30 rfl ?_
        refine g_bipush C 33 (30 : Int32) cb_30 dX7_following_31 rfl ?_
        refine g_imul C 34 dX7_following_33 rfl ?_
        refine g_iload C 36 4 rfl dX7_following_34 rfl ?_
        refine g_iadd C 37 dX7_following_36 rfl ?_
        refine g_iald C 38 ha_11 dX7_following_37 rfl hz (fun hz => ?_)
        refine g_ior C 39 dX7_following_38 rfl ?_
        refine g_istore_n C 40 (i := 3) [1, 2, 3, 0, 4] (fun x3_4 => [(0, .ref (ad 5)), (1, .int x1), (2, .int x2), (3, .int x3_4), (4, .int x4)]) dX7_following_39 rfl rfl (by decide) (fun x3_4 => rfl) hz (fun x3_4 hz => ?_)
        refine g_iinc C 43 4 [1, 2, 3, 4, 0] (1 : Int32) ci_1 (fun x4_5 => [(0, .ref (ad 5)), (1, .int x1), (2, .int x2), (3, .int x3_4), (4, .int x4_5)]) dX7_following_40 rfl rfl (by decide) (fun x4_5 => rfl) hz (fun x4_5 hz => ?_)
        refine g_goto C 5 dX7_following_43 rfl ?_
        exact ih x1 x2 x3_4 x4_5 S hz
set_option maxRecDepth 20000 in
theorem t_X7_following {p : Program} {l : Launch} {e : Env} {s : State} {m : MethodId} {args : Array Value} {below : List Frame} {meth : Method} {c : Code} {D : va_G} {cy : Nat → ClassId} {ad : Nat → Nat} {n : Nat} {A : Nat → Prop} (C : gC p s m args meth c cX7_following 5 RX7 D cy ad n A) (hr : meth.sig.returnType = (some .int)) {z : Int32 × Sg} {S : Sg} {x1 : Int32} {x2 : Int32} (hz : f_X7_following x1 x2 S = some z) : gW p l e rm_X7_following s m args below meth c D cy ad n A 5 0 0 (MQ below (gQ D cy ad n A (some (.int z.1)) z.2) args s 0 0 A) S 0 [(0, .ref (ad 5)), (1, .int x1), (2, .int x2)] [] := by
  unfold f_X7_following at hz
  refine g_iconst C 1 (0 : Int32) ci_0 dX7_following_0 rfl ?_
  refine g_istore_n C 2 (i := 3) [1, 2, 3, 0] (fun x3_1 => [(0, .ref (ad 5)), (1, .int x1), (2, .int x2), (3, .int x3_1)]) dX7_following_1 rfl rfl (by decide) (fun x3_1 => rfl) hz (fun x3_1 hz => ?_)
  refine g_iconst C 3 (0 : Int32) ci_0 dX7_following_2 rfl ?_
  refine g_istore C 5 (i := 4) [1, 2, 3, 4, 0] (fun x4_2 => [(0, .ref (ad 5)), (1, .int x1), (2, .int x2), (3, .int x3_1), (4, .int x4_2)]) dX7_following_3 rfl (by decide) (fun x4_2 => rfl) hz (fun x4_2 hz => ?_)
  exact (t_X7_following_L5 C hr fu) x1 x2 x3_1 x4_2 S hz
theorem c_X7_following (l : Launch) (D : va_G) (cy : Nat → ClassId) (ad : Nat → Nat) (n : Nat) (S : Sg) (sz : Nat) (x1 : Int32) (x2 : Int32) (z : Int32 × Sg) (hz : f_X7_following x1 x2 S = some z) : Met l yX7_following (.code yX7_following cX7_following 5 (some .int) :: wsAll) rm_X7_following (gPc D cy ad n S sz [.ref (ad 5), .int x1, .int x2]) (gQ D cy ad n (va_A (wW cy ad n S) sz) (some (.int z.1)) z.2) 0 0 (va_A (wW cy ad n S) sz) := by
  refine gMet (lv := [(0, .ref (ad 5)), (1, .int x1), (2, .int x2)]) (by decide) (Nat.le_of_ble_eq_true rfl) rfl ?_
  intro p e s m args below meth c A hA hr C
  exact t_X7_following C hr hz
def rm_X5_setReach : Room := { frames := 1, cells := 0, slots := 0, locals := 24 }
theorem wl_5_72 : Cond.methodLinkNest RX5 72 yX7_following "WordMachines" ∈ tables_1 := List.mem_of_getElem? (i := 449) (by decide +kernel)
theorem wi_X7_following : Cond.instanceMethod yX7_following ∈ wsAll := wA 451 (by decide +kernel) (by decide +kernel)
theorem we_X7_following : Cond.selects RX7 yX7_following yX7_following ∈ wsAll := wAp 28 (by decide +kernel) (by decide +kernel)
theorem wz_7 : Cond.initialized RX7 ∈ wsAll := wA 3 (by decide +kernel) (by decide +kernel)
theorem wo_X7_following : Cond.code yX7_following cX7_following 5 (some .int) ∈ wsAll := wA 452 (by decide +kernel) (by decide +kernel)
theorem cl_5_72 {p : Program} {l : Launch} {e : Env} {R : Room} {s : State} {m : MethodId} {args : Array Value} {below : List Frame} {meth : Method} {c : Code} {cc : ByteArray} {nL : Nat} {D : va_G} {cy : Nat → ClassId} {ad : Nat → Nat} {n : Nat} {A : Nat → Prop} {mc ms : Nat} {Q : State → Prop} {S : Sg} {pc : Nat} {lv : List (Nat × Value)} {st : List Value} {ζ : Type} {z : ζ} (C : gC p s m args meth c cc nL RX5 D cy ad n A) (nx : Nat) {x1 : Int32} {x2 : Int32} (hR : Room.frames rm_X7_following + 1 ≤ R.frames ∧ 8 + (5 + 11) + Room.locals rm_X7_following ≤ R.locals) (hcm : mc ≤ R.cells ∧ ms ≤ R.slots) (hrest : (st.map fun v => v.category).sum ≤ 8) (hd : decode cc pc = .ok (.invokevirtual 72, 3)) (hn : pc + 3 = nx) {K : Int32 → Sg → Option ζ} (hz : bd2 (f_X7_following x1 x2 S) K = some z) (kk : ∀ r S', K r S' = some z → gW p l e R s m args below meth c D cy ad n A nL mc ms Q S' nx lv (.int r :: st)) : gW p l e R s m args below meth c D cy ad n A nL mc ms Q S pc lv (.int x2 :: .int x1 :: .ref (ad 5) :: st) := by
  obtain ⟨q, hq, hk⟩ := bd2_s hz
  exact g_callVN C (i := 5) (ci := 7) (Cn := RX7) (T := TX7) (N := 8) (y := yX7_following) (rm := rm_X7_following) (As := [.int x1, .int x2]) (rest := st) (na := 2) (fun sz => c_X7_following l D cy ad n S sz x1 x2 q hq) ha_5 rfl rfl wl_5_72 wi_X7_following we_X7_following wz_7 wo_X7_following (by decide +kernel) rfl rfl hR hcm rfl hrest hn hd (kk q.1 q.2 hk)
set_option maxRecDepth 20000 in
theorem t_X5_setReach_L3 {p : Program} {l : Launch} {e : Env} {s : State} {m : MethodId} {args : Array Value} {below : List Frame} {meth : Method} {c : Code} {D : va_G} {cy : Nat → ClassId} {ad : Nat → Nat} {n : Nat} {A : Nat → Prop} (C : gC p s m args meth c cX5_setReach 5 RX5 D cy ad n A) (hr : meth.sig.returnType = none) {z : Sg} : ∀ (fl : Nat) (i2 : Nat) (x3 : Int32) (x4 : Int32) (S : Sg), okM n i2 = true → f_X5_setReach_L3 fl i2 x3 x4 S = some z → gW p l e rm_X5_setReach s m args below meth c D cy ad n A 5 0 0 (MQ below (gQ D cy ad n A none z) args s 0 0 A) S 3 [(0, .ref (ad 12)), (1, .ref (ad 5)), (2, .ref (ad i2)), (3, .int x3), (4, .int x4)] [] := by
  intro fl
  induction fl with
  | zero =>
    intro i2 x3 x4 S h_i2 hz
    rw [f_X5_setReach_L3] at hz
    cases hz
  | succ fl ih =>
    intro i2 x3 x4 S h_i2 hz
    rw [f_X5_setReach_L3] at hz
    refine g_iload C 5 4 rfl dX5_setReach_3 rfl ?_
    refine g_aload_n C 6 1 rfl dX5_setReach_5 rfl ?_
    refine gf_5_30 C 9 dX5_setReach_6 rfl ?_
    refine g_icmp_ge C 57 12 dX5_setReach_9 rfl rfl hz (fun hz => ?_) (fun hz => ?_)
    · exact g_vret C hr dX5_setReach_57 hz
    · refine g_aload_n C 13 0 rfl dX5_setReach_12 rfl ?_
      refine gf_5_9 C 16 dX5_setReach_13 rfl ?_
      refine g_iload C 18 4 rfl dX5_setReach_16 rfl ?_
      refine g_iload_n C 19 3 rfl dX5_setReach_18 rfl ?_
      refine g_if_ne C 32 22 dX5_setReach_19 rfl rfl hz (fun hz => ?_) (fun hz => ?_)
      · refine g_aload_n C 33 1 rfl dX5_setReach_32 rfl ?_
        refine g_iload C 35 4 rfl dX5_setReach_33 rfl ?_
        refine g_aload_n C 36 2 rfl dX5_setReach_35 rfl ?_
        refine gf_5_69 C 39 h_i2 dX5_setReach_36 rfl ?_
        refine g_iload_n C 40 3 rfl dX5_setReach_39 rfl ?_
        refine g_bipush C 42 (6 : Int32) cb_6 dX5_setReach_40 rfl ?_
        refine g_imul C 43 dX5_setReach_42 rfl ?_
        refine g_iload C 45 4 rfl dX5_setReach_43 rfl ?_
        refine g_iadd C 46 dX5_setReach_45 rfl ?_
        refine g_iald C 47 (has_m h_i2 3 (by decide)) dX5_setReach_46 rfl hz (fun hz => ?_)
        refine cl_5_72 C 50 ⟨Nat.le_of_ble_eq_true rfl, Nat.le_of_ble_eq_true rfl⟩ ⟨Nat.zero_le _, Nat.zero_le _⟩ (Nat.le_of_ble_eq_true rfl) dX5_setReach_47 rfl hz (fun r_3 S_2 hz => ?_)
        refine g_iast C 51 ha_13 dX5_setReach_50 rfl hz (fun S_4 hz => ?_)
        refine g_iinc C 54 4 [1, 2, 3, 4, 0] (1 : Int32) ci_1 (fun x4_5 => [(0, .ref (ad 12)), (1, .ref (ad 5)), (2, .ref (ad i2)), (3, .int x3), (4, .int x4_5)]) dX5_setReach_51 rfl rfl (by decide) (fun x4_5 => rfl) hz (fun x4_5 hz => ?_)
        refine g_goto C 3 dX5_setReach_54 rfl ?_
        exact ih i2 x3 x4_5 S_4 h_i2 hz
      · refine g_aload_n C 23 1 rfl dX5_setReach_22 rfl ?_
        refine gf_5_66 C 26 dX5_setReach_23 rfl ?_
        refine g_iload C 28 4 rfl dX5_setReach_26 rfl ?_
        refine g_iald C 29 ha_7 dX5_setReach_28 rfl hz (fun hz => ?_)
        refine g_goto C 50 dX5_setReach_29 rfl ?_
        refine g_iast C 51 ha_13 dX5_setReach_50 rfl hz (fun S_6 hz => ?_)
        refine g_iinc C 54 4 [1, 2, 3, 4, 0] (1 : Int32) ci_1 (fun x4_7 => [(0, .ref (ad 12)), (1, .ref (ad 5)), (2, .ref (ad i2)), (3, .int x3), (4, .int x4_7)]) dX5_setReach_51 rfl rfl (by decide) (fun x4_7 => rfl) hz (fun x4_7 hz => ?_)
        refine g_goto C 3 dX5_setReach_54 rfl ?_
        exact ih i2 x3 x4_7 S_6 h_i2 hz
set_option maxRecDepth 20000 in
theorem t_X5_setReach {p : Program} {l : Launch} {e : Env} {s : State} {m : MethodId} {args : Array Value} {below : List Frame} {meth : Method} {c : Code} {D : va_G} {cy : Nat → ClassId} {ad : Nat → Nat} {n : Nat} {A : Nat → Prop} (C : gC p s m args meth c cX5_setReach 5 RX5 D cy ad n A) (hr : meth.sig.returnType = none) {z : Sg} {S : Sg} {i2 : Nat} {x3 : Int32} (h_i2 : okM n i2 = true) (hz : f_X5_setReach i2 x3 S = some z) : gW p l e rm_X5_setReach s m args below meth c D cy ad n A 5 0 0 (MQ below (gQ D cy ad n A none z) args s 0 0 A) S 0 [(0, .ref (ad 12)), (1, .ref (ad 5)), (2, .ref (ad i2)), (3, .int x3)] [] := by
  unfold f_X5_setReach at hz
  refine g_iconst C 1 (0 : Int32) ci_0 dX5_setReach_0 rfl ?_
  refine g_istore C 3 (i := 4) [1, 2, 3, 4, 0] (fun x4_1 => [(0, .ref (ad 12)), (1, .ref (ad 5)), (2, .ref (ad i2)), (3, .int x3), (4, .int x4_1)]) dX5_setReach_1 rfl (by decide) (fun x4_1 => rfl) hz (fun x4_1 hz => ?_)
  exact (t_X5_setReach_L3 C hr fu) i2 x3 x4_1 S h_i2 hz
theorem c_X5_setReach (l : Launch) (D : va_G) (cy : Nat → ClassId) (ad : Nat → Nat) (n : Nat) (S : Sg) (sz : Nat) (i2 : Nat) (x3 : Int32) (z : Sg) (h_i2 : okM n i2 = true) (hz : f_X5_setReach i2 x3 S = some z) : Met l yX5_setReach (.code yX5_setReach cX5_setReach 5 none :: wsAll) rm_X5_setReach (gPc D cy ad n S sz [.ref (ad 12), .ref (ad 5), .ref (ad i2), .int x3]) (gQ D cy ad n (va_A (wW cy ad n S) sz) none z) 0 0 (va_A (wW cy ad n S) sz) := by
  refine gMet (lv := [(0, .ref (ad 12)), (1, .ref (ad 5)), (2, .ref (ad i2)), (3, .int x3)]) (by decide) (Nat.le_of_ble_eq_true rfl) rfl ?_
  intro p e s m args below meth c A hA hr C
  exact t_X5_setReach C hr h_i2 hz
def rm_X5_setBehind : Room := { frames := 0, cells := 0, slots := 0, locals := 0 }
set_option maxRecDepth 20000 in
theorem t_X5_setBehind_L2 {p : Program} {l : Launch} {e : Env} {s : State} {m : MethodId} {args : Array Value} {below : List Frame} {meth : Method} {c : Code} {D : va_G} {cy : Nat → ClassId} {ad : Nat → Nat} {n : Nat} {A : Nat → Prop} (C : gC p s m args meth c cX5_setBehind 4 RX5 D cy ad n A) (hr : meth.sig.returnType = none) {z : Sg} : ∀ (fl : Nat) (x2 : Int32) (x3 : Int32) (S : Sg), f_X5_setBehind_L2 fl x2 x3 S = some z → gW p l e rm_X5_setBehind s m args below meth c D cy ad n A 4 0 0 (MQ below (gQ D cy ad n A none z) args s 0 0 A) S 2 [(0, .ref (ad 12)), (1, .ref (ad 5)), (2, .int x2), (3, .int x3)] [] := by
  intro fl
  induction fl with
  | zero =>
    intro x2 x3 S hz
    rw [f_X5_setBehind_L2] at hz
    cases hz
  | succ fl ih =>
    intro x2 x3 S hz
    rw [f_X5_setBehind_L2] at hz
    refine g_iload_n C 3 3 rfl dX5_setBehind_2 rfl ?_
    refine g_aload_n C 4 1 rfl dX5_setBehind_3 rfl ?_
    refine gf_5_30 C 7 dX5_setBehind_4 rfl ?_
    refine g_icmp_ge C 39 10 dX5_setBehind_7 rfl rfl hz (fun hz => ?_) (fun hz => ?_)
    · exact g_vret C hr dX5_setBehind_39 hz
    · refine g_aload_n C 11 0 rfl dX5_setBehind_10 rfl ?_
      refine gf_5_15 C 14 dX5_setBehind_11 rfl ?_
      refine g_iload_n C 15 3 rfl dX5_setBehind_14 rfl ?_
      refine g_aload_n C 16 0 rfl dX5_setBehind_15 rfl ?_
      refine gf_5_9 C 19 dX5_setBehind_16 rfl ?_
      refine g_iload_n C 20 3 rfl dX5_setBehind_19 rfl ?_
      refine g_iald C 21 ha_13 dX5_setBehind_20 rfl hz (fun hz => ?_)
      refine g_aload_n C 22 1 rfl dX5_setBehind_21 rfl ?_
      refine gf_5_76 C 25 dX5_setBehind_22 rfl ?_
      refine g_iload_n C 26 3 rfl dX5_setBehind_25 rfl ?_
      refine g_iconst C 27 (4 : Int32) ci_4 dX5_setBehind_26 rfl ?_
      refine g_imul C 28 dX5_setBehind_27 rfl ?_
      refine g_iload_n C 29 2 rfl dX5_setBehind_28 rfl ?_
      refine g_iadd C 30 dX5_setBehind_29 rfl ?_
      refine g_iald C 31 ha_10 dX5_setBehind_30 rfl hz (fun hz => ?_)
      refine g_iand C 32 dX5_setBehind_31 rfl ?_
      refine g_iast C 33 ha_14 dX5_setBehind_32 rfl hz (fun S_2 hz => ?_)
      refine g_iinc C 36 3 [1, 2, 3, 0] (1 : Int32) ci_1 (fun x3_3 => [(0, .ref (ad 12)), (1, .ref (ad 5)), (2, .int x2), (3, .int x3_3)]) dX5_setBehind_33 rfl rfl (by decide) (fun x3_3 => rfl) hz (fun x3_3 hz => ?_)
      refine g_goto C 2 dX5_setBehind_36 rfl ?_
      exact ih x2 x3_3 S_2 hz
set_option maxRecDepth 20000 in
theorem t_X5_setBehind {p : Program} {l : Launch} {e : Env} {s : State} {m : MethodId} {args : Array Value} {below : List Frame} {meth : Method} {c : Code} {D : va_G} {cy : Nat → ClassId} {ad : Nat → Nat} {n : Nat} {A : Nat → Prop} (C : gC p s m args meth c cX5_setBehind 4 RX5 D cy ad n A) (hr : meth.sig.returnType = none) {z : Sg} {S : Sg} {x2 : Int32} (hz : f_X5_setBehind x2 S = some z) : gW p l e rm_X5_setBehind s m args below meth c D cy ad n A 4 0 0 (MQ below (gQ D cy ad n A none z) args s 0 0 A) S 0 [(0, .ref (ad 12)), (1, .ref (ad 5)), (2, .int x2)] [] := by
  unfold f_X5_setBehind at hz
  refine g_iconst C 1 (0 : Int32) ci_0 dX5_setBehind_0 rfl ?_
  refine g_istore_n C 2 (i := 3) [1, 2, 3, 0] (fun x3_1 => [(0, .ref (ad 12)), (1, .ref (ad 5)), (2, .int x2), (3, .int x3_1)]) dX5_setBehind_1 rfl rfl (by decide) (fun x3_1 => rfl) hz (fun x3_1 hz => ?_)
  exact (t_X5_setBehind_L2 C hr fu) x2 x3_1 S hz
theorem c_X5_setBehind (l : Launch) (D : va_G) (cy : Nat → ClassId) (ad : Nat → Nat) (n : Nat) (S : Sg) (sz : Nat) (x2 : Int32) (z : Sg) (hz : f_X5_setBehind x2 S = some z) : Met l yX5_setBehind (.code yX5_setBehind cX5_setBehind 4 none :: wsAll) rm_X5_setBehind (gPc D cy ad n S sz [.ref (ad 12), .ref (ad 5), .int x2]) (gQ D cy ad n (va_A (wW cy ad n S) sz) none z) 0 0 (va_A (wW cy ad n S) sz) := by
  refine gMet (lv := [(0, .ref (ad 12)), (1, .ref (ad 5)), (2, .int x2)]) (by decide) (Nat.le_of_ble_eq_true rfl) rfl ?_
  intro p e s m args below meth c A hA hr C
  exact t_X5_setBehind C hr hz
def rm_X5_hasSetsBehind : Room := { frames := 0, cells := 0, slots := 0, locals := 0 }
set_option maxRecDepth 20000 in
theorem t_X5_hasSetsBehind_L2 {p : Program} {l : Launch} {e : Env} {s : State} {m : MethodId} {args : Array Value} {below : List Frame} {meth : Method} {c : Code} {D : va_G} {cy : Nat → ClassId} {ad : Nat → Nat} {n : Nat} {A : Nat → Prop} (C : gC p s m args meth c cX5_hasSetsBehind 4 RX5 D cy ad n A) (hr : meth.sig.returnType = (some .boolean)) {z : Int32 × Sg} : ∀ (fl : Nat) (i1 : Nat) (x2 : Int32) (x3 : Int32) (S : Sg), okM n i1 = true → f_X5_hasSetsBehind_L2 fl i1 x2 x3 S = some z → gW p l e rm_X5_hasSetsBehind s m args below meth c D cy ad n A 4 0 0 (MQ below (gQ D cy ad n A (some (.int z.1)) z.2) args s 0 0 A) S 2 [(0, .ref (ad 12)), (1, .ref (ad i1)), (2, .int x2), (3, .int x3)] [] := by
  intro fl
  induction fl with
  | zero =>
    intro i1 x2 x3 S h_i1 hz
    rw [f_X5_hasSetsBehind_L2] at hz
    cases hz
  | succ fl ih =>
    intro i1 x2 x3 S h_i1 hz
    rw [f_X5_hasSetsBehind_L2] at hz
    refine g_iload_n C 3 3 rfl dX5_hasSetsBehind_2 rfl ?_
    refine g_aload_n C 4 1 rfl dX5_hasSetsBehind_3 rfl ?_
    refine gf_5_35 C 7 h_i1 dX5_hasSetsBehind_4 rfl ?_
    refine g_icmp_ge C 38 10 dX5_hasSetsBehind_7 rfl rfl hz (fun hz => ?_) (fun hz => ?_)
    · refine g_iconst C 39 (1 : Int32) ci_1 dX5_hasSetsBehind_38 rfl ?_
      exact g_zretc C hr (by decide) dX5_hasSetsBehind_39 hz
    · refine g_aload_n C 11 1 rfl dX5_hasSetsBehind_10 rfl ?_
      refine gf_5_69 C 14 h_i1 dX5_hasSetsBehind_11 rfl ?_
      refine g_iload_n C 15 2 rfl dX5_hasSetsBehind_14 rfl ?_
      refine g_bipush C 17 (6 : Int32) cb_6 dX5_hasSetsBehind_15 rfl ?_
      refine g_imul C 18 dX5_hasSetsBehind_17 rfl ?_
      refine g_iload_n C 19 3 rfl dX5_hasSetsBehind_18 rfl ?_
      refine g_iadd C 20 dX5_hasSetsBehind_19 rfl ?_
      refine g_iald C 21 (has_m h_i1 3 (by decide)) dX5_hasSetsBehind_20 rfl hz (fun hz => ?_)
      refine g_aload_n C 22 0 rfl dX5_hasSetsBehind_21 rfl ?_
      refine gf_5_15 C 25 dX5_hasSetsBehind_22 rfl ?_
      refine g_iload_n C 26 3 rfl dX5_hasSetsBehind_25 rfl ?_
      refine g_iald C 27 ha_14 dX5_hasSetsBehind_26 rfl hz (fun hz => ?_)
      refine g_icmp_eq C 32 30 dX5_hasSetsBehind_27 rfl rfl hz (fun hz => ?_) (fun hz => ?_)
      · refine g_iinc C 35 3 [1, 2, 3, 0] (1 : Int32) ci_1 (fun x3_2 => [(0, .ref (ad 12)), (1, .ref (ad i1)), (2, .int x2), (3, .int x3_2)]) dX5_hasSetsBehind_32 rfl rfl (by decide) (fun x3_2 => rfl) hz (fun x3_2 hz => ?_)
        refine g_goto C 2 dX5_hasSetsBehind_35 rfl ?_
        exact ih i1 x2 x3_2 S h_i1 hz
      · refine g_iconst C 31 (0 : Int32) ci_0 dX5_hasSetsBehind_30 rfl ?_
        exact g_zretc C hr (by decide) dX5_hasSetsBehind_31 hz
set_option maxRecDepth 20000 in
theorem t_X5_hasSetsBehind {p : Program} {l : Launch} {e : Env} {s : State} {m : MethodId} {args : Array Value} {below : List Frame} {meth : Method} {c : Code} {D : va_G} {cy : Nat → ClassId} {ad : Nat → Nat} {n : Nat} {A : Nat → Prop} (C : gC p s m args meth c cX5_hasSetsBehind 4 RX5 D cy ad n A) (hr : meth.sig.returnType = (some .boolean)) {z : Int32 × Sg} {S : Sg} {i1 : Nat} {x2 : Int32} (h_i1 : okM n i1 = true) (hz : f_X5_hasSetsBehind i1 x2 S = some z) : gW p l e rm_X5_hasSetsBehind s m args below meth c D cy ad n A 4 0 0 (MQ below (gQ D cy ad n A (some (.int z.1)) z.2) args s 0 0 A) S 0 [(0, .ref (ad 12)), (1, .ref (ad i1)), (2, .int x2)] [] := by
  unfold f_X5_hasSetsBehind at hz
  refine g_iconst C 1 (0 : Int32) ci_0 dX5_hasSetsBehind_0 rfl ?_
  refine g_istore_n C 2 (i := 3) [1, 2, 3, 0] (fun x3_1 => [(0, .ref (ad 12)), (1, .ref (ad i1)), (2, .int x2), (3, .int x3_1)]) dX5_hasSetsBehind_1 rfl rfl (by decide) (fun x3_1 => rfl) hz (fun x3_1 hz => ?_)
  exact (t_X5_hasSetsBehind_L2 C hr fu) i1 x2 x3_1 S h_i1 hz
theorem c_X5_hasSetsBehind (l : Launch) (D : va_G) (cy : Nat → ClassId) (ad : Nat → Nat) (n : Nat) (S : Sg) (sz : Nat) (i1 : Nat) (x2 : Int32) (z : Int32 × Sg) (h_i1 : okM n i1 = true) (hz : f_X5_hasSetsBehind i1 x2 S = some z) : Met l yX5_hasSetsBehind (.code yX5_hasSetsBehind cX5_hasSetsBehind 4 (some .boolean) :: wsAll) rm_X5_hasSetsBehind (gPc D cy ad n S sz [.ref (ad 12), .ref (ad i1), .int x2]) (gQ D cy ad n (va_A (wW cy ad n S) sz) (some (.int z.1)) z.2) 0 0 (va_A (wW cy ad n S) sz) := by
  refine gMet (lv := [(0, .ref (ad 12)), (1, .ref (ad i1)), (2, .int x2)]) (by decide) (Nat.le_of_ble_eq_true rfl) rfl ?_
  intro p e s m args below meth c A hA hr C
  exact t_X5_hasSetsBehind C hr h_i1 hz
def rm_X5_stateBehind : Room := { frames := 1, cells := 0, slots := 0, locals := 23 }
theorem wl_5_83 : Cond.methodLink RX5 83 yX5_hasSetsBehind ∈ wsAll := wA 461 (by decide +kernel) (by decide +kernel)
theorem wi_X5_hasSetsBehind : Cond.instanceMethod yX5_hasSetsBehind ∈ wsAll := wA 463 (by decide +kernel) (by decide +kernel)
theorem we_X5_hasSetsBehind : Cond.selects RX5 yX5_hasSetsBehind yX5_hasSetsBehind ∈ wsAll := wAp 31 (by decide +kernel) (by decide +kernel)
theorem wo_X5_hasSetsBehind : Cond.code yX5_hasSetsBehind cX5_hasSetsBehind 4 (some .boolean) ∈ wsAll := wA 464 (by decide +kernel) (by decide +kernel)
theorem cl_5_83 {p : Program} {l : Launch} {e : Env} {R : Room} {s : State} {m : MethodId} {args : Array Value} {below : List Frame} {meth : Method} {c : Code} {cc : ByteArray} {nL : Nat} {D : va_G} {cy : Nat → ClassId} {ad : Nat → Nat} {n : Nat} {A : Nat → Prop} {mc ms : Nat} {Q : State → Prop} {S : Sg} {pc : Nat} {lv : List (Nat × Value)} {st : List Value} {ζ : Type} {z : ζ} (C : gC p s m args meth c cc nL RX5 D cy ad n A) (nx : Nat) {i1 : Nat} {x2 : Int32} (h_i1 : okM n i1 = true) (hR : Room.frames rm_X5_hasSetsBehind + 1 ≤ R.frames ∧ 8 + (4 + 11) + Room.locals rm_X5_hasSetsBehind ≤ R.locals) (hcm : mc ≤ R.cells ∧ ms ≤ R.slots) (hrest : (st.map fun v => v.category).sum ≤ 8) (hd : decode cc pc = .ok (.invokevirtual 83, 3)) (hn : pc + 3 = nx) {K : Int32 → Sg → Option ζ} (hz : bd2 (f_X5_hasSetsBehind i1 x2 S) K = some z) (kk : ∀ r S', K r S' = some z → gW p l e R s m args below meth c D cy ad n A nL mc ms Q S' nx lv (.int r :: st)) : gW p l e R s m args below meth c D cy ad n A nL mc ms Q S pc lv (.int x2 :: .ref (ad i1) :: .ref (ad 12) :: st) := by
  obtain ⟨q, hq, hk⟩ := bd2_s hz
  exact g_callV C (i := 12) (ci := 5) (Cn := RX5) (T := TX5) (N := 4) (y := yX5_hasSetsBehind) (rm := rm_X5_hasSetsBehind) (As := [.ref (ad i1), .int x2]) (rest := st) (na := 2) (fun sz => c_X5_hasSetsBehind l D cy ad n S sz i1 x2 q h_i1 hq) ha_12 rfl rfl wl_5_83 wi_X5_hasSetsBehind we_X5_hasSetsBehind wz_5 wo_X5_hasSetsBehind (by decide +kernel) rfl rfl hR hcm rfl hrest hn hd (kk q.1 q.2 hk)
set_option maxRecDepth 20000 in
theorem t_X5_stateBehind_L16 {p : Program} {l : Launch} {e : Env} {s : State} {m : MethodId} {args : Array Value} {below : List Frame} {meth : Method} {c : Code} {D : va_G} {cy : Nat → ClassId} {ad : Nat → Nat} {n : Nat} {A : Nat → Prop} (C : gC p s m args meth c cX5_stateBehind 4 RX5 D cy ad n A) (hr : meth.sig.returnType = (some .int)) {z : Int32 × Sg} : ∀ (fl : Nat) (i1 : Nat) (x2 : Int32) (x3 : Int32) (S : Sg), okM n i1 = true → f_X5_stateBehind_L16 fl i1 x2 x3 S = some z → gW p l e rm_X5_stateBehind s m args below meth c D cy ad n A 4 0 0 (MQ below (gQ D cy ad n A (some (.int z.1)) z.2) args s 0 0 A) S 16 [(0, .ref (ad 12)), (1, .ref (ad i1)), (2, .int x2), (3, .int x3)] [] := by
  intro fl
  induction fl with
  | zero =>
    intro i1 x2 x3 S h_i1 hz
    rw [f_X5_stateBehind_L16] at hz
    cases hz
  | succ fl ih =>
    intro i1 x2 x3 S h_i1 hz
    rw [f_X5_stateBehind_L16] at hz
    refine g_iload_n C 17 3 rfl dX5_stateBehind_16 rfl ?_
    refine g_sipush C 20 (150 : Int32) cs_150 dX5_stateBehind_17 rfl ?_
    refine g_icmp_ge C 51 23 dX5_stateBehind_20 rfl rfl hz (fun hz => ?_) (fun hz => ?_)
    · refine g_aload_n C 52 1 rfl dX5_stateBehind_51 rfl ?_
      refine gf_5_24 C 55 h_i1 dX5_stateBehind_52 rfl ?_
      exact g_iret C hr dX5_stateBehind_55 hz
    · refine g_iload_n C 24 2 rfl dX5_stateBehind_23 rfl ?_
      refine g_if_le C 51 27 dX5_stateBehind_24 rfl rfl hz (fun hz => ?_) (fun hz => ?_)
      · refine g_aload_n C 52 1 rfl dX5_stateBehind_51 rfl ?_
        refine gf_5_24 C 55 h_i1 dX5_stateBehind_52 rfl ?_
        exact g_iret C hr dX5_stateBehind_55 hz
      · refine g_aload_n C 28 0 rfl dX5_stateBehind_27 rfl ?_
        refine g_aload_n C 29 1 rfl dX5_stateBehind_28 rfl ?_
        refine g_iload_n C 30 2 rfl dX5_stateBehind_29 rfl ?_
        refine cl_5_83 C 33 h_i1 ⟨Nat.le_of_ble_eq_true rfl, Nat.le_of_ble_eq_true rfl⟩ ⟨Nat.zero_le _, Nat.zero_le _⟩ (Nat.le_of_ble_eq_true rfl) dX5_stateBehind_30 rfl hz (fun r_6 S_5 hz => ?_)
        refine g_if_eq C 38 36 dX5_stateBehind_33 rfl rfl hz (fun hz => ?_) (fun hz => ?_)
        · refine g_aload_n C 39 0 rfl dX5_stateBehind_38 rfl ?_
          refine gf_5_21 C 42 dX5_stateBehind_39 rfl ?_
          refine g_iload_n C 43 2 rfl dX5_stateBehind_42 rfl ?_
          refine g_iald C 44 ha_16 dX5_stateBehind_43 rfl hz (fun hz => ?_)
          refine g_istore_n C 45 (i := 2) [1, 2, 0, 3] (fun x2_7 => [(0, .ref (ad 12)), (1, .ref (ad i1)), (2, .int x2_7), (3, .int x3)]) dX5_stateBehind_44 rfl rfl (by decide) (fun x2_7 => rfl) hz (fun x2_7 hz => ?_)
          refine g_iinc C 48 3 [1, 2, 3, 0] (1 : Int32) ci_1 (fun x3_8 => [(0, .ref (ad 12)), (1, .ref (ad i1)), (2, .int x2_7), (3, .int x3_8)]) dX5_stateBehind_45 rfl rfl (by decide) (fun x3_8 => rfl) hz (fun x3_8 hz => ?_)
          refine g_goto C 16 dX5_stateBehind_48 rfl ?_
          exact ih i1 x2_7 x3_8 S_5 h_i1 hz
        · refine g_iload_n C 37 2 rfl dX5_stateBehind_36 rfl ?_
          exact g_iret C hr dX5_stateBehind_37 hz
set_option maxRecDepth 20000 in
theorem t_X5_stateBehind {p : Program} {l : Launch} {e : Env} {s : State} {m : MethodId} {args : Array Value} {below : List Frame} {meth : Method} {c : Code} {D : va_G} {cy : Nat → ClassId} {ad : Nat → Nat} {n : Nat} {A : Nat → Prop} (C : gC p s m args meth c cX5_stateBehind 4 RX5 D cy ad n A) (hr : meth.sig.returnType = (some .int)) {z : Int32 × Sg} {S : Sg} {i1 : Nat} (h_i1 : okM n i1 = true) (hz : f_X5_stateBehind i1 S = some z) : gW p l e rm_X5_stateBehind s m args below meth c D cy ad n A 4 0 0 (MQ below (gQ D cy ad n A (some (.int z.1)) z.2) args s 0 0 A) S 0 [(0, .ref (ad 12)), (1, .ref (ad i1))] [] := by
  unfold f_X5_stateBehind at hz
  refine g_aload_n C 1 0 rfl dX5_stateBehind_0 rfl ?_
  refine gf_5_18 C 4 dX5_stateBehind_1 rfl ?_
  refine g_aload_n C 5 0 rfl dX5_stateBehind_4 rfl ?_
  refine g_aload_n C 6 1 rfl dX5_stateBehind_5 rfl ?_
  refine gf_5_35 C 9 h_i1 dX5_stateBehind_6 rfl ?_
  refine cl_5_79 C 12 ⟨Nat.le_of_ble_eq_true rfl, Nat.le_of_ble_eq_true rfl⟩ ⟨Nat.zero_le _, Nat.zero_le _⟩ (Nat.le_of_ble_eq_true rfl) dX5_stateBehind_9 rfl hz (fun r_2 S_1 hz => ?_)
  refine g_iald C 13 ha_15 dX5_stateBehind_12 rfl hz (fun hz => ?_)
  refine g_istore_n C 14 (i := 2) [1, 2, 0] (fun x2_3 => [(0, .ref (ad 12)), (1, .ref (ad i1)), (2, .int x2_3)]) dX5_stateBehind_13 rfl rfl (by decide) (fun x2_3 => rfl) hz (fun x2_3 hz => ?_)
  refine g_iconst C 15 (0 : Int32) ci_0 dX5_stateBehind_14 rfl ?_
  refine g_istore_n C 16 (i := 3) [1, 2, 3, 0] (fun x3_4 => [(0, .ref (ad 12)), (1, .ref (ad i1)), (2, .int x2_3), (3, .int x3_4)]) dX5_stateBehind_15 rfl rfl (by decide) (fun x3_4 => rfl) hz (fun x3_4 hz => ?_)
  exact (t_X5_stateBehind_L16 C hr fu) i1 x2_3 x3_4 S_1 h_i1 hz
theorem c_X5_stateBehind (l : Launch) (D : va_G) (cy : Nat → ClassId) (ad : Nat → Nat) (n : Nat) (S : Sg) (sz : Nat) (i1 : Nat) (z : Int32 × Sg) (h_i1 : okM n i1 = true) (hz : f_X5_stateBehind i1 S = some z) : Met l yX5_stateBehind (.code yX5_stateBehind cX5_stateBehind 4 (some .int) :: wsAll) rm_X5_stateBehind (gPc D cy ad n S sz [.ref (ad 12), .ref (ad i1)]) (gQ D cy ad n (va_A (wW cy ad n S) sz) (some (.int z.1)) z.2) 0 0 (va_A (wW cy ad n S) sz) := by
  refine gMet (lv := [(0, .ref (ad 12)), (1, .ref (ad i1))]) (by decide) (Nat.le_of_ble_eq_true rfl) rfl ?_
  intro p e s m args below meth c A hA hr C
  exact t_X5_stateBehind C hr h_i1 hz
def rm_X5_make : Room := { frames := 2, cells := 0, slots := 0, locals := 50 }
theorem wl_5_38 : Cond.methodLinkNest RX5 38 yX7_spotsInAll "WordMachines" ∈ tables_1 := List.mem_of_getElem? (i := 428) (by decide +kernel)
theorem wi_X7_spotsInAll : Cond.instanceMethod yX7_spotsInAll ∈ wsAll := wA 430 (by decide +kernel) (by decide +kernel)
theorem we_X7_spotsInAll : Cond.selects RX7 yX7_spotsInAll yX7_spotsInAll ∈ wsAll := wAp 23 (by decide +kernel) (by decide +kernel)
theorem wo_X7_spotsInAll : Cond.code yX7_spotsInAll cX7_spotsInAll 3 (some .int) ∈ wsAll := wA 431 (by decide +kernel) (by decide +kernel)
theorem cl_5_38 {p : Program} {l : Launch} {e : Env} {R : Room} {s : State} {m : MethodId} {args : Array Value} {below : List Frame} {meth : Method} {c : Code} {cc : ByteArray} {nL : Nat} {D : va_G} {cy : Nat → ClassId} {ad : Nat → Nat} {n : Nat} {A : Nat → Prop} {mc ms : Nat} {Q : State → Prop} {S : Sg} {pc : Nat} {lv : List (Nat × Value)} {st : List Value} {ζ : Type} {z : ζ} (C : gC p s m args meth c cc nL RX5 D cy ad n A) (nx : Nat) (hR : Room.frames rm_X7_spotsInAll + 1 ≤ R.frames ∧ 8 + (3 + 11) + Room.locals rm_X7_spotsInAll ≤ R.locals) (hcm : mc ≤ R.cells ∧ ms ≤ R.slots) (hrest : (st.map fun v => v.category).sum ≤ 8) (hd : decode cc pc = .ok (.invokevirtual 38, 3)) (hn : pc + 3 = nx) {K : Int32 → Sg → Option ζ} (hz : bd2 (f_X7_spotsInAll S) K = some z) (kk : ∀ r S', K r S' = some z → gW p l e R s m args below meth c D cy ad n A nL mc ms Q S' nx lv (.int r :: st)) : gW p l e R s m args below meth c D cy ad n A nL mc ms Q S pc lv (.ref (ad 5) :: st) := by
  obtain ⟨q, hq, hk⟩ := bd2_s hz
  exact g_callVN C (i := 5) (ci := 7) (Cn := RX7) (T := TX7) (N := 8) (y := yX7_spotsInAll) (rm := rm_X7_spotsInAll) (As := []) (rest := st) (na := 0) (fun sz => c_X7_spotsInAll l D cy ad n S sz  q hq) ha_5 rfl rfl wl_5_38 wi_X7_spotsInAll we_X7_spotsInAll wz_7 wo_X7_spotsInAll (by decide +kernel) rfl rfl hR hcm rfl hrest hn hd (kk q.1 q.2 hk)
theorem wl_5_44 : Cond.methodLink RX5 44 yX5_beginEmpty ∈ wsAll := wA 432 (by decide +kernel) (by decide +kernel)
theorem wi_X5_beginEmpty : Cond.instanceMethod yX5_beginEmpty ∈ wsAll := wA 434 (by decide +kernel) (by decide +kernel)
theorem we_X5_beginEmpty : Cond.selects RX5 yX5_beginEmpty yX5_beginEmpty ∈ wsAll := wAp 24 (by decide +kernel) (by decide +kernel)
theorem wo_X5_beginEmpty : Cond.code yX5_beginEmpty cX5_beginEmpty 2 none ∈ wsAll := wA 435 (by decide +kernel) (by decide +kernel)
theorem cl_5_44 {p : Program} {l : Launch} {e : Env} {R : Room} {s : State} {m : MethodId} {args : Array Value} {below : List Frame} {meth : Method} {c : Code} {cc : ByteArray} {nL : Nat} {D : va_G} {cy : Nat → ClassId} {ad : Nat → Nat} {n : Nat} {A : Nat → Prop} {mc ms : Nat} {Q : State → Prop} {S : Sg} {pc : Nat} {lv : List (Nat × Value)} {st : List Value} {ζ : Type} {z : ζ} (C : gC p s m args meth c cc nL RX5 D cy ad n A) (nx : Nat) (hR : Room.frames rm_X5_beginEmpty + 1 ≤ R.frames ∧ 8 + (2 + 11) + Room.locals rm_X5_beginEmpty ≤ R.locals) (hcm : mc ≤ R.cells ∧ ms ≤ R.slots) (hrest : (st.map fun v => v.category).sum ≤ 8) (hd : decode cc pc = .ok (.invokevirtual 44, 3)) (hn : pc + 3 = nx) {K : Sg → Option ζ} (hz : bd (f_X5_beginEmpty S) K = some z) (kk : ∀ S', K S' = some z → gW p l e R s m args below meth c D cy ad n A nL mc ms Q S' nx lv st) : gW p l e R s m args below meth c D cy ad n A nL mc ms Q S pc lv (.ref (ad 12) :: st) := by
  obtain ⟨q, hq, hk⟩ := bd_s hz
  exact g_callV C (i := 12) (ci := 5) (Cn := RX5) (T := TX5) (N := 4) (y := yX5_beginEmpty) (rm := rm_X5_beginEmpty) (As := []) (rest := st) (na := 0) (fun sz => c_X5_beginEmpty l D cy ad n S sz  q hq) ha_12 rfl rfl wl_5_44 wi_X5_beginEmpty we_X5_beginEmpty wz_5 wo_X5_beginEmpty (by decide +kernel) rfl rfl hR hcm rfl hrest hn hd (kk q hk)
theorem wl_5_47 : Cond.methodLink RX5 47 yX5_addState ∈ wsAll := wA 436 (by decide +kernel) (by decide +kernel)
theorem wi_X5_addState : Cond.instanceMethod yX5_addState ∈ wsAll := wA 438 (by decide +kernel) (by decide +kernel)
theorem we_X5_addState : Cond.selects RX5 yX5_addState yX5_addState ∈ wsAll := wAp 25 (by decide +kernel) (by decide +kernel)
theorem wo_X5_addState : Cond.code yX5_addState cX5_addState 8 (some .boolean) ∈ wsAll := wA 439 (by decide +kernel) (by decide +kernel)
theorem cl_5_47 {p : Program} {l : Launch} {e : Env} {R : Room} {s : State} {m : MethodId} {args : Array Value} {below : List Frame} {meth : Method} {c : Code} {cc : ByteArray} {nL : Nat} {D : va_G} {cy : Nat → ClassId} {ad : Nat → Nat} {n : Nat} {A : Nat → Prop} {mc ms : Nat} {Q : State → Prop} {S : Sg} {pc : Nat} {lv : List (Nat × Value)} {st : List Value} {ζ : Type} {z : ζ} (C : gC p s m args meth c cc nL RX5 D cy ad n A) (nx : Nat) {i2 : Nat} {x3 : Int32} (h_i2 : okM n i2 = true) (hR : Room.frames rm_X5_addState + 1 ≤ R.frames ∧ 8 + (8 + 11) + Room.locals rm_X5_addState ≤ R.locals) (hcm : mc ≤ R.cells ∧ ms ≤ R.slots) (hrest : (st.map fun v => v.category).sum ≤ 8) (hd : decode cc pc = .ok (.invokevirtual 47, 3)) (hn : pc + 3 = nx) {K : Int32 → Sg → Option ζ} (hz : bd2 (f_X5_addState i2 x3 S) K = some z) (kk : ∀ r S', K r S' = some z → gW p l e R s m args below meth c D cy ad n A nL mc ms Q S' nx lv (.int r :: st)) : gW p l e R s m args below meth c D cy ad n A nL mc ms Q S pc lv (.int x3 :: .ref (ad i2) :: .ref (ad 5) :: .ref (ad 12) :: st) := by
  obtain ⟨q, hq, hk⟩ := bd2_s hz
  exact g_callV C (i := 12) (ci := 5) (Cn := RX5) (T := TX5) (N := 4) (y := yX5_addState) (rm := rm_X5_addState) (As := [.ref (ad 5), .ref (ad i2), .int x3]) (rest := st) (na := 3) (fun sz => c_X5_addState l D cy ad n S sz i2 x3 q h_i2 hq) ha_12 rfl rfl wl_5_47 wi_X5_addState we_X5_addState wz_5 wo_X5_addState (by decide +kernel) rfl rfl hR hcm rfl hrest hn hd (kk q.1 q.2 hk)
theorem wl_5_51 : Cond.methodLink RX5 51 yX5_setReach ∈ wsAll := wA 445 (by decide +kernel) (by decide +kernel)
theorem wi_X5_setReach : Cond.instanceMethod yX5_setReach ∈ wsAll := wA 447 (by decide +kernel) (by decide +kernel)
theorem we_X5_setReach : Cond.selects RX5 yX5_setReach yX5_setReach ∈ wsAll := wAp 27 (by decide +kernel) (by decide +kernel)
theorem wo_X5_setReach : Cond.code yX5_setReach cX5_setReach 5 none ∈ wsAll := wA 448 (by decide +kernel) (by decide +kernel)
theorem cl_5_51 {p : Program} {l : Launch} {e : Env} {R : Room} {s : State} {m : MethodId} {args : Array Value} {below : List Frame} {meth : Method} {c : Code} {cc : ByteArray} {nL : Nat} {D : va_G} {cy : Nat → ClassId} {ad : Nat → Nat} {n : Nat} {A : Nat → Prop} {mc ms : Nat} {Q : State → Prop} {S : Sg} {pc : Nat} {lv : List (Nat × Value)} {st : List Value} {ζ : Type} {z : ζ} (C : gC p s m args meth c cc nL RX5 D cy ad n A) (nx : Nat) {i2 : Nat} {x3 : Int32} (h_i2 : okM n i2 = true) (hR : Room.frames rm_X5_setReach + 1 ≤ R.frames ∧ 8 + (5 + 11) + Room.locals rm_X5_setReach ≤ R.locals) (hcm : mc ≤ R.cells ∧ ms ≤ R.slots) (hrest : (st.map fun v => v.category).sum ≤ 8) (hd : decode cc pc = .ok (.invokevirtual 51, 3)) (hn : pc + 3 = nx) {K : Sg → Option ζ} (hz : bd (f_X5_setReach i2 x3 S) K = some z) (kk : ∀ S', K S' = some z → gW p l e R s m args below meth c D cy ad n A nL mc ms Q S' nx lv st) : gW p l e R s m args below meth c D cy ad n A nL mc ms Q S pc lv (.int x3 :: .ref (ad i2) :: .ref (ad 5) :: .ref (ad 12) :: st) := by
  obtain ⟨q, hq, hk⟩ := bd_s hz
  exact g_callV C (i := 12) (ci := 5) (Cn := RX5) (T := TX5) (N := 4) (y := yX5_setReach) (rm := rm_X5_setReach) (As := [.ref (ad 5), .ref (ad i2), .int x3]) (rest := st) (na := 3) (fun sz => c_X5_setReach l D cy ad n S sz i2 x3 q h_i2 hq) ha_12 rfl rfl wl_5_51 wi_X5_setReach we_X5_setReach wz_5 wo_X5_setReach (by decide +kernel) rfl rfl hR hcm rfl hrest hn hd (kk q hk)
theorem wl_5_55 : Cond.methodLink RX5 55 yX5_setBehind ∈ wsAll := wA 453 (by decide +kernel) (by decide +kernel)
theorem wi_X5_setBehind : Cond.instanceMethod yX5_setBehind ∈ wsAll := wA 455 (by decide +kernel) (by decide +kernel)
theorem we_X5_setBehind : Cond.selects RX5 yX5_setBehind yX5_setBehind ∈ wsAll := wAp 29 (by decide +kernel) (by decide +kernel)
theorem wo_X5_setBehind : Cond.code yX5_setBehind cX5_setBehind 4 none ∈ wsAll := wA 456 (by decide +kernel) (by decide +kernel)
theorem cl_5_55 {p : Program} {l : Launch} {e : Env} {R : Room} {s : State} {m : MethodId} {args : Array Value} {below : List Frame} {meth : Method} {c : Code} {cc : ByteArray} {nL : Nat} {D : va_G} {cy : Nat → ClassId} {ad : Nat → Nat} {n : Nat} {A : Nat → Prop} {mc ms : Nat} {Q : State → Prop} {S : Sg} {pc : Nat} {lv : List (Nat × Value)} {st : List Value} {ζ : Type} {z : ζ} (C : gC p s m args meth c cc nL RX5 D cy ad n A) (nx : Nat) {x2 : Int32} (hR : Room.frames rm_X5_setBehind + 1 ≤ R.frames ∧ 8 + (4 + 11) + Room.locals rm_X5_setBehind ≤ R.locals) (hcm : mc ≤ R.cells ∧ ms ≤ R.slots) (hrest : (st.map fun v => v.category).sum ≤ 8) (hd : decode cc pc = .ok (.invokevirtual 55, 3)) (hn : pc + 3 = nx) {K : Sg → Option ζ} (hz : bd (f_X5_setBehind x2 S) K = some z) (kk : ∀ S', K S' = some z → gW p l e R s m args below meth c D cy ad n A nL mc ms Q S' nx lv st) : gW p l e R s m args below meth c D cy ad n A nL mc ms Q S pc lv (.int x2 :: .ref (ad 5) :: .ref (ad 12) :: st) := by
  obtain ⟨q, hq, hk⟩ := bd_s hz
  exact g_callV C (i := 12) (ci := 5) (Cn := RX5) (T := TX5) (N := 4) (y := yX5_setBehind) (rm := rm_X5_setBehind) (As := [.ref (ad 5), .int x2]) (rest := st) (na := 2) (fun sz => c_X5_setBehind l D cy ad n S sz x2 q hq) ha_12 rfl rfl wl_5_55 wi_X5_setBehind we_X5_setBehind wz_5 wo_X5_setBehind (by decide +kernel) rfl rfl hR hcm rfl hrest hn hd (kk q hk)
theorem wl_5_59 : Cond.methodLink RX5 59 yX5_stateBehind ∈ wsAll := wA 457 (by decide +kernel) (by decide +kernel)
theorem wi_X5_stateBehind : Cond.instanceMethod yX5_stateBehind ∈ wsAll := wA 459 (by decide +kernel) (by decide +kernel)
theorem we_X5_stateBehind : Cond.selects RX5 yX5_stateBehind yX5_stateBehind ∈ wsAll := wAp 30 (by decide +kernel) (by decide +kernel)
theorem wo_X5_stateBehind : Cond.code yX5_stateBehind cX5_stateBehind 4 (some .int) ∈ wsAll := wA 460 (by decide +kernel) (by decide +kernel)
theorem cl_5_59 {p : Program} {l : Launch} {e : Env} {R : Room} {s : State} {m : MethodId} {args : Array Value} {below : List Frame} {meth : Method} {c : Code} {cc : ByteArray} {nL : Nat} {D : va_G} {cy : Nat → ClassId} {ad : Nat → Nat} {n : Nat} {A : Nat → Prop} {mc ms : Nat} {Q : State → Prop} {S : Sg} {pc : Nat} {lv : List (Nat × Value)} {st : List Value} {ζ : Type} {z : ζ} (C : gC p s m args meth c cc nL RX5 D cy ad n A) (nx : Nat) {i1 : Nat} (h_i1 : okM n i1 = true) (hR : Room.frames rm_X5_stateBehind + 1 ≤ R.frames ∧ 8 + (4 + 11) + Room.locals rm_X5_stateBehind ≤ R.locals) (hcm : mc ≤ R.cells ∧ ms ≤ R.slots) (hrest : (st.map fun v => v.category).sum ≤ 8) (hd : decode cc pc = .ok (.invokevirtual 59, 3)) (hn : pc + 3 = nx) {K : Int32 → Sg → Option ζ} (hz : bd2 (f_X5_stateBehind i1 S) K = some z) (kk : ∀ r S', K r S' = some z → gW p l e R s m args below meth c D cy ad n A nL mc ms Q S' nx lv (.int r :: st)) : gW p l e R s m args below meth c D cy ad n A nL mc ms Q S pc lv (.ref (ad i1) :: .ref (ad 12) :: st) := by
  obtain ⟨q, hq, hk⟩ := bd2_s hz
  exact g_callV C (i := 12) (ci := 5) (Cn := RX5) (T := TX5) (N := 4) (y := yX5_stateBehind) (rm := rm_X5_stateBehind) (As := [.ref (ad i1)]) (rest := st) (na := 1) (fun sz => c_X5_stateBehind l D cy ad n S sz i1 q h_i1 hq) ha_12 rfl rfl wl_5_59 wi_X5_stateBehind we_X5_stateBehind wz_5 wo_X5_stateBehind (by decide +kernel) rfl rfl hR hcm rfl hrest hn hd (kk q.1 q.2 hk)
set_option maxRecDepth 20000 in
theorem t_X5_make_L60 {p : Program} {l : Launch} {e : Env} {s : State} {m : MethodId} {args : Array Value} {below : List Frame} {meth : Method} {c : Code} {D : va_G} {cy : Nat → ClassId} {ad : Nat → Nat} {n : Nat} {A : Nat → Prop} (C : gC p s m args meth c cX5_make 7 RX5 D cy ad n A) (hr : meth.sig.returnType = (some .boolean)) {z : Int32 × Sg} {k35 : Nat → Int32 → Sg → Option (Int32 × Sg)} (hk35 : ∀ (i2 : Nat) (x3 : Int32) (S : Sg), okM n i2 = true → k35 i2 x3 S = some z → gW p l e rm_X5_make s m args below meth c D cy ad n A 7 0 0 (MQ below (gQ D cy ad n A (some (.int z.1)) z.2) args s 0 0 A) S 35 [(0, .ref (ad 12)), (1, .ref (ad 5)), (2, .ref (ad i2)), (3, .int x3)] []) : ∀ (fl : Nat) (i2 : Nat) (x3 : Int32) (x4 : Int32) (S : Sg), okM n i2 = true → f_X5_make_L60 k35 fl i2 x3 x4 S = some z → gW p l e rm_X5_make s m args below meth c D cy ad n A 7 0 0 (MQ below (gQ D cy ad n A (some (.int z.1)) z.2) args s 0 0 A) S 60 [(0, .ref (ad 12)), (1, .ref (ad 5)), (2, .ref (ad i2)), (3, .int x3), (4, .int x4)] [] := by
  intro fl
  induction fl with
  | zero =>
    intro i2 x3 x4 S h_i2 hz
    rw [f_X5_make_L60] at hz
    cases hz
  | succ fl ih =>
    intro i2 x3 x4 S h_i2 hz
    rw [f_X5_make_L60] at hz
    refine g_iload C 62 4 rfl dX5_make_60 rfl ?_
    refine g_iconst C 63 (4 : Int32) ci_4 dX5_make_62 rfl ?_
    refine g_icmp_ge C 125 66 dX5_make_63 rfl rfl hz (fun hz => ?_) (fun hz => ?_)
    · refine g_iinc C 128 3 [1, 2, 3, 0] (1 : Int32) ci_1 (fun x3_12 => [(0, .ref (ad 12)), (1, .ref (ad 5)), (2, .ref (ad i2)), (3, .int x3_12)]) dX5_make_125 rfl rfl (by decide) (fun x3_12 => rfl) hz (fun x3_12 hz => ?_)
      refine g_goto C 35 dX5_make_128 rfl ?_
      exact hk35 i2 x3_12 S h_i2 hz
    · refine g_iload_n C 67 3 rfl dX5_make_66 rfl ?_
      refine g_iconst C 68 (4 : Int32) ci_4 dX5_make_67 rfl ?_
      refine g_imul C 69 dX5_make_68 rfl ?_
      refine g_iload C 71 4 rfl dX5_make_69 rfl ?_
      refine g_iadd C 72 dX5_make_71 rfl ?_
      refine g_istore C 74 (i := 5) [1, 2, 3, 4, 5, 0] (fun x5_13 => [(0, .ref (ad 12)), (1, .ref (ad 5)), (2, .ref (ad i2)), (3, .int x3), (4, .int x4), (5, .int x5_13)]) dX5_make_72 rfl (by decide) (fun x5_13 => rfl) hz (fun x5_13 hz => ?_)
      refine g_aload_n C 75 0 rfl dX5_make_74 rfl ?_
      refine g_aload_n C 76 1 rfl dX5_make_75 rfl ?_
      refine g_iload C 78 4 rfl dX5_make_76 rfl ?_
      refine cl_5_55 C 81 ⟨Nat.le_of_ble_eq_true rfl, Nat.le_of_ble_eq_true rfl⟩ ⟨Nat.zero_le _, Nat.zero_le _⟩ (Nat.le_of_ble_eq_true rfl) dX5_make_78 rfl hz (fun S_14 hz => ?_)
      refine g_aload_n C 82 0 rfl dX5_make_81 rfl ?_
      refine g_aload_n C 83 2 rfl dX5_make_82 rfl ?_
      refine cl_5_59 C 86 h_i2 ⟨Nat.le_of_ble_eq_true rfl, Nat.le_of_ble_eq_true rfl⟩ ⟨Nat.zero_le _, Nat.zero_le _⟩ (Nat.le_of_ble_eq_true rfl) dX5_make_83 rfl hz (fun r_16 S_15 hz => ?_)
      refine g_istore C 88 (i := 6) [1, 2, 3, 4, 5, 6, 0] (fun x6_17 => [(0, .ref (ad 12)), (1, .ref (ad 5)), (2, .ref (ad i2)), (3, .int x3), (4, .int x4), (5, .int x5_13), (6, .int x6_17)]) dX5_make_86 rfl (by decide) (fun x6_17 => rfl) hz (fun x6_17 hz => ?_)
      refine g_iload C 90 6 rfl dX5_make_88 rfl ?_
      refine g_aload_n C 91 2 rfl dX5_make_90 rfl ?_
      refine gf_5_24 C 94 h_i2 dX5_make_91 rfl ?_
      refine g_icmp_ne C 110 97 dX5_make_94 rfl rfl hz (fun hz => ?_) (fun hz => ?_)
      · refine g_aload_n C 111 2 rfl dX5_make_110 rfl ?_
        refine gf_5_63 C 114 h_i2 dX5_make_111 rfl ?_
        refine g_iload C 116 5 rfl dX5_make_114 rfl ?_
        refine g_iload C 118 6 rfl dX5_make_116 rfl ?_
        refine g_iast C 119 (has_m h_i2 1 (by decide)) dX5_make_118 rfl hz (fun S_18 hz => ?_)
        refine g_iinc C 122 4 [1, 2, 3, 4, 0] (1 : Int32) ci_1 (fun x4_19 => [(0, .ref (ad 12)), (1, .ref (ad 5)), (2, .ref (ad i2)), (3, .int x3), (4, .int x4_19)]) dX5_make_119 rfl rfl (by decide) (fun x4_19 => rfl) hz (fun x4_19 hz => ?_)
        refine g_goto C 60 dX5_make_122 rfl ?_
        exact ih i2 x3 x4_19 S_18 h_i2 hz
      · refine g_aload_n C 98 0 rfl dX5_make_97 rfl ?_
        refine g_aload_n C 99 1 rfl dX5_make_98 rfl ?_
        refine g_aload_n C 100 2 rfl dX5_make_99 rfl ?_
        refine g_iload C 102 5 rfl dX5_make_100 rfl ?_
        refine cl_5_47 C 105 h_i2 ⟨Nat.le_of_ble_eq_true rfl, Nat.le_of_ble_eq_true rfl⟩ ⟨Nat.zero_le _, Nat.zero_le _⟩ (Nat.le_of_ble_eq_true rfl) dX5_make_102 rfl hz (fun r_21 S_20 hz => ?_)
        refine g_if_ne C 110 108 dX5_make_105 rfl rfl hz (fun hz => ?_) (fun hz => ?_)
        · refine g_aload_n C 111 2 rfl dX5_make_110 rfl ?_
          refine gf_5_63 C 114 h_i2 dX5_make_111 rfl ?_
          refine g_iload C 116 5 rfl dX5_make_114 rfl ?_
          refine g_iload C 118 6 rfl dX5_make_116 rfl ?_
          refine g_iast C 119 (has_m h_i2 1 (by decide)) dX5_make_118 rfl hz (fun S_22 hz => ?_)
          refine g_iinc C 122 4 [1, 2, 3, 4, 0] (1 : Int32) ci_1 (fun x4_23 => [(0, .ref (ad 12)), (1, .ref (ad 5)), (2, .ref (ad i2)), (3, .int x3), (4, .int x4_23)]) dX5_make_119 rfl rfl (by decide) (fun x4_23 => rfl) hz (fun x4_23 hz => ?_)
          refine g_goto C 60 dX5_make_122 rfl ?_
          exact ih i2 x3 x4_23 S_22 h_i2 hz
        · refine g_iconst C 109 (0 : Int32) ci_0 dX5_make_108 rfl ?_
          exact g_zretc C hr (by decide) dX5_make_109 hz
set_option maxRecDepth 20000 in
theorem t_X5_make_L35 {p : Program} {l : Launch} {e : Env} {s : State} {m : MethodId} {args : Array Value} {below : List Frame} {meth : Method} {c : Code} {D : va_G} {cy : Nat → ClassId} {ad : Nat → Nat} {n : Nat} {A : Nat → Prop} (C : gC p s m args meth c cX5_make 7 RX5 D cy ad n A) (hr : meth.sig.returnType = (some .boolean)) {z : Int32 × Sg} : ∀ (fl : Nat) (i2 : Nat) (x3 : Int32) (S : Sg), okM n i2 = true → f_X5_make_L35 fl i2 x3 S = some z → gW p l e rm_X5_make s m args below meth c D cy ad n A 7 0 0 (MQ below (gQ D cy ad n A (some (.int z.1)) z.2) args s 0 0 A) S 35 [(0, .ref (ad 12)), (1, .ref (ad 5)), (2, .ref (ad i2)), (3, .int x3)] [] := by
  intro fl
  induction fl with
  | zero =>
    intro i2 x3 S h_i2 hz
    rw [f_X5_make_L35] at hz
    cases hz
  | succ fl ih =>
    intro i2 x3 S h_i2 hz
    rw [f_X5_make_L35] at hz
    refine g_iload_n C 36 3 rfl dX5_make_35 rfl ?_
    refine g_aload_n C 37 2 rfl dX5_make_36 rfl ?_
    refine gf_5_24 C 40 h_i2 dX5_make_37 rfl ?_
    refine g_icmp_ge C 131 43 dX5_make_40 rfl rfl hz (fun hz => ?_) (fun hz => ?_)
    · refine g_iconst C 132 (1 : Int32) ci_1 dX5_make_131 rfl ?_
      exact g_zretc C hr (by decide) dX5_make_132 hz
    · refine g_iload_n C 44 3 rfl dX5_make_43 rfl ?_
      refine g_sipush C 47 (150 : Int32) cs_150 dX5_make_44 rfl ?_
      refine g_icmp_ge C 131 50 dX5_make_47 rfl rfl hz (fun hz => ?_) (fun hz => ?_)
      · refine g_iconst C 132 (1 : Int32) ci_1 dX5_make_131 rfl ?_
        exact g_zretc C hr (by decide) dX5_make_132 hz
      · refine g_aload_n C 51 0 rfl dX5_make_50 rfl ?_
        refine g_aload_n C 52 1 rfl dX5_make_51 rfl ?_
        refine g_aload_n C 53 2 rfl dX5_make_52 rfl ?_
        refine g_iload_n C 54 3 rfl dX5_make_53 rfl ?_
        refine cl_5_51 C 57 h_i2 ⟨Nat.le_of_ble_eq_true rfl, Nat.le_of_ble_eq_true rfl⟩ ⟨Nat.zero_le _, Nat.zero_le _⟩ (Nat.le_of_ble_eq_true rfl) dX5_make_54 rfl hz (fun S_10 hz => ?_)
        refine g_iconst C 58 (0 : Int32) ci_0 dX5_make_57 rfl ?_
        refine g_istore C 60 (i := 4) [1, 2, 3, 4, 0] (fun x4_11 => [(0, .ref (ad 12)), (1, .ref (ad 5)), (2, .ref (ad i2)), (3, .int x3), (4, .int x4_11)]) dX5_make_58 rfl (by decide) (fun x4_11 => rfl) hz (fun x4_11 hz => ?_)
        exact (t_X5_make_L60 C hr ih fu) i2 x3 x4_11 S_10 h_i2 hz
set_option maxRecDepth 20000 in
theorem t_X5_make {p : Program} {l : Launch} {e : Env} {s : State} {m : MethodId} {args : Array Value} {below : List Frame} {meth : Method} {c : Code} {D : va_G} {cy : Nat → ClassId} {ad : Nat → Nat} {n : Nat} {A : Nat → Prop} (C : gC p s m args meth c cX5_make 7 RX5 D cy ad n A) (hr : meth.sig.returnType = (some .boolean)) {z : Int32 × Sg} {S : Sg} {i2 : Nat} (h_i2 : okM n i2 = true) (hz : f_X5_make i2 S = some z) : gW p l e rm_X5_make s m args below meth c D cy ad n A 7 0 0 (MQ below (gQ D cy ad n A (some (.int z.1)) z.2) args s 0 0 A) S 0 [(0, .ref (ad 12)), (1, .ref (ad 5)), (2, .ref (ad i2))] [] := by
  unfold f_X5_make at hz
  refine g_aload_n C 1 2 rfl dX5_make_0 rfl ?_
  refine g_iconst C 2 (0 : Int32) ci_0 dX5_make_1 rfl ?_
  refine pf_5_24 C 5 h_i2 dX5_make_2 rfl hz (fun S_1 hz => ?_)
  refine g_aload_n C 6 2 rfl dX5_make_5 rfl ?_
  refine g_aload_n C 7 1 rfl dX5_make_6 rfl ?_
  refine gf_5_30 C 10 dX5_make_7 rfl ?_
  refine pf_5_35 C 13 h_i2 dX5_make_10 rfl hz (fun S_2 hz => ?_)
  refine g_aload_n C 14 2 rfl dX5_make_13 rfl ?_
  refine g_aload_n C 15 1 rfl dX5_make_14 rfl ?_
  refine cl_5_38 C 18 ⟨Nat.le_of_ble_eq_true rfl, Nat.le_of_ble_eq_true rfl⟩ ⟨Nat.zero_le _, Nat.zero_le _⟩ (Nat.le_of_ble_eq_true rfl) dX5_make_15 rfl hz (fun r_4 S_3 hz => ?_)
  refine pf_5_42 C 21 h_i2 dX5_make_18 rfl hz (fun S_5 hz => ?_)
  refine g_aload_n C 22 0 rfl dX5_make_21 rfl ?_
  refine cl_5_44 C 25 ⟨Nat.le_of_ble_eq_true rfl, Nat.le_of_ble_eq_true rfl⟩ ⟨Nat.zero_le _, Nat.zero_le _⟩ (Nat.le_of_ble_eq_true rfl) dX5_make_22 rfl hz (fun S_6 hz => ?_)
  refine g_aload_n C 26 0 rfl dX5_make_25 rfl ?_
  refine g_aload_n C 27 1 rfl dX5_make_26 rfl ?_
  refine g_aload_n C 28 2 rfl dX5_make_27 rfl ?_
  refine g_iconst C 29 (0 : Int32) ci_0 dX5_make_28 rfl ?_
  refine cl_5_47 C 32 h_i2 ⟨Nat.le_of_ble_eq_true rfl, Nat.le_of_ble_eq_true rfl⟩ ⟨Nat.zero_le _, Nat.zero_le _⟩ (Nat.le_of_ble_eq_true rfl) dX5_make_29 rfl hz (fun r_8 S_7 hz => ?_)
  refine g_pop C 33 rfl dX5_make_32 rfl ?_
  refine g_iconst C 34 (0 : Int32) ci_0 dX5_make_33 rfl ?_
  refine g_istore_n C 35 (i := 3) [1, 2, 3, 0] (fun x3_9 => [(0, .ref (ad 12)), (1, .ref (ad 5)), (2, .ref (ad i2)), (3, .int x3_9)]) dX5_make_34 rfl rfl (by decide) (fun x3_9 => rfl) hz (fun x3_9 hz => ?_)
  exact (t_X5_make_L35 C hr fu) i2 x3_9 S_7 h_i2 hz
theorem c_X5_make (l : Launch) (D : va_G) (cy : Nat → ClassId) (ad : Nat → Nat) (n : Nat) (S : Sg) (sz : Nat) (i2 : Nat) (z : Int32 × Sg) (h_i2 : okM n i2 = true) (hz : f_X5_make i2 S = some z) : Met l yX5_make (.code yX5_make cX5_make 7 (some .boolean) :: wsAll) rm_X5_make (gPc D cy ad n S sz [.ref (ad 12), .ref (ad 5), .ref (ad i2)]) (gQ D cy ad n (va_A (wW cy ad n S) sz) (some (.int z.1)) z.2) 0 0 (va_A (wW cy ad n S) sz) := by
  refine gMet (lv := [(0, .ref (ad 12)), (1, .ref (ad 5)), (2, .ref (ad i2))]) (by decide) (Nat.le_of_ble_eq_true rfl) rfl ?_
  intro p e s m args below meth c A hA hr C
  exact t_X5_make C hr h_i2 hz
