def rm_X10_find : Room := { frames := 0, cells := 0, slots := 0, locals := 0 }
set_option maxRecDepth 20000 in
theorem t_X10_find_L13 {p : Program} {l : Launch} {e : Env} {s : State} {m : MethodId} {args : Array Value} {below : List Frame} {meth : Method} {c : Code} {D : va_G} {cy : Nat → ClassId} {ad : Nat → Nat} {n : Nat} {A : Nat → Prop} (C : gC p s m args meth c cX10_find 6 RX10 D cy ad n A) (hr : meth.sig.returnType = (some .int)) {z : Int32 × Sg} {k2 : Int32 → Int32 → Int32 → Sg → Option (Int32 × Sg)} (hk2 : ∀ (x1 : Int32) (x2 : Int32) (x3 : Int32) (S : Sg), k2 x1 x2 x3 S = some z → gW p l e rm_X10_find s m args below meth c D cy ad n A 6 0 0 (MQ below (gQ D cy ad n A (some (.int z.1)) z.2) args s 0 0 A) S 2 [(0, .ref (ad 34)), (1, .int x1), (2, .int x2), (3, .int x3)] []) : ∀ (fl : Nat) (x1 : Int32) (x2 : Int32) (x3 : Int32) (x4 : Int32) (x5 : Int32) (S : Sg), f_X10_find_L13 k2 fl x1 x2 x3 x4 x5 S = some z → gW p l e rm_X10_find s m args below meth c D cy ad n A 6 0 0 (MQ below (gQ D cy ad n A (some (.int z.1)) z.2) args s 0 0 A) S 13 [(0, .ref (ad 34)), (1, .int x1), (2, .int x2), (3, .int x3), (4, .int x4), (5, .int x5)] [] := by
  intro fl
  induction fl with
  | zero =>
    intro x1 x2 x3 x4 x5 S hz
    rw [f_X10_find_L13] at hz
    cases hz
  | succ fl ih =>
    intro x1 x2 x3 x4 x5 S hz
    rw [f_X10_find_L13] at hz
    refine g_iload C 15 5 rfl dX10_find_13 rfl ?_
    refine g_aload_n C 16 0 rfl dX10_find_15 rfl ?_
    refine gf_10_188 C 19 dX10_find_16 rfl ?_
    refine g_icmp_ge C 68 22 dX10_find_19 rfl rfl hz (fun hz => ?_) (fun hz => ?_)
    · refine g_iload C 70 4 rfl dX10_find_68 rfl ?_
      refine g_if_eq C 75 73 dX10_find_70 rfl rfl hz (fun hz => ?_) (fun hz => ?_)
      · refine g_iinc C 78 3 [1, 2, 3, 0] (1 : Int32) ci_1 (fun x3_4 => [(0, .ref (ad 34)), (1, .int x1), (2, .int x2), (3, .int x3_4)]) dX10_find_75 rfl rfl (by decide) (fun x3_4 => rfl) hz (fun x3_4 hz => ?_)
        refine g_goto C 2 dX10_find_78 rfl ?_
        exact hk2 x1 x2 x3_4 S hz
      · refine g_iload_n C 74 3 rfl dX10_find_73 rfl ?_
        exact g_iret C hr dX10_find_74 hz
    · refine g_iload C 24 4 rfl dX10_find_22 rfl ?_
      refine g_if_eq C 59 27 dX10_find_24 rfl rfl hz (fun hz => ?_) (fun hz => ?_)
      · refine g_iconst C 60 (0 : Int32) ci_0 dX10_find_59 rfl ?_
        refine g_istore C 62 (i := 4) [1, 2, 3, 4, 0, 5] (fun x4_5 => [(0, .ref (ad 34)), (1, .int x1), (2, .int x2), (3, .int x3), (4, .int x4_5), (5, .int x5)]) dX10_find_60 rfl (by decide) (fun x4_5 => rfl) hz (fun x4_5 hz => ?_)
        refine g_iinc C 65 5 [1, 2, 3, 4, 5, 0] (1 : Int32) ci_1 (fun x5_6 => [(0, .ref (ad 34)), (1, .int x1), (2, .int x2), (3, .int x3), (4, .int x4_5), (5, .int x5_6)]) dX10_find_62 rfl rfl (by decide) (fun x5_6 => rfl) hz (fun x5_6 hz => ?_)
        refine g_goto C 13 dX10_find_65 rfl ?_
        exact ih x1 x2 x3 x4_5 x5_6 S hz
      · refine g_aload_n C 28 0 rfl dX10_find_27 rfl ?_
        refine gf_10_61 C 31 dX10_find_28 rfl ?_
        refine g_bipush C 33 (6 : Int32) cb_6 dX10_find_31 rfl ?_
        refine g_sipush C 36 (150 : Int32) cs_150 dX10_find_33 rfl ?_
        refine g_iload_n C 37 1 rfl dX10_find_36 rfl ?_
        refine g_imul C 38 dX10_find_37 rfl ?_
        refine g_iload_n C 39 3 rfl dX10_find_38 rfl ?_
        refine g_iadd C 40 dX10_find_39 rfl ?_
        refine g_imul C 41 dX10_find_40 rfl ?_
        refine g_iload C 43 5 rfl dX10_find_41 rfl ?_
        refine g_iadd C 44 dX10_find_43 rfl ?_
        refine g_iald C 45 ha_50 dX10_find_44 rfl hz (fun hz => ?_)
        refine g_aload_n C 46 0 rfl dX10_find_45 rfl ?_
        refine gf_10_109 C 49 dX10_find_46 rfl ?_
        refine g_iload C 51 5 rfl dX10_find_49 rfl ?_
        refine g_iald C 52 ha_66 dX10_find_51 rfl hz (fun hz => ?_)
        refine g_icmp_ne C 59 55 dX10_find_52 rfl rfl hz (fun hz => ?_) (fun hz => ?_)
        · refine g_iconst C 60 (0 : Int32) ci_0 dX10_find_59 rfl ?_
          refine g_istore C 62 (i := 4) [1, 2, 3, 4, 0, 5] (fun x4_7 => [(0, .ref (ad 34)), (1, .int x1), (2, .int x2), (3, .int x3), (4, .int x4_7), (5, .int x5)]) dX10_find_60 rfl (by decide) (fun x4_7 => rfl) hz (fun x4_7 hz => ?_)
          refine g_iinc C 65 5 [1, 2, 3, 4, 5, 0] (1 : Int32) ci_1 (fun x5_8 => [(0, .ref (ad 34)), (1, .int x1), (2, .int x2), (3, .int x3), (4, .int x4_7), (5, .int x5_8)]) dX10_find_62 rfl rfl (by decide) (fun x5_8 => rfl) hz (fun x5_8 hz => ?_)
          refine g_goto C 13 dX10_find_65 rfl ?_
          exact ih x1 x2 x3 x4_7 x5_8 S hz
        · refine g_iconst C 56 (1 : Int32) ci_1 dX10_find_55 rfl ?_
          refine g_goto C 60 dX10_find_56 rfl ?_
          refine g_istore C 62 (i := 4) [1, 2, 3, 4, 0, 5] (fun x4_9 => [(0, .ref (ad 34)), (1, .int x1), (2, .int x2), (3, .int x3), (4, .int x4_9), (5, .int x5)]) dX10_find_60 rfl (by decide) (fun x4_9 => rfl) hz (fun x4_9 hz => ?_)
          refine g_iinc C 65 5 [1, 2, 3, 4, 5, 0] (1 : Int32) ci_1 (fun x5_10 => [(0, .ref (ad 34)), (1, .int x1), (2, .int x2), (3, .int x3), (4, .int x4_9), (5, .int x5_10)]) dX10_find_62 rfl rfl (by decide) (fun x5_10 => rfl) hz (fun x5_10 hz => ?_)
          refine g_goto C 13 dX10_find_65 rfl ?_
          exact ih x1 x2 x3 x4_9 x5_10 S hz
set_option maxRecDepth 20000 in
theorem t_X10_find_L2 {p : Program} {l : Launch} {e : Env} {s : State} {m : MethodId} {args : Array Value} {below : List Frame} {meth : Method} {c : Code} {D : va_G} {cy : Nat → ClassId} {ad : Nat → Nat} {n : Nat} {A : Nat → Prop} (C : gC p s m args meth c cX10_find 6 RX10 D cy ad n A) (hr : meth.sig.returnType = (some .int)) {z : Int32 × Sg} : ∀ (fl : Nat) (x1 : Int32) (x2 : Int32) (x3 : Int32) (S : Sg), f_X10_find_L2 fl x1 x2 x3 S = some z → gW p l e rm_X10_find s m args below meth c D cy ad n A 6 0 0 (MQ below (gQ D cy ad n A (some (.int z.1)) z.2) args s 0 0 A) S 2 [(0, .ref (ad 34)), (1, .int x1), (2, .int x2), (3, .int x3)] [] := by
  intro fl
  induction fl with
  | zero =>
    intro x1 x2 x3 S hz
    rw [f_X10_find_L2] at hz
    cases hz
  | succ fl ih =>
    intro x1 x2 x3 S hz
    rw [f_X10_find_L2] at hz
    refine g_iload_n C 3 3 rfl dX10_find_2 rfl ?_
    refine g_iload_n C 4 2 rfl dX10_find_3 rfl ?_
    refine g_icmp_ge C 81 7 dX10_find_4 rfl rfl hz (fun hz => ?_) (fun hz => ?_)
    · refine g_iconst C 82 (-1 : Int32) ci_m1 dX10_find_81 rfl ?_
      exact g_iret C hr dX10_find_82 hz
    · refine g_iconst C 8 (1 : Int32) ci_1 dX10_find_7 rfl ?_
      refine g_istore C 10 (i := 4) [1, 2, 3, 4, 0] (fun x4_2 => [(0, .ref (ad 34)), (1, .int x1), (2, .int x2), (3, .int x3), (4, .int x4_2)]) dX10_find_8 rfl (by decide) (fun x4_2 => rfl) hz (fun x4_2 hz => ?_)
      refine g_iconst C 11 (0 : Int32) ci_0 dX10_find_10 rfl ?_
      refine g_istore C 13 (i := 5) [1, 2, 3, 4, 5, 0] (fun x5_3 => [(0, .ref (ad 34)), (1, .int x1), (2, .int x2), (3, .int x3), (4, .int x4_2), (5, .int x5_3)]) dX10_find_11 rfl (by decide) (fun x5_3 => rfl) hz (fun x5_3 hz => ?_)
      exact (t_X10_find_L13 C hr ih fu) x1 x2 x3 x4_2 x5_3 S hz
set_option maxRecDepth 20000 in
theorem t_X10_find {p : Program} {l : Launch} {e : Env} {s : State} {m : MethodId} {args : Array Value} {below : List Frame} {meth : Method} {c : Code} {D : va_G} {cy : Nat → ClassId} {ad : Nat → Nat} {n : Nat} {A : Nat → Prop} (C : gC p s m args meth c cX10_find 6 RX10 D cy ad n A) (hr : meth.sig.returnType = (some .int)) {z : Int32 × Sg} {S : Sg} {x1 : Int32} {x2 : Int32} (hz : f_X10_find x1 x2 S = some z) : gW p l e rm_X10_find s m args below meth c D cy ad n A 6 0 0 (MQ below (gQ D cy ad n A (some (.int z.1)) z.2) args s 0 0 A) S 0 [(0, .ref (ad 34)), (1, .int x1), (2, .int x2)] [] := by
  unfold f_X10_find at hz
  refine g_iconst C 1 (1 : Int32) ci_1 dX10_find_0 rfl ?_
  refine g_istore_n C 2 (i := 3) [1, 2, 3, 0] (fun x3_1 => [(0, .ref (ad 34)), (1, .int x1), (2, .int x2), (3, .int x3_1)]) dX10_find_1 rfl rfl (by decide) (fun x3_1 => rfl) hz (fun x3_1 hz => ?_)
  exact (t_X10_find_L2 C hr fu) x1 x2 x3_1 S hz
theorem c_X10_find (l : Launch) (D : va_G) (cy : Nat → ClassId) (ad : Nat → Nat) (n : Nat) (S : Sg) (sz : Nat) (x1 : Int32) (x2 : Int32) (z : Int32 × Sg) (hz : f_X10_find x1 x2 S = some z) : Met l yX10_find (.code yX10_find cX10_find 6 (some .int) :: wsAll) rm_X10_find (gPc D cy ad n S sz [.ref (ad 34), .int x1, .int x2]) (gQ D cy ad n (va_A (wW cy ad n S) sz) (some (.int z.1)) z.2) 0 0 (va_A (wW cy ad n S) sz) := by
  refine gMet (lv := [(0, .ref (ad 34)), (1, .int x1), (2, .int x2)]) (by decide) (Nat.le_of_ble_eq_true rfl) rfl ?_
  intro p e s m args below meth c A hA hr C
  exact t_X10_find C hr hz
def rm_X10_builds : Room := { frames := 1, cells := 0, slots := 0, locals := 27 }
theorem wl_10_261 : Cond.methodLink RX10 261 yX10_meant ∈ wsAll := wA 897 (by decide +kernel) (by decide +kernel)
theorem wi_X10_meant : Cond.instanceMethod yX10_meant ∈ wsAll := wA 899 (by decide +kernel) (by decide +kernel)
theorem we_X10_meant : Cond.selects RX10 yX10_meant yX10_meant ∈ wsAll := wAp 74 (by decide +kernel) (by decide +kernel)
theorem wo_X10_meant : Cond.code yX10_meant cX10_meant 6 (some .boolean) ∈ wsAll := wA 900 (by decide +kernel) (by decide +kernel)
theorem cl_10_261 {p : Program} {l : Launch} {e : Env} {R : Room} {s : State} {m : MethodId} {args : Array Value} {below : List Frame} {meth : Method} {c : Code} {cc : ByteArray} {nL : Nat} {D : va_G} {cy : Nat → ClassId} {ad : Nat → Nat} {n : Nat} {A : Nat → Prop} {mc ms : Nat} {Q : State → Prop} {S : Sg} {pc : Nat} {lv : List (Nat × Value)} {st : List Value} {ζ : Type} {z : ζ} (C : gC p s m args meth c cc nL RX10 D cy ad n A) (nx : Nat) {x1 : Int32} {x2 : Int32} (hR : Room.frames rm_X10_meant + 1 ≤ R.frames ∧ 8 + (6 + 11) + Room.locals rm_X10_meant ≤ R.locals) (hcm : mc ≤ R.cells ∧ ms ≤ R.slots) (hrest : (st.map fun v => v.category).sum ≤ 8) (hd : decode cc pc = .ok (.invokevirtual 261, 3)) (hn : pc + 3 = nx) {K : Int32 → Sg → Option ζ} (hz : bd2 (f_X10_meant x1 x2 S) K = some z) (kk : ∀ r S', K r S' = some z → gW p l e R s m args below meth c D cy ad n A nL mc ms Q S' nx lv (.int r :: st)) : gW p l e R s m args below meth c D cy ad n A nL mc ms Q S pc lv (.int x2 :: .int x1 :: .ref (ad 34) :: st) := by
  obtain ⟨q, hq, hk⟩ := bd2_s hz
  exact g_callV C (i := 34) (ci := 10) (Cn := RX10) (T := TX10) (N := 59) (y := yX10_meant) (rm := rm_X10_meant) (As := [.int x1, .int x2]) (rest := st) (na := 2) (fun sz => c_X10_meant l D cy ad n S sz x1 x2 q hq) ha_34 rfl rfl wl_10_261 wi_X10_meant we_X10_meant wz_10 wo_X10_meant (by decide +kernel) rfl rfl hR hcm rfl hrest hn hd (kk q.1 q.2 hk)
theorem wl_10_253 : Cond.methodLink RX10 253 yX10_makes ∈ wsAll := wA 889 (by decide +kernel) (by decide +kernel)
theorem wi_X10_makes : Cond.instanceMethod yX10_makes ∈ wsAll := wA 891 (by decide +kernel) (by decide +kernel)
theorem we_X10_makes : Cond.selects RX10 yX10_makes yX10_makes ∈ wsAll := wAp 72 (by decide +kernel) (by decide +kernel)
theorem wo_X10_makes : Cond.code yX10_makes cX10_makes 8 none ∈ wsAll := wA 892 (by decide +kernel) (by decide +kernel)
theorem cl_10_253 {p : Program} {l : Launch} {e : Env} {R : Room} {s : State} {m : MethodId} {args : Array Value} {below : List Frame} {meth : Method} {c : Code} {cc : ByteArray} {nL : Nat} {D : va_G} {cy : Nat → ClassId} {ad : Nat → Nat} {n : Nat} {A : Nat → Prop} {mc ms : Nat} {Q : State → Prop} {S : Sg} {pc : Nat} {lv : List (Nat × Value)} {st : List Value} {ζ : Type} {z : ζ} (C : gC p s m args meth c cc nL RX10 D cy ad n A) (nx : Nat) {x1 : Int32} {x2 : Int32} {x3 : Int32} (hR : Room.frames rm_X10_makes + 1 ≤ R.frames ∧ 8 + (8 + 11) + Room.locals rm_X10_makes ≤ R.locals) (hcm : mc ≤ R.cells ∧ ms ≤ R.slots) (hrest : (st.map fun v => v.category).sum ≤ 8) (hd : decode cc pc = .ok (.invokevirtual 253, 3)) (hn : pc + 3 = nx) {K : Sg → Option ζ} (hz : bd (f_X10_makes x1 x2 x3 S) K = some z) (kk : ∀ S', K S' = some z → gW p l e R s m args below meth c D cy ad n A nL mc ms Q S' nx lv st) : gW p l e R s m args below meth c D cy ad n A nL mc ms Q S pc lv (.int x3 :: .int x2 :: .int x1 :: .ref (ad 34) :: st) := by
  obtain ⟨q, hq, hk⟩ := bd_s hz
  exact g_callV C (i := 34) (ci := 10) (Cn := RX10) (T := TX10) (N := 59) (y := yX10_makes) (rm := rm_X10_makes) (As := [.int x1, .int x2, .int x3]) (rest := st) (na := 3) (fun sz => c_X10_makes l D cy ad n S sz x1 x2 x3 q hq) ha_34 rfl rfl wl_10_253 wi_X10_makes we_X10_makes wz_10 wo_X10_makes (by decide +kernel) rfl rfl hR hcm rfl hrest hn hd (kk q hk)
theorem wl_10_257 : Cond.methodLink RX10 257 yX10_find ∈ wsAll := wA 893 (by decide +kernel) (by decide +kernel)
theorem wi_X10_find : Cond.instanceMethod yX10_find ∈ wsAll := wA 895 (by decide +kernel) (by decide +kernel)
theorem we_X10_find : Cond.selects RX10 yX10_find yX10_find ∈ wsAll := wAp 73 (by decide +kernel) (by decide +kernel)
theorem wo_X10_find : Cond.code yX10_find cX10_find 6 (some .int) ∈ wsAll := wA 896 (by decide +kernel) (by decide +kernel)
theorem cl_10_257 {p : Program} {l : Launch} {e : Env} {R : Room} {s : State} {m : MethodId} {args : Array Value} {below : List Frame} {meth : Method} {c : Code} {cc : ByteArray} {nL : Nat} {D : va_G} {cy : Nat → ClassId} {ad : Nat → Nat} {n : Nat} {A : Nat → Prop} {mc ms : Nat} {Q : State → Prop} {S : Sg} {pc : Nat} {lv : List (Nat × Value)} {st : List Value} {ζ : Type} {z : ζ} (C : gC p s m args meth c cc nL RX10 D cy ad n A) (nx : Nat) {x1 : Int32} {x2 : Int32} (hR : Room.frames rm_X10_find + 1 ≤ R.frames ∧ 8 + (6 + 11) + Room.locals rm_X10_find ≤ R.locals) (hcm : mc ≤ R.cells ∧ ms ≤ R.slots) (hrest : (st.map fun v => v.category).sum ≤ 8) (hd : decode cc pc = .ok (.invokevirtual 257, 3)) (hn : pc + 3 = nx) {K : Int32 → Sg → Option ζ} (hz : bd2 (f_X10_find x1 x2 S) K = some z) (kk : ∀ r S', K r S' = some z → gW p l e R s m args below meth c D cy ad n A nL mc ms Q S' nx lv (.int r :: st)) : gW p l e R s m args below meth c D cy ad n A nL mc ms Q S pc lv (.int x2 :: .int x1 :: .ref (ad 34) :: st) := by
  obtain ⟨q, hq, hk⟩ := bd2_s hz
  exact g_callV C (i := 34) (ci := 10) (Cn := RX10) (T := TX10) (N := 59) (y := yX10_find) (rm := rm_X10_find) (As := [.int x1, .int x2]) (rest := st) (na := 2) (fun sz => c_X10_find l D cy ad n S sz x1 x2 q hq) ha_34 rfl rfl wl_10_257 wi_X10_find we_X10_find wz_10 wo_X10_find (by decide +kernel) rfl rfl hR hcm rfl hrest hn hd (kk q.1 q.2 hk)
set_option maxRecDepth 20000 in
theorem t_X10_builds_L211 {p : Program} {l : Launch} {e : Env} {s : State} {m : MethodId} {args : Array Value} {below : List Frame} {meth : Method} {c : Code} {D : va_G} {cy : Nat → ClassId} {ad : Nat → Nat} {n : Nat} {A : Nat → Prop} (C : gC p s m args meth c cX10_builds 7 RX10 D cy ad n A) (hr : meth.sig.returnType = (some .int)) {z : Int32 × Sg} : ∀ (fl : Nat) (x1 : Int32) (x2 : Int32) (x3 : Int32) (S : Sg), f_X10_builds_L211 fl x1 x2 x3 S = some z → gW p l e rm_X10_builds s m args below meth c D cy ad n A 7 0 0 (MQ below (gQ D cy ad n A (some (.int z.1)) z.2) args s 0 0 A) S 211 [(0, .ref (ad 34)), (1, .int x1), (2, .int x2), (3, .int x3)] [] := by
  intro fl
  induction fl with
  | zero =>
    intro x1 x2 x3 S hz
    rw [f_X10_builds_L211] at hz
    cases hz
  | succ fl ih =>
    intro x1 x2 x3 S hz
    rw [f_X10_builds_L211] at hz
    refine g_iload_n C 212 3 rfl dX10_builds_211 rfl ?_
    refine g_iload_n C 213 2 rfl dX10_builds_212 rfl ?_
    refine g_icmp_ge C 240 216 dX10_builds_213 rfl rfl hz (fun hz => ?_) (fun hz => ?_)
    · refine g_iload_n C 241 2 rfl dX10_builds_240 rfl ?_
      exact g_iret C hr dX10_builds_241 hz
    · refine g_aload_n C 217 0 rfl dX10_builds_216 rfl ?_
      refine gf_10_58 C 220 dX10_builds_217 rfl ?_
      refine g_sipush C 223 (150 : Int32) cs_150 dX10_builds_220 rfl ?_
      refine g_iload_n C 224 1 rfl dX10_builds_223 rfl ?_
      refine g_imul C 225 dX10_builds_224 rfl ?_
      refine g_iload_n C 226 3 rfl dX10_builds_225 rfl ?_
      refine g_iadd C 227 dX10_builds_226 rfl ?_
      refine g_aload_n C 228 0 rfl dX10_builds_227 rfl ?_
      refine g_iload_n C 229 1 rfl dX10_builds_228 rfl ?_
      refine g_iload_n C 230 3 rfl dX10_builds_229 rfl ?_
      refine cl_10_261 C 233 ⟨Nat.le_of_ble_eq_true rfl, Nat.le_of_ble_eq_true rfl⟩ ⟨Nat.zero_le _, Nat.zero_le _⟩ (Nat.le_of_ble_eq_true rfl) dX10_builds_230 rfl hz (fun r_7 S_6 hz => ?_)
      refine g_zast C 234 ha_49 dX10_builds_233 rfl hz (fun S_8 hz => ?_)
      refine g_iinc C 237 3 [1, 2, 3, 0] (1 : Int32) ci_1 (fun x3_9 => [(0, .ref (ad 34)), (1, .int x1), (2, .int x2), (3, .int x3_9)]) dX10_builds_234 rfl rfl (by decide) (fun x3_9 => rfl) hz (fun x3_9 hz => ?_)
      refine g_goto C 211 dX10_builds_237 rfl ?_
      exact ih x1 x2 x3_9 S_8 hz
set_option maxRecDepth 20000 in
theorem t_X10_builds_L178 {p : Program} {l : Launch} {e : Env} {s : State} {m : MethodId} {args : Array Value} {below : List Frame} {meth : Method} {c : Code} {D : va_G} {cy : Nat → ClassId} {ad : Nat → Nat} {n : Nat} {A : Nat → Prop} (C : gC p s m args meth c cX10_builds 7 RX10 D cy ad n A) (hr : meth.sig.returnType = (some .int)) {z : Int32 × Sg} {k50 : Int32 → Int32 → Int32 → Int32 → Sg → Option (Int32 × Sg)} (hk50 : ∀ (x1 : Int32) (x2 : Int32) (x3 : Int32) (x4 : Int32) (S : Sg), k50 x1 x2 x3 x4 S = some z → gW p l e rm_X10_builds s m args below meth c D cy ad n A 7 0 0 (MQ below (gQ D cy ad n A (some (.int z.1)) z.2) args s 0 0 A) S 50 [(0, .ref (ad 34)), (1, .int x1), (2, .int x2), (3, .int x3), (4, .int x4)] []) : ∀ (x1 : Int32) (x2 : Int32) (x3 : Int32) (x4 : Int32) (x5 : Int32) (S : Sg), f_X10_builds_L178 k50 x1 x2 x3 x4 x5 S = some z → gW p l e rm_X10_builds s m args below meth c D cy ad n A 7 0 0 (MQ below (gQ D cy ad n A (some (.int z.1)) z.2) args s 0 0 A) S 178 [(0, .ref (ad 34)), (1, .int x1), (2, .int x2), (3, .int x3), (4, .int x4), (5, .int x5)] [] := by
  intro x1 x2 x3 x4 x5 S hz
  unfold f_X10_builds_L178 at hz
  refine g_aload_n C 179 0 rfl dX10_builds_178 rfl ?_
  refine gf_10_55 C 182 dX10_builds_179 rfl ?_
  refine g_iconst C 183 (4 : Int32) ci_4 dX10_builds_182 rfl ?_
  refine g_sipush C 186 (150 : Int32) cs_150 dX10_builds_183 rfl ?_
  refine g_iload_n C 187 1 rfl dX10_builds_186 rfl ?_
  refine g_imul C 188 dX10_builds_187 rfl ?_
  refine g_iload_n C 189 3 rfl dX10_builds_188 rfl ?_
  refine g_iadd C 190 dX10_builds_189 rfl ?_
  refine g_imul C 191 dX10_builds_190 rfl ?_
  refine g_iload C 193 4 rfl dX10_builds_191 rfl ?_
  refine g_iadd C 194 dX10_builds_193 rfl ?_
  refine g_iload C 196 5 rfl dX10_builds_194 rfl ?_
  refine g_iast C 197 ha_48 dX10_builds_196 rfl hz (fun S_16 hz => ?_)
  refine g_iinc C 200 4 [1, 2, 3, 4, 0] (1 : Int32) ci_1 (fun x4_17 => [(0, .ref (ad 34)), (1, .int x1), (2, .int x2), (3, .int x3), (4, .int x4_17)]) dX10_builds_197 rfl rfl (by decide) (fun x4_17 => rfl) hz (fun x4_17 hz => ?_)
  refine g_goto C 50 dX10_builds_200 rfl ?_
  exact hk50 x1 x2 x3 x4_17 S_16 hz
set_option maxRecDepth 20000 in
theorem t_X10_builds_L97 {p : Program} {l : Launch} {e : Env} {s : State} {m : MethodId} {args : Array Value} {below : List Frame} {meth : Method} {c : Code} {D : va_G} {cy : Nat → ClassId} {ad : Nat → Nat} {n : Nat} {A : Nat → Prop} (C : gC p s m args meth c cX10_builds 7 RX10 D cy ad n A) (hr : meth.sig.returnType = (some .int)) {z : Int32 × Sg} {k178 : Int32 → Int32 → Int32 → Int32 → Int32 → Sg → Option (Int32 × Sg)} (hk178 : ∀ (x1 : Int32) (x2 : Int32) (x3 : Int32) (x4 : Int32) (x5 : Int32) (S : Sg), k178 x1 x2 x3 x4 x5 S = some z → gW p l e rm_X10_builds s m args below meth c D cy ad n A 7 0 0 (MQ below (gQ D cy ad n A (some (.int z.1)) z.2) args s 0 0 A) S 178 [(0, .ref (ad 34)), (1, .int x1), (2, .int x2), (3, .int x3), (4, .int x4), (5, .int x5)] []) : ∀ (fl : Nat) (x1 : Int32) (x2 : Int32) (x3 : Int32) (x4 : Int32) (x5 : Int32) (x6 : Int32) (S : Sg), f_X10_builds_L97 k178 fl x1 x2 x3 x4 x5 x6 S = some z → gW p l e rm_X10_builds s m args below meth c D cy ad n A 7 0 0 (MQ below (gQ D cy ad n A (some (.int z.1)) z.2) args s 0 0 A) S 97 [(0, .ref (ad 34)), (1, .int x1), (2, .int x2), (3, .int x3), (4, .int x4), (5, .int x5), (6, .int x6)] [] := by
  intro fl
  induction fl with
  | zero =>
    intro x1 x2 x3 x4 x5 x6 S hz
    rw [f_X10_builds_L97] at hz
    cases hz
  | succ fl ih =>
    intro x1 x2 x3 x4 x5 x6 S hz
    rw [f_X10_builds_L97] at hz
    refine g_iload C 99 6 rfl dX10_builds_97 rfl ?_
    refine g_bipush C 101 (6 : Int32) cb_6 dX10_builds_99 rfl ?_
    refine g_icmp_ge C 149 104 dX10_builds_101 rfl rfl hz (fun hz => ?_) (fun hz => ?_)
    · refine g_aload_n C 150 0 rfl dX10_builds_149 rfl ?_
      refine gf_10_67 C 153 dX10_builds_150 rfl ?_
      refine g_sipush C 156 (150 : Int32) cs_150 dX10_builds_153 rfl ?_
      refine g_iload_n C 157 1 rfl dX10_builds_156 rfl ?_
      refine g_imul C 158 dX10_builds_157 rfl ?_
      refine g_iload C 160 5 rfl dX10_builds_158 rfl ?_
      refine g_iadd C 161 dX10_builds_160 rfl ?_
      refine g_iload_n C 162 3 rfl dX10_builds_161 rfl ?_
      refine g_iast C 163 ha_52 dX10_builds_162 rfl hz (fun S_21 hz => ?_)
      refine g_aload_n C 164 0 rfl dX10_builds_163 rfl ?_
      refine gf_10_70 C 167 dX10_builds_164 rfl ?_
      refine g_sipush C 170 (150 : Int32) cs_150 dX10_builds_167 rfl ?_
      refine g_iload_n C 171 1 rfl dX10_builds_170 rfl ?_
      refine g_imul C 172 dX10_builds_171 rfl ?_
      refine g_iload C 174 5 rfl dX10_builds_172 rfl ?_
      refine g_iadd C 175 dX10_builds_174 rfl ?_
      refine g_iload C 177 4 rfl dX10_builds_175 rfl ?_
      refine g_iast C 178 ha_53 dX10_builds_177 rfl hz (fun S_22 hz => ?_)
      refine g_lv [0, 1, 2, 3, 4, 5] rfl ?_
      exact hk178 x1 x2 x3 x4 x5 S_22 hz
    · refine g_aload_n C 105 0 rfl dX10_builds_104 rfl ?_
      refine gf_10_61 C 108 dX10_builds_105 rfl ?_
      refine g_bipush C 110 (6 : Int32) cb_6 dX10_builds_108 rfl ?_
      refine g_sipush C 113 (150 : Int32) cs_150 dX10_builds_110 rfl ?_
      refine g_iload_n C 114 1 rfl dX10_builds_113 rfl ?_
      refine g_imul C 115 dX10_builds_114 rfl ?_
      refine g_iload C 117 5 rfl dX10_builds_115 rfl ?_
      refine g_iadd C 118 dX10_builds_117 rfl ?_
      refine g_imul C 119 dX10_builds_118 rfl ?_
      refine g_iload C 121 6 rfl dX10_builds_119 rfl ?_
      refine g_iadd C 122 dX10_builds_121 rfl ?_
      refine g_iload C 124 6 rfl dX10_builds_122 rfl ?_
      refine g_aload_n C 125 0 rfl dX10_builds_124 rfl ?_
      refine gf_10_188 C 128 dX10_builds_125 rfl ?_
      refine g_icmp_ge C 141 131 dX10_builds_128 rfl rfl hz (fun hz => ?_) (fun hz => ?_)
      · refine g_iconst C 142 (0 : Int32) ci_0 dX10_builds_141 rfl ?_
        refine g_iast C 143 ha_50 dX10_builds_142 rfl hz (fun S_23 hz => ?_)
        refine g_iinc C 146 6 [1, 2, 3, 4, 5, 6, 0] (1 : Int32) ci_1 (fun x6_24 => [(0, .ref (ad 34)), (1, .int x1), (2, .int x2), (3, .int x3), (4, .int x4), (5, .int x5), (6, .int x6_24)]) dX10_builds_143 rfl rfl (by decide) (fun x6_24 => rfl) hz (fun x6_24 hz => ?_)
        refine g_goto C 97 dX10_builds_146 rfl ?_
        exact ih x1 x2 x3 x4 x5 x6_24 S_23 hz
      · refine g_aload_n C 132 0 rfl dX10_builds_131 rfl ?_
        refine gf_10_109 C 135 dX10_builds_132 rfl ?_
        refine g_iload C 137 6 rfl dX10_builds_135 rfl ?_
        refine g_iald C 138 ha_66 dX10_builds_137 rfl hz (fun hz => ?_)
        refine g_goto C 142 dX10_builds_138 rfl ?_
        refine g_iast C 143 ha_50 dX10_builds_142 rfl hz (fun S_25 hz => ?_)
        refine g_iinc C 146 6 [1, 2, 3, 4, 5, 6, 0] (1 : Int32) ci_1 (fun x6_26 => [(0, .ref (ad 34)), (1, .int x1), (2, .int x2), (3, .int x3), (4, .int x4), (5, .int x5), (6, .int x6_26)]) dX10_builds_143 rfl rfl (by decide) (fun x6_26 => rfl) hz (fun x6_26 hz => ?_)
        refine g_goto C 97 dX10_builds_146 rfl ?_
        exact ih x1 x2 x3 x4 x5 x6_26 S_25 hz
set_option maxRecDepth 20000 in
theorem t_X10_builds_L50 {p : Program} {l : Launch} {e : Env} {s : State} {m : MethodId} {args : Array Value} {below : List Frame} {meth : Method} {c : Code} {D : va_G} {cy : Nat → ClassId} {ad : Nat → Nat} {n : Nat} {A : Nat → Prop} (C : gC p s m args meth c cX10_builds 7 RX10 D cy ad n A) (hr : meth.sig.returnType = (some .int)) {z : Int32 × Sg} {k42 : Int32 → Int32 → Int32 → Sg → Option (Int32 × Sg)} (hk42 : ∀ (x1 : Int32) (x2 : Int32) (x3 : Int32) (S : Sg), k42 x1 x2 x3 S = some z → gW p l e rm_X10_builds s m args below meth c D cy ad n A 7 0 0 (MQ below (gQ D cy ad n A (some (.int z.1)) z.2) args s 0 0 A) S 42 [(0, .ref (ad 34)), (1, .int x1), (2, .int x2), (3, .int x3)] []) : ∀ (fl : Nat) (x1 : Int32) (x2 : Int32) (x3 : Int32) (x4 : Int32) (S : Sg), f_X10_builds_L50 k42 fl x1 x2 x3 x4 S = some z → gW p l e rm_X10_builds s m args below meth c D cy ad n A 7 0 0 (MQ below (gQ D cy ad n A (some (.int z.1)) z.2) args s 0 0 A) S 50 [(0, .ref (ad 34)), (1, .int x1), (2, .int x2), (3, .int x3), (4, .int x4)] [] := by
  intro fl
  induction fl with
  | zero =>
    intro x1 x2 x3 x4 S hz
    rw [f_X10_builds_L50] at hz
    cases hz
  | succ fl ih =>
    intro x1 x2 x3 x4 S hz
    rw [f_X10_builds_L50] at hz
    refine g_iload C 52 4 rfl dX10_builds_50 rfl ?_
    refine g_iconst C 53 (4 : Int32) ci_4 dX10_builds_52 rfl ?_
    refine g_icmp_ge C 203 56 dX10_builds_53 rfl rfl hz (fun hz => ?_) (fun hz => ?_)
    · refine g_iinc C 206 3 [1, 2, 3, 0] (1 : Int32) ci_1 (fun x3_11 => [(0, .ref (ad 34)), (1, .int x1), (2, .int x2), (3, .int x3_11)]) dX10_builds_203 rfl rfl (by decide) (fun x3_11 => rfl) hz (fun x3_11 hz => ?_)
      refine g_goto C 42 dX10_builds_206 rfl ?_
      exact hk42 x1 x2 x3_11 S hz
    · refine g_aload_n C 57 0 rfl dX10_builds_56 rfl ?_
      refine g_iload_n C 58 1 rfl dX10_builds_57 rfl ?_
      refine g_iload_n C 59 3 rfl dX10_builds_58 rfl ?_
      refine g_iload C 61 4 rfl dX10_builds_59 rfl ?_
      refine cl_10_253 C 64 ⟨Nat.le_of_ble_eq_true rfl, Nat.le_of_ble_eq_true rfl⟩ ⟨Nat.zero_le _, Nat.zero_le _⟩ (Nat.le_of_ble_eq_true rfl) dX10_builds_61 rfl hz (fun S_12 hz => ?_)
      refine g_aload_n C 65 0 rfl dX10_builds_64 rfl ?_
      refine g_iload_n C 66 1 rfl dX10_builds_65 rfl ?_
      refine g_iload_n C 67 2 rfl dX10_builds_66 rfl ?_
      refine cl_10_257 C 70 ⟨Nat.le_of_ble_eq_true rfl, Nat.le_of_ble_eq_true rfl⟩ ⟨Nat.zero_le _, Nat.zero_le _⟩ (Nat.le_of_ble_eq_true rfl) dX10_builds_67 rfl hz (fun r_14 S_13 hz => ?_)
      refine g_istore C 72 (i := 5) [1, 2, 3, 4, 5, 0] (fun x5_15 => [(0, .ref (ad 34)), (1, .int x1), (2, .int x2), (3, .int x3), (4, .int x4), (5, .int x5_15)]) dX10_builds_70 rfl (by decide) (fun x5_15 => rfl) hz (fun x5_15 hz => ?_)
      refine g_iload C 74 5 rfl dX10_builds_72 rfl ?_
      refine g_iconst C 75 (-1 : Int32) ci_m1 dX10_builds_74 rfl ?_
      refine g_icmp_ne C 178 78 dX10_builds_75 rfl rfl hz (fun hz => ?_) (fun hz => ?_)
      · exact (t_X10_builds_L178 C hr ih) x1 x2 x3 x4 x5_15 S_13 hz
      · refine g_iload_n C 79 2 rfl dX10_builds_78 rfl ?_
        refine g_sipush C 82 (150 : Int32) cs_150 dX10_builds_79 rfl ?_
        refine g_icmp_ne C 88 85 dX10_builds_82 rfl rfl hz (fun hz => ?_) (fun hz => ?_)
        · refine g_iload_n C 89 2 rfl dX10_builds_88 rfl ?_
          refine g_istore C 91 (i := 5) [1, 2, 3, 4, 5, 0] (fun x5_18 => [(0, .ref (ad 34)), (1, .int x1), (2, .int x2), (3, .int x3), (4, .int x4), (5, .int x5_18)]) dX10_builds_89 rfl (by decide) (fun x5_18 => rfl) hz (fun x5_18 hz => ?_)
          refine g_iinc C 94 2 [1, 2, 0, 3, 4, 5] (1 : Int32) ci_1 (fun x2_19 => [(0, .ref (ad 34)), (1, .int x1), (2, .int x2_19), (3, .int x3), (4, .int x4), (5, .int x5_18)]) dX10_builds_91 rfl rfl (by decide) (fun x2_19 => rfl) hz (fun x2_19 hz => ?_)
          refine g_iconst C 95 (0 : Int32) ci_0 dX10_builds_94 rfl ?_
          refine g_istore C 97 (i := 6) [1, 2, 3, 4, 5, 6, 0] (fun x6_20 => [(0, .ref (ad 34)), (1, .int x1), (2, .int x2_19), (3, .int x3), (4, .int x4), (5, .int x5_18), (6, .int x6_20)]) dX10_builds_95 rfl (by decide) (fun x6_20 => rfl) hz (fun x6_20 hz => ?_)
          exact (t_X10_builds_L97 C hr ((t_X10_builds_L178 C hr ih)) fu) x1 x2_19 x3 x4 x5_18 x6_20 S_13 hz
        · refine g_bipush C 87 (-2 : Int32) cb_m2 dX10_builds_85 rfl ?_
          exact g_iret C hr dX10_builds_87 hz
set_option maxRecDepth 20000 in
theorem t_X10_builds_L42 {p : Program} {l : Launch} {e : Env} {s : State} {m : MethodId} {args : Array Value} {below : List Frame} {meth : Method} {c : Code} {D : va_G} {cy : Nat → ClassId} {ad : Nat → Nat} {n : Nat} {A : Nat → Prop} (C : gC p s m args meth c cX10_builds 7 RX10 D cy ad n A) (hr : meth.sig.returnType = (some .int)) {z : Int32 × Sg} : ∀ (fl : Nat) (x1 : Int32) (x2 : Int32) (x3 : Int32) (S : Sg), f_X10_builds_L42 fl x1 x2 x3 S = some z → gW p l e rm_X10_builds s m args below meth c D cy ad n A 7 0 0 (MQ below (gQ D cy ad n A (some (.int z.1)) z.2) args s 0 0 A) S 42 [(0, .ref (ad 34)), (1, .int x1), (2, .int x2), (3, .int x3)] [] := by
  intro fl
  induction fl with
  | zero =>
    intro x1 x2 x3 S hz
    rw [f_X10_builds_L42] at hz
    cases hz
  | succ fl ih =>
    intro x1 x2 x3 S hz
    rw [f_X10_builds_L42] at hz
    refine g_iload_n C 43 3 rfl dX10_builds_42 rfl ?_
    refine g_iload_n C 44 2 rfl dX10_builds_43 rfl ?_
    refine g_icmp_ge C 209 47 dX10_builds_44 rfl rfl hz (fun hz => ?_) (fun hz => ?_)
    · refine g_iconst C 210 (0 : Int32) ci_0 dX10_builds_209 rfl ?_
      refine g_istore_n C 211 (i := 3) [1, 2, 3, 0] (fun x3_5 => [(0, .ref (ad 34)), (1, .int x1), (2, .int x2), (3, .int x3_5)]) dX10_builds_210 rfl rfl (by decide) (fun x3_5 => rfl) hz (fun x3_5 hz => ?_)
      exact (t_X10_builds_L211 C hr fu) x1 x2 x3_5 S hz
    · refine g_iconst C 48 (0 : Int32) ci_0 dX10_builds_47 rfl ?_
      refine g_istore C 50 (i := 4) [1, 2, 3, 4, 0] (fun x4_10 => [(0, .ref (ad 34)), (1, .int x1), (2, .int x2), (3, .int x3), (4, .int x4_10)]) dX10_builds_48 rfl (by decide) (fun x4_10 => rfl) hz (fun x4_10 hz => ?_)
      exact (t_X10_builds_L50 C hr ih fu) x1 x2 x3 x4_10 S hz
set_option maxRecDepth 20000 in
theorem t_X10_builds_L4 {p : Program} {l : Launch} {e : Env} {s : State} {m : MethodId} {args : Array Value} {below : List Frame} {meth : Method} {c : Code} {D : va_G} {cy : Nat → ClassId} {ad : Nat → Nat} {n : Nat} {A : Nat → Prop} (C : gC p s m args meth c cX10_builds 7 RX10 D cy ad n A) (hr : meth.sig.returnType = (some .int)) {z : Int32 × Sg} : ∀ (fl : Nat) (x1 : Int32) (x2 : Int32) (x3 : Int32) (S : Sg), f_X10_builds_L4 fl x1 x2 x3 S = some z → gW p l e rm_X10_builds s m args below meth c D cy ad n A 7 0 0 (MQ below (gQ D cy ad n A (some (.int z.1)) z.2) args s 0 0 A) S 4 [(0, .ref (ad 34)), (1, .int x1), (2, .int x2), (3, .int x3)] [] := by
  intro fl
  induction fl with
  | zero =>
    intro x1 x2 x3 S hz
    rw [f_X10_builds_L4] at hz
    cases hz
  | succ fl ih =>
    intro x1 x2 x3 S hz
    rw [f_X10_builds_L4] at hz
    refine g_iload_n C 5 3 rfl dX10_builds_4 rfl ?_
    refine g_bipush C 7 (6 : Int32) cb_6 dX10_builds_5 rfl ?_
    refine g_icmp_ge C 29 10 dX10_builds_7 rfl rfl hz (fun hz => ?_) (fun hz => ?_)
    · refine g_aload_n C 30 0 rfl dX10_builds_29 rfl ?_
      refine gf_10_67 C 33 dX10_builds_30 rfl ?_
      refine g_sipush C 36 (150 : Int32) cs_150 dX10_builds_33 rfl ?_
      refine g_iload_n C 37 1 rfl dX10_builds_36 rfl ?_
      refine g_imul C 38 dX10_builds_37 rfl ?_
      refine g_iconst C 39 (-1 : Int32) ci_m1 dX10_builds_38 rfl ?_
      refine g_iast C 40 ha_52 dX10_builds_39 rfl hz (fun S_3 hz => ?_)
      refine g_iconst C 41 (0 : Int32) ci_0 dX10_builds_40 rfl ?_
      refine g_istore_n C 42 (i := 3) [1, 2, 3, 0] (fun x3_4 => [(0, .ref (ad 34)), (1, .int x1), (2, .int x2), (3, .int x3_4)]) dX10_builds_41 rfl rfl (by decide) (fun x3_4 => rfl) hz (fun x3_4 hz => ?_)
      exact (t_X10_builds_L42 C hr fu) x1 x2 x3_4 S_3 hz
    · refine g_aload_n C 11 0 rfl dX10_builds_10 rfl ?_
      refine gf_10_61 C 14 dX10_builds_11 rfl ?_
      refine g_sipush C 17 (900 : Int32) cs_900 dX10_builds_14 rfl ?_
      refine g_iload_n C 18 1 rfl dX10_builds_17 rfl ?_
      refine g_imul C 19 dX10_builds_18 rfl ?_
      refine g_iload_n C 20 3 rfl dX10_builds_19 rfl ?_
      refine g_iadd C 21 dX10_builds_20 rfl ?_
      refine g_iconst C 22 (0 : Int32) ci_0 dX10_builds_21 rfl ?_
      refine g_iast C 23 ha_50 dX10_builds_22 rfl hz (fun S_27 hz => ?_)
      refine g_iinc C 26 3 [1, 2, 3, 0] (1 : Int32) ci_1 (fun x3_28 => [(0, .ref (ad 34)), (1, .int x1), (2, .int x2), (3, .int x3_28)]) dX10_builds_23 rfl rfl (by decide) (fun x3_28 => rfl) hz (fun x3_28 hz => ?_)
      refine g_goto C 4 dX10_builds_26 rfl ?_
      exact ih x1 x2 x3_28 S_27 hz
set_option maxRecDepth 20000 in
theorem t_X10_builds {p : Program} {l : Launch} {e : Env} {s : State} {m : MethodId} {args : Array Value} {below : List Frame} {meth : Method} {c : Code} {D : va_G} {cy : Nat → ClassId} {ad : Nat → Nat} {n : Nat} {A : Nat → Prop} (C : gC p s m args meth c cX10_builds 7 RX10 D cy ad n A) (hr : meth.sig.returnType = (some .int)) {z : Int32 × Sg} {S : Sg} {x1 : Int32} (hz : f_X10_builds x1 S = some z) : gW p l e rm_X10_builds s m args below meth c D cy ad n A 7 0 0 (MQ below (gQ D cy ad n A (some (.int z.1)) z.2) args s 0 0 A) S 0 [(0, .ref (ad 34)), (1, .int x1)] [] := by
  unfold f_X10_builds at hz
  refine g_iconst C 1 (1 : Int32) ci_1 dX10_builds_0 rfl ?_
  refine g_istore_n C 2 (i := 2) [1, 2, 0] (fun x2_1 => [(0, .ref (ad 34)), (1, .int x1), (2, .int x2_1)]) dX10_builds_1 rfl rfl (by decide) (fun x2_1 => rfl) hz (fun x2_1 hz => ?_)
  refine g_iconst C 3 (0 : Int32) ci_0 dX10_builds_2 rfl ?_
  refine g_istore_n C 4 (i := 3) [1, 2, 3, 0] (fun x3_2 => [(0, .ref (ad 34)), (1, .int x1), (2, .int x2_1), (3, .int x3_2)]) dX10_builds_3 rfl rfl (by decide) (fun x3_2 => rfl) hz (fun x3_2 hz => ?_)
  exact (t_X10_builds_L4 C hr fu) x1 x2_1 x3_2 S hz
theorem c_X10_builds (l : Launch) (D : va_G) (cy : Nat → ClassId) (ad : Nat → Nat) (n : Nat) (S : Sg) (sz : Nat) (x1 : Int32) (z : Int32 × Sg) (hz : f_X10_builds x1 S = some z) : Met l yX10_builds (.code yX10_builds cX10_builds 7 (some .int) :: wsAll) rm_X10_builds (gPc D cy ad n S sz [.ref (ad 34), .int x1]) (gQ D cy ad n (va_A (wW cy ad n S) sz) (some (.int z.1)) z.2) 0 0 (va_A (wW cy ad n S) sz) := by
  refine gMet (lv := [(0, .ref (ad 34)), (1, .int x1)]) (by decide) (Nat.le_of_ble_eq_true rfl) rfl ?_
  intro p e s m args below meth c A hA hr C
  exact t_X10_builds C hr hz
def rm_X10_areAlike : Room := { frames := 0, cells := 0, slots := 0, locals := 0 }
set_option maxRecDepth 20000 in
theorem t_X10_areAlike_L32 {p : Program} {l : Launch} {e : Env} {s : State} {m : MethodId} {args : Array Value} {below : List Frame} {meth : Method} {c : Code} {D : va_G} {cy : Nat → ClassId} {ad : Nat → Nat} {n : Nat} {A : Nat → Prop} (C : gC p s m args meth c cX10_areAlike 5 RX10 D cy ad n A) (hr : meth.sig.returnType = (some .boolean)) {z : Int32 × Sg} : ∀ (fl : Nat) (x1 : Int32) (x2 : Int32) (x3 : Int32) (x4 : Int32) (S : Sg), f_X10_areAlike_L32 fl x1 x2 x3 x4 S = some z → gW p l e rm_X10_areAlike s m args below meth c D cy ad n A 5 0 0 (MQ below (gQ D cy ad n A (some (.int z.1)) z.2) args s 0 0 A) S 32 [(0, .ref (ad 34)), (1, .int x1), (2, .int x2), (3, .int x3), (4, .int x4)] [] := by
  intro fl
  induction fl with
  | zero =>
    intro x1 x2 x3 x4 S hz
    rw [f_X10_areAlike_L32] at hz
    cases hz
  | succ fl ih =>
    intro x1 x2 x3 x4 S hz
    rw [f_X10_areAlike_L32] at hz
    refine g_iload C 34 4 rfl dX10_areAlike_32 rfl ?_
    refine g_iconst C 35 (4 : Int32) ci_4 dX10_areAlike_34 rfl ?_
    refine g_icmp_ge C 105 38 dX10_areAlike_35 rfl rfl hz (fun hz => ?_) (fun hz => ?_)
    · refine g_iconst C 106 (1 : Int32) ci_1 dX10_areAlike_105 rfl ?_
      exact g_zretc C hr (by decide) dX10_areAlike_106 hz
    · refine g_aload_n C 39 0 rfl dX10_areAlike_38 rfl ?_
      refine gf_10_64 C 42 dX10_areAlike_39 rfl ?_
      refine g_sipush C 45 (150 : Int32) cs_150 dX10_areAlike_42 rfl ?_
      refine g_iload_n C 46 1 rfl dX10_areAlike_45 rfl ?_
      refine g_imul C 47 dX10_areAlike_46 rfl ?_
      refine g_aload_n C 48 0 rfl dX10_areAlike_47 rfl ?_
      refine gf_10_55 C 51 dX10_areAlike_48 rfl ?_
      refine g_iconst C 52 (4 : Int32) ci_4 dX10_areAlike_51 rfl ?_
      refine g_sipush C 55 (150 : Int32) cs_150 dX10_areAlike_52 rfl ?_
      refine g_iload_n C 56 1 rfl dX10_areAlike_55 rfl ?_
      refine g_imul C 57 dX10_areAlike_56 rfl ?_
      refine g_iload_n C 58 2 rfl dX10_areAlike_57 rfl ?_
      refine g_iadd C 59 dX10_areAlike_58 rfl ?_
      refine g_imul C 60 dX10_areAlike_59 rfl ?_
      refine g_iload C 62 4 rfl dX10_areAlike_60 rfl ?_
      refine g_iadd C 63 dX10_areAlike_62 rfl ?_
      refine g_iald C 64 ha_48 dX10_areAlike_63 rfl hz (fun hz => ?_)
      refine g_iadd C 65 dX10_areAlike_64 rfl ?_
      refine g_iald C 66 ha_51 dX10_areAlike_65 rfl hz (fun hz => ?_)
      refine g_aload_n C 67 0 rfl dX10_areAlike_66 rfl ?_
      refine gf_10_64 C 70 dX10_areAlike_67 rfl ?_
      refine g_sipush C 73 (150 : Int32) cs_150 dX10_areAlike_70 rfl ?_
      refine g_iload_n C 74 1 rfl dX10_areAlike_73 rfl ?_
      refine g_imul C 75 dX10_areAlike_74 rfl ?_
      refine g_aload_n C 76 0 rfl dX10_areAlike_75 rfl ?_
      refine gf_10_55 C 79 dX10_areAlike_76 rfl ?_
      refine g_iconst C 80 (4 : Int32) ci_4 dX10_areAlike_79 rfl ?_
      refine g_sipush C 83 (150 : Int32) cs_150 dX10_areAlike_80 rfl ?_
      refine g_iload_n C 84 1 rfl dX10_areAlike_83 rfl ?_
      refine g_imul C 85 dX10_areAlike_84 rfl ?_
      refine g_iload_n C 86 3 rfl dX10_areAlike_85 rfl ?_
      refine g_iadd C 87 dX10_areAlike_86 rfl ?_
      refine g_imul C 88 dX10_areAlike_87 rfl ?_
      refine g_iload C 90 4 rfl dX10_areAlike_88 rfl ?_
      refine g_iadd C 91 dX10_areAlike_90 rfl ?_
      refine g_iald C 92 ha_48 dX10_areAlike_91 rfl hz (fun hz => ?_)
      refine g_iadd C 93 dX10_areAlike_92 rfl ?_
      refine g_iald C 94 ha_51 dX10_areAlike_93 rfl hz (fun hz => ?_)
      refine g_icmp_eq C 99 97 dX10_areAlike_94 rfl rfl hz (fun hz => ?_) (fun hz => ?_)
      · refine g_iinc C 102 4 [1, 2, 3, 4, 0] (1 : Int32) ci_1 (fun x4_2 => [(0, .ref (ad 34)), (1, .int x1), (2, .int x2), (3, .int x3), (4, .int x4_2)]) dX10_areAlike_99 rfl rfl (by decide) (fun x4_2 => rfl) hz (fun x4_2 hz => ?_)
        refine g_goto C 32 dX10_areAlike_102 rfl ?_
        exact ih x1 x2 x3 x4_2 S hz
      · refine g_iconst C 98 (0 : Int32) ci_0 dX10_areAlike_97 rfl ?_
        exact g_zretc C hr (by decide) dX10_areAlike_98 hz
set_option maxRecDepth 20000 in
theorem t_X10_areAlike {p : Program} {l : Launch} {e : Env} {s : State} {m : MethodId} {args : Array Value} {below : List Frame} {meth : Method} {c : Code} {D : va_G} {cy : Nat → ClassId} {ad : Nat → Nat} {n : Nat} {A : Nat → Prop} (C : gC p s m args meth c cX10_areAlike 5 RX10 D cy ad n A) (hr : meth.sig.returnType = (some .boolean)) {z : Int32 × Sg} {S : Sg} {x1 : Int32} {x2 : Int32} {x3 : Int32} (hz : f_X10_areAlike x1 x2 x3 S = some z) : gW p l e rm_X10_areAlike s m args below meth c D cy ad n A 5 0 0 (MQ below (gQ D cy ad n A (some (.int z.1)) z.2) args s 0 0 A) S 0 [(0, .ref (ad 34)), (1, .int x1), (2, .int x2), (3, .int x3)] [] := by
  unfold f_X10_areAlike at hz
  refine g_aload_n C 1 0 rfl dX10_areAlike_0 rfl ?_
  refine gf_10_64 C 4 dX10_areAlike_1 rfl ?_
  refine g_sipush C 7 (150 : Int32) cs_150 dX10_areAlike_4 rfl ?_
  refine g_iload_n C 8 1 rfl dX10_areAlike_7 rfl ?_
  refine g_imul C 9 dX10_areAlike_8 rfl ?_
  refine g_iload_n C 10 2 rfl dX10_areAlike_9 rfl ?_
  refine g_iadd C 11 dX10_areAlike_10 rfl ?_
  refine g_iald C 12 ha_51 dX10_areAlike_11 rfl hz (fun hz => ?_)
  refine g_aload_n C 13 0 rfl dX10_areAlike_12 rfl ?_
  refine gf_10_64 C 16 dX10_areAlike_13 rfl ?_
  refine g_sipush C 19 (150 : Int32) cs_150 dX10_areAlike_16 rfl ?_
  refine g_iload_n C 20 1 rfl dX10_areAlike_19 rfl ?_
  refine g_imul C 21 dX10_areAlike_20 rfl ?_
  refine g_iload_n C 22 3 rfl dX10_areAlike_21 rfl ?_
  refine g_iadd C 23 dX10_areAlike_22 rfl ?_
  refine g_iald C 24 ha_51 dX10_areAlike_23 rfl hz (fun hz => ?_)
  refine g_icmp_eq C 29 27 dX10_areAlike_24 rfl rfl hz (fun hz => ?_) (fun hz => ?_)
  · refine g_iconst C 30 (0 : Int32) ci_0 dX10_areAlike_29 rfl ?_
    refine g_istore C 32 (i := 4) [1, 2, 3, 4, 0] (fun x4_1 => [(0, .ref (ad 34)), (1, .int x1), (2, .int x2), (3, .int x3), (4, .int x4_1)]) dX10_areAlike_30 rfl (by decide) (fun x4_1 => rfl) hz (fun x4_1 hz => ?_)
    exact (t_X10_areAlike_L32 C hr fu) x1 x2 x3 x4_1 S hz
  · refine g_iconst C 28 (0 : Int32) ci_0 dX10_areAlike_27 rfl ?_
    exact g_zretc C hr (by decide) dX10_areAlike_28 hz
theorem c_X10_areAlike (l : Launch) (D : va_G) (cy : Nat → ClassId) (ad : Nat → Nat) (n : Nat) (S : Sg) (sz : Nat) (x1 : Int32) (x2 : Int32) (x3 : Int32) (z : Int32 × Sg) (hz : f_X10_areAlike x1 x2 x3 S = some z) : Met l yX10_areAlike (.code yX10_areAlike cX10_areAlike 5 (some .boolean) :: wsAll) rm_X10_areAlike (gPc D cy ad n S sz [.ref (ad 34), .int x1, .int x2, .int x3]) (gQ D cy ad n (va_A (wW cy ad n S) sz) (some (.int z.1)) z.2) 0 0 (va_A (wW cy ad n S) sz) := by
  refine gMet (lv := [(0, .ref (ad 34)), (1, .int x1), (2, .int x2), (3, .int x3)]) (by decide) (Nat.le_of_ble_eq_true rfl) rfl ?_
  intro p e s m args below meth c A hA hr C
  exact t_X10_areAlike C hr hz
def rm_X10_divides : Room := { frames := 1, cells := 0, slots := 0, locals := 24 }
theorem wl_10_265 : Cond.methodLink RX10 265 yX10_areAlike ∈ wsAll := wA 905 (by decide +kernel) (by decide +kernel)
theorem wi_X10_areAlike : Cond.instanceMethod yX10_areAlike ∈ wsAll := wA 907 (by decide +kernel) (by decide +kernel)
theorem we_X10_areAlike : Cond.selects RX10 yX10_areAlike yX10_areAlike ∈ wsAll := wAp 76 (by decide +kernel) (by decide +kernel)
theorem wo_X10_areAlike : Cond.code yX10_areAlike cX10_areAlike 5 (some .boolean) ∈ wsAll := wA 908 (by decide +kernel) (by decide +kernel)
theorem cl_10_265 {p : Program} {l : Launch} {e : Env} {R : Room} {s : State} {m : MethodId} {args : Array Value} {below : List Frame} {meth : Method} {c : Code} {cc : ByteArray} {nL : Nat} {D : va_G} {cy : Nat → ClassId} {ad : Nat → Nat} {n : Nat} {A : Nat → Prop} {mc ms : Nat} {Q : State → Prop} {S : Sg} {pc : Nat} {lv : List (Nat × Value)} {st : List Value} {ζ : Type} {z : ζ} (C : gC p s m args meth c cc nL RX10 D cy ad n A) (nx : Nat) {x1 : Int32} {x2 : Int32} {x3 : Int32} (hR : Room.frames rm_X10_areAlike + 1 ≤ R.frames ∧ 8 + (5 + 11) + Room.locals rm_X10_areAlike ≤ R.locals) (hcm : mc ≤ R.cells ∧ ms ≤ R.slots) (hrest : (st.map fun v => v.category).sum ≤ 8) (hd : decode cc pc = .ok (.invokevirtual 265, 3)) (hn : pc + 3 = nx) {K : Int32 → Sg → Option ζ} (hz : bd2 (f_X10_areAlike x1 x2 x3 S) K = some z) (kk : ∀ r S', K r S' = some z → gW p l e R s m args below meth c D cy ad n A nL mc ms Q S' nx lv (.int r :: st)) : gW p l e R s m args below meth c D cy ad n A nL mc ms Q S pc lv (.int x3 :: .int x2 :: .int x1 :: .ref (ad 34) :: st) := by
  obtain ⟨q, hq, hk⟩ := bd2_s hz
  exact g_callV C (i := 34) (ci := 10) (Cn := RX10) (T := TX10) (N := 59) (y := yX10_areAlike) (rm := rm_X10_areAlike) (As := [.int x1, .int x2, .int x3]) (rest := st) (na := 3) (fun sz => c_X10_areAlike l D cy ad n S sz x1 x2 x3 q hq) ha_34 rfl rfl wl_10_265 wi_X10_areAlike we_X10_areAlike wz_10 wo_X10_areAlike (by decide +kernel) rfl rfl hR hcm rfl hrest hn hd (kk q.1 q.2 hk)
set_option maxRecDepth 20000 in
theorem t_X10_divides_L161 {p : Program} {l : Launch} {e : Env} {s : State} {m : MethodId} {args : Array Value} {below : List Frame} {meth : Method} {c : Code} {D : va_G} {cy : Nat → ClassId} {ad : Nat → Nat} {n : Nat} {A : Nat → Prop} (C : gC p s m args meth c cX10_divides 7 RX10 D cy ad n A) (hr : meth.sig.returnType = none) {z : Sg} {k60 : Int32 → Int32 → Int32 → Int32 → Sg → Option (Sg)} (hk60 : ∀ (x1 : Int32) (x2 : Int32) (x3 : Int32) (x4 : Int32) (S : Sg), k60 x1 x2 x3 x4 S = some z → gW p l e rm_X10_divides s m args below meth c D cy ad n A 7 0 0 (MQ below (gQ D cy ad n A none z) args s 0 0 A) S 60 [(0, .ref (ad 34)), (1, .int x1), (2, .int x2), (3, .int x3), (4, .int x4)] []) : ∀ (fl : Nat) (x1 : Int32) (x2 : Int32) (x3 : Int32) (x4 : Int32) (x5 : Int32) (S : Sg), f_X10_divides_L161 k60 fl x1 x2 x3 x4 x5 S = some z → gW p l e rm_X10_divides s m args below meth c D cy ad n A 7 0 0 (MQ below (gQ D cy ad n A none z) args s 0 0 A) S 161 [(0, .ref (ad 34)), (1, .int x1), (2, .int x2), (3, .int x3), (4, .int x4), (5, .int x5)] [] := by
  intro fl
  induction fl with
  | zero =>
    intro x1 x2 x3 x4 x5 S hz
    rw [f_X10_divides_L161] at hz
    cases hz
  | succ fl ih =>
    intro x1 x2 x3 x4 x5 S hz
    rw [f_X10_divides_L161] at hz
    refine g_iload C 163 5 rfl dX10_divides_161 rfl ?_
    refine g_iload_n C 164 2 rfl dX10_divides_163 rfl ?_
    refine g_icmp_ge C 193 167 dX10_divides_164 rfl rfl hz (fun hz => ?_) (fun hz => ?_)
    · refine g_goto C 60 dX10_divides_193 rfl ?_
      refine g_lv [0, 1, 2, 3, 4] rfl ?_
      exact hk60 x1 x2 x3 x4 S hz
    · refine g_aload_n C 168 0 rfl dX10_divides_167 rfl ?_
      refine gf_10_64 C 171 dX10_divides_168 rfl ?_
      refine g_sipush C 174 (150 : Int32) cs_150 dX10_divides_171 rfl ?_
      refine g_iload_n C 175 1 rfl dX10_divides_174 rfl ?_
      refine g_imul C 176 dX10_divides_175 rfl ?_
      refine g_iload C 178 5 rfl dX10_divides_176 rfl ?_
      refine g_iadd C 179 dX10_divides_178 rfl ?_
      refine g_aload_n C 180 0 rfl dX10_divides_179 rfl ?_
      refine gf_10_112 C 183 dX10_divides_180 rfl ?_
      refine g_iload C 185 5 rfl dX10_divides_183 rfl ?_
      refine g_iald C 186 ha_67 dX10_divides_185 rfl hz (fun hz => ?_)
      refine g_iast C 187 ha_51 dX10_divides_186 rfl hz (fun S_9 hz => ?_)
      refine g_iinc C 190 5 [1, 2, 3, 4, 5, 0] (1 : Int32) ci_1 (fun x5_10 => [(0, .ref (ad 34)), (1, .int x1), (2, .int x2), (3, .int x3), (4, .int x4), (5, .int x5_10)]) dX10_divides_187 rfl rfl (by decide) (fun x5_10 => rfl) hz (fun x5_10 hz => ?_)
      refine g_goto C 161 dX10_divides_190 rfl ?_
      exact ih x1 x2 x3 x4 x5_10 S_9 hz
set_option maxRecDepth 20000 in
theorem t_X10_divides_L134 {p : Program} {l : Launch} {e : Env} {s : State} {m : MethodId} {args : Array Value} {below : List Frame} {meth : Method} {c : Code} {D : va_G} {cy : Nat → ClassId} {ad : Nat → Nat} {n : Nat} {A : Nat → Prop} (C : gC p s m args meth c cX10_divides 7 RX10 D cy ad n A) (hr : meth.sig.returnType = none) {z : Sg} {k75 : Int32 → Int32 → Int32 → Int32 → Int32 → Sg → Option (Sg)} (hk75 : ∀ (x1 : Int32) (x2 : Int32) (x3 : Int32) (x4 : Int32) (x5 : Int32) (S : Sg), k75 x1 x2 x3 x4 x5 S = some z → gW p l e rm_X10_divides s m args below meth c D cy ad n A 7 0 0 (MQ below (gQ D cy ad n A none z) args s 0 0 A) S 75 [(0, .ref (ad 34)), (1, .int x1), (2, .int x2), (3, .int x3), (4, .int x4), (5, .int x5)] []) : ∀ (x1 : Int32) (x2 : Int32) (x3 : Int32) (x4 : Int32) (x5 : Int32) (x6 : Int32) (t0 : Int32) (t1 : Int32) (S : Sg), f_X10_divides_L134 k75 x1 x2 x3 x4 x5 x6 t0 t1 S = some z → gW p l e rm_X10_divides s m args below meth c D cy ad n A 7 0 0 (MQ below (gQ D cy ad n A none z) args s 0 0 A) S 134 [(0, .ref (ad 34)), (1, .int x1), (2, .int x2), (3, .int x3), (4, .int x4), (5, .int x5), (6, .int x6)] [.int t0, .int t1, .ref (ad 67)] := by
  intro x1 x2 x3 x4 x5 x6 t0 t1 S hz
  unfold f_X10_divides_L134 at hz
  refine g_iast C 135 ha_67 dX10_divides_134 rfl hz (fun S_12 hz => ?_)
  refine g_iload C 137 4 rfl dX10_divides_135 rfl ?_
  refine g_iload C 139 6 rfl dX10_divides_137 rfl ?_
  refine g_iload C 141 5 rfl dX10_divides_139 rfl ?_
  refine g_icmp_ge C 148 144 dX10_divides_141 rfl rfl hz (fun hz => ?_) (fun hz => ?_)
  · refine g_iconst C 149 (1 : Int32) ci_1 dX10_divides_148 rfl ?_
    refine g_iadd C 150 dX10_divides_149 rfl ?_
    refine g_istore C 152 (i := 4) [1, 2, 3, 4, 0, 5] (fun x4_13 => [(0, .ref (ad 34)), (1, .int x1), (2, .int x2), (3, .int x3), (4, .int x4_13), (5, .int x5)]) dX10_divides_150 rfl (by decide) (fun x4_13 => rfl) hz (fun x4_13 hz => ?_)
    refine g_iinc C 155 5 [1, 2, 3, 4, 5, 0] (1 : Int32) ci_1 (fun x5_14 => [(0, .ref (ad 34)), (1, .int x1), (2, .int x2), (3, .int x3), (4, .int x4_13), (5, .int x5_14)]) dX10_divides_152 rfl rfl (by decide) (fun x5_14 => rfl) hz (fun x5_14 hz => ?_)
    refine g_goto C 75 dX10_divides_155 rfl ?_
    exact hk75 x1 x2 x3 x4_13 x5_14 S_12 hz
  · refine g_iconst C 145 (0 : Int32) ci_0 dX10_divides_144 rfl ?_
    refine g_goto C 149 dX10_divides_145 rfl ?_
    refine g_iadd C 150 dX10_divides_149 rfl ?_
    refine g_istore C 152 (i := 4) [1, 2, 3, 4, 0, 5] (fun x4_15 => [(0, .ref (ad 34)), (1, .int x1), (2, .int x2), (3, .int x3), (4, .int x4_15), (5, .int x5)]) dX10_divides_150 rfl (by decide) (fun x4_15 => rfl) hz (fun x4_15 hz => ?_)
    refine g_iinc C 155 5 [1, 2, 3, 4, 5, 0] (1 : Int32) ci_1 (fun x5_16 => [(0, .ref (ad 34)), (1, .int x1), (2, .int x2), (3, .int x3), (4, .int x4_15), (5, .int x5_16)]) dX10_divides_152 rfl rfl (by decide) (fun x5_16 => rfl) hz (fun x5_16 hz => ?_)
    refine g_goto C 75 dX10_divides_155 rfl ?_
    exact hk75 x1 x2 x3 x4_15 x5_16 S_12 hz
set_option maxRecDepth 20000 in
theorem t_X10_divides_L109 {p : Program} {l : Launch} {e : Env} {s : State} {m : MethodId} {args : Array Value} {below : List Frame} {meth : Method} {c : Code} {D : va_G} {cy : Nat → ClassId} {ad : Nat → Nat} {n : Nat} {A : Nat → Prop} (C : gC p s m args meth c cX10_divides 7 RX10 D cy ad n A) (hr : meth.sig.returnType = none) {z : Sg} {k75 : Int32 → Int32 → Int32 → Int32 → Int32 → Sg → Option (Sg)} (hk75 : ∀ (x1 : Int32) (x2 : Int32) (x3 : Int32) (x4 : Int32) (x5 : Int32) (S : Sg), k75 x1 x2 x3 x4 x5 S = some z → gW p l e rm_X10_divides s m args below meth c D cy ad n A 7 0 0 (MQ below (gQ D cy ad n A none z) args s 0 0 A) S 75 [(0, .ref (ad 34)), (1, .int x1), (2, .int x2), (3, .int x3), (4, .int x4), (5, .int x5)] []) : ∀ (x1 : Int32) (x2 : Int32) (x3 : Int32) (x4 : Int32) (x5 : Int32) (x6 : Int32) (S : Sg), f_X10_divides_L109 k75 x1 x2 x3 x4 x5 x6 S = some z → gW p l e rm_X10_divides s m args below meth c D cy ad n A 7 0 0 (MQ below (gQ D cy ad n A none z) args s 0 0 A) S 109 [(0, .ref (ad 34)), (1, .int x1), (2, .int x2), (3, .int x3), (4, .int x4), (5, .int x5), (6, .int x6)] [] := by
  intro x1 x2 x3 x4 x5 x6 S hz
  unfold f_X10_divides_L109 at hz
  refine g_aload_n C 110 0 rfl dX10_divides_109 rfl ?_
  refine gf_10_112 C 113 dX10_divides_110 rfl ?_
  refine g_iload C 115 5 rfl dX10_divides_113 rfl ?_
  refine g_iload C 117 6 rfl dX10_divides_115 rfl ?_
  refine g_iload C 119 5 rfl dX10_divides_117 rfl ?_
  refine g_icmp_ge C 132 122 dX10_divides_119 rfl rfl hz (fun hz => ?_) (fun hz => ?_)
  · refine g_iload C 134 4 rfl dX10_divides_132 rfl ?_
    exact (t_X10_divides_L134 C hr hk75) x1 x2 x3 x4 x5 x6 x4 x5 S hz
  · refine g_aload_n C 123 0 rfl dX10_divides_122 rfl ?_
    refine gf_10_112 C 126 dX10_divides_123 rfl ?_
    refine g_iload C 128 6 rfl dX10_divides_126 rfl ?_
    refine g_iald C 129 ha_67 dX10_divides_128 rfl hz (fun hz => ?_)
    refine g_goto C 134 dX10_divides_129 rfl ?_
    exact (t_X10_divides_L134 C hr hk75) x1 x2 x3 x4 x5 x6 ((S.1 67 (Int32.toNatClampNeg x6))) x5 S hz
set_option maxRecDepth 20000 in
theorem t_X10_divides_L84 {p : Program} {l : Launch} {e : Env} {s : State} {m : MethodId} {args : Array Value} {below : List Frame} {meth : Method} {c : Code} {D : va_G} {cy : Nat → ClassId} {ad : Nat → Nat} {n : Nat} {A : Nat → Prop} (C : gC p s m args meth c cX10_divides 7 RX10 D cy ad n A) (hr : meth.sig.returnType = none) {z : Sg} {k75 : Int32 → Int32 → Int32 → Int32 → Int32 → Sg → Option (Sg)} (hk75 : ∀ (x1 : Int32) (x2 : Int32) (x3 : Int32) (x4 : Int32) (x5 : Int32) (S : Sg), k75 x1 x2 x3 x4 x5 S = some z → gW p l e rm_X10_divides s m args below meth c D cy ad n A 7 0 0 (MQ below (gQ D cy ad n A none z) args s 0 0 A) S 75 [(0, .ref (ad 34)), (1, .int x1), (2, .int x2), (3, .int x3), (4, .int x4), (5, .int x5)] []) : ∀ (fl : Nat) (x1 : Int32) (x2 : Int32) (x3 : Int32) (x4 : Int32) (x5 : Int32) (x6 : Int32) (S : Sg), f_X10_divides_L84 k75 fl x1 x2 x3 x4 x5 x6 S = some z → gW p l e rm_X10_divides s m args below meth c D cy ad n A 7 0 0 (MQ below (gQ D cy ad n A none z) args s 0 0 A) S 84 [(0, .ref (ad 34)), (1, .int x1), (2, .int x2), (3, .int x3), (4, .int x4), (5, .int x5), (6, .int x6)] [] := by
  intro fl
  induction fl with
  | zero =>
    intro x1 x2 x3 x4 x5 x6 S hz
    rw [f_X10_divides_L84] at hz
    cases hz
  | succ fl ih =>
    intro x1 x2 x3 x4 x5 x6 S hz
    rw [f_X10_divides_L84] at hz
    refine g_iload C 86 6 rfl dX10_divides_84 rfl ?_
    refine g_iload C 88 5 rfl dX10_divides_86 rfl ?_
    refine g_icmp_ge C 109 91 dX10_divides_88 rfl rfl hz (fun hz => ?_) (fun hz => ?_)
    · exact (t_X10_divides_L109 C hr hk75) x1 x2 x3 x4 x5 x6 S hz
    · refine g_aload_n C 92 0 rfl dX10_divides_91 rfl ?_
      refine g_iload_n C 93 1 rfl dX10_divides_92 rfl ?_
      refine g_iload C 95 6 rfl dX10_divides_93 rfl ?_
      refine g_iload C 97 5 rfl dX10_divides_95 rfl ?_
      refine cl_10_265 C 100 ⟨Nat.le_of_ble_eq_true rfl, Nat.le_of_ble_eq_true rfl⟩ ⟨Nat.zero_le _, Nat.zero_le _⟩ (Nat.le_of_ble_eq_true rfl) dX10_divides_97 rfl hz (fun r_18 S_17 hz => ?_)
      refine g_if_ne C 109 103 dX10_divides_100 rfl rfl hz (fun hz => ?_) (fun hz => ?_)
      · exact (t_X10_divides_L109 C hr hk75) x1 x2 x3 x4 x5 x6 S_17 hz
      · refine g_iinc C 106 6 [1, 2, 3, 4, 5, 6, 0] (1 : Int32) ci_1 (fun x6_19 => [(0, .ref (ad 34)), (1, .int x1), (2, .int x2), (3, .int x3), (4, .int x4), (5, .int x5), (6, .int x6_19)]) dX10_divides_103 rfl rfl (by decide) (fun x6_19 => rfl) hz (fun x6_19 hz => ?_)
        refine g_goto C 84 dX10_divides_106 rfl ?_
        exact ih x1 x2 x3 x4 x5 x6_19 S_17 hz
set_option maxRecDepth 20000 in
theorem t_X10_divides_L75 {p : Program} {l : Launch} {e : Env} {s : State} {m : MethodId} {args : Array Value} {below : List Frame} {meth : Method} {c : Code} {D : va_G} {cy : Nat → ClassId} {ad : Nat → Nat} {n : Nat} {A : Nat → Prop} (C : gC p s m args meth c cX10_divides 7 RX10 D cy ad n A) (hr : meth.sig.returnType = none) {z : Sg} {k60 : Int32 → Int32 → Int32 → Int32 → Sg → Option (Sg)} (hk60 : ∀ (x1 : Int32) (x2 : Int32) (x3 : Int32) (x4 : Int32) (S : Sg), k60 x1 x2 x3 x4 S = some z → gW p l e rm_X10_divides s m args below meth c D cy ad n A 7 0 0 (MQ below (gQ D cy ad n A none z) args s 0 0 A) S 60 [(0, .ref (ad 34)), (1, .int x1), (2, .int x2), (3, .int x3), (4, .int x4)] []) : ∀ (fl : Nat) (x1 : Int32) (x2 : Int32) (x3 : Int32) (x4 : Int32) (x5 : Int32) (S : Sg), f_X10_divides_L75 k60 fl x1 x2 x3 x4 x5 S = some z → gW p l e rm_X10_divides s m args below meth c D cy ad n A 7 0 0 (MQ below (gQ D cy ad n A none z) args s 0 0 A) S 75 [(0, .ref (ad 34)), (1, .int x1), (2, .int x2), (3, .int x3), (4, .int x4), (5, .int x5)] [] := by
  intro fl
  induction fl with
  | zero =>
    intro x1 x2 x3 x4 x5 S hz
    rw [f_X10_divides_L75] at hz
    cases hz
  | succ fl ih =>
    intro x1 x2 x3 x4 x5 S hz
    rw [f_X10_divides_L75] at hz
    refine g_iload C 77 5 rfl dX10_divides_75 rfl ?_
    refine g_iload_n C 78 2 rfl dX10_divides_77 rfl ?_
    refine g_icmp_ge C 158 81 dX10_divides_78 rfl rfl hz (fun hz => ?_) (fun hz => ?_)
    · refine g_iconst C 159 (0 : Int32) ci_0 dX10_divides_158 rfl ?_
      refine g_istore C 161 (i := 5) [1, 2, 3, 4, 5, 0] (fun x5_8 => [(0, .ref (ad 34)), (1, .int x1), (2, .int x2), (3, .int x3), (4, .int x4), (5, .int x5_8)]) dX10_divides_159 rfl (by decide) (fun x5_8 => rfl) hz (fun x5_8 hz => ?_)
      exact (t_X10_divides_L161 C hr hk60 fu) x1 x2 x3 x4 x5_8 S hz
    · refine g_iconst C 82 (0 : Int32) ci_0 dX10_divides_81 rfl ?_
      refine g_istore C 84 (i := 6) [1, 2, 3, 4, 5, 6, 0] (fun x6_11 => [(0, .ref (ad 34)), (1, .int x1), (2, .int x2), (3, .int x3), (4, .int x4), (5, .int x5), (6, .int x6_11)]) dX10_divides_82 rfl (by decide) (fun x6_11 => rfl) hz (fun x6_11 hz => ?_)
      exact (t_X10_divides_L84 C hr ih fu) x1 x2 x3 x4 x5 x6_11 S hz
set_option maxRecDepth 20000 in
theorem t_X10_divides_L60 {p : Program} {l : Launch} {e : Env} {s : State} {m : MethodId} {args : Array Value} {below : List Frame} {meth : Method} {c : Code} {D : va_G} {cy : Nat → ClassId} {ad : Nat → Nat} {n : Nat} {A : Nat → Prop} (C : gC p s m args meth c cX10_divides 7 RX10 D cy ad n A) (hr : meth.sig.returnType = none) {z : Sg} : ∀ (fl : Nat) (x1 : Int32) (x2 : Int32) (x3 : Int32) (x4 : Int32) (S : Sg), f_X10_divides_L60 fl x1 x2 x3 x4 S = some z → gW p l e rm_X10_divides s m args below meth c D cy ad n A 7 0 0 (MQ below (gQ D cy ad n A none z) args s 0 0 A) S 60 [(0, .ref (ad 34)), (1, .int x1), (2, .int x2), (3, .int x3), (4, .int x4)] [] := by
  intro fl
  induction fl with
  | zero =>
    intro x1 x2 x3 x4 S hz
    rw [f_X10_divides_L60] at hz
    cases hz
  | succ fl ih =>
    intro x1 x2 x3 x4 S hz
    rw [f_X10_divides_L60] at hz
    refine g_iload C 62 4 rfl dX10_divides_60 rfl ?_
    refine g_iload_n C 63 3 rfl dX10_divides_62 rfl ?_
    refine g_icmp_eq C 196 66 dX10_divides_63 rfl rfl hz (fun hz => ?_) (fun hz => ?_)
    · refine g_aload_n C 197 0 rfl dX10_divides_196 rfl ?_
      refine gf_10_52 C 200 dX10_divides_197 rfl ?_
      refine g_iload_n C 201 1 rfl dX10_divides_200 rfl ?_
      refine g_iload C 203 4 rfl dX10_divides_201 rfl ?_
      refine g_iast C 204 ha_47 dX10_divides_203 rfl hz (fun S_4 hz => ?_)
      exact g_vret C hr dX10_divides_204 hz
    · refine g_iload C 68 4 rfl dX10_divides_66 rfl ?_
      refine g_istore_n C 69 (i := 3) [1, 2, 3, 0] (fun x3_5 => [(0, .ref (ad 34)), (1, .int x1), (2, .int x2), (3, .int x3_5)]) dX10_divides_68 rfl rfl (by decide) (fun x3_5 => rfl) hz (fun x3_5 hz => ?_)
      refine g_iconst C 70 (0 : Int32) ci_0 dX10_divides_69 rfl ?_
      refine g_istore C 72 (i := 4) [1, 2, 3, 4, 0] (fun x4_6 => [(0, .ref (ad 34)), (1, .int x1), (2, .int x2), (3, .int x3_5), (4, .int x4_6)]) dX10_divides_70 rfl (by decide) (fun x4_6 => rfl) hz (fun x4_6 hz => ?_)
      refine g_iconst C 73 (0 : Int32) ci_0 dX10_divides_72 rfl ?_
      refine g_istore C 75 (i := 5) [1, 2, 3, 4, 5, 0] (fun x5_7 => [(0, .ref (ad 34)), (1, .int x1), (2, .int x2), (3, .int x3_5), (4, .int x4_6), (5, .int x5_7)]) dX10_divides_73 rfl (by decide) (fun x5_7 => rfl) hz (fun x5_7 hz => ?_)
      exact (t_X10_divides_L75 C hr ih fu) x1 x2 x3_5 x4_6 x5_7 S hz
set_option maxRecDepth 20000 in
theorem t_X10_divides_L2 {p : Program} {l : Launch} {e : Env} {s : State} {m : MethodId} {args : Array Value} {below : List Frame} {meth : Method} {c : Code} {D : va_G} {cy : Nat → ClassId} {ad : Nat → Nat} {n : Nat} {A : Nat → Prop} (C : gC p s m args meth c cX10_divides 7 RX10 D cy ad n A) (hr : meth.sig.returnType = none) {z : Sg} : ∀ (fl : Nat) (x1 : Int32) (x2 : Int32) (x3 : Int32) (S : Sg), f_X10_divides_L2 fl x1 x2 x3 S = some z → gW p l e rm_X10_divides s m args below meth c D cy ad n A 7 0 0 (MQ below (gQ D cy ad n A none z) args s 0 0 A) S 2 [(0, .ref (ad 34)), (1, .int x1), (2, .int x2), (3, .int x3)] [] := by
  intro fl
  induction fl with
  | zero =>
    intro x1 x2 x3 S hz
    rw [f_X10_divides_L2] at hz
    cases hz
  | succ fl ih =>
    intro x1 x2 x3 S hz
    rw [f_X10_divides_L2] at hz
    refine g_iload_n C 3 3 rfl dX10_divides_2 rfl ?_
    refine g_iload_n C 4 2 rfl dX10_divides_3 rfl ?_
    refine g_icmp_ge C 55 7 dX10_divides_4 rfl rfl hz (fun hz => ?_) (fun hz => ?_)
    · refine g_iconst C 56 (0 : Int32) ci_0 dX10_divides_55 rfl ?_
      refine g_istore_n C 57 (i := 3) [1, 2, 3, 0] (fun x3_2 => [(0, .ref (ad 34)), (1, .int x1), (2, .int x2), (3, .int x3_2)]) dX10_divides_56 rfl rfl (by decide) (fun x3_2 => rfl) hz (fun x3_2 hz => ?_)
      refine g_iconst C 58 (1 : Int32) ci_1 dX10_divides_57 rfl ?_
      refine g_istore C 60 (i := 4) [1, 2, 3, 4, 0] (fun x4_3 => [(0, .ref (ad 34)), (1, .int x1), (2, .int x2), (3, .int x3_2), (4, .int x4_3)]) dX10_divides_58 rfl (by decide) (fun x4_3 => rfl) hz (fun x4_3 hz => ?_)
      exact (t_X10_divides_L60 C hr fu) x1 x2 x3_2 x4_3 S hz
    · refine g_aload_n C 8 0 rfl dX10_divides_7 rfl ?_
      refine gf_10_64 C 11 dX10_divides_8 rfl ?_
      refine g_sipush C 14 (150 : Int32) cs_150 dX10_divides_11 rfl ?_
      refine g_iload_n C 15 1 rfl dX10_divides_14 rfl ?_
      refine g_imul C 16 dX10_divides_15 rfl ?_
      refine g_iload_n C 17 3 rfl dX10_divides_16 rfl ?_
      refine g_iadd C 18 dX10_divides_17 rfl ?_
      refine g_aload_n C 19 0 rfl dX10_divides_18 rfl ?_
      refine gf_10_58 C 22 dX10_divides_19 rfl ?_
      refine g_sipush C 25 (150 : Int32) cs_150 dX10_divides_22 rfl ?_
      refine g_iload_n C 26 1 rfl dX10_divides_25 rfl ?_
      refine g_imul C 27 dX10_divides_26 rfl ?_
      refine g_iload_n C 28 3 rfl dX10_divides_27 rfl ?_
      refine g_iadd C 29 dX10_divides_28 rfl ?_
      refine g_zald C 30 ha_49 dX10_divides_29 rfl hz (fun hz => ?_)
      refine g_aload_n C 31 0 rfl dX10_divides_30 rfl ?_
      refine gf_10_58 C 34 dX10_divides_31 rfl ?_
      refine g_sipush C 37 (150 : Int32) cs_150 dX10_divides_34 rfl ?_
      refine g_iload_n C 38 1 rfl dX10_divides_37 rfl ?_
      refine g_imul C 39 dX10_divides_38 rfl ?_
      refine g_zald C 40 ha_49 dX10_divides_39 rfl hz (fun hz => ?_)
      refine g_icmp_ne C 47 43 dX10_divides_40 rfl rfl hz (fun hz => ?_) (fun hz => ?_)
      · refine g_iconst C 48 (1 : Int32) ci_1 dX10_divides_47 rfl ?_
        refine g_iast C 49 ha_51 dX10_divides_48 rfl hz (fun S_20 hz => ?_)
        refine g_iinc C 52 3 [1, 2, 3, 0] (1 : Int32) ci_1 (fun x3_21 => [(0, .ref (ad 34)), (1, .int x1), (2, .int x2), (3, .int x3_21)]) dX10_divides_49 rfl rfl (by decide) (fun x3_21 => rfl) hz (fun x3_21 hz => ?_)
        refine g_goto C 2 dX10_divides_52 rfl ?_
        exact ih x1 x2 x3_21 S_20 hz
      · refine g_iconst C 44 (0 : Int32) ci_0 dX10_divides_43 rfl ?_
        refine g_goto C 48 dX10_divides_44 rfl ?_
        refine g_iast C 49 ha_51 dX10_divides_48 rfl hz (fun S_22 hz => ?_)
        refine g_iinc C 52 3 [1, 2, 3, 0] (1 : Int32) ci_1 (fun x3_23 => [(0, .ref (ad 34)), (1, .int x1), (2, .int x2), (3, .int x3_23)]) dX10_divides_49 rfl rfl (by decide) (fun x3_23 => rfl) hz (fun x3_23 hz => ?_)
        refine g_goto C 2 dX10_divides_52 rfl ?_
        exact ih x1 x2 x3_23 S_22 hz
set_option maxRecDepth 20000 in
theorem t_X10_divides {p : Program} {l : Launch} {e : Env} {s : State} {m : MethodId} {args : Array Value} {below : List Frame} {meth : Method} {c : Code} {D : va_G} {cy : Nat → ClassId} {ad : Nat → Nat} {n : Nat} {A : Nat → Prop} (C : gC p s m args meth c cX10_divides 7 RX10 D cy ad n A) (hr : meth.sig.returnType = none) {z : Sg} {S : Sg} {x1 : Int32} {x2 : Int32} (hz : f_X10_divides x1 x2 S = some z) : gW p l e rm_X10_divides s m args below meth c D cy ad n A 7 0 0 (MQ below (gQ D cy ad n A none z) args s 0 0 A) S 0 [(0, .ref (ad 34)), (1, .int x1), (2, .int x2)] [] := by
  unfold f_X10_divides at hz
  refine g_iconst C 1 (0 : Int32) ci_0 dX10_divides_0 rfl ?_
  refine g_istore_n C 2 (i := 3) [1, 2, 3, 0] (fun x3_1 => [(0, .ref (ad 34)), (1, .int x1), (2, .int x2), (3, .int x3_1)]) dX10_divides_1 rfl rfl (by decide) (fun x3_1 => rfl) hz (fun x3_1 hz => ?_)
  exact (t_X10_divides_L2 C hr fu) x1 x2 x3_1 S hz
theorem c_X10_divides (l : Launch) (D : va_G) (cy : Nat → ClassId) (ad : Nat → Nat) (n : Nat) (S : Sg) (sz : Nat) (x1 : Int32) (x2 : Int32) (z : Sg) (hz : f_X10_divides x1 x2 S = some z) : Met l yX10_divides (.code yX10_divides cX10_divides 7 none :: wsAll) rm_X10_divides (gPc D cy ad n S sz [.ref (ad 34), .int x1, .int x2]) (gQ D cy ad n (va_A (wW cy ad n S) sz) none z) 0 0 (va_A (wW cy ad n S) sz) := by
  refine gMet (lv := [(0, .ref (ad 34)), (1, .int x1), (2, .int x2)]) (by decide) (Nat.le_of_ble_eq_true rfl) rfl ?_
  intro p e s m args below meth c A hA hr C
  exact t_X10_divides C hr hz
