def rm_X10_shortest : Room := { frames := 2, cells := 0, slots := 0, locals := 44 }
set_option maxRecDepth 20000 in
theorem t_X10_shortest_L64 {p : Program} {l : Launch} {e : Env} {s : State} {m : MethodId} {args : Array Value} {below : List Frame} {meth : Method} {c : Code} {D : va_G} {cy : Nat → ClassId} {ad : Nat → Nat} {n : Nat} {A : Nat → Prop} (C : gC p s m args meth c cX10_shortest 5 RX10 D cy ad n A) (hr : meth.sig.returnType = (some .int)) {z : Int32 × Sg} : ∀ (fl : Nat) (x1 : Int32) (x3 : Int32) (x4 : Int32) (S : Sg), f_X10_shortest_L64 fl x1 x3 x4 S = some z → gW p l e rm_X10_shortest s m args below meth c D cy ad n A 5 0 0 (MQ below (gQ D cy ad n A (some (.int z.1)) z.2) args s 0 0 A) S 64 [(0, .ref (ad 34)), (1, .int x1), (3, .int x3), (4, .int x4)] [] := by
  intro fl
  induction fl with
  | zero =>
    intro x1 x3 x4 S hz
    rw [f_X10_shortest_L64] at hz
    cases hz
  | succ fl ih =>
    intro x1 x3 x4 S hz
    rw [f_X10_shortest_L64] at hz
    refine g_iload C 66 3 rfl dX10_shortest_64 rfl ?_
    refine g_if_le C 109 69 dX10_shortest_66 rfl rfl hz (fun hz => ?_) (fun hz => ?_)
    · refine g_aload_n C 110 0 rfl dX10_shortest_109 rfl ?_
      refine gf_10_305 C 113 dX10_shortest_110 rfl ?_
      exact g_iret C hr dX10_shortest_113 hz
    · refine g_iinc C 72 2 [1, 2, 0, 3] (-1 : Int32) ci_m1 (fun x3_8 => [(0, .ref (ad 34)), (1, .int x1), (3, .int x3_8), (4, .int x4)]) dX10_shortest_69 rfl rfl (by decide) (fun x3_8 => rfl) hz (fun x3_8 hz => ?_)
      refine g_aload_n C 73 0 rfl dX10_shortest_72 rfl ?_
      refine gf_10_73 C 76 dX10_shortest_73 rfl ?_
      refine g_iload_n C 77 2 rfl dX10_shortest_76 rfl ?_
      refine g_aload_n C 78 0 rfl dX10_shortest_77 rfl ?_
      refine gf_10_70 C 81 dX10_shortest_78 rfl ?_
      refine g_sipush C 84 (150 : Int32) cs_150 dX10_shortest_81 rfl ?_
      refine g_iload_n C 85 1 rfl dX10_shortest_84 rfl ?_
      refine g_imul C 86 dX10_shortest_85 rfl ?_
      refine g_iload C 88 3 rfl dX10_shortest_86 rfl ?_
      refine g_iadd C 89 dX10_shortest_88 rfl ?_
      refine g_iald C 90 ha_53 dX10_shortest_89 rfl hz (fun hz => ?_)
      refine g_iast C 91 ha_54 dX10_shortest_90 rfl hz (fun S_9 hz => ?_)
      refine g_aload_n C 92 0 rfl dX10_shortest_91 rfl ?_
      refine gf_10_67 C 95 dX10_shortest_92 rfl ?_
      refine g_sipush C 98 (150 : Int32) cs_150 dX10_shortest_95 rfl ?_
      refine g_iload_n C 99 1 rfl dX10_shortest_98 rfl ?_
      refine g_imul C 100 dX10_shortest_99 rfl ?_
      refine g_iload C 102 3 rfl dX10_shortest_100 rfl ?_
      refine g_iadd C 103 dX10_shortest_102 rfl ?_
      refine g_iald C 104 ha_52 dX10_shortest_103 rfl hz (fun hz => ?_)
      refine g_istore C 106 (i := 4) [1, 2, 3, 0] (fun x4_10 => [(0, .ref (ad 34)), (1, .int x1), (3, .int x3_8), (4, .int x4_10)]) dX10_shortest_104 rfl (by decide) (fun x4_10 => rfl) hz (fun x4_10 hz => ?_)
      refine g_goto C 64 dX10_shortest_106 rfl ?_
      exact ih x1 x3_8 x4_10 S_9 hz
set_option maxRecDepth 20000 in
theorem t_X10_shortest_L30 {p : Program} {l : Launch} {e : Env} {s : State} {m : MethodId} {args : Array Value} {below : List Frame} {meth : Method} {c : Code} {D : va_G} {cy : Nat → ClassId} {ad : Nat → Nat} {n : Nat} {A : Nat → Prop} (C : gC p s m args meth c cX10_shortest 5 RX10 D cy ad n A) (hr : meth.sig.returnType = (some .int)) {z : Int32 × Sg} : ∀ (fl : Nat) (x1 : Int32) (x2 : Int32) (x3 : Int32) (x4 : Int32) (S : Sg), f_X10_shortest_L30 fl x1 x2 x3 x4 S = some z → gW p l e rm_X10_shortest s m args below meth c D cy ad n A 5 0 0 (MQ below (gQ D cy ad n A (some (.int z.1)) z.2) args s 0 0 A) S 30 [(0, .ref (ad 34)), (1, .int x1), (2, .int x2), (3, .int x3), (4, .int x4)] [] := by
  intro fl
  induction fl with
  | zero =>
    intro x1 x2 x3 x4 S hz
    rw [f_X10_shortest_L30] at hz
    cases hz
  | succ fl ih =>
    intro x1 x2 x3 x4 S hz
    rw [f_X10_shortest_L30] at hz
    refine g_iload C 32 4 rfl dX10_shortest_30 rfl ?_
    refine g_if_le C 56 35 dX10_shortest_32 rfl rfl hz (fun hz => ?_) (fun hz => ?_)
    · refine g_aload_n C 57 0 rfl dX10_shortest_56 rfl ?_
      refine g_iload_n C 58 3 rfl dX10_shortest_57 rfl ?_
      refine pf_10_305 C 61 dX10_shortest_58 rfl hz (fun S_6 hz => ?_)
      refine g_iload_n C 62 2 rfl dX10_shortest_61 rfl ?_
      refine g_istore C 64 (i := 4) [1, 2, 4, 0] (fun x4_7 => [(0, .ref (ad 34)), (1, .int x1), (3, .int x3), (4, .int x4_7)]) dX10_shortest_62 rfl (by decide) (fun x4_7 => rfl) hz (fun x4_7 hz => ?_)
      exact (t_X10_shortest_L64 C hr fu) x1 x3 x4_7 S_6 hz
    · refine g_iinc C 38 3 [1, 2, 3, 0, 4] (1 : Int32) ci_1 (fun x3_11 => [(0, .ref (ad 34)), (1, .int x1), (2, .int x2), (3, .int x3_11), (4, .int x4)]) dX10_shortest_35 rfl rfl (by decide) (fun x3_11 => rfl) hz (fun x3_11 hz => ?_)
      refine g_aload_n C 39 0 rfl dX10_shortest_38 rfl ?_
      refine gf_10_67 C 42 dX10_shortest_39 rfl ?_
      refine g_sipush C 45 (150 : Int32) cs_150 dX10_shortest_42 rfl ?_
      refine g_iload_n C 46 1 rfl dX10_shortest_45 rfl ?_
      refine g_imul C 47 dX10_shortest_46 rfl ?_
      refine g_iload C 49 4 rfl dX10_shortest_47 rfl ?_
      refine g_iadd C 50 dX10_shortest_49 rfl ?_
      refine g_iald C 51 ha_52 dX10_shortest_50 rfl hz (fun hz => ?_)
      refine g_istore C 53 (i := 4) [1, 2, 3, 4, 0] (fun x4_12 => [(0, .ref (ad 34)), (1, .int x1), (2, .int x2), (3, .int x3_11), (4, .int x4_12)]) dX10_shortest_51 rfl (by decide) (fun x4_12 => rfl) hz (fun x4_12 hz => ?_)
      refine g_goto C 30 dX10_shortest_53 rfl ?_
      exact ih x1 x2 x3_11 x4_12 S hz
set_option maxRecDepth 20000 in
theorem t_X10_shortest_L17 {p : Program} {l : Launch} {e : Env} {s : State} {m : MethodId} {args : Array Value} {below : List Frame} {meth : Method} {c : Code} {D : va_G} {cy : Nat → ClassId} {ad : Nat → Nat} {n : Nat} {A : Nat → Prop} (C : gC p s m args meth c cX10_shortest 5 RX10 D cy ad n A) (hr : meth.sig.returnType = (some .int)) {z : Int32 × Sg} : ∀ (x1 : Int32) (t0 : Int32) (S : Sg), f_X10_shortest_L17 x1 t0 S = some z → gW p l e rm_X10_shortest s m args below meth c D cy ad n A 5 0 0 (MQ below (gQ D cy ad n A (some (.int z.1)) z.2) args s 0 0 A) S 17 [(0, .ref (ad 34)), (1, .int x1)] [.int t0] := by
  intro x1 t0 S hz
  unfold f_X10_shortest_L17 at hz
  refine g_istore_n C 18 (i := 2) [1, 2, 0] (fun x2_3 => [(0, .ref (ad 34)), (1, .int x1), (2, .int x2_3)]) dX10_shortest_17 rfl rfl (by decide) (fun x2_3 => rfl) hz (fun x2_3 hz => ?_)
  refine g_iload_n C 19 2 rfl dX10_shortest_18 rfl ?_
  refine g_iconst C 20 (-1 : Int32) ci_m1 dX10_shortest_19 rfl ?_
  refine g_icmp_ne C 25 23 dX10_shortest_20 rfl rfl hz (fun hz => ?_) (fun hz => ?_)
  · refine g_iconst C 26 (0 : Int32) ci_0 dX10_shortest_25 rfl ?_
    refine g_istore_n C 27 (i := 3) [1, 2, 3, 0] (fun x3_4 => [(0, .ref (ad 34)), (1, .int x1), (2, .int x2_3), (3, .int x3_4)]) dX10_shortest_26 rfl rfl (by decide) (fun x3_4 => rfl) hz (fun x3_4 hz => ?_)
    refine g_iload_n C 28 2 rfl dX10_shortest_27 rfl ?_
    refine g_istore C 30 (i := 4) [1, 2, 3, 4, 0] (fun x4_5 => [(0, .ref (ad 34)), (1, .int x1), (2, .int x2_3), (3, .int x3_4), (4, .int x4_5)]) dX10_shortest_28 rfl (by decide) (fun x4_5 => rfl) hz (fun x4_5 hz => ?_)
    exact (t_X10_shortest_L30 C hr fu) x1 x2_3 x3_4 x4_5 S hz
  · refine g_iconst C 24 (-1 : Int32) ci_m1 dX10_shortest_23 rfl ?_
    exact g_iret C hr dX10_shortest_24 hz
set_option maxRecDepth 20000 in
theorem t_X10_shortest {p : Program} {l : Launch} {e : Env} {s : State} {m : MethodId} {args : Array Value} {below : List Frame} {meth : Method} {c : Code} {D : va_G} {cy : Nat → ClassId} {ad : Nat → Nat} {n : Nat} {A : Nat → Prop} (C : gC p s m args meth c cX10_shortest 5 RX10 D cy ad n A) (hr : meth.sig.returnType = (some .int)) {z : Int32 × Sg} {S : Sg} {x1 : Int32} (hz : f_X10_shortest x1 S = some z) : gW p l e rm_X10_shortest s m args below meth c D cy ad n A 5 0 0 (MQ below (gQ D cy ad n A (some (.int z.1)) z.2) args s 0 0 A) S 0 [(0, .ref (ad 34)), (1, .int x1)] [] := by
  unfold f_X10_shortest at hz
  refine g_aload_n C 1 0 rfl dX10_shortest_0 rfl ?_
  refine g_iload_n C 2 1 rfl dX10_shortest_1 rfl ?_
  refine cl_10_281 C 5 ⟨Nat.le_of_ble_eq_true rfl, Nat.le_of_ble_eq_true rfl⟩ ⟨Nat.zero_le _, Nat.zero_le _⟩ (Nat.le_of_ble_eq_true rfl) dX10_shortest_2 rfl hz (fun r_2 S_1 hz => ?_)
  refine g_if_eq C 16 8 dX10_shortest_5 rfl rfl hz (fun hz => ?_) (fun hz => ?_)
  · refine g_iconst C 17 (-1 : Int32) ci_m1 dX10_shortest_16 rfl ?_
    exact (t_X10_shortest_L17 C hr) x1 ((-1 : Int32)) S_1 hz
  · refine g_aload_n C 9 0 rfl dX10_shortest_8 rfl ?_
    refine g_iload_n C 10 1 rfl dX10_shortest_9 rfl ?_
    refine cl_10_291 C 13 ⟨Nat.le_of_ble_eq_true rfl, Nat.le_of_ble_eq_true rfl⟩ ⟨Nat.zero_le _, Nat.zero_le _⟩ (Nat.le_of_ble_eq_true rfl) dX10_shortest_10 rfl hz (fun r_14 S_13 hz => ?_)
    refine g_goto C 17 dX10_shortest_13 rfl ?_
    exact (t_X10_shortest_L17 C hr) x1 r_14 S_13 hz
theorem c_X10_shortest (l : Launch) (D : va_G) (cy : Nat → ClassId) (ad : Nat → Nat) (n : Nat) (S : Sg) (sz : Nat) (x1 : Int32) (z : Int32 × Sg) (hz : f_X10_shortest x1 S = some z) : Met l yX10_shortest (.code yX10_shortest cX10_shortest 5 (some .int) :: wsAll) rm_X10_shortest (gPc D cy ad n S sz [.ref (ad 34), .int x1]) (gQ D cy ad n (va_A (wW cy ad n S) sz) (some (.int z.1)) z.2) 0 0 (va_A (wW cy ad n S) sz) := by
  refine gMet (lv := [(0, .ref (ad 34)), (1, .int x1)]) (by decide) (Nat.le_of_ble_eq_true rfl) rfl ?_
  intro p e s m args below meth c A hA hr C
  exact t_X10_shortest C hr hz
def rm_X10_meets : Room := { frames := 0, cells := 0, slots := 0, locals := 0 }
set_option maxRecDepth 20000 in
theorem t_X10_meets {p : Program} {l : Launch} {e : Env} {s : State} {m : MethodId} {args : Array Value} {below : List Frame} {meth : Method} {c : Code} {D : va_G} {cy : Nat → ClassId} {ad : Nat → Nat} {n : Nat} {A : Nat → Prop} (C : gC p s m args meth c cX10_meets 4 RX10 D cy ad n A) (hr : meth.sig.returnType = none) {z : Sg} {S : Sg} {x1 : Int32} {x2 : Int32} {x3 : Int32} (hz : f_X10_meets x1 x2 x3 S = some z) : gW p l e rm_X10_meets s m args below meth c D cy ad n A 4 0 0 (MQ below (gQ D cy ad n A none z) args s 0 0 A) S 0 [(0, .ref (ad 34)), (1, .int x1), (2, .int x2), (3, .int x3)] [] := by
  unfold f_X10_meets at hz
  refine g_aload_n C 1 0 rfl dX10_meets_0 rfl ?_
  refine gf_10_146 C 4 dX10_meets_1 rfl ?_
  refine g_iload_n C 5 1 rfl dX10_meets_4 rfl ?_
  refine g_zald C 6 ha_78 dX10_meets_5 rfl hz (fun hz => ?_)
  refine g_if_eq C 10 9 dX10_meets_6 rfl rfl hz (fun hz => ?_) (fun hz => ?_)
  · refine g_aload_n C 11 0 rfl dX10_meets_10 rfl ?_
    refine gf_10_146 C 14 dX10_meets_11 rfl ?_
    refine g_iload_n C 15 1 rfl dX10_meets_14 rfl ?_
    refine g_iconst C 16 (1 : Int32) ci_1 dX10_meets_15 rfl ?_
    refine g_zast C 17 ha_78 dX10_meets_16 rfl hz (fun S_1 hz => ?_)
    refine g_aload_n C 18 0 rfl dX10_meets_17 rfl ?_
    refine gf_10_137 C 21 dX10_meets_18 rfl ?_
    refine g_aload_n C 22 0 rfl dX10_meets_21 rfl ?_
    refine gf_10_308 C 25 dX10_meets_22 rfl ?_
    refine g_iload_n C 26 1 rfl dX10_meets_25 rfl ?_
    refine g_iast C 27 ha_75 dX10_meets_26 rfl hz (fun S_2 hz => ?_)
    refine g_aload_n C 28 0 rfl dX10_meets_27 rfl ?_
    refine gf_10_140 C 31 dX10_meets_28 rfl ?_
    refine g_aload_n C 32 0 rfl dX10_meets_31 rfl ?_
    refine gf_10_308 C 35 dX10_meets_32 rfl ?_
    refine g_iload_n C 36 2 rfl dX10_meets_35 rfl ?_
    refine g_iast C 37 ha_76 dX10_meets_36 rfl hz (fun S_3 hz => ?_)
    refine g_aload_n C 38 0 rfl dX10_meets_37 rfl ?_
    refine gf_10_143 C 41 dX10_meets_38 rfl ?_
    refine g_aload_n C 42 0 rfl dX10_meets_41 rfl ?_
    refine gf_10_308 C 45 dX10_meets_42 rfl ?_
    refine g_iload_n C 46 3 rfl dX10_meets_45 rfl ?_
    refine g_iast C 47 ha_77 dX10_meets_46 rfl hz (fun S_4 hz => ?_)
    refine g_aload_n C 48 0 rfl dX10_meets_47 rfl ?_
    refine g_dup C 49 rfl dX10_meets_48 rfl ?_
    refine gf_10_308 C 52 dX10_meets_49 rfl ?_
    refine g_iconst C 53 (1 : Int32) ci_1 dX10_meets_52 rfl ?_
    refine g_iadd C 54 dX10_meets_53 rfl ?_
    refine pf_10_308 C 57 dX10_meets_54 rfl hz (fun S_5 hz => ?_)
    exact g_vret C hr dX10_meets_57 hz
  · exact g_vret C hr dX10_meets_9 hz
theorem c_X10_meets (l : Launch) (D : va_G) (cy : Nat → ClassId) (ad : Nat → Nat) (n : Nat) (S : Sg) (sz : Nat) (x1 : Int32) (x2 : Int32) (x3 : Int32) (z : Sg) (hz : f_X10_meets x1 x2 x3 S = some z) : Met l yX10_meets (.code yX10_meets cX10_meets 4 none :: wsAll) rm_X10_meets (gPc D cy ad n S sz [.ref (ad 34), .int x1, .int x2, .int x3]) (gQ D cy ad n (va_A (wW cy ad n S) sz) none z) 0 0 (va_A (wW cy ad n S) sz) := by
  refine gMet (lv := [(0, .ref (ad 34)), (1, .int x1), (2, .int x2), (3, .int x3)]) (by decide) (Nat.le_of_ble_eq_true rfl) rfl ?_
  intro p e s m args below meth c A hA hr C
  exact t_X10_meets C hr hz
def rm_X10_walks : Room := { frames := 1, cells := 0, slots := 0, locals := 23 }
theorem wl_10_311 : Cond.methodLink RX10 311 yX10_meets ∈ wsAll := wA 986 (by decide +kernel) (by decide +kernel)
theorem wi_X10_meets : Cond.instanceMethod yX10_meets ∈ wsAll := wA 988 (by decide +kernel) (by decide +kernel)
theorem we_X10_meets : Cond.selects RX10 yX10_meets yX10_meets ∈ wsAll := wAp 85 (by decide +kernel) (by decide +kernel)
theorem wo_X10_meets : Cond.code yX10_meets cX10_meets 4 none ∈ wsAll := wA 989 (by decide +kernel) (by decide +kernel)
theorem cl_10_311 {p : Program} {l : Launch} {e : Env} {R : Room} {s : State} {m : MethodId} {args : Array Value} {below : List Frame} {meth : Method} {c : Code} {cc : ByteArray} {nL : Nat} {D : va_G} {cy : Nat → ClassId} {ad : Nat → Nat} {n : Nat} {A : Nat → Prop} {mc ms : Nat} {Q : State → Prop} {S : Sg} {pc : Nat} {lv : List (Nat × Value)} {st : List Value} {ζ : Type} {z : ζ} (C : gC p s m args meth c cc nL RX10 D cy ad n A) (nx : Nat) {x1 : Int32} {x2 : Int32} {x3 : Int32} (hR : Room.frames rm_X10_meets + 1 ≤ R.frames ∧ 8 + (4 + 11) + Room.locals rm_X10_meets ≤ R.locals) (hcm : mc ≤ R.cells ∧ ms ≤ R.slots) (hrest : (st.map fun v => v.category).sum ≤ 8) (hd : decode cc pc = .ok (.invokevirtual 311, 3)) (hn : pc + 3 = nx) {K : Sg → Option ζ} (hz : bd (f_X10_meets x1 x2 x3 S) K = some z) (kk : ∀ S', K S' = some z → gW p l e R s m args below meth c D cy ad n A nL mc ms Q S' nx lv st) : gW p l e R s m args below meth c D cy ad n A nL mc ms Q S pc lv (.int x3 :: .int x2 :: .int x1 :: .ref (ad 34) :: st) := by
  obtain ⟨q, hq, hk⟩ := bd_s hz
  exact g_callV C (i := 34) (ci := 10) (Cn := RX10) (T := TX10) (N := 59) (y := yX10_meets) (rm := rm_X10_meets) (As := [.int x1, .int x2, .int x3]) (rest := st) (na := 3) (fun sz => c_X10_meets l D cy ad n S sz x1 x2 x3 q hq) ha_34 rfl rfl wl_10_311 wi_X10_meets we_X10_meets wz_10 wo_X10_meets (by decide +kernel) rfl rfl hR hcm rfl hrest hn hd (kk q hk)
set_option maxRecDepth 20000 in
theorem t_X10_walks_L47 {p : Program} {l : Launch} {e : Env} {s : State} {m : MethodId} {args : Array Value} {below : List Frame} {meth : Method} {c : Code} {D : va_G} {cy : Nat → ClassId} {ad : Nat → Nat} {n : Nat} {A : Nat → Prop} (C : gC p s m args meth c cX10_walks 5 RX10 D cy ad n A) (hr : meth.sig.returnType = none) {z : Sg} {k36 : Int32 → Int32 → Int32 → Sg → Option (Sg)} (hk36 : ∀ (x1 : Int32) (x2 : Int32) (x3 : Int32) (S : Sg), k36 x1 x2 x3 S = some z → gW p l e rm_X10_walks s m args below meth c D cy ad n A 5 0 0 (MQ below (gQ D cy ad n A none z) args s 0 0 A) S 36 [(0, .ref (ad 34)), (1, .int x1), (2, .int x2), (3, .int x3)] []) : ∀ (fl : Nat) (x1 : Int32) (x2 : Int32) (x3 : Int32) (x4 : Int32) (S : Sg), f_X10_walks_L47 k36 fl x1 x2 x3 x4 S = some z → gW p l e rm_X10_walks s m args below meth c D cy ad n A 5 0 0 (MQ below (gQ D cy ad n A none z) args s 0 0 A) S 47 [(0, .ref (ad 34)), (1, .int x1), (2, .int x2), (3, .int x3), (4, .int x4)] [] := by
  intro fl
  induction fl with
  | zero =>
    intro x1 x2 x3 x4 S hz
    rw [f_X10_walks_L47] at hz
    cases hz
  | succ fl ih =>
    intro x1 x2 x3 x4 S hz
    rw [f_X10_walks_L47] at hz
    refine g_iload C 49 4 rfl dX10_walks_47 rfl ?_
    refine g_iconst C 50 (4 : Int32) ci_4 dX10_walks_49 rfl ?_
    refine g_icmp_ge C 105 53 dX10_walks_50 rfl rfl hz (fun hz => ?_) (fun hz => ?_)
    · refine g_iinc C 108 3 [1, 2, 3, 0] (1 : Int32) ci_1 (fun x3_6 => [(0, .ref (ad 34)), (1, .int x1), (2, .int x2), (3, .int x3_6)]) dX10_walks_105 rfl rfl (by decide) (fun x3_6 => rfl) hz (fun x3_6 hz => ?_)
      refine g_goto C 36 dX10_walks_108 rfl ?_
      exact hk36 x1 x2 x3_6 S hz
    · refine g_aload_n C 54 0 rfl dX10_walks_53 rfl ?_
      refine g_sipush C 57 (150 : Int32) cs_150 dX10_walks_54 rfl ?_
      refine g_aload_n C 58 0 rfl dX10_walks_57 rfl ?_
      refine g_iload_n C 59 1 rfl dX10_walks_58 rfl ?_
      refine g_aload_n C 60 0 rfl dX10_walks_59 rfl ?_
      refine gf_10_137 C 63 dX10_walks_60 rfl ?_
      refine g_iload_n C 64 3 rfl dX10_walks_63 rfl ?_
      refine g_iald C 65 ha_75 dX10_walks_64 rfl hz (fun hz => ?_)
      refine g_sipush C 68 (150 : Int32) cs_150 dX10_walks_65 rfl ?_
      refine g_idiv C 69 dX10_walks_68 rfl hz (fun hz => ?_)
      refine g_iload C 71 4 rfl dX10_walks_69 rfl ?_
      refine cl_10_287 C 74 ⟨Nat.le_of_ble_eq_true rfl, Nat.le_of_ble_eq_true rfl⟩ ⟨Nat.zero_le _, Nat.zero_le _⟩ (Nat.le_of_ble_eq_true rfl) dX10_walks_71 rfl hz (fun r_8 S_7 hz => ?_)
      refine g_imul C 75 dX10_walks_74 rfl ?_
      refine g_aload_n C 76 0 rfl dX10_walks_75 rfl ?_
      refine g_iload_n C 77 2 rfl dX10_walks_76 rfl ?_
      refine g_aload_n C 78 0 rfl dX10_walks_77 rfl ?_
      refine gf_10_137 C 81 dX10_walks_78 rfl ?_
      refine g_iload_n C 82 3 rfl dX10_walks_81 rfl ?_
      refine g_iald C 83 ha_75 dX10_walks_82 rfl hz (fun hz => ?_)
      refine g_sipush C 86 (150 : Int32) cs_150 dX10_walks_83 rfl ?_
      refine g_irem C 87 dX10_walks_86 rfl hz (fun hz => ?_)
      refine g_iload C 89 4 rfl dX10_walks_87 rfl ?_
      refine cl_10_287 C 92 ⟨Nat.le_of_ble_eq_true rfl, Nat.le_of_ble_eq_true rfl⟩ ⟨Nat.zero_le _, Nat.zero_le _⟩ (Nat.le_of_ble_eq_true rfl) dX10_walks_89 rfl hz (fun r_10 S_9 hz => ?_)
      refine g_iadd C 93 dX10_walks_92 rfl ?_
      refine g_iload_n C 94 3 rfl dX10_walks_93 rfl ?_
      refine g_iload C 96 4 rfl dX10_walks_94 rfl ?_
      refine cl_10_311 C 99 ⟨Nat.le_of_ble_eq_true rfl, Nat.le_of_ble_eq_true rfl⟩ ⟨Nat.zero_le _, Nat.zero_le _⟩ (Nat.le_of_ble_eq_true rfl) dX10_walks_96 rfl hz (fun S_11 hz => ?_)
      refine g_iinc C 102 4 [1, 2, 3, 4, 0] (1 : Int32) ci_1 (fun x4_12 => [(0, .ref (ad 34)), (1, .int x1), (2, .int x2), (3, .int x3), (4, .int x4_12)]) dX10_walks_99 rfl rfl (by decide) (fun x4_12 => rfl) hz (fun x4_12 hz => ?_)
      refine g_goto C 47 dX10_walks_102 rfl ?_
      exact ih x1 x2 x3 x4_12 S_11 hz
set_option maxRecDepth 20000 in
theorem t_X10_walks_L36 {p : Program} {l : Launch} {e : Env} {s : State} {m : MethodId} {args : Array Value} {below : List Frame} {meth : Method} {c : Code} {D : va_G} {cy : Nat → ClassId} {ad : Nat → Nat} {n : Nat} {A : Nat → Prop} (C : gC p s m args meth c cX10_walks 5 RX10 D cy ad n A) (hr : meth.sig.returnType = none) {z : Sg} : ∀ (fl : Nat) (x1 : Int32) (x2 : Int32) (x3 : Int32) (S : Sg), f_X10_walks_L36 fl x1 x2 x3 S = some z → gW p l e rm_X10_walks s m args below meth c D cy ad n A 5 0 0 (MQ below (gQ D cy ad n A none z) args s 0 0 A) S 36 [(0, .ref (ad 34)), (1, .int x1), (2, .int x2), (3, .int x3)] [] := by
  intro fl
  induction fl with
  | zero =>
    intro x1 x2 x3 S hz
    rw [f_X10_walks_L36] at hz
    cases hz
  | succ fl ih =>
    intro x1 x2 x3 S hz
    rw [f_X10_walks_L36] at hz
    refine g_iload_n C 37 3 rfl dX10_walks_36 rfl ?_
    refine g_aload_n C 38 0 rfl dX10_walks_37 rfl ?_
    refine gf_10_308 C 41 dX10_walks_38 rfl ?_
    refine g_icmp_ge C 111 44 dX10_walks_41 rfl rfl hz (fun hz => ?_) (fun hz => ?_)
    · exact g_vret C hr dX10_walks_111 hz
    · refine g_iconst C 45 (0 : Int32) ci_0 dX10_walks_44 rfl ?_
      refine g_istore C 47 (i := 4) [1, 2, 3, 4, 0] (fun x4_5 => [(0, .ref (ad 34)), (1, .int x1), (2, .int x2), (3, .int x3), (4, .int x4_5)]) dX10_walks_45 rfl (by decide) (fun x4_5 => rfl) hz (fun x4_5 hz => ?_)
      exact (t_X10_walks_L47 C hr ih fu) x1 x2 x3 x4_5 S hz
set_option maxRecDepth 20000 in
theorem t_X10_walks_L2 {p : Program} {l : Launch} {e : Env} {s : State} {m : MethodId} {args : Array Value} {below : List Frame} {meth : Method} {c : Code} {D : va_G} {cy : Nat → ClassId} {ad : Nat → Nat} {n : Nat} {A : Nat → Prop} (C : gC p s m args meth c cX10_walks 5 RX10 D cy ad n A) (hr : meth.sig.returnType = none) {z : Sg} : ∀ (fl : Nat) (x1 : Int32) (x2 : Int32) (x3 : Int32) (S : Sg), f_X10_walks_L2 fl x1 x2 x3 S = some z → gW p l e rm_X10_walks s m args below meth c D cy ad n A 5 0 0 (MQ below (gQ D cy ad n A none z) args s 0 0 A) S 2 [(0, .ref (ad 34)), (1, .int x1), (2, .int x2), (3, .int x3)] [] := by
  intro fl
  induction fl with
  | zero =>
    intro x1 x2 x3 S hz
    rw [f_X10_walks_L2] at hz
    cases hz
  | succ fl ih =>
    intro x1 x2 x3 S hz
    rw [f_X10_walks_L2] at hz
    refine g_iload_n C 3 3 rfl dX10_walks_2 rfl ?_
    refine g_sipush C 6 (22500 : Int32) cs_22500 dX10_walks_3 rfl ?_
    refine g_icmp_ge C 22 9 dX10_walks_6 rfl rfl hz (fun hz => ?_) (fun hz => ?_)
    · refine g_aload_n C 23 0 rfl dX10_walks_22 rfl ?_
      refine g_iconst C 24 (0 : Int32) ci_0 dX10_walks_23 rfl ?_
      refine pf_10_308 C 27 dX10_walks_24 rfl hz (fun S_2 hz => ?_)
      refine g_aload_n C 28 0 rfl dX10_walks_27 rfl ?_
      refine g_iconst C 29 (0 : Int32) ci_0 dX10_walks_28 rfl ?_
      refine g_iconst C 30 (-1 : Int32) ci_m1 dX10_walks_29 rfl ?_
      refine g_iconst C 31 (0 : Int32) ci_0 dX10_walks_30 rfl ?_
      refine cl_10_311 C 34 ⟨Nat.le_of_ble_eq_true rfl, Nat.le_of_ble_eq_true rfl⟩ ⟨Nat.zero_le _, Nat.zero_le _⟩ (Nat.le_of_ble_eq_true rfl) dX10_walks_31 rfl hz (fun S_3 hz => ?_)
      refine g_iconst C 35 (0 : Int32) ci_0 dX10_walks_34 rfl ?_
      refine g_istore_n C 36 (i := 3) [1, 2, 3, 0] (fun x3_4 => [(0, .ref (ad 34)), (1, .int x1), (2, .int x2), (3, .int x3_4)]) dX10_walks_35 rfl rfl (by decide) (fun x3_4 => rfl) hz (fun x3_4 hz => ?_)
      exact (t_X10_walks_L36 C hr fu) x1 x2 x3_4 S_3 hz
    · refine g_aload_n C 10 0 rfl dX10_walks_9 rfl ?_
      refine gf_10_146 C 13 dX10_walks_10 rfl ?_
      refine g_iload_n C 14 3 rfl dX10_walks_13 rfl ?_
      refine g_iconst C 15 (0 : Int32) ci_0 dX10_walks_14 rfl ?_
      refine g_zast C 16 ha_78 dX10_walks_15 rfl hz (fun S_13 hz => ?_)
      refine g_iinc C 19 3 [1, 2, 3, 0] (1 : Int32) ci_1 (fun x3_14 => [(0, .ref (ad 34)), (1, .int x1), (2, .int x2), (3, .int x3_14)]) dX10_walks_16 rfl rfl (by decide) (fun x3_14 => rfl) hz (fun x3_14 hz => ?_)
      refine g_goto C 2 dX10_walks_19 rfl ?_
      exact ih x1 x2 x3_14 S_13 hz
set_option maxRecDepth 20000 in
theorem t_X10_walks {p : Program} {l : Launch} {e : Env} {s : State} {m : MethodId} {args : Array Value} {below : List Frame} {meth : Method} {c : Code} {D : va_G} {cy : Nat → ClassId} {ad : Nat → Nat} {n : Nat} {A : Nat → Prop} (C : gC p s m args meth c cX10_walks 5 RX10 D cy ad n A) (hr : meth.sig.returnType = none) {z : Sg} {S : Sg} {x1 : Int32} {x2 : Int32} (hz : f_X10_walks x1 x2 S = some z) : gW p l e rm_X10_walks s m args below meth c D cy ad n A 5 0 0 (MQ below (gQ D cy ad n A none z) args s 0 0 A) S 0 [(0, .ref (ad 34)), (1, .int x1), (2, .int x2)] [] := by
  unfold f_X10_walks at hz
  refine g_iconst C 1 (0 : Int32) ci_0 dX10_walks_0 rfl ?_
  refine g_istore_n C 2 (i := 3) [1, 2, 3, 0] (fun x3_1 => [(0, .ref (ad 34)), (1, .int x1), (2, .int x2), (3, .int x3_1)]) dX10_walks_1 rfl rfl (by decide) (fun x3_1 => rfl) hz (fun x3_1 hz => ?_)
  exact (t_X10_walks_L2 C hr fu) x1 x2 x3_1 S hz
theorem c_X10_walks (l : Launch) (D : va_G) (cy : Nat → ClassId) (ad : Nat → Nat) (n : Nat) (S : Sg) (sz : Nat) (x1 : Int32) (x2 : Int32) (z : Sg) (hz : f_X10_walks x1 x2 S = some z) : Met l yX10_walks (.code yX10_walks cX10_walks 5 none :: wsAll) rm_X10_walks (gPc D cy ad n S sz [.ref (ad 34), .int x1, .int x2]) (gQ D cy ad n (va_A (wW cy ad n S) sz) none z) 0 0 (va_A (wW cy ad n S) sz) := by
  refine gMet (lv := [(0, .ref (ad 34)), (1, .int x1), (2, .int x2)]) (by decide) (Nat.le_of_ble_eq_true rfl) rfl ?_
  intro p e s m args below meth c A hA hr C
  exact t_X10_walks C hr hz
def rm_X10_compare : Room := { frames := 2, cells := 0, slots := 0, locals := 47 }
theorem wl_10_314 : Cond.methodLink RX10 314 yX10_walks ∈ wsAll := wA 982 (by decide +kernel) (by decide +kernel)
theorem wi_X10_walks : Cond.instanceMethod yX10_walks ∈ wsAll := wA 984 (by decide +kernel) (by decide +kernel)
theorem we_X10_walks : Cond.selects RX10 yX10_walks yX10_walks ∈ wsAll := wAp 84 (by decide +kernel) (by decide +kernel)
theorem wo_X10_walks : Cond.code yX10_walks cX10_walks 5 none ∈ wsAll := wA 985 (by decide +kernel) (by decide +kernel)
theorem cl_10_314 {p : Program} {l : Launch} {e : Env} {R : Room} {s : State} {m : MethodId} {args : Array Value} {below : List Frame} {meth : Method} {c : Code} {cc : ByteArray} {nL : Nat} {D : va_G} {cy : Nat → ClassId} {ad : Nat → Nat} {n : Nat} {A : Nat → Prop} {mc ms : Nat} {Q : State → Prop} {S : Sg} {pc : Nat} {lv : List (Nat × Value)} {st : List Value} {ζ : Type} {z : ζ} (C : gC p s m args meth c cc nL RX10 D cy ad n A) (nx : Nat) {x1 : Int32} {x2 : Int32} (hR : Room.frames rm_X10_walks + 1 ≤ R.frames ∧ 8 + (5 + 11) + Room.locals rm_X10_walks ≤ R.locals) (hcm : mc ≤ R.cells ∧ ms ≤ R.slots) (hrest : (st.map fun v => v.category).sum ≤ 8) (hd : decode cc pc = .ok (.invokevirtual 314, 3)) (hn : pc + 3 = nx) {K : Sg → Option ζ} (hz : bd (f_X10_walks x1 x2 S) K = some z) (kk : ∀ S', K S' = some z → gW p l e R s m args below meth c D cy ad n A nL mc ms Q S' nx lv st) : gW p l e R s m args below meth c D cy ad n A nL mc ms Q S pc lv (.int x2 :: .int x1 :: .ref (ad 34) :: st) := by
  obtain ⟨q, hq, hk⟩ := bd_s hz
  exact g_callV C (i := 34) (ci := 10) (Cn := RX10) (T := TX10) (N := 59) (y := yX10_walks) (rm := rm_X10_walks) (As := [.int x1, .int x2]) (rest := st) (na := 2) (fun sz => c_X10_walks l D cy ad n S sz x1 x2 q hq) ha_34 rfl rfl wl_10_314 wi_X10_walks we_X10_walks wz_10 wo_X10_walks (by decide +kernel) rfl rfl hR hcm rfl hrest hn hd (kk q hk)
set_option maxRecDepth 20000 in
theorem t_X10_compare_L89 {p : Program} {l : Launch} {e : Env} {s : State} {m : MethodId} {args : Array Value} {below : List Frame} {meth : Method} {c : Code} {D : va_G} {cy : Nat → ClassId} {ad : Nat → Nat} {n : Nat} {A : Nat → Prop} (C : gC p s m args meth c cX10_compare 7 RX10 D cy ad n A) (hr : meth.sig.returnType = (some .int)) {z : Int32 × Sg} {k29 : Int32 → Int32 → Int32 → Int32 → Sg → Option (Int32 × Sg)} (hk29 : ∀ (x1 : Int32) (x2 : Int32) (x3 : Int32) (x4 : Int32) (S : Sg), k29 x1 x2 x3 x4 S = some z → gW p l e rm_X10_compare s m args below meth c D cy ad n A 7 0 0 (MQ below (gQ D cy ad n A (some (.int z.1)) z.2) args s 0 0 A) S 29 [(0, .ref (ad 34)), (1, .int x1), (2, .int x2), (3, .int x3), (4, .int x4)] []) : ∀ (x1 : Int32) (x2 : Int32) (x4 : Int32) (x5 : Int32) (x6 : Int32) (t0 : Int32) (S : Sg), f_X10_compare_L89 k29 x1 x2 x4 x5 x6 t0 S = some z → gW p l e rm_X10_compare s m args below meth c D cy ad n A 7 0 0 (MQ below (gQ D cy ad n A (some (.int z.1)) z.2) args s 0 0 A) S 89 [(0, .ref (ad 34)), (1, .int x1), (2, .int x2), (4, .int x4), (5, .int x5), (6, .int x6)] [.int t0] := by
  intro x1 x2 x4 x5 x6 t0 S hz
  unfold f_X10_compare_L89 at hz
  refine g_iload C 91 5 rfl dX10_compare_89 rfl ?_
  refine g_if_eq C 103 94 dX10_compare_91 rfl rfl hz (fun hz => ?_) (fun hz => ?_)
  · refine g_iconst C 104 (0 : Int32) ci_0 dX10_compare_103 rfl ?_
    refine g_ior C 105 dX10_compare_104 rfl ?_
    refine g_istore_n C 106 (i := 3) [1, 2, 3, 0, 4] (fun x3_14 => [(0, .ref (ad 34)), (1, .int x1), (2, .int x2), (3, .int x3_14), (4, .int x4)]) dX10_compare_105 rfl rfl (by decide) (fun x3_14 => rfl) hz (fun x3_14 hz => ?_)
    refine g_iinc C 109 4 [1, 2, 3, 4, 0] (1 : Int32) ci_1 (fun x4_15 => [(0, .ref (ad 34)), (1, .int x1), (2, .int x2), (3, .int x3_14), (4, .int x4_15)]) dX10_compare_106 rfl rfl (by decide) (fun x4_15 => rfl) hz (fun x4_15 hz => ?_)
    refine g_goto C 29 dX10_compare_109 rfl ?_
    exact hk29 x1 x2 x3_14 x4_15 S hz
  · refine g_iload C 96 4 rfl dX10_compare_94 rfl ?_
    refine g_if_ne C 103 99 dX10_compare_96 rfl rfl hz (fun hz => ?_) (fun hz => ?_)
    · refine g_iconst C 104 (0 : Int32) ci_0 dX10_compare_103 rfl ?_
      refine g_ior C 105 dX10_compare_104 rfl ?_
      refine g_istore_n C 106 (i := 3) [1, 2, 3, 0, 4] (fun x3_16 => [(0, .ref (ad 34)), (1, .int x1), (2, .int x2), (3, .int x3_16), (4, .int x4)]) dX10_compare_105 rfl rfl (by decide) (fun x3_16 => rfl) hz (fun x3_16 hz => ?_)
      refine g_iinc C 109 4 [1, 2, 3, 4, 0] (1 : Int32) ci_1 (fun x4_17 => [(0, .ref (ad 34)), (1, .int x1), (2, .int x2), (3, .int x3_16), (4, .int x4_17)]) dX10_compare_106 rfl rfl (by decide) (fun x4_17 => rfl) hz (fun x4_17 hz => ?_)
      refine g_goto C 29 dX10_compare_109 rfl ?_
      exact hk29 x1 x2 x3_16 x4_17 S hz
    · refine g_iconst C 100 (2 : Int32) ci_2 dX10_compare_99 rfl ?_
      refine g_goto C 104 dX10_compare_100 rfl ?_
      refine g_ior C 105 dX10_compare_104 rfl ?_
      refine g_istore_n C 106 (i := 3) [1, 2, 3, 0, 4] (fun x3_18 => [(0, .ref (ad 34)), (1, .int x1), (2, .int x2), (3, .int x3_18), (4, .int x4)]) dX10_compare_105 rfl rfl (by decide) (fun x3_18 => rfl) hz (fun x3_18 hz => ?_)
      refine g_iinc C 109 4 [1, 2, 3, 4, 0] (1 : Int32) ci_1 (fun x4_19 => [(0, .ref (ad 34)), (1, .int x1), (2, .int x2), (3, .int x3_18), (4, .int x4_19)]) dX10_compare_106 rfl rfl (by decide) (fun x4_19 => rfl) hz (fun x4_19 hz => ?_)
      refine g_goto C 29 dX10_compare_109 rfl ?_
      exact hk29 x1 x2 x3_18 x4_19 S hz
set_option maxRecDepth 20000 in
theorem t_X10_compare_L29 {p : Program} {l : Launch} {e : Env} {s : State} {m : MethodId} {args : Array Value} {below : List Frame} {meth : Method} {c : Code} {D : va_G} {cy : Nat → ClassId} {ad : Nat → Nat} {n : Nat} {A : Nat → Prop} (C : gC p s m args meth c cX10_compare 7 RX10 D cy ad n A) (hr : meth.sig.returnType = (some .int)) {z : Int32 × Sg} : ∀ (fl : Nat) (x1 : Int32) (x2 : Int32) (x3 : Int32) (x4 : Int32) (S : Sg), f_X10_compare_L29 fl x1 x2 x3 x4 S = some z → gW p l e rm_X10_compare s m args below meth c D cy ad n A 7 0 0 (MQ below (gQ D cy ad n A (some (.int z.1)) z.2) args s 0 0 A) S 29 [(0, .ref (ad 34)), (1, .int x1), (2, .int x2), (3, .int x3), (4, .int x4)] [] := by
  intro fl
  induction fl with
  | zero =>
    intro x1 x2 x3 x4 S hz
    rw [f_X10_compare_L29] at hz
    cases hz
  | succ fl ih =>
    intro x1 x2 x3 x4 S hz
    rw [f_X10_compare_L29] at hz
    refine g_iload C 31 4 rfl dX10_compare_29 rfl ?_
    refine g_aload_n C 32 0 rfl dX10_compare_31 rfl ?_
    refine gf_10_308 C 35 dX10_compare_32 rfl ?_
    refine g_icmp_ge C 112 38 dX10_compare_35 rfl rfl hz (fun hz => ?_) (fun hz => ?_)
    · refine g_iload_n C 113 3 rfl dX10_compare_112 rfl ?_
      exact g_iret C hr dX10_compare_113 hz
    · refine g_aload_n C 39 0 rfl dX10_compare_38 rfl ?_
      refine g_iload_n C 40 1 rfl dX10_compare_39 rfl ?_
      refine g_aload_n C 41 0 rfl dX10_compare_40 rfl ?_
      refine gf_10_137 C 44 dX10_compare_41 rfl ?_
      refine g_iload C 46 4 rfl dX10_compare_44 rfl ?_
      refine g_iald C 47 ha_75 dX10_compare_46 rfl hz (fun hz => ?_)
      refine g_sipush C 50 (150 : Int32) cs_150 dX10_compare_47 rfl ?_
      refine g_idiv C 51 dX10_compare_50 rfl hz (fun hz => ?_)
      refine cl_10_284 C 54 ⟨Nat.le_of_ble_eq_true rfl, Nat.le_of_ble_eq_true rfl⟩ ⟨Nat.zero_le _, Nat.zero_le _⟩ (Nat.le_of_ble_eq_true rfl) dX10_compare_51 rfl hz (fun r_9 S_8 hz => ?_)
      refine g_istore C 56 (i := 5) [1, 2, 3, 4, 5, 0] (fun x5_10 => [(0, .ref (ad 34)), (1, .int x1), (2, .int x2), (3, .int x3), (4, .int x4), (5, .int x5_10)]) dX10_compare_54 rfl (by decide) (fun x5_10 => rfl) hz (fun x5_10 hz => ?_)
      refine g_aload_n C 57 0 rfl dX10_compare_56 rfl ?_
      refine g_iload_n C 58 2 rfl dX10_compare_57 rfl ?_
      refine g_aload_n C 59 0 rfl dX10_compare_58 rfl ?_
      refine gf_10_137 C 62 dX10_compare_59 rfl ?_
      refine g_iload C 64 4 rfl dX10_compare_62 rfl ?_
      refine g_iald C 65 ha_75 dX10_compare_64 rfl hz (fun hz => ?_)
      refine g_sipush C 68 (150 : Int32) cs_150 dX10_compare_65 rfl ?_
      refine g_irem C 69 dX10_compare_68 rfl hz (fun hz => ?_)
      refine cl_10_284 C 72 ⟨Nat.le_of_ble_eq_true rfl, Nat.le_of_ble_eq_true rfl⟩ ⟨Nat.zero_le _, Nat.zero_le _⟩ (Nat.le_of_ble_eq_true rfl) dX10_compare_69 rfl hz (fun r_12 S_11 hz => ?_)
      refine g_istore C 74 (i := 6) [1, 2, 3, 4, 5, 6, 0] (fun x6_13 => [(0, .ref (ad 34)), (1, .int x1), (2, .int x2), (3, .int x3), (4, .int x4), (5, .int x5_10), (6, .int x6_13)]) dX10_compare_72 rfl (by decide) (fun x6_13 => rfl) hz (fun x6_13 hz => ?_)
      refine g_iload_n C 75 3 rfl dX10_compare_74 rfl ?_
      refine g_iload C 77 5 rfl dX10_compare_75 rfl ?_
      refine g_if_eq C 89 80 dX10_compare_77 rfl rfl hz (fun hz => ?_) (fun hz => ?_)
      · refine g_lv [0, 1, 2, 4, 5, 6] rfl ?_
        exact (t_X10_compare_L89 C hr ih) x1 x2 x4 x5_10 x6_13 x3 S_11 hz
      · refine g_iload C 82 6 rfl dX10_compare_80 rfl ?_
        refine g_if_ne C 89 85 dX10_compare_82 rfl rfl hz (fun hz => ?_) (fun hz => ?_)
        · refine g_lv [0, 1, 2, 4, 5, 6] rfl ?_
          exact (t_X10_compare_L89 C hr ih) x1 x2 x4 x5_10 x6_13 x3 S_11 hz
        · refine g_iconst C 86 (1 : Int32) ci_1 dX10_compare_85 rfl ?_
          refine g_goto C 104 dX10_compare_86 rfl ?_
          refine g_ior C 105 dX10_compare_104 rfl ?_
          refine g_istore_n C 106 (i := 3) [1, 2, 3, 0, 4] (fun x3_20 => [(0, .ref (ad 34)), (1, .int x1), (2, .int x2), (3, .int x3_20), (4, .int x4)]) dX10_compare_105 rfl rfl (by decide) (fun x3_20 => rfl) hz (fun x3_20 hz => ?_)
          refine g_iinc C 109 4 [1, 2, 3, 4, 0] (1 : Int32) ci_1 (fun x4_21 => [(0, .ref (ad 34)), (1, .int x1), (2, .int x2), (3, .int x3_20), (4, .int x4_21)]) dX10_compare_106 rfl rfl (by decide) (fun x4_21 => rfl) hz (fun x4_21 hz => ?_)
          refine g_goto C 29 dX10_compare_109 rfl ?_
          exact ih x1 x2 x3_20 x4_21 S_11 hz
set_option maxRecDepth 20000 in
theorem t_X10_compare {p : Program} {l : Launch} {e : Env} {s : State} {m : MethodId} {args : Array Value} {below : List Frame} {meth : Method} {c : Code} {D : va_G} {cy : Nat → ClassId} {ad : Nat → Nat} {n : Nat} {A : Nat → Prop} (C : gC p s m args meth c cX10_compare 7 RX10 D cy ad n A) (hr : meth.sig.returnType = (some .int)) {z : Int32 × Sg} {S : Sg} {x1 : Int32} {x2 : Int32} (hz : f_X10_compare x1 x2 S = some z) : gW p l e rm_X10_compare s m args below meth c D cy ad n A 7 0 0 (MQ below (gQ D cy ad n A (some (.int z.1)) z.2) args s 0 0 A) S 0 [(0, .ref (ad 34)), (1, .int x1), (2, .int x2)] [] := by
  unfold f_X10_compare at hz
  refine g_aload_n C 1 0 rfl dX10_compare_0 rfl ?_
  refine g_iload_n C 2 1 rfl dX10_compare_1 rfl ?_
  refine cl_10_281 C 5 ⟨Nat.le_of_ble_eq_true rfl, Nat.le_of_ble_eq_true rfl⟩ ⟨Nat.zero_le _, Nat.zero_le _⟩ (Nat.le_of_ble_eq_true rfl) dX10_compare_2 rfl hz (fun r_2 S_1 hz => ?_)
  refine g_if_eq C 16 8 dX10_compare_5 rfl rfl hz (fun hz => ?_) (fun hz => ?_)
  · refine g_iconst C 17 (-1 : Int32) ci_m1 dX10_compare_16 rfl ?_
    exact g_iret C hr dX10_compare_17 hz
  · refine g_aload_n C 9 0 rfl dX10_compare_8 rfl ?_
    refine g_iload_n C 10 2 rfl dX10_compare_9 rfl ?_
    refine cl_10_281 C 13 ⟨Nat.le_of_ble_eq_true rfl, Nat.le_of_ble_eq_true rfl⟩ ⟨Nat.zero_le _, Nat.zero_le _⟩ (Nat.le_of_ble_eq_true rfl) dX10_compare_10 rfl hz (fun r_4 S_3 hz => ?_)
    refine g_if_ne C 18 16 dX10_compare_13 rfl rfl hz (fun hz => ?_) (fun hz => ?_)
    · refine g_aload_n C 19 0 rfl dX10_compare_18 rfl ?_
      refine g_iload_n C 20 1 rfl dX10_compare_19 rfl ?_
      refine g_iload_n C 21 2 rfl dX10_compare_20 rfl ?_
      refine cl_10_314 C 24 ⟨Nat.le_of_ble_eq_true rfl, Nat.le_of_ble_eq_true rfl⟩ ⟨Nat.zero_le _, Nat.zero_le _⟩ (Nat.le_of_ble_eq_true rfl) dX10_compare_21 rfl hz (fun S_5 hz => ?_)
      refine g_iconst C 25 (0 : Int32) ci_0 dX10_compare_24 rfl ?_
      refine g_istore_n C 26 (i := 3) [1, 2, 3, 0] (fun x3_6 => [(0, .ref (ad 34)), (1, .int x1), (2, .int x2), (3, .int x3_6)]) dX10_compare_25 rfl rfl (by decide) (fun x3_6 => rfl) hz (fun x3_6 hz => ?_)
      refine g_iconst C 27 (0 : Int32) ci_0 dX10_compare_26 rfl ?_
      refine g_istore C 29 (i := 4) [1, 2, 3, 4, 0] (fun x4_7 => [(0, .ref (ad 34)), (1, .int x1), (2, .int x2), (3, .int x3_6), (4, .int x4_7)]) dX10_compare_27 rfl (by decide) (fun x4_7 => rfl) hz (fun x4_7 hz => ?_)
      exact (t_X10_compare_L29 C hr fu) x1 x2 x3_6 x4_7 S_5 hz
    · refine g_iconst C 17 (-1 : Int32) ci_m1 dX10_compare_16 rfl ?_
      exact g_iret C hr dX10_compare_17 hz
theorem c_X10_compare (l : Launch) (D : va_G) (cy : Nat → ClassId) (ad : Nat → Nat) (n : Nat) (S : Sg) (sz : Nat) (x1 : Int32) (x2 : Int32) (z : Int32 × Sg) (hz : f_X10_compare x1 x2 S = some z) : Met l yX10_compare (.code yX10_compare cX10_compare 7 (some .int) :: wsAll) rm_X10_compare (gPc D cy ad n S sz [.ref (ad 34), .int x1, .int x2]) (gQ D cy ad n (va_A (wW cy ad n S) sz) (some (.int z.1)) z.2) 0 0 (va_A (wW cy ad n S) sz) := by
  refine gMet (lv := [(0, .ref (ad 34)), (1, .int x1), (2, .int x2)]) (by decide) (Nat.le_of_ble_eq_true rfl) rfl ?_
  intro p e s m args below meth c A hA hr C
  exact t_X10_compare C hr hz
def rm_X10_differ : Room := { frames := 2, cells := 0, slots := 0, locals := 47 }
set_option maxRecDepth 20000 in
theorem t_X10_differ_L118 {p : Program} {l : Launch} {e : Env} {s : State} {m : MethodId} {args : Array Value} {below : List Frame} {meth : Method} {c : Code} {D : va_G} {cy : Nat → ClassId} {ad : Nat → Nat} {n : Nat} {A : Nat → Prop} (C : gC p s m args meth c cX10_differ 6 RX10 D cy ad n A) (hr : meth.sig.returnType = (some .int)) {z : Int32 × Sg} : ∀ (fl : Nat) (x4 : Int32) (x5 : Int32) (S : Sg), f_X10_differ_L118 fl x4 x5 S = some z → gW p l e rm_X10_differ s m args below meth c D cy ad n A 6 0 0 (MQ below (gQ D cy ad n A (some (.int z.1)) z.2) args s 0 0 A) S 118 [(0, .ref (ad 34)), (4, .int x4), (5, .int x5)] [] := by
  intro fl
  induction fl with
  | zero =>
    intro x4 x5 S hz
    rw [f_X10_differ_L118] at hz
    cases hz
  | succ fl ih =>
    intro x4 x5 S hz
    rw [f_X10_differ_L118] at hz
    refine g_iload C 120 2 rfl dX10_differ_118 rfl ?_
    refine g_if_le C 152 123 dX10_differ_120 rfl rfl hz (fun hz => ?_) (fun hz => ?_)
    · refine g_aload_n C 153 0 rfl dX10_differ_152 rfl ?_
      refine gf_10_305 C 156 dX10_differ_153 rfl ?_
      exact g_iret C hr dX10_differ_156 hz
    · refine g_iinc C 126 1 [1, 0, 2] (-1 : Int32) ci_m1 (fun x4_11 => [(0, .ref (ad 34)), (4, .int x4_11), (5, .int x5)]) dX10_differ_123 rfl rfl (by decide) (fun x4_11 => rfl) hz (fun x4_11 hz => ?_)
      refine g_aload_n C 127 0 rfl dX10_differ_126 rfl ?_
      refine gf_10_73 C 130 dX10_differ_127 rfl ?_
      refine g_iload C 132 1 rfl dX10_differ_130 rfl ?_
      refine g_aload_n C 133 0 rfl dX10_differ_132 rfl ?_
      refine gf_10_143 C 136 dX10_differ_133 rfl ?_
      refine g_iload C 138 2 rfl dX10_differ_136 rfl ?_
      refine g_iald C 139 ha_77 dX10_differ_138 rfl hz (fun hz => ?_)
      refine g_iast C 140 ha_54 dX10_differ_139 rfl hz (fun S_12 hz => ?_)
      refine g_aload_n C 141 0 rfl dX10_differ_140 rfl ?_
      refine gf_10_140 C 144 dX10_differ_141 rfl ?_
      refine g_iload C 146 2 rfl dX10_differ_144 rfl ?_
      refine g_iald C 147 ha_76 dX10_differ_146 rfl hz (fun hz => ?_)
      refine g_istore C 149 (i := 5) [1, 2, 0] (fun x5_13 => [(0, .ref (ad 34)), (4, .int x4_11), (5, .int x5_13)]) dX10_differ_147 rfl (by decide) (fun x5_13 => rfl) hz (fun x5_13 hz => ?_)
      refine g_goto C 118 dX10_differ_149 rfl ?_
      exact ih x4_11 x5_13 S_12 hz
set_option maxRecDepth 20000 in
theorem t_X10_differ_L89 {p : Program} {l : Launch} {e : Env} {s : State} {m : MethodId} {args : Array Value} {below : List Frame} {meth : Method} {c : Code} {D : va_G} {cy : Nat → ClassId} {ad : Nat → Nat} {n : Nat} {A : Nat → Prop} (C : gC p s m args meth c cX10_differ 6 RX10 D cy ad n A) (hr : meth.sig.returnType = (some .int)) {z : Int32 × Sg} : ∀ (fl : Nat) (x3 : Int32) (x4 : Int32) (x5 : Int32) (S : Sg), f_X10_differ_L89 fl x3 x4 x5 S = some z → gW p l e rm_X10_differ s m args below meth c D cy ad n A 6 0 0 (MQ below (gQ D cy ad n A (some (.int z.1)) z.2) args s 0 0 A) S 89 [(0, .ref (ad 34)), (3, .int x3), (4, .int x4), (5, .int x5)] [] := by
  intro fl
  induction fl with
  | zero =>
    intro x3 x4 x5 S hz
    rw [f_X10_differ_L89] at hz
    cases hz
  | succ fl ih =>
    intro x3 x4 x5 S hz
    rw [f_X10_differ_L89] at hz
    refine g_iload C 91 3 rfl dX10_differ_89 rfl ?_
    refine g_if_le C 109 94 dX10_differ_91 rfl rfl hz (fun hz => ?_) (fun hz => ?_)
    · refine g_aload_n C 110 0 rfl dX10_differ_109 rfl ?_
      refine g_iload C 112 2 rfl dX10_differ_110 rfl ?_
      refine pf_10_305 C 115 dX10_differ_112 rfl hz (fun S_9 hz => ?_)
      refine g_iload_n C 116 1 rfl dX10_differ_115 rfl ?_
      refine g_istore C 118 (i := 5) [1, 3, 0] (fun x5_10 => [(0, .ref (ad 34)), (4, .int x4), (5, .int x5_10)]) dX10_differ_116 rfl (by decide) (fun x5_10 => rfl) hz (fun x5_10 hz => ?_)
      exact (t_X10_differ_L118 C hr fu) x4 x5_10 S_9 hz
    · refine g_iinc C 97 2 [1, 2, 0, 3] (1 : Int32) ci_1 (fun x4_14 => [(0, .ref (ad 34)), (3, .int x3), (4, .int x4_14), (5, .int x5)]) dX10_differ_94 rfl rfl (by decide) (fun x4_14 => rfl) hz (fun x4_14 hz => ?_)
      refine g_aload_n C 98 0 rfl dX10_differ_97 rfl ?_
      refine gf_10_140 C 101 dX10_differ_98 rfl ?_
      refine g_iload C 103 3 rfl dX10_differ_101 rfl ?_
      refine g_iald C 104 ha_76 dX10_differ_103 rfl hz (fun hz => ?_)
      refine g_istore C 106 (i := 5) [1, 2, 3, 0] (fun x5_15 => [(0, .ref (ad 34)), (3, .int x3), (4, .int x4_14), (5, .int x5_15)]) dX10_differ_104 rfl (by decide) (fun x5_15 => rfl) hz (fun x5_15 hz => ?_)
      refine g_goto C 89 dX10_differ_106 rfl ?_
      exact ih x3 x4_14 x5_15 S hz
set_option maxRecDepth 20000 in
theorem t_X10_differ_L73 {p : Program} {l : Launch} {e : Env} {s : State} {m : MethodId} {args : Array Value} {below : List Frame} {meth : Method} {c : Code} {D : va_G} {cy : Nat → ClassId} {ad : Nat → Nat} {n : Nat} {A : Nat → Prop} (C : gC p s m args meth c cX10_differ 6 RX10 D cy ad n A) (hr : meth.sig.returnType = (some .int)) {z : Int32 × Sg} : ∀ (x3 : Int32) (S : Sg), f_X10_differ_L73 x3 S = some z → gW p l e rm_X10_differ s m args below meth c D cy ad n A 6 0 0 (MQ below (gQ D cy ad n A (some (.int z.1)) z.2) args s 0 0 A) S 73 [(0, .ref (ad 34)), (3, .int x3)] [] := by
  intro x3 S hz
  unfold f_X10_differ_L73 at hz
  refine g_iload_n C 74 1 rfl dX10_differ_73 rfl ?_
  refine g_aload_n C 75 0 rfl dX10_differ_74 rfl ?_
  refine gf_10_308 C 78 dX10_differ_75 rfl ?_
  refine g_icmp_ne C 83 81 dX10_differ_78 rfl rfl hz (fun hz => ?_) (fun hz => ?_)
  · refine g_iconst C 84 (0 : Int32) ci_0 dX10_differ_83 rfl ?_
    refine g_istore C 86 (i := 4) [1, 2, 0] (fun x4_7 => [(0, .ref (ad 34)), (3, .int x3), (4, .int x4_7)]) dX10_differ_84 rfl (by decide) (fun x4_7 => rfl) hz (fun x4_7 hz => ?_)
    refine g_iload_n C 87 1 rfl dX10_differ_86 rfl ?_
    refine g_istore C 89 (i := 5) [1, 2, 3, 0] (fun x5_8 => [(0, .ref (ad 34)), (3, .int x3), (4, .int x4_7), (5, .int x5_8)]) dX10_differ_87 rfl (by decide) (fun x5_8 => rfl) hz (fun x5_8 hz => ?_)
    exact (t_X10_differ_L89 C hr fu) x3 x4_7 x5_8 S hz
  · refine g_iconst C 82 (-1 : Int32) ci_m1 dX10_differ_81 rfl ?_
    exact g_iret C hr dX10_differ_82 hz
set_option maxRecDepth 20000 in
theorem t_X10_differ_L26 {p : Program} {l : Launch} {e : Env} {s : State} {m : MethodId} {args : Array Value} {below : List Frame} {meth : Method} {c : Code} {D : va_G} {cy : Nat → ClassId} {ad : Nat → Nat} {n : Nat} {A : Nat → Prop} (C : gC p s m args meth c cX10_differ 6 RX10 D cy ad n A) (hr : meth.sig.returnType = (some .int)) {z : Int32 × Sg} : ∀ (fl : Nat) (x1 : Int32) (x2 : Int32) (x3 : Int32) (S : Sg), f_X10_differ_L26 fl x1 x2 x3 S = some z → gW p l e rm_X10_differ s m args below meth c D cy ad n A 6 0 0 (MQ below (gQ D cy ad n A (some (.int z.1)) z.2) args s 0 0 A) S 26 [(0, .ref (ad 34)), (1, .int x1), (2, .int x2), (3, .int x3)] [] := by
  intro fl
  induction fl with
  | zero =>
    intro x1 x2 x3 S hz
    rw [f_X10_differ_L26] at hz
    cases hz
  | succ fl ih =>
    intro x1 x2 x3 S hz
    rw [f_X10_differ_L26] at hz
    refine g_iload_n C 27 3 rfl dX10_differ_26 rfl ?_
    refine g_aload_n C 28 0 rfl dX10_differ_27 rfl ?_
    refine gf_10_308 C 31 dX10_differ_28 rfl ?_
    refine g_icmp_ge C 73 34 dX10_differ_31 rfl rfl hz (fun hz => ?_) (fun hz => ?_)
    · refine g_lv [0, 3] rfl ?_
      exact (t_X10_differ_L73 C hr) x3 S hz
    · refine g_aload_n C 35 0 rfl dX10_differ_34 rfl ?_
      refine g_iload_n C 36 1 rfl dX10_differ_35 rfl ?_
      refine g_aload_n C 37 0 rfl dX10_differ_36 rfl ?_
      refine gf_10_137 C 40 dX10_differ_37 rfl ?_
      refine g_iload_n C 41 3 rfl dX10_differ_40 rfl ?_
      refine g_iald C 42 ha_75 dX10_differ_41 rfl hz (fun hz => ?_)
      refine g_sipush C 45 (150 : Int32) cs_150 dX10_differ_42 rfl ?_
      refine g_idiv C 46 dX10_differ_45 rfl hz (fun hz => ?_)
      refine cl_10_284 C 49 ⟨Nat.le_of_ble_eq_true rfl, Nat.le_of_ble_eq_true rfl⟩ ⟨Nat.zero_le _, Nat.zero_le _⟩ (Nat.le_of_ble_eq_true rfl) dX10_differ_46 rfl hz (fun r_17 S_16 hz => ?_)
      refine g_aload_n C 50 0 rfl dX10_differ_49 rfl ?_
      refine g_iload_n C 51 2 rfl dX10_differ_50 rfl ?_
      refine g_aload_n C 52 0 rfl dX10_differ_51 rfl ?_
      refine gf_10_137 C 55 dX10_differ_52 rfl ?_
      refine g_iload_n C 56 3 rfl dX10_differ_55 rfl ?_
      refine g_iald C 57 ha_75 dX10_differ_56 rfl hz (fun hz => ?_)
      refine g_sipush C 60 (150 : Int32) cs_150 dX10_differ_57 rfl ?_
      refine g_irem C 61 dX10_differ_60 rfl hz (fun hz => ?_)
      refine cl_10_284 C 64 ⟨Nat.le_of_ble_eq_true rfl, Nat.le_of_ble_eq_true rfl⟩ ⟨Nat.zero_le _, Nat.zero_le _⟩ (Nat.le_of_ble_eq_true rfl) dX10_differ_61 rfl hz (fun r_19 S_18 hz => ?_)
      refine g_icmp_ne C 73 67 dX10_differ_64 rfl rfl hz (fun hz => ?_) (fun hz => ?_)
      · refine g_lv [0, 3] rfl ?_
        exact (t_X10_differ_L73 C hr) x3 S_18 hz
      · refine g_iinc C 70 3 [1, 2, 3, 0] (1 : Int32) ci_1 (fun x3_20 => [(0, .ref (ad 34)), (1, .int x1), (2, .int x2), (3, .int x3_20)]) dX10_differ_67 rfl rfl (by decide) (fun x3_20 => rfl) hz (fun x3_20 hz => ?_)
        refine g_goto C 26 dX10_differ_70 rfl ?_
        exact ih x1 x2 x3_20 S_18 hz
set_option maxRecDepth 20000 in
theorem t_X10_differ {p : Program} {l : Launch} {e : Env} {s : State} {m : MethodId} {args : Array Value} {below : List Frame} {meth : Method} {c : Code} {D : va_G} {cy : Nat → ClassId} {ad : Nat → Nat} {n : Nat} {A : Nat → Prop} (C : gC p s m args meth c cX10_differ 6 RX10 D cy ad n A) (hr : meth.sig.returnType = (some .int)) {z : Int32 × Sg} {S : Sg} {x1 : Int32} {x2 : Int32} (hz : f_X10_differ x1 x2 S = some z) : gW p l e rm_X10_differ s m args below meth c D cy ad n A 6 0 0 (MQ below (gQ D cy ad n A (some (.int z.1)) z.2) args s 0 0 A) S 0 [(0, .ref (ad 34)), (1, .int x1), (2, .int x2)] [] := by
  unfold f_X10_differ at hz
  refine g_aload_n C 1 0 rfl dX10_differ_0 rfl ?_
  refine g_iload_n C 2 1 rfl dX10_differ_1 rfl ?_
  refine cl_10_281 C 5 ⟨Nat.le_of_ble_eq_true rfl, Nat.le_of_ble_eq_true rfl⟩ ⟨Nat.zero_le _, Nat.zero_le _⟩ (Nat.le_of_ble_eq_true rfl) dX10_differ_2 rfl hz (fun r_2 S_1 hz => ?_)
  refine g_if_eq C 16 8 dX10_differ_5 rfl rfl hz (fun hz => ?_) (fun hz => ?_)
  · refine g_iconst C 17 (-1 : Int32) ci_m1 dX10_differ_16 rfl ?_
    exact g_iret C hr dX10_differ_17 hz
  · refine g_aload_n C 9 0 rfl dX10_differ_8 rfl ?_
    refine g_iload_n C 10 2 rfl dX10_differ_9 rfl ?_
    refine cl_10_281 C 13 ⟨Nat.le_of_ble_eq_true rfl, Nat.le_of_ble_eq_true rfl⟩ ⟨Nat.zero_le _, Nat.zero_le _⟩ (Nat.le_of_ble_eq_true rfl) dX10_differ_10 rfl hz (fun r_4 S_3 hz => ?_)
    refine g_if_ne C 18 16 dX10_differ_13 rfl rfl hz (fun hz => ?_) (fun hz => ?_)
    · refine g_aload_n C 19 0 rfl dX10_differ_18 rfl ?_
      refine g_iload_n C 20 1 rfl dX10_differ_19 rfl ?_
      refine g_iload_n C 21 2 rfl dX10_differ_20 rfl ?_
      refine cl_10_314 C 24 ⟨Nat.le_of_ble_eq_true rfl, Nat.le_of_ble_eq_true rfl⟩ ⟨Nat.zero_le _, Nat.zero_le _⟩ (Nat.le_of_ble_eq_true rfl) dX10_differ_21 rfl hz (fun S_5 hz => ?_)
      refine g_iconst C 25 (0 : Int32) ci_0 dX10_differ_24 rfl ?_
      refine g_istore_n C 26 (i := 3) [1, 2, 3, 0] (fun x3_6 => [(0, .ref (ad 34)), (1, .int x1), (2, .int x2), (3, .int x3_6)]) dX10_differ_25 rfl rfl (by decide) (fun x3_6 => rfl) hz (fun x3_6 hz => ?_)
      exact (t_X10_differ_L26 C hr fu) x1 x2 x3_6 S_5 hz
    · refine g_iconst C 17 (-1 : Int32) ci_m1 dX10_differ_16 rfl ?_
      exact g_iret C hr dX10_differ_17 hz
theorem c_X10_differ (l : Launch) (D : va_G) (cy : Nat → ClassId) (ad : Nat → Nat) (n : Nat) (S : Sg) (sz : Nat) (x1 : Int32) (x2 : Int32) (z : Int32 × Sg) (hz : f_X10_differ x1 x2 S = some z) : Met l yX10_differ (.code yX10_differ cX10_differ 6 (some .int) :: wsAll) rm_X10_differ (gPc D cy ad n S sz [.ref (ad 34), .int x1, .int x2]) (gQ D cy ad n (va_A (wW cy ad n S) sz) (some (.int z.1)) z.2) 0 0 (va_A (wW cy ad n S) sz) := by
  refine gMet (lv := [(0, .ref (ad 34)), (1, .int x1), (2, .int x2)]) (by decide) (Nat.le_of_ble_eq_true rfl) rfl ?_
  intro p e s m args below meth c A hA hr C
  exact t_X10_differ C hr hz
def rm_X10_letter : Room := { frames := 1, cells := 0, slots := 0, locals := 22 }
set_option maxRecDepth 20000 in
theorem t_X10_letter {p : Program} {l : Launch} {e : Env} {s : State} {m : MethodId} {args : Array Value} {below : List Frame} {meth : Method} {c : Code} {D : va_G} {cy : Nat → ClassId} {ad : Nat → Nat} {n : Nat} {A : Nat → Prop} (C : gC p s m args meth c cX10_letter 2 RX10 D cy ad n A) (hr : meth.sig.returnType = (some .int)) {z : Int32 × Sg} {S : Sg} {x1 : Int32} (hz : f_X10_letter x1 S = some z) : gW p l e rm_X10_letter s m args below meth c D cy ad n A 2 0 0 (MQ below (gQ D cy ad n A (some (.int z.1)) z.2) args s 0 0 A) S 0 [(0, .ref (ad 34)), (1, .int x1)] [] := by
  unfold f_X10_letter at hz
  refine g_iload_n C 1 1 rfl dX10_letter_0 rfl ?_
  refine g_iconst C 2 (0 : Int32) ci_0 dX10_letter_1 rfl ?_
  refine g_aload_n C 3 0 rfl dX10_letter_2 rfl ?_
  refine gf_10_305 C 6 dX10_letter_3 rfl ?_
  refine g_iconst C 7 (1 : Int32) ci_1 dX10_letter_6 rfl ?_
  refine g_isub C 8 dX10_letter_7 rfl ?_
  refine cl_10_166 C 11 ⟨Nat.le_of_ble_eq_true rfl, Nat.le_of_ble_eq_true rfl⟩ ⟨Nat.zero_le _, Nat.zero_le _⟩ (Nat.le_of_ble_eq_true rfl) dX10_letter_8 rfl hz (fun r_2 S_1 hz => ?_)
  refine g_if_eq C 23 14 dX10_letter_11 rfl rfl hz (fun hz => ?_) (fun hz => ?_)
  · refine g_iconst C 24 (-1 : Int32) ci_m1 dX10_letter_23 rfl ?_
    exact g_iret C hr dX10_letter_24 hz
  · refine g_aload_n C 15 0 rfl dX10_letter_14 rfl ?_
    refine gf_10_73 C 18 dX10_letter_15 rfl ?_
    refine g_iload_n C 19 1 rfl dX10_letter_18 rfl ?_
    refine g_iald C 20 ha_54 dX10_letter_19 rfl hz (fun hz => ?_)
    refine g_goto C 24 dX10_letter_20 rfl ?_
    exact g_iret C hr dX10_letter_24 hz
theorem c_X10_letter (l : Launch) (D : va_G) (cy : Nat → ClassId) (ad : Nat → Nat) (n : Nat) (S : Sg) (sz : Nat) (x1 : Int32) (z : Int32 × Sg) (hz : f_X10_letter x1 S = some z) : Met l yX10_letter (.code yX10_letter cX10_letter 2 (some .int) :: wsAll) rm_X10_letter (gPc D cy ad n S sz [.ref (ad 34), .int x1]) (gQ D cy ad n (va_A (wW cy ad n S) sz) (some (.int z.1)) z.2) 0 0 (va_A (wW cy ad n S) sz) := by
  refine gMet (lv := [(0, .ref (ad 34)), (1, .int x1)]) (by decide) (Nat.le_of_ble_eq_true rfl) rfl ?_
  intro p e s m args below meth c A hA hr C
  exact t_X10_letter C hr hz
