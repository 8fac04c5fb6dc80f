def rm_X2_surplus : Room := { frames := 3, cells := 0, slots := 0, locals := 66 }
theorem wl_2_26 : Cond.methodLink RX2 26 yX2_visitRow ∈ wsAll := wA 575 (by decide +kernel) (by decide +kernel)
theorem wi_X2_visitRow : Cond.instanceMethod yX2_visitRow ∈ wsAll := wA 577 (by decide +kernel) (by decide +kernel)
theorem we_X2_visitRow : Cond.selects RX2 yX2_visitRow yX2_visitRow ∈ wsAll := wAp 45 (by decide +kernel) (by decide +kernel)
theorem wo_X2_visitRow : Cond.code yX2_visitRow cX2_visitRow 6 (some .int) ∈ wsAll := wA 578 (by decide +kernel) (by decide +kernel)
theorem cl_2_26 {p : Program} {l : Launch} {e : Env} {R : Room} {s : State} {m : MethodId} {args : Array Value} {below : List Frame} {meth : Method} {c : Code} {cc : ByteArray} {nL : Nat} {D : va_G} {cy : Nat → ClassId} {ad : Nat → Nat} {n : Nat} {A : Nat → Prop} {mc ms : Nat} {Q : State → Prop} {S : Sg} {pc : Nat} {lv : List (Nat × Value)} {st : List Value} {ζ : Type} {z : ζ} (C : gC p s m args meth c cc nL RX2 D cy ad n A) (nx : Nat) {i1 : Nat} {i2 : Nat} {x3 : Int32} (h_i1 : okM n i1 = true) (h_i2 : okM n i2 = true) (hR : Room.frames rm_X2_visitRow + 1 ≤ R.frames ∧ 8 + (6 + 11) + Room.locals rm_X2_visitRow ≤ R.locals) (hcm : mc ≤ R.cells ∧ ms ≤ R.slots) (hrest : (st.map fun v => v.category).sum ≤ 8) (hd : decode cc pc = .ok (.invokevirtual 26, 3)) (hn : pc + 3 = nx) {K : Int32 → Sg → Option ζ} (hz : bd2 (f_X2_visitRow i1 i2 x3 S) K = some z) (kk : ∀ r S', K r S' = some z → gW p l e R s m args below meth c D cy ad n A nL mc ms Q S' nx lv (.int r :: st)) : gW p l e R s m args below meth c D cy ad n A nL mc ms Q S pc lv (.int x3 :: .ref (ad i2) :: .ref (ad i1) :: .ref (ad 24) :: st) := by
  obtain ⟨q, hq, hk⟩ := bd2_s hz
  exact g_callV C (i := 24) (ci := 2) (Cn := RX2) (T := TX2) (N := 2) (y := yX2_visitRow) (rm := rm_X2_visitRow) (As := [.ref (ad i1), .ref (ad i2), .int x3]) (rest := st) (na := 3) (fun sz => c_X2_visitRow l D cy ad n S sz i1 i2 x3 q h_i1 h_i2 hq) ha_24 rfl rfl wl_2_26 wi_X2_visitRow we_X2_visitRow wz_2 wo_X2_visitRow (by decide +kernel) rfl rfl hR hcm rfl hrest hn hd (kk q.1 q.2 hk)
set_option maxRecDepth 20000 in
theorem t_X2_surplus_L92 {p : Program} {l : Launch} {e : Env} {s : State} {m : MethodId} {args : Array Value} {below : List Frame} {meth : Method} {c : Code} {D : va_G} {cy : Nat → ClassId} {ad : Nat → Nat} {n : Nat} {A : Nat → Prop} (C : gC p s m args meth c cX2_surplus 9 RX2 D cy ad n A) (hr : meth.sig.returnType = (some .int)) {z : Int32 × Sg} {k69 : Nat → Nat → Int32 → Int32 → Int32 → Int32 → Int32 → Sg → Option (Int32 × Sg)} (hk69 : ∀ (i1 : Nat) (i2 : Nat) (x3 : Int32) (x4 : Int32) (x5 : Int32) (x6 : Int32) (x7 : Int32) (S : Sg), okM n i1 = true → okM n i2 = true → k69 i1 i2 x3 x4 x5 x6 x7 S = some z → gW p l e rm_X2_surplus s m args below meth c D cy ad n A 9 0 0 (MQ below (gQ D cy ad n A (some (.int z.1)) z.2) args s 0 0 A) S 69 [(0, .ref (ad 24)), (1, .ref (ad i1)), (2, .ref (ad i2)), (3, .int x3), (4, .int x4), (5, .int x5), (6, .int x6), (7, .int x7)] []) : ∀ (fl : Nat) (i1 : Nat) (i2 : Nat) (x3 : Int32) (x4 : Int32) (x5 : Int32) (x6 : Int32) (x7 : Int32) (x8 : Int32) (S : Sg), okM n i1 = true → okM n i2 = true → f_X2_surplus_L92 k69 fl i1 i2 x3 x4 x5 x6 x7 x8 S = some z → gW p l e rm_X2_surplus s m args below meth c D cy ad n A 9 0 0 (MQ below (gQ D cy ad n A (some (.int z.1)) z.2) args s 0 0 A) S 92 [(0, .ref (ad 24)), (1, .ref (ad i1)), (2, .ref (ad i2)), (3, .int x3), (4, .int x4), (5, .int x5), (6, .int x6), (7, .int x7), (8, .int x8)] [] := by
  intro fl
  induction fl with
  | zero =>
    intro i1 i2 x3 x4 x5 x6 x7 x8 S h_i1 h_i2 hz
    rw [f_X2_surplus_L92] at hz
    cases hz
  | succ fl ih =>
    intro i1 i2 x3 x4 x5 x6 x7 x8 S h_i1 h_i2 hz
    rw [f_X2_surplus_L92] at hz
    refine g_iload C 94 8 rfl dX2_surplus_92 rfl ?_
    refine g_iload C 96 4 rfl dX2_surplus_94 rfl ?_
    refine g_icmp_ge C 145 99 dX2_surplus_96 rfl rfl hz (fun hz => ?_) (fun hz => ?_)
    · refine g_iinc C 148 7 [1, 2, 3, 4, 5, 6, 7, 0] (1 : Int32) ci_1 (fun x7_10 => [(0, .ref (ad 24)), (1, .ref (ad i1)), (2, .ref (ad i2)), (3, .int x3), (4, .int x4), (5, .int x5), (6, .int x6), (7, .int x7_10)]) dX2_surplus_145 rfl rfl (by decide) (fun x7_10 => rfl) hz (fun x7_10 hz => ?_)
      refine g_goto C 69 dX2_surplus_148 rfl ?_
      exact hk69 i1 i2 x3 x4 x5 x6 x7_10 S h_i1 h_i2 hz
    · refine g_aload_n C 100 0 rfl dX2_surplus_99 rfl ?_
      refine gf_2_11 C 103 dX2_surplus_100 rfl ?_
      refine g_iload C 105 8 rfl dX2_surplus_103 rfl ?_
      refine g_lald C 106 ha_25 dX2_surplus_105 rfl hz (fun hz => ?_)
      refine g_aload_n C 107 0 rfl dX2_surplus_106 rfl ?_
      refine gf_2_15 C 110 dX2_surplus_107 rfl ?_
      refine g_iload C 112 8 rfl dX2_surplus_110 rfl ?_
      refine g_lald C 113 ha_26 dX2_surplus_112 rfl hz (fun hz => ?_)
      refine g_ldc2 C 116 wc_2_24 dX2_surplus_113 rfl ?_
      refine g_lxor C 117 dX2_surplus_116 rfl ?_
      refine g_land C 118 dX2_surplus_117 rfl ?_
      refine g_lconst C 119 (0 : Int64) cl_0 dX2_surplus_118 rfl ?_
      refine g_lcmp C 120 dX2_surplus_119 rfl ?_
      refine g_if_eq C 139 123 dX2_surplus_120 rfl rfl hz (fun hz => ?_) (fun hz => ?_)
      · refine g_iinc C 142 8 [1, 2, 3, 4, 5, 6, 7, 8, 0] (1 : Int32) ci_1 (fun x8_11 => [(0, .ref (ad 24)), (1, .ref (ad i1)), (2, .ref (ad i2)), (3, .int x3), (4, .int x4), (5, .int x5), (6, .int x6), (7, .int x7), (8, .int x8_11)]) dX2_surplus_139 rfl rfl (by decide) (fun x8_11 => rfl) hz (fun x8_11 hz => ?_)
        refine g_goto C 92 dX2_surplus_142 rfl ?_
        exact ih i1 i2 x3 x4 x5 x6 x7 x8_11 S h_i1 h_i2 hz
      · refine g_iconst C 124 (1 : Int32) ci_1 dX2_surplus_123 rfl ?_
        refine g_istore C 126 (i := 6) [1, 2, 3, 4, 5, 6, 0, 7, 8] (fun x6_12 => [(0, .ref (ad 24)), (1, .ref (ad i1)), (2, .ref (ad i2)), (3, .int x3), (4, .int x4), (5, .int x5), (6, .int x6_12), (7, .int x7), (8, .int x8)]) dX2_surplus_124 rfl (by decide) (fun x6_12 => rfl) hz (fun x6_12 hz => ?_)
        refine g_iload C 128 5 rfl dX2_surplus_126 rfl ?_
        refine g_aload_n C 129 0 rfl dX2_surplus_128 rfl ?_
        refine g_aload_n C 130 1 rfl dX2_surplus_129 rfl ?_
        refine g_aload_n C 131 2 rfl dX2_surplus_130 rfl ?_
        refine g_iload C 133 8 rfl dX2_surplus_131 rfl ?_
        refine cl_2_26 C 136 h_i1 h_i2 ⟨Nat.le_of_ble_eq_true rfl, Nat.le_of_ble_eq_true rfl⟩ ⟨Nat.zero_le _, Nat.zero_le _⟩ (Nat.le_of_ble_eq_true rfl) dX2_surplus_133 rfl hz (fun r_14 S_13 hz => ?_)
        refine g_ior C 137 dX2_surplus_136 rfl ?_
        refine g_istore C 139 (i := 5) [1, 2, 3, 4, 5, 0, 6, 7, 8] (fun x5_15 => [(0, .ref (ad 24)), (1, .ref (ad i1)), (2, .ref (ad i2)), (3, .int x3), (4, .int x4), (5, .int x5_15), (6, .int x6_12), (7, .int x7), (8, .int x8)]) dX2_surplus_137 rfl (by decide) (fun x5_15 => rfl) hz (fun x5_15 hz => ?_)
        refine g_iinc C 142 8 [1, 2, 3, 4, 5, 6, 7, 8, 0] (1 : Int32) ci_1 (fun x8_16 => [(0, .ref (ad 24)), (1, .ref (ad i1)), (2, .ref (ad i2)), (3, .int x3), (4, .int x4), (5, .int x5_15), (6, .int x6_12), (7, .int x7), (8, .int x8_16)]) dX2_surplus_139 rfl rfl (by decide) (fun x8_16 => rfl) hz (fun x8_16 hz => ?_)
        refine g_goto C 92 dX2_surplus_142 rfl ?_
        exact ih i1 i2 x3 x4 x5_15 x6_12 x7 x8_16 S_13 h_i1 h_i2 hz
set_option maxRecDepth 20000 in
theorem t_X2_surplus_L69 {p : Program} {l : Launch} {e : Env} {s : State} {m : MethodId} {args : Array Value} {below : List Frame} {meth : Method} {c : Code} {D : va_G} {cy : Nat → ClassId} {ad : Nat → Nat} {n : Nat} {A : Nat → Prop} (C : gC p s m args meth c cX2_surplus 9 RX2 D cy ad n A) (hr : meth.sig.returnType = (some .int)) {z : Int32 × Sg} : ∀ (fl : Nat) (i1 : Nat) (i2 : Nat) (x3 : Int32) (x4 : Int32) (x5 : Int32) (x6 : Int32) (x7 : Int32) (S : Sg), okM n i1 = true → okM n i2 = true → f_X2_surplus_L69 fl i1 i2 x3 x4 x5 x6 x7 S = some z → gW p l e rm_X2_surplus s m args below meth c D cy ad n A 9 0 0 (MQ below (gQ D cy ad n A (some (.int z.1)) z.2) args s 0 0 A) S 69 [(0, .ref (ad 24)), (1, .ref (ad i1)), (2, .ref (ad i2)), (3, .int x3), (4, .int x4), (5, .int x5), (6, .int x6), (7, .int x7)] [] := by
  intro fl
  induction fl with
  | zero =>
    intro i1 i2 x3 x4 x5 x6 x7 S h_i1 h_i2 hz
    rw [f_X2_surplus_L69] at hz
    cases hz
  | succ fl ih =>
    intro i1 i2 x3 x4 x5 x6 x7 S h_i1 h_i2 hz
    rw [f_X2_surplus_L69] at hz
    refine g_iload C 71 7 rfl dX2_surplus_69 rfl ?_
    refine g_iload_n C 72 3 rfl dX2_surplus_71 rfl ?_
    refine g_icmp_gt C 151 75 dX2_surplus_72 rfl rfl hz (fun hz => ?_) (fun hz => ?_)
    · refine g_iload C 153 5 rfl dX2_surplus_151 rfl ?_
      exact g_iret C hr dX2_surplus_153 hz
    · refine g_iload C 77 6 rfl dX2_surplus_75 rfl ?_
      refine g_if_eq C 151 80 dX2_surplus_77 rfl rfl hz (fun hz => ?_) (fun hz => ?_)
      · refine g_iload C 153 5 rfl dX2_surplus_151 rfl ?_
        exact g_iret C hr dX2_surplus_153 hz
      · refine g_iload C 82 5 rfl dX2_surplus_80 rfl ?_
        refine g_iconst C 83 (3 : Int32) ci_3 dX2_surplus_82 rfl ?_
        refine g_icmp_eq C 151 86 dX2_surplus_83 rfl rfl hz (fun hz => ?_) (fun hz => ?_)
        · refine g_iload C 153 5 rfl dX2_surplus_151 rfl ?_
          exact g_iret C hr dX2_surplus_153 hz
        · refine g_iconst C 87 (0 : Int32) ci_0 dX2_surplus_86 rfl ?_
          refine g_istore C 89 (i := 6) [1, 2, 3, 4, 5, 6, 0, 7] (fun x6_8 => [(0, .ref (ad 24)), (1, .ref (ad i1)), (2, .ref (ad i2)), (3, .int x3), (4, .int x4), (5, .int x5), (6, .int x6_8), (7, .int x7)]) dX2_surplus_87 rfl (by decide) (fun x6_8 => rfl) hz (fun x6_8 hz => ?_)
          refine g_iconst C 90 (0 : Int32) ci_0 dX2_surplus_89 rfl ?_
          refine g_istore C 92 (i := 8) [1, 2, 3, 4, 5, 6, 7, 8, 0] (fun x8_9 => [(0, .ref (ad 24)), (1, .ref (ad i1)), (2, .ref (ad i2)), (3, .int x3), (4, .int x4), (5, .int x5), (6, .int x6_8), (7, .int x7), (8, .int x8_9)]) dX2_surplus_90 rfl (by decide) (fun x8_9 => rfl) hz (fun x8_9 hz => ?_)
          exact (t_X2_surplus_L92 C hr ih fu) i1 i2 x3 x4 x5 x6_8 x7 x8_9 S h_i1 h_i2 hz
set_option maxRecDepth 20000 in
theorem t_X2_surplus_L24 {p : Program} {l : Launch} {e : Env} {s : State} {m : MethodId} {args : Array Value} {below : List Frame} {meth : Method} {c : Code} {D : va_G} {cy : Nat → ClassId} {ad : Nat → Nat} {n : Nat} {A : Nat → Prop} (C : gC p s m args meth c cX2_surplus 9 RX2 D cy ad n A) (hr : meth.sig.returnType = (some .int)) {z : Int32 × Sg} : ∀ (fl : Nat) (i1 : Nat) (i2 : Nat) (x3 : Int32) (x4 : Int32) (x5 : Int32) (S : Sg), okM n i1 = true → okM n i2 = true → f_X2_surplus_L24 fl i1 i2 x3 x4 x5 S = some z → gW p l e rm_X2_surplus s m args below meth c D cy ad n A 9 0 0 (MQ below (gQ D cy ad n A (some (.int z.1)) z.2) args s 0 0 A) S 24 [(0, .ref (ad 24)), (1, .ref (ad i1)), (2, .ref (ad i2)), (3, .int x3), (4, .int x4), (5, .int x5)] [] := by
  intro fl
  induction fl with
  | zero =>
    intro i1 i2 x3 x4 x5 S h_i1 h_i2 hz
    rw [f_X2_surplus_L24] at hz
    cases hz
  | succ fl ih =>
    intro i1 i2 x3 x4 x5 S h_i1 h_i2 hz
    rw [f_X2_surplus_L24] at hz
    refine g_iload C 26 5 rfl dX2_surplus_24 rfl ?_
    refine g_iload C 28 4 rfl dX2_surplus_26 rfl ?_
    refine g_icmp_ge C 53 31 dX2_surplus_28 rfl rfl hz (fun hz => ?_) (fun hz => ?_)
    · refine g_aload_n C 54 0 rfl dX2_surplus_53 rfl ?_
      refine gf_2_11 C 57 dX2_surplus_54 rfl ?_
      refine g_iconst C 58 (0 : Int32) ci_0 dX2_surplus_57 rfl ?_
      refine g_lconst C 59 (1 : Int64) cl_1 dX2_surplus_58 rfl ?_
      refine g_last C 60 ha_25 dX2_surplus_59 rfl hz (fun S_4 hz => ?_)
      refine g_iconst C 61 (0 : Int32) ci_0 dX2_surplus_60 rfl ?_
      refine g_istore C 63 (i := 5) [1, 2, 3, 4, 5, 0] (fun x5_5 => [(0, .ref (ad 24)), (1, .ref (ad i1)), (2, .ref (ad i2)), (3, .int x3), (4, .int x4), (5, .int x5_5)]) dX2_surplus_61 rfl (by decide) (fun x5_5 => rfl) hz (fun x5_5 hz => ?_)
      refine g_iconst C 64 (1 : Int32) ci_1 dX2_surplus_63 rfl ?_
      refine g_istore C 66 (i := 6) [1, 2, 3, 4, 5, 6, 0] (fun x6_6 => [(0, .ref (ad 24)), (1, .ref (ad i1)), (2, .ref (ad i2)), (3, .int x3), (4, .int x4), (5, .int x5_5), (6, .int x6_6)]) dX2_surplus_64 rfl (by decide) (fun x6_6 => rfl) hz (fun x6_6 hz => ?_)
      refine g_iconst C 67 (0 : Int32) ci_0 dX2_surplus_66 rfl ?_
      refine g_istore C 69 (i := 7) [1, 2, 3, 4, 5, 6, 7, 0] (fun x7_7 => [(0, .ref (ad 24)), (1, .ref (ad i1)), (2, .ref (ad i2)), (3, .int x3), (4, .int x4), (5, .int x5_5), (6, .int x6_6), (7, .int x7_7)]) dX2_surplus_67 rfl (by decide) (fun x7_7 => rfl) hz (fun x7_7 hz => ?_)
      exact (t_X2_surplus_L69 C hr fu) i1 i2 x3 x4 x5_5 x6_6 x7_7 S_4 h_i1 h_i2 hz
    · refine g_aload_n C 32 0 rfl dX2_surplus_31 rfl ?_
      refine gf_2_11 C 35 dX2_surplus_32 rfl ?_
      refine g_iload C 37 5 rfl dX2_surplus_35 rfl ?_
      refine g_lconst C 38 (0 : Int64) cl_0 dX2_surplus_37 rfl ?_
      refine g_last C 39 ha_25 dX2_surplus_38 rfl hz (fun S_17 hz => ?_)
      refine g_aload_n C 40 0 rfl dX2_surplus_39 rfl ?_
      refine gf_2_15 C 43 dX2_surplus_40 rfl ?_
      refine g_iload C 45 5 rfl dX2_surplus_43 rfl ?_
      refine g_lconst C 46 (0 : Int64) cl_0 dX2_surplus_45 rfl ?_
      refine g_last C 47 ha_26 dX2_surplus_46 rfl hz (fun S_18 hz => ?_)
      refine g_iinc C 50 5 [1, 2, 3, 4, 5, 0] (1 : Int32) ci_1 (fun x5_19 => [(0, .ref (ad 24)), (1, .ref (ad i1)), (2, .ref (ad i2)), (3, .int x3), (4, .int x4), (5, .int x5_19)]) dX2_surplus_47 rfl rfl (by decide) (fun x5_19 => rfl) hz (fun x5_19 hz => ?_)
      refine g_goto C 24 dX2_surplus_50 rfl ?_
      exact ih i1 i2 x3 x4 x5_19 S_18 h_i1 h_i2 hz
set_option maxRecDepth 20000 in
theorem t_X2_surplus {p : Program} {l : Launch} {e : Env} {s : State} {m : MethodId} {args : Array Value} {below : List Frame} {meth : Method} {c : Code} {D : va_G} {cy : Nat → ClassId} {ad : Nat → Nat} {n : Nat} {A : Nat → Prop} (C : gC p s m args meth c cX2_surplus 9 RX2 D cy ad n A) (hr : meth.sig.returnType = (some .int)) {z : Int32 × Sg} {S : Sg} {i1 : Nat} {i2 : Nat} (h_i1 : okM n i1 = true) (h_i2 : okM n i2 = true) (hz : f_X2_surplus i1 i2 S = some z) : gW p l e rm_X2_surplus s m args below meth c D cy ad n A 9 0 0 (MQ below (gQ D cy ad n A (some (.int z.1)) z.2) args s 0 0 A) S 0 [(0, .ref (ad 24)), (1, .ref (ad i1)), (2, .ref (ad i2))] [] := by
  unfold f_X2_surplus at hz
  refine g_aload_n C 1 1 rfl dX2_surplus_0 rfl ?_
  refine gf_2_18 C 4 h_i1 dX2_surplus_1 rfl ?_
  refine g_aload_n C 5 2 rfl dX2_surplus_4 rfl ?_
  refine gf_2_18 C 8 h_i2 dX2_surplus_5 rfl ?_
  refine g_imul C 9 dX2_surplus_8 rfl ?_
  refine g_istore_n C 10 (i := 3) [1, 2, 3, 0] (fun x3_1 => [(0, .ref (ad 24)), (1, .ref (ad i1)), (2, .ref (ad i2)), (3, .int x3_1)]) dX2_surplus_9 rfl rfl (by decide) (fun x3_1 => rfl) hz (fun x3_1 hz => ?_)
  refine g_iload_n C 11 3 rfl dX2_surplus_10 rfl ?_
  refine g_bipush C 13 (64 : Int32) cb_64 dX2_surplus_11 rfl ?_
  refine g_iadd C 14 dX2_surplus_13 rfl ?_
  refine g_iconst C 15 (1 : Int32) ci_1 dX2_surplus_14 rfl ?_
  refine g_isub C 16 dX2_surplus_15 rfl ?_
  refine g_bipush C 18 (64 : Int32) cb_64 dX2_surplus_16 rfl ?_
  refine g_idiv C 19 dX2_surplus_18 rfl hz (fun hz => ?_)
  refine g_istore C 21 (i := 4) [1, 2, 3, 4, 0] (fun x4_2 => [(0, .ref (ad 24)), (1, .ref (ad i1)), (2, .ref (ad i2)), (3, .int x3_1), (4, .int x4_2)]) dX2_surplus_19 rfl (by decide) (fun x4_2 => rfl) hz (fun x4_2 hz => ?_)
  refine g_iconst C 22 (0 : Int32) ci_0 dX2_surplus_21 rfl ?_
  refine g_istore C 24 (i := 5) [1, 2, 3, 4, 5, 0] (fun x5_3 => [(0, .ref (ad 24)), (1, .ref (ad i1)), (2, .ref (ad i2)), (3, .int x3_1), (4, .int x4_2), (5, .int x5_3)]) dX2_surplus_22 rfl (by decide) (fun x5_3 => rfl) hz (fun x5_3 hz => ?_)
  exact (t_X2_surplus_L24 C hr fu) i1 i2 x3_1 x4_2 x5_3 S h_i1 h_i2 hz
theorem c_X2_surplus (l : Launch) (D : va_G) (cy : Nat → ClassId) (ad : Nat → Nat) (n : Nat) (S : Sg) (sz : Nat) (i1 : Nat) (i2 : Nat) (z : Int32 × Sg) (h_i1 : okM n i1 = true) (h_i2 : okM n i2 = true) (hz : f_X2_surplus i1 i2 S = some z) : Met l yX2_surplus (.code yX2_surplus cX2_surplus 9 (some .int) :: wsAll) rm_X2_surplus (gPc D cy ad n S sz [.ref (ad 24), .ref (ad i1), .ref (ad i2)]) (gQ D cy ad n (va_A (wW cy ad n S) sz) (some (.int z.1)) z.2) 0 0 (va_A (wW cy ad n S) sz) := by
  refine gMet (lv := [(0, .ref (ad 24)), (1, .ref (ad i1)), (2, .ref (ad i2))]) (by decide) (Nat.le_of_ble_eq_true rfl) rfl ?_
  intro p e s m args below meth c A hA hr C
  exact t_X2_surplus C hr h_i1 h_i2 hz
def rm_X9_compare : Room := { frames := 4, cells := 0, slots := 0, locals := 94 }
theorem wl_9_170 : Cond.methodLinkNest RX9 170 yX2_surplus "WordMachines" ∈ tables_1 := List.mem_of_getElem? (i := 570) (by decide +kernel)
theorem wi_X2_surplus : Cond.instanceMethod yX2_surplus ∈ wsAll := wA 572 (by decide +kernel) (by decide +kernel)
theorem we_X2_surplus : Cond.selects RX2 yX2_surplus yX2_surplus ∈ wsAll := wAp 44 (by decide +kernel) (by decide +kernel)
theorem wo_X2_surplus : Cond.code yX2_surplus cX2_surplus 9 (some .int) ∈ wsAll := wA 573 (by decide +kernel) (by decide +kernel)
theorem cl_9_170 {p : Program} {l : Launch} {e : Env} {R : Room} {s : State} {m : MethodId} {args : Array Value} {below : List Frame} {meth : Method} {c : Code} {cc : ByteArray} {nL : Nat} {D : va_G} {cy : Nat → ClassId} {ad : Nat → Nat} {n : Nat} {A : Nat → Prop} {mc ms : Nat} {Q : State → Prop} {S : Sg} {pc : Nat} {lv : List (Nat × Value)} {st : List Value} {ζ : Type} {z : ζ} (C : gC p s m args meth c cc nL RX9 D cy ad n A) (nx : Nat) {i1 : Nat} {i2 : Nat} (h_i1 : okM n i1 = true) (h_i2 : okM n i2 = true) (hR : Room.frames rm_X2_surplus + 1 ≤ R.frames ∧ 8 + (9 + 11) + Room.locals rm_X2_surplus ≤ R.locals) (hcm : mc ≤ R.cells ∧ ms ≤ R.slots) (hrest : (st.map fun v => v.category).sum ≤ 8) (hd : decode cc pc = .ok (.invokevirtual 170, 3)) (hn : pc + 3 = nx) {K : Int32 → Sg → Option ζ} (hz : bd2 (f_X2_surplus i1 i2 S) K = some z) (kk : ∀ r S', K r S' = some z → gW p l e R s m args below meth c D cy ad n A nL mc ms Q S' nx lv (.int r :: st)) : gW p l e R s m args below meth c D cy ad n A nL mc ms Q S pc lv (.ref (ad i2) :: .ref (ad i1) :: .ref (ad 24) :: st) := by
  obtain ⟨q, hq, hk⟩ := bd2_s hz
  exact g_callVN C (i := 24) (ci := 2) (Cn := RX2) (T := TX2) (N := 2) (y := yX2_surplus) (rm := rm_X2_surplus) (As := [.ref (ad i1), .ref (ad i2)]) (rest := st) (na := 2) (fun sz => c_X2_surplus l D cy ad n S sz i1 i2 q h_i1 h_i2 hq) ha_24 rfl rfl wl_9_170 wi_X2_surplus we_X2_surplus wz_2 wo_X2_surplus (by decide +kernel) rfl rfl hR hcm rfl hrest hn hd (kk q.1 q.2 hk)
set_option maxRecDepth 20000 in
theorem t_X9_compare {p : Program} {l : Launch} {e : Env} {s : State} {m : MethodId} {args : Array Value} {below : List Frame} {meth : Method} {c : Code} {D : va_G} {cy : Nat → ClassId} {ad : Nat → Nat} {n : Nat} {A : Nat → Prop} (C : gC p s m args meth c cX9_compare 5 RX9 D cy ad n A) (hr : meth.sig.returnType = (some .int)) {z : Int32 × Sg} {S : Sg} {x1 : Int32} {x2 : Int32} (hz : f_X9_compare n x1 x2 S = some z) : gW p l e rm_X9_compare s m args below meth c D cy ad n A 5 0 0 (MQ below (gQ D cy ad n A (some (.int z.1)) z.2) args s 0 0 A) S 0 [(0, .ref (ad 0)), (1, .int x1), (2, .int x2)] [] := by
  unfold f_X9_compare at hz
  refine g_aload_n C 1 0 rfl dX9_compare_0 rfl ?_
  refine g_iload_n C 2 1 rfl dX9_compare_1 rfl ?_
  refine cl_9_106 C 5 ⟨Nat.le_of_ble_eq_true rfl, Nat.le_of_ble_eq_true rfl⟩ ⟨Nat.zero_le _, Nat.zero_le _⟩ (Nat.le_of_ble_eq_true rfl) dX9_compare_2 rfl hz (fun r_2 S_1 hz => ?_)
  refine g_astoreN_n C 6 (i := 3) [1, 3, 0] [(0, .ref (ad 0)), (2, .int x2), (3, rv ad r_2)] dX9_compare_5 rfl rfl (by decide) rfl ?_
  refine g_aload_n C 7 0 rfl dX9_compare_6 rfl ?_
  refine g_iload_n C 8 1 rfl dX9_compare_7 rfl ?_
  refine cl_9_106 C 11 ⟨Nat.le_of_ble_eq_true rfl, Nat.le_of_ble_eq_true rfl⟩ ⟨Nat.zero_le _, Nat.zero_le _⟩ (Nat.le_of_ble_eq_true rfl) dX9_compare_8 rfl hz (fun r_4 S_3 hz => ?_)
  refine g_astoreN C 13 (i := 4) [1, 3, 0] [(0, .ref (ad 0)), (3, rv ad r_2), (4, rv ad r_4)] dX9_compare_11 rfl (by decide) (by cases r_2 <;> rfl) ?_
  refine g_aloadN_n C 14 1 rfl dX9_compare_13 rfl ?_
  refine g_ifnull C 22 17 dX9_compare_14 rfl rfl hz (fun e_r hz_i_5 => ?_) (fun i_5 e_r h_i_5 hz_i_5 => ?_)
  · subst e_r; have hz := hz_i_5
    try rw [rv_none]
    refine g_iconst C 23 (-1 : Int32) ci_m1 dX9_compare_22 rfl ?_
    exact g_iret C hr dX9_compare_23 hz
  · subst e_r; have hz := hz_i_5
    try rw [rv_some]
    refine g_aloadN C 19 2 rfl dX9_compare_17 rfl ?_
    refine g_ifnonnull C 24 22 dX9_compare_19 rfl rfl hz (fun i_6 e_r h_i_6 hz_i_6 => ?_) (fun e_r hz_i_6 => ?_)
    · subst e_r; have hz := hz_i_6
      try rw [rv_some]
      refine g_aload_n C 25 0 rfl dX9_compare_24 rfl ?_
      refine gf_9_58 C 28 dX9_compare_25 rfl ?_
      refine g_aload_n C 29 1 rfl dX9_compare_28 rfl ?_
      refine g_aload C 31 2 rfl dX9_compare_29 rfl ?_
      refine cl_9_170 C 34 h_i_5 h_i_6 ⟨Nat.le_of_ble_eq_true rfl, Nat.le_of_ble_eq_true rfl⟩ ⟨Nat.zero_le _, Nat.zero_le _⟩ (Nat.le_of_ble_eq_true rfl) dX9_compare_31 rfl hz (fun r_8 S_7 hz => ?_)
      exact g_iret C hr dX9_compare_34 hz
    · subst e_r; have hz := hz_i_6
      try rw [rv_none]
      refine g_iconst C 23 (-1 : Int32) ci_m1 dX9_compare_22 rfl ?_
      exact g_iret C hr dX9_compare_23 hz
theorem c_X9_compare (l : Launch) (D : va_G) (cy : Nat → ClassId) (ad : Nat → Nat) (n : Nat) (S : Sg) (sz : Nat) (x1 : Int32) (x2 : Int32) (z : Int32 × Sg) (hz : f_X9_compare n x1 x2 S = some z) : Met l yX9_compare (.code yX9_compare cX9_compare 5 (some .int) :: wsAll) rm_X9_compare (gPc D cy ad n S sz [.ref (ad 0), .int x1, .int x2]) (gQ D cy ad n (va_A (wW cy ad n S) sz) (some (.int z.1)) z.2) 0 0 (va_A (wW cy ad n S) sz) := by
  refine gMet (lv := [(0, .ref (ad 0)), (1, .int x1), (2, .int x2)]) (by decide) (Nat.le_of_ble_eq_true rfl) rfl ?_
  intro p e s m args below meth c A hA hr C
  exact t_X9_compare C hr hz
def rm_X1_groupOf : Room := { frames := 0, cells := 0, slots := 0, locals := 0 }
set_option maxRecDepth 20000 in
theorem t_X1_groupOf_L4 {p : Program} {l : Launch} {e : Env} {s : State} {m : MethodId} {args : Array Value} {below : List Frame} {meth : Method} {c : Code} {D : va_G} {cy : Nat → ClassId} {ad : Nat → Nat} {n : Nat} {A : Nat → Prop} (C : gC p s m args meth c cX1_groupOf 4 RX1 D cy ad n A) (hr : meth.sig.returnType = (some .int)) {z : Int32 × Sg} : ∀ (fl : Nat) (x2 : Int32) (x3 : Int32) (S : Sg), f_X1_groupOf_L4 fl x2 x3 S = some z → gW p l e rm_X1_groupOf s m args below meth c D cy ad n A 4 0 0 (MQ below (gQ D cy ad n A (some (.int z.1)) z.2) args s 0 0 A) S 4 [(0, .ref (ad 27)), (2, .int x2), (3, .int x3)] [] := by
  intro fl
  induction fl with
  | zero =>
    intro x2 x3 S hz
    rw [f_X1_groupOf_L4] at hz
    cases hz
  | succ fl ih =>
    intro x2 x3 S hz
    rw [f_X1_groupOf_L4] at hz
    refine g_iload_n C 5 2 rfl dX1_groupOf_4 rfl ?_
    refine g_sipush C 8 (300 : Int32) cs_300 dX1_groupOf_5 rfl ?_
    refine g_icmp_ge C 51 11 dX1_groupOf_8 rfl rfl hz (fun hz => ?_) (fun hz => ?_)
    · refine g_iload_n C 52 1 rfl dX1_groupOf_51 rfl ?_
      exact g_iret C hr dX1_groupOf_52 hz
    · refine g_aload_n C 12 0 rfl dX1_groupOf_11 rfl ?_
      refine gf_1_11 C 15 dX1_groupOf_12 rfl ?_
      refine g_iload_n C 16 1 rfl dX1_groupOf_15 rfl ?_
      refine g_iald C 17 ha_28 dX1_groupOf_16 rfl hz (fun hz => ?_)
      refine g_iload_n C 18 1 rfl dX1_groupOf_17 rfl ?_
      refine g_icmp_eq C 51 21 dX1_groupOf_18 rfl rfl hz (fun hz => ?_) (fun hz => ?_)
      · refine g_iload_n C 52 1 rfl dX1_groupOf_51 rfl ?_
        exact g_iret C hr dX1_groupOf_52 hz
      · refine g_aload_n C 22 0 rfl dX1_groupOf_21 rfl ?_
        refine gf_1_11 C 25 dX1_groupOf_22 rfl ?_
        refine g_iload_n C 26 1 rfl dX1_groupOf_25 rfl ?_
        refine g_aload_n C 27 0 rfl dX1_groupOf_26 rfl ?_
        refine gf_1_11 C 30 dX1_groupOf_27 rfl ?_
        refine g_aload_n C 31 0 rfl dX1_groupOf_30 rfl ?_
        refine gf_1_11 C 34 dX1_groupOf_31 rfl ?_
        refine g_iload_n C 35 1 rfl dX1_groupOf_34 rfl ?_
        refine g_iald C 36 ha_28 dX1_groupOf_35 rfl hz (fun hz => ?_)
        refine g_iald C 37 ha_28 dX1_groupOf_36 rfl hz (fun hz => ?_)
        refine g_iast C 38 ha_28 dX1_groupOf_37 rfl hz (fun S_3 hz => ?_)
        refine g_aload_n C 39 0 rfl dX1_groupOf_38 rfl ?_
        refine gf_1_11 C 42 dX1_groupOf_39 rfl ?_
        refine g_iload_n C 43 1 rfl dX1_groupOf_42 rfl ?_
        refine g_iald C 44 ha_28 dX1_groupOf_43 rfl hz (fun hz => ?_)
        refine g_istore_n C 45 (i := 2) [1, 0, 2] (fun x2_4 => [(0, .ref (ad 27)), (2, .int x2_4), (3, .int x3)]) dX1_groupOf_44 rfl rfl (by decide) (fun x2_4 => rfl) hz (fun x2_4 hz => ?_)
        refine g_iinc C 48 2 [1, 2, 0] (1 : Int32) ci_1 (fun x3_5 => [(0, .ref (ad 27)), (2, .int x2_4), (3, .int x3_5)]) dX1_groupOf_45 rfl rfl (by decide) (fun x3_5 => rfl) hz (fun x3_5 hz => ?_)
        refine g_goto C 4 dX1_groupOf_48 rfl ?_
        exact ih x2_4 x3_5 S_3 hz
set_option maxRecDepth 20000 in
theorem t_X1_groupOf {p : Program} {l : Launch} {e : Env} {s : State} {m : MethodId} {args : Array Value} {below : List Frame} {meth : Method} {c : Code} {D : va_G} {cy : Nat → ClassId} {ad : Nat → Nat} {n : Nat} {A : Nat → Prop} (C : gC p s m args meth c cX1_groupOf 4 RX1 D cy ad n A) (hr : meth.sig.returnType = (some .int)) {z : Int32 × Sg} {S : Sg} {x1 : Int32} (hz : f_X1_groupOf x1 S = some z) : gW p l e rm_X1_groupOf s m args below meth c D cy ad n A 4 0 0 (MQ below (gQ D cy ad n A (some (.int z.1)) z.2) args s 0 0 A) S 0 [(0, .ref (ad 27)), (1, .int x1)] [] := by
  unfold f_X1_groupOf at hz
  refine g_iload_n C 1 1 rfl dX1_groupOf_0 rfl ?_
  refine g_istore_n C 2 (i := 2) [1, 0] (fun x2_1 => [(0, .ref (ad 27)), (2, .int x2_1)]) dX1_groupOf_1 rfl rfl (by decide) (fun x2_1 => rfl) hz (fun x2_1 hz => ?_)
  refine g_iconst C 3 (0 : Int32) ci_0 dX1_groupOf_2 rfl ?_
  refine g_istore_n C 4 (i := 3) [1, 2, 0] (fun x3_2 => [(0, .ref (ad 27)), (2, .int x2_1), (3, .int x3_2)]) dX1_groupOf_3 rfl rfl (by decide) (fun x3_2 => rfl) hz (fun x3_2 hz => ?_)
  exact (t_X1_groupOf_L4 C hr fu) x2_1 x3_2 S hz
theorem c_X1_groupOf (l : Launch) (D : va_G) (cy : Nat → ClassId) (ad : Nat → Nat) (n : Nat) (S : Sg) (sz : Nat) (x1 : Int32) (z : Int32 × Sg) (hz : f_X1_groupOf x1 S = some z) : Met l yX1_groupOf (.code yX1_groupOf cX1_groupOf 4 (some .int) :: wsAll) rm_X1_groupOf (gPc D cy ad n S sz [.ref (ad 27), .int x1]) (gQ D cy ad n (va_A (wW cy ad n S) sz) (some (.int z.1)) z.2) 0 0 (va_A (wW cy ad n S) sz) := by
  refine gMet (lv := [(0, .ref (ad 27)), (1, .int x1)]) (by decide) (Nat.le_of_ble_eq_true rfl) rfl ?_
  intro p e s m args below meth c A hA hr C
  exact t_X1_groupOf C hr hz
def rm_X1_tiePair : Room := { frames := 1, cells := 0, slots := 0, locals := 23 }
theorem wl_1_47 : Cond.methodLink RX1 47 yX1_groupOf ∈ wsAll := wA 596 (by decide +kernel) (by decide +kernel)
theorem wi_X1_groupOf : Cond.instanceMethod yX1_groupOf ∈ wsAll := wA 598 (by decide +kernel) (by decide +kernel)
theorem we_X1_groupOf : Cond.selects RX1 yX1_groupOf yX1_groupOf ∈ wsAll := wAp 49 (by decide +kernel) (by decide +kernel)
theorem wz_1 : Cond.initialized RX1 ∈ wsAll := wA 8 (by decide +kernel) (by decide +kernel)
theorem wo_X1_groupOf : Cond.code yX1_groupOf cX1_groupOf 4 (some .int) ∈ wsAll := wA 599 (by decide +kernel) (by decide +kernel)
theorem cl_1_47 {p : Program} {l : Launch} {e : Env} {R : Room} {s : State} {m : MethodId} {args : Array Value} {below : List Frame} {meth : Method} {c : Code} {cc : ByteArray} {nL : Nat} {D : va_G} {cy : Nat → ClassId} {ad : Nat → Nat} {n : Nat} {A : Nat → Prop} {mc ms : Nat} {Q : State → Prop} {S : Sg} {pc : Nat} {lv : List (Nat × Value)} {st : List Value} {ζ : Type} {z : ζ} (C : gC p s m args meth c cc nL RX1 D cy ad n A) (nx : Nat) {x1 : Int32} (hR : Room.frames rm_X1_groupOf + 1 ≤ R.frames ∧ 8 + (4 + 11) + Room.locals rm_X1_groupOf ≤ R.locals) (hcm : mc ≤ R.cells ∧ ms ≤ R.slots) (hrest : (st.map fun v => v.category).sum ≤ 8) (hd : decode cc pc = .ok (.invokevirtual 47, 3)) (hn : pc + 3 = nx) {K : Int32 → Sg → Option ζ} (hz : bd2 (f_X1_groupOf x1 S) K = some z) (kk : ∀ r S', K r S' = some z → gW p l e R s m args below meth c D cy ad n A nL mc ms Q S' nx lv (.int r :: st)) : gW p l e R s m args below meth c D cy ad n A nL mc ms Q S pc lv (.int x1 :: .ref (ad 27) :: st) := by
  obtain ⟨q, hq, hk⟩ := bd2_s hz
  exact g_callV C (i := 27) (ci := 1) (Cn := RX1) (T := TX1) (N := 5) (y := yX1_groupOf) (rm := rm_X1_groupOf) (As := [.int x1]) (rest := st) (na := 1) (fun sz => c_X1_groupOf l D cy ad n S sz x1 q hq) ha_27 rfl rfl wl_1_47 wi_X1_groupOf we_X1_groupOf wz_1 wo_X1_groupOf (by decide +kernel) rfl rfl hR hcm rfl hrest hn hd (kk q.1 q.2 hk)
set_option maxRecDepth 20000 in
theorem t_X1_tiePair {p : Program} {l : Launch} {e : Env} {s : State} {m : MethodId} {args : Array Value} {below : List Frame} {meth : Method} {c : Code} {D : va_G} {cy : Nat → ClassId} {ad : Nat → Nat} {n : Nat} {A : Nat → Prop} (C : gC p s m args meth c cX1_tiePair 6 RX1 D cy ad n A) (hr : meth.sig.returnType = none) {z : Sg} {S : Sg} {x1 : Int32} {x2 : Int32} {x3 : Int32} (hz : f_X1_tiePair x1 x2 x3 S = some z) : gW p l e rm_X1_tiePair s m args below meth c D cy ad n A 6 0 0 (MQ below (gQ D cy ad n A none z) args s 0 0 A) S 0 [(0, .ref (ad 27)), (1, .int x1), (2, .int x2), (3, .int x3)] [] := by
  unfold f_X1_tiePair at hz
  refine g_aload_n C 1 0 rfl dX1_tiePair_0 rfl ?_
  refine g_iload_n C 2 1 rfl dX1_tiePair_1 rfl ?_
  refine cl_1_47 C 5 ⟨Nat.le_of_ble_eq_true rfl, Nat.le_of_ble_eq_true rfl⟩ ⟨Nat.zero_le _, Nat.zero_le _⟩ (Nat.le_of_ble_eq_true rfl) dX1_tiePair_2 rfl hz (fun r_2 S_1 hz => ?_)
  refine g_istore C 7 (i := 4) [1, 2, 3, 4, 0] (fun x4_3 => [(0, .ref (ad 27)), (1, .int x1), (2, .int x2), (3, .int x3), (4, .int x4_3)]) dX1_tiePair_5 rfl (by decide) (fun x4_3 => rfl) hz (fun x4_3 hz => ?_)
  refine g_aload_n C 8 0 rfl dX1_tiePair_7 rfl ?_
  refine g_sipush C 11 (150 : Int32) cs_150 dX1_tiePair_8 rfl ?_
  refine g_iload_n C 12 2 rfl dX1_tiePair_11 rfl ?_
  refine g_iadd C 13 dX1_tiePair_12 rfl ?_
  refine cl_1_47 C 16 ⟨Nat.le_of_ble_eq_true rfl, Nat.le_of_ble_eq_true rfl⟩ ⟨Nat.zero_le _, Nat.zero_le _⟩ (Nat.le_of_ble_eq_true rfl) dX1_tiePair_13 rfl hz (fun r_5 S_4 hz => ?_)
  refine g_istore C 18 (i := 5) [1, 2, 3, 4, 5, 0] (fun x5_6 => [(0, .ref (ad 27)), (1, .int x1), (2, .int x2), (3, .int x3), (4, .int x4_3), (5, .int x5_6)]) dX1_tiePair_16 rfl (by decide) (fun x5_6 => rfl) hz (fun x5_6 hz => ?_)
  refine g_iload C 20 4 rfl dX1_tiePair_18 rfl ?_
  refine g_iload C 22 5 rfl dX1_tiePair_20 rfl ?_
  refine g_icmp_eq C 35 25 dX1_tiePair_22 rfl rfl hz (fun hz => ?_) (fun hz => ?_)
  · exact g_vret C hr dX1_tiePair_35 hz
  · refine g_aload_n C 26 0 rfl dX1_tiePair_25 rfl ?_
    refine gf_1_24 C 29 dX1_tiePair_26 rfl ?_
    refine g_sipush C 32 (300 : Int32) cs_300 dX1_tiePair_29 rfl ?_
    refine g_icmp_lt C 36 35 dX1_tiePair_32 rfl rfl hz (fun hz => ?_) (fun hz => ?_)
    · refine g_aload_n C 37 0 rfl dX1_tiePair_36 rfl ?_
      refine gf_1_11 C 40 dX1_tiePair_37 rfl ?_
      refine g_iload C 42 4 rfl dX1_tiePair_40 rfl ?_
      refine g_iload C 44 5 rfl dX1_tiePair_42 rfl ?_
      refine g_iast C 45 ha_28 dX1_tiePair_44 rfl hz (fun S_7 hz => ?_)
      refine g_aload_n C 46 0 rfl dX1_tiePair_45 rfl ?_
      refine gf_1_15 C 49 dX1_tiePair_46 rfl ?_
      refine g_aload_n C 50 0 rfl dX1_tiePair_49 rfl ?_
      refine gf_1_24 C 53 dX1_tiePair_50 rfl ?_
      refine g_iload_n C 54 1 rfl dX1_tiePair_53 rfl ?_
      refine g_iast C 55 ha_29 dX1_tiePair_54 rfl hz (fun S_8 hz => ?_)
      refine g_aload_n C 56 0 rfl dX1_tiePair_55 rfl ?_
      refine gf_1_18 C 59 dX1_tiePair_56 rfl ?_
      refine g_aload_n C 60 0 rfl dX1_tiePair_59 rfl ?_
      refine gf_1_24 C 63 dX1_tiePair_60 rfl ?_
      refine g_iload_n C 64 2 rfl dX1_tiePair_63 rfl ?_
      refine g_iast C 65 ha_30 dX1_tiePair_64 rfl hz (fun S_9 hz => ?_)
      refine g_aload_n C 66 0 rfl dX1_tiePair_65 rfl ?_
      refine gf_1_21 C 69 dX1_tiePair_66 rfl ?_
      refine g_aload_n C 70 0 rfl dX1_tiePair_69 rfl ?_
      refine gf_1_24 C 73 dX1_tiePair_70 rfl ?_
      refine g_iload_n C 74 3 rfl dX1_tiePair_73 rfl ?_
      refine g_iast C 75 ha_31 dX1_tiePair_74 rfl hz (fun S_10 hz => ?_)
      refine g_aload_n C 76 0 rfl dX1_tiePair_75 rfl ?_
      refine g_dup C 77 rfl dX1_tiePair_76 rfl ?_
      refine gf_1_24 C 80 dX1_tiePair_77 rfl ?_
      refine g_iconst C 81 (1 : Int32) ci_1 dX1_tiePair_80 rfl ?_
      refine g_iadd C 82 dX1_tiePair_81 rfl ?_
      refine pf_1_24 C 85 dX1_tiePair_82 rfl hz (fun S_11 hz => ?_)
      exact g_vret C hr dX1_tiePair_85 hz
    · exact g_vret C hr dX1_tiePair_35 hz
theorem c_X1_tiePair (l : Launch) (D : va_G) (cy : Nat → ClassId) (ad : Nat → Nat) (n : Nat) (S : Sg) (sz : Nat) (x1 : Int32) (x2 : Int32) (x3 : Int32) (z : Sg) (hz : f_X1_tiePair x1 x2 x3 S = some z) : Met l yX1_tiePair (.code yX1_tiePair cX1_tiePair 6 none :: wsAll) rm_X1_tiePair (gPc D cy ad n S sz [.ref (ad 27), .int x1, .int x2, .int x3]) (gQ D cy ad n (va_A (wW cy ad n S) sz) none z) 0 0 (va_A (wW cy ad n S) sz) := by
  refine gMet (lv := [(0, .ref (ad 27)), (1, .int x1), (2, .int x2), (3, .int x3)]) (by decide) (Nat.le_of_ble_eq_true rfl) rfl ?_
  intro p e s m args below meth c A hA hr C
  exact t_X1_tiePair C hr hz
def rm_X1_find : Room := { frames := 2, cells := 0, slots := 0, locals := 48 }
theorem wl_1_28 : Cond.methodLink RX1 28 yX1_tiePair ∈ wsAll := wA 592 (by decide +kernel) (by decide +kernel)
theorem wi_X1_tiePair : Cond.instanceMethod yX1_tiePair ∈ wsAll := wA 594 (by decide +kernel) (by decide +kernel)
theorem we_X1_tiePair : Cond.selects RX1 yX1_tiePair yX1_tiePair ∈ wsAll := wAp 48 (by decide +kernel) (by decide +kernel)
theorem wo_X1_tiePair : Cond.code yX1_tiePair cX1_tiePair 6 none ∈ wsAll := wA 595 (by decide +kernel) (by decide +kernel)
theorem cl_1_28 {p : Program} {l : Launch} {e : Env} {R : Room} {s : State} {m : MethodId} {args : Array Value} {below : List Frame} {meth : Method} {c : Code} {cc : ByteArray} {nL : Nat} {D : va_G} {cy : Nat → ClassId} {ad : Nat → Nat} {n : Nat} {A : Nat → Prop} {mc ms : Nat} {Q : State → Prop} {S : Sg} {pc : Nat} {lv : List (Nat × Value)} {st : List Value} {ζ : Type} {z : ζ} (C : gC p s m args meth c cc nL RX1 D cy ad n A) (nx : Nat) {x1 : Int32} {x2 : Int32} {x3 : Int32} (hR : Room.frames rm_X1_tiePair + 1 ≤ R.frames ∧ 8 + (6 + 11) + Room.locals rm_X1_tiePair ≤ R.locals) (hcm : mc ≤ R.cells ∧ ms ≤ R.slots) (hrest : (st.map fun v => v.category).sum ≤ 8) (hd : decode cc pc = .ok (.invokevirtual 28, 3)) (hn : pc + 3 = nx) {K : Sg → Option ζ} (hz : bd (f_X1_tiePair x1 x2 x3 S) K = some z) (kk : ∀ S', K S' = some z → gW p l e R s m args below meth c D cy ad n A nL mc ms Q S' nx lv st) : gW p l e R s m args below meth c D cy ad n A nL mc ms Q S pc lv (.int x3 :: .int x2 :: .int x1 :: .ref (ad 27) :: st) := by
  obtain ⟨q, hq, hk⟩ := bd_s hz
  exact g_callV C (i := 27) (ci := 1) (Cn := RX1) (T := TX1) (N := 5) (y := yX1_tiePair) (rm := rm_X1_tiePair) (As := [.int x1, .int x2, .int x3]) (rest := st) (na := 3) (fun sz => c_X1_tiePair l D cy ad n S sz x1 x2 x3 q hq) ha_27 rfl rfl wl_1_28 wi_X1_tiePair we_X1_tiePair wz_1 wo_X1_tiePair (by decide +kernel) rfl rfl hR hcm rfl hrest hn hd (kk q hk)
theorem wl_1_38 : Cond.methodLinkNest RX1 38 yX8_trace "WordMachines" ∈ tables_1 := List.mem_of_getElem? (i := 600) (by decide +kernel)
theorem cl_1_38_d {p : Program} {l : Launch} {e : Env} {R : Room} {s : State} {m : MethodId} {args : Array Value} {below : List Frame} {meth : Method} {c : Code} {cc : ByteArray} {nL : Nat} {D : va_G} {cy : Nat → ClassId} {ad : Nat → Nat} {n : Nat} {A : Nat → Prop} {mc ms : Nat} {Q : State → Prop} {S : Sg} {pc : Nat} {lv : List (Nat × Value)} {st : List Value} {ζ : Type} {z : ζ} (C : gC p s m args meth c cc nL RX1 D cy ad n A) (nx : Nat) {x2 : Int32} (hR : Room.frames rm_X8_trace_d + 1 ≤ R.frames ∧ 8 + (6 + 11) + Room.locals rm_X8_trace_d ≤ R.locals) (hcm : mc ≤ R.cells ∧ ms ≤ R.slots) (hrest : (st.map fun v => v.category).sum ≤ 8) (hd : decode cc pc = .ok (.invokevirtual 38, 3)) (hn : pc + 3 = nx) {K : Sg → Option ζ} (hz : bd (f_X8_trace_d x2 S) K = some z) (kk : ∀ S', K S' = some z → gW p l e R s m args below meth c D cy ad n A nL mc ms Q S' nx lv st) : gW p l e R s m args below meth c D cy ad n A nL mc ms Q S pc lv (.int x2 :: .ref (ad 31) :: .ref (ad 32) :: st) := by
  obtain ⟨q, hq, hk⟩ := bd_s hz
  exact g_callVN C (i := 32) (ci := 8) (Cn := RX8) (T := TX8) (N := 2) (y := yX8_trace) (rm := rm_X8_trace_d) (As := [.ref (ad 31), .int x2]) (rest := st) (na := 2) (fun sz => c_X8_trace_d l D cy ad n S sz x2 q hq) ha_32 rfl rfl wl_1_38 wi_X8_trace we_X8_trace wz_8 wo_X8_trace (by decide +kernel) rfl rfl hR hcm rfl hrest hn hd (kk q hk)
set_option maxRecDepth 20000 in
theorem t_X1_find_L100 {p : Program} {l : Launch} {e : Env} {s : State} {m : MethodId} {args : Array Value} {below : List Frame} {meth : Method} {c : Code} {D : va_G} {cy : Nat → ClassId} {ad : Nat → Nat} {n : Nat} {A : Nat → Prop} (C : gC p s m args meth c cX1_find 8 RX1 D cy ad n A) (hr : meth.sig.returnType = (some .boolean)) {z : Int32 × Sg} {k41 : Nat → Nat → Int32 → Sg → Option (Int32 × Sg)} (hk41 : ∀ (i1 : Nat) (i2 : Nat) (x4 : Int32) (S : Sg), okM n i1 = true → okM n i2 = true → k41 i1 i2 x4 S = some z → gW p l e rm_X1_find s m args below meth c D cy ad n A 8 0 0 (MQ below (gQ D cy ad n A (some (.int z.1)) z.2) args s 0 0 A) S 41 [(0, .ref (ad 27)), (1, .ref (ad i1)), (2, .ref (ad i2)), (3, .ref (ad 32)), (4, .int x4)] []) : ∀ (fl : Nat) (i1 : Nat) (i2 : Nat) (x4 : Int32) (x5 : Int32) (S : Sg), okM n i1 = true → okM n i2 = true → f_X1_find_L100 k41 fl i1 i2 x4 x5 S = some z → gW p l e rm_X1_find s m args below meth c D cy ad n A 8 0 0 (MQ below (gQ D cy ad n A (some (.int z.1)) z.2) args s 0 0 A) S 100 [(0, .ref (ad 27)), (1, .ref (ad i1)), (2, .ref (ad i2)), (3, .ref (ad 32)), (4, .int x4), (5, .int x5)] [] := by
  intro fl
  induction fl with
  | zero =>
    intro i1 i2 x4 x5 S h_i1 h_i2 hz
    rw [f_X1_find_L100] at hz
    cases hz
  | succ fl ih =>
    intro i1 i2 x4 x5 S h_i1 h_i2 hz
    rw [f_X1_find_L100] at hz
    refine g_iload C 102 5 rfl dX1_find_100 rfl ?_
    refine g_iconst C 103 (4 : Int32) ci_4 dX1_find_102 rfl ?_
    refine g_icmp_ge C 165 106 dX1_find_103 rfl rfl hz (fun hz => ?_) (fun hz => ?_)
    · refine g_iinc C 168 4 [1, 2, 3, 4, 0] (1 : Int32) ci_1 (fun x4_6 => [(0, .ref (ad 27)), (1, .ref (ad i1)), (2, .ref (ad i2)), (3, .ref (ad 32)), (4, .int x4_6)]) dX1_find_165 rfl rfl (by decide) (fun x4_6 => rfl) hz (fun x4_6 hz => ?_)
      refine g_goto C 41 dX1_find_168 rfl ?_
      exact hk41 i1 i2 x4_6 S h_i1 h_i2 hz
    · refine g_aload_n C 107 1 rfl dX1_find_106 rfl ?_
      refine gf_1_44 C 110 h_i1 dX1_find_107 rfl ?_
      refine g_aload_n C 111 0 rfl dX1_find_110 rfl ?_
      refine gf_1_15 C 114 dX1_find_111 rfl ?_
      refine g_iload C 116 4 rfl dX1_find_114 rfl ?_
      refine g_iald C 117 ha_29 dX1_find_116 rfl hz (fun hz => ?_)
      refine g_iconst C 118 (4 : Int32) ci_4 dX1_find_117 rfl ?_
      refine g_imul C 119 dX1_find_118 rfl ?_
      refine g_iload C 121 5 rfl dX1_find_119 rfl ?_
      refine g_iadd C 122 dX1_find_121 rfl ?_
      refine g_iald C 123 (has_m h_i1 1 (by decide)) dX1_find_122 rfl hz (fun hz => ?_)
      refine g_istore C 125 (i := 6) [1, 2, 3, 4, 5, 6, 0] (fun x6_7 => [(0, .ref (ad 27)), (1, .ref (ad i1)), (2, .ref (ad i2)), (3, .ref (ad 32)), (4, .int x4), (5, .int x5), (6, .int x6_7)]) dX1_find_123 rfl (by decide) (fun x6_7 => rfl) hz (fun x6_7 hz => ?_)
      refine g_aload_n C 126 2 rfl dX1_find_125 rfl ?_
      refine gf_1_44 C 129 h_i2 dX1_find_126 rfl ?_
      refine g_aload_n C 130 0 rfl dX1_find_129 rfl ?_
      refine gf_1_18 C 133 dX1_find_130 rfl ?_
      refine g_iload C 135 4 rfl dX1_find_133 rfl ?_
      refine g_iald C 136 ha_30 dX1_find_135 rfl hz (fun hz => ?_)
      refine g_iconst C 137 (4 : Int32) ci_4 dX1_find_136 rfl ?_
      refine g_imul C 138 dX1_find_137 rfl ?_
      refine g_iload C 140 5 rfl dX1_find_138 rfl ?_
      refine g_iadd C 141 dX1_find_140 rfl ?_
      refine g_iald C 142 (has_m h_i2 1 (by decide)) dX1_find_141 rfl hz (fun hz => ?_)
      refine g_istore C 144 (i := 7) [1, 2, 3, 4, 5, 6, 7, 0] (fun x7_8 => [(0, .ref (ad 27)), (1, .ref (ad i1)), (2, .ref (ad i2)), (3, .ref (ad 32)), (4, .int x4), (5, .int x5), (6, .int x6_7), (7, .int x7_8)]) dX1_find_142 rfl (by decide) (fun x7_8 => rfl) hz (fun x7_8 hz => ?_)
      refine g_aload_n C 145 0 rfl dX1_find_144 rfl ?_
      refine g_iload C 147 6 rfl dX1_find_145 rfl ?_
      refine g_iload C 149 7 rfl dX1_find_147 rfl ?_
      refine g_iload C 151 4 rfl dX1_find_149 rfl ?_
      refine g_iconst C 152 (4 : Int32) ci_4 dX1_find_151 rfl ?_
      refine g_imul C 153 dX1_find_152 rfl ?_
      refine g_iload C 155 5 rfl dX1_find_153 rfl ?_
      refine g_iadd C 156 dX1_find_155 rfl ?_
      refine cl_1_28 C 159 ⟨Nat.le_of_ble_eq_true rfl, Nat.le_of_ble_eq_true rfl⟩ ⟨Nat.zero_le _, Nat.zero_le _⟩ (Nat.le_of_ble_eq_true rfl) dX1_find_156 rfl hz (fun S_9 hz => ?_)
      refine g_iinc C 162 5 [1, 2, 3, 4, 5, 0] (1 : Int32) ci_1 (fun x5_10 => [(0, .ref (ad 27)), (1, .ref (ad i1)), (2, .ref (ad i2)), (3, .ref (ad 32)), (4, .int x4), (5, .int x5_10)]) dX1_find_159 rfl rfl (by decide) (fun x5_10 => rfl) hz (fun x5_10 hz => ?_)
      refine g_goto C 100 dX1_find_162 rfl ?_
      exact ih i1 i2 x4 x5_10 S_9 h_i1 h_i2 hz
set_option maxRecDepth 20000 in
theorem t_X1_find_L41 {p : Program} {l : Launch} {e : Env} {s : State} {m : MethodId} {args : Array Value} {below : List Frame} {meth : Method} {c : Code} {D : va_G} {cy : Nat → ClassId} {ad : Nat → Nat} {n : Nat} {A : Nat → Prop} (C : gC p s m args meth c cX1_find 8 RX1 D cy ad n A) (hr : meth.sig.returnType = (some .boolean)) {z : Int32 × Sg} : ∀ (fl : Nat) (i1 : Nat) (i2 : Nat) (x4 : Int32) (S : Sg), okM n i1 = true → okM n i2 = true → f_X1_find_L41 fl i1 i2 x4 S = some z → gW p l e rm_X1_find s m args below meth c D cy ad n A 8 0 0 (MQ below (gQ D cy ad n A (some (.int z.1)) z.2) args s 0 0 A) S 41 [(0, .ref (ad 27)), (1, .ref (ad i1)), (2, .ref (ad i2)), (3, .ref (ad 32)), (4, .int x4)] [] := by
  intro fl
  induction fl with
  | zero =>
    intro i1 i2 x4 S h_i1 h_i2 hz
    rw [f_X1_find_L41] at hz
    cases hz
  | succ fl ih =>
    intro i1 i2 x4 S h_i1 h_i2 hz
    rw [f_X1_find_L41] at hz
    refine g_iload C 43 4 rfl dX1_find_41 rfl ?_
    refine g_aload_n C 44 0 rfl dX1_find_43 rfl ?_
    refine gf_1_24 C 47 dX1_find_44 rfl ?_
    refine g_icmp_ge C 171 50 dX1_find_47 rfl rfl hz (fun hz => ?_) (fun hz => ?_)
    · refine g_iconst C 172 (0 : Int32) ci_0 dX1_find_171 rfl ?_
      exact g_zretc C hr (by decide) dX1_find_172 hz
    · refine g_iload C 52 4 rfl dX1_find_50 rfl ?_
      refine g_sipush C 55 (300 : Int32) cs_300 dX1_find_52 rfl ?_
      refine g_icmp_ge C 171 58 dX1_find_55 rfl rfl hz (fun hz => ?_) (fun hz => ?_)
      · refine g_iconst C 172 (0 : Int32) ci_0 dX1_find_171 rfl ?_
        exact g_zretc C hr (by decide) dX1_find_172 hz
      · refine g_aload_n C 59 1 rfl dX1_find_58 rfl ?_
        refine gf_1_32 C 62 h_i1 dX1_find_59 rfl ?_
        refine g_aload_n C 63 0 rfl dX1_find_62 rfl ?_
        refine gf_1_15 C 66 dX1_find_63 rfl ?_
        refine g_iload C 68 4 rfl dX1_find_66 rfl ?_
        refine g_iald C 69 ha_29 dX1_find_68 rfl hz (fun hz => ?_)
        refine g_zald C 70 (has_m h_i1 4 (by decide)) dX1_find_69 rfl hz (fun hz => ?_)
        refine g_aload_n C 71 2 rfl dX1_find_70 rfl ?_
        refine gf_1_32 C 74 h_i2 dX1_find_71 rfl ?_
        refine g_aload_n C 75 0 rfl dX1_find_74 rfl ?_
        refine gf_1_18 C 78 dX1_find_75 rfl ?_
        refine g_iload C 80 4 rfl dX1_find_78 rfl ?_
        refine g_iald C 81 ha_30 dX1_find_80 rfl hz (fun hz => ?_)
        refine g_zald C 82 (has_m h_i2 4 (by decide)) dX1_find_81 rfl hz (fun hz => ?_)
        refine g_icmp_eq C 97 85 dX1_find_82 rfl rfl hz (fun hz => ?_) (fun hz => ?_)
        · refine g_iconst C 98 (0 : Int32) ci_0 dX1_find_97 rfl ?_
          refine g_istore C 100 (i := 5) [1, 2, 3, 4, 5, 0] (fun x5_5 => [(0, .ref (ad 27)), (1, .ref (ad i1)), (2, .ref (ad i2)), (3, .ref (ad 32)), (4, .int x4), (5, .int x5_5)]) dX1_find_98 rfl (by decide) (fun x5_5 => rfl) hz (fun x5_5 hz => ?_)
          exact (t_X1_find_L100 C hr ih fu) i1 i2 x4 x5_5 S h_i1 h_i2 hz
        · refine g_aload_n C 86 3 rfl dX1_find_85 rfl ?_
          refine g_aload_n C 87 0 rfl dX1_find_86 rfl ?_
          refine gf_1_21 C 90 dX1_find_87 rfl ?_
          refine g_iload C 92 4 rfl dX1_find_90 rfl ?_
          refine cl_1_38_d C 95 ⟨Nat.le_of_ble_eq_true rfl, Nat.le_of_ble_eq_true rfl⟩ ⟨Nat.zero_le _, Nat.zero_le _⟩ (Nat.le_of_ble_eq_true rfl) dX1_find_92 rfl hz (fun S_11 hz => ?_)
          refine g_iconst C 96 (1 : Int32) ci_1 dX1_find_95 rfl ?_
          exact g_zretc C hr (by decide) dX1_find_96 hz
set_option maxRecDepth 20000 in
theorem t_X1_find_L3 {p : Program} {l : Launch} {e : Env} {s : State} {m : MethodId} {args : Array Value} {below : List Frame} {meth : Method} {c : Code} {D : va_G} {cy : Nat → ClassId} {ad : Nat → Nat} {n : Nat} {A : Nat → Prop} (C : gC p s m args meth c cX1_find 8 RX1 D cy ad n A) (hr : meth.sig.returnType = (some .boolean)) {z : Int32 × Sg} : ∀ (fl : Nat) (i1 : Nat) (i2 : Nat) (x4 : Int32) (S : Sg), okM n i1 = true → okM n i2 = true → f_X1_find_L3 fl i1 i2 x4 S = some z → gW p l e rm_X1_find s m args below meth c D cy ad n A 8 0 0 (MQ below (gQ D cy ad n A (some (.int z.1)) z.2) args s 0 0 A) S 3 [(0, .ref (ad 27)), (1, .ref (ad i1)), (2, .ref (ad i2)), (3, .ref (ad 32)), (4, .int x4)] [] := by
  intro fl
  induction fl with
  | zero =>
    intro i1 i2 x4 S h_i1 h_i2 hz
    rw [f_X1_find_L3] at hz
    cases hz
  | succ fl ih =>
    intro i1 i2 x4 S h_i1 h_i2 hz
    rw [f_X1_find_L3] at hz
    refine g_iload C 5 4 rfl dX1_find_3 rfl ?_
    refine g_sipush C 8 (300 : Int32) cs_300 dX1_find_5 rfl ?_
    refine g_icmp_ge C 26 11 dX1_find_8 rfl rfl hz (fun hz => ?_) (fun hz => ?_)
    · refine g_aload_n C 27 0 rfl dX1_find_26 rfl ?_
      refine g_iconst C 28 (0 : Int32) ci_0 dX1_find_27 rfl ?_
      refine pf_1_24 C 31 dX1_find_28 rfl hz (fun S_2 hz => ?_)
      refine g_aload_n C 32 0 rfl dX1_find_31 rfl ?_
      refine g_iconst C 33 (0 : Int32) ci_0 dX1_find_32 rfl ?_
      refine g_iconst C 34 (0 : Int32) ci_0 dX1_find_33 rfl ?_
      refine g_iconst C 35 (0 : Int32) ci_0 dX1_find_34 rfl ?_
      refine cl_1_28 C 38 ⟨Nat.le_of_ble_eq_true rfl, Nat.le_of_ble_eq_true rfl⟩ ⟨Nat.zero_le _, Nat.zero_le _⟩ (Nat.le_of_ble_eq_true rfl) dX1_find_35 rfl hz (fun S_3 hz => ?_)
      refine g_iconst C 39 (0 : Int32) ci_0 dX1_find_38 rfl ?_
      refine g_istore C 41 (i := 4) [1, 2, 3, 4, 0] (fun x4_4 => [(0, .ref (ad 27)), (1, .ref (ad i1)), (2, .ref (ad i2)), (3, .ref (ad 32)), (4, .int x4_4)]) dX1_find_39 rfl (by decide) (fun x4_4 => rfl) hz (fun x4_4 hz => ?_)
      exact (t_X1_find_L41 C hr fu) i1 i2 x4_4 S_3 h_i1 h_i2 hz
    · refine g_aload_n C 12 0 rfl dX1_find_11 rfl ?_
      refine gf_1_11 C 15 dX1_find_12 rfl ?_
      refine g_iload C 17 4 rfl dX1_find_15 rfl ?_
      refine g_iload C 19 4 rfl dX1_find_17 rfl ?_
      refine g_iast C 20 ha_28 dX1_find_19 rfl hz (fun S_12 hz => ?_)
      refine g_iinc C 23 4 [1, 2, 3, 4, 0] (1 : Int32) ci_1 (fun x4_13 => [(0, .ref (ad 27)), (1, .ref (ad i1)), (2, .ref (ad i2)), (3, .ref (ad 32)), (4, .int x4_13)]) dX1_find_20 rfl rfl (by decide) (fun x4_13 => rfl) hz (fun x4_13 hz => ?_)
      refine g_goto C 3 dX1_find_23 rfl ?_
      exact ih i1 i2 x4_13 S_12 h_i1 h_i2 hz
set_option maxRecDepth 20000 in
theorem t_X1_find {p : Program} {l : Launch} {e : Env} {s : State} {m : MethodId} {args : Array Value} {below : List Frame} {meth : Method} {c : Code} {D : va_G} {cy : Nat → ClassId} {ad : Nat → Nat} {n : Nat} {A : Nat → Prop} (C : gC p s m args meth c cX1_find 8 RX1 D cy ad n A) (hr : meth.sig.returnType = (some .boolean)) {z : Int32 × Sg} {S : Sg} {i1 : Nat} {i2 : Nat} (h_i1 : okM n i1 = true) (h_i2 : okM n i2 = true) (hz : f_X1_find i1 i2 S = some z) : gW p l e rm_X1_find s m args below meth c D cy ad n A 8 0 0 (MQ below (gQ D cy ad n A (some (.int z.1)) z.2) args s 0 0 A) S 0 [(0, .ref (ad 27)), (1, .ref (ad i1)), (2, .ref (ad i2)), (3, .ref (ad 32))] [] := by
  unfold f_X1_find at hz
  refine g_iconst C 1 (0 : Int32) ci_0 dX1_find_0 rfl ?_
  refine g_istore C 3 (i := 4) [1, 2, 3, 4, 0] (fun x4_1 => [(0, .ref (ad 27)), (1, .ref (ad i1)), (2, .ref (ad i2)), (3, .ref (ad 32)), (4, .int x4_1)]) dX1_find_1 rfl (by decide) (fun x4_1 => rfl) hz (fun x4_1 hz => ?_)
  exact (t_X1_find_L3 C hr fu) i1 i2 x4_1 S h_i1 h_i2 hz
theorem c_X1_find (l : Launch) (D : va_G) (cy : Nat → ClassId) (ad : Nat → Nat) (n : Nat) (S : Sg) (sz : Nat) (i1 : Nat) (i2 : Nat) (z : Int32 × Sg) (h_i1 : okM n i1 = true) (h_i2 : okM n i2 = true) (hz : f_X1_find i1 i2 S = some z) : Met l yX1_find (.code yX1_find cX1_find 8 (some .boolean) :: wsAll) rm_X1_find (gPc D cy ad n S sz [.ref (ad 27), .ref (ad i1), .ref (ad i2), .ref (ad 32)]) (gQ D cy ad n (va_A (wW cy ad n S) sz) (some (.int z.1)) z.2) 0 0 (va_A (wW cy ad n S) sz) := by
  refine gMet (lv := [(0, .ref (ad 27)), (1, .ref (ad i1)), (2, .ref (ad i2)), (3, .ref (ad 32))]) (by decide) (Nat.le_of_ble_eq_true rfl) rfl ?_
  intro p e s m args below meth c A hA hr C
  exact t_X1_find C hr h_i1 h_i2 hz
def rm_X9_differ : Room := { frames := 3, cells := 0, slots := 0, locals := 75 }
theorem wl_9_174 : Cond.methodLinkNest RX9 174 yX1_find "WordMachines" ∈ tables_1 := List.mem_of_getElem? (i := 588) (by decide +kernel)
theorem wi_X1_find : Cond.instanceMethod yX1_find ∈ wsAll := wA 590 (by decide +kernel) (by decide +kernel)
theorem we_X1_find : Cond.selects RX1 yX1_find yX1_find ∈ wsAll := wAp 47 (by decide +kernel) (by decide +kernel)
theorem wo_X1_find : Cond.code yX1_find cX1_find 8 (some .boolean) ∈ wsAll := wA 591 (by decide +kernel) (by decide +kernel)
theorem cl_9_174 {p : Program} {l : Launch} {e : Env} {R : Room} {s : State} {m : MethodId} {args : Array Value} {below : List Frame} {meth : Method} {c : Code} {cc : ByteArray} {nL : Nat} {D : va_G} {cy : Nat → ClassId} {ad : Nat → Nat} {n : Nat} {A : Nat → Prop} {mc ms : Nat} {Q : State → Prop} {S : Sg} {pc : Nat} {lv : List (Nat × Value)} {st : List Value} {ζ : Type} {z : ζ} (C : gC p s m args meth c cc nL RX9 D cy ad n A) (nx : Nat) {i1 : Nat} {i2 : Nat} (h_i1 : okM n i1 = true) (h_i2 : okM n i2 = true) (hR : Room.frames rm_X1_find + 1 ≤ R.frames ∧ 8 + (8 + 11) + Room.locals rm_X1_find ≤ R.locals) (hcm : mc ≤ R.cells ∧ ms ≤ R.slots) (hrest : (st.map fun v => v.category).sum ≤ 8) (hd : decode cc pc = .ok (.invokevirtual 174, 3)) (hn : pc + 3 = nx) {K : Int32 → Sg → Option ζ} (hz : bd2 (f_X1_find i1 i2 S) K = some z) (kk : ∀ r S', K r S' = some z → gW p l e R s m args below meth c D cy ad n A nL mc ms Q S' nx lv (.int r :: st)) : gW p l e R s m args below meth c D cy ad n A nL mc ms Q S pc lv (.ref (ad 32) :: .ref (ad i2) :: .ref (ad i1) :: .ref (ad 27) :: st) := by
  obtain ⟨q, hq, hk⟩ := bd2_s hz
  exact g_callVN C (i := 27) (ci := 1) (Cn := RX1) (T := TX1) (N := 5) (y := yX1_find) (rm := rm_X1_find) (As := [.ref (ad i1), .ref (ad i2), .ref (ad 32)]) (rest := st) (na := 3) (fun sz => c_X1_find l D cy ad n S sz i1 i2 q h_i1 h_i2 hq) ha_27 rfl rfl wl_9_174 wi_X1_find we_X1_find wz_1 wo_X1_find (by decide +kernel) rfl rfl hR hcm rfl hrest hn hd (kk q.1 q.2 hk)
set_option maxRecDepth 20000 in
theorem t_X9_differ {p : Program} {l : Launch} {e : Env} {s : State} {m : MethodId} {args : Array Value} {below : List Frame} {meth : Method} {c : Code} {D : va_G} {cy : Nat → ClassId} {ad : Nat → Nat} {n : Nat} {A : Nat → Prop} (C : gC p s m args meth c cX9_differ 5 RX9 D cy ad n A) (hr : meth.sig.returnType = (some .int)) {z : Int32 × Sg} {S : Sg} {x1 : Int32} {x2 : Int32} (hz : f_X9_differ n x1 x2 S = some z) : gW p l e rm_X9_differ s m args below meth c D cy ad n A 5 0 0 (MQ below (gQ D cy ad n A (some (.int z.1)) z.2) args s 0 0 A) S 0 [(0, .ref (ad 0)), (1, .int x1), (2, .int x2)] [] := by
  unfold f_X9_differ at hz
  refine g_aload_n C 1 0 rfl dX9_differ_0 rfl ?_
  refine g_iload_n C 2 1 rfl dX9_differ_1 rfl ?_
  refine cl_9_106 C 5 ⟨Nat.le_of_ble_eq_true rfl, Nat.le_of_ble_eq_true rfl⟩ ⟨Nat.zero_le _, Nat.zero_le _⟩ (Nat.le_of_ble_eq_true rfl) dX9_differ_2 rfl hz (fun r_2 S_1 hz => ?_)
  refine g_astoreN_n C 6 (i := 3) [1, 3, 0] [(0, .ref (ad 0)), (2, .int x2), (3, rv ad r_2)] dX9_differ_5 rfl rfl (by decide) rfl ?_
  refine g_aload_n C 7 0 rfl dX9_differ_6 rfl ?_
  refine g_iload_n C 8 1 rfl dX9_differ_7 rfl ?_
  refine cl_9_106 C 11 ⟨Nat.le_of_ble_eq_true rfl, Nat.le_of_ble_eq_true rfl⟩ ⟨Nat.zero_le _, Nat.zero_le _⟩ (Nat.le_of_ble_eq_true rfl) dX9_differ_8 rfl hz (fun r_4 S_3 hz => ?_)
  refine g_astoreN C 13 (i := 4) [1, 3, 0] [(0, .ref (ad 0)), (3, rv ad r_2), (4, rv ad r_4)] dX9_differ_11 rfl (by decide) (by cases r_2 <;> rfl) ?_
  refine g_aloadN_n C 14 1 rfl dX9_differ_13 rfl ?_
  refine g_ifnull C 39 17 dX9_differ_14 rfl rfl hz (fun e_r hz_i_5 => ?_) (fun i_5 e_r h_i_5 hz_i_5 => ?_)
  · subst e_r; have hz := hz_i_5
    try rw [rv_none]
    refine g_iconst C 40 (-1 : Int32) ci_m1 dX9_differ_39 rfl ?_
    exact g_iret C hr dX9_differ_40 hz
  · subst e_r; have hz := hz_i_5
    try rw [rv_some]
    refine g_aloadN C 19 2 rfl dX9_differ_17 rfl ?_
    refine g_ifnull C 39 22 dX9_differ_19 rfl rfl hz (fun e_r hz_i_6 => ?_) (fun i_6 e_r h_i_6 hz_i_6 => ?_)
    · subst e_r; have hz := hz_i_6
      try rw [rv_none]
      refine g_iconst C 40 (-1 : Int32) ci_m1 dX9_differ_39 rfl ?_
      exact g_iret C hr dX9_differ_40 hz
    · subst e_r; have hz := hz_i_6
      try rw [rv_some]
      refine g_aload_n C 23 0 rfl dX9_differ_22 rfl ?_
      refine gf_9_65 C 26 dX9_differ_23 rfl ?_
      refine g_aload_n C 27 1 rfl dX9_differ_26 rfl ?_
      refine g_aload C 29 2 rfl dX9_differ_27 rfl ?_
      refine g_aload_n C 30 0 rfl dX9_differ_29 rfl ?_
      refine gf_9_72 C 33 dX9_differ_30 rfl ?_
      refine cl_9_174 C 36 h_i_5 h_i_6 ⟨Nat.le_of_ble_eq_true rfl, Nat.le_of_ble_eq_true rfl⟩ ⟨Nat.zero_le _, Nat.zero_le _⟩ (Nat.le_of_ble_eq_true rfl) dX9_differ_33 rfl hz (fun r_8 S_7 hz => ?_)
      refine g_if_ne C 41 39 dX9_differ_36 rfl rfl hz (fun hz => ?_) (fun hz => ?_)
      · refine g_aload_n C 42 0 rfl dX9_differ_41 rfl ?_
        refine gf_9_72 C 45 dX9_differ_42 rfl ?_
        refine gf_9_167 C 48 dX9_differ_45 rfl ?_
        exact g_iret C hr dX9_differ_48 hz
      · refine g_iconst C 40 (-1 : Int32) ci_m1 dX9_differ_39 rfl ?_
        exact g_iret C hr dX9_differ_40 hz
theorem c_X9_differ (l : Launch) (D : va_G) (cy : Nat → ClassId) (ad : Nat → Nat) (n : Nat) (S : Sg) (sz : Nat) (x1 : Int32) (x2 : Int32) (z : Int32 × Sg) (hz : f_X9_differ n x1 x2 S = some z) : Met l yX9_differ (.code yX9_differ cX9_differ 5 (some .int) :: wsAll) rm_X9_differ (gPc D cy ad n S sz [.ref (ad 0), .int x1, .int x2]) (gQ D cy ad n (va_A (wW cy ad n S) sz) (some (.int z.1)) z.2) 0 0 (va_A (wW cy ad n S) sz) := by
  refine gMet (lv := [(0, .ref (ad 0)), (1, .int x1), (2, .int x2)]) (by decide) (Nat.le_of_ble_eq_true rfl) rfl ?_
  intro p e s m args below meth c A hA hr C
  exact t_X9_differ C hr hz
def rm_X9_letter : Room := { frames := 0, cells := 0, slots := 0, locals := 0 }
set_option maxRecDepth 20000 in
theorem t_X9_letter {p : Program} {l : Launch} {e : Env} {s : State} {m : MethodId} {args : Array Value} {below : List Frame} {meth : Method} {c : Code} {D : va_G} {cy : Nat → ClassId} {ad : Nat → Nat} {n : Nat} {A : Nat → Prop} (C : gC p s m args meth c cX9_letter 2 RX9 D cy ad n A) (hr : meth.sig.returnType = (some .int)) {z : Int32 × Sg} {S : Sg} {x1 : Int32} (hz : f_X9_letter x1 S = some z) : gW p l e rm_X9_letter s m args below meth c D cy ad n A 2 0 0 (MQ below (gQ D cy ad n A (some (.int z.1)) z.2) args s 0 0 A) S 0 [(0, .ref (ad 0)), (1, .int x1)] [] := by
  unfold f_X9_letter at hz
  refine g_iload_n C 1 1 rfl dX9_letter_0 rfl ?_
  refine g_if_lt C 27 4 dX9_letter_1 rfl rfl hz (fun hz => ?_) (fun hz => ?_)
  · refine g_iconst C 28 (-1 : Int32) ci_m1 dX9_letter_27 rfl ?_
    exact g_iret C hr dX9_letter_28 hz
  · refine g_iload_n C 5 1 rfl dX9_letter_4 rfl ?_
    refine g_aload_n C 6 0 rfl dX9_letter_5 rfl ?_
    refine gf_9_72 C 9 dX9_letter_6 rfl ?_
    refine gf_9_167 C 12 dX9_letter_9 rfl ?_
    refine g_icmp_ge C 27 15 dX9_letter_12 rfl rfl hz (fun hz => ?_) (fun hz => ?_)
    · refine g_iconst C 28 (-1 : Int32) ci_m1 dX9_letter_27 rfl ?_
      exact g_iret C hr dX9_letter_28 hz
    · refine g_aload_n C 16 0 rfl dX9_letter_15 rfl ?_
      refine gf_9_72 C 19 dX9_letter_16 rfl ?_
      refine gf_9_178 C 22 dX9_letter_19 rfl ?_
      refine g_iload_n C 23 1 rfl dX9_letter_22 rfl ?_
      refine g_iald C 24 ha_33 dX9_letter_23 rfl hz (fun hz => ?_)
      refine g_goto C 28 dX9_letter_24 rfl ?_
      exact g_iret C hr dX9_letter_28 hz
theorem c_X9_letter (l : Launch) (D : va_G) (cy : Nat → ClassId) (ad : Nat → Nat) (n : Nat) (S : Sg) (sz : Nat) (x1 : Int32) (z : Int32 × Sg) (hz : f_X9_letter x1 S = some z) : Met l yX9_letter (.code yX9_letter cX9_letter 2 (some .int) :: wsAll) rm_X9_letter (gPc D cy ad n S sz [.ref (ad 0), .int x1]) (gQ D cy ad n (va_A (wW cy ad n S) sz) (some (.int z.1)) z.2) 0 0 (va_A (wW cy ad n S) sz) := by
  refine gMet (lv := [(0, .ref (ad 0)), (1, .int x1)]) (by decide) (Nat.le_of_ble_eq_true rfl) rfl ?_
  intro p e s m args below meth c A hA hr C
  exact t_X9_letter C hr hz
def rm_X3_divideByAccepting : Room := { frames := 0, cells := 0, slots := 0, locals := 0 }
set_option maxRecDepth 20000 in
theorem t_X3_divideByAccepting_L50 {p : Program} {l : Launch} {e : Env} {s : State} {m : MethodId} {args : Array Value} {below : List Frame} {meth : Method} {c : Code} {D : va_G} {cy : Nat → ClassId} {ad : Nat → Nat} {n : Nat} {A : Nat → Prop} (C : gC p s m args meth c cX3_divideByAccepting 3 RX3 D cy ad n A) (hr : meth.sig.returnType = none) {z : Sg} {k7 : Nat → Int32 → Sg → Option (Sg)} (hk7 : ∀ (i0 : Nat) (x1 : Int32) (S : Sg), okM n i0 = true → k7 i0 x1 S = some z → gW p l e rm_X3_divideByAccepting s m args below meth c D cy ad n A 3 0 0 (MQ below (gQ D cy ad n A none z) args s 0 0 A) S 7 [(0, .ref (ad i0)), (1, .int x1)] []) : ∀ (i0 : Nat) (x1 : Int32) (x2 : Int32) (t0 : Int32) (t1 : Int32) (i_t2 : Nat) (S : Sg), okM n i0 = true → okM n i_t2 = true → f_X3_divideByAccepting_L50 k7 i0 x1 x2 t0 t1 i_t2 S = some z → gW p l e rm_X3_divideByAccepting s m args below meth c D cy ad n A 3 0 0 (MQ below (gQ D cy ad n A none z) args s 0 0 A) S 50 [(0, .ref (ad i0)), (1, .int x1), (2, .int x2)] [.int t0, .int t1, .ref (ad (i_t2 + 5))] := by
  intro i0 x1 x2 t0 t1 i_t2 S h_i0 h_i_t2 hz
  unfold f_X3_divideByAccepting_L50 at hz
  refine g_iast C 51 (has_m h_i_t2 5 (by decide)) dX3_divideByAccepting_50 rfl hz (fun S_4 hz => ?_)
  refine g_aload_n C 52 0 rfl dX3_divideByAccepting_51 rfl ?_
  refine g_iload_n C 53 2 rfl dX3_divideByAccepting_52 rfl ?_
  refine g_if_eq C 63 56 dX3_divideByAccepting_53 rfl rfl hz (fun hz => ?_) (fun hz => ?_)
  · refine g_iconst C 64 (2 : Int32) ci_2 dX3_divideByAccepting_63 rfl ?_
    refine pf_3_42 C 67 h_i0 dX3_divideByAccepting_64 rfl hz (fun S_5 hz => ?_)
    refine g_iinc C 70 1 [1, 0] (1 : Int32) ci_1 (fun x1_6 => [(0, .ref (ad i0)), (1, .int x1_6)]) dX3_divideByAccepting_67 rfl rfl (by decide) (fun x1_6 => rfl) hz (fun x1_6 hz => ?_)
    refine g_goto C 7 dX3_divideByAccepting_70 rfl ?_
    exact hk7 i0 x1_6 S_5 h_i0 hz
  · refine g_aload_n C 57 0 rfl dX3_divideByAccepting_56 rfl ?_
    refine gf_3_42 C 60 h_i0 dX3_divideByAccepting_57 rfl ?_
    refine g_goto C 64 dX3_divideByAccepting_60 rfl ?_
    refine pf_3_42 C 67 h_i0 dX3_divideByAccepting_64 rfl hz (fun S_7 hz => ?_)
    refine g_iinc C 70 1 [1, 0] (1 : Int32) ci_1 (fun x1_8 => [(0, .ref (ad i0)), (1, .int x1_8)]) dX3_divideByAccepting_67 rfl rfl (by decide) (fun x1_8 => rfl) hz (fun x1_8 hz => ?_)
    refine g_goto C 7 dX3_divideByAccepting_70 rfl ?_
    exact hk7 i0 x1_8 S_7 h_i0 hz
set_option maxRecDepth 20000 in
theorem t_X3_divideByAccepting_L35 {p : Program} {l : Launch} {e : Env} {s : State} {m : MethodId} {args : Array Value} {below : List Frame} {meth : Method} {c : Code} {D : va_G} {cy : Nat → ClassId} {ad : Nat → Nat} {n : Nat} {A : Nat → Prop} (C : gC p s m args meth c cX3_divideByAccepting 3 RX3 D cy ad n A) (hr : meth.sig.returnType = none) {z : Sg} {k7 : Nat → Int32 → Sg → Option (Sg)} (hk7 : ∀ (i0 : Nat) (x1 : Int32) (S : Sg), okM n i0 = true → k7 i0 x1 S = some z → gW p l e rm_X3_divideByAccepting s m args below meth c D cy ad n A 3 0 0 (MQ below (gQ D cy ad n A none z) args s 0 0 A) S 7 [(0, .ref (ad i0)), (1, .int x1)] []) : ∀ (i0 : Nat) (x1 : Int32) (t0 : Int32) (S : Sg), okM n i0 = true → f_X3_divideByAccepting_L35 k7 i0 x1 t0 S = some z → gW p l e rm_X3_divideByAccepting s m args below meth c D cy ad n A 3 0 0 (MQ below (gQ D cy ad n A none z) args s 0 0 A) S 35 [(0, .ref (ad i0)), (1, .int x1)] [.int t0] := by
  intro i0 x1 t0 S h_i0 hz
  unfold f_X3_divideByAccepting_L35 at hz
  refine g_istore_n C 36 (i := 2) [1, 2, 0] (fun x2_3 => [(0, .ref (ad i0)), (1, .int x1), (2, .int x2_3)]) dX3_divideByAccepting_35 rfl rfl (by decide) (fun x2_3 => rfl) hz (fun x2_3 hz => ?_)
  refine g_aload_n C 37 0 rfl dX3_divideByAccepting_36 rfl ?_
  refine gf_3_52 C 40 h_i0 dX3_divideByAccepting_37 rfl ?_
  refine g_iload_n C 41 1 rfl dX3_divideByAccepting_40 rfl ?_
  refine g_iload_n C 42 2 rfl dX3_divideByAccepting_41 rfl ?_
  refine g_if_eq C 49 45 dX3_divideByAccepting_42 rfl rfl hz (fun hz => ?_) (fun hz => ?_)
  · refine g_iconst C 50 (1 : Int32) ci_1 dX3_divideByAccepting_49 rfl ?_
    exact (t_X3_divideByAccepting_L50 C hr hk7) i0 x1 x2_3 ((1 : Int32)) x1 i0 S h_i0 h_i0 hz
  · refine g_iconst C 46 (0 : Int32) ci_0 dX3_divideByAccepting_45 rfl ?_
    refine g_goto C 50 dX3_divideByAccepting_46 rfl ?_
    exact (t_X3_divideByAccepting_L50 C hr hk7) i0 x1 x2_3 ((0 : Int32)) x1 i0 S h_i0 h_i0 hz
set_option maxRecDepth 20000 in
theorem t_X3_divideByAccepting_L7 {p : Program} {l : Launch} {e : Env} {s : State} {m : MethodId} {args : Array Value} {below : List Frame} {meth : Method} {c : Code} {D : va_G} {cy : Nat → ClassId} {ad : Nat → Nat} {n : Nat} {A : Nat → Prop} (C : gC p s m args meth c cX3_divideByAccepting 3 RX3 D cy ad n A) (hr : meth.sig.returnType = none) {z : Sg} : ∀ (fl : Nat) (i0 : Nat) (x1 : Int32) (S : Sg), okM n i0 = true → f_X3_divideByAccepting_L7 fl i0 x1 S = some z → gW p l e rm_X3_divideByAccepting s m args below meth c D cy ad n A 3 0 0 (MQ below (gQ D cy ad n A none z) args s 0 0 A) S 7 [(0, .ref (ad i0)), (1, .int x1)] [] := by
  intro fl
  induction fl with
  | zero =>
    intro i0 x1 S h_i0 hz
    rw [f_X3_divideByAccepting_L7] at hz
    cases hz
  | succ fl ih =>
    intro i0 x1 S h_i0 hz
    rw [f_X3_divideByAccepting_L7] at hz
    refine g_iload_n C 8 1 rfl dX3_divideByAccepting_7 rfl ?_
    refine g_aload_n C 9 0 rfl dX3_divideByAccepting_8 rfl ?_
    refine gf_3_46 C 12 h_i0 dX3_divideByAccepting_9 rfl ?_
    refine g_icmp_ge C 73 15 dX3_divideByAccepting_12 rfl rfl hz (fun hz => ?_) (fun hz => ?_)
    · exact g_vret C hr dX3_divideByAccepting_73 hz
    · refine g_aload_n C 16 0 rfl dX3_divideByAccepting_15 rfl ?_
      refine gf_3_49 C 19 h_i0 dX3_divideByAccepting_16 rfl ?_
      refine g_iload_n C 20 1 rfl dX3_divideByAccepting_19 rfl ?_
      refine g_zald C 21 (has_m h_i0 4 (by decide)) dX3_divideByAccepting_20 rfl hz (fun hz => ?_)
      refine g_aload_n C 22 0 rfl dX3_divideByAccepting_21 rfl ?_
      refine gf_3_49 C 25 h_i0 dX3_divideByAccepting_22 rfl ?_
      refine g_iconst C 26 (0 : Int32) ci_0 dX3_divideByAccepting_25 rfl ?_
      refine g_zald C 27 (has_m h_i0 4 (by decide)) dX3_divideByAccepting_26 rfl hz (fun hz => ?_)
      refine g_icmp_ne C 34 30 dX3_divideByAccepting_27 rfl rfl hz (fun hz => ?_) (fun hz => ?_)
      · refine g_iconst C 35 (0 : Int32) ci_0 dX3_divideByAccepting_34 rfl ?_
        exact (t_X3_divideByAccepting_L35 C hr ih) i0 x1 ((0 : Int32)) S h_i0 hz
      · refine g_iconst C 31 (1 : Int32) ci_1 dX3_divideByAccepting_30 rfl ?_
        refine g_goto C 35 dX3_divideByAccepting_31 rfl ?_
        exact (t_X3_divideByAccepting_L35 C hr ih) i0 x1 ((1 : Int32)) S h_i0 hz
set_option maxRecDepth 20000 in
theorem t_X3_divideByAccepting {p : Program} {l : Launch} {e : Env} {s : State} {m : MethodId} {args : Array Value} {below : List Frame} {meth : Method} {c : Code} {D : va_G} {cy : Nat → ClassId} {ad : Nat → Nat} {n : Nat} {A : Nat → Prop} (C : gC p s m args meth c cX3_divideByAccepting 3 RX3 D cy ad n A) (hr : meth.sig.returnType = none) {z : Sg} {S : Sg} {i0 : Nat} (h_i0 : okM n i0 = true) (hz : f_X3_divideByAccepting i0 S = some z) : gW p l e rm_X3_divideByAccepting s m args below meth c D cy ad n A 3 0 0 (MQ below (gQ D cy ad n A none z) args s 0 0 A) S 0 [(0, .ref (ad i0))] [] := by
  unfold f_X3_divideByAccepting at hz
  refine g_aload_n C 1 0 rfl dX3_divideByAccepting_0 rfl ?_
  refine g_iconst C 2 (1 : Int32) ci_1 dX3_divideByAccepting_1 rfl ?_
  refine pf_3_42 C 5 h_i0 dX3_divideByAccepting_2 rfl hz (fun S_1 hz => ?_)
  refine g_iconst C 6 (0 : Int32) ci_0 dX3_divideByAccepting_5 rfl ?_
  refine g_istore_n C 7 (i := 1) [1, 0] (fun x1_2 => [(0, .ref (ad i0)), (1, .int x1_2)]) dX3_divideByAccepting_6 rfl rfl (by decide) (fun x1_2 => rfl) hz (fun x1_2 hz => ?_)
  exact (t_X3_divideByAccepting_L7 C hr fu) i0 x1_2 S_1 h_i0 hz
theorem c_X3_divideByAccepting (l : Launch) (D : va_G) (cy : Nat → ClassId) (ad : Nat → Nat) (n : Nat) (S : Sg) (sz : Nat) (i0 : Nat) (z : Sg) (h_i0 : okM n i0 = true) (hz : f_X3_divideByAccepting i0 S = some z) : Met l yX3_divideByAccepting (.code yX3_divideByAccepting cX3_divideByAccepting 3 none :: wsAll) rm_X3_divideByAccepting (gPc D cy ad n S sz [.ref (ad i0)]) (gQ D cy ad n (va_A (wW cy ad n S) sz) none z) 0 0 (va_A (wW cy ad n S) sz) := by
  refine gMet (lv := [(0, .ref (ad i0))]) (by decide) (Nat.le_of_ble_eq_true rfl) rfl ?_
  intro p e s m args below meth c A hA hr C
  exact t_X3_divideByAccepting C hr h_i0 hz
