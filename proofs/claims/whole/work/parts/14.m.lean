def rm_X10_keeps : Room := { frames := 0, cells := 0, slots := 0, locals := 0 }
set_option maxRecDepth 20000 in
theorem t_X10_keeps_L118 {p : Program} {l : Launch} {e : Env} {s : State} {m : MethodId} {args : Array Value} {below : List Frame} {meth : Method} {c : Code} {D : va_G} {cy : Nat → ClassId} {ad : Nat → Nat} {n : Nat} {A : Nat → Prop} (C : gC p s m args meth c cX10_keeps 4 RX10 D cy ad n A) (hr : meth.sig.returnType = none) {z : Sg} : ∀ (fl : Nat) (x1 : Int32) (x2 : Int32) (x3 : Int32) (S : Sg), f_X10_keeps_L118 fl x1 x2 x3 S = some z → gW p l e rm_X10_keeps s m args below meth c D cy ad n A 4 0 0 (MQ below (gQ D cy ad n A none z) args s 0 0 A) S 118 [(0, .ref (ad 34)), (1, .int x1), (2, .int x2), (3, .int x3)] [] := by
  intro fl
  induction fl with
  | zero =>
    intro x1 x2 x3 S hz
    rw [f_X10_keeps_L118] at hz
    cases hz
  | succ fl ih =>
    intro x1 x2 x3 S hz
    rw [f_X10_keeps_L118] at hz
    refine g_iload_n C 119 3 rfl dX10_keeps_118 rfl ?_
    refine g_sipush C 122 (150 : Int32) cs_150 dX10_keeps_119 rfl ?_
    refine g_icmp_ge C 210 125 dX10_keeps_122 rfl rfl hz (fun hz => ?_) (fun hz => ?_)
    · exact g_vret C hr dX10_keeps_210 hz
    · refine g_iload_n C 126 2 rfl dX10_keeps_125 rfl ?_
      refine g_if_eq C 168 129 dX10_keeps_126 rfl rfl hz (fun hz => ?_) (fun hz => ?_)
      · refine g_aload_n C 169 0 rfl dX10_keeps_168 rfl ?_
        refine gf_10_121 C 172 dX10_keeps_169 rfl ?_
        refine g_iload_n C 173 3 rfl dX10_keeps_172 rfl ?_
        refine g_aload_n C 174 0 rfl dX10_keeps_173 rfl ?_
        refine gf_10_67 C 177 dX10_keeps_174 rfl ?_
        refine g_sipush C 180 (150 : Int32) cs_150 dX10_keeps_177 rfl ?_
        refine g_iload_n C 181 1 rfl dX10_keeps_180 rfl ?_
        refine g_imul C 182 dX10_keeps_181 rfl ?_
        refine g_iload_n C 183 3 rfl dX10_keeps_182 rfl ?_
        refine g_iadd C 184 dX10_keeps_183 rfl ?_
        refine g_iald C 185 ha_52 dX10_keeps_184 rfl hz (fun hz => ?_)
        refine g_iast C 186 ha_70 dX10_keeps_185 rfl hz (fun S_4 hz => ?_)
        refine g_aload_n C 187 0 rfl dX10_keeps_186 rfl ?_
        refine gf_10_124 C 190 dX10_keeps_187 rfl ?_
        refine g_iload_n C 191 3 rfl dX10_keeps_190 rfl ?_
        refine g_aload_n C 192 0 rfl dX10_keeps_191 rfl ?_
        refine gf_10_70 C 195 dX10_keeps_192 rfl ?_
        refine g_sipush C 198 (150 : Int32) cs_150 dX10_keeps_195 rfl ?_
        refine g_iload_n C 199 1 rfl dX10_keeps_198 rfl ?_
        refine g_imul C 200 dX10_keeps_199 rfl ?_
        refine g_iload_n C 201 3 rfl dX10_keeps_200 rfl ?_
        refine g_iadd C 202 dX10_keeps_201 rfl ?_
        refine g_iald C 203 ha_53 dX10_keeps_202 rfl hz (fun hz => ?_)
        refine g_iast C 204 ha_71 dX10_keeps_203 rfl hz (fun S_5 hz => ?_)
        refine g_iinc C 207 3 [1, 2, 3, 0] (1 : Int32) ci_1 (fun x3_6 => [(0, .ref (ad 34)), (1, .int x1), (2, .int x2), (3, .int x3_6)]) dX10_keeps_204 rfl rfl (by decide) (fun x3_6 => rfl) hz (fun x3_6 hz => ?_)
        refine g_goto C 118 dX10_keeps_207 rfl ?_
        exact ih x1 x2 x3_6 S_5 hz
      · refine g_aload_n C 130 0 rfl dX10_keeps_129 rfl ?_
        refine gf_10_67 C 133 dX10_keeps_130 rfl ?_
        refine g_sipush C 136 (150 : Int32) cs_150 dX10_keeps_133 rfl ?_
        refine g_iload_n C 137 1 rfl dX10_keeps_136 rfl ?_
        refine g_imul C 138 dX10_keeps_137 rfl ?_
        refine g_iload_n C 139 3 rfl dX10_keeps_138 rfl ?_
        refine g_iadd C 140 dX10_keeps_139 rfl ?_
        refine g_aload_n C 141 0 rfl dX10_keeps_140 rfl ?_
        refine gf_10_121 C 144 dX10_keeps_141 rfl ?_
        refine g_iload_n C 145 3 rfl dX10_keeps_144 rfl ?_
        refine g_iald C 146 ha_70 dX10_keeps_145 rfl hz (fun hz => ?_)
        refine g_iast C 147 ha_52 dX10_keeps_146 rfl hz (fun S_7 hz => ?_)
        refine g_aload_n C 148 0 rfl dX10_keeps_147 rfl ?_
        refine gf_10_70 C 151 dX10_keeps_148 rfl ?_
        refine g_sipush C 154 (150 : Int32) cs_150 dX10_keeps_151 rfl ?_
        refine g_iload_n C 155 1 rfl dX10_keeps_154 rfl ?_
        refine g_imul C 156 dX10_keeps_155 rfl ?_
        refine g_iload_n C 157 3 rfl dX10_keeps_156 rfl ?_
        refine g_iadd C 158 dX10_keeps_157 rfl ?_
        refine g_aload_n C 159 0 rfl dX10_keeps_158 rfl ?_
        refine gf_10_124 C 162 dX10_keeps_159 rfl ?_
        refine g_iload_n C 163 3 rfl dX10_keeps_162 rfl ?_
        refine g_iald C 164 ha_71 dX10_keeps_163 rfl hz (fun hz => ?_)
        refine g_iast C 165 ha_53 dX10_keeps_164 rfl hz (fun S_8 hz => ?_)
        refine g_goto C 204 dX10_keeps_165 rfl ?_
        refine g_iinc C 207 3 [1, 2, 3, 0] (1 : Int32) ci_1 (fun x3_9 => [(0, .ref (ad 34)), (1, .int x1), (2, .int x2), (3, .int x3_9)]) dX10_keeps_204 rfl rfl (by decide) (fun x3_9 => rfl) hz (fun x3_9 hz => ?_)
        refine g_goto C 118 dX10_keeps_207 rfl ?_
        exact ih x1 x2 x3_9 S_8 hz
set_option maxRecDepth 20000 in
theorem t_X10_keeps_L60 {p : Program} {l : Launch} {e : Env} {s : State} {m : MethodId} {args : Array Value} {below : List Frame} {meth : Method} {c : Code} {D : va_G} {cy : Nat → ClassId} {ad : Nat → Nat} {n : Nat} {A : Nat → Prop} (C : gC p s m args meth c cX10_keeps 4 RX10 D cy ad n A) (hr : meth.sig.returnType = none) {z : Sg} : ∀ (fl : Nat) (x1 : Int32) (x2 : Int32) (x3 : Int32) (S : Sg), f_X10_keeps_L60 fl x1 x2 x3 S = some z → gW p l e rm_X10_keeps s m args below meth c D cy ad n A 4 0 0 (MQ below (gQ D cy ad n A none z) args s 0 0 A) S 60 [(0, .ref (ad 34)), (1, .int x1), (2, .int x2), (3, .int x3)] [] := by
  intro fl
  induction fl with
  | zero =>
    intro x1 x2 x3 S hz
    rw [f_X10_keeps_L60] at hz
    cases hz
  | succ fl ih =>
    intro x1 x2 x3 S hz
    rw [f_X10_keeps_L60] at hz
    refine g_iload_n C 61 3 rfl dX10_keeps_60 rfl ?_
    refine g_sipush C 64 (600 : Int32) cs_600 dX10_keeps_61 rfl ?_
    refine g_icmp_ge C 116 67 dX10_keeps_64 rfl rfl hz (fun hz => ?_) (fun hz => ?_)
    · refine g_iconst C 117 (0 : Int32) ci_0 dX10_keeps_116 rfl ?_
      refine g_istore_n C 118 (i := 3) [1, 2, 3, 0] (fun x3_3 => [(0, .ref (ad 34)), (1, .int x1), (2, .int x2), (3, .int x3_3)]) dX10_keeps_117 rfl rfl (by decide) (fun x3_3 => rfl) hz (fun x3_3 hz => ?_)
      exact (t_X10_keeps_L118 C hr fu) x1 x2 x3_3 S hz
    · refine g_iload_n C 68 2 rfl dX10_keeps_67 rfl ?_
      refine g_if_eq C 92 71 dX10_keeps_68 rfl rfl hz (fun hz => ?_) (fun hz => ?_)
      · refine g_aload_n C 93 0 rfl dX10_keeps_92 rfl ?_
        refine gf_10_118 C 96 dX10_keeps_93 rfl ?_
        refine g_iload_n C 97 3 rfl dX10_keeps_96 rfl ?_
        refine g_aload_n C 98 0 rfl dX10_keeps_97 rfl ?_
        refine gf_10_55 C 101 dX10_keeps_98 rfl ?_
        refine g_sipush C 104 (600 : Int32) cs_600 dX10_keeps_101 rfl ?_
        refine g_iload_n C 105 1 rfl dX10_keeps_104 rfl ?_
        refine g_imul C 106 dX10_keeps_105 rfl ?_
        refine g_iload_n C 107 3 rfl dX10_keeps_106 rfl ?_
        refine g_iadd C 108 dX10_keeps_107 rfl ?_
        refine g_iald C 109 ha_48 dX10_keeps_108 rfl hz (fun hz => ?_)
        refine g_iast C 110 ha_69 dX10_keeps_109 rfl hz (fun S_10 hz => ?_)
        refine g_iinc C 113 3 [1, 2, 3, 0] (1 : Int32) ci_1 (fun x3_11 => [(0, .ref (ad 34)), (1, .int x1), (2, .int x2), (3, .int x3_11)]) dX10_keeps_110 rfl rfl (by decide) (fun x3_11 => rfl) hz (fun x3_11 hz => ?_)
        refine g_goto C 60 dX10_keeps_113 rfl ?_
        exact ih x1 x2 x3_11 S_10 hz
      · refine g_aload_n C 72 0 rfl dX10_keeps_71 rfl ?_
        refine gf_10_55 C 75 dX10_keeps_72 rfl ?_
        refine g_sipush C 78 (600 : Int32) cs_600 dX10_keeps_75 rfl ?_
        refine g_iload_n C 79 1 rfl dX10_keeps_78 rfl ?_
        refine g_imul C 80 dX10_keeps_79 rfl ?_
        refine g_iload_n C 81 3 rfl dX10_keeps_80 rfl ?_
        refine g_iadd C 82 dX10_keeps_81 rfl ?_
        refine g_aload_n C 83 0 rfl dX10_keeps_82 rfl ?_
        refine gf_10_118 C 86 dX10_keeps_83 rfl ?_
        refine g_iload_n C 87 3 rfl dX10_keeps_86 rfl ?_
        refine g_iald C 88 ha_69 dX10_keeps_87 rfl hz (fun hz => ?_)
        refine g_iast C 89 ha_48 dX10_keeps_88 rfl hz (fun S_12 hz => ?_)
        refine g_goto C 110 dX10_keeps_89 rfl ?_
        refine g_iinc C 113 3 [1, 2, 3, 0] (1 : Int32) ci_1 (fun x3_13 => [(0, .ref (ad 34)), (1, .int x1), (2, .int x2), (3, .int x3_13)]) dX10_keeps_110 rfl rfl (by decide) (fun x3_13 => rfl) hz (fun x3_13 hz => ?_)
        refine g_goto C 60 dX10_keeps_113 rfl ?_
        exact ih x1 x2 x3_13 S_12 hz
set_option maxRecDepth 20000 in
theorem t_X10_keeps_L2 {p : Program} {l : Launch} {e : Env} {s : State} {m : MethodId} {args : Array Value} {below : List Frame} {meth : Method} {c : Code} {D : va_G} {cy : Nat → ClassId} {ad : Nat → Nat} {n : Nat} {A : Nat → Prop} (C : gC p s m args meth c cX10_keeps 4 RX10 D cy ad n A) (hr : meth.sig.returnType = none) {z : Sg} : ∀ (fl : Nat) (x1 : Int32) (x2 : Int32) (x3 : Int32) (S : Sg), f_X10_keeps_L2 fl x1 x2 x3 S = some z → gW p l e rm_X10_keeps s m args below meth c D cy ad n A 4 0 0 (MQ below (gQ D cy ad n A none z) args s 0 0 A) S 2 [(0, .ref (ad 34)), (1, .int x1), (2, .int x2), (3, .int x3)] [] := by
  intro fl
  induction fl with
  | zero =>
    intro x1 x2 x3 S hz
    rw [f_X10_keeps_L2] at hz
    cases hz
  | succ fl ih =>
    intro x1 x2 x3 S hz
    rw [f_X10_keeps_L2] at hz
    refine g_iload_n C 3 3 rfl dX10_keeps_2 rfl ?_
    refine g_sipush C 6 (900 : Int32) cs_900 dX10_keeps_3 rfl ?_
    refine g_icmp_ge C 58 9 dX10_keeps_6 rfl rfl hz (fun hz => ?_) (fun hz => ?_)
    · refine g_iconst C 59 (0 : Int32) ci_0 dX10_keeps_58 rfl ?_
      refine g_istore_n C 60 (i := 3) [1, 2, 3, 0] (fun x3_2 => [(0, .ref (ad 34)), (1, .int x1), (2, .int x2), (3, .int x3_2)]) dX10_keeps_59 rfl rfl (by decide) (fun x3_2 => rfl) hz (fun x3_2 hz => ?_)
      exact (t_X10_keeps_L60 C hr fu) x1 x2 x3_2 S hz
    · refine g_iload_n C 10 2 rfl dX10_keeps_9 rfl ?_
      refine g_if_eq C 34 13 dX10_keeps_10 rfl rfl hz (fun hz => ?_) (fun hz => ?_)
      · refine g_aload_n C 35 0 rfl dX10_keeps_34 rfl ?_
        refine gf_10_115 C 38 dX10_keeps_35 rfl ?_
        refine g_iload_n C 39 3 rfl dX10_keeps_38 rfl ?_
        refine g_aload_n C 40 0 rfl dX10_keeps_39 rfl ?_
        refine gf_10_61 C 43 dX10_keeps_40 rfl ?_
        refine g_sipush C 46 (900 : Int32) cs_900 dX10_keeps_43 rfl ?_
        refine g_iload_n C 47 1 rfl dX10_keeps_46 rfl ?_
        refine g_imul C 48 dX10_keeps_47 rfl ?_
        refine g_iload_n C 49 3 rfl dX10_keeps_48 rfl ?_
        refine g_iadd C 50 dX10_keeps_49 rfl ?_
        refine g_iald C 51 ha_50 dX10_keeps_50 rfl hz (fun hz => ?_)
        refine g_iast C 52 ha_68 dX10_keeps_51 rfl hz (fun S_14 hz => ?_)
        refine g_iinc C 55 3 [1, 2, 3, 0] (1 : Int32) ci_1 (fun x3_15 => [(0, .ref (ad 34)), (1, .int x1), (2, .int x2), (3, .int x3_15)]) dX10_keeps_52 rfl rfl (by decide) (fun x3_15 => rfl) hz (fun x3_15 hz => ?_)
        refine g_goto C 2 dX10_keeps_55 rfl ?_
        exact ih x1 x2 x3_15 S_14 hz
      · refine g_aload_n C 14 0 rfl dX10_keeps_13 rfl ?_
        refine gf_10_61 C 17 dX10_keeps_14 rfl ?_
        refine g_sipush C 20 (900 : Int32) cs_900 dX10_keeps_17 rfl ?_
        refine g_iload_n C 21 1 rfl dX10_keeps_20 rfl ?_
        refine g_imul C 22 dX10_keeps_21 rfl ?_
        refine g_iload_n C 23 3 rfl dX10_keeps_22 rfl ?_
        refine g_iadd C 24 dX10_keeps_23 rfl ?_
        refine g_aload_n C 25 0 rfl dX10_keeps_24 rfl ?_
        refine gf_10_115 C 28 dX10_keeps_25 rfl ?_
        refine g_iload_n C 29 3 rfl dX10_keeps_28 rfl ?_
        refine g_iald C 30 ha_68 dX10_keeps_29 rfl hz (fun hz => ?_)
        refine g_iast C 31 ha_50 dX10_keeps_30 rfl hz (fun S_16 hz => ?_)
        refine g_goto C 52 dX10_keeps_31 rfl ?_
        refine g_iinc C 55 3 [1, 2, 3, 0] (1 : Int32) ci_1 (fun x3_17 => [(0, .ref (ad 34)), (1, .int x1), (2, .int x2), (3, .int x3_17)]) dX10_keeps_52 rfl rfl (by decide) (fun x3_17 => rfl) hz (fun x3_17 hz => ?_)
        refine g_goto C 2 dX10_keeps_55 rfl ?_
        exact ih x1 x2 x3_17 S_16 hz
set_option maxRecDepth 20000 in
theorem t_X10_keeps {p : Program} {l : Launch} {e : Env} {s : State} {m : MethodId} {args : Array Value} {below : List Frame} {meth : Method} {c : Code} {D : va_G} {cy : Nat → ClassId} {ad : Nat → Nat} {n : Nat} {A : Nat → Prop} (C : gC p s m args meth c cX10_keeps 4 RX10 D cy ad n A) (hr : meth.sig.returnType = none) {z : Sg} {S : Sg} {x1 : Int32} {x2 : Int32} (hz : f_X10_keeps x1 x2 S = some z) : gW p l e rm_X10_keeps s m args below meth c D cy ad n A 4 0 0 (MQ below (gQ D cy ad n A none z) args s 0 0 A) S 0 [(0, .ref (ad 34)), (1, .int x1), (2, .int x2)] [] := by
  unfold f_X10_keeps at hz
  refine g_iconst C 1 (0 : Int32) ci_0 dX10_keeps_0 rfl ?_
  refine g_istore_n C 2 (i := 3) [1, 2, 3, 0] (fun x3_1 => [(0, .ref (ad 34)), (1, .int x1), (2, .int x2), (3, .int x3_1)]) dX10_keeps_1 rfl rfl (by decide) (fun x3_1 => rfl) hz (fun x3_1 hz => ?_)
  exact (t_X10_keeps_L2 C hr fu) x1 x2 x3_1 S hz
theorem c_X10_keeps (l : Launch) (D : va_G) (cy : Nat → ClassId) (ad : Nat → Nat) (n : Nat) (S : Sg) (sz : Nat) (x1 : Int32) (x2 : Int32) (z : Sg) (hz : f_X10_keeps x1 x2 S = some z) : Met l yX10_keeps (.code yX10_keeps cX10_keeps 4 none :: wsAll) rm_X10_keeps (gPc D cy ad n S sz [.ref (ad 34), .int x1, .int x2]) (gQ D cy ad n (va_A (wW cy ad n S) sz) none z) 0 0 (va_A (wW cy ad n S) sz) := by
  refine gMet (lv := [(0, .ref (ad 34)), (1, .int x1), (2, .int x2)]) (by decide) (Nat.le_of_ble_eq_true rfl) rfl ?_
  intro p e s m args below meth c A hA hr C
  exact t_X10_keeps C hr hz
def rm_X10_read : Room := { frames := 6, cells := 0, slots := 0, locals := 132 }
theorem wl_10_268 : Cond.methodLink RX10 268 yX10_whole ∈ wsAll := wA 805 (by decide +kernel) (by decide +kernel)
theorem wi_X10_whole : Cond.instanceMethod yX10_whole ∈ wsAll := wA 807 (by decide +kernel) (by decide +kernel)
theorem we_X10_whole : Cond.selects RX10 yX10_whole yX10_whole ∈ wsAll := wAp 51 (by decide +kernel) (by decide +kernel)
theorem wo_X10_whole : Cond.code yX10_whole cX10_whole 2 none ∈ wsAll := wA 808 (by decide +kernel) (by decide +kernel)
theorem cl_10_268 {p : Program} {l : Launch} {e : Env} {R : Room} {s : State} {m : MethodId} {args : Array Value} {below : List Frame} {meth : Method} {c : Code} {cc : ByteArray} {nL : Nat} {D : va_G} {cy : Nat → ClassId} {ad : Nat → Nat} {n : Nat} {A : Nat → Prop} {mc ms : Nat} {Q : State → Prop} {S : Sg} {pc : Nat} {lv : List (Nat × Value)} {st : List Value} {ζ : Type} {z : ζ} (C : gC p s m args meth c cc nL RX10 D cy ad n A) (nx : Nat) (hR : Room.frames rm_X10_whole + 1 ≤ R.frames ∧ 8 + (2 + 11) + Room.locals rm_X10_whole ≤ R.locals) (hcm : mc ≤ R.cells ∧ ms ≤ R.slots) (hrest : (st.map fun v => v.category).sum ≤ 8) (hd : decode cc pc = .ok (.invokevirtual 268, 3)) (hn : pc + 3 = nx) {K : Sg → Option ζ} (hz : bd (f_X10_whole S) K = some z) (kk : ∀ S', K S' = some z → gW p l e R s m args below meth c D cy ad n A nL mc ms Q S' nx lv st) : gW p l e R s m args below meth c D cy ad n A nL mc ms Q S pc lv (.ref (ad 34) :: st) := by
  obtain ⟨q, hq, hk⟩ := bd_s hz
  exact g_callV C (i := 34) (ci := 10) (Cn := RX10) (T := TX10) (N := 59) (y := yX10_whole) (rm := rm_X10_whole) (As := []) (rest := st) (na := 0) (fun sz => c_X10_whole l D cy ad n S sz  q hq) ha_34 rfl rfl wl_10_268 wi_X10_whole we_X10_whole wz_10 wo_X10_whole (by decide +kernel) rfl rfl hR hcm rfl hrest hn hd (kk q hk)
theorem wl_10_271 : Cond.methodLink RX10 271 yX10_keeps ∈ wsAll := wA 881 (by decide +kernel) (by decide +kernel)
theorem wi_X10_keeps : Cond.instanceMethod yX10_keeps ∈ wsAll := wA 883 (by decide +kernel) (by decide +kernel)
theorem we_X10_keeps : Cond.selects RX10 yX10_keeps yX10_keeps ∈ wsAll := wAp 70 (by decide +kernel) (by decide +kernel)
theorem wo_X10_keeps : Cond.code yX10_keeps cX10_keeps 4 none ∈ wsAll := wA 884 (by decide +kernel) (by decide +kernel)
theorem cl_10_271 {p : Program} {l : Launch} {e : Env} {R : Room} {s : State} {m : MethodId} {args : Array Value} {below : List Frame} {meth : Method} {c : Code} {cc : ByteArray} {nL : Nat} {D : va_G} {cy : Nat → ClassId} {ad : Nat → Nat} {n : Nat} {A : Nat → Prop} {mc ms : Nat} {Q : State → Prop} {S : Sg} {pc : Nat} {lv : List (Nat × Value)} {st : List Value} {ζ : Type} {z : ζ} (C : gC p s m args meth c cc nL RX10 D cy ad n A) (nx : Nat) {x1 : Int32} {x2 : Int32} (hR : Room.frames rm_X10_keeps + 1 ≤ R.frames ∧ 8 + (4 + 11) + Room.locals rm_X10_keeps ≤ R.locals) (hcm : mc ≤ R.cells ∧ ms ≤ R.slots) (hrest : (st.map fun v => v.category).sum ≤ 8) (hd : decode cc pc = .ok (.invokevirtual 271, 3)) (hn : pc + 3 = nx) {K : Sg → Option ζ} (hz : bd (f_X10_keeps x1 x2 S) K = some z) (kk : ∀ S', K S' = some z → gW p l e R s m args below meth c D cy ad n A nL mc ms Q S' nx lv st) : gW p l e R s m args below meth c D cy ad n A nL mc ms Q S pc lv (.int x2 :: .int x1 :: .ref (ad 34) :: st) := by
  obtain ⟨q, hq, hk⟩ := bd_s hz
  exact g_callV C (i := 34) (ci := 10) (Cn := RX10) (T := TX10) (N := 59) (y := yX10_keeps) (rm := rm_X10_keeps) (As := [.int x1, .int x2]) (rest := st) (na := 2) (fun sz => c_X10_keeps l D cy ad n S sz x1 x2 q hq) ha_34 rfl rfl wl_10_271 wi_X10_keeps we_X10_keeps wz_10 wo_X10_keeps (by decide +kernel) rfl rfl hR hcm rfl hrest hn hd (kk q hk)
theorem wl_10_275 : Cond.methodLink RX10 275 yX10_builds ∈ wsAll := wA 885 (by decide +kernel) (by decide +kernel)
theorem wi_X10_builds : Cond.instanceMethod yX10_builds ∈ wsAll := wA 887 (by decide +kernel) (by decide +kernel)
theorem we_X10_builds : Cond.selects RX10 yX10_builds yX10_builds ∈ wsAll := wAp 71 (by decide +kernel) (by decide +kernel)
theorem wo_X10_builds : Cond.code yX10_builds cX10_builds 7 (some .int) ∈ wsAll := wA 888 (by decide +kernel) (by decide +kernel)
theorem cl_10_275 {p : Program} {l : Launch} {e : Env} {R : Room} {s : State} {m : MethodId} {args : Array Value} {below : List Frame} {meth : Method} {c : Code} {cc : ByteArray} {nL : Nat} {D : va_G} {cy : Nat → ClassId} {ad : Nat → Nat} {n : Nat} {A : Nat → Prop} {mc ms : Nat} {Q : State → Prop} {S : Sg} {pc : Nat} {lv : List (Nat × Value)} {st : List Value} {ζ : Type} {z : ζ} (C : gC p s m args meth c cc nL RX10 D cy ad n A) (nx : Nat) {x1 : Int32} (hR : Room.frames rm_X10_builds + 1 ≤ R.frames ∧ 8 + (7 + 11) + Room.locals rm_X10_builds ≤ R.locals) (hcm : mc ≤ R.cells ∧ ms ≤ R.slots) (hrest : (st.map fun v => v.category).sum ≤ 8) (hd : decode cc pc = .ok (.invokevirtual 275, 3)) (hn : pc + 3 = nx) {K : Int32 → Sg → Option ζ} (hz : bd2 (f_X10_builds x1 S) K = some z) (kk : ∀ r S', K r S' = some z → gW p l e R s m args below meth c D cy ad n A nL mc ms Q S' nx lv (.int r :: st)) : gW p l e R s m args below meth c D cy ad n A nL mc ms Q S pc lv (.int x1 :: .ref (ad 34) :: st) := by
  obtain ⟨q, hq, hk⟩ := bd2_s hz
  exact g_callV C (i := 34) (ci := 10) (Cn := RX10) (T := TX10) (N := 59) (y := yX10_builds) (rm := rm_X10_builds) (As := [.int x1]) (rest := st) (na := 1) (fun sz => c_X10_builds l D cy ad n S sz x1 q hq) ha_34 rfl rfl wl_10_275 wi_X10_builds we_X10_builds wz_10 wo_X10_builds (by decide +kernel) rfl rfl hR hcm rfl hrest hn hd (kk q.1 q.2 hk)
theorem wl_10_278 : Cond.methodLink RX10 278 yX10_divides ∈ wsAll := wA 901 (by decide +kernel) (by decide +kernel)
theorem wi_X10_divides : Cond.instanceMethod yX10_divides ∈ wsAll := wA 903 (by decide +kernel) (by decide +kernel)
theorem we_X10_divides : Cond.selects RX10 yX10_divides yX10_divides ∈ wsAll := wAp 75 (by decide +kernel) (by decide +kernel)
theorem wo_X10_divides : Cond.code yX10_divides cX10_divides 7 none ∈ wsAll := wA 904 (by decide +kernel) (by decide +kernel)
theorem cl_10_278 {p : Program} {l : Launch} {e : Env} {R : Room} {s : State} {m : MethodId} {args : Array Value} {below : List Frame} {meth : Method} {c : Code} {cc : ByteArray} {nL : Nat} {D : va_G} {cy : Nat → ClassId} {ad : Nat → Nat} {n : Nat} {A : Nat → Prop} {mc ms : Nat} {Q : State → Prop} {S : Sg} {pc : Nat} {lv : List (Nat × Value)} {st : List Value} {ζ : Type} {z : ζ} (C : gC p s m args meth c cc nL RX10 D cy ad n A) (nx : Nat) {x1 : Int32} {x2 : Int32} (hR : Room.frames rm_X10_divides + 1 ≤ R.frames ∧ 8 + (7 + 11) + Room.locals rm_X10_divides ≤ R.locals) (hcm : mc ≤ R.cells ∧ ms ≤ R.slots) (hrest : (st.map fun v => v.category).sum ≤ 8) (hd : decode cc pc = .ok (.invokevirtual 278, 3)) (hn : pc + 3 = nx) {K : Sg → Option ζ} (hz : bd (f_X10_divides x1 x2 S) K = some z) (kk : ∀ S', K S' = some z → gW p l e R s m args below meth c D cy ad n A nL mc ms Q S' nx lv st) : gW p l e R s m args below meth c D cy ad n A nL mc ms Q S pc lv (.int x2 :: .int x1 :: .ref (ad 34) :: st) := by
  obtain ⟨q, hq, hk⟩ := bd_s hz
  exact g_callV C (i := 34) (ci := 10) (Cn := RX10) (T := TX10) (N := 59) (y := yX10_divides) (rm := rm_X10_divides) (As := [.int x1, .int x2]) (rest := st) (na := 2) (fun sz => c_X10_divides l D cy ad n S sz x1 x2 q hq) ha_34 rfl rfl wl_10_278 wi_X10_divides we_X10_divides wz_10 wo_X10_divides (by decide +kernel) rfl rfl hR hcm rfl hrest hn hd (kk q hk)
set_option maxRecDepth 20000 in
theorem t_X10_read_L123 {p : Program} {l : Launch} {e : Env} {s : State} {m : MethodId} {args : Array Value} {below : List Frame} {meth : Method} {c : Code} {D : va_G} {cy : Nat → ClassId} {ad : Nat → Nat} {n : Nat} {A : Nat → Prop} (C : gC p s m args meth c cX10_read 5 RX10 D cy ad n A) (hr : meth.sig.returnType = (some .int)) {z : Int32 × Sg} : ∀ (fl : Nat) (x1 : Int32) (x3 : Int32) (x4 : Int32) (S : Sg), f_X10_read_L123 fl x1 x3 x4 S = some z → gW p l e rm_X10_read s m args below meth c D cy ad n A 5 0 0 (MQ below (gQ D cy ad n A (some (.int z.1)) z.2) args s 0 0 A) S 123 [(0, .ref (ad 34)), (1, .int x1), (3, .int x3), (4, .int x4)] [] := by
  intro fl
  induction fl with
  | zero =>
    intro x1 x3 x4 S hz
    rw [f_X10_read_L123] at hz
    cases hz
  | succ fl ih =>
    intro x1 x3 x4 S hz
    rw [f_X10_read_L123] at hz
    refine g_iload C 125 3 rfl dX10_read_123 rfl ?_
    refine g_aload_n C 126 0 rfl dX10_read_125 rfl ?_
    refine gf_10_188 C 129 dX10_read_126 rfl ?_
    refine g_icmp_ge C 154 132 dX10_read_129 rfl rfl hz (fun hz => ?_) (fun hz => ?_)
    · refine g_aload_n C 155 0 rfl dX10_read_154 rfl ?_
      refine g_iload_n C 156 1 rfl dX10_read_155 rfl ?_
      refine g_iload_n C 157 2 rfl dX10_read_156 rfl ?_
      refine cl_10_278 C 160 ⟨Nat.le_of_ble_eq_true rfl, Nat.le_of_ble_eq_true rfl⟩ ⟨Nat.zero_le _, Nat.zero_le _⟩ (Nat.le_of_ble_eq_true rfl) dX10_read_157 rfl hz (fun S_15 hz => ?_)
      refine g_iload_n C 161 2 rfl dX10_read_160 rfl ?_
      exact g_iret C hr dX10_read_161 hz
    · refine g_aload_n C 133 0 rfl dX10_read_132 rfl ?_
      refine gf_10_49 C 136 dX10_read_133 rfl ?_
      refine g_iload_n C 137 1 rfl dX10_read_136 rfl ?_
      refine g_dup2 C 138 rfl rfl dX10_read_137 rfl ?_
      refine g_iald C 139 ha_46 dX10_read_138 rfl hz (fun hz => ?_)
      refine g_aload_n C 140 0 rfl dX10_read_139 rfl ?_
      refine gf_10_20 C 143 dX10_read_140 rfl ?_
      refine g_iload C 145 3 rfl dX10_read_143 rfl ?_
      refine g_iald C 146 ha_37 dX10_read_145 rfl hz (fun hz => ?_)
      refine g_iadd C 147 dX10_read_146 rfl ?_
      refine g_iast C 148 ha_46 dX10_read_147 rfl hz (fun S_16 hz => ?_)
      refine g_iinc C 151 3 [1, 2, 3, 0] (1 : Int32) ci_1 (fun x4_17 => [(0, .ref (ad 34)), (1, .int x1), (3, .int x3), (4, .int x4_17)]) dX10_read_148 rfl rfl (by decide) (fun x4_17 => rfl) hz (fun x4_17 hz => ?_)
      refine g_goto C 123 dX10_read_151 rfl ?_
      exact ih x1 x3 x4_17 S_16 hz
set_option maxRecDepth 20000 in
theorem t_X10_read_L25 {p : Program} {l : Launch} {e : Env} {s : State} {m : MethodId} {args : Array Value} {below : List Frame} {meth : Method} {c : Code} {D : va_G} {cy : Nat → ClassId} {ad : Nat → Nat} {n : Nat} {A : Nat → Prop} (C : gC p s m args meth c cX10_read 5 RX10 D cy ad n A) (hr : meth.sig.returnType = (some .int)) {z : Int32 × Sg} : ∀ (fl : Nat) (x1 : Int32) (x2 : Int32) (x3 : Int32) (S : Sg), f_X10_read_L25 fl x1 x2 x3 S = some z → gW p l e rm_X10_read s m args below meth c D cy ad n A 5 0 0 (MQ below (gQ D cy ad n A (some (.int z.1)) z.2) args s 0 0 A) S 25 [(0, .ref (ad 34)), (1, .int x1), (2, .int x2), (3, .int x3)] [] := by
  intro fl
  induction fl with
  | zero =>
    intro x1 x2 x3 S hz
    rw [f_X10_read_L25] at hz
    cases hz
  | succ fl ih =>
    intro x1 x2 x3 S hz
    rw [f_X10_read_L25] at hz
    refine g_iload_n C 26 3 rfl dX10_read_25 rfl ?_
    refine g_iload_n C 27 2 rfl dX10_read_26 rfl ?_
    refine g_icmp_ge C 48 30 dX10_read_27 rfl rfl hz (fun hz => ?_) (fun hz => ?_)
    · refine g_aload_n C 49 0 rfl dX10_read_48 rfl ?_
      refine g_iload_n C 50 2 rfl dX10_read_49 rfl ?_
      refine pf_10_159 C 53 dX10_read_50 rfl hz (fun S_4 hz => ?_)
      refine g_aload_n C 54 0 rfl dX10_read_53 rfl ?_
      refine g_iconst C 55 (0 : Int32) ci_0 dX10_read_54 rfl ?_
      refine pf_10_149 C 58 dX10_read_55 rfl hz (fun S_5 hz => ?_)
      refine g_aload_n C 59 0 rfl dX10_read_58 rfl ?_
      refine cl_10_268 C 62 ⟨Nat.le_of_ble_eq_true rfl, Nat.le_of_ble_eq_true rfl⟩ ⟨Nat.zero_le _, Nat.zero_le _⟩ (Nat.le_of_ble_eq_true rfl) dX10_read_59 rfl hz (fun S_6 hz => ?_)
      refine g_aload_n C 63 0 rfl dX10_read_62 rfl ?_
      refine gf_10_178 C 66 dX10_read_63 rfl ?_
      refine g_if_le C 71 69 dX10_read_66 rfl rfl hz (fun hz => ?_) (fun hz => ?_)
      · refine g_aload_n C 72 0 rfl dX10_read_71 rfl ?_
        refine g_iload_n C 73 1 rfl dX10_read_72 rfl ?_
        refine g_iconst C 74 (0 : Int32) ci_0 dX10_read_73 rfl ?_
        refine cl_10_271 C 77 ⟨Nat.le_of_ble_eq_true rfl, Nat.le_of_ble_eq_true rfl⟩ ⟨Nat.zero_le _, Nat.zero_le _⟩ (Nat.le_of_ble_eq_true rfl) dX10_read_74 rfl hz (fun S_7 hz => ?_)
        refine g_aload_n C 78 0 rfl dX10_read_77 rfl ?_
        refine g_iload_n C 79 1 rfl dX10_read_78 rfl ?_
        refine cl_10_275 C 82 ⟨Nat.le_of_ble_eq_true rfl, Nat.le_of_ble_eq_true rfl⟩ ⟨Nat.zero_le _, Nat.zero_le _⟩ (Nat.le_of_ble_eq_true rfl) dX10_read_79 rfl hz (fun r_9 S_8 hz => ?_)
        refine g_istore_n C 83 (i := 3) [1, 2, 0] (fun x3_10 => [(0, .ref (ad 34)), (1, .int x1), (3, .int x3_10)]) dX10_read_82 rfl rfl (by decide) (fun x3_10 => rfl) hz (fun x3_10 hz => ?_)
        refine g_iload_n C 84 2 rfl dX10_read_83 rfl ?_
        refine g_if_ge C 96 87 dX10_read_84 rfl rfl hz (fun hz => ?_) (fun hz => ?_)
        · refine g_aload_n C 97 0 rfl dX10_read_96 rfl ?_
          refine gf_10_43 C 100 dX10_read_97 rfl ?_
          refine g_iload_n C 101 1 rfl dX10_read_100 rfl ?_
          refine g_iload_n C 102 2 rfl dX10_read_101 rfl ?_
          refine g_iast C 103 ha_44 dX10_read_102 rfl hz (fun S_11 hz => ?_)
          refine g_aload_n C 104 0 rfl dX10_read_103 rfl ?_
          refine gf_10_46 C 107 dX10_read_104 rfl ?_
          refine g_iload_n C 108 1 rfl dX10_read_107 rfl ?_
          refine g_aload_n C 109 0 rfl dX10_read_108 rfl ?_
          refine gf_10_188 C 112 dX10_read_109 rfl ?_
          refine g_iast C 113 ha_45 dX10_read_112 rfl hz (fun S_12 hz => ?_)
          refine g_aload_n C 114 0 rfl dX10_read_113 rfl ?_
          refine gf_10_49 C 117 dX10_read_114 rfl ?_
          refine g_iload_n C 118 1 rfl dX10_read_117 rfl ?_
          refine g_iconst C 119 (0 : Int32) ci_0 dX10_read_118 rfl ?_
          refine g_iast C 120 ha_46 dX10_read_119 rfl hz (fun S_13 hz => ?_)
          refine g_iconst C 121 (0 : Int32) ci_0 dX10_read_120 rfl ?_
          refine g_istore C 123 (i := 4) [1, 2, 3, 0] (fun x4_14 => [(0, .ref (ad 34)), (1, .int x1), (3, .int x3_10), (4, .int x4_14)]) dX10_read_121 rfl (by decide) (fun x4_14 => rfl) hz (fun x4_14 hz => ?_)
          exact (t_X10_read_L123 C hr fu) x1 x3_10 x4_14 S_13 hz
        · refine g_aload_n C 88 0 rfl dX10_read_87 rfl ?_
          refine g_iload_n C 89 1 rfl dX10_read_88 rfl ?_
          refine g_iconst C 90 (1 : Int32) ci_1 dX10_read_89 rfl ?_
          refine cl_10_271 C 93 ⟨Nat.le_of_ble_eq_true rfl, Nat.le_of_ble_eq_true rfl⟩ ⟨Nat.zero_le _, Nat.zero_le _⟩ (Nat.le_of_ble_eq_true rfl) dX10_read_90 rfl hz (fun S_18 hz => ?_)
          refine g_bipush C 95 (-2 : Int32) cb_m2 dX10_read_93 rfl ?_
          exact g_iret C hr dX10_read_95 hz
      · refine g_iconst C 70 (0 : Int32) ci_0 dX10_read_69 rfl ?_
        exact g_iret C hr dX10_read_70 hz
    · refine g_aload_n C 31 0 rfl dX10_read_30 rfl ?_
      refine gf_10_13 C 34 dX10_read_31 rfl ?_
      refine g_iload_n C 35 3 rfl dX10_read_34 rfl ?_
      refine g_aload_n C 36 0 rfl dX10_read_35 rfl ?_
      refine gf_10_7 C 39 dX10_read_36 rfl ?_
      refine g_iload_n C 40 3 rfl dX10_read_39 rfl ?_
      refine g_bald C 41 ha_35 dX10_read_40 rfl hz (fun hz => ?_)
      refine g_bast C 42 ha_36 dX10_read_41 rfl hz (fun S_19 hz => ?_)
      refine g_iinc C 45 3 [1, 2, 3, 0] (1 : Int32) ci_1 (fun x3_20 => [(0, .ref (ad 34)), (1, .int x1), (2, .int x2), (3, .int x3_20)]) dX10_read_42 rfl rfl (by decide) (fun x3_20 => rfl) hz (fun x3_20 hz => ?_)
      refine g_goto C 25 dX10_read_45 rfl ?_
      exact ih x1 x2 x3_20 S_19 hz
set_option maxRecDepth 20000 in
theorem t_X10_read {p : Program} {l : Launch} {e : Env} {s : State} {m : MethodId} {args : Array Value} {below : List Frame} {meth : Method} {c : Code} {D : va_G} {cy : Nat → ClassId} {ad : Nat → Nat} {n : Nat} {A : Nat → Prop} (C : gC p s m args meth c cX10_read 5 RX10 D cy ad n A) (hr : meth.sig.returnType = (some .int)) {z : Int32 × Sg} {S : Sg} {x1 : Int32} {x2 : Int32} (hz : f_X10_read x1 x2 S = some z) : gW p l e rm_X10_read s m args below meth c D cy ad n A 5 0 0 (MQ below (gQ D cy ad n A (some (.int z.1)) z.2) args s 0 0 A) S 0 [(0, .ref (ad 34)), (1, .int x1), (2, .int x2)] [] := by
  unfold f_X10_read at hz
  refine g_iload_n C 1 1 rfl dX10_read_0 rfl ?_
  refine g_iconst C 2 (0 : Int32) ci_0 dX10_read_1 rfl ?_
  refine g_iconst C 3 (3 : Int32) ci_3 dX10_read_2 rfl ?_
  refine cl_10_166 C 6 ⟨Nat.le_of_ble_eq_true rfl, Nat.le_of_ble_eq_true rfl⟩ ⟨Nat.zero_le _, Nat.zero_le _⟩ (Nat.le_of_ble_eq_true rfl) dX10_read_3 rfl hz (fun r_2 S_1 hz => ?_)
  refine g_if_eq C 21 9 dX10_read_6 rfl rfl hz (fun hz => ?_) (fun hz => ?_)
  · refine g_iconst C 22 (-1 : Int32) ci_m1 dX10_read_21 rfl ?_
    exact g_iret C hr dX10_read_22 hz
  · refine g_iload_n C 10 2 rfl dX10_read_9 rfl ?_
    refine g_if_lt C 21 13 dX10_read_10 rfl rfl hz (fun hz => ?_) (fun hz => ?_)
    · refine g_iconst C 22 (-1 : Int32) ci_m1 dX10_read_21 rfl ?_
      exact g_iret C hr dX10_read_22 hz
    · refine g_iload_n C 14 2 rfl dX10_read_13 rfl ?_
      refine g_aload_n C 15 0 rfl dX10_read_14 rfl ?_
      refine gf_10_149 C 18 dX10_read_15 rfl ?_
      refine g_icmp_le C 23 21 dX10_read_18 rfl rfl hz (fun hz => ?_) (fun hz => ?_)
      · refine g_iconst C 24 (0 : Int32) ci_0 dX10_read_23 rfl ?_
        refine g_istore_n C 25 (i := 3) [1, 2, 3, 0] (fun x3_3 => [(0, .ref (ad 34)), (1, .int x1), (2, .int x2), (3, .int x3_3)]) dX10_read_24 rfl rfl (by decide) (fun x3_3 => rfl) hz (fun x3_3 hz => ?_)
        exact (t_X10_read_L25 C hr fu) x1 x2 x3_3 S_1 hz
      · refine g_iconst C 22 (-1 : Int32) ci_m1 dX10_read_21 rfl ?_
        exact g_iret C hr dX10_read_22 hz
theorem c_X10_read (l : Launch) (D : va_G) (cy : Nat → ClassId) (ad : Nat → Nat) (n : Nat) (S : Sg) (sz : Nat) (x1 : Int32) (x2 : Int32) (z : Int32 × Sg) (hz : f_X10_read x1 x2 S = some z) : Met l yX10_read (.code yX10_read cX10_read 5 (some .int) :: wsAll) rm_X10_read (gPc D cy ad n S sz [.ref (ad 34), .int x1, .int x2]) (gQ D cy ad n (va_A (wW cy ad n S) sz) (some (.int z.1)) z.2) 0 0 (va_A (wW cy ad n S) sz) := by
  refine gMet (lv := [(0, .ref (ad 34)), (1, .int x1), (2, .int x2)]) (by decide) (Nat.le_of_ble_eq_true rfl) rfl ?_
  intro p e s m args below meth c A hA hr C
  exact t_X10_read C hr hz
def rm_X10_fault : Room := { frames := 0, cells := 0, slots := 0, locals := 0 }
set_option maxRecDepth 20000 in
theorem t_X10_fault {p : Program} {l : Launch} {e : Env} {s : State} {m : MethodId} {args : Array Value} {below : List Frame} {meth : Method} {c : Code} {D : va_G} {cy : Nat → ClassId} {ad : Nat → Nat} {n : Nat} {A : Nat → Prop} (C : gC p s m args meth c cX10_fault 2 RX10 D cy ad n A) (hr : meth.sig.returnType = (some .int)) {z : Int32 × Sg} {S : Sg} {x1 : Int32} (hz : f_X10_fault x1 S = some z) : gW p l e rm_X10_fault s m args below meth c D cy ad n A 2 0 0 (MQ below (gQ D cy ad n A (some (.int z.1)) z.2) args s 0 0 A) S 0 [(0, .ref (ad 34)), (1, .int x1)] [] := by
  unfold f_X10_fault at hz
  refine g_iload_n C 1 1 rfl dX10_fault_0 rfl ?_
  refine g_if_ne C 11 4 dX10_fault_1 rfl rfl hz (fun hz => ?_) (fun hz => ?_)
  · refine g_iload_n C 12 1 rfl dX10_fault_11 rfl ?_
    refine g_iconst C 13 (1 : Int32) ci_1 dX10_fault_12 rfl ?_
    refine g_icmp_ne C 23 16 dX10_fault_13 rfl rfl hz (fun hz => ?_) (fun hz => ?_)
    · refine g_iconst C 24 (-1 : Int32) ci_m1 dX10_fault_23 rfl ?_
      exact g_iret C hr dX10_fault_24 hz
    · refine g_aload_n C 17 0 rfl dX10_fault_16 rfl ?_
      refine gf_10_16 C 20 dX10_fault_17 rfl ?_
      refine g_goto C 24 dX10_fault_20 rfl ?_
      exact g_iret C hr dX10_fault_24 hz
  · refine g_aload_n C 5 0 rfl dX10_fault_4 rfl ?_
    refine gf_10_178 C 8 dX10_fault_5 rfl ?_
    refine g_goto C 24 dX10_fault_8 rfl ?_
    exact g_iret C hr dX10_fault_24 hz
theorem c_X10_fault (l : Launch) (D : va_G) (cy : Nat → ClassId) (ad : Nat → Nat) (n : Nat) (S : Sg) (sz : Nat) (x1 : Int32) (z : Int32 × Sg) (hz : f_X10_fault x1 S = some z) : Met l yX10_fault (.code yX10_fault cX10_fault 2 (some .int) :: wsAll) rm_X10_fault (gPc D cy ad n S sz [.ref (ad 34), .int x1]) (gQ D cy ad n (va_A (wW cy ad n S) sz) (some (.int z.1)) z.2) 0 0 (va_A (wW cy ad n S) sz) := by
  refine gMet (lv := [(0, .ref (ad 34)), (1, .int x1)]) (by decide) (Nat.le_of_ble_eq_true rfl) rfl ?_
  intro p e s m args below meth c A hA hr C
  exact t_X10_fault C hr hz
def rm_X10_has : Room := { frames := 1, cells := 0, slots := 0, locals := 22 }
set_option maxRecDepth 20000 in
theorem t_X10_has {p : Program} {l : Launch} {e : Env} {s : State} {m : MethodId} {args : Array Value} {below : List Frame} {meth : Method} {c : Code} {D : va_G} {cy : Nat → ClassId} {ad : Nat → Nat} {n : Nat} {A : Nat → Prop} (C : gC p s m args meth c cX10_has 2 RX10 D cy ad n A) (hr : meth.sig.returnType = (some .boolean)) {z : Int32 × Sg} {S : Sg} {x1 : Int32} (hz : f_X10_has x1 S = some z) : gW p l e rm_X10_has s m args below meth c D cy ad n A 2 0 0 (MQ below (gQ D cy ad n A (some (.int z.1)) z.2) args s 0 0 A) S 0 [(0, .ref (ad 34)), (1, .int x1)] [] := by
  unfold f_X10_has at hz
  refine g_iload_n C 1 1 rfl dX10_has_0 rfl ?_
  refine g_iconst C 2 (0 : Int32) ci_0 dX10_has_1 rfl ?_
  refine g_iconst C 3 (3 : Int32) ci_3 dX10_has_2 rfl ?_
  refine cl_10_166 C 6 ⟨Nat.le_of_ble_eq_true rfl, Nat.le_of_ble_eq_true rfl⟩ ⟨Nat.zero_le _, Nat.zero_le _⟩ (Nat.le_of_ble_eq_true rfl) dX10_has_3 rfl hz (fun r_2 S_1 hz => ?_)
  refine g_if_eq C 22 9 dX10_has_6 rfl rfl hz (fun hz => ?_) (fun hz => ?_)
  · refine g_iconst C 23 (0 : Int32) ci_0 dX10_has_22 rfl ?_
    exact g_zretc C hr (by decide) dX10_has_23 hz
  · refine g_aload_n C 10 0 rfl dX10_has_9 rfl ?_
    refine gf_10_43 C 13 dX10_has_10 rfl ?_
    refine g_iload_n C 14 1 rfl dX10_has_13 rfl ?_
    refine g_iald C 15 ha_44 dX10_has_14 rfl hz (fun hz => ?_)
    refine g_if_le C 22 18 dX10_has_15 rfl rfl hz (fun hz => ?_) (fun hz => ?_)
    · refine g_iconst C 23 (0 : Int32) ci_0 dX10_has_22 rfl ?_
      exact g_zretc C hr (by decide) dX10_has_23 hz
    · refine g_iconst C 19 (1 : Int32) ci_1 dX10_has_18 rfl ?_
      refine g_goto C 23 dX10_has_19 rfl ?_
      exact g_zretc C hr (by decide) dX10_has_23 hz
theorem c_X10_has (l : Launch) (D : va_G) (cy : Nat → ClassId) (ad : Nat → Nat) (n : Nat) (S : Sg) (sz : Nat) (x1 : Int32) (z : Int32 × Sg) (hz : f_X10_has x1 S = some z) : Met l yX10_has (.code yX10_has cX10_has 2 (some .boolean) :: wsAll) rm_X10_has (gPc D cy ad n S sz [.ref (ad 34), .int x1]) (gQ D cy ad n (va_A (wW cy ad n S) sz) (some (.int z.1)) z.2) 0 0 (va_A (wW cy ad n S) sz) := by
  refine gMet (lv := [(0, .ref (ad 34)), (1, .int x1)]) (by decide) (Nat.le_of_ble_eq_true rfl) rfl ?_
  intro p e s m args below meth c A hA hr C
  exact t_X10_has C hr hz
def rm_X10_isState : Room := { frames := 2, cells := 0, slots := 0, locals := 43 }
theorem wl_10_281 : Cond.methodLink RX10 281 yX10_has ∈ wsAll := wA 917 (by decide +kernel) (by decide +kernel)
theorem wi_X10_has : Cond.instanceMethod yX10_has ∈ wsAll := wA 919 (by decide +kernel) (by decide +kernel)
theorem we_X10_has : Cond.selects RX10 yX10_has yX10_has ∈ wsAll := wAp 77 (by decide +kernel) (by decide +kernel)
theorem wo_X10_has : Cond.code yX10_has cX10_has 2 (some .boolean) ∈ wsAll := wA 920 (by decide +kernel) (by decide +kernel)
theorem cl_10_281 {p : Program} {l : Launch} {e : Env} {R : Room} {s : State} {m : MethodId} {args : Array Value} {below : List Frame} {meth : Method} {c : Code} {cc : ByteArray} {nL : Nat} {D : va_G} {cy : Nat → ClassId} {ad : Nat → Nat} {n : Nat} {A : Nat → Prop} {mc ms : Nat} {Q : State → Prop} {S : Sg} {pc : Nat} {lv : List (Nat × Value)} {st : List Value} {ζ : Type} {z : ζ} (C : gC p s m args meth c cc nL RX10 D cy ad n A) (nx : Nat) {x1 : Int32} (hR : Room.frames rm_X10_has + 1 ≤ R.frames ∧ 8 + (2 + 11) + Room.locals rm_X10_has ≤ R.locals) (hcm : mc ≤ R.cells ∧ ms ≤ R.slots) (hrest : (st.map fun v => v.category).sum ≤ 8) (hd : decode cc pc = .ok (.invokevirtual 281, 3)) (hn : pc + 3 = nx) {K : Int32 → Sg → Option ζ} (hz : bd2 (f_X10_has x1 S) K = some z) (kk : ∀ r S', K r S' = some z → gW p l e R s m args below meth c D cy ad n A nL mc ms Q S' nx lv (.int r :: st)) : gW p l e R s m args below meth c D cy ad n A nL mc ms Q S pc lv (.int x1 :: .ref (ad 34) :: st) := by
  obtain ⟨q, hq, hk⟩ := bd2_s hz
  exact g_callV C (i := 34) (ci := 10) (Cn := RX10) (T := TX10) (N := 59) (y := yX10_has) (rm := rm_X10_has) (As := [.int x1]) (rest := st) (na := 1) (fun sz => c_X10_has l D cy ad n S sz x1 q hq) ha_34 rfl rfl wl_10_281 wi_X10_has we_X10_has wz_10 wo_X10_has (by decide +kernel) rfl rfl hR hcm rfl hrest hn hd (kk q.1 q.2 hk)
set_option maxRecDepth 20000 in
theorem t_X10_isState {p : Program} {l : Launch} {e : Env} {s : State} {m : MethodId} {args : Array Value} {below : List Frame} {meth : Method} {c : Code} {D : va_G} {cy : Nat → ClassId} {ad : Nat → Nat} {n : Nat} {A : Nat → Prop} (C : gC p s m args meth c cX10_isState 3 RX10 D cy ad n A) (hr : meth.sig.returnType = (some .boolean)) {z : Int32 × Sg} {S : Sg} {x1 : Int32} {x2 : Int32} (hz : f_X10_isState x1 x2 S = some z) : gW p l e rm_X10_isState s m args below meth c D cy ad n A 3 0 0 (MQ below (gQ D cy ad n A (some (.int z.1)) z.2) args s 0 0 A) S 0 [(0, .ref (ad 34)), (1, .int x1), (2, .int x2)] [] := by
  unfold f_X10_isState at hz
  refine g_aload_n C 1 0 rfl dX10_isState_0 rfl ?_
  refine g_iload_n C 2 1 rfl dX10_isState_1 rfl ?_
  refine cl_10_281 C 5 ⟨Nat.le_of_ble_eq_true rfl, Nat.le_of_ble_eq_true rfl⟩ ⟨Nat.zero_le _, Nat.zero_le _⟩ (Nat.le_of_ble_eq_true rfl) dX10_isState_2 rfl hz (fun r_2 S_1 hz => ?_)
  refine g_if_eq C 28 8 dX10_isState_5 rfl rfl hz (fun hz => ?_) (fun hz => ?_)
  · refine g_iconst C 29 (0 : Int32) ci_0 dX10_isState_28 rfl ?_
    exact g_zretc C hr (by decide) dX10_isState_29 hz
  · refine g_iload_n C 9 2 rfl dX10_isState_8 rfl ?_
    refine g_iconst C 10 (0 : Int32) ci_0 dX10_isState_9 rfl ?_
    refine g_aload_n C 11 0 rfl dX10_isState_10 rfl ?_
    refine gf_10_43 C 14 dX10_isState_11 rfl ?_
    refine g_iload_n C 15 1 rfl dX10_isState_14 rfl ?_
    refine g_iald C 16 ha_44 dX10_isState_15 rfl hz (fun hz => ?_)
    refine g_iconst C 17 (1 : Int32) ci_1 dX10_isState_16 rfl ?_
    refine g_isub C 18 dX10_isState_17 rfl ?_
    refine cl_10_166 C 21 ⟨Nat.le_of_ble_eq_true rfl, Nat.le_of_ble_eq_true rfl⟩ ⟨Nat.zero_le _, Nat.zero_le _⟩ (Nat.le_of_ble_eq_true rfl) dX10_isState_18 rfl hz (fun r_4 S_3 hz => ?_)
    refine g_if_eq C 28 24 dX10_isState_21 rfl rfl hz (fun hz => ?_) (fun hz => ?_)
    · refine g_iconst C 29 (0 : Int32) ci_0 dX10_isState_28 rfl ?_
      exact g_zretc C hr (by decide) dX10_isState_29 hz
    · refine g_iconst C 25 (1 : Int32) ci_1 dX10_isState_24 rfl ?_
      refine g_goto C 29 dX10_isState_25 rfl ?_
      exact g_zretc C hr (by decide) dX10_isState_29 hz
theorem c_X10_isState (l : Launch) (D : va_G) (cy : Nat → ClassId) (ad : Nat → Nat) (n : Nat) (S : Sg) (sz : Nat) (x1 : Int32) (x2 : Int32) (z : Int32 × Sg) (hz : f_X10_isState x1 x2 S = some z) : Met l yX10_isState (.code yX10_isState cX10_isState 3 (some .boolean) :: wsAll) rm_X10_isState (gPc D cy ad n S sz [.ref (ad 34), .int x1, .int x2]) (gQ D cy ad n (va_A (wW cy ad n S) sz) (some (.int z.1)) z.2) 0 0 (va_A (wW cy ad n S) sz) := by
  refine gMet (lv := [(0, .ref (ad 34)), (1, .int x1), (2, .int x2)]) (by decide) (Nat.le_of_ble_eq_true rfl) rfl ?_
  intro p e s m args below meth c A hA hr C
  exact t_X10_isState C hr hz
def rm_X10_after : Room := { frames := 0, cells := 0, slots := 0, locals := 0 }
set_option maxRecDepth 20000 in
theorem t_X10_after {p : Program} {l : Launch} {e : Env} {s : State} {m : MethodId} {args : Array Value} {below : List Frame} {meth : Method} {c : Code} {D : va_G} {cy : Nat → ClassId} {ad : Nat → Nat} {n : Nat} {A : Nat → Prop} (C : gC p s m args meth c cX10_after 4 RX10 D cy ad n A) (hr : meth.sig.returnType = (some .int)) {z : Int32 × Sg} {S : Sg} {x1 : Int32} {x2 : Int32} {x3 : Int32} (hz : f_X10_after x1 x2 x3 S = some z) : gW p l e rm_X10_after s m args below meth c D cy ad n A 4 0 0 (MQ below (gQ D cy ad n A (some (.int z.1)) z.2) args s 0 0 A) S 0 [(0, .ref (ad 34)), (1, .int x1), (2, .int x2), (3, .int x3)] [] := by
  unfold f_X10_after at hz
  refine g_aload_n C 1 0 rfl dX10_after_0 rfl ?_
  refine gf_10_55 C 4 dX10_after_1 rfl ?_
  refine g_iconst C 5 (4 : Int32) ci_4 dX10_after_4 rfl ?_
  refine g_sipush C 8 (150 : Int32) cs_150 dX10_after_5 rfl ?_
  refine g_iload_n C 9 1 rfl dX10_after_8 rfl ?_
  refine g_imul C 10 dX10_after_9 rfl ?_
  refine g_iload_n C 11 2 rfl dX10_after_10 rfl ?_
  refine g_iadd C 12 dX10_after_11 rfl ?_
  refine g_imul C 13 dX10_after_12 rfl ?_
  refine g_iload_n C 14 3 rfl dX10_after_13 rfl ?_
  refine g_iadd C 15 dX10_after_14 rfl ?_
  refine g_iald C 16 ha_48 dX10_after_15 rfl hz (fun hz => ?_)
  exact g_iret C hr dX10_after_16 hz
theorem c_X10_after (l : Launch) (D : va_G) (cy : Nat → ClassId) (ad : Nat → Nat) (n : Nat) (S : Sg) (sz : Nat) (x1 : Int32) (x2 : Int32) (x3 : Int32) (z : Int32 × Sg) (hz : f_X10_after x1 x2 x3 S = some z) : Met l yX10_after (.code yX10_after cX10_after 4 (some .int) :: wsAll) rm_X10_after (gPc D cy ad n S sz [.ref (ad 34), .int x1, .int x2, .int x3]) (gQ D cy ad n (va_A (wW cy ad n S) sz) (some (.int z.1)) z.2) 0 0 (va_A (wW cy ad n S) sz) := by
  refine gMet (lv := [(0, .ref (ad 34)), (1, .int x1), (2, .int x2), (3, .int x3)]) (by decide) (Nat.le_of_ble_eq_true rfl) rfl ?_
  intro p e s m args below meth c A hA hr C
  exact t_X10_after C hr hz
def rm_X10_isAccepted : Room := { frames := 0, cells := 0, slots := 0, locals := 0 }
set_option maxRecDepth 20000 in
theorem t_X10_isAccepted {p : Program} {l : Launch} {e : Env} {s : State} {m : MethodId} {args : Array Value} {below : List Frame} {meth : Method} {c : Code} {D : va_G} {cy : Nat → ClassId} {ad : Nat → Nat} {n : Nat} {A : Nat → Prop} (C : gC p s m args meth c cX10_isAccepted 3 RX10 D cy ad n A) (hr : meth.sig.returnType = (some .boolean)) {z : Int32 × Sg} {S : Sg} {x1 : Int32} {x2 : Int32} (hz : f_X10_isAccepted x1 x2 S = some z) : gW p l e rm_X10_isAccepted s m args below meth c D cy ad n A 3 0 0 (MQ below (gQ D cy ad n A (some (.int z.1)) z.2) args s 0 0 A) S 0 [(0, .ref (ad 34)), (1, .int x1), (2, .int x2)] [] := by
  unfold f_X10_isAccepted at hz
  refine g_aload_n C 1 0 rfl dX10_isAccepted_0 rfl ?_
  refine gf_10_58 C 4 dX10_isAccepted_1 rfl ?_
  refine g_sipush C 7 (150 : Int32) cs_150 dX10_isAccepted_4 rfl ?_
  refine g_iload_n C 8 1 rfl dX10_isAccepted_7 rfl ?_
  refine g_imul C 9 dX10_isAccepted_8 rfl ?_
  refine g_iload_n C 10 2 rfl dX10_isAccepted_9 rfl ?_
  refine g_iadd C 11 dX10_isAccepted_10 rfl ?_
  refine g_zald C 12 ha_49 dX10_isAccepted_11 rfl hz (fun hz => ?_)
  exact g_zret C hr dX10_isAccepted_12 hz
theorem c_X10_isAccepted (l : Launch) (D : va_G) (cy : Nat → ClassId) (ad : Nat → Nat) (n : Nat) (S : Sg) (sz : Nat) (x1 : Int32) (x2 : Int32) (z : Int32 × Sg) (hz : f_X10_isAccepted x1 x2 S = some z) : Met l yX10_isAccepted (.code yX10_isAccepted cX10_isAccepted 3 (some .boolean) :: wsAll) rm_X10_isAccepted (gPc D cy ad n S sz [.ref (ad 34), .int x1, .int x2]) (gQ D cy ad n (va_A (wW cy ad n S) sz) (some (.int z.1)) z.2) 0 0 (va_A (wW cy ad n S) sz) := by
  refine gMet (lv := [(0, .ref (ad 34)), (1, .int x1), (2, .int x2)]) (by decide) (Nat.le_of_ble_eq_true rfl) rfl ?_
  intro p e s m args below meth c A hA hr C
  exact t_X10_isAccepted C hr hz
def rm_X10_isEndless : Room := { frames := 1, cells := 0, slots := 0, locals := 23 }
theorem wl_10_287 : Cond.methodLink RX10 287 yX10_after ∈ wsAll := wA 933 (by decide +kernel) (by decide +kernel)
theorem wi_X10_after : Cond.instanceMethod yX10_after ∈ wsAll := wA 935 (by decide +kernel) (by decide +kernel)
theorem we_X10_after : Cond.selects RX10 yX10_after yX10_after ∈ wsAll := wAp 81 (by decide +kernel) (by decide +kernel)
theorem wo_X10_after : Cond.code yX10_after cX10_after 4 (some .int) ∈ wsAll := wA 936 (by decide +kernel) (by decide +kernel)
theorem cl_10_287 {p : Program} {l : Launch} {e : Env} {R : Room} {s : State} {m : MethodId} {args : Array Value} {below : List Frame} {meth : Method} {c : Code} {cc : ByteArray} {nL : Nat} {D : va_G} {cy : Nat → ClassId} {ad : Nat → Nat} {n : Nat} {A : Nat → Prop} {mc ms : Nat} {Q : State → Prop} {S : Sg} {pc : Nat} {lv : List (Nat × Value)} {st : List Value} {ζ : Type} {z : ζ} (C : gC p s m args meth c cc nL RX10 D cy ad n A) (nx : Nat) {x1 : Int32} {x2 : Int32} {x3 : Int32} (hR : Room.frames rm_X10_after + 1 ≤ R.frames ∧ 8 + (4 + 11) + Room.locals rm_X10_after ≤ R.locals) (hcm : mc ≤ R.cells ∧ ms ≤ R.slots) (hrest : (st.map fun v => v.category).sum ≤ 8) (hd : decode cc pc = .ok (.invokevirtual 287, 3)) (hn : pc + 3 = nx) {K : Int32 → Sg → Option ζ} (hz : bd2 (f_X10_after x1 x2 x3 S) K = some z) (kk : ∀ r S', K r S' = some z → gW p l e R s m args below meth c D cy ad n A nL mc ms Q S' nx lv (.int r :: st)) : gW p l e R s m args below meth c D cy ad n A nL mc ms Q S pc lv (.int x3 :: .int x2 :: .int x1 :: .ref (ad 34) :: st) := by
  obtain ⟨q, hq, hk⟩ := bd2_s hz
  exact g_callV C (i := 34) (ci := 10) (Cn := RX10) (T := TX10) (N := 59) (y := yX10_after) (rm := rm_X10_after) (As := [.int x1, .int x2, .int x3]) (rest := st) (na := 3) (fun sz => c_X10_after l D cy ad n S sz x1 x2 x3 q hq) ha_34 rfl rfl wl_10_287 wi_X10_after we_X10_after wz_10 wo_X10_after (by decide +kernel) rfl rfl hR hcm rfl hrest hn hd (kk q.1 q.2 hk)
theorem wl_10_284 : Cond.methodLink RX10 284 yX10_isAccepted ∈ wsAll := wA 925 (by decide +kernel) (by decide +kernel)
theorem wi_X10_isAccepted : Cond.instanceMethod yX10_isAccepted ∈ wsAll := wA 927 (by decide +kernel) (by decide +kernel)
theorem we_X10_isAccepted : Cond.selects RX10 yX10_isAccepted yX10_isAccepted ∈ wsAll := wAp 79 (by decide +kernel) (by decide +kernel)
theorem wo_X10_isAccepted : Cond.code yX10_isAccepted cX10_isAccepted 3 (some .boolean) ∈ wsAll := wA 928 (by decide +kernel) (by decide +kernel)
theorem cl_10_284 {p : Program} {l : Launch} {e : Env} {R : Room} {s : State} {m : MethodId} {args : Array Value} {below : List Frame} {meth : Method} {c : Code} {cc : ByteArray} {nL : Nat} {D : va_G} {cy : Nat → ClassId} {ad : Nat → Nat} {n : Nat} {A : Nat → Prop} {mc ms : Nat} {Q : State → Prop} {S : Sg} {pc : Nat} {lv : List (Nat × Value)} {st : List Value} {ζ : Type} {z : ζ} (C : gC p s m args meth c cc nL RX10 D cy ad n A) (nx : Nat) {x1 : Int32} {x2 : Int32} (hR : Room.frames rm_X10_isAccepted + 1 ≤ R.frames ∧ 8 + (3 + 11) + Room.locals rm_X10_isAccepted ≤ R.locals) (hcm : mc ≤ R.cells ∧ ms ≤ R.slots) (hrest : (st.map fun v => v.category).sum ≤ 8) (hd : decode cc pc = .ok (.invokevirtual 284, 3)) (hn : pc + 3 = nx) {K : Int32 → Sg → Option ζ} (hz : bd2 (f_X10_isAccepted x1 x2 S) K = some z) (kk : ∀ r S', K r S' = some z → gW p l e R s m args below meth c D cy ad n A nL mc ms Q S' nx lv (.int r :: st)) : gW p l e R s m args below meth c D cy ad n A nL mc ms Q S pc lv (.int x2 :: .int x1 :: .ref (ad 34) :: st) := by
  obtain ⟨q, hq, hk⟩ := bd2_s hz
  exact g_callV C (i := 34) (ci := 10) (Cn := RX10) (T := TX10) (N := 59) (y := yX10_isAccepted) (rm := rm_X10_isAccepted) (As := [.int x1, .int x2]) (rest := st) (na := 2) (fun sz => c_X10_isAccepted l D cy ad n S sz x1 x2 q hq) ha_34 rfl rfl wl_10_284 wi_X10_isAccepted we_X10_isAccepted wz_10 wo_X10_isAccepted (by decide +kernel) rfl rfl hR hcm rfl hrest hn hd (kk q.1 q.2 hk)
set_option maxRecDepth 20000 in
theorem t_X10_isEndless_L178 {p : Program} {l : Launch} {e : Env} {s : State} {m : MethodId} {args : Array Value} {below : List Frame} {meth : Method} {c : Code} {D : va_G} {cy : Nat → ClassId} {ad : Nat → Nat} {n : Nat} {A : Nat → Prop} (C : gC p s m args meth c cX10_isEndless 5 RX10 D cy ad n A) (hr : meth.sig.returnType = (some .boolean)) {z : Int32 × Sg} {k35 : Int32 → Int32 → Sg → Option (Int32 × Sg)} (hk35 : ∀ (x1 : Int32) (x2 : Int32) (S : Sg), k35 x1 x2 S = some z → gW p l e rm_X10_isEndless s m args below meth c D cy ad n A 5 0 0 (MQ below (gQ D cy ad n A (some (.int z.1)) z.2) args s 0 0 A) S 35 [(0, .ref (ad 34)), (1, .int x1), (2, .int x2)] []) : ∀ (fl : Nat) (x1 : Int32) (x2 : Int32) (x3 : Int32) (S : Sg), f_X10_isEndless_L178 k35 fl x1 x2 x3 S = some z → gW p l e rm_X10_isEndless s m args below meth c D cy ad n A 5 0 0 (MQ below (gQ D cy ad n A (some (.int z.1)) z.2) args s 0 0 A) S 178 [(0, .ref (ad 34)), (1, .int x1), (2, .int x2), (3, .int x3)] [] := by
  intro fl
  induction fl with
  | zero =>
    intro x1 x2 x3 S hz
    rw [f_X10_isEndless_L178] at hz
    cases hz
  | succ fl ih =>
    intro x1 x2 x3 S hz
    rw [f_X10_isEndless_L178] at hz
    refine g_iload_n C 179 3 rfl dX10_isEndless_178 rfl ?_
    refine g_aload_n C 180 0 rfl dX10_isEndless_179 rfl ?_
    refine gf_10_43 C 183 dX10_isEndless_180 rfl ?_
    refine g_iload_n C 184 1 rfl dX10_isEndless_183 rfl ?_
    refine g_iald C 185 ha_44 dX10_isEndless_184 rfl hz (fun hz => ?_)
    refine g_icmp_ge C 206 188 dX10_isEndless_185 rfl rfl hz (fun hz => ?_) (fun hz => ?_)
    · refine g_iinc C 209 2 [1, 2, 0] (1 : Int32) ci_1 (fun x2_7 => [(0, .ref (ad 34)), (1, .int x1), (2, .int x2_7)]) dX10_isEndless_206 rfl rfl (by decide) (fun x2_7 => rfl) hz (fun x2_7 hz => ?_)
      refine g_goto C 35 dX10_isEndless_209 rfl ?_
      exact hk35 x1 x2_7 S hz
    · refine g_aload_n C 189 0 rfl dX10_isEndless_188 rfl ?_
      refine gf_10_127 C 192 dX10_isEndless_189 rfl ?_
      refine g_iload_n C 193 3 rfl dX10_isEndless_192 rfl ?_
      refine g_aload_n C 194 0 rfl dX10_isEndless_193 rfl ?_
      refine gf_10_130 C 197 dX10_isEndless_194 rfl ?_
      refine g_iload_n C 198 3 rfl dX10_isEndless_197 rfl ?_
      refine g_zald C 199 ha_73 dX10_isEndless_198 rfl hz (fun hz => ?_)
      refine g_zast C 200 ha_72 dX10_isEndless_199 rfl hz (fun S_8 hz => ?_)
      refine g_iinc C 203 3 [1, 2, 3, 0] (1 : Int32) ci_1 (fun x3_9 => [(0, .ref (ad 34)), (1, .int x1), (2, .int x2), (3, .int x3_9)]) dX10_isEndless_200 rfl rfl (by decide) (fun x3_9 => rfl) hz (fun x3_9 hz => ?_)
      refine g_goto C 178 dX10_isEndless_203 rfl ?_
      exact ih x1 x2 x3_9 S_8 hz
set_option maxRecDepth 20000 in
theorem t_X10_isEndless_L135 {p : Program} {l : Launch} {e : Env} {s : State} {m : MethodId} {args : Array Value} {below : List Frame} {meth : Method} {c : Code} {D : va_G} {cy : Nat → ClassId} {ad : Nat → Nat} {n : Nat} {A : Nat → Prop} (C : gC p s m args meth c cX10_isEndless 5 RX10 D cy ad n A) (hr : meth.sig.returnType = (some .boolean)) {z : Int32 × Sg} {k122 : Int32 → Int32 → Int32 → Sg → Option (Int32 × Sg)} (hk122 : ∀ (x1 : Int32) (x2 : Int32) (x3 : Int32) (S : Sg), k122 x1 x2 x3 S = some z → gW p l e rm_X10_isEndless s m args below meth c D cy ad n A 5 0 0 (MQ below (gQ D cy ad n A (some (.int z.1)) z.2) args s 0 0 A) S 122 [(0, .ref (ad 34)), (1, .int x1), (2, .int x2), (3, .int x3)] []) : ∀ (fl : Nat) (x1 : Int32) (x2 : Int32) (x3 : Int32) (x4 : Int32) (S : Sg), f_X10_isEndless_L135 k122 fl x1 x2 x3 x4 S = some z → gW p l e rm_X10_isEndless s m args below meth c D cy ad n A 5 0 0 (MQ below (gQ D cy ad n A (some (.int z.1)) z.2) args s 0 0 A) S 135 [(0, .ref (ad 34)), (1, .int x1), (2, .int x2), (3, .int x3), (4, .int x4)] [] := by
  intro fl
  induction fl with
  | zero =>
    intro x1 x2 x3 x4 S hz
    rw [f_X10_isEndless_L135] at hz
    cases hz
  | succ fl ih =>
    intro x1 x2 x3 x4 S hz
    rw [f_X10_isEndless_L135] at hz
    refine g_iload C 137 4 rfl dX10_isEndless_135 rfl ?_
    refine g_iconst C 138 (4 : Int32) ci_4 dX10_isEndless_137 rfl ?_
    refine g_icmp_ge C 170 141 dX10_isEndless_138 rfl rfl hz (fun hz => ?_) (fun hz => ?_)
    · refine g_iinc C 173 3 [1, 2, 3, 0] (1 : Int32) ci_1 (fun x3_11 => [(0, .ref (ad 34)), (1, .int x1), (2, .int x2), (3, .int x3_11)]) dX10_isEndless_170 rfl rfl (by decide) (fun x3_11 => rfl) hz (fun x3_11 hz => ?_)
      refine g_goto C 122 dX10_isEndless_173 rfl ?_
      exact hk122 x1 x2 x3_11 S hz
    · refine g_aload_n C 142 0 rfl dX10_isEndless_141 rfl ?_
      refine gf_10_127 C 145 dX10_isEndless_142 rfl ?_
      refine g_iload_n C 146 3 rfl dX10_isEndless_145 rfl ?_
      refine g_zald C 147 ha_72 dX10_isEndless_146 rfl hz (fun hz => ?_)
      refine g_if_eq C 170 150 dX10_isEndless_147 rfl rfl hz (fun hz => ?_) (fun hz => ?_)
      · refine g_iinc C 173 3 [1, 2, 3, 0] (1 : Int32) ci_1 (fun x3_12 => [(0, .ref (ad 34)), (1, .int x1), (2, .int x2), (3, .int x3_12)]) dX10_isEndless_170 rfl rfl (by decide) (fun x3_12 => rfl) hz (fun x3_12 hz => ?_)
        refine g_goto C 122 dX10_isEndless_173 rfl ?_
        exact hk122 x1 x2 x3_12 S hz
      · refine g_aload_n C 151 0 rfl dX10_isEndless_150 rfl ?_
        refine gf_10_130 C 154 dX10_isEndless_151 rfl ?_
        refine g_aload_n C 155 0 rfl dX10_isEndless_154 rfl ?_
        refine g_iload_n C 156 1 rfl dX10_isEndless_155 rfl ?_
        refine g_iload_n C 157 3 rfl dX10_isEndless_156 rfl ?_
        refine g_iload C 159 4 rfl dX10_isEndless_157 rfl ?_
        refine cl_10_287 C 162 ⟨Nat.le_of_ble_eq_true rfl, Nat.le_of_ble_eq_true rfl⟩ ⟨Nat.zero_le _, Nat.zero_le _⟩ (Nat.le_of_ble_eq_true rfl) dX10_isEndless_159 rfl hz (fun r_14 S_13 hz => ?_)
        refine g_iconst C 163 (1 : Int32) ci_1 dX10_isEndless_162 rfl ?_
        refine g_zast C 164 ha_73 dX10_isEndless_163 rfl hz (fun S_15 hz => ?_)
        refine g_iinc C 167 4 [1, 2, 3, 4, 0] (1 : Int32) ci_1 (fun x4_16 => [(0, .ref (ad 34)), (1, .int x1), (2, .int x2), (3, .int x3), (4, .int x4_16)]) dX10_isEndless_164 rfl rfl (by decide) (fun x4_16 => rfl) hz (fun x4_16 hz => ?_)
        refine g_goto C 135 dX10_isEndless_167 rfl ?_
        exact ih x1 x2 x3 x4_16 S_15 hz
set_option maxRecDepth 20000 in
theorem t_X10_isEndless_L122 {p : Program} {l : Launch} {e : Env} {s : State} {m : MethodId} {args : Array Value} {below : List Frame} {meth : Method} {c : Code} {D : va_G} {cy : Nat → ClassId} {ad : Nat → Nat} {n : Nat} {A : Nat → Prop} (C : gC p s m args meth c cX10_isEndless 5 RX10 D cy ad n A) (hr : meth.sig.returnType = (some .boolean)) {z : Int32 × Sg} {k35 : Int32 → Int32 → Sg → Option (Int32 × Sg)} (hk35 : ∀ (x1 : Int32) (x2 : Int32) (S : Sg), k35 x1 x2 S = some z → gW p l e rm_X10_isEndless s m args below meth c D cy ad n A 5 0 0 (MQ below (gQ D cy ad n A (some (.int z.1)) z.2) args s 0 0 A) S 35 [(0, .ref (ad 34)), (1, .int x1), (2, .int x2)] []) : ∀ (fl : Nat) (x1 : Int32) (x2 : Int32) (x3 : Int32) (S : Sg), f_X10_isEndless_L122 k35 fl x1 x2 x3 S = some z → gW p l e rm_X10_isEndless s m args below meth c D cy ad n A 5 0 0 (MQ below (gQ D cy ad n A (some (.int z.1)) z.2) args s 0 0 A) S 122 [(0, .ref (ad 34)), (1, .int x1), (2, .int x2), (3, .int x3)] [] := by
  intro fl
  induction fl with
  | zero =>
    intro x1 x2 x3 S hz
    rw [f_X10_isEndless_L122] at hz
    cases hz
  | succ fl ih =>
    intro x1 x2 x3 S hz
    rw [f_X10_isEndless_L122] at hz
    refine g_iload_n C 123 3 rfl dX10_isEndless_122 rfl ?_
    refine g_aload_n C 124 0 rfl dX10_isEndless_123 rfl ?_
    refine gf_10_43 C 127 dX10_isEndless_124 rfl ?_
    refine g_iload_n C 128 1 rfl dX10_isEndless_127 rfl ?_
    refine g_iald C 129 ha_44 dX10_isEndless_128 rfl hz (fun hz => ?_)
    refine g_icmp_ge C 176 132 dX10_isEndless_129 rfl rfl hz (fun hz => ?_) (fun hz => ?_)
    · refine g_iconst C 177 (0 : Int32) ci_0 dX10_isEndless_176 rfl ?_
      refine g_istore_n C 178 (i := 3) [1, 2, 3, 0] (fun x3_6 => [(0, .ref (ad 34)), (1, .int x1), (2, .int x2), (3, .int x3_6)]) dX10_isEndless_177 rfl rfl (by decide) (fun x3_6 => rfl) hz (fun x3_6 hz => ?_)
      exact (t_X10_isEndless_L178 C hr hk35 fu) x1 x2 x3_6 S hz
    · refine g_iconst C 133 (0 : Int32) ci_0 dX10_isEndless_132 rfl ?_
      refine g_istore C 135 (i := 4) [1, 2, 3, 4, 0] (fun x4_10 => [(0, .ref (ad 34)), (1, .int x1), (2, .int x2), (3, .int x3), (4, .int x4_10)]) dX10_isEndless_133 rfl (by decide) (fun x4_10 => rfl) hz (fun x4_10 hz => ?_)
      exact (t_X10_isEndless_L135 C hr ih fu) x1 x2 x3 x4_10 S hz
set_option maxRecDepth 20000 in
theorem t_X10_isEndless_L97 {p : Program} {l : Launch} {e : Env} {s : State} {m : MethodId} {args : Array Value} {below : List Frame} {meth : Method} {c : Code} {D : va_G} {cy : Nat → ClassId} {ad : Nat → Nat} {n : Nat} {A : Nat → Prop} (C : gC p s m args meth c cX10_isEndless 5 RX10 D cy ad n A) (hr : meth.sig.returnType = (some .boolean)) {z : Int32 × Sg} {k35 : Int32 → Int32 → Sg → Option (Int32 × Sg)} (hk35 : ∀ (x1 : Int32) (x2 : Int32) (S : Sg), k35 x1 x2 S = some z → gW p l e rm_X10_isEndless s m args below meth c D cy ad n A 5 0 0 (MQ below (gQ D cy ad n A (some (.int z.1)) z.2) args s 0 0 A) S 35 [(0, .ref (ad 34)), (1, .int x1), (2, .int x2)] []) : ∀ (fl : Nat) (x1 : Int32) (x2 : Int32) (x3 : Int32) (S : Sg), f_X10_isEndless_L97 k35 fl x1 x2 x3 S = some z → gW p l e rm_X10_isEndless s m args below meth c D cy ad n A 5 0 0 (MQ below (gQ D cy ad n A (some (.int z.1)) z.2) args s 0 0 A) S 97 [(0, .ref (ad 34)), (1, .int x1), (2, .int x2), (3, .int x3)] [] := by
  intro fl
  induction fl with
  | zero =>
    intro x1 x2 x3 S hz
    rw [f_X10_isEndless_L97] at hz
    cases hz
  | succ fl ih =>
    intro x1 x2 x3 S hz
    rw [f_X10_isEndless_L97] at hz
    refine g_iload_n C 98 3 rfl dX10_isEndless_97 rfl ?_
    refine g_aload_n C 99 0 rfl dX10_isEndless_98 rfl ?_
    refine gf_10_43 C 102 dX10_isEndless_99 rfl ?_
    refine g_iload_n C 103 1 rfl dX10_isEndless_102 rfl ?_
    refine g_iald C 104 ha_44 dX10_isEndless_103 rfl hz (fun hz => ?_)
    refine g_icmp_ge C 120 107 dX10_isEndless_104 rfl rfl hz (fun hz => ?_) (fun hz => ?_)
    · refine g_iconst C 121 (0 : Int32) ci_0 dX10_isEndless_120 rfl ?_
      refine g_istore_n C 122 (i := 3) [1, 2, 3, 0] (fun x3_5 => [(0, .ref (ad 34)), (1, .int x1), (2, .int x2), (3, .int x3_5)]) dX10_isEndless_121 rfl rfl (by decide) (fun x3_5 => rfl) hz (fun x3_5 hz => ?_)
      exact (t_X10_isEndless_L122 C hr hk35 fu) x1 x2 x3_5 S hz
    · refine g_aload_n C 108 0 rfl dX10_isEndless_107 rfl ?_
      refine gf_10_130 C 111 dX10_isEndless_108 rfl ?_
      refine g_iload_n C 112 3 rfl dX10_isEndless_111 rfl ?_
      refine g_iconst C 113 (0 : Int32) ci_0 dX10_isEndless_112 rfl ?_
      refine g_zast C 114 ha_73 dX10_isEndless_113 rfl hz (fun S_17 hz => ?_)
      refine g_iinc C 117 3 [1, 2, 3, 0] (1 : Int32) ci_1 (fun x3_18 => [(0, .ref (ad 34)), (1, .int x1), (2, .int x2), (3, .int x3_18)]) dX10_isEndless_114 rfl rfl (by decide) (fun x3_18 => rfl) hz (fun x3_18 hz => ?_)
      refine g_goto C 97 dX10_isEndless_117 rfl ?_
      exact ih x1 x2 x3_18 S_17 hz
set_option maxRecDepth 20000 in
theorem t_X10_isEndless_L49 {p : Program} {l : Launch} {e : Env} {s : State} {m : MethodId} {args : Array Value} {below : List Frame} {meth : Method} {c : Code} {D : va_G} {cy : Nat → ClassId} {ad : Nat → Nat} {n : Nat} {A : Nat → Prop} (C : gC p s m args meth c cX10_isEndless 5 RX10 D cy ad n A) (hr : meth.sig.returnType = (some .boolean)) {z : Int32 × Sg} {k35 : Int32 → Int32 → Sg → Option (Int32 × Sg)} (hk35 : ∀ (x1 : Int32) (x2 : Int32) (S : Sg), k35 x1 x2 S = some z → gW p l e rm_X10_isEndless s m args below meth c D cy ad n A 5 0 0 (MQ below (gQ D cy ad n A (some (.int z.1)) z.2) args s 0 0 A) S 35 [(0, .ref (ad 34)), (1, .int x1), (2, .int x2)] []) : ∀ (fl : Nat) (x1 : Int32) (x2 : Int32) (x3 : Int32) (S : Sg), f_X10_isEndless_L49 k35 fl x1 x2 x3 S = some z → gW p l e rm_X10_isEndless s m args below meth c D cy ad n A 5 0 0 (MQ below (gQ D cy ad n A (some (.int z.1)) z.2) args s 0 0 A) S 49 [(0, .ref (ad 34)), (1, .int x1), (2, .int x2), (3, .int x3)] [] := by
  intro fl
  induction fl with
  | zero =>
    intro x1 x2 x3 S hz
    rw [f_X10_isEndless_L49] at hz
    cases hz
  | succ fl ih =>
    intro x1 x2 x3 S hz
    rw [f_X10_isEndless_L49] at hz
    refine g_iload_n C 50 3 rfl dX10_isEndless_49 rfl ?_
    refine g_aload_n C 51 0 rfl dX10_isEndless_50 rfl ?_
    refine gf_10_43 C 54 dX10_isEndless_51 rfl ?_
    refine g_iload_n C 55 1 rfl dX10_isEndless_54 rfl ?_
    refine g_iald C 56 ha_44 dX10_isEndless_55 rfl hz (fun hz => ?_)
    refine g_icmp_ge C 95 59 dX10_isEndless_56 rfl rfl hz (fun hz => ?_) (fun hz => ?_)
    · refine g_iconst C 96 (0 : Int32) ci_0 dX10_isEndless_95 rfl ?_
      refine g_istore_n C 97 (i := 3) [1, 2, 3, 0] (fun x3_4 => [(0, .ref (ad 34)), (1, .int x1), (2, .int x2), (3, .int x3_4)]) dX10_isEndless_96 rfl rfl (by decide) (fun x3_4 => rfl) hz (fun x3_4 hz => ?_)
      exact (t_X10_isEndless_L97 C hr hk35 fu) x1 x2 x3_4 S hz
    · refine g_iload_n C 60 2 rfl dX10_isEndless_59 rfl ?_
      refine g_aload_n C 61 0 rfl dX10_isEndless_60 rfl ?_
      refine gf_10_43 C 64 dX10_isEndless_61 rfl ?_
      refine g_iload_n C 65 1 rfl dX10_isEndless_64 rfl ?_
      refine g_iald C 66 ha_44 dX10_isEndless_65 rfl hz (fun hz => ?_)
      refine g_icmp_lt C 89 69 dX10_isEndless_66 rfl rfl hz (fun hz => ?_) (fun hz => ?_)
      · refine g_iinc C 92 3 [1, 2, 3, 0] (1 : Int32) ci_1 (fun x3_19 => [(0, .ref (ad 34)), (1, .int x1), (2, .int x2), (3, .int x3_19)]) dX10_isEndless_89 rfl rfl (by decide) (fun x3_19 => rfl) hz (fun x3_19 hz => ?_)
        refine g_goto C 49 dX10_isEndless_92 rfl ?_
        exact ih x1 x2 x3_19 S hz
      · refine g_aload_n C 70 0 rfl dX10_isEndless_69 rfl ?_
        refine gf_10_127 C 73 dX10_isEndless_70 rfl ?_
        refine g_iload_n C 74 3 rfl dX10_isEndless_73 rfl ?_
        refine g_zald C 75 ha_72 dX10_isEndless_74 rfl hz (fun hz => ?_)
        refine g_if_eq C 89 78 dX10_isEndless_75 rfl rfl hz (fun hz => ?_) (fun hz => ?_)
        · refine g_iinc C 92 3 [1, 2, 3, 0] (1 : Int32) ci_1 (fun x3_20 => [(0, .ref (ad 34)), (1, .int x1), (2, .int x2), (3, .int x3_20)]) dX10_isEndless_89 rfl rfl (by decide) (fun x3_20 => rfl) hz (fun x3_20 hz => ?_)
          refine g_goto C 49 dX10_isEndless_92 rfl ?_
          exact ih x1 x2 x3_20 S hz
        · refine g_aload_n C 79 0 rfl dX10_isEndless_78 rfl ?_
          refine g_iload_n C 80 1 rfl dX10_isEndless_79 rfl ?_
          refine g_iload_n C 81 3 rfl dX10_isEndless_80 rfl ?_
          refine cl_10_284 C 84 ⟨Nat.le_of_ble_eq_true rfl, Nat.le_of_ble_eq_true rfl⟩ ⟨Nat.zero_le _, Nat.zero_le _⟩ (Nat.le_of_ble_eq_true rfl) dX10_isEndless_81 rfl hz (fun r_22 S_21 hz => ?_)
          refine g_if_eq C 89 87 dX10_isEndless_84 rfl rfl hz (fun hz => ?_) (fun hz => ?_)
          · refine g_iinc C 92 3 [1, 2, 3, 0] (1 : Int32) ci_1 (fun x3_23 => [(0, .ref (ad 34)), (1, .int x1), (2, .int x2), (3, .int x3_23)]) dX10_isEndless_89 rfl rfl (by decide) (fun x3_23 => rfl) hz (fun x3_23 hz => ?_)
            refine g_goto C 49 dX10_isEndless_92 rfl ?_
            exact ih x1 x2 x3_23 S_21 hz
          · refine g_iconst C 88 (1 : Int32) ci_1 dX10_isEndless_87 rfl ?_
            exact g_zretc C hr (by decide) dX10_isEndless_88 hz
set_option maxRecDepth 20000 in
theorem t_X10_isEndless_L35 {p : Program} {l : Launch} {e : Env} {s : State} {m : MethodId} {args : Array Value} {below : List Frame} {meth : Method} {c : Code} {D : va_G} {cy : Nat → ClassId} {ad : Nat → Nat} {n : Nat} {A : Nat → Prop} (C : gC p s m args meth c cX10_isEndless 5 RX10 D cy ad n A) (hr : meth.sig.returnType = (some .boolean)) {z : Int32 × Sg} : ∀ (fl : Nat) (x1 : Int32) (x2 : Int32) (S : Sg), f_X10_isEndless_L35 fl x1 x2 S = some z → gW p l e rm_X10_isEndless s m args below meth c D cy ad n A 5 0 0 (MQ below (gQ D cy ad n A (some (.int z.1)) z.2) args s 0 0 A) S 35 [(0, .ref (ad 34)), (1, .int x1), (2, .int x2)] [] := by
  intro fl
  induction fl with
  | zero =>
    intro x1 x2 S hz
    rw [f_X10_isEndless_L35] at hz
    cases hz
  | succ fl ih =>
    intro x1 x2 S hz
    rw [f_X10_isEndless_L35] at hz
    refine g_iload_n C 36 2 rfl dX10_isEndless_35 rfl ?_
    refine g_iconst C 37 (2 : Int32) ci_2 dX10_isEndless_36 rfl ?_
    refine g_aload_n C 38 0 rfl dX10_isEndless_37 rfl ?_
    refine gf_10_43 C 41 dX10_isEndless_38 rfl ?_
    refine g_iload_n C 42 1 rfl dX10_isEndless_41 rfl ?_
    refine g_iald C 43 ha_44 dX10_isEndless_42 rfl hz (fun hz => ?_)
    refine g_imul C 44 dX10_isEndless_43 rfl ?_
    refine g_icmp_ge C 212 47 dX10_isEndless_44 rfl rfl hz (fun hz => ?_) (fun hz => ?_)
    · refine g_iconst C 213 (0 : Int32) ci_0 dX10_isEndless_212 rfl ?_
      exact g_zretc C hr (by decide) dX10_isEndless_213 hz
    · refine g_iconst C 48 (0 : Int32) ci_0 dX10_isEndless_47 rfl ?_
      refine g_istore_n C 49 (i := 3) [1, 2, 3, 0] (fun x3_3 => [(0, .ref (ad 34)), (1, .int x1), (2, .int x2), (3, .int x3_3)]) dX10_isEndless_48 rfl rfl (by decide) (fun x3_3 => rfl) hz (fun x3_3 hz => ?_)
      exact (t_X10_isEndless_L49 C hr ih fu) x1 x2 x3_3 S hz
set_option maxRecDepth 20000 in
theorem t_X10_isEndless_L2 {p : Program} {l : Launch} {e : Env} {s : State} {m : MethodId} {args : Array Value} {below : List Frame} {meth : Method} {c : Code} {D : va_G} {cy : Nat → ClassId} {ad : Nat → Nat} {n : Nat} {A : Nat → Prop} (C : gC p s m args meth c cX10_isEndless 5 RX10 D cy ad n A) (hr : meth.sig.returnType = (some .boolean)) {z : Int32 × Sg} : ∀ (fl : Nat) (x1 : Int32) (x2 : Int32) (S : Sg), f_X10_isEndless_L2 fl x1 x2 S = some z → gW p l e rm_X10_isEndless s m args below meth c D cy ad n A 5 0 0 (MQ below (gQ D cy ad n A (some (.int z.1)) z.2) args s 0 0 A) S 2 [(0, .ref (ad 34)), (1, .int x1), (2, .int x2)] [] := by
  intro fl
  induction fl with
  | zero =>
    intro x1 x2 S hz
    rw [f_X10_isEndless_L2] at hz
    cases hz
  | succ fl ih =>
    intro x1 x2 S hz
    rw [f_X10_isEndless_L2] at hz
    refine g_iload_n C 3 2 rfl dX10_isEndless_2 rfl ?_
    refine g_aload_n C 4 0 rfl dX10_isEndless_3 rfl ?_
    refine gf_10_43 C 7 dX10_isEndless_4 rfl ?_
    refine g_iload_n C 8 1 rfl dX10_isEndless_7 rfl ?_
    refine g_iald C 9 ha_44 dX10_isEndless_8 rfl hz (fun hz => ?_)
    refine g_icmp_ge C 33 12 dX10_isEndless_9 rfl rfl hz (fun hz => ?_) (fun hz => ?_)
    · refine g_iconst C 34 (0 : Int32) ci_0 dX10_isEndless_33 rfl ?_
      refine g_istore_n C 35 (i := 2) [1, 2, 0] (fun x2_2 => [(0, .ref (ad 34)), (1, .int x1), (2, .int x2_2)]) dX10_isEndless_34 rfl rfl (by decide) (fun x2_2 => rfl) hz (fun x2_2 hz => ?_)
      exact (t_X10_isEndless_L35 C hr fu) x1 x2_2 S hz
    · refine g_aload_n C 13 0 rfl dX10_isEndless_12 rfl ?_
      refine gf_10_127 C 16 dX10_isEndless_13 rfl ?_
      refine g_iload_n C 17 2 rfl dX10_isEndless_16 rfl ?_
      refine g_iload_n C 18 2 rfl dX10_isEndless_17 rfl ?_
      refine g_if_ne C 25 21 dX10_isEndless_18 rfl rfl hz (fun hz => ?_) (fun hz => ?_)
      · refine g_iconst C 26 (0 : Int32) ci_0 dX10_isEndless_25 rfl ?_
        refine g_zast C 27 ha_72 dX10_isEndless_26 rfl hz (fun S_24 hz => ?_)
        refine g_iinc C 30 2 [1, 2, 0] (1 : Int32) ci_1 (fun x2_25 => [(0, .ref (ad 34)), (1, .int x1), (2, .int x2_25)]) dX10_isEndless_27 rfl rfl (by decide) (fun x2_25 => rfl) hz (fun x2_25 hz => ?_)
        refine g_goto C 2 dX10_isEndless_30 rfl ?_
        exact ih x1 x2_25 S_24 hz
      · refine g_iconst C 22 (1 : Int32) ci_1 dX10_isEndless_21 rfl ?_
        refine g_goto C 26 dX10_isEndless_22 rfl ?_
        refine g_zast C 27 ha_72 dX10_isEndless_26 rfl hz (fun S_26 hz => ?_)
        refine g_iinc C 30 2 [1, 2, 0] (1 : Int32) ci_1 (fun x2_27 => [(0, .ref (ad 34)), (1, .int x1), (2, .int x2_27)]) dX10_isEndless_27 rfl rfl (by decide) (fun x2_27 => rfl) hz (fun x2_27 hz => ?_)
        refine g_goto C 2 dX10_isEndless_30 rfl ?_
        exact ih x1 x2_27 S_26 hz
set_option maxRecDepth 20000 in
theorem t_X10_isEndless {p : Program} {l : Launch} {e : Env} {s : State} {m : MethodId} {args : Array Value} {below : List Frame} {meth : Method} {c : Code} {D : va_G} {cy : Nat → ClassId} {ad : Nat → Nat} {n : Nat} {A : Nat → Prop} (C : gC p s m args meth c cX10_isEndless 5 RX10 D cy ad n A) (hr : meth.sig.returnType = (some .boolean)) {z : Int32 × Sg} {S : Sg} {x1 : Int32} (hz : f_X10_isEndless x1 S = some z) : gW p l e rm_X10_isEndless s m args below meth c D cy ad n A 5 0 0 (MQ below (gQ D cy ad n A (some (.int z.1)) z.2) args s 0 0 A) S 0 [(0, .ref (ad 34)), (1, .int x1)] [] := by
  unfold f_X10_isEndless at hz
  refine g_iconst C 1 (0 : Int32) ci_0 dX10_isEndless_0 rfl ?_
  refine g_istore_n C 2 (i := 2) [1, 2, 0] (fun x2_1 => [(0, .ref (ad 34)), (1, .int x1), (2, .int x2_1)]) dX10_isEndless_1 rfl rfl (by decide) (fun x2_1 => rfl) hz (fun x2_1 hz => ?_)
  exact (t_X10_isEndless_L2 C hr fu) x1 x2_1 S hz
theorem c_X10_isEndless (l : Launch) (D : va_G) (cy : Nat → ClassId) (ad : Nat → Nat) (n : Nat) (S : Sg) (sz : Nat) (x1 : Int32) (z : Int32 × Sg) (hz : f_X10_isEndless x1 S = some z) : Met l yX10_isEndless (.code yX10_isEndless cX10_isEndless 5 (some .boolean) :: wsAll) rm_X10_isEndless (gPc D cy ad n S sz [.ref (ad 34), .int x1]) (gQ D cy ad n (va_A (wW cy ad n S) sz) (some (.int z.1)) z.2) 0 0 (va_A (wW cy ad n S) sz) := by
  refine gMet (lv := [(0, .ref (ad 34)), (1, .int x1)]) (by decide) (Nat.le_of_ble_eq_true rfl) rfl ?_
  intro p e s m args below meth c A hA hr C
  exact t_X10_isEndless C hr hz
