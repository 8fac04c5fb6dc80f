def rm_X10_item : Room := { frames := 2, cells := 0, slots := 0, locals := 44 }
theorem wl_10_209 : Cond.methodLink RX10 209 yX10_follows ∈ wsAll := wA 861 (by decide +kernel) (by decide +kernel)
theorem wi_X10_follows : Cond.instanceMethod yX10_follows ∈ wsAll := wA 863 (by decide +kernel) (by decide +kernel)
theorem we_X10_follows : Cond.selects RX10 yX10_follows yX10_follows ∈ wsAll := wAp 65 (by decide +kernel) (by decide +kernel)
theorem wo_X10_follows : Cond.code yX10_follows cX10_follows 4 none ∈ wsAll := wA 864 (by decide +kernel) (by decide +kernel)
theorem cl_10_209 {p : Program} {l : Launch} {e : Env} {R : Room} {s : State} {m : MethodId} {args : Array Value} {below : List Frame} {meth : Method} {c : Code} {cc : ByteArray} {nL : Nat} {D : va_G} {cy : Nat → ClassId} {ad : Nat → Nat} {n : Nat} {A : Nat → Prop} {mc ms : Nat} {Q : State → Prop} {S : Sg} {pc : Nat} {lv : List (Nat × Value)} {st : List Value} {ζ : Type} {z : ζ} (C : gC p s m args meth c cc nL RX10 D cy ad n A) (nx : Nat) {x1 : Int32} {x2 : Int32} (hR : Room.frames rm_X10_follows + 1 ≤ R.frames ∧ 8 + (4 + 11) + Room.locals rm_X10_follows ≤ R.locals) (hcm : mc ≤ R.cells ∧ ms ≤ R.slots) (hrest : (st.map fun v => v.category).sum ≤ 8) (hd : decode cc pc = .ok (.invokevirtual 209, 3)) (hn : pc + 3 = nx) {K : Sg → Option ζ} (hz : bd (f_X10_follows x1 x2 S) K = some z) (kk : ∀ S', K S' = some z → gW p l e R s m args below meth c D cy ad n A nL mc ms Q S' nx lv st) : gW p l e R s m args below meth c D cy ad n A nL mc ms Q S pc lv (.int x2 :: .int x1 :: .ref (ad 34) :: st) := by
  obtain ⟨q, hq, hk⟩ := bd_s hz
  exact g_callV C (i := 34) (ci := 10) (Cn := RX10) (T := TX10) (N := 59) (y := yX10_follows) (rm := rm_X10_follows) (As := [.int x1, .int x2]) (rest := st) (na := 2) (fun sz => c_X10_follows l D cy ad n S sz x1 x2 q hq) ha_34 rfl rfl wl_10_209 wi_X10_follows we_X10_follows wz_10 wo_X10_follows (by decide +kernel) rfl rfl hR hcm rfl hrest hn hd (kk q hk)
set_option maxRecDepth 20000 in
theorem t_X10_item_L236 {p : Program} {l : Launch} {e : Env} {s : State} {m : MethodId} {args : Array Value} {below : List Frame} {meth : Method} {c : Code} {D : va_G} {cy : Nat → ClassId} {ad : Nat → Nat} {n : Nat} {A : Nat → Prop} (C : gC p s m args meth c cX10_item 1 RX10 D cy ad n A) (hr : meth.sig.returnType = none) {z : Sg} : ∀ (t0 : Int32) (t1 : Int32) (t2 : Int32) (S : Sg), f_X10_item_L236 t0 t1 t2 S = some z → gW p l e rm_X10_item s m args below meth c D cy ad n A 1 0 0 (MQ below (gQ D cy ad n A none z) args s 0 0 A) S 236 [(0, .ref (ad 34))] [.int t0, .int t1, .int t2, .ref (ad 58)] := by
  intro t0 t1 t2 S hz
  unfold f_X10_item_L236 at hz
  refine g_ior C 237 dX10_item_236 rfl ?_
  refine g_iast C 238 ha_58 dX10_item_237 rfl hz (fun S_3 hz => ?_)
  refine g_aload_n C 239 0 rfl dX10_item_238 rfl ?_
  refine gf_10_79 C 242 dX10_item_239 rfl ?_
  refine g_aload_n C 243 0 rfl dX10_item_242 rfl ?_
  refine gf_10_185 C 246 dX10_item_243 rfl ?_
  refine g_aload_n C 247 0 rfl dX10_item_246 rfl ?_
  refine gf_10_79 C 250 dX10_item_247 rfl ?_
  refine g_aload_n C 251 0 rfl dX10_item_250 rfl ?_
  refine gf_10_185 C 254 dX10_item_251 rfl ?_
  refine g_zald C 255 ha_56 dX10_item_254 rfl hz (fun hz => ?_)
  refine g_if_eq C 269 258 dX10_item_255 rfl rfl hz (fun hz => ?_) (fun hz => ?_)
  · refine g_iconst C 270 (0 : Int32) ci_0 dX10_item_269 rfl ?_
    refine g_zast C 271 ha_56 dX10_item_270 rfl hz (fun S_4 hz => ?_)
    exact g_vret C hr dX10_item_271 hz
  · refine g_aload_n C 259 0 rfl dX10_item_258 rfl ?_
    refine gf_10_195 C 262 dX10_item_259 rfl ?_
    refine g_if_eq C 269 265 dX10_item_262 rfl rfl hz (fun hz => ?_) (fun hz => ?_)
    · refine g_iconst C 270 (0 : Int32) ci_0 dX10_item_269 rfl ?_
      refine g_zast C 271 ha_56 dX10_item_270 rfl hz (fun S_5 hz => ?_)
      exact g_vret C hr dX10_item_271 hz
    · refine g_iconst C 266 (1 : Int32) ci_1 dX10_item_265 rfl ?_
      refine g_goto C 270 dX10_item_266 rfl ?_
      refine g_zast C 271 ha_56 dX10_item_270 rfl hz (fun S_6 hz => ?_)
      exact g_vret C hr dX10_item_271 hz
set_option maxRecDepth 20000 in
theorem t_X10_item_L202 {p : Program} {l : Launch} {e : Env} {s : State} {m : MethodId} {args : Array Value} {below : List Frame} {meth : Method} {c : Code} {D : va_G} {cy : Nat → ClassId} {ad : Nat → Nat} {n : Nat} {A : Nat → Prop} (C : gC p s m args meth c cX10_item 1 RX10 D cy ad n A) (hr : meth.sig.returnType = none) {z : Sg} : ∀ (t0 : Int32) (t1 : Int32) (t2 : Int32) (S : Sg), f_X10_item_L202 t0 t1 t2 S = some z → gW p l e rm_X10_item s m args below meth c D cy ad n A 1 0 0 (MQ below (gQ D cy ad n A none z) args s 0 0 A) S 202 [(0, .ref (ad 34))] [.int t0, .int t1, .int t2, .ref (ad 57)] := by
  intro t0 t1 t2 S hz
  unfold f_X10_item_L202 at hz
  refine g_ior C 203 dX10_item_202 rfl ?_
  refine g_iast C 204 ha_57 dX10_item_203 rfl hz (fun S_2 hz => ?_)
  refine g_aload_n C 205 0 rfl dX10_item_204 rfl ?_
  refine gf_10_85 C 208 dX10_item_205 rfl ?_
  refine g_aload_n C 209 0 rfl dX10_item_208 rfl ?_
  refine gf_10_185 C 212 dX10_item_209 rfl ?_
  refine g_aload_n C 213 0 rfl dX10_item_212 rfl ?_
  refine gf_10_202 C 216 dX10_item_213 rfl ?_
  refine g_aload_n C 217 0 rfl dX10_item_216 rfl ?_
  refine gf_10_195 C 220 dX10_item_217 rfl ?_
  refine g_if_eq C 235 223 dX10_item_220 rfl rfl hz (fun hz => ?_) (fun hz => ?_)
  · refine g_iconst C 236 (0 : Int32) ci_0 dX10_item_235 rfl ?_
    exact (t_X10_item_L236 C hr) ((0 : Int32)) ((S_2.1 34 39)) ((S_2.1 34 28)) S_2 hz
  · refine g_aload_n C 224 0 rfl dX10_item_223 rfl ?_
    refine gf_10_85 C 227 dX10_item_224 rfl ?_
    refine g_aload_n C 228 0 rfl dX10_item_227 rfl ?_
    refine gf_10_185 C 231 dX10_item_228 rfl ?_
    refine g_iald C 232 ha_58 dX10_item_231 rfl hz (fun hz => ?_)
    refine g_goto C 236 dX10_item_232 rfl ?_
    exact (t_X10_item_L236 C hr) ((S_2.1 58 (Int32.toNatClampNeg ((S_2.1 34 28))))) ((S_2.1 34 39)) ((S_2.1 34 28)) S_2 hz
set_option maxRecDepth 20000 in
theorem t_X10_item_L93 {p : Program} {l : Launch} {e : Env} {s : State} {m : MethodId} {args : Array Value} {below : List Frame} {meth : Method} {c : Code} {D : va_G} {cy : Nat → ClassId} {ad : Nat → Nat} {n : Nat} {A : Nat → Prop} (C : gC p s m args meth c cX10_item 1 RX10 D cy ad n A) (hr : meth.sig.returnType = none) {z : Sg} : ∀ (S : Sg), f_X10_item_L93 S = some z → gW p l e rm_X10_item s m args below meth c D cy ad n A 1 0 0 (MQ below (gQ D cy ad n A none z) args s 0 0 A) S 93 [(0, .ref (ad 34))] [] := by
  intro  S hz
  unfold f_X10_item_L93 at hz
  refine g_aload_n C 94 0 rfl dX10_item_93 rfl ?_
  refine gf_10_76 C 97 dX10_item_94 rfl ?_
  refine g_aload_n C 98 0 rfl dX10_item_97 rfl ?_
  refine gf_10_185 C 101 dX10_item_98 rfl ?_
  refine g_zald C 102 ha_55 dX10_item_101 rfl hz (fun hz => ?_)
  refine g_if_ne C 155 105 dX10_item_102 rfl rfl hz (fun hz => ?_) (fun hz => ?_)
  · refine g_aload_n C 156 0 rfl dX10_item_155 rfl ?_
    refine g_aload_n C 157 0 rfl dX10_item_156 rfl ?_
    refine gf_10_85 C 160 dX10_item_157 rfl ?_
    refine g_aload_n C 161 0 rfl dX10_item_160 rfl ?_
    refine gf_10_185 C 164 dX10_item_161 rfl ?_
    refine g_iald C 165 ha_58 dX10_item_164 rfl hz (fun hz => ?_)
    refine g_aload_n C 166 0 rfl dX10_item_165 rfl ?_
    refine gf_10_199 C 169 dX10_item_166 rfl ?_
    refine cl_10_209 C 172 ⟨Nat.le_of_ble_eq_true rfl, Nat.le_of_ble_eq_true rfl⟩ ⟨Nat.zero_le _, Nat.zero_le _⟩ (Nat.le_of_ble_eq_true rfl) dX10_item_169 rfl hz (fun S_1 hz => ?_)
    refine g_aload_n C 173 0 rfl dX10_item_172 rfl ?_
    refine gf_10_82 C 176 dX10_item_173 rfl ?_
    refine g_aload_n C 177 0 rfl dX10_item_176 rfl ?_
    refine gf_10_185 C 180 dX10_item_177 rfl ?_
    refine g_dup2 C 181 rfl rfl dX10_item_180 rfl ?_
    refine g_iald C 182 ha_57 dX10_item_181 rfl hz (fun hz => ?_)
    refine g_aload_n C 183 0 rfl dX10_item_182 rfl ?_
    refine gf_10_79 C 186 dX10_item_183 rfl ?_
    refine g_aload_n C 187 0 rfl dX10_item_186 rfl ?_
    refine gf_10_185 C 190 dX10_item_187 rfl ?_
    refine g_zald C 191 ha_56 dX10_item_190 rfl hz (fun hz => ?_)
    refine g_if_eq C 201 194 dX10_item_191 rfl rfl hz (fun hz => ?_) (fun hz => ?_)
    · refine g_iconst C 202 (0 : Int32) ci_0 dX10_item_201 rfl ?_
      exact (t_X10_item_L202 C hr) ((0 : Int32)) ((S_1.1 57 (Int32.toNatClampNeg ((S_1.1 34 28))))) ((S_1.1 34 28)) S_1 hz
    · refine g_aload_n C 195 0 rfl dX10_item_194 rfl ?_
      refine gf_10_199 C 198 dX10_item_195 rfl ?_
      refine g_goto C 202 dX10_item_198 rfl ?_
      exact (t_X10_item_L202 C hr) ((S_1.1 34 38)) ((S_1.1 57 (Int32.toNatClampNeg ((S_1.1 34 28))))) ((S_1.1 34 28)) S_1 hz
  · refine g_aload_n C 106 0 rfl dX10_item_105 rfl ?_
    refine gf_10_76 C 109 dX10_item_106 rfl ?_
    refine g_aload_n C 110 0 rfl dX10_item_109 rfl ?_
    refine gf_10_185 C 113 dX10_item_110 rfl ?_
    refine g_iconst C 114 (1 : Int32) ci_1 dX10_item_113 rfl ?_
    refine g_zast C 115 ha_55 dX10_item_114 rfl hz (fun S_7 hz => ?_)
    refine g_aload_n C 116 0 rfl dX10_item_115 rfl ?_
    refine gf_10_79 C 119 dX10_item_116 rfl ?_
    refine g_aload_n C 120 0 rfl dX10_item_119 rfl ?_
    refine gf_10_185 C 123 dX10_item_120 rfl ?_
    refine g_aload_n C 124 0 rfl dX10_item_123 rfl ?_
    refine gf_10_195 C 127 dX10_item_124 rfl ?_
    refine g_zast C 128 ha_56 dX10_item_127 rfl hz (fun S_8 hz => ?_)
    refine g_aload_n C 129 0 rfl dX10_item_128 rfl ?_
    refine gf_10_82 C 132 dX10_item_129 rfl ?_
    refine g_aload_n C 133 0 rfl dX10_item_132 rfl ?_
    refine gf_10_185 C 136 dX10_item_133 rfl ?_
    refine g_aload_n C 137 0 rfl dX10_item_136 rfl ?_
    refine gf_10_199 C 140 dX10_item_137 rfl ?_
    refine g_iast C 141 ha_57 dX10_item_140 rfl hz (fun S_9 hz => ?_)
    refine g_aload_n C 142 0 rfl dX10_item_141 rfl ?_
    refine gf_10_85 C 145 dX10_item_142 rfl ?_
    refine g_aload_n C 146 0 rfl dX10_item_145 rfl ?_
    refine gf_10_185 C 149 dX10_item_146 rfl ?_
    refine g_aload_n C 150 0 rfl dX10_item_149 rfl ?_
    refine gf_10_202 C 153 dX10_item_150 rfl ?_
    refine g_iast C 154 ha_58 dX10_item_153 rfl hz (fun S_10 hz => ?_)
    exact g_vret C hr dX10_item_154 hz
set_option maxRecDepth 20000 in
theorem t_X10_item_L55 {p : Program} {l : Launch} {e : Env} {s : State} {m : MethodId} {args : Array Value} {below : List Frame} {meth : Method} {c : Code} {D : va_G} {cy : Nat → ClassId} {ad : Nat → Nat} {n : Nat} {A : Nat → Prop} (C : gC p s m args meth c cX10_item 1 RX10 D cy ad n A) (hr : meth.sig.returnType = none) {z : Sg} {k0 : Sg → Option (Sg)} (hk0 : ∀ (S : Sg), k0 S = some z → gW p l e rm_X10_item s m args below meth c D cy ad n A 1 0 0 (MQ below (gQ D cy ad n A none z) args s 0 0 A) S 0 [(0, .ref (ad 34))] []) : ∀ (S : Sg), f_X10_item_L55 k0 S = some z → gW p l e rm_X10_item s m args below meth c D cy ad n A 1 0 0 (MQ below (gQ D cy ad n A none z) args s 0 0 A) S 55 [(0, .ref (ad 34))] [] := by
  intro  S hz
  unfold f_X10_item_L55 at hz
  refine g_aload_n C 56 0 rfl dX10_item_55 rfl ?_
  refine g_aload_n C 57 0 rfl dX10_item_56 rfl ?_
  refine gf_10_195 C 60 dX10_item_57 rfl ?_
  refine g_if_ne C 72 63 dX10_item_60 rfl rfl hz (fun hz => ?_) (fun hz => ?_)
  · refine g_iconst C 73 (1 : Int32) ci_1 dX10_item_72 rfl ?_
    refine g_goto C 77 dX10_item_73 rfl ?_
    refine pf_10_195 C 80 dX10_item_77 rfl hz (fun S_15 hz => ?_)
    refine g_aload_n C 81 0 rfl dX10_item_80 rfl ?_
    refine g_dup C 82 rfl dX10_item_81 rfl ?_
    refine gf_10_156 C 85 dX10_item_82 rfl ?_
    refine g_iconst C 86 (1 : Int32) ci_1 dX10_item_85 rfl ?_
    refine g_iadd C 87 dX10_item_86 rfl ?_
    refine pf_10_156 C 90 dX10_item_87 rfl hz (fun S_16 hz => ?_)
    refine g_goto C 0 dX10_item_90 rfl ?_
    exact hk0 S_16 hz
  · refine g_aload_n C 64 0 rfl dX10_item_63 rfl ?_
    refine g_bipush C 66 (43 : Int32) cb_43 dX10_item_64 rfl ?_
    refine cl_10_174 C 69 ⟨Nat.le_of_ble_eq_true rfl, Nat.le_of_ble_eq_true rfl⟩ ⟨Nat.zero_le _, Nat.zero_le _⟩ (Nat.le_of_ble_eq_true rfl) dX10_item_66 rfl hz (fun r_18 S_17 hz => ?_)
    refine g_if_ne C 76 72 dX10_item_69 rfl rfl hz (fun hz => ?_) (fun hz => ?_)
    · refine g_iconst C 77 (0 : Int32) ci_0 dX10_item_76 rfl ?_
      refine pf_10_195 C 80 dX10_item_77 rfl hz (fun S_19 hz => ?_)
      refine g_aload_n C 81 0 rfl dX10_item_80 rfl ?_
      refine g_dup C 82 rfl dX10_item_81 rfl ?_
      refine gf_10_156 C 85 dX10_item_82 rfl ?_
      refine g_iconst C 86 (1 : Int32) ci_1 dX10_item_85 rfl ?_
      refine g_iadd C 87 dX10_item_86 rfl ?_
      refine pf_10_156 C 90 dX10_item_87 rfl hz (fun S_20 hz => ?_)
      refine g_goto C 0 dX10_item_90 rfl ?_
      exact hk0 S_20 hz
    · refine g_iconst C 73 (1 : Int32) ci_1 dX10_item_72 rfl ?_
      refine g_goto C 77 dX10_item_73 rfl ?_
      refine pf_10_195 C 80 dX10_item_77 rfl hz (fun S_21 hz => ?_)
      refine g_aload_n C 81 0 rfl dX10_item_80 rfl ?_
      refine g_dup C 82 rfl dX10_item_81 rfl ?_
      refine gf_10_156 C 85 dX10_item_82 rfl ?_
      refine g_iconst C 86 (1 : Int32) ci_1 dX10_item_85 rfl ?_
      refine g_iadd C 87 dX10_item_86 rfl ?_
      refine pf_10_156 C 90 dX10_item_87 rfl hz (fun S_22 hz => ?_)
      refine g_goto C 0 dX10_item_90 rfl ?_
      exact hk0 S_22 hz
set_option maxRecDepth 20000 in
theorem t_X10_item_L34 {p : Program} {l : Launch} {e : Env} {s : State} {m : MethodId} {args : Array Value} {below : List Frame} {meth : Method} {c : Code} {D : va_G} {cy : Nat → ClassId} {ad : Nat → Nat} {n : Nat} {A : Nat → Prop} (C : gC p s m args meth c cX10_item 1 RX10 D cy ad n A) (hr : meth.sig.returnType = none) {z : Sg} {k0 : Sg → Option (Sg)} (hk0 : ∀ (S : Sg), k0 S = some z → gW p l e rm_X10_item s m args below meth c D cy ad n A 1 0 0 (MQ below (gQ D cy ad n A none z) args s 0 0 A) S 0 [(0, .ref (ad 34))] []) : ∀ (S : Sg), f_X10_item_L34 k0 S = some z → gW p l e rm_X10_item s m args below meth c D cy ad n A 1 0 0 (MQ below (gQ D cy ad n A none z) args s 0 0 A) S 34 [(0, .ref (ad 34))] [] := by
  intro  S hz
  unfold f_X10_item_L34 at hz
  refine g_aload_n C 35 0 rfl dX10_item_34 rfl ?_
  refine g_bipush C 37 (63 : Int32) cb_63 dX10_item_35 rfl ?_
  refine cl_10_174 C 40 ⟨Nat.le_of_ble_eq_true rfl, Nat.le_of_ble_eq_true rfl⟩ ⟨Nat.zero_le _, Nat.zero_le _⟩ (Nat.le_of_ble_eq_true rfl) dX10_item_37 rfl hz (fun r_14 S_13 hz => ?_)
  refine g_if_ne C 55 43 dX10_item_40 rfl rfl hz (fun hz => ?_) (fun hz => ?_)
  · exact (t_X10_item_L55 C hr hk0) S_13 hz
  · refine g_aload_n C 44 0 rfl dX10_item_43 rfl ?_
    refine g_aload_n C 45 0 rfl dX10_item_44 rfl ?_
    refine gf_10_202 C 48 dX10_item_45 rfl ?_
    refine g_aload_n C 49 0 rfl dX10_item_48 rfl ?_
    refine gf_10_199 C 52 dX10_item_49 rfl ?_
    refine cl_10_209 C 55 ⟨Nat.le_of_ble_eq_true rfl, Nat.le_of_ble_eq_true rfl⟩ ⟨Nat.zero_le _, Nat.zero_le _⟩ (Nat.le_of_ble_eq_true rfl) dX10_item_52 rfl hz (fun S_23 hz => ?_)
    exact (t_X10_item_L55 C hr hk0) S_23 hz
set_option maxRecDepth 20000 in
theorem t_X10_item_L0 {p : Program} {l : Launch} {e : Env} {s : State} {m : MethodId} {args : Array Value} {below : List Frame} {meth : Method} {c : Code} {D : va_G} {cy : Nat → ClassId} {ad : Nat → Nat} {n : Nat} {A : Nat → Prop} (C : gC p s m args meth c cX10_item 1 RX10 D cy ad n A) (hr : meth.sig.returnType = none) {z : Sg} : ∀ (fl : Nat) (S : Sg), f_X10_item_L0 fl S = some z → gW p l e rm_X10_item s m args below meth c D cy ad n A 1 0 0 (MQ below (gQ D cy ad n A none z) args s 0 0 A) S 0 [(0, .ref (ad 34))] [] := by
  intro fl
  induction fl with
  | zero =>
    intro  S hz
    rw [f_X10_item_L0] at hz
    cases hz
  | succ fl ih =>
    intro  S hz
    rw [f_X10_item_L0] at hz
    refine g_aload_n C 1 0 rfl dX10_item_0 rfl ?_
    refine gf_10_178 C 4 dX10_item_1 rfl ?_
    refine g_if_ne C 93 7 dX10_item_4 rfl rfl hz (fun hz => ?_) (fun hz => ?_)
    · exact (t_X10_item_L93 C hr) S hz
    · refine g_aload_n C 8 0 rfl dX10_item_7 rfl ?_
      refine g_bipush C 10 (42 : Int32) cb_42 dX10_item_8 rfl ?_
      refine cl_10_174 C 13 ⟨Nat.le_of_ble_eq_true rfl, Nat.le_of_ble_eq_true rfl⟩ ⟨Nat.zero_le _, Nat.zero_le _⟩ (Nat.le_of_ble_eq_true rfl) dX10_item_10 rfl hz (fun r_12 S_11 hz => ?_)
      refine g_if_ne C 34 16 dX10_item_13 rfl rfl hz (fun hz => ?_) (fun hz => ?_)
      · exact (t_X10_item_L34 C hr ih) S_11 hz
      · refine g_aload_n C 17 0 rfl dX10_item_16 rfl ?_
        refine g_bipush C 19 (43 : Int32) cb_43 dX10_item_17 rfl ?_
        refine cl_10_174 C 22 ⟨Nat.le_of_ble_eq_true rfl, Nat.le_of_ble_eq_true rfl⟩ ⟨Nat.zero_le _, Nat.zero_le _⟩ (Nat.le_of_ble_eq_true rfl) dX10_item_19 rfl hz (fun r_25 S_24 hz => ?_)
        refine g_if_ne C 34 25 dX10_item_22 rfl rfl hz (fun hz => ?_) (fun hz => ?_)
        · exact (t_X10_item_L34 C hr ih) S_24 hz
        · refine g_aload_n C 26 0 rfl dX10_item_25 rfl ?_
          refine g_bipush C 28 (63 : Int32) cb_63 dX10_item_26 rfl ?_
          refine cl_10_174 C 31 ⟨Nat.le_of_ble_eq_true rfl, Nat.le_of_ble_eq_true rfl⟩ ⟨Nat.zero_le _, Nat.zero_le _⟩ (Nat.le_of_ble_eq_true rfl) dX10_item_28 rfl hz (fun r_27 S_26 hz => ?_)
          refine g_if_eq C 93 34 dX10_item_31 rfl rfl hz (fun hz => ?_) (fun hz => ?_)
          · exact (t_X10_item_L93 C hr) S_26 hz
          · exact (t_X10_item_L34 C hr ih) S_26 hz
set_option maxRecDepth 20000 in
theorem t_X10_item {p : Program} {l : Launch} {e : Env} {s : State} {m : MethodId} {args : Array Value} {below : List Frame} {meth : Method} {c : Code} {D : va_G} {cy : Nat → ClassId} {ad : Nat → Nat} {n : Nat} {A : Nat → Prop} (C : gC p s m args meth c cX10_item 1 RX10 D cy ad n A) (hr : meth.sig.returnType = none) {z : Sg} {S : Sg} (hz : f_X10_item S = some z) : gW p l e rm_X10_item s m args below meth c D cy ad n A 1 0 0 (MQ below (gQ D cy ad n A none z) args s 0 0 A) S 0 [(0, .ref (ad 34))] [] := by
  unfold f_X10_item at hz
  exact (t_X10_item_L0 C hr fu) S hz
theorem c_X10_item (l : Launch) (D : va_G) (cy : Nat → ClassId) (ad : Nat → Nat) (n : Nat) (S : Sg) (sz : Nat) (z : Sg) (hz : f_X10_item S = some z) : Met l yX10_item (.code yX10_item cX10_item 1 none :: wsAll) rm_X10_item (gPc D cy ad n S sz [.ref (ad 34)]) (gQ D cy ad n (va_A (wW cy ad n S) sz) none z) 0 0 (va_A (wW cy ad n S) sz) := by
  refine gMet (lv := [(0, .ref (ad 34))]) (by decide) (Nat.le_of_ble_eq_true rfl) rfl ?_
  intro p e s m args below meth c A hA hr C
  exact t_X10_item C hr hz
def rm_X10_rowEnds : Room := { frames := 0, cells := 0, slots := 0, locals := 0 }
set_option maxRecDepth 20000 in
theorem t_X10_rowEnds_L37 {p : Program} {l : Launch} {e : Env} {s : State} {m : MethodId} {args : Array Value} {below : List Frame} {meth : Method} {c : Code} {D : va_G} {cy : Nat → ClassId} {ad : Nat → Nat} {n : Nat} {A : Nat → Prop} (C : gC p s m args meth c cX10_rowEnds 1 RX10 D cy ad n A) (hr : meth.sig.returnType = none) {z : Sg} : ∀ (t0 : Int32) (t1 : Int32) (S : Sg), f_X10_rowEnds_L37 t0 t1 S = some z → gW p l e rm_X10_rowEnds s m args below meth c D cy ad n A 1 0 0 (MQ below (gQ D cy ad n A none z) args s 0 0 A) S 37 [(0, .ref (ad 34))] [.int t0, .int t1, .ref (ad 59)] := by
  intro t0 t1 S hz
  unfold f_X10_rowEnds_L37 at hz
  refine g_zast C 38 ha_59 dX10_rowEnds_37 rfl hz (fun S_1 hz => ?_)
  refine g_aload_n C 39 0 rfl dX10_rowEnds_38 rfl ?_
  refine gf_10_91 C 42 dX10_rowEnds_39 rfl ?_
  refine g_aload_n C 43 0 rfl dX10_rowEnds_42 rfl ?_
  refine gf_10_185 C 46 dX10_rowEnds_43 rfl ?_
  refine g_dup2 C 47 rfl rfl dX10_rowEnds_46 rfl ?_
  refine g_iald C 48 ha_60 dX10_rowEnds_47 rfl hz (fun hz => ?_)
  refine g_aload_n C 49 0 rfl dX10_rowEnds_48 rfl ?_
  refine gf_10_82 C 52 dX10_rowEnds_49 rfl ?_
  refine g_aload_n C 53 0 rfl dX10_rowEnds_52 rfl ?_
  refine gf_10_185 C 56 dX10_rowEnds_53 rfl ?_
  refine g_iald C 57 ha_57 dX10_rowEnds_56 rfl hz (fun hz => ?_)
  refine g_ior C 58 dX10_rowEnds_57 rfl ?_
  refine g_iast C 59 ha_60 dX10_rowEnds_58 rfl hz (fun S_2 hz => ?_)
  refine g_aload_n C 60 0 rfl dX10_rowEnds_59 rfl ?_
  refine gf_10_94 C 63 dX10_rowEnds_60 rfl ?_
  refine g_aload_n C 64 0 rfl dX10_rowEnds_63 rfl ?_
  refine gf_10_185 C 67 dX10_rowEnds_64 rfl ?_
  refine g_dup2 C 68 rfl rfl dX10_rowEnds_67 rfl ?_
  refine g_iald C 69 ha_61 dX10_rowEnds_68 rfl hz (fun hz => ?_)
  refine g_aload_n C 70 0 rfl dX10_rowEnds_69 rfl ?_
  refine gf_10_85 C 73 dX10_rowEnds_70 rfl ?_
  refine g_aload_n C 74 0 rfl dX10_rowEnds_73 rfl ?_
  refine gf_10_185 C 77 dX10_rowEnds_74 rfl ?_
  refine g_iald C 78 ha_58 dX10_rowEnds_77 rfl hz (fun hz => ?_)
  refine g_ior C 79 dX10_rowEnds_78 rfl ?_
  refine g_iast C 80 ha_61 dX10_rowEnds_79 rfl hz (fun S_3 hz => ?_)
  refine g_aload_n C 81 0 rfl dX10_rowEnds_80 rfl ?_
  refine gf_10_76 C 84 dX10_rowEnds_81 rfl ?_
  refine g_aload_n C 85 0 rfl dX10_rowEnds_84 rfl ?_
  refine gf_10_185 C 88 dX10_rowEnds_85 rfl ?_
  refine g_iconst C 89 (0 : Int32) ci_0 dX10_rowEnds_88 rfl ?_
  refine g_zast C 90 ha_55 dX10_rowEnds_89 rfl hz (fun S_4 hz => ?_)
  exact g_vret C hr dX10_rowEnds_90 hz
set_option maxRecDepth 20000 in
theorem t_X10_rowEnds {p : Program} {l : Launch} {e : Env} {s : State} {m : MethodId} {args : Array Value} {below : List Frame} {meth : Method} {c : Code} {D : va_G} {cy : Nat → ClassId} {ad : Nat → Nat} {n : Nat} {A : Nat → Prop} (C : gC p s m args meth c cX10_rowEnds 1 RX10 D cy ad n A) (hr : meth.sig.returnType = none) {z : Sg} {S : Sg} (hz : f_X10_rowEnds S = some z) : gW p l e rm_X10_rowEnds s m args below meth c D cy ad n A 1 0 0 (MQ below (gQ D cy ad n A none z) args s 0 0 A) S 0 [(0, .ref (ad 34))] [] := by
  unfold f_X10_rowEnds at hz
  refine g_aload_n C 1 0 rfl dX10_rowEnds_0 rfl ?_
  refine gf_10_88 C 4 dX10_rowEnds_1 rfl ?_
  refine g_aload_n C 5 0 rfl dX10_rowEnds_4 rfl ?_
  refine gf_10_185 C 8 dX10_rowEnds_5 rfl ?_
  refine g_aload_n C 9 0 rfl dX10_rowEnds_8 rfl ?_
  refine gf_10_88 C 12 dX10_rowEnds_9 rfl ?_
  refine g_aload_n C 13 0 rfl dX10_rowEnds_12 rfl ?_
  refine gf_10_185 C 16 dX10_rowEnds_13 rfl ?_
  refine g_zald C 17 ha_59 dX10_rowEnds_16 rfl hz (fun hz => ?_)
  refine g_if_ne C 32 20 dX10_rowEnds_17 rfl rfl hz (fun hz => ?_) (fun hz => ?_)
  · refine g_iconst C 33 (1 : Int32) ci_1 dX10_rowEnds_32 rfl ?_
    refine g_goto C 37 dX10_rowEnds_33 rfl ?_
    exact (t_X10_rowEnds_L37 C hr) ((1 : Int32)) ((S.1 34 28)) S hz
  · refine g_aload_n C 21 0 rfl dX10_rowEnds_20 rfl ?_
    refine gf_10_79 C 24 dX10_rowEnds_21 rfl ?_
    refine g_aload_n C 25 0 rfl dX10_rowEnds_24 rfl ?_
    refine gf_10_185 C 28 dX10_rowEnds_25 rfl ?_
    refine g_zald C 29 ha_56 dX10_rowEnds_28 rfl hz (fun hz => ?_)
    refine g_if_eq C 36 32 dX10_rowEnds_29 rfl rfl hz (fun hz => ?_) (fun hz => ?_)
    · refine g_iconst C 37 (0 : Int32) ci_0 dX10_rowEnds_36 rfl ?_
      exact (t_X10_rowEnds_L37 C hr) ((0 : Int32)) ((S.1 34 28)) S hz
    · refine g_iconst C 33 (1 : Int32) ci_1 dX10_rowEnds_32 rfl ?_
      refine g_goto C 37 dX10_rowEnds_33 rfl ?_
      exact (t_X10_rowEnds_L37 C hr) ((1 : Int32)) ((S.1 34 28)) S hz
theorem c_X10_rowEnds (l : Launch) (D : va_G) (cy : Nat → ClassId) (ad : Nat → Nat) (n : Nat) (S : Sg) (sz : Nat) (z : Sg) (hz : f_X10_rowEnds S = some z) : Met l yX10_rowEnds (.code yX10_rowEnds cX10_rowEnds 1 none :: wsAll) rm_X10_rowEnds (gPc D cy ad n S sz [.ref (ad 34)]) (gQ D cy ad n (va_A (wW cy ad n S) sz) none z) 0 0 (va_A (wW cy ad n S) sz) := by
  refine gMet (lv := [(0, .ref (ad 34))]) (by decide) (Nat.le_of_ble_eq_true rfl) rfl ?_
  intro p e s m args below meth c A hA hr C
  exact t_X10_rowEnds C hr hz
def rm_X10_atom : Room := { frames := 3, cells := 0, slots := 0, locals := 68 }
theorem wl_10_215 : Cond.methodLink RX10 215 yX10_bracket ∈ wsAll := wA 853 (by decide +kernel) (by decide +kernel)
theorem wi_X10_bracket : Cond.instanceMethod yX10_bracket ∈ wsAll := wA 855 (by decide +kernel) (by decide +kernel)
theorem we_X10_bracket : Cond.selects RX10 yX10_bracket yX10_bracket ∈ wsAll := wAp 63 (by decide +kernel) (by decide +kernel)
theorem wo_X10_bracket : Cond.code yX10_bracket cX10_bracket 6 (some .int) ∈ wsAll := wA 856 (by decide +kernel) (by decide +kernel)
theorem cl_10_215 {p : Program} {l : Launch} {e : Env} {R : Room} {s : State} {m : MethodId} {args : Array Value} {below : List Frame} {meth : Method} {c : Code} {cc : ByteArray} {nL : Nat} {D : va_G} {cy : Nat → ClassId} {ad : Nat → Nat} {n : Nat} {A : Nat → Prop} {mc ms : Nat} {Q : State → Prop} {S : Sg} {pc : Nat} {lv : List (Nat × Value)} {st : List Value} {ζ : Type} {z : ζ} (C : gC p s m args meth c cc nL RX10 D cy ad n A) (nx : Nat) (hR : Room.frames rm_X10_bracket + 1 ≤ R.frames ∧ 8 + (6 + 11) + Room.locals rm_X10_bracket ≤ R.locals) (hcm : mc ≤ R.cells ∧ ms ≤ R.slots) (hrest : (st.map fun v => v.category).sum ≤ 8) (hd : decode cc pc = .ok (.invokevirtual 215, 3)) (hn : pc + 3 = nx) {K : Int32 → Sg → Option ζ} (hz : bd2 (f_X10_bracket S) K = some z) (kk : ∀ r S', K r S' = some z → gW p l e R s m args below meth c D cy ad n A nL mc ms Q S' nx lv (.int r :: st)) : gW p l e R s m args below meth c D cy ad n A nL mc ms Q S pc lv (.ref (ad 34) :: st) := by
  obtain ⟨q, hq, hk⟩ := bd2_s hz
  exact g_callV C (i := 34) (ci := 10) (Cn := RX10) (T := TX10) (N := 59) (y := yX10_bracket) (rm := rm_X10_bracket) (As := []) (rest := st) (na := 0) (fun sz => c_X10_bracket l D cy ad n S sz  q hq) ha_34 rfl rfl wl_10_215 wi_X10_bracket we_X10_bracket wz_10 wo_X10_bracket (by decide +kernel) rfl rfl hR hcm rfl hrest hn hd (kk q.1 q.2 hk)
theorem wl_10_212 : Cond.methodLink RX10 212 yX10_spot ∈ wsAll := wA 845 (by decide +kernel) (by decide +kernel)
theorem wi_X10_spot : Cond.instanceMethod yX10_spot ∈ wsAll := wA 847 (by decide +kernel) (by decide +kernel)
theorem we_X10_spot : Cond.selects RX10 yX10_spot yX10_spot ∈ wsAll := wAp 61 (by decide +kernel) (by decide +kernel)
theorem wo_X10_spot : Cond.code yX10_spot cX10_spot 4 none ∈ wsAll := wA 848 (by decide +kernel) (by decide +kernel)
theorem cl_10_212 {p : Program} {l : Launch} {e : Env} {R : Room} {s : State} {m : MethodId} {args : Array Value} {below : List Frame} {meth : Method} {c : Code} {cc : ByteArray} {nL : Nat} {D : va_G} {cy : Nat → ClassId} {ad : Nat → Nat} {n : Nat} {A : Nat → Prop} {mc ms : Nat} {Q : State → Prop} {S : Sg} {pc : Nat} {lv : List (Nat × Value)} {st : List Value} {ζ : Type} {z : ζ} (C : gC p s m args meth c cc nL RX10 D cy ad n A) (nx : Nat) {x1 : Int32} {x2 : Int32} (hR : Room.frames rm_X10_spot + 1 ≤ R.frames ∧ 8 + (4 + 11) + Room.locals rm_X10_spot ≤ R.locals) (hcm : mc ≤ R.cells ∧ ms ≤ R.slots) (hrest : (st.map fun v => v.category).sum ≤ 8) (hd : decode cc pc = .ok (.invokevirtual 212, 3)) (hn : pc + 3 = nx) {K : Sg → Option ζ} (hz : bd (f_X10_spot x1 x2 S) K = some z) (kk : ∀ S', K S' = some z → gW p l e R s m args below meth c D cy ad n A nL mc ms Q S' nx lv st) : gW p l e R s m args below meth c D cy ad n A nL mc ms Q S pc lv (.int x2 :: .int x1 :: .ref (ad 34) :: st) := by
  obtain ⟨q, hq, hk⟩ := bd_s hz
  exact g_callV C (i := 34) (ci := 10) (Cn := RX10) (T := TX10) (N := 59) (y := yX10_spot) (rm := rm_X10_spot) (As := [.int x1, .int x2]) (rest := st) (na := 2) (fun sz => c_X10_spot l D cy ad n S sz x1 x2 q hq) ha_34 rfl rfl wl_10_212 wi_X10_spot we_X10_spot wz_10 wo_X10_spot (by decide +kernel) rfl rfl hR hcm rfl hrest hn hd (kk q hk)
set_option maxRecDepth 20000 in
theorem t_X10_atom_L116 {p : Program} {l : Launch} {e : Env} {s : State} {m : MethodId} {args : Array Value} {below : List Frame} {meth : Method} {c : Code} {D : va_G} {cy : Nat → ClassId} {ad : Nat → Nat} {n : Nat} {A : Nat → Prop} (C : gC p s m args meth c cX10_atom 3 RX10 D cy ad n A) (hr : meth.sig.returnType = none) {z : Sg} : ∀ (x1 : Int32) (t0 : Int32) (S : Sg), f_X10_atom_L116 x1 t0 S = some z → gW p l e rm_X10_atom s m args below meth c D cy ad n A 3 0 0 (MQ below (gQ D cy ad n A none z) args s 0 0 A) S 116 [(0, .ref (ad 34)), (1, .int x1)] [.int t0] := by
  intro x1 t0 S hz
  unfold f_X10_atom_L116 at hz
  refine g_istore_n C 117 (i := 2) [1, 2, 0] (fun x2_16 => [(0, .ref (ad 34)), (1, .int x1), (2, .int x2_16)]) dX10_atom_116 rfl rfl (by decide) (fun x2_16 => rfl) hz (fun x2_16 hz => ?_)
  refine g_aload_n C 118 0 rfl dX10_atom_117 rfl ?_
  refine gf_10_178 C 121 dX10_atom_118 rfl ?_
  refine g_if_ne C 130 124 dX10_atom_121 rfl rfl hz (fun hz => ?_) (fun hz => ?_)
  · refine g_goto C 163 dX10_atom_130 rfl ?_
    exact g_vret C hr dX10_atom_163 hz
  · refine g_aload_n C 125 0 rfl dX10_atom_124 rfl ?_
    refine g_iload_n C 126 2 rfl dX10_atom_125 rfl ?_
    refine g_iload_n C 127 1 rfl dX10_atom_126 rfl ?_
    refine cl_10_212 C 130 ⟨Nat.le_of_ble_eq_true rfl, Nat.le_of_ble_eq_true rfl⟩ ⟨Nat.zero_le _, Nat.zero_le _⟩ (Nat.le_of_ble_eq_true rfl) dX10_atom_127 rfl hz (fun S_17 hz => ?_)
    refine g_goto C 163 dX10_atom_130 rfl ?_
    exact g_vret C hr dX10_atom_163 hz
set_option maxRecDepth 20000 in
theorem t_X10_atom_L101 {p : Program} {l : Launch} {e : Env} {s : State} {m : MethodId} {args : Array Value} {below : List Frame} {meth : Method} {c : Code} {D : va_G} {cy : Nat → ClassId} {ad : Nat → Nat} {n : Nat} {A : Nat → Prop} (C : gC p s m args meth c cX10_atom 3 RX10 D cy ad n A) (hr : meth.sig.returnType = none) {z : Sg} : ∀ (x1 : Int32) (S : Sg), f_X10_atom_L101 x1 S = some z → gW p l e rm_X10_atom s m args below meth c D cy ad n A 3 0 0 (MQ below (gQ D cy ad n A none z) args s 0 0 A) S 101 [(0, .ref (ad 34)), (1, .int x1)] [] := by
  intro x1 S hz
  unfold f_X10_atom_L101 at hz
  refine g_aload_n C 102 0 rfl dX10_atom_101 rfl ?_
  refine gf_10_178 C 105 dX10_atom_102 rfl ?_
  refine g_if_le C 112 108 dX10_atom_105 rfl rfl hz (fun hz => ?_) (fun hz => ?_)
  · refine g_aload_n C 113 0 rfl dX10_atom_112 rfl ?_
    refine cl_10_215 C 116 ⟨Nat.le_of_ble_eq_true rfl, Nat.le_of_ble_eq_true rfl⟩ ⟨Nat.zero_le _, Nat.zero_le _⟩ (Nat.le_of_ble_eq_true rfl) dX10_atom_113 rfl hz (fun r_15 S_14 hz => ?_)
    exact (t_X10_atom_L116 C hr) x1 r_15 S_14 hz
  · refine g_iconst C 109 (0 : Int32) ci_0 dX10_atom_108 rfl ?_
    refine g_goto C 116 dX10_atom_109 rfl ?_
    exact (t_X10_atom_L116 C hr) x1 ((0 : Int32)) S hz
set_option maxRecDepth 20000 in
theorem t_X10_atom {p : Program} {l : Launch} {e : Env} {s : State} {m : MethodId} {args : Array Value} {below : List Frame} {meth : Method} {c : Code} {D : va_G} {cy : Nat → ClassId} {ad : Nat → Nat} {n : Nat} {A : Nat → Prop} (C : gC p s m args meth c cX10_atom 3 RX10 D cy ad n A) (hr : meth.sig.returnType = none) {z : Sg} {S : Sg} (hz : f_X10_atom S = some z) : gW p l e rm_X10_atom s m args below meth c D cy ad n A 3 0 0 (MQ below (gQ D cy ad n A none z) args s 0 0 A) S 0 [(0, .ref (ad 34))] [] := by
  unfold f_X10_atom at hz
  refine g_aload_n C 1 0 rfl dX10_atom_0 rfl ?_
  refine gf_10_156 C 4 dX10_atom_1 rfl ?_
  refine g_istore_n C 5 (i := 1) [1, 0] (fun x1_1 => [(0, .ref (ad 34)), (1, .int x1_1)]) dX10_atom_4 rfl rfl (by decide) (fun x1_1 => rfl) hz (fun x1_1 hz => ?_)
  refine g_aload_n C 6 0 rfl dX10_atom_5 rfl ?_
  refine cl_10_170 C 9 ⟨Nat.le_of_ble_eq_true rfl, Nat.le_of_ble_eq_true rfl⟩ ⟨Nat.zero_le _, Nat.zero_le _⟩ (Nat.le_of_ble_eq_true rfl) dX10_atom_6 rfl hz (fun r_3 S_2 hz => ?_)
  refine g_if_eq C 41 12 dX10_atom_9 rfl rfl hz (fun hz => ?_) (fun hz => ?_)
  · refine g_aload_n C 42 0 rfl dX10_atom_41 rfl ?_
    refine g_bipush C 44 (46 : Int32) cb_46 dX10_atom_42 rfl ?_
    refine cl_10_174 C 47 ⟨Nat.le_of_ble_eq_true rfl, Nat.le_of_ble_eq_true rfl⟩ ⟨Nat.zero_le _, Nat.zero_le _⟩ (Nat.le_of_ble_eq_true rfl) dX10_atom_44 rfl hz (fun r_5 S_4 hz => ?_)
    refine g_if_eq C 70 50 dX10_atom_47 rfl rfl hz (fun hz => ?_) (fun hz => ?_)
    · refine g_aload_n C 71 0 rfl dX10_atom_70 rfl ?_
      refine g_bipush C 73 (91 : Int32) cb_91 dX10_atom_71 rfl ?_
      refine cl_10_174 C 76 ⟨Nat.le_of_ble_eq_true rfl, Nat.le_of_ble_eq_true rfl⟩ ⟨Nat.zero_le _, Nat.zero_le _⟩ (Nat.le_of_ble_eq_true rfl) dX10_atom_73 rfl hz (fun r_7 S_6 hz => ?_)
      refine g_if_eq C 133 79 dX10_atom_76 rfl rfl hz (fun hz => ?_) (fun hz => ?_)
      · refine g_aload_n C 134 0 rfl dX10_atom_133 rfl ?_
        refine g_aload_n C 135 0 rfl dX10_atom_134 rfl ?_
        refine g_bipush C 137 (49 : Int32) cb_49 dX10_atom_135 rfl ?_
        refine cl_10_174 C 140 ⟨Nat.le_of_ble_eq_true rfl, Nat.le_of_ble_eq_true rfl⟩ ⟨Nat.zero_le _, Nat.zero_le _⟩ (Nat.le_of_ble_eq_true rfl) dX10_atom_137 rfl hz (fun r_9 S_8 hz => ?_)
        refine pf_10_195 C 143 dX10_atom_140 rfl hz (fun S_10 hz => ?_)
        refine g_aload_n C 144 0 rfl dX10_atom_143 rfl ?_
        refine g_iconst C 145 (0 : Int32) ci_0 dX10_atom_144 rfl ?_
        refine pf_10_199 C 148 dX10_atom_145 rfl hz (fun S_11 hz => ?_)
        refine g_aload_n C 149 0 rfl dX10_atom_148 rfl ?_
        refine g_iconst C 150 (0 : Int32) ci_0 dX10_atom_149 rfl ?_
        refine pf_10_202 C 153 dX10_atom_150 rfl hz (fun S_12 hz => ?_)
        refine g_aload_n C 154 0 rfl dX10_atom_153 rfl ?_
        refine g_dup C 155 rfl dX10_atom_154 rfl ?_
        refine gf_10_156 C 158 dX10_atom_155 rfl ?_
        refine g_iconst C 159 (1 : Int32) ci_1 dX10_atom_158 rfl ?_
        refine g_iadd C 160 dX10_atom_159 rfl ?_
        refine pf_10_156 C 163 dX10_atom_160 rfl hz (fun S_13 hz => ?_)
        exact g_vret C hr dX10_atom_163 hz
      · refine g_aload_n C 80 0 rfl dX10_atom_79 rfl ?_
        refine gf_10_20 C 83 dX10_atom_80 rfl ?_
        refine g_aload_n C 84 0 rfl dX10_atom_83 rfl ?_
        refine gf_10_188 C 87 dX10_atom_84 rfl ?_
        refine g_iconst C 88 (1 : Int32) ci_1 dX10_atom_87 rfl ?_
        refine g_isub C 89 dX10_atom_88 rfl ?_
        refine g_iald C 90 ha_37 dX10_atom_89 rfl hz (fun hz => ?_)
        refine g_bipush C 92 (30 : Int32) cb_30 dX10_atom_90 rfl ?_
        refine g_icmp_ne C 101 95 dX10_atom_92 rfl rfl hz (fun hz => ?_) (fun hz => ?_)
        · exact (t_X10_atom_L101 C hr) x1_1 S_6 hz
        · refine g_aload_n C 96 0 rfl dX10_atom_95 rfl ?_
          refine g_iconst C 97 (2 : Int32) ci_2 dX10_atom_96 rfl ?_
          refine g_iload_n C 98 1 rfl dX10_atom_97 rfl ?_
          refine cl_10_181 C 101 ⟨Nat.le_of_ble_eq_true rfl, Nat.le_of_ble_eq_true rfl⟩ ⟨Nat.zero_le _, Nat.zero_le _⟩ (Nat.le_of_ble_eq_true rfl) dX10_atom_98 rfl hz (fun S_18 hz => ?_)
          exact (t_X10_atom_L101 C hr) x1_1 S_18 hz
    · refine g_aload_n C 51 0 rfl dX10_atom_50 rfl ?_
      refine g_bipush C 53 (15 : Int32) cb_15 dX10_atom_51 rfl ?_
      refine g_iload_n C 54 1 rfl dX10_atom_53 rfl ?_
      refine cl_10_212 C 57 ⟨Nat.le_of_ble_eq_true rfl, Nat.le_of_ble_eq_true rfl⟩ ⟨Nat.zero_le _, Nat.zero_le _⟩ (Nat.le_of_ble_eq_true rfl) dX10_atom_54 rfl hz (fun S_19 hz => ?_)
      refine g_aload_n C 58 0 rfl dX10_atom_57 rfl ?_
      refine g_dup C 59 rfl dX10_atom_58 rfl ?_
      refine gf_10_156 C 62 dX10_atom_59 rfl ?_
      refine g_iconst C 63 (1 : Int32) ci_1 dX10_atom_62 rfl ?_
      refine g_iadd C 64 dX10_atom_63 rfl ?_
      refine pf_10_156 C 67 dX10_atom_64 rfl hz (fun S_20 hz => ?_)
      refine g_goto C 163 dX10_atom_67 rfl ?_
      exact g_vret C hr dX10_atom_163 hz
  · refine g_aload_n C 13 0 rfl dX10_atom_12 rfl ?_
    refine cl_10_162 C 16 ⟨Nat.le_of_ble_eq_true rfl, Nat.le_of_ble_eq_true rfl⟩ ⟨Nat.zero_le _, Nat.zero_le _⟩ (Nat.le_of_ble_eq_true rfl) dX10_atom_13 rfl hz (fun r_22 S_21 hz => ?_)
    refine g_bipush C 18 (97 : Int32) cb_97 dX10_atom_16 rfl ?_
    refine g_isub C 19 dX10_atom_18 rfl ?_
    refine g_istore_n C 20 (i := 2) [1, 2, 0] (fun x2_23 => [(0, .ref (ad 34)), (1, .int x1_1), (2, .int x2_23)]) dX10_atom_19 rfl rfl (by decide) (fun x2_23 => rfl) hz (fun x2_23 hz => ?_)
    refine g_aload_n C 21 0 rfl dX10_atom_20 rfl ?_
    refine g_iconst C 22 (1 : Int32) ci_1 dX10_atom_21 rfl ?_
    refine g_iload_n C 23 2 rfl dX10_atom_22 rfl ?_
    refine g_ishl C 24 dX10_atom_23 rfl ?_
    refine g_iload_n C 25 1 rfl dX10_atom_24 rfl ?_
    refine cl_10_212 C 28 ⟨Nat.le_of_ble_eq_true rfl, Nat.le_of_ble_eq_true rfl⟩ ⟨Nat.zero_le _, Nat.zero_le _⟩ (Nat.le_of_ble_eq_true rfl) dX10_atom_25 rfl hz (fun S_24 hz => ?_)
    refine g_aload_n C 29 0 rfl dX10_atom_28 rfl ?_
    refine g_dup C 30 rfl dX10_atom_29 rfl ?_
    refine gf_10_156 C 33 dX10_atom_30 rfl ?_
    refine g_iconst C 34 (1 : Int32) ci_1 dX10_atom_33 rfl ?_
    refine g_iadd C 35 dX10_atom_34 rfl ?_
    refine pf_10_156 C 38 dX10_atom_35 rfl hz (fun S_25 hz => ?_)
    refine g_goto C 163 dX10_atom_38 rfl ?_
    exact g_vret C hr dX10_atom_163 hz
theorem c_X10_atom (l : Launch) (D : va_G) (cy : Nat → ClassId) (ad : Nat → Nat) (n : Nat) (S : Sg) (sz : Nat) (z : Sg) (hz : f_X10_atom S = some z) : Met l yX10_atom (.code yX10_atom cX10_atom 3 none :: wsAll) rm_X10_atom (gPc D cy ad n S sz [.ref (ad 34)]) (gQ D cy ad n (va_A (wW cy ad n S) sz) none z) 0 0 (va_A (wW cy ad n S) sz) := by
  refine gMet (lv := [(0, .ref (ad 34))]) (by decide) (Nat.le_of_ble_eq_true rfl) rfl ?_
  intro p e s m args below meth c A hA hr C
  exact t_X10_atom C hr hz
def rm_X10_says : Room := { frames := 0, cells := 0, slots := 0, locals := 0 }
set_option maxRecDepth 20000 in
theorem t_X10_says {p : Program} {l : Launch} {e : Env} {s : State} {m : MethodId} {args : Array Value} {below : List Frame} {meth : Method} {c : Code} {D : va_G} {cy : Nat → ClassId} {ad : Nat → Nat} {n : Nat} {A : Nat → Prop} (C : gC p s m args meth c cX10_says 2 RX10 D cy ad n A) (hr : meth.sig.returnType = none) {z : Sg} {S : Sg} {x1 : Int32} (hz : f_X10_says x1 S = some z) : gW p l e rm_X10_says s m args below meth c D cy ad n A 2 0 0 (MQ below (gQ D cy ad n A none z) args s 0 0 A) S 0 [(0, .ref (ad 34)), (1, .int x1)] [] := by
  unfold f_X10_says at hz
  refine g_aload_n C 1 0 rfl dX10_says_0 rfl ?_
  refine gf_10_40 C 4 dX10_says_1 rfl ?_
  refine g_aload_n C 5 0 rfl dX10_says_4 rfl ?_
  refine gf_10_235 C 8 dX10_says_5 rfl ?_
  refine g_iload_n C 9 1 rfl dX10_says_8 rfl ?_
  refine g_iast C 10 ha_43 dX10_says_9 rfl hz (fun S_1 hz => ?_)
  refine g_aload_n C 11 0 rfl dX10_says_10 rfl ?_
  refine g_dup C 12 rfl dX10_says_11 rfl ?_
  refine gf_10_235 C 15 dX10_says_12 rfl ?_
  refine g_iconst C 16 (1 : Int32) ci_1 dX10_says_15 rfl ?_
  refine g_iadd C 17 dX10_says_16 rfl ?_
  refine pf_10_235 C 20 dX10_says_17 rfl hz (fun S_2 hz => ?_)
  exact g_vret C hr dX10_says_20 hz
theorem c_X10_says (l : Launch) (D : va_G) (cy : Nat → ClassId) (ad : Nat → Nat) (n : Nat) (S : Sg) (sz : Nat) (x1 : Int32) (z : Sg) (hz : f_X10_says x1 S = some z) : Met l yX10_says (.code yX10_says cX10_says 2 none :: wsAll) rm_X10_says (gPc D cy ad n S sz [.ref (ad 34), .int x1]) (gQ D cy ad n (va_A (wW cy ad n S) sz) none z) 0 0 (va_A (wW cy ad n S) sz) := by
  refine gMet (lv := [(0, .ref (ad 34)), (1, .int x1)]) (by decide) (Nat.le_of_ble_eq_true rfl) rfl ?_
  intro p e s m args below meth c A hA hr C
  exact t_X10_says C hr hz
def rm_X10_part : Room := { frames := 4, cells := 0, slots := 0, locals := 90 }
theorem wl_10_218 : Cond.methodLink RX10 218 yX10_opens ∈ wsAll := wA 837 (by decide +kernel) (by decide +kernel)
theorem wi_X10_opens : Cond.instanceMethod yX10_opens ∈ wsAll := wA 839 (by decide +kernel) (by decide +kernel)
theorem we_X10_opens : Cond.selects RX10 yX10_opens yX10_opens ∈ wsAll := wAp 59 (by decide +kernel) (by decide +kernel)
theorem wo_X10_opens : Cond.code yX10_opens cX10_opens 1 none ∈ wsAll := wA 840 (by decide +kernel) (by decide +kernel)
theorem cl_10_218 {p : Program} {l : Launch} {e : Env} {R : Room} {s : State} {m : MethodId} {args : Array Value} {below : List Frame} {meth : Method} {c : Code} {cc : ByteArray} {nL : Nat} {D : va_G} {cy : Nat → ClassId} {ad : Nat → Nat} {n : Nat} {A : Nat → Prop} {mc ms : Nat} {Q : State → Prop} {S : Sg} {pc : Nat} {lv : List (Nat × Value)} {st : List Value} {ζ : Type} {z : ζ} (C : gC p s m args meth c cc nL RX10 D cy ad n A) (nx : Nat) (hR : Room.frames rm_X10_opens + 1 ≤ R.frames ∧ 8 + (1 + 11) + Room.locals rm_X10_opens ≤ R.locals) (hcm : mc ≤ R.cells ∧ ms ≤ R.slots) (hrest : (st.map fun v => v.category).sum ≤ 8) (hd : decode cc pc = .ok (.invokevirtual 218, 3)) (hn : pc + 3 = nx) {K : Sg → Option ζ} (hz : bd (f_X10_opens S) K = some z) (kk : ∀ S', K S' = some z → gW p l e R s m args below meth c D cy ad n A nL mc ms Q S' nx lv st) : gW p l e R s m args below meth c D cy ad n A nL mc ms Q S pc lv (.ref (ad 34) :: st) := by
  obtain ⟨q, hq, hk⟩ := bd_s hz
  exact g_callV C (i := 34) (ci := 10) (Cn := RX10) (T := TX10) (N := 59) (y := yX10_opens) (rm := rm_X10_opens) (As := []) (rest := st) (na := 0) (fun sz => c_X10_opens l D cy ad n S sz  q hq) ha_34 rfl rfl wl_10_218 wi_X10_opens we_X10_opens wz_10 wo_X10_opens (by decide +kernel) rfl rfl hR hcm rfl hrest hn hd (kk q hk)
theorem wl_10_230 : Cond.methodLink RX10 230 yX10_rowEnds ∈ wsAll := wA 865 (by decide +kernel) (by decide +kernel)
theorem wi_X10_rowEnds : Cond.instanceMethod yX10_rowEnds ∈ wsAll := wA 867 (by decide +kernel) (by decide +kernel)
theorem we_X10_rowEnds : Cond.selects RX10 yX10_rowEnds yX10_rowEnds ∈ wsAll := wAp 66 (by decide +kernel) (by decide +kernel)
theorem wo_X10_rowEnds : Cond.code yX10_rowEnds cX10_rowEnds 1 none ∈ wsAll := wA 868 (by decide +kernel) (by decide +kernel)
theorem cl_10_230 {p : Program} {l : Launch} {e : Env} {R : Room} {s : State} {m : MethodId} {args : Array Value} {below : List Frame} {meth : Method} {c : Code} {cc : ByteArray} {nL : Nat} {D : va_G} {cy : Nat → ClassId} {ad : Nat → Nat} {n : Nat} {A : Nat → Prop} {mc ms : Nat} {Q : State → Prop} {S : Sg} {pc : Nat} {lv : List (Nat × Value)} {st : List Value} {ζ : Type} {z : ζ} (C : gC p s m args meth c cc nL RX10 D cy ad n A) (nx : Nat) (hR : Room.frames rm_X10_rowEnds + 1 ≤ R.frames ∧ 8 + (1 + 11) + Room.locals rm_X10_rowEnds ≤ R.locals) (hcm : mc ≤ R.cells ∧ ms ≤ R.slots) (hrest : (st.map fun v => v.category).sum ≤ 8) (hd : decode cc pc = .ok (.invokevirtual 230, 3)) (hn : pc + 3 = nx) {K : Sg → Option ζ} (hz : bd (f_X10_rowEnds S) K = some z) (kk : ∀ S', K S' = some z → gW p l e R s m args below meth c D cy ad n A nL mc ms Q S' nx lv st) : gW p l e R s m args below meth c D cy ad n A nL mc ms Q S pc lv (.ref (ad 34) :: st) := by
  obtain ⟨q, hq, hk⟩ := bd_s hz
  exact g_callV C (i := 34) (ci := 10) (Cn := RX10) (T := TX10) (N := 59) (y := yX10_rowEnds) (rm := rm_X10_rowEnds) (As := []) (rest := st) (na := 0) (fun sz => c_X10_rowEnds l D cy ad n S sz  q hq) ha_34 rfl rfl wl_10_230 wi_X10_rowEnds we_X10_rowEnds wz_10 wo_X10_rowEnds (by decide +kernel) rfl rfl hR hcm rfl hrest hn hd (kk q hk)
theorem wl_10_232 : Cond.methodLink RX10 232 yX10_says ∈ wsAll := wA 869 (by decide +kernel) (by decide +kernel)
theorem wi_X10_says : Cond.instanceMethod yX10_says ∈ wsAll := wA 871 (by decide +kernel) (by decide +kernel)
theorem we_X10_says : Cond.selects RX10 yX10_says yX10_says ∈ wsAll := wAp 67 (by decide +kernel) (by decide +kernel)
theorem wo_X10_says : Cond.code yX10_says cX10_says 2 none ∈ wsAll := wA 872 (by decide +kernel) (by decide +kernel)
theorem cl_10_232 {p : Program} {l : Launch} {e : Env} {R : Room} {s : State} {m : MethodId} {args : Array Value} {below : List Frame} {meth : Method} {c : Code} {cc : ByteArray} {nL : Nat} {D : va_G} {cy : Nat → ClassId} {ad : Nat → Nat} {n : Nat} {A : Nat → Prop} {mc ms : Nat} {Q : State → Prop} {S : Sg} {pc : Nat} {lv : List (Nat × Value)} {st : List Value} {ζ : Type} {z : ζ} (C : gC p s m args meth c cc nL RX10 D cy ad n A) (nx : Nat) {x1 : Int32} (hR : Room.frames rm_X10_says + 1 ≤ R.frames ∧ 8 + (2 + 11) + Room.locals rm_X10_says ≤ R.locals) (hcm : mc ≤ R.cells ∧ ms ≤ R.slots) (hrest : (st.map fun v => v.category).sum ≤ 8) (hd : decode cc pc = .ok (.invokevirtual 232, 3)) (hn : pc + 3 = nx) {K : Sg → Option ζ} (hz : bd (f_X10_says x1 S) K = some z) (kk : ∀ S', K S' = some z → gW p l e R s m args below meth c D cy ad n A nL mc ms Q S' nx lv st) : gW p l e R s m args below meth c D cy ad n A nL mc ms Q S pc lv (.int x1 :: .ref (ad 34) :: st) := by
  obtain ⟨q, hq, hk⟩ := bd_s hz
  exact g_callV C (i := 34) (ci := 10) (Cn := RX10) (T := TX10) (N := 59) (y := yX10_says) (rm := rm_X10_says) (As := [.int x1]) (rest := st) (na := 1) (fun sz => c_X10_says l D cy ad n S sz x1 q hq) ha_34 rfl rfl wl_10_232 wi_X10_says we_X10_says wz_10 wo_X10_says (by decide +kernel) rfl rfl hR hcm rfl hrest hn hd (kk q hk)
theorem wl_10_221 : Cond.methodLink RX10 221 yX10_seesAtom ∈ wsAll := wA 817 (by decide +kernel) (by decide +kernel)
theorem wi_X10_seesAtom : Cond.instanceMethod yX10_seesAtom ∈ wsAll := wA 819 (by decide +kernel) (by decide +kernel)
theorem we_X10_seesAtom : Cond.selects RX10 yX10_seesAtom yX10_seesAtom ∈ wsAll := wAp 54 (by decide +kernel) (by decide +kernel)
theorem wo_X10_seesAtom : Cond.code yX10_seesAtom cX10_seesAtom 1 (some .boolean) ∈ wsAll := wA 820 (by decide +kernel) (by decide +kernel)
theorem cl_10_221 {p : Program} {l : Launch} {e : Env} {R : Room} {s : State} {m : MethodId} {args : Array Value} {below : List Frame} {meth : Method} {c : Code} {cc : ByteArray} {nL : Nat} {D : va_G} {cy : Nat → ClassId} {ad : Nat → Nat} {n : Nat} {A : Nat → Prop} {mc ms : Nat} {Q : State → Prop} {S : Sg} {pc : Nat} {lv : List (Nat × Value)} {st : List Value} {ζ : Type} {z : ζ} (C : gC p s m args meth c cc nL RX10 D cy ad n A) (nx : Nat) (hR : Room.frames rm_X10_seesAtom + 1 ≤ R.frames ∧ 8 + (1 + 11) + Room.locals rm_X10_seesAtom ≤ R.locals) (hcm : mc ≤ R.cells ∧ ms ≤ R.slots) (hrest : (st.map fun v => v.category).sum ≤ 8) (hd : decode cc pc = .ok (.invokevirtual 221, 3)) (hn : pc + 3 = nx) {K : Int32 → Sg → Option ζ} (hz : bd2 (f_X10_seesAtom S) K = some z) (kk : ∀ r S', K r S' = some z → gW p l e R s m args below meth c D cy ad n A nL mc ms Q S' nx lv (.int r :: st)) : gW p l e R s m args below meth c D cy ad n A nL mc ms Q S pc lv (.ref (ad 34) :: st) := by
  obtain ⟨q, hq, hk⟩ := bd2_s hz
  exact g_callV C (i := 34) (ci := 10) (Cn := RX10) (T := TX10) (N := 59) (y := yX10_seesAtom) (rm := rm_X10_seesAtom) (As := []) (rest := st) (na := 0) (fun sz => c_X10_seesAtom l D cy ad n S sz  q hq) ha_34 rfl rfl wl_10_221 wi_X10_seesAtom we_X10_seesAtom wz_10 wo_X10_seesAtom (by decide +kernel) rfl rfl hR hcm rfl hrest hn hd (kk q.1 q.2 hk)
theorem wl_10_224 : Cond.methodLink RX10 224 yX10_atom ∈ wsAll := wA 841 (by decide +kernel) (by decide +kernel)
theorem wi_X10_atom : Cond.instanceMethod yX10_atom ∈ wsAll := wA 843 (by decide +kernel) (by decide +kernel)
theorem we_X10_atom : Cond.selects RX10 yX10_atom yX10_atom ∈ wsAll := wAp 60 (by decide +kernel) (by decide +kernel)
theorem wo_X10_atom : Cond.code yX10_atom cX10_atom 3 none ∈ wsAll := wA 844 (by decide +kernel) (by decide +kernel)
theorem cl_10_224 {p : Program} {l : Launch} {e : Env} {R : Room} {s : State} {m : MethodId} {args : Array Value} {below : List Frame} {meth : Method} {c : Code} {cc : ByteArray} {nL : Nat} {D : va_G} {cy : Nat → ClassId} {ad : Nat → Nat} {n : Nat} {A : Nat → Prop} {mc ms : Nat} {Q : State → Prop} {S : Sg} {pc : Nat} {lv : List (Nat × Value)} {st : List Value} {ζ : Type} {z : ζ} (C : gC p s m args meth c cc nL RX10 D cy ad n A) (nx : Nat) (hR : Room.frames rm_X10_atom + 1 ≤ R.frames ∧ 8 + (3 + 11) + Room.locals rm_X10_atom ≤ R.locals) (hcm : mc ≤ R.cells ∧ ms ≤ R.slots) (hrest : (st.map fun v => v.category).sum ≤ 8) (hd : decode cc pc = .ok (.invokevirtual 224, 3)) (hn : pc + 3 = nx) {K : Sg → Option ζ} (hz : bd (f_X10_atom S) K = some z) (kk : ∀ S', K S' = some z → gW p l e R s m args below meth c D cy ad n A nL mc ms Q S' nx lv st) : gW p l e R s m args below meth c D cy ad n A nL mc ms Q S pc lv (.ref (ad 34) :: st) := by
  obtain ⟨q, hq, hk⟩ := bd_s hz
  exact g_callV C (i := 34) (ci := 10) (Cn := RX10) (T := TX10) (N := 59) (y := yX10_atom) (rm := rm_X10_atom) (As := []) (rest := st) (na := 0) (fun sz => c_X10_atom l D cy ad n S sz  q hq) ha_34 rfl rfl wl_10_224 wi_X10_atom we_X10_atom wz_10 wo_X10_atom (by decide +kernel) rfl rfl hR hcm rfl hrest hn hd (kk q hk)
theorem wl_10_227 : Cond.methodLink RX10 227 yX10_item ∈ wsAll := wA 857 (by decide +kernel) (by decide +kernel)
theorem wi_X10_item : Cond.instanceMethod yX10_item ∈ wsAll := wA 859 (by decide +kernel) (by decide +kernel)
theorem we_X10_item : Cond.selects RX10 yX10_item yX10_item ∈ wsAll := wAp 64 (by decide +kernel) (by decide +kernel)
theorem wo_X10_item : Cond.code yX10_item cX10_item 1 none ∈ wsAll := wA 860 (by decide +kernel) (by decide +kernel)
theorem cl_10_227 {p : Program} {l : Launch} {e : Env} {R : Room} {s : State} {m : MethodId} {args : Array Value} {below : List Frame} {meth : Method} {c : Code} {cc : ByteArray} {nL : Nat} {D : va_G} {cy : Nat → ClassId} {ad : Nat → Nat} {n : Nat} {A : Nat → Prop} {mc ms : Nat} {Q : State → Prop} {S : Sg} {pc : Nat} {lv : List (Nat × Value)} {st : List Value} {ζ : Type} {z : ζ} (C : gC p s m args meth c cc nL RX10 D cy ad n A) (nx : Nat) (hR : Room.frames rm_X10_item + 1 ≤ R.frames ∧ 8 + (1 + 11) + Room.locals rm_X10_item ≤ R.locals) (hcm : mc ≤ R.cells ∧ ms ≤ R.slots) (hrest : (st.map fun v => v.category).sum ≤ 8) (hd : decode cc pc = .ok (.invokevirtual 227, 3)) (hn : pc + 3 = nx) {K : Sg → Option ζ} (hz : bd (f_X10_item S) K = some z) (kk : ∀ S', K S' = some z → gW p l e R s m args below meth c D cy ad n A nL mc ms Q S' nx lv st) : gW p l e R s m args below meth c D cy ad n A nL mc ms Q S pc lv (.ref (ad 34) :: st) := by
  obtain ⟨q, hq, hk⟩ := bd_s hz
  exact g_callV C (i := 34) (ci := 10) (Cn := RX10) (T := TX10) (N := 59) (y := yX10_item) (rm := rm_X10_item) (As := []) (rest := st) (na := 0) (fun sz => c_X10_item l D cy ad n S sz  q hq) ha_34 rfl rfl wl_10_227 wi_X10_item we_X10_item wz_10 wo_X10_item (by decide +kernel) rfl rfl hR hcm rfl hrest hn hd (kk q hk)
set_option maxRecDepth 20000 in
theorem t_X10_part_L304 {p : Program} {l : Launch} {e : Env} {s : State} {m : MethodId} {args : Array Value} {below : List Frame} {meth : Method} {c : Code} {D : va_G} {cy : Nat → ClassId} {ad : Nat → Nat} {n : Nat} {A : Nat → Prop} (C : gC p s m args meth c cX10_part 2 RX10 D cy ad n A) (hr : meth.sig.returnType = none) {z : Sg} : ∀ (S : Sg), f_X10_part_L304 S = some z → gW p l e rm_X10_part s m args below meth c D cy ad n A 2 0 0 (MQ below (gQ D cy ad n A none z) args s 0 0 A) S 304 [(0, .ref (ad 34))] [] := by
  intro  S hz
  unfold f_X10_part_L304 at hz
  refine g_aload_n C 305 0 rfl dX10_part_304 rfl ?_
  refine gf_10_178 C 308 dX10_part_305 rfl ?_
  refine g_if_le C 312 311 dX10_part_308 rfl rfl hz (fun hz => ?_) (fun hz => ?_)
  · refine g_aload_n C 313 0 rfl dX10_part_312 rfl ?_
    refine cl_10_230 C 316 ⟨Nat.le_of_ble_eq_true rfl, Nat.le_of_ble_eq_true rfl⟩ ⟨Nat.zero_le _, Nat.zero_le _⟩ (Nat.le_of_ble_eq_true rfl) dX10_part_313 rfl hz (fun S_6 hz => ?_)
    refine g_aload_n C 317 0 rfl dX10_part_316 rfl ?_
    refine gf_10_24 C 320 dX10_part_317 rfl ?_
    refine g_aload_n C 321 0 rfl dX10_part_320 rfl ?_
    refine gf_10_188 C 324 dX10_part_321 rfl ?_
    refine g_iconst C 325 (1 : Int32) ci_1 dX10_part_324 rfl ?_
    refine g_isub C 326 dX10_part_325 rfl ?_
    refine g_aload_n C 327 0 rfl dX10_part_326 rfl ?_
    refine gf_10_88 C 330 dX10_part_327 rfl ?_
    refine g_iconst C 331 (0 : Int32) ci_0 dX10_part_330 rfl ?_
    refine g_zald C 332 ha_59 dX10_part_331 rfl hz (fun hz => ?_)
    refine g_zast C 333 ha_38 dX10_part_332 rfl hz (fun S_7 hz => ?_)
    refine g_aload_n C 334 0 rfl dX10_part_333 rfl ?_
    refine gf_10_28 C 337 dX10_part_334 rfl ?_
    refine g_aload_n C 338 0 rfl dX10_part_337 rfl ?_
    refine gf_10_188 C 341 dX10_part_338 rfl ?_
    refine g_iconst C 342 (1 : Int32) ci_1 dX10_part_341 rfl ?_
    refine g_isub C 343 dX10_part_342 rfl ?_
    refine g_aload_n C 344 0 rfl dX10_part_343 rfl ?_
    refine gf_10_91 C 347 dX10_part_344 rfl ?_
    refine g_iconst C 348 (0 : Int32) ci_0 dX10_part_347 rfl ?_
    refine g_iald C 349 ha_60 dX10_part_348 rfl hz (fun hz => ?_)
    refine g_iast C 350 ha_39 dX10_part_349 rfl hz (fun S_8 hz => ?_)
    refine g_aload_n C 351 0 rfl dX10_part_350 rfl ?_
    refine gf_10_31 C 354 dX10_part_351 rfl ?_
    refine g_aload_n C 355 0 rfl dX10_part_354 rfl ?_
    refine gf_10_188 C 358 dX10_part_355 rfl ?_
    refine g_iconst C 359 (1 : Int32) ci_1 dX10_part_358 rfl ?_
    refine g_isub C 360 dX10_part_359 rfl ?_
    refine g_aload_n C 361 0 rfl dX10_part_360 rfl ?_
    refine gf_10_94 C 364 dX10_part_361 rfl ?_
    refine g_iconst C 365 (0 : Int32) ci_0 dX10_part_364 rfl ?_
    refine g_iald C 366 ha_61 dX10_part_365 rfl hz (fun hz => ?_)
    refine g_iast C 367 ha_40 dX10_part_366 rfl hz (fun S_9 hz => ?_)
    refine g_aload_n C 368 0 rfl dX10_part_367 rfl ?_
    refine g_aload_n C 369 0 rfl dX10_part_368 rfl ?_
    refine gf_10_188 C 372 dX10_part_369 rfl ?_
    refine g_iconst C 373 (1 : Int32) ci_1 dX10_part_372 rfl ?_
    refine g_isub C 374 dX10_part_373 rfl ?_
    refine cl_10_232 C 377 ⟨Nat.le_of_ble_eq_true rfl, Nat.le_of_ble_eq_true rfl⟩ ⟨Nat.zero_le _, Nat.zero_le _⟩ (Nat.le_of_ble_eq_true rfl) dX10_part_374 rfl hz (fun S_10 hz => ?_)
    exact g_vret C hr dX10_part_377 hz
  · exact g_vret C hr dX10_part_311 hz
set_option maxRecDepth 20000 in
theorem t_X10_part_L250 {p : Program} {l : Launch} {e : Env} {s : State} {m : MethodId} {args : Array Value} {below : List Frame} {meth : Method} {c : Code} {D : va_G} {cy : Nat → ClassId} {ad : Nat → Nat} {n : Nat} {A : Nat → Prop} (C : gC p s m args meth c cX10_part 2 RX10 D cy ad n A) (hr : meth.sig.returnType = none) {z : Sg} {k52 : Int32 → Sg → Option (Sg)} (hk52 : ∀ (x1 : Int32) (S : Sg), k52 x1 S = some z → gW p l e rm_X10_part s m args below meth c D cy ad n A 2 0 0 (MQ below (gQ D cy ad n A none z) args s 0 0 A) S 52 [(0, .ref (ad 34)), (1, .int x1)] []) : ∀ (x1 : Int32) (S : Sg), f_X10_part_L250 k52 x1 S = some z → gW p l e rm_X10_part s m args below meth c D cy ad n A 2 0 0 (MQ below (gQ D cy ad n A none z) args s 0 0 A) S 250 [(0, .ref (ad 34)), (1, .int x1)] [] := by
  intro x1 S hz
  unfold f_X10_part_L250 at hz
  refine g_aload_n C 251 0 rfl dX10_part_250 rfl ?_
  refine g_bipush C 253 (124 : Int32) cb_124 dX10_part_251 rfl ?_
  refine cl_10_174 C 256 ⟨Nat.le_of_ble_eq_true rfl, Nat.le_of_ble_eq_true rfl⟩ ⟨Nat.zero_le _, Nat.zero_le _⟩ (Nat.le_of_ble_eq_true rfl) dX10_part_253 rfl hz (fun r_19 S_18 hz => ?_)
  refine g_if_eq C 276 259 dX10_part_256 rfl rfl hz (fun hz => ?_) (fun hz => ?_)
  · refine g_aload_n C 277 0 rfl dX10_part_276 rfl ?_
    refine cl_10_221 C 280 ⟨Nat.le_of_ble_eq_true rfl, Nat.le_of_ble_eq_true rfl⟩ ⟨Nat.zero_le _, Nat.zero_le _⟩ (Nat.le_of_ble_eq_true rfl) dX10_part_277 rfl hz (fun r_21 S_20 hz => ?_)
    refine g_if_ne C 52 283 dX10_part_280 rfl rfl hz (fun hz => ?_) (fun hz => ?_)
    · exact hk52 x1 S_20 hz
    · refine g_aload_n C 284 0 rfl dX10_part_283 rfl ?_
      refine g_aload_n C 285 0 rfl dX10_part_284 rfl ?_
      refine gf_10_185 C 288 dX10_part_285 rfl ?_
      refine g_if_ne C 295 291 dX10_part_288 rfl rfl hz (fun hz => ?_) (fun hz => ?_)
      · refine g_iconst C 296 (0 : Int32) ci_0 dX10_part_295 rfl ?_
        refine cl_10_205 C 299 ⟨Nat.le_of_ble_eq_true rfl, Nat.le_of_ble_eq_true rfl⟩ ⟨Nat.zero_le _, Nat.zero_le _⟩ (Nat.le_of_ble_eq_true rfl) dX10_part_296 rfl hz (fun S_22 hz => ?_)
        refine g_iconst C 300 (0 : Int32) ci_0 dX10_part_299 rfl ?_
        refine g_istore_n C 301 (i := 1) [1, 0] (fun x1_23 => [(0, .ref (ad 34)), (1, .int x1_23)]) dX10_part_300 rfl rfl (by decide) (fun x1_23 => rfl) hz (fun x1_23 hz => ?_)
        refine g_goto C 52 dX10_part_301 rfl ?_
        exact hk52 x1_23 S_22 hz
      · refine g_iconst C 292 (1 : Int32) ci_1 dX10_part_291 rfl ?_
        refine g_goto C 296 dX10_part_292 rfl ?_
        refine cl_10_205 C 299 ⟨Nat.le_of_ble_eq_true rfl, Nat.le_of_ble_eq_true rfl⟩ ⟨Nat.zero_le _, Nat.zero_le _⟩ (Nat.le_of_ble_eq_true rfl) dX10_part_296 rfl hz (fun S_24 hz => ?_)
        refine g_iconst C 300 (0 : Int32) ci_0 dX10_part_299 rfl ?_
        refine g_istore_n C 301 (i := 1) [1, 0] (fun x1_25 => [(0, .ref (ad 34)), (1, .int x1_25)]) dX10_part_300 rfl rfl (by decide) (fun x1_25 => rfl) hz (fun x1_25 hz => ?_)
        refine g_goto C 52 dX10_part_301 rfl ?_
        exact hk52 x1_25 S_24 hz
  · refine g_aload_n C 260 0 rfl dX10_part_259 rfl ?_
    refine cl_10_230 C 263 ⟨Nat.le_of_ble_eq_true rfl, Nat.le_of_ble_eq_true rfl⟩ ⟨Nat.zero_le _, Nat.zero_le _⟩ (Nat.le_of_ble_eq_true rfl) dX10_part_260 rfl hz (fun S_26 hz => ?_)
    refine g_aload_n C 264 0 rfl dX10_part_263 rfl ?_
    refine g_dup C 265 rfl dX10_part_264 rfl ?_
    refine gf_10_156 C 268 dX10_part_265 rfl ?_
    refine g_iconst C 269 (1 : Int32) ci_1 dX10_part_268 rfl ?_
    refine g_iadd C 270 dX10_part_269 rfl ?_
    refine pf_10_156 C 273 dX10_part_270 rfl hz (fun S_27 hz => ?_)
    refine g_goto C 52 dX10_part_273 rfl ?_
    exact hk52 x1 S_27 hz
set_option maxRecDepth 20000 in
theorem t_X10_part_L157 {p : Program} {l : Launch} {e : Env} {s : State} {m : MethodId} {args : Array Value} {below : List Frame} {meth : Method} {c : Code} {D : va_G} {cy : Nat → ClassId} {ad : Nat → Nat} {n : Nat} {A : Nat → Prop} (C : gC p s m args meth c cX10_part 2 RX10 D cy ad n A) (hr : meth.sig.returnType = none) {z : Sg} {k52 : Int32 → Sg → Option (Sg)} (hk52 : ∀ (x1 : Int32) (S : Sg), k52 x1 S = some z → gW p l e rm_X10_part s m args below meth c D cy ad n A 2 0 0 (MQ below (gQ D cy ad n A none z) args s 0 0 A) S 52 [(0, .ref (ad 34)), (1, .int x1)] []) : ∀ (fl : Nat) (x1 : Int32) (S : Sg), f_X10_part_L157 k52 fl x1 S = some z → gW p l e rm_X10_part s m args below meth c D cy ad n A 2 0 0 (MQ below (gQ D cy ad n A none z) args s 0 0 A) S 157 [(0, .ref (ad 34)), (1, .int x1)] [] := by
  intro fl
  induction fl with
  | zero =>
    intro x1 S hz
    rw [f_X10_part_L157] at hz
    cases hz
  | succ fl ih =>
    intro x1 S hz
    rw [f_X10_part_L157] at hz
    refine g_aload_n C 158 0 rfl dX10_part_157 rfl ?_
    refine gf_10_178 C 161 dX10_part_158 rfl ?_
    refine g_if_ne C 250 164 dX10_part_161 rfl rfl hz (fun hz => ?_) (fun hz => ?_)
    · exact (t_X10_part_L250 C hr hk52) x1 S hz
    · refine g_aload_n C 165 0 rfl dX10_part_164 rfl ?_
      refine gf_10_185 C 168 dX10_part_165 rfl ?_
      refine g_if_le C 250 171 dX10_part_168 rfl rfl hz (fun hz => ?_) (fun hz => ?_)
      · exact (t_X10_part_L250 C hr hk52) x1 S hz
      · refine g_aload_n C 172 0 rfl dX10_part_171 rfl ?_
        refine g_bipush C 174 (41 : Int32) cb_41 dX10_part_172 rfl ?_
        refine cl_10_174 C 177 ⟨Nat.le_of_ble_eq_true rfl, Nat.le_of_ble_eq_true rfl⟩ ⟨Nat.zero_le _, Nat.zero_le _⟩ (Nat.le_of_ble_eq_true rfl) dX10_part_174 rfl hz (fun r_29 S_28 hz => ?_)
        refine g_if_eq C 250 180 dX10_part_177 rfl rfl hz (fun hz => ?_) (fun hz => ?_)
        · exact (t_X10_part_L250 C hr hk52) x1 S_28 hz
        · refine g_aload_n C 181 0 rfl dX10_part_180 rfl ?_
          refine cl_10_230 C 184 ⟨Nat.le_of_ble_eq_true rfl, Nat.le_of_ble_eq_true rfl⟩ ⟨Nat.zero_le _, Nat.zero_le _⟩ (Nat.le_of_ble_eq_true rfl) dX10_part_181 rfl hz (fun S_30 hz => ?_)
          refine g_aload_n C 185 0 rfl dX10_part_184 rfl ?_
          refine g_aload_n C 186 0 rfl dX10_part_185 rfl ?_
          refine gf_10_88 C 189 dX10_part_186 rfl ?_
          refine g_aload_n C 190 0 rfl dX10_part_189 rfl ?_
          refine gf_10_185 C 193 dX10_part_190 rfl ?_
          refine g_zald C 194 ha_59 dX10_part_193 rfl hz (fun hz => ?_)
          refine pf_10_195 C 197 dX10_part_194 rfl hz (fun S_31 hz => ?_)
          refine g_aload_n C 198 0 rfl dX10_part_197 rfl ?_
          refine g_aload_n C 199 0 rfl dX10_part_198 rfl ?_
          refine gf_10_91 C 202 dX10_part_199 rfl ?_
          refine g_aload_n C 203 0 rfl dX10_part_202 rfl ?_
          refine gf_10_185 C 206 dX10_part_203 rfl ?_
          refine g_iald C 207 ha_60 dX10_part_206 rfl hz (fun hz => ?_)
          refine pf_10_199 C 210 dX10_part_207 rfl hz (fun S_32 hz => ?_)
          refine g_aload_n C 211 0 rfl dX10_part_210 rfl ?_
          refine g_aload_n C 212 0 rfl dX10_part_211 rfl ?_
          refine gf_10_94 C 215 dX10_part_212 rfl ?_
          refine g_aload_n C 216 0 rfl dX10_part_215 rfl ?_
          refine gf_10_185 C 219 dX10_part_216 rfl ?_
          refine g_iald C 220 ha_61 dX10_part_219 rfl hz (fun hz => ?_)
          refine pf_10_202 C 223 dX10_part_220 rfl hz (fun S_33 hz => ?_)
          refine g_aload_n C 224 0 rfl dX10_part_223 rfl ?_
          refine g_dup C 225 rfl dX10_part_224 rfl ?_
          refine gf_10_185 C 228 dX10_part_225 rfl ?_
          refine g_iconst C 229 (1 : Int32) ci_1 dX10_part_228 rfl ?_
          refine g_isub C 230 dX10_part_229 rfl ?_
          refine pf_10_185 C 233 dX10_part_230 rfl hz (fun S_34 hz => ?_)
          refine g_aload_n C 234 0 rfl dX10_part_233 rfl ?_
          refine g_dup C 235 rfl dX10_part_234 rfl ?_
          refine gf_10_156 C 238 dX10_part_235 rfl ?_
          refine g_iconst C 239 (1 : Int32) ci_1 dX10_part_238 rfl ?_
          refine g_iadd C 240 dX10_part_239 rfl ?_
          refine pf_10_156 C 243 dX10_part_240 rfl hz (fun S_35 hz => ?_)
          refine g_aload_n C 244 0 rfl dX10_part_243 rfl ?_
          refine cl_10_227 C 247 ⟨Nat.le_of_ble_eq_true rfl, Nat.le_of_ble_eq_true rfl⟩ ⟨Nat.zero_le _, Nat.zero_le _⟩ (Nat.le_of_ble_eq_true rfl) dX10_part_244 rfl hz (fun S_36 hz => ?_)
          refine g_goto C 157 dX10_part_247 rfl ?_
          exact ih x1 S_36 hz
set_option maxRecDepth 20000 in
theorem t_X10_part_L106 {p : Program} {l : Launch} {e : Env} {s : State} {m : MethodId} {args : Array Value} {below : List Frame} {meth : Method} {c : Code} {D : va_G} {cy : Nat → ClassId} {ad : Nat → Nat} {n : Nat} {A : Nat → Prop} (C : gC p s m args meth c cX10_part 2 RX10 D cy ad n A) (hr : meth.sig.returnType = none) {z : Sg} {k52 : Int32 → Sg → Option (Sg)} (hk52 : ∀ (x1 : Int32) (S : Sg), k52 x1 S = some z → gW p l e rm_X10_part s m args below meth c D cy ad n A 2 0 0 (MQ below (gQ D cy ad n A none z) args s 0 0 A) S 52 [(0, .ref (ad 34)), (1, .int x1)] []) : ∀ (x1 : Int32) (S : Sg), f_X10_part_L106 k52 x1 S = some z → gW p l e rm_X10_part s m args below meth c D cy ad n A 2 0 0 (MQ below (gQ D cy ad n A none z) args s 0 0 A) S 106 [(0, .ref (ad 34)), (1, .int x1)] [] := by
  intro x1 S hz
  unfold f_X10_part_L106 at hz
  refine g_aload_n C 107 0 rfl dX10_part_106 rfl ?_
  refine gf_10_178 C 110 dX10_part_107 rfl ?_
  refine g_if_le C 114 113 dX10_part_110 rfl rfl hz (fun hz => ?_) (fun hz => ?_)
  · refine g_aload_n C 115 0 rfl dX10_part_114 rfl ?_
    refine g_dup C 116 rfl dX10_part_115 rfl ?_
    refine gf_10_185 C 119 dX10_part_116 rfl ?_
    refine g_iconst C 120 (1 : Int32) ci_1 dX10_part_119 rfl ?_
    refine g_iadd C 121 dX10_part_120 rfl ?_
    refine pf_10_185 C 124 dX10_part_121 rfl hz (fun S_37 hz => ?_)
    refine g_aload_n C 125 0 rfl dX10_part_124 rfl ?_
    refine cl_10_218 C 128 ⟨Nat.le_of_ble_eq_true rfl, Nat.le_of_ble_eq_true rfl⟩ ⟨Nat.zero_le _, Nat.zero_le _⟩ (Nat.le_of_ble_eq_true rfl) dX10_part_125 rfl hz (fun S_38 hz => ?_)
    refine g_aload_n C 129 0 rfl dX10_part_128 rfl ?_
    refine g_dup C 130 rfl dX10_part_129 rfl ?_
    refine gf_10_156 C 133 dX10_part_130 rfl ?_
    refine g_iconst C 134 (1 : Int32) ci_1 dX10_part_133 rfl ?_
    refine g_iadd C 135 dX10_part_134 rfl ?_
    refine pf_10_156 C 138 dX10_part_135 rfl hz (fun S_39 hz => ?_)
    refine g_goto C 52 dX10_part_138 rfl ?_
    exact hk52 x1 S_39 hz
  · exact g_vret C hr dX10_part_113 hz
set_option maxRecDepth 20000 in
theorem t_X10_part_L52 {p : Program} {l : Launch} {e : Env} {s : State} {m : MethodId} {args : Array Value} {below : List Frame} {meth : Method} {c : Code} {D : va_G} {cy : Nat → ClassId} {ad : Nat → Nat} {n : Nat} {A : Nat → Prop} (C : gC p s m args meth c cX10_part 2 RX10 D cy ad n A) (hr : meth.sig.returnType = none) {z : Sg} : ∀ (fl : Nat) (x1 : Int32) (S : Sg), f_X10_part_L52 fl x1 S = some z → gW p l e rm_X10_part s m args below meth c D cy ad n A 2 0 0 (MQ below (gQ D cy ad n A none z) args s 0 0 A) S 52 [(0, .ref (ad 34)), (1, .int x1)] [] := by
  intro fl
  induction fl with
  | zero =>
    intro x1 S hz
    rw [f_X10_part_L52] at hz
    cases hz
  | succ fl ih =>
    intro x1 S hz
    rw [f_X10_part_L52] at hz
    refine g_iload_n C 53 1 rfl dX10_part_52 rfl ?_
    refine g_if_eq C 304 56 dX10_part_53 rfl rfl hz (fun hz => ?_) (fun hz => ?_)
    · refine g_lv [0] rfl ?_
      exact (t_X10_part_L304 C hr) S hz
    · refine g_aload_n C 57 0 rfl dX10_part_56 rfl ?_
      refine gf_10_178 C 60 dX10_part_57 rfl ?_
      refine g_if_ne C 304 63 dX10_part_60 rfl rfl hz (fun hz => ?_) (fun hz => ?_)
      · refine g_lv [0] rfl ?_
        exact (t_X10_part_L304 C hr) S hz
      · refine g_aload_n C 64 0 rfl dX10_part_63 rfl ?_
        refine g_aload_n C 65 0 rfl dX10_part_64 rfl ?_
        refine cl_10_221 C 68 ⟨Nat.le_of_ble_eq_true rfl, Nat.le_of_ble_eq_true rfl⟩ ⟨Nat.zero_le _, Nat.zero_le _⟩ (Nat.le_of_ble_eq_true rfl) dX10_part_65 rfl hz (fun r_12 S_11 hz => ?_)
        refine cl_10_205 C 71 ⟨Nat.le_of_ble_eq_true rfl, Nat.le_of_ble_eq_true rfl⟩ ⟨Nat.zero_le _, Nat.zero_le _⟩ (Nat.le_of_ble_eq_true rfl) dX10_part_68 rfl hz (fun S_13 hz => ?_)
        refine g_aload_n C 72 0 rfl dX10_part_71 rfl ?_
        refine gf_10_178 C 75 dX10_part_72 rfl ?_
        refine g_if_le C 79 78 dX10_part_75 rfl rfl hz (fun hz => ?_) (fun hz => ?_)
        · refine g_aload_n C 80 0 rfl dX10_part_79 rfl ?_
          refine g_bipush C 82 (40 : Int32) cb_40 dX10_part_80 rfl ?_
          refine cl_10_174 C 85 ⟨Nat.le_of_ble_eq_true rfl, Nat.le_of_ble_eq_true rfl⟩ ⟨Nat.zero_le _, Nat.zero_le _⟩ (Nat.le_of_ble_eq_true rfl) dX10_part_82 rfl hz (fun r_15 S_14 hz => ?_)
          refine g_if_eq C 141 88 dX10_part_85 rfl rfl hz (fun hz => ?_) (fun hz => ?_)
          · refine g_aload_n C 142 0 rfl dX10_part_141 rfl ?_
            refine cl_10_224 C 145 ⟨Nat.le_of_ble_eq_true rfl, Nat.le_of_ble_eq_true rfl⟩ ⟨Nat.zero_le _, Nat.zero_le _⟩ (Nat.le_of_ble_eq_true rfl) dX10_part_142 rfl hz (fun S_16 hz => ?_)
            refine g_aload_n C 146 0 rfl dX10_part_145 rfl ?_
            refine gf_10_178 C 149 dX10_part_146 rfl ?_
            refine g_if_le C 153 152 dX10_part_149 rfl rfl hz (fun hz => ?_) (fun hz => ?_)
            · refine g_aload_n C 154 0 rfl dX10_part_153 rfl ?_
              refine cl_10_227 C 157 ⟨Nat.le_of_ble_eq_true rfl, Nat.le_of_ble_eq_true rfl⟩ ⟨Nat.zero_le _, Nat.zero_le _⟩ (Nat.le_of_ble_eq_true rfl) dX10_part_154 rfl hz (fun S_17 hz => ?_)
              exact (t_X10_part_L157 C hr ih fu) x1 S_17 hz
            · exact g_vret C hr dX10_part_152 hz
          · refine g_aload_n C 89 0 rfl dX10_part_88 rfl ?_
            refine gf_10_185 C 92 dX10_part_89 rfl ?_
            refine g_bipush C 94 (10 : Int32) cb_10 dX10_part_92 rfl ?_
            refine g_icmp_ne C 106 97 dX10_part_94 rfl rfl hz (fun hz => ?_) (fun hz => ?_)
            · exact (t_X10_part_L106 C hr ih) x1 S_14 hz
            · refine g_aload_n C 98 0 rfl dX10_part_97 rfl ?_
              refine g_iconst C 99 (2 : Int32) ci_2 dX10_part_98 rfl ?_
              refine g_aload_n C 100 0 rfl dX10_part_99 rfl ?_
              refine gf_10_156 C 103 dX10_part_100 rfl ?_
              refine cl_10_181 C 106 ⟨Nat.le_of_ble_eq_true rfl, Nat.le_of_ble_eq_true rfl⟩ ⟨Nat.zero_le _, Nat.zero_le _⟩ (Nat.le_of_ble_eq_true rfl) dX10_part_103 rfl hz (fun S_40 hz => ?_)
              exact (t_X10_part_L106 C hr ih) x1 S_40 hz
        · exact g_vret C hr dX10_part_78 hz
set_option maxRecDepth 20000 in
theorem t_X10_part {p : Program} {l : Launch} {e : Env} {s : State} {m : MethodId} {args : Array Value} {below : List Frame} {meth : Method} {c : Code} {D : va_G} {cy : Nat → ClassId} {ad : Nat → Nat} {n : Nat} {A : Nat → Prop} (C : gC p s m args meth c cX10_part 2 RX10 D cy ad n A) (hr : meth.sig.returnType = none) {z : Sg} {S : Sg} (hz : f_X10_part S = some z) : gW p l e rm_X10_part s m args below meth c D cy ad n A 2 0 0 (MQ below (gQ D cy ad n A none z) args s 0 0 A) S 0 [(0, .ref (ad 34))] [] := by
  unfold f_X10_part at hz
  refine g_aload_n C 1 0 rfl dX10_part_0 rfl ?_
  refine gf_10_188 C 4 dX10_part_1 rfl ?_
  refine g_bipush C 6 (6 : Int32) cb_6 dX10_part_4 rfl ?_
  refine g_icmp_ne C 19 9 dX10_part_6 rfl rfl hz (fun hz => ?_) (fun hz => ?_)
  · refine g_aload_n C 20 0 rfl dX10_part_19 rfl ?_
    refine g_dup C 21 rfl dX10_part_20 rfl ?_
    refine gf_10_188 C 24 dX10_part_21 rfl ?_
    refine g_iconst C 25 (1 : Int32) ci_1 dX10_part_24 rfl ?_
    refine g_iadd C 26 dX10_part_25 rfl ?_
    refine pf_10_188 C 29 dX10_part_26 rfl hz (fun S_1 hz => ?_)
    refine g_aload_n C 30 0 rfl dX10_part_29 rfl ?_
    refine gf_10_20 C 33 dX10_part_30 rfl ?_
    refine g_aload_n C 34 0 rfl dX10_part_33 rfl ?_
    refine gf_10_188 C 37 dX10_part_34 rfl ?_
    refine g_iconst C 38 (1 : Int32) ci_1 dX10_part_37 rfl ?_
    refine g_isub C 39 dX10_part_38 rfl ?_
    refine g_iconst C 40 (0 : Int32) ci_0 dX10_part_39 rfl ?_
    refine g_iast C 41 ha_37 dX10_part_40 rfl hz (fun S_2 hz => ?_)
    refine g_aload_n C 42 0 rfl dX10_part_41 rfl ?_
    refine g_iconst C 43 (0 : Int32) ci_0 dX10_part_42 rfl ?_
    refine pf_10_185 C 46 dX10_part_43 rfl hz (fun S_3 hz => ?_)
    refine g_aload_n C 47 0 rfl dX10_part_46 rfl ?_
    refine cl_10_218 C 50 ⟨Nat.le_of_ble_eq_true rfl, Nat.le_of_ble_eq_true rfl⟩ ⟨Nat.zero_le _, Nat.zero_le _⟩ (Nat.le_of_ble_eq_true rfl) dX10_part_47 rfl hz (fun S_4 hz => ?_)
    refine g_iconst C 51 (1 : Int32) ci_1 dX10_part_50 rfl ?_
    refine g_istore_n C 52 (i := 1) [1, 0] (fun x1_5 => [(0, .ref (ad 34)), (1, .int x1_5)]) dX10_part_51 rfl rfl (by decide) (fun x1_5 => rfl) hz (fun x1_5 hz => ?_)
    exact (t_X10_part_L52 C hr fu) x1_5 S_4 hz
  · refine g_aload_n C 10 0 rfl dX10_part_9 rfl ?_
    refine g_iconst C 11 (2 : Int32) ci_2 dX10_part_10 rfl ?_
    refine g_aload_n C 12 0 rfl dX10_part_11 rfl ?_
    refine gf_10_156 C 15 dX10_part_12 rfl ?_
    refine cl_10_181 C 18 ⟨Nat.le_of_ble_eq_true rfl, Nat.le_of_ble_eq_true rfl⟩ ⟨Nat.zero_le _, Nat.zero_le _⟩ (Nat.le_of_ble_eq_true rfl) dX10_part_15 rfl hz (fun S_41 hz => ?_)
    exact g_vret C hr dX10_part_18 hz
theorem c_X10_part (l : Launch) (D : va_G) (cy : Nat → ClassId) (ad : Nat → Nat) (n : Nat) (S : Sg) (sz : Nat) (z : Sg) (hz : f_X10_part S = some z) : Met l yX10_part (.code yX10_part cX10_part 2 none :: wsAll) rm_X10_part (gPc D cy ad n S sz [.ref (ad 34)]) (gQ D cy ad n (va_A (wW cy ad n S) sz) none z) 0 0 (va_A (wW cy ad n S) sz) := by
  refine gMet (lv := [(0, .ref (ad 34))]) (by decide) (Nat.le_of_ble_eq_true rfl) rfl ?_
  intro p e s m args below meth c A hA hr C
  exact t_X10_part C hr hz
