def rm_X9_words : Room := { frames := 2, cells := 0, slots := 0, locals := 49 }
theorem wc_9_146 : Cond.constantLong RX9 146 (-1) ∈ wsAll := wA 540 (by decide +kernel) (by decide +kernel)
theorem wl_9_148 : Cond.methodLinkNest RX9 148 yX0_count "WordMachines" ∈ tables_1 := List.mem_of_getElem? (i := 541) (by decide +kernel)
theorem wi_X0_count : Cond.instanceMethod yX0_count ∈ wsAll := wA 543 (by decide +kernel) (by decide +kernel)
theorem we_X0_count : Cond.selects RX0 yX0_count yX0_count ∈ wsAll := wAp 40 (by decide +kernel) (by decide +kernel)
theorem wo_X0_count : Cond.code yX0_count cX0_count 8 none ∈ wsAll := wA 544 (by decide +kernel) (by decide +kernel)
theorem cl_9_148 {p : Program} {l : Launch} {e : Env} {R : Room} {s : State} {m : MethodId} {args : Array Value} {below : List Frame} {meth : Method} {c : Code} {cc : ByteArray} {nL : Nat} {D : va_G} {cy : Nat → ClassId} {ad : Nat → Nat} {n : Nat} {A : Nat → Prop} {mc ms : Nat} {Q : State → Prop} {S : Sg} {pc : Nat} {lv : List (Nat × Value)} {st : List Value} {ζ : Type} {z : ζ} (C : gC p s m args meth c cc nL RX9 D cy ad n A) (nx : Nat) {i1 : Nat} {x2 : Int32} (h_i1 : okM n i1 = true) (hR : Room.frames rm_X0_count + 1 ≤ R.frames ∧ 8 + (8 + 11) + Room.locals rm_X0_count ≤ R.locals) (hcm : mc ≤ R.cells ∧ ms ≤ R.slots) (hrest : (st.map fun v => v.category).sum ≤ 8) (hd : decode cc pc = .ok (.invokevirtual 148, 3)) (hn : pc + 3 = nx) {K : Sg → Option ζ} (hz : bd (f_X0_count i1 x2 S) K = some z) (kk : ∀ S', K S' = some z → gW p l e R s m args below meth c D cy ad n A nL mc ms Q S' nx lv st) : gW p l e R s m args below meth c D cy ad n A nL mc ms Q S pc lv (.int x2 :: .ref (ad i1) :: .ref (ad 22) :: st) := by
  obtain ⟨q, hq, hk⟩ := bd_s hz
  exact g_callVN C (i := 22) (ci := 0) (Cn := RX0) (T := TX0) (N := 1) (y := yX0_count) (rm := rm_X0_count) (As := [.ref (ad i1), .int x2]) (rest := st) (na := 2) (fun sz => c_X0_count l D cy ad n S sz i1 x2 q h_i1 hq) ha_22 rfl rfl wl_9_148 wi_X0_count we_X0_count wz_0 wo_X0_count (by decide +kernel) rfl rfl hR hcm rfl hrest hn hd (kk q hk)
theorem wl_9_152 : Cond.methodLinkNest RX9 152 yX0_behind "WordMachines" ∈ tables_1 := List.mem_of_getElem? (i := 549) (by decide +kernel)
theorem cl_9_152 {p : Program} {l : Launch} {e : Env} {R : Room} {s : State} {m : MethodId} {args : Array Value} {below : List Frame} {meth : Method} {c : Code} {cc : ByteArray} {nL : Nat} {D : va_G} {cy : Nat → ClassId} {ad : Nat → Nat} {n : Nat} {A : Nat → Prop} {mc ms : Nat} {Q : State → Prop} {S : Sg} {pc : Nat} {lv : List (Nat × Value)} {st : List Value} {ζ : Type} {z : ζ} (C : gC p s m args meth c cc nL RX9 D cy ad n A) (nx : Nat) {x1 : Int32} {x2 : Int32} (hR : Room.frames rm_X0_behind + 1 ≤ R.frames ∧ 8 + (3 + 11) + Room.locals rm_X0_behind ≤ R.locals) (hcm : mc ≤ R.cells ∧ ms ≤ R.slots) (hrest : (st.map fun v => v.category).sum ≤ 8) (hd : decode cc pc = .ok (.invokevirtual 152, 3)) (hn : pc + 3 = nx) {K : Int64 → Sg → Option ζ} (hz : bd2 (f_X0_behind x1 x2 S) K = some z) (kk : ∀ r S', K r S' = some z → gW p l e R s m args below meth c D cy ad n A nL mc ms Q S' nx lv (.long r :: st)) : gW p l e R s m args below meth c D cy ad n A nL mc ms Q S pc lv (.int x2 :: .int x1 :: .ref (ad 22) :: st) := by
  obtain ⟨q, hq, hk⟩ := bd2_s hz
  exact g_callVN C (i := 22) (ci := 0) (Cn := RX0) (T := TX0) (N := 1) (y := yX0_behind) (rm := rm_X0_behind) (As := [.int x1, .int x2]) (rest := st) (na := 2) (fun sz => c_X0_behind l D cy ad n S sz x1 x2 q hq) ha_22 rfl rfl wl_9_152 wi_X0_behind we_X0_behind wz_0 wo_X0_behind (by decide +kernel) rfl rfl hR hcm rfl hrest hn hd (kk q.1 q.2 hk)
set_option maxRecDepth 20000 in
theorem t_X9_words {p : Program} {l : Launch} {e : Env} {s : State} {m : MethodId} {args : Array Value} {below : List Frame} {meth : Method} {c : Code} {D : va_G} {cy : Nat → ClassId} {ad : Nat → Nat} {n : Nat} {A : Nat → Prop} (C : gC p s m args meth c cX9_words 4 RX9 D cy ad n A) (hr : meth.sig.returnType = (some .long)) {z : Int64 × Sg} {S : Sg} {x1 : Int32} {x2 : Int32} (hz : f_X9_words n x1 x2 S = some z) : gW p l e rm_X9_words s m args below meth c D cy ad n A 4 0 0 (MQ below (gQ D cy ad n A (some (.long z.1)) z.2) args s 0 0 A) S 0 [(0, .ref (ad 0)), (1, .int x1), (2, .int x2)] [] := by
  unfold f_X9_words at hz
  refine g_aload_n C 1 0 rfl dX9_words_0 rfl ?_
  refine g_iload_n C 2 1 rfl dX9_words_1 rfl ?_
  refine cl_9_106 C 5 ⟨Nat.le_of_ble_eq_true rfl, Nat.le_of_ble_eq_true rfl⟩ ⟨Nat.zero_le _, Nat.zero_le _⟩ (Nat.le_of_ble_eq_true rfl) dX9_words_2 rfl hz (fun r_2 S_1 hz => ?_)
  refine g_astoreN_n C 6 (i := 3) [1, 3, 0] [(0, .ref (ad 0)), (2, .int x2), (3, rv ad r_2)] dX9_words_5 rfl rfl (by decide) rfl ?_
  refine g_aloadN_n C 7 2 rfl dX9_words_6 rfl ?_
  refine g_ifnull C 20 10 dX9_words_7 rfl rfl hz (fun e_r hz_i_3 => ?_) (fun i_3 e_r h_i_3 hz_i_3 => ?_)
  · subst e_r; have hz := hz_i_3
    try rw [rv_none]
    refine g_ldc2 C 23 wc_9_146 dX9_words_20 rfl ?_
    exact g_lret C hr dX9_words_23 hz
  · subst e_r; have hz := hz_i_3
    try rw [rv_some]
    refine g_iload_n C 11 1 rfl dX9_words_10 rfl ?_
    refine g_if_lt C 20 14 dX9_words_11 rfl rfl hz (fun hz => ?_) (fun hz => ?_)
    · refine g_ldc2 C 23 wc_9_146 dX9_words_20 rfl ?_
      exact g_lret C hr dX9_words_23 hz
    · refine g_iload_n C 15 1 rfl dX9_words_14 rfl ?_
      refine g_bipush C 17 (28 : Int32) cb_28 dX9_words_15 rfl ?_
      refine g_icmp_le C 24 20 dX9_words_17 rfl rfl hz (fun hz => ?_) (fun hz => ?_)
      · refine g_aload_n C 25 0 rfl dX9_words_24 rfl ?_
        refine gf_9_51 C 28 dX9_words_25 rfl ?_
        refine g_aload_n C 29 2 rfl dX9_words_28 rfl ?_
        refine g_iload_n C 30 1 rfl dX9_words_29 rfl ?_
        refine cl_9_148 C 33 h_i_3 ⟨Nat.le_of_ble_eq_true rfl, Nat.le_of_ble_eq_true rfl⟩ ⟨Nat.zero_le _, Nat.zero_le _⟩ (Nat.le_of_ble_eq_true rfl) dX9_words_30 rfl hz (fun S_4 hz => ?_)
        refine g_aload_n C 34 0 rfl dX9_words_33 rfl ?_
        refine gf_9_51 C 37 dX9_words_34 rfl ?_
        refine g_iconst C 38 (0 : Int32) ci_0 dX9_words_37 rfl ?_
        refine g_iload_n C 39 1 rfl dX9_words_38 rfl ?_
        refine cl_9_152 C 42 ⟨Nat.le_of_ble_eq_true rfl, Nat.le_of_ble_eq_true rfl⟩ ⟨Nat.zero_le _, Nat.zero_le _⟩ (Nat.le_of_ble_eq_true rfl) dX9_words_39 rfl hz (fun r_6 S_5 hz => ?_)
        exact g_lret C hr dX9_words_42 hz
      · refine g_ldc2 C 23 wc_9_146 dX9_words_20 rfl ?_
        exact g_lret C hr dX9_words_23 hz
theorem c_X9_words (l : Launch) (D : va_G) (cy : Nat → ClassId) (ad : Nat → Nat) (n : Nat) (S : Sg) (sz : Nat) (x1 : Int32) (x2 : Int32) (z : Int64 × Sg) (hz : f_X9_words n x1 x2 S = some z) : Met l yX9_words (.code yX9_words cX9_words 4 (some .long) :: wsAll) rm_X9_words (gPc D cy ad n S sz [.ref (ad 0), .int x1, .int x2]) (gQ D cy ad n (va_A (wW cy ad n S) sz) (some (.long z.1)) z.2) 0 0 (va_A (wW cy ad n S) sz) := by
  refine gMet (lv := [(0, .ref (ad 0)), (1, .int x1), (2, .int x2)]) (by decide) (Nat.le_of_ble_eq_true rfl) rfl ?_
  intro p e s m args below meth c A hA hr C
  exact t_X9_words C hr hz
def rm_X0_tellWord : Room := { frames := 1, cells := 0, slots := 0, locals := 22 }
set_option maxRecDepth 20000 in
theorem t_X0_tellWord_L90 {p : Program} {l : Launch} {e : Env} {s : State} {m : MethodId} {args : Array Value} {below : List Frame} {meth : Method} {c : Code} {D : va_G} {cy : Nat → ClassId} {ad : Nat → Nat} {n : Nat} {A : Nat → Prop} (C : gC p s m args meth c cX0_tellWord 13 RX0 D cy ad n A) (hr : meth.sig.returnType = none) {z : Sg} {k9 : Nat → Int32 → Int64 → Int32 → Int32 → Sg → Option (Sg)} (hk9 : ∀ (i1 : Nat) (x2 : Int32) (x6 : Int64) (x8 : Int32) (x9 : Int32) (S : Sg), okM n i1 = true → k9 i1 x2 x6 x8 x9 S = some z → gW p l e rm_X0_tellWord s m args below meth c D cy ad n A 13 0 0 (MQ below (gQ D cy ad n A none z) args s 0 0 A) S 9 [(0, .ref (ad 22)), (1, .ref (ad i1)), (2, .int x2), (5, .ref (ad 32)), (6, .long x6), (8, .int x8), (9, .int x9)] []) : ∀ (i1 : Nat) (x2 : Int32) (x6 : Int64) (x8 : Int32) (x9 : Int32) (x10 : Int32) (S : Sg), okM n i1 = true → f_X0_tellWord_L90 k9 i1 x2 x6 x8 x9 x10 S = some z → gW p l e rm_X0_tellWord s m args below meth c D cy ad n A 13 0 0 (MQ below (gQ D cy ad n A none z) args s 0 0 A) S 90 [(0, .ref (ad 22)), (1, .ref (ad i1)), (2, .int x2), (5, .ref (ad 32)), (6, .long x6), (8, .int x8), (9, .int x9), (10, .int x10)] [] := by
  intro i1 x2 x6 x8 x9 x10 S h_i1 hz
  unfold f_X0_tellWord_L90 at hz
  refine g_aload C 92 3 rfl dX0_tellWord_90 rfl ?_
  refine gf_0_33 C 95 dX0_tellWord_92 rfl ?_
  refine g_iload C 97 6 rfl dX0_tellWord_95 rfl ?_
  refine g_iload C 99 7 rfl dX0_tellWord_97 rfl ?_
  refine g_iast C 100 ha_33 dX0_tellWord_99 rfl hz (fun S_9 hz => ?_)
  refine g_aload_n C 101 1 rfl dX0_tellWord_100 rfl ?_
  refine gf_0_25 C 104 h_i1 dX0_tellWord_101 rfl ?_
  refine g_iload C 106 5 rfl dX0_tellWord_104 rfl ?_
  refine g_iconst C 107 (4 : Int32) ci_4 dX0_tellWord_106 rfl ?_
  refine g_imul C 108 dX0_tellWord_107 rfl ?_
  refine g_iload C 110 7 rfl dX0_tellWord_108 rfl ?_
  refine g_iadd C 111 dX0_tellWord_110 rfl ?_
  refine g_iald C 112 (has_m h_i1 1 (by decide)) dX0_tellWord_111 rfl hz (fun hz => ?_)
  refine g_istore C 114 (i := 8) [1, 2, 3, 4, 5, 0, 6] (fun x8_10 => [(0, .ref (ad 22)), (1, .ref (ad i1)), (2, .int x2), (5, .ref (ad 32)), (6, .long x6), (8, .int x8_10), (9, .int x9)]) dX0_tellWord_112 rfl (by decide) (fun x8_10 => rfl) hz (fun x8_10 hz => ?_)
  refine g_iinc C 117 6 [1, 2, 3, 4, 5, 6, 0] (1 : Int32) ci_1 (fun x9_11 => [(0, .ref (ad 22)), (1, .ref (ad i1)), (2, .int x2), (5, .ref (ad 32)), (6, .long x6), (8, .int x8_10), (9, .int x9_11)]) dX0_tellWord_114 rfl rfl (by decide) (fun x9_11 => rfl) hz (fun x9_11 hz => ?_)
  refine g_goto C 9 dX0_tellWord_117 rfl ?_
  exact hk9 i1 x2 x6 x8_10 x9_11 S_9 h_i1 hz
set_option maxRecDepth 20000 in
theorem t_X0_tellWord_L39 {p : Program} {l : Launch} {e : Env} {s : State} {m : MethodId} {args : Array Value} {below : List Frame} {meth : Method} {c : Code} {D : va_G} {cy : Nat → ClassId} {ad : Nat → Nat} {n : Nat} {A : Nat → Prop} (C : gC p s m args meth c cX0_tellWord 13 RX0 D cy ad n A) (hr : meth.sig.returnType = none) {z : Sg} {k9 : Nat → Int32 → Int64 → Int32 → Int32 → Sg → Option (Sg)} (hk9 : ∀ (i1 : Nat) (x2 : Int32) (x6 : Int64) (x8 : Int32) (x9 : Int32) (S : Sg), okM n i1 = true → k9 i1 x2 x6 x8 x9 S = some z → gW p l e rm_X0_tellWord s m args below meth c D cy ad n A 13 0 0 (MQ below (gQ D cy ad n A none z) args s 0 0 A) S 9 [(0, .ref (ad 22)), (1, .ref (ad i1)), (2, .int x2), (5, .ref (ad 32)), (6, .long x6), (8, .int x8), (9, .int x9)] []) : ∀ (fl : Nat) (i1 : Nat) (x2 : Int32) (x6 : Int64) (x8 : Int32) (x9 : Int32) (x10 : Int32) (x11 : Int64) (S : Sg), okM n i1 = true → f_X0_tellWord_L39 k9 fl i1 x2 x6 x8 x9 x10 x11 S = some z → gW p l e rm_X0_tellWord s m args below meth c D cy ad n A 13 0 0 (MQ below (gQ D cy ad n A none z) args s 0 0 A) S 39 [(0, .ref (ad 22)), (1, .ref (ad i1)), (2, .int x2), (5, .ref (ad 32)), (6, .long x6), (8, .int x8), (9, .int x9), (10, .int x10), (11, .long x11)] [] := by
  intro fl
  induction fl with
  | zero =>
    intro i1 x2 x6 x8 x9 x10 x11 S h_i1 hz
    rw [f_X0_tellWord_L39] at hz
    cases hz
  | succ fl ih =>
    intro i1 x2 x6 x8 x9 x10 x11 S h_i1 hz
    rw [f_X0_tellWord_L39] at hz
    refine g_iload C 41 7 rfl dX0_tellWord_39 rfl ?_
    refine g_iconst C 42 (3 : Int32) ci_3 dX0_tellWord_41 rfl ?_
    refine g_icmp_ge C 90 45 dX0_tellWord_42 rfl rfl hz (fun hz => ?_) (fun hz => ?_)
    · refine g_lv [0, 1, 2, 3, 4, 5, 6, 7] rfl ?_
      exact (t_X0_tellWord_L90 C hr hk9) i1 x2 x6 x8 x9 x10 S h_i1 hz
    · refine g_lload C 47 4 rfl dX0_tellWord_45 rfl ?_
      refine g_lload C 49 8 rfl dX0_tellWord_47 rfl ?_
      refine g_lcmp C 50 dX0_tellWord_49 rfl ?_
      refine g_if_lt C 90 53 dX0_tellWord_50 rfl rfl hz (fun hz => ?_) (fun hz => ?_)
      · refine g_lv [0, 1, 2, 3, 4, 5, 6, 7] rfl ?_
        exact (t_X0_tellWord_L90 C hr hk9) i1 x2 x6 x8 x9 x10 S h_i1 hz
      · refine g_lload C 55 4 rfl dX0_tellWord_53 rfl ?_
        refine g_lload C 57 8 rfl dX0_tellWord_55 rfl ?_
        refine g_lsub C 58 dX0_tellWord_57 rfl ?_
        refine g_lstore C 60 (i := 6) [1, 2, 3, 4, 0, 5, 6, 7] (fun x6_12 => [(0, .ref (ad 22)), (1, .ref (ad i1)), (2, .int x2), (5, .ref (ad 32)), (6, .long x6_12), (8, .int x8), (9, .int x9), (10, .int x10)]) dX0_tellWord_58 rfl (by decide) (fun x6_12 => rfl) hz (fun x6_12 hz => ?_)
        refine g_iinc C 63 7 [1, 2, 3, 4, 5, 6, 7, 0] (1 : Int32) ci_1 (fun x10_13 => [(0, .ref (ad 22)), (1, .ref (ad i1)), (2, .int x2), (5, .ref (ad 32)), (6, .long x6_12), (8, .int x8), (9, .int x9), (10, .int x10_13)]) dX0_tellWord_60 rfl rfl (by decide) (fun x10_13 => rfl) hz (fun x10_13 hz => ?_)
        refine g_aload_n C 64 0 rfl dX0_tellWord_63 rfl ?_
        refine g_aload_n C 65 1 rfl dX0_tellWord_64 rfl ?_
        refine gf_0_25 C 68 h_i1 dX0_tellWord_65 rfl ?_
        refine g_iload C 70 5 rfl dX0_tellWord_68 rfl ?_
        refine g_iconst C 71 (4 : Int32) ci_4 dX0_tellWord_70 rfl ?_
        refine g_imul C 72 dX0_tellWord_71 rfl ?_
        refine g_iload C 74 7 rfl dX0_tellWord_72 rfl ?_
        refine g_iadd C 75 dX0_tellWord_74 rfl ?_
        refine g_iald C 76 (has_m h_i1 1 (by decide)) dX0_tellWord_75 rfl hz (fun hz => ?_)
        refine g_iload_n C 77 2 rfl dX0_tellWord_76 rfl ?_
        refine g_iconst C 78 (1 : Int32) ci_1 dX0_tellWord_77 rfl ?_
        refine g_isub C 79 dX0_tellWord_78 rfl ?_
        refine g_iload C 81 6 rfl dX0_tellWord_79 rfl ?_
        refine g_isub C 82 dX0_tellWord_81 rfl ?_
        refine cl_0_29 C 85 ⟨Nat.le_of_ble_eq_true rfl, Nat.le_of_ble_eq_true rfl⟩ ⟨Nat.zero_le _, Nat.zero_le _⟩ (Nat.le_of_ble_eq_true rfl) dX0_tellWord_82 rfl hz (fun r_15 S_14 hz => ?_)
        refine g_lstore C 87 (i := 11) [1, 2, 3, 4, 5, 6, 7, 8, 0] (fun x11_16 => [(0, .ref (ad 22)), (1, .ref (ad i1)), (2, .int x2), (5, .ref (ad 32)), (6, .long x6_12), (8, .int x8), (9, .int x9), (10, .int x10_13), (11, .long x11_16)]) dX0_tellWord_85 rfl (by decide) (fun x11_16 => rfl) hz (fun x11_16 hz => ?_)
        refine g_goto C 39 dX0_tellWord_87 rfl ?_
        exact ih i1 x2 x6_12 x8 x9 x10_13 x11_16 S_14 h_i1 hz
set_option maxRecDepth 20000 in
theorem t_X0_tellWord_L9 {p : Program} {l : Launch} {e : Env} {s : State} {m : MethodId} {args : Array Value} {below : List Frame} {meth : Method} {c : Code} {D : va_G} {cy : Nat → ClassId} {ad : Nat → Nat} {n : Nat} {A : Nat → Prop} (C : gC p s m args meth c cX0_tellWord 13 RX0 D cy ad n A) (hr : meth.sig.returnType = none) {z : Sg} : ∀ (fl : Nat) (i1 : Nat) (x2 : Int32) (x6 : Int64) (x8 : Int32) (x9 : Int32) (S : Sg), okM n i1 = true → f_X0_tellWord_L9 fl i1 x2 x6 x8 x9 S = some z → gW p l e rm_X0_tellWord s m args below meth c D cy ad n A 13 0 0 (MQ below (gQ D cy ad n A none z) args s 0 0 A) S 9 [(0, .ref (ad 22)), (1, .ref (ad i1)), (2, .int x2), (5, .ref (ad 32)), (6, .long x6), (8, .int x8), (9, .int x9)] [] := by
  intro fl
  induction fl with
  | zero =>
    intro i1 x2 x6 x8 x9 S h_i1 hz
    rw [f_X0_tellWord_L9] at hz
    cases hz
  | succ fl ih =>
    intro i1 x2 x6 x8 x9 S h_i1 hz
    rw [f_X0_tellWord_L9] at hz
    refine g_iload C 11 6 rfl dX0_tellWord_9 rfl ?_
    refine g_iload_n C 12 2 rfl dX0_tellWord_11 rfl ?_
    refine g_icmp_ge C 120 15 dX0_tellWord_12 rfl rfl hz (fun hz => ?_) (fun hz => ?_)
    · refine g_aload C 122 3 rfl dX0_tellWord_120 rfl ?_
      refine g_iload_n C 123 2 rfl dX0_tellWord_122 rfl ?_
      refine pf_0_38 C 126 dX0_tellWord_123 rfl hz (fun S_4 hz => ?_)
      exact g_vret C hr dX0_tellWord_126 hz
    · refine g_iconst C 16 (0 : Int32) ci_0 dX0_tellWord_15 rfl ?_
      refine g_istore C 18 (i := 10) [1, 2, 3, 4, 5, 6, 7, 0] (fun x10_5 => [(0, .ref (ad 22)), (1, .ref (ad i1)), (2, .int x2), (5, .ref (ad 32)), (6, .long x6), (8, .int x8), (9, .int x9), (10, .int x10_5)]) dX0_tellWord_16 rfl (by decide) (fun x10_5 => rfl) hz (fun x10_5 hz => ?_)
      refine g_aload_n C 19 0 rfl dX0_tellWord_18 rfl ?_
      refine g_aload_n C 20 1 rfl dX0_tellWord_19 rfl ?_
      refine gf_0_25 C 23 h_i1 dX0_tellWord_20 rfl ?_
      refine g_iload C 25 5 rfl dX0_tellWord_23 rfl ?_
      refine g_iconst C 26 (4 : Int32) ci_4 dX0_tellWord_25 rfl ?_
      refine g_imul C 27 dX0_tellWord_26 rfl ?_
      refine g_iald C 28 (has_m h_i1 1 (by decide)) dX0_tellWord_27 rfl hz (fun hz => ?_)
      refine g_iload_n C 29 2 rfl dX0_tellWord_28 rfl ?_
      refine g_iconst C 30 (1 : Int32) ci_1 dX0_tellWord_29 rfl ?_
      refine g_isub C 31 dX0_tellWord_30 rfl ?_
      refine g_iload C 33 6 rfl dX0_tellWord_31 rfl ?_
      refine g_isub C 34 dX0_tellWord_33 rfl ?_
      refine cl_0_29 C 37 ⟨Nat.le_of_ble_eq_true rfl, Nat.le_of_ble_eq_true rfl⟩ ⟨Nat.zero_le _, Nat.zero_le _⟩ (Nat.le_of_ble_eq_true rfl) dX0_tellWord_34 rfl hz (fun r_7 S_6 hz => ?_)
      refine g_lstore C 39 (i := 11) [1, 2, 3, 4, 5, 6, 7, 8, 0] (fun x11_8 => [(0, .ref (ad 22)), (1, .ref (ad i1)), (2, .int x2), (5, .ref (ad 32)), (6, .long x6), (8, .int x8), (9, .int x9), (10, .int x10_5), (11, .long x11_8)]) dX0_tellWord_37 rfl (by decide) (fun x11_8 => rfl) hz (fun x11_8 hz => ?_)
      exact (t_X0_tellWord_L39 C hr ih fu) i1 x2 x6 x8 x9 x10_5 x11_8 S_6 h_i1 hz
set_option maxRecDepth 20000 in
theorem t_X0_tellWord {p : Program} {l : Launch} {e : Env} {s : State} {m : MethodId} {args : Array Value} {below : List Frame} {meth : Method} {c : Code} {D : va_G} {cy : Nat → ClassId} {ad : Nat → Nat} {n : Nat} {A : Nat → Prop} (C : gC p s m args meth c cX0_tellWord 13 RX0 D cy ad n A) (hr : meth.sig.returnType = none) {z : Sg} {S : Sg} {i1 : Nat} {x2 : Int32} {x3 : Int64} (h_i1 : okM n i1 = true) (hz : f_X0_tellWord i1 x2 x3 S = some z) : gW p l e rm_X0_tellWord s m args below meth c D cy ad n A 13 0 0 (MQ below (gQ D cy ad n A none z) args s 0 0 A) S 0 [(0, .ref (ad 22)), (1, .ref (ad i1)), (2, .int x2), (3, .long x3), (5, .ref (ad 32))] [] := by
  unfold f_X0_tellWord at hz
  refine g_lload_n C 1 3 rfl dX0_tellWord_0 rfl ?_
  refine g_lstore C 3 (i := 6) [1, 2, 3, 5, 0] (fun x6_1 => [(0, .ref (ad 22)), (1, .ref (ad i1)), (2, .int x2), (5, .ref (ad 32)), (6, .long x6_1)]) dX0_tellWord_1 rfl (by decide) (fun x6_1 => rfl) hz (fun x6_1 hz => ?_)
  refine g_iconst C 4 (0 : Int32) ci_0 dX0_tellWord_3 rfl ?_
  refine g_istore C 6 (i := 8) [1, 2, 3, 4, 5, 0] (fun x8_2 => [(0, .ref (ad 22)), (1, .ref (ad i1)), (2, .int x2), (5, .ref (ad 32)), (6, .long x6_1), (8, .int x8_2)]) dX0_tellWord_4 rfl (by decide) (fun x8_2 => rfl) hz (fun x8_2 hz => ?_)
  refine g_iconst C 7 (0 : Int32) ci_0 dX0_tellWord_6 rfl ?_
  refine g_istore C 9 (i := 9) [1, 2, 3, 4, 5, 6, 0] (fun x9_3 => [(0, .ref (ad 22)), (1, .ref (ad i1)), (2, .int x2), (5, .ref (ad 32)), (6, .long x6_1), (8, .int x8_2), (9, .int x9_3)]) dX0_tellWord_7 rfl (by decide) (fun x9_3 => rfl) hz (fun x9_3 hz => ?_)
  exact (t_X0_tellWord_L9 C hr fu) i1 x2 x6_1 x8_2 x9_3 S h_i1 hz
theorem c_X0_tellWord (l : Launch) (D : va_G) (cy : Nat → ClassId) (ad : Nat → Nat) (n : Nat) (S : Sg) (sz : Nat) (i1 : Nat) (x2 : Int32) (x3 : Int64) (z : Sg) (h_i1 : okM n i1 = true) (hz : f_X0_tellWord i1 x2 x3 S = some z) : Met l yX0_tellWord (.code yX0_tellWord cX0_tellWord 13 none :: wsAll) rm_X0_tellWord (gPc D cy ad n S sz [.ref (ad 22), .ref (ad i1), .int x2, .long x3, .ref (ad 32)]) (gQ D cy ad n (va_A (wW cy ad n S) sz) none z) 0 0 (va_A (wW cy ad n S) sz) := by
  refine gMet (lv := [(0, .ref (ad 22)), (1, .ref (ad i1)), (2, .int x2), (3, .long x3), (5, .ref (ad 32))]) (by decide) (Nat.le_of_ble_eq_true rfl) rfl ?_
  intro p e s m args below meth c A hA hr C
  exact t_X0_tellWord C hr h_i1 hz
def rm_X9_word : Room := { frames := 2, cells := 0, slots := 0, locals := 54 }
theorem wl_9_156 : Cond.methodLinkNest RX9 156 yX0_tellWord "WordMachines" ∈ tables_1 := List.mem_of_getElem? (i := 554) (by decide +kernel)
theorem wi_X0_tellWord : Cond.instanceMethod yX0_tellWord ∈ wsAll := wA 556 (by decide +kernel) (by decide +kernel)
theorem we_X0_tellWord : Cond.selects RX0 yX0_tellWord yX0_tellWord ∈ wsAll := wAp 42 (by decide +kernel) (by decide +kernel)
theorem wo_X0_tellWord : Cond.code yX0_tellWord cX0_tellWord 13 none ∈ wsAll := wA 557 (by decide +kernel) (by decide +kernel)
theorem cl_9_156 {p : Program} {l : Launch} {e : Env} {R : Room} {s : State} {m : MethodId} {args : Array Value} {below : List Frame} {meth : Method} {c : Code} {cc : ByteArray} {nL : Nat} {D : va_G} {cy : Nat → ClassId} {ad : Nat → Nat} {n : Nat} {A : Nat → Prop} {mc ms : Nat} {Q : State → Prop} {S : Sg} {pc : Nat} {lv : List (Nat × Value)} {st : List Value} {ζ : Type} {z : ζ} (C : gC p s m args meth c cc nL RX9 D cy ad n A) (nx : Nat) {i1 : Nat} {x2 : Int32} {x3 : Int64} (h_i1 : okM n i1 = true) (hR : Room.frames rm_X0_tellWord + 1 ≤ R.frames ∧ 8 + (13 + 11) + Room.locals rm_X0_tellWord ≤ R.locals) (hcm : mc ≤ R.cells ∧ ms ≤ R.slots) (hrest : (st.map fun v => v.category).sum ≤ 8) (hd : decode cc pc = .ok (.invokevirtual 156, 3)) (hn : pc + 3 = nx) {K : Sg → Option ζ} (hz : bd (f_X0_tellWord i1 x2 x3 S) K = some z) (kk : ∀ S', K S' = some z → gW p l e R s m args below meth c D cy ad n A nL mc ms Q S' nx lv st) : gW p l e R s m args below meth c D cy ad n A nL mc ms Q S pc lv (.ref (ad 32) :: .long x3 :: .int x2 :: .ref (ad i1) :: .ref (ad 22) :: st) := by
  obtain ⟨q, hq, hk⟩ := bd_s hz
  exact g_callVN C (i := 22) (ci := 0) (Cn := RX0) (T := TX0) (N := 1) (y := yX0_tellWord) (rm := rm_X0_tellWord) (As := [.ref (ad i1), .int x2, .long x3, .ref (ad 32)]) (rest := st) (na := 4) (fun sz => c_X0_tellWord l D cy ad n S sz i1 x2 x3 q h_i1 hq) ha_22 rfl rfl wl_9_156 wi_X0_tellWord we_X0_tellWord wz_0 wo_X0_tellWord (by decide +kernel) rfl rfl hR hcm rfl hrest hn hd (kk q hk)
set_option maxRecDepth 20000 in
theorem t_X9_word {p : Program} {l : Launch} {e : Env} {s : State} {m : MethodId} {args : Array Value} {below : List Frame} {meth : Method} {c : Code} {D : va_G} {cy : Nat → ClassId} {ad : Nat → Nat} {n : Nat} {A : Nat → Prop} (C : gC p s m args meth c cX9_word 6 RX9 D cy ad n A) (hr : meth.sig.returnType = (some .boolean)) {z : Int32 × Sg} {S : Sg} {x1 : Int32} {x2 : Int32} {x3 : Int64} (hz : f_X9_word n x1 x2 x3 S = some z) : gW p l e rm_X9_word s m args below meth c D cy ad n A 6 0 0 (MQ below (gQ D cy ad n A (some (.int z.1)) z.2) args s 0 0 A) S 0 [(0, .ref (ad 0)), (1, .int x1), (2, .int x2), (3, .long x3)] [] := by
  unfold f_X9_word at hz
  refine g_aload_n C 1 0 rfl dX9_word_0 rfl ?_
  refine g_iload_n C 2 1 rfl dX9_word_1 rfl ?_
  refine cl_9_106 C 5 ⟨Nat.le_of_ble_eq_true rfl, Nat.le_of_ble_eq_true rfl⟩ ⟨Nat.zero_le _, Nat.zero_le _⟩ (Nat.le_of_ble_eq_true rfl) dX9_word_2 rfl hz (fun r_2 S_1 hz => ?_)
  refine g_astoreN C 7 (i := 5) [1, 3, 4, 0] [(0, .ref (ad 0)), (2, .int x2), (3, .long x3), (5, rv ad r_2)] dX9_word_5 rfl (by decide) rfl ?_
  refine g_aloadN C 9 3 rfl dX9_word_7 rfl ?_
  refine g_ifnull C 28 12 dX9_word_9 rfl rfl hz (fun e_r hz_i_3 => ?_) (fun i_3 e_r h_i_3 hz_i_3 => ?_)
  · subst e_r; have hz := hz_i_3
    try rw [rv_none]
    refine g_iconst C 29 (0 : Int32) ci_0 dX9_word_28 rfl ?_
    exact g_zretc C hr (by decide) dX9_word_29 hz
  · subst e_r; have hz := hz_i_3
    try rw [rv_some]
    refine g_iload_n C 13 1 rfl dX9_word_12 rfl ?_
    refine g_if_lt C 28 16 dX9_word_13 rfl rfl hz (fun hz => ?_) (fun hz => ?_)
    · refine g_iconst C 29 (0 : Int32) ci_0 dX9_word_28 rfl ?_
      exact g_zretc C hr (by decide) dX9_word_29 hz
    · refine g_iload_n C 17 1 rfl dX9_word_16 rfl ?_
      refine g_bipush C 19 (28 : Int32) cb_28 dX9_word_17 rfl ?_
      refine g_icmp_gt C 28 22 dX9_word_19 rfl rfl hz (fun hz => ?_) (fun hz => ?_)
      · refine g_iconst C 29 (0 : Int32) ci_0 dX9_word_28 rfl ?_
        exact g_zretc C hr (by decide) dX9_word_29 hz
      · refine g_lload_n C 23 2 rfl dX9_word_22 rfl ?_
        refine g_lconst C 24 (0 : Int64) cl_0 dX9_word_23 rfl ?_
        refine g_lcmp C 25 dX9_word_24 rfl ?_
        refine g_if_ge C 30 28 dX9_word_25 rfl rfl hz (fun hz => ?_) (fun hz => ?_)
        · refine g_aload_n C 31 0 rfl dX9_word_30 rfl ?_
          refine gf_9_51 C 34 dX9_word_31 rfl ?_
          refine g_aload C 36 3 rfl dX9_word_34 rfl ?_
          refine g_iload_n C 37 1 rfl dX9_word_36 rfl ?_
          refine cl_9_148 C 40 h_i_3 ⟨Nat.le_of_ble_eq_true rfl, Nat.le_of_ble_eq_true rfl⟩ ⟨Nat.zero_le _, Nat.zero_le _⟩ (Nat.le_of_ble_eq_true rfl) dX9_word_37 rfl hz (fun S_4 hz => ?_)
          refine g_lload_n C 41 2 rfl dX9_word_40 rfl ?_
          refine g_aload_n C 42 0 rfl dX9_word_41 rfl ?_
          refine gf_9_51 C 45 dX9_word_42 rfl ?_
          refine g_iconst C 46 (0 : Int32) ci_0 dX9_word_45 rfl ?_
          refine g_iload_n C 47 1 rfl dX9_word_46 rfl ?_
          refine cl_9_152 C 50 ⟨Nat.le_of_ble_eq_true rfl, Nat.le_of_ble_eq_true rfl⟩ ⟨Nat.zero_le _, Nat.zero_le _⟩ (Nat.le_of_ble_eq_true rfl) dX9_word_47 rfl hz (fun r_6 S_5 hz => ?_)
          refine g_lcmp C 51 dX9_word_50 rfl ?_
          refine g_if_lt C 56 54 dX9_word_51 rfl rfl hz (fun hz => ?_) (fun hz => ?_)
          · refine g_aload_n C 57 0 rfl dX9_word_56 rfl ?_
            refine gf_9_51 C 60 dX9_word_57 rfl ?_
            refine g_aload C 62 3 rfl dX9_word_60 rfl ?_
            refine g_iload_n C 63 1 rfl dX9_word_62 rfl ?_
            refine g_lload_n C 64 2 rfl dX9_word_63 rfl ?_
            refine g_aload_n C 65 0 rfl dX9_word_64 rfl ?_
            refine gf_9_72 C 68 dX9_word_65 rfl ?_
            refine cl_9_156 C 71 h_i_3 ⟨Nat.le_of_ble_eq_true rfl, Nat.le_of_ble_eq_true rfl⟩ ⟨Nat.zero_le _, Nat.zero_le _⟩ (Nat.le_of_ble_eq_true rfl) dX9_word_68 rfl hz (fun S_7 hz => ?_)
            refine g_iconst C 72 (1 : Int32) ci_1 dX9_word_71 rfl ?_
            exact g_zretc C hr (by decide) dX9_word_72 hz
          · refine g_iconst C 55 (0 : Int32) ci_0 dX9_word_54 rfl ?_
            exact g_zretc C hr (by decide) dX9_word_55 hz
        · refine g_iconst C 29 (0 : Int32) ci_0 dX9_word_28 rfl ?_
          exact g_zretc C hr (by decide) dX9_word_29 hz
theorem c_X9_word (l : Launch) (D : va_G) (cy : Nat → ClassId) (ad : Nat → Nat) (n : Nat) (S : Sg) (sz : Nat) (x1 : Int32) (x2 : Int32) (x3 : Int64) (z : Int32 × Sg) (hz : f_X9_word n x1 x2 x3 S = some z) : Met l yX9_word (.code yX9_word cX9_word 6 (some .boolean) :: wsAll) rm_X9_word (gPc D cy ad n S sz [.ref (ad 0), .int x1, .int x2, .long x3]) (gQ D cy ad n (va_A (wW cy ad n S) sz) (some (.int z.1)) z.2) 0 0 (va_A (wW cy ad n S) sz) := by
  refine gMet (lv := [(0, .ref (ad 0)), (1, .int x1), (2, .int x2), (3, .long x3)]) (by decide) (Nat.le_of_ble_eq_true rfl) rfl ?_
  intro p e s m args below meth c A hA hr C
  exact t_X9_word C hr hz
def rm_X8_trace_d : Room := { frames := 0, cells := 0, slots := 0, locals := 0 }
set_option maxRecDepth 20000 in
theorem t_X8_trace_d_L41 {p : Program} {l : Launch} {e : Env} {s : State} {m : MethodId} {args : Array Value} {below : List Frame} {meth : Method} {c : Code} {D : va_G} {cy : Nat → ClassId} {ad : Nat → Nat} {n : Nat} {A : Nat → Prop} (C : gC p s m args meth c cX8_trace 6 RX8 D cy ad n A) (hr : meth.sig.returnType = none) {z : Sg} : ∀ (fl : Nat) (x3 : Int32) (x4 : Int32) (x5 : Int32) (S : Sg), f_X8_trace_d_L41 fl x3 x4 x5 S = some z → gW p l e rm_X8_trace_d s m args below meth c D cy ad n A 6 0 0 (MQ below (gQ D cy ad n A none z) args s 0 0 A) S 41 [(0, .ref (ad 32)), (1, .ref (ad 31)), (3, .int x3), (4, .int x4), (5, .int x5)] [] := by
  intro fl
  induction fl with
  | zero =>
    intro x3 x4 x5 S hz
    rw [f_X8_trace_d_L41] at hz
    cases hz
  | succ fl ih =>
    intro x3 x4 x5 S hz
    rw [f_X8_trace_d_L41] at hz
    refine g_iload C 43 4 rfl dX8_trace_41 rfl ?_
    refine g_if_lt C 73 46 dX8_trace_43 rfl rfl hz (fun hz => ?_) (fun hz => ?_)
    · refine g_aload_n C 74 0 rfl dX8_trace_73 rfl ?_
      refine g_iload_n C 75 2 rfl dX8_trace_74 rfl ?_
      refine pf_8_15 C 78 dX8_trace_75 rfl hz (fun S_5 hz => ?_)
      exact g_vret C hr dX8_trace_78 hz
    · refine g_aload_n C 47 0 rfl dX8_trace_46 rfl ?_
      refine gf_8_9 C 50 dX8_trace_47 rfl ?_
      refine g_iload C 52 4 rfl dX8_trace_50 rfl ?_
      refine g_aload_n C 53 1 rfl dX8_trace_52 rfl ?_
      refine g_iload C 55 3 rfl dX8_trace_53 rfl ?_
      refine g_iald C 56 ha_31 dX8_trace_55 rfl hz (fun hz => ?_)
      refine g_iconst C 57 (4 : Int32) ci_4 dX8_trace_56 rfl ?_
      refine g_irem C 58 dX8_trace_57 rfl hz (fun hz => ?_)
      refine g_iast C 59 ha_33 dX8_trace_58 rfl hz (fun S_6 hz => ?_)
      refine g_aload_n C 60 1 rfl dX8_trace_59 rfl ?_
      refine g_iload C 62 3 rfl dX8_trace_60 rfl ?_
      refine g_iald C 63 ha_31 dX8_trace_62 rfl hz (fun hz => ?_)
      refine g_iconst C 64 (4 : Int32) ci_4 dX8_trace_63 rfl ?_
      refine g_idiv C 65 dX8_trace_64 rfl hz (fun hz => ?_)
      refine g_istore C 67 (i := 4) [1, 2, 3, 0, 4] (fun x4_7 => [(0, .ref (ad 32)), (1, .ref (ad 31)), (3, .int x3), (4, .int x4_7), (5, .int x5)]) dX8_trace_65 rfl (by decide) (fun x4_7 => rfl) hz (fun x4_7 hz => ?_)
      refine g_iinc C 70 4 [1, 2, 3, 4, 0] (-1 : Int32) ci_m1 (fun x5_8 => [(0, .ref (ad 32)), (1, .ref (ad 31)), (3, .int x3), (4, .int x4_7), (5, .int x5_8)]) dX8_trace_67 rfl rfl (by decide) (fun x5_8 => rfl) hz (fun x5_8 hz => ?_)
      refine g_goto C 41 dX8_trace_70 rfl ?_
      exact ih x3 x4_7 x5_8 S_6 hz
set_option maxRecDepth 20000 in
theorem t_X8_trace_d_L5 {p : Program} {l : Launch} {e : Env} {s : State} {m : MethodId} {args : Array Value} {below : List Frame} {meth : Method} {c : Code} {D : va_G} {cy : Nat → ClassId} {ad : Nat → Nat} {n : Nat} {A : Nat → Prop} (C : gC p s m args meth c cX8_trace 6 RX8 D cy ad n A) (hr : meth.sig.returnType = none) {z : Sg} : ∀ (fl : Nat) (x2 : Int32) (x3 : Int32) (x4 : Int32) (S : Sg), f_X8_trace_d_L5 fl x2 x3 x4 S = some z → gW p l e rm_X8_trace_d s m args below meth c D cy ad n A 6 0 0 (MQ below (gQ D cy ad n A none z) args s 0 0 A) S 5 [(0, .ref (ad 32)), (1, .ref (ad 31)), (2, .int x2), (3, .int x3), (4, .int x4)] [] := by
  intro fl
  induction fl with
  | zero =>
    intro x2 x3 x4 S hz
    rw [f_X8_trace_d_L5] at hz
    cases hz
  | succ fl ih =>
    intro x2 x3 x4 S hz
    rw [f_X8_trace_d_L5] at hz
    refine g_iload C 7 4 rfl dX8_trace_5 rfl ?_
    refine g_if_le C 33 10 dX8_trace_7 rfl rfl hz (fun hz => ?_) (fun hz => ?_)
    · refine g_iload_n C 34 2 rfl dX8_trace_33 rfl ?_
      refine g_istore C 36 (i := 4) [1, 2, 4, 0] (fun x4_3 => [(0, .ref (ad 32)), (1, .ref (ad 31)), (3, .int x3), (4, .int x4_3)]) dX8_trace_34 rfl (by decide) (fun x4_3 => rfl) hz (fun x4_3 hz => ?_)
      refine g_iload_n C 37 2 rfl dX8_trace_36 rfl ?_
      refine g_iconst C 38 (1 : Int32) ci_1 dX8_trace_37 rfl ?_
      refine g_isub C 39 dX8_trace_38 rfl ?_
      refine g_istore C 41 (i := 5) [1, 2, 3, 4, 0] (fun x5_4 => [(0, .ref (ad 32)), (1, .ref (ad 31)), (3, .int x3), (4, .int x4_3), (5, .int x5_4)]) dX8_trace_39 rfl (by decide) (fun x5_4 => rfl) hz (fun x5_4 hz => ?_)
      exact (t_X8_trace_d_L41 C hr fu) x3 x4_3 x5_4 S hz
    · refine g_iload_n C 11 3 rfl dX8_trace_10 rfl ?_
      refine g_aload_n C 12 0 rfl dX8_trace_11 rfl ?_
      refine gf_8_9 C 15 dX8_trace_12 rfl ?_
      refine g_alen C 16 1 ha_33 rfl rfl (300 : Int32) cn_300 dX8_trace_15 rfl ?_
      refine g_icmp_ge C 33 19 dX8_trace_16 rfl rfl hz (fun hz => ?_) (fun hz => ?_)
      · refine g_iload_n C 34 2 rfl dX8_trace_33 rfl ?_
        refine g_istore C 36 (i := 4) [1, 2, 4, 0] (fun x4_9 => [(0, .ref (ad 32)), (1, .ref (ad 31)), (3, .int x3), (4, .int x4_9)]) dX8_trace_34 rfl (by decide) (fun x4_9 => rfl) hz (fun x4_9 hz => ?_)
        refine g_iload_n C 37 2 rfl dX8_trace_36 rfl ?_
        refine g_iconst C 38 (1 : Int32) ci_1 dX8_trace_37 rfl ?_
        refine g_isub C 39 dX8_trace_38 rfl ?_
        refine g_istore C 41 (i := 5) [1, 2, 3, 4, 0] (fun x5_10 => [(0, .ref (ad 32)), (1, .ref (ad 31)), (3, .int x3), (4, .int x4_9), (5, .int x5_10)]) dX8_trace_39 rfl (by decide) (fun x5_10 => rfl) hz (fun x5_10 hz => ?_)
        exact (t_X8_trace_d_L41 C hr fu) x3 x4_9 x5_10 S hz
      · refine g_aload_n C 20 1 rfl dX8_trace_19 rfl ?_
        refine g_iload C 22 4 rfl dX8_trace_20 rfl ?_
        refine g_iald C 23 ha_31 dX8_trace_22 rfl hz (fun hz => ?_)
        refine g_iconst C 24 (4 : Int32) ci_4 dX8_trace_23 rfl ?_
        refine g_idiv C 25 dX8_trace_24 rfl hz (fun hz => ?_)
        refine g_istore C 27 (i := 4) [1, 2, 3, 4, 0] (fun x4_11 => [(0, .ref (ad 32)), (1, .ref (ad 31)), (2, .int x2), (3, .int x3), (4, .int x4_11)]) dX8_trace_25 rfl (by decide) (fun x4_11 => rfl) hz (fun x4_11 hz => ?_)
        refine g_iinc C 30 3 [1, 2, 3, 0, 4] (1 : Int32) ci_1 (fun x3_12 => [(0, .ref (ad 32)), (1, .ref (ad 31)), (2, .int x2), (3, .int x3_12), (4, .int x4_11)]) dX8_trace_27 rfl rfl (by decide) (fun x3_12 => rfl) hz (fun x3_12 hz => ?_)
        refine g_goto C 5 dX8_trace_30 rfl ?_
        exact ih x2 x3_12 x4_11 S hz
set_option maxRecDepth 20000 in
theorem t_X8_trace_d {p : Program} {l : Launch} {e : Env} {s : State} {m : MethodId} {args : Array Value} {below : List Frame} {meth : Method} {c : Code} {D : va_G} {cy : Nat → ClassId} {ad : Nat → Nat} {n : Nat} {A : Nat → Prop} (C : gC p s m args meth c cX8_trace 6 RX8 D cy ad n A) (hr : meth.sig.returnType = none) {z : Sg} {S : Sg} {x2 : Int32} (hz : f_X8_trace_d x2 S = some z) : gW p l e rm_X8_trace_d s m args below meth c D cy ad n A 6 0 0 (MQ below (gQ D cy ad n A none z) args s 0 0 A) S 0 [(0, .ref (ad 32)), (1, .ref (ad 31)), (2, .int x2)] [] := by
  unfold f_X8_trace_d at hz
  refine g_iconst C 1 (0 : Int32) ci_0 dX8_trace_0 rfl ?_
  refine g_istore_n C 2 (i := 3) [1, 2, 3, 0] (fun x3_1 => [(0, .ref (ad 32)), (1, .ref (ad 31)), (2, .int x2), (3, .int x3_1)]) dX8_trace_1 rfl rfl (by decide) (fun x3_1 => rfl) hz (fun x3_1 hz => ?_)
  refine g_iload_n C 3 2 rfl dX8_trace_2 rfl ?_
  refine g_istore C 5 (i := 4) [1, 2, 3, 4, 0] (fun x4_2 => [(0, .ref (ad 32)), (1, .ref (ad 31)), (2, .int x2), (3, .int x3_1), (4, .int x4_2)]) dX8_trace_3 rfl (by decide) (fun x4_2 => rfl) hz (fun x4_2 hz => ?_)
  exact (t_X8_trace_d_L5 C hr fu) x2 x3_1 x4_2 S hz
theorem c_X8_trace_d (l : Launch) (D : va_G) (cy : Nat → ClassId) (ad : Nat → Nat) (n : Nat) (S : Sg) (sz : Nat) (x2 : Int32) (z : Sg) (hz : f_X8_trace_d x2 S = some z) : Met l yX8_trace (.code yX8_trace cX8_trace 6 none :: wsAll) rm_X8_trace_d (gPc D cy ad n S sz [.ref (ad 32), .ref (ad 31), .int x2]) (gQ D cy ad n (va_A (wW cy ad n S) sz) none z) 0 0 (va_A (wW cy ad n S) sz) := by
  refine gMet (lv := [(0, .ref (ad 32)), (1, .ref (ad 31)), (2, .int x2)]) (by decide) (Nat.le_of_ble_eq_true rfl) rfl ?_
  intro p e s m args below meth c A hA hr C
  exact t_X8_trace_d C hr hz
def rm_X8_trace_m : Room := { frames := 0, cells := 0, slots := 0, locals := 0 }
set_option maxRecDepth 20000 in
theorem t_X8_trace_m_L41 {p : Program} {l : Launch} {e : Env} {s : State} {m : MethodId} {args : Array Value} {below : List Frame} {meth : Method} {c : Code} {D : va_G} {cy : Nat → ClassId} {ad : Nat → Nat} {n : Nat} {A : Nat → Prop} (C : gC p s m args meth c cX8_trace 6 RX8 D cy ad n A) (hr : meth.sig.returnType = none) {z : Sg} : ∀ (fl : Nat) (i1 : Nat) (x3 : Int32) (x4 : Int32) (x5 : Int32) (S : Sg), okM n i1 = true → f_X8_trace_m_L41 fl i1 x3 x4 x5 S = some z → gW p l e rm_X8_trace_m s m args below meth c D cy ad n A 6 0 0 (MQ below (gQ D cy ad n A none z) args s 0 0 A) S 41 [(0, .ref (ad 32)), (1, .ref (ad (i1 + 2))), (3, .int x3), (4, .int x4), (5, .int x5)] [] := by
  intro fl
  induction fl with
  | zero =>
    intro i1 x3 x4 x5 S h_i1 hz
    rw [f_X8_trace_m_L41] at hz
    cases hz
  | succ fl ih =>
    intro i1 x3 x4 x5 S h_i1 hz
    rw [f_X8_trace_m_L41] at hz
    refine g_iload C 43 4 rfl dX8_trace_41 rfl ?_
    refine g_if_lt C 73 46 dX8_trace_43 rfl rfl hz (fun hz => ?_) (fun hz => ?_)
    · refine g_aload_n C 74 0 rfl dX8_trace_73 rfl ?_
      refine g_iload_n C 75 2 rfl dX8_trace_74 rfl ?_
      refine pf_8_15 C 78 dX8_trace_75 rfl hz (fun S_5 hz => ?_)
      exact g_vret C hr dX8_trace_78 hz
    · refine g_aload_n C 47 0 rfl dX8_trace_46 rfl ?_
      refine gf_8_9 C 50 dX8_trace_47 rfl ?_
      refine g_iload C 52 4 rfl dX8_trace_50 rfl ?_
      refine g_aload_n C 53 1 rfl dX8_trace_52 rfl ?_
      refine g_iload C 55 3 rfl dX8_trace_53 rfl ?_
      refine g_iald C 56 (has_m h_i1 2 (by decide)) dX8_trace_55 rfl hz (fun hz => ?_)
      refine g_iconst C 57 (4 : Int32) ci_4 dX8_trace_56 rfl ?_
      refine g_irem C 58 dX8_trace_57 rfl hz (fun hz => ?_)
      refine g_iast C 59 ha_33 dX8_trace_58 rfl hz (fun S_6 hz => ?_)
      refine g_aload_n C 60 1 rfl dX8_trace_59 rfl ?_
      refine g_iload C 62 3 rfl dX8_trace_60 rfl ?_
      refine g_iald C 63 (has_m h_i1 2 (by decide)) dX8_trace_62 rfl hz (fun hz => ?_)
      refine g_iconst C 64 (4 : Int32) ci_4 dX8_trace_63 rfl ?_
      refine g_idiv C 65 dX8_trace_64 rfl hz (fun hz => ?_)
      refine g_istore C 67 (i := 4) [1, 2, 3, 0, 4] (fun x4_7 => [(0, .ref (ad 32)), (1, .ref (ad (i1 + 2))), (3, .int x3), (4, .int x4_7), (5, .int x5)]) dX8_trace_65 rfl (by decide) (fun x4_7 => rfl) hz (fun x4_7 hz => ?_)
      refine g_iinc C 70 4 [1, 2, 3, 4, 0] (-1 : Int32) ci_m1 (fun x5_8 => [(0, .ref (ad 32)), (1, .ref (ad (i1 + 2))), (3, .int x3), (4, .int x4_7), (5, .int x5_8)]) dX8_trace_67 rfl rfl (by decide) (fun x5_8 => rfl) hz (fun x5_8 hz => ?_)
      refine g_goto C 41 dX8_trace_70 rfl ?_
      exact ih i1 x3 x4_7 x5_8 S_6 h_i1 hz
set_option maxRecDepth 20000 in
theorem t_X8_trace_m_L5 {p : Program} {l : Launch} {e : Env} {s : State} {m : MethodId} {args : Array Value} {below : List Frame} {meth : Method} {c : Code} {D : va_G} {cy : Nat → ClassId} {ad : Nat → Nat} {n : Nat} {A : Nat → Prop} (C : gC p s m args meth c cX8_trace 6 RX8 D cy ad n A) (hr : meth.sig.returnType = none) {z : Sg} : ∀ (fl : Nat) (i1 : Nat) (x2 : Int32) (x3 : Int32) (x4 : Int32) (S : Sg), okM n i1 = true → f_X8_trace_m_L5 fl i1 x2 x3 x4 S = some z → gW p l e rm_X8_trace_m s m args below meth c D cy ad n A 6 0 0 (MQ below (gQ D cy ad n A none z) args s 0 0 A) S 5 [(0, .ref (ad 32)), (1, .ref (ad (i1 + 2))), (2, .int x2), (3, .int x3), (4, .int x4)] [] := by
  intro fl
  induction fl with
  | zero =>
    intro i1 x2 x3 x4 S h_i1 hz
    rw [f_X8_trace_m_L5] at hz
    cases hz
  | succ fl ih =>
    intro i1 x2 x3 x4 S h_i1 hz
    rw [f_X8_trace_m_L5] at hz
    refine g_iload C 7 4 rfl dX8_trace_5 rfl ?_
    refine g_if_le C 33 10 dX8_trace_7 rfl rfl hz (fun hz => ?_) (fun hz => ?_)
    · refine g_iload_n C 34 2 rfl dX8_trace_33 rfl ?_
      refine g_istore C 36 (i := 4) [1, 2, 4, 0] (fun x4_3 => [(0, .ref (ad 32)), (1, .ref (ad (i1 + 2))), (3, .int x3), (4, .int x4_3)]) dX8_trace_34 rfl (by decide) (fun x4_3 => rfl) hz (fun x4_3 hz => ?_)
      refine g_iload_n C 37 2 rfl dX8_trace_36 rfl ?_
      refine g_iconst C 38 (1 : Int32) ci_1 dX8_trace_37 rfl ?_
      refine g_isub C 39 dX8_trace_38 rfl ?_
      refine g_istore C 41 (i := 5) [1, 2, 3, 4, 0] (fun x5_4 => [(0, .ref (ad 32)), (1, .ref (ad (i1 + 2))), (3, .int x3), (4, .int x4_3), (5, .int x5_4)]) dX8_trace_39 rfl (by decide) (fun x5_4 => rfl) hz (fun x5_4 hz => ?_)
      exact (t_X8_trace_m_L41 C hr fu) i1 x3 x4_3 x5_4 S h_i1 hz
    · refine g_iload_n C 11 3 rfl dX8_trace_10 rfl ?_
      refine g_aload_n C 12 0 rfl dX8_trace_11 rfl ?_
      refine gf_8_9 C 15 dX8_trace_12 rfl ?_
      refine g_alen C 16 1 ha_33 rfl rfl (300 : Int32) cn_300 dX8_trace_15 rfl ?_
      refine g_icmp_ge C 33 19 dX8_trace_16 rfl rfl hz (fun hz => ?_) (fun hz => ?_)
      · refine g_iload_n C 34 2 rfl dX8_trace_33 rfl ?_
        refine g_istore C 36 (i := 4) [1, 2, 4, 0] (fun x4_9 => [(0, .ref (ad 32)), (1, .ref (ad (i1 + 2))), (3, .int x3), (4, .int x4_9)]) dX8_trace_34 rfl (by decide) (fun x4_9 => rfl) hz (fun x4_9 hz => ?_)
        refine g_iload_n C 37 2 rfl dX8_trace_36 rfl ?_
        refine g_iconst C 38 (1 : Int32) ci_1 dX8_trace_37 rfl ?_
        refine g_isub C 39 dX8_trace_38 rfl ?_
        refine g_istore C 41 (i := 5) [1, 2, 3, 4, 0] (fun x5_10 => [(0, .ref (ad 32)), (1, .ref (ad (i1 + 2))), (3, .int x3), (4, .int x4_9), (5, .int x5_10)]) dX8_trace_39 rfl (by decide) (fun x5_10 => rfl) hz (fun x5_10 hz => ?_)
        exact (t_X8_trace_m_L41 C hr fu) i1 x3 x4_9 x5_10 S h_i1 hz
      · refine g_aload_n C 20 1 rfl dX8_trace_19 rfl ?_
        refine g_iload C 22 4 rfl dX8_trace_20 rfl ?_
        refine g_iald C 23 (has_m h_i1 2 (by decide)) dX8_trace_22 rfl hz (fun hz => ?_)
        refine g_iconst C 24 (4 : Int32) ci_4 dX8_trace_23 rfl ?_
        refine g_idiv C 25 dX8_trace_24 rfl hz (fun hz => ?_)
        refine g_istore C 27 (i := 4) [1, 2, 3, 4, 0] (fun x4_11 => [(0, .ref (ad 32)), (1, .ref (ad (i1 + 2))), (2, .int x2), (3, .int x3), (4, .int x4_11)]) dX8_trace_25 rfl (by decide) (fun x4_11 => rfl) hz (fun x4_11 hz => ?_)
        refine g_iinc C 30 3 [1, 2, 3, 0, 4] (1 : Int32) ci_1 (fun x3_12 => [(0, .ref (ad 32)), (1, .ref (ad (i1 + 2))), (2, .int x2), (3, .int x3_12), (4, .int x4_11)]) dX8_trace_27 rfl rfl (by decide) (fun x3_12 => rfl) hz (fun x3_12 hz => ?_)
        refine g_goto C 5 dX8_trace_30 rfl ?_
        exact ih i1 x2 x3_12 x4_11 S h_i1 hz
set_option maxRecDepth 20000 in
theorem t_X8_trace_m {p : Program} {l : Launch} {e : Env} {s : State} {m : MethodId} {args : Array Value} {below : List Frame} {meth : Method} {c : Code} {D : va_G} {cy : Nat → ClassId} {ad : Nat → Nat} {n : Nat} {A : Nat → Prop} (C : gC p s m args meth c cX8_trace 6 RX8 D cy ad n A) (hr : meth.sig.returnType = none) {z : Sg} {S : Sg} {i1 : Nat} {x2 : Int32} (h_i1 : okM n i1 = true) (hz : f_X8_trace_m i1 x2 S = some z) : gW p l e rm_X8_trace_m s m args below meth c D cy ad n A 6 0 0 (MQ below (gQ D cy ad n A none z) args s 0 0 A) S 0 [(0, .ref (ad 32)), (1, .ref (ad (i1 + 2))), (2, .int x2)] [] := by
  unfold f_X8_trace_m at hz
  refine g_iconst C 1 (0 : Int32) ci_0 dX8_trace_0 rfl ?_
  refine g_istore_n C 2 (i := 3) [1, 2, 3, 0] (fun x3_1 => [(0, .ref (ad 32)), (1, .ref (ad (i1 + 2))), (2, .int x2), (3, .int x3_1)]) dX8_trace_1 rfl rfl (by decide) (fun x3_1 => rfl) hz (fun x3_1 hz => ?_)
  refine g_iload_n C 3 2 rfl dX8_trace_2 rfl ?_
  refine g_istore C 5 (i := 4) [1, 2, 3, 4, 0] (fun x4_2 => [(0, .ref (ad 32)), (1, .ref (ad (i1 + 2))), (2, .int x2), (3, .int x3_1), (4, .int x4_2)]) dX8_trace_3 rfl (by decide) (fun x4_2 => rfl) hz (fun x4_2 hz => ?_)
  exact (t_X8_trace_m_L5 C hr fu) i1 x2 x3_1 x4_2 S h_i1 hz
theorem c_X8_trace_m (l : Launch) (D : va_G) (cy : Nat → ClassId) (ad : Nat → Nat) (n : Nat) (S : Sg) (sz : Nat) (i1 : Nat) (x2 : Int32) (z : Sg) (h_i1 : okM n i1 = true) (hz : f_X8_trace_m i1 x2 S = some z) : Met l yX8_trace (.code yX8_trace cX8_trace 6 none :: wsAll) rm_X8_trace_m (gPc D cy ad n S sz [.ref (ad 32), .ref (ad (i1 + 2)), .int x2]) (gQ D cy ad n (va_A (wW cy ad n S) sz) none z) 0 0 (va_A (wW cy ad n S) sz) := by
  refine gMet (lv := [(0, .ref (ad 32)), (1, .ref (ad (i1 + 2))), (2, .int x2)]) (by decide) (Nat.le_of_ble_eq_true rfl) rfl ?_
  intro p e s m args below meth c A hA hr C
  exact t_X8_trace_m C hr h_i1 hz
def rm_X9_shortest : Room := { frames := 1, cells := 0, slots := 0, locals := 25 }
theorem wl_9_163 : Cond.methodLinkNest RX9 163 yX8_trace "WordMachines" ∈ tables_1 := List.mem_of_getElem? (i := 562) (by decide +kernel)
theorem wi_X8_trace : Cond.instanceMethod yX8_trace ∈ wsAll := wA 564 (by decide +kernel) (by decide +kernel)
theorem we_X8_trace : Cond.selects RX8 yX8_trace yX8_trace ∈ wsAll := wAp 43 (by decide +kernel) (by decide +kernel)
theorem wz_8 : Cond.initialized RX8 ∈ wsAll := wA 9 (by decide +kernel) (by decide +kernel)
theorem wo_X8_trace : Cond.code yX8_trace cX8_trace 6 none ∈ wsAll := wA 565 (by decide +kernel) (by decide +kernel)
theorem cl_9_163_m {p : Program} {l : Launch} {e : Env} {R : Room} {s : State} {m : MethodId} {args : Array Value} {below : List Frame} {meth : Method} {c : Code} {cc : ByteArray} {nL : Nat} {D : va_G} {cy : Nat → ClassId} {ad : Nat → Nat} {n : Nat} {A : Nat → Prop} {mc ms : Nat} {Q : State → Prop} {S : Sg} {pc : Nat} {lv : List (Nat × Value)} {st : List Value} {ζ : Type} {z : ζ} (C : gC p s m args meth c cc nL RX9 D cy ad n A) (nx : Nat) {i1 : Nat} {x2 : Int32} (h_i1 : okM n i1 = true) (hR : Room.frames rm_X8_trace_m + 1 ≤ R.frames ∧ 8 + (6 + 11) + Room.locals rm_X8_trace_m ≤ R.locals) (hcm : mc ≤ R.cells ∧ ms ≤ R.slots) (hrest : (st.map fun v => v.category).sum ≤ 8) (hd : decode cc pc = .ok (.invokevirtual 163, 3)) (hn : pc + 3 = nx) {K : Sg → Option ζ} (hz : bd (f_X8_trace_m i1 x2 S) K = some z) (kk : ∀ S', K S' = some z → gW p l e R s m args below meth c D cy ad n A nL mc ms Q S' nx lv st) : gW p l e R s m args below meth c D cy ad n A nL mc ms Q S pc lv (.int x2 :: .ref (ad (i1 + 2)) :: .ref (ad 32) :: st) := by
  obtain ⟨q, hq, hk⟩ := bd_s hz
  exact g_callVN C (i := 32) (ci := 8) (Cn := RX8) (T := TX8) (N := 2) (y := yX8_trace) (rm := rm_X8_trace_m) (As := [.ref (ad (i1 + 2)), .int x2]) (rest := st) (na := 2) (fun sz => c_X8_trace_m l D cy ad n S sz i1 x2 q h_i1 hq) ha_32 rfl rfl wl_9_163 wi_X8_trace we_X8_trace wz_8 wo_X8_trace (by decide +kernel) rfl rfl hR hcm rfl hrest hn hd (kk q hk)
set_option maxRecDepth 20000 in
theorem t_X9_shortest {p : Program} {l : Launch} {e : Env} {s : State} {m : MethodId} {args : Array Value} {below : List Frame} {meth : Method} {c : Code} {D : va_G} {cy : Nat → ClassId} {ad : Nat → Nat} {n : Nat} {A : Nat → Prop} (C : gC p s m args meth c cX9_shortest 4 RX9 D cy ad n A) (hr : meth.sig.returnType = (some .int)) {z : Int32 × Sg} {S : Sg} {x1 : Int32} (hz : f_X9_shortest n x1 S = some z) : gW p l e rm_X9_shortest s m args below meth c D cy ad n A 4 0 0 (MQ below (gQ D cy ad n A (some (.int z.1)) z.2) args s 0 0 A) S 0 [(0, .ref (ad 0)), (1, .int x1)] [] := by
  unfold f_X9_shortest at hz
  refine g_aload_n C 1 0 rfl dX9_shortest_0 rfl ?_
  refine g_iload_n C 2 1 rfl dX9_shortest_1 rfl ?_
  refine cl_9_106 C 5 ⟨Nat.le_of_ble_eq_true rfl, Nat.le_of_ble_eq_true rfl⟩ ⟨Nat.zero_le _, Nat.zero_le _⟩ (Nat.le_of_ble_eq_true rfl) dX9_shortest_2 rfl hz (fun r_2 S_1 hz => ?_)
  refine g_astoreN_n C 6 (i := 2) [1, 0] [(0, .ref (ad 0)), (2, rv ad r_2)] dX9_shortest_5 rfl rfl (by decide) rfl ?_
  refine g_aloadN_n C 7 1 rfl dX9_shortest_6 rfl ?_
  refine g_ifnonnull C 12 10 dX9_shortest_7 rfl rfl hz (fun i_3 e_r h_i_3 hz_i_3 => ?_) (fun e_r hz_i_3 => ?_)
  · subst e_r; have hz := hz_i_3
    try rw [rv_some]
    refine g_aload_n C 13 1 rfl dX9_shortest_12 rfl ?_
    refine cl_9_118 C 16 h_i_3 ⟨Nat.le_of_ble_eq_true rfl, Nat.le_of_ble_eq_true rfl⟩ ⟨Nat.zero_le _, Nat.zero_le _⟩ (Nat.le_of_ble_eq_true rfl) dX9_shortest_13 rfl hz (fun r_5 S_4 hz => ?_)
    refine g_istore_n C 17 (i := 3) [1, 2, 0] (fun x3_6 => [(0, .ref (ad 0)), (2, .ref (ad i_3)), (3, .int x3_6)]) dX9_shortest_16 rfl rfl (by decide) (fun x3_6 => rfl) hz (fun x3_6 hz => ?_)
    refine g_iload_n C 18 2 rfl dX9_shortest_17 rfl ?_
    refine g_iconst C 19 (-1 : Int32) ci_m1 dX9_shortest_18 rfl ?_
    refine g_icmp_ne C 24 22 dX9_shortest_19 rfl rfl hz (fun hz => ?_) (fun hz => ?_)
    · refine g_aload_n C 25 0 rfl dX9_shortest_24 rfl ?_
      refine gf_9_72 C 28 dX9_shortest_25 rfl ?_
      refine g_aload_n C 29 1 rfl dX9_shortest_28 rfl ?_
      refine gf_9_160 C 32 h_i_3 dX9_shortest_29 rfl ?_
      refine g_iload_n C 33 2 rfl dX9_shortest_32 rfl ?_
      refine cl_9_163_m C 36 h_i_3 ⟨Nat.le_of_ble_eq_true rfl, Nat.le_of_ble_eq_true rfl⟩ ⟨Nat.zero_le _, Nat.zero_le _⟩ (Nat.le_of_ble_eq_true rfl) dX9_shortest_33 rfl hz (fun S_7 hz => ?_)
      refine g_aload_n C 37 0 rfl dX9_shortest_36 rfl ?_
      refine gf_9_72 C 40 dX9_shortest_37 rfl ?_
      refine gf_9_167 C 43 dX9_shortest_40 rfl ?_
      exact g_iret C hr dX9_shortest_43 hz
    · refine g_iconst C 23 (-1 : Int32) ci_m1 dX9_shortest_22 rfl ?_
      exact g_iret C hr dX9_shortest_23 hz
  · subst e_r; have hz := hz_i_3
    try rw [rv_none]
    refine g_iconst C 11 (-1 : Int32) ci_m1 dX9_shortest_10 rfl ?_
    exact g_iret C hr dX9_shortest_11 hz
theorem c_X9_shortest (l : Launch) (D : va_G) (cy : Nat → ClassId) (ad : Nat → Nat) (n : Nat) (S : Sg) (sz : Nat) (x1 : Int32) (z : Int32 × Sg) (hz : f_X9_shortest n x1 S = some z) : Met l yX9_shortest (.code yX9_shortest cX9_shortest 4 (some .int) :: wsAll) rm_X9_shortest (gPc D cy ad n S sz [.ref (ad 0), .int x1]) (gQ D cy ad n (va_A (wW cy ad n S) sz) (some (.int z.1)) z.2) 0 0 (va_A (wW cy ad n S) sz) := by
  refine gMet (lv := [(0, .ref (ad 0)), (1, .int x1)]) (by decide) (Nat.le_of_ble_eq_true rfl) rfl ?_
  intro p e s m args below meth c A hA hr C
  exact t_X9_shortest C hr hz
def rm_X2_visit : Room := { frames := 1, cells := 0, slots := 0, locals := 13 }
set_option maxRecDepth 20000 in
theorem t_X2_visit_L25 {p : Program} {l : Launch} {e : Env} {s : State} {m : MethodId} {args : Array Value} {below : List Frame} {meth : Method} {c : Code} {D : va_G} {cy : Nat → ClassId} {ad : Nat → Nat} {n : Nat} {A : Nat → Prop} (C : gC p s m args meth c cX2_visit 9 RX2 D cy ad n A) (hr : meth.sig.returnType = (some .int)) {z : Int32 × Sg} : ∀ (fl : Nat) (i1 : Nat) (i2 : Nat) (x4 : Int32) (x5 : Int32) (x6 : Int32) (x7 : Int32) (S : Sg), okM n i1 = true → okM n i2 = true → f_X2_visit_L25 fl i1 i2 x4 x5 x6 x7 S = some z → gW p l e rm_X2_visit s m args below meth c D cy ad n A 9 0 0 (MQ below (gQ D cy ad n A (some (.int z.1)) z.2) args s 0 0 A) S 25 [(0, .ref (ad 24)), (1, .ref (ad i1)), (2, .ref (ad i2)), (4, .int x4), (5, .int x5), (6, .int x6), (7, .int x7)] [] := by
  intro fl
  induction fl with
  | zero =>
    intro i1 i2 x4 x5 x6 x7 S h_i1 h_i2 hz
    rw [f_X2_visit_L25] at hz
    cases hz
  | succ fl ih =>
    intro i1 i2 x4 x5 x6 x7 S h_i1 h_i2 hz
    rw [f_X2_visit_L25] at hz
    refine g_iload C 27 6 rfl dX2_visit_25 rfl ?_
    refine g_iconst C 28 (4 : Int32) ci_4 dX2_visit_27 rfl ?_
    refine g_icmp_ge C 87 31 dX2_visit_28 rfl rfl hz (fun hz => ?_) (fun hz => ?_)
    · refine g_aload_n C 88 1 rfl dX2_visit_87 rfl ?_
      refine gf_2_43 C 91 h_i1 dX2_visit_88 rfl ?_
      refine g_iload C 93 4 rfl dX2_visit_91 rfl ?_
      refine g_zald C 94 (has_m h_i1 4 (by decide)) dX2_visit_93 rfl hz (fun hz => ?_)
      refine g_aload_n C 95 2 rfl dX2_visit_94 rfl ?_
      refine gf_2_43 C 98 h_i2 dX2_visit_95 rfl ?_
      refine g_iload C 100 5 rfl dX2_visit_98 rfl ?_
      refine g_zald C 101 (has_m h_i2 4 (by decide)) dX2_visit_100 rfl hz (fun hz => ?_)
      refine g_icmp_ne C 106 104 dX2_visit_101 rfl rfl hz (fun hz => ?_) (fun hz => ?_)
      · refine g_aload_n C 107 1 rfl dX2_visit_106 rfl ?_
        refine gf_2_43 C 110 h_i1 dX2_visit_107 rfl ?_
        refine g_iload C 112 4 rfl dX2_visit_110 rfl ?_
        refine g_zald C 113 (has_m h_i1 4 (by decide)) dX2_visit_112 rfl hz (fun hz => ?_)
        refine g_if_eq C 120 116 dX2_visit_113 rfl rfl hz (fun hz => ?_) (fun hz => ?_)
        · refine g_iconst C 121 (2 : Int32) ci_2 dX2_visit_120 rfl ?_
          exact g_iret C hr dX2_visit_121 hz
        · refine g_iconst C 117 (1 : Int32) ci_1 dX2_visit_116 rfl ?_
          refine g_goto C 121 dX2_visit_117 rfl ?_
          exact g_iret C hr dX2_visit_121 hz
      · refine g_iconst C 105 (0 : Int32) ci_0 dX2_visit_104 rfl ?_
        exact g_iret C hr dX2_visit_105 hz
    · refine g_aload_n C 32 1 rfl dX2_visit_31 rfl ?_
      refine gf_2_39 C 35 h_i1 dX2_visit_32 rfl ?_
      refine g_iload C 37 4 rfl dX2_visit_35 rfl ?_
      refine g_iconst C 38 (4 : Int32) ci_4 dX2_visit_37 rfl ?_
      refine g_imul C 39 dX2_visit_38 rfl ?_
      refine g_iload C 41 6 rfl dX2_visit_39 rfl ?_
      refine g_iadd C 42 dX2_visit_41 rfl ?_
      refine g_iald C 43 (has_m h_i1 1 (by decide)) dX2_visit_42 rfl hz (fun hz => ?_)
      refine g_iload C 45 3 rfl dX2_visit_43 rfl ?_
      refine g_imul C 46 dX2_visit_45 rfl ?_
      refine g_aload_n C 47 2 rfl dX2_visit_46 rfl ?_
      refine gf_2_39 C 50 h_i2 dX2_visit_47 rfl ?_
      refine g_iload C 52 5 rfl dX2_visit_50 rfl ?_
      refine g_iconst C 53 (4 : Int32) ci_4 dX2_visit_52 rfl ?_
      refine g_imul C 54 dX2_visit_53 rfl ?_
      refine g_iload C 56 6 rfl dX2_visit_54 rfl ?_
      refine g_iadd C 57 dX2_visit_56 rfl ?_
      refine g_iald C 58 (has_m h_i2 1 (by decide)) dX2_visit_57 rfl hz (fun hz => ?_)
      refine g_iadd C 59 dX2_visit_58 rfl ?_
      refine g_istore C 61 (i := 8) [1, 2, 3, 4, 5, 6, 7, 0] (fun x8_5 => [(0, .ref (ad 24)), (1, .ref (ad i1)), (2, .ref (ad i2)), (4, .int x4), (5, .int x5), (6, .int x6), (7, .int x7), (8, .int x8_5)]) dX2_visit_59 rfl (by decide) (fun x8_5 => rfl) hz (fun x8_5 hz => ?_)
      refine g_aload_n C 62 0 rfl dX2_visit_61 rfl ?_
      refine gf_2_11 C 65 dX2_visit_62 rfl ?_
      refine g_iload C 67 7 rfl dX2_visit_65 rfl ?_
      refine g_bipush C 69 (64 : Int32) cb_64 dX2_visit_67 rfl ?_
      refine g_idiv C 70 dX2_visit_69 rfl hz (fun hz => ?_)
      refine g_dup2 C 71 rfl rfl dX2_visit_70 rfl ?_
      refine g_lald C 72 ha_25 dX2_visit_71 rfl hz (fun hz => ?_)
      refine g_lconst C 73 (1 : Int64) cl_1 dX2_visit_72 rfl ?_
      refine g_iload C 75 7 rfl dX2_visit_73 rfl ?_
      refine g_bipush C 77 (64 : Int32) cb_64 dX2_visit_75 rfl ?_
      refine g_irem C 78 dX2_visit_77 rfl hz (fun hz => ?_)
      refine g_lshl C 79 dX2_visit_78 rfl ?_
      refine g_lor C 80 dX2_visit_79 rfl ?_
      refine g_last C 81 ha_25 dX2_visit_80 rfl hz (fun S_6 hz => ?_)
      refine g_iinc C 84 6 [1, 2, 3, 4, 5, 6, 0] (1 : Int32) ci_1 (fun x7_7 => [(0, .ref (ad 24)), (1, .ref (ad i1)), (2, .ref (ad i2)), (4, .int x4), (5, .int x5), (6, .int x6), (7, .int x7_7)]) dX2_visit_81 rfl rfl (by decide) (fun x7_7 => rfl) hz (fun x7_7 hz => ?_)
      refine g_goto C 25 dX2_visit_84 rfl ?_
      exact ih i1 i2 x4 x5 x6 x7_7 S_6 h_i1 h_i2 hz
set_option maxRecDepth 20000 in
theorem t_X2_visit {p : Program} {l : Launch} {e : Env} {s : State} {m : MethodId} {args : Array Value} {below : List Frame} {meth : Method} {c : Code} {D : va_G} {cy : Nat → ClassId} {ad : Nat → Nat} {n : Nat} {A : Nat → Prop} (C : gC p s m args meth c cX2_visit 9 RX2 D cy ad n A) (hr : meth.sig.returnType = (some .int)) {z : Int32 × Sg} {S : Sg} {i1 : Nat} {i2 : Nat} {x3 : Int32} (h_i1 : okM n i1 = true) (h_i2 : okM n i2 = true) (hz : f_X2_visit i1 i2 x3 S = some z) : gW p l e rm_X2_visit s m args below meth c D cy ad n A 9 0 0 (MQ below (gQ D cy ad n A (some (.int z.1)) z.2) args s 0 0 A) S 0 [(0, .ref (ad 24)), (1, .ref (ad i1)), (2, .ref (ad i2)), (3, .int x3)] [] := by
  unfold f_X2_visit at hz
  refine g_iconst C 1 (1 : Int32) ci_1 dX2_visit_0 rfl ?_
  refine g_aload_n C 2 2 rfl dX2_visit_1 rfl ?_
  refine gf_2_18 C 5 h_i2 dX2_visit_2 rfl ?_
  refine cl_2_33 C 8 ⟨Nat.le_of_ble_eq_true rfl, Nat.le_of_ble_eq_true rfl⟩ ⟨Nat.zero_le _, Nat.zero_le _⟩ dX2_visit_5 rfl ?_
  refine g_istore C 10 (i := 4) [1, 2, 3, 4, 0] (fun x4_1 => [(0, .ref (ad 24)), (1, .ref (ad i1)), (2, .ref (ad i2)), (3, .int x3), (4, .int x4_1)]) dX2_visit_8 rfl (by decide) (fun x4_1 => rfl) hz (fun x4_1 hz => ?_)
  refine g_iload_n C 11 3 rfl dX2_visit_10 rfl ?_
  refine g_iload C 13 4 rfl dX2_visit_11 rfl ?_
  refine g_idiv C 14 dX2_visit_13 rfl hz (fun hz => ?_)
  refine g_istore C 16 (i := 5) [1, 2, 3, 4, 5, 0] (fun x5_2 => [(0, .ref (ad 24)), (1, .ref (ad i1)), (2, .ref (ad i2)), (3, .int x3), (4, .int x4_1), (5, .int x5_2)]) dX2_visit_14 rfl (by decide) (fun x5_2 => rfl) hz (fun x5_2 hz => ?_)
  refine g_iload_n C 17 3 rfl dX2_visit_16 rfl ?_
  refine g_iload C 19 4 rfl dX2_visit_17 rfl ?_
  refine g_irem C 20 dX2_visit_19 rfl hz (fun hz => ?_)
  refine g_istore C 22 (i := 6) [1, 2, 3, 5, 6, 0] (fun x6_3 => [(0, .ref (ad 24)), (1, .ref (ad i1)), (2, .ref (ad i2)), (4, .int x4_1), (5, .int x5_2), (6, .int x6_3)]) dX2_visit_20 rfl (by decide) (fun x6_3 => rfl) hz (fun x6_3 hz => ?_)
  refine g_iconst C 23 (0 : Int32) ci_0 dX2_visit_22 rfl ?_
  refine g_istore C 25 (i := 7) [1, 2, 3, 4, 5, 6, 0] (fun x7_4 => [(0, .ref (ad 24)), (1, .ref (ad i1)), (2, .ref (ad i2)), (4, .int x4_1), (5, .int x5_2), (6, .int x6_3), (7, .int x7_4)]) dX2_visit_23 rfl (by decide) (fun x7_4 => rfl) hz (fun x7_4 hz => ?_)
  exact (t_X2_visit_L25 C hr fu) i1 i2 x4_1 x5_2 x6_3 x7_4 S h_i1 h_i2 hz
theorem c_X2_visit (l : Launch) (D : va_G) (cy : Nat → ClassId) (ad : Nat → Nat) (n : Nat) (S : Sg) (sz : Nat) (i1 : Nat) (i2 : Nat) (x3 : Int32) (z : Int32 × Sg) (h_i1 : okM n i1 = true) (h_i2 : okM n i2 = true) (hz : f_X2_visit i1 i2 x3 S = some z) : Met l yX2_visit (.code yX2_visit cX2_visit 9 (some .int) :: wsAll) rm_X2_visit (gPc D cy ad n S sz [.ref (ad 24), .ref (ad i1), .ref (ad i2), .int x3]) (gQ D cy ad n (va_A (wW cy ad n S) sz) (some (.int z.1)) z.2) 0 0 (va_A (wW cy ad n S) sz) := by
  refine gMet (lv := [(0, .ref (ad 24)), (1, .ref (ad i1)), (2, .ref (ad i2)), (3, .int x3)]) (by decide) (Nat.le_of_ble_eq_true rfl) rfl ?_
  intro p e s m args below meth c A hA hr C
  exact t_X2_visit C hr h_i1 h_i2 hz
def rm_X2_visitRow : Room := { frames := 2, cells := 0, slots := 0, locals := 41 }
theorem wc_2_24 : Cond.constantLong RX2 24 (-1) ∈ wsAll := wA 574 (by decide +kernel) (by decide +kernel)
theorem wl_2_30 : Cond.methodLink RX2 30 yX2_visit ∈ wsAll := wA 579 (by decide +kernel) (by decide +kernel)
theorem wi_X2_visit : Cond.instanceMethod yX2_visit ∈ wsAll := wA 581 (by decide +kernel) (by decide +kernel)
theorem we_X2_visit : Cond.selects RX2 yX2_visit yX2_visit ∈ wsAll := wAp 46 (by decide +kernel) (by decide +kernel)
theorem wz_2 : Cond.initialized RX2 ∈ wsAll := wA 7 (by decide +kernel) (by decide +kernel)
theorem wo_X2_visit : Cond.code yX2_visit cX2_visit 9 (some .int) ∈ wsAll := wA 582 (by decide +kernel) (by decide +kernel)
theorem cl_2_30 {p : Program} {l : Launch} {e : Env} {R : Room} {s : State} {m : MethodId} {args : Array Value} {below : List Frame} {meth : Method} {c : Code} {cc : ByteArray} {nL : Nat} {D : va_G} {cy : Nat → ClassId} {ad : Nat → Nat} {n : Nat} {A : Nat → Prop} {mc ms : Nat} {Q : State → Prop} {S : Sg} {pc : Nat} {lv : List (Nat × Value)} {st : List Value} {ζ : Type} {z : ζ} (C : gC p s m args meth c cc nL RX2 D cy ad n A) (nx : Nat) {i1 : Nat} {i2 : Nat} {x3 : Int32} (h_i1 : okM n i1 = true) (h_i2 : okM n i2 = true) (hR : Room.frames rm_X2_visit + 1 ≤ R.frames ∧ 8 + (9 + 11) + Room.locals rm_X2_visit ≤ R.locals) (hcm : mc ≤ R.cells ∧ ms ≤ R.slots) (hrest : (st.map fun v => v.category).sum ≤ 8) (hd : decode cc pc = .ok (.invokevirtual 30, 3)) (hn : pc + 3 = nx) {K : Int32 → Sg → Option ζ} (hz : bd2 (f_X2_visit i1 i2 x3 S) K = some z) (kk : ∀ r S', K r S' = some z → gW p l e R s m args below meth c D cy ad n A nL mc ms Q S' nx lv (.int r :: st)) : gW p l e R s m args below meth c D cy ad n A nL mc ms Q S pc lv (.int x3 :: .ref (ad i2) :: .ref (ad i1) :: .ref (ad 24) :: st) := by
  obtain ⟨q, hq, hk⟩ := bd2_s hz
  exact g_callV C (i := 24) (ci := 2) (Cn := RX2) (T := TX2) (N := 2) (y := yX2_visit) (rm := rm_X2_visit) (As := [.ref (ad i1), .ref (ad i2), .int x3]) (rest := st) (na := 3) (fun sz => c_X2_visit l D cy ad n S sz i1 i2 x3 q h_i1 h_i2 hq) ha_24 rfl rfl wl_2_30 wi_X2_visit we_X2_visit wz_2 wo_X2_visit (by decide +kernel) rfl rfl hR hcm rfl hrest hn hd (kk q.1 q.2 hk)
set_option maxRecDepth 20000 in
theorem t_X2_visitRow_L6 {p : Program} {l : Launch} {e : Env} {s : State} {m : MethodId} {args : Array Value} {below : List Frame} {meth : Method} {c : Code} {D : va_G} {cy : Nat → ClassId} {ad : Nat → Nat} {n : Nat} {A : Nat → Prop} (C : gC p s m args meth c cX2_visitRow 6 RX2 D cy ad n A) (hr : meth.sig.returnType = (some .int)) {z : Int32 × Sg} : ∀ (fl : Nat) (i1 : Nat) (i2 : Nat) (x3 : Int32) (x4 : Int32) (x5 : Int32) (S : Sg), okM n i1 = true → okM n i2 = true → f_X2_visitRow_L6 fl i1 i2 x3 x4 x5 S = some z → gW p l e rm_X2_visitRow s m args below meth c D cy ad n A 6 0 0 (MQ below (gQ D cy ad n A (some (.int z.1)) z.2) args s 0 0 A) S 6 [(0, .ref (ad 24)), (1, .ref (ad i1)), (2, .ref (ad i2)), (3, .int x3), (4, .int x4), (5, .int x5)] [] := by
  intro fl
  induction fl with
  | zero =>
    intro i1 i2 x3 x4 x5 S h_i1 h_i2 hz
    rw [f_X2_visitRow_L6] at hz
    cases hz
  | succ fl ih =>
    intro i1 i2 x3 x4 x5 S h_i1 h_i2 hz
    rw [f_X2_visitRow_L6] at hz
    refine g_iload C 8 5 rfl dX2_visitRow_6 rfl ?_
    refine g_bipush C 10 (64 : Int32) cb_64 dX2_visitRow_8 rfl ?_
    refine g_icmp_ge C 77 13 dX2_visitRow_10 rfl rfl hz (fun hz => ?_) (fun hz => ?_)
    · refine g_iload C 79 4 rfl dX2_visitRow_77 rfl ?_
      exact g_iret C hr dX2_visitRow_79 hz
    · refine g_aload_n C 14 0 rfl dX2_visitRow_13 rfl ?_
      refine gf_2_11 C 17 dX2_visitRow_14 rfl ?_
      refine g_iload_n C 18 3 rfl dX2_visitRow_17 rfl ?_
      refine g_lald C 19 ha_25 dX2_visitRow_18 rfl hz (fun hz => ?_)
      refine g_aload_n C 20 0 rfl dX2_visitRow_19 rfl ?_
      refine gf_2_15 C 23 dX2_visitRow_20 rfl ?_
      refine g_iload_n C 24 3 rfl dX2_visitRow_23 rfl ?_
      refine g_lald C 25 ha_26 dX2_visitRow_24 rfl hz (fun hz => ?_)
      refine g_ldc2 C 28 wc_2_24 dX2_visitRow_25 rfl ?_
      refine g_lxor C 29 dX2_visitRow_28 rfl ?_
      refine g_land C 30 dX2_visitRow_29 rfl ?_
      refine g_iload C 32 5 rfl dX2_visitRow_30 rfl ?_
      refine g_lushr C 33 dX2_visitRow_32 rfl ?_
      refine g_lconst C 34 (1 : Int64) cl_1 dX2_visitRow_33 rfl ?_
      refine g_land C 35 dX2_visitRow_34 rfl ?_
      refine g_lconst C 36 (0 : Int64) cl_0 dX2_visitRow_35 rfl ?_
      refine g_lcmp C 37 dX2_visitRow_36 rfl ?_
      refine g_if_eq C 71 40 dX2_visitRow_37 rfl rfl hz (fun hz => ?_) (fun hz => ?_)
      · refine g_iinc C 74 5 [1, 2, 3, 4, 5, 0] (1 : Int32) ci_1 (fun x5_3 => [(0, .ref (ad 24)), (1, .ref (ad i1)), (2, .ref (ad i2)), (3, .int x3), (4, .int x4), (5, .int x5_3)]) dX2_visitRow_71 rfl rfl (by decide) (fun x5_3 => rfl) hz (fun x5_3 hz => ?_)
        refine g_goto C 6 dX2_visitRow_74 rfl ?_
        exact ih i1 i2 x3 x4 x5_3 S h_i1 h_i2 hz
      · refine g_aload_n C 41 0 rfl dX2_visitRow_40 rfl ?_
        refine gf_2_15 C 44 dX2_visitRow_41 rfl ?_
        refine g_iload_n C 45 3 rfl dX2_visitRow_44 rfl ?_
        refine g_dup2 C 46 rfl rfl dX2_visitRow_45 rfl ?_
        refine g_lald C 47 ha_26 dX2_visitRow_46 rfl hz (fun hz => ?_)
        refine g_lconst C 48 (1 : Int64) cl_1 dX2_visitRow_47 rfl ?_
        refine g_iload C 50 5 rfl dX2_visitRow_48 rfl ?_
        refine g_lshl C 51 dX2_visitRow_50 rfl ?_
        refine g_lor C 52 dX2_visitRow_51 rfl ?_
        refine g_last C 53 ha_26 dX2_visitRow_52 rfl hz (fun S_4 hz => ?_)
        refine g_iload C 55 4 rfl dX2_visitRow_53 rfl ?_
        refine g_aload_n C 56 0 rfl dX2_visitRow_55 rfl ?_
        refine g_aload_n C 57 1 rfl dX2_visitRow_56 rfl ?_
        refine g_aload_n C 58 2 rfl dX2_visitRow_57 rfl ?_
        refine g_iload_n C 59 3 rfl dX2_visitRow_58 rfl ?_
        refine g_bipush C 61 (64 : Int32) cb_64 dX2_visitRow_59 rfl ?_
        refine g_imul C 62 dX2_visitRow_61 rfl ?_
        refine g_iload C 64 5 rfl dX2_visitRow_62 rfl ?_
        refine g_iadd C 65 dX2_visitRow_64 rfl ?_
        refine cl_2_30 C 68 h_i1 h_i2 ⟨Nat.le_of_ble_eq_true rfl, Nat.le_of_ble_eq_true rfl⟩ ⟨Nat.zero_le _, Nat.zero_le _⟩ (Nat.le_of_ble_eq_true rfl) dX2_visitRow_65 rfl hz (fun r_6 S_5 hz => ?_)
        refine g_ior C 69 dX2_visitRow_68 rfl ?_
        refine g_istore C 71 (i := 4) [1, 2, 3, 4, 0, 5] (fun x4_7 => [(0, .ref (ad 24)), (1, .ref (ad i1)), (2, .ref (ad i2)), (3, .int x3), (4, .int x4_7), (5, .int x5)]) dX2_visitRow_69 rfl (by decide) (fun x4_7 => rfl) hz (fun x4_7 hz => ?_)
        refine g_iinc C 74 5 [1, 2, 3, 4, 5, 0] (1 : Int32) ci_1 (fun x5_8 => [(0, .ref (ad 24)), (1, .ref (ad i1)), (2, .ref (ad i2)), (3, .int x3), (4, .int x4_7), (5, .int x5_8)]) dX2_visitRow_71 rfl rfl (by decide) (fun x5_8 => rfl) hz (fun x5_8 hz => ?_)
        refine g_goto C 6 dX2_visitRow_74 rfl ?_
        exact ih i1 i2 x3 x4_7 x5_8 S_5 h_i1 h_i2 hz
set_option maxRecDepth 20000 in
theorem t_X2_visitRow {p : Program} {l : Launch} {e : Env} {s : State} {m : MethodId} {args : Array Value} {below : List Frame} {meth : Method} {c : Code} {D : va_G} {cy : Nat → ClassId} {ad : Nat → Nat} {n : Nat} {A : Nat → Prop} (C : gC p s m args meth c cX2_visitRow 6 RX2 D cy ad n A) (hr : meth.sig.returnType = (some .int)) {z : Int32 × Sg} {S : Sg} {i1 : Nat} {i2 : Nat} {x3 : Int32} (h_i1 : okM n i1 = true) (h_i2 : okM n i2 = true) (hz : f_X2_visitRow i1 i2 x3 S = some z) : gW p l e rm_X2_visitRow s m args below meth c D cy ad n A 6 0 0 (MQ below (gQ D cy ad n A (some (.int z.1)) z.2) args s 0 0 A) S 0 [(0, .ref (ad 24)), (1, .ref (ad i1)), (2, .ref (ad i2)), (3, .int x3)] [] := by
  unfold f_X2_visitRow at hz
  refine g_iconst C 1 (0 : Int32) ci_0 dX2_visitRow_0 rfl ?_
  refine g_istore C 3 (i := 4) [1, 2, 3, 4, 0] (fun x4_1 => [(0, .ref (ad 24)), (1, .ref (ad i1)), (2, .ref (ad i2)), (3, .int x3), (4, .int x4_1)]) dX2_visitRow_1 rfl (by decide) (fun x4_1 => rfl) hz (fun x4_1 hz => ?_)
  refine g_iconst C 4 (0 : Int32) ci_0 dX2_visitRow_3 rfl ?_
  refine g_istore C 6 (i := 5) [1, 2, 3, 4, 5, 0] (fun x5_2 => [(0, .ref (ad 24)), (1, .ref (ad i1)), (2, .ref (ad i2)), (3, .int x3), (4, .int x4_1), (5, .int x5_2)]) dX2_visitRow_4 rfl (by decide) (fun x5_2 => rfl) hz (fun x5_2 hz => ?_)
  exact (t_X2_visitRow_L6 C hr fu) i1 i2 x3 x4_1 x5_2 S h_i1 h_i2 hz
theorem c_X2_visitRow (l : Launch) (D : va_G) (cy : Nat → ClassId) (ad : Nat → Nat) (n : Nat) (S : Sg) (sz : Nat) (i1 : Nat) (i2 : Nat) (x3 : Int32) (z : Int32 × Sg) (h_i1 : okM n i1 = true) (h_i2 : okM n i2 = true) (hz : f_X2_visitRow i1 i2 x3 S = some z) : Met l yX2_visitRow (.code yX2_visitRow cX2_visitRow 6 (some .int) :: wsAll) rm_X2_visitRow (gPc D cy ad n S sz [.ref (ad 24), .ref (ad i1), .ref (ad i2), .int x3]) (gQ D cy ad n (va_A (wW cy ad n S) sz) (some (.int z.1)) z.2) 0 0 (va_A (wW cy ad n S) sz) := by
  refine gMet (lv := [(0, .ref (ad 24)), (1, .ref (ad i1)), (2, .ref (ad i2)), (3, .int x3)]) (by decide) (Nat.le_of_ble_eq_true rfl) rfl ?_
  intro p e s m args below meth c A hA hr C
  exact t_X2_visitRow C hr h_i1 h_i2 hz
