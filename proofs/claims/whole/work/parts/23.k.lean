def rm_X3_goAlike : Room := { frames := 0, cells := 0, slots := 0, locals := 0 }
set_option maxRecDepth 20000 in
theorem t_X3_goAlike_L2 {p : Program} {l : Launch} {e : Env} {s : State} {m : MethodId} {args : Array Value} {below : List Frame} {meth : Method} {c : Code} {D : va_G} {cy : Nat → ClassId} {ad : Nat → Nat} {n : Nat} {A : Nat → Prop} (C : gC p s m args meth c cX3_goAlike 6 RX3 D cy ad n A) (hr : meth.sig.returnType = (some .boolean)) {z : Int32 × Sg} : ∀ (fl : Nat) (i0 : Nat) (x1 : Int32) (x2 : Int32) (x3 : Int32) (S : Sg), okM n i0 = true → f_X3_goAlike_L2 fl i0 x1 x2 x3 S = some z → gW p l e rm_X3_goAlike s m args below meth c D cy ad n A 6 0 0 (MQ below (gQ D cy ad n A (some (.int z.1)) z.2) args s 0 0 A) S 2 [(0, .ref (ad i0)), (1, .int x1), (2, .int x2), (3, .int x3)] [] := by
  intro fl
  induction fl with
  | zero =>
    intro i0 x1 x2 x3 S h_i0 hz
    rw [f_X3_goAlike_L2] at hz
    cases hz
  | succ fl ih =>
    intro i0 x1 x2 x3 S h_i0 hz
    rw [f_X3_goAlike_L2] at hz
    refine g_iload_n C 3 3 rfl dX3_goAlike_2 rfl ?_
    refine g_iconst C 4 (4 : Int32) ci_4 dX3_goAlike_3 rfl ?_
    refine g_icmp_ge C 56 7 dX3_goAlike_4 rfl rfl hz (fun hz => ?_) (fun hz => ?_)
    · refine g_iconst C 57 (1 : Int32) ci_1 dX3_goAlike_56 rfl ?_
      exact g_zretc C hr (by decide) dX3_goAlike_57 hz
    · refine g_aload_n C 8 0 rfl dX3_goAlike_7 rfl ?_
      refine gf_3_69 C 11 h_i0 dX3_goAlike_8 rfl ?_
      refine g_iload_n C 12 1 rfl dX3_goAlike_11 rfl ?_
      refine g_iconst C 13 (4 : Int32) ci_4 dX3_goAlike_12 rfl ?_
      refine g_imul C 14 dX3_goAlike_13 rfl ?_
      refine g_iload_n C 15 3 rfl dX3_goAlike_14 rfl ?_
      refine g_iadd C 16 dX3_goAlike_15 rfl ?_
      refine g_iald C 17 (has_m h_i0 1 (by decide)) dX3_goAlike_16 rfl hz (fun hz => ?_)
      refine g_istore C 19 (i := 4) [1, 2, 3, 4, 0] (fun x4_2 => [(0, .ref (ad i0)), (1, .int x1), (2, .int x2), (3, .int x3), (4, .int x4_2)]) dX3_goAlike_17 rfl (by decide) (fun x4_2 => rfl) hz (fun x4_2 hz => ?_)
      refine g_aload_n C 20 0 rfl dX3_goAlike_19 rfl ?_
      refine gf_3_69 C 23 h_i0 dX3_goAlike_20 rfl ?_
      refine g_iload_n C 24 2 rfl dX3_goAlike_23 rfl ?_
      refine g_iconst C 25 (4 : Int32) ci_4 dX3_goAlike_24 rfl ?_
      refine g_imul C 26 dX3_goAlike_25 rfl ?_
      refine g_iload_n C 27 3 rfl dX3_goAlike_26 rfl ?_
      refine g_iadd C 28 dX3_goAlike_27 rfl ?_
      refine g_iald C 29 (has_m h_i0 1 (by decide)) dX3_goAlike_28 rfl hz (fun hz => ?_)
      refine g_istore C 31 (i := 5) [1, 2, 3, 4, 5, 0] (fun x5_3 => [(0, .ref (ad i0)), (1, .int x1), (2, .int x2), (3, .int x3), (4, .int x4_2), (5, .int x5_3)]) dX3_goAlike_29 rfl (by decide) (fun x5_3 => rfl) hz (fun x5_3 hz => ?_)
      refine g_aload_n C 32 0 rfl dX3_goAlike_31 rfl ?_
      refine gf_3_52 C 35 h_i0 dX3_goAlike_32 rfl ?_
      refine g_iload C 37 4 rfl dX3_goAlike_35 rfl ?_
      refine g_iald C 38 (has_m h_i0 5 (by decide)) dX3_goAlike_37 rfl hz (fun hz => ?_)
      refine g_aload_n C 39 0 rfl dX3_goAlike_38 rfl ?_
      refine gf_3_52 C 42 h_i0 dX3_goAlike_39 rfl ?_
      refine g_iload C 44 5 rfl dX3_goAlike_42 rfl ?_
      refine g_iald C 45 (has_m h_i0 5 (by decide)) dX3_goAlike_44 rfl hz (fun hz => ?_)
      refine g_icmp_eq C 50 48 dX3_goAlike_45 rfl rfl hz (fun hz => ?_) (fun hz => ?_)
      · refine g_iinc C 53 3 [1, 2, 3, 0] (1 : Int32) ci_1 (fun x3_4 => [(0, .ref (ad i0)), (1, .int x1), (2, .int x2), (3, .int x3_4)]) dX3_goAlike_50 rfl rfl (by decide) (fun x3_4 => rfl) hz (fun x3_4 hz => ?_)
        refine g_goto C 2 dX3_goAlike_53 rfl ?_
        exact ih i0 x1 x2 x3_4 S h_i0 hz
      · refine g_iconst C 49 (0 : Int32) ci_0 dX3_goAlike_48 rfl ?_
        exact g_zretc C hr (by decide) dX3_goAlike_49 hz
set_option maxRecDepth 20000 in
theorem t_X3_goAlike {p : Program} {l : Launch} {e : Env} {s : State} {m : MethodId} {args : Array Value} {below : List Frame} {meth : Method} {c : Code} {D : va_G} {cy : Nat → ClassId} {ad : Nat → Nat} {n : Nat} {A : Nat → Prop} (C : gC p s m args meth c cX3_goAlike 6 RX3 D cy ad n A) (hr : meth.sig.returnType = (some .boolean)) {z : Int32 × Sg} {S : Sg} {i0 : Nat} {x1 : Int32} {x2 : Int32} (h_i0 : okM n i0 = true) (hz : f_X3_goAlike i0 x1 x2 S = some z) : gW p l e rm_X3_goAlike s m args below meth c D cy ad n A 6 0 0 (MQ below (gQ D cy ad n A (some (.int z.1)) z.2) args s 0 0 A) S 0 [(0, .ref (ad i0)), (1, .int x1), (2, .int x2)] [] := by
  unfold f_X3_goAlike at hz
  refine g_iconst C 1 (0 : Int32) ci_0 dX3_goAlike_0 rfl ?_
  refine g_istore_n C 2 (i := 3) [1, 2, 3, 0] (fun x3_1 => [(0, .ref (ad i0)), (1, .int x1), (2, .int x2), (3, .int x3_1)]) dX3_goAlike_1 rfl rfl (by decide) (fun x3_1 => rfl) hz (fun x3_1 hz => ?_)
  exact (t_X3_goAlike_L2 C hr fu) i0 x1 x2 x3_1 S h_i0 hz
theorem c_X3_goAlike (l : Launch) (D : va_G) (cy : Nat → ClassId) (ad : Nat → Nat) (n : Nat) (S : Sg) (sz : Nat) (i0 : Nat) (x1 : Int32) (x2 : Int32) (z : Int32 × Sg) (h_i0 : okM n i0 = true) (hz : f_X3_goAlike i0 x1 x2 S = some z) : Met l yX3_goAlike (.code yX3_goAlike cX3_goAlike 6 (some .boolean) :: wsAll) rm_X3_goAlike (gPc D cy ad n S sz [.ref (ad i0), .int x1, .int x2]) (gQ D cy ad n (va_A (wW cy ad n S) sz) (some (.int z.1)) z.2) 0 0 (va_A (wW cy ad n S) sz) := by
  refine gMet (lv := [(0, .ref (ad i0)), (1, .int x1), (2, .int x2)]) (by decide) (Nat.le_of_ble_eq_true rfl) rfl ?_
  intro p e s m args below meth c A hA hr C
  exact t_X3_goAlike C hr h_i0 hz
def rm_X3_leaderLike : Room := { frames := 1, cells := 0, slots := 0, locals := 25 }
theorem wl_3_65 : Cond.methodLink RX3 65 yX3_goAlike ∈ wsAll := wA 480 (by decide +kernel) (by decide +kernel)
theorem ws_X3_goAlike : Cond.static yX3_goAlike ∈ wsAll := wA 481 (by decide +kernel) (by decide +kernel)
theorem wz_3 : Cond.initialized RX3 ∈ wsAll := wA 5 (by decide +kernel) (by decide +kernel)
theorem wo_X3_goAlike : Cond.code yX3_goAlike cX3_goAlike 6 (some .boolean) ∈ wsAll := wA 482 (by decide +kernel) (by decide +kernel)
theorem cl_3_65 {p : Program} {l : Launch} {e : Env} {R : Room} {s : State} {m : MethodId} {args : Array Value} {below : List Frame} {meth : Method} {c : Code} {cc : ByteArray} {nL : Nat} {D : va_G} {cy : Nat → ClassId} {ad : Nat → Nat} {n : Nat} {A : Nat → Prop} {mc ms : Nat} {Q : State → Prop} {S : Sg} {pc : Nat} {lv : List (Nat × Value)} {st : List Value} {ζ : Type} {z : ζ} (C : gC p s m args meth c cc nL RX3 D cy ad n A) (nx : Nat) {i0 : Nat} {x1 : Int32} {x2 : Int32} (h_i0 : okM n i0 = true) (hR : Room.frames rm_X3_goAlike + 1 ≤ R.frames ∧ 8 + (6 + 11) + Room.locals rm_X3_goAlike ≤ R.locals) (hcm : mc ≤ R.cells ∧ ms ≤ R.slots) (hrest : (st.map fun v => v.category).sum ≤ 8) (hd : decode cc pc = .ok (.invokestatic 65, 3)) (hn : pc + 3 = nx) {K : Int32 → Sg → Option ζ} (hz : bd2 (f_X3_goAlike i0 x1 x2 S) K = some z) (kk : ∀ r S', K r S' = some z → gW p l e R s m args below meth c D cy ad n A nL mc ms Q S' nx lv (.int r :: st)) : gW p l e R s m args below meth c D cy ad n A nL mc ms Q S pc lv (.int x2 :: .int x1 :: .ref (ad i0) :: st) := by
  obtain ⟨q, hq, hk⟩ := bd2_s hz
  exact g_callS C (y := yX3_goAlike) (rm := rm_X3_goAlike) (As := [.ref (ad i0), .int x1, .int x2]) (rest := st) (na := 3) (fun sz => c_X3_goAlike l D cy ad n S sz i0 x1 x2 q h_i0 hq) wl_3_65 ws_X3_goAlike wz_3 wo_X3_goAlike (by decide +kernel) rfl rfl hR hcm rfl hrest hn hd (kk q.1 q.2 hk)
set_option maxRecDepth 20000 in
theorem t_X3_leaderLike_L15 {p : Program} {l : Launch} {e : Env} {s : State} {m : MethodId} {args : Array Value} {below : List Frame} {meth : Method} {c : Code} {D : va_G} {cy : Nat → ClassId} {ad : Nat → Nat} {n : Nat} {A : Nat → Prop} (C : gC p s m args meth c cX3_leaderLike 5 RX3 D cy ad n A) (hr : meth.sig.returnType = (some .int)) {z : Int32 × Sg} : ∀ (fl : Nat) (i1 : Nat) (x2 : Int32) (x3 : Int32) (x4 : Int32) (S : Sg), okM n i1 = true → f_X3_leaderLike_L15 fl i1 x2 x3 x4 S = some z → gW p l e rm_X3_leaderLike s m args below meth c D cy ad n A 5 0 0 (MQ below (gQ D cy ad n A (some (.int z.1)) z.2) args s 0 0 A) S 15 [(0, .ref (ad 17)), (1, .ref (ad i1)), (2, .int x2), (3, .int x3), (4, .int x4)] [] := by
  intro fl
  induction fl with
  | zero =>
    intro i1 x2 x3 x4 S h_i1 hz
    rw [f_X3_leaderLike_L15] at hz
    cases hz
  | succ fl ih =>
    intro i1 x2 x3 x4 S h_i1 hz
    rw [f_X3_leaderLike_L15] at hz
    refine g_iload C 17 4 rfl dX3_leaderLike_15 rfl ?_
    refine g_sipush C 20 (150 : Int32) cs_150 dX3_leaderLike_17 rfl ?_
    refine g_icmp_ge C 52 23 dX3_leaderLike_20 rfl rfl hz (fun hz => ?_) (fun hz => ?_)
    · refine g_iconst C 53 (-1 : Int32) ci_m1 dX3_leaderLike_52 rfl ?_
      exact g_iret C hr dX3_leaderLike_53 hz
    · refine g_iload_n C 24 3 rfl dX3_leaderLike_23 rfl ?_
      refine g_iconst C 25 (-1 : Int32) ci_m1 dX3_leaderLike_24 rfl ?_
      refine g_icmp_eq C 52 28 dX3_leaderLike_25 rfl rfl hz (fun hz => ?_) (fun hz => ?_)
      · refine g_iconst C 53 (-1 : Int32) ci_m1 dX3_leaderLike_52 rfl ?_
        exact g_iret C hr dX3_leaderLike_53 hz
      · refine g_aload_n C 29 1 rfl dX3_leaderLike_28 rfl ?_
        refine g_iload_n C 30 2 rfl dX3_leaderLike_29 rfl ?_
        refine g_iload_n C 31 3 rfl dX3_leaderLike_30 rfl ?_
        refine cl_3_65 C 34 h_i1 ⟨Nat.le_of_ble_eq_true rfl, Nat.le_of_ble_eq_true rfl⟩ ⟨Nat.zero_le _, Nat.zero_le _⟩ (Nat.le_of_ble_eq_true rfl) dX3_leaderLike_31 rfl hz (fun r_4 S_3 hz => ?_)
        refine g_if_eq C 39 37 dX3_leaderLike_34 rfl rfl hz (fun hz => ?_) (fun hz => ?_)
        · refine g_aload_n C 40 0 rfl dX3_leaderLike_39 rfl ?_
          refine gf_3_18 C 43 dX3_leaderLike_40 rfl ?_
          refine g_iload_n C 44 3 rfl dX3_leaderLike_43 rfl ?_
          refine g_iald C 45 ha_20 dX3_leaderLike_44 rfl hz (fun hz => ?_)
          refine g_istore_n C 46 (i := 3) [1, 2, 3, 0, 4] (fun x3_5 => [(0, .ref (ad 17)), (1, .ref (ad i1)), (2, .int x2), (3, .int x3_5), (4, .int x4)]) dX3_leaderLike_45 rfl rfl (by decide) (fun x3_5 => rfl) hz (fun x3_5 hz => ?_)
          refine g_iinc C 49 4 [1, 2, 3, 4, 0] (1 : Int32) ci_1 (fun x4_6 => [(0, .ref (ad 17)), (1, .ref (ad i1)), (2, .int x2), (3, .int x3_5), (4, .int x4_6)]) dX3_leaderLike_46 rfl rfl (by decide) (fun x4_6 => rfl) hz (fun x4_6 hz => ?_)
          refine g_goto C 15 dX3_leaderLike_49 rfl ?_
          exact ih i1 x2 x3_5 x4_6 S_3 h_i1 hz
        · refine g_iload_n C 38 3 rfl dX3_leaderLike_37 rfl ?_
          exact g_iret C hr dX3_leaderLike_38 hz
set_option maxRecDepth 20000 in
theorem t_X3_leaderLike {p : Program} {l : Launch} {e : Env} {s : State} {m : MethodId} {args : Array Value} {below : List Frame} {meth : Method} {c : Code} {D : va_G} {cy : Nat → ClassId} {ad : Nat → Nat} {n : Nat} {A : Nat → Prop} (C : gC p s m args meth c cX3_leaderLike 5 RX3 D cy ad n A) (hr : meth.sig.returnType = (some .int)) {z : Int32 × Sg} {S : Sg} {i1 : Nat} {x2 : Int32} (h_i1 : okM n i1 = true) (hz : f_X3_leaderLike i1 x2 S = some z) : gW p l e rm_X3_leaderLike s m args below meth c D cy ad n A 5 0 0 (MQ below (gQ D cy ad n A (some (.int z.1)) z.2) args s 0 0 A) S 0 [(0, .ref (ad 17)), (1, .ref (ad i1)), (2, .int x2)] [] := by
  unfold f_X3_leaderLike at hz
  refine g_aload_n C 1 0 rfl dX3_leaderLike_0 rfl ?_
  refine gf_3_15 C 4 dX3_leaderLike_1 rfl ?_
  refine g_aload_n C 5 1 rfl dX3_leaderLike_4 rfl ?_
  refine gf_3_52 C 8 h_i1 dX3_leaderLike_5 rfl ?_
  refine g_iload_n C 9 2 rfl dX3_leaderLike_8 rfl ?_
  refine g_iald C 10 (has_m h_i1 5 (by decide)) dX3_leaderLike_9 rfl hz (fun hz => ?_)
  refine g_iald C 11 ha_19 dX3_leaderLike_10 rfl hz (fun hz => ?_)
  refine g_istore_n C 12 (i := 3) [1, 2, 3, 0] (fun x3_1 => [(0, .ref (ad 17)), (1, .ref (ad i1)), (2, .int x2), (3, .int x3_1)]) dX3_leaderLike_11 rfl rfl (by decide) (fun x3_1 => rfl) hz (fun x3_1 hz => ?_)
  refine g_iconst C 13 (0 : Int32) ci_0 dX3_leaderLike_12 rfl ?_
  refine g_istore C 15 (i := 4) [1, 2, 3, 4, 0] (fun x4_2 => [(0, .ref (ad 17)), (1, .ref (ad i1)), (2, .int x2), (3, .int x3_1), (4, .int x4_2)]) dX3_leaderLike_13 rfl (by decide) (fun x4_2 => rfl) hz (fun x4_2 hz => ?_)
  exact (t_X3_leaderLike_L15 C hr fu) i1 x2 x3_1 x4_2 S h_i1 hz
theorem c_X3_leaderLike (l : Launch) (D : va_G) (cy : Nat → ClassId) (ad : Nat → Nat) (n : Nat) (S : Sg) (sz : Nat) (i1 : Nat) (x2 : Int32) (z : Int32 × Sg) (h_i1 : okM n i1 = true) (hz : f_X3_leaderLike i1 x2 S = some z) : Met l yX3_leaderLike (.code yX3_leaderLike cX3_leaderLike 5 (some .int) :: wsAll) rm_X3_leaderLike (gPc D cy ad n S sz [.ref (ad 17), .ref (ad i1), .int x2]) (gQ D cy ad n (va_A (wW cy ad n S) sz) (some (.int z.1)) z.2) 0 0 (va_A (wW cy ad n S) sz) := by
  refine gMet (lv := [(0, .ref (ad 17)), (1, .ref (ad i1)), (2, .int x2)]) (by decide) (Nat.le_of_ble_eq_true rfl) rfl ?_
  intro p e s m args below meth c A hA hr C
  exact t_X3_leaderLike C hr h_i1 hz
def rm_X3_divideByNext : Room := { frames := 2, cells := 0, slots := 0, locals := 200 }
theorem wl_3_55 : Cond.methodLink RX3 55 yX3_leaderLike ∈ wsAll := wA 476 (by decide +kernel) (by decide +kernel)
theorem wi_X3_leaderLike : Cond.instanceMethod yX3_leaderLike ∈ wsAll := wA 478 (by decide +kernel) (by decide +kernel)
theorem we_X3_leaderLike : Cond.selects RX3 yX3_leaderLike yX3_leaderLike ∈ wsAll := wAp 34 (by decide +kernel) (by decide +kernel)
theorem wo_X3_leaderLike : Cond.code yX3_leaderLike cX3_leaderLike 5 (some .int) ∈ wsAll := wA 479 (by decide +kernel) (by decide +kernel)
theorem cl_3_55 {p : Program} {l : Launch} {e : Env} {R : Room} {s : State} {m : MethodId} {args : Array Value} {below : List Frame} {meth : Method} {c : Code} {cc : ByteArray} {nL : Nat} {D : va_G} {cy : Nat → ClassId} {ad : Nat → Nat} {n : Nat} {A : Nat → Prop} {mc ms : Nat} {Q : State → Prop} {S : Sg} {pc : Nat} {lv : List (Nat × Value)} {st : List Value} {ζ : Type} {z : ζ} (C : gC p s m args meth c cc nL RX3 D cy ad n A) (nx : Nat) {i1 : Nat} {x2 : Int32} (h_i1 : okM n i1 = true) (hR : Room.frames rm_X3_leaderLike + 1 ≤ R.frames ∧ 8 + (5 + 11) + Room.locals rm_X3_leaderLike ≤ R.locals) (hcm : mc ≤ R.cells ∧ ms ≤ R.slots) (hrest : (st.map fun v => v.category).sum ≤ 8) (hd : decode cc pc = .ok (.invokevirtual 55, 3)) (hn : pc + 3 = nx) {K : Int32 → Sg → Option ζ} (hz : bd2 (f_X3_leaderLike i1 x2 S) K = some z) (kk : ∀ r S', K r S' = some z → gW p l e R s m args below meth c D cy ad n A nL mc ms Q S' nx lv (.int r :: st)) : gW p l e R s m args below meth c D cy ad n A nL mc ms Q S pc lv (.int x2 :: .ref (ad i1) :: .ref (ad 17) :: st) := by
  obtain ⟨q, hq, hk⟩ := bd2_s hz
  exact g_callV C (i := 17) (ci := 3) (Cn := RX3) (T := TX3) (N := 4) (y := yX3_leaderLike) (rm := rm_X3_leaderLike) (As := [.ref (ad i1), .int x2]) (rest := st) (na := 2) (fun sz => c_X3_leaderLike l D cy ad n S sz i1 x2 q h_i1 hq) ha_17 rfl rfl wl_3_55 wi_X3_leaderLike we_X3_leaderLike wz_3 wo_X3_leaderLike (by decide +kernel) rfl rfl hR hcm rfl hrest hn hd (kk q.1 q.2 hk)
set_option maxRecDepth 20000 in
theorem t_X3_divideByNext_L123 {p : Program} {l : Launch} {e : Env} {s : State} {m : MethodId} {args : Array Value} {below : List Frame} {meth : Method} {c : Code} {D : va_G} {cy : Nat → ClassId} {ad : Nat → Nat} {n : Nat} {A : Nat → Prop} (C : gC p s m args meth c cX3_divideByNext 6 RX3 D cy ad n A) (hr : meth.sig.returnType = (some .boolean)) {z : Int32 × Sg} : ∀ (i1 : Nat) (x2 : Int32) (t0 : Int32) (S : Sg), okM n i1 = true → f_X3_divideByNext_L123 i1 x2 t0 S = some z → gW p l e rm_X3_divideByNext s m args below meth c D cy ad n A 6 0 0 (MQ below (gQ D cy ad n A (some (.int z.1)) z.2) args s 0 0 A) S 123 [(0, .ref (ad 17)), (1, .ref (ad i1)), (2, .int x2)] [.int t0] := by
  intro i1 x2 t0 S h_i1 hz
  unfold f_X3_divideByNext_L123 at hz
  refine g_istore_n C 124 (i := 3) [1, 2, 3, 0] (fun x3_4 => [(0, .ref (ad 17)), (1, .ref (ad i1)), (2, .int x2), (3, .int x3_4)]) dX3_divideByNext_123 rfl rfl (by decide) (fun x3_4 => rfl) hz (fun x3_4 hz => ?_)
  refine g_aload_n C 125 0 rfl dX3_divideByNext_124 rfl ?_
  refine gf_3_9 C 128 dX3_divideByNext_125 rfl ?_
  refine g_iconst C 129 (0 : Int32) ci_0 dX3_divideByNext_128 rfl ?_
  refine g_aload_n C 130 1 rfl dX3_divideByNext_129 rfl ?_
  refine gf_3_52 C 133 h_i1 dX3_divideByNext_130 rfl ?_
  refine g_iconst C 134 (0 : Int32) ci_0 dX3_divideByNext_133 rfl ?_
  refine g_aload_n C 135 1 rfl dX3_divideByNext_134 rfl ?_
  refine gf_3_46 C 138 h_i1 dX3_divideByNext_135 rfl ?_
  refine cl_3_59 C 141 ha_18 (has_m h_i1 5 (by decide)) ⟨Nat.le_of_ble_eq_true rfl, Nat.le_of_ble_eq_true rfl⟩ dX3_divideByNext_138 rfl hz (fun S_5 hz => ?_)
  refine g_aload_n C 142 1 rfl dX3_divideByNext_141 rfl ?_
  refine g_iload_n C 143 2 rfl dX3_divideByNext_142 rfl ?_
  refine pf_3_42 C 146 h_i1 dX3_divideByNext_143 rfl hz (fun S_6 hz => ?_)
  refine g_iload_n C 147 3 rfl dX3_divideByNext_146 rfl ?_
  exact g_zret C hr dX3_divideByNext_147 hz
set_option maxRecDepth 20000 in
theorem t_X3_divideByNext_L27 {p : Program} {l : Launch} {e : Env} {s : State} {m : MethodId} {args : Array Value} {below : List Frame} {meth : Method} {c : Code} {D : va_G} {cy : Nat → ClassId} {ad : Nat → Nat} {n : Nat} {A : Nat → Prop} (C : gC p s m args meth c cX3_divideByNext 6 RX3 D cy ad n A) (hr : meth.sig.returnType = (some .boolean)) {z : Int32 × Sg} : ∀ (fl : Nat) (i1 : Nat) (x2 : Int32) (x3 : Int32) (S : Sg), okM n i1 = true → f_X3_divideByNext_L27 fl i1 x2 x3 S = some z → gW p l e rm_X3_divideByNext s m args below meth c D cy ad n A 6 0 0 (MQ below (gQ D cy ad n A (some (.int z.1)) z.2) args s 0 0 A) S 27 [(0, .ref (ad 17)), (1, .ref (ad i1)), (2, .int x2), (3, .int x3)] [] := by
  intro fl
  induction fl with
  | zero =>
    intro i1 x2 x3 S h_i1 hz
    rw [f_X3_divideByNext_L27] at hz
    cases hz
  | succ fl ih =>
    intro i1 x2 x3 S h_i1 hz
    rw [f_X3_divideByNext_L27] at hz
    refine g_iload_n C 28 3 rfl dX3_divideByNext_27 rfl ?_
    refine g_aload_n C 29 1 rfl dX3_divideByNext_28 rfl ?_
    refine gf_3_46 C 32 h_i1 dX3_divideByNext_29 rfl ?_
    refine g_icmp_ge C 110 35 dX3_divideByNext_32 rfl rfl hz (fun hz => ?_) (fun hz => ?_)
    · refine g_iload_n C 111 2 rfl dX3_divideByNext_110 rfl ?_
      refine g_aload_n C 112 1 rfl dX3_divideByNext_111 rfl ?_
      refine gf_3_42 C 115 h_i1 dX3_divideByNext_112 rfl ?_
      refine g_icmp_le C 122 118 dX3_divideByNext_115 rfl rfl hz (fun hz => ?_) (fun hz => ?_)
      · refine g_iconst C 123 (0 : Int32) ci_0 dX3_divideByNext_122 rfl ?_
        refine g_lv [0, 1, 2] rfl ?_
        exact (t_X3_divideByNext_L123 C hr) i1 x2 ((0 : Int32)) S h_i1 hz
      · refine g_iconst C 119 (1 : Int32) ci_1 dX3_divideByNext_118 rfl ?_
        refine g_goto C 123 dX3_divideByNext_119 rfl ?_
        refine g_lv [0, 1, 2] rfl ?_
        exact (t_X3_divideByNext_L123 C hr) i1 x2 ((1 : Int32)) S h_i1 hz
    · refine g_aload_n C 36 0 rfl dX3_divideByNext_35 rfl ?_
      refine g_aload_n C 37 1 rfl dX3_divideByNext_36 rfl ?_
      refine g_iload_n C 38 3 rfl dX3_divideByNext_37 rfl ?_
      refine cl_3_55 C 41 h_i1 ⟨Nat.le_of_ble_eq_true rfl, Nat.le_of_ble_eq_true rfl⟩ ⟨Nat.zero_le _, Nat.zero_le _⟩ (Nat.le_of_ble_eq_true rfl) dX3_divideByNext_38 rfl hz (fun r_8 S_7 hz => ?_)
      refine g_istore C 43 (i := 4) [1, 2, 3, 4, 0] (fun x4_9 => [(0, .ref (ad 17)), (1, .ref (ad i1)), (2, .int x2), (3, .int x3), (4, .int x4_9)]) dX3_divideByNext_41 rfl (by decide) (fun x4_9 => rfl) hz (fun x4_9 hz => ?_)
      refine g_iload C 45 4 rfl dX3_divideByNext_43 rfl ?_
      refine g_iconst C 46 (-1 : Int32) ci_m1 dX3_divideByNext_45 rfl ?_
      refine g_icmp_ne C 91 49 dX3_divideByNext_46 rfl rfl hz (fun hz => ?_) (fun hz => ?_)
      · refine g_aload_n C 92 0 rfl dX3_divideByNext_91 rfl ?_
        refine gf_3_9 C 95 dX3_divideByNext_92 rfl ?_
        refine g_iload_n C 96 3 rfl dX3_divideByNext_95 rfl ?_
        refine g_aload_n C 97 0 rfl dX3_divideByNext_96 rfl ?_
        refine gf_3_9 C 100 dX3_divideByNext_97 rfl ?_
        refine g_iload C 102 4 rfl dX3_divideByNext_100 rfl ?_
        refine g_iald C 103 ha_18 dX3_divideByNext_102 rfl hz (fun hz => ?_)
        refine g_iast C 104 ha_18 dX3_divideByNext_103 rfl hz (fun S_10 hz => ?_)
        refine g_iinc C 107 3 [1, 2, 3, 0] (1 : Int32) ci_1 (fun x3_11 => [(0, .ref (ad 17)), (1, .ref (ad i1)), (2, .int x2), (3, .int x3_11)]) dX3_divideByNext_104 rfl rfl (by decide) (fun x3_11 => rfl) hz (fun x3_11 hz => ?_)
        refine g_goto C 27 dX3_divideByNext_107 rfl ?_
        exact ih i1 x2 x3_11 S_10 h_i1 hz
      · refine g_aload_n C 50 1 rfl dX3_divideByNext_49 rfl ?_
        refine gf_3_52 C 53 h_i1 dX3_divideByNext_50 rfl ?_
        refine g_iload_n C 54 3 rfl dX3_divideByNext_53 rfl ?_
        refine g_iald C 55 (has_m h_i1 5 (by decide)) dX3_divideByNext_54 rfl hz (fun hz => ?_)
        refine g_istore C 57 (i := 5) [1, 2, 3, 4, 0] (fun x5_12 => [(0, .ref (ad 17)), (1, .ref (ad i1)), (2, .int x2), (3, .int x3), (5, .int x5_12)]) dX3_divideByNext_55 rfl (by decide) (fun x5_12 => rfl) hz (fun x5_12 hz => ?_)
        refine g_aload_n C 58 0 rfl dX3_divideByNext_57 rfl ?_
        refine gf_3_18 C 61 dX3_divideByNext_58 rfl ?_
        refine g_iload_n C 62 3 rfl dX3_divideByNext_61 rfl ?_
        refine g_aload_n C 63 0 rfl dX3_divideByNext_62 rfl ?_
        refine gf_3_15 C 66 dX3_divideByNext_63 rfl ?_
        refine g_iload C 68 4 rfl dX3_divideByNext_66 rfl ?_
        refine g_iald C 69 ha_19 dX3_divideByNext_68 rfl hz (fun hz => ?_)
        refine g_iast C 70 ha_20 dX3_divideByNext_69 rfl hz (fun S_13 hz => ?_)
        refine g_aload_n C 71 0 rfl dX3_divideByNext_70 rfl ?_
        refine gf_3_15 C 74 dX3_divideByNext_71 rfl ?_
        refine g_iload C 76 4 rfl dX3_divideByNext_74 rfl ?_
        refine g_iload_n C 77 3 rfl dX3_divideByNext_76 rfl ?_
        refine g_iast C 78 ha_19 dX3_divideByNext_77 rfl hz (fun S_14 hz => ?_)
        refine g_aload_n C 79 0 rfl dX3_divideByNext_78 rfl ?_
        refine gf_3_9 C 82 dX3_divideByNext_79 rfl ?_
        refine g_iload_n C 83 3 rfl dX3_divideByNext_82 rfl ?_
        refine g_iload_n C 84 2 rfl dX3_divideByNext_83 rfl ?_
        refine g_iast C 85 ha_18 dX3_divideByNext_84 rfl hz (fun S_15 hz => ?_)
        refine g_iinc C 88 2 [1, 2, 0, 3] (1 : Int32) ci_1 (fun x2_16 => [(0, .ref (ad 17)), (1, .ref (ad i1)), (2, .int x2_16), (3, .int x3)]) dX3_divideByNext_85 rfl rfl (by decide) (fun x2_16 => rfl) hz (fun x2_16 hz => ?_)
        refine g_goto C 104 dX3_divideByNext_88 rfl ?_
        refine g_iinc C 107 3 [1, 2, 3, 0] (1 : Int32) ci_1 (fun x3_17 => [(0, .ref (ad 17)), (1, .ref (ad i1)), (2, .int x2_16), (3, .int x3_17)]) dX3_divideByNext_104 rfl rfl (by decide) (fun x3_17 => rfl) hz (fun x3_17 hz => ?_)
        refine g_goto C 27 dX3_divideByNext_107 rfl ?_
        exact ih i1 x2_16 x3_17 S_15 h_i1 hz
set_option maxRecDepth 20000 in
theorem t_X3_divideByNext_L2 {p : Program} {l : Launch} {e : Env} {s : State} {m : MethodId} {args : Array Value} {below : List Frame} {meth : Method} {c : Code} {D : va_G} {cy : Nat → ClassId} {ad : Nat → Nat} {n : Nat} {A : Nat → Prop} (C : gC p s m args meth c cX3_divideByNext 6 RX3 D cy ad n A) (hr : meth.sig.returnType = (some .boolean)) {z : Int32 × Sg} : ∀ (fl : Nat) (i1 : Nat) (x2 : Int32) (S : Sg), okM n i1 = true → f_X3_divideByNext_L2 fl i1 x2 S = some z → gW p l e rm_X3_divideByNext s m args below meth c D cy ad n A 6 0 0 (MQ below (gQ D cy ad n A (some (.int z.1)) z.2) args s 0 0 A) S 2 [(0, .ref (ad 17)), (1, .ref (ad i1)), (2, .int x2)] [] := by
  intro fl
  induction fl with
  | zero =>
    intro i1 x2 S h_i1 hz
    rw [f_X3_divideByNext_L2] at hz
    cases hz
  | succ fl ih =>
    intro i1 x2 S h_i1 hz
    rw [f_X3_divideByNext_L2] at hz
    refine g_iload_n C 3 2 rfl dX3_divideByNext_2 rfl ?_
    refine g_aload_n C 4 1 rfl dX3_divideByNext_3 rfl ?_
    refine gf_3_42 C 7 h_i1 dX3_divideByNext_4 rfl ?_
    refine g_icmp_ge C 23 10 dX3_divideByNext_7 rfl rfl hz (fun hz => ?_) (fun hz => ?_)
    · refine g_iconst C 24 (0 : Int32) ci_0 dX3_divideByNext_23 rfl ?_
      refine g_istore_n C 25 (i := 2) [1, 2, 0] (fun x2_2 => [(0, .ref (ad 17)), (1, .ref (ad i1)), (2, .int x2_2)]) dX3_divideByNext_24 rfl rfl (by decide) (fun x2_2 => rfl) hz (fun x2_2 hz => ?_)
      refine g_iconst C 26 (0 : Int32) ci_0 dX3_divideByNext_25 rfl ?_
      refine g_istore_n C 27 (i := 3) [1, 2, 3, 0] (fun x3_3 => [(0, .ref (ad 17)), (1, .ref (ad i1)), (2, .int x2_2), (3, .int x3_3)]) dX3_divideByNext_26 rfl rfl (by decide) (fun x3_3 => rfl) hz (fun x3_3 hz => ?_)
      exact (t_X3_divideByNext_L27 C hr fu) i1 x2_2 x3_3 S h_i1 hz
    · refine g_aload_n C 11 0 rfl dX3_divideByNext_10 rfl ?_
      refine gf_3_15 C 14 dX3_divideByNext_11 rfl ?_
      refine g_iload_n C 15 2 rfl dX3_divideByNext_14 rfl ?_
      refine g_iconst C 16 (-1 : Int32) ci_m1 dX3_divideByNext_15 rfl ?_
      refine g_iast C 17 ha_19 dX3_divideByNext_16 rfl hz (fun S_18 hz => ?_)
      refine g_iinc C 20 2 [1, 2, 0] (1 : Int32) ci_1 (fun x2_19 => [(0, .ref (ad 17)), (1, .ref (ad i1)), (2, .int x2_19)]) dX3_divideByNext_17 rfl rfl (by decide) (fun x2_19 => rfl) hz (fun x2_19 hz => ?_)
      refine g_goto C 2 dX3_divideByNext_20 rfl ?_
      exact ih i1 x2_19 S_18 h_i1 hz
set_option maxRecDepth 20000 in
theorem t_X3_divideByNext {p : Program} {l : Launch} {e : Env} {s : State} {m : MethodId} {args : Array Value} {below : List Frame} {meth : Method} {c : Code} {D : va_G} {cy : Nat → ClassId} {ad : Nat → Nat} {n : Nat} {A : Nat → Prop} (C : gC p s m args meth c cX3_divideByNext 6 RX3 D cy ad n A) (hr : meth.sig.returnType = (some .boolean)) {z : Int32 × Sg} {S : Sg} {i1 : Nat} (h_i1 : okM n i1 = true) (hz : f_X3_divideByNext i1 S = some z) : gW p l e rm_X3_divideByNext s m args below meth c D cy ad n A 6 0 0 (MQ below (gQ D cy ad n A (some (.int z.1)) z.2) args s 0 0 A) S 0 [(0, .ref (ad 17)), (1, .ref (ad i1))] [] := by
  unfold f_X3_divideByNext at hz
  refine g_iconst C 1 (0 : Int32) ci_0 dX3_divideByNext_0 rfl ?_
  refine g_istore_n C 2 (i := 2) [1, 2, 0] (fun x2_1 => [(0, .ref (ad 17)), (1, .ref (ad i1)), (2, .int x2_1)]) dX3_divideByNext_1 rfl rfl (by decide) (fun x2_1 => rfl) hz (fun x2_1 hz => ?_)
  exact (t_X3_divideByNext_L2 C hr fu) i1 x2_1 S h_i1 hz
theorem c_X3_divideByNext (l : Launch) (D : va_G) (cy : Nat → ClassId) (ad : Nat → Nat) (n : Nat) (S : Sg) (sz : Nat) (i1 : Nat) (z : Int32 × Sg) (h_i1 : okM n i1 = true) (hz : f_X3_divideByNext i1 S = some z) : Met l yX3_divideByNext (.code yX3_divideByNext cX3_divideByNext 6 (some .boolean) :: wsAll) rm_X3_divideByNext (gPc D cy ad n S sz [.ref (ad 17), .ref (ad i1)]) (gQ D cy ad n (va_A (wW cy ad n S) sz) (some (.int z.1)) z.2) 0 0 (va_A (wW cy ad n S) sz) := by
  refine gMet (lv := [(0, .ref (ad 17)), (1, .ref (ad i1))]) (by decide) (Nat.le_of_ble_eq_true rfl) rfl ?_
  intro p e s m args below meth c A hA hr C
  exact t_X3_divideByNext C hr h_i1 hz
def rm_X3_meansNothing : Room := { frames := 0, cells := 0, slots := 0, locals := 0 }
set_option maxRecDepth 20000 in
theorem t_X3_meansNothing_L2 {p : Program} {l : Launch} {e : Env} {s : State} {m : MethodId} {args : Array Value} {below : List Frame} {meth : Method} {c : Code} {D : va_G} {cy : Nat → ClassId} {ad : Nat → Nat} {n : Nat} {A : Nat → Prop} (C : gC p s m args meth c cX3_meansNothing 3 RX3 D cy ad n A) (hr : meth.sig.returnType = (some .boolean)) {z : Int32 × Sg} : ∀ (fl : Nat) (i0 : Nat) (x1 : Int32) (x2 : Int32) (S : Sg), okM n i0 = true → f_X3_meansNothing_L2 fl i0 x1 x2 S = some z → gW p l e rm_X3_meansNothing s m args below meth c D cy ad n A 3 0 0 (MQ below (gQ D cy ad n A (some (.int z.1)) z.2) args s 0 0 A) S 2 [(0, .ref (ad i0)), (1, .int x1), (2, .int x2)] [] := by
  intro fl
  induction fl with
  | zero =>
    intro i0 x1 x2 S h_i0 hz
    rw [f_X3_meansNothing_L2] at hz
    cases hz
  | succ fl ih =>
    intro i0 x1 x2 S h_i0 hz
    rw [f_X3_meansNothing_L2] at hz
    refine g_iload_n C 3 2 rfl dX3_meansNothing_2 rfl ?_
    refine g_iconst C 4 (4 : Int32) ci_4 dX3_meansNothing_3 rfl ?_
    refine g_icmp_ge C 39 7 dX3_meansNothing_4 rfl rfl hz (fun hz => ?_) (fun hz => ?_)
    · refine g_aload_n C 40 0 rfl dX3_meansNothing_39 rfl ?_
      refine gf_3_49 C 43 h_i0 dX3_meansNothing_40 rfl ?_
      refine g_iload_n C 44 1 rfl dX3_meansNothing_43 rfl ?_
      refine g_zald C 45 (has_m h_i0 4 (by decide)) dX3_meansNothing_44 rfl hz (fun hz => ?_)
      refine g_if_ne C 52 48 dX3_meansNothing_45 rfl rfl hz (fun hz => ?_) (fun hz => ?_)
      · refine g_iconst C 53 (0 : Int32) ci_0 dX3_meansNothing_52 rfl ?_
        exact g_zretc C hr (by decide) dX3_meansNothing_53 hz
      · refine g_iconst C 49 (1 : Int32) ci_1 dX3_meansNothing_48 rfl ?_
        refine g_goto C 53 dX3_meansNothing_49 rfl ?_
        exact g_zretc C hr (by decide) dX3_meansNothing_53 hz
    · refine g_aload_n C 8 0 rfl dX3_meansNothing_7 rfl ?_
      refine gf_3_52 C 11 h_i0 dX3_meansNothing_8 rfl ?_
      refine g_aload_n C 12 0 rfl dX3_meansNothing_11 rfl ?_
      refine gf_3_69 C 15 h_i0 dX3_meansNothing_12 rfl ?_
      refine g_iload_n C 16 1 rfl dX3_meansNothing_15 rfl ?_
      refine g_iconst C 17 (4 : Int32) ci_4 dX3_meansNothing_16 rfl ?_
      refine g_imul C 18 dX3_meansNothing_17 rfl ?_
      refine g_iload_n C 19 2 rfl dX3_meansNothing_18 rfl ?_
      refine g_iadd C 20 dX3_meansNothing_19 rfl ?_
      refine g_iald C 21 (has_m h_i0 1 (by decide)) dX3_meansNothing_20 rfl hz (fun hz => ?_)
      refine g_iald C 22 (has_m h_i0 5 (by decide)) dX3_meansNothing_21 rfl hz (fun hz => ?_)
      refine g_aload_n C 23 0 rfl dX3_meansNothing_22 rfl ?_
      refine gf_3_52 C 26 h_i0 dX3_meansNothing_23 rfl ?_
      refine g_iload_n C 27 1 rfl dX3_meansNothing_26 rfl ?_
      refine g_iald C 28 (has_m h_i0 5 (by decide)) dX3_meansNothing_27 rfl hz (fun hz => ?_)
      refine g_icmp_eq C 33 31 dX3_meansNothing_28 rfl rfl hz (fun hz => ?_) (fun hz => ?_)
      · refine g_iinc C 36 2 [1, 2, 0] (1 : Int32) ci_1 (fun x2_2 => [(0, .ref (ad i0)), (1, .int x1), (2, .int x2_2)]) dX3_meansNothing_33 rfl rfl (by decide) (fun x2_2 => rfl) hz (fun x2_2 hz => ?_)
        refine g_goto C 2 dX3_meansNothing_36 rfl ?_
        exact ih i0 x1 x2_2 S h_i0 hz
      · refine g_iconst C 32 (0 : Int32) ci_0 dX3_meansNothing_31 rfl ?_
        exact g_zretc C hr (by decide) dX3_meansNothing_32 hz
set_option maxRecDepth 20000 in
theorem t_X3_meansNothing {p : Program} {l : Launch} {e : Env} {s : State} {m : MethodId} {args : Array Value} {below : List Frame} {meth : Method} {c : Code} {D : va_G} {cy : Nat → ClassId} {ad : Nat → Nat} {n : Nat} {A : Nat → Prop} (C : gC p s m args meth c cX3_meansNothing 3 RX3 D cy ad n A) (hr : meth.sig.returnType = (some .boolean)) {z : Int32 × Sg} {S : Sg} {i0 : Nat} {x1 : Int32} (h_i0 : okM n i0 = true) (hz : f_X3_meansNothing i0 x1 S = some z) : gW p l e rm_X3_meansNothing s m args below meth c D cy ad n A 3 0 0 (MQ below (gQ D cy ad n A (some (.int z.1)) z.2) args s 0 0 A) S 0 [(0, .ref (ad i0)), (1, .int x1)] [] := by
  unfold f_X3_meansNothing at hz
  refine g_iconst C 1 (0 : Int32) ci_0 dX3_meansNothing_0 rfl ?_
  refine g_istore_n C 2 (i := 2) [1, 2, 0] (fun x2_1 => [(0, .ref (ad i0)), (1, .int x1), (2, .int x2_1)]) dX3_meansNothing_1 rfl rfl (by decide) (fun x2_1 => rfl) hz (fun x2_1 hz => ?_)
  exact (t_X3_meansNothing_L2 C hr fu) i0 x1 x2_1 S h_i0 hz
theorem c_X3_meansNothing (l : Launch) (D : va_G) (cy : Nat → ClassId) (ad : Nat → Nat) (n : Nat) (S : Sg) (sz : Nat) (i0 : Nat) (x1 : Int32) (z : Int32 × Sg) (h_i0 : okM n i0 = true) (hz : f_X3_meansNothing i0 x1 S = some z) : Met l yX3_meansNothing (.code yX3_meansNothing cX3_meansNothing 3 (some .boolean) :: wsAll) rm_X3_meansNothing (gPc D cy ad n S sz [.ref (ad i0), .int x1]) (gQ D cy ad n (va_A (wW cy ad n S) sz) (some (.int z.1)) z.2) 0 0 (va_A (wW cy ad n S) sz) := by
  refine gMet (lv := [(0, .ref (ad i0)), (1, .int x1)]) (by decide) (Nat.le_of_ble_eq_true rfl) rfl ?_
  intro p e s m args below meth c A hA hr C
  exact t_X3_meansNothing C hr h_i0 hz
def rm_X3_goesToEndedOnly : Room := { frames := 0, cells := 0, slots := 0, locals := 0 }
set_option maxRecDepth 20000 in
theorem t_X3_goesToEndedOnly_L2 {p : Program} {l : Launch} {e : Env} {s : State} {m : MethodId} {args : Array Value} {below : List Frame} {meth : Method} {c : Code} {D : va_G} {cy : Nat → ClassId} {ad : Nat → Nat} {n : Nat} {A : Nat → Prop} (C : gC p s m args meth c cX3_goesToEndedOnly 4 RX3 D cy ad n A) (hr : meth.sig.returnType = (some .boolean)) {z : Int32 × Sg} : ∀ (fl : Nat) (i1 : Nat) (x2 : Int32) (x3 : Int32) (S : Sg), okM n i1 = true → f_X3_goesToEndedOnly_L2 fl i1 x2 x3 S = some z → gW p l e rm_X3_goesToEndedOnly s m args below meth c D cy ad n A 4 0 0 (MQ below (gQ D cy ad n A (some (.int z.1)) z.2) args s 0 0 A) S 2 [(0, .ref (ad 17)), (1, .ref (ad i1)), (2, .int x2), (3, .int x3)] [] := by
  intro fl
  induction fl with
  | zero =>
    intro i1 x2 x3 S h_i1 hz
    rw [f_X3_goesToEndedOnly_L2] at hz
    cases hz
  | succ fl ih =>
    intro i1 x2 x3 S h_i1 hz
    rw [f_X3_goesToEndedOnly_L2] at hz
    refine g_iload_n C 3 3 rfl dX3_goesToEndedOnly_2 rfl ?_
    refine g_iconst C 4 (4 : Int32) ci_4 dX3_goesToEndedOnly_3 rfl ?_
    refine g_icmp_ge C 38 7 dX3_goesToEndedOnly_4 rfl rfl hz (fun hz => ?_) (fun hz => ?_)
    · refine g_iconst C 39 (1 : Int32) ci_1 dX3_goesToEndedOnly_38 rfl ?_
      exact g_zretc C hr (by decide) dX3_goesToEndedOnly_39 hz
    · refine g_aload_n C 8 0 rfl dX3_goesToEndedOnly_7 rfl ?_
      refine gf_3_21 C 11 dX3_goesToEndedOnly_8 rfl ?_
      refine g_aload_n C 12 1 rfl dX3_goesToEndedOnly_11 rfl ?_
      refine gf_3_52 C 15 h_i1 dX3_goesToEndedOnly_12 rfl ?_
      refine g_aload_n C 16 1 rfl dX3_goesToEndedOnly_15 rfl ?_
      refine gf_3_69 C 19 h_i1 dX3_goesToEndedOnly_16 rfl ?_
      refine g_iload_n C 20 2 rfl dX3_goesToEndedOnly_19 rfl ?_
      refine g_iconst C 21 (4 : Int32) ci_4 dX3_goesToEndedOnly_20 rfl ?_
      refine g_imul C 22 dX3_goesToEndedOnly_21 rfl ?_
      refine g_iload_n C 23 3 rfl dX3_goesToEndedOnly_22 rfl ?_
      refine g_iadd C 24 dX3_goesToEndedOnly_23 rfl ?_
      refine g_iald C 25 (has_m h_i1 1 (by decide)) dX3_goesToEndedOnly_24 rfl hz (fun hz => ?_)
      refine g_iald C 26 (has_m h_i1 5 (by decide)) dX3_goesToEndedOnly_25 rfl hz (fun hz => ?_)
      refine g_zald C 27 ha_21 dX3_goesToEndedOnly_26 rfl hz (fun hz => ?_)
      refine g_if_ne C 32 30 dX3_goesToEndedOnly_27 rfl rfl hz (fun hz => ?_) (fun hz => ?_)
      · refine g_iinc C 35 3 [1, 2, 3, 0] (1 : Int32) ci_1 (fun x3_2 => [(0, .ref (ad 17)), (1, .ref (ad i1)), (2, .int x2), (3, .int x3_2)]) dX3_goesToEndedOnly_32 rfl rfl (by decide) (fun x3_2 => rfl) hz (fun x3_2 hz => ?_)
        refine g_goto C 2 dX3_goesToEndedOnly_35 rfl ?_
        exact ih i1 x2 x3_2 S h_i1 hz
      · refine g_iconst C 31 (0 : Int32) ci_0 dX3_goesToEndedOnly_30 rfl ?_
        exact g_zretc C hr (by decide) dX3_goesToEndedOnly_31 hz
set_option maxRecDepth 20000 in
theorem t_X3_goesToEndedOnly {p : Program} {l : Launch} {e : Env} {s : State} {m : MethodId} {args : Array Value} {below : List Frame} {meth : Method} {c : Code} {D : va_G} {cy : Nat → ClassId} {ad : Nat → Nat} {n : Nat} {A : Nat → Prop} (C : gC p s m args meth c cX3_goesToEndedOnly 4 RX3 D cy ad n A) (hr : meth.sig.returnType = (some .boolean)) {z : Int32 × Sg} {S : Sg} {i1 : Nat} {x2 : Int32} (h_i1 : okM n i1 = true) (hz : f_X3_goesToEndedOnly i1 x2 S = some z) : gW p l e rm_X3_goesToEndedOnly s m args below meth c D cy ad n A 4 0 0 (MQ below (gQ D cy ad n A (some (.int z.1)) z.2) args s 0 0 A) S 0 [(0, .ref (ad 17)), (1, .ref (ad i1)), (2, .int x2)] [] := by
  unfold f_X3_goesToEndedOnly at hz
  refine g_iconst C 1 (0 : Int32) ci_0 dX3_goesToEndedOnly_0 rfl ?_
  refine g_istore_n C 2 (i := 3) [1, 2, 3, 0] (fun x3_1 => [(0, .ref (ad 17)), (1, .ref (ad i1)), (2, .int x2), (3, .int x3_1)]) dX3_goesToEndedOnly_1 rfl rfl (by decide) (fun x3_1 => rfl) hz (fun x3_1 hz => ?_)
  exact (t_X3_goesToEndedOnly_L2 C hr fu) i1 x2 x3_1 S h_i1 hz
theorem c_X3_goesToEndedOnly (l : Launch) (D : va_G) (cy : Nat → ClassId) (ad : Nat → Nat) (n : Nat) (S : Sg) (sz : Nat) (i1 : Nat) (x2 : Int32) (z : Int32 × Sg) (h_i1 : okM n i1 = true) (hz : f_X3_goesToEndedOnly i1 x2 S = some z) : Met l yX3_goesToEndedOnly (.code yX3_goesToEndedOnly cX3_goesToEndedOnly 4 (some .boolean) :: wsAll) rm_X3_goesToEndedOnly (gPc D cy ad n S sz [.ref (ad 17), .ref (ad i1), .int x2]) (gQ D cy ad n (va_A (wW cy ad n S) sz) (some (.int z.1)) z.2) 0 0 (va_A (wW cy ad n S) sz) := by
  refine gMet (lv := [(0, .ref (ad 17)), (1, .ref (ad i1)), (2, .int x2)]) (by decide) (Nat.le_of_ble_eq_true rfl) rfl ?_
  intro p e s m args below meth c A hA hr C
  exact t_X3_goesToEndedOnly C hr h_i1 hz
def rm_X3_isFinite : Room := { frames := 1, cells := 0, slots := 0, locals := 23 }
theorem wl_3_72 : Cond.methodLink RX3 72 yX3_meansNothing ∈ wsAll := wA 488 (by decide +kernel) (by decide +kernel)
theorem ws_X3_meansNothing : Cond.static yX3_meansNothing ∈ wsAll := wA 489 (by decide +kernel) (by decide +kernel)
theorem wo_X3_meansNothing : Cond.code yX3_meansNothing cX3_meansNothing 3 (some .boolean) ∈ wsAll := wA 490 (by decide +kernel) (by decide +kernel)
theorem cl_3_72 {p : Program} {l : Launch} {e : Env} {R : Room} {s : State} {m : MethodId} {args : Array Value} {below : List Frame} {meth : Method} {c : Code} {cc : ByteArray} {nL : Nat} {D : va_G} {cy : Nat → ClassId} {ad : Nat → Nat} {n : Nat} {A : Nat → Prop} {mc ms : Nat} {Q : State → Prop} {S : Sg} {pc : Nat} {lv : List (Nat × Value)} {st : List Value} {ζ : Type} {z : ζ} (C : gC p s m args meth c cc nL RX3 D cy ad n A) (nx : Nat) {i0 : Nat} {x1 : Int32} (h_i0 : okM n i0 = true) (hR : Room.frames rm_X3_meansNothing + 1 ≤ R.frames ∧ 8 + (3 + 11) + Room.locals rm_X3_meansNothing ≤ R.locals) (hcm : mc ≤ R.cells ∧ ms ≤ R.slots) (hrest : (st.map fun v => v.category).sum ≤ 8) (hd : decode cc pc = .ok (.invokestatic 72, 3)) (hn : pc + 3 = nx) {K : Int32 → Sg → Option ζ} (hz : bd2 (f_X3_meansNothing i0 x1 S) K = some z) (kk : ∀ r S', K r S' = some z → gW p l e R s m args below meth c D cy ad n A nL mc ms Q S' nx lv (.int r :: st)) : gW p l e R s m args below meth c D cy ad n A nL mc ms Q S pc lv (.int x1 :: .ref (ad i0) :: st) := by
  obtain ⟨q, hq, hk⟩ := bd2_s hz
  exact g_callS C (y := yX3_meansNothing) (rm := rm_X3_meansNothing) (As := [.ref (ad i0), .int x1]) (rest := st) (na := 2) (fun sz => c_X3_meansNothing l D cy ad n S sz i0 x1 q h_i0 hq) wl_3_72 ws_X3_meansNothing wz_3 wo_X3_meansNothing (by decide +kernel) rfl rfl hR hcm rfl hrest hn hd (kk q.1 q.2 hk)
theorem wl_3_76 : Cond.methodLink RX3 76 yX3_goesToEndedOnly ∈ wsAll := wA 491 (by decide +kernel) (by decide +kernel)
theorem wi_X3_goesToEndedOnly : Cond.instanceMethod yX3_goesToEndedOnly ∈ wsAll := wA 493 (by decide +kernel) (by decide +kernel)
theorem we_X3_goesToEndedOnly : Cond.selects RX3 yX3_goesToEndedOnly yX3_goesToEndedOnly ∈ wsAll := wAp 36 (by decide +kernel) (by decide +kernel)
theorem wo_X3_goesToEndedOnly : Cond.code yX3_goesToEndedOnly cX3_goesToEndedOnly 4 (some .boolean) ∈ wsAll := wA 494 (by decide +kernel) (by decide +kernel)
theorem cl_3_76 {p : Program} {l : Launch} {e : Env} {R : Room} {s : State} {m : MethodId} {args : Array Value} {below : List Frame} {meth : Method} {c : Code} {cc : ByteArray} {nL : Nat} {D : va_G} {cy : Nat → ClassId} {ad : Nat → Nat} {n : Nat} {A : Nat → Prop} {mc ms : Nat} {Q : State → Prop} {S : Sg} {pc : Nat} {lv : List (Nat × Value)} {st : List Value} {ζ : Type} {z : ζ} (C : gC p s m args meth c cc nL RX3 D cy ad n A) (nx : Nat) {i1 : Nat} {x2 : Int32} (h_i1 : okM n i1 = true) (hR : Room.frames rm_X3_goesToEndedOnly + 1 ≤ R.frames ∧ 8 + (4 + 11) + Room.locals rm_X3_goesToEndedOnly ≤ R.locals) (hcm : mc ≤ R.cells ∧ ms ≤ R.slots) (hrest : (st.map fun v => v.category).sum ≤ 8) (hd : decode cc pc = .ok (.invokevirtual 76, 3)) (hn : pc + 3 = nx) {K : Int32 → Sg → Option ζ} (hz : bd2 (f_X3_goesToEndedOnly i1 x2 S) K = some z) (kk : ∀ r S', K r S' = some z → gW p l e R s m args below meth c D cy ad n A nL mc ms Q S' nx lv (.int r :: st)) : gW p l e R s m args below meth c D cy ad n A nL mc ms Q S pc lv (.int x2 :: .ref (ad i1) :: .ref (ad 17) :: st) := by
  obtain ⟨q, hq, hk⟩ := bd2_s hz
  exact g_callV C (i := 17) (ci := 3) (Cn := RX3) (T := TX3) (N := 4) (y := yX3_goesToEndedOnly) (rm := rm_X3_goesToEndedOnly) (As := [.ref (ad i1), .int x2]) (rest := st) (na := 2) (fun sz => c_X3_goesToEndedOnly l D cy ad n S sz i1 x2 q h_i1 hq) ha_17 rfl rfl wl_3_76 wi_X3_goesToEndedOnly we_X3_goesToEndedOnly wz_3 wo_X3_goesToEndedOnly (by decide +kernel) rfl rfl hR hcm rfl hrest hn hd (kk q.1 q.2 hk)
set_option maxRecDepth 20000 in
theorem t_X3_isFinite_L48 {p : Program} {l : Launch} {e : Env} {s : State} {m : MethodId} {args : Array Value} {below : List Frame} {meth : Method} {c : Code} {D : va_G} {cy : Nat → ClassId} {ad : Nat → Nat} {n : Nat} {A : Nat → Prop} (C : gC p s m args meth c cX3_isFinite 6 RX3 D cy ad n A) (hr : meth.sig.returnType = (some .boolean)) {z : Int32 × Sg} {k27 : Nat → Int32 → Int32 → Sg → Option (Int32 × Sg)} (hk27 : ∀ (i1 : Nat) (x2 : Int32) (x3 : Int32) (S : Sg), okM n i1 = true → k27 i1 x2 x3 S = some z → gW p l e rm_X3_isFinite s m args below meth c D cy ad n A 6 0 0 (MQ below (gQ D cy ad n A (some (.int z.1)) z.2) args s 0 0 A) S 27 [(0, .ref (ad 17)), (1, .ref (ad i1)), (2, .int x2), (3, .int x3)] []) : ∀ (fl : Nat) (i1 : Nat) (x2 : Int32) (x3 : Int32) (x4 : Int32) (S : Sg), okM n i1 = true → f_X3_isFinite_L48 k27 fl i1 x2 x3 x4 S = some z → gW p l e rm_X3_isFinite s m args below meth c D cy ad n A 6 0 0 (MQ below (gQ D cy ad n A (some (.int z.1)) z.2) args s 0 0 A) S 48 [(0, .ref (ad 17)), (1, .ref (ad i1)), (2, .int x2), (3, .int x3), (4, .int x4)] [] := by
  intro fl
  induction fl with
  | zero =>
    intro i1 x2 x3 x4 S h_i1 hz
    rw [f_X3_isFinite_L48] at hz
    cases hz
  | succ fl ih =>
    intro i1 x2 x3 x4 S h_i1 hz
    rw [f_X3_isFinite_L48] at hz
    refine g_iload C 50 4 rfl dX3_isFinite_48 rfl ?_
    refine g_if_lt C 107 53 dX3_isFinite_50 rfl rfl hz (fun hz => ?_) (fun hz => ?_)
    · refine g_iinc C 110 3 [1, 2, 3, 0] (1 : Int32) ci_1 (fun x3_6 => [(0, .ref (ad 17)), (1, .ref (ad i1)), (2, .int x2), (3, .int x3_6)]) dX3_isFinite_107 rfl rfl (by decide) (fun x3_6 => rfl) hz (fun x3_6 hz => ?_)
      refine g_goto C 27 dX3_isFinite_110 rfl ?_
      exact hk27 i1 x2 x3_6 S h_i1 hz
    · refine g_aload_n C 54 1 rfl dX3_isFinite_53 rfl ?_
      refine gf_3_52 C 57 h_i1 dX3_isFinite_54 rfl ?_
      refine g_iload C 59 4 rfl dX3_isFinite_57 rfl ?_
      refine g_iald C 60 (has_m h_i1 5 (by decide)) dX3_isFinite_59 rfl hz (fun hz => ?_)
      refine g_istore C 62 (i := 5) [1, 2, 3, 4, 5, 0] (fun x5_7 => [(0, .ref (ad 17)), (1, .ref (ad i1)), (2, .int x2), (3, .int x3), (4, .int x4), (5, .int x5_7)]) dX3_isFinite_60 rfl (by decide) (fun x5_7 => rfl) hz (fun x5_7 hz => ?_)
      refine g_aload_n C 63 0 rfl dX3_isFinite_62 rfl ?_
      refine gf_3_21 C 66 dX3_isFinite_63 rfl ?_
      refine g_iload C 68 5 rfl dX3_isFinite_66 rfl ?_
      refine g_zald C 69 ha_21 dX3_isFinite_68 rfl hz (fun hz => ?_)
      refine g_if_ne C 101 72 dX3_isFinite_69 rfl rfl hz (fun hz => ?_) (fun hz => ?_)
      · refine g_iinc C 104 4 [1, 2, 3, 4, 0] (-1 : Int32) ci_m1 (fun x4_8 => [(0, .ref (ad 17)), (1, .ref (ad i1)), (2, .int x2), (3, .int x3), (4, .int x4_8)]) dX3_isFinite_101 rfl rfl (by decide) (fun x4_8 => rfl) hz (fun x4_8 hz => ?_)
        refine g_goto C 48 dX3_isFinite_104 rfl ?_
        exact ih i1 x2 x3 x4_8 S h_i1 hz
      · refine g_aload_n C 73 1 rfl dX3_isFinite_72 rfl ?_
        refine g_iload C 75 4 rfl dX3_isFinite_73 rfl ?_
        refine cl_3_72 C 78 h_i1 ⟨Nat.le_of_ble_eq_true rfl, Nat.le_of_ble_eq_true rfl⟩ ⟨Nat.zero_le _, Nat.zero_le _⟩ (Nat.le_of_ble_eq_true rfl) dX3_isFinite_75 rfl hz (fun r_10 S_9 hz => ?_)
        refine g_if_ne C 91 81 dX3_isFinite_78 rfl rfl hz (fun hz => ?_) (fun hz => ?_)
        · refine g_aload_n C 92 0 rfl dX3_isFinite_91 rfl ?_
          refine gf_3_21 C 95 dX3_isFinite_92 rfl ?_
          refine g_iload C 97 5 rfl dX3_isFinite_95 rfl ?_
          refine g_iconst C 98 (1 : Int32) ci_1 dX3_isFinite_97 rfl ?_
          refine g_zast C 99 ha_21 dX3_isFinite_98 rfl hz (fun S_11 hz => ?_)
          refine g_iconst C 100 (1 : Int32) ci_1 dX3_isFinite_99 rfl ?_
          refine g_istore_n C 101 (i := 2) [1, 2, 0, 3, 4] (fun x2_12 => [(0, .ref (ad 17)), (1, .ref (ad i1)), (2, .int x2_12), (3, .int x3), (4, .int x4)]) dX3_isFinite_100 rfl rfl (by decide) (fun x2_12 => rfl) hz (fun x2_12 hz => ?_)
          refine g_iinc C 104 4 [1, 2, 3, 4, 0] (-1 : Int32) ci_m1 (fun x4_13 => [(0, .ref (ad 17)), (1, .ref (ad i1)), (2, .int x2_12), (3, .int x3), (4, .int x4_13)]) dX3_isFinite_101 rfl rfl (by decide) (fun x4_13 => rfl) hz (fun x4_13 hz => ?_)
          refine g_goto C 48 dX3_isFinite_104 rfl ?_
          exact ih i1 x2_12 x3 x4_13 S_11 h_i1 hz
        · refine g_aload_n C 82 0 rfl dX3_isFinite_81 rfl ?_
          refine g_aload_n C 83 1 rfl dX3_isFinite_82 rfl ?_
          refine g_iload C 85 4 rfl dX3_isFinite_83 rfl ?_
          refine cl_3_76 C 88 h_i1 ⟨Nat.le_of_ble_eq_true rfl, Nat.le_of_ble_eq_true rfl⟩ ⟨Nat.zero_le _, Nat.zero_le _⟩ (Nat.le_of_ble_eq_true rfl) dX3_isFinite_85 rfl hz (fun r_15 S_14 hz => ?_)
          refine g_if_eq C 101 91 dX3_isFinite_88 rfl rfl hz (fun hz => ?_) (fun hz => ?_)
          · refine g_iinc C 104 4 [1, 2, 3, 4, 0] (-1 : Int32) ci_m1 (fun x4_16 => [(0, .ref (ad 17)), (1, .ref (ad i1)), (2, .int x2), (3, .int x3), (4, .int x4_16)]) dX3_isFinite_101 rfl rfl (by decide) (fun x4_16 => rfl) hz (fun x4_16 hz => ?_)
            refine g_goto C 48 dX3_isFinite_104 rfl ?_
            exact ih i1 x2 x3 x4_16 S_14 h_i1 hz
          · refine g_aload_n C 92 0 rfl dX3_isFinite_91 rfl ?_
            refine gf_3_21 C 95 dX3_isFinite_92 rfl ?_
            refine g_iload C 97 5 rfl dX3_isFinite_95 rfl ?_
            refine g_iconst C 98 (1 : Int32) ci_1 dX3_isFinite_97 rfl ?_
            refine g_zast C 99 ha_21 dX3_isFinite_98 rfl hz (fun S_17 hz => ?_)
            refine g_iconst C 100 (1 : Int32) ci_1 dX3_isFinite_99 rfl ?_
            refine g_istore_n C 101 (i := 2) [1, 2, 0, 3, 4] (fun x2_18 => [(0, .ref (ad 17)), (1, .ref (ad i1)), (2, .int x2_18), (3, .int x3), (4, .int x4)]) dX3_isFinite_100 rfl rfl (by decide) (fun x2_18 => rfl) hz (fun x2_18 hz => ?_)
            refine g_iinc C 104 4 [1, 2, 3, 4, 0] (-1 : Int32) ci_m1 (fun x4_19 => [(0, .ref (ad 17)), (1, .ref (ad i1)), (2, .int x2_18), (3, .int x3), (4, .int x4_19)]) dX3_isFinite_101 rfl rfl (by decide) (fun x4_19 => rfl) hz (fun x4_19 hz => ?_)
            refine g_goto C 48 dX3_isFinite_104 rfl ?_
            exact ih i1 x2_18 x3 x4_19 S_17 h_i1 hz
set_option maxRecDepth 20000 in
theorem t_X3_isFinite_L27 {p : Program} {l : Launch} {e : Env} {s : State} {m : MethodId} {args : Array Value} {below : List Frame} {meth : Method} {c : Code} {D : va_G} {cy : Nat → ClassId} {ad : Nat → Nat} {n : Nat} {A : Nat → Prop} (C : gC p s m args meth c cX3_isFinite 6 RX3 D cy ad n A) (hr : meth.sig.returnType = (some .boolean)) {z : Int32 × Sg} : ∀ (fl : Nat) (i1 : Nat) (x2 : Int32) (x3 : Int32) (S : Sg), okM n i1 = true → f_X3_isFinite_L27 fl i1 x2 x3 S = some z → gW p l e rm_X3_isFinite s m args below meth c D cy ad n A 6 0 0 (MQ below (gQ D cy ad n A (some (.int z.1)) z.2) args s 0 0 A) S 27 [(0, .ref (ad 17)), (1, .ref (ad i1)), (2, .int x2), (3, .int x3)] [] := by
  intro fl
  induction fl with
  | zero =>
    intro i1 x2 x3 S h_i1 hz
    rw [f_X3_isFinite_L27] at hz
    cases hz
  | succ fl ih =>
    intro i1 x2 x3 S h_i1 hz
    rw [f_X3_isFinite_L27] at hz
    refine g_iload_n C 28 3 rfl dX3_isFinite_27 rfl ?_
    refine g_sipush C 31 (150 : Int32) cs_150 dX3_isFinite_28 rfl ?_
    refine g_icmp_gt C 113 34 dX3_isFinite_31 rfl rfl hz (fun hz => ?_) (fun hz => ?_)
    · refine g_aload_n C 114 0 rfl dX3_isFinite_113 rfl ?_
      refine gf_3_21 C 117 dX3_isFinite_114 rfl ?_
      refine g_iconst C 118 (0 : Int32) ci_0 dX3_isFinite_117 rfl ?_
      refine g_zald C 119 ha_21 dX3_isFinite_118 rfl hz (fun hz => ?_)
      exact g_zret C hr dX3_isFinite_119 hz
    · refine g_iload_n C 35 2 rfl dX3_isFinite_34 rfl ?_
      refine g_if_eq C 113 38 dX3_isFinite_35 rfl rfl hz (fun hz => ?_) (fun hz => ?_)
      · refine g_aload_n C 114 0 rfl dX3_isFinite_113 rfl ?_
        refine gf_3_21 C 117 dX3_isFinite_114 rfl ?_
        refine g_iconst C 118 (0 : Int32) ci_0 dX3_isFinite_117 rfl ?_
        refine g_zald C 119 ha_21 dX3_isFinite_118 rfl hz (fun hz => ?_)
        exact g_zret C hr dX3_isFinite_119 hz
      · refine g_iconst C 39 (0 : Int32) ci_0 dX3_isFinite_38 rfl ?_
        refine g_istore_n C 40 (i := 2) [1, 2, 0, 3] (fun x2_4 => [(0, .ref (ad 17)), (1, .ref (ad i1)), (2, .int x2_4), (3, .int x3)]) dX3_isFinite_39 rfl rfl (by decide) (fun x2_4 => rfl) hz (fun x2_4 hz => ?_)
        refine g_aload_n C 41 1 rfl dX3_isFinite_40 rfl ?_
        refine gf_3_46 C 44 h_i1 dX3_isFinite_41 rfl ?_
        refine g_iconst C 45 (1 : Int32) ci_1 dX3_isFinite_44 rfl ?_
        refine g_isub C 46 dX3_isFinite_45 rfl ?_
        refine g_istore C 48 (i := 4) [1, 2, 3, 4, 0] (fun x4_5 => [(0, .ref (ad 17)), (1, .ref (ad i1)), (2, .int x2_4), (3, .int x3), (4, .int x4_5)]) dX3_isFinite_46 rfl (by decide) (fun x4_5 => rfl) hz (fun x4_5 hz => ?_)
        exact (t_X3_isFinite_L48 C hr ih fu) i1 x2_4 x3 x4_5 S h_i1 hz
set_option maxRecDepth 20000 in
theorem t_X3_isFinite_L2 {p : Program} {l : Launch} {e : Env} {s : State} {m : MethodId} {args : Array Value} {below : List Frame} {meth : Method} {c : Code} {D : va_G} {cy : Nat → ClassId} {ad : Nat → Nat} {n : Nat} {A : Nat → Prop} (C : gC p s m args meth c cX3_isFinite 6 RX3 D cy ad n A) (hr : meth.sig.returnType = (some .boolean)) {z : Int32 × Sg} : ∀ (fl : Nat) (i1 : Nat) (x2 : Int32) (S : Sg), okM n i1 = true → f_X3_isFinite_L2 fl i1 x2 S = some z → gW p l e rm_X3_isFinite s m args below meth c D cy ad n A 6 0 0 (MQ below (gQ D cy ad n A (some (.int z.1)) z.2) args s 0 0 A) S 2 [(0, .ref (ad 17)), (1, .ref (ad i1)), (2, .int x2)] [] := by
  intro fl
  induction fl with
  | zero =>
    intro i1 x2 S h_i1 hz
    rw [f_X3_isFinite_L2] at hz
    cases hz
  | succ fl ih =>
    intro i1 x2 S h_i1 hz
    rw [f_X3_isFinite_L2] at hz
    refine g_iload_n C 3 2 rfl dX3_isFinite_2 rfl ?_
    refine g_aload_n C 4 1 rfl dX3_isFinite_3 rfl ?_
    refine gf_3_42 C 7 h_i1 dX3_isFinite_4 rfl ?_
    refine g_icmp_ge C 23 10 dX3_isFinite_7 rfl rfl hz (fun hz => ?_) (fun hz => ?_)
    · refine g_iconst C 24 (1 : Int32) ci_1 dX3_isFinite_23 rfl ?_
      refine g_istore_n C 25 (i := 2) [1, 2, 0] (fun x2_2 => [(0, .ref (ad 17)), (1, .ref (ad i1)), (2, .int x2_2)]) dX3_isFinite_24 rfl rfl (by decide) (fun x2_2 => rfl) hz (fun x2_2 hz => ?_)
      refine g_iconst C 26 (0 : Int32) ci_0 dX3_isFinite_25 rfl ?_
      refine g_istore_n C 27 (i := 3) [1, 2, 3, 0] (fun x3_3 => [(0, .ref (ad 17)), (1, .ref (ad i1)), (2, .int x2_2), (3, .int x3_3)]) dX3_isFinite_26 rfl rfl (by decide) (fun x3_3 => rfl) hz (fun x3_3 hz => ?_)
      exact (t_X3_isFinite_L27 C hr fu) i1 x2_2 x3_3 S h_i1 hz
    · refine g_aload_n C 11 0 rfl dX3_isFinite_10 rfl ?_
      refine gf_3_21 C 14 dX3_isFinite_11 rfl ?_
      refine g_iload_n C 15 2 rfl dX3_isFinite_14 rfl ?_
      refine g_iconst C 16 (0 : Int32) ci_0 dX3_isFinite_15 rfl ?_
      refine g_zast C 17 ha_21 dX3_isFinite_16 rfl hz (fun S_20 hz => ?_)
      refine g_iinc C 20 2 [1, 2, 0] (1 : Int32) ci_1 (fun x2_21 => [(0, .ref (ad 17)), (1, .ref (ad i1)), (2, .int x2_21)]) dX3_isFinite_17 rfl rfl (by decide) (fun x2_21 => rfl) hz (fun x2_21 hz => ?_)
      refine g_goto C 2 dX3_isFinite_20 rfl ?_
      exact ih i1 x2_21 S_20 h_i1 hz
set_option maxRecDepth 20000 in
theorem t_X3_isFinite {p : Program} {l : Launch} {e : Env} {s : State} {m : MethodId} {args : Array Value} {below : List Frame} {meth : Method} {c : Code} {D : va_G} {cy : Nat → ClassId} {ad : Nat → Nat} {n : Nat} {A : Nat → Prop} (C : gC p s m args meth c cX3_isFinite 6 RX3 D cy ad n A) (hr : meth.sig.returnType = (some .boolean)) {z : Int32 × Sg} {S : Sg} {i1 : Nat} (h_i1 : okM n i1 = true) (hz : f_X3_isFinite i1 S = some z) : gW p l e rm_X3_isFinite s m args below meth c D cy ad n A 6 0 0 (MQ below (gQ D cy ad n A (some (.int z.1)) z.2) args s 0 0 A) S 0 [(0, .ref (ad 17)), (1, .ref (ad i1))] [] := by
  unfold f_X3_isFinite at hz
  refine g_iconst C 1 (0 : Int32) ci_0 dX3_isFinite_0 rfl ?_
  refine g_istore_n C 2 (i := 2) [1, 2, 0] (fun x2_1 => [(0, .ref (ad 17)), (1, .ref (ad i1)), (2, .int x2_1)]) dX3_isFinite_1 rfl rfl (by decide) (fun x2_1 => rfl) hz (fun x2_1 hz => ?_)
  exact (t_X3_isFinite_L2 C hr fu) i1 x2_1 S h_i1 hz
theorem c_X3_isFinite (l : Launch) (D : va_G) (cy : Nat → ClassId) (ad : Nat → Nat) (n : Nat) (S : Sg) (sz : Nat) (i1 : Nat) (z : Int32 × Sg) (h_i1 : okM n i1 = true) (hz : f_X3_isFinite i1 S = some z) : Met l yX3_isFinite (.code yX3_isFinite cX3_isFinite 6 (some .boolean) :: wsAll) rm_X3_isFinite (gPc D cy ad n S sz [.ref (ad 17), .ref (ad i1)]) (gQ D cy ad n (va_A (wW cy ad n S) sz) (some (.int z.1)) z.2) 0 0 (va_A (wW cy ad n S) sz) := by
  refine gMet (lv := [(0, .ref (ad 17)), (1, .ref (ad i1))]) (by decide) (Nat.le_of_ble_eq_true rfl) rfl ?_
  intro p e s m args below meth c A hA hr C
  exact t_X3_isFinite C hr h_i1 hz
def rm_X3_classify : Room := { frames := 3, cells := 0, slots := 0, locals := 225 }
theorem wl_3_25 : Cond.methodLink RX3 25 yX3_divideByAccepting ∈ wsAll := wA 469 (by decide +kernel) (by decide +kernel)
theorem ws_X3_divideByAccepting : Cond.static yX3_divideByAccepting ∈ wsAll := wA 470 (by decide +kernel) (by decide +kernel)
theorem wo_X3_divideByAccepting : Cond.code yX3_divideByAccepting cX3_divideByAccepting 3 none ∈ wsAll := wA 471 (by decide +kernel) (by decide +kernel)
theorem cl_3_25 {p : Program} {l : Launch} {e : Env} {R : Room} {s : State} {m : MethodId} {args : Array Value} {below : List Frame} {meth : Method} {c : Code} {cc : ByteArray} {nL : Nat} {D : va_G} {cy : Nat → ClassId} {ad : Nat → Nat} {n : Nat} {A : Nat → Prop} {mc ms : Nat} {Q : State → Prop} {S : Sg} {pc : Nat} {lv : List (Nat × Value)} {st : List Value} {ζ : Type} {z : ζ} (C : gC p s m args meth c cc nL RX3 D cy ad n A) (nx : Nat) {i0 : Nat} (h_i0 : okM n i0 = true) (hR : Room.frames rm_X3_divideByAccepting + 1 ≤ R.frames ∧ 8 + (3 + 11) + Room.locals rm_X3_divideByAccepting ≤ R.locals) (hcm : mc ≤ R.cells ∧ ms ≤ R.slots) (hrest : (st.map fun v => v.category).sum ≤ 8) (hd : decode cc pc = .ok (.invokestatic 25, 3)) (hn : pc + 3 = nx) {K : Sg → Option ζ} (hz : bd (f_X3_divideByAccepting i0 S) K = some z) (kk : ∀ S', K S' = some z → gW p l e R s m args below meth c D cy ad n A nL mc ms Q S' nx lv st) : gW p l e R s m args below meth c D cy ad n A nL mc ms Q S pc lv (.ref (ad i0) :: st) := by
  obtain ⟨q, hq, hk⟩ := bd_s hz
  exact g_callS C (y := yX3_divideByAccepting) (rm := rm_X3_divideByAccepting) (As := [.ref (ad i0)]) (rest := st) (na := 1) (fun sz => c_X3_divideByAccepting l D cy ad n S sz i0 q h_i0 hq) wl_3_25 ws_X3_divideByAccepting wz_3 wo_X3_divideByAccepting (by decide +kernel) rfl rfl hR hcm rfl hrest hn hd (kk q hk)
theorem wl_3_33 : Cond.methodLink RX3 33 yX3_isFinite ∈ wsAll := wA 484 (by decide +kernel) (by decide +kernel)
theorem wi_X3_isFinite : Cond.instanceMethod yX3_isFinite ∈ wsAll := wA 486 (by decide +kernel) (by decide +kernel)
theorem we_X3_isFinite : Cond.selects RX3 yX3_isFinite yX3_isFinite ∈ wsAll := wAp 35 (by decide +kernel) (by decide +kernel)
theorem wo_X3_isFinite : Cond.code yX3_isFinite cX3_isFinite 6 (some .boolean) ∈ wsAll := wA 487 (by decide +kernel) (by decide +kernel)
theorem cl_3_33 {p : Program} {l : Launch} {e : Env} {R : Room} {s : State} {m : MethodId} {args : Array Value} {below : List Frame} {meth : Method} {c : Code} {cc : ByteArray} {nL : Nat} {D : va_G} {cy : Nat → ClassId} {ad : Nat → Nat} {n : Nat} {A : Nat → Prop} {mc ms : Nat} {Q : State → Prop} {S : Sg} {pc : Nat} {lv : List (Nat × Value)} {st : List Value} {ζ : Type} {z : ζ} (C : gC p s m args meth c cc nL RX3 D cy ad n A) (nx : Nat) {i1 : Nat} (h_i1 : okM n i1 = true) (hR : Room.frames rm_X3_isFinite + 1 ≤ R.frames ∧ 8 + (6 + 11) + Room.locals rm_X3_isFinite ≤ R.locals) (hcm : mc ≤ R.cells ∧ ms ≤ R.slots) (hrest : (st.map fun v => v.category).sum ≤ 8) (hd : decode cc pc = .ok (.invokevirtual 33, 3)) (hn : pc + 3 = nx) {K : Int32 → Sg → Option ζ} (hz : bd2 (f_X3_isFinite i1 S) K = some z) (kk : ∀ r S', K r S' = some z → gW p l e R s m args below meth c D cy ad n A nL mc ms Q S' nx lv (.int r :: st)) : gW p l e R s m args below meth c D cy ad n A nL mc ms Q S pc lv (.ref (ad i1) :: .ref (ad 17) :: st) := by
  obtain ⟨q, hq, hk⟩ := bd2_s hz
  exact g_callV C (i := 17) (ci := 3) (Cn := RX3) (T := TX3) (N := 4) (y := yX3_isFinite) (rm := rm_X3_isFinite) (As := [.ref (ad i1)]) (rest := st) (na := 1) (fun sz => c_X3_isFinite l D cy ad n S sz i1 q h_i1 hq) ha_17 rfl rfl wl_3_33 wi_X3_isFinite we_X3_isFinite wz_3 wo_X3_isFinite (by decide +kernel) rfl rfl hR hcm rfl hrest hn hd (kk q.1 q.2 hk)
theorem wl_3_29 : Cond.methodLink RX3 29 yX3_divideByNext ∈ wsAll := wA 472 (by decide +kernel) (by decide +kernel)
theorem wi_X3_divideByNext : Cond.instanceMethod yX3_divideByNext ∈ wsAll := wA 474 (by decide +kernel) (by decide +kernel)
theorem we_X3_divideByNext : Cond.selects RX3 yX3_divideByNext yX3_divideByNext ∈ wsAll := wAp 33 (by decide +kernel) (by decide +kernel)
theorem wo_X3_divideByNext : Cond.code yX3_divideByNext cX3_divideByNext 6 (some .boolean) ∈ wsAll := wA 475 (by decide +kernel) (by decide +kernel)
theorem cl_3_29 {p : Program} {l : Launch} {e : Env} {R : Room} {s : State} {m : MethodId} {args : Array Value} {below : List Frame} {meth : Method} {c : Code} {cc : ByteArray} {nL : Nat} {D : va_G} {cy : Nat → ClassId} {ad : Nat → Nat} {n : Nat} {A : Nat → Prop} {mc ms : Nat} {Q : State → Prop} {S : Sg} {pc : Nat} {lv : List (Nat × Value)} {st : List Value} {ζ : Type} {z : ζ} (C : gC p s m args meth c cc nL RX3 D cy ad n A) (nx : Nat) {i1 : Nat} (h_i1 : okM n i1 = true) (hR : Room.frames rm_X3_divideByNext + 1 ≤ R.frames ∧ 8 + (6 + 11) + Room.locals rm_X3_divideByNext ≤ R.locals) (hcm : mc ≤ R.cells ∧ ms ≤ R.slots) (hrest : (st.map fun v => v.category).sum ≤ 8) (hd : decode cc pc = .ok (.invokevirtual 29, 3)) (hn : pc + 3 = nx) {K : Int32 → Sg → Option ζ} (hz : bd2 (f_X3_divideByNext i1 S) K = some z) (kk : ∀ r S', K r S' = some z → gW p l e R s m args below meth c D cy ad n A nL mc ms Q S' nx lv (.int r :: st)) : gW p l e R s m args below meth c D cy ad n A nL mc ms Q S pc lv (.ref (ad i1) :: .ref (ad 17) :: st) := by
  obtain ⟨q, hq, hk⟩ := bd2_s hz
  exact g_callV C (i := 17) (ci := 3) (Cn := RX3) (T := TX3) (N := 4) (y := yX3_divideByNext) (rm := rm_X3_divideByNext) (As := [.ref (ad i1)]) (rest := st) (na := 1) (fun sz => c_X3_divideByNext l D cy ad n S sz i1 q h_i1 hq) ha_17 rfl rfl wl_3_29 wi_X3_divideByNext we_X3_divideByNext wz_3 wo_X3_divideByNext (by decide +kernel) rfl rfl hR hcm rfl hrest hn hd (kk q.1 q.2 hk)
set_option maxRecDepth 20000 in
theorem t_X3_classify_L8 {p : Program} {l : Launch} {e : Env} {s : State} {m : MethodId} {args : Array Value} {below : List Frame} {meth : Method} {c : Code} {D : va_G} {cy : Nat → ClassId} {ad : Nat → Nat} {n : Nat} {A : Nat → Prop} (C : gC p s m args meth c cX3_classify 4 RX3 D cy ad n A) (hr : meth.sig.returnType = none) {z : Sg} : ∀ (fl : Nat) (i1 : Nat) (x2 : Int32) (x3 : Int32) (S : Sg), okM n i1 = true → f_X3_classify_L8 fl i1 x2 x3 S = some z → gW p l e rm_X3_classify s m args below meth c D cy ad n A 4 0 0 (MQ below (gQ D cy ad n A none z) args s 0 0 A) S 8 [(0, .ref (ad 17)), (1, .ref (ad i1)), (2, .int x2), (3, .int x3)] [] := by
  intro fl
  induction fl with
  | zero =>
    intro i1 x2 x3 S h_i1 hz
    rw [f_X3_classify_L8] at hz
    cases hz
  | succ fl ih =>
    intro i1 x2 x3 S h_i1 hz
    rw [f_X3_classify_L8] at hz
    refine g_iload_n C 9 3 rfl dX3_classify_8 rfl ?_
    refine g_sipush C 12 (150 : Int32) cs_150 dX3_classify_9 rfl ?_
    refine g_icmp_ge C 31 15 dX3_classify_12 rfl rfl hz (fun hz => ?_) (fun hz => ?_)
    · refine g_aload_n C 32 1 rfl dX3_classify_31 rfl ?_
      refine g_aload_n C 33 0 rfl dX3_classify_32 rfl ?_
      refine g_aload_n C 34 1 rfl dX3_classify_33 rfl ?_
      refine cl_3_33 C 37 h_i1 ⟨Nat.le_of_ble_eq_true rfl, Nat.le_of_ble_eq_true rfl⟩ ⟨Nat.zero_le _, Nat.zero_le _⟩ (Nat.le_of_ble_eq_true rfl) dX3_classify_34 rfl hz (fun r_5 S_4 hz => ?_)
      refine pf_3_36 C 40 h_i1 dX3_classify_37 rfl hz (fun S_6 hz => ?_)
      exact g_vret C hr dX3_classify_40 hz
    · refine g_iload_n C 16 2 rfl dX3_classify_15 rfl ?_
      refine g_if_eq C 31 19 dX3_classify_16 rfl rfl hz (fun hz => ?_) (fun hz => ?_)
      · refine g_aload_n C 32 1 rfl dX3_classify_31 rfl ?_
        refine g_aload_n C 33 0 rfl dX3_classify_32 rfl ?_
        refine g_aload_n C 34 1 rfl dX3_classify_33 rfl ?_
        refine cl_3_33 C 37 h_i1 ⟨Nat.le_of_ble_eq_true rfl, Nat.le_of_ble_eq_true rfl⟩ ⟨Nat.zero_le _, Nat.zero_le _⟩ (Nat.le_of_ble_eq_true rfl) dX3_classify_34 rfl hz (fun r_8 S_7 hz => ?_)
        refine pf_3_36 C 40 h_i1 dX3_classify_37 rfl hz (fun S_9 hz => ?_)
        exact g_vret C hr dX3_classify_40 hz
      · refine g_aload_n C 20 0 rfl dX3_classify_19 rfl ?_
        refine g_aload_n C 21 1 rfl dX3_classify_20 rfl ?_
        refine cl_3_29 C 24 h_i1 ⟨Nat.le_of_ble_eq_true rfl, Nat.le_of_ble_eq_true rfl⟩ ⟨Nat.zero_le _, Nat.zero_le _⟩ (Nat.le_of_ble_eq_true rfl) dX3_classify_21 rfl hz (fun r_11 S_10 hz => ?_)
        refine g_istore_n C 25 (i := 2) [1, 2, 0, 3] (fun x2_12 => [(0, .ref (ad 17)), (1, .ref (ad i1)), (2, .int x2_12), (3, .int x3)]) dX3_classify_24 rfl rfl (by decide) (fun x2_12 => rfl) hz (fun x2_12 hz => ?_)
        refine g_iinc C 28 3 [1, 2, 3, 0] (1 : Int32) ci_1 (fun x3_13 => [(0, .ref (ad 17)), (1, .ref (ad i1)), (2, .int x2_12), (3, .int x3_13)]) dX3_classify_25 rfl rfl (by decide) (fun x3_13 => rfl) hz (fun x3_13 hz => ?_)
        refine g_goto C 8 dX3_classify_28 rfl ?_
        exact ih i1 x2_12 x3_13 S_10 h_i1 hz
set_option maxRecDepth 20000 in
theorem t_X3_classify {p : Program} {l : Launch} {e : Env} {s : State} {m : MethodId} {args : Array Value} {below : List Frame} {meth : Method} {c : Code} {D : va_G} {cy : Nat → ClassId} {ad : Nat → Nat} {n : Nat} {A : Nat → Prop} (C : gC p s m args meth c cX3_classify 4 RX3 D cy ad n A) (hr : meth.sig.returnType = none) {z : Sg} {S : Sg} {i1 : Nat} (h_i1 : okM n i1 = true) (hz : f_X3_classify i1 S = some z) : gW p l e rm_X3_classify s m args below meth c D cy ad n A 4 0 0 (MQ below (gQ D cy ad n A none z) args s 0 0 A) S 0 [(0, .ref (ad 17)), (1, .ref (ad i1))] [] := by
  unfold f_X3_classify at hz
  refine g_aload_n C 1 1 rfl dX3_classify_0 rfl ?_
  refine cl_3_25 C 4 h_i1 ⟨Nat.le_of_ble_eq_true rfl, Nat.le_of_ble_eq_true rfl⟩ ⟨Nat.zero_le _, Nat.zero_le _⟩ (Nat.le_of_ble_eq_true rfl) dX3_classify_1 rfl hz (fun S_1 hz => ?_)
  refine g_iconst C 5 (1 : Int32) ci_1 dX3_classify_4 rfl ?_
  refine g_istore_n C 6 (i := 2) [1, 2, 0] (fun x2_2 => [(0, .ref (ad 17)), (1, .ref (ad i1)), (2, .int x2_2)]) dX3_classify_5 rfl rfl (by decide) (fun x2_2 => rfl) hz (fun x2_2 hz => ?_)
  refine g_iconst C 7 (0 : Int32) ci_0 dX3_classify_6 rfl ?_
  refine g_istore_n C 8 (i := 3) [1, 2, 3, 0] (fun x3_3 => [(0, .ref (ad 17)), (1, .ref (ad i1)), (2, .int x2_2), (3, .int x3_3)]) dX3_classify_7 rfl rfl (by decide) (fun x3_3 => rfl) hz (fun x3_3 hz => ?_)
  exact (t_X3_classify_L8 C hr fu) i1 x2_2 x3_3 S_1 h_i1 hz
theorem c_X3_classify (l : Launch) (D : va_G) (cy : Nat → ClassId) (ad : Nat → Nat) (n : Nat) (S : Sg) (sz : Nat) (i1 : Nat) (z : Sg) (h_i1 : okM n i1 = true) (hz : f_X3_classify i1 S = some z) : Met l yX3_classify (.code yX3_classify cX3_classify 4 none :: wsAll) rm_X3_classify (gPc D cy ad n S sz [.ref (ad 17), .ref (ad i1)]) (gQ D cy ad n (va_A (wW cy ad n S) sz) none z) 0 0 (va_A (wW cy ad n S) sz) := by
  refine gMet (lv := [(0, .ref (ad 17)), (1, .ref (ad i1))]) (by decide) (Nat.le_of_ble_eq_true rfl) rfl ?_
  intro p e s m args below meth c A hA hr C
  exact t_X3_classify C hr h_i1 hz
