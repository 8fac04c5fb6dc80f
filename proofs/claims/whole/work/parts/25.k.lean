def rm_X6_sign : Room := { frames := 0, cells := 0, slots := 0, locals := 0 }
set_option maxRecDepth 20000 in
theorem t_X6_sign {p : Program} {l : Launch} {e : Env} {s : State} {m : MethodId} {args : Array Value} {below : List Frame} {meth : Method} {c : Code} {D : va_G} {cy : Nat → ClassId} {ad : Nat → Nat} {n : Nat} {A : Nat → Prop} (C : gC p s m args meth c cX6_sign 1 RX6 D cy ad n A) (hr : meth.sig.returnType = (some .int)) {z : Int32 × Sg} {S : Sg} (hz : f_X6_sign S = some z) : gW p l e rm_X6_sign s m args below meth c D cy ad n A 1 0 0 (MQ below (gQ D cy ad n A (some (.int z.1)) z.2) args s 0 0 A) S 0 [(0, .ref (ad 3))] [] := by
  unfold f_X6_sign at hz
  refine g_aload_n C 1 0 rfl dX6_sign_0 rfl ?_
  refine gf_6_19 C 4 dX6_sign_1 rfl ?_
  refine g_aload_n C 5 0 rfl dX6_sign_4 rfl ?_
  refine gf_6_15 C 8 dX6_sign_5 rfl ?_
  refine g_icmp_ge C 23 11 dX6_sign_8 rfl rfl hz (fun hz => ?_) (fun hz => ?_)
  · refine g_iconst C 24 (-1 : Int32) ci_m1 dX6_sign_23 rfl ?_
    exact g_iret C hr dX6_sign_24 hz
  · refine g_aload_n C 12 0 rfl dX6_sign_11 rfl ?_
    refine gf_6_9 C 15 dX6_sign_12 rfl ?_
    refine g_aload_n C 16 0 rfl dX6_sign_15 rfl ?_
    refine gf_6_19 C 19 dX6_sign_16 rfl ?_
    refine g_iald C 20 ha_4 dX6_sign_19 rfl hz (fun hz => ?_)
    refine g_goto C 24 dX6_sign_20 rfl ?_
    exact g_iret C hr dX6_sign_24 hz
theorem c_X6_sign (l : Launch) (D : va_G) (cy : Nat → ClassId) (ad : Nat → Nat) (n : Nat) (S : Sg) (sz : Nat) (z : Int32 × Sg) (hz : f_X6_sign S = some z) : Met l yX6_sign (.code yX6_sign cX6_sign 1 (some .int) :: wsAll) rm_X6_sign (gPc D cy ad n S sz [.ref (ad 3)]) (gQ D cy ad n (va_A (wW cy ad n S) sz) (some (.int z.1)) z.2) 0 0 (va_A (wW cy ad n S) sz) := by
  refine gMet (lv := [(0, .ref (ad 3))]) (by decide) (Nat.le_of_ble_eq_true rfl) rfl ?_
  intro p e s m args below meth c A hA hr C
  exact t_X6_sign C hr hz
def rm_X6_beginsAtom : Room := { frames := 1, cells := 0, slots := 0, locals := 20 }
theorem wl_6_151 : Cond.methodLinkNest RX6 151 yX9_isLetter "WordMachines" ∈ tables_1 := List.mem_of_getElem? (i := 285) (by decide +kernel)
theorem cl_6_151 {p : Program} {l : Launch} {e : Env} {R : Room} {s : State} {m : MethodId} {args : Array Value} {below : List Frame} {meth : Method} {c : Code} {cc : ByteArray} {nL : Nat} {D : va_G} {cy : Nat → ClassId} {ad : Nat → Nat} {n : Nat} {A : Nat → Prop} {mc ms : Nat} {Q : State → Prop} {S : Sg} {pc : Nat} {lv : List (Nat × Value)} {st : List Value} {ζ : Type} {z : ζ} (C : gC p s m args meth c cc nL RX6 D cy ad n A) (nx : Nat) {x0 : Int32} (hR : Room.frames rm_X9_isLetter + 1 ≤ R.frames ∧ 8 + (1 + 11) + Room.locals rm_X9_isLetter ≤ R.locals) (hcm : mc ≤ R.cells ∧ ms ≤ R.slots) (hrest : (st.map fun v => v.category).sum ≤ 8) (hd : decode cc pc = .ok (.invokestatic 151, 3)) (hn : pc + 3 = nx) {K : Int32 → Sg → Option ζ} (hz : bd2 (f_X9_isLetter x0 S) K = some z) (kk : ∀ r S', K r S' = some z → gW p l e R s m args below meth c D cy ad n A nL mc ms Q S' nx lv (.int r :: st)) : gW p l e R s m args below meth c D cy ad n A nL mc ms Q S pc lv (.int x0 :: st) := by
  obtain ⟨q, hq, hk⟩ := bd2_s hz
  exact g_callSN C (Cn := RX9) (y := yX9_isLetter) (rm := rm_X9_isLetter) (As := [.int x0]) (rest := st) (na := 1) (fun sz => c_X9_isLetter l D cy ad n S sz x0 q hq) wl_6_151 ws_X9_isLetter wz_9 wo_X9_isLetter (by decide +kernel) rfl rfl hR hcm rfl hrest hn hd (kk q.1 q.2 hk)
set_option maxRecDepth 20000 in
theorem t_X6_beginsAtom {p : Program} {l : Launch} {e : Env} {s : State} {m : MethodId} {args : Array Value} {below : List Frame} {meth : Method} {c : Code} {D : va_G} {cy : Nat → ClassId} {ad : Nat → Nat} {n : Nat} {A : Nat → Prop} (C : gC p s m args meth c cX6_beginsAtom 1 RX6 D cy ad n A) (hr : meth.sig.returnType = (some .boolean)) {z : Int32 × Sg} {S : Sg} {x0 : Int32} (hz : f_X6_beginsAtom x0 S = some z) : gW p l e rm_X6_beginsAtom s m args below meth c D cy ad n A 1 0 0 (MQ below (gQ D cy ad n A (some (.int z.1)) z.2) args s 0 0 A) S 0 [(0, .int x0)] [] := by
  unfold f_X6_beginsAtom at hz
  refine g_iload_n C 1 0 rfl dX6_beginsAtom_0 rfl ?_
  refine cl_6_151 C 4 ⟨Nat.le_of_ble_eq_true rfl, Nat.le_of_ble_eq_true rfl⟩ ⟨Nat.zero_le _, Nat.zero_le _⟩ (Nat.le_of_ble_eq_true rfl) dX6_beginsAtom_1 rfl hz (fun r_2 S_1 hz => ?_)
  refine g_if_ne C 37 7 dX6_beginsAtom_4 rfl rfl hz (fun hz => ?_) (fun hz => ?_)
  · refine g_iconst C 38 (1 : Int32) ci_1 dX6_beginsAtom_37 rfl ?_
    refine g_goto C 42 dX6_beginsAtom_38 rfl ?_
    exact g_zretc C hr (by decide) dX6_beginsAtom_42 hz
  · refine g_iload_n C 8 0 rfl dX6_beginsAtom_7 rfl ?_
    refine g_bipush C 10 (46 : Int32) cb_46 dX6_beginsAtom_8 rfl ?_
    refine g_icmp_eq C 37 13 dX6_beginsAtom_10 rfl rfl hz (fun hz => ?_) (fun hz => ?_)
    · refine g_iconst C 38 (1 : Int32) ci_1 dX6_beginsAtom_37 rfl ?_
      refine g_goto C 42 dX6_beginsAtom_38 rfl ?_
      exact g_zretc C hr (by decide) dX6_beginsAtom_42 hz
    · refine g_iload_n C 14 0 rfl dX6_beginsAtom_13 rfl ?_
      refine g_bipush C 16 (91 : Int32) cb_91 dX6_beginsAtom_14 rfl ?_
      refine g_icmp_eq C 37 19 dX6_beginsAtom_16 rfl rfl hz (fun hz => ?_) (fun hz => ?_)
      · refine g_iconst C 38 (1 : Int32) ci_1 dX6_beginsAtom_37 rfl ?_
        refine g_goto C 42 dX6_beginsAtom_38 rfl ?_
        exact g_zretc C hr (by decide) dX6_beginsAtom_42 hz
      · refine g_iload_n C 20 0 rfl dX6_beginsAtom_19 rfl ?_
        refine g_bipush C 22 (40 : Int32) cb_40 dX6_beginsAtom_20 rfl ?_
        refine g_icmp_eq C 37 25 dX6_beginsAtom_22 rfl rfl hz (fun hz => ?_) (fun hz => ?_)
        · refine g_iconst C 38 (1 : Int32) ci_1 dX6_beginsAtom_37 rfl ?_
          refine g_goto C 42 dX6_beginsAtom_38 rfl ?_
          exact g_zretc C hr (by decide) dX6_beginsAtom_42 hz
        · refine g_iload_n C 26 0 rfl dX6_beginsAtom_25 rfl ?_
          refine g_bipush C 28 (48 : Int32) cb_48 dX6_beginsAtom_26 rfl ?_
          refine g_icmp_eq C 37 31 dX6_beginsAtom_28 rfl rfl hz (fun hz => ?_) (fun hz => ?_)
          · refine g_iconst C 38 (1 : Int32) ci_1 dX6_beginsAtom_37 rfl ?_
            refine g_goto C 42 dX6_beginsAtom_38 rfl ?_
            exact g_zretc C hr (by decide) dX6_beginsAtom_42 hz
          · refine g_iload_n C 32 0 rfl dX6_beginsAtom_31 rfl ?_
            refine g_bipush C 34 (49 : Int32) cb_49 dX6_beginsAtom_32 rfl ?_
            refine g_icmp_ne C 41 37 dX6_beginsAtom_34 rfl rfl hz (fun hz => ?_) (fun hz => ?_)
            · refine g_iconst C 42 (0 : Int32) ci_0 dX6_beginsAtom_41 rfl ?_
              exact g_zretc C hr (by decide) dX6_beginsAtom_42 hz
            · refine g_iconst C 38 (1 : Int32) ci_1 dX6_beginsAtom_37 rfl ?_
              refine g_goto C 42 dX6_beginsAtom_38 rfl ?_
              exact g_zretc C hr (by decide) dX6_beginsAtom_42 hz
theorem c_X6_beginsAtom (l : Launch) (D : va_G) (cy : Nat → ClassId) (ad : Nat → Nat) (n : Nat) (S : Sg) (sz : Nat) (x0 : Int32) (z : Int32 × Sg) (hz : f_X6_beginsAtom x0 S = some z) : Met l yX6_beginsAtom (.code yX6_beginsAtom cX6_beginsAtom 1 (some .boolean) :: wsAll) rm_X6_beginsAtom (gPc D cy ad n S sz [.int x0]) (gQ D cy ad n (va_A (wW cy ad n S) sz) (some (.int z.1)) z.2) 0 0 (va_A (wW cy ad n S) sz) := by
  refine gMet (lv := [(0, .int x0)]) (by decide) (Nat.le_of_ble_eq_true rfl) rfl ?_
  intro p e s m args below meth c A hA hr C
  exact t_X6_beginsAtom C hr hz
def rm_X6_refuse : Room := { frames := 0, cells := 0, slots := 0, locals := 0 }
set_option maxRecDepth 20000 in
theorem t_X6_refuse {p : Program} {l : Launch} {e : Env} {s : State} {m : MethodId} {args : Array Value} {below : List Frame} {meth : Method} {c : Code} {D : va_G} {cy : Nat → ClassId} {ad : Nat → Nat} {n : Nat} {A : Nat → Prop} (C : gC p s m args meth c cX6_refuse 2 RX6 D cy ad n A) (hr : meth.sig.returnType = none) {z : Sg} {S : Sg} {x1 : Int32} (hz : f_X6_refuse x1 S = some z) : gW p l e rm_X6_refuse s m args below meth c D cy ad n A 2 0 0 (MQ below (gQ D cy ad n A none z) args s 0 0 A) S 0 [(0, .ref (ad 3)), (1, .int x1)] [] := by
  unfold f_X6_refuse at hz
  refine g_aload_n C 1 0 rfl dX6_refuse_0 rfl ?_
  refine gf_6_29 C 4 dX6_refuse_1 rfl ?_
  refine g_if_ne C 28 7 dX6_refuse_4 rfl rfl hz (fun hz => ?_) (fun hz => ?_)
  · exact g_vret C hr dX6_refuse_28 hz
  · refine g_aload_n C 8 0 rfl dX6_refuse_7 rfl ?_
    refine g_iload_n C 9 1 rfl dX6_refuse_8 rfl ?_
    refine pf_6_29 C 12 dX6_refuse_9 rfl hz (fun S_1 hz => ?_)
    refine g_aload_n C 13 0 rfl dX6_refuse_12 rfl ?_
    refine g_aload_n C 14 0 rfl dX6_refuse_13 rfl ?_
    refine gf_6_19 C 17 dX6_refuse_14 rfl ?_
    refine pf_6_32 C 20 dX6_refuse_17 rfl hz (fun S_2 hz => ?_)
    refine g_aload_n C 21 0 rfl dX6_refuse_20 rfl ?_
    refine g_aload_n C 22 0 rfl dX6_refuse_21 rfl ?_
    refine gf_6_15 C 25 dX6_refuse_22 rfl ?_
    refine pf_6_19 C 28 dX6_refuse_25 rfl hz (fun S_3 hz => ?_)
    exact g_vret C hr dX6_refuse_28 hz
theorem c_X6_refuse (l : Launch) (D : va_G) (cy : Nat → ClassId) (ad : Nat → Nat) (n : Nat) (S : Sg) (sz : Nat) (x1 : Int32) (z : Sg) (hz : f_X6_refuse x1 S = some z) : Met l yX6_refuse (.code yX6_refuse cX6_refuse 2 none :: wsAll) rm_X6_refuse (gPc D cy ad n S sz [.ref (ad 3), .int x1]) (gQ D cy ad n (va_A (wW cy ad n S) sz) none z) 0 0 (va_A (wW cy ad n S) sz) := by
  refine gMet (lv := [(0, .ref (ad 3)), (1, .int x1)]) (by decide) (Nat.le_of_ble_eq_true rfl) rfl ?_
  intro p e s m args below meth c A hA hr C
  exact t_X6_refuse C hr hz
def rm_X7_begin : Room := { frames := 0, cells := 0, slots := 0, locals := 0 }
set_option maxRecDepth 20000 in
theorem t_X7_begin_L12 {p : Program} {l : Launch} {e : Env} {s : State} {m : MethodId} {args : Array Value} {below : List Frame} {meth : Method} {c : Code} {D : va_G} {cy : Nat → ClassId} {ad : Nat → Nat} {n : Nat} {A : Nat → Prop} (C : gC p s m args meth c cX7_begin 2 RX7 D cy ad n A) (hr : meth.sig.returnType = none) {z : Sg} : ∀ (fl : Nat) (x1 : Int32) (S : Sg), f_X7_begin_L12 fl x1 S = some z → gW p l e rm_X7_begin s m args below meth c D cy ad n A 2 0 0 (MQ below (gQ D cy ad n A none z) args s 0 0 A) S 12 [(0, .ref (ad 5)), (1, .int x1)] [] := by
  intro fl
  induction fl with
  | zero =>
    intro x1 S hz
    rw [f_X7_begin_L12] at hz
    cases hz
  | succ fl ih =>
    intro x1 S hz
    rw [f_X7_begin_L12] at hz
    refine g_iload_n C 13 1 rfl dX7_begin_12 rfl ?_
    refine g_iconst C 14 (4 : Int32) ci_4 dX7_begin_13 rfl ?_
    refine g_icmp_ge C 37 17 dX7_begin_14 rfl rfl hz (fun hz => ?_) (fun hz => ?_)
    · exact g_vret C hr dX7_begin_37 hz
    · refine g_aload_n C 18 0 rfl dX7_begin_17 rfl ?_
      refine gf_7_33 C 21 dX7_begin_18 rfl ?_
      refine g_aload_n C 22 0 rfl dX7_begin_21 rfl ?_
      refine gf_7_9 C 25 dX7_begin_22 rfl ?_
      refine g_iconst C 26 (4 : Int32) ci_4 dX7_begin_25 rfl ?_
      refine g_imul C 27 dX7_begin_26 rfl ?_
      refine g_iload_n C 28 1 rfl dX7_begin_27 rfl ?_
      refine g_iadd C 29 dX7_begin_28 rfl ?_
      refine g_iconst C 30 (0 : Int32) ci_0 dX7_begin_29 rfl ?_
      refine g_iast C 31 ha_10 dX7_begin_30 rfl hz (fun S_3 hz => ?_)
      refine g_iinc C 34 1 [1, 0] (1 : Int32) ci_1 (fun x1_4 => [(0, .ref (ad 5)), (1, .int x1_4)]) dX7_begin_31 rfl rfl (by decide) (fun x1_4 => rfl) hz (fun x1_4 hz => ?_)
      refine g_goto C 12 dX7_begin_34 rfl ?_
      exact ih x1_4 S_3 hz
set_option maxRecDepth 20000 in
theorem t_X7_begin {p : Program} {l : Launch} {e : Env} {s : State} {m : MethodId} {args : Array Value} {below : List Frame} {meth : Method} {c : Code} {D : va_G} {cy : Nat → ClassId} {ad : Nat → Nat} {n : Nat} {A : Nat → Prop} (C : gC p s m args meth c cX7_begin 2 RX7 D cy ad n A) (hr : meth.sig.returnType = none) {z : Sg} {S : Sg} (hz : f_X7_begin S = some z) : gW p l e rm_X7_begin s m args below meth c D cy ad n A 2 0 0 (MQ below (gQ D cy ad n A none z) args s 0 0 A) S 0 [(0, .ref (ad 5))] [] := by
  unfold f_X7_begin at hz
  refine g_aload_n C 1 0 rfl dX7_begin_0 rfl ?_
  refine gf_7_19 C 4 dX7_begin_1 rfl ?_
  refine g_aload_n C 5 0 rfl dX7_begin_4 rfl ?_
  refine gf_7_9 C 8 dX7_begin_5 rfl ?_
  refine g_iconst C 9 (0 : Int32) ci_0 dX7_begin_8 rfl ?_
  refine g_iast C 10 ha_6 dX7_begin_9 rfl hz (fun S_1 hz => ?_)
  refine g_iconst C 11 (0 : Int32) ci_0 dX7_begin_10 rfl ?_
  refine g_istore_n C 12 (i := 1) [1, 0] (fun x1_2 => [(0, .ref (ad 5)), (1, .int x1_2)]) dX7_begin_11 rfl rfl (by decide) (fun x1_2 => rfl) hz (fun x1_2 hz => ?_)
  exact (t_X7_begin_L12 C hr fu) x1_2 S_1 hz
theorem c_X7_begin (l : Launch) (D : va_G) (cy : Nat → ClassId) (ad : Nat → Nat) (n : Nat) (S : Sg) (sz : Nat) (z : Sg) (hz : f_X7_begin S = some z) : Met l yX7_begin (.code yX7_begin cX7_begin 2 none :: wsAll) rm_X7_begin (gPc D cy ad n S sz [.ref (ad 5)]) (gQ D cy ad n (va_A (wW cy ad n S) sz) none z) 0 0 (va_A (wW cy ad n S) sz) := by
  refine gMet (lv := [(0, .ref (ad 5))]) (by decide) (Nat.le_of_ble_eq_true rfl) rfl ?_
  intro p e s m args below meth c A hA hr C
  exact t_X7_begin C hr hz
def rm_X6_pass : Room := { frames := 1, cells := 0, slots := 0, locals := 21 }
theorem wl_6_75 : Cond.methodLink RX6 75 yX6_sign ∈ wsAll := wA 274 (by decide +kernel) (by decide +kernel)
theorem wi_X6_sign : Cond.instanceMethod yX6_sign ∈ wsAll := wA 276 (by decide +kernel) (by decide +kernel)
theorem we_X6_sign : Cond.selects RX6 yX6_sign yX6_sign ∈ wsAll := wAp 5 (by decide +kernel) (by decide +kernel)
theorem wz_6 : Cond.initialized RX6 ∈ wsAll := wA 2 (by decide +kernel) (by decide +kernel)
theorem wo_X6_sign : Cond.code yX6_sign cX6_sign 1 (some .int) ∈ wsAll := wA 277 (by decide +kernel) (by decide +kernel)
theorem cl_6_75 {p : Program} {l : Launch} {e : Env} {R : Room} {s : State} {m : MethodId} {args : Array Value} {below : List Frame} {meth : Method} {c : Code} {cc : ByteArray} {nL : Nat} {D : va_G} {cy : Nat → ClassId} {ad : Nat → Nat} {n : Nat} {A : Nat → Prop} {mc ms : Nat} {Q : State → Prop} {S : Sg} {pc : Nat} {lv : List (Nat × Value)} {st : List Value} {ζ : Type} {z : ζ} (C : gC p s m args meth c cc nL RX6 D cy ad n A) (nx : Nat) (hR : Room.frames rm_X6_sign + 1 ≤ R.frames ∧ 8 + (1 + 11) + Room.locals rm_X6_sign ≤ R.locals) (hcm : mc ≤ R.cells ∧ ms ≤ R.slots) (hrest : (st.map fun v => v.category).sum ≤ 8) (hd : decode cc pc = .ok (.invokevirtual 75, 3)) (hn : pc + 3 = nx) {K : Int32 → Sg → Option ζ} (hz : bd2 (f_X6_sign S) K = some z) (kk : ∀ r S', K r S' = some z → gW p l e R s m args below meth c D cy ad n A nL mc ms Q S' nx lv (.int r :: st)) : gW p l e R s m args below meth c D cy ad n A nL mc ms Q S pc lv (.ref (ad 3) :: st) := by
  obtain ⟨q, hq, hk⟩ := bd2_s hz
  exact g_callV C (i := 3) (ci := 6) (Cn := RX6) (T := TX6) (N := 9) (y := yX6_sign) (rm := rm_X6_sign) (As := []) (rest := st) (na := 0) (fun sz => c_X6_sign l D cy ad n S sz  q hq) ha_3 rfl rfl wl_6_75 wi_X6_sign we_X6_sign wz_6 wo_X6_sign (by decide +kernel) rfl rfl hR hcm rfl hrest hn hd (kk q.1 q.2 hk)
theorem wl_6_71 : Cond.methodLink RX6 71 yX6_refuse ∈ wsAll := wA 288 (by decide +kernel) (by decide +kernel)
theorem wi_X6_refuse : Cond.instanceMethod yX6_refuse ∈ wsAll := wA 290 (by decide +kernel) (by decide +kernel)
theorem we_X6_refuse : Cond.selects RX6 yX6_refuse yX6_refuse ∈ wsAll := wAp 7 (by decide +kernel) (by decide +kernel)
theorem wo_X6_refuse : Cond.code yX6_refuse cX6_refuse 2 none ∈ wsAll := wA 291 (by decide +kernel) (by decide +kernel)
theorem cl_6_71 {p : Program} {l : Launch} {e : Env} {R : Room} {s : State} {m : MethodId} {args : Array Value} {below : List Frame} {meth : Method} {c : Code} {cc : ByteArray} {nL : Nat} {D : va_G} {cy : Nat → ClassId} {ad : Nat → Nat} {n : Nat} {A : Nat → Prop} {mc ms : Nat} {Q : State → Prop} {S : Sg} {pc : Nat} {lv : List (Nat × Value)} {st : List Value} {ζ : Type} {z : ζ} (C : gC p s m args meth c cc nL RX6 D cy ad n A) (nx : Nat) {x1 : Int32} (hR : Room.frames rm_X6_refuse + 1 ≤ R.frames ∧ 8 + (2 + 11) + Room.locals rm_X6_refuse ≤ R.locals) (hcm : mc ≤ R.cells ∧ ms ≤ R.slots) (hrest : (st.map fun v => v.category).sum ≤ 8) (hd : decode cc pc = .ok (.invokevirtual 71, 3)) (hn : pc + 3 = nx) {K : Sg → Option ζ} (hz : bd (f_X6_refuse x1 S) K = some z) (kk : ∀ S', K S' = some z → gW p l e R s m args below meth c D cy ad n A nL mc ms Q S' nx lv st) : gW p l e R s m args below meth c D cy ad n A nL mc ms Q S pc lv (.int x1 :: .ref (ad 3) :: st) := by
  obtain ⟨q, hq, hk⟩ := bd_s hz
  exact g_callV C (i := 3) (ci := 6) (Cn := RX6) (T := TX6) (N := 9) (y := yX6_refuse) (rm := rm_X6_refuse) (As := [.int x1]) (rest := st) (na := 1) (fun sz => c_X6_refuse l D cy ad n S sz x1 q hq) ha_3 rfl rfl wl_6_71 wi_X6_refuse we_X6_refuse wz_6 wo_X6_refuse (by decide +kernel) rfl rfl hR hcm rfl hrest hn hd (kk q hk)
set_option maxRecDepth 20000 in
theorem t_X6_pass {p : Program} {l : Launch} {e : Env} {s : State} {m : MethodId} {args : Array Value} {below : List Frame} {meth : Method} {c : Code} {D : va_G} {cy : Nat → ClassId} {ad : Nat → Nat} {n : Nat} {A : Nat → Prop} (C : gC p s m args meth c cX6_pass 2 RX6 D cy ad n A) (hr : meth.sig.returnType = none) {z : Sg} {S : Sg} {x1 : Int32} (hz : f_X6_pass x1 S = some z) : gW p l e rm_X6_pass s m args below meth c D cy ad n A 2 0 0 (MQ below (gQ D cy ad n A none z) args s 0 0 A) S 0 [(0, .ref (ad 3)), (1, .int x1)] [] := by
  unfold f_X6_pass at hz
  refine g_aload_n C 1 0 rfl dX6_pass_0 rfl ?_
  refine cl_6_75 C 4 ⟨Nat.le_of_ble_eq_true rfl, Nat.le_of_ble_eq_true rfl⟩ ⟨Nat.zero_le _, Nat.zero_le _⟩ (Nat.le_of_ble_eq_true rfl) dX6_pass_1 rfl hz (fun r_2 S_1 hz => ?_)
  refine g_iload_n C 5 1 rfl dX6_pass_4 rfl ?_
  refine g_icmp_ne C 21 8 dX6_pass_5 rfl rfl hz (fun hz => ?_) (fun hz => ?_)
  · refine g_aload_n C 22 0 rfl dX6_pass_21 rfl ?_
    refine g_iconst C 23 (1 : Int32) ci_1 dX6_pass_22 rfl ?_
    refine cl_6_71 C 26 ⟨Nat.le_of_ble_eq_true rfl, Nat.le_of_ble_eq_true rfl⟩ ⟨Nat.zero_le _, Nat.zero_le _⟩ (Nat.le_of_ble_eq_true rfl) dX6_pass_23 rfl hz (fun S_3 hz => ?_)
    exact g_vret C hr dX6_pass_26 hz
  · refine g_aload_n C 9 0 rfl dX6_pass_8 rfl ?_
    refine g_dup C 10 rfl dX6_pass_9 rfl ?_
    refine gf_6_19 C 13 dX6_pass_10 rfl ?_
    refine g_iconst C 14 (1 : Int32) ci_1 dX6_pass_13 rfl ?_
    refine g_iadd C 15 dX6_pass_14 rfl ?_
    refine pf_6_19 C 18 dX6_pass_15 rfl hz (fun S_4 hz => ?_)
    refine g_goto C 26 dX6_pass_18 rfl ?_
    exact g_vret C hr dX6_pass_26 hz
theorem c_X6_pass (l : Launch) (D : va_G) (cy : Nat → ClassId) (ad : Nat → Nat) (n : Nat) (S : Sg) (sz : Nat) (x1 : Int32) (z : Sg) (hz : f_X6_pass x1 S = some z) : Met l yX6_pass (.code yX6_pass cX6_pass 2 none :: wsAll) rm_X6_pass (gPc D cy ad n S sz [.ref (ad 3), .int x1]) (gQ D cy ad n (va_A (wW cy ad n S) sz) none z) 0 0 (va_A (wW cy ad n S) sz) := by
  refine gMet (lv := [(0, .ref (ad 3)), (1, .int x1)]) (by decide) (Nat.le_of_ble_eq_true rfl) rfl ?_
  intro p e s m args below meth c A hA hr C
  exact t_X6_pass C hr hz
def rm_X6_setPiece : Room := { frames := 0, cells := 0, slots := 0, locals := 0 }
set_option maxRecDepth 20000 in
theorem t_X6_setPiece {p : Program} {l : Launch} {e : Env} {s : State} {m : MethodId} {args : Array Value} {below : List Frame} {meth : Method} {c : Code} {D : va_G} {cy : Nat → ClassId} {ad : Nat → Nat} {n : Nat} {A : Nat → Prop} (C : gC p s m args meth c cX6_setPiece 4 RX6 D cy ad n A) (hr : meth.sig.returnType = none) {z : Sg} {S : Sg} {x1 : Int32} {x2 : Int32} {x3 : Int32} (hz : f_X6_setPiece x1 x2 x3 S = some z) : gW p l e rm_X6_setPiece s m args below meth c D cy ad n A 4 0 0 (MQ below (gQ D cy ad n A none z) args s 0 0 A) S 0 [(0, .ref (ad 3)), (1, .int x1), (2, .int x2), (3, .int x3)] [] := by
  unfold f_X6_setPiece at hz
  refine g_aload_n C 1 0 rfl dX6_setPiece_0 rfl ?_
  refine g_iload_n C 2 1 rfl dX6_setPiece_1 rfl ?_
  refine pf_6_35 C 5 dX6_setPiece_2 rfl hz (fun S_1 hz => ?_)
  refine g_aload_n C 6 0 rfl dX6_setPiece_5 rfl ?_
  refine g_iload_n C 7 2 rfl dX6_setPiece_6 rfl ?_
  refine pf_6_38 C 10 dX6_setPiece_7 rfl hz (fun S_2 hz => ?_)
  refine g_aload_n C 11 0 rfl dX6_setPiece_10 rfl ?_
  refine g_iload_n C 12 3 rfl dX6_setPiece_11 rfl ?_
  refine pf_6_41 C 15 dX6_setPiece_12 rfl hz (fun S_3 hz => ?_)
  exact g_vret C hr dX6_setPiece_15 hz
theorem c_X6_setPiece (l : Launch) (D : va_G) (cy : Nat → ClassId) (ad : Nat → Nat) (n : Nat) (S : Sg) (sz : Nat) (x1 : Int32) (x2 : Int32) (x3 : Int32) (z : Sg) (hz : f_X6_setPiece x1 x2 x3 S = some z) : Met l yX6_setPiece (.code yX6_setPiece cX6_setPiece 4 none :: wsAll) rm_X6_setPiece (gPc D cy ad n S sz [.ref (ad 3), .int x1, .int x2, .int x3]) (gQ D cy ad n (va_A (wW cy ad n S) sz) none z) 0 0 (va_A (wW cy ad n S) sz) := by
  refine gMet (lv := [(0, .ref (ad 3)), (1, .int x1), (2, .int x2), (3, .int x3)]) (by decide) (Nat.le_of_ble_eq_true rfl) rfl ?_
  intro p e s m args below meth c A hA hr C
  exact t_X6_setPiece C hr hz
def rm_X7_isFull : Room := { frames := 0, cells := 0, slots := 0, locals := 0 }
set_option maxRecDepth 20000 in
theorem t_X7_isFull {p : Program} {l : Launch} {e : Env} {s : State} {m : MethodId} {args : Array Value} {below : List Frame} {meth : Method} {c : Code} {D : va_G} {cy : Nat → ClassId} {ad : Nat → Nat} {n : Nat} {A : Nat → Prop} (C : gC p s m args meth c cX7_isFull 1 RX7 D cy ad n A) (hr : meth.sig.returnType = (some .boolean)) {z : Int32 × Sg} {S : Sg} (hz : f_X7_isFull S = some z) : gW p l e rm_X7_isFull s m args below meth c D cy ad n A 1 0 0 (MQ below (gQ D cy ad n A (some (.int z.1)) z.2) args s 0 0 A) S 0 [(0, .ref (ad 5))] [] := by
  unfold f_X7_isFull at hz
  refine g_aload_n C 1 0 rfl dX7_isFull_0 rfl ?_
  refine gf_7_19 C 4 dX7_isFull_1 rfl ?_
  refine g_aload_n C 5 0 rfl dX7_isFull_4 rfl ?_
  refine gf_7_9 C 8 dX7_isFull_5 rfl ?_
  refine g_iald C 9 ha_6 dX7_isFull_8 rfl hz (fun hz => ?_)
  refine g_bipush C 11 (30 : Int32) cb_30 dX7_isFull_9 rfl ?_
  refine g_icmp_lt C 18 14 dX7_isFull_11 rfl rfl hz (fun hz => ?_) (fun hz => ?_)
  · refine g_iconst C 19 (0 : Int32) ci_0 dX7_isFull_18 rfl ?_
    exact g_zretc C hr (by decide) dX7_isFull_19 hz
  · refine g_iconst C 15 (1 : Int32) ci_1 dX7_isFull_14 rfl ?_
    refine g_goto C 19 dX7_isFull_15 rfl ?_
    exact g_zretc C hr (by decide) dX7_isFull_19 hz
theorem c_X7_isFull (l : Launch) (D : va_G) (cy : Nat → ClassId) (ad : Nat → Nat) (n : Nat) (S : Sg) (sz : Nat) (z : Int32 × Sg) (hz : f_X7_isFull S = some z) : Met l yX7_isFull (.code yX7_isFull cX7_isFull 1 (some .boolean) :: wsAll) rm_X7_isFull (gPc D cy ad n S sz [.ref (ad 5)]) (gQ D cy ad n (va_A (wW cy ad n S) sz) (some (.int z.1)) z.2) 0 0 (va_A (wW cy ad n S) sz) := by
  refine gMet (lv := [(0, .ref (ad 5))]) (by decide) (Nat.le_of_ble_eq_true rfl) rfl ?_
  intro p e s m args below meth c A hA hr C
  exact t_X7_isFull C hr hz
def rm_X6_lettersOf : Room := { frames := 0, cells := 0, slots := 0, locals := 0 }
set_option maxRecDepth 20000 in
theorem t_X6_lettersOf {p : Program} {l : Launch} {e : Env} {s : State} {m : MethodId} {args : Array Value} {below : List Frame} {meth : Method} {c : Code} {D : va_G} {cy : Nat → ClassId} {ad : Nat → Nat} {n : Nat} {A : Nat → Prop} (C : gC p s m args meth c cX6_lettersOf 1 RX6 D cy ad n A) (hr : meth.sig.returnType = (some .int)) {z : Int32 × Sg} {S : Sg} {x0 : Int32} (hz : f_X6_lettersOf x0 S = some z) : gW p l e rm_X6_lettersOf s m args below meth c D cy ad n A 1 0 0 (MQ below (gQ D cy ad n A (some (.int z.1)) z.2) args s 0 0 A) S 0 [(0, .int x0)] [] := by
  unfold f_X6_lettersOf at hz
  refine g_iload_n C 1 0 rfl dX6_lettersOf_0 rfl ?_
  refine g_bipush C 3 (46 : Int32) cb_46 dX6_lettersOf_1 rfl ?_
  refine g_icmp_ne C 11 6 dX6_lettersOf_3 rfl rfl hz (fun hz => ?_) (fun hz => ?_)
  · refine g_iconst C 12 (1 : Int32) ci_1 dX6_lettersOf_11 rfl ?_
    refine g_iload_n C 13 0 rfl dX6_lettersOf_12 rfl ?_
    refine g_bipush C 15 (97 : Int32) cb_97 dX6_lettersOf_13 rfl ?_
    refine g_isub C 16 dX6_lettersOf_15 rfl ?_
    refine g_ishl C 17 dX6_lettersOf_16 rfl ?_
    exact g_iret C hr dX6_lettersOf_17 hz
  · refine g_bipush C 8 (15 : Int32) cb_15 dX6_lettersOf_6 rfl ?_
    refine g_goto C 17 dX6_lettersOf_8 rfl ?_
    exact g_iret C hr dX6_lettersOf_17 hz
theorem c_X6_lettersOf (l : Launch) (D : va_G) (cy : Nat → ClassId) (ad : Nat → Nat) (n : Nat) (S : Sg) (sz : Nat) (x0 : Int32) (z : Int32 × Sg) (hz : f_X6_lettersOf x0 S = some z) : Met l yX6_lettersOf (.code yX6_lettersOf cX6_lettersOf 1 (some .int) :: wsAll) rm_X6_lettersOf (gPc D cy ad n S sz [.int x0]) (gQ D cy ad n (va_A (wW cy ad n S) sz) (some (.int z.1)) z.2) 0 0 (va_A (wW cy ad n S) sz) := by
  refine gMet (lv := [(0, .int x0)]) (by decide) (Nat.le_of_ble_eq_true rfl) rfl ?_
  intro p e s m args below meth c A hA hr C
  exact t_X6_lettersOf C hr hz
def rm_X6_range : Room := { frames := 1, cells := 0, slots := 0, locals := 21 }
theorem wl_6_141 : Cond.methodLink RX6 141 yX6_lettersOf ∈ wsAll := wA 336 (by decide +kernel) (by decide +kernel)
theorem ws_X6_lettersOf : Cond.static yX6_lettersOf ∈ wsAll := wA 337 (by decide +kernel) (by decide +kernel)
theorem wo_X6_lettersOf : Cond.code yX6_lettersOf cX6_lettersOf 1 (some .int) ∈ wsAll := wA 338 (by decide +kernel) (by decide +kernel)
theorem cl_6_141 {p : Program} {l : Launch} {e : Env} {R : Room} {s : State} {m : MethodId} {args : Array Value} {below : List Frame} {meth : Method} {c : Code} {cc : ByteArray} {nL : Nat} {D : va_G} {cy : Nat → ClassId} {ad : Nat → Nat} {n : Nat} {A : Nat → Prop} {mc ms : Nat} {Q : State → Prop} {S : Sg} {pc : Nat} {lv : List (Nat × Value)} {st : List Value} {ζ : Type} {z : ζ} (C : gC p s m args meth c cc nL RX6 D cy ad n A) (nx : Nat) {x0 : Int32} (hR : Room.frames rm_X6_lettersOf + 1 ≤ R.frames ∧ 8 + (1 + 11) + Room.locals rm_X6_lettersOf ≤ R.locals) (hcm : mc ≤ R.cells ∧ ms ≤ R.slots) (hrest : (st.map fun v => v.category).sum ≤ 8) (hd : decode cc pc = .ok (.invokestatic 141, 3)) (hn : pc + 3 = nx) {K : Int32 → Sg → Option ζ} (hz : bd2 (f_X6_lettersOf x0 S) K = some z) (kk : ∀ r S', K r S' = some z → gW p l e R s m args below meth c D cy ad n A nL mc ms Q S' nx lv (.int r :: st)) : gW p l e R s m args below meth c D cy ad n A nL mc ms Q S pc lv (.int x0 :: st) := by
  obtain ⟨q, hq, hk⟩ := bd2_s hz
  exact g_callS C (y := yX6_lettersOf) (rm := rm_X6_lettersOf) (As := [.int x0]) (rest := st) (na := 1) (fun sz => c_X6_lettersOf l D cy ad n S sz x0 q hq) wl_6_141 ws_X6_lettersOf wz_6 wo_X6_lettersOf (by decide +kernel) rfl rfl hR hcm rfl hrest hn hd (kk q.1 q.2 hk)
set_option maxRecDepth 20000 in
theorem t_X6_range {p : Program} {l : Launch} {e : Env} {s : State} {m : MethodId} {args : Array Value} {below : List Frame} {meth : Method} {c : Code} {D : va_G} {cy : Nat → ClassId} {ad : Nat → Nat} {n : Nat} {A : Nat → Prop} (C : gC p s m args meth c cX6_range 3 RX6 D cy ad n A) (hr : meth.sig.returnType = (some .int)) {z : Int32 × Sg} {S : Sg} (hz : f_X6_range S = some z) : gW p l e rm_X6_range s m args below meth c D cy ad n A 3 0 0 (MQ below (gQ D cy ad n A (some (.int z.1)) z.2) args s 0 0 A) S 0 [(0, .ref (ad 3))] [] := by
  unfold f_X6_range at hz
  refine g_aload_n C 1 0 rfl dX6_range_0 rfl ?_
  refine cl_6_75 C 4 ⟨Nat.le_of_ble_eq_true rfl, Nat.le_of_ble_eq_true rfl⟩ ⟨Nat.zero_le _, Nat.zero_le _⟩ (Nat.le_of_ble_eq_true rfl) dX6_range_1 rfl hz (fun r_2 S_1 hz => ?_)
  refine g_istore_n C 5 (i := 1) [1, 0] (fun x1_3 => [(0, .ref (ad 3)), (1, .int x1_3)]) dX6_range_4 rfl rfl (by decide) (fun x1_3 => rfl) hz (fun x1_3 hz => ?_)
  refine g_iload_n C 6 1 rfl dX6_range_5 rfl ?_
  refine cl_6_151 C 9 ⟨Nat.le_of_ble_eq_true rfl, Nat.le_of_ble_eq_true rfl⟩ ⟨Nat.zero_le _, Nat.zero_le _⟩ (Nat.le_of_ble_eq_true rfl) dX6_range_6 rfl hz (fun r_5 S_4 hz => ?_)
  refine g_if_ne C 19 12 dX6_range_9 rfl rfl hz (fun hz => ?_) (fun hz => ?_)
  · refine g_aload_n C 20 0 rfl dX6_range_19 rfl ?_
    refine g_dup C 21 rfl dX6_range_20 rfl ?_
    refine gf_6_19 C 24 dX6_range_21 rfl ?_
    refine g_iconst C 25 (1 : Int32) ci_1 dX6_range_24 rfl ?_
    refine g_iadd C 26 dX6_range_25 rfl ?_
    refine pf_6_19 C 29 dX6_range_26 rfl hz (fun S_6 hz => ?_)
    refine g_aload_n C 30 0 rfl dX6_range_29 rfl ?_
    refine cl_6_75 C 33 ⟨Nat.le_of_ble_eq_true rfl, Nat.le_of_ble_eq_true rfl⟩ ⟨Nat.zero_le _, Nat.zero_le _⟩ (Nat.le_of_ble_eq_true rfl) dX6_range_30 rfl hz (fun r_8 S_7 hz => ?_)
    refine g_bipush C 35 (45 : Int32) cb_45 dX6_range_33 rfl ?_
    refine g_icmp_eq C 43 38 dX6_range_35 rfl rfl hz (fun hz => ?_) (fun hz => ?_)
    · refine g_aload_n C 44 0 rfl dX6_range_43 rfl ?_
      refine g_dup C 45 rfl dX6_range_44 rfl ?_
      refine gf_6_19 C 48 dX6_range_45 rfl ?_
      refine g_iconst C 49 (1 : Int32) ci_1 dX6_range_48 rfl ?_
      refine g_iadd C 50 dX6_range_49 rfl ?_
      refine pf_6_19 C 53 dX6_range_50 rfl hz (fun S_9 hz => ?_)
      refine g_aload_n C 54 0 rfl dX6_range_53 rfl ?_
      refine cl_6_75 C 57 ⟨Nat.le_of_ble_eq_true rfl, Nat.le_of_ble_eq_true rfl⟩ ⟨Nat.zero_le _, Nat.zero_le _⟩ (Nat.le_of_ble_eq_true rfl) dX6_range_54 rfl hz (fun r_11 S_10 hz => ?_)
      refine g_istore_n C 58 (i := 2) [1, 2, 0] (fun x2_12 => [(0, .ref (ad 3)), (1, .int x1_3), (2, .int x2_12)]) dX6_range_57 rfl rfl (by decide) (fun x2_12 => rfl) hz (fun x2_12 hz => ?_)
      refine g_iload_n C 59 2 rfl dX6_range_58 rfl ?_
      refine cl_6_151 C 62 ⟨Nat.le_of_ble_eq_true rfl, Nat.le_of_ble_eq_true rfl⟩ ⟨Nat.zero_le _, Nat.zero_le _⟩ (Nat.le_of_ble_eq_true rfl) dX6_range_59 rfl hz (fun r_14 S_13 hz => ?_)
      refine g_if_eq C 70 65 dX6_range_62 rfl rfl hz (fun hz => ?_) (fun hz => ?_)
      · refine g_aload_n C 71 0 rfl dX6_range_70 rfl ?_
        refine g_iconst C 72 (1 : Int32) ci_1 dX6_range_71 rfl ?_
        refine cl_6_71 C 75 ⟨Nat.le_of_ble_eq_true rfl, Nat.le_of_ble_eq_true rfl⟩ ⟨Nat.zero_le _, Nat.zero_le _⟩ (Nat.le_of_ble_eq_true rfl) dX6_range_72 rfl hz (fun S_15 hz => ?_)
        refine g_iconst C 76 (0 : Int32) ci_0 dX6_range_75 rfl ?_
        exact g_iret C hr dX6_range_76 hz
      · refine g_iload_n C 66 2 rfl dX6_range_65 rfl ?_
        refine g_iload_n C 67 1 rfl dX6_range_66 rfl ?_
        refine g_icmp_ge C 77 70 dX6_range_67 rfl rfl hz (fun hz => ?_) (fun hz => ?_)
        · refine g_aload_n C 78 0 rfl dX6_range_77 rfl ?_
          refine g_dup C 79 rfl dX6_range_78 rfl ?_
          refine gf_6_19 C 82 dX6_range_79 rfl ?_
          refine g_iconst C 83 (1 : Int32) ci_1 dX6_range_82 rfl ?_
          refine g_iadd C 84 dX6_range_83 rfl ?_
          refine pf_6_19 C 87 dX6_range_84 rfl hz (fun S_16 hz => ?_)
          refine g_iconst C 88 (2 : Int32) ci_2 dX6_range_87 rfl ?_
          refine g_iload_n C 89 2 rfl dX6_range_88 rfl ?_
          refine g_bipush C 91 (97 : Int32) cb_97 dX6_range_89 rfl ?_
          refine g_isub C 92 dX6_range_91 rfl ?_
          refine g_ishl C 93 dX6_range_92 rfl ?_
          refine g_iconst C 94 (1 : Int32) ci_1 dX6_range_93 rfl ?_
          refine g_iload_n C 95 1 rfl dX6_range_94 rfl ?_
          refine g_bipush C 97 (97 : Int32) cb_97 dX6_range_95 rfl ?_
          refine g_isub C 98 dX6_range_97 rfl ?_
          refine g_ishl C 99 dX6_range_98 rfl ?_
          refine g_isub C 100 dX6_range_99 rfl ?_
          exact g_iret C hr dX6_range_100 hz
        · refine g_aload_n C 71 0 rfl dX6_range_70 rfl ?_
          refine g_iconst C 72 (1 : Int32) ci_1 dX6_range_71 rfl ?_
          refine cl_6_71 C 75 ⟨Nat.le_of_ble_eq_true rfl, Nat.le_of_ble_eq_true rfl⟩ ⟨Nat.zero_le _, Nat.zero_le _⟩ (Nat.le_of_ble_eq_true rfl) dX6_range_72 rfl hz (fun S_17 hz => ?_)
          refine g_iconst C 76 (0 : Int32) ci_0 dX6_range_75 rfl ?_
          exact g_iret C hr dX6_range_76 hz
    · refine g_iload_n C 39 1 rfl dX6_range_38 rfl ?_
      refine cl_6_141 C 42 ⟨Nat.le_of_ble_eq_true rfl, Nat.le_of_ble_eq_true rfl⟩ ⟨Nat.zero_le _, Nat.zero_le _⟩ (Nat.le_of_ble_eq_true rfl) dX6_range_39 rfl hz (fun r_19 S_18 hz => ?_)
      exact g_iret C hr dX6_range_42 hz
  · refine g_aload_n C 13 0 rfl dX6_range_12 rfl ?_
    refine g_iconst C 14 (1 : Int32) ci_1 dX6_range_13 rfl ?_
    refine cl_6_71 C 17 ⟨Nat.le_of_ble_eq_true rfl, Nat.le_of_ble_eq_true rfl⟩ ⟨Nat.zero_le _, Nat.zero_le _⟩ (Nat.le_of_ble_eq_true rfl) dX6_range_14 rfl hz (fun S_20 hz => ?_)
    refine g_iconst C 18 (0 : Int32) ci_0 dX6_range_17 rfl ?_
    exact g_iret C hr dX6_range_18 hz
theorem c_X6_range (l : Launch) (D : va_G) (cy : Nat → ClassId) (ad : Nat → Nat) (n : Nat) (S : Sg) (sz : Nat) (z : Int32 × Sg) (hz : f_X6_range S = some z) : Met l yX6_range (.code yX6_range cX6_range 3 (some .int) :: wsAll) rm_X6_range (gPc D cy ad n S sz [.ref (ad 3)]) (gQ D cy ad n (va_A (wW cy ad n S) sz) (some (.int z.1)) z.2) 0 0 (va_A (wW cy ad n S) sz) := by
  refine gMet (lv := [(0, .ref (ad 3))]) (by decide) (Nat.le_of_ble_eq_true rfl) rfl ?_
  intro p e s m args below meth c A hA hr C
  exact t_X6_range C hr hz
def rm_X6_bracket : Room := { frames := 2, cells := 0, slots := 0, locals := 43 }
theorem wl_6_148 : Cond.methodLink RX6 148 yX6_range ∈ wsAll := wA 332 (by decide +kernel) (by decide +kernel)
theorem wi_X6_range : Cond.instanceMethod yX6_range ∈ wsAll := wA 334 (by decide +kernel) (by decide +kernel)
theorem we_X6_range : Cond.selects RX6 yX6_range yX6_range ∈ wsAll := wAp 18 (by decide +kernel) (by decide +kernel)
theorem wo_X6_range : Cond.code yX6_range cX6_range 3 (some .int) ∈ wsAll := wA 335 (by decide +kernel) (by decide +kernel)
theorem cl_6_148 {p : Program} {l : Launch} {e : Env} {R : Room} {s : State} {m : MethodId} {args : Array Value} {below : List Frame} {meth : Method} {c : Code} {cc : ByteArray} {nL : Nat} {D : va_G} {cy : Nat → ClassId} {ad : Nat → Nat} {n : Nat} {A : Nat → Prop} {mc ms : Nat} {Q : State → Prop} {S : Sg} {pc : Nat} {lv : List (Nat × Value)} {st : List Value} {ζ : Type} {z : ζ} (C : gC p s m args meth c cc nL RX6 D cy ad n A) (nx : Nat) (hR : Room.frames rm_X6_range + 1 ≤ R.frames ∧ 8 + (3 + 11) + Room.locals rm_X6_range ≤ R.locals) (hcm : mc ≤ R.cells ∧ ms ≤ R.slots) (hrest : (st.map fun v => v.category).sum ≤ 8) (hd : decode cc pc = .ok (.invokevirtual 148, 3)) (hn : pc + 3 = nx) {K : Int32 → Sg → Option ζ} (hz : bd2 (f_X6_range S) K = some z) (kk : ∀ r S', K r S' = some z → gW p l e R s m args below meth c D cy ad n A nL mc ms Q S' nx lv (.int r :: st)) : gW p l e R s m args below meth c D cy ad n A nL mc ms Q S pc lv (.ref (ad 3) :: st) := by
  obtain ⟨q, hq, hk⟩ := bd2_s hz
  exact g_callV C (i := 3) (ci := 6) (Cn := RX6) (T := TX6) (N := 9) (y := yX6_range) (rm := rm_X6_range) (As := []) (rest := st) (na := 0) (fun sz => c_X6_range l D cy ad n S sz  q hq) ha_3 rfl rfl wl_6_148 wi_X6_range we_X6_range wz_6 wo_X6_range (by decide +kernel) rfl rfl hR hcm rfl hrest hn hd (kk q.1 q.2 hk)
theorem wl_6_91 : Cond.methodLink RX6 91 yX6_pass ∈ wsAll := wA 316 (by decide +kernel) (by decide +kernel)
theorem wi_X6_pass : Cond.instanceMethod yX6_pass ∈ wsAll := wA 318 (by decide +kernel) (by decide +kernel)
theorem we_X6_pass : Cond.selects RX6 yX6_pass yX6_pass ∈ wsAll := wAp 14 (by decide +kernel) (by decide +kernel)
theorem wo_X6_pass : Cond.code yX6_pass cX6_pass 2 none ∈ wsAll := wA 319 (by decide +kernel) (by decide +kernel)
theorem cl_6_91 {p : Program} {l : Launch} {e : Env} {R : Room} {s : State} {m : MethodId} {args : Array Value} {below : List Frame} {meth : Method} {c : Code} {cc : ByteArray} {nL : Nat} {D : va_G} {cy : Nat → ClassId} {ad : Nat → Nat} {n : Nat} {A : Nat → Prop} {mc ms : Nat} {Q : State → Prop} {S : Sg} {pc : Nat} {lv : List (Nat × Value)} {st : List Value} {ζ : Type} {z : ζ} (C : gC p s m args meth c cc nL RX6 D cy ad n A) (nx : Nat) {x1 : Int32} (hR : Room.frames rm_X6_pass + 1 ≤ R.frames ∧ 8 + (2 + 11) + Room.locals rm_X6_pass ≤ R.locals) (hcm : mc ≤ R.cells ∧ ms ≤ R.slots) (hrest : (st.map fun v => v.category).sum ≤ 8) (hd : decode cc pc = .ok (.invokevirtual 91, 3)) (hn : pc + 3 = nx) {K : Sg → Option ζ} (hz : bd (f_X6_pass x1 S) K = some z) (kk : ∀ S', K S' = some z → gW p l e R s m args below meth c D cy ad n A nL mc ms Q S' nx lv st) : gW p l e R s m args below meth c D cy ad n A nL mc ms Q S pc lv (.int x1 :: .ref (ad 3) :: st) := by
  obtain ⟨q, hq, hk⟩ := bd_s hz
  exact g_callV C (i := 3) (ci := 6) (Cn := RX6) (T := TX6) (N := 9) (y := yX6_pass) (rm := rm_X6_pass) (As := [.int x1]) (rest := st) (na := 1) (fun sz => c_X6_pass l D cy ad n S sz x1 q hq) ha_3 rfl rfl wl_6_91 wi_X6_pass we_X6_pass wz_6 wo_X6_pass (by decide +kernel) rfl rfl hR hcm rfl hrest hn hd (kk q hk)
set_option maxRecDepth 20000 in
theorem t_X6_bracket_L67 {p : Program} {l : Launch} {e : Env} {s : State} {m : MethodId} {args : Array Value} {below : List Frame} {meth : Method} {c : Code} {D : va_G} {cy : Nat → ClassId} {ad : Nat → Nat} {n : Nat} {A : Nat → Prop} (C : gC p s m args meth c cX6_bracket 4 RX6 D cy ad n A) (hr : meth.sig.returnType = (some .int)) {z : Int32 × Sg} : ∀ (x1 : Int32) (x2 : Int32) (S : Sg), f_X6_bracket_L67 x1 x2 S = some z → gW p l e rm_X6_bracket s m args below meth c D cy ad n A 4 0 0 (MQ below (gQ D cy ad n A (some (.int z.1)) z.2) args s 0 0 A) S 67 [(0, .ref (ad 3)), (1, .int x1), (2, .int x2)] [] := by
  intro x1 x2 S hz
  unfold f_X6_bracket_L67 at hz
  refine g_aload_n C 68 0 rfl dX6_bracket_67 rfl ?_
  refine g_bipush C 70 (93 : Int32) cb_93 dX6_bracket_68 rfl ?_
  refine cl_6_91 C 73 ⟨Nat.le_of_ble_eq_true rfl, Nat.le_of_ble_eq_true rfl⟩ ⟨Nat.zero_le _, Nat.zero_le _⟩ (Nat.le_of_ble_eq_true rfl) dX6_bracket_70 rfl hz (fun S_8 hz => ?_)
  refine g_iload_n C 74 1 rfl dX6_bracket_73 rfl ?_
  refine g_if_eq C 86 77 dX6_bracket_74 rfl rfl hz (fun hz => ?_) (fun hz => ?_)
  · refine g_iload_n C 87 2 rfl dX6_bracket_86 rfl ?_
    exact g_iret C hr dX6_bracket_87 hz
  · refine g_bipush C 79 (15 : Int32) cb_15 dX6_bracket_77 rfl ?_
    refine g_iload_n C 80 2 rfl dX6_bracket_79 rfl ?_
    refine g_iconst C 81 (-1 : Int32) ci_m1 dX6_bracket_80 rfl ?_
    refine g_ixor C 82 dX6_bracket_81 rfl ?_
    refine g_iand C 83 dX6_bracket_82 rfl ?_
    refine g_goto C 87 dX6_bracket_83 rfl ?_
    exact g_iret C hr dX6_bracket_87 hz
set_option maxRecDepth 20000 in
theorem t_X6_bracket_L36 {p : Program} {l : Launch} {e : Env} {s : State} {m : MethodId} {args : Array Value} {below : List Frame} {meth : Method} {c : Code} {D : va_G} {cy : Nat → ClassId} {ad : Nat → Nat} {n : Nat} {A : Nat → Prop} (C : gC p s m args meth c cX6_bracket 4 RX6 D cy ad n A) (hr : meth.sig.returnType = (some .int)) {z : Int32 × Sg} : ∀ (fl : Nat) (x1 : Int32) (x2 : Int32) (x3 : Int32) (S : Sg), f_X6_bracket_L36 fl x1 x2 x3 S = some z → gW p l e rm_X6_bracket s m args below meth c D cy ad n A 4 0 0 (MQ below (gQ D cy ad n A (some (.int z.1)) z.2) args s 0 0 A) S 36 [(0, .ref (ad 3)), (1, .int x1), (2, .int x2), (3, .int x3)] [] := by
  intro fl
  induction fl with
  | zero =>
    intro x1 x2 x3 S hz
    rw [f_X6_bracket_L36] at hz
    cases hz
  | succ fl ih =>
    intro x1 x2 x3 S hz
    rw [f_X6_bracket_L36] at hz
    refine g_iload_n C 37 3 rfl dX6_bracket_36 rfl ?_
    refine g_aload_n C 38 0 rfl dX6_bracket_37 rfl ?_
    refine gf_6_15 C 41 dX6_bracket_38 rfl ?_
    refine g_icmp_ge C 67 44 dX6_bracket_41 rfl rfl hz (fun hz => ?_) (fun hz => ?_)
    · refine g_lv [0, 1, 2] rfl ?_
      exact (t_X6_bracket_L67 C hr) x1 x2 S hz
    · refine g_aload_n C 45 0 rfl dX6_bracket_44 rfl ?_
      refine cl_6_75 C 48 ⟨Nat.le_of_ble_eq_true rfl, Nat.le_of_ble_eq_true rfl⟩ ⟨Nat.zero_le _, Nat.zero_le _⟩ (Nat.le_of_ble_eq_true rfl) dX6_bracket_45 rfl hz (fun r_10 S_9 hz => ?_)
      refine cl_6_151 C 51 ⟨Nat.le_of_ble_eq_true rfl, Nat.le_of_ble_eq_true rfl⟩ ⟨Nat.zero_le _, Nat.zero_le _⟩ (Nat.le_of_ble_eq_true rfl) dX6_bracket_48 rfl hz (fun r_12 S_11 hz => ?_)
      refine g_if_eq C 67 54 dX6_bracket_51 rfl rfl hz (fun hz => ?_) (fun hz => ?_)
      · refine g_lv [0, 1, 2] rfl ?_
        exact (t_X6_bracket_L67 C hr) x1 x2 S_11 hz
      · refine g_iload_n C 55 2 rfl dX6_bracket_54 rfl ?_
        refine g_aload_n C 56 0 rfl dX6_bracket_55 rfl ?_
        refine cl_6_148 C 59 ⟨Nat.le_of_ble_eq_true rfl, Nat.le_of_ble_eq_true rfl⟩ ⟨Nat.zero_le _, Nat.zero_le _⟩ (Nat.le_of_ble_eq_true rfl) dX6_bracket_56 rfl hz (fun r_14 S_13 hz => ?_)
        refine g_ior C 60 dX6_bracket_59 rfl ?_
        refine g_istore_n C 61 (i := 2) [1, 2, 0, 3] (fun x2_15 => [(0, .ref (ad 3)), (1, .int x1), (2, .int x2_15), (3, .int x3)]) dX6_bracket_60 rfl rfl (by decide) (fun x2_15 => rfl) hz (fun x2_15 hz => ?_)
        refine g_iinc C 64 3 [1, 2, 3, 0] (1 : Int32) ci_1 (fun x3_16 => [(0, .ref (ad 3)), (1, .int x1), (2, .int x2_15), (3, .int x3_16)]) dX6_bracket_61 rfl rfl (by decide) (fun x3_16 => rfl) hz (fun x3_16 hz => ?_)
        refine g_goto C 36 dX6_bracket_64 rfl ?_
        exact ih x1 x2_15 x3_16 S_13 hz
set_option maxRecDepth 20000 in
theorem t_X6_bracket_L14 {p : Program} {l : Launch} {e : Env} {s : State} {m : MethodId} {args : Array Value} {below : List Frame} {meth : Method} {c : Code} {D : va_G} {cy : Nat → ClassId} {ad : Nat → Nat} {n : Nat} {A : Nat → Prop} (C : gC p s m args meth c cX6_bracket 4 RX6 D cy ad n A) (hr : meth.sig.returnType = (some .int)) {z : Int32 × Sg} : ∀ (t0 : Int32) (S : Sg), f_X6_bracket_L14 t0 S = some z → gW p l e rm_X6_bracket s m args below meth c D cy ad n A 4 0 0 (MQ below (gQ D cy ad n A (some (.int z.1)) z.2) args s 0 0 A) S 14 [(0, .ref (ad 3))] [.int t0] := by
  intro t0 S hz
  unfold f_X6_bracket_L14 at hz
  refine g_istore_n C 15 (i := 1) [1, 0] (fun x1_3 => [(0, .ref (ad 3)), (1, .int x1_3)]) dX6_bracket_14 rfl rfl (by decide) (fun x1_3 => rfl) hz (fun x1_3 hz => ?_)
  refine g_iload_n C 16 1 rfl dX6_bracket_15 rfl ?_
  refine g_if_eq C 29 19 dX6_bracket_16 rfl rfl hz (fun hz => ?_) (fun hz => ?_)
  · refine g_aload_n C 30 0 rfl dX6_bracket_29 rfl ?_
    refine cl_6_148 C 33 ⟨Nat.le_of_ble_eq_true rfl, Nat.le_of_ble_eq_true rfl⟩ ⟨Nat.zero_le _, Nat.zero_le _⟩ (Nat.le_of_ble_eq_true rfl) dX6_bracket_30 rfl hz (fun r_5 S_4 hz => ?_)
    refine g_istore_n C 34 (i := 2) [1, 2, 0] (fun x2_6 => [(0, .ref (ad 3)), (1, .int x1_3), (2, .int x2_6)]) dX6_bracket_33 rfl rfl (by decide) (fun x2_6 => rfl) hz (fun x2_6 hz => ?_)
    refine g_iconst C 35 (0 : Int32) ci_0 dX6_bracket_34 rfl ?_
    refine g_istore_n C 36 (i := 3) [1, 2, 3, 0] (fun x3_7 => [(0, .ref (ad 3)), (1, .int x1_3), (2, .int x2_6), (3, .int x3_7)]) dX6_bracket_35 rfl rfl (by decide) (fun x3_7 => rfl) hz (fun x3_7 hz => ?_)
    exact (t_X6_bracket_L36 C hr fu) x1_3 x2_6 x3_7 S_4 hz
  · refine g_aload_n C 20 0 rfl dX6_bracket_19 rfl ?_
    refine g_dup C 21 rfl dX6_bracket_20 rfl ?_
    refine gf_6_19 C 24 dX6_bracket_21 rfl ?_
    refine g_iconst C 25 (1 : Int32) ci_1 dX6_bracket_24 rfl ?_
    refine g_iadd C 26 dX6_bracket_25 rfl ?_
    refine pf_6_19 C 29 dX6_bracket_26 rfl hz (fun S_17 hz => ?_)
    refine g_aload_n C 30 0 rfl dX6_bracket_29 rfl ?_
    refine cl_6_148 C 33 ⟨Nat.le_of_ble_eq_true rfl, Nat.le_of_ble_eq_true rfl⟩ ⟨Nat.zero_le _, Nat.zero_le _⟩ (Nat.le_of_ble_eq_true rfl) dX6_bracket_30 rfl hz (fun r_19 S_18 hz => ?_)
    refine g_istore_n C 34 (i := 2) [1, 2, 0] (fun x2_20 => [(0, .ref (ad 3)), (1, .int x1_3), (2, .int x2_20)]) dX6_bracket_33 rfl rfl (by decide) (fun x2_20 => rfl) hz (fun x2_20 hz => ?_)
    refine g_iconst C 35 (0 : Int32) ci_0 dX6_bracket_34 rfl ?_
    refine g_istore_n C 36 (i := 3) [1, 2, 3, 0] (fun x3_21 => [(0, .ref (ad 3)), (1, .int x1_3), (2, .int x2_20), (3, .int x3_21)]) dX6_bracket_35 rfl rfl (by decide) (fun x3_21 => rfl) hz (fun x3_21 hz => ?_)
    exact (t_X6_bracket_L36 C hr fu) x1_3 x2_20 x3_21 S_18 hz
set_option maxRecDepth 20000 in
theorem t_X6_bracket {p : Program} {l : Launch} {e : Env} {s : State} {m : MethodId} {args : Array Value} {below : List Frame} {meth : Method} {c : Code} {D : va_G} {cy : Nat → ClassId} {ad : Nat → Nat} {n : Nat} {A : Nat → Prop} (C : gC p s m args meth c cX6_bracket 4 RX6 D cy ad n A) (hr : meth.sig.returnType = (some .int)) {z : Int32 × Sg} {S : Sg} (hz : f_X6_bracket S = some z) : gW p l e rm_X6_bracket s m args below meth c D cy ad n A 4 0 0 (MQ below (gQ D cy ad n A (some (.int z.1)) z.2) args s 0 0 A) S 0 [(0, .ref (ad 3))] [] := by
  unfold f_X6_bracket at hz
  refine g_aload_n C 1 0 rfl dX6_bracket_0 rfl ?_
  refine cl_6_75 C 4 ⟨Nat.le_of_ble_eq_true rfl, Nat.le_of_ble_eq_true rfl⟩ ⟨Nat.zero_le _, Nat.zero_le _⟩ (Nat.le_of_ble_eq_true rfl) dX6_bracket_1 rfl hz (fun r_2 S_1 hz => ?_)
  refine g_bipush C 6 (94 : Int32) cb_94 dX6_bracket_4 rfl ?_
  refine g_icmp_ne C 13 9 dX6_bracket_6 rfl rfl hz (fun hz => ?_) (fun hz => ?_)
  · refine g_iconst C 14 (0 : Int32) ci_0 dX6_bracket_13 rfl ?_
    exact (t_X6_bracket_L14 C hr) ((0 : Int32)) S_1 hz
  · refine g_iconst C 10 (1 : Int32) ci_1 dX6_bracket_9 rfl ?_
    refine g_goto C 14 dX6_bracket_10 rfl ?_
    exact (t_X6_bracket_L14 C hr) ((1 : Int32)) S_1 hz
theorem c_X6_bracket (l : Launch) (D : va_G) (cy : Nat → ClassId) (ad : Nat → Nat) (n : Nat) (S : Sg) (sz : Nat) (z : Int32 × Sg) (hz : f_X6_bracket S = some z) : Met l yX6_bracket (.code yX6_bracket cX6_bracket 4 (some .int) :: wsAll) rm_X6_bracket (gPc D cy ad n S sz [.ref (ad 3)]) (gQ D cy ad n (va_A (wW cy ad n S) sz) (some (.int z.1)) z.2) 0 0 (va_A (wW cy ad n S) sz) := by
  refine gMet (lv := [(0, .ref (ad 3))]) (by decide) (Nat.le_of_ble_eq_true rfl) rfl ?_
  intro p e s m args below meth c A hA hr C
  exact t_X6_bracket C hr hz
def rm_X7_addSpot : Room := { frames := 0, cells := 0, slots := 0, locals := 0 }
set_option maxRecDepth 20000 in
theorem t_X7_addSpot_L32 {p : Program} {l : Launch} {e : Env} {s : State} {m : MethodId} {args : Array Value} {below : List Frame} {meth : Method} {c : Code} {D : va_G} {cy : Nat → ClassId} {ad : Nat → Nat} {n : Nat} {A : Nat → Prop} (C : gC p s m args meth c cX7_addSpot 5 RX7 D cy ad n A) (hr : meth.sig.returnType = (some .int)) {z : Int32 × Sg} : ∀ (fl : Nat) (x1 : Int32) (x2 : Int32) (x3 : Int32) (x4 : Int32) (S : Sg), f_X7_addSpot_L32 fl x1 x2 x3 x4 S = some z → gW p l e rm_X7_addSpot s m args below meth c D cy ad n A 5 0 0 (MQ below (gQ D cy ad n A (some (.int z.1)) z.2) args s 0 0 A) S 32 [(0, .ref (ad 5)), (1, .int x1), (2, .int x2), (3, .int x3), (4, .int x4)] [] := by
  intro fl
  induction fl with
  | zero =>
    intro x1 x2 x3 x4 S hz
    rw [f_X7_addSpot_L32] at hz
    cases hz
  | succ fl ih =>
    intro x1 x2 x3 x4 S hz
    rw [f_X7_addSpot_L32] at hz
    refine g_iload C 34 4 rfl dX7_addSpot_32 rfl ?_
    refine g_iconst C 35 (4 : Int32) ci_4 dX7_addSpot_34 rfl ?_
    refine g_icmp_ge C 71 38 dX7_addSpot_35 rfl rfl hz (fun hz => ?_) (fun hz => ?_)
    · refine g_aload_n C 72 0 rfl dX7_addSpot_71 rfl ?_
      refine gf_7_19 C 75 dX7_addSpot_72 rfl ?_
      refine g_aload_n C 76 0 rfl dX7_addSpot_75 rfl ?_
      refine gf_7_9 C 79 dX7_addSpot_76 rfl ?_
      refine g_iload_n C 80 2 rfl dX7_addSpot_79 rfl ?_
      refine g_iconst C 81 (1 : Int32) ci_1 dX7_addSpot_80 rfl ?_
      refine g_iadd C 82 dX7_addSpot_81 rfl ?_
      refine g_iast C 83 ha_6 dX7_addSpot_82 rfl hz (fun S_5 hz => ?_)
      refine g_iload_n C 84 3 rfl dX7_addSpot_83 rfl ?_
      exact g_iret C hr dX7_addSpot_84 hz
    · refine g_iload_n C 39 1 rfl dX7_addSpot_38 rfl ?_
      refine g_iload C 41 4 rfl dX7_addSpot_39 rfl ?_
      refine g_ishr C 42 dX7_addSpot_41 rfl ?_
      refine g_iconst C 43 (1 : Int32) ci_1 dX7_addSpot_42 rfl ?_
      refine g_iand C 44 dX7_addSpot_43 rfl ?_
      refine g_if_eq C 65 47 dX7_addSpot_44 rfl rfl hz (fun hz => ?_) (fun hz => ?_)
      · refine g_iinc C 68 4 [1, 2, 3, 4, 0] (1 : Int32) ci_1 (fun x4_6 => [(0, .ref (ad 5)), (1, .int x1), (2, .int x2), (3, .int x3), (4, .int x4_6)]) dX7_addSpot_65 rfl rfl (by decide) (fun x4_6 => rfl) hz (fun x4_6 hz => ?_)
        refine g_goto C 32 dX7_addSpot_68 rfl ?_
        exact ih x1 x2 x3 x4_6 S hz
      · refine g_aload_n C 48 0 rfl dX7_addSpot_47 rfl ?_
        refine gf_7_33 C 51 dX7_addSpot_48 rfl ?_
        refine g_aload_n C 52 0 rfl dX7_addSpot_51 rfl ?_
        refine gf_7_9 C 55 dX7_addSpot_52 rfl ?_
        refine g_iconst C 56 (4 : Int32) ci_4 dX7_addSpot_55 rfl ?_
        refine g_imul C 57 dX7_addSpot_56 rfl ?_
        refine g_iload C 59 4 rfl dX7_addSpot_57 rfl ?_
        refine g_iadd C 60 dX7_addSpot_59 rfl ?_
        refine g_dup2 C 61 rfl rfl dX7_addSpot_60 rfl ?_
        refine g_iald C 62 ha_10 dX7_addSpot_61 rfl hz (fun hz => ?_)
        refine g_iload_n C 63 3 rfl dX7_addSpot_62 rfl ?_
        refine g_ior C 64 dX7_addSpot_63 rfl ?_
        refine g_iast C 65 ha_10 dX7_addSpot_64 rfl hz (fun S_7 hz => ?_)
        refine g_iinc C 68 4 [1, 2, 3, 4, 0] (1 : Int32) ci_1 (fun x4_8 => [(0, .ref (ad 5)), (1, .int x1), (2, .int x2), (3, .int x3), (4, .int x4_8)]) dX7_addSpot_65 rfl rfl (by decide) (fun x4_8 => rfl) hz (fun x4_8 hz => ?_)
        refine g_goto C 32 dX7_addSpot_68 rfl ?_
        exact ih x1 x2 x3 x4_8 S_7 hz
set_option maxRecDepth 20000 in
theorem t_X7_addSpot {p : Program} {l : Launch} {e : Env} {s : State} {m : MethodId} {args : Array Value} {below : List Frame} {meth : Method} {c : Code} {D : va_G} {cy : Nat → ClassId} {ad : Nat → Nat} {n : Nat} {A : Nat → Prop} (C : gC p s m args meth c cX7_addSpot 5 RX7 D cy ad n A) (hr : meth.sig.returnType = (some .int)) {z : Int32 × Sg} {S : Sg} {x1 : Int32} (hz : f_X7_addSpot x1 S = some z) : gW p l e rm_X7_addSpot s m args below meth c D cy ad n A 5 0 0 (MQ below (gQ D cy ad n A (some (.int z.1)) z.2) args s 0 0 A) S 0 [(0, .ref (ad 5)), (1, .int x1)] [] := by
  unfold f_X7_addSpot at hz
  refine g_aload_n C 1 0 rfl dX7_addSpot_0 rfl ?_
  refine gf_7_19 C 4 dX7_addSpot_1 rfl ?_
  refine g_aload_n C 5 0 rfl dX7_addSpot_4 rfl ?_
  refine gf_7_9 C 8 dX7_addSpot_5 rfl ?_
  refine g_iald C 9 ha_6 dX7_addSpot_8 rfl hz (fun hz => ?_)
  refine g_istore_n C 10 (i := 2) [1, 2, 0] (fun x2_1 => [(0, .ref (ad 5)), (1, .int x1), (2, .int x2_1)]) dX7_addSpot_9 rfl rfl (by decide) (fun x2_1 => rfl) hz (fun x2_1 hz => ?_)
  refine g_iconst C 11 (1 : Int32) ci_1 dX7_addSpot_10 rfl ?_
  refine g_iload_n C 12 2 rfl dX7_addSpot_11 rfl ?_
  refine g_ishl C 13 dX7_addSpot_12 rfl ?_
  refine g_istore_n C 14 (i := 3) [1, 2, 3, 0] (fun x3_2 => [(0, .ref (ad 5)), (1, .int x1), (2, .int x2_1), (3, .int x3_2)]) dX7_addSpot_13 rfl rfl (by decide) (fun x3_2 => rfl) hz (fun x3_2 hz => ?_)
  refine g_aload_n C 15 0 rfl dX7_addSpot_14 rfl ?_
  refine gf_7_36 C 18 dX7_addSpot_15 rfl ?_
  refine g_aload_n C 19 0 rfl dX7_addSpot_18 rfl ?_
  refine gf_7_9 C 22 dX7_addSpot_19 rfl ?_
  refine g_bipush C 24 (30 : Int32) cb_30 dX7_addSpot_22 rfl ?_
  refine g_imul C 25 dX7_addSpot_24 rfl ?_
  refine g_iload_n C 26 2 rfl dX7_addSpot_25 rfl ?_
  refine g_iadd C 27 dX7_addSpot_26 rfl ?_
  refine g_iconst C 28 (0 : Int32) ci_0 dX7_addSpot_27 rfl ?_
  refine g_iast C 29 ha_11 dX7_addSpot_28 rfl hz (fun S_3 hz => ?_)
  refine g_iconst C 30 (0 : Int32) ci_0 dX7_addSpot_29 rfl ?_
  refine g_istore C 32 (i := 4) [1, 2, 3, 4, 0] (fun x4_4 => [(0, .ref (ad 5)), (1, .int x1), (2, .int x2_1), (3, .int x3_2), (4, .int x4_4)]) dX7_addSpot_30 rfl (by decide) (fun x4_4 => rfl) hz (fun x4_4 hz => ?_)
  exact (t_X7_addSpot_L32 C hr fu) x1 x2_1 x3_2 x4_4 S_3 hz
theorem c_X7_addSpot (l : Launch) (D : va_G) (cy : Nat → ClassId) (ad : Nat → Nat) (n : Nat) (S : Sg) (sz : Nat) (x1 : Int32) (z : Int32 × Sg) (hz : f_X7_addSpot x1 S = some z) : Met l yX7_addSpot (.code yX7_addSpot cX7_addSpot 5 (some .int) :: wsAll) rm_X7_addSpot (gPc D cy ad n S sz [.ref (ad 5), .int x1]) (gQ D cy ad n (va_A (wW cy ad n S) sz) (some (.int z.1)) z.2) 0 0 (va_A (wW cy ad n S) sz) := by
  refine gMet (lv := [(0, .ref (ad 5)), (1, .int x1)]) (by decide) (Nat.le_of_ble_eq_true rfl) rfl ?_
  intro p e s m args below meth c A hA hr C
  exact t_X7_addSpot C hr hz
def rm_X6_isRepeat : Room := { frames := 0, cells := 0, slots := 0, locals := 0 }
set_option maxRecDepth 20000 in
theorem t_X6_isRepeat {p : Program} {l : Launch} {e : Env} {s : State} {m : MethodId} {args : Array Value} {below : List Frame} {meth : Method} {c : Code} {D : va_G} {cy : Nat → ClassId} {ad : Nat → Nat} {n : Nat} {A : Nat → Prop} (C : gC p s m args meth c cX6_isRepeat 1 RX6 D cy ad n A) (hr : meth.sig.returnType = (some .boolean)) {z : Int32 × Sg} {S : Sg} {x0 : Int32} (hz : f_X6_isRepeat x0 S = some z) : gW p l e rm_X6_isRepeat s m args below meth c D cy ad n A 1 0 0 (MQ below (gQ D cy ad n A (some (.int z.1)) z.2) args s 0 0 A) S 0 [(0, .int x0)] [] := by
  unfold f_X6_isRepeat at hz
  refine g_iload_n C 1 0 rfl dX6_isRepeat_0 rfl ?_
  refine g_bipush C 3 (42 : Int32) cb_42 dX6_isRepeat_1 rfl ?_
  refine g_icmp_eq C 18 6 dX6_isRepeat_3 rfl rfl hz (fun hz => ?_) (fun hz => ?_)
  · refine g_iconst C 19 (1 : Int32) ci_1 dX6_isRepeat_18 rfl ?_
    refine g_goto C 23 dX6_isRepeat_19 rfl ?_
    exact g_zretc C hr (by decide) dX6_isRepeat_23 hz
  · refine g_iload_n C 7 0 rfl dX6_isRepeat_6 rfl ?_
    refine g_bipush C 9 (43 : Int32) cb_43 dX6_isRepeat_7 rfl ?_
    refine g_icmp_eq C 18 12 dX6_isRepeat_9 rfl rfl hz (fun hz => ?_) (fun hz => ?_)
    · refine g_iconst C 19 (1 : Int32) ci_1 dX6_isRepeat_18 rfl ?_
      refine g_goto C 23 dX6_isRepeat_19 rfl ?_
      exact g_zretc C hr (by decide) dX6_isRepeat_23 hz
    · refine g_iload_n C 13 0 rfl dX6_isRepeat_12 rfl ?_
      refine g_bipush C 15 (63 : Int32) cb_63 dX6_isRepeat_13 rfl ?_
      refine g_icmp_ne C 22 18 dX6_isRepeat_15 rfl rfl hz (fun hz => ?_) (fun hz => ?_)
      · refine g_iconst C 23 (0 : Int32) ci_0 dX6_isRepeat_22 rfl ?_
        exact g_zretc C hr (by decide) dX6_isRepeat_23 hz
      · refine g_iconst C 19 (1 : Int32) ci_1 dX6_isRepeat_18 rfl ?_
        refine g_goto C 23 dX6_isRepeat_19 rfl ?_
        exact g_zretc C hr (by decide) dX6_isRepeat_23 hz
theorem c_X6_isRepeat (l : Launch) (D : va_G) (cy : Nat → ClassId) (ad : Nat → Nat) (n : Nat) (S : Sg) (sz : Nat) (x0 : Int32) (z : Int32 × Sg) (hz : f_X6_isRepeat x0 S = some z) : Met l yX6_isRepeat (.code yX6_isRepeat cX6_isRepeat 1 (some .boolean) :: wsAll) rm_X6_isRepeat (gPc D cy ad n S sz [.int x0]) (gQ D cy ad n (va_A (wW cy ad n S) sz) (some (.int z.1)) z.2) 0 0 (va_A (wW cy ad n S) sz) := by
  refine gMet (lv := [(0, .int x0)]) (by decide) (Nat.le_of_ble_eq_true rfl) rfl ?_
  intro p e s m args below meth c A hA hr C
  exact t_X6_isRepeat C hr hz
def rm_X7_link : Room := { frames := 0, cells := 0, slots := 0, locals := 0 }
set_option maxRecDepth 20000 in
theorem t_X7_link_L2 {p : Program} {l : Launch} {e : Env} {s : State} {m : MethodId} {args : Array Value} {below : List Frame} {meth : Method} {c : Code} {D : va_G} {cy : Nat → ClassId} {ad : Nat → Nat} {n : Nat} {A : Nat → Prop} (C : gC p s m args meth c cX7_link 4 RX7 D cy ad n A) (hr : meth.sig.returnType = none) {z : Sg} : ∀ (fl : Nat) (x1 : Int32) (x2 : Int32) (x3 : Int32) (S : Sg), f_X7_link_L2 fl x1 x2 x3 S = some z → gW p l e rm_X7_link s m args below meth c D cy ad n A 4 0 0 (MQ below (gQ D cy ad n A none z) args s 0 0 A) S 2 [(0, .ref (ad 5)), (1, .int x1), (2, .int x2), (3, .int x3)] [] := by
  intro fl
  induction fl with
  | zero =>
    intro x1 x2 x3 S hz
    rw [f_X7_link_L2] at hz
    cases hz
  | succ fl ih =>
    intro x1 x2 x3 S hz
    rw [f_X7_link_L2] at hz
    refine g_iload_n C 3 3 rfl dX7_link_2 rfl ?_
    refine g_aload_n C 4 0 rfl dX7_link_3 rfl ?_
    refine gf_7_19 C 7 dX7_link_4 rfl ?_
    refine g_aload_n C 8 0 rfl dX7_link_7 rfl ?_
    refine gf_7_9 C 11 dX7_link_8 rfl ?_
    refine g_iald C 12 ha_6 dX7_link_11 rfl hz (fun hz => ?_)
    refine g_icmp_ge C 47 15 dX7_link_12 rfl rfl hz (fun hz => ?_) (fun hz => ?_)
    · exact g_vret C hr dX7_link_47 hz
    · refine g_iload_n C 16 1 rfl dX7_link_15 rfl ?_
      refine g_iload_n C 17 3 rfl dX7_link_16 rfl ?_
      refine g_ishr C 18 dX7_link_17 rfl ?_
      refine g_iconst C 19 (1 : Int32) ci_1 dX7_link_18 rfl ?_
      refine g_iand C 20 dX7_link_19 rfl ?_
      refine g_if_eq C 41 23 dX7_link_20 rfl rfl hz (fun hz => ?_) (fun hz => ?_)
      · refine g_iinc C 44 3 [1, 2, 3, 0] (1 : Int32) ci_1 (fun x3_2 => [(0, .ref (ad 5)), (1, .int x1), (2, .int x2), (3, .int x3_2)]) dX7_link_41 rfl rfl (by decide) (fun x3_2 => rfl) hz (fun x3_2 hz => ?_)
        refine g_goto C 2 dX7_link_44 rfl ?_
        exact ih x1 x2 x3_2 S hz
      · refine g_aload_n C 24 0 rfl dX7_link_23 rfl ?_
        refine gf_7_36 C 27 dX7_link_24 rfl ?_
        refine g_aload_n C 28 0 rfl dX7_link_27 rfl ?_
        refine gf_7_9 C 31 dX7_link_28 rfl ?_
        refine g_bipush C 33 (30 : Int32) cb_30 dX7_link_31 rfl ?_
        refine g_imul C 34 dX7_link_33 rfl ?_
        refine g_iload_n C 35 3 rfl dX7_link_34 rfl ?_
        refine g_iadd C 36 dX7_link_35 rfl ?_
        refine g_dup2 C 37 rfl rfl dX7_link_36 rfl ?_
        refine g_iald C 38 ha_11 dX7_link_37 rfl hz (fun hz => ?_)
        refine g_iload_n C 39 2 rfl dX7_link_38 rfl ?_
        refine g_ior C 40 dX7_link_39 rfl ?_
        refine g_iast C 41 ha_11 dX7_link_40 rfl hz (fun S_3 hz => ?_)
        refine g_iinc C 44 3 [1, 2, 3, 0] (1 : Int32) ci_1 (fun x3_4 => [(0, .ref (ad 5)), (1, .int x1), (2, .int x2), (3, .int x3_4)]) dX7_link_41 rfl rfl (by decide) (fun x3_4 => rfl) hz (fun x3_4 hz => ?_)
        refine g_goto C 2 dX7_link_44 rfl ?_
        exact ih x1 x2 x3_4 S_3 hz
set_option maxRecDepth 20000 in
theorem t_X7_link {p : Program} {l : Launch} {e : Env} {s : State} {m : MethodId} {args : Array Value} {below : List Frame} {meth : Method} {c : Code} {D : va_G} {cy : Nat → ClassId} {ad : Nat → Nat} {n : Nat} {A : Nat → Prop} (C : gC p s m args meth c cX7_link 4 RX7 D cy ad n A) (hr : meth.sig.returnType = none) {z : Sg} {S : Sg} {x1 : Int32} {x2 : Int32} (hz : f_X7_link x1 x2 S = some z) : gW p l e rm_X7_link s m args below meth c D cy ad n A 4 0 0 (MQ below (gQ D cy ad n A none z) args s 0 0 A) S 0 [(0, .ref (ad 5)), (1, .int x1), (2, .int x2)] [] := by
  unfold f_X7_link at hz
  refine g_iconst C 1 (0 : Int32) ci_0 dX7_link_0 rfl ?_
  refine g_istore_n C 2 (i := 3) [1, 2, 3, 0] (fun x3_1 => [(0, .ref (ad 5)), (1, .int x1), (2, .int x2), (3, .int x3_1)]) dX7_link_1 rfl rfl (by decide) (fun x3_1 => rfl) hz (fun x3_1 hz => ?_)
  exact (t_X7_link_L2 C hr fu) x1 x2 x3_1 S hz
theorem c_X7_link (l : Launch) (D : va_G) (cy : Nat → ClassId) (ad : Nat → Nat) (n : Nat) (S : Sg) (sz : Nat) (x1 : Int32) (x2 : Int32) (z : Sg) (hz : f_X7_link x1 x2 S = some z) : Met l yX7_link (.code yX7_link cX7_link 4 none :: wsAll) rm_X7_link (gPc D cy ad n S sz [.ref (ad 5), .int x1, .int x2]) (gQ D cy ad n (va_A (wW cy ad n S) sz) none z) 0 0 (va_A (wW cy ad n S) sz) := by
  refine gMet (lv := [(0, .ref (ad 5)), (1, .int x1), (2, .int x2)]) (by decide) (Nat.le_of_ble_eq_true rfl) rfl ?_
  intro p e s m args below meth c A hA hr C
  exact t_X7_link C hr hz
def rm_X7_end : Room := { frames := 0, cells := 0, slots := 0, locals := 0 }
set_option maxRecDepth 20000 in
theorem t_X7_end {p : Program} {l : Launch} {e : Env} {s : State} {m : MethodId} {args : Array Value} {below : List Frame} {meth : Method} {c : Code} {D : va_G} {cy : Nat → ClassId} {ad : Nat → Nat} {n : Nat} {A : Nat → Prop} (C : gC p s m args meth c cX7_end 4 RX7 D cy ad n A) (hr : meth.sig.returnType = none) {z : Sg} {S : Sg} {x1 : Int32} {x2 : Int32} {x3 : Int32} (hz : f_X7_end x1 x2 x3 S = some z) : gW p l e rm_X7_end s m args below meth c D cy ad n A 4 0 0 (MQ below (gQ D cy ad n A none z) args s 0 0 A) S 0 [(0, .ref (ad 5)), (1, .int x1), (2, .int x2), (3, .int x3)] [] := by
  unfold f_X7_end at hz
  refine g_aload_n C 1 0 rfl dX7_end_0 rfl ?_
  refine gf_7_23 C 4 dX7_end_1 rfl ?_
  refine g_aload_n C 5 0 rfl dX7_end_4 rfl ?_
  refine gf_7_9 C 8 dX7_end_5 rfl ?_
  refine g_iload_n C 9 1 rfl dX7_end_8 rfl ?_
  refine g_iast C 10 ha_7 dX7_end_9 rfl hz (fun S_1 hz => ?_)
  refine g_aload_n C 11 0 rfl dX7_end_10 rfl ?_
  refine gf_7_26 C 14 dX7_end_11 rfl ?_
  refine g_aload_n C 15 0 rfl dX7_end_14 rfl ?_
  refine gf_7_9 C 18 dX7_end_15 rfl ?_
  refine g_iload_n C 19 2 rfl dX7_end_18 rfl ?_
  refine g_iast C 20 ha_8 dX7_end_19 rfl hz (fun S_2 hz => ?_)
  refine g_aload_n C 21 0 rfl dX7_end_20 rfl ?_
  refine gf_7_29 C 24 dX7_end_21 rfl ?_
  refine g_aload_n C 25 0 rfl dX7_end_24 rfl ?_
  refine gf_7_9 C 28 dX7_end_25 rfl ?_
  refine g_iload_n C 29 3 rfl dX7_end_28 rfl ?_
  refine g_zast C 30 ha_9 dX7_end_29 rfl hz (fun S_3 hz => ?_)
  refine g_aload_n C 31 0 rfl dX7_end_30 rfl ?_
  refine g_dup C 32 rfl dX7_end_31 rfl ?_
  refine gf_7_9 C 35 dX7_end_32 rfl ?_
  refine g_iconst C 36 (1 : Int32) ci_1 dX7_end_35 rfl ?_
  refine g_iadd C 37 dX7_end_36 rfl ?_
  refine pf_7_9 C 40 dX7_end_37 rfl hz (fun S_4 hz => ?_)
  exact g_vret C hr dX7_end_40 hz
theorem c_X7_end (l : Launch) (D : va_G) (cy : Nat → ClassId) (ad : Nat → Nat) (n : Nat) (S : Sg) (sz : Nat) (x1 : Int32) (x2 : Int32) (x3 : Int32) (z : Sg) (hz : f_X7_end x1 x2 x3 S = some z) : Met l yX7_end (.code yX7_end cX7_end 4 none :: wsAll) rm_X7_end (gPc D cy ad n S sz [.ref (ad 5), .int x1, .int x2, .int x3]) (gQ D cy ad n (va_A (wW cy ad n S) sz) none z) 0 0 (va_A (wW cy ad n S) sz) := by
  refine gMet (lv := [(0, .ref (ad 5)), (1, .int x1), (2, .int x2), (3, .int x3)]) (by decide) (Nat.le_of_ble_eq_true rfl) rfl ?_
  intro p e s m args below meth c A hA hr C
  exact t_X7_end C hr hz
