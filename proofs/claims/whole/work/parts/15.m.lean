def rm_X10_first : Room := { frames := 1, cells := 0, slots := 0, locals := 22 }
set_option maxRecDepth 20000 in
theorem t_X10_first_L2 {p : Program} {l : Launch} {e : Env} {s : State} {m : MethodId} {args : Array Value} {below : List Frame} {meth : Method} {c : Code} {D : va_G} {cy : Nat → ClassId} {ad : Nat → Nat} {n : Nat} {A : Nat → Prop} (C : gC p s m args meth c cX10_first 3 RX10 D cy ad n A) (hr : meth.sig.returnType = (some .int)) {z : Int32 × Sg} : ∀ (fl : Nat) (x1 : Int32) (x2 : Int32) (S : Sg), f_X10_first_L2 fl x1 x2 S = some z → gW p l e rm_X10_first s m args below meth c D cy ad n A 3 0 0 (MQ below (gQ D cy ad n A (some (.int z.1)) z.2) args s 0 0 A) S 2 [(0, .ref (ad 34)), (1, .int x1), (2, .int x2)] [] := by
  intro fl
  induction fl with
  | zero =>
    intro x1 x2 S hz
    rw [f_X10_first_L2] at hz
    cases hz
  | succ fl ih =>
    intro x1 x2 S hz
    rw [f_X10_first_L2] at hz
    refine g_iload_n C 3 2 rfl dX10_first_2 rfl ?_
    refine g_aload_n C 4 0 rfl dX10_first_3 rfl ?_
    refine gf_10_43 C 7 dX10_first_4 rfl ?_
    refine g_iload_n C 8 1 rfl dX10_first_7 rfl ?_
    refine g_iald C 9 ha_44 dX10_first_8 rfl hz (fun hz => ?_)
    refine g_icmp_ge C 29 12 dX10_first_9 rfl rfl hz (fun hz => ?_) (fun hz => ?_)
    · refine g_iconst C 30 (-1 : Int32) ci_m1 dX10_first_29 rfl ?_
      exact g_iret C hr dX10_first_30 hz
    · refine g_aload_n C 13 0 rfl dX10_first_12 rfl ?_
      refine g_iload_n C 14 1 rfl dX10_first_13 rfl ?_
      refine g_iload_n C 15 2 rfl dX10_first_14 rfl ?_
      refine cl_10_284 C 18 ⟨Nat.le_of_ble_eq_true rfl, Nat.le_of_ble_eq_true rfl⟩ ⟨Nat.zero_le _, Nat.zero_le _⟩ (Nat.le_of_ble_eq_true rfl) dX10_first_15 rfl hz (fun r_3 S_2 hz => ?_)
      refine g_if_eq C 23 21 dX10_first_18 rfl rfl hz (fun hz => ?_) (fun hz => ?_)
      · refine g_iinc C 26 2 [1, 2, 0] (1 : Int32) ci_1 (fun x2_4 => [(0, .ref (ad 34)), (1, .int x1), (2, .int x2_4)]) dX10_first_23 rfl rfl (by decide) (fun x2_4 => rfl) hz (fun x2_4 hz => ?_)
        refine g_goto C 2 dX10_first_26 rfl ?_
        exact ih x1 x2_4 S_2 hz
      · refine g_iload_n C 22 2 rfl dX10_first_21 rfl ?_
        exact g_iret C hr dX10_first_22 hz
set_option maxRecDepth 20000 in
theorem t_X10_first {p : Program} {l : Launch} {e : Env} {s : State} {m : MethodId} {args : Array Value} {below : List Frame} {meth : Method} {c : Code} {D : va_G} {cy : Nat → ClassId} {ad : Nat → Nat} {n : Nat} {A : Nat → Prop} (C : gC p s m args meth c cX10_first 3 RX10 D cy ad n A) (hr : meth.sig.returnType = (some .int)) {z : Int32 × Sg} {S : Sg} {x1 : Int32} (hz : f_X10_first x1 S = some z) : gW p l e rm_X10_first s m args below meth c D cy ad n A 3 0 0 (MQ below (gQ D cy ad n A (some (.int z.1)) z.2) args s 0 0 A) S 0 [(0, .ref (ad 34)), (1, .int x1)] [] := by
  unfold f_X10_first at hz
  refine g_iconst C 1 (0 : Int32) ci_0 dX10_first_0 rfl ?_
  refine g_istore_n C 2 (i := 2) [1, 2, 0] (fun x2_1 => [(0, .ref (ad 34)), (1, .int x1), (2, .int x2_1)]) dX10_first_1 rfl rfl (by decide) (fun x2_1 => rfl) hz (fun x2_1 hz => ?_)
  exact (t_X10_first_L2 C hr fu) x1 x2_1 S hz
theorem c_X10_first (l : Launch) (D : va_G) (cy : Nat → ClassId) (ad : Nat → Nat) (n : Nat) (S : Sg) (sz : Nat) (x1 : Int32) (z : Int32 × Sg) (hz : f_X10_first x1 S = some z) : Met l yX10_first (.code yX10_first cX10_first 3 (some .int) :: wsAll) rm_X10_first (gPc D cy ad n S sz [.ref (ad 34), .int x1]) (gQ D cy ad n (va_A (wW cy ad n S) sz) (some (.int z.1)) z.2) 0 0 (va_A (wW cy ad n S) sz) := by
  refine gMet (lv := [(0, .ref (ad 34)), (1, .int x1)]) (by decide) (Nat.le_of_ble_eq_true rfl) rfl ?_
  intro p e s m args below meth c A hA hr C
  exact t_X10_first C hr hz
def rm_X10_look : Room := { frames := 2, cells := 0, slots := 0, locals := 47 }
theorem wl_10_291 : Cond.methodLink RX10 291 yX10_first ∈ wsAll := wA 921 (by decide +kernel) (by decide +kernel)
theorem wi_X10_first : Cond.instanceMethod yX10_first ∈ wsAll := wA 923 (by decide +kernel) (by decide +kernel)
theorem we_X10_first : Cond.selects RX10 yX10_first yX10_first ∈ wsAll := wAp 78 (by decide +kernel) (by decide +kernel)
theorem wo_X10_first : Cond.code yX10_first cX10_first 3 (some .int) ∈ wsAll := wA 924 (by decide +kernel) (by decide +kernel)
theorem cl_10_291 {p : Program} {l : Launch} {e : Env} {R : Room} {s : State} {m : MethodId} {args : Array Value} {below : List Frame} {meth : Method} {c : Code} {cc : ByteArray} {nL : Nat} {D : va_G} {cy : Nat → ClassId} {ad : Nat → Nat} {n : Nat} {A : Nat → Prop} {mc ms : Nat} {Q : State → Prop} {S : Sg} {pc : Nat} {lv : List (Nat × Value)} {st : List Value} {ζ : Type} {z : ζ} (C : gC p s m args meth c cc nL RX10 D cy ad n A) (nx : Nat) {x1 : Int32} (hR : Room.frames rm_X10_first + 1 ≤ R.frames ∧ 8 + (3 + 11) + Room.locals rm_X10_first ≤ R.locals) (hcm : mc ≤ R.cells ∧ ms ≤ R.slots) (hrest : (st.map fun v => v.category).sum ≤ 8) (hd : decode cc pc = .ok (.invokevirtual 291, 3)) (hn : pc + 3 = nx) {K : Int32 → Sg → Option ζ} (hz : bd2 (f_X10_first x1 S) K = some z) (kk : ∀ r S', K r S' = some z → gW p l e R s m args below meth c D cy ad n A nL mc ms Q S' nx lv (.int r :: st)) : gW p l e R s m args below meth c D cy ad n A nL mc ms Q S pc lv (.int x1 :: .ref (ad 34) :: st) := by
  obtain ⟨q, hq, hk⟩ := bd2_s hz
  exact g_callV C (i := 34) (ci := 10) (Cn := RX10) (T := TX10) (N := 59) (y := yX10_first) (rm := rm_X10_first) (As := [.int x1]) (rest := st) (na := 1) (fun sz => c_X10_first l D cy ad n S sz x1 q hq) ha_34 rfl rfl wl_10_291 wi_X10_first we_X10_first wz_10 wo_X10_first (by decide +kernel) rfl rfl hR hcm rfl hrest hn hd (kk q.1 q.2 hk)
theorem wl_10_294 : Cond.methodLink RX10 294 yX10_isEndless ∈ wsAll := wA 929 (by decide +kernel) (by decide +kernel)
theorem wi_X10_isEndless : Cond.instanceMethod yX10_isEndless ∈ wsAll := wA 931 (by decide +kernel) (by decide +kernel)
theorem we_X10_isEndless : Cond.selects RX10 yX10_isEndless yX10_isEndless ∈ wsAll := wAp 80 (by decide +kernel) (by decide +kernel)
theorem wo_X10_isEndless : Cond.code yX10_isEndless cX10_isEndless 5 (some .boolean) ∈ wsAll := wA 932 (by decide +kernel) (by decide +kernel)
theorem cl_10_294 {p : Program} {l : Launch} {e : Env} {R : Room} {s : State} {m : MethodId} {args : Array Value} {below : List Frame} {meth : Method} {c : Code} {cc : ByteArray} {nL : Nat} {D : va_G} {cy : Nat → ClassId} {ad : Nat → Nat} {n : Nat} {A : Nat → Prop} {mc ms : Nat} {Q : State → Prop} {S : Sg} {pc : Nat} {lv : List (Nat × Value)} {st : List Value} {ζ : Type} {z : ζ} (C : gC p s m args meth c cc nL RX10 D cy ad n A) (nx : Nat) {x1 : Int32} (hR : Room.frames rm_X10_isEndless + 1 ≤ R.frames ∧ 8 + (5 + 11) + Room.locals rm_X10_isEndless ≤ R.locals) (hcm : mc ≤ R.cells ∧ ms ≤ R.slots) (hrest : (st.map fun v => v.category).sum ≤ 8) (hd : decode cc pc = .ok (.invokevirtual 294, 3)) (hn : pc + 3 = nx) {K : Int32 → Sg → Option ζ} (hz : bd2 (f_X10_isEndless x1 S) K = some z) (kk : ∀ r S', K r S' = some z → gW p l e R s m args below meth c D cy ad n A nL mc ms Q S' nx lv (.int r :: st)) : gW p l e R s m args below meth c D cy ad n A nL mc ms Q S pc lv (.int x1 :: .ref (ad 34) :: st) := by
  obtain ⟨q, hq, hk⟩ := bd2_s hz
  exact g_callV C (i := 34) (ci := 10) (Cn := RX10) (T := TX10) (N := 59) (y := yX10_isEndless) (rm := rm_X10_isEndless) (As := [.int x1]) (rest := st) (na := 1) (fun sz => c_X10_isEndless l D cy ad n S sz x1 q hq) ha_34 rfl rfl wl_10_294 wi_X10_isEndless we_X10_isEndless wz_10 wo_X10_isEndless (by decide +kernel) rfl rfl hR hcm rfl hrest hn hd (kk q.1 q.2 hk)
set_option maxRecDepth 20000 in
theorem t_X10_look {p : Program} {l : Launch} {e : Env} {s : State} {m : MethodId} {args : Array Value} {below : List Frame} {meth : Method} {c : Code} {D : va_G} {cy : Nat → ClassId} {ad : Nat → Nat} {n : Nat} {A : Nat → Prop} (C : gC p s m args meth c cX10_look 3 RX10 D cy ad n A) (hr : meth.sig.returnType = (some .int)) {z : Int32 × Sg} {S : Sg} {x1 : Int32} {x2 : Int32} (hz : f_X10_look x1 x2 S = some z) : gW p l e rm_X10_look s m args below meth c D cy ad n A 3 0 0 (MQ below (gQ D cy ad n A (some (.int z.1)) z.2) args s 0 0 A) S 0 [(0, .ref (ad 34)), (1, .int x1), (2, .int x2)] [] := by
  unfold f_X10_look at hz
  refine g_aload_n C 1 0 rfl dX10_look_0 rfl ?_
  refine g_iload_n C 2 1 rfl dX10_look_1 rfl ?_
  refine cl_10_281 C 5 ⟨Nat.le_of_ble_eq_true rfl, Nat.le_of_ble_eq_true rfl⟩ ⟨Nat.zero_le _, Nat.zero_le _⟩ (Nat.le_of_ble_eq_true rfl) dX10_look_2 rfl hz (fun r_2 S_1 hz => ?_)
  refine g_if_ne C 10 8 dX10_look_5 rfl rfl hz (fun hz => ?_) (fun hz => ?_)
  · refine g_iload_n C 11 2 rfl dX10_look_10 rfl ?_
    by_cases hq0 : x2 = nI 0
    · rw [if_pos hq0] at hz
      refine g_tabIn C 48 0 (by decide) dX10_look_11 rfl hq0 rfl ?_
      refine g_aload_n C 49 0 rfl dX10_look_48 rfl ?_
      refine gf_10_43 C 52 dX10_look_49 rfl ?_
      refine g_iload_n C 53 1 rfl dX10_look_52 rfl ?_
      refine g_iald C 54 ha_44 dX10_look_53 rfl hz (fun hz => ?_)
      exact g_iret C hr dX10_look_54 hz
    rw [if_neg hq0] at hz
    by_cases hq1 : x2 = nI 1
    · rw [if_pos hq1] at hz
      refine g_tabIn C 55 1 (by decide) dX10_look_11 rfl hq1 rfl ?_
      refine g_aload_n C 56 0 rfl dX10_look_55 rfl ?_
      refine gf_10_52 C 59 dX10_look_56 rfl ?_
      refine g_iload_n C 60 1 rfl dX10_look_59 rfl ?_
      refine g_iald C 61 ha_47 dX10_look_60 rfl hz (fun hz => ?_)
      exact g_iret C hr dX10_look_61 hz
    rw [if_neg hq1] at hz
    by_cases hq2 : x2 = nI 2
    · rw [if_pos hq2] at hz
      refine g_tabIn C 62 2 (by decide) dX10_look_11 rfl hq2 rfl ?_
      refine g_aload_n C 63 0 rfl dX10_look_62 rfl ?_
      refine gf_10_46 C 66 dX10_look_63 rfl ?_
      refine g_iload_n C 67 1 rfl dX10_look_66 rfl ?_
      refine g_iald C 68 ha_45 dX10_look_67 rfl hz (fun hz => ?_)
      exact g_iret C hr dX10_look_68 hz
    rw [if_neg hq2] at hz
    by_cases hq3 : x2 = nI 3
    · rw [if_pos hq3] at hz
      refine g_tabIn C 69 3 (by decide) dX10_look_11 rfl hq3 rfl ?_
      refine g_aload_n C 70 0 rfl dX10_look_69 rfl ?_
      refine gf_10_49 C 73 dX10_look_70 rfl ?_
      refine g_iload_n C 74 1 rfl dX10_look_73 rfl ?_
      refine g_iald C 75 ha_46 dX10_look_74 rfl hz (fun hz => ?_)
      exact g_iret C hr dX10_look_75 hz
    rw [if_neg hq3] at hz
    by_cases hq4 : x2 = nI 4
    · rw [if_pos hq4] at hz
      refine g_tabIn C 76 4 (by decide) dX10_look_11 rfl hq4 rfl ?_
      refine g_aload_n C 77 0 rfl dX10_look_76 rfl ?_
      refine g_iload_n C 78 1 rfl dX10_look_77 rfl ?_
      refine cl_10_291 C 81 ⟨Nat.le_of_ble_eq_true rfl, Nat.le_of_ble_eq_true rfl⟩ ⟨Nat.zero_le _, Nat.zero_le _⟩ (Nat.le_of_ble_eq_true rfl) dX10_look_78 rfl hz (fun r_4 S_3 hz => ?_)
      refine g_iconst C 82 (-1 : Int32) ci_m1 dX10_look_81 rfl ?_
      refine g_icmp_ne C 89 85 dX10_look_82 rfl rfl hz (fun hz => ?_) (fun hz => ?_)
      · refine g_iconst C 90 (0 : Int32) ci_0 dX10_look_89 rfl ?_
        exact g_iret C hr dX10_look_90 hz
      · refine g_iconst C 86 (1 : Int32) ci_1 dX10_look_85 rfl ?_
        refine g_goto C 90 dX10_look_86 rfl ?_
        exact g_iret C hr dX10_look_90 hz
    rw [if_neg hq4] at hz
    by_cases hq5 : x2 = nI 5
    · rw [if_pos hq5] at hz
      refine g_tabIn C 91 5 (by decide) dX10_look_11 rfl hq5 rfl ?_
      refine g_aload_n C 92 0 rfl dX10_look_91 rfl ?_
      refine g_iload_n C 93 1 rfl dX10_look_92 rfl ?_
      refine cl_10_294 C 96 ⟨Nat.le_of_ble_eq_true rfl, Nat.le_of_ble_eq_true rfl⟩ ⟨Nat.zero_le _, Nat.zero_le _⟩ (Nat.le_of_ble_eq_true rfl) dX10_look_93 rfl hz (fun r_6 S_5 hz => ?_)
      refine g_if_eq C 103 99 dX10_look_96 rfl rfl hz (fun hz => ?_) (fun hz => ?_)
      · refine g_iconst C 104 (1 : Int32) ci_1 dX10_look_103 rfl ?_
        exact g_iret C hr dX10_look_104 hz
      · refine g_iconst C 100 (0 : Int32) ci_0 dX10_look_99 rfl ?_
        refine g_goto C 104 dX10_look_100 rfl ?_
        exact g_iret C hr dX10_look_104 hz
    rw [if_neg hq5] at hz
    refine g_tabOut C 105 dX10_look_11 (tsw_out (hi := 5) (by decide) (fun k hk => by rcases (show k = 0 ∨ k = 1 ∨ k = 2 ∨ k = 3 ∨ k = 4 ∨ k = 5 by omega) with rfl | rfl | rfl | rfl | rfl | rfl <;> assumption)) rfl ?_
    refine g_iconst C 106 (-1 : Int32) ci_m1 dX10_look_105 rfl ?_
    exact g_iret C hr dX10_look_106 hz
  · refine g_iconst C 9 (-1 : Int32) ci_m1 dX10_look_8 rfl ?_
    exact g_iret C hr dX10_look_9 hz
theorem c_X10_look (l : Launch) (D : va_G) (cy : Nat → ClassId) (ad : Nat → Nat) (n : Nat) (S : Sg) (sz : Nat) (x1 : Int32) (x2 : Int32) (z : Int32 × Sg) (hz : f_X10_look x1 x2 S = some z) : Met l yX10_look (.code yX10_look cX10_look 3 (some .int) :: wsAll) rm_X10_look (gPc D cy ad n S sz [.ref (ad 34), .int x1, .int x2]) (gQ D cy ad n (va_A (wW cy ad n S) sz) (some (.int z.1)) z.2) 0 0 (va_A (wW cy ad n S) sz) := by
  refine gMet (lv := [(0, .ref (ad 34)), (1, .int x1), (2, .int x2)]) (by decide) (Nat.le_of_ble_eq_true rfl) rfl ?_
  intro p e s m args below meth c A hA hr C
  exact t_X10_look C hr hz
def rm_X10_next : Room := { frames := 3, cells := 0, slots := 0, locals := 65 }
theorem wl_10_297 : Cond.methodLink RX10 297 yX10_isState ∈ wsAll := wA 941 (by decide +kernel) (by decide +kernel)
theorem wi_X10_isState : Cond.instanceMethod yX10_isState ∈ wsAll := wA 943 (by decide +kernel) (by decide +kernel)
theorem we_X10_isState : Cond.selects RX10 yX10_isState yX10_isState ∈ wsAll := wAp 82 (by decide +kernel) (by decide +kernel)
theorem wo_X10_isState : Cond.code yX10_isState cX10_isState 3 (some .boolean) ∈ wsAll := wA 944 (by decide +kernel) (by decide +kernel)
theorem cl_10_297 {p : Program} {l : Launch} {e : Env} {R : Room} {s : State} {m : MethodId} {args : Array Value} {below : List Frame} {meth : Method} {c : Code} {cc : ByteArray} {nL : Nat} {D : va_G} {cy : Nat → ClassId} {ad : Nat → Nat} {n : Nat} {A : Nat → Prop} {mc ms : Nat} {Q : State → Prop} {S : Sg} {pc : Nat} {lv : List (Nat × Value)} {st : List Value} {ζ : Type} {z : ζ} (C : gC p s m args meth c cc nL RX10 D cy ad n A) (nx : Nat) {x1 : Int32} {x2 : Int32} (hR : Room.frames rm_X10_isState + 1 ≤ R.frames ∧ 8 + (3 + 11) + Room.locals rm_X10_isState ≤ R.locals) (hcm : mc ≤ R.cells ∧ ms ≤ R.slots) (hrest : (st.map fun v => v.category).sum ≤ 8) (hd : decode cc pc = .ok (.invokevirtual 297, 3)) (hn : pc + 3 = nx) {K : Int32 → Sg → Option ζ} (hz : bd2 (f_X10_isState x1 x2 S) K = some z) (kk : ∀ r S', K r S' = some z → gW p l e R s m args below meth c D cy ad n A nL mc ms Q S' nx lv (.int r :: st)) : gW p l e R s m args below meth c D cy ad n A nL mc ms Q S pc lv (.int x2 :: .int x1 :: .ref (ad 34) :: st) := by
  obtain ⟨q, hq, hk⟩ := bd2_s hz
  exact g_callV C (i := 34) (ci := 10) (Cn := RX10) (T := TX10) (N := 59) (y := yX10_isState) (rm := rm_X10_isState) (As := [.int x1, .int x2]) (rest := st) (na := 2) (fun sz => c_X10_isState l D cy ad n S sz x1 x2 q hq) ha_34 rfl rfl wl_10_297 wi_X10_isState we_X10_isState wz_10 wo_X10_isState (by decide +kernel) rfl rfl hR hcm rfl hrest hn hd (kk q.1 q.2 hk)
set_option maxRecDepth 20000 in
theorem t_X10_next {p : Program} {l : Launch} {e : Env} {s : State} {m : MethodId} {args : Array Value} {below : List Frame} {meth : Method} {c : Code} {D : va_G} {cy : Nat → ClassId} {ad : Nat → Nat} {n : Nat} {A : Nat → Prop} (C : gC p s m args meth c cX10_next 4 RX10 D cy ad n A) (hr : meth.sig.returnType = (some .int)) {z : Int32 × Sg} {S : Sg} {x1 : Int32} {x2 : Int32} {x3 : Int32} (hz : f_X10_next x1 x2 x3 S = some z) : gW p l e rm_X10_next s m args below meth c D cy ad n A 4 0 0 (MQ below (gQ D cy ad n A (some (.int z.1)) z.2) args s 0 0 A) S 0 [(0, .ref (ad 34)), (1, .int x1), (2, .int x2), (3, .int x3)] [] := by
  unfold f_X10_next at hz
  refine g_aload_n C 1 0 rfl dX10_next_0 rfl ?_
  refine g_iload_n C 2 1 rfl dX10_next_1 rfl ?_
  refine g_iload_n C 3 2 rfl dX10_next_2 rfl ?_
  refine cl_10_297 C 6 ⟨Nat.le_of_ble_eq_true rfl, Nat.le_of_ble_eq_true rfl⟩ ⟨Nat.zero_le _, Nat.zero_le _⟩ (Nat.le_of_ble_eq_true rfl) dX10_next_3 rfl hz (fun r_2 S_1 hz => ?_)
  refine g_if_eq C 28 9 dX10_next_6 rfl rfl hz (fun hz => ?_) (fun hz => ?_)
  · refine g_iconst C 29 (-1 : Int32) ci_m1 dX10_next_28 rfl ?_
    exact g_iret C hr dX10_next_29 hz
  · refine g_iload_n C 10 3 rfl dX10_next_9 rfl ?_
    refine g_iconst C 11 (0 : Int32) ci_0 dX10_next_10 rfl ?_
    refine g_iconst C 12 (3 : Int32) ci_3 dX10_next_11 rfl ?_
    refine cl_10_166 C 15 ⟨Nat.le_of_ble_eq_true rfl, Nat.le_of_ble_eq_true rfl⟩ ⟨Nat.zero_le _, Nat.zero_le _⟩ (Nat.le_of_ble_eq_true rfl) dX10_next_12 rfl hz (fun r_4 S_3 hz => ?_)
    refine g_if_eq C 28 18 dX10_next_15 rfl rfl hz (fun hz => ?_) (fun hz => ?_)
    · refine g_iconst C 29 (-1 : Int32) ci_m1 dX10_next_28 rfl ?_
      exact g_iret C hr dX10_next_29 hz
    · refine g_aload_n C 19 0 rfl dX10_next_18 rfl ?_
      refine g_iload_n C 20 1 rfl dX10_next_19 rfl ?_
      refine g_iload_n C 21 2 rfl dX10_next_20 rfl ?_
      refine g_iload_n C 22 3 rfl dX10_next_21 rfl ?_
      refine cl_10_287 C 25 ⟨Nat.le_of_ble_eq_true rfl, Nat.le_of_ble_eq_true rfl⟩ ⟨Nat.zero_le _, Nat.zero_le _⟩ (Nat.le_of_ble_eq_true rfl) dX10_next_22 rfl hz (fun r_6 S_5 hz => ?_)
      refine g_goto C 29 dX10_next_25 rfl ?_
      exact g_iret C hr dX10_next_29 hz
theorem c_X10_next (l : Launch) (D : va_G) (cy : Nat → ClassId) (ad : Nat → Nat) (n : Nat) (S : Sg) (sz : Nat) (x1 : Int32) (x2 : Int32) (x3 : Int32) (z : Int32 × Sg) (hz : f_X10_next x1 x2 x3 S = some z) : Met l yX10_next (.code yX10_next cX10_next 4 (some .int) :: wsAll) rm_X10_next (gPc D cy ad n S sz [.ref (ad 34), .int x1, .int x2, .int x3]) (gQ D cy ad n (va_A (wW cy ad n S) sz) (some (.int z.1)) z.2) 0 0 (va_A (wW cy ad n S) sz) := by
  refine gMet (lv := [(0, .ref (ad 34)), (1, .int x1), (2, .int x2), (3, .int x3)]) (by decide) (Nat.le_of_ble_eq_true rfl) rfl ?_
  intro p e s m args below meth c A hA hr C
  exact t_X10_next C hr hz
def rm_X10_accepts : Room := { frames := 3, cells := 0, slots := 0, locals := 65 }
set_option maxRecDepth 20000 in
theorem t_X10_accepts {p : Program} {l : Launch} {e : Env} {s : State} {m : MethodId} {args : Array Value} {below : List Frame} {meth : Method} {c : Code} {D : va_G} {cy : Nat → ClassId} {ad : Nat → Nat} {n : Nat} {A : Nat → Prop} (C : gC p s m args meth c cX10_accepts 3 RX10 D cy ad n A) (hr : meth.sig.returnType = (some .int)) {z : Int32 × Sg} {S : Sg} {x1 : Int32} {x2 : Int32} (hz : f_X10_accepts x1 x2 S = some z) : gW p l e rm_X10_accepts s m args below meth c D cy ad n A 3 0 0 (MQ below (gQ D cy ad n A (some (.int z.1)) z.2) args s 0 0 A) S 0 [(0, .ref (ad 34)), (1, .int x1), (2, .int x2)] [] := by
  unfold f_X10_accepts at hz
  refine g_aload_n C 1 0 rfl dX10_accepts_0 rfl ?_
  refine g_iload_n C 2 1 rfl dX10_accepts_1 rfl ?_
  refine g_iload_n C 3 2 rfl dX10_accepts_2 rfl ?_
  refine cl_10_297 C 6 ⟨Nat.le_of_ble_eq_true rfl, Nat.le_of_ble_eq_true rfl⟩ ⟨Nat.zero_le _, Nat.zero_le _⟩ (Nat.le_of_ble_eq_true rfl) dX10_accepts_3 rfl hz (fun r_2 S_1 hz => ?_)
  refine g_if_ne C 13 9 dX10_accepts_6 rfl rfl hz (fun hz => ?_) (fun hz => ?_)
  · refine g_aload_n C 14 0 rfl dX10_accepts_13 rfl ?_
    refine g_iload_n C 15 1 rfl dX10_accepts_14 rfl ?_
    refine g_iload_n C 16 2 rfl dX10_accepts_15 rfl ?_
    refine cl_10_284 C 19 ⟨Nat.le_of_ble_eq_true rfl, Nat.le_of_ble_eq_true rfl⟩ ⟨Nat.zero_le _, Nat.zero_le _⟩ (Nat.le_of_ble_eq_true rfl) dX10_accepts_16 rfl hz (fun r_4 S_3 hz => ?_)
    refine g_if_eq C 26 22 dX10_accepts_19 rfl rfl hz (fun hz => ?_) (fun hz => ?_)
    · refine g_iconst C 27 (0 : Int32) ci_0 dX10_accepts_26 rfl ?_
      exact g_iret C hr dX10_accepts_27 hz
    · refine g_iconst C 23 (1 : Int32) ci_1 dX10_accepts_22 rfl ?_
      refine g_goto C 27 dX10_accepts_23 rfl ?_
      exact g_iret C hr dX10_accepts_27 hz
  · refine g_iconst C 10 (-1 : Int32) ci_m1 dX10_accepts_9 rfl ?_
    refine g_goto C 27 dX10_accepts_10 rfl ?_
    exact g_iret C hr dX10_accepts_27 hz
theorem c_X10_accepts (l : Launch) (D : va_G) (cy : Nat → ClassId) (ad : Nat → Nat) (n : Nat) (S : Sg) (sz : Nat) (x1 : Int32) (x2 : Int32) (z : Int32 × Sg) (hz : f_X10_accepts x1 x2 S = some z) : Met l yX10_accepts (.code yX10_accepts cX10_accepts 3 (some .int) :: wsAll) rm_X10_accepts (gPc D cy ad n S sz [.ref (ad 34), .int x1, .int x2]) (gQ D cy ad n (va_A (wW cy ad n S) sz) (some (.int z.1)) z.2) 0 0 (va_A (wW cy ad n S) sz) := by
  refine gMet (lv := [(0, .ref (ad 34)), (1, .int x1), (2, .int x2)]) (by decide) (Nat.le_of_ble_eq_true rfl) rfl ?_
  intro p e s m args below meth c A hA hr C
  exact t_X10_accepts C hr hz
def rm_X10_spots : Room := { frames := 3, cells := 0, slots := 0, locals := 65 }
set_option maxRecDepth 20000 in
theorem t_X10_spots {p : Program} {l : Launch} {e : Env} {s : State} {m : MethodId} {args : Array Value} {below : List Frame} {meth : Method} {c : Code} {D : va_G} {cy : Nat → ClassId} {ad : Nat → Nat} {n : Nat} {A : Nat → Prop} (C : gC p s m args meth c cX10_spots 4 RX10 D cy ad n A) (hr : meth.sig.returnType = (some .int)) {z : Int32 × Sg} {S : Sg} {x1 : Int32} {x2 : Int32} {x3 : Int32} (hz : f_X10_spots x1 x2 x3 S = some z) : gW p l e rm_X10_spots s m args below meth c D cy ad n A 4 0 0 (MQ below (gQ D cy ad n A (some (.int z.1)) z.2) args s 0 0 A) S 0 [(0, .ref (ad 34)), (1, .int x1), (2, .int x2), (3, .int x3)] [] := by
  unfold f_X10_spots at hz
  refine g_aload_n C 1 0 rfl dX10_spots_0 rfl ?_
  refine g_iload_n C 2 1 rfl dX10_spots_1 rfl ?_
  refine g_iload_n C 3 2 rfl dX10_spots_2 rfl ?_
  refine cl_10_297 C 6 ⟨Nat.le_of_ble_eq_true rfl, Nat.le_of_ble_eq_true rfl⟩ ⟨Nat.zero_le _, Nat.zero_le _⟩ (Nat.le_of_ble_eq_true rfl) dX10_spots_3 rfl hz (fun r_2 S_1 hz => ?_)
  refine g_if_eq C 45 9 dX10_spots_6 rfl rfl hz (fun hz => ?_) (fun hz => ?_)
  · refine g_iconst C 46 (-1 : Int32) ci_m1 dX10_spots_45 rfl ?_
    exact g_iret C hr dX10_spots_46 hz
  · refine g_iload_n C 10 3 rfl dX10_spots_9 rfl ?_
    refine g_iconst C 11 (0 : Int32) ci_0 dX10_spots_10 rfl ?_
    refine g_aload_n C 12 0 rfl dX10_spots_11 rfl ?_
    refine gf_10_46 C 15 dX10_spots_12 rfl ?_
    refine g_iload_n C 16 1 rfl dX10_spots_15 rfl ?_
    refine g_iald C 17 ha_45 dX10_spots_16 rfl hz (fun hz => ?_)
    refine g_iconst C 18 (1 : Int32) ci_1 dX10_spots_17 rfl ?_
    refine g_isub C 19 dX10_spots_18 rfl ?_
    refine cl_10_166 C 22 ⟨Nat.le_of_ble_eq_true rfl, Nat.le_of_ble_eq_true rfl⟩ ⟨Nat.zero_le _, Nat.zero_le _⟩ (Nat.le_of_ble_eq_true rfl) dX10_spots_19 rfl hz (fun r_4 S_3 hz => ?_)
    refine g_if_eq C 45 25 dX10_spots_22 rfl rfl hz (fun hz => ?_) (fun hz => ?_)
    · refine g_iconst C 46 (-1 : Int32) ci_m1 dX10_spots_45 rfl ?_
      exact g_iret C hr dX10_spots_46 hz
    · refine g_aload_n C 26 0 rfl dX10_spots_25 rfl ?_
      refine gf_10_61 C 29 dX10_spots_26 rfl ?_
      refine g_bipush C 31 (6 : Int32) cb_6 dX10_spots_29 rfl ?_
      refine g_sipush C 34 (150 : Int32) cs_150 dX10_spots_31 rfl ?_
      refine g_iload_n C 35 1 rfl dX10_spots_34 rfl ?_
      refine g_imul C 36 dX10_spots_35 rfl ?_
      refine g_iload_n C 37 2 rfl dX10_spots_36 rfl ?_
      refine g_iadd C 38 dX10_spots_37 rfl ?_
      refine g_imul C 39 dX10_spots_38 rfl ?_
      refine g_iload_n C 40 3 rfl dX10_spots_39 rfl ?_
      refine g_iadd C 41 dX10_spots_40 rfl ?_
      refine g_iald C 42 ha_50 dX10_spots_41 rfl hz (fun hz => ?_)
      refine g_goto C 46 dX10_spots_42 rfl ?_
      exact g_iret C hr dX10_spots_46 hz
theorem c_X10_spots (l : Launch) (D : va_G) (cy : Nat → ClassId) (ad : Nat → Nat) (n : Nat) (S : Sg) (sz : Nat) (x1 : Int32) (x2 : Int32) (x3 : Int32) (z : Int32 × Sg) (hz : f_X10_spots x1 x2 x3 S = some z) : Met l yX10_spots (.code yX10_spots cX10_spots 4 (some .int) :: wsAll) rm_X10_spots (gPc D cy ad n S sz [.ref (ad 34), .int x1, .int x2, .int x3]) (gQ D cy ad n (va_A (wW cy ad n S) sz) (some (.int z.1)) z.2) 0 0 (va_A (wW cy ad n S) sz) := by
  refine gMet (lv := [(0, .ref (ad 34)), (1, .int x1), (2, .int x2), (3, .int x3)]) (by decide) (Nat.le_of_ble_eq_true rfl) rfl ?_
  intro p e s m args below meth c A hA hr C
  exact t_X10_spots C hr hz
def rm_X10_classOf : Room := { frames := 3, cells := 0, slots := 0, locals := 65 }
set_option maxRecDepth 20000 in
theorem t_X10_classOf {p : Program} {l : Launch} {e : Env} {s : State} {m : MethodId} {args : Array Value} {below : List Frame} {meth : Method} {c : Code} {D : va_G} {cy : Nat → ClassId} {ad : Nat → Nat} {n : Nat} {A : Nat → Prop} (C : gC p s m args meth c cX10_classOf 3 RX10 D cy ad n A) (hr : meth.sig.returnType = (some .int)) {z : Int32 × Sg} {S : Sg} {x1 : Int32} {x2 : Int32} (hz : f_X10_classOf x1 x2 S = some z) : gW p l e rm_X10_classOf s m args below meth c D cy ad n A 3 0 0 (MQ below (gQ D cy ad n A (some (.int z.1)) z.2) args s 0 0 A) S 0 [(0, .ref (ad 34)), (1, .int x1), (2, .int x2)] [] := by
  unfold f_X10_classOf at hz
  refine g_aload_n C 1 0 rfl dX10_classOf_0 rfl ?_
  refine g_iload_n C 2 1 rfl dX10_classOf_1 rfl ?_
  refine g_iload_n C 3 2 rfl dX10_classOf_2 rfl ?_
  refine cl_10_297 C 6 ⟨Nat.le_of_ble_eq_true rfl, Nat.le_of_ble_eq_true rfl⟩ ⟨Nat.zero_le _, Nat.zero_le _⟩ (Nat.le_of_ble_eq_true rfl) dX10_classOf_3 rfl hz (fun r_2 S_1 hz => ?_)
  refine g_if_eq C 24 9 dX10_classOf_6 rfl rfl hz (fun hz => ?_) (fun hz => ?_)
  · refine g_iconst C 25 (-1 : Int32) ci_m1 dX10_classOf_24 rfl ?_
    exact g_iret C hr dX10_classOf_25 hz
  · refine g_aload_n C 10 0 rfl dX10_classOf_9 rfl ?_
    refine gf_10_64 C 13 dX10_classOf_10 rfl ?_
    refine g_sipush C 16 (150 : Int32) cs_150 dX10_classOf_13 rfl ?_
    refine g_iload_n C 17 1 rfl dX10_classOf_16 rfl ?_
    refine g_imul C 18 dX10_classOf_17 rfl ?_
    refine g_iload_n C 19 2 rfl dX10_classOf_18 rfl ?_
    refine g_iadd C 20 dX10_classOf_19 rfl ?_
    refine g_iald C 21 ha_51 dX10_classOf_20 rfl hz (fun hz => ?_)
    refine g_goto C 25 dX10_classOf_21 rfl ?_
    exact g_iret C hr dX10_classOf_25 hz
theorem c_X10_classOf (l : Launch) (D : va_G) (cy : Nat → ClassId) (ad : Nat → Nat) (n : Nat) (S : Sg) (sz : Nat) (x1 : Int32) (x2 : Int32) (z : Int32 × Sg) (hz : f_X10_classOf x1 x2 S = some z) : Met l yX10_classOf (.code yX10_classOf cX10_classOf 3 (some .int) :: wsAll) rm_X10_classOf (gPc D cy ad n S sz [.ref (ad 34), .int x1, .int x2]) (gQ D cy ad n (va_A (wW cy ad n S) sz) (some (.int z.1)) z.2) 0 0 (va_A (wW cy ad n S) sz) := by
  refine gMet (lv := [(0, .ref (ad 34)), (1, .int x1), (2, .int x2)]) (by decide) (Nat.le_of_ble_eq_true rfl) rfl ?_
  intro p e s m args below meth c A hA hr C
  exact t_X10_classOf C hr hz
def rm_X10_means : Room := { frames := 2, cells := 0, slots := 0, locals := 43 }
set_option maxRecDepth 20000 in
theorem t_X10_means_L32 {p : Program} {l : Launch} {e : Env} {s : State} {m : MethodId} {args : Array Value} {below : List Frame} {meth : Method} {c : Code} {D : va_G} {cy : Nat → ClassId} {ad : Nat → Nat} {n : Nat} {A : Nat → Prop} (C : gC p s m args meth c cX10_means 6 RX10 D cy ad n A) (hr : meth.sig.returnType = (some .int)) {z : Int32 × Sg} : ∀ (fl : Nat) (x1 : Int32) (x2 : Int32) (x3 : Int32) (x4 : Int32) (S : Sg), f_X10_means_L32 fl x1 x2 x3 x4 S = some z → gW p l e rm_X10_means s m args below meth c D cy ad n A 6 0 0 (MQ below (gQ D cy ad n A (some (.int z.1)) z.2) args s 0 0 A) S 32 [(0, .ref (ad 34)), (1, .int x1), (2, .int x2), (3, .int x3), (4, .int x4)] [] := by
  intro fl
  induction fl with
  | zero =>
    intro x1 x2 x3 x4 S hz
    rw [f_X10_means_L32] at hz
    cases hz
  | succ fl ih =>
    intro x1 x2 x3 x4 S hz
    rw [f_X10_means_L32] at hz
    refine g_iload C 34 4 rfl dX10_means_32 rfl ?_
    refine g_iload_n C 35 2 rfl dX10_means_34 rfl ?_
    refine g_icmp_ge C 81 38 dX10_means_35 rfl rfl hz (fun hz => ?_) (fun hz => ?_)
    · refine g_aload_n C 82 0 rfl dX10_means_81 rfl ?_
      refine g_iload_n C 83 1 rfl dX10_means_82 rfl ?_
      refine g_iload_n C 84 3 rfl dX10_means_83 rfl ?_
      refine cl_10_284 C 87 ⟨Nat.le_of_ble_eq_true rfl, Nat.le_of_ble_eq_true rfl⟩ ⟨Nat.zero_le _, Nat.zero_le _⟩ (Nat.le_of_ble_eq_true rfl) dX10_means_84 rfl hz (fun r_7 S_6 hz => ?_)
      refine g_if_eq C 94 90 dX10_means_87 rfl rfl hz (fun hz => ?_) (fun hz => ?_)
      · refine g_iconst C 95 (0 : Int32) ci_0 dX10_means_94 rfl ?_
        exact g_iret C hr dX10_means_95 hz
      · refine g_iconst C 91 (1 : Int32) ci_1 dX10_means_90 rfl ?_
        refine g_goto C 95 dX10_means_91 rfl ?_
        exact g_iret C hr dX10_means_95 hz
    · refine g_aload_n C 39 0 rfl dX10_means_38 rfl ?_
      refine gf_10_7 C 42 dX10_means_39 rfl ?_
      refine g_iload C 44 4 rfl dX10_means_42 rfl ?_
      refine g_bald C 45 ha_35 dX10_means_44 rfl hz (fun hz => ?_)
      refine g_sipush C 48 (255 : Int32) cs_255 dX10_means_45 rfl ?_
      refine g_iand C 49 dX10_means_48 rfl ?_
      refine g_bipush C 51 (97 : Int32) cb_97 dX10_means_49 rfl ?_
      refine g_isub C 52 dX10_means_51 rfl ?_
      refine g_istore C 54 (i := 5) [1, 2, 3, 4, 5, 0] (fun x5_8 => [(0, .ref (ad 34)), (1, .int x1), (2, .int x2), (3, .int x3), (4, .int x4), (5, .int x5_8)]) dX10_means_52 rfl (by decide) (fun x5_8 => rfl) hz (fun x5_8 hz => ?_)
      refine g_iload C 56 5 rfl dX10_means_54 rfl ?_
      refine g_iconst C 57 (0 : Int32) ci_0 dX10_means_56 rfl ?_
      refine g_iconst C 58 (3 : Int32) ci_3 dX10_means_57 rfl ?_
      refine cl_10_166 C 61 ⟨Nat.le_of_ble_eq_true rfl, Nat.le_of_ble_eq_true rfl⟩ ⟨Nat.zero_le _, Nat.zero_le _⟩ (Nat.le_of_ble_eq_true rfl) dX10_means_58 rfl hz (fun r_10 S_9 hz => ?_)
      refine g_if_ne C 66 64 dX10_means_61 rfl rfl hz (fun hz => ?_) (fun hz => ?_)
      · refine g_aload_n C 67 0 rfl dX10_means_66 rfl ?_
        refine g_iload_n C 68 1 rfl dX10_means_67 rfl ?_
        refine g_iload_n C 69 3 rfl dX10_means_68 rfl ?_
        refine g_iload C 71 5 rfl dX10_means_69 rfl ?_
        refine cl_10_287 C 74 ⟨Nat.le_of_ble_eq_true rfl, Nat.le_of_ble_eq_true rfl⟩ ⟨Nat.zero_le _, Nat.zero_le _⟩ (Nat.le_of_ble_eq_true rfl) dX10_means_71 rfl hz (fun r_12 S_11 hz => ?_)
        refine g_istore_n C 75 (i := 3) [1, 2, 3, 0, 4] (fun x3_13 => [(0, .ref (ad 34)), (1, .int x1), (2, .int x2), (3, .int x3_13), (4, .int x4)]) dX10_means_74 rfl rfl (by decide) (fun x3_13 => rfl) hz (fun x3_13 hz => ?_)
        refine g_iinc C 78 4 [1, 2, 3, 4, 0] (1 : Int32) ci_1 (fun x4_14 => [(0, .ref (ad 34)), (1, .int x1), (2, .int x2), (3, .int x3_13), (4, .int x4_14)]) dX10_means_75 rfl rfl (by decide) (fun x4_14 => rfl) hz (fun x4_14 hz => ?_)
        refine g_goto C 32 dX10_means_78 rfl ?_
        exact ih x1 x2 x3_13 x4_14 S_11 hz
      · refine g_iconst C 65 (0 : Int32) ci_0 dX10_means_64 rfl ?_
        exact g_iret C hr dX10_means_65 hz
set_option maxRecDepth 20000 in
theorem t_X10_means {p : Program} {l : Launch} {e : Env} {s : State} {m : MethodId} {args : Array Value} {below : List Frame} {meth : Method} {c : Code} {D : va_G} {cy : Nat → ClassId} {ad : Nat → Nat} {n : Nat} {A : Nat → Prop} (C : gC p s m args meth c cX10_means 6 RX10 D cy ad n A) (hr : meth.sig.returnType = (some .int)) {z : Int32 × Sg} {S : Sg} {x1 : Int32} {x2 : Int32} (hz : f_X10_means x1 x2 S = some z) : gW p l e rm_X10_means s m args below meth c D cy ad n A 6 0 0 (MQ below (gQ D cy ad n A (some (.int z.1)) z.2) args s 0 0 A) S 0 [(0, .ref (ad 34)), (1, .int x1), (2, .int x2)] [] := by
  unfold f_X10_means at hz
  refine g_aload_n C 1 0 rfl dX10_means_0 rfl ?_
  refine g_iload_n C 2 1 rfl dX10_means_1 rfl ?_
  refine cl_10_281 C 5 ⟨Nat.le_of_ble_eq_true rfl, Nat.le_of_ble_eq_true rfl⟩ ⟨Nat.zero_le _, Nat.zero_le _⟩ (Nat.le_of_ble_eq_true rfl) dX10_means_2 rfl hz (fun r_2 S_1 hz => ?_)
  refine g_if_eq C 20 8 dX10_means_5 rfl rfl hz (fun hz => ?_) (fun hz => ?_)
  · refine g_iconst C 21 (-1 : Int32) ci_m1 dX10_means_20 rfl ?_
    exact g_iret C hr dX10_means_21 hz
  · refine g_iload_n C 9 2 rfl dX10_means_8 rfl ?_
    refine g_if_lt C 20 12 dX10_means_9 rfl rfl hz (fun hz => ?_) (fun hz => ?_)
    · refine g_iconst C 21 (-1 : Int32) ci_m1 dX10_means_20 rfl ?_
      exact g_iret C hr dX10_means_21 hz
    · refine g_iload_n C 13 2 rfl dX10_means_12 rfl ?_
      refine g_aload_n C 14 0 rfl dX10_means_13 rfl ?_
      refine gf_10_149 C 17 dX10_means_14 rfl ?_
      refine g_icmp_le C 22 20 dX10_means_17 rfl rfl hz (fun hz => ?_) (fun hz => ?_)
      · refine g_aload_n C 23 0 rfl dX10_means_22 rfl ?_
        refine g_iconst C 24 (0 : Int32) ci_0 dX10_means_23 rfl ?_
        refine pf_10_149 C 27 dX10_means_24 rfl hz (fun S_3 hz => ?_)
        refine g_iconst C 28 (0 : Int32) ci_0 dX10_means_27 rfl ?_
        refine g_istore_n C 29 (i := 3) [1, 2, 3, 0] (fun x3_4 => [(0, .ref (ad 34)), (1, .int x1), (2, .int x2), (3, .int x3_4)]) dX10_means_28 rfl rfl (by decide) (fun x3_4 => rfl) hz (fun x3_4 hz => ?_)
        refine g_iconst C 30 (0 : Int32) ci_0 dX10_means_29 rfl ?_
        refine g_istore C 32 (i := 4) [1, 2, 3, 4, 0] (fun x4_5 => [(0, .ref (ad 34)), (1, .int x1), (2, .int x2), (3, .int x3_4), (4, .int x4_5)]) dX10_means_30 rfl (by decide) (fun x4_5 => rfl) hz (fun x4_5 hz => ?_)
        exact (t_X10_means_L32 C hr fu) x1 x2 x3_4 x4_5 S_3 hz
      · refine g_iconst C 21 (-1 : Int32) ci_m1 dX10_means_20 rfl ?_
        exact g_iret C hr dX10_means_21 hz
theorem c_X10_means (l : Launch) (D : va_G) (cy : Nat → ClassId) (ad : Nat → Nat) (n : Nat) (S : Sg) (sz : Nat) (x1 : Int32) (x2 : Int32) (z : Int32 × Sg) (hz : f_X10_means x1 x2 S = some z) : Met l yX10_means (.code yX10_means cX10_means 6 (some .int) :: wsAll) rm_X10_means (gPc D cy ad n S sz [.ref (ad 34), .int x1, .int x2]) (gQ D cy ad n (va_A (wW cy ad n S) sz) (some (.int z.1)) z.2) 0 0 (va_A (wW cy ad n S) sz) := by
  refine gMet (lv := [(0, .ref (ad 34)), (1, .int x1), (2, .int x2)]) (by decide) (Nat.le_of_ble_eq_true rfl) rfl ?_
  intro p e s m args below meth c A hA hr C
  exact t_X10_means C hr hz
def rm_X10_counts : Room := { frames := 1, cells := 0, slots := 0, locals := 23 }
set_option maxRecDepth 20000 in
theorem t_X10_counts_L70 {p : Program} {l : Launch} {e : Env} {s : State} {m : MethodId} {args : Array Value} {below : List Frame} {meth : Method} {c : Code} {D : va_G} {cy : Nat → ClassId} {ad : Nat → Nat} {n : Nat} {A : Nat → Prop} (C : gC p s m args meth c cX10_counts 8 RX10 D cy ad n A) (hr : meth.sig.returnType = none) {z : Sg} {k10 : Int32 → Int32 → Int32 → Int32 → Sg → Option (Sg)} (hk10 : ∀ (x1 : Int32) (x2 : Int32) (x3 : Int32) (x4 : Int32) (S : Sg), k10 x1 x2 x3 x4 S = some z → gW p l e rm_X10_counts s m args below meth c D cy ad n A 8 0 0 (MQ below (gQ D cy ad n A none z) args s 0 0 A) S 10 [(0, .ref (ad 34)), (1, .int x1), (2, .int x2), (3, .int x3), (4, .int x4)] []) : ∀ (x1 : Int32) (x2 : Int32) (x3 : Int32) (x4 : Int32) (x5 : Int64) (S : Sg), f_X10_counts_L70 k10 x1 x2 x3 x4 x5 S = some z → gW p l e rm_X10_counts s m args below meth c D cy ad n A 8 0 0 (MQ below (gQ D cy ad n A none z) args s 0 0 A) S 70 [(0, .ref (ad 34)), (1, .int x1), (2, .int x2), (3, .int x3), (4, .int x4), (5, .long x5)] [] := by
  intro x1 x2 x3 x4 x5 S hz
  unfold f_X10_counts_L70 at hz
  refine g_aload_n C 71 0 rfl dX10_counts_70 rfl ?_
  refine gf_10_133 C 74 dX10_counts_71 rfl ?_
  refine g_sipush C 77 (150 : Int32) cs_150 dX10_counts_74 rfl ?_
  refine g_iload_n C 78 3 rfl dX10_counts_77 rfl ?_
  refine g_imul C 79 dX10_counts_78 rfl ?_
  refine g_iload C 81 4 rfl dX10_counts_79 rfl ?_
  refine g_iadd C 82 dX10_counts_81 rfl ?_
  refine g_iload_n C 83 3 rfl dX10_counts_82 rfl ?_
  refine g_if_le C 91 86 dX10_counts_83 rfl rfl hz (fun hz => ?_) (fun hz => ?_)
  · refine g_aload_n C 92 0 rfl dX10_counts_91 rfl ?_
    refine g_iload_n C 93 1 rfl dX10_counts_92 rfl ?_
    refine g_iload C 95 4 rfl dX10_counts_93 rfl ?_
    refine cl_10_284 C 98 ⟨Nat.le_of_ble_eq_true rfl, Nat.le_of_ble_eq_true rfl⟩ ⟨Nat.zero_le _, Nat.zero_le _⟩ (Nat.le_of_ble_eq_true rfl) dX10_counts_95 rfl hz (fun r_7 S_6 hz => ?_)
    refine g_if_eq C 105 101 dX10_counts_98 rfl rfl hz (fun hz => ?_) (fun hz => ?_)
    · refine g_lconst C 106 (0 : Int64) cl_0 dX10_counts_105 rfl ?_
      refine g_last C 107 ha_74 dX10_counts_106 rfl hz (fun S_8 hz => ?_)
      refine g_iinc C 110 4 [1, 2, 3, 4, 0] (1 : Int32) ci_1 (fun x4_9 => [(0, .ref (ad 34)), (1, .int x1), (2, .int x2), (3, .int x3), (4, .int x4_9)]) dX10_counts_107 rfl rfl (by decide) (fun x4_9 => rfl) hz (fun x4_9 hz => ?_)
      refine g_goto C 10 dX10_counts_110 rfl ?_
      exact hk10 x1 x2 x3 x4_9 S_8 hz
    · refine g_lconst C 102 (1 : Int64) cl_1 dX10_counts_101 rfl ?_
      refine g_goto C 106 dX10_counts_102 rfl ?_
      refine g_last C 107 ha_74 dX10_counts_106 rfl hz (fun S_10 hz => ?_)
      refine g_iinc C 110 4 [1, 2, 3, 4, 0] (1 : Int32) ci_1 (fun x4_11 => [(0, .ref (ad 34)), (1, .int x1), (2, .int x2), (3, .int x3), (4, .int x4_11)]) dX10_counts_107 rfl rfl (by decide) (fun x4_11 => rfl) hz (fun x4_11 hz => ?_)
      refine g_goto C 10 dX10_counts_110 rfl ?_
      exact hk10 x1 x2 x3 x4_11 S_10 hz
  · refine g_lload C 88 5 rfl dX10_counts_86 rfl ?_
    refine g_goto C 106 dX10_counts_88 rfl ?_
    refine g_last C 107 ha_74 dX10_counts_106 rfl hz (fun S_12 hz => ?_)
    refine g_iinc C 110 4 [1, 2, 3, 4, 0] (1 : Int32) ci_1 (fun x4_13 => [(0, .ref (ad 34)), (1, .int x1), (2, .int x2), (3, .int x3), (4, .int x4_13)]) dX10_counts_107 rfl rfl (by decide) (fun x4_13 => rfl) hz (fun x4_13 hz => ?_)
    refine g_goto C 10 dX10_counts_110 rfl ?_
    exact hk10 x1 x2 x3 x4_13 S_12 hz
set_option maxRecDepth 20000 in
theorem t_X10_counts_L27 {p : Program} {l : Launch} {e : Env} {s : State} {m : MethodId} {args : Array Value} {below : List Frame} {meth : Method} {c : Code} {D : va_G} {cy : Nat → ClassId} {ad : Nat → Nat} {n : Nat} {A : Nat → Prop} (C : gC p s m args meth c cX10_counts 8 RX10 D cy ad n A) (hr : meth.sig.returnType = none) {z : Sg} {k10 : Int32 → Int32 → Int32 → Int32 → Sg → Option (Sg)} (hk10 : ∀ (x1 : Int32) (x2 : Int32) (x3 : Int32) (x4 : Int32) (S : Sg), k10 x1 x2 x3 x4 S = some z → gW p l e rm_X10_counts s m args below meth c D cy ad n A 8 0 0 (MQ below (gQ D cy ad n A none z) args s 0 0 A) S 10 [(0, .ref (ad 34)), (1, .int x1), (2, .int x2), (3, .int x3), (4, .int x4)] []) : ∀ (fl : Nat) (x1 : Int32) (x2 : Int32) (x3 : Int32) (x4 : Int32) (x5 : Int64) (x7 : Int32) (S : Sg), f_X10_counts_L27 k10 fl x1 x2 x3 x4 x5 x7 S = some z → gW p l e rm_X10_counts s m args below meth c D cy ad n A 8 0 0 (MQ below (gQ D cy ad n A none z) args s 0 0 A) S 27 [(0, .ref (ad 34)), (1, .int x1), (2, .int x2), (3, .int x3), (4, .int x4), (5, .long x5), (7, .int x7)] [] := by
  intro fl
  induction fl with
  | zero =>
    intro x1 x2 x3 x4 x5 x7 S hz
    rw [f_X10_counts_L27] at hz
    cases hz
  | succ fl ih =>
    intro x1 x2 x3 x4 x5 x7 S hz
    rw [f_X10_counts_L27] at hz
    refine g_iload C 29 6 rfl dX10_counts_27 rfl ?_
    refine g_iconst C 30 (4 : Int32) ci_4 dX10_counts_29 rfl ?_
    refine g_icmp_ge C 70 33 dX10_counts_30 rfl rfl hz (fun hz => ?_) (fun hz => ?_)
    · refine g_lv [0, 1, 2, 3, 4, 5] rfl ?_
      exact (t_X10_counts_L70 C hr hk10) x1 x2 x3 x4 x5 S hz
    · refine g_iload_n C 34 3 rfl dX10_counts_33 rfl ?_
      refine g_if_le C 70 37 dX10_counts_34 rfl rfl hz (fun hz => ?_) (fun hz => ?_)
      · refine g_lv [0, 1, 2, 3, 4, 5] rfl ?_
        exact (t_X10_counts_L70 C hr hk10) x1 x2 x3 x4 x5 S hz
      · refine g_lload C 39 5 rfl dX10_counts_37 rfl ?_
        refine g_aload_n C 40 0 rfl dX10_counts_39 rfl ?_
        refine gf_10_133 C 43 dX10_counts_40 rfl ?_
        refine g_sipush C 46 (150 : Int32) cs_150 dX10_counts_43 rfl ?_
        refine g_iload_n C 47 3 rfl dX10_counts_46 rfl ?_
        refine g_iconst C 48 (1 : Int32) ci_1 dX10_counts_47 rfl ?_
        refine g_isub C 49 dX10_counts_48 rfl ?_
        refine g_imul C 50 dX10_counts_49 rfl ?_
        refine g_aload_n C 51 0 rfl dX10_counts_50 rfl ?_
        refine g_iload_n C 52 1 rfl dX10_counts_51 rfl ?_
        refine g_iload C 54 4 rfl dX10_counts_52 rfl ?_
        refine g_iload C 56 6 rfl dX10_counts_54 rfl ?_
        refine cl_10_287 C 59 ⟨Nat.le_of_ble_eq_true rfl, Nat.le_of_ble_eq_true rfl⟩ ⟨Nat.zero_le _, Nat.zero_le _⟩ (Nat.le_of_ble_eq_true rfl) dX10_counts_56 rfl hz (fun r_15 S_14 hz => ?_)
        refine g_iadd C 60 dX10_counts_59 rfl ?_
        refine g_lald C 61 ha_74 dX10_counts_60 rfl hz (fun hz => ?_)
        refine g_ladd C 62 dX10_counts_61 rfl ?_
        refine g_lstore C 64 (i := 5) [1, 2, 3, 4, 5, 0, 6] (fun x5_16 => [(0, .ref (ad 34)), (1, .int x1), (2, .int x2), (3, .int x3), (4, .int x4), (5, .long x5_16), (7, .int x7)]) dX10_counts_62 rfl (by decide) (fun x5_16 => rfl) hz (fun x5_16 hz => ?_)
        refine g_iinc C 67 6 [1, 2, 3, 4, 5, 6, 0] (1 : Int32) ci_1 (fun x7_17 => [(0, .ref (ad 34)), (1, .int x1), (2, .int x2), (3, .int x3), (4, .int x4), (5, .long x5_16), (7, .int x7_17)]) dX10_counts_64 rfl rfl (by decide) (fun x7_17 => rfl) hz (fun x7_17 hz => ?_)
        refine g_goto C 27 dX10_counts_67 rfl ?_
        exact ih x1 x2 x3 x4 x5_16 x7_17 S_14 hz
set_option maxRecDepth 20000 in
theorem t_X10_counts_L10 {p : Program} {l : Launch} {e : Env} {s : State} {m : MethodId} {args : Array Value} {below : List Frame} {meth : Method} {c : Code} {D : va_G} {cy : Nat → ClassId} {ad : Nat → Nat} {n : Nat} {A : Nat → Prop} (C : gC p s m args meth c cX10_counts 8 RX10 D cy ad n A) (hr : meth.sig.returnType = none) {z : Sg} {k2 : Int32 → Int32 → Int32 → Sg → Option (Sg)} (hk2 : ∀ (x1 : Int32) (x2 : Int32) (x3 : Int32) (S : Sg), k2 x1 x2 x3 S = some z → gW p l e rm_X10_counts s m args below meth c D cy ad n A 8 0 0 (MQ below (gQ D cy ad n A none z) args s 0 0 A) S 2 [(0, .ref (ad 34)), (1, .int x1), (2, .int x2), (3, .int x3)] []) : ∀ (fl : Nat) (x1 : Int32) (x2 : Int32) (x3 : Int32) (x4 : Int32) (S : Sg), f_X10_counts_L10 k2 fl x1 x2 x3 x4 S = some z → gW p l e rm_X10_counts s m args below meth c D cy ad n A 8 0 0 (MQ below (gQ D cy ad n A none z) args s 0 0 A) S 10 [(0, .ref (ad 34)), (1, .int x1), (2, .int x2), (3, .int x3), (4, .int x4)] [] := by
  intro fl
  induction fl with
  | zero =>
    intro x1 x2 x3 x4 S hz
    rw [f_X10_counts_L10] at hz
    cases hz
  | succ fl ih =>
    intro x1 x2 x3 x4 S hz
    rw [f_X10_counts_L10] at hz
    refine g_iload C 12 4 rfl dX10_counts_10 rfl ?_
    refine g_aload_n C 13 0 rfl dX10_counts_12 rfl ?_
    refine gf_10_43 C 16 dX10_counts_13 rfl ?_
    refine g_iload_n C 17 1 rfl dX10_counts_16 rfl ?_
    refine g_iald C 18 ha_44 dX10_counts_17 rfl hz (fun hz => ?_)
    refine g_icmp_ge C 113 21 dX10_counts_18 rfl rfl hz (fun hz => ?_) (fun hz => ?_)
    · refine g_iinc C 116 3 [1, 2, 3, 0] (1 : Int32) ci_1 (fun x3_3 => [(0, .ref (ad 34)), (1, .int x1), (2, .int x2), (3, .int x3_3)]) dX10_counts_113 rfl rfl (by decide) (fun x3_3 => rfl) hz (fun x3_3 hz => ?_)
      refine g_goto C 2 dX10_counts_116 rfl ?_
      exact hk2 x1 x2 x3_3 S hz
    · refine g_lconst C 22 (0 : Int64) cl_0 dX10_counts_21 rfl ?_
      refine g_lstore C 24 (i := 5) [1, 2, 3, 4, 5, 0] (fun x5_4 => [(0, .ref (ad 34)), (1, .int x1), (2, .int x2), (3, .int x3), (4, .int x4), (5, .long x5_4)]) dX10_counts_22 rfl (by decide) (fun x5_4 => rfl) hz (fun x5_4 hz => ?_)
      refine g_iconst C 25 (0 : Int32) ci_0 dX10_counts_24 rfl ?_
      refine g_istore C 27 (i := 7) [1, 2, 3, 4, 5, 6, 0] (fun x7_5 => [(0, .ref (ad 34)), (1, .int x1), (2, .int x2), (3, .int x3), (4, .int x4), (5, .long x5_4), (7, .int x7_5)]) dX10_counts_25 rfl (by decide) (fun x7_5 => rfl) hz (fun x7_5 hz => ?_)
      exact (t_X10_counts_L27 C hr ih fu) x1 x2 x3 x4 x5_4 x7_5 S hz
set_option maxRecDepth 20000 in
theorem t_X10_counts_L2 {p : Program} {l : Launch} {e : Env} {s : State} {m : MethodId} {args : Array Value} {below : List Frame} {meth : Method} {c : Code} {D : va_G} {cy : Nat → ClassId} {ad : Nat → Nat} {n : Nat} {A : Nat → Prop} (C : gC p s m args meth c cX10_counts 8 RX10 D cy ad n A) (hr : meth.sig.returnType = none) {z : Sg} : ∀ (fl : Nat) (x1 : Int32) (x2 : Int32) (x3 : Int32) (S : Sg), f_X10_counts_L2 fl x1 x2 x3 S = some z → gW p l e rm_X10_counts s m args below meth c D cy ad n A 8 0 0 (MQ below (gQ D cy ad n A none z) args s 0 0 A) S 2 [(0, .ref (ad 34)), (1, .int x1), (2, .int x2), (3, .int x3)] [] := by
  intro fl
  induction fl with
  | zero =>
    intro x1 x2 x3 S hz
    rw [f_X10_counts_L2] at hz
    cases hz
  | succ fl ih =>
    intro x1 x2 x3 S hz
    rw [f_X10_counts_L2] at hz
    refine g_iload_n C 3 3 rfl dX10_counts_2 rfl ?_
    refine g_iload_n C 4 2 rfl dX10_counts_3 rfl ?_
    refine g_icmp_gt C 119 7 dX10_counts_4 rfl rfl hz (fun hz => ?_) (fun hz => ?_)
    · exact g_vret C hr dX10_counts_119 hz
    · refine g_iconst C 8 (0 : Int32) ci_0 dX10_counts_7 rfl ?_
      refine g_istore C 10 (i := 4) [1, 2, 3, 4, 0] (fun x4_2 => [(0, .ref (ad 34)), (1, .int x1), (2, .int x2), (3, .int x3), (4, .int x4_2)]) dX10_counts_8 rfl (by decide) (fun x4_2 => rfl) hz (fun x4_2 hz => ?_)
      exact (t_X10_counts_L10 C hr ih fu) x1 x2 x3 x4_2 S hz
set_option maxRecDepth 20000 in
theorem t_X10_counts {p : Program} {l : Launch} {e : Env} {s : State} {m : MethodId} {args : Array Value} {below : List Frame} {meth : Method} {c : Code} {D : va_G} {cy : Nat → ClassId} {ad : Nat → Nat} {n : Nat} {A : Nat → Prop} (C : gC p s m args meth c cX10_counts 8 RX10 D cy ad n A) (hr : meth.sig.returnType = none) {z : Sg} {S : Sg} {x1 : Int32} {x2 : Int32} (hz : f_X10_counts x1 x2 S = some z) : gW p l e rm_X10_counts s m args below meth c D cy ad n A 8 0 0 (MQ below (gQ D cy ad n A none z) args s 0 0 A) S 0 [(0, .ref (ad 34)), (1, .int x1), (2, .int x2)] [] := by
  unfold f_X10_counts at hz
  refine g_iconst C 1 (0 : Int32) ci_0 dX10_counts_0 rfl ?_
  refine g_istore_n C 2 (i := 3) [1, 2, 3, 0] (fun x3_1 => [(0, .ref (ad 34)), (1, .int x1), (2, .int x2), (3, .int x3_1)]) dX10_counts_1 rfl rfl (by decide) (fun x3_1 => rfl) hz (fun x3_1 hz => ?_)
  exact (t_X10_counts_L2 C hr fu) x1 x2 x3_1 S hz
theorem c_X10_counts (l : Launch) (D : va_G) (cy : Nat → ClassId) (ad : Nat → Nat) (n : Nat) (S : Sg) (sz : Nat) (x1 : Int32) (x2 : Int32) (z : Sg) (hz : f_X10_counts x1 x2 S = some z) : Met l yX10_counts (.code yX10_counts cX10_counts 8 none :: wsAll) rm_X10_counts (gPc D cy ad n S sz [.ref (ad 34), .int x1, .int x2]) (gQ D cy ad n (va_A (wW cy ad n S) sz) none z) 0 0 (va_A (wW cy ad n S) sz) := by
  refine gMet (lv := [(0, .ref (ad 34)), (1, .int x1), (2, .int x2)]) (by decide) (Nat.le_of_ble_eq_true rfl) rfl ?_
  intro p e s m args below meth c A hA hr C
  exact t_X10_counts C hr hz
def rm_X10_words : Room := { frames := 2, cells := 0, slots := 0, locals := 50 }
theorem wc_10_300 : Cond.constantLong RX10 300 (-1) ∈ wsAll := wA 965 (by decide +kernel) (by decide +kernel)
theorem wl_10_302 : Cond.methodLink RX10 302 yX10_counts ∈ wsAll := wA 966 (by decide +kernel) (by decide +kernel)
theorem wi_X10_counts : Cond.instanceMethod yX10_counts ∈ wsAll := wA 968 (by decide +kernel) (by decide +kernel)
theorem we_X10_counts : Cond.selects RX10 yX10_counts yX10_counts ∈ wsAll := wAp 83 (by decide +kernel) (by decide +kernel)
theorem wo_X10_counts : Cond.code yX10_counts cX10_counts 8 none ∈ wsAll := wA 969 (by decide +kernel) (by decide +kernel)
theorem cl_10_302 {p : Program} {l : Launch} {e : Env} {R : Room} {s : State} {m : MethodId} {args : Array Value} {below : List Frame} {meth : Method} {c : Code} {cc : ByteArray} {nL : Nat} {D : va_G} {cy : Nat → ClassId} {ad : Nat → Nat} {n : Nat} {A : Nat → Prop} {mc ms : Nat} {Q : State → Prop} {S : Sg} {pc : Nat} {lv : List (Nat × Value)} {st : List Value} {ζ : Type} {z : ζ} (C : gC p s m args meth c cc nL RX10 D cy ad n A) (nx : Nat) {x1 : Int32} {x2 : Int32} (hR : Room.frames rm_X10_counts + 1 ≤ R.frames ∧ 8 + (8 + 11) + Room.locals rm_X10_counts ≤ R.locals) (hcm : mc ≤ R.cells ∧ ms ≤ R.slots) (hrest : (st.map fun v => v.category).sum ≤ 8) (hd : decode cc pc = .ok (.invokevirtual 302, 3)) (hn : pc + 3 = nx) {K : Sg → Option ζ} (hz : bd (f_X10_counts x1 x2 S) K = some z) (kk : ∀ S', K S' = some z → gW p l e R s m args below meth c D cy ad n A nL mc ms Q S' nx lv st) : gW p l e R s m args below meth c D cy ad n A nL mc ms Q S pc lv (.int x2 :: .int x1 :: .ref (ad 34) :: st) := by
  obtain ⟨q, hq, hk⟩ := bd_s hz
  exact g_callV C (i := 34) (ci := 10) (Cn := RX10) (T := TX10) (N := 59) (y := yX10_counts) (rm := rm_X10_counts) (As := [.int x1, .int x2]) (rest := st) (na := 2) (fun sz => c_X10_counts l D cy ad n S sz x1 x2 q hq) ha_34 rfl rfl wl_10_302 wi_X10_counts we_X10_counts wz_10 wo_X10_counts (by decide +kernel) rfl rfl hR hcm rfl hrest hn hd (kk q hk)
set_option maxRecDepth 20000 in
theorem t_X10_words {p : Program} {l : Launch} {e : Env} {s : State} {m : MethodId} {args : Array Value} {below : List Frame} {meth : Method} {c : Code} {D : va_G} {cy : Nat → ClassId} {ad : Nat → Nat} {n : Nat} {A : Nat → Prop} (C : gC p s m args meth c cX10_words 3 RX10 D cy ad n A) (hr : meth.sig.returnType = (some .long)) {z : Int64 × Sg} {S : Sg} {x1 : Int32} {x2 : Int32} (hz : f_X10_words x1 x2 S = some z) : gW p l e rm_X10_words s m args below meth c D cy ad n A 3 0 0 (MQ below (gQ D cy ad n A (some (.long z.1)) z.2) args s 0 0 A) S 0 [(0, .ref (ad 34)), (1, .int x1), (2, .int x2)] [] := by
  unfold f_X10_words at hz
  refine g_aload_n C 1 0 rfl dX10_words_0 rfl ?_
  refine g_iload_n C 2 1 rfl dX10_words_1 rfl ?_
  refine cl_10_281 C 5 ⟨Nat.le_of_ble_eq_true rfl, Nat.le_of_ble_eq_true rfl⟩ ⟨Nat.zero_le _, Nat.zero_le _⟩ (Nat.le_of_ble_eq_true rfl) dX10_words_2 rfl hz (fun r_2 S_1 hz => ?_)
  refine g_if_eq C 18 8 dX10_words_5 rfl rfl hz (fun hz => ?_) (fun hz => ?_)
  · refine g_ldc2 C 21 wc_10_300 dX10_words_18 rfl ?_
    exact g_lret C hr dX10_words_21 hz
  · refine g_iload_n C 9 2 rfl dX10_words_8 rfl ?_
    refine g_iconst C 10 (0 : Int32) ci_0 dX10_words_9 rfl ?_
    refine g_bipush C 12 (28 : Int32) cb_28 dX10_words_10 rfl ?_
    refine cl_10_166 C 15 ⟨Nat.le_of_ble_eq_true rfl, Nat.le_of_ble_eq_true rfl⟩ ⟨Nat.zero_le _, Nat.zero_le _⟩ (Nat.le_of_ble_eq_true rfl) dX10_words_12 rfl hz (fun r_4 S_3 hz => ?_)
    refine g_if_ne C 22 18 dX10_words_15 rfl rfl hz (fun hz => ?_) (fun hz => ?_)
    · refine g_aload_n C 23 0 rfl dX10_words_22 rfl ?_
      refine g_iload_n C 24 1 rfl dX10_words_23 rfl ?_
      refine g_iload_n C 25 2 rfl dX10_words_24 rfl ?_
      refine cl_10_302 C 28 ⟨Nat.le_of_ble_eq_true rfl, Nat.le_of_ble_eq_true rfl⟩ ⟨Nat.zero_le _, Nat.zero_le _⟩ (Nat.le_of_ble_eq_true rfl) dX10_words_25 rfl hz (fun S_5 hz => ?_)
      refine g_aload_n C 29 0 rfl dX10_words_28 rfl ?_
      refine gf_10_133 C 32 dX10_words_29 rfl ?_
      refine g_sipush C 35 (150 : Int32) cs_150 dX10_words_32 rfl ?_
      refine g_iload_n C 36 2 rfl dX10_words_35 rfl ?_
      refine g_imul C 37 dX10_words_36 rfl ?_
      refine g_lald C 38 ha_74 dX10_words_37 rfl hz (fun hz => ?_)
      exact g_lret C hr dX10_words_38 hz
    · refine g_ldc2 C 21 wc_10_300 dX10_words_18 rfl ?_
      exact g_lret C hr dX10_words_21 hz
theorem c_X10_words (l : Launch) (D : va_G) (cy : Nat → ClassId) (ad : Nat → Nat) (n : Nat) (S : Sg) (sz : Nat) (x1 : Int32) (x2 : Int32) (z : Int64 × Sg) (hz : f_X10_words x1 x2 S = some z) : Met l yX10_words (.code yX10_words cX10_words 3 (some .long) :: wsAll) rm_X10_words (gPc D cy ad n S sz [.ref (ad 34), .int x1, .int x2]) (gQ D cy ad n (va_A (wW cy ad n S) sz) (some (.long z.1)) z.2) 0 0 (va_A (wW cy ad n S) sz) := by
  refine gMet (lv := [(0, .ref (ad 34)), (1, .int x1), (2, .int x2)]) (by decide) (Nat.le_of_ble_eq_true rfl) rfl ?_
  intro p e s m args below meth c A hA hr C
  exact t_X10_words C hr hz
def rm_X10_word : Room := { frames := 2, cells := 0, slots := 0, locals := 50 }
set_option maxRecDepth 20000 in
theorem t_X10_word_L67 {p : Program} {l : Launch} {e : Env} {s : State} {m : MethodId} {args : Array Value} {below : List Frame} {meth : Method} {c : Code} {D : va_G} {cy : Nat → ClassId} {ad : Nat → Nat} {n : Nat} {A : Nat → Prop} (C : gC p s m args meth c cX10_word 10 RX10 D cy ad n A) (hr : meth.sig.returnType = (some .boolean)) {z : Int32 × Sg} {k58 : Int32 → Int32 → Int64 → Int32 → Int32 → Sg → Option (Int32 × Sg)} (hk58 : ∀ (x1 : Int32) (x2 : Int32) (x5 : Int64) (x7 : Int32) (x8 : Int32) (S : Sg), k58 x1 x2 x5 x7 x8 S = some z → gW p l e rm_X10_word s m args below meth c D cy ad n A 10 0 0 (MQ below (gQ D cy ad n A (some (.int z.1)) z.2) args s 0 0 A) S 58 [(0, .ref (ad 34)), (1, .int x1), (2, .int x2), (5, .long x5), (7, .int x7), (8, .int x8)] []) : ∀ (fl : Nat) (x1 : Int32) (x2 : Int32) (x5 : Int64) (x7 : Int32) (x8 : Int32) (x9 : Int32) (S : Sg), f_X10_word_L67 k58 fl x1 x2 x5 x7 x8 x9 S = some z → gW p l e rm_X10_word s m args below meth c D cy ad n A 10 0 0 (MQ below (gQ D cy ad n A (some (.int z.1)) z.2) args s 0 0 A) S 67 [(0, .ref (ad 34)), (1, .int x1), (2, .int x2), (5, .long x5), (7, .int x7), (8, .int x8), (9, .int x9)] [] := by
  intro fl
  induction fl with
  | zero =>
    intro x1 x2 x5 x7 x8 x9 S hz
    rw [f_X10_word_L67] at hz
    cases hz
  | succ fl ih =>
    intro x1 x2 x5 x7 x8 x9 S hz
    rw [f_X10_word_L67] at hz
    refine g_lload C 69 3 rfl dX10_word_67 rfl ?_
    refine g_aload_n C 70 0 rfl dX10_word_69 rfl ?_
    refine gf_10_133 C 73 dX10_word_70 rfl ?_
    refine g_sipush C 76 (150 : Int32) cs_150 dX10_word_73 rfl ?_
    refine g_iload_n C 77 2 rfl dX10_word_76 rfl ?_
    refine g_iconst C 78 (1 : Int32) ci_1 dX10_word_77 rfl ?_
    refine g_isub C 79 dX10_word_78 rfl ?_
    refine g_iload C 81 5 rfl dX10_word_79 rfl ?_
    refine g_isub C 82 dX10_word_81 rfl ?_
    refine g_imul C 83 dX10_word_82 rfl ?_
    refine g_aload_n C 84 0 rfl dX10_word_83 rfl ?_
    refine g_iload_n C 85 1 rfl dX10_word_84 rfl ?_
    refine g_iload C 87 4 rfl dX10_word_85 rfl ?_
    refine g_iload C 89 6 rfl dX10_word_87 rfl ?_
    refine cl_10_287 C 92 ⟨Nat.le_of_ble_eq_true rfl, Nat.le_of_ble_eq_true rfl⟩ ⟨Nat.zero_le _, Nat.zero_le _⟩ (Nat.le_of_ble_eq_true rfl) dX10_word_89 rfl hz (fun r_12 S_11 hz => ?_)
    refine g_iadd C 93 dX10_word_92 rfl ?_
    refine g_lald C 94 ha_74 dX10_word_93 rfl hz (fun hz => ?_)
    refine g_lcmp C 95 dX10_word_94 rfl ?_
    refine g_if_lt C 134 98 dX10_word_95 rfl rfl hz (fun hz => ?_) (fun hz => ?_)
    · refine g_aload_n C 135 0 rfl dX10_word_134 rfl ?_
      refine gf_10_73 C 138 dX10_word_135 rfl ?_
      refine g_iload C 140 5 rfl dX10_word_138 rfl ?_
      refine g_iload C 142 6 rfl dX10_word_140 rfl ?_
      refine g_iast C 143 ha_54 dX10_word_142 rfl hz (fun S_13 hz => ?_)
      refine g_aload_n C 144 0 rfl dX10_word_143 rfl ?_
      refine g_iload_n C 145 1 rfl dX10_word_144 rfl ?_
      refine g_iload C 147 4 rfl dX10_word_145 rfl ?_
      refine g_iload C 149 6 rfl dX10_word_147 rfl ?_
      refine cl_10_287 C 152 ⟨Nat.le_of_ble_eq_true rfl, Nat.le_of_ble_eq_true rfl⟩ ⟨Nat.zero_le _, Nat.zero_le _⟩ (Nat.le_of_ble_eq_true rfl) dX10_word_149 rfl hz (fun r_15 S_14 hz => ?_)
      refine g_istore C 154 (i := 7) [1, 2, 3, 4, 0, 5] (fun x7_16 => [(0, .ref (ad 34)), (1, .int x1), (2, .int x2), (5, .long x5), (7, .int x7_16), (8, .int x8)]) dX10_word_152 rfl (by decide) (fun x7_16 => rfl) hz (fun x7_16 hz => ?_)
      refine g_iinc C 157 5 [1, 2, 3, 4, 5, 0] (1 : Int32) ci_1 (fun x8_17 => [(0, .ref (ad 34)), (1, .int x1), (2, .int x2), (5, .long x5), (7, .int x7_16), (8, .int x8_17)]) dX10_word_154 rfl rfl (by decide) (fun x8_17 => rfl) hz (fun x8_17 hz => ?_)
      refine g_goto C 58 dX10_word_157 rfl ?_
      exact hk58 x1 x2 x5 x7_16 x8_17 S_14 hz
    · refine g_lload C 100 3 rfl dX10_word_98 rfl ?_
      refine g_aload_n C 101 0 rfl dX10_word_100 rfl ?_
      refine gf_10_133 C 104 dX10_word_101 rfl ?_
      refine g_sipush C 107 (150 : Int32) cs_150 dX10_word_104 rfl ?_
      refine g_iload_n C 108 2 rfl dX10_word_107 rfl ?_
      refine g_iconst C 109 (1 : Int32) ci_1 dX10_word_108 rfl ?_
      refine g_isub C 110 dX10_word_109 rfl ?_
      refine g_iload C 112 5 rfl dX10_word_110 rfl ?_
      refine g_isub C 113 dX10_word_112 rfl ?_
      refine g_imul C 114 dX10_word_113 rfl ?_
      refine g_aload_n C 115 0 rfl dX10_word_114 rfl ?_
      refine g_iload_n C 116 1 rfl dX10_word_115 rfl ?_
      refine g_iload C 118 4 rfl dX10_word_116 rfl ?_
      refine g_iload C 120 6 rfl dX10_word_118 rfl ?_
      refine cl_10_287 C 123 ⟨Nat.le_of_ble_eq_true rfl, Nat.le_of_ble_eq_true rfl⟩ ⟨Nat.zero_le _, Nat.zero_le _⟩ (Nat.le_of_ble_eq_true rfl) dX10_word_120 rfl hz (fun r_19 S_18 hz => ?_)
      refine g_iadd C 124 dX10_word_123 rfl ?_
      refine g_lald C 125 ha_74 dX10_word_124 rfl hz (fun hz => ?_)
      refine g_lsub C 126 dX10_word_125 rfl ?_
      refine g_lstore C 128 (i := 5) [1, 2, 3, 0, 4, 5, 6] (fun x5_20 => [(0, .ref (ad 34)), (1, .int x1), (2, .int x2), (5, .long x5_20), (7, .int x7), (8, .int x8), (9, .int x9)]) dX10_word_126 rfl (by decide) (fun x5_20 => rfl) hz (fun x5_20 hz => ?_)
      refine g_iinc C 131 6 [1, 2, 3, 4, 5, 6, 0] (1 : Int32) ci_1 (fun x9_21 => [(0, .ref (ad 34)), (1, .int x1), (2, .int x2), (5, .long x5_20), (7, .int x7), (8, .int x8), (9, .int x9_21)]) dX10_word_128 rfl rfl (by decide) (fun x9_21 => rfl) hz (fun x9_21 hz => ?_)
      refine g_goto C 67 dX10_word_131 rfl ?_
      exact ih x1 x2 x5_20 x7 x8 x9_21 S_18 hz
set_option maxRecDepth 20000 in
theorem t_X10_word_L58 {p : Program} {l : Launch} {e : Env} {s : State} {m : MethodId} {args : Array Value} {below : List Frame} {meth : Method} {c : Code} {D : va_G} {cy : Nat → ClassId} {ad : Nat → Nat} {n : Nat} {A : Nat → Prop} (C : gC p s m args meth c cX10_word 10 RX10 D cy ad n A) (hr : meth.sig.returnType = (some .boolean)) {z : Int32 × Sg} : ∀ (fl : Nat) (x1 : Int32) (x2 : Int32) (x5 : Int64) (x7 : Int32) (x8 : Int32) (S : Sg), f_X10_word_L58 fl x1 x2 x5 x7 x8 S = some z → gW p l e rm_X10_word s m args below meth c D cy ad n A 10 0 0 (MQ below (gQ D cy ad n A (some (.int z.1)) z.2) args s 0 0 A) S 58 [(0, .ref (ad 34)), (1, .int x1), (2, .int x2), (5, .long x5), (7, .int x7), (8, .int x8)] [] := by
  intro fl
  induction fl with
  | zero =>
    intro x1 x2 x5 x7 x8 S hz
    rw [f_X10_word_L58] at hz
    cases hz
  | succ fl ih =>
    intro x1 x2 x5 x7 x8 S hz
    rw [f_X10_word_L58] at hz
    refine g_iload C 60 5 rfl dX10_word_58 rfl ?_
    refine g_iload_n C 61 2 rfl dX10_word_60 rfl ?_
    refine g_icmp_ge C 160 64 dX10_word_61 rfl rfl hz (fun hz => ?_) (fun hz => ?_)
    · refine g_aload_n C 161 0 rfl dX10_word_160 rfl ?_
      refine g_iload_n C 162 2 rfl dX10_word_161 rfl ?_
      refine pf_10_305 C 165 dX10_word_162 rfl hz (fun S_9 hz => ?_)
      refine g_iconst C 166 (1 : Int32) ci_1 dX10_word_165 rfl ?_
      exact g_zretc C hr (by decide) dX10_word_166 hz
    · refine g_iconst C 65 (0 : Int32) ci_0 dX10_word_64 rfl ?_
      refine g_istore C 67 (i := 9) [1, 2, 3, 4, 5, 6, 0] (fun x9_10 => [(0, .ref (ad 34)), (1, .int x1), (2, .int x2), (5, .long x5), (7, .int x7), (8, .int x8), (9, .int x9_10)]) dX10_word_65 rfl (by decide) (fun x9_10 => rfl) hz (fun x9_10 hz => ?_)
      exact (t_X10_word_L67 C hr ih fu) x1 x2 x5 x7 x8 x9_10 S hz
set_option maxRecDepth 20000 in
theorem t_X10_word {p : Program} {l : Launch} {e : Env} {s : State} {m : MethodId} {args : Array Value} {below : List Frame} {meth : Method} {c : Code} {D : va_G} {cy : Nat → ClassId} {ad : Nat → Nat} {n : Nat} {A : Nat → Prop} (C : gC p s m args meth c cX10_word 10 RX10 D cy ad n A) (hr : meth.sig.returnType = (some .boolean)) {z : Int32 × Sg} {S : Sg} {x1 : Int32} {x2 : Int32} {x3 : Int64} (hz : f_X10_word x1 x2 x3 S = some z) : gW p l e rm_X10_word s m args below meth c D cy ad n A 10 0 0 (MQ below (gQ D cy ad n A (some (.int z.1)) z.2) args s 0 0 A) S 0 [(0, .ref (ad 34)), (1, .int x1), (2, .int x2), (3, .long x3)] [] := by
  unfold f_X10_word at hz
  refine g_aload_n C 1 0 rfl dX10_word_0 rfl ?_
  refine g_iload_n C 2 1 rfl dX10_word_1 rfl ?_
  refine cl_10_281 C 5 ⟨Nat.le_of_ble_eq_true rfl, Nat.le_of_ble_eq_true rfl⟩ ⟨Nat.zero_le _, Nat.zero_le _⟩ (Nat.le_of_ble_eq_true rfl) dX10_word_2 rfl hz (fun r_2 S_1 hz => ?_)
  refine g_if_eq C 24 8 dX10_word_5 rfl rfl hz (fun hz => ?_) (fun hz => ?_)
  · refine g_iconst C 25 (0 : Int32) ci_0 dX10_word_24 rfl ?_
    exact g_zretc C hr (by decide) dX10_word_25 hz
  · refine g_iload_n C 9 2 rfl dX10_word_8 rfl ?_
    refine g_iconst C 10 (0 : Int32) ci_0 dX10_word_9 rfl ?_
    refine g_bipush C 12 (28 : Int32) cb_28 dX10_word_10 rfl ?_
    refine cl_10_166 C 15 ⟨Nat.le_of_ble_eq_true rfl, Nat.le_of_ble_eq_true rfl⟩ ⟨Nat.zero_le _, Nat.zero_le _⟩ (Nat.le_of_ble_eq_true rfl) dX10_word_12 rfl hz (fun r_4 S_3 hz => ?_)
    refine g_if_eq C 24 18 dX10_word_15 rfl rfl hz (fun hz => ?_) (fun hz => ?_)
    · refine g_iconst C 25 (0 : Int32) ci_0 dX10_word_24 rfl ?_
      exact g_zretc C hr (by decide) dX10_word_25 hz
    · refine g_lload_n C 19 3 rfl dX10_word_18 rfl ?_
      refine g_lconst C 20 (0 : Int64) cl_0 dX10_word_19 rfl ?_
      refine g_lcmp C 21 dX10_word_20 rfl ?_
      refine g_if_ge C 26 24 dX10_word_21 rfl rfl hz (fun hz => ?_) (fun hz => ?_)
      · refine g_aload_n C 27 0 rfl dX10_word_26 rfl ?_
        refine g_iload_n C 28 1 rfl dX10_word_27 rfl ?_
        refine g_iload_n C 29 2 rfl dX10_word_28 rfl ?_
        refine cl_10_302 C 32 ⟨Nat.le_of_ble_eq_true rfl, Nat.le_of_ble_eq_true rfl⟩ ⟨Nat.zero_le _, Nat.zero_le _⟩ (Nat.le_of_ble_eq_true rfl) dX10_word_29 rfl hz (fun S_5 hz => ?_)
        refine g_lload_n C 33 3 rfl dX10_word_32 rfl ?_
        refine g_aload_n C 34 0 rfl dX10_word_33 rfl ?_
        refine gf_10_133 C 37 dX10_word_34 rfl ?_
        refine g_sipush C 40 (150 : Int32) cs_150 dX10_word_37 rfl ?_
        refine g_iload_n C 41 2 rfl dX10_word_40 rfl ?_
        refine g_imul C 42 dX10_word_41 rfl ?_
        refine g_lald C 43 ha_74 dX10_word_42 rfl hz (fun hz => ?_)
        refine g_lcmp C 44 dX10_word_43 rfl ?_
        refine g_if_lt C 49 47 dX10_word_44 rfl rfl hz (fun hz => ?_) (fun hz => ?_)
        · refine g_lload_n C 50 3 rfl dX10_word_49 rfl ?_
          refine g_lstore C 52 (i := 5) [1, 2, 3, 0] (fun x5_6 => [(0, .ref (ad 34)), (1, .int x1), (2, .int x2), (5, .long x5_6)]) dX10_word_50 rfl (by decide) (fun x5_6 => rfl) hz (fun x5_6 hz => ?_)
          refine g_iconst C 53 (0 : Int32) ci_0 dX10_word_52 rfl ?_
          refine g_istore C 55 (i := 7) [1, 2, 3, 4, 0] (fun x7_7 => [(0, .ref (ad 34)), (1, .int x1), (2, .int x2), (5, .long x5_6), (7, .int x7_7)]) dX10_word_53 rfl (by decide) (fun x7_7 => rfl) hz (fun x7_7 hz => ?_)
          refine g_iconst C 56 (0 : Int32) ci_0 dX10_word_55 rfl ?_
          refine g_istore C 58 (i := 8) [1, 2, 3, 4, 5, 0] (fun x8_8 => [(0, .ref (ad 34)), (1, .int x1), (2, .int x2), (5, .long x5_6), (7, .int x7_7), (8, .int x8_8)]) dX10_word_56 rfl (by decide) (fun x8_8 => rfl) hz (fun x8_8 hz => ?_)
          exact (t_X10_word_L58 C hr fu) x1 x2 x5_6 x7_7 x8_8 S_5 hz
        · refine g_iconst C 48 (0 : Int32) ci_0 dX10_word_47 rfl ?_
          exact g_zretc C hr (by decide) dX10_word_48 hz
      · refine g_iconst C 25 (0 : Int32) ci_0 dX10_word_24 rfl ?_
        exact g_zretc C hr (by decide) dX10_word_25 hz
theorem c_X10_word (l : Launch) (D : va_G) (cy : Nat → ClassId) (ad : Nat → Nat) (n : Nat) (S : Sg) (sz : Nat) (x1 : Int32) (x2 : Int32) (x3 : Int64) (z : Int32 × Sg) (hz : f_X10_word x1 x2 x3 S = some z) : Met l yX10_word (.code yX10_word cX10_word 10 (some .boolean) :: wsAll) rm_X10_word (gPc D cy ad n S sz [.ref (ad 34), .int x1, .int x2, .long x3]) (gQ D cy ad n (va_A (wW cy ad n S) sz) (some (.int z.1)) z.2) 0 0 (va_A (wW cy ad n S) sz) := by
  refine gMet (lv := [(0, .ref (ad 34)), (1, .int x1), (2, .int x2), (3, .long x3)]) (by decide) (Nat.le_of_ble_eq_true rfl) rfl ?_
  intro p e s m args below meth c A hA hr C
  exact t_X10_word C hr hz
