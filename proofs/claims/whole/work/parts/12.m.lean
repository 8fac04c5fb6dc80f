def rm_X10_meetEnds : Room := { frames := 1, cells := 0, slots := 0, locals := 21 }
set_option maxRecDepth 20000 in
theorem t_X10_meetEnds {p : Program} {l : Launch} {e : Env} {s : State} {m : MethodId} {args : Array Value} {below : List Frame} {meth : Method} {c : Code} {D : va_G} {cy : Nat → ClassId} {ad : Nat → Nat} {n : Nat} {A : Nat → Prop} (C : gC p s m args meth c cX10_meetEnds 1 RX10 D cy ad n A) (hr : meth.sig.returnType = none) {z : Sg} {S : Sg} (hz : f_X10_meetEnds S = some z) : gW p l e rm_X10_meetEnds s m args below meth c D cy ad n A 1 0 0 (MQ below (gQ D cy ad n A none z) args s 0 0 A) S 0 [(0, .ref (ad 34))] [] := by
  unfold f_X10_meetEnds at hz
  refine g_aload_n C 1 0 rfl dX10_meetEnds_0 rfl ?_
  refine gf_10_103 C 4 dX10_meetEnds_1 rfl ?_
  refine g_aload_n C 5 0 rfl dX10_meetEnds_4 rfl ?_
  refine gf_10_238 C 8 dX10_meetEnds_5 rfl ?_
  refine g_zald C 9 ha_64 dX10_meetEnds_8 rfl hz (fun hz => ?_)
  refine g_if_eq C 18 12 dX10_meetEnds_9 rfl rfl hz (fun hz => ?_) (fun hz => ?_)
  · refine g_aload_n C 19 0 rfl dX10_meetEnds_18 rfl ?_
    refine gf_10_103 C 22 dX10_meetEnds_19 rfl ?_
    refine g_aload_n C 23 0 rfl dX10_meetEnds_22 rfl ?_
    refine gf_10_238 C 26 dX10_meetEnds_23 rfl ?_
    refine g_iconst C 27 (0 : Int32) ci_0 dX10_meetEnds_26 rfl ?_
    refine g_zast C 28 ha_64 dX10_meetEnds_27 rfl hz (fun S_1 hz => ?_)
    exact g_vret C hr dX10_meetEnds_28 hz
  · refine g_aload_n C 13 0 rfl dX10_meetEnds_12 rfl ?_
    refine g_bipush C 15 (-2 : Int32) cb_m2 dX10_meetEnds_13 rfl ?_
    refine cl_10_232 C 18 ⟨Nat.le_of_ble_eq_true rfl, Nat.le_of_ble_eq_true rfl⟩ ⟨Nat.zero_le _, Nat.zero_le _⟩ (Nat.le_of_ble_eq_true rfl) dX10_meetEnds_15 rfl hz (fun S_2 hz => ?_)
    refine g_aload_n C 19 0 rfl dX10_meetEnds_18 rfl ?_
    refine gf_10_103 C 22 dX10_meetEnds_19 rfl ?_
    refine g_aload_n C 23 0 rfl dX10_meetEnds_22 rfl ?_
    refine gf_10_238 C 26 dX10_meetEnds_23 rfl ?_
    refine g_iconst C 27 (0 : Int32) ci_0 dX10_meetEnds_26 rfl ?_
    refine g_zast C 28 ha_64 dX10_meetEnds_27 rfl hz (fun S_3 hz => ?_)
    exact g_vret C hr dX10_meetEnds_28 hz
theorem c_X10_meetEnds (l : Launch) (D : va_G) (cy : Nat → ClassId) (ad : Nat → Nat) (n : Nat) (S : Sg) (sz : Nat) (z : Sg) (hz : f_X10_meetEnds S = some z) : Met l yX10_meetEnds (.code yX10_meetEnds cX10_meetEnds 1 none :: wsAll) rm_X10_meetEnds (gPc D cy ad n S sz [.ref (ad 34)]) (gQ D cy ad n (va_A (wW cy ad n S) sz) none z) 0 0 (va_A (wW cy ad n S) sz) := by
  refine gMet (lv := [(0, .ref (ad 34))]) (by decide) (Nat.le_of_ble_eq_true rfl) rfl ?_
  intro p e s m args below meth c A hA hr C
  exact t_X10_meetEnds C hr hz
def rm_X10_sideEnds : Room := { frames := 1, cells := 0, slots := 0, locals := 21 }
set_option maxRecDepth 20000 in
theorem t_X10_sideEnds_L40 {p : Program} {l : Launch} {e : Env} {s : State} {m : MethodId} {args : Array Value} {below : List Frame} {meth : Method} {c : Code} {D : va_G} {cy : Nat → ClassId} {ad : Nat → Nat} {n : Nat} {A : Nat → Prop} (C : gC p s m args meth c cX10_sideEnds 1 RX10 D cy ad n A) (hr : meth.sig.returnType = none) {z : Sg} : ∀ (S : Sg), f_X10_sideEnds_L40 S = some z → gW p l e rm_X10_sideEnds s m args below meth c D cy ad n A 1 0 0 (MQ below (gQ D cy ad n A none z) args s 0 0 A) S 40 [(0, .ref (ad 34))] [] := by
  intro  S hz
  unfold f_X10_sideEnds_L40 at hz
  refine g_aload_n C 41 0 rfl dX10_sideEnds_40 rfl ?_
  refine gf_10_100 C 44 dX10_sideEnds_41 rfl ?_
  refine g_aload_n C 45 0 rfl dX10_sideEnds_44 rfl ?_
  refine gf_10_238 C 48 dX10_sideEnds_45 rfl ?_
  refine g_zald C 49 ha_63 dX10_sideEnds_48 rfl hz (fun hz => ?_)
  refine g_if_eq C 57 52 dX10_sideEnds_49 rfl rfl hz (fun hz => ?_) (fun hz => ?_)
  · refine g_aload_n C 58 0 rfl dX10_sideEnds_57 rfl ?_
    refine gf_10_100 C 61 dX10_sideEnds_58 rfl ?_
    refine g_aload_n C 62 0 rfl dX10_sideEnds_61 rfl ?_
    refine gf_10_238 C 65 dX10_sideEnds_62 rfl ?_
    refine g_iconst C 66 (0 : Int32) ci_0 dX10_sideEnds_65 rfl ?_
    refine g_zast C 67 ha_63 dX10_sideEnds_66 rfl hz (fun S_1 hz => ?_)
    exact g_vret C hr dX10_sideEnds_67 hz
  · refine g_aload_n C 53 0 rfl dX10_sideEnds_52 rfl ?_
    refine g_iconst C 54 (-1 : Int32) ci_m1 dX10_sideEnds_53 rfl ?_
    refine cl_10_232 C 57 ⟨Nat.le_of_ble_eq_true rfl, Nat.le_of_ble_eq_true rfl⟩ ⟨Nat.zero_le _, Nat.zero_le _⟩ (Nat.le_of_ble_eq_true rfl) dX10_sideEnds_54 rfl hz (fun S_2 hz => ?_)
    refine g_aload_n C 58 0 rfl dX10_sideEnds_57 rfl ?_
    refine gf_10_100 C 61 dX10_sideEnds_58 rfl ?_
    refine g_aload_n C 62 0 rfl dX10_sideEnds_61 rfl ?_
    refine gf_10_238 C 65 dX10_sideEnds_62 rfl ?_
    refine g_iconst C 66 (0 : Int32) ci_0 dX10_sideEnds_65 rfl ?_
    refine g_zast C 67 ha_63 dX10_sideEnds_66 rfl hz (fun S_3 hz => ?_)
    exact g_vret C hr dX10_sideEnds_67 hz
set_option maxRecDepth 20000 in
theorem t_X10_sideEnds_L0 {p : Program} {l : Launch} {e : Env} {s : State} {m : MethodId} {args : Array Value} {below : List Frame} {meth : Method} {c : Code} {D : va_G} {cy : Nat → ClassId} {ad : Nat → Nat} {n : Nat} {A : Nat → Prop} (C : gC p s m args meth c cX10_sideEnds 1 RX10 D cy ad n A) (hr : meth.sig.returnType = none) {z : Sg} : ∀ (fl : Nat) (S : Sg), f_X10_sideEnds_L0 fl S = some z → gW p l e rm_X10_sideEnds s m args below meth c D cy ad n A 1 0 0 (MQ below (gQ D cy ad n A none z) args s 0 0 A) S 0 [(0, .ref (ad 34))] [] := by
  intro fl
  induction fl with
  | zero =>
    intro  S hz
    rw [f_X10_sideEnds_L0] at hz
    cases hz
  | succ fl ih =>
    intro  S hz
    rw [f_X10_sideEnds_L0] at hz
    refine g_aload_n C 1 0 rfl dX10_sideEnds_0 rfl ?_
    refine gf_10_241 C 4 dX10_sideEnds_1 rfl ?_
    refine g_if_le C 40 7 dX10_sideEnds_4 rfl rfl hz (fun hz => ?_) (fun hz => ?_)
    · exact (t_X10_sideEnds_L40 C hr) S hz
    · refine g_aload_n C 8 0 rfl dX10_sideEnds_7 rfl ?_
      refine gf_10_97 C 11 dX10_sideEnds_8 rfl ?_
      refine g_aload_n C 12 0 rfl dX10_sideEnds_11 rfl ?_
      refine gf_10_241 C 15 dX10_sideEnds_12 rfl ?_
      refine g_iconst C 16 (1 : Int32) ci_1 dX10_sideEnds_15 rfl ?_
      refine g_isub C 17 dX10_sideEnds_16 rfl ?_
      refine g_zald C 18 ha_62 dX10_sideEnds_17 rfl hz (fun hz => ?_)
      refine g_if_ne C 40 21 dX10_sideEnds_18 rfl rfl hz (fun hz => ?_) (fun hz => ?_)
      · exact (t_X10_sideEnds_L40 C hr) S hz
      · refine g_aload_n C 22 0 rfl dX10_sideEnds_21 rfl ?_
        refine g_bipush C 24 (-3 : Int32) cb_m3 dX10_sideEnds_22 rfl ?_
        refine cl_10_232 C 27 ⟨Nat.le_of_ble_eq_true rfl, Nat.le_of_ble_eq_true rfl⟩ ⟨Nat.zero_le _, Nat.zero_le _⟩ (Nat.le_of_ble_eq_true rfl) dX10_sideEnds_24 rfl hz (fun S_4 hz => ?_)
        refine g_aload_n C 28 0 rfl dX10_sideEnds_27 rfl ?_
        refine g_dup C 29 rfl dX10_sideEnds_28 rfl ?_
        refine gf_10_241 C 32 dX10_sideEnds_29 rfl ?_
        refine g_iconst C 33 (1 : Int32) ci_1 dX10_sideEnds_32 rfl ?_
        refine g_isub C 34 dX10_sideEnds_33 rfl ?_
        refine pf_10_241 C 37 dX10_sideEnds_34 rfl hz (fun S_5 hz => ?_)
        refine g_goto C 0 dX10_sideEnds_37 rfl ?_
        exact ih S_5 hz
set_option maxRecDepth 20000 in
theorem t_X10_sideEnds {p : Program} {l : Launch} {e : Env} {s : State} {m : MethodId} {args : Array Value} {below : List Frame} {meth : Method} {c : Code} {D : va_G} {cy : Nat → ClassId} {ad : Nat → Nat} {n : Nat} {A : Nat → Prop} (C : gC p s m args meth c cX10_sideEnds 1 RX10 D cy ad n A) (hr : meth.sig.returnType = none) {z : Sg} {S : Sg} (hz : f_X10_sideEnds S = some z) : gW p l e rm_X10_sideEnds s m args below meth c D cy ad n A 1 0 0 (MQ below (gQ D cy ad n A none z) args s 0 0 A) S 0 [(0, .ref (ad 34))] [] := by
  unfold f_X10_sideEnds at hz
  exact (t_X10_sideEnds_L0 C hr fu) S hz
theorem c_X10_sideEnds (l : Launch) (D : va_G) (cy : Nat → ClassId) (ad : Nat → Nat) (n : Nat) (S : Sg) (sz : Nat) (z : Sg) (hz : f_X10_sideEnds S = some z) : Met l yX10_sideEnds (.code yX10_sideEnds cX10_sideEnds 1 none :: wsAll) rm_X10_sideEnds (gPc D cy ad n S sz [.ref (ad 34)]) (gQ D cy ad n (va_A (wW cy ad n S) sz) none z) 0 0 (va_A (wW cy ad n S) sz) := by
  refine gMet (lv := [(0, .ref (ad 34))]) (by decide) (Nat.le_of_ble_eq_true rfl) rfl ?_
  intro p e s m args below meth c A hA hr C
  exact t_X10_sideEnds C hr hz
def rm_X10_whole : Room := { frames := 5, cells := 0, slots := 0, locals := 111 }
theorem wl_10_250 : Cond.methodLink RX10 250 yX10_meetEnds ∈ wsAll := wA 877 (by decide +kernel) (by decide +kernel)
theorem wi_X10_meetEnds : Cond.instanceMethod yX10_meetEnds ∈ wsAll := wA 879 (by decide +kernel) (by decide +kernel)
theorem we_X10_meetEnds : Cond.selects RX10 yX10_meetEnds yX10_meetEnds ∈ wsAll := wAp 69 (by decide +kernel) (by decide +kernel)
theorem wo_X10_meetEnds : Cond.code yX10_meetEnds cX10_meetEnds 1 none ∈ wsAll := wA 880 (by decide +kernel) (by decide +kernel)
theorem cl_10_250 {p : Program} {l : Launch} {e : Env} {R : Room} {s : State} {m : MethodId} {args : Array Value} {below : List Frame} {meth : Method} {c : Code} {cc : ByteArray} {nL : Nat} {D : va_G} {cy : Nat → ClassId} {ad : Nat → Nat} {n : Nat} {A : Nat → Prop} {mc ms : Nat} {Q : State → Prop} {S : Sg} {pc : Nat} {lv : List (Nat × Value)} {st : List Value} {ζ : Type} {z : ζ} (C : gC p s m args meth c cc nL RX10 D cy ad n A) (nx : Nat) (hR : Room.frames rm_X10_meetEnds + 1 ≤ R.frames ∧ 8 + (1 + 11) + Room.locals rm_X10_meetEnds ≤ R.locals) (hcm : mc ≤ R.cells ∧ ms ≤ R.slots) (hrest : (st.map fun v => v.category).sum ≤ 8) (hd : decode cc pc = .ok (.invokevirtual 250, 3)) (hn : pc + 3 = nx) {K : Sg → Option ζ} (hz : bd (f_X10_meetEnds S) K = some z) (kk : ∀ S', K S' = some z → gW p l e R s m args below meth c D cy ad n A nL mc ms Q S' nx lv st) : gW p l e R s m args below meth c D cy ad n A nL mc ms Q S pc lv (.ref (ad 34) :: st) := by
  obtain ⟨q, hq, hk⟩ := bd_s hz
  exact g_callV C (i := 34) (ci := 10) (Cn := RX10) (T := TX10) (N := 59) (y := yX10_meetEnds) (rm := rm_X10_meetEnds) (As := []) (rest := st) (na := 0) (fun sz => c_X10_meetEnds l D cy ad n S sz  q hq) ha_34 rfl rfl wl_10_250 wi_X10_meetEnds we_X10_meetEnds wz_10 wo_X10_meetEnds (by decide +kernel) rfl rfl hR hcm rfl hrest hn hd (kk q hk)
theorem wl_10_247 : Cond.methodLink RX10 247 yX10_sideEnds ∈ wsAll := wA 873 (by decide +kernel) (by decide +kernel)
theorem wi_X10_sideEnds : Cond.instanceMethod yX10_sideEnds ∈ wsAll := wA 875 (by decide +kernel) (by decide +kernel)
theorem we_X10_sideEnds : Cond.selects RX10 yX10_sideEnds yX10_sideEnds ∈ wsAll := wAp 68 (by decide +kernel) (by decide +kernel)
theorem wo_X10_sideEnds : Cond.code yX10_sideEnds cX10_sideEnds 1 none ∈ wsAll := wA 876 (by decide +kernel) (by decide +kernel)
theorem cl_10_247 {p : Program} {l : Launch} {e : Env} {R : Room} {s : State} {m : MethodId} {args : Array Value} {below : List Frame} {meth : Method} {c : Code} {cc : ByteArray} {nL : Nat} {D : va_G} {cy : Nat → ClassId} {ad : Nat → Nat} {n : Nat} {A : Nat → Prop} {mc ms : Nat} {Q : State → Prop} {S : Sg} {pc : Nat} {lv : List (Nat × Value)} {st : List Value} {ζ : Type} {z : ζ} (C : gC p s m args meth c cc nL RX10 D cy ad n A) (nx : Nat) (hR : Room.frames rm_X10_sideEnds + 1 ≤ R.frames ∧ 8 + (1 + 11) + Room.locals rm_X10_sideEnds ≤ R.locals) (hcm : mc ≤ R.cells ∧ ms ≤ R.slots) (hrest : (st.map fun v => v.category).sum ≤ 8) (hd : decode cc pc = .ok (.invokevirtual 247, 3)) (hn : pc + 3 = nx) {K : Sg → Option ζ} (hz : bd (f_X10_sideEnds S) K = some z) (kk : ∀ S', K S' = some z → gW p l e R s m args below meth c D cy ad n A nL mc ms Q S' nx lv st) : gW p l e R s m args below meth c D cy ad n A nL mc ms Q S pc lv (.ref (ad 34) :: st) := by
  obtain ⟨q, hq, hk⟩ := bd_s hz
  exact g_callV C (i := 34) (ci := 10) (Cn := RX10) (T := TX10) (N := 59) (y := yX10_sideEnds) (rm := rm_X10_sideEnds) (As := []) (rest := st) (na := 0) (fun sz => c_X10_sideEnds l D cy ad n S sz  q hq) ha_34 rfl rfl wl_10_247 wi_X10_sideEnds we_X10_sideEnds wz_10 wo_X10_sideEnds (by decide +kernel) rfl rfl hR hcm rfl hrest hn hd (kk q hk)
theorem wl_10_244 : Cond.methodLink RX10 244 yX10_part ∈ wsAll := wA 833 (by decide +kernel) (by decide +kernel)
theorem wi_X10_part : Cond.instanceMethod yX10_part ∈ wsAll := wA 835 (by decide +kernel) (by decide +kernel)
theorem we_X10_part : Cond.selects RX10 yX10_part yX10_part ∈ wsAll := wAp 58 (by decide +kernel) (by decide +kernel)
theorem wo_X10_part : Cond.code yX10_part cX10_part 2 none ∈ wsAll := wA 836 (by decide +kernel) (by decide +kernel)
theorem cl_10_244 {p : Program} {l : Launch} {e : Env} {R : Room} {s : State} {m : MethodId} {args : Array Value} {below : List Frame} {meth : Method} {c : Code} {cc : ByteArray} {nL : Nat} {D : va_G} {cy : Nat → ClassId} {ad : Nat → Nat} {n : Nat} {A : Nat → Prop} {mc ms : Nat} {Q : State → Prop} {S : Sg} {pc : Nat} {lv : List (Nat × Value)} {st : List Value} {ζ : Type} {z : ζ} (C : gC p s m args meth c cc nL RX10 D cy ad n A) (nx : Nat) (hR : Room.frames rm_X10_part + 1 ≤ R.frames ∧ 8 + (2 + 11) + Room.locals rm_X10_part ≤ R.locals) (hcm : mc ≤ R.cells ∧ ms ≤ R.slots) (hrest : (st.map fun v => v.category).sum ≤ 8) (hd : decode cc pc = .ok (.invokevirtual 244, 3)) (hn : pc + 3 = nx) {K : Sg → Option ζ} (hz : bd (f_X10_part S) K = some z) (kk : ∀ S', K S' = some z → gW p l e R s m args below meth c D cy ad n A nL mc ms Q S' nx lv st) : gW p l e R s m args below meth c D cy ad n A nL mc ms Q S pc lv (.ref (ad 34) :: st) := by
  obtain ⟨q, hq, hk⟩ := bd_s hz
  exact g_callV C (i := 34) (ci := 10) (Cn := RX10) (T := TX10) (N := 59) (y := yX10_part) (rm := rm_X10_part) (As := []) (rest := st) (na := 0) (fun sz => c_X10_part l D cy ad n S sz  q hq) ha_34 rfl rfl wl_10_244 wi_X10_part we_X10_part wz_10 wo_X10_part (by decide +kernel) rfl rfl hR hcm rfl hrest hn hd (kk q hk)
set_option maxRecDepth 20000 in
theorem t_X10_whole_L378 {p : Program} {l : Launch} {e : Env} {s : State} {m : MethodId} {args : Array Value} {below : List Frame} {meth : Method} {c : Code} {D : va_G} {cy : Nat → ClassId} {ad : Nat → Nat} {n : Nat} {A : Nat → Prop} (C : gC p s m args meth c cX10_whole 2 RX10 D cy ad n A) (hr : meth.sig.returnType = none) {z : Sg} : ∀ (S : Sg), f_X10_whole_L378 S = some z → gW p l e rm_X10_whole s m args below meth c D cy ad n A 2 0 0 (MQ below (gQ D cy ad n A none z) args s 0 0 A) S 378 [(0, .ref (ad 34))] [] := by
  intro  S hz
  unfold f_X10_whole_L378 at hz
  refine g_aload_n C 379 0 rfl dX10_whole_378 rfl ?_
  refine gf_10_178 C 382 dX10_whole_379 rfl ?_
  refine g_if_ne C 389 385 dX10_whole_382 rfl rfl hz (fun hz => ?_) (fun hz => ?_)
  · exact g_vret C hr dX10_whole_389 hz
  · refine g_aload_n C 386 0 rfl dX10_whole_385 rfl ?_
    refine cl_10_250 C 389 ⟨Nat.le_of_ble_eq_true rfl, Nat.le_of_ble_eq_true rfl⟩ ⟨Nat.zero_le _, Nat.zero_le _⟩ (Nat.le_of_ble_eq_true rfl) dX10_whole_386 rfl hz (fun S_11 hz => ?_)
    exact g_vret C hr dX10_whole_389 hz
set_option maxRecDepth 20000 in
theorem t_X10_whole_L278 {p : Program} {l : Launch} {e : Env} {s : State} {m : MethodId} {args : Array Value} {below : List Frame} {meth : Method} {c : Code} {D : va_G} {cy : Nat → ClassId} {ad : Nat → Nat} {n : Nat} {A : Nat → Prop} (C : gC p s m args meth c cX10_whole 2 RX10 D cy ad n A) (hr : meth.sig.returnType = none) {z : Sg} {k51 : Int32 → Sg → Option (Sg)} (hk51 : ∀ (x1 : Int32) (S : Sg), k51 x1 S = some z → gW p l e rm_X10_whole s m args below meth c D cy ad n A 2 0 0 (MQ below (gQ D cy ad n A none z) args s 0 0 A) S 51 [(0, .ref (ad 34)), (1, .int x1)] []) : ∀ (x1 : Int32) (S : Sg), f_X10_whole_L278 k51 x1 S = some z → gW p l e rm_X10_whole s m args below meth c D cy ad n A 2 0 0 (MQ below (gQ D cy ad n A none z) args s 0 0 A) S 278 [(0, .ref (ad 34)), (1, .int x1)] [] := by
  intro x1 S hz
  unfold f_X10_whole_L278 at hz
  refine g_aload_n C 279 0 rfl dX10_whole_278 rfl ?_
  refine g_bipush C 281 (38 : Int32) cb_38 dX10_whole_279 rfl ?_
  refine cl_10_174 C 284 ⟨Nat.le_of_ble_eq_true rfl, Nat.le_of_ble_eq_true rfl⟩ ⟨Nat.zero_le _, Nat.zero_le _⟩ (Nat.le_of_ble_eq_true rfl) dX10_whole_281 rfl hz (fun r_17 S_16 hz => ?_)
  refine g_if_eq C 310 287 dX10_whole_284 rfl rfl hz (fun hz => ?_) (fun hz => ?_)
  · refine g_aload_n C 311 0 rfl dX10_whole_310 rfl ?_
    refine g_bipush C 313 (44 : Int32) cb_44 dX10_whole_311 rfl ?_
    refine cl_10_174 C 316 ⟨Nat.le_of_ble_eq_true rfl, Nat.le_of_ble_eq_true rfl⟩ ⟨Nat.zero_le _, Nat.zero_le _⟩ (Nat.le_of_ble_eq_true rfl) dX10_whole_313 rfl hz (fun r_19 S_18 hz => ?_)
    refine g_if_eq C 346 319 dX10_whole_316 rfl rfl hz (fun hz => ?_) (fun hz => ?_)
    · refine g_aload_n C 347 0 rfl dX10_whole_346 rfl ?_
      refine g_aload_n C 348 0 rfl dX10_whole_347 rfl ?_
      refine gf_10_156 C 351 dX10_whole_348 rfl ?_
      refine g_aload_n C 352 0 rfl dX10_whole_351 rfl ?_
      refine gf_10_159 C 355 dX10_whole_352 rfl ?_
      refine g_icmp_ne C 369 358 dX10_whole_355 rfl rfl hz (fun hz => ?_) (fun hz => ?_)
      · refine g_iconst C 370 (0 : Int32) ci_0 dX10_whole_369 rfl ?_
        refine cl_10_205 C 373 ⟨Nat.le_of_ble_eq_true rfl, Nat.le_of_ble_eq_true rfl⟩ ⟨Nat.zero_le _, Nat.zero_le _⟩ (Nat.le_of_ble_eq_true rfl) dX10_whole_370 rfl hz (fun S_20 hz => ?_)
        refine g_iconst C 374 (0 : Int32) ci_0 dX10_whole_373 rfl ?_
        refine g_istore_n C 375 (i := 1) [1, 0] (fun x1_21 => [(0, .ref (ad 34)), (1, .int x1_21)]) dX10_whole_374 rfl rfl (by decide) (fun x1_21 => rfl) hz (fun x1_21 hz => ?_)
        refine g_goto C 51 dX10_whole_375 rfl ?_
        exact hk51 x1_21 S_20 hz
      · refine g_aload_n C 359 0 rfl dX10_whole_358 rfl ?_
        refine gf_10_238 C 362 dX10_whole_359 rfl ?_
        refine g_if_ne C 369 365 dX10_whole_362 rfl rfl hz (fun hz => ?_) (fun hz => ?_)
        · refine g_iconst C 370 (0 : Int32) ci_0 dX10_whole_369 rfl ?_
          refine cl_10_205 C 373 ⟨Nat.le_of_ble_eq_true rfl, Nat.le_of_ble_eq_true rfl⟩ ⟨Nat.zero_le _, Nat.zero_le _⟩ (Nat.le_of_ble_eq_true rfl) dX10_whole_370 rfl hz (fun S_22 hz => ?_)
          refine g_iconst C 374 (0 : Int32) ci_0 dX10_whole_373 rfl ?_
          refine g_istore_n C 375 (i := 1) [1, 0] (fun x1_23 => [(0, .ref (ad 34)), (1, .int x1_23)]) dX10_whole_374 rfl rfl (by decide) (fun x1_23 => rfl) hz (fun x1_23 hz => ?_)
          refine g_goto C 51 dX10_whole_375 rfl ?_
          exact hk51 x1_23 S_22 hz
        · refine g_iconst C 366 (1 : Int32) ci_1 dX10_whole_365 rfl ?_
          refine g_goto C 370 dX10_whole_366 rfl ?_
          refine cl_10_205 C 373 ⟨Nat.le_of_ble_eq_true rfl, Nat.le_of_ble_eq_true rfl⟩ ⟨Nat.zero_le _, Nat.zero_le _⟩ (Nat.le_of_ble_eq_true rfl) dX10_whole_370 rfl hz (fun S_24 hz => ?_)
          refine g_iconst C 374 (0 : Int32) ci_0 dX10_whole_373 rfl ?_
          refine g_istore_n C 375 (i := 1) [1, 0] (fun x1_25 => [(0, .ref (ad 34)), (1, .int x1_25)]) dX10_whole_374 rfl rfl (by decide) (fun x1_25 => rfl) hz (fun x1_25 hz => ?_)
          refine g_goto C 51 dX10_whole_375 rfl ?_
          exact hk51 x1_25 S_24 hz
    · refine g_aload_n C 320 0 rfl dX10_whole_319 rfl ?_
      refine cl_10_250 C 323 ⟨Nat.le_of_ble_eq_true rfl, Nat.le_of_ble_eq_true rfl⟩ ⟨Nat.zero_le _, Nat.zero_le _⟩ (Nat.le_of_ble_eq_true rfl) dX10_whole_320 rfl hz (fun S_26 hz => ?_)
      refine g_aload_n C 324 0 rfl dX10_whole_323 rfl ?_
      refine gf_10_103 C 327 dX10_whole_324 rfl ?_
      refine g_aload_n C 328 0 rfl dX10_whole_327 rfl ?_
      refine gf_10_238 C 331 dX10_whole_328 rfl ?_
      refine g_iconst C 332 (1 : Int32) ci_1 dX10_whole_331 rfl ?_
      refine g_zast C 333 ha_64 dX10_whole_332 rfl hz (fun S_27 hz => ?_)
      refine g_aload_n C 334 0 rfl dX10_whole_333 rfl ?_
      refine g_dup C 335 rfl dX10_whole_334 rfl ?_
      refine gf_10_156 C 338 dX10_whole_335 rfl ?_
      refine g_iconst C 339 (1 : Int32) ci_1 dX10_whole_338 rfl ?_
      refine g_iadd C 340 dX10_whole_339 rfl ?_
      refine pf_10_156 C 343 dX10_whole_340 rfl hz (fun S_28 hz => ?_)
      refine g_goto C 51 dX10_whole_343 rfl ?_
      exact hk51 x1 S_28 hz
  · refine g_aload_n C 288 0 rfl dX10_whole_287 rfl ?_
    refine gf_10_100 C 291 dX10_whole_288 rfl ?_
    refine g_aload_n C 292 0 rfl dX10_whole_291 rfl ?_
    refine gf_10_238 C 295 dX10_whole_292 rfl ?_
    refine g_iconst C 296 (1 : Int32) ci_1 dX10_whole_295 rfl ?_
    refine g_zast C 297 ha_63 dX10_whole_296 rfl hz (fun S_29 hz => ?_)
    refine g_aload_n C 298 0 rfl dX10_whole_297 rfl ?_
    refine g_dup C 299 rfl dX10_whole_298 rfl ?_
    refine gf_10_156 C 302 dX10_whole_299 rfl ?_
    refine g_iconst C 303 (1 : Int32) ci_1 dX10_whole_302 rfl ?_
    refine g_iadd C 304 dX10_whole_303 rfl ?_
    refine pf_10_156 C 307 dX10_whole_304 rfl hz (fun S_30 hz => ?_)
    refine g_goto C 51 dX10_whole_307 rfl ?_
    exact hk51 x1 S_30 hz
set_option maxRecDepth 20000 in
theorem t_X10_whole_L221 {p : Program} {l : Launch} {e : Env} {s : State} {m : MethodId} {args : Array Value} {below : List Frame} {meth : Method} {c : Code} {D : va_G} {cy : Nat → ClassId} {ad : Nat → Nat} {n : Nat} {A : Nat → Prop} (C : gC p s m args meth c cX10_whole 2 RX10 D cy ad n A) (hr : meth.sig.returnType = none) {z : Sg} {k51 : Int32 → Sg → Option (Sg)} (hk51 : ∀ (x1 : Int32) (S : Sg), k51 x1 S = some z → gW p l e rm_X10_whole s m args below meth c D cy ad n A 2 0 0 (MQ below (gQ D cy ad n A none z) args s 0 0 A) S 51 [(0, .ref (ad 34)), (1, .int x1)] []) : ∀ (fl : Nat) (x1 : Int32) (S : Sg), f_X10_whole_L221 k51 fl x1 S = some z → gW p l e rm_X10_whole s m args below meth c D cy ad n A 2 0 0 (MQ below (gQ D cy ad n A none z) args s 0 0 A) S 221 [(0, .ref (ad 34)), (1, .int x1)] [] := by
  intro fl
  induction fl with
  | zero =>
    intro x1 S hz
    rw [f_X10_whole_L221] at hz
    cases hz
  | succ fl ih =>
    intro x1 S hz
    rw [f_X10_whole_L221] at hz
    refine g_aload_n C 222 0 rfl dX10_whole_221 rfl ?_
    refine gf_10_238 C 225 dX10_whole_222 rfl ?_
    refine g_if_le C 278 228 dX10_whole_225 rfl rfl hz (fun hz => ?_) (fun hz => ?_)
    · exact (t_X10_whole_L278 C hr hk51) x1 S hz
    · refine g_aload_n C 229 0 rfl dX10_whole_228 rfl ?_
      refine g_bipush C 231 (125 : Int32) cb_125 dX10_whole_229 rfl ?_
      refine cl_10_174 C 234 ⟨Nat.le_of_ble_eq_true rfl, Nat.le_of_ble_eq_true rfl⟩ ⟨Nat.zero_le _, Nat.zero_le _⟩ (Nat.le_of_ble_eq_true rfl) dX10_whole_231 rfl hz (fun r_32 S_31 hz => ?_)
      refine g_if_eq C 278 237 dX10_whole_234 rfl rfl hz (fun hz => ?_) (fun hz => ?_)
      · exact (t_X10_whole_L278 C hr hk51) x1 S_31 hz
      · refine g_aload_n C 238 0 rfl dX10_whole_237 rfl ?_
        refine cl_10_250 C 241 ⟨Nat.le_of_ble_eq_true rfl, Nat.le_of_ble_eq_true rfl⟩ ⟨Nat.zero_le _, Nat.zero_le _⟩ (Nat.le_of_ble_eq_true rfl) dX10_whole_238 rfl hz (fun S_33 hz => ?_)
        refine g_aload_n C 242 0 rfl dX10_whole_241 rfl ?_
        refine g_dup C 243 rfl dX10_whole_242 rfl ?_
        refine gf_10_238 C 246 dX10_whole_243 rfl ?_
        refine g_iconst C 247 (1 : Int32) ci_1 dX10_whole_246 rfl ?_
        refine g_isub C 248 dX10_whole_247 rfl ?_
        refine pf_10_238 C 251 dX10_whole_248 rfl hz (fun S_34 hz => ?_)
        refine g_aload_n C 252 0 rfl dX10_whole_251 rfl ?_
        refine g_dup C 253 rfl dX10_whole_252 rfl ?_
        refine gf_10_241 C 256 dX10_whole_253 rfl ?_
        refine g_iconst C 257 (1 : Int32) ci_1 dX10_whole_256 rfl ?_
        refine g_isub C 258 dX10_whole_257 rfl ?_
        refine pf_10_241 C 261 dX10_whole_258 rfl hz (fun S_35 hz => ?_)
        refine g_aload_n C 262 0 rfl dX10_whole_261 rfl ?_
        refine g_dup C 263 rfl dX10_whole_262 rfl ?_
        refine gf_10_156 C 266 dX10_whole_263 rfl ?_
        refine g_iconst C 267 (1 : Int32) ci_1 dX10_whole_266 rfl ?_
        refine g_iadd C 268 dX10_whole_267 rfl ?_
        refine pf_10_156 C 271 dX10_whole_268 rfl hz (fun S_36 hz => ?_)
        refine g_aload_n C 272 0 rfl dX10_whole_271 rfl ?_
        refine cl_10_247 C 275 ⟨Nat.le_of_ble_eq_true rfl, Nat.le_of_ble_eq_true rfl⟩ ⟨Nat.zero_le _, Nat.zero_le _⟩ (Nat.le_of_ble_eq_true rfl) dX10_whole_272 rfl hz (fun S_37 hz => ?_)
        refine g_goto C 221 dX10_whole_275 rfl ?_
        exact ih x1 S_37 hz
set_option maxRecDepth 20000 in
theorem t_X10_whole_L209 {p : Program} {l : Launch} {e : Env} {s : State} {m : MethodId} {args : Array Value} {below : List Frame} {meth : Method} {c : Code} {D : va_G} {cy : Nat → ClassId} {ad : Nat → Nat} {n : Nat} {A : Nat → Prop} (C : gC p s m args meth c cX10_whole 2 RX10 D cy ad n A) (hr : meth.sig.returnType = none) {z : Sg} {k51 : Int32 → Sg → Option (Sg)} (hk51 : ∀ (x1 : Int32) (S : Sg), k51 x1 S = some z → gW p l e rm_X10_whole s m args below meth c D cy ad n A 2 0 0 (MQ below (gQ D cy ad n A none z) args s 0 0 A) S 51 [(0, .ref (ad 34)), (1, .int x1)] []) : ∀ (x1 : Int32) (S : Sg), f_X10_whole_L209 k51 x1 S = some z → gW p l e rm_X10_whole s m args below meth c D cy ad n A 2 0 0 (MQ below (gQ D cy ad n A none z) args s 0 0 A) S 209 [(0, .ref (ad 34)), (1, .int x1)] [] := by
  intro x1 S hz
  unfold f_X10_whole_L209 at hz
  refine g_aload_n C 210 0 rfl dX10_whole_209 rfl ?_
  refine gf_10_178 C 213 dX10_whole_210 rfl ?_
  refine g_if_le C 217 216 dX10_whole_213 rfl rfl hz (fun hz => ?_) (fun hz => ?_)
  · refine g_aload_n C 218 0 rfl dX10_whole_217 rfl ?_
    refine cl_10_247 C 221 ⟨Nat.le_of_ble_eq_true rfl, Nat.le_of_ble_eq_true rfl⟩ ⟨Nat.zero_le _, Nat.zero_le _⟩ (Nat.le_of_ble_eq_true rfl) dX10_whole_218 rfl hz (fun S_15 hz => ?_)
    exact (t_X10_whole_L221 C hr hk51 fu) x1 S_15 hz
  · exact g_vret C hr dX10_whole_216 hz
set_option maxRecDepth 20000 in
theorem t_X10_whole_L190 {p : Program} {l : Launch} {e : Env} {s : State} {m : MethodId} {args : Array Value} {below : List Frame} {meth : Method} {c : Code} {D : va_G} {cy : Nat → ClassId} {ad : Nat → Nat} {n : Nat} {A : Nat → Prop} (C : gC p s m args meth c cX10_whole 2 RX10 D cy ad n A) (hr : meth.sig.returnType = none) {z : Sg} {k51 : Int32 → Sg → Option (Sg)} (hk51 : ∀ (x1 : Int32) (S : Sg), k51 x1 S = some z → gW p l e rm_X10_whole s m args below meth c D cy ad n A 2 0 0 (MQ below (gQ D cy ad n A none z) args s 0 0 A) S 51 [(0, .ref (ad 34)), (1, .int x1)] []) : ∀ (x1 : Int32) (S : Sg), f_X10_whole_L190 k51 x1 S = some z → gW p l e rm_X10_whole s m args below meth c D cy ad n A 2 0 0 (MQ below (gQ D cy ad n A none z) args s 0 0 A) S 190 [(0, .ref (ad 34)), (1, .int x1)] [] := by
  intro x1 S hz
  unfold f_X10_whole_L190 at hz
  refine g_aload_n C 191 0 rfl dX10_whole_190 rfl ?_
  refine g_aload_n C 192 0 rfl dX10_whole_191 rfl ?_
  refine cl_10_221 C 195 ⟨Nat.le_of_ble_eq_true rfl, Nat.le_of_ble_eq_true rfl⟩ ⟨Nat.zero_le _, Nat.zero_le _⟩ (Nat.le_of_ble_eq_true rfl) dX10_whole_192 rfl hz (fun r_13 S_12 hz => ?_)
  refine cl_10_205 C 198 ⟨Nat.le_of_ble_eq_true rfl, Nat.le_of_ble_eq_true rfl⟩ ⟨Nat.zero_le _, Nat.zero_le _⟩ (Nat.le_of_ble_eq_true rfl) dX10_whole_195 rfl hz (fun S_14 hz => ?_)
  refine g_aload_n C 199 0 rfl dX10_whole_198 rfl ?_
  refine gf_10_178 C 202 dX10_whole_199 rfl ?_
  refine g_if_ne C 209 205 dX10_whole_202 rfl rfl hz (fun hz => ?_) (fun hz => ?_)
  · exact (t_X10_whole_L209 C hr hk51) x1 S_14 hz
  · refine g_aload_n C 206 0 rfl dX10_whole_205 rfl ?_
    refine cl_10_244 C 209 ⟨Nat.le_of_ble_eq_true rfl, Nat.le_of_ble_eq_true rfl⟩ ⟨Nat.zero_le _, Nat.zero_le _⟩ (Nat.le_of_ble_eq_true rfl) dX10_whole_206 rfl hz (fun S_38 hz => ?_)
    exact (t_X10_whole_L209 C hr hk51) x1 S_38 hz
set_option maxRecDepth 20000 in
theorem t_X10_whole_L105 {p : Program} {l : Launch} {e : Env} {s : State} {m : MethodId} {args : Array Value} {below : List Frame} {meth : Method} {c : Code} {D : va_G} {cy : Nat → ClassId} {ad : Nat → Nat} {n : Nat} {A : Nat → Prop} (C : gC p s m args meth c cX10_whole 2 RX10 D cy ad n A) (hr : meth.sig.returnType = none) {z : Sg} {k62 : Int32 → Sg → Option (Sg)} (hk62 : ∀ (x1 : Int32) (S : Sg), k62 x1 S = some z → gW p l e rm_X10_whole s m args below meth c D cy ad n A 2 0 0 (MQ below (gQ D cy ad n A none z) args s 0 0 A) S 62 [(0, .ref (ad 34)), (1, .int x1)] []) : ∀ (x1 : Int32) (S : Sg), f_X10_whole_L105 k62 x1 S = some z → gW p l e rm_X10_whole s m args below meth c D cy ad n A 2 0 0 (MQ below (gQ D cy ad n A none z) args s 0 0 A) S 105 [(0, .ref (ad 34)), (1, .int x1)] [] := by
  intro x1 S hz
  unfold f_X10_whole_L105 at hz
  refine g_aload_n C 106 0 rfl dX10_whole_105 rfl ?_
  refine gf_10_178 C 109 dX10_whole_106 rfl ?_
  refine g_if_le C 113 112 dX10_whole_109 rfl rfl hz (fun hz => ?_) (fun hz => ?_)
  · refine g_aload_n C 114 0 rfl dX10_whole_113 rfl ?_
    refine gf_10_97 C 117 dX10_whole_114 rfl ?_
    refine g_aload_n C 118 0 rfl dX10_whole_117 rfl ?_
    refine gf_10_241 C 121 dX10_whole_118 rfl ?_
    refine g_aload_n C 122 0 rfl dX10_whole_121 rfl ?_
    refine g_bipush C 124 (123 : Int32) cb_123 dX10_whole_122 rfl ?_
    refine cl_10_174 C 127 ⟨Nat.le_of_ble_eq_true rfl, Nat.le_of_ble_eq_true rfl⟩ ⟨Nat.zero_le _, Nat.zero_le _⟩ (Nat.le_of_ble_eq_true rfl) dX10_whole_124 rfl hz (fun r_42 S_41 hz => ?_)
    refine g_zast C 128 ha_62 dX10_whole_127 rfl hz (fun S_43 hz => ?_)
    refine g_aload_n C 129 0 rfl dX10_whole_128 rfl ?_
    refine g_dup C 130 rfl dX10_whole_129 rfl ?_
    refine gf_10_241 C 133 dX10_whole_130 rfl ?_
    refine g_iconst C 134 (1 : Int32) ci_1 dX10_whole_133 rfl ?_
    refine g_iadd C 135 dX10_whole_134 rfl ?_
    refine pf_10_241 C 138 dX10_whole_135 rfl hz (fun S_44 hz => ?_)
    refine g_aload_n C 139 0 rfl dX10_whole_138 rfl ?_
    refine g_bipush C 141 (123 : Int32) cb_123 dX10_whole_139 rfl ?_
    refine cl_10_174 C 144 ⟨Nat.le_of_ble_eq_true rfl, Nat.le_of_ble_eq_true rfl⟩ ⟨Nat.zero_le _, Nat.zero_le _⟩ (Nat.le_of_ble_eq_true rfl) dX10_whole_141 rfl hz (fun r_46 S_45 hz => ?_)
    refine g_if_eq C 177 147 dX10_whole_144 rfl rfl hz (fun hz => ?_) (fun hz => ?_)
    · refine g_aload_n C 178 0 rfl dX10_whole_177 rfl ?_
      refine g_dup C 179 rfl dX10_whole_178 rfl ?_
      refine gf_10_156 C 182 dX10_whole_179 rfl ?_
      refine g_iconst C 183 (1 : Int32) ci_1 dX10_whole_182 rfl ?_
      refine g_iadd C 184 dX10_whole_183 rfl ?_
      refine pf_10_156 C 187 dX10_whole_184 rfl hz (fun S_47 hz => ?_)
      refine g_goto C 62 dX10_whole_187 rfl ?_
      exact hk62 x1 S_47 hz
    · refine g_aload_n C 148 0 rfl dX10_whole_147 rfl ?_
      refine g_dup C 149 rfl dX10_whole_148 rfl ?_
      refine gf_10_238 C 152 dX10_whole_149 rfl ?_
      refine g_iconst C 153 (1 : Int32) ci_1 dX10_whole_152 rfl ?_
      refine g_iadd C 154 dX10_whole_153 rfl ?_
      refine pf_10_238 C 157 dX10_whole_154 rfl hz (fun S_48 hz => ?_)
      refine g_aload_n C 158 0 rfl dX10_whole_157 rfl ?_
      refine gf_10_100 C 161 dX10_whole_158 rfl ?_
      refine g_aload_n C 162 0 rfl dX10_whole_161 rfl ?_
      refine gf_10_238 C 165 dX10_whole_162 rfl ?_
      refine g_iconst C 166 (0 : Int32) ci_0 dX10_whole_165 rfl ?_
      refine g_zast C 167 ha_63 dX10_whole_166 rfl hz (fun S_49 hz => ?_)
      refine g_aload_n C 168 0 rfl dX10_whole_167 rfl ?_
      refine gf_10_103 C 171 dX10_whole_168 rfl ?_
      refine g_aload_n C 172 0 rfl dX10_whole_171 rfl ?_
      refine gf_10_238 C 175 dX10_whole_172 rfl ?_
      refine g_iconst C 176 (0 : Int32) ci_0 dX10_whole_175 rfl ?_
      refine g_zast C 177 ha_64 dX10_whole_176 rfl hz (fun S_50 hz => ?_)
      refine g_aload_n C 178 0 rfl dX10_whole_177 rfl ?_
      refine g_dup C 179 rfl dX10_whole_178 rfl ?_
      refine gf_10_156 C 182 dX10_whole_179 rfl ?_
      refine g_iconst C 183 (1 : Int32) ci_1 dX10_whole_182 rfl ?_
      refine g_iadd C 184 dX10_whole_183 rfl ?_
      refine pf_10_156 C 187 dX10_whole_184 rfl hz (fun S_51 hz => ?_)
      refine g_goto C 62 dX10_whole_187 rfl ?_
      exact hk62 x1 S_51 hz
  · exact g_vret C hr dX10_whole_112 hz
set_option maxRecDepth 20000 in
theorem t_X10_whole_L87 {p : Program} {l : Launch} {e : Env} {s : State} {m : MethodId} {args : Array Value} {below : List Frame} {meth : Method} {c : Code} {D : va_G} {cy : Nat → ClassId} {ad : Nat → Nat} {n : Nat} {A : Nat → Prop} (C : gC p s m args meth c cX10_whole 2 RX10 D cy ad n A) (hr : meth.sig.returnType = none) {z : Sg} {k62 : Int32 → Sg → Option (Sg)} (hk62 : ∀ (x1 : Int32) (S : Sg), k62 x1 S = some z → gW p l e rm_X10_whole s m args below meth c D cy ad n A 2 0 0 (MQ below (gQ D cy ad n A none z) args s 0 0 A) S 62 [(0, .ref (ad 34)), (1, .int x1)] []) : ∀ (x1 : Int32) (S : Sg), f_X10_whole_L87 k62 x1 S = some z → gW p l e rm_X10_whole s m args below meth c D cy ad n A 2 0 0 (MQ below (gQ D cy ad n A none z) args s 0 0 A) S 87 [(0, .ref (ad 34)), (1, .int x1)] [] := by
  intro x1 S hz
  unfold f_X10_whole_L87 at hz
  refine g_aload_n C 88 0 rfl dX10_whole_87 rfl ?_
  refine gf_10_241 C 91 dX10_whole_88 rfl ?_
  refine g_bipush C 93 (10 : Int32) cb_10 dX10_whole_91 rfl ?_
  refine g_icmp_ne C 105 96 dX10_whole_93 rfl rfl hz (fun hz => ?_) (fun hz => ?_)
  · exact (t_X10_whole_L105 C hr hk62) x1 S hz
  · refine g_aload_n C 97 0 rfl dX10_whole_96 rfl ?_
    refine g_iconst C 98 (2 : Int32) ci_2 dX10_whole_97 rfl ?_
    refine g_aload_n C 99 0 rfl dX10_whole_98 rfl ?_
    refine gf_10_156 C 102 dX10_whole_99 rfl ?_
    refine cl_10_181 C 105 ⟨Nat.le_of_ble_eq_true rfl, Nat.le_of_ble_eq_true rfl⟩ ⟨Nat.zero_le _, Nat.zero_le _⟩ (Nat.le_of_ble_eq_true rfl) dX10_whole_102 rfl hz (fun S_52 hz => ?_)
    exact (t_X10_whole_L105 C hr hk62) x1 S_52 hz
set_option maxRecDepth 20000 in
theorem t_X10_whole_L62 {p : Program} {l : Launch} {e : Env} {s : State} {m : MethodId} {args : Array Value} {below : List Frame} {meth : Method} {c : Code} {D : va_G} {cy : Nat → ClassId} {ad : Nat → Nat} {n : Nat} {A : Nat → Prop} (C : gC p s m args meth c cX10_whole 2 RX10 D cy ad n A) (hr : meth.sig.returnType = none) {z : Sg} {k51 : Int32 → Sg → Option (Sg)} (hk51 : ∀ (x1 : Int32) (S : Sg), k51 x1 S = some z → gW p l e rm_X10_whole s m args below meth c D cy ad n A 2 0 0 (MQ below (gQ D cy ad n A none z) args s 0 0 A) S 51 [(0, .ref (ad 34)), (1, .int x1)] []) : ∀ (fl : Nat) (x1 : Int32) (S : Sg), f_X10_whole_L62 k51 fl x1 S = some z → gW p l e rm_X10_whole s m args below meth c D cy ad n A 2 0 0 (MQ below (gQ D cy ad n A none z) args s 0 0 A) S 62 [(0, .ref (ad 34)), (1, .int x1)] [] := by
  intro fl
  induction fl with
  | zero =>
    intro x1 S hz
    rw [f_X10_whole_L62] at hz
    cases hz
  | succ fl ih =>
    intro x1 S hz
    rw [f_X10_whole_L62] at hz
    refine g_aload_n C 63 0 rfl dX10_whole_62 rfl ?_
    refine gf_10_178 C 66 dX10_whole_63 rfl ?_
    refine g_if_ne C 190 69 dX10_whole_66 rfl rfl hz (fun hz => ?_) (fun hz => ?_)
    · exact (t_X10_whole_L190 C hr hk51) x1 S hz
    · refine g_aload_n C 70 0 rfl dX10_whole_69 rfl ?_
      refine g_bipush C 72 (33 : Int32) cb_33 dX10_whole_70 rfl ?_
      refine cl_10_174 C 75 ⟨Nat.le_of_ble_eq_true rfl, Nat.le_of_ble_eq_true rfl⟩ ⟨Nat.zero_le _, Nat.zero_le _⟩ (Nat.le_of_ble_eq_true rfl) dX10_whole_72 rfl hz (fun r_40 S_39 hz => ?_)
      refine g_if_ne C 87 78 dX10_whole_75 rfl rfl hz (fun hz => ?_) (fun hz => ?_)
      · exact (t_X10_whole_L87 C hr ih) x1 S_39 hz
      · refine g_aload_n C 79 0 rfl dX10_whole_78 rfl ?_
        refine g_bipush C 81 (123 : Int32) cb_123 dX10_whole_79 rfl ?_
        refine cl_10_174 C 84 ⟨Nat.le_of_ble_eq_true rfl, Nat.le_of_ble_eq_true rfl⟩ ⟨Nat.zero_le _, Nat.zero_le _⟩ (Nat.le_of_ble_eq_true rfl) dX10_whole_81 rfl hz (fun r_54 S_53 hz => ?_)
        refine g_if_eq C 190 87 dX10_whole_84 rfl rfl hz (fun hz => ?_) (fun hz => ?_)
        · exact (t_X10_whole_L190 C hr hk51) x1 S_53 hz
        · exact (t_X10_whole_L87 C hr ih) x1 S_53 hz
set_option maxRecDepth 20000 in
theorem t_X10_whole_L51 {p : Program} {l : Launch} {e : Env} {s : State} {m : MethodId} {args : Array Value} {below : List Frame} {meth : Method} {c : Code} {D : va_G} {cy : Nat → ClassId} {ad : Nat → Nat} {n : Nat} {A : Nat → Prop} (C : gC p s m args meth c cX10_whole 2 RX10 D cy ad n A) (hr : meth.sig.returnType = none) {z : Sg} : ∀ (fl : Nat) (x1 : Int32) (S : Sg), f_X10_whole_L51 fl x1 S = some z → gW p l e rm_X10_whole s m args below meth c D cy ad n A 2 0 0 (MQ below (gQ D cy ad n A none z) args s 0 0 A) S 51 [(0, .ref (ad 34)), (1, .int x1)] [] := by
  intro fl
  induction fl with
  | zero =>
    intro x1 S hz
    rw [f_X10_whole_L51] at hz
    cases hz
  | succ fl ih =>
    intro x1 S hz
    rw [f_X10_whole_L51] at hz
    refine g_iload_n C 52 1 rfl dX10_whole_51 rfl ?_
    refine g_if_eq C 378 55 dX10_whole_52 rfl rfl hz (fun hz => ?_) (fun hz => ?_)
    · refine g_lv [0] rfl ?_
      exact (t_X10_whole_L378 C hr) S hz
    · refine g_aload_n C 56 0 rfl dX10_whole_55 rfl ?_
      refine gf_10_178 C 59 dX10_whole_56 rfl ?_
      refine g_if_ne C 378 62 dX10_whole_59 rfl rfl hz (fun hz => ?_) (fun hz => ?_)
      · refine g_lv [0] rfl ?_
        exact (t_X10_whole_L378 C hr) S hz
      · exact (t_X10_whole_L62 C hr ih fu) x1 S hz
set_option maxRecDepth 20000 in
theorem t_X10_whole {p : Program} {l : Launch} {e : Env} {s : State} {m : MethodId} {args : Array Value} {below : List Frame} {meth : Method} {c : Code} {D : va_G} {cy : Nat → ClassId} {ad : Nat → Nat} {n : Nat} {A : Nat → Prop} (C : gC p s m args meth c cX10_whole 2 RX10 D cy ad n A) (hr : meth.sig.returnType = none) {z : Sg} {S : Sg} (hz : f_X10_whole S = some z) : gW p l e rm_X10_whole s m args below meth c D cy ad n A 2 0 0 (MQ below (gQ D cy ad n A none z) args s 0 0 A) S 0 [(0, .ref (ad 34))] [] := by
  unfold f_X10_whole at hz
  refine g_aload_n C 1 0 rfl dX10_whole_0 rfl ?_
  refine g_iconst C 2 (0 : Int32) ci_0 dX10_whole_1 rfl ?_
  refine pf_10_178 C 5 dX10_whole_2 rfl hz (fun S_1 hz => ?_)
  refine g_aload_n C 6 0 rfl dX10_whole_5 rfl ?_
  refine g_iconst C 7 (-1 : Int32) ci_m1 dX10_whole_6 rfl ?_
  refine pf_10_16 C 10 dX10_whole_7 rfl hz (fun S_2 hz => ?_)
  refine g_aload_n C 11 0 rfl dX10_whole_10 rfl ?_
  refine g_iconst C 12 (0 : Int32) ci_0 dX10_whole_11 rfl ?_
  refine pf_10_156 C 15 dX10_whole_12 rfl hz (fun S_3 hz => ?_)
  refine g_aload_n C 16 0 rfl dX10_whole_15 rfl ?_
  refine g_iconst C 17 (0 : Int32) ci_0 dX10_whole_16 rfl ?_
  refine pf_10_188 C 20 dX10_whole_17 rfl hz (fun S_4 hz => ?_)
  refine g_aload_n C 21 0 rfl dX10_whole_20 rfl ?_
  refine g_iconst C 22 (0 : Int32) ci_0 dX10_whole_21 rfl ?_
  refine pf_10_235 C 25 dX10_whole_22 rfl hz (fun S_5 hz => ?_)
  refine g_aload_n C 26 0 rfl dX10_whole_25 rfl ?_
  refine g_iconst C 27 (0 : Int32) ci_0 dX10_whole_26 rfl ?_
  refine pf_10_241 C 30 dX10_whole_27 rfl hz (fun S_6 hz => ?_)
  refine g_aload_n C 31 0 rfl dX10_whole_30 rfl ?_
  refine g_iconst C 32 (0 : Int32) ci_0 dX10_whole_31 rfl ?_
  refine pf_10_238 C 35 dX10_whole_32 rfl hz (fun S_7 hz => ?_)
  refine g_aload_n C 36 0 rfl dX10_whole_35 rfl ?_
  refine gf_10_100 C 39 dX10_whole_36 rfl ?_
  refine g_iconst C 40 (0 : Int32) ci_0 dX10_whole_39 rfl ?_
  refine g_iconst C 41 (0 : Int32) ci_0 dX10_whole_40 rfl ?_
  refine g_zast C 42 ha_63 dX10_whole_41 rfl hz (fun S_8 hz => ?_)
  refine g_aload_n C 43 0 rfl dX10_whole_42 rfl ?_
  refine gf_10_103 C 46 dX10_whole_43 rfl ?_
  refine g_iconst C 47 (0 : Int32) ci_0 dX10_whole_46 rfl ?_
  refine g_iconst C 48 (0 : Int32) ci_0 dX10_whole_47 rfl ?_
  refine g_zast C 49 ha_64 dX10_whole_48 rfl hz (fun S_9 hz => ?_)
  refine g_iconst C 50 (1 : Int32) ci_1 dX10_whole_49 rfl ?_
  refine g_istore_n C 51 (i := 1) [1, 0] (fun x1_10 => [(0, .ref (ad 34)), (1, .int x1_10)]) dX10_whole_50 rfl rfl (by decide) (fun x1_10 => rfl) hz (fun x1_10 hz => ?_)
  exact (t_X10_whole_L51 C hr fu) x1_10 S_9 hz
theorem c_X10_whole (l : Launch) (D : va_G) (cy : Nat → ClassId) (ad : Nat → Nat) (n : Nat) (S : Sg) (sz : Nat) (z : Sg) (hz : f_X10_whole S = some z) : Met l yX10_whole (.code yX10_whole cX10_whole 2 none :: wsAll) rm_X10_whole (gPc D cy ad n S sz [.ref (ad 34)]) (gQ D cy ad n (va_A (wW cy ad n S) sz) none z) 0 0 (va_A (wW cy ad n S) sz) := by
  refine gMet (lv := [(0, .ref (ad 34))]) (by decide) (Nat.le_of_ble_eq_true rfl) rfl ?_
  intro p e s m args below meth c A hA hr C
  exact t_X10_whole C hr hz
def rm_X10_meant : Room := { frames := 0, cells := 0, slots := 0, locals := 0 }
set_option maxRecDepth 20000 in
theorem t_X10_meant_L5 {p : Program} {l : Launch} {e : Env} {s : State} {m : MethodId} {args : Array Value} {below : List Frame} {meth : Method} {c : Code} {D : va_G} {cy : Nat → ClassId} {ad : Nat → Nat} {n : Nat} {A : Nat → Prop} (C : gC p s m args meth c cX10_meant 6 RX10 D cy ad n A) (hr : meth.sig.returnType = (some .boolean)) {z : Int32 × Sg} : ∀ (fl : Nat) (x1 : Int32) (x2 : Int32) (x3 : Int32) (x4 : Int32) (S : Sg), f_X10_meant_L5 fl x1 x2 x3 x4 S = some z → gW p l e rm_X10_meant s m args below meth c D cy ad n A 6 0 0 (MQ below (gQ D cy ad n A (some (.int z.1)) z.2) args s 0 0 A) S 5 [(0, .ref (ad 34)), (1, .int x1), (2, .int x2), (3, .int x3), (4, .int x4)] [] := by
  intro fl
  induction fl with
  | zero =>
    intro x1 x2 x3 x4 S hz
    rw [f_X10_meant_L5] at hz
    cases hz
  | succ fl ih =>
    intro x1 x2 x3 x4 S hz
    rw [f_X10_meant_L5] at hz
    refine g_iload C 7 4 rfl dX10_meant_5 rfl ?_
    refine g_aload_n C 8 0 rfl dX10_meant_7 rfl ?_
    refine gf_10_235 C 11 dX10_meant_8 rfl ?_
    refine g_icmp_ge C 202 14 dX10_meant_11 rfl rfl hz (fun hz => ?_) (fun hz => ?_)
    · refine g_aload_n C 203 0 rfl dX10_meant_202 rfl ?_
      refine gf_10_106 C 206 dX10_meant_203 rfl ?_
      refine g_iconst C 207 (0 : Int32) ci_0 dX10_meant_206 rfl ?_
      refine g_zald C 208 ha_65 dX10_meant_207 rfl hz (fun hz => ?_)
      exact g_zret C hr dX10_meant_208 hz
    · refine g_aload_n C 15 0 rfl dX10_meant_14 rfl ?_
      refine gf_10_40 C 18 dX10_meant_15 rfl ?_
      refine g_iload C 20 4 rfl dX10_meant_18 rfl ?_
      refine g_iald C 21 ha_43 dX10_meant_20 rfl hz (fun hz => ?_)
      refine g_istore C 23 (i := 5) [1, 2, 3, 4, 5, 0] (fun x5_3 => [(0, .ref (ad 34)), (1, .int x1), (2, .int x2), (3, .int x3), (4, .int x4), (5, .int x5_3)]) dX10_meant_21 rfl (by decide) (fun x5_3 => rfl) hz (fun x5_3 hz => ?_)
      refine g_iload C 25 5 rfl dX10_meant_23 rfl ?_
      refine g_if_lt C 88 28 dX10_meant_25 rfl rfl hz (fun hz => ?_) (fun hz => ?_)
      · refine g_iload C 90 5 rfl dX10_meant_88 rfl ?_
        refine g_bipush C 92 (-3 : Int32) cb_m3 dX10_meant_90 rfl ?_
        refine g_icmp_ne C 122 95 dX10_meant_92 rfl rfl hz (fun hz => ?_) (fun hz => ?_)
        · refine g_aload_n C 123 0 rfl dX10_meant_122 rfl ?_
          refine gf_10_106 C 126 dX10_meant_123 rfl ?_
          refine g_iload_n C 127 3 rfl dX10_meant_126 rfl ?_
          refine g_iconst C 128 (2 : Int32) ci_2 dX10_meant_127 rfl ?_
          refine g_isub C 129 dX10_meant_128 rfl ?_
          refine g_iload C 131 5 rfl dX10_meant_129 rfl ?_
          refine g_iconst C 132 (-1 : Int32) ci_m1 dX10_meant_131 rfl ?_
          refine g_icmp_ne C 165 135 dX10_meant_132 rfl rfl hz (fun hz => ?_) (fun hz => ?_)
          · refine g_aload_n C 166 0 rfl dX10_meant_165 rfl ?_
            refine gf_10_106 C 169 dX10_meant_166 rfl ?_
            refine g_iload_n C 170 3 rfl dX10_meant_169 rfl ?_
            refine g_iconst C 171 (2 : Int32) ci_2 dX10_meant_170 rfl ?_
            refine g_isub C 172 dX10_meant_171 rfl ?_
            refine g_zald C 173 ha_65 dX10_meant_172 rfl hz (fun hz => ?_)
            refine g_if_ne C 187 176 dX10_meant_173 rfl rfl hz (fun hz => ?_) (fun hz => ?_)
            · refine g_iconst C 188 (1 : Int32) ci_1 dX10_meant_187 rfl ?_
              refine g_goto C 192 dX10_meant_188 rfl ?_
              refine g_zast C 193 ha_65 dX10_meant_192 rfl hz (fun S_4 hz => ?_)
              refine g_iinc C 196 3 [1, 2, 3, 0, 4] (-1 : Int32) ci_m1 (fun x3_5 => [(0, .ref (ad 34)), (1, .int x1), (2, .int x2), (3, .int x3_5), (4, .int x4)]) dX10_meant_193 rfl rfl (by decide) (fun x3_5 => rfl) hz (fun x3_5 hz => ?_)
              refine g_iinc C 199 4 [1, 2, 3, 4, 0] (1 : Int32) ci_1 (fun x4_6 => [(0, .ref (ad 34)), (1, .int x1), (2, .int x2), (3, .int x3_5), (4, .int x4_6)]) dX10_meant_196 rfl rfl (by decide) (fun x4_6 => rfl) hz (fun x4_6 hz => ?_)
              refine g_goto C 5 dX10_meant_199 rfl ?_
              exact ih x1 x2 x3_5 x4_6 S_4 hz
            · refine g_aload_n C 177 0 rfl dX10_meant_176 rfl ?_
              refine gf_10_106 C 180 dX10_meant_177 rfl ?_
              refine g_iload_n C 181 3 rfl dX10_meant_180 rfl ?_
              refine g_iconst C 182 (1 : Int32) ci_1 dX10_meant_181 rfl ?_
              refine g_isub C 183 dX10_meant_182 rfl ?_
              refine g_zald C 184 ha_65 dX10_meant_183 rfl hz (fun hz => ?_)
              refine g_if_eq C 191 187 dX10_meant_184 rfl rfl hz (fun hz => ?_) (fun hz => ?_)
              · refine g_iconst C 192 (0 : Int32) ci_0 dX10_meant_191 rfl ?_
                refine g_zast C 193 ha_65 dX10_meant_192 rfl hz (fun S_7 hz => ?_)
                refine g_iinc C 196 3 [1, 2, 3, 0, 4] (-1 : Int32) ci_m1 (fun x3_8 => [(0, .ref (ad 34)), (1, .int x1), (2, .int x2), (3, .int x3_8), (4, .int x4)]) dX10_meant_193 rfl rfl (by decide) (fun x3_8 => rfl) hz (fun x3_8 hz => ?_)
                refine g_iinc C 199 4 [1, 2, 3, 4, 0] (1 : Int32) ci_1 (fun x4_9 => [(0, .ref (ad 34)), (1, .int x1), (2, .int x2), (3, .int x3_8), (4, .int x4_9)]) dX10_meant_196 rfl rfl (by decide) (fun x4_9 => rfl) hz (fun x4_9 hz => ?_)
                refine g_goto C 5 dX10_meant_199 rfl ?_
                exact ih x1 x2 x3_8 x4_9 S_7 hz
              · refine g_iconst C 188 (1 : Int32) ci_1 dX10_meant_187 rfl ?_
                refine g_goto C 192 dX10_meant_188 rfl ?_
                refine g_zast C 193 ha_65 dX10_meant_192 rfl hz (fun S_10 hz => ?_)
                refine g_iinc C 196 3 [1, 2, 3, 0, 4] (-1 : Int32) ci_m1 (fun x3_11 => [(0, .ref (ad 34)), (1, .int x1), (2, .int x2), (3, .int x3_11), (4, .int x4)]) dX10_meant_193 rfl rfl (by decide) (fun x3_11 => rfl) hz (fun x3_11 hz => ?_)
                refine g_iinc C 199 4 [1, 2, 3, 4, 0] (1 : Int32) ci_1 (fun x4_12 => [(0, .ref (ad 34)), (1, .int x1), (2, .int x2), (3, .int x3_11), (4, .int x4_12)]) dX10_meant_196 rfl rfl (by decide) (fun x4_12 => rfl) hz (fun x4_12 hz => ?_)
                refine g_goto C 5 dX10_meant_199 rfl ?_
                exact ih x1 x2 x3_11 x4_12 S_10 hz
          · refine g_aload_n C 136 0 rfl dX10_meant_135 rfl ?_
            refine gf_10_106 C 139 dX10_meant_136 rfl ?_
            refine g_iload_n C 140 3 rfl dX10_meant_139 rfl ?_
            refine g_iconst C 141 (2 : Int32) ci_2 dX10_meant_140 rfl ?_
            refine g_isub C 142 dX10_meant_141 rfl ?_
            refine g_zald C 143 ha_65 dX10_meant_142 rfl hz (fun hz => ?_)
            refine g_if_eq C 161 146 dX10_meant_143 rfl rfl hz (fun hz => ?_) (fun hz => ?_)
            · refine g_iconst C 162 (0 : Int32) ci_0 dX10_meant_161 rfl ?_
              refine g_goto C 192 dX10_meant_162 rfl ?_
              refine g_zast C 193 ha_65 dX10_meant_192 rfl hz (fun S_13 hz => ?_)
              refine g_iinc C 196 3 [1, 2, 3, 0, 4] (-1 : Int32) ci_m1 (fun x3_14 => [(0, .ref (ad 34)), (1, .int x1), (2, .int x2), (3, .int x3_14), (4, .int x4)]) dX10_meant_193 rfl rfl (by decide) (fun x3_14 => rfl) hz (fun x3_14 hz => ?_)
              refine g_iinc C 199 4 [1, 2, 3, 4, 0] (1 : Int32) ci_1 (fun x4_15 => [(0, .ref (ad 34)), (1, .int x1), (2, .int x2), (3, .int x3_14), (4, .int x4_15)]) dX10_meant_196 rfl rfl (by decide) (fun x4_15 => rfl) hz (fun x4_15 hz => ?_)
              refine g_goto C 5 dX10_meant_199 rfl ?_
              exact ih x1 x2 x3_14 x4_15 S_13 hz
            · refine g_aload_n C 147 0 rfl dX10_meant_146 rfl ?_
              refine gf_10_106 C 150 dX10_meant_147 rfl ?_
              refine g_iload_n C 151 3 rfl dX10_meant_150 rfl ?_
              refine g_iconst C 152 (1 : Int32) ci_1 dX10_meant_151 rfl ?_
              refine g_isub C 153 dX10_meant_152 rfl ?_
              refine g_zald C 154 ha_65 dX10_meant_153 rfl hz (fun hz => ?_)
              refine g_if_eq C 161 157 dX10_meant_154 rfl rfl hz (fun hz => ?_) (fun hz => ?_)
              · refine g_iconst C 162 (0 : Int32) ci_0 dX10_meant_161 rfl ?_
                refine g_goto C 192 dX10_meant_162 rfl ?_
                refine g_zast C 193 ha_65 dX10_meant_192 rfl hz (fun S_16 hz => ?_)
                refine g_iinc C 196 3 [1, 2, 3, 0, 4] (-1 : Int32) ci_m1 (fun x3_17 => [(0, .ref (ad 34)), (1, .int x1), (2, .int x2), (3, .int x3_17), (4, .int x4)]) dX10_meant_193 rfl rfl (by decide) (fun x3_17 => rfl) hz (fun x3_17 hz => ?_)
                refine g_iinc C 199 4 [1, 2, 3, 4, 0] (1 : Int32) ci_1 (fun x4_18 => [(0, .ref (ad 34)), (1, .int x1), (2, .int x2), (3, .int x3_17), (4, .int x4_18)]) dX10_meant_196 rfl rfl (by decide) (fun x4_18 => rfl) hz (fun x4_18 hz => ?_)
                refine g_goto C 5 dX10_meant_199 rfl ?_
                exact ih x1 x2 x3_17 x4_18 S_16 hz
              · refine g_iconst C 158 (1 : Int32) ci_1 dX10_meant_157 rfl ?_
                refine g_goto C 192 dX10_meant_158 rfl ?_
                refine g_zast C 193 ha_65 dX10_meant_192 rfl hz (fun S_19 hz => ?_)
                refine g_iinc C 196 3 [1, 2, 3, 0, 4] (-1 : Int32) ci_m1 (fun x3_20 => [(0, .ref (ad 34)), (1, .int x1), (2, .int x2), (3, .int x3_20), (4, .int x4)]) dX10_meant_193 rfl rfl (by decide) (fun x3_20 => rfl) hz (fun x3_20 hz => ?_)
                refine g_iinc C 199 4 [1, 2, 3, 4, 0] (1 : Int32) ci_1 (fun x4_21 => [(0, .ref (ad 34)), (1, .int x1), (2, .int x2), (3, .int x3_20), (4, .int x4_21)]) dX10_meant_196 rfl rfl (by decide) (fun x4_21 => rfl) hz (fun x4_21 hz => ?_)
                refine g_goto C 5 dX10_meant_199 rfl ?_
                exact ih x1 x2 x3_20 x4_21 S_19 hz
        · refine g_aload_n C 96 0 rfl dX10_meant_95 rfl ?_
          refine gf_10_106 C 99 dX10_meant_96 rfl ?_
          refine g_iload_n C 100 3 rfl dX10_meant_99 rfl ?_
          refine g_iconst C 101 (1 : Int32) ci_1 dX10_meant_100 rfl ?_
          refine g_isub C 102 dX10_meant_101 rfl ?_
          refine g_aload_n C 103 0 rfl dX10_meant_102 rfl ?_
          refine gf_10_106 C 106 dX10_meant_103 rfl ?_
          refine g_iload_n C 107 3 rfl dX10_meant_106 rfl ?_
          refine g_iconst C 108 (1 : Int32) ci_1 dX10_meant_107 rfl ?_
          refine g_isub C 109 dX10_meant_108 rfl ?_
          refine g_zald C 110 ha_65 dX10_meant_109 rfl hz (fun hz => ?_)
          refine g_if_ne C 117 113 dX10_meant_110 rfl rfl hz (fun hz => ?_) (fun hz => ?_)
          · refine g_iconst C 118 (0 : Int32) ci_0 dX10_meant_117 rfl ?_
            refine g_zast C 119 ha_65 dX10_meant_118 rfl hz (fun S_22 hz => ?_)
            refine g_goto C 196 dX10_meant_119 rfl ?_
            refine g_iinc C 199 4 [1, 2, 3, 4, 0] (1 : Int32) ci_1 (fun x4_23 => [(0, .ref (ad 34)), (1, .int x1), (2, .int x2), (3, .int x3), (4, .int x4_23)]) dX10_meant_196 rfl rfl (by decide) (fun x4_23 => rfl) hz (fun x4_23 hz => ?_)
            refine g_goto C 5 dX10_meant_199 rfl ?_
            exact ih x1 x2 x3 x4_23 S_22 hz
          · refine g_iconst C 114 (1 : Int32) ci_1 dX10_meant_113 rfl ?_
            refine g_goto C 118 dX10_meant_114 rfl ?_
            refine g_zast C 119 ha_65 dX10_meant_118 rfl hz (fun S_24 hz => ?_)
            refine g_goto C 196 dX10_meant_119 rfl ?_
            refine g_iinc C 199 4 [1, 2, 3, 4, 0] (1 : Int32) ci_1 (fun x4_25 => [(0, .ref (ad 34)), (1, .int x1), (2, .int x2), (3, .int x3), (4, .int x4_25)]) dX10_meant_196 rfl rfl (by decide) (fun x4_25 => rfl) hz (fun x4_25 hz => ?_)
            refine g_goto C 5 dX10_meant_199 rfl ?_
            exact ih x1 x2 x3 x4_25 S_24 hz
      · refine g_aload_n C 29 0 rfl dX10_meant_28 rfl ?_
        refine gf_10_106 C 32 dX10_meant_29 rfl ?_
        refine g_iload_n C 33 3 rfl dX10_meant_32 rfl ?_
        refine g_iload_n C 34 2 rfl dX10_meant_33 rfl ?_
        refine g_if_ne C 47 37 dX10_meant_34 rfl rfl hz (fun hz => ?_) (fun hz => ?_)
        · refine g_aload_n C 48 0 rfl dX10_meant_47 rfl ?_
          refine gf_10_61 C 51 dX10_meant_48 rfl ?_
          refine g_bipush C 53 (6 : Int32) cb_6 dX10_meant_51 rfl ?_
          refine g_sipush C 56 (150 : Int32) cs_150 dX10_meant_53 rfl ?_
          refine g_iload_n C 57 1 rfl dX10_meant_56 rfl ?_
          refine g_imul C 58 dX10_meant_57 rfl ?_
          refine g_iload_n C 59 2 rfl dX10_meant_58 rfl ?_
          refine g_iadd C 60 dX10_meant_59 rfl ?_
          refine g_imul C 61 dX10_meant_60 rfl ?_
          refine g_iload C 63 5 rfl dX10_meant_61 rfl ?_
          refine g_iadd C 64 dX10_meant_63 rfl ?_
          refine g_iald C 65 ha_50 dX10_meant_64 rfl hz (fun hz => ?_)
          refine g_aload_n C 66 0 rfl dX10_meant_65 rfl ?_
          refine gf_10_31 C 69 dX10_meant_66 rfl ?_
          refine g_iload C 71 5 rfl dX10_meant_69 rfl ?_
          refine g_iald C 72 ha_40 dX10_meant_71 rfl hz (fun hz => ?_)
          refine g_iand C 73 dX10_meant_72 rfl ?_
          refine g_if_eq C 80 76 dX10_meant_73 rfl rfl hz (fun hz => ?_) (fun hz => ?_)
          · refine g_iconst C 81 (0 : Int32) ci_0 dX10_meant_80 rfl ?_
            refine g_zast C 82 ha_65 dX10_meant_81 rfl hz (fun S_26 hz => ?_)
            refine g_iinc C 85 3 [1, 2, 3, 0, 4] (1 : Int32) ci_1 (fun x3_27 => [(0, .ref (ad 34)), (1, .int x1), (2, .int x2), (3, .int x3_27), (4, .int x4)]) dX10_meant_82 rfl rfl (by decide) (fun x3_27 => rfl) hz (fun x3_27 hz => ?_)
            refine g_goto C 196 dX10_meant_85 rfl ?_
            refine g_iinc C 199 4 [1, 2, 3, 4, 0] (1 : Int32) ci_1 (fun x4_28 => [(0, .ref (ad 34)), (1, .int x1), (2, .int x2), (3, .int x3_27), (4, .int x4_28)]) dX10_meant_196 rfl rfl (by decide) (fun x4_28 => rfl) hz (fun x4_28 hz => ?_)
            refine g_goto C 5 dX10_meant_199 rfl ?_
            exact ih x1 x2 x3_27 x4_28 S_26 hz
          · refine g_iconst C 77 (1 : Int32) ci_1 dX10_meant_76 rfl ?_
            refine g_goto C 81 dX10_meant_77 rfl ?_
            refine g_zast C 82 ha_65 dX10_meant_81 rfl hz (fun S_29 hz => ?_)
            refine g_iinc C 85 3 [1, 2, 3, 0, 4] (1 : Int32) ci_1 (fun x3_30 => [(0, .ref (ad 34)), (1, .int x1), (2, .int x2), (3, .int x3_30), (4, .int x4)]) dX10_meant_82 rfl rfl (by decide) (fun x3_30 => rfl) hz (fun x3_30 hz => ?_)
            refine g_goto C 196 dX10_meant_85 rfl ?_
            refine g_iinc C 199 4 [1, 2, 3, 4, 0] (1 : Int32) ci_1 (fun x4_31 => [(0, .ref (ad 34)), (1, .int x1), (2, .int x2), (3, .int x3_30), (4, .int x4_31)]) dX10_meant_196 rfl rfl (by decide) (fun x4_31 => rfl) hz (fun x4_31 hz => ?_)
            refine g_goto C 5 dX10_meant_199 rfl ?_
            exact ih x1 x2 x3_30 x4_31 S_29 hz
        · refine g_aload_n C 38 0 rfl dX10_meant_37 rfl ?_
          refine gf_10_24 C 41 dX10_meant_38 rfl ?_
          refine g_iload C 43 5 rfl dX10_meant_41 rfl ?_
          refine g_zald C 44 ha_38 dX10_meant_43 rfl hz (fun hz => ?_)
          refine g_goto C 81 dX10_meant_44 rfl ?_
          refine g_zast C 82 ha_65 dX10_meant_81 rfl hz (fun S_32 hz => ?_)
          refine g_iinc C 85 3 [1, 2, 3, 0, 4] (1 : Int32) ci_1 (fun x3_33 => [(0, .ref (ad 34)), (1, .int x1), (2, .int x2), (3, .int x3_33), (4, .int x4)]) dX10_meant_82 rfl rfl (by decide) (fun x3_33 => rfl) hz (fun x3_33 hz => ?_)
          refine g_goto C 196 dX10_meant_85 rfl ?_
          refine g_iinc C 199 4 [1, 2, 3, 4, 0] (1 : Int32) ci_1 (fun x4_34 => [(0, .ref (ad 34)), (1, .int x1), (2, .int x2), (3, .int x3_33), (4, .int x4_34)]) dX10_meant_196 rfl rfl (by decide) (fun x4_34 => rfl) hz (fun x4_34 hz => ?_)
          refine g_goto C 5 dX10_meant_199 rfl ?_
          exact ih x1 x2 x3_33 x4_34 S_32 hz
set_option maxRecDepth 20000 in
theorem t_X10_meant {p : Program} {l : Launch} {e : Env} {s : State} {m : MethodId} {args : Array Value} {below : List Frame} {meth : Method} {c : Code} {D : va_G} {cy : Nat → ClassId} {ad : Nat → Nat} {n : Nat} {A : Nat → Prop} (C : gC p s m args meth c cX10_meant 6 RX10 D cy ad n A) (hr : meth.sig.returnType = (some .boolean)) {z : Int32 × Sg} {S : Sg} {x1 : Int32} {x2 : Int32} (hz : f_X10_meant x1 x2 S = some z) : gW p l e rm_X10_meant s m args below meth c D cy ad n A 6 0 0 (MQ below (gQ D cy ad n A (some (.int z.1)) z.2) args s 0 0 A) S 0 [(0, .ref (ad 34)), (1, .int x1), (2, .int x2)] [] := by
  unfold f_X10_meant at hz
  refine g_iconst C 1 (0 : Int32) ci_0 dX10_meant_0 rfl ?_
  refine g_istore_n C 2 (i := 3) [1, 2, 3, 0] (fun x3_1 => [(0, .ref (ad 34)), (1, .int x1), (2, .int x2), (3, .int x3_1)]) dX10_meant_1 rfl rfl (by decide) (fun x3_1 => rfl) hz (fun x3_1 hz => ?_)
  refine g_iconst C 3 (0 : Int32) ci_0 dX10_meant_2 rfl ?_
  refine g_istore C 5 (i := 4) [1, 2, 3, 4, 0] (fun x4_2 => [(0, .ref (ad 34)), (1, .int x1), (2, .int x2), (3, .int x3_1), (4, .int x4_2)]) dX10_meant_3 rfl (by decide) (fun x4_2 => rfl) hz (fun x4_2 hz => ?_)
  exact (t_X10_meant_L5 C hr fu) x1 x2 x3_1 x4_2 S hz
theorem c_X10_meant (l : Launch) (D : va_G) (cy : Nat → ClassId) (ad : Nat → Nat) (n : Nat) (S : Sg) (sz : Nat) (x1 : Int32) (x2 : Int32) (z : Int32 × Sg) (hz : f_X10_meant x1 x2 S = some z) : Met l yX10_meant (.code yX10_meant cX10_meant 6 (some .boolean) :: wsAll) rm_X10_meant (gPc D cy ad n S sz [.ref (ad 34), .int x1, .int x2]) (gQ D cy ad n (va_A (wW cy ad n S) sz) (some (.int z.1)) z.2) 0 0 (va_A (wW cy ad n S) sz) := by
  refine gMet (lv := [(0, .ref (ad 34)), (1, .int x1), (2, .int x2)]) (by decide) (Nat.le_of_ble_eq_true rfl) rfl ?_
  intro p e s m args below meth c A hA hr C
  exact t_X10_meant C hr hz
def rm_X10_makes : Room := { frames := 0, cells := 0, slots := 0, locals := 0 }
set_option maxRecDepth 20000 in
theorem t_X10_makes_L122 {p : Program} {l : Launch} {e : Env} {s : State} {m : MethodId} {args : Array Value} {below : List Frame} {meth : Method} {c : Code} {D : va_G} {cy : Nat → ClassId} {ad : Nat → Nat} {n : Nat} {A : Nat → Prop} (C : gC p s m args meth c cX10_makes 8 RX10 D cy ad n A) (hr : meth.sig.returnType = none) {z : Sg} {k3 : Int32 → Int32 → Int32 → Int32 → Sg → Option (Sg)} (hk3 : ∀ (x1 : Int32) (x2 : Int32) (x3 : Int32) (x4 : Int32) (S : Sg), k3 x1 x2 x3 x4 S = some z → gW p l e rm_X10_makes s m args below meth c D cy ad n A 8 0 0 (MQ below (gQ D cy ad n A none z) args s 0 0 A) S 3 [(0, .ref (ad 34)), (1, .int x1), (2, .int x2), (3, .int x3), (4, .int x4)] []) : ∀ (fl : Nat) (x1 : Int32) (x2 : Int32) (x3 : Int32) (x4 : Int32) (x5 : Int32) (x7 : Int32) (S : Sg), f_X10_makes_L122 k3 fl x1 x2 x3 x4 x5 x7 S = some z → gW p l e rm_X10_makes s m args below meth c D cy ad n A 8 0 0 (MQ below (gQ D cy ad n A none z) args s 0 0 A) S 122 [(0, .ref (ad 34)), (1, .int x1), (2, .int x2), (3, .int x3), (4, .int x4), (5, .int x5), (7, .int x7)] [] := by
  intro fl
  induction fl with
  | zero =>
    intro x1 x2 x3 x4 x5 x7 S hz
    rw [f_X10_makes_L122] at hz
    cases hz
  | succ fl ih =>
    intro x1 x2 x3 x4 x5 x7 S hz
    rw [f_X10_makes_L122] at hz
    refine g_iload C 124 6 rfl dX10_makes_122 rfl ?_
    refine g_aload_n C 125 0 rfl dX10_makes_124 rfl ?_
    refine gf_10_20 C 128 dX10_makes_125 rfl ?_
    refine g_iload C 130 4 rfl dX10_makes_128 rfl ?_
    refine g_iald C 131 ha_37 dX10_makes_130 rfl hz (fun hz => ?_)
    refine g_icmp_ge C 186 134 dX10_makes_131 rfl rfl hz (fun hz => ?_) (fun hz => ?_)
    · refine g_iinc C 189 4 [1, 2, 3, 4, 0] (1 : Int32) ci_1 (fun x4_7 => [(0, .ref (ad 34)), (1, .int x1), (2, .int x2), (3, .int x3), (4, .int x4_7)]) dX10_makes_186 rfl rfl (by decide) (fun x4_7 => rfl) hz (fun x4_7 hz => ?_)
      refine g_goto C 3 dX10_makes_189 rfl ?_
      exact hk3 x1 x2 x3 x4_7 S hz
    · refine g_iload C 136 5 rfl dX10_makes_134 rfl ?_
      refine g_iload C 138 6 rfl dX10_makes_136 rfl ?_
      refine g_ishr C 139 dX10_makes_138 rfl ?_
      refine g_iconst C 140 (1 : Int32) ci_1 dX10_makes_139 rfl ?_
      refine g_iand C 141 dX10_makes_140 rfl ?_
      refine g_iconst C 142 (1 : Int32) ci_1 dX10_makes_141 rfl ?_
      refine g_icmp_ne C 180 145 dX10_makes_142 rfl rfl hz (fun hz => ?_) (fun hz => ?_)
      · refine g_iinc C 183 6 [1, 2, 3, 4, 5, 6, 0] (1 : Int32) ci_1 (fun x7_8 => [(0, .ref (ad 34)), (1, .int x1), (2, .int x2), (3, .int x3), (4, .int x4), (5, .int x5), (7, .int x7_8)]) dX10_makes_180 rfl rfl (by decide) (fun x7_8 => rfl) hz (fun x7_8 hz => ?_)
        refine g_goto C 122 dX10_makes_183 rfl ?_
        exact ih x1 x2 x3 x4 x5 x7_8 S hz
      · refine g_aload_n C 146 0 rfl dX10_makes_145 rfl ?_
        refine gf_10_34 C 149 dX10_makes_146 rfl ?_
        refine g_bipush C 151 (30 : Int32) cb_30 dX10_makes_149 rfl ?_
        refine g_iload C 153 4 rfl dX10_makes_151 rfl ?_
        refine g_imul C 154 dX10_makes_153 rfl ?_
        refine g_iload C 156 6 rfl dX10_makes_154 rfl ?_
        refine g_iadd C 157 dX10_makes_156 rfl ?_
        refine g_iald C 158 ha_41 dX10_makes_157 rfl hz (fun hz => ?_)
        refine g_iload_n C 159 3 rfl dX10_makes_158 rfl ?_
        refine g_ishr C 160 dX10_makes_159 rfl ?_
        refine g_iconst C 161 (1 : Int32) ci_1 dX10_makes_160 rfl ?_
        refine g_iand C 162 dX10_makes_161 rfl ?_
        refine g_iconst C 163 (1 : Int32) ci_1 dX10_makes_162 rfl ?_
        refine g_icmp_ne C 180 166 dX10_makes_163 rfl rfl hz (fun hz => ?_) (fun hz => ?_)
        · refine g_iinc C 183 6 [1, 2, 3, 4, 5, 6, 0] (1 : Int32) ci_1 (fun x7_9 => [(0, .ref (ad 34)), (1, .int x1), (2, .int x2), (3, .int x3), (4, .int x4), (5, .int x5), (7, .int x7_9)]) dX10_makes_180 rfl rfl (by decide) (fun x7_9 => rfl) hz (fun x7_9 hz => ?_)
          refine g_goto C 122 dX10_makes_183 rfl ?_
          exact ih x1 x2 x3 x4 x5 x7_9 S hz
        · refine g_aload_n C 167 0 rfl dX10_makes_166 rfl ?_
          refine gf_10_109 C 170 dX10_makes_167 rfl ?_
          refine g_iload C 172 4 rfl dX10_makes_170 rfl ?_
          refine g_dup2 C 173 rfl rfl dX10_makes_172 rfl ?_
          refine g_iald C 174 ha_66 dX10_makes_173 rfl hz (fun hz => ?_)
          refine g_iconst C 175 (1 : Int32) ci_1 dX10_makes_174 rfl ?_
          refine g_iload C 177 6 rfl dX10_makes_175 rfl ?_
          refine g_ishl C 178 dX10_makes_177 rfl ?_
          refine g_ior C 179 dX10_makes_178 rfl ?_
          refine g_iast C 180 ha_66 dX10_makes_179 rfl hz (fun S_10 hz => ?_)
          refine g_iinc C 183 6 [1, 2, 3, 4, 5, 6, 0] (1 : Int32) ci_1 (fun x7_11 => [(0, .ref (ad 34)), (1, .int x1), (2, .int x2), (3, .int x3), (4, .int x4), (5, .int x5), (7, .int x7_11)]) dX10_makes_180 rfl rfl (by decide) (fun x7_11 => rfl) hz (fun x7_11 hz => ?_)
          refine g_goto C 122 dX10_makes_183 rfl ?_
          exact ih x1 x2 x3 x4 x5 x7_11 S_10 hz
set_option maxRecDepth 20000 in
theorem t_X10_makes_L60 {p : Program} {l : Launch} {e : Env} {s : State} {m : MethodId} {args : Array Value} {below : List Frame} {meth : Method} {c : Code} {D : va_G} {cy : Nat → ClassId} {ad : Nat → Nat} {n : Nat} {A : Nat → Prop} (C : gC p s m args meth c cX10_makes 8 RX10 D cy ad n A) (hr : meth.sig.returnType = none) {z : Sg} {k3 : Int32 → Int32 → Int32 → Int32 → Sg → Option (Sg)} (hk3 : ∀ (x1 : Int32) (x2 : Int32) (x3 : Int32) (x4 : Int32) (S : Sg), k3 x1 x2 x3 x4 S = some z → gW p l e rm_X10_makes s m args below meth c D cy ad n A 8 0 0 (MQ below (gQ D cy ad n A none z) args s 0 0 A) S 3 [(0, .ref (ad 34)), (1, .int x1), (2, .int x2), (3, .int x3), (4, .int x4)] []) : ∀ (fl : Nat) (x1 : Int32) (x2 : Int32) (x3 : Int32) (x4 : Int32) (x5 : Int32) (x6 : Int32) (x7 : Int32) (S : Sg), f_X10_makes_L60 k3 fl x1 x2 x3 x4 x5 x6 x7 S = some z → gW p l e rm_X10_makes s m args below meth c D cy ad n A 8 0 0 (MQ below (gQ D cy ad n A none z) args s 0 0 A) S 60 [(0, .ref (ad 34)), (1, .int x1), (2, .int x2), (3, .int x3), (4, .int x4), (5, .int x5), (6, .int x6), (7, .int x7)] [] := by
  intro fl
  induction fl with
  | zero =>
    intro x1 x2 x3 x4 x5 x6 x7 S hz
    rw [f_X10_makes_L60] at hz
    cases hz
  | succ fl ih =>
    intro x1 x2 x3 x4 x5 x6 x7 S hz
    rw [f_X10_makes_L60] at hz
    refine g_iload C 62 7 rfl dX10_makes_60 rfl ?_
    refine g_aload_n C 63 0 rfl dX10_makes_62 rfl ?_
    refine gf_10_20 C 66 dX10_makes_63 rfl ?_
    refine g_iload C 68 4 rfl dX10_makes_66 rfl ?_
    refine g_iald C 69 ha_37 dX10_makes_68 rfl hz (fun hz => ?_)
    refine g_icmp_ge C 111 72 dX10_makes_69 rfl rfl hz (fun hz => ?_) (fun hz => ?_)
    · refine g_aload_n C 112 0 rfl dX10_makes_111 rfl ?_
      refine gf_10_109 C 115 dX10_makes_112 rfl ?_
      refine g_iload C 117 4 rfl dX10_makes_115 rfl ?_
      refine g_iconst C 118 (0 : Int32) ci_0 dX10_makes_117 rfl ?_
      refine g_iast C 119 ha_66 dX10_makes_118 rfl hz (fun S_5 hz => ?_)
      refine g_iconst C 120 (0 : Int32) ci_0 dX10_makes_119 rfl ?_
      refine g_istore C 122 (i := 7) [1, 2, 3, 4, 5, 6, 0] (fun x7_6 => [(0, .ref (ad 34)), (1, .int x1), (2, .int x2), (3, .int x3), (4, .int x4), (5, .int x5), (7, .int x7_6)]) dX10_makes_120 rfl (by decide) (fun x7_6 => rfl) hz (fun x7_6 hz => ?_)
      exact (t_X10_makes_L122 C hr hk3 fu) x1 x2 x3 x4 x5 x7_6 S_5 hz
    · refine g_iload C 74 5 rfl dX10_makes_72 rfl ?_
      refine g_iload C 76 6 rfl dX10_makes_74 rfl ?_
      refine g_iload C 78 7 rfl dX10_makes_76 rfl ?_
      refine g_ishr C 79 dX10_makes_78 rfl ?_
      refine g_iconst C 80 (1 : Int32) ci_1 dX10_makes_79 rfl ?_
      refine g_iand C 81 dX10_makes_80 rfl ?_
      refine g_iconst C 82 (1 : Int32) ci_1 dX10_makes_81 rfl ?_
      refine g_icmp_ne C 101 85 dX10_makes_82 rfl rfl hz (fun hz => ?_) (fun hz => ?_)
      · refine g_iconst C 102 (0 : Int32) ci_0 dX10_makes_101 rfl ?_
        refine g_ior C 103 dX10_makes_102 rfl ?_
        refine g_istore C 105 (i := 5) [1, 2, 3, 4, 5, 0, 6, 7] (fun x5_12 => [(0, .ref (ad 34)), (1, .int x1), (2, .int x2), (3, .int x3), (4, .int x4), (5, .int x5_12), (6, .int x6), (7, .int x7)]) dX10_makes_103 rfl (by decide) (fun x5_12 => rfl) hz (fun x5_12 hz => ?_)
        refine g_iinc C 108 7 [1, 2, 3, 4, 5, 6, 7, 0] (1 : Int32) ci_1 (fun x7_13 => [(0, .ref (ad 34)), (1, .int x1), (2, .int x2), (3, .int x3), (4, .int x4), (5, .int x5_12), (6, .int x6), (7, .int x7_13)]) dX10_makes_105 rfl rfl (by decide) (fun x7_13 => rfl) hz (fun x7_13 hz => ?_)
        refine g_goto C 60 dX10_makes_108 rfl ?_
        exact ih x1 x2 x3 x4 x5_12 x6 x7_13 S hz
      · refine g_aload_n C 86 0 rfl dX10_makes_85 rfl ?_
        refine gf_10_37 C 89 dX10_makes_86 rfl ?_
        refine g_bipush C 91 (30 : Int32) cb_30 dX10_makes_89 rfl ?_
        refine g_iload C 93 4 rfl dX10_makes_91 rfl ?_
        refine g_imul C 94 dX10_makes_93 rfl ?_
        refine g_iload C 96 7 rfl dX10_makes_94 rfl ?_
        refine g_iadd C 97 dX10_makes_96 rfl ?_
        refine g_iald C 98 ha_42 dX10_makes_97 rfl hz (fun hz => ?_)
        refine g_goto C 102 dX10_makes_98 rfl ?_
        refine g_ior C 103 dX10_makes_102 rfl ?_
        refine g_istore C 105 (i := 5) [1, 2, 3, 4, 5, 0, 6, 7] (fun x5_14 => [(0, .ref (ad 34)), (1, .int x1), (2, .int x2), (3, .int x3), (4, .int x4), (5, .int x5_14), (6, .int x6), (7, .int x7)]) dX10_makes_103 rfl (by decide) (fun x5_14 => rfl) hz (fun x5_14 hz => ?_)
        refine g_iinc C 108 7 [1, 2, 3, 4, 5, 6, 7, 0] (1 : Int32) ci_1 (fun x7_15 => [(0, .ref (ad 34)), (1, .int x1), (2, .int x2), (3, .int x3), (4, .int x4), (5, .int x5_14), (6, .int x6), (7, .int x7_15)]) dX10_makes_105 rfl rfl (by decide) (fun x7_15 => rfl) hz (fun x7_15 hz => ?_)
        refine g_goto C 60 dX10_makes_108 rfl ?_
        exact ih x1 x2 x3 x4 x5_14 x6 x7_15 S hz
set_option maxRecDepth 20000 in
theorem t_X10_makes_L27 {p : Program} {l : Launch} {e : Env} {s : State} {m : MethodId} {args : Array Value} {below : List Frame} {meth : Method} {c : Code} {D : va_G} {cy : Nat → ClassId} {ad : Nat → Nat} {n : Nat} {A : Nat → Prop} (C : gC p s m args meth c cX10_makes 8 RX10 D cy ad n A) (hr : meth.sig.returnType = none) {z : Sg} {k3 : Int32 → Int32 → Int32 → Int32 → Sg → Option (Sg)} (hk3 : ∀ (x1 : Int32) (x2 : Int32) (x3 : Int32) (x4 : Int32) (S : Sg), k3 x1 x2 x3 x4 S = some z → gW p l e rm_X10_makes s m args below meth c D cy ad n A 8 0 0 (MQ below (gQ D cy ad n A none z) args s 0 0 A) S 3 [(0, .ref (ad 34)), (1, .int x1), (2, .int x2), (3, .int x3), (4, .int x4)] []) : ∀ (x1 : Int32) (x2 : Int32) (x3 : Int32) (x4 : Int32) (t0 : Int32) (S : Sg), f_X10_makes_L27 k3 x1 x2 x3 x4 t0 S = some z → gW p l e rm_X10_makes s m args below meth c D cy ad n A 8 0 0 (MQ below (gQ D cy ad n A none z) args s 0 0 A) S 27 [(0, .ref (ad 34)), (1, .int x1), (2, .int x2), (3, .int x3), (4, .int x4)] [.int t0] := by
  intro x1 x2 x3 x4 t0 S hz
  unfold f_X10_makes_L27 at hz
  refine g_istore C 29 (i := 5) [1, 2, 3, 4, 5, 0] (fun x5_2 => [(0, .ref (ad 34)), (1, .int x1), (2, .int x2), (3, .int x3), (4, .int x4), (5, .int x5_2)]) dX10_makes_27 rfl (by decide) (fun x5_2 => rfl) hz (fun x5_2 hz => ?_)
  refine g_iload_n C 30 2 rfl dX10_makes_29 rfl ?_
  refine g_if_ne C 37 33 dX10_makes_30 rfl rfl hz (fun hz => ?_) (fun hz => ?_)
  · refine g_aload_n C 38 0 rfl dX10_makes_37 rfl ?_
    refine gf_10_61 C 41 dX10_makes_38 rfl ?_
    refine g_bipush C 43 (6 : Int32) cb_6 dX10_makes_41 rfl ?_
    refine g_sipush C 46 (150 : Int32) cs_150 dX10_makes_43 rfl ?_
    refine g_iload_n C 47 1 rfl dX10_makes_46 rfl ?_
    refine g_imul C 48 dX10_makes_47 rfl ?_
    refine g_iload_n C 49 2 rfl dX10_makes_48 rfl ?_
    refine g_iadd C 50 dX10_makes_49 rfl ?_
    refine g_imul C 51 dX10_makes_50 rfl ?_
    refine g_iload C 53 4 rfl dX10_makes_51 rfl ?_
    refine g_iadd C 54 dX10_makes_53 rfl ?_
    refine g_iald C 55 ha_50 dX10_makes_54 rfl hz (fun hz => ?_)
    refine g_istore C 57 (i := 6) [1, 2, 3, 4, 5, 6, 0] (fun x6_3 => [(0, .ref (ad 34)), (1, .int x1), (2, .int x2), (3, .int x3), (4, .int x4), (5, .int x5_2), (6, .int x6_3)]) dX10_makes_55 rfl (by decide) (fun x6_3 => rfl) hz (fun x6_3 hz => ?_)
    refine g_iconst C 58 (0 : Int32) ci_0 dX10_makes_57 rfl ?_
    refine g_istore C 60 (i := 7) [1, 2, 3, 4, 5, 6, 7, 0] (fun x7_4 => [(0, .ref (ad 34)), (1, .int x1), (2, .int x2), (3, .int x3), (4, .int x4), (5, .int x5_2), (6, .int x6_3), (7, .int x7_4)]) dX10_makes_58 rfl (by decide) (fun x7_4 => rfl) hz (fun x7_4 hz => ?_)
    exact (t_X10_makes_L60 C hr hk3 fu) x1 x2 x3 x4 x5_2 x6_3 x7_4 S hz
  · refine g_iconst C 34 (0 : Int32) ci_0 dX10_makes_33 rfl ?_
    refine g_goto C 55 dX10_makes_34 rfl ?_
    refine g_istore C 57 (i := 6) [1, 2, 3, 4, 5, 6, 0] (fun x6_16 => [(0, .ref (ad 34)), (1, .int x1), (2, .int x2), (3, .int x3), (4, .int x4), (5, .int x5_2), (6, .int x6_16)]) dX10_makes_55 rfl (by decide) (fun x6_16 => rfl) hz (fun x6_16 hz => ?_)
    refine g_iconst C 58 (0 : Int32) ci_0 dX10_makes_57 rfl ?_
    refine g_istore C 60 (i := 7) [1, 2, 3, 4, 5, 6, 7, 0] (fun x7_17 => [(0, .ref (ad 34)), (1, .int x1), (2, .int x2), (3, .int x3), (4, .int x4), (5, .int x5_2), (6, .int x6_16), (7, .int x7_17)]) dX10_makes_58 rfl (by decide) (fun x7_17 => rfl) hz (fun x7_17 hz => ?_)
    exact (t_X10_makes_L60 C hr hk3 fu) x1 x2 x3 x4 x5_2 x6_16 x7_17 S hz
set_option maxRecDepth 20000 in
theorem t_X10_makes_L3 {p : Program} {l : Launch} {e : Env} {s : State} {m : MethodId} {args : Array Value} {below : List Frame} {meth : Method} {c : Code} {D : va_G} {cy : Nat → ClassId} {ad : Nat → Nat} {n : Nat} {A : Nat → Prop} (C : gC p s m args meth c cX10_makes 8 RX10 D cy ad n A) (hr : meth.sig.returnType = none) {z : Sg} : ∀ (fl : Nat) (x1 : Int32) (x2 : Int32) (x3 : Int32) (x4 : Int32) (S : Sg), f_X10_makes_L3 fl x1 x2 x3 x4 S = some z → gW p l e rm_X10_makes s m args below meth c D cy ad n A 8 0 0 (MQ below (gQ D cy ad n A none z) args s 0 0 A) S 3 [(0, .ref (ad 34)), (1, .int x1), (2, .int x2), (3, .int x3), (4, .int x4)] [] := by
  intro fl
  induction fl with
  | zero =>
    intro x1 x2 x3 x4 S hz
    rw [f_X10_makes_L3] at hz
    cases hz
  | succ fl ih =>
    intro x1 x2 x3 x4 S hz
    rw [f_X10_makes_L3] at hz
    refine g_iload C 5 4 rfl dX10_makes_3 rfl ?_
    refine g_aload_n C 6 0 rfl dX10_makes_5 rfl ?_
    refine gf_10_188 C 9 dX10_makes_6 rfl ?_
    refine g_icmp_ge C 192 12 dX10_makes_9 rfl rfl hz (fun hz => ?_) (fun hz => ?_)
    · exact g_vret C hr dX10_makes_192 hz
    · refine g_iload_n C 13 2 rfl dX10_makes_12 rfl ?_
      refine g_if_ne C 26 16 dX10_makes_13 rfl rfl hz (fun hz => ?_) (fun hz => ?_)
      · refine g_iconst C 27 (0 : Int32) ci_0 dX10_makes_26 rfl ?_
        exact (t_X10_makes_L27 C hr ih) x1 x2 x3 x4 ((0 : Int32)) S hz
      · refine g_aload_n C 17 0 rfl dX10_makes_16 rfl ?_
        refine gf_10_28 C 20 dX10_makes_17 rfl ?_
        refine g_iload C 22 4 rfl dX10_makes_20 rfl ?_
        refine g_iald C 23 ha_39 dX10_makes_22 rfl hz (fun hz => ?_)
        refine g_goto C 27 dX10_makes_23 rfl ?_
        exact (t_X10_makes_L27 C hr ih) x1 x2 x3 x4 ((S.1 39 (Int32.toNatClampNeg x4))) S hz
set_option maxRecDepth 20000 in
theorem t_X10_makes {p : Program} {l : Launch} {e : Env} {s : State} {m : MethodId} {args : Array Value} {below : List Frame} {meth : Method} {c : Code} {D : va_G} {cy : Nat → ClassId} {ad : Nat → Nat} {n : Nat} {A : Nat → Prop} (C : gC p s m args meth c cX10_makes 8 RX10 D cy ad n A) (hr : meth.sig.returnType = none) {z : Sg} {S : Sg} {x1 : Int32} {x2 : Int32} {x3 : Int32} (hz : f_X10_makes x1 x2 x3 S = some z) : gW p l e rm_X10_makes s m args below meth c D cy ad n A 8 0 0 (MQ below (gQ D cy ad n A none z) args s 0 0 A) S 0 [(0, .ref (ad 34)), (1, .int x1), (2, .int x2), (3, .int x3)] [] := by
  unfold f_X10_makes at hz
  refine g_iconst C 1 (0 : Int32) ci_0 dX10_makes_0 rfl ?_
  refine g_istore C 3 (i := 4) [1, 2, 3, 4, 0] (fun x4_1 => [(0, .ref (ad 34)), (1, .int x1), (2, .int x2), (3, .int x3), (4, .int x4_1)]) dX10_makes_1 rfl (by decide) (fun x4_1 => rfl) hz (fun x4_1 hz => ?_)
  exact (t_X10_makes_L3 C hr fu) x1 x2 x3 x4_1 S hz
theorem c_X10_makes (l : Launch) (D : va_G) (cy : Nat → ClassId) (ad : Nat → Nat) (n : Nat) (S : Sg) (sz : Nat) (x1 : Int32) (x2 : Int32) (x3 : Int32) (z : Sg) (hz : f_X10_makes x1 x2 x3 S = some z) : Met l yX10_makes (.code yX10_makes cX10_makes 8 none :: wsAll) rm_X10_makes (gPc D cy ad n S sz [.ref (ad 34), .int x1, .int x2, .int x3]) (gQ D cy ad n (va_A (wW cy ad n S) sz) none z) 0 0 (va_A (wW cy ad n S) sz) := by
  refine gMet (lv := [(0, .ref (ad 34)), (1, .int x1), (2, .int x2), (3, .int x3)]) (by decide) (Nat.le_of_ble_eq_true rfl) rfl ?_
  intro p e s m args below meth c A hA hr C
  exact t_X10_makes C hr hz
