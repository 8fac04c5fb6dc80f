def rm_X6_part (rg0 : Room) : Room := { frames := rg0.frames + 1, cells := 0, slots := 0, locals := rg0.locals + 25 }
theorem wl_6_112 : Cond.methodLink RX6 112 yX6_row ∈ wsAll := wA 300 (by decide +kernel) (by decide +kernel)
theorem wi_X6_row : Cond.instanceMethod yX6_row ∈ wsAll := wA 302 (by decide +kernel) (by decide +kernel)
theorem we_X6_row : Cond.selects RX6 yX6_row yX6_row ∈ wsAll := wAp 10 (by decide +kernel) (by decide +kernel)
theorem wo_X6_row : Cond.code yX6_row cX6_row 6 none ∈ wsAll := wA 303 (by decide +kernel) (by decide +kernel)
theorem clr_6_112 {p : Program} {l : Launch} {e : Env} {R : Room} {s : State} {m : MethodId} {args : Array Value} {below : List Frame} {meth : Method} {c : Code} {cc : ByteArray} {nL : Nat} {D : va_G} {cy : Nat → ClassId} {ad : Nat → Nat} {n : Nat} {A : Nat → Prop} {mc ms : Nat} {Q : State → Prop} {S : Sg} {pc : Nat} {lv : List (Nat × Value)} {st : List Value} {ζ : Type} {z : ζ} (C : gC p s m args meth c cc nL RX6 D cy ad n A) (nx : Nat) {x1 : Int32} {g : Int32 → Sg → Option (Sg)} {rg : Room} (hrc : rg.cells = 0) (hrs : rg.slots = 0) (hg : ∀ (S : Sg) (sz : Nat) (x1 : Int32) (z : Sg), g x1 S = some z → Met l yX6_row (.code yX6_row cX6_row 6 none :: wsAll) rg (gPc D cy ad n S sz [.ref (ad 3), .int x1]) (gQ D cy ad n (va_A (wW cy ad n S) sz) none z) 0 0 (va_A (wW cy ad n S) sz)) (hR : Room.frames rg + 1 ≤ R.frames ∧ 8 + (6 + 11) + Room.locals rg ≤ R.locals) (hcm : mc ≤ R.cells ∧ ms ≤ R.slots) (hrest : (st.map fun v => v.category).sum ≤ 8) (hd : decode cc pc = .ok (.invokevirtual 112, 3)) (hn : pc + 3 = nx) {K : Sg → Option ζ} (hz : bd (g x1 S) K = some z) (kk : ∀ S', K S' = some z → gW p l e R s m args below meth c D cy ad n A nL mc ms Q S' nx lv st) : gW p l e R s m args below meth c D cy ad n A nL mc ms Q S pc lv (.int x1 :: .ref (ad 3) :: st) := by
  obtain ⟨q, hq, hk⟩ := bd_s hz
  exact g_callV C (i := 3) (ci := 6) (Cn := RX6) (T := TX6) (N := 9) (y := yX6_row) (rm := rg) (As := [.int x1]) (rest := st) (na := 1) (fun sz => hg S sz x1 q hq) ha_3 rfl rfl wl_6_112 wi_X6_row we_X6_row wz_6 wo_X6_row (by decide +kernel) hrc hrs hR hcm rfl hrest hn hd (kk q hk)
set_option maxRecDepth 20000 in
theorem t_X6_part_L24 {p : Program} {l : Launch} {e : Env} {s : State} {m : MethodId} {args : Array Value} {below : List Frame} {meth : Method} {c : Code} {D : va_G} {cy : Nat → ClassId} {ad : Nat → Nat} {n : Nat} {A : Nat → Prop} {g0 : Int32 → Sg → Option (Sg)} {rg0 : Room} (hcg0 : rg0.cells = 0) (hsg0 : rg0.slots = 0) (hg0 : ∀ (S : Sg) (sz : Nat) (x1 : Int32) (z : Sg), g0 x1 S = some z → Met l yX6_row (.code yX6_row cX6_row 6 none :: wsAll) rg0 (gPc D cy ad n S sz [.ref (ad 3), .int x1]) (gQ D cy ad n (va_A (wW cy ad n S) sz) none z) 0 0 (va_A (wW cy ad n S) sz)) (C : gC p s m args meth c cX6_part 6 RX6 D cy ad n A) (hr : meth.sig.returnType = none) {z : Sg} : ∀ (fl : Nat) (x1 : Int32) (x2 : Int32) (x3 : Int32) (x4 : Int32) (x5 : Int32) (S : Sg), f_X6_part_L24 g0 fl x1 x2 x3 x4 x5 S = some z → gW p l e (rm_X6_part rg0) s m args below meth c D cy ad n A 6 0 0 (MQ below (gQ D cy ad n A none z) args s 0 0 A) S 24 [(0, .ref (ad 3)), (1, .int x1), (2, .int x2), (3, .int x3), (4, .int x4), (5, .int x5)] [] := by
  intro fl
  induction fl with
  | zero =>
    intro x1 x2 x3 x4 x5 S hz
    rw [f_X6_part_L24] at hz
    cases hz
  | succ fl ih =>
    intro x1 x2 x3 x4 x5 S hz
    rw [f_X6_part_L24] at hz
    refine g_iload C 26 5 rfl dX6_part_24 rfl ?_
    refine g_aload_n C 27 0 rfl dX6_part_26 rfl ?_
    refine gf_6_15 C 30 dX6_part_27 rfl ?_
    refine g_icmp_ge C 96 33 dX6_part_30 rfl rfl hz (fun hz => ?_) (fun hz => ?_)
    · refine g_aload_n C 97 0 rfl dX6_part_96 rfl ?_
      refine g_iload_n C 98 2 rfl dX6_part_97 rfl ?_
      refine g_iload_n C 99 3 rfl dX6_part_98 rfl ?_
      refine g_iload C 101 4 rfl dX6_part_99 rfl ?_
      refine cl_6_115 C 104 ⟨Nat.le_trans (Nat.le_of_ble_eq_true rfl : Room.frames rm_X6_setPiece + 1 ≤ 1) (Nat.le_add_left _ _), Nat.le_trans (Nat.le_of_ble_eq_true rfl : 8 + (4 + 11) + Room.locals rm_X6_setPiece ≤ 25) (Nat.le_add_left _ _)⟩ ⟨Nat.zero_le _, Nat.zero_le _⟩ (Nat.le_of_ble_eq_true rfl) dX6_part_101 rfl hz (fun S_6 hz => ?_)
      exact g_vret C hr dX6_part_104 hz
    · refine g_aload_n C 34 0 rfl dX6_part_33 rfl ?_
      refine cl_6_75 C 37 ⟨Nat.le_trans (Nat.le_of_ble_eq_true rfl : Room.frames rm_X6_sign + 1 ≤ 1) (Nat.le_add_left _ _), Nat.le_trans (Nat.le_of_ble_eq_true rfl : 8 + (1 + 11) + Room.locals rm_X6_sign ≤ 25) (Nat.le_add_left _ _)⟩ ⟨Nat.zero_le _, Nat.zero_le _⟩ (Nat.le_of_ble_eq_true rfl) dX6_part_34 rfl hz (fun r_8 S_7 hz => ?_)
      refine g_bipush C 39 (124 : Int32) cb_124 dX6_part_37 rfl ?_
      refine g_icmp_ne C 96 42 dX6_part_39 rfl rfl hz (fun hz => ?_) (fun hz => ?_)
      · refine g_aload_n C 97 0 rfl dX6_part_96 rfl ?_
        refine g_iload_n C 98 2 rfl dX6_part_97 rfl ?_
        refine g_iload_n C 99 3 rfl dX6_part_98 rfl ?_
        refine g_iload C 101 4 rfl dX6_part_99 rfl ?_
        refine cl_6_115 C 104 ⟨Nat.le_trans (Nat.le_of_ble_eq_true rfl : Room.frames rm_X6_setPiece + 1 ≤ 1) (Nat.le_add_left _ _), Nat.le_trans (Nat.le_of_ble_eq_true rfl : 8 + (4 + 11) + Room.locals rm_X6_setPiece ≤ 25) (Nat.le_add_left _ _)⟩ ⟨Nat.zero_le _, Nat.zero_le _⟩ (Nat.le_of_ble_eq_true rfl) dX6_part_101 rfl hz (fun S_9 hz => ?_)
        exact g_vret C hr dX6_part_104 hz
      · refine g_aload_n C 43 0 rfl dX6_part_42 rfl ?_
        refine g_dup C 44 rfl dX6_part_43 rfl ?_
        refine gf_6_19 C 47 dX6_part_44 rfl ?_
        refine g_iconst C 48 (1 : Int32) ci_1 dX6_part_47 rfl ?_
        refine g_iadd C 49 dX6_part_48 rfl ?_
        refine pf_6_19 C 52 dX6_part_49 rfl hz (fun S_10 hz => ?_)
        refine g_aload_n C 53 0 rfl dX6_part_52 rfl ?_
        refine g_iload_n C 54 1 rfl dX6_part_53 rfl ?_
        refine clr_6_112 C 57 hcg0 hsg0 hg0 ⟨Nat.add_le_add_left (by decide) _, by show 8 + (6 + 11) + Room.locals rg0 ≤ Room.locals rg0 + 25; omega⟩ ⟨Nat.zero_le _, Nat.zero_le _⟩ (Nat.le_of_ble_eq_true rfl) dX6_part_54 rfl hz (fun S_11 hz => ?_)
        refine g_iload_n C 58 2 rfl dX6_part_57 rfl ?_
        refine g_aload_n C 59 0 rfl dX6_part_58 rfl ?_
        refine gf_6_35 C 62 dX6_part_59 rfl ?_
        refine g_ior C 63 dX6_part_62 rfl ?_
        refine g_istore_n C 64 (i := 2) [1, 2, 0, 3, 4, 5] (fun x2_12 => [(0, .ref (ad 3)), (1, .int x1), (2, .int x2_12), (3, .int x3), (4, .int x4), (5, .int x5)]) dX6_part_63 rfl rfl (by decide) (fun x2_12 => rfl) hz (fun x2_12 hz => ?_)
        refine g_iload_n C 65 3 rfl dX6_part_64 rfl ?_
        refine g_aload_n C 66 0 rfl dX6_part_65 rfl ?_
        refine gf_6_38 C 69 dX6_part_66 rfl ?_
        refine g_ior C 70 dX6_part_69 rfl ?_
        refine g_istore_n C 71 (i := 3) [1, 2, 3, 0, 4, 5] (fun x3_13 => [(0, .ref (ad 3)), (1, .int x1), (2, .int x2_12), (3, .int x3_13), (4, .int x4), (5, .int x5)]) dX6_part_70 rfl rfl (by decide) (fun x3_13 => rfl) hz (fun x3_13 hz => ?_)
        refine g_iload C 73 4 rfl dX6_part_71 rfl ?_
        refine g_if_ne C 83 76 dX6_part_73 rfl rfl hz (fun hz => ?_) (fun hz => ?_)
        · refine g_iconst C 84 (1 : Int32) ci_1 dX6_part_83 rfl ?_
          refine g_goto C 88 dX6_part_84 rfl ?_
          refine g_istore C 90 (i := 4) [1, 2, 3, 4, 0, 5] (fun x4_14 => [(0, .ref (ad 3)), (1, .int x1), (2, .int x2_12), (3, .int x3_13), (4, .int x4_14), (5, .int x5)]) dX6_part_88 rfl (by decide) (fun x4_14 => rfl) hz (fun x4_14 hz => ?_)
          refine g_iinc C 93 5 [1, 2, 3, 4, 5, 0] (1 : Int32) ci_1 (fun x5_15 => [(0, .ref (ad 3)), (1, .int x1), (2, .int x2_12), (3, .int x3_13), (4, .int x4_14), (5, .int x5_15)]) dX6_part_90 rfl rfl (by decide) (fun x5_15 => rfl) hz (fun x5_15 hz => ?_)
          refine g_goto C 24 dX6_part_93 rfl ?_
          exact ih x1 x2_12 x3_13 x4_14 x5_15 S_11 hz
        · refine g_aload_n C 77 0 rfl dX6_part_76 rfl ?_
          refine gf_6_41 C 80 dX6_part_77 rfl ?_
          refine g_if_eq C 87 83 dX6_part_80 rfl rfl hz (fun hz => ?_) (fun hz => ?_)
          · refine g_iconst C 88 (0 : Int32) ci_0 dX6_part_87 rfl ?_
            refine g_istore C 90 (i := 4) [1, 2, 3, 4, 0, 5] (fun x4_16 => [(0, .ref (ad 3)), (1, .int x1), (2, .int x2_12), (3, .int x3_13), (4, .int x4_16), (5, .int x5)]) dX6_part_88 rfl (by decide) (fun x4_16 => rfl) hz (fun x4_16 hz => ?_)
            refine g_iinc C 93 5 [1, 2, 3, 4, 5, 0] (1 : Int32) ci_1 (fun x5_17 => [(0, .ref (ad 3)), (1, .int x1), (2, .int x2_12), (3, .int x3_13), (4, .int x4_16), (5, .int x5_17)]) dX6_part_90 rfl rfl (by decide) (fun x5_17 => rfl) hz (fun x5_17 hz => ?_)
            refine g_goto C 24 dX6_part_93 rfl ?_
            exact ih x1 x2_12 x3_13 x4_16 x5_17 S_11 hz
          · refine g_iconst C 84 (1 : Int32) ci_1 dX6_part_83 rfl ?_
            refine g_goto C 88 dX6_part_84 rfl ?_
            refine g_istore C 90 (i := 4) [1, 2, 3, 4, 0, 5] (fun x4_18 => [(0, .ref (ad 3)), (1, .int x1), (2, .int x2_12), (3, .int x3_13), (4, .int x4_18), (5, .int x5)]) dX6_part_88 rfl (by decide) (fun x4_18 => rfl) hz (fun x4_18 hz => ?_)
            refine g_iinc C 93 5 [1, 2, 3, 4, 5, 0] (1 : Int32) ci_1 (fun x5_19 => [(0, .ref (ad 3)), (1, .int x1), (2, .int x2_12), (3, .int x3_13), (4, .int x4_18), (5, .int x5_19)]) dX6_part_90 rfl rfl (by decide) (fun x5_19 => rfl) hz (fun x5_19 hz => ?_)
            refine g_goto C 24 dX6_part_93 rfl ?_
            exact ih x1 x2_12 x3_13 x4_18 x5_19 S_11 hz
set_option maxRecDepth 20000 in
theorem t_X6_part {p : Program} {l : Launch} {e : Env} {s : State} {m : MethodId} {args : Array Value} {below : List Frame} {meth : Method} {c : Code} {D : va_G} {cy : Nat → ClassId} {ad : Nat → Nat} {n : Nat} {A : Nat → Prop} {g0 : Int32 → Sg → Option (Sg)} {rg0 : Room} (hcg0 : rg0.cells = 0) (hsg0 : rg0.slots = 0) (hg0 : ∀ (S : Sg) (sz : Nat) (x1 : Int32) (z : Sg), g0 x1 S = some z → Met l yX6_row (.code yX6_row cX6_row 6 none :: wsAll) rg0 (gPc D cy ad n S sz [.ref (ad 3), .int x1]) (gQ D cy ad n (va_A (wW cy ad n S) sz) none z) 0 0 (va_A (wW cy ad n S) sz)) (C : gC p s m args meth c cX6_part 6 RX6 D cy ad n A) (hr : meth.sig.returnType = none) {z : Sg} {S : Sg} {x1 : Int32} (hz : f_X6_part g0 x1 S = some z) : gW p l e (rm_X6_part rg0) s m args below meth c D cy ad n A 6 0 0 (MQ below (gQ D cy ad n A none z) args s 0 0 A) S 0 [(0, .ref (ad 3)), (1, .int x1)] [] := by
  unfold f_X6_part at hz
  refine g_aload_n C 1 0 rfl dX6_part_0 rfl ?_
  refine g_iload_n C 2 1 rfl dX6_part_1 rfl ?_
  refine clr_6_112 C 5 hcg0 hsg0 hg0 ⟨Nat.add_le_add_left (by decide) _, by show 8 + (6 + 11) + Room.locals rg0 ≤ Room.locals rg0 + 25; omega⟩ ⟨Nat.zero_le _, Nat.zero_le _⟩ (Nat.le_of_ble_eq_true rfl) dX6_part_2 rfl hz (fun S_1 hz => ?_)
  refine g_aload_n C 6 0 rfl dX6_part_5 rfl ?_
  refine gf_6_35 C 9 dX6_part_6 rfl ?_
  refine g_istore_n C 10 (i := 2) [1, 2, 0] (fun x2_2 => [(0, .ref (ad 3)), (1, .int x1), (2, .int x2_2)]) dX6_part_9 rfl rfl (by decide) (fun x2_2 => rfl) hz (fun x2_2 hz => ?_)
  refine g_aload_n C 11 0 rfl dX6_part_10 rfl ?_
  refine gf_6_38 C 14 dX6_part_11 rfl ?_
  refine g_istore_n C 15 (i := 3) [1, 2, 3, 0] (fun x3_3 => [(0, .ref (ad 3)), (1, .int x1), (2, .int x2_2), (3, .int x3_3)]) dX6_part_14 rfl rfl (by decide) (fun x3_3 => rfl) hz (fun x3_3 hz => ?_)
  refine g_aload_n C 16 0 rfl dX6_part_15 rfl ?_
  refine gf_6_41 C 19 dX6_part_16 rfl ?_
  refine g_istore C 21 (i := 4) [1, 2, 3, 4, 0] (fun x4_4 => [(0, .ref (ad 3)), (1, .int x1), (2, .int x2_2), (3, .int x3_3), (4, .int x4_4)]) dX6_part_19 rfl (by decide) (fun x4_4 => rfl) hz (fun x4_4 hz => ?_)
  refine g_iconst C 22 (0 : Int32) ci_0 dX6_part_21 rfl ?_
  refine g_istore C 24 (i := 5) [1, 2, 3, 4, 5, 0] (fun x5_5 => [(0, .ref (ad 3)), (1, .int x1), (2, .int x2_2), (3, .int x3_3), (4, .int x4_4), (5, .int x5_5)]) dX6_part_22 rfl (by decide) (fun x5_5 => rfl) hz (fun x5_5 hz => ?_)
  exact (t_X6_part_L24 hcg0 hsg0 hg0 C hr fu) x1 x2_2 x3_3 x4_4 x5_5 S_1 hz
theorem c_X6_part {l : Launch} {D : va_G} {cy : Nat → ClassId} {ad : Nat → Nat} {n : Nat} {g0 : Int32 → Sg → Option (Sg)} {rg0 : Room} (hcg0 : rg0.cells = 0) (hsg0 : rg0.slots = 0) (hg0 : ∀ (S : Sg) (sz : Nat) (x1 : Int32) (z : Sg), g0 x1 S = some z → Met l yX6_row (.code yX6_row cX6_row 6 none :: wsAll) rg0 (gPc D cy ad n S sz [.ref (ad 3), .int x1]) (gQ D cy ad n (va_A (wW cy ad n S) sz) none z) 0 0 (va_A (wW cy ad n S) sz)) (S : Sg) (sz : Nat) (x1 : Int32) (z : Sg) (hz : f_X6_part g0 x1 S = some z) : Met l yX6_part (.code yX6_part cX6_part 6 none :: wsAll) (rm_X6_part rg0) (gPc D cy ad n S sz [.ref (ad 3), .int x1]) (gQ D cy ad n (va_A (wW cy ad n S) sz) none z) 0 0 (va_A (wW cy ad n S) sz) := by
  refine gMet (lv := [(0, .ref (ad 3)), (1, .int x1)]) (by decide) (Nat.le_of_ble_eq_true rfl) rfl ?_
  intro p e s m args below meth c A hA hr C
  exact t_X6_part hcg0 hsg0 hg0 C hr hz
def rm_X6_partR : Nat → Room
  | 0 => { frames := 0, cells := 0, slots := 0, locals := 0 }
  | d + 1 => rm_X6_part (rm_X6_row (rm_X6_item (rm_X6_atom (rm_X6_group (rm_X6_partR d)))))
theorem rm_X6_partR_z (d : Nat) : (rm_X6_partR d).cells = 0 ∧ (rm_X6_partR d).slots = 0 := by cases d <;> exact ⟨rfl, rfl⟩
theorem c_X6_partR (l : Launch) (D : va_G) (cy : Nat → ClassId) (ad : Nat → Nat) (n : Nat) : ∀ (d : Nat) (S : Sg) (sz : Nat) (x1 : Int32) (z : Sg), f_X6_partR d x1 S = some z → Met l yX6_part (.code yX6_part cX6_part 6 none :: wsAll) (rm_X6_partR d) (gPc D cy ad n S sz [.ref (ad 3), .int x1]) (gQ D cy ad n (va_A (wW cy ad n S) sz) none z) 0 0 (va_A (wW cy ad n S) sz) := by
  intro d
  induction d with
  | zero => intro S sz x1 z hz; cases hz
  | succ d ih =>
    intro S sz x1 z hz
    exact c_X6_part rfl rfl (c_X6_row rfl rfl (c_X6_item rfl rfl (c_X6_atom rfl rfl (c_X6_group (rm_X6_partR_z d).1 (rm_X6_partR_z d).2 ih)))) S sz x1 z hz
theorem c_X6_part0 (l : Launch) (D : va_G) (cy : Nat → ClassId) (ad : Nat → Nat) (n : Nat) (S : Sg) (sz : Nat) (x1 : Int32) (z : Sg) (hz : f_X6_partR 12 x1 S = some z) : Met l yX6_part (.code yX6_part cX6_part 6 none :: wsAll) (rm_X6_partR 12) (gPc D cy ad n S sz [.ref (ad 3), .int x1]) (gQ D cy ad n (va_A (wW cy ad n S) sz) none z) 0 0 (va_A (wW cy ad n S) sz) := c_X6_partR l D cy ad n 12 S sz x1 z hz
def rm_X6_joinedPart : Room := { frames := 109, cells := 0, slots := 0, locals := 2377 }
theorem wl_6_98 : Cond.methodLinkNest RX6 98 yX7_begin "WordMachines" ∈ tables_1 := List.mem_of_getElem? (i := 292) (by decide +kernel)
theorem wi_X7_begin : Cond.instanceMethod yX7_begin ∈ wsAll := wA 294 (by decide +kernel) (by decide +kernel)
theorem we_X7_begin : Cond.selects RX7 yX7_begin yX7_begin ∈ wsAll := wAp 8 (by decide +kernel) (by decide +kernel)
theorem wo_X7_begin : Cond.code yX7_begin cX7_begin 2 none ∈ wsAll := wA 295 (by decide +kernel) (by decide +kernel)
theorem cl_6_98 {p : Program} {l : Launch} {e : Env} {R : Room} {s : State} {m : MethodId} {args : Array Value} {below : List Frame} {meth : Method} {c : Code} {cc : ByteArray} {nL : Nat} {D : va_G} {cy : Nat → ClassId} {ad : Nat → Nat} {n : Nat} {A : Nat → Prop} {mc ms : Nat} {Q : State → Prop} {S : Sg} {pc : Nat} {lv : List (Nat × Value)} {st : List Value} {ζ : Type} {z : ζ} (C : gC p s m args meth c cc nL RX6 D cy ad n A) (nx : Nat) (hR : Room.frames rm_X7_begin + 1 ≤ R.frames ∧ 8 + (2 + 11) + Room.locals rm_X7_begin ≤ R.locals) (hcm : mc ≤ R.cells ∧ ms ≤ R.slots) (hrest : (st.map fun v => v.category).sum ≤ 8) (hd : decode cc pc = .ok (.invokevirtual 98, 3)) (hn : pc + 3 = nx) {K : Sg → Option ζ} (hz : bd (f_X7_begin S) K = some z) (kk : ∀ S', K S' = some z → gW p l e R s m args below meth c D cy ad n A nL mc ms Q S' nx lv st) : gW p l e R s m args below meth c D cy ad n A nL mc ms Q S pc lv (.ref (ad 5) :: st) := by
  obtain ⟨q, hq, hk⟩ := bd_s hz
  exact g_callVN C (i := 5) (ci := 7) (Cn := RX7) (T := TX7) (N := 8) (y := yX7_begin) (rm := rm_X7_begin) (As := []) (rest := st) (na := 0) (fun sz => c_X7_begin l D cy ad n S sz  q hq) ha_5 rfl rfl wl_6_98 wi_X7_begin we_X7_begin wz_7 wo_X7_begin (by decide +kernel) rfl rfl hR hcm rfl hrest hn hd (kk q hk)
theorem cl_6_101 {p : Program} {l : Launch} {e : Env} {R : Room} {s : State} {m : MethodId} {args : Array Value} {below : List Frame} {meth : Method} {c : Code} {cc : ByteArray} {nL : Nat} {D : va_G} {cy : Nat → ClassId} {ad : Nat → Nat} {n : Nat} {A : Nat → Prop} {mc ms : Nat} {Q : State → Prop} {S : Sg} {pc : Nat} {lv : List (Nat × Value)} {st : List Value} {ζ : Type} {z : ζ} (C : gC p s m args meth c cc nL RX6 D cy ad n A) (nx : Nat) {x1 : Int32} (hR : Room.frames (rm_X6_partR 12) + 1 ≤ R.frames ∧ 8 + (6 + 11) + Room.locals (rm_X6_partR 12) ≤ R.locals) (hcm : mc ≤ R.cells ∧ ms ≤ R.slots) (hrest : (st.map fun v => v.category).sum ≤ 8) (hd : decode cc pc = .ok (.invokevirtual 101, 3)) (hn : pc + 3 = nx) {K : Sg → Option ζ} (hz : bd (f_X6_partR 12 x1 S) K = some z) (kk : ∀ S', K S' = some z → gW p l e R s m args below meth c D cy ad n A nL mc ms Q S' nx lv st) : gW p l e R s m args below meth c D cy ad n A nL mc ms Q S pc lv (.int x1 :: .ref (ad 3) :: st) := by
  obtain ⟨q, hq, hk⟩ := bd_s hz
  exact g_callV C (i := 3) (ci := 6) (Cn := RX6) (T := TX6) (N := 9) (y := yX6_part) (rm := (rm_X6_partR 12)) (As := [.int x1]) (rest := st) (na := 1) (fun sz => c_X6_part0 l D cy ad n S sz x1 q hq) ha_3 rfl rfl wl_6_101 wi_X6_part we_X6_part wz_6 wo_X6_part (by decide +kernel) rfl rfl hR hcm rfl hrest hn hd (kk q hk)
theorem wl_6_104 : Cond.methodLinkNest RX6 104 yX7_end "WordMachines" ∈ tables_1 := List.mem_of_getElem? (i := 350) (by decide +kernel)
theorem wi_X7_end : Cond.instanceMethod yX7_end ∈ wsAll := wA 352 (by decide +kernel) (by decide +kernel)
theorem we_X7_end : Cond.selects RX7 yX7_end yX7_end ∈ wsAll := wAp 21 (by decide +kernel) (by decide +kernel)
theorem wo_X7_end : Cond.code yX7_end cX7_end 4 none ∈ wsAll := wA 353 (by decide +kernel) (by decide +kernel)
theorem cl_6_104 {p : Program} {l : Launch} {e : Env} {R : Room} {s : State} {m : MethodId} {args : Array Value} {below : List Frame} {meth : Method} {c : Code} {cc : ByteArray} {nL : Nat} {D : va_G} {cy : Nat → ClassId} {ad : Nat → Nat} {n : Nat} {A : Nat → Prop} {mc ms : Nat} {Q : State → Prop} {S : Sg} {pc : Nat} {lv : List (Nat × Value)} {st : List Value} {ζ : Type} {z : ζ} (C : gC p s m args meth c cc nL RX6 D cy ad n A) (nx : Nat) {x1 : Int32} {x2 : Int32} {x3 : Int32} (hR : Room.frames rm_X7_end + 1 ≤ R.frames ∧ 8 + (4 + 11) + Room.locals rm_X7_end ≤ R.locals) (hcm : mc ≤ R.cells ∧ ms ≤ R.slots) (hrest : (st.map fun v => v.category).sum ≤ 8) (hd : decode cc pc = .ok (.invokevirtual 104, 3)) (hn : pc + 3 = nx) {K : Sg → Option ζ} (hz : bd (f_X7_end x1 x2 x3 S) K = some z) (kk : ∀ S', K S' = some z → gW p l e R s m args below meth c D cy ad n A nL mc ms Q S' nx lv st) : gW p l e R s m args below meth c D cy ad n A nL mc ms Q S pc lv (.int x3 :: .int x2 :: .int x1 :: .ref (ad 5) :: st) := by
  obtain ⟨q, hq, hk⟩ := bd_s hz
  exact g_callVN C (i := 5) (ci := 7) (Cn := RX7) (T := TX7) (N := 8) (y := yX7_end) (rm := rm_X7_end) (As := [.int x1, .int x2, .int x3]) (rest := st) (na := 3) (fun sz => c_X7_end l D cy ad n S sz x1 x2 x3 q hq) ha_5 rfl rfl wl_6_104 wi_X7_end we_X7_end wz_7 wo_X7_end (by decide +kernel) rfl rfl hR hcm rfl hrest hn hd (kk q hk)
theorem wf_6_108 : Cond.fieldLink RX6 108 "WordMachines$Parser" "TRUTHS" "[J" ∈ wsAll := wA 354 (by decide +kernel) (by decide +kernel)
set_option maxRecDepth 20000 in
theorem t_X6_joinedPart {p : Program} {l : Launch} {e : Env} {s : State} {m : MethodId} {args : Array Value} {below : List Frame} {meth : Method} {c : Code} {D : va_G} {cy : Nat → ClassId} {ad : Nat → Nat} {n : Nat} {A : Nat → Prop} (C : gC p s m args meth c cX6_joinedPart 2 RX6 D cy ad n A) (hr : meth.sig.returnType = (some .long)) {z : Int64 × Sg} {S : Sg} (hz : f_X6_joinedPart S = some z) : gW p l e rm_X6_joinedPart s m args below meth c D cy ad n A 2 0 0 (MQ below (gQ D cy ad n A (some (.long z.1)) z.2) args s 0 0 A) S 0 [(0, .ref (ad 3))] [] := by
  unfold f_X6_joinedPart at hz
  refine g_aload_n C 1 0 rfl dX6_joinedPart_0 rfl ?_
  refine gf_6_25 C 4 dX6_joinedPart_1 rfl ?_
  refine gf_6_60 C 7 dX6_joinedPart_4 rfl ?_
  refine g_istore_n C 8 (i := 1) [1, 0] (fun x1_1 => [(0, .ref (ad 3)), (1, .int x1_1)]) dX6_joinedPart_7 rfl rfl (by decide) (fun x1_1 => rfl) hz (fun x1_1 hz => ?_)
  refine g_aload_n C 9 0 rfl dX6_joinedPart_8 rfl ?_
  refine cl_6_75 C 12 ⟨Nat.le_of_ble_eq_true rfl, Nat.le_of_ble_eq_true rfl⟩ ⟨Nat.zero_le _, Nat.zero_le _⟩ (Nat.le_of_ble_eq_true rfl) dX6_joinedPart_9 rfl hz (fun r_3 S_2 hz => ?_)
  refine cl_6_94 C 15 ⟨Nat.le_of_ble_eq_true rfl, Nat.le_of_ble_eq_true rfl⟩ ⟨Nat.zero_le _, Nat.zero_le _⟩ (Nat.le_of_ble_eq_true rfl) dX6_joinedPart_12 rfl hz (fun r_5 S_4 hz => ?_)
  refine g_if_ne C 25 18 dX6_joinedPart_15 rfl rfl hz (fun hz => ?_) (fun hz => ?_)
  · refine g_iload_n C 26 1 rfl dX6_joinedPart_25 rfl ?_
    refine g_bipush C 28 (6 : Int32) cb_6 dX6_joinedPart_26 rfl ?_
    refine g_icmp_lt C 38 31 dX6_joinedPart_28 rfl rfl hz (fun hz => ?_) (fun hz => ?_)
    · refine g_aload_n C 39 0 rfl dX6_joinedPart_38 rfl ?_
      refine gf_6_25 C 42 dX6_joinedPart_39 rfl ?_
      refine cl_6_98 C 45 ⟨Nat.le_of_ble_eq_true rfl, Nat.le_of_ble_eq_true rfl⟩ ⟨Nat.zero_le _, Nat.zero_le _⟩ (Nat.le_of_ble_eq_true rfl) dX6_joinedPart_42 rfl hz (fun S_6 hz => ?_)
      refine g_aload_n C 46 0 rfl dX6_joinedPart_45 rfl ?_
      refine g_iconst C 47 (0 : Int32) ci_0 dX6_joinedPart_46 rfl ?_
      refine cl_6_101 C 50 ⟨Nat.le_of_ble_eq_true rfl, Nat.le_of_ble_eq_true rfl⟩ ⟨Nat.zero_le _, Nat.zero_le _⟩ (Nat.le_of_ble_eq_true rfl) dX6_joinedPart_47 rfl hz (fun S_7 hz => ?_)
      refine g_aload_n C 51 0 rfl dX6_joinedPart_50 rfl ?_
      refine gf_6_25 C 54 dX6_joinedPart_51 rfl ?_
      refine g_aload_n C 55 0 rfl dX6_joinedPart_54 rfl ?_
      refine gf_6_35 C 58 dX6_joinedPart_55 rfl ?_
      refine g_aload_n C 59 0 rfl dX6_joinedPart_58 rfl ?_
      refine gf_6_38 C 62 dX6_joinedPart_59 rfl ?_
      refine g_aload_n C 63 0 rfl dX6_joinedPart_62 rfl ?_
      refine gf_6_41 C 66 dX6_joinedPart_63 rfl ?_
      refine cl_6_104 C 69 ⟨Nat.le_of_ble_eq_true rfl, Nat.le_of_ble_eq_true rfl⟩ ⟨Nat.zero_le _, Nat.zero_le _⟩ (Nat.le_of_ble_eq_true rfl) dX6_joinedPart_66 rfl hz (fun S_8 hz => ?_)
      refine g_tru C 72 73 74 1 1 rfl wf_6_108 rfl dX6_joinedPart_69 rfl dX6_joinedPart_72 rfl dX6_joinedPart_73 rfl hz (fun hz => ?_)
      exact g_lret C hr dX6_joinedPart_74 hz
    · refine g_aload_n C 32 0 rfl dX6_joinedPart_31 rfl ?_
      refine g_iconst C 33 (2 : Int32) ci_2 dX6_joinedPart_32 rfl ?_
      refine cl_6_71 C 36 ⟨Nat.le_of_ble_eq_true rfl, Nat.le_of_ble_eq_true rfl⟩ ⟨Nat.zero_le _, Nat.zero_le _⟩ (Nat.le_of_ble_eq_true rfl) dX6_joinedPart_33 rfl hz (fun S_9 hz => ?_)
      refine g_lconst C 37 (0 : Int64) cl_0 dX6_joinedPart_36 rfl ?_
      exact g_lret C hr dX6_joinedPart_37 hz
  · refine g_aload_n C 19 0 rfl dX6_joinedPart_18 rfl ?_
    refine g_iconst C 20 (1 : Int32) ci_1 dX6_joinedPart_19 rfl ?_
    refine cl_6_71 C 23 ⟨Nat.le_of_ble_eq_true rfl, Nat.le_of_ble_eq_true rfl⟩ ⟨Nat.zero_le _, Nat.zero_le _⟩ (Nat.le_of_ble_eq_true rfl) dX6_joinedPart_20 rfl hz (fun S_10 hz => ?_)
    refine g_lconst C 24 (0 : Int64) cl_0 dX6_joinedPart_23 rfl ?_
    exact g_lret C hr dX6_joinedPart_24 hz
theorem c_X6_joinedPart (l : Launch) (D : va_G) (cy : Nat → ClassId) (ad : Nat → Nat) (n : Nat) (S : Sg) (sz : Nat) (z : Int64 × Sg) (hz : f_X6_joinedPart S = some z) : Met l yX6_joinedPart (.code yX6_joinedPart cX6_joinedPart 2 (some .long) :: wsAll) rm_X6_joinedPart (gPc D cy ad n S sz [.ref (ad 3)]) (gQ D cy ad n (va_A (wW cy ad n S) sz) (some (.long z.1)) z.2) 0 0 (va_A (wW cy ad n S) sz) := by
  refine gMet (lv := [(0, .ref (ad 3))]) (by decide) (Nat.le_of_ble_eq_true rfl) rfl ?_
  intro p e s m args below meth c A hA hr C
  exact t_X6_joinedPart C hr hz
def rm_X6_side (rg0 : Room) (rg1 : Room) : Room := { frames := max (Room.frames rg0) (Room.frames rg1) + 110, cells := 0, slots := 0, locals := max (Room.locals rg0) (Room.locals rg1) + 2398 }
theorem wl_6_63 : Cond.methodLink RX6 63 yX6_top ∈ wsAll := wA 262 (by decide +kernel) (by decide +kernel)
theorem wi_X6_top : Cond.instanceMethod yX6_top ∈ wsAll := wA 264 (by decide +kernel) (by decide +kernel)
theorem we_X6_top : Cond.selects RX6 yX6_top yX6_top ∈ wsAll := wAp 2 (by decide +kernel) (by decide +kernel)
theorem wo_X6_top : Cond.code yX6_top cX6_top 5 (some .long) ∈ wsAll := wA 265 (by decide +kernel) (by decide +kernel)
theorem clr_6_63 {p : Program} {l : Launch} {e : Env} {R : Room} {s : State} {m : MethodId} {args : Array Value} {below : List Frame} {meth : Method} {c : Code} {cc : ByteArray} {nL : Nat} {D : va_G} {cy : Nat → ClassId} {ad : Nat → Nat} {n : Nat} {A : Nat → Prop} {mc ms : Nat} {Q : State → Prop} {S : Sg} {pc : Nat} {lv : List (Nat × Value)} {st : List Value} {ζ : Type} {z : ζ} (C : gC p s m args meth c cc nL RX6 D cy ad n A) (nx : Nat) {x1 : Int32} {g : Int32 → Sg → Option (Int64 × Sg)} {rg : Room} (hrc : rg.cells = 0) (hrs : rg.slots = 0) (hg : ∀ (S : Sg) (sz : Nat) (x1 : Int32) (z : Int64 × Sg), g x1 S = some z → Met l yX6_top (.code yX6_top cX6_top 5 (some .long) :: wsAll) rg (gPc D cy ad n S sz [.ref (ad 3), .int x1]) (gQ D cy ad n (va_A (wW cy ad n S) sz) (some (.long z.1)) z.2) 0 0 (va_A (wW cy ad n S) sz)) (hR : Room.frames rg + 1 ≤ R.frames ∧ 8 + (5 + 11) + Room.locals rg ≤ R.locals) (hcm : mc ≤ R.cells ∧ ms ≤ R.slots) (hrest : (st.map fun v => v.category).sum ≤ 8) (hd : decode cc pc = .ok (.invokevirtual 63, 3)) (hn : pc + 3 = nx) {K : Int64 → Sg → Option ζ} (hz : bd2 (g x1 S) K = some z) (kk : ∀ r S', K r S' = some z → gW p l e R s m args below meth c D cy ad n A nL mc ms Q S' nx lv (.long r :: st)) : gW p l e R s m args below meth c D cy ad n A nL mc ms Q S pc lv (.int x1 :: .ref (ad 3) :: st) := by
  obtain ⟨q, hq, hk⟩ := bd2_s hz
  exact g_callV C (i := 3) (ci := 6) (Cn := RX6) (T := TX6) (N := 9) (y := yX6_top) (rm := rg) (As := [.int x1]) (rest := st) (na := 1) (fun sz => hg S sz x1 q hq) ha_3 rfl rfl wl_6_63 wi_X6_top we_X6_top wz_6 wo_X6_top (by decide +kernel) hrc hrs hR hcm rfl hrest hn hd (kk q.1 q.2 hk)
theorem wl_6_82 : Cond.methodLink RX6 82 yX6_side ∈ wsAll := wA 270 (by decide +kernel) (by decide +kernel)
theorem wi_X6_side : Cond.instanceMethod yX6_side ∈ wsAll := wA 272 (by decide +kernel) (by decide +kernel)
theorem we_X6_side : Cond.selects RX6 yX6_side yX6_side ∈ wsAll := wAp 4 (by decide +kernel) (by decide +kernel)
theorem wo_X6_side : Cond.code yX6_side cX6_side 5 (some .long) ∈ wsAll := wA 273 (by decide +kernel) (by decide +kernel)
theorem clr_6_82 {p : Program} {l : Launch} {e : Env} {R : Room} {s : State} {m : MethodId} {args : Array Value} {below : List Frame} {meth : Method} {c : Code} {cc : ByteArray} {nL : Nat} {D : va_G} {cy : Nat → ClassId} {ad : Nat → Nat} {n : Nat} {A : Nat → Prop} {mc ms : Nat} {Q : State → Prop} {S : Sg} {pc : Nat} {lv : List (Nat × Value)} {st : List Value} {ζ : Type} {z : ζ} (C : gC p s m args meth c cc nL RX6 D cy ad n A) (nx : Nat) {x1 : Int32} {g : Int32 → Sg → Option (Int64 × Sg)} {rg : Room} (hrc : rg.cells = 0) (hrs : rg.slots = 0) (hg : ∀ (S : Sg) (sz : Nat) (x1 : Int32) (z : Int64 × Sg), g x1 S = some z → Met l yX6_side (.code yX6_side cX6_side 5 (some .long) :: wsAll) rg (gPc D cy ad n S sz [.ref (ad 3), .int x1]) (gQ D cy ad n (va_A (wW cy ad n S) sz) (some (.long z.1)) z.2) 0 0 (va_A (wW cy ad n S) sz)) (hR : Room.frames rg + 1 ≤ R.frames ∧ 8 + (5 + 11) + Room.locals rg ≤ R.locals) (hcm : mc ≤ R.cells ∧ ms ≤ R.slots) (hrest : (st.map fun v => v.category).sum ≤ 8) (hd : decode cc pc = .ok (.invokevirtual 82, 3)) (hn : pc + 3 = nx) {K : Int64 → Sg → Option ζ} (hz : bd2 (g x1 S) K = some z) (kk : ∀ r S', K r S' = some z → gW p l e R s m args below meth c D cy ad n A nL mc ms Q S' nx lv (.long r :: st)) : gW p l e R s m args below meth c D cy ad n A nL mc ms Q S pc lv (.int x1 :: .ref (ad 3) :: st) := by
  obtain ⟨q, hq, hk⟩ := bd2_s hz
  exact g_callV C (i := 3) (ci := 6) (Cn := RX6) (T := TX6) (N := 9) (y := yX6_side) (rm := rg) (As := [.int x1]) (rest := st) (na := 1) (fun sz => hg S sz x1 q hq) ha_3 rfl rfl wl_6_82 wi_X6_side we_X6_side wz_6 wo_X6_side (by decide +kernel) hrc hrs hR hcm rfl hrest hn hd (kk q.1 q.2 hk)
theorem wc_6_89 : Cond.constantLong RX6 89 (-1) ∈ wsAll := wA 356 (by decide +kernel) (by decide +kernel)
theorem wl_6_85 : Cond.methodLink RX6 85 yX6_joinedPart ∈ wsAll := wA 278 (by decide +kernel) (by decide +kernel)
theorem wi_X6_joinedPart : Cond.instanceMethod yX6_joinedPart ∈ wsAll := wA 280 (by decide +kernel) (by decide +kernel)
theorem we_X6_joinedPart : Cond.selects RX6 yX6_joinedPart yX6_joinedPart ∈ wsAll := wAp 6 (by decide +kernel) (by decide +kernel)
theorem wo_X6_joinedPart : Cond.code yX6_joinedPart cX6_joinedPart 2 (some .long) ∈ wsAll := wA 281 (by decide +kernel) (by decide +kernel)
theorem cl_6_85 {p : Program} {l : Launch} {e : Env} {R : Room} {s : State} {m : MethodId} {args : Array Value} {below : List Frame} {meth : Method} {c : Code} {cc : ByteArray} {nL : Nat} {D : va_G} {cy : Nat → ClassId} {ad : Nat → Nat} {n : Nat} {A : Nat → Prop} {mc ms : Nat} {Q : State → Prop} {S : Sg} {pc : Nat} {lv : List (Nat × Value)} {st : List Value} {ζ : Type} {z : ζ} (C : gC p s m args meth c cc nL RX6 D cy ad n A) (nx : Nat) (hR : Room.frames rm_X6_joinedPart + 1 ≤ R.frames ∧ 8 + (2 + 11) + Room.locals rm_X6_joinedPart ≤ R.locals) (hcm : mc ≤ R.cells ∧ ms ≤ R.slots) (hrest : (st.map fun v => v.category).sum ≤ 8) (hd : decode cc pc = .ok (.invokevirtual 85, 3)) (hn : pc + 3 = nx) {K : Int64 → Sg → Option ζ} (hz : bd2 (f_X6_joinedPart S) K = some z) (kk : ∀ r S', K r S' = some z → gW p l e R s m args below meth c D cy ad n A nL mc ms Q S' nx lv (.long r :: st)) : gW p l e R s m args below meth c D cy ad n A nL mc ms Q S pc lv (.ref (ad 3) :: st) := by
  obtain ⟨q, hq, hk⟩ := bd2_s hz
  exact g_callV C (i := 3) (ci := 6) (Cn := RX6) (T := TX6) (N := 9) (y := yX6_joinedPart) (rm := rm_X6_joinedPart) (As := []) (rest := st) (na := 0) (fun sz => c_X6_joinedPart l D cy ad n S sz  q hq) ha_3 rfl rfl wl_6_85 wi_X6_joinedPart we_X6_joinedPart wz_6 wo_X6_joinedPart (by decide +kernel) rfl rfl hR hcm rfl hrest hn hd (kk q.1 q.2 hk)
set_option maxRecDepth 20000 in
theorem t_X6_side_L22 {p : Program} {l : Launch} {e : Env} {s : State} {m : MethodId} {args : Array Value} {below : List Frame} {meth : Method} {c : Code} {D : va_G} {cy : Nat → ClassId} {ad : Nat → Nat} {n : Nat} {A : Nat → Prop} {g0 : Int32 → Sg → Option (Int64 × Sg)} {rg0 : Room} (hcg0 : rg0.cells = 0) (hsg0 : rg0.slots = 0) (hg0 : ∀ (S : Sg) (sz : Nat) (x1 : Int32) (z : Int64 × Sg), g0 x1 S = some z → Met l yX6_side (.code yX6_side cX6_side 5 (some .long) :: wsAll) rg0 (gPc D cy ad n S sz [.ref (ad 3), .int x1]) (gQ D cy ad n (va_A (wW cy ad n S) sz) (some (.long z.1)) z.2) 0 0 (va_A (wW cy ad n S) sz)) {g1 : Int32 → Sg → Option (Int64 × Sg)} {rg1 : Room} (hcg1 : rg1.cells = 0) (hsg1 : rg1.slots = 0) (hg1 : ∀ (S : Sg) (sz : Nat) (x1 : Int32) (z : Int64 × Sg), g1 x1 S = some z → Met l yX6_top (.code yX6_top cX6_top 5 (some .long) :: wsAll) rg1 (gPc D cy ad n S sz [.ref (ad 3), .int x1]) (gQ D cy ad n (va_A (wW cy ad n S) sz) (some (.long z.1)) z.2) 0 0 (va_A (wW cy ad n S) sz)) (C : gC p s m args meth c cX6_side 5 RX6 D cy ad n A) (hr : meth.sig.returnType = (some .long)) {z : Int64 × Sg} : ∀ (x1 : Int32) (x2 : Int32) (S : Sg), f_X6_side_L22 g0 g1 x1 x2 S = some z → gW p l e (rm_X6_side rg0 rg1) s m args below meth c D cy ad n A 5 0 0 (MQ below (gQ D cy ad n A (some (.long z.1)) z.2) args s 0 0 A) S 22 [(0, .ref (ad 3)), (1, .int x1), (2, .int x2)] [] := by
  intro x1 x2 S hz
  unfold f_X6_side_L22 at hz
  refine g_iload_n C 23 1 rfl dX6_side_22 rfl ?_
  refine g_bipush C 25 (10 : Int32) cb_10 dX6_side_23 rfl ?_
  refine g_icmp_lt C 35 28 dX6_side_25 rfl rfl hz (fun hz => ?_) (fun hz => ?_)
  · refine g_aload_n C 36 0 rfl dX6_side_35 rfl ?_
    refine g_dup C 37 rfl dX6_side_36 rfl ?_
    refine gf_6_19 C 40 dX6_side_37 rfl ?_
    refine g_iconst C 41 (1 : Int32) ci_1 dX6_side_40 rfl ?_
    refine g_iadd C 42 dX6_side_41 rfl ?_
    refine pf_6_19 C 45 dX6_side_42 rfl hz (fun S_4 hz => ?_)
    refine g_iload_n C 46 2 rfl dX6_side_45 rfl ?_
    refine g_bipush C 48 (33 : Int32) cb_33 dX6_side_46 rfl ?_
    refine g_icmp_ne C 63 51 dX6_side_48 rfl rfl hz (fun hz => ?_) (fun hz => ?_)
    · refine g_aload_n C 64 0 rfl dX6_side_63 rfl ?_
      refine g_iload_n C 65 1 rfl dX6_side_64 rfl ?_
      refine g_iconst C 66 (1 : Int32) ci_1 dX6_side_65 rfl ?_
      refine g_iadd C 67 dX6_side_66 rfl ?_
      refine clr_6_63 C 70 hcg1 hsg1 hg1 ⟨Nat.add_le_add (Nat.le_max_right _ _) (by decide), by have h9 := Nat.le_max_right (Room.locals rg0) (Room.locals rg1); show 8 + (5 + 11) + Room.locals rg1 ≤ max (Room.locals rg0) (Room.locals rg1) + 2398; omega⟩ ⟨Nat.zero_le _, Nat.zero_le _⟩ (Nat.le_of_ble_eq_true rfl) dX6_side_67 rfl hz (fun r_6 S_5 hz => ?_)
      refine g_lstore_n C 71 (i := 3) [1, 0] (fun x3_7 => [(0, .ref (ad 3)), (3, .long x3_7)]) dX6_side_70 rfl rfl (by decide) (fun x3_7 => rfl) hz (fun x3_7 hz => ?_)
      refine g_aload_n C 72 0 rfl dX6_side_71 rfl ?_
      refine g_bipush C 74 (125 : Int32) cb_125 dX6_side_72 rfl ?_
      refine cl_6_91 C 77 ⟨Nat.le_trans (Nat.le_of_ble_eq_true rfl : Room.frames rm_X6_pass + 1 ≤ 110) (Nat.le_add_left _ _), Nat.le_trans (Nat.le_of_ble_eq_true rfl : 8 + (2 + 11) + Room.locals rm_X6_pass ≤ 2398) (Nat.le_add_left _ _)⟩ ⟨Nat.zero_le _, Nat.zero_le _⟩ (Nat.le_of_ble_eq_true rfl) dX6_side_74 rfl hz (fun S_8 hz => ?_)
      refine g_lload_n C 78 1 rfl dX6_side_77 rfl ?_
      exact g_lret C hr dX6_side_78 hz
    · refine g_aload_n C 52 0 rfl dX6_side_51 rfl ?_
      refine g_iload_n C 53 1 rfl dX6_side_52 rfl ?_
      refine g_iconst C 54 (1 : Int32) ci_1 dX6_side_53 rfl ?_
      refine g_iadd C 55 dX6_side_54 rfl ?_
      refine clr_6_82 C 58 hcg0 hsg0 hg0 ⟨Nat.add_le_add (Nat.le_max_left _ _) (by decide), by have h9 := Nat.le_max_left (Room.locals rg0) (Room.locals rg1); show 8 + (5 + 11) + Room.locals rg0 ≤ max (Room.locals rg0) (Room.locals rg1) + 2398; omega⟩ ⟨Nat.zero_le _, Nat.zero_le _⟩ (Nat.le_of_ble_eq_true rfl) dX6_side_55 rfl hz (fun r_10 S_9 hz => ?_)
      refine g_ldc2 C 61 wc_6_89 dX6_side_58 rfl ?_
      refine g_lxor C 62 dX6_side_61 rfl ?_
      exact g_lret C hr dX6_side_62 hz
  · refine g_aload_n C 29 0 rfl dX6_side_28 rfl ?_
    refine g_iconst C 30 (2 : Int32) ci_2 dX6_side_29 rfl ?_
    refine cl_6_71 C 33 ⟨Nat.le_trans (Nat.le_of_ble_eq_true rfl : Room.frames rm_X6_refuse + 1 ≤ 110) (Nat.le_add_left _ _), Nat.le_trans (Nat.le_of_ble_eq_true rfl : 8 + (2 + 11) + Room.locals rm_X6_refuse ≤ 2398) (Nat.le_add_left _ _)⟩ ⟨Nat.zero_le _, Nat.zero_le _⟩ (Nat.le_of_ble_eq_true rfl) dX6_side_30 rfl hz (fun S_11 hz => ?_)
    refine g_lconst C 34 (0 : Int64) cl_0 dX6_side_33 rfl ?_
    exact g_lret C hr dX6_side_34 hz
set_option maxRecDepth 20000 in
theorem t_X6_side {p : Program} {l : Launch} {e : Env} {s : State} {m : MethodId} {args : Array Value} {below : List Frame} {meth : Method} {c : Code} {D : va_G} {cy : Nat → ClassId} {ad : Nat → Nat} {n : Nat} {A : Nat → Prop} {g0 : Int32 → Sg → Option (Int64 × Sg)} {rg0 : Room} (hcg0 : rg0.cells = 0) (hsg0 : rg0.slots = 0) (hg0 : ∀ (S : Sg) (sz : Nat) (x1 : Int32) (z : Int64 × Sg), g0 x1 S = some z → Met l yX6_side (.code yX6_side cX6_side 5 (some .long) :: wsAll) rg0 (gPc D cy ad n S sz [.ref (ad 3), .int x1]) (gQ D cy ad n (va_A (wW cy ad n S) sz) (some (.long z.1)) z.2) 0 0 (va_A (wW cy ad n S) sz)) {g1 : Int32 → Sg → Option (Int64 × Sg)} {rg1 : Room} (hcg1 : rg1.cells = 0) (hsg1 : rg1.slots = 0) (hg1 : ∀ (S : Sg) (sz : Nat) (x1 : Int32) (z : Int64 × Sg), g1 x1 S = some z → Met l yX6_top (.code yX6_top cX6_top 5 (some .long) :: wsAll) rg1 (gPc D cy ad n S sz [.ref (ad 3), .int x1]) (gQ D cy ad n (va_A (wW cy ad n S) sz) (some (.long z.1)) z.2) 0 0 (va_A (wW cy ad n S) sz)) (C : gC p s m args meth c cX6_side 5 RX6 D cy ad n A) (hr : meth.sig.returnType = (some .long)) {z : Int64 × Sg} {S : Sg} {x1 : Int32} (hz : f_X6_side g0 g1 x1 S = some z) : gW p l e (rm_X6_side rg0 rg1) s m args below meth c D cy ad n A 5 0 0 (MQ below (gQ D cy ad n A (some (.long z.1)) z.2) args s 0 0 A) S 0 [(0, .ref (ad 3)), (1, .int x1)] [] := by
  unfold f_X6_side at hz
  refine g_aload_n C 1 0 rfl dX6_side_0 rfl ?_
  refine cl_6_75 C 4 ⟨Nat.le_trans (Nat.le_of_ble_eq_true rfl : Room.frames rm_X6_sign + 1 ≤ 110) (Nat.le_add_left _ _), Nat.le_trans (Nat.le_of_ble_eq_true rfl : 8 + (1 + 11) + Room.locals rm_X6_sign ≤ 2398) (Nat.le_add_left _ _)⟩ ⟨Nat.zero_le _, Nat.zero_le _⟩ (Nat.le_of_ble_eq_true rfl) dX6_side_1 rfl hz (fun r_2 S_1 hz => ?_)
  refine g_istore_n C 5 (i := 2) [1, 2, 0] (fun x2_3 => [(0, .ref (ad 3)), (1, .int x1), (2, .int x2_3)]) dX6_side_4 rfl rfl (by decide) (fun x2_3 => rfl) hz (fun x2_3 hz => ?_)
  refine g_iload_n C 6 2 rfl dX6_side_5 rfl ?_
  refine g_bipush C 8 (33 : Int32) cb_33 dX6_side_6 rfl ?_
  refine g_icmp_eq C 22 11 dX6_side_8 rfl rfl hz (fun hz => ?_) (fun hz => ?_)
  · exact (t_X6_side_L22 hcg0 hsg0 hg0 hcg1 hsg1 hg1 C hr) x1 x2_3 S_1 hz
  · refine g_iload_n C 12 2 rfl dX6_side_11 rfl ?_
    refine g_bipush C 14 (123 : Int32) cb_123 dX6_side_12 rfl ?_
    refine g_icmp_eq C 22 17 dX6_side_14 rfl rfl hz (fun hz => ?_) (fun hz => ?_)
    · exact (t_X6_side_L22 hcg0 hsg0 hg0 hcg1 hsg1 hg1 C hr) x1 x2_3 S_1 hz
    · refine g_aload_n C 18 0 rfl dX6_side_17 rfl ?_
      refine cl_6_85 C 21 ⟨Nat.le_trans (Nat.le_of_ble_eq_true rfl : Room.frames rm_X6_joinedPart + 1 ≤ 110) (Nat.le_add_left _ _), Nat.le_trans (Nat.le_of_ble_eq_true rfl : 8 + (2 + 11) + Room.locals rm_X6_joinedPart ≤ 2398) (Nat.le_add_left _ _)⟩ ⟨Nat.zero_le _, Nat.zero_le _⟩ (Nat.le_of_ble_eq_true rfl) dX6_side_18 rfl hz (fun r_13 S_12 hz => ?_)
      exact g_lret C hr dX6_side_21 hz
theorem c_X6_side {l : Launch} {D : va_G} {cy : Nat → ClassId} {ad : Nat → Nat} {n : Nat} {g0 : Int32 → Sg → Option (Int64 × Sg)} {rg0 : Room} (hcg0 : rg0.cells = 0) (hsg0 : rg0.slots = 0) (hg0 : ∀ (S : Sg) (sz : Nat) (x1 : Int32) (z : Int64 × Sg), g0 x1 S = some z → Met l yX6_side (.code yX6_side cX6_side 5 (some .long) :: wsAll) rg0 (gPc D cy ad n S sz [.ref (ad 3), .int x1]) (gQ D cy ad n (va_A (wW cy ad n S) sz) (some (.long z.1)) z.2) 0 0 (va_A (wW cy ad n S) sz)) {g1 : Int32 → Sg → Option (Int64 × Sg)} {rg1 : Room} (hcg1 : rg1.cells = 0) (hsg1 : rg1.slots = 0) (hg1 : ∀ (S : Sg) (sz : Nat) (x1 : Int32) (z : Int64 × Sg), g1 x1 S = some z → Met l yX6_top (.code yX6_top cX6_top 5 (some .long) :: wsAll) rg1 (gPc D cy ad n S sz [.ref (ad 3), .int x1]) (gQ D cy ad n (va_A (wW cy ad n S) sz) (some (.long z.1)) z.2) 0 0 (va_A (wW cy ad n S) sz)) (S : Sg) (sz : Nat) (x1 : Int32) (z : Int64 × Sg) (hz : f_X6_side g0 g1 x1 S = some z) : Met l yX6_side (.code yX6_side cX6_side 5 (some .long) :: wsAll) (rm_X6_side rg0 rg1) (gPc D cy ad n S sz [.ref (ad 3), .int x1]) (gQ D cy ad n (va_A (wW cy ad n S) sz) (some (.long z.1)) z.2) 0 0 (va_A (wW cy ad n S) sz) := by
  refine gMet (lv := [(0, .ref (ad 3)), (1, .int x1)]) (by decide) (Nat.le_of_ble_eq_true rfl) rfl ?_
  intro p e s m args below meth c A hA hr C
  exact t_X6_side hcg0 hsg0 hg0 hcg1 hsg1 hg1 C hr hz
def rm_X6_meet (rg0 : Room) : Room := { frames := rg0.frames + 1, cells := 0, slots := 0, locals := rg0.locals + 24 }
set_option maxRecDepth 20000 in
theorem t_X6_meet_L9 {p : Program} {l : Launch} {e : Env} {s : State} {m : MethodId} {args : Array Value} {below : List Frame} {meth : Method} {c : Code} {D : va_G} {cy : Nat → ClassId} {ad : Nat → Nat} {n : Nat} {A : Nat → Prop} {g0 : Int32 → Sg → Option (Int64 × Sg)} {rg0 : Room} (hcg0 : rg0.cells = 0) (hsg0 : rg0.slots = 0) (hg0 : ∀ (S : Sg) (sz : Nat) (x1 : Int32) (z : Int64 × Sg), g0 x1 S = some z → Met l yX6_side (.code yX6_side cX6_side 5 (some .long) :: wsAll) rg0 (gPc D cy ad n S sz [.ref (ad 3), .int x1]) (gQ D cy ad n (va_A (wW cy ad n S) sz) (some (.long z.1)) z.2) 0 0 (va_A (wW cy ad n S) sz)) (C : gC p s m args meth c cX6_meet 5 RX6 D cy ad n A) (hr : meth.sig.returnType = (some .long)) {z : Int64 × Sg} : ∀ (fl : Nat) (x1 : Int32) (x2 : Int64) (x4 : Int32) (S : Sg), f_X6_meet_L9 g0 fl x1 x2 x4 S = some z → gW p l e (rm_X6_meet rg0) s m args below meth c D cy ad n A 5 0 0 (MQ below (gQ D cy ad n A (some (.long z.1)) z.2) args s 0 0 A) S 9 [(0, .ref (ad 3)), (1, .int x1), (2, .long x2), (4, .int x4)] [] := by
  intro fl
  induction fl with
  | zero =>
    intro x1 x2 x4 S hz
    rw [f_X6_meet_L9] at hz
    cases hz
  | succ fl ih =>
    intro x1 x2 x4 S hz
    rw [f_X6_meet_L9] at hz
    refine g_iload C 11 3 rfl dX6_meet_9 rfl ?_
    refine g_aload_n C 12 0 rfl dX6_meet_11 rfl ?_
    refine gf_6_15 C 15 dX6_meet_12 rfl ?_
    refine g_icmp_ge C 51 18 dX6_meet_15 rfl rfl hz (fun hz => ?_) (fun hz => ?_)
    · refine g_lload_n C 52 2 rfl dX6_meet_51 rfl ?_
      exact g_lret C hr dX6_meet_52 hz
    · refine g_aload_n C 19 0 rfl dX6_meet_18 rfl ?_
      refine cl_6_75 C 22 ⟨Nat.le_trans (Nat.le_of_ble_eq_true rfl : Room.frames rm_X6_sign + 1 ≤ 1) (Nat.le_add_left _ _), Nat.le_trans (Nat.le_of_ble_eq_true rfl : 8 + (1 + 11) + Room.locals rm_X6_sign ≤ 24) (Nat.le_add_left _ _)⟩ ⟨Nat.zero_le _, Nat.zero_le _⟩ (Nat.le_of_ble_eq_true rfl) dX6_meet_19 rfl hz (fun r_6 S_5 hz => ?_)
      refine g_bipush C 24 (38 : Int32) cb_38 dX6_meet_22 rfl ?_
      refine g_icmp_ne C 51 27 dX6_meet_24 rfl rfl hz (fun hz => ?_) (fun hz => ?_)
      · refine g_lload_n C 52 2 rfl dX6_meet_51 rfl ?_
        exact g_lret C hr dX6_meet_52 hz
      · refine g_aload_n C 28 0 rfl dX6_meet_27 rfl ?_
        refine g_dup C 29 rfl dX6_meet_28 rfl ?_
        refine gf_6_19 C 32 dX6_meet_29 rfl ?_
        refine g_iconst C 33 (1 : Int32) ci_1 dX6_meet_32 rfl ?_
        refine g_iadd C 34 dX6_meet_33 rfl ?_
        refine pf_6_19 C 37 dX6_meet_34 rfl hz (fun S_7 hz => ?_)
        refine g_lload_n C 38 2 rfl dX6_meet_37 rfl ?_
        refine g_aload_n C 39 0 rfl dX6_meet_38 rfl ?_
        refine g_iload_n C 40 1 rfl dX6_meet_39 rfl ?_
        refine clr_6_82 C 43 hcg0 hsg0 hg0 ⟨Nat.add_le_add_left (by decide) _, by show 8 + (5 + 11) + Room.locals rg0 ≤ Room.locals rg0 + 24; omega⟩ ⟨Nat.zero_le _, Nat.zero_le _⟩ (Nat.le_of_ble_eq_true rfl) dX6_meet_40 rfl hz (fun r_9 S_8 hz => ?_)
        refine g_land C 44 dX6_meet_43 rfl ?_
        refine g_lstore_n C 45 (i := 2) [1, 2, 0, 3] (fun x2_10 => [(0, .ref (ad 3)), (1, .int x1), (2, .long x2_10), (4, .int x4)]) dX6_meet_44 rfl rfl (by decide) (fun x2_10 => rfl) hz (fun x2_10 hz => ?_)
        refine g_iinc C 48 3 [1, 2, 3, 0] (1 : Int32) ci_1 (fun x4_11 => [(0, .ref (ad 3)), (1, .int x1), (2, .long x2_10), (4, .int x4_11)]) dX6_meet_45 rfl rfl (by decide) (fun x4_11 => rfl) hz (fun x4_11 hz => ?_)
        refine g_goto C 9 dX6_meet_48 rfl ?_
        exact ih x1 x2_10 x4_11 S_8 hz
set_option maxRecDepth 20000 in
theorem t_X6_meet {p : Program} {l : Launch} {e : Env} {s : State} {m : MethodId} {args : Array Value} {below : List Frame} {meth : Method} {c : Code} {D : va_G} {cy : Nat → ClassId} {ad : Nat → Nat} {n : Nat} {A : Nat → Prop} {g0 : Int32 → Sg → Option (Int64 × Sg)} {rg0 : Room} (hcg0 : rg0.cells = 0) (hsg0 : rg0.slots = 0) (hg0 : ∀ (S : Sg) (sz : Nat) (x1 : Int32) (z : Int64 × Sg), g0 x1 S = some z → Met l yX6_side (.code yX6_side cX6_side 5 (some .long) :: wsAll) rg0 (gPc D cy ad n S sz [.ref (ad 3), .int x1]) (gQ D cy ad n (va_A (wW cy ad n S) sz) (some (.long z.1)) z.2) 0 0 (va_A (wW cy ad n S) sz)) (C : gC p s m args meth c cX6_meet 5 RX6 D cy ad n A) (hr : meth.sig.returnType = (some .long)) {z : Int64 × Sg} {S : Sg} {x1 : Int32} (hz : f_X6_meet g0 x1 S = some z) : gW p l e (rm_X6_meet rg0) s m args below meth c D cy ad n A 5 0 0 (MQ below (gQ D cy ad n A (some (.long z.1)) z.2) args s 0 0 A) S 0 [(0, .ref (ad 3)), (1, .int x1)] [] := by
  unfold f_X6_meet at hz
  refine g_aload_n C 1 0 rfl dX6_meet_0 rfl ?_
  refine g_iload_n C 2 1 rfl dX6_meet_1 rfl ?_
  refine clr_6_82 C 5 hcg0 hsg0 hg0 ⟨Nat.add_le_add_left (by decide) _, by show 8 + (5 + 11) + Room.locals rg0 ≤ Room.locals rg0 + 24; omega⟩ ⟨Nat.zero_le _, Nat.zero_le _⟩ (Nat.le_of_ble_eq_true rfl) dX6_meet_2 rfl hz (fun r_2 S_1 hz => ?_)
  refine g_lstore_n C 6 (i := 2) [1, 2, 0] (fun x2_3 => [(0, .ref (ad 3)), (1, .int x1), (2, .long x2_3)]) dX6_meet_5 rfl rfl (by decide) (fun x2_3 => rfl) hz (fun x2_3 hz => ?_)
  refine g_iconst C 7 (0 : Int32) ci_0 dX6_meet_6 rfl ?_
  refine g_istore C 9 (i := 4) [1, 2, 3, 0] (fun x4_4 => [(0, .ref (ad 3)), (1, .int x1), (2, .long x2_3), (4, .int x4_4)]) dX6_meet_7 rfl (by decide) (fun x4_4 => rfl) hz (fun x4_4 hz => ?_)
  exact (t_X6_meet_L9 hcg0 hsg0 hg0 C hr fu) x1 x2_3 x4_4 S_1 hz
theorem c_X6_meet {l : Launch} {D : va_G} {cy : Nat → ClassId} {ad : Nat → Nat} {n : Nat} {g0 : Int32 → Sg → Option (Int64 × Sg)} {rg0 : Room} (hcg0 : rg0.cells = 0) (hsg0 : rg0.slots = 0) (hg0 : ∀ (S : Sg) (sz : Nat) (x1 : Int32) (z : Int64 × Sg), g0 x1 S = some z → Met l yX6_side (.code yX6_side cX6_side 5 (some .long) :: wsAll) rg0 (gPc D cy ad n S sz [.ref (ad 3), .int x1]) (gQ D cy ad n (va_A (wW cy ad n S) sz) (some (.long z.1)) z.2) 0 0 (va_A (wW cy ad n S) sz)) (S : Sg) (sz : Nat) (x1 : Int32) (z : Int64 × Sg) (hz : f_X6_meet g0 x1 S = some z) : Met l yX6_meet (.code yX6_meet cX6_meet 5 (some .long) :: wsAll) (rm_X6_meet rg0) (gPc D cy ad n S sz [.ref (ad 3), .int x1]) (gQ D cy ad n (va_A (wW cy ad n S) sz) (some (.long z.1)) z.2) 0 0 (va_A (wW cy ad n S) sz) := by
  refine gMet (lv := [(0, .ref (ad 3)), (1, .int x1)]) (by decide) (Nat.le_of_ble_eq_true rfl) rfl ?_
  intro p e s m args below meth c A hA hr C
  exact t_X6_meet hcg0 hsg0 hg0 C hr hz
def rm_X6_top (rg0 : Room) : Room := { frames := rg0.frames + 1, cells := 0, slots := 0, locals := rg0.locals + 24 }
theorem wl_6_79 : Cond.methodLink RX6 79 yX6_meet ∈ wsAll := wA 266 (by decide +kernel) (by decide +kernel)
theorem wi_X6_meet : Cond.instanceMethod yX6_meet ∈ wsAll := wA 268 (by decide +kernel) (by decide +kernel)
theorem we_X6_meet : Cond.selects RX6 yX6_meet yX6_meet ∈ wsAll := wAp 3 (by decide +kernel) (by decide +kernel)
theorem wo_X6_meet : Cond.code yX6_meet cX6_meet 5 (some .long) ∈ wsAll := wA 269 (by decide +kernel) (by decide +kernel)
theorem clr_6_79 {p : Program} {l : Launch} {e : Env} {R : Room} {s : State} {m : MethodId} {args : Array Value} {below : List Frame} {meth : Method} {c : Code} {cc : ByteArray} {nL : Nat} {D : va_G} {cy : Nat → ClassId} {ad : Nat → Nat} {n : Nat} {A : Nat → Prop} {mc ms : Nat} {Q : State → Prop} {S : Sg} {pc : Nat} {lv : List (Nat × Value)} {st : List Value} {ζ : Type} {z : ζ} (C : gC p s m args meth c cc nL RX6 D cy ad n A) (nx : Nat) {x1 : Int32} {g : Int32 → Sg → Option (Int64 × Sg)} {rg : Room} (hrc : rg.cells = 0) (hrs : rg.slots = 0) (hg : ∀ (S : Sg) (sz : Nat) (x1 : Int32) (z : Int64 × Sg), g x1 S = some z → Met l yX6_meet (.code yX6_meet cX6_meet 5 (some .long) :: wsAll) rg (gPc D cy ad n S sz [.ref (ad 3), .int x1]) (gQ D cy ad n (va_A (wW cy ad n S) sz) (some (.long z.1)) z.2) 0 0 (va_A (wW cy ad n S) sz)) (hR : Room.frames rg + 1 ≤ R.frames ∧ 8 + (5 + 11) + Room.locals rg ≤ R.locals) (hcm : mc ≤ R.cells ∧ ms ≤ R.slots) (hrest : (st.map fun v => v.category).sum ≤ 8) (hd : decode cc pc = .ok (.invokevirtual 79, 3)) (hn : pc + 3 = nx) {K : Int64 → Sg → Option ζ} (hz : bd2 (g x1 S) K = some z) (kk : ∀ r S', K r S' = some z → gW p l e R s m args below meth c D cy ad n A nL mc ms Q S' nx lv (.long r :: st)) : gW p l e R s m args below meth c D cy ad n A nL mc ms Q S pc lv (.int x1 :: .ref (ad 3) :: st) := by
  obtain ⟨q, hq, hk⟩ := bd2_s hz
  exact g_callV C (i := 3) (ci := 6) (Cn := RX6) (T := TX6) (N := 9) (y := yX6_meet) (rm := rg) (As := [.int x1]) (rest := st) (na := 1) (fun sz => hg S sz x1 q hq) ha_3 rfl rfl wl_6_79 wi_X6_meet we_X6_meet wz_6 wo_X6_meet (by decide +kernel) hrc hrs hR hcm rfl hrest hn hd (kk q.1 q.2 hk)
set_option maxRecDepth 20000 in
theorem t_X6_top_L9 {p : Program} {l : Launch} {e : Env} {s : State} {m : MethodId} {args : Array Value} {below : List Frame} {meth : Method} {c : Code} {D : va_G} {cy : Nat → ClassId} {ad : Nat → Nat} {n : Nat} {A : Nat → Prop} {g0 : Int32 → Sg → Option (Int64 × Sg)} {rg0 : Room} (hcg0 : rg0.cells = 0) (hsg0 : rg0.slots = 0) (hg0 : ∀ (S : Sg) (sz : Nat) (x1 : Int32) (z : Int64 × Sg), g0 x1 S = some z → Met l yX6_meet (.code yX6_meet cX6_meet 5 (some .long) :: wsAll) rg0 (gPc D cy ad n S sz [.ref (ad 3), .int x1]) (gQ D cy ad n (va_A (wW cy ad n S) sz) (some (.long z.1)) z.2) 0 0 (va_A (wW cy ad n S) sz)) (C : gC p s m args meth c cX6_top 5 RX6 D cy ad n A) (hr : meth.sig.returnType = (some .long)) {z : Int64 × Sg} : ∀ (fl : Nat) (x1 : Int32) (x2 : Int64) (x4 : Int32) (S : Sg), f_X6_top_L9 g0 fl x1 x2 x4 S = some z → gW p l e (rm_X6_top rg0) s m args below meth c D cy ad n A 5 0 0 (MQ below (gQ D cy ad n A (some (.long z.1)) z.2) args s 0 0 A) S 9 [(0, .ref (ad 3)), (1, .int x1), (2, .long x2), (4, .int x4)] [] := by
  intro fl
  induction fl with
  | zero =>
    intro x1 x2 x4 S hz
    rw [f_X6_top_L9] at hz
    cases hz
  | succ fl ih =>
    intro x1 x2 x4 S hz
    rw [f_X6_top_L9] at hz
    refine g_iload C 11 3 rfl dX6_top_9 rfl ?_
    refine g_aload_n C 12 0 rfl dX6_top_11 rfl ?_
    refine gf_6_15 C 15 dX6_top_12 rfl ?_
    refine g_icmp_ge C 51 18 dX6_top_15 rfl rfl hz (fun hz => ?_) (fun hz => ?_)
    · refine g_lload_n C 52 2 rfl dX6_top_51 rfl ?_
      exact g_lret C hr dX6_top_52 hz
    · refine g_aload_n C 19 0 rfl dX6_top_18 rfl ?_
      refine cl_6_75 C 22 ⟨Nat.le_trans (Nat.le_of_ble_eq_true rfl : Room.frames rm_X6_sign + 1 ≤ 1) (Nat.le_add_left _ _), Nat.le_trans (Nat.le_of_ble_eq_true rfl : 8 + (1 + 11) + Room.locals rm_X6_sign ≤ 24) (Nat.le_add_left _ _)⟩ ⟨Nat.zero_le _, Nat.zero_le _⟩ (Nat.le_of_ble_eq_true rfl) dX6_top_19 rfl hz (fun r_6 S_5 hz => ?_)
      refine g_bipush C 24 (44 : Int32) cb_44 dX6_top_22 rfl ?_
      refine g_icmp_ne C 51 27 dX6_top_24 rfl rfl hz (fun hz => ?_) (fun hz => ?_)
      · refine g_lload_n C 52 2 rfl dX6_top_51 rfl ?_
        exact g_lret C hr dX6_top_52 hz
      · refine g_aload_n C 28 0 rfl dX6_top_27 rfl ?_
        refine g_dup C 29 rfl dX6_top_28 rfl ?_
        refine gf_6_19 C 32 dX6_top_29 rfl ?_
        refine g_iconst C 33 (1 : Int32) ci_1 dX6_top_32 rfl ?_
        refine g_iadd C 34 dX6_top_33 rfl ?_
        refine pf_6_19 C 37 dX6_top_34 rfl hz (fun S_7 hz => ?_)
        refine g_lload_n C 38 2 rfl dX6_top_37 rfl ?_
        refine g_aload_n C 39 0 rfl dX6_top_38 rfl ?_
        refine g_iload_n C 40 1 rfl dX6_top_39 rfl ?_
        refine clr_6_79 C 43 hcg0 hsg0 hg0 ⟨Nat.add_le_add_left (by decide) _, by show 8 + (5 + 11) + Room.locals rg0 ≤ Room.locals rg0 + 24; omega⟩ ⟨Nat.zero_le _, Nat.zero_le _⟩ (Nat.le_of_ble_eq_true rfl) dX6_top_40 rfl hz (fun r_9 S_8 hz => ?_)
        refine g_lor C 44 dX6_top_43 rfl ?_
        refine g_lstore_n C 45 (i := 2) [1, 2, 0, 3] (fun x2_10 => [(0, .ref (ad 3)), (1, .int x1), (2, .long x2_10), (4, .int x4)]) dX6_top_44 rfl rfl (by decide) (fun x2_10 => rfl) hz (fun x2_10 hz => ?_)
        refine g_iinc C 48 3 [1, 2, 3, 0] (1 : Int32) ci_1 (fun x4_11 => [(0, .ref (ad 3)), (1, .int x1), (2, .long x2_10), (4, .int x4_11)]) dX6_top_45 rfl rfl (by decide) (fun x4_11 => rfl) hz (fun x4_11 hz => ?_)
        refine g_goto C 9 dX6_top_48 rfl ?_
        exact ih x1 x2_10 x4_11 S_8 hz
set_option maxRecDepth 20000 in
theorem t_X6_top {p : Program} {l : Launch} {e : Env} {s : State} {m : MethodId} {args : Array Value} {below : List Frame} {meth : Method} {c : Code} {D : va_G} {cy : Nat → ClassId} {ad : Nat → Nat} {n : Nat} {A : Nat → Prop} {g0 : Int32 → Sg → Option (Int64 × Sg)} {rg0 : Room} (hcg0 : rg0.cells = 0) (hsg0 : rg0.slots = 0) (hg0 : ∀ (S : Sg) (sz : Nat) (x1 : Int32) (z : Int64 × Sg), g0 x1 S = some z → Met l yX6_meet (.code yX6_meet cX6_meet 5 (some .long) :: wsAll) rg0 (gPc D cy ad n S sz [.ref (ad 3), .int x1]) (gQ D cy ad n (va_A (wW cy ad n S) sz) (some (.long z.1)) z.2) 0 0 (va_A (wW cy ad n S) sz)) (C : gC p s m args meth c cX6_top 5 RX6 D cy ad n A) (hr : meth.sig.returnType = (some .long)) {z : Int64 × Sg} {S : Sg} {x1 : Int32} (hz : f_X6_top g0 x1 S = some z) : gW p l e (rm_X6_top rg0) s m args below meth c D cy ad n A 5 0 0 (MQ below (gQ D cy ad n A (some (.long z.1)) z.2) args s 0 0 A) S 0 [(0, .ref (ad 3)), (1, .int x1)] [] := by
  unfold f_X6_top at hz
  refine g_aload_n C 1 0 rfl dX6_top_0 rfl ?_
  refine g_iload_n C 2 1 rfl dX6_top_1 rfl ?_
  refine clr_6_79 C 5 hcg0 hsg0 hg0 ⟨Nat.add_le_add_left (by decide) _, by show 8 + (5 + 11) + Room.locals rg0 ≤ Room.locals rg0 + 24; omega⟩ ⟨Nat.zero_le _, Nat.zero_le _⟩ (Nat.le_of_ble_eq_true rfl) dX6_top_2 rfl hz (fun r_2 S_1 hz => ?_)
  refine g_lstore_n C 6 (i := 2) [1, 2, 0] (fun x2_3 => [(0, .ref (ad 3)), (1, .int x1), (2, .long x2_3)]) dX6_top_5 rfl rfl (by decide) (fun x2_3 => rfl) hz (fun x2_3 hz => ?_)
  refine g_iconst C 7 (0 : Int32) ci_0 dX6_top_6 rfl ?_
  refine g_istore C 9 (i := 4) [1, 2, 3, 0] (fun x4_4 => [(0, .ref (ad 3)), (1, .int x1), (2, .long x2_3), (4, .int x4_4)]) dX6_top_7 rfl (by decide) (fun x4_4 => rfl) hz (fun x4_4 hz => ?_)
  exact (t_X6_top_L9 hcg0 hsg0 hg0 C hr fu) x1 x2_3 x4_4 S_1 hz
theorem c_X6_top {l : Launch} {D : va_G} {cy : Nat → ClassId} {ad : Nat → Nat} {n : Nat} {g0 : Int32 → Sg → Option (Int64 × Sg)} {rg0 : Room} (hcg0 : rg0.cells = 0) (hsg0 : rg0.slots = 0) (hg0 : ∀ (S : Sg) (sz : Nat) (x1 : Int32) (z : Int64 × Sg), g0 x1 S = some z → Met l yX6_meet (.code yX6_meet cX6_meet 5 (some .long) :: wsAll) rg0 (gPc D cy ad n S sz [.ref (ad 3), .int x1]) (gQ D cy ad n (va_A (wW cy ad n S) sz) (some (.long z.1)) z.2) 0 0 (va_A (wW cy ad n S) sz)) (S : Sg) (sz : Nat) (x1 : Int32) (z : Int64 × Sg) (hz : f_X6_top g0 x1 S = some z) : Met l yX6_top (.code yX6_top cX6_top 5 (some .long) :: wsAll) (rm_X6_top rg0) (gPc D cy ad n S sz [.ref (ad 3), .int x1]) (gQ D cy ad n (va_A (wW cy ad n S) sz) (some (.long z.1)) z.2) 0 0 (va_A (wW cy ad n S) sz) := by
  refine gMet (lv := [(0, .ref (ad 3)), (1, .int x1)]) (by decide) (Nat.le_of_ble_eq_true rfl) rfl ?_
  intro p e s m args below meth c A hA hr C
  exact t_X6_top hcg0 hsg0 hg0 C hr hz
def rm_X6_sideR : Nat → Room
  | 0 => { frames := 0, cells := 0, slots := 0, locals := 0 }
  | d + 1 => rm_X6_side (rm_X6_sideR d) (rm_X6_top (rm_X6_meet (rm_X6_sideR d)))
theorem rm_X6_sideR_z (d : Nat) : (rm_X6_sideR d).cells = 0 ∧ (rm_X6_sideR d).slots = 0 := by cases d <;> exact ⟨rfl, rfl⟩
theorem c_X6_sideR (l : Launch) (D : va_G) (cy : Nat → ClassId) (ad : Nat → Nat) (n : Nat) : ∀ (d : Nat) (S : Sg) (sz : Nat) (x1 : Int32) (z : Int64 × Sg), f_X6_sideR d x1 S = some z → Met l yX6_side (.code yX6_side cX6_side 5 (some .long) :: wsAll) (rm_X6_sideR d) (gPc D cy ad n S sz [.ref (ad 3), .int x1]) (gQ D cy ad n (va_A (wW cy ad n S) sz) (some (.long z.1)) z.2) 0 0 (va_A (wW cy ad n S) sz) := by
  intro d
  induction d with
  | zero => intro S sz x1 z hz; cases hz
  | succ d ih =>
    intro S sz x1 z hz
    exact c_X6_side (rm_X6_sideR_z d).1 (rm_X6_sideR_z d).2 ih rfl rfl (c_X6_top rfl rfl (c_X6_meet (rm_X6_sideR_z d).1 (rm_X6_sideR_z d).2 ih)) S sz x1 z hz
theorem c_X6_top0 (l : Launch) (D : va_G) (cy : Nat → ClassId) (ad : Nat → Nat) (n : Nat) (S : Sg) (sz : Nat) (x1 : Int32) (z : Int64 × Sg) (hz : f_X6_topR 12 x1 S = some z) : Met l yX6_top (.code yX6_top cX6_top 5 (some .long) :: wsAll) (rm_X6_top (rm_X6_meet (rm_X6_sideR 12))) (gPc D cy ad n S sz [.ref (ad 3), .int x1]) (gQ D cy ad n (va_A (wW cy ad n S) sz) (some (.long z.1)) z.2) 0 0 (va_A (wW cy ad n S) sz) := c_X6_top rfl rfl (c_X6_meet (rm_X6_sideR_z 12).1 (rm_X6_sideR_z 12).2 (c_X6_sideR l D cy ad n 12)) S sz x1 z hz
def rm_X6_parse : Room := { frames := 1457, cells := 0, slots := 0, locals := 31822 }
theorem cl_6_63 {p : Program} {l : Launch} {e : Env} {R : Room} {s : State} {m : MethodId} {args : Array Value} {below : List Frame} {meth : Method} {c : Code} {cc : ByteArray} {nL : Nat} {D : va_G} {cy : Nat → ClassId} {ad : Nat → Nat} {n : Nat} {A : Nat → Prop} {mc ms : Nat} {Q : State → Prop} {S : Sg} {pc : Nat} {lv : List (Nat × Value)} {st : List Value} {ζ : Type} {z : ζ} (C : gC p s m args meth c cc nL RX6 D cy ad n A) (nx : Nat) {x1 : Int32} (hR : Room.frames (rm_X6_top (rm_X6_meet (rm_X6_sideR 12))) + 1 ≤ R.frames ∧ 8 + (5 + 11) + Room.locals (rm_X6_top (rm_X6_meet (rm_X6_sideR 12))) ≤ R.locals) (hcm : mc ≤ R.cells ∧ ms ≤ R.slots) (hrest : (st.map fun v => v.category).sum ≤ 8) (hd : decode cc pc = .ok (.invokevirtual 63, 3)) (hn : pc + 3 = nx) {K : Int64 → Sg → Option ζ} (hz : bd2 (f_X6_topR 12 x1 S) K = some z) (kk : ∀ r S', K r S' = some z → gW p l e R s m args below meth c D cy ad n A nL mc ms Q S' nx lv (.long r :: st)) : gW p l e R s m args below meth c D cy ad n A nL mc ms Q S pc lv (.int x1 :: .ref (ad 3) :: st) := by
  obtain ⟨q, hq, hk⟩ := bd2_s hz
  exact g_callV C (i := 3) (ci := 6) (Cn := RX6) (T := TX6) (N := 9) (y := yX6_top) (rm := (rm_X6_top (rm_X6_meet (rm_X6_sideR 12)))) (As := [.int x1]) (rest := st) (na := 1) (fun sz => c_X6_top0 l D cy ad n S sz x1 q hq) ha_3 rfl rfl wl_6_63 wi_X6_top we_X6_top wz_6 wo_X6_top (by decide +kernel) rfl rfl hR hcm rfl hrest hn hd (kk q.1 q.2 hk)
set_option maxRecDepth 20000 in
theorem t_X6_parse_L84 {p : Program} {l : Launch} {e : Env} {s : State} {m : MethodId} {args : Array Value} {below : List Frame} {meth : Method} {c : Code} {D : va_G} {cy : Nat → ClassId} {ad : Nat → Nat} {n : Nat} {A : Nat → Prop} (C : gC p s m args meth c cX6_parse 3 RX6 D cy ad n A) (hr : meth.sig.returnType = (some .boolean)) {z : Int32 × Sg} : ∀ (S : Sg), f_X6_parse_L84 S = some z → gW p l e rm_X6_parse s m args below meth c D cy ad n A 3 0 0 (MQ below (gQ D cy ad n A (some (.int z.1)) z.2) args s 0 0 A) S 84 [(0, .ref (ad 3))] [] := by
  intro  S hz
  unfold f_X6_parse_L84 at hz
  refine g_aload_n C 85 0 rfl dX6_parse_84 rfl ?_
  refine gf_6_29 C 88 dX6_parse_85 rfl ?_
  refine g_if_ne C 95 91 dX6_parse_88 rfl rfl hz (fun hz => ?_) (fun hz => ?_)
  · refine g_iconst C 96 (0 : Int32) ci_0 dX6_parse_95 rfl ?_
    exact g_zretc C hr (by decide) dX6_parse_96 hz
  · refine g_iconst C 92 (1 : Int32) ci_1 dX6_parse_91 rfl ?_
    refine g_goto C 96 dX6_parse_92 rfl ?_
    exact g_zretc C hr (by decide) dX6_parse_96 hz
set_option maxRecDepth 20000 in
theorem t_X6_parse {p : Program} {l : Launch} {e : Env} {s : State} {m : MethodId} {args : Array Value} {below : List Frame} {meth : Method} {c : Code} {D : va_G} {cy : Nat → ClassId} {ad : Nat → Nat} {n : Nat} {A : Nat → Prop} (C : gC p s m args meth c cX6_parse 3 RX6 D cy ad n A) (hr : meth.sig.returnType = (some .boolean)) {z : Int32 × Sg} {S : Sg} {x2 : Int32} (hz : f_X6_parse x2 S = some z) : gW p l e rm_X6_parse s m args below meth c D cy ad n A 3 0 0 (MQ below (gQ D cy ad n A (some (.int z.1)) z.2) args s 0 0 A) S 0 [(0, .ref (ad 3)), (1, .ref (ad 1)), (2, .int x2)] [] := by
  unfold f_X6_parse at hz
  refine g_aload_n C 1 0 rfl dX6_parse_0 rfl ?_
  refine g_iconst C 2 (0 : Int32) ci_0 dX6_parse_1 rfl ?_
  refine g_iload_n C 3 2 rfl dX6_parse_2 rfl ?_
  refine g_aload_n C 4 1 rfl dX6_parse_3 rfl ?_
  refine g_alen C 5 1 ha_1 rfl rfl (100 : Int32) cn_100 dX6_parse_4 rfl ?_
  refine g_bipush C 7 (100 : Int32) cb_100 dX6_parse_5 rfl ?_
  refine cl_6_45 C 10 ⟨Nat.le_of_ble_eq_true rfl, Nat.le_of_ble_eq_true rfl⟩ ⟨Nat.zero_le _, Nat.zero_le _⟩ dX6_parse_7 rfl ?_
  refine cl_6_45 C 13 ⟨Nat.le_of_ble_eq_true rfl, Nat.le_of_ble_eq_true rfl⟩ ⟨Nat.zero_le _, Nat.zero_le _⟩ dX6_parse_10 rfl ?_
  refine cl_6_51 C 16 ⟨Nat.le_of_ble_eq_true rfl, Nat.le_of_ble_eq_true rfl⟩ ⟨Nat.zero_le _, Nat.zero_le _⟩ dX6_parse_13 rfl ?_
  refine pf_6_15 C 19 dX6_parse_16 rfl hz (fun S_1 hz => ?_)
  refine g_aload_n C 20 1 rfl dX6_parse_19 rfl ?_
  refine g_iconst C 21 (0 : Int32) ci_0 dX6_parse_20 rfl ?_
  refine g_aload_n C 22 0 rfl dX6_parse_21 rfl ?_
  refine gf_6_9 C 25 dX6_parse_22 rfl ?_
  refine g_iconst C 26 (0 : Int32) ci_0 dX6_parse_25 rfl ?_
  refine g_aload_n C 27 0 rfl dX6_parse_26 rfl ?_
  refine gf_6_15 C 30 dX6_parse_27 rfl ?_
  refine cl_6_54 C 33 ha_1 ha_4 ⟨Nat.le_of_ble_eq_true rfl, Nat.le_of_ble_eq_true rfl⟩ dX6_parse_30 rfl hz (fun S_2 hz => ?_)
  refine g_aload_n C 34 0 rfl dX6_parse_33 rfl ?_
  refine g_iconst C 35 (0 : Int32) ci_0 dX6_parse_34 rfl ?_
  refine pf_6_19 C 38 dX6_parse_35 rfl hz (fun S_3 hz => ?_)
  refine g_aload_n C 39 0 rfl dX6_parse_38 rfl ?_
  refine g_iconst C 40 (0 : Int32) ci_0 dX6_parse_39 rfl ?_
  refine pf_6_29 C 43 dX6_parse_40 rfl hz (fun S_4 hz => ?_)
  refine g_aload_n C 44 0 rfl dX6_parse_43 rfl ?_
  refine g_iconst C 45 (-1 : Int32) ci_m1 dX6_parse_44 rfl ?_
  refine pf_6_32 C 48 dX6_parse_45 rfl hz (fun S_5 hz => ?_)
  refine g_aload_n C 49 0 rfl dX6_parse_48 rfl ?_
  refine gf_6_25 C 52 dX6_parse_49 rfl ?_
  refine g_iconst C 53 (0 : Int32) ci_0 dX6_parse_52 rfl ?_
  refine pf_6_60 C 56 dX6_parse_53 rfl hz (fun S_6 hz => ?_)
  refine g_aload_n C 57 0 rfl dX6_parse_56 rfl ?_
  refine gf_6_25 C 60 dX6_parse_57 rfl ?_
  refine g_aload_n C 61 0 rfl dX6_parse_60 rfl ?_
  refine g_iconst C 62 (0 : Int32) ci_0 dX6_parse_61 rfl ?_
  refine cl_6_63 C 65 ⟨Nat.le_of_ble_eq_true rfl, Nat.le_of_ble_eq_true rfl⟩ ⟨Nat.zero_le _, Nat.zero_le _⟩ (Nat.le_of_ble_eq_true rfl) dX6_parse_62 rfl hz (fun r_8 S_7 hz => ?_)
  refine pf_6_67 C 68 dX6_parse_65 rfl hz (fun S_9 hz => ?_)
  refine g_aload_n C 69 0 rfl dX6_parse_68 rfl ?_
  refine gf_6_19 C 72 dX6_parse_69 rfl ?_
  refine g_aload_n C 73 0 rfl dX6_parse_72 rfl ?_
  refine gf_6_15 C 76 dX6_parse_73 rfl ?_
  refine g_icmp_ge C 84 79 dX6_parse_76 rfl rfl hz (fun hz => ?_) (fun hz => ?_)
  · refine g_lv [0] rfl ?_
    exact (t_X6_parse_L84 C hr) S_9 hz
  · refine g_aload_n C 80 0 rfl dX6_parse_79 rfl ?_
    refine g_iconst C 81 (1 : Int32) ci_1 dX6_parse_80 rfl ?_
    refine cl_6_71 C 84 ⟨Nat.le_of_ble_eq_true rfl, Nat.le_of_ble_eq_true rfl⟩ ⟨Nat.zero_le _, Nat.zero_le _⟩ (Nat.le_of_ble_eq_true rfl) dX6_parse_81 rfl hz (fun S_10 hz => ?_)
    refine g_lv [0] rfl ?_
    exact (t_X6_parse_L84 C hr) S_10 hz
theorem c_X6_parse (l : Launch) (D : va_G) (cy : Nat → ClassId) (ad : Nat → Nat) (n : Nat) (S : Sg) (sz : Nat) (x2 : Int32) (z : Int32 × Sg) (hz : f_X6_parse x2 S = some z) : Met l yX6_parse (.code yX6_parse cX6_parse 3 (some .boolean) :: wsAll) rm_X6_parse (gPc D cy ad n S sz [.ref (ad 3), .ref (ad 1), .int x2]) (gQ D cy ad n (va_A (wW cy ad n S) sz) (some (.int z.1)) z.2) 0 0 (va_A (wW cy ad n S) sz) := by
  refine gMet (lv := [(0, .ref (ad 3)), (1, .ref (ad 1)), (2, .int x2)]) (by decide) (Nat.le_of_ble_eq_true rfl) rfl ?_
  intro p e s m args below meth c A hA hr C
  exact t_X6_parse C hr hz
