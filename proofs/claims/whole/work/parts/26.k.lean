def rm_X6_group (rg0 : Room) : Room := { frames := rg0.frames + 2, cells := 0, slots := 0, locals := rg0.locals + 42 }
theorem wl_6_101 : Cond.methodLink RX6 101 yX6_part ∈ wsAll := wA 296 (by decide +kernel) (by decide +kernel)
theorem wi_X6_part : Cond.instanceMethod yX6_part ∈ wsAll := wA 298 (by decide +kernel) (by decide +kernel)
theorem we_X6_part : Cond.selects RX6 yX6_part yX6_part ∈ wsAll := wAp 9 (by decide +kernel) (by decide +kernel)
theorem wo_X6_part : Cond.code yX6_part cX6_part 6 none ∈ wsAll := wA 299 (by decide +kernel) (by decide +kernel)
theorem clr_6_101 {p : Program} {l : Launch} {e : Env} {R : Room} {s : State} {m : MethodId} {args : Array Value} {below : List Frame} {meth : Method} {c : Code} {cc : ByteArray} {nL : Nat} {D : va_G} {cy : Nat → ClassId} {ad : Nat → Nat} {n : Nat} {A : Nat → Prop} {mc ms : Nat} {Q : State → Prop} {S : Sg} {pc : Nat} {lv : List (Nat × Value)} {st : List Value} {ζ : Type} {z : ζ} (C : gC p s m args meth c cc nL RX6 D cy ad n A) (nx : Nat) {x1 : Int32} {g : Int32 → Sg → Option (Sg)} {rg : Room} (hrc : rg.cells = 0) (hrs : rg.slots = 0) (hg : ∀ (S : Sg) (sz : Nat) (x1 : Int32) (z : Sg), g x1 S = some z → Met l yX6_part (.code yX6_part cX6_part 6 none :: wsAll) rg (gPc D cy ad n S sz [.ref (ad 3), .int x1]) (gQ D cy ad n (va_A (wW cy ad n S) sz) none z) 0 0 (va_A (wW cy ad n S) sz)) (hR : Room.frames rg + 1 ≤ R.frames ∧ 8 + (6 + 11) + Room.locals rg ≤ R.locals) (hcm : mc ≤ R.cells ∧ ms ≤ R.slots) (hrest : (st.map fun v => v.category).sum ≤ 8) (hd : decode cc pc = .ok (.invokevirtual 101, 3)) (hn : pc + 3 = nx) {K : Sg → Option ζ} (hz : bd (g x1 S) K = some z) (kk : ∀ S', K S' = some z → gW p l e R s m args below meth c D cy ad n A nL mc ms Q S' nx lv st) : gW p l e R s m args below meth c D cy ad n A nL mc ms Q S pc lv (.int x1 :: .ref (ad 3) :: st) := by
  obtain ⟨q, hq, hk⟩ := bd_s hz
  exact g_callV C (i := 3) (ci := 6) (Cn := RX6) (T := TX6) (N := 9) (y := yX6_part) (rm := rg) (As := [.int x1]) (rest := st) (na := 1) (fun sz => hg S sz x1 q hq) ha_3 rfl rfl wl_6_101 wi_X6_part we_X6_part wz_6 wo_X6_part (by decide +kernel) hrc hrs hR hcm rfl hrest hn hd (kk q hk)
set_option maxRecDepth 20000 in
theorem t_X6_group {p : Program} {l : Launch} {e : Env} {s : State} {m : MethodId} {args : Array Value} {below : List Frame} {meth : Method} {c : Code} {D : va_G} {cy : Nat → ClassId} {ad : Nat → Nat} {n : Nat} {A : Nat → Prop} {g0 : Int32 → Sg → Option (Sg)} {rg0 : Room} (hcg0 : rg0.cells = 0) (hsg0 : rg0.slots = 0) (hg0 : ∀ (S : Sg) (sz : Nat) (x1 : Int32) (z : Sg), g0 x1 S = some z → Met l yX6_part (.code yX6_part cX6_part 6 none :: wsAll) rg0 (gPc D cy ad n S sz [.ref (ad 3), .int x1]) (gQ D cy ad n (va_A (wW cy ad n S) sz) none z) 0 0 (va_A (wW cy ad n S) sz)) (C : gC p s m args meth c cX6_group 2 RX6 D cy ad n A) (hr : meth.sig.returnType = none) {z : Sg} {S : Sg} {x1 : Int32} (hz : f_X6_group g0 x1 S = some z) : gW p l e (rm_X6_group rg0) s m args below meth c D cy ad n A 2 0 0 (MQ below (gQ D cy ad n A none z) args s 0 0 A) S 0 [(0, .ref (ad 3)), (1, .int x1)] [] := by
  unfold f_X6_group at hz
  refine g_iload_n C 1 1 rfl dX6_group_0 rfl ?_
  refine g_bipush C 3 (10 : Int32) cb_10 dX6_group_1 rfl ?_
  refine g_icmp_lt C 12 6 dX6_group_3 rfl rfl hz (fun hz => ?_) (fun hz => ?_)
  · refine g_aload_n C 13 0 rfl dX6_group_12 rfl ?_
    refine g_dup C 14 rfl dX6_group_13 rfl ?_
    refine gf_6_19 C 17 dX6_group_14 rfl ?_
    refine g_iconst C 18 (1 : Int32) ci_1 dX6_group_17 rfl ?_
    refine g_iadd C 19 dX6_group_18 rfl ?_
    refine pf_6_19 C 22 dX6_group_19 rfl hz (fun S_1 hz => ?_)
    refine g_aload_n C 23 0 rfl dX6_group_22 rfl ?_
    refine g_iload_n C 24 1 rfl dX6_group_23 rfl ?_
    refine g_iconst C 25 (1 : Int32) ci_1 dX6_group_24 rfl ?_
    refine g_iadd C 26 dX6_group_25 rfl ?_
    refine clr_6_101 C 29 hcg0 hsg0 hg0 ⟨Nat.add_le_add_left (by decide) _, by show 8 + (6 + 11) + Room.locals rg0 ≤ Room.locals rg0 + 42; omega⟩ ⟨Nat.zero_le _, Nat.zero_le _⟩ (Nat.le_of_ble_eq_true rfl) dX6_group_26 rfl hz (fun S_2 hz => ?_)
    refine g_aload_n C 30 0 rfl dX6_group_29 rfl ?_
    refine g_bipush C 32 (41 : Int32) cb_41 dX6_group_30 rfl ?_
    refine cl_6_91 C 35 ⟨Nat.le_trans (Nat.le_of_ble_eq_true rfl : Room.frames rm_X6_pass + 1 ≤ 2) (Nat.le_add_left _ _), Nat.le_trans (Nat.le_of_ble_eq_true rfl : 8 + (2 + 11) + Room.locals rm_X6_pass ≤ 42) (Nat.le_add_left _ _)⟩ ⟨Nat.zero_le _, Nat.zero_le _⟩ (Nat.le_of_ble_eq_true rfl) dX6_group_32 rfl hz (fun S_3 hz => ?_)
    exact g_vret C hr dX6_group_35 hz
  · refine g_aload_n C 7 0 rfl dX6_group_6 rfl ?_
    refine g_iconst C 8 (2 : Int32) ci_2 dX6_group_7 rfl ?_
    refine cl_6_71 C 11 ⟨Nat.le_trans (Nat.le_of_ble_eq_true rfl : Room.frames rm_X6_refuse + 1 ≤ 2) (Nat.le_add_left _ _), Nat.le_trans (Nat.le_of_ble_eq_true rfl : 8 + (2 + 11) + Room.locals rm_X6_refuse ≤ 42) (Nat.le_add_left _ _)⟩ ⟨Nat.zero_le _, Nat.zero_le _⟩ (Nat.le_of_ble_eq_true rfl) dX6_group_8 rfl hz (fun S_4 hz => ?_)
    exact g_vret C hr dX6_group_11 hz
theorem c_X6_group {l : Launch} {D : va_G} {cy : Nat → ClassId} {ad : Nat → Nat} {n : Nat} {g0 : Int32 → Sg → Option (Sg)} {rg0 : Room} (hcg0 : rg0.cells = 0) (hsg0 : rg0.slots = 0) (hg0 : ∀ (S : Sg) (sz : Nat) (x1 : Int32) (z : Sg), g0 x1 S = some z → Met l yX6_part (.code yX6_part cX6_part 6 none :: wsAll) rg0 (gPc D cy ad n S sz [.ref (ad 3), .int x1]) (gQ D cy ad n (va_A (wW cy ad n S) sz) none z) 0 0 (va_A (wW cy ad n S) sz)) (S : Sg) (sz : Nat) (x1 : Int32) (z : Sg) (hz : f_X6_group g0 x1 S = some z) : Met l yX6_group (.code yX6_group cX6_group 2 none :: wsAll) (rm_X6_group rg0) (gPc D cy ad n S sz [.ref (ad 3), .int x1]) (gQ D cy ad n (va_A (wW cy ad n S) sz) none z) 0 0 (va_A (wW cy ad n S) sz) := by
  refine gMet (lv := [(0, .ref (ad 3)), (1, .int x1)]) (by decide) (Nat.le_of_ble_eq_true rfl) rfl ?_
  intro p e s m args below meth c A hA hr C
  exact t_X6_group hcg0 hsg0 hg0 C hr hz
def rm_X6_atom (rg0 : Room) : Room := { frames := rg0.frames + 3, cells := 0, slots := 0, locals := rg0.locals + 66 }
theorem wl_6_115 : Cond.methodLink RX6 115 yX6_setPiece ∈ wsAll := wA 320 (by decide +kernel) (by decide +kernel)
theorem wi_X6_setPiece : Cond.instanceMethod yX6_setPiece ∈ wsAll := wA 322 (by decide +kernel) (by decide +kernel)
theorem we_X6_setPiece : Cond.selects RX6 yX6_setPiece yX6_setPiece ∈ wsAll := wAp 15 (by decide +kernel) (by decide +kernel)
theorem wo_X6_setPiece : Cond.code yX6_setPiece cX6_setPiece 4 none ∈ wsAll := wA 323 (by decide +kernel) (by decide +kernel)
theorem cl_6_115 {p : Program} {l : Launch} {e : Env} {R : Room} {s : State} {m : MethodId} {args : Array Value} {below : List Frame} {meth : Method} {c : Code} {cc : ByteArray} {nL : Nat} {D : va_G} {cy : Nat → ClassId} {ad : Nat → Nat} {n : Nat} {A : Nat → Prop} {mc ms : Nat} {Q : State → Prop} {S : Sg} {pc : Nat} {lv : List (Nat × Value)} {st : List Value} {ζ : Type} {z : ζ} (C : gC p s m args meth c cc nL RX6 D cy ad n A) (nx : Nat) {x1 : Int32} {x2 : Int32} {x3 : Int32} (hR : Room.frames rm_X6_setPiece + 1 ≤ R.frames ∧ 8 + (4 + 11) + Room.locals rm_X6_setPiece ≤ R.locals) (hcm : mc ≤ R.cells ∧ ms ≤ R.slots) (hrest : (st.map fun v => v.category).sum ≤ 8) (hd : decode cc pc = .ok (.invokevirtual 115, 3)) (hn : pc + 3 = nx) {K : Sg → Option ζ} (hz : bd (f_X6_setPiece x1 x2 x3 S) K = some z) (kk : ∀ S', K S' = some z → gW p l e R s m args below meth c D cy ad n A nL mc ms Q S' nx lv st) : gW p l e R s m args below meth c D cy ad n A nL mc ms Q S pc lv (.int x3 :: .int x2 :: .int x1 :: .ref (ad 3) :: st) := by
  obtain ⟨q, hq, hk⟩ := bd_s hz
  exact g_callV C (i := 3) (ci := 6) (Cn := RX6) (T := TX6) (N := 9) (y := yX6_setPiece) (rm := rm_X6_setPiece) (As := [.int x1, .int x2, .int x3]) (rest := st) (na := 3) (fun sz => c_X6_setPiece l D cy ad n S sz x1 x2 x3 q hq) ha_3 rfl rfl wl_6_115 wi_X6_setPiece we_X6_setPiece wz_6 wo_X6_setPiece (by decide +kernel) rfl rfl hR hcm rfl hrest hn hd (kk q hk)
theorem wl_6_94 : Cond.methodLink RX6 94 yX6_beginsAtom ∈ wsAll := wA 282 (by decide +kernel) (by decide +kernel)
theorem ws_X6_beginsAtom : Cond.static yX6_beginsAtom ∈ wsAll := wA 283 (by decide +kernel) (by decide +kernel)
theorem wo_X6_beginsAtom : Cond.code yX6_beginsAtom cX6_beginsAtom 1 (some .boolean) ∈ wsAll := wA 284 (by decide +kernel) (by decide +kernel)
theorem cl_6_94 {p : Program} {l : Launch} {e : Env} {R : Room} {s : State} {m : MethodId} {args : Array Value} {below : List Frame} {meth : Method} {c : Code} {cc : ByteArray} {nL : Nat} {D : va_G} {cy : Nat → ClassId} {ad : Nat → Nat} {n : Nat} {A : Nat → Prop} {mc ms : Nat} {Q : State → Prop} {S : Sg} {pc : Nat} {lv : List (Nat × Value)} {st : List Value} {ζ : Type} {z : ζ} (C : gC p s m args meth c cc nL RX6 D cy ad n A) (nx : Nat) {x0 : Int32} (hR : Room.frames rm_X6_beginsAtom + 1 ≤ R.frames ∧ 8 + (1 + 11) + Room.locals rm_X6_beginsAtom ≤ R.locals) (hcm : mc ≤ R.cells ∧ ms ≤ R.slots) (hrest : (st.map fun v => v.category).sum ≤ 8) (hd : decode cc pc = .ok (.invokestatic 94, 3)) (hn : pc + 3 = nx) {K : Int32 → Sg → Option ζ} (hz : bd2 (f_X6_beginsAtom x0 S) K = some z) (kk : ∀ r S', K r S' = some z → gW p l e R s m args below meth c D cy ad n A nL mc ms Q S' nx lv (.int r :: st)) : gW p l e R s m args below meth c D cy ad n A nL mc ms Q S pc lv (.int x0 :: st) := by
  obtain ⟨q, hq, hk⟩ := bd2_s hz
  exact g_callS C (y := yX6_beginsAtom) (rm := rm_X6_beginsAtom) (As := [.int x0]) (rest := st) (na := 1) (fun sz => c_X6_beginsAtom l D cy ad n S sz x0 q hq) wl_6_94 ws_X6_beginsAtom wz_6 wo_X6_beginsAtom (by decide +kernel) rfl rfl hR hcm rfl hrest hn hd (kk q.1 q.2 hk)
theorem wl_6_134 : Cond.methodLinkNest RX6 134 yX7_isFull "WordMachines" ∈ tables_1 := List.mem_of_getElem? (i := 324) (by decide +kernel)
theorem wi_X7_isFull : Cond.instanceMethod yX7_isFull ∈ wsAll := wA 326 (by decide +kernel) (by decide +kernel)
theorem we_X7_isFull : Cond.selects RX7 yX7_isFull yX7_isFull ∈ wsAll := wAp 16 (by decide +kernel) (by decide +kernel)
theorem wo_X7_isFull : Cond.code yX7_isFull cX7_isFull 1 (some .boolean) ∈ wsAll := wA 327 (by decide +kernel) (by decide +kernel)
theorem cl_6_134 {p : Program} {l : Launch} {e : Env} {R : Room} {s : State} {m : MethodId} {args : Array Value} {below : List Frame} {meth : Method} {c : Code} {cc : ByteArray} {nL : Nat} {D : va_G} {cy : Nat → ClassId} {ad : Nat → Nat} {n : Nat} {A : Nat → Prop} {mc ms : Nat} {Q : State → Prop} {S : Sg} {pc : Nat} {lv : List (Nat × Value)} {st : List Value} {ζ : Type} {z : ζ} (C : gC p s m args meth c cc nL RX6 D cy ad n A) (nx : Nat) (hR : Room.frames rm_X7_isFull + 1 ≤ R.frames ∧ 8 + (1 + 11) + Room.locals rm_X7_isFull ≤ R.locals) (hcm : mc ≤ R.cells ∧ ms ≤ R.slots) (hrest : (st.map fun v => v.category).sum ≤ 8) (hd : decode cc pc = .ok (.invokevirtual 134, 3)) (hn : pc + 3 = nx) {K : Int32 → Sg → Option ζ} (hz : bd2 (f_X7_isFull S) K = some z) (kk : ∀ r S', K r S' = some z → gW p l e R s m args below meth c D cy ad n A nL mc ms Q S' nx lv (.int r :: st)) : gW p l e R s m args below meth c D cy ad n A nL mc ms Q S pc lv (.ref (ad 5) :: st) := by
  obtain ⟨q, hq, hk⟩ := bd2_s hz
  exact g_callVN C (i := 5) (ci := 7) (Cn := RX7) (T := TX7) (N := 8) (y := yX7_isFull) (rm := rm_X7_isFull) (As := []) (rest := st) (na := 0) (fun sz => c_X7_isFull l D cy ad n S sz  q hq) ha_5 rfl rfl wl_6_134 wi_X7_isFull we_X7_isFull wz_7 wo_X7_isFull (by decide +kernel) rfl rfl hR hcm rfl hrest hn hd (kk q.1 q.2 hk)
theorem wl_6_145 : Cond.methodLinkNest RX6 145 yX7_addSpot "WordMachines" ∈ tables_1 := List.mem_of_getElem? (i := 339) (by decide +kernel)
theorem wi_X7_addSpot : Cond.instanceMethod yX7_addSpot ∈ wsAll := wA 341 (by decide +kernel) (by decide +kernel)
theorem we_X7_addSpot : Cond.selects RX7 yX7_addSpot yX7_addSpot ∈ wsAll := wAp 19 (by decide +kernel) (by decide +kernel)
theorem wo_X7_addSpot : Cond.code yX7_addSpot cX7_addSpot 5 (some .int) ∈ wsAll := wA 342 (by decide +kernel) (by decide +kernel)
theorem cl_6_145 {p : Program} {l : Launch} {e : Env} {R : Room} {s : State} {m : MethodId} {args : Array Value} {below : List Frame} {meth : Method} {c : Code} {cc : ByteArray} {nL : Nat} {D : va_G} {cy : Nat → ClassId} {ad : Nat → Nat} {n : Nat} {A : Nat → Prop} {mc ms : Nat} {Q : State → Prop} {S : Sg} {pc : Nat} {lv : List (Nat × Value)} {st : List Value} {ζ : Type} {z : ζ} (C : gC p s m args meth c cc nL RX6 D cy ad n A) (nx : Nat) {x1 : Int32} (hR : Room.frames rm_X7_addSpot + 1 ≤ R.frames ∧ 8 + (5 + 11) + Room.locals rm_X7_addSpot ≤ R.locals) (hcm : mc ≤ R.cells ∧ ms ≤ R.slots) (hrest : (st.map fun v => v.category).sum ≤ 8) (hd : decode cc pc = .ok (.invokevirtual 145, 3)) (hn : pc + 3 = nx) {K : Int32 → Sg → Option ζ} (hz : bd2 (f_X7_addSpot x1 S) K = some z) (kk : ∀ r S', K r S' = some z → gW p l e R s m args below meth c D cy ad n A nL mc ms Q S' nx lv (.int r :: st)) : gW p l e R s m args below meth c D cy ad n A nL mc ms Q S pc lv (.int x1 :: .ref (ad 5) :: st) := by
  obtain ⟨q, hq, hk⟩ := bd2_s hz
  exact g_callVN C (i := 5) (ci := 7) (Cn := RX7) (T := TX7) (N := 8) (y := yX7_addSpot) (rm := rm_X7_addSpot) (As := [.int x1]) (rest := st) (na := 1) (fun sz => c_X7_addSpot l D cy ad n S sz x1 q hq) ha_5 rfl rfl wl_6_145 wi_X7_addSpot we_X7_addSpot wz_7 wo_X7_addSpot (by decide +kernel) rfl rfl hR hcm rfl hrest hn hd (kk q.1 q.2 hk)
theorem wl_6_138 : Cond.methodLink RX6 138 yX6_bracket ∈ wsAll := wA 328 (by decide +kernel) (by decide +kernel)
theorem wi_X6_bracket : Cond.instanceMethod yX6_bracket ∈ wsAll := wA 330 (by decide +kernel) (by decide +kernel)
theorem we_X6_bracket : Cond.selects RX6 yX6_bracket yX6_bracket ∈ wsAll := wAp 17 (by decide +kernel) (by decide +kernel)
theorem wo_X6_bracket : Cond.code yX6_bracket cX6_bracket 4 (some .int) ∈ wsAll := wA 331 (by decide +kernel) (by decide +kernel)
theorem cl_6_138 {p : Program} {l : Launch} {e : Env} {R : Room} {s : State} {m : MethodId} {args : Array Value} {below : List Frame} {meth : Method} {c : Code} {cc : ByteArray} {nL : Nat} {D : va_G} {cy : Nat → ClassId} {ad : Nat → Nat} {n : Nat} {A : Nat → Prop} {mc ms : Nat} {Q : State → Prop} {S : Sg} {pc : Nat} {lv : List (Nat × Value)} {st : List Value} {ζ : Type} {z : ζ} (C : gC p s m args meth c cc nL RX6 D cy ad n A) (nx : Nat) (hR : Room.frames rm_X6_bracket + 1 ≤ R.frames ∧ 8 + (4 + 11) + Room.locals rm_X6_bracket ≤ R.locals) (hcm : mc ≤ R.cells ∧ ms ≤ R.slots) (hrest : (st.map fun v => v.category).sum ≤ 8) (hd : decode cc pc = .ok (.invokevirtual 138, 3)) (hn : pc + 3 = nx) {K : Int32 → Sg → Option ζ} (hz : bd2 (f_X6_bracket S) K = some z) (kk : ∀ r S', K r S' = some z → gW p l e R s m args below meth c D cy ad n A nL mc ms Q S' nx lv (.int r :: st)) : gW p l e R s m args below meth c D cy ad n A nL mc ms Q S pc lv (.ref (ad 3) :: st) := by
  obtain ⟨q, hq, hk⟩ := bd2_s hz
  exact g_callV C (i := 3) (ci := 6) (Cn := RX6) (T := TX6) (N := 9) (y := yX6_bracket) (rm := rm_X6_bracket) (As := []) (rest := st) (na := 0) (fun sz => c_X6_bracket l D cy ad n S sz  q hq) ha_3 rfl rfl wl_6_138 wi_X6_bracket we_X6_bracket wz_6 wo_X6_bracket (by decide +kernel) rfl rfl hR hcm rfl hrest hn hd (kk q.1 q.2 hk)
theorem wl_6_131 : Cond.methodLink RX6 131 yX6_group ∈ wsAll := wA 312 (by decide +kernel) (by decide +kernel)
theorem wi_X6_group : Cond.instanceMethod yX6_group ∈ wsAll := wA 314 (by decide +kernel) (by decide +kernel)
theorem we_X6_group : Cond.selects RX6 yX6_group yX6_group ∈ wsAll := wAp 13 (by decide +kernel) (by decide +kernel)
theorem wo_X6_group : Cond.code yX6_group cX6_group 2 none ∈ wsAll := wA 315 (by decide +kernel) (by decide +kernel)
theorem clr_6_131 {p : Program} {l : Launch} {e : Env} {R : Room} {s : State} {m : MethodId} {args : Array Value} {below : List Frame} {meth : Method} {c : Code} {cc : ByteArray} {nL : Nat} {D : va_G} {cy : Nat → ClassId} {ad : Nat → Nat} {n : Nat} {A : Nat → Prop} {mc ms : Nat} {Q : State → Prop} {S : Sg} {pc : Nat} {lv : List (Nat × Value)} {st : List Value} {ζ : Type} {z : ζ} (C : gC p s m args meth c cc nL RX6 D cy ad n A) (nx : Nat) {x1 : Int32} {g : Int32 → Sg → Option (Sg)} {rg : Room} (hrc : rg.cells = 0) (hrs : rg.slots = 0) (hg : ∀ (S : Sg) (sz : Nat) (x1 : Int32) (z : Sg), g x1 S = some z → Met l yX6_group (.code yX6_group cX6_group 2 none :: wsAll) rg (gPc D cy ad n S sz [.ref (ad 3), .int x1]) (gQ D cy ad n (va_A (wW cy ad n S) sz) none z) 0 0 (va_A (wW cy ad n S) sz)) (hR : Room.frames rg + 1 ≤ R.frames ∧ 8 + (2 + 11) + Room.locals rg ≤ R.locals) (hcm : mc ≤ R.cells ∧ ms ≤ R.slots) (hrest : (st.map fun v => v.category).sum ≤ 8) (hd : decode cc pc = .ok (.invokevirtual 131, 3)) (hn : pc + 3 = nx) {K : Sg → Option ζ} (hz : bd (g x1 S) K = some z) (kk : ∀ S', K S' = some z → gW p l e R s m args below meth c D cy ad n A nL mc ms Q S' nx lv st) : gW p l e R s m args below meth c D cy ad n A nL mc ms Q S pc lv (.int x1 :: .ref (ad 3) :: st) := by
  obtain ⟨q, hq, hk⟩ := bd_s hz
  exact g_callV C (i := 3) (ci := 6) (Cn := RX6) (T := TX6) (N := 9) (y := yX6_group) (rm := rg) (As := [.int x1]) (rest := st) (na := 1) (fun sz => hg S sz x1 q hq) ha_3 rfl rfl wl_6_131 wi_X6_group we_X6_group wz_6 wo_X6_group (by decide +kernel) hrc hrs hR hcm rfl hrest hn hd (kk q hk)
set_option maxRecDepth 20000 in
theorem t_X6_atom_L31 {p : Program} {l : Launch} {e : Env} {s : State} {m : MethodId} {args : Array Value} {below : List Frame} {meth : Method} {c : Code} {D : va_G} {cy : Nat → ClassId} {ad : Nat → Nat} {n : Nat} {A : Nat → Prop} {g0 : Int32 → Sg → Option (Sg)} {rg0 : Room} (hcg0 : rg0.cells = 0) (hsg0 : rg0.slots = 0) (hg0 : ∀ (S : Sg) (sz : Nat) (x1 : Int32) (z : Sg), g0 x1 S = some z → Met l yX6_group (.code yX6_group cX6_group 2 none :: wsAll) rg0 (gPc D cy ad n S sz [.ref (ad 3), .int x1]) (gQ D cy ad n (va_A (wW cy ad n S) sz) none z) 0 0 (va_A (wW cy ad n S) sz)) (C : gC p s m args meth c cX6_atom 4 RX6 D cy ad n A) (hr : meth.sig.returnType = none) {z : Sg} : ∀ (x2 : Int32) (S : Sg), f_X6_atom_L31 g0 x2 S = some z → gW p l e (rm_X6_atom rg0) s m args below meth c D cy ad n A 4 0 0 (MQ below (gQ D cy ad n A none z) args s 0 0 A) S 31 [(0, .ref (ad 3)), (2, .int x2)] [] := by
  intro x2 S hz
  unfold f_X6_atom_L31 at hz
  refine g_aload_n C 32 0 rfl dX6_atom_31 rfl ?_
  refine g_dup C 33 rfl dX6_atom_32 rfl ?_
  refine gf_6_19 C 36 dX6_atom_33 rfl ?_
  refine g_iconst C 37 (1 : Int32) ci_1 dX6_atom_36 rfl ?_
  refine g_iadd C 38 dX6_atom_37 rfl ?_
  refine pf_6_19 C 41 dX6_atom_38 rfl hz (fun S_4 hz => ?_)
  refine g_aload_n C 42 0 rfl dX6_atom_41 rfl ?_
  refine g_iconst C 43 (0 : Int32) ci_0 dX6_atom_42 rfl ?_
  refine g_iconst C 44 (0 : Int32) ci_0 dX6_atom_43 rfl ?_
  refine g_iload_n C 45 1 rfl dX6_atom_44 rfl ?_
  refine g_bipush C 47 (49 : Int32) cb_49 dX6_atom_45 rfl ?_
  refine g_icmp_ne C 54 50 dX6_atom_47 rfl rfl hz (fun hz => ?_) (fun hz => ?_)
  · refine g_iconst C 55 (0 : Int32) ci_0 dX6_atom_54 rfl ?_
    refine cl_6_115 C 58 ⟨Nat.le_trans (Nat.le_of_ble_eq_true rfl : Room.frames rm_X6_setPiece + 1 ≤ 3) (Nat.le_add_left _ _), Nat.le_trans (Nat.le_of_ble_eq_true rfl : 8 + (4 + 11) + Room.locals rm_X6_setPiece ≤ 66) (Nat.le_add_left _ _)⟩ ⟨Nat.zero_le _, Nat.zero_le _⟩ (Nat.le_of_ble_eq_true rfl) dX6_atom_55 rfl hz (fun S_5 hz => ?_)
    refine g_goto C 136 dX6_atom_58 rfl ?_
    exact g_vret C hr dX6_atom_136 hz
  · refine g_iconst C 51 (1 : Int32) ci_1 dX6_atom_50 rfl ?_
    refine g_goto C 55 dX6_atom_51 rfl ?_
    refine cl_6_115 C 58 ⟨Nat.le_trans (Nat.le_of_ble_eq_true rfl : Room.frames rm_X6_setPiece + 1 ≤ 3) (Nat.le_add_left _ _), Nat.le_trans (Nat.le_of_ble_eq_true rfl : 8 + (4 + 11) + Room.locals rm_X6_setPiece ≤ 66) (Nat.le_add_left _ _)⟩ ⟨Nat.zero_le _, Nat.zero_le _⟩ (Nat.le_of_ble_eq_true rfl) dX6_atom_55 rfl hz (fun S_6 hz => ?_)
    refine g_goto C 136 dX6_atom_58 rfl ?_
    exact g_vret C hr dX6_atom_136 hz
set_option maxRecDepth 20000 in
theorem t_X6_atom_L125 {p : Program} {l : Launch} {e : Env} {s : State} {m : MethodId} {args : Array Value} {below : List Frame} {meth : Method} {c : Code} {D : va_G} {cy : Nat → ClassId} {ad : Nat → Nat} {n : Nat} {A : Nat → Prop} {g0 : Int32 → Sg → Option (Sg)} {rg0 : Room} (hcg0 : rg0.cells = 0) (hsg0 : rg0.slots = 0) (hg0 : ∀ (S : Sg) (sz : Nat) (x1 : Int32) (z : Sg), g0 x1 S = some z → Met l yX6_group (.code yX6_group cX6_group 2 none :: wsAll) rg0 (gPc D cy ad n S sz [.ref (ad 3), .int x1]) (gQ D cy ad n (va_A (wW cy ad n S) sz) none z) 0 0 (va_A (wW cy ad n S) sz)) (C : gC p s m args meth c cX6_atom 4 RX6 D cy ad n A) (hr : meth.sig.returnType = none) {z : Sg} : ∀ (t0 : Int32) (S : Sg), f_X6_atom_L125 g0 t0 S = some z → gW p l e (rm_X6_atom rg0) s m args below meth c D cy ad n A 4 0 0 (MQ below (gQ D cy ad n A none z) args s 0 0 A) S 125 [(0, .ref (ad 3))] [.int t0, .ref (ad 5)] := by
  intro t0 S hz
  unfold f_X6_atom_L125 at hz
  refine cl_6_145 C 128 ⟨Nat.le_trans (Nat.le_of_ble_eq_true rfl : Room.frames rm_X7_addSpot + 1 ≤ 3) (Nat.le_add_left _ _), Nat.le_trans (Nat.le_of_ble_eq_true rfl : 8 + (5 + 11) + Room.locals rm_X7_addSpot ≤ 66) (Nat.le_add_left _ _)⟩ ⟨Nat.zero_le _, Nat.zero_le _⟩ (Nat.le_of_ble_eq_true rfl) dX6_atom_125 rfl hz (fun r_15 S_14 hz => ?_)
  refine g_istore_n C 129 (i := 3) [1, 0] (fun x3_16 => [(0, .ref (ad 3)), (3, .int x3_16)]) dX6_atom_128 rfl rfl (by decide) (fun x3_16 => rfl) hz (fun x3_16 hz => ?_)
  refine g_aload_n C 130 0 rfl dX6_atom_129 rfl ?_
  refine g_iload_n C 131 1 rfl dX6_atom_130 rfl ?_
  refine g_iload_n C 132 1 rfl dX6_atom_131 rfl ?_
  refine g_iconst C 133 (0 : Int32) ci_0 dX6_atom_132 rfl ?_
  refine cl_6_115 C 136 ⟨Nat.le_trans (Nat.le_of_ble_eq_true rfl : Room.frames rm_X6_setPiece + 1 ≤ 3) (Nat.le_add_left _ _), Nat.le_trans (Nat.le_of_ble_eq_true rfl : 8 + (4 + 11) + Room.locals rm_X6_setPiece ≤ 66) (Nat.le_add_left _ _)⟩ ⟨Nat.zero_le _, Nat.zero_le _⟩ (Nat.le_of_ble_eq_true rfl) dX6_atom_133 rfl hz (fun S_17 hz => ?_)
  exact g_vret C hr dX6_atom_136 hz
set_option maxRecDepth 20000 in
theorem t_X6_atom {p : Program} {l : Launch} {e : Env} {s : State} {m : MethodId} {args : Array Value} {below : List Frame} {meth : Method} {c : Code} {D : va_G} {cy : Nat → ClassId} {ad : Nat → Nat} {n : Nat} {A : Nat → Prop} {g0 : Int32 → Sg → Option (Sg)} {rg0 : Room} (hcg0 : rg0.cells = 0) (hsg0 : rg0.slots = 0) (hg0 : ∀ (S : Sg) (sz : Nat) (x1 : Int32) (z : Sg), g0 x1 S = some z → Met l yX6_group (.code yX6_group cX6_group 2 none :: wsAll) rg0 (gPc D cy ad n S sz [.ref (ad 3), .int x1]) (gQ D cy ad n (va_A (wW cy ad n S) sz) none z) 0 0 (va_A (wW cy ad n S) sz)) (C : gC p s m args meth c cX6_atom 4 RX6 D cy ad n A) (hr : meth.sig.returnType = none) {z : Sg} {S : Sg} {x1 : Int32} (hz : f_X6_atom g0 x1 S = some z) : gW p l e (rm_X6_atom rg0) s m args below meth c D cy ad n A 4 0 0 (MQ below (gQ D cy ad n A none z) args s 0 0 A) S 0 [(0, .ref (ad 3)), (1, .int x1)] [] := by
  unfold f_X6_atom at hz
  refine g_aload_n C 1 0 rfl dX6_atom_0 rfl ?_
  refine cl_6_75 C 4 ⟨Nat.le_trans (Nat.le_of_ble_eq_true rfl : Room.frames rm_X6_sign + 1 ≤ 3) (Nat.le_add_left _ _), Nat.le_trans (Nat.le_of_ble_eq_true rfl : 8 + (1 + 11) + Room.locals rm_X6_sign ≤ 66) (Nat.le_add_left _ _)⟩ ⟨Nat.zero_le _, Nat.zero_le _⟩ (Nat.le_of_ble_eq_true rfl) dX6_atom_1 rfl hz (fun r_2 S_1 hz => ?_)
  refine g_istore_n C 5 (i := 2) [1, 2, 0] (fun x2_3 => [(0, .ref (ad 3)), (1, .int x1), (2, .int x2_3)]) dX6_atom_4 rfl rfl (by decide) (fun x2_3 => rfl) hz (fun x2_3 hz => ?_)
  refine g_iload_n C 6 2 rfl dX6_atom_5 rfl ?_
  refine g_bipush C 8 (40 : Int32) cb_40 dX6_atom_6 rfl ?_
  refine g_icmp_ne C 19 11 dX6_atom_8 rfl rfl hz (fun hz => ?_) (fun hz => ?_)
  · refine g_iload_n C 20 2 rfl dX6_atom_19 rfl ?_
    refine g_bipush C 22 (48 : Int32) cb_48 dX6_atom_20 rfl ?_
    refine g_icmp_eq C 31 25 dX6_atom_22 rfl rfl hz (fun hz => ?_) (fun hz => ?_)
    · refine g_lv [0, 2] rfl ?_
      exact (t_X6_atom_L31 hcg0 hsg0 hg0 C hr) x2_3 S_1 hz
    · refine g_iload_n C 26 2 rfl dX6_atom_25 rfl ?_
      refine g_bipush C 28 (49 : Int32) cb_49 dX6_atom_26 rfl ?_
      refine g_icmp_ne C 61 31 dX6_atom_28 rfl rfl hz (fun hz => ?_) (fun hz => ?_)
      · refine g_iload_n C 62 2 rfl dX6_atom_61 rfl ?_
        refine cl_6_94 C 65 ⟨Nat.le_trans (Nat.le_of_ble_eq_true rfl : Room.frames rm_X6_beginsAtom + 1 ≤ 3) (Nat.le_add_left _ _), Nat.le_trans (Nat.le_of_ble_eq_true rfl : 8 + (1 + 11) + Room.locals rm_X6_beginsAtom ≤ 66) (Nat.le_add_left _ _)⟩ ⟨Nat.zero_le _, Nat.zero_le _⟩ (Nat.le_of_ble_eq_true rfl) dX6_atom_62 rfl hz (fun r_8 S_7 hz => ?_)
        refine g_if_ne C 76 68 dX6_atom_65 rfl rfl hz (fun hz => ?_) (fun hz => ?_)
        · refine g_aload_n C 77 0 rfl dX6_atom_76 rfl ?_
          refine gf_6_25 C 80 dX6_atom_77 rfl ?_
          refine cl_6_134 C 83 ⟨Nat.le_trans (Nat.le_of_ble_eq_true rfl : Room.frames rm_X7_isFull + 1 ≤ 3) (Nat.le_add_left _ _), Nat.le_trans (Nat.le_of_ble_eq_true rfl : 8 + (1 + 11) + Room.locals rm_X7_isFull ≤ 66) (Nat.le_add_left _ _)⟩ ⟨Nat.zero_le _, Nat.zero_le _⟩ (Nat.le_of_ble_eq_true rfl) dX6_atom_80 rfl hz (fun r_10 S_9 hz => ?_)
          refine g_if_eq C 94 86 dX6_atom_83 rfl rfl hz (fun hz => ?_) (fun hz => ?_)
          · refine g_aload_n C 95 0 rfl dX6_atom_94 rfl ?_
            refine g_dup C 96 rfl dX6_atom_95 rfl ?_
            refine gf_6_19 C 99 dX6_atom_96 rfl ?_
            refine g_iconst C 100 (1 : Int32) ci_1 dX6_atom_99 rfl ?_
            refine g_iadd C 101 dX6_atom_100 rfl ?_
            refine pf_6_19 C 104 dX6_atom_101 rfl hz (fun S_11 hz => ?_)
            refine g_aload_n C 105 0 rfl dX6_atom_104 rfl ?_
            refine gf_6_25 C 108 dX6_atom_105 rfl ?_
            refine g_iload_n C 109 2 rfl dX6_atom_108 rfl ?_
            refine g_bipush C 111 (91 : Int32) cb_91 dX6_atom_109 rfl ?_
            refine g_icmp_ne C 121 114 dX6_atom_111 rfl rfl hz (fun hz => ?_) (fun hz => ?_)
            · refine g_iload_n C 122 2 rfl dX6_atom_121 rfl ?_
              refine cl_6_141 C 125 ⟨Nat.le_trans (Nat.le_of_ble_eq_true rfl : Room.frames rm_X6_lettersOf + 1 ≤ 3) (Nat.le_add_left _ _), Nat.le_trans (Nat.le_of_ble_eq_true rfl : 8 + (1 + 11) + Room.locals rm_X6_lettersOf ≤ 66) (Nat.le_add_left _ _)⟩ ⟨Nat.zero_le _, Nat.zero_le _⟩ (Nat.le_of_ble_eq_true rfl) dX6_atom_122 rfl hz (fun r_13 S_12 hz => ?_)
              refine g_lv [0] rfl ?_
              exact (t_X6_atom_L125 hcg0 hsg0 hg0 C hr) r_13 S_12 hz
            · refine g_aload_n C 115 0 rfl dX6_atom_114 rfl ?_
              refine cl_6_138 C 118 ⟨Nat.le_trans (Nat.le_of_ble_eq_true rfl : Room.frames rm_X6_bracket + 1 ≤ 3) (Nat.le_add_left _ _), Nat.le_trans (Nat.le_of_ble_eq_true rfl : 8 + (4 + 11) + Room.locals rm_X6_bracket ≤ 66) (Nat.le_add_left _ _)⟩ ⟨Nat.zero_le _, Nat.zero_le _⟩ (Nat.le_of_ble_eq_true rfl) dX6_atom_115 rfl hz (fun r_19 S_18 hz => ?_)
              refine g_goto C 125 dX6_atom_118 rfl ?_
              refine g_lv [0] rfl ?_
              exact (t_X6_atom_L125 hcg0 hsg0 hg0 C hr) r_19 S_18 hz
          · refine g_aload_n C 87 0 rfl dX6_atom_86 rfl ?_
            refine g_iconst C 88 (2 : Int32) ci_2 dX6_atom_87 rfl ?_
            refine cl_6_71 C 91 ⟨Nat.le_trans (Nat.le_of_ble_eq_true rfl : Room.frames rm_X6_refuse + 1 ≤ 3) (Nat.le_add_left _ _), Nat.le_trans (Nat.le_of_ble_eq_true rfl : 8 + (2 + 11) + Room.locals rm_X6_refuse ≤ 66) (Nat.le_add_left _ _)⟩ ⟨Nat.zero_le _, Nat.zero_le _⟩ (Nat.le_of_ble_eq_true rfl) dX6_atom_88 rfl hz (fun S_20 hz => ?_)
            refine g_goto C 136 dX6_atom_91 rfl ?_
            exact g_vret C hr dX6_atom_136 hz
        · refine g_aload_n C 69 0 rfl dX6_atom_68 rfl ?_
          refine g_iconst C 70 (1 : Int32) ci_1 dX6_atom_69 rfl ?_
          refine cl_6_71 C 73 ⟨Nat.le_trans (Nat.le_of_ble_eq_true rfl : Room.frames rm_X6_refuse + 1 ≤ 3) (Nat.le_add_left _ _), Nat.le_trans (Nat.le_of_ble_eq_true rfl : 8 + (2 + 11) + Room.locals rm_X6_refuse ≤ 66) (Nat.le_add_left _ _)⟩ ⟨Nat.zero_le _, Nat.zero_le _⟩ (Nat.le_of_ble_eq_true rfl) dX6_atom_70 rfl hz (fun S_21 hz => ?_)
          refine g_goto C 136 dX6_atom_73 rfl ?_
          exact g_vret C hr dX6_atom_136 hz
      · refine g_lv [0, 2] rfl ?_
        exact (t_X6_atom_L31 hcg0 hsg0 hg0 C hr) x2_3 S_1 hz
  · refine g_aload_n C 12 0 rfl dX6_atom_11 rfl ?_
    refine g_iload_n C 13 1 rfl dX6_atom_12 rfl ?_
    refine clr_6_131 C 16 hcg0 hsg0 hg0 ⟨Nat.add_le_add_left (by decide) _, by show 8 + (2 + 11) + Room.locals rg0 ≤ Room.locals rg0 + 66; omega⟩ ⟨Nat.zero_le _, Nat.zero_le _⟩ (Nat.le_of_ble_eq_true rfl) dX6_atom_13 rfl hz (fun S_22 hz => ?_)
    refine g_goto C 136 dX6_atom_16 rfl ?_
    exact g_vret C hr dX6_atom_136 hz
theorem c_X6_atom {l : Launch} {D : va_G} {cy : Nat → ClassId} {ad : Nat → Nat} {n : Nat} {g0 : Int32 → Sg → Option (Sg)} {rg0 : Room} (hcg0 : rg0.cells = 0) (hsg0 : rg0.slots = 0) (hg0 : ∀ (S : Sg) (sz : Nat) (x1 : Int32) (z : Sg), g0 x1 S = some z → Met l yX6_group (.code yX6_group cX6_group 2 none :: wsAll) rg0 (gPc D cy ad n S sz [.ref (ad 3), .int x1]) (gQ D cy ad n (va_A (wW cy ad n S) sz) none z) 0 0 (va_A (wW cy ad n S) sz)) (S : Sg) (sz : Nat) (x1 : Int32) (z : Sg) (hz : f_X6_atom g0 x1 S = some z) : Met l yX6_atom (.code yX6_atom cX6_atom 4 none :: wsAll) (rm_X6_atom rg0) (gPc D cy ad n S sz [.ref (ad 3), .int x1]) (gQ D cy ad n (va_A (wW cy ad n S) sz) none z) 0 0 (va_A (wW cy ad n S) sz) := by
  refine gMet (lv := [(0, .ref (ad 3)), (1, .int x1)]) (by decide) (Nat.le_of_ble_eq_true rfl) rfl ?_
  intro p e s m args below meth c A hA hr C
  exact t_X6_atom hcg0 hsg0 hg0 C hr hz
def rm_X6_item (rg0 : Room) : Room := { frames := rg0.frames + 1, cells := 0, slots := 0, locals := rg0.locals + 23 }
theorem wl_6_125 : Cond.methodLink RX6 125 yX6_atom ∈ wsAll := wA 308 (by decide +kernel) (by decide +kernel)
theorem wi_X6_atom : Cond.instanceMethod yX6_atom ∈ wsAll := wA 310 (by decide +kernel) (by decide +kernel)
theorem we_X6_atom : Cond.selects RX6 yX6_atom yX6_atom ∈ wsAll := wAp 12 (by decide +kernel) (by decide +kernel)
theorem wo_X6_atom : Cond.code yX6_atom cX6_atom 4 none ∈ wsAll := wA 311 (by decide +kernel) (by decide +kernel)
theorem clr_6_125 {p : Program} {l : Launch} {e : Env} {R : Room} {s : State} {m : MethodId} {args : Array Value} {below : List Frame} {meth : Method} {c : Code} {cc : ByteArray} {nL : Nat} {D : va_G} {cy : Nat → ClassId} {ad : Nat → Nat} {n : Nat} {A : Nat → Prop} {mc ms : Nat} {Q : State → Prop} {S : Sg} {pc : Nat} {lv : List (Nat × Value)} {st : List Value} {ζ : Type} {z : ζ} (C : gC p s m args meth c cc nL RX6 D cy ad n A) (nx : Nat) {x1 : Int32} {g : Int32 → Sg → Option (Sg)} {rg : Room} (hrc : rg.cells = 0) (hrs : rg.slots = 0) (hg : ∀ (S : Sg) (sz : Nat) (x1 : Int32) (z : Sg), g x1 S = some z → Met l yX6_atom (.code yX6_atom cX6_atom 4 none :: wsAll) rg (gPc D cy ad n S sz [.ref (ad 3), .int x1]) (gQ D cy ad n (va_A (wW cy ad n S) sz) none z) 0 0 (va_A (wW cy ad n S) sz)) (hR : Room.frames rg + 1 ≤ R.frames ∧ 8 + (4 + 11) + Room.locals rg ≤ R.locals) (hcm : mc ≤ R.cells ∧ ms ≤ R.slots) (hrest : (st.map fun v => v.category).sum ≤ 8) (hd : decode cc pc = .ok (.invokevirtual 125, 3)) (hn : pc + 3 = nx) {K : Sg → Option ζ} (hz : bd (g x1 S) K = some z) (kk : ∀ S', K S' = some z → gW p l e R s m args below meth c D cy ad n A nL mc ms Q S' nx lv st) : gW p l e R s m args below meth c D cy ad n A nL mc ms Q S pc lv (.int x1 :: .ref (ad 3) :: st) := by
  obtain ⟨q, hq, hk⟩ := bd_s hz
  exact g_callV C (i := 3) (ci := 6) (Cn := RX6) (T := TX6) (N := 9) (y := yX6_atom) (rm := rg) (As := [.int x1]) (rest := st) (na := 1) (fun sz => hg S sz x1 q hq) ha_3 rfl rfl wl_6_125 wi_X6_atom we_X6_atom wz_6 wo_X6_atom (by decide +kernel) hrc hrs hR hcm rfl hrest hn hd (kk q hk)
theorem wl_6_128 : Cond.methodLink RX6 128 yX6_isRepeat ∈ wsAll := wA 343 (by decide +kernel) (by decide +kernel)
theorem ws_X6_isRepeat : Cond.static yX6_isRepeat ∈ wsAll := wA 344 (by decide +kernel) (by decide +kernel)
theorem wo_X6_isRepeat : Cond.code yX6_isRepeat cX6_isRepeat 1 (some .boolean) ∈ wsAll := wA 345 (by decide +kernel) (by decide +kernel)
theorem cl_6_128 {p : Program} {l : Launch} {e : Env} {R : Room} {s : State} {m : MethodId} {args : Array Value} {below : List Frame} {meth : Method} {c : Code} {cc : ByteArray} {nL : Nat} {D : va_G} {cy : Nat → ClassId} {ad : Nat → Nat} {n : Nat} {A : Nat → Prop} {mc ms : Nat} {Q : State → Prop} {S : Sg} {pc : Nat} {lv : List (Nat × Value)} {st : List Value} {ζ : Type} {z : ζ} (C : gC p s m args meth c cc nL RX6 D cy ad n A) (nx : Nat) {x0 : Int32} (hR : Room.frames rm_X6_isRepeat + 1 ≤ R.frames ∧ 8 + (1 + 11) + Room.locals rm_X6_isRepeat ≤ R.locals) (hcm : mc ≤ R.cells ∧ ms ≤ R.slots) (hrest : (st.map fun v => v.category).sum ≤ 8) (hd : decode cc pc = .ok (.invokestatic 128, 3)) (hn : pc + 3 = nx) {K : Int32 → Sg → Option ζ} (hz : bd2 (f_X6_isRepeat x0 S) K = some z) (kk : ∀ r S', K r S' = some z → gW p l e R s m args below meth c D cy ad n A nL mc ms Q S' nx lv (.int r :: st)) : gW p l e R s m args below meth c D cy ad n A nL mc ms Q S pc lv (.int x0 :: st) := by
  obtain ⟨q, hq, hk⟩ := bd2_s hz
  exact g_callS C (y := yX6_isRepeat) (rm := rm_X6_isRepeat) (As := [.int x0]) (rest := st) (na := 1) (fun sz => c_X6_isRepeat l D cy ad n S sz x0 q hq) wl_6_128 ws_X6_isRepeat wz_6 wo_X6_isRepeat (by decide +kernel) rfl rfl hR hcm rfl hrest hn hd (kk q.1 q.2 hk)
theorem wl_6_121 : Cond.methodLinkNest RX6 121 yX7_link "WordMachines" ∈ tables_1 := List.mem_of_getElem? (i := 346) (by decide +kernel)
theorem wi_X7_link : Cond.instanceMethod yX7_link ∈ wsAll := wA 348 (by decide +kernel) (by decide +kernel)
theorem we_X7_link : Cond.selects RX7 yX7_link yX7_link ∈ wsAll := wAp 20 (by decide +kernel) (by decide +kernel)
theorem wo_X7_link : Cond.code yX7_link cX7_link 4 none ∈ wsAll := wA 349 (by decide +kernel) (by decide +kernel)
theorem cl_6_121 {p : Program} {l : Launch} {e : Env} {R : Room} {s : State} {m : MethodId} {args : Array Value} {below : List Frame} {meth : Method} {c : Code} {cc : ByteArray} {nL : Nat} {D : va_G} {cy : Nat → ClassId} {ad : Nat → Nat} {n : Nat} {A : Nat → Prop} {mc ms : Nat} {Q : State → Prop} {S : Sg} {pc : Nat} {lv : List (Nat × Value)} {st : List Value} {ζ : Type} {z : ζ} (C : gC p s m args meth c cc nL RX6 D cy ad n A) (nx : Nat) {x1 : Int32} {x2 : Int32} (hR : Room.frames rm_X7_link + 1 ≤ R.frames ∧ 8 + (4 + 11) + Room.locals rm_X7_link ≤ R.locals) (hcm : mc ≤ R.cells ∧ ms ≤ R.slots) (hrest : (st.map fun v => v.category).sum ≤ 8) (hd : decode cc pc = .ok (.invokevirtual 121, 3)) (hn : pc + 3 = nx) {K : Sg → Option ζ} (hz : bd (f_X7_link x1 x2 S) K = some z) (kk : ∀ S', K S' = some z → gW p l e R s m args below meth c D cy ad n A nL mc ms Q S' nx lv st) : gW p l e R s m args below meth c D cy ad n A nL mc ms Q S pc lv (.int x2 :: .int x1 :: .ref (ad 5) :: st) := by
  obtain ⟨q, hq, hk⟩ := bd_s hz
  exact g_callVN C (i := 5) (ci := 7) (Cn := RX7) (T := TX7) (N := 8) (y := yX7_link) (rm := rm_X7_link) (As := [.int x1, .int x2]) (rest := st) (na := 2) (fun sz => c_X7_link l D cy ad n S sz x1 x2 q hq) ha_5 rfl rfl wl_6_121 wi_X7_link we_X7_link wz_7 wo_X7_link (by decide +kernel) rfl rfl hR hcm rfl hrest hn hd (kk q hk)
set_option maxRecDepth 20000 in
theorem t_X6_item_L49 {p : Program} {l : Launch} {e : Env} {s : State} {m : MethodId} {args : Array Value} {below : List Frame} {meth : Method} {c : Code} {D : va_G} {cy : Nat → ClassId} {ad : Nat → Nat} {n : Nat} {A : Nat → Prop} {g0 : Int32 → Sg → Option (Sg)} {rg0 : Room} (hcg0 : rg0.cells = 0) (hsg0 : rg0.slots = 0) (hg0 : ∀ (S : Sg) (sz : Nat) (x1 : Int32) (z : Sg), g0 x1 S = some z → Met l yX6_atom (.code yX6_atom cX6_atom 4 none :: wsAll) rg0 (gPc D cy ad n S sz [.ref (ad 3), .int x1]) (gQ D cy ad n (va_A (wW cy ad n S) sz) none z) 0 0 (va_A (wW cy ad n S) sz)) (C : gC p s m args meth c cX6_item 3 RX6 D cy ad n A) (hr : meth.sig.returnType = none) {z : Sg} {k7 : Int32 → Sg → Option (Sg)} (hk7 : ∀ (x2 : Int32) (S : Sg), k7 x2 S = some z → gW p l e (rm_X6_item rg0) s m args below meth c D cy ad n A 3 0 0 (MQ below (gQ D cy ad n A none z) args s 0 0 A) S 7 [(0, .ref (ad 3)), (2, .int x2)] []) : ∀ (x2 : Int32) (S : Sg), f_X6_item_L49 g0 k7 x2 S = some z → gW p l e (rm_X6_item rg0) s m args below meth c D cy ad n A 3 0 0 (MQ below (gQ D cy ad n A none z) args s 0 0 A) S 49 [(0, .ref (ad 3)), (2, .int x2)] [] := by
  intro x2 S hz
  unfold f_X6_item_L49 at hz
  refine g_aload_n C 50 0 rfl dX6_item_49 rfl ?_
  refine cl_6_75 C 53 ⟨Nat.le_trans (Nat.le_of_ble_eq_true rfl : Room.frames rm_X6_sign + 1 ≤ 1) (Nat.le_add_left _ _), Nat.le_trans (Nat.le_of_ble_eq_true rfl : 8 + (1 + 11) + Room.locals rm_X6_sign ≤ 23) (Nat.le_add_left _ _)⟩ ⟨Nat.zero_le _, Nat.zero_le _⟩ (Nat.le_of_ble_eq_true rfl) dX6_item_50 rfl hz (fun r_10 S_9 hz => ?_)
  refine g_bipush C 55 (43 : Int32) cb_43 dX6_item_53 rfl ?_
  refine g_icmp_eq C 63 58 dX6_item_55 rfl rfl hz (fun hz => ?_) (fun hz => ?_)
  · refine g_aload_n C 64 0 rfl dX6_item_63 rfl ?_
    refine g_dup C 65 rfl dX6_item_64 rfl ?_
    refine gf_6_19 C 68 dX6_item_65 rfl ?_
    refine g_iconst C 69 (1 : Int32) ci_1 dX6_item_68 rfl ?_
    refine g_iadd C 70 dX6_item_69 rfl ?_
    refine pf_6_19 C 73 dX6_item_70 rfl hz (fun S_11 hz => ?_)
    refine g_iinc C 76 1 [1, 0] (1 : Int32) ci_1 (fun x2_12 => [(0, .ref (ad 3)), (2, .int x2_12)]) dX6_item_73 rfl rfl (by decide) (fun x2_12 => rfl) hz (fun x2_12 hz => ?_)
    refine g_goto C 7 dX6_item_76 rfl ?_
    exact hk7 x2_12 S_11 hz
  · refine g_aload_n C 59 0 rfl dX6_item_58 rfl ?_
    refine g_iconst C 60 (1 : Int32) ci_1 dX6_item_59 rfl ?_
    refine pf_6_41 C 63 dX6_item_60 rfl hz (fun S_13 hz => ?_)
    refine g_aload_n C 64 0 rfl dX6_item_63 rfl ?_
    refine g_dup C 65 rfl dX6_item_64 rfl ?_
    refine gf_6_19 C 68 dX6_item_65 rfl ?_
    refine g_iconst C 69 (1 : Int32) ci_1 dX6_item_68 rfl ?_
    refine g_iadd C 70 dX6_item_69 rfl ?_
    refine pf_6_19 C 73 dX6_item_70 rfl hz (fun S_14 hz => ?_)
    refine g_iinc C 76 1 [1, 0] (1 : Int32) ci_1 (fun x2_15 => [(0, .ref (ad 3)), (2, .int x2_15)]) dX6_item_73 rfl rfl (by decide) (fun x2_15 => rfl) hz (fun x2_15 hz => ?_)
    refine g_goto C 7 dX6_item_76 rfl ?_
    exact hk7 x2_15 S_14 hz
set_option maxRecDepth 20000 in
theorem t_X6_item_L7 {p : Program} {l : Launch} {e : Env} {s : State} {m : MethodId} {args : Array Value} {below : List Frame} {meth : Method} {c : Code} {D : va_G} {cy : Nat → ClassId} {ad : Nat → Nat} {n : Nat} {A : Nat → Prop} {g0 : Int32 → Sg → Option (Sg)} {rg0 : Room} (hcg0 : rg0.cells = 0) (hsg0 : rg0.slots = 0) (hg0 : ∀ (S : Sg) (sz : Nat) (x1 : Int32) (z : Sg), g0 x1 S = some z → Met l yX6_atom (.code yX6_atom cX6_atom 4 none :: wsAll) rg0 (gPc D cy ad n S sz [.ref (ad 3), .int x1]) (gQ D cy ad n (va_A (wW cy ad n S) sz) none z) 0 0 (va_A (wW cy ad n S) sz)) (C : gC p s m args meth c cX6_item 3 RX6 D cy ad n A) (hr : meth.sig.returnType = none) {z : Sg} : ∀ (fl : Nat) (x2 : Int32) (S : Sg), f_X6_item_L7 g0 fl x2 S = some z → gW p l e (rm_X6_item rg0) s m args below meth c D cy ad n A 3 0 0 (MQ below (gQ D cy ad n A none z) args s 0 0 A) S 7 [(0, .ref (ad 3)), (2, .int x2)] [] := by
  intro fl
  induction fl with
  | zero =>
    intro x2 S hz
    rw [f_X6_item_L7] at hz
    cases hz
  | succ fl ih =>
    intro x2 S hz
    rw [f_X6_item_L7] at hz
    refine g_iload_n C 8 1 rfl dX6_item_7 rfl ?_
    refine g_aload_n C 9 0 rfl dX6_item_8 rfl ?_
    refine gf_6_15 C 12 dX6_item_9 rfl ?_
    refine g_icmp_ge C 79 15 dX6_item_12 rfl rfl hz (fun hz => ?_) (fun hz => ?_)
    · exact g_vret C hr dX6_item_79 hz
    · refine g_aload_n C 16 0 rfl dX6_item_15 rfl ?_
      refine cl_6_75 C 19 ⟨Nat.le_trans (Nat.le_of_ble_eq_true rfl : Room.frames rm_X6_sign + 1 ≤ 1) (Nat.le_add_left _ _), Nat.le_trans (Nat.le_of_ble_eq_true rfl : 8 + (1 + 11) + Room.locals rm_X6_sign ≤ 23) (Nat.le_add_left _ _)⟩ ⟨Nat.zero_le _, Nat.zero_le _⟩ (Nat.le_of_ble_eq_true rfl) dX6_item_16 rfl hz (fun r_4 S_3 hz => ?_)
      refine cl_6_128 C 22 ⟨Nat.le_trans (Nat.le_of_ble_eq_true rfl : Room.frames rm_X6_isRepeat + 1 ≤ 1) (Nat.le_add_left _ _), Nat.le_trans (Nat.le_of_ble_eq_true rfl : 8 + (1 + 11) + Room.locals rm_X6_isRepeat ≤ 23) (Nat.le_add_left _ _)⟩ ⟨Nat.zero_le _, Nat.zero_le _⟩ (Nat.le_of_ble_eq_true rfl) dX6_item_19 rfl hz (fun r_6 S_5 hz => ?_)
      refine g_if_eq C 79 25 dX6_item_22 rfl rfl hz (fun hz => ?_) (fun hz => ?_)
      · exact g_vret C hr dX6_item_79 hz
      · refine g_aload_n C 26 0 rfl dX6_item_25 rfl ?_
        refine cl_6_75 C 29 ⟨Nat.le_trans (Nat.le_of_ble_eq_true rfl : Room.frames rm_X6_sign + 1 ≤ 1) (Nat.le_add_left _ _), Nat.le_trans (Nat.le_of_ble_eq_true rfl : 8 + (1 + 11) + Room.locals rm_X6_sign ≤ 23) (Nat.le_add_left _ _)⟩ ⟨Nat.zero_le _, Nat.zero_le _⟩ (Nat.le_of_ble_eq_true rfl) dX6_item_26 rfl hz (fun r_8 S_7 hz => ?_)
        refine g_bipush C 31 (63 : Int32) cb_63 dX6_item_29 rfl ?_
        refine g_icmp_eq C 49 34 dX6_item_31 rfl rfl hz (fun hz => ?_) (fun hz => ?_)
        · exact (t_X6_item_L49 hcg0 hsg0 hg0 C hr ih) x2 S_7 hz
        · refine g_aload_n C 35 0 rfl dX6_item_34 rfl ?_
          refine gf_6_25 C 38 dX6_item_35 rfl ?_
          refine g_aload_n C 39 0 rfl dX6_item_38 rfl ?_
          refine gf_6_38 C 42 dX6_item_39 rfl ?_
          refine g_aload_n C 43 0 rfl dX6_item_42 rfl ?_
          refine gf_6_35 C 46 dX6_item_43 rfl ?_
          refine cl_6_121 C 49 ⟨Nat.le_trans (Nat.le_of_ble_eq_true rfl : Room.frames rm_X7_link + 1 ≤ 1) (Nat.le_add_left _ _), Nat.le_trans (Nat.le_of_ble_eq_true rfl : 8 + (4 + 11) + Room.locals rm_X7_link ≤ 23) (Nat.le_add_left _ _)⟩ ⟨Nat.zero_le _, Nat.zero_le _⟩ (Nat.le_of_ble_eq_true rfl) dX6_item_46 rfl hz (fun S_16 hz => ?_)
          exact (t_X6_item_L49 hcg0 hsg0 hg0 C hr ih) x2 S_16 hz
set_option maxRecDepth 20000 in
theorem t_X6_item {p : Program} {l : Launch} {e : Env} {s : State} {m : MethodId} {args : Array Value} {below : List Frame} {meth : Method} {c : Code} {D : va_G} {cy : Nat → ClassId} {ad : Nat → Nat} {n : Nat} {A : Nat → Prop} {g0 : Int32 → Sg → Option (Sg)} {rg0 : Room} (hcg0 : rg0.cells = 0) (hsg0 : rg0.slots = 0) (hg0 : ∀ (S : Sg) (sz : Nat) (x1 : Int32) (z : Sg), g0 x1 S = some z → Met l yX6_atom (.code yX6_atom cX6_atom 4 none :: wsAll) rg0 (gPc D cy ad n S sz [.ref (ad 3), .int x1]) (gQ D cy ad n (va_A (wW cy ad n S) sz) none z) 0 0 (va_A (wW cy ad n S) sz)) (C : gC p s m args meth c cX6_item 3 RX6 D cy ad n A) (hr : meth.sig.returnType = none) {z : Sg} {S : Sg} {x1 : Int32} (hz : f_X6_item g0 x1 S = some z) : gW p l e (rm_X6_item rg0) s m args below meth c D cy ad n A 3 0 0 (MQ below (gQ D cy ad n A none z) args s 0 0 A) S 0 [(0, .ref (ad 3)), (1, .int x1)] [] := by
  unfold f_X6_item at hz
  refine g_aload_n C 1 0 rfl dX6_item_0 rfl ?_
  refine g_iload_n C 2 1 rfl dX6_item_1 rfl ?_
  refine clr_6_125 C 5 hcg0 hsg0 hg0 ⟨Nat.add_le_add_left (by decide) _, by show 8 + (4 + 11) + Room.locals rg0 ≤ Room.locals rg0 + 23; omega⟩ ⟨Nat.zero_le _, Nat.zero_le _⟩ (Nat.le_of_ble_eq_true rfl) dX6_item_2 rfl hz (fun S_1 hz => ?_)
  refine g_iconst C 6 (0 : Int32) ci_0 dX6_item_5 rfl ?_
  refine g_istore_n C 7 (i := 2) [1, 0] (fun x2_2 => [(0, .ref (ad 3)), (2, .int x2_2)]) dX6_item_6 rfl rfl (by decide) (fun x2_2 => rfl) hz (fun x2_2 hz => ?_)
  exact (t_X6_item_L7 hcg0 hsg0 hg0 C hr fu) x2_2 S_1 hz
theorem c_X6_item {l : Launch} {D : va_G} {cy : Nat → ClassId} {ad : Nat → Nat} {n : Nat} {g0 : Int32 → Sg → Option (Sg)} {rg0 : Room} (hcg0 : rg0.cells = 0) (hsg0 : rg0.slots = 0) (hg0 : ∀ (S : Sg) (sz : Nat) (x1 : Int32) (z : Sg), g0 x1 S = some z → Met l yX6_atom (.code yX6_atom cX6_atom 4 none :: wsAll) rg0 (gPc D cy ad n S sz [.ref (ad 3), .int x1]) (gQ D cy ad n (va_A (wW cy ad n S) sz) none z) 0 0 (va_A (wW cy ad n S) sz)) (S : Sg) (sz : Nat) (x1 : Int32) (z : Sg) (hz : f_X6_item g0 x1 S = some z) : Met l yX6_item (.code yX6_item cX6_item 3 none :: wsAll) (rm_X6_item rg0) (gPc D cy ad n S sz [.ref (ad 3), .int x1]) (gQ D cy ad n (va_A (wW cy ad n S) sz) none z) 0 0 (va_A (wW cy ad n S) sz) := by
  refine gMet (lv := [(0, .ref (ad 3)), (1, .int x1)]) (by decide) (Nat.le_of_ble_eq_true rfl) rfl ?_
  intro p e s m args below meth c A hA hr C
  exact t_X6_item hcg0 hsg0 hg0 C hr hz
def rm_X6_row (rg0 : Room) : Room := { frames := rg0.frames + 2, cells := 0, slots := 0, locals := rg0.locals + 40 }
theorem wl_6_118 : Cond.methodLink RX6 118 yX6_item ∈ wsAll := wA 304 (by decide +kernel) (by decide +kernel)
theorem wi_X6_item : Cond.instanceMethod yX6_item ∈ wsAll := wA 306 (by decide +kernel) (by decide +kernel)
theorem we_X6_item : Cond.selects RX6 yX6_item yX6_item ∈ wsAll := wAp 11 (by decide +kernel) (by decide +kernel)
theorem wo_X6_item : Cond.code yX6_item cX6_item 3 none ∈ wsAll := wA 307 (by decide +kernel) (by decide +kernel)
theorem clr_6_118 {p : Program} {l : Launch} {e : Env} {R : Room} {s : State} {m : MethodId} {args : Array Value} {below : List Frame} {meth : Method} {c : Code} {cc : ByteArray} {nL : Nat} {D : va_G} {cy : Nat → ClassId} {ad : Nat → Nat} {n : Nat} {A : Nat → Prop} {mc ms : Nat} {Q : State → Prop} {S : Sg} {pc : Nat} {lv : List (Nat × Value)} {st : List Value} {ζ : Type} {z : ζ} (C : gC p s m args meth c cc nL RX6 D cy ad n A) (nx : Nat) {x1 : Int32} {g : Int32 → Sg → Option (Sg)} {rg : Room} (hrc : rg.cells = 0) (hrs : rg.slots = 0) (hg : ∀ (S : Sg) (sz : Nat) (x1 : Int32) (z : Sg), g x1 S = some z → Met l yX6_item (.code yX6_item cX6_item 3 none :: wsAll) rg (gPc D cy ad n S sz [.ref (ad 3), .int x1]) (gQ D cy ad n (va_A (wW cy ad n S) sz) none z) 0 0 (va_A (wW cy ad n S) sz)) (hR : Room.frames rg + 1 ≤ R.frames ∧ 8 + (3 + 11) + Room.locals rg ≤ R.locals) (hcm : mc ≤ R.cells ∧ ms ≤ R.slots) (hrest : (st.map fun v => v.category).sum ≤ 8) (hd : decode cc pc = .ok (.invokevirtual 118, 3)) (hn : pc + 3 = nx) {K : Sg → Option ζ} (hz : bd (g x1 S) K = some z) (kk : ∀ S', K S' = some z → gW p l e R s m args below meth c D cy ad n A nL mc ms Q S' nx lv st) : gW p l e R s m args below meth c D cy ad n A nL mc ms Q S pc lv (.int x1 :: .ref (ad 3) :: st) := by
  obtain ⟨q, hq, hk⟩ := bd_s hz
  exact g_callV C (i := 3) (ci := 6) (Cn := RX6) (T := TX6) (N := 9) (y := yX6_item) (rm := rg) (As := [.int x1]) (rest := st) (na := 1) (fun sz => hg S sz x1 q hq) ha_3 rfl rfl wl_6_118 wi_X6_item we_X6_item wz_6 wo_X6_item (by decide +kernel) hrc hrs hR hcm rfl hrest hn hd (kk q hk)
set_option maxRecDepth 20000 in
theorem t_X6_row_L96 {p : Program} {l : Launch} {e : Env} {s : State} {m : MethodId} {args : Array Value} {below : List Frame} {meth : Method} {c : Code} {D : va_G} {cy : Nat → ClassId} {ad : Nat → Nat} {n : Nat} {A : Nat → Prop} {g0 : Int32 → Sg → Option (Sg)} {rg0 : Room} (hcg0 : rg0.cells = 0) (hsg0 : rg0.slots = 0) (hg0 : ∀ (S : Sg) (sz : Nat) (x1 : Int32) (z : Sg), g0 x1 S = some z → Met l yX6_item (.code yX6_item cX6_item 3 none :: wsAll) rg0 (gPc D cy ad n S sz [.ref (ad 3), .int x1]) (gQ D cy ad n (va_A (wW cy ad n S) sz) none z) 0 0 (va_A (wW cy ad n S) sz)) (C : gC p s m args meth c cX6_row 6 RX6 D cy ad n A) (hr : meth.sig.returnType = none) {z : Sg} {k24 : Int32 → Int32 → Int32 → Int32 → Int32 → Sg → Option (Sg)} (hk24 : ∀ (x1 : Int32) (x2 : Int32) (x3 : Int32) (x4 : Int32) (x5 : Int32) (S : Sg), k24 x1 x2 x3 x4 x5 S = some z → gW p l e (rm_X6_row rg0) s m args below meth c D cy ad n A 6 0 0 (MQ below (gQ D cy ad n A none z) args s 0 0 A) S 24 [(0, .ref (ad 3)), (1, .int x1), (2, .int x2), (3, .int x3), (4, .int x4), (5, .int x5)] []) : ∀ (x1 : Int32) (x2 : Int32) (x4 : Int32) (x5 : Int32) (t0 : Int32) (S : Sg), f_X6_row_L96 g0 k24 x1 x2 x4 x5 t0 S = some z → gW p l e (rm_X6_row rg0) s m args below meth c D cy ad n A 6 0 0 (MQ below (gQ D cy ad n A none z) args s 0 0 A) S 96 [(0, .ref (ad 3)), (1, .int x1), (2, .int x2), (4, .int x4), (5, .int x5)] [.int t0] := by
  intro x1 x2 x4 x5 t0 S hz
  unfold f_X6_row_L96 at hz
  refine g_istore_n C 97 (i := 3) [1, 2, 3, 0, 4, 5] (fun x3_15 => [(0, .ref (ad 3)), (1, .int x1), (2, .int x2), (3, .int x3_15), (4, .int x4), (5, .int x5)]) dX6_row_96 rfl rfl (by decide) (fun x3_15 => rfl) hz (fun x3_15 hz => ?_)
  refine g_iload C 99 4 rfl dX6_row_97 rfl ?_
  refine g_if_eq C 113 102 dX6_row_99 rfl rfl hz (fun hz => ?_) (fun hz => ?_)
  · refine g_iconst C 114 (0 : Int32) ci_0 dX6_row_113 rfl ?_
    refine g_istore C 116 (i := 4) [1, 2, 3, 4, 0, 5] (fun x4_16 => [(0, .ref (ad 3)), (1, .int x1), (2, .int x2), (3, .int x3_15), (4, .int x4_16), (5, .int x5)]) dX6_row_114 rfl (by decide) (fun x4_16 => rfl) hz (fun x4_16 hz => ?_)
    refine g_iinc C 119 5 [1, 2, 3, 4, 5, 0] (1 : Int32) ci_1 (fun x5_17 => [(0, .ref (ad 3)), (1, .int x1), (2, .int x2), (3, .int x3_15), (4, .int x4_16), (5, .int x5_17)]) dX6_row_116 rfl rfl (by decide) (fun x5_17 => rfl) hz (fun x5_17 hz => ?_)
    refine g_goto C 24 dX6_row_119 rfl ?_
    exact hk24 x1 x2 x3_15 x4_16 x5_17 S hz
  · refine g_aload_n C 103 0 rfl dX6_row_102 rfl ?_
    refine gf_6_41 C 106 dX6_row_103 rfl ?_
    refine g_if_eq C 113 109 dX6_row_106 rfl rfl hz (fun hz => ?_) (fun hz => ?_)
    · refine g_iconst C 114 (0 : Int32) ci_0 dX6_row_113 rfl ?_
      refine g_istore C 116 (i := 4) [1, 2, 3, 4, 0, 5] (fun x4_18 => [(0, .ref (ad 3)), (1, .int x1), (2, .int x2), (3, .int x3_15), (4, .int x4_18), (5, .int x5)]) dX6_row_114 rfl (by decide) (fun x4_18 => rfl) hz (fun x4_18 hz => ?_)
      refine g_iinc C 119 5 [1, 2, 3, 4, 5, 0] (1 : Int32) ci_1 (fun x5_19 => [(0, .ref (ad 3)), (1, .int x1), (2, .int x2), (3, .int x3_15), (4, .int x4_18), (5, .int x5_19)]) dX6_row_116 rfl rfl (by decide) (fun x5_19 => rfl) hz (fun x5_19 hz => ?_)
      refine g_goto C 24 dX6_row_119 rfl ?_
      exact hk24 x1 x2 x3_15 x4_18 x5_19 S hz
    · refine g_iconst C 110 (1 : Int32) ci_1 dX6_row_109 rfl ?_
      refine g_goto C 114 dX6_row_110 rfl ?_
      refine g_istore C 116 (i := 4) [1, 2, 3, 4, 0, 5] (fun x4_20 => [(0, .ref (ad 3)), (1, .int x1), (2, .int x2), (3, .int x3_15), (4, .int x4_20), (5, .int x5)]) dX6_row_114 rfl (by decide) (fun x4_20 => rfl) hz (fun x4_20 hz => ?_)
      refine g_iinc C 119 5 [1, 2, 3, 4, 5, 0] (1 : Int32) ci_1 (fun x5_21 => [(0, .ref (ad 3)), (1, .int x1), (2, .int x2), (3, .int x3_15), (4, .int x4_20), (5, .int x5_21)]) dX6_row_116 rfl rfl (by decide) (fun x5_21 => rfl) hz (fun x5_21 hz => ?_)
      refine g_goto C 24 dX6_row_119 rfl ?_
      exact hk24 x1 x2 x3_15 x4_20 x5_21 S hz
set_option maxRecDepth 20000 in
theorem t_X6_row_L74 {p : Program} {l : Launch} {e : Env} {s : State} {m : MethodId} {args : Array Value} {below : List Frame} {meth : Method} {c : Code} {D : va_G} {cy : Nat → ClassId} {ad : Nat → Nat} {n : Nat} {A : Nat → Prop} {g0 : Int32 → Sg → Option (Sg)} {rg0 : Room} (hcg0 : rg0.cells = 0) (hsg0 : rg0.slots = 0) (hg0 : ∀ (S : Sg) (sz : Nat) (x1 : Int32) (z : Sg), g0 x1 S = some z → Met l yX6_item (.code yX6_item cX6_item 3 none :: wsAll) rg0 (gPc D cy ad n S sz [.ref (ad 3), .int x1]) (gQ D cy ad n (va_A (wW cy ad n S) sz) none z) 0 0 (va_A (wW cy ad n S) sz)) (C : gC p s m args meth c cX6_row 6 RX6 D cy ad n A) (hr : meth.sig.returnType = none) {z : Sg} {k24 : Int32 → Int32 → Int32 → Int32 → Int32 → Sg → Option (Sg)} (hk24 : ∀ (x1 : Int32) (x2 : Int32) (x3 : Int32) (x4 : Int32) (x5 : Int32) (S : Sg), k24 x1 x2 x3 x4 x5 S = some z → gW p l e (rm_X6_row rg0) s m args below meth c D cy ad n A 6 0 0 (MQ below (gQ D cy ad n A none z) args s 0 0 A) S 24 [(0, .ref (ad 3)), (1, .int x1), (2, .int x2), (3, .int x3), (4, .int x4), (5, .int x5)] []) : ∀ (x1 : Int32) (x3 : Int32) (x4 : Int32) (x5 : Int32) (t0 : Int32) (t1 : Int32) (S : Sg), f_X6_row_L74 g0 k24 x1 x3 x4 x5 t0 t1 S = some z → gW p l e (rm_X6_row rg0) s m args below meth c D cy ad n A 6 0 0 (MQ below (gQ D cy ad n A none z) args s 0 0 A) S 74 [(0, .ref (ad 3)), (1, .int x1), (3, .int x3), (4, .int x4), (5, .int x5)] [.int t0, .int t1] := by
  intro x1 x3 x4 x5 t0 t1 S hz
  unfold f_X6_row_L74 at hz
  refine g_ior C 75 dX6_row_74 rfl ?_
  refine g_istore_n C 76 (i := 2) [1, 2, 0, 3, 4, 5] (fun x2_14 => [(0, .ref (ad 3)), (1, .int x1), (2, .int x2_14), (3, .int x3), (4, .int x4), (5, .int x5)]) dX6_row_75 rfl rfl (by decide) (fun x2_14 => rfl) hz (fun x2_14 hz => ?_)
  refine g_aload_n C 77 0 rfl dX6_row_76 rfl ?_
  refine gf_6_41 C 80 dX6_row_77 rfl ?_
  refine g_if_eq C 92 83 dX6_row_80 rfl rfl hz (fun hz => ?_) (fun hz => ?_)
  · refine g_aload_n C 93 0 rfl dX6_row_92 rfl ?_
    refine gf_6_38 C 96 dX6_row_93 rfl ?_
    refine g_lv [0, 1, 2, 4, 5] rfl ?_
    exact (t_X6_row_L96 hcg0 hsg0 hg0 C hr hk24) x1 x2_14 x4 x5 ((S.1 3 7)) S hz
  · refine g_iload_n C 84 3 rfl dX6_row_83 rfl ?_
    refine g_aload_n C 85 0 rfl dX6_row_84 rfl ?_
    refine gf_6_38 C 88 dX6_row_85 rfl ?_
    refine g_ior C 89 dX6_row_88 rfl ?_
    refine g_goto C 96 dX6_row_89 rfl ?_
    refine g_lv [0, 1, 2, 4, 5] rfl ?_
    exact (t_X6_row_L96 hcg0 hsg0 hg0 C hr hk24) x1 x2_14 x4 x5 ((x3 ||| (S.1 3 7))) S hz
set_option maxRecDepth 20000 in
theorem t_X6_row_L24 {p : Program} {l : Launch} {e : Env} {s : State} {m : MethodId} {args : Array Value} {below : List Frame} {meth : Method} {c : Code} {D : va_G} {cy : Nat → ClassId} {ad : Nat → Nat} {n : Nat} {A : Nat → Prop} {g0 : Int32 → Sg → Option (Sg)} {rg0 : Room} (hcg0 : rg0.cells = 0) (hsg0 : rg0.slots = 0) (hg0 : ∀ (S : Sg) (sz : Nat) (x1 : Int32) (z : Sg), g0 x1 S = some z → Met l yX6_item (.code yX6_item cX6_item 3 none :: wsAll) rg0 (gPc D cy ad n S sz [.ref (ad 3), .int x1]) (gQ D cy ad n (va_A (wW cy ad n S) sz) none z) 0 0 (va_A (wW cy ad n S) sz)) (C : gC p s m args meth c cX6_row 6 RX6 D cy ad n A) (hr : meth.sig.returnType = none) {z : Sg} : ∀ (fl : Nat) (x1 : Int32) (x2 : Int32) (x3 : Int32) (x4 : Int32) (x5 : Int32) (S : Sg), f_X6_row_L24 g0 fl x1 x2 x3 x4 x5 S = some z → gW p l e (rm_X6_row rg0) s m args below meth c D cy ad n A 6 0 0 (MQ below (gQ D cy ad n A none z) args s 0 0 A) S 24 [(0, .ref (ad 3)), (1, .int x1), (2, .int x2), (3, .int x3), (4, .int x4), (5, .int x5)] [] := by
  intro fl
  induction fl with
  | zero =>
    intro x1 x2 x3 x4 x5 S hz
    rw [f_X6_row_L24] at hz
    cases hz
  | succ fl ih =>
    intro x1 x2 x3 x4 x5 S hz
    rw [f_X6_row_L24] at hz
    refine g_iload C 26 5 rfl dX6_row_24 rfl ?_
    refine g_aload_n C 27 0 rfl dX6_row_26 rfl ?_
    refine gf_6_15 C 30 dX6_row_27 rfl ?_
    refine g_icmp_ge C 122 33 dX6_row_30 rfl rfl hz (fun hz => ?_) (fun hz => ?_)
    · refine g_aload_n C 123 0 rfl dX6_row_122 rfl ?_
      refine g_iload_n C 124 2 rfl dX6_row_123 rfl ?_
      refine g_iload_n C 125 3 rfl dX6_row_124 rfl ?_
      refine g_iload C 127 4 rfl dX6_row_125 rfl ?_
      refine cl_6_115 C 130 ⟨Nat.le_trans (Nat.le_of_ble_eq_true rfl : Room.frames rm_X6_setPiece + 1 ≤ 2) (Nat.le_add_left _ _), Nat.le_trans (Nat.le_of_ble_eq_true rfl : 8 + (4 + 11) + Room.locals rm_X6_setPiece ≤ 40) (Nat.le_add_left _ _)⟩ ⟨Nat.zero_le _, Nat.zero_le _⟩ (Nat.le_of_ble_eq_true rfl) dX6_row_127 rfl hz (fun S_6 hz => ?_)
      exact g_vret C hr dX6_row_130 hz
    · refine g_aload_n C 34 0 rfl dX6_row_33 rfl ?_
      refine cl_6_75 C 37 ⟨Nat.le_trans (Nat.le_of_ble_eq_true rfl : Room.frames rm_X6_sign + 1 ≤ 2) (Nat.le_add_left _ _), Nat.le_trans (Nat.le_of_ble_eq_true rfl : 8 + (1 + 11) + Room.locals rm_X6_sign ≤ 40) (Nat.le_add_left _ _)⟩ ⟨Nat.zero_le _, Nat.zero_le _⟩ (Nat.le_of_ble_eq_true rfl) dX6_row_34 rfl hz (fun r_8 S_7 hz => ?_)
      refine cl_6_94 C 40 ⟨Nat.le_trans (Nat.le_of_ble_eq_true rfl : Room.frames rm_X6_beginsAtom + 1 ≤ 2) (Nat.le_add_left _ _), Nat.le_trans (Nat.le_of_ble_eq_true rfl : 8 + (1 + 11) + Room.locals rm_X6_beginsAtom ≤ 40) (Nat.le_add_left _ _)⟩ ⟨Nat.zero_le _, Nat.zero_le _⟩ (Nat.le_of_ble_eq_true rfl) dX6_row_37 rfl hz (fun r_10 S_9 hz => ?_)
      refine g_if_eq C 122 43 dX6_row_40 rfl rfl hz (fun hz => ?_) (fun hz => ?_)
      · refine g_aload_n C 123 0 rfl dX6_row_122 rfl ?_
        refine g_iload_n C 124 2 rfl dX6_row_123 rfl ?_
        refine g_iload_n C 125 3 rfl dX6_row_124 rfl ?_
        refine g_iload C 127 4 rfl dX6_row_125 rfl ?_
        refine cl_6_115 C 130 ⟨Nat.le_trans (Nat.le_of_ble_eq_true rfl : Room.frames rm_X6_setPiece + 1 ≤ 2) (Nat.le_add_left _ _), Nat.le_trans (Nat.le_of_ble_eq_true rfl : 8 + (4 + 11) + Room.locals rm_X6_setPiece ≤ 40) (Nat.le_add_left _ _)⟩ ⟨Nat.zero_le _, Nat.zero_le _⟩ (Nat.le_of_ble_eq_true rfl) dX6_row_127 rfl hz (fun S_11 hz => ?_)
        exact g_vret C hr dX6_row_130 hz
      · refine g_aload_n C 44 0 rfl dX6_row_43 rfl ?_
        refine g_iload_n C 45 1 rfl dX6_row_44 rfl ?_
        refine clr_6_118 C 48 hcg0 hsg0 hg0 ⟨Nat.add_le_add_left (by decide) _, by show 8 + (3 + 11) + Room.locals rg0 ≤ Room.locals rg0 + 40; omega⟩ ⟨Nat.zero_le _, Nat.zero_le _⟩ (Nat.le_of_ble_eq_true rfl) dX6_row_45 rfl hz (fun S_12 hz => ?_)
        refine g_aload_n C 49 0 rfl dX6_row_48 rfl ?_
        refine gf_6_25 C 52 dX6_row_49 rfl ?_
        refine g_iload_n C 53 3 rfl dX6_row_52 rfl ?_
        refine g_aload_n C 54 0 rfl dX6_row_53 rfl ?_
        refine gf_6_35 C 57 dX6_row_54 rfl ?_
        refine cl_6_121 C 60 ⟨Nat.le_trans (Nat.le_of_ble_eq_true rfl : Room.frames rm_X7_link + 1 ≤ 2) (Nat.le_add_left _ _), Nat.le_trans (Nat.le_of_ble_eq_true rfl : 8 + (4 + 11) + Room.locals rm_X7_link ≤ 40) (Nat.le_add_left _ _)⟩ ⟨Nat.zero_le _, Nat.zero_le _⟩ (Nat.le_of_ble_eq_true rfl) dX6_row_57 rfl hz (fun S_13 hz => ?_)
        refine g_iload_n C 61 2 rfl dX6_row_60 rfl ?_
        refine g_iload C 63 4 rfl dX6_row_61 rfl ?_
        refine g_if_eq C 73 66 dX6_row_63 rfl rfl hz (fun hz => ?_) (fun hz => ?_)
        · refine g_iconst C 74 (0 : Int32) ci_0 dX6_row_73 rfl ?_
          refine g_lv [0, 1, 3, 4, 5] rfl ?_
          exact (t_X6_row_L74 hcg0 hsg0 hg0 C hr ih) x1 x3 x4 x5 ((0 : Int32)) x2 S_13 hz
        · refine g_aload_n C 67 0 rfl dX6_row_66 rfl ?_
          refine gf_6_35 C 70 dX6_row_67 rfl ?_
          refine g_goto C 74 dX6_row_70 rfl ?_
          refine g_lv [0, 1, 3, 4, 5] rfl ?_
          exact (t_X6_row_L74 hcg0 hsg0 hg0 C hr ih) x1 x3 x4 x5 ((S_13.1 3 6)) x2 S_13 hz
set_option maxRecDepth 20000 in
theorem t_X6_row {p : Program} {l : Launch} {e : Env} {s : State} {m : MethodId} {args : Array Value} {below : List Frame} {meth : Method} {c : Code} {D : va_G} {cy : Nat → ClassId} {ad : Nat → Nat} {n : Nat} {A : Nat → Prop} {g0 : Int32 → Sg → Option (Sg)} {rg0 : Room} (hcg0 : rg0.cells = 0) (hsg0 : rg0.slots = 0) (hg0 : ∀ (S : Sg) (sz : Nat) (x1 : Int32) (z : Sg), g0 x1 S = some z → Met l yX6_item (.code yX6_item cX6_item 3 none :: wsAll) rg0 (gPc D cy ad n S sz [.ref (ad 3), .int x1]) (gQ D cy ad n (va_A (wW cy ad n S) sz) none z) 0 0 (va_A (wW cy ad n S) sz)) (C : gC p s m args meth c cX6_row 6 RX6 D cy ad n A) (hr : meth.sig.returnType = none) {z : Sg} {S : Sg} {x1 : Int32} (hz : f_X6_row g0 x1 S = some z) : gW p l e (rm_X6_row rg0) s m args below meth c D cy ad n A 6 0 0 (MQ below (gQ D cy ad n A none z) args s 0 0 A) S 0 [(0, .ref (ad 3)), (1, .int x1)] [] := by
  unfold f_X6_row at hz
  refine g_aload_n C 1 0 rfl dX6_row_0 rfl ?_
  refine g_iload_n C 2 1 rfl dX6_row_1 rfl ?_
  refine clr_6_118 C 5 hcg0 hsg0 hg0 ⟨Nat.add_le_add_left (by decide) _, by show 8 + (3 + 11) + Room.locals rg0 ≤ Room.locals rg0 + 40; omega⟩ ⟨Nat.zero_le _, Nat.zero_le _⟩ (Nat.le_of_ble_eq_true rfl) dX6_row_2 rfl hz (fun S_1 hz => ?_)
  refine g_aload_n C 6 0 rfl dX6_row_5 rfl ?_
  refine gf_6_35 C 9 dX6_row_6 rfl ?_
  refine g_istore_n C 10 (i := 2) [1, 2, 0] (fun x2_2 => [(0, .ref (ad 3)), (1, .int x1), (2, .int x2_2)]) dX6_row_9 rfl rfl (by decide) (fun x2_2 => rfl) hz (fun x2_2 hz => ?_)
  refine g_aload_n C 11 0 rfl dX6_row_10 rfl ?_
  refine gf_6_38 C 14 dX6_row_11 rfl ?_
  refine g_istore_n C 15 (i := 3) [1, 2, 3, 0] (fun x3_3 => [(0, .ref (ad 3)), (1, .int x1), (2, .int x2_2), (3, .int x3_3)]) dX6_row_14 rfl rfl (by decide) (fun x3_3 => rfl) hz (fun x3_3 hz => ?_)
  refine g_aload_n C 16 0 rfl dX6_row_15 rfl ?_
  refine gf_6_41 C 19 dX6_row_16 rfl ?_
  refine g_istore C 21 (i := 4) [1, 2, 3, 4, 0] (fun x4_4 => [(0, .ref (ad 3)), (1, .int x1), (2, .int x2_2), (3, .int x3_3), (4, .int x4_4)]) dX6_row_19 rfl (by decide) (fun x4_4 => rfl) hz (fun x4_4 hz => ?_)
  refine g_iconst C 22 (0 : Int32) ci_0 dX6_row_21 rfl ?_
  refine g_istore C 24 (i := 5) [1, 2, 3, 4, 5, 0] (fun x5_5 => [(0, .ref (ad 3)), (1, .int x1), (2, .int x2_2), (3, .int x3_3), (4, .int x4_4), (5, .int x5_5)]) dX6_row_22 rfl (by decide) (fun x5_5 => rfl) hz (fun x5_5 hz => ?_)
  exact (t_X6_row_L24 hcg0 hsg0 hg0 C hr fu) x1 x2_2 x3_3 x4_4 x5_5 S_1 hz
theorem c_X6_row {l : Launch} {D : va_G} {cy : Nat → ClassId} {ad : Nat → Nat} {n : Nat} {g0 : Int32 → Sg → Option (Sg)} {rg0 : Room} (hcg0 : rg0.cells = 0) (hsg0 : rg0.slots = 0) (hg0 : ∀ (S : Sg) (sz : Nat) (x1 : Int32) (z : Sg), g0 x1 S = some z → Met l yX6_item (.code yX6_item cX6_item 3 none :: wsAll) rg0 (gPc D cy ad n S sz [.ref (ad 3), .int x1]) (gQ D cy ad n (va_A (wW cy ad n S) sz) none z) 0 0 (va_A (wW cy ad n S) sz)) (S : Sg) (sz : Nat) (x1 : Int32) (z : Sg) (hz : f_X6_row g0 x1 S = some z) : Met l yX6_row (.code yX6_row cX6_row 6 none :: wsAll) (rm_X6_row rg0) (gPc D cy ad n S sz [.ref (ad 3), .int x1]) (gQ D cy ad n (va_A (wW cy ad n S) sz) none z) 0 0 (va_A (wW cy ad n S) sz) := by
  refine gMet (lv := [(0, .ref (ad 3)), (1, .int x1)]) (by decide) (Nat.le_of_ble_eq_true rfl) rfl ?_
  intro p e s m args below meth c A hA hr C
  exact t_X6_row hcg0 hsg0 hg0 C hr hz
