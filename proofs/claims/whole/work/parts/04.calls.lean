section GCALLS
variable {p : Program} {l : Launch} {e : Env} {R : Room} {s : State} {m : MethodId} {args : Array Value} {below : List Frame} {meth : Method} {c : Code} {cc : ByteArray} {nL : Nat} {own : String} {D : va_G} {cy : Nat → ClassId} {ad : Nat → Nat} {n : Nat} {A : Nat → Prop} {mc ms : Nat} {Q : State → Prop} {S : Sg} {pc : Nat} {lv : List (Nat × Value)} {st : List Value} {ζ : Type}
theorem g_iret (C : gC p s m args meth c cc nL own D cy ad n A) {v : Int32} {z : Int32 × Sg} (hr : meth.sig.returnType = some .int) (hd : decode cc pc = .ok (.ireturn, 1)) (hz : some (v, S) = some z) : gW p l e R s m args below meth c D cy ad n A nL mc ms (MQ below (gQ D cy ad n A (some (.int z.1)) z.2) args s mc ms A) S pc lv [.int v] := by
  cases hz
  intro H locs ls hP hS hl
  exact W.iret C.1 C.2.1 hr (fun t ht hW => ⟨⟨rfl, by rw [ht]; exact hP⟩, hS.F ht⟩) hS.2.2 hd C.2.2.2.2.2.2.2.2.2.2
theorem g_zret (C : gC p s m args meth c cc nL own D cy ad n A) {v : Int32} {z : Int32 × Sg} (hr : meth.sig.returnType = some .boolean) (hd : decode cc pc = .ok (.ireturn, 1)) (hz : zk v (some (v, S)) = some z) : gW p l e R s m args below meth c D cy ad n A nL mc ms (MQ below (gQ D cy ad n A (some (.int z.1)) z.2) args s mc ms A) S pc lv [.int v] := by
  obtain ⟨h1, hz⟩ := zk_s hz
  cases hz
  intro H locs ls hP hS hl
  exact W.zret C.1 C.2.1 hr (zk_nar h1).1 (fun t ht hW => ⟨⟨rfl, by rw [ht]; exact hP⟩, hS.F ht⟩) hS.2.2 hd C.2.2.2.2.2.2.2.2.2.2
theorem g_zretc (C : gC p s m args meth c cc nL own D cy ad n A) {v : Int32} {z : Int32 × Sg} (hr : meth.sig.returnType = some .boolean) (hv : v = 0 ∨ v = 1) (hd : decode cc pc = .ok (.ireturn, 1)) (hz : some (v, S) = some z) : gW p l e R s m args below meth c D cy ad n A nL mc ms (MQ below (gQ D cy ad n A (some (.int z.1)) z.2) args s mc ms A) S pc lv [.int v] := by
  cases hz
  intro H locs ls hP hS hl
  exact W.zret C.1 C.2.1 hr (zk_nar hv).1 (fun t ht hW => ⟨⟨rfl, by rw [ht]; exact hP⟩, hS.F ht⟩) hS.2.2 hd C.2.2.2.2.2.2.2.2.2.2
theorem g_lret (C : gC p s m args meth c cc nL own D cy ad n A) {v : Int64} {z : Int64 × Sg} (hr : meth.sig.returnType = some .long) (hd : decode cc pc = .ok (.lreturn, 1)) (hz : some (v, S) = some z) : gW p l e R s m args below meth c D cy ad n A nL mc ms (MQ below (gQ D cy ad n A (some (.long z.1)) z.2) args s mc ms A) S pc lv [.long v] := by
  cases hz
  intro H locs ls hP hS hl
  exact W.lret C.1 C.2.1 hr (fun t ht hW => ⟨⟨rfl, by rw [ht]; exact hP⟩, hS.F ht⟩) hS.2.2 hd C.2.2.2.2.2.2.2.2.2.2
theorem g_vret (C : gC p s m args meth c cc nL own D cy ad n A) {z : Sg} (hr : meth.sig.returnType = none) (hd : decode cc pc = .ok (.return_, 1)) (hz : some S = some z) : gW p l e R s m args below meth c D cy ad n A nL mc ms (MQ below (gQ D cy ad n A none z) args s mc ms A) S pc lv [] := by
  cases hz
  intro H locs ls hP hS hl
  exact W.vret C.1 C.2.1 hr (fun t ht hW => ⟨⟨rfl, by rw [ht]; exact hP⟩, hS.F ht⟩) hS.2.2 hd C.2.2.2.2.2.2.2.2.2.2
theorem g_aret (C : gC p s m args meth c cc nL own D cy ad n A) {r : Option Nat} {z : Option Nat × Sg} {cn : String} (hr : meth.sig.returnType = some (.object cn)) (hd : decode cc pc = .ok (.areturn, 1)) (hz : some (r, S) = some z) : gW p l e R s m args below meth c D cy ad n A nL mc ms (MQ below (gQ D cy ad n A (some (rv ad z.1)) z.2) args s mc ms A) S pc lv [rv ad r] := by
  cases hz
  intro H locs ls hP hS hl
  exact W.aret C.1 C.2.1 hr (Or.inl ⟨_, rfl⟩) (by cases r with
    | none => exact Or.inl rfl
    | some i => exact Or.inr ⟨_, rfl⟩) (fun t ht hW => ⟨⟨rfl, by rw [ht]; exact hP⟩, hS.F ht⟩) hS.2.2 hd C.2.2.2.2.2.2.2.2.2.2
theorem g_goes (C : gC p s m args meth c cc nL own D cy ad n A) {V : Option Value} {S' : Sg} {a : Array Value} {st0 rest : List Value} {nx : Nat} (hn : pc + 3 = nx) (hr : ∀ (H : Heap) (locs : List Loc) (ls : Array Slot), va_P D vwCl (wW cy ad n S) H → va_S A s.heap H locs → lv_has ls nL lv → va_Run p l e R s m args below meth c H locs mc ms 0 0 (F0 m pc ls st0) rest (gQ D cy ad n (va_A (wW cy ad n S) H.size) V S' a) (va_A (wW cy ad n S) H.size)) (kk : gW p l e R s m args below meth c D cy ad n A nL mc ms Q S' nx lv (V.toList ++ rest)) : gW p l e R s m args below meth c D cy ad n A nL mc ms Q S pc lv st0 := by
  intro H locs ls hP hS hl
  subst hn
  have hFc : ∀ q, va_A (wW cy ad n S) H.size q → A q := by
    rintro q (⟨k, e, h⟩ | h)
    · exact (C.2.2.2.2.2.2.1 S).2 k (q, e) h
    · exact C.2.2.2.2.2.2.2.1 q (Nat.le_trans hS.1 h)
  intro T hT X
  obtain ⟨v, st₀, t, T', L, h0, X', hL, e1, e2, ⟨⟨hv, hp⟩, hz, hk⟩, stp⟩ := hr H locs ls hP hS hl T hT X
  cases hv
  rw [h0] at hz hk
  obtain ⟨t2, a1, b1⟩ := kk T'.heap (locs ++ L) ls (by rw [e1]; exact hp)
    ⟨Nat.le_trans hS.1 (by rw [e1]; exact hz), fun q h1 h2 => by rw [e1, hk q (Nat.lt_of_lt_of_le h1 hS.1) (fun z => h2 (hFc q z))]; exact hS.2.1 q h1 h2, fun q hq => by
      rcases List.mem_append.mp hq with h | h
      · exact hS.2.2 q h
      · exact hFc _ (hL q h)⟩ hl T' rfl X'
  exact ⟨t2, stp t2 a1, b1⟩
theorem g_pre (C : gC p s m args meth c cc nL own D cy ad n A) {H : Heap} {locs : List Loc} (hP : va_P D vwCl (wW cy ad n S) H) (hS : va_S A s.heap H locs) (av : List Value) : ∀ U : State, U.heap = H → s.WarmedH U.vm → gPc D cy ad n S H.size av av.toArray U := by
  intro U hU hW
  have hFc : ∀ q, va_A (wW cy ad n S) H.size q → A q := by
    rintro q (⟨k, e, h⟩ | h)
    · exact (C.2.2.2.2.2.2.1 S).2 k (q, e) h
    · exact C.2.2.2.2.2.2.2.1 q (Nat.le_trans hS.1 h)
  obtain ⟨b, hZ, hT⟩ := C.2.2.2.2.2.2.2.2.2.1
  refine ⟨rfl, by rw [hU], by rw [hU]; exact hP, va_K.moved hW.alike C.2.2.2.2.2.1, (C.2.2.2.2.2.2.1 S).weaken (fun _ _ _ _ => trivial), gN.warm hW C.2.2.2.2.2.2.2.2.1, b, ?_, ?_⟩
  · rw [hU]
    exact va_Z.moved hW.alike ((hZ.kept hS.2.1).narrow hFc)
  · rw [hU]
    exact va_T.moved hW.alike ((hT.kept hS.2.1).narrow hFc)
theorem g_callV (C : gC p s m args meth c cc nL own D cy ad n A) {y : MethodName} {bytes : ByteArray} {maxL : Nat} {ret : Option FieldType} {rm : Room} {V : Option Value} {S' : Sg} {As rest : List Value} {nx ix na : Nat} {i ci : Nat} {Cn : String} {T : u_T} {N : Nat} {fs : List Value} (hM : ∀ sz : Nat, Met l y (.code y bytes maxL ret :: wsAll) rm (gPc D cy ad n S sz (.ref (ad i) :: As)) (gQ D cy ad n (va_A (wW cy ad n S) sz) V S') 0 0 (va_A (wW cy ad n S) sz)) (ha : has n i (ci, 0)) (hci : cellOf cy ad i (ci, 0) (S.1 i) (S.2.1 i) (S.2.2 i) = .inr (ci, fs)) (hcl : vwCl[ci]? = some (Cn, T, N)) (h1 : Cond.methodLink own ix y ∈ wsAll) (h2 : Cond.instanceMethod y ∈ wsAll) (h3 : Cond.selects Cn y y ∈ wsAll) (h4 : Cond.initialized Cn ∈ wsAll) (h5 : Cond.code y bytes maxL ret ∈ wsAll) (hdd : y.cls = Cn ∧ y.cls ≠ "java/lang/invoke/MethodHandle" ∧ y.cls ≠ "java/lang/invoke/VarHandle" ∧ (parseMethodDescriptor y.desc).map (fun d => d.parameters.length) = some na) (hrc : rm.cells = 0) (hrs : rm.slots = 0) (hR : rm.frames + 1 ≤ R.frames ∧ 8 + (maxL + 11) + rm.locals ≤ R.locals) (hcm : mc ≤ R.cells ∧ ms ≤ R.slots) (hna : As.length = na) (hrest : (rest.map fun v => v.category).sum ≤ 8) (hn : pc + 3 = nx) (hd : decode cc pc = .ok (.invokevirtual ix, 3)) (kk : gW p l e R s m args below meth c D cy ad n A nL mc ms Q S' nx lv (V.toList ++ rest)) : gW p l e R s m args below meth c D cy ad n A nL mc ms Q S pc lv (As.reverse ++ .ref (ad i) :: rest) := by
  refine g_goes C hn (a := (Value.ref (ad i) :: As).toArray) (fun H locs ls hP hS hl => ?_) kk
  exact va_runV (As := As) (rest := rest) ⟨C.1, C.2.1, C.2.2.1, C.2.2.2.1, C.2.2.2.2.1⟩ (hM H.size) (cwV na C.2.2.2.2.1 (gi_app (in4 h1 h2 h3 h4) (gi_all h5)) rfl hrc hrs hdd hR) ⟨gBlind, va_recv C.2.2.2.2.2.1 hP hcl ((wW_get ha).trans (by rw [hci])), g_pre C hP hS _⟩ rfl hna hl.1 rfl (lv_room hrest) hd ⟨hcm.1, hcm.2⟩
theorem g_callVN (C : gC p s m args meth c cc nL own D cy ad n A) {y : MethodName} {bytes : ByteArray} {maxL : Nat} {ret : Option FieldType} {rm : Room} {V : Option Value} {S' : Sg} {As rest : List Value} {nx ix na : Nat} {i ci : Nat} {Cn host : String} {T : u_T} {N : Nat} {fs : List Value} (hM : ∀ sz : Nat, Met l y (.code y bytes maxL ret :: wsAll) rm (gPc D cy ad n S sz (.ref (ad i) :: As)) (gQ D cy ad n (va_A (wW cy ad n S) sz) V S') 0 0 (va_A (wW cy ad n S) sz)) (ha : has n i (ci, 0)) (hci : cellOf cy ad i (ci, 0) (S.1 i) (S.2.1 i) (S.2.2 i) = .inr (ci, fs)) (hcl : vwCl[ci]? = some (Cn, T, N)) (h1 : Cond.methodLinkNest own ix y host ∈ tables_1) (h2 : Cond.instanceMethod y ∈ wsAll) (h3 : Cond.selects Cn y y ∈ wsAll) (h4 : Cond.initialized y.cls ∈ wsAll) (h5 : Cond.code y bytes maxL ret ∈ wsAll) (hdd : y.cls = Cn ∧ y.cls ≠ "java/lang/invoke/MethodHandle" ∧ y.cls ≠ "java/lang/invoke/VarHandle" ∧ (parseMethodDescriptor y.desc).map (fun d => d.parameters.length) = some na) (hrc : rm.cells = 0) (hrs : rm.slots = 0) (hR : rm.frames + 1 ≤ R.frames ∧ 8 + (maxL + 11) + rm.locals ≤ R.locals) (hcm : mc ≤ R.cells ∧ ms ≤ R.slots) (hna : As.length = na) (hrest : (rest.map fun v => v.category).sum ≤ 8) (hn : pc + 3 = nx) (hd : decode cc pc = .ok (.invokevirtual ix, 3)) (kk : gW p l e R s m args below meth c D cy ad n A nL mc ms Q S' nx lv (V.toList ++ rest)) : gW p l e R s m args below meth c D cy ad n A nL mc ms Q S pc lv (As.reverse ++ .ref (ad i) :: rest) := by
  refine g_goes C hn (a := (Value.ref (ad i) :: As).toArray) (fun H locs ls hP hS hl => ?_) kk
  exact va_runVN (As := As) (rest := rest) ⟨C.1, C.2.1, C.2.2.1, C.2.2.2.1, C.2.2.2.2.1⟩ (hM H.size) ⟨va_cnB na C.2.2.2.2.1 (gi_all h5) rfl hrc hrs (C.2.2.2.2.2.2.2.2.1 _ h1 rfl) (C.2.2.2.2.1 _ h4) hdd.2 hR, C.2.2.2.2.1 _ h2, C.2.2.2.2.1 _ h3⟩ ⟨gBlind, va_recv C.2.2.2.2.2.1 hP hcl ((wW_get ha).trans (by rw [hci])), g_pre C hP hS _⟩ rfl hna hl.1 rfl (lv_room hrest) hd ⟨hcm.1, hcm.2⟩
theorem g_callS (C : gC p s m args meth c cc nL own D cy ad n A) {y : MethodName} {bytes : ByteArray} {maxL : Nat} {ret : Option FieldType} {rm : Room} {V : Option Value} {S' : Sg} {As rest : List Value} {nx ix na : Nat} (hM : ∀ sz : Nat, Met l y (.code y bytes maxL ret :: wsAll) rm (gPc D cy ad n S sz As) (gQ D cy ad n (va_A (wW cy ad n S) sz) V S') 0 0 (va_A (wW cy ad n S) sz)) (h1 : Cond.methodLink own ix y ∈ wsAll) (h2 : Cond.static y ∈ wsAll) (h4 : Cond.initialized own ∈ wsAll) (h5 : Cond.code y bytes maxL ret ∈ wsAll) (hdd : y.cls = own ∧ y.cls ≠ "java/lang/invoke/MethodHandle" ∧ y.cls ≠ "java/lang/invoke/VarHandle" ∧ (parseMethodDescriptor y.desc).map (fun d => d.parameters.length) = some na) (hrc : rm.cells = 0) (hrs : rm.slots = 0) (hR : rm.frames + 1 ≤ R.frames ∧ 8 + (maxL + 11) + rm.locals ≤ R.locals) (hcm : mc ≤ R.cells ∧ ms ≤ R.slots) (hna : As.length = na) (hrest : (rest.map fun v => v.category).sum ≤ 8) (hn : pc + 3 = nx) (hd : decode cc pc = .ok (.invokestatic ix, 3)) (kk : gW p l e R s m args below meth c D cy ad n A nL mc ms Q S' nx lv (V.toList ++ rest)) : gW p l e R s m args below meth c D cy ad n A nL mc ms Q S pc lv (As.reverse ++ rest) := by
  refine g_goes C hn (a := As.toArray) (fun H locs ls hP hS hl => ?_) kk
  exact va_runS (As := As) (rest := rest) ⟨C.1, C.2.1, C.2.2.1, C.2.2.2.1, C.2.2.2.2.1⟩ (hM H.size) (cwS na C.2.2.2.2.1 (gi_app (in3 h1 h2 h4) (gi_all h5)) rfl hrc hrs hdd hR) ⟨gBlind, g_pre C hP hS _⟩ rfl hna hl.1 rfl (lv_room hrest) hd ⟨hcm.1, hcm.2⟩
theorem g_callSN (C : gC p s m args meth c cc nL own D cy ad n A) {y : MethodName} {bytes : ByteArray} {maxL : Nat} {ret : Option FieldType} {rm : Room} {V : Option Value} {S' : Sg} {As rest : List Value} {nx ix na : Nat} {Cn host : String} (hM : ∀ sz : Nat, Met l y (.code y bytes maxL ret :: wsAll) rm (gPc D cy ad n S sz As) (gQ D cy ad n (va_A (wW cy ad n S) sz) V S') 0 0 (va_A (wW cy ad n S) sz)) (h1 : Cond.methodLinkNest own ix y host ∈ tables_1) (h2 : Cond.static y ∈ wsAll) (h4 : Cond.initialized y.cls ∈ wsAll) (h5 : Cond.code y bytes maxL ret ∈ wsAll) (hdd : y.cls = Cn ∧ y.cls ≠ "java/lang/invoke/MethodHandle" ∧ y.cls ≠ "java/lang/invoke/VarHandle" ∧ (parseMethodDescriptor y.desc).map (fun d => d.parameters.length) = some na) (hrc : rm.cells = 0) (hrs : rm.slots = 0) (hR : rm.frames + 1 ≤ R.frames ∧ 8 + (maxL + 11) + rm.locals ≤ R.locals) (hcm : mc ≤ R.cells ∧ ms ≤ R.slots) (hna : As.length = na) (hrest : (rest.map fun v => v.category).sum ≤ 8) (hn : pc + 3 = nx) (hd : decode cc pc = .ok (.invokestatic ix, 3)) (kk : gW p l e R s m args below meth c D cy ad n A nL mc ms Q S' nx lv (V.toList ++ rest)) : gW p l e R s m args below meth c D cy ad n A nL mc ms Q S pc lv (As.reverse ++ rest) := by
  refine g_goes C hn (a := As.toArray) (fun H locs ls hP hS hl => ?_) kk
  exact va_runSN (As := As) (rest := rest) ⟨C.1, C.2.1, C.2.2.1, C.2.2.2.1, C.2.2.2.2.1⟩ (hM H.size) ⟨va_cnB na C.2.2.2.2.1 (gi_all h5) rfl hrc hrs (C.2.2.2.2.2.2.2.2.1 _ h1 rfl) (C.2.2.2.2.1 _ h4) hdd.2 hR, C.2.2.2.2.1 _ h2, trivial⟩ ⟨gBlind, g_pre C hP hS _⟩ rfl hna hl.1 rfl (lv_room hrest) hd ⟨hcm.1, hcm.2⟩
theorem g_tru (C : gC p s m args meth c cc nL own D cy ad n A) (nx nx2 nx3 : Nat) {ix : Nat} {ref : String} {lv : List (Nat × Value)} {x : Int32} {ζ : Type} {z : ζ} (k : Fin 4) (q : Nat) (hq : lv[q]? = some ((k : Nat), .int x)) (hlk : Cond.fieldLink own ix ref "TRUTHS" "[J" ∈ wsAll) (href : ref = "WordMachines$Parser") (hd : decode cc pc = .ok (.getstatic ix, 3)) (hn : pc + 3 = nx) (hd2 : decode cc nx = .ok (.iload_n k, 1)) (hn2 : nx + 1 = nx2) (hd3 : decode cc nx2 = .ok (.laload, 1)) (hn3 : nx2 + 1 = nx3) {K : Option ζ} (hz : ck x 6 K = some z) (kk : K = some z → gW p l e R s m args below meth c D cy ad n A nL mc ms Q S nx3 lv (.long (tru x.toNatClampNeg) :: st)) : gW p l e R s m args below meth c D cy ad n A nL mc ms Q S pc lv st := by
  intro H locs ls hP hS hl
  subst hn; subst hn2; subst hn3; subst href
  obtain ⟨b, hZ, hT⟩ := C.2.2.2.2.2.2.2.2.2.1
  obtain ⟨h1, h2⟩ := ck_s hz
  refine va_gets C.1 C.2.1 hZ hS C.2.2.2.1 (C.2.2.2.2.1 _ hlk) (fun _ h => h) hd ?_
  refine lv_iload_n C.1 C.2.1 hd2 rfl (lv_at hl q hq) ?_
  exact va_tl C.1 C.2.1 hT hS h1 rfl hd3 (kk h2 H locs ls hP hS hl)
end GCALLS
