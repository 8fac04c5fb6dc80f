-- ===== PART A: goes FIRST, ahead of the names: the tables' words, and 'selects' of the private methods out of them =====
/-- a private method of a class that the tables say can be made, by its rows of tables_1 -/
def lw_okq (q : MethodName × Nat) : Prop := (q.1.cls ≠ "java/lang/invoke/MethodHandle" ∧ q.1.cls ≠ "java/lang/invoke/VarHandle") ∧ Cond.instantiable q.1.cls q.2 ∈ tables_1 ∧ Cond.privateMethod q.1 ∈ tables_1 ∧ Cond.instanceMethod q.1 ∈ tables_1
theorem lw_p0 : lw_okq (⟨"WordMachines", "putBytes", "(I)V"⟩, 11) := ⟨⟨by decide +kernel, by decide +kernel⟩, List.mem_of_getElem? (i := 15) (by decide +kernel), List.mem_of_getElem? (i := 242) (by decide +kernel), List.mem_of_getElem? (i := 243) (by decide +kernel)⟩
theorem lw_p1 : lw_okq (⟨"WordMachines$Parser", "parse", "([II)Z"⟩, 9) := ⟨⟨by decide +kernel, by decide +kernel⟩, List.mem_of_getElem? (i := 25) (by decide +kernel), List.mem_of_getElem? (i := 250) (by decide +kernel), List.mem_of_getElem? (i := 251) (by decide +kernel)⟩
theorem lw_p2 : lw_okq (⟨"WordMachines$Parser", "top", "(I)J"⟩, 9) := ⟨⟨by decide +kernel, by decide +kernel⟩, List.mem_of_getElem? (i := 25) (by decide +kernel), List.mem_of_getElem? (i := 263) (by decide +kernel), List.mem_of_getElem? (i := 264) (by decide +kernel)⟩
theorem lw_p3 : lw_okq (⟨"WordMachines$Parser", "meet", "(I)J"⟩, 9) := ⟨⟨by decide +kernel, by decide +kernel⟩, List.mem_of_getElem? (i := 25) (by decide +kernel), List.mem_of_getElem? (i := 267) (by decide +kernel), List.mem_of_getElem? (i := 268) (by decide +kernel)⟩
theorem lw_p4 : lw_okq (⟨"WordMachines$Parser", "side", "(I)J"⟩, 9) := ⟨⟨by decide +kernel, by decide +kernel⟩, List.mem_of_getElem? (i := 25) (by decide +kernel), List.mem_of_getElem? (i := 271) (by decide +kernel), List.mem_of_getElem? (i := 272) (by decide +kernel)⟩
theorem lw_p5 : lw_okq (⟨"WordMachines$Parser", "sign", "()I"⟩, 9) := ⟨⟨by decide +kernel, by decide +kernel⟩, List.mem_of_getElem? (i := 25) (by decide +kernel), List.mem_of_getElem? (i := 275) (by decide +kernel), List.mem_of_getElem? (i := 276) (by decide +kernel)⟩
theorem lw_p6 : lw_okq (⟨"WordMachines$Parser", "joinedPart", "()J"⟩, 9) := ⟨⟨by decide +kernel, by decide +kernel⟩, List.mem_of_getElem? (i := 25) (by decide +kernel), List.mem_of_getElem? (i := 279) (by decide +kernel), List.mem_of_getElem? (i := 280) (by decide +kernel)⟩
theorem lw_p7 : lw_okq (⟨"WordMachines$Parser", "refuse", "(I)V"⟩, 9) := ⟨⟨by decide +kernel, by decide +kernel⟩, List.mem_of_getElem? (i := 25) (by decide +kernel), List.mem_of_getElem? (i := 289) (by decide +kernel), List.mem_of_getElem? (i := 290) (by decide +kernel)⟩
theorem lw_p8 : lw_okq (⟨"WordMachines$Parts", "begin", "()V"⟩, 8) := ⟨⟨by decide +kernel, by decide +kernel⟩, List.mem_of_getElem? (i := 31) (by decide +kernel), List.mem_of_getElem? (i := 293) (by decide +kernel), List.mem_of_getElem? (i := 294) (by decide +kernel)⟩
theorem lw_p9 : lw_okq (⟨"WordMachines$Parser", "part", "(I)V"⟩, 9) := ⟨⟨by decide +kernel, by decide +kernel⟩, List.mem_of_getElem? (i := 25) (by decide +kernel), List.mem_of_getElem? (i := 297) (by decide +kernel), List.mem_of_getElem? (i := 298) (by decide +kernel)⟩
theorem lw_p10 : lw_okq (⟨"WordMachines$Parser", "row", "(I)V"⟩, 9) := ⟨⟨by decide +kernel, by decide +kernel⟩, List.mem_of_getElem? (i := 25) (by decide +kernel), List.mem_of_getElem? (i := 301) (by decide +kernel), List.mem_of_getElem? (i := 302) (by decide +kernel)⟩
theorem lw_p11 : lw_okq (⟨"WordMachines$Parser", "item", "(I)V"⟩, 9) := ⟨⟨by decide +kernel, by decide +kernel⟩, List.mem_of_getElem? (i := 25) (by decide +kernel), List.mem_of_getElem? (i := 305) (by decide +kernel), List.mem_of_getElem? (i := 306) (by decide +kernel)⟩
theorem lw_p12 : lw_okq (⟨"WordMachines$Parser", "atom", "(I)V"⟩, 9) := ⟨⟨by decide +kernel, by decide +kernel⟩, List.mem_of_getElem? (i := 25) (by decide +kernel), List.mem_of_getElem? (i := 309) (by decide +kernel), List.mem_of_getElem? (i := 310) (by decide +kernel)⟩
theorem lw_p13 : lw_okq (⟨"WordMachines$Parser", "group", "(I)V"⟩, 9) := ⟨⟨by decide +kernel, by decide +kernel⟩, List.mem_of_getElem? (i := 25) (by decide +kernel), List.mem_of_getElem? (i := 313) (by decide +kernel), List.mem_of_getElem? (i := 314) (by decide +kernel)⟩
theorem lw_p14 : lw_okq (⟨"WordMachines$Parser", "pass", "(I)V"⟩, 9) := ⟨⟨by decide +kernel, by decide +kernel⟩, List.mem_of_getElem? (i := 25) (by decide +kernel), List.mem_of_getElem? (i := 317) (by decide +kernel), List.mem_of_getElem? (i := 318) (by decide +kernel)⟩
theorem lw_p15 : lw_okq (⟨"WordMachines$Parser", "setPiece", "(IIZ)V"⟩, 9) := ⟨⟨by decide +kernel, by decide +kernel⟩, List.mem_of_getElem? (i := 25) (by decide +kernel), List.mem_of_getElem? (i := 321) (by decide +kernel), List.mem_of_getElem? (i := 322) (by decide +kernel)⟩
def lw_privs_1 : List (MethodName × Nat) := [(⟨"WordMachines", "putBytes", "(I)V"⟩, 11), (⟨"WordMachines$Parser", "parse", "([II)Z"⟩, 9), (⟨"WordMachines$Parser", "top", "(I)J"⟩, 9), (⟨"WordMachines$Parser", "meet", "(I)J"⟩, 9), (⟨"WordMachines$Parser", "side", "(I)J"⟩, 9), (⟨"WordMachines$Parser", "sign", "()I"⟩, 9), (⟨"WordMachines$Parser", "joinedPart", "()J"⟩, 9), (⟨"WordMachines$Parser", "refuse", "(I)V"⟩, 9), (⟨"WordMachines$Parts", "begin", "()V"⟩, 8), (⟨"WordMachines$Parser", "part", "(I)V"⟩, 9), (⟨"WordMachines$Parser", "row", "(I)V"⟩, 9), (⟨"WordMachines$Parser", "item", "(I)V"⟩, 9), (⟨"WordMachines$Parser", "atom", "(I)V"⟩, 9), (⟨"WordMachines$Parser", "group", "(I)V"⟩, 9), (⟨"WordMachines$Parser", "pass", "(I)V"⟩, 9), (⟨"WordMachines$Parser", "setPiece", "(IIZ)V"⟩, 9)]
theorem lw_r1 : ∀ q ∈ lw_privs_1, lw_okq q := List.forall_mem_cons.mpr ⟨lw_p0, List.forall_mem_cons.mpr ⟨lw_p1, List.forall_mem_cons.mpr ⟨lw_p2, List.forall_mem_cons.mpr ⟨lw_p3, List.forall_mem_cons.mpr ⟨lw_p4, List.forall_mem_cons.mpr ⟨lw_p5, List.forall_mem_cons.mpr ⟨lw_p6, List.forall_mem_cons.mpr ⟨lw_p7, List.forall_mem_cons.mpr ⟨lw_p8, List.forall_mem_cons.mpr ⟨lw_p9, List.forall_mem_cons.mpr ⟨lw_p10, List.forall_mem_cons.mpr ⟨lw_p11, List.forall_mem_cons.mpr ⟨lw_p12, List.forall_mem_cons.mpr ⟨lw_p13, List.forall_mem_cons.mpr ⟨lw_p14, List.forall_mem_cons.mpr ⟨lw_p15, fun _ h => absurd h List.not_mem_nil⟩⟩⟩⟩⟩⟩⟩⟩⟩⟩⟩⟩⟩⟩⟩⟩
theorem lw_p16 : lw_okq (⟨"WordMachines$Parts", "isFull", "()Z"⟩, 8) := ⟨⟨by decide +kernel, by decide +kernel⟩, List.mem_of_getElem? (i := 31) (by decide +kernel), List.mem_of_getElem? (i := 325) (by decide +kernel), List.mem_of_getElem? (i := 326) (by decide +kernel)⟩
theorem lw_p17 : lw_okq (⟨"WordMachines$Parser", "bracket", "()I"⟩, 9) := ⟨⟨by decide +kernel, by decide +kernel⟩, List.mem_of_getElem? (i := 25) (by decide +kernel), List.mem_of_getElem? (i := 329) (by decide +kernel), List.mem_of_getElem? (i := 330) (by decide +kernel)⟩
theorem lw_p18 : lw_okq (⟨"WordMachines$Parser", "range", "()I"⟩, 9) := ⟨⟨by decide +kernel, by decide +kernel⟩, List.mem_of_getElem? (i := 25) (by decide +kernel), List.mem_of_getElem? (i := 333) (by decide +kernel), List.mem_of_getElem? (i := 334) (by decide +kernel)⟩
theorem lw_p19 : lw_okq (⟨"WordMachines$Parts", "addSpot", "(I)I"⟩, 8) := ⟨⟨by decide +kernel, by decide +kernel⟩, List.mem_of_getElem? (i := 31) (by decide +kernel), List.mem_of_getElem? (i := 340) (by decide +kernel), List.mem_of_getElem? (i := 341) (by decide +kernel)⟩
theorem lw_p20 : lw_okq (⟨"WordMachines$Parts", "link", "(II)V"⟩, 8) := ⟨⟨by decide +kernel, by decide +kernel⟩, List.mem_of_getElem? (i := 31) (by decide +kernel), List.mem_of_getElem? (i := 347) (by decide +kernel), List.mem_of_getElem? (i := 348) (by decide +kernel)⟩
theorem lw_p21 : lw_okq (⟨"WordMachines$Parts", "end", "(IIZ)V"⟩, 8) := ⟨⟨by decide +kernel, by decide +kernel⟩, List.mem_of_getElem? (i := 31) (by decide +kernel), List.mem_of_getElem? (i := 351) (by decide +kernel), List.mem_of_getElem? (i := 352) (by decide +kernel)⟩
theorem lw_p22 : lw_okq (⟨"WordMachines$Maker", "make", "(LWordMachines$Parts;LWordMachines$Machine;)Z"⟩, 4) := ⟨⟨by decide +kernel, by decide +kernel⟩, List.mem_of_getElem? (i := 103) (by decide +kernel), List.mem_of_getElem? (i := 425) (by decide +kernel), List.mem_of_getElem? (i := 426) (by decide +kernel)⟩
theorem lw_p23 : lw_okq (⟨"WordMachines$Parts", "spotsInAll", "()I"⟩, 8) := ⟨⟨by decide +kernel, by decide +kernel⟩, List.mem_of_getElem? (i := 31) (by decide +kernel), List.mem_of_getElem? (i := 429) (by decide +kernel), List.mem_of_getElem? (i := 430) (by decide +kernel)⟩
theorem lw_p24 : lw_okq (⟨"WordMachines$Maker", "beginEmpty", "()V"⟩, 4) := ⟨⟨by decide +kernel, by decide +kernel⟩, List.mem_of_getElem? (i := 103) (by decide +kernel), List.mem_of_getElem? (i := 433) (by decide +kernel), List.mem_of_getElem? (i := 434) (by decide +kernel)⟩
theorem lw_p25 : lw_okq (⟨"WordMachines$Maker", "addState", "(LWordMachines$Parts;LWordMachines$Machine;I)Z"⟩, 4) := ⟨⟨by decide +kernel, by decide +kernel⟩, List.mem_of_getElem? (i := 103) (by decide +kernel), List.mem_of_getElem? (i := 437) (by decide +kernel), List.mem_of_getElem? (i := 438) (by decide +kernel)⟩
theorem lw_p26 : lw_okq (⟨"WordMachines$Maker", "bucketBehind", "(I)I"⟩, 4) := ⟨⟨by decide +kernel, by decide +kernel⟩, List.mem_of_getElem? (i := 103) (by decide +kernel), List.mem_of_getElem? (i := 441) (by decide +kernel), List.mem_of_getElem? (i := 442) (by decide +kernel)⟩
theorem lw_p27 : lw_okq (⟨"WordMachines$Maker", "setReach", "(LWordMachines$Parts;LWordMachines$Machine;I)V"⟩, 4) := ⟨⟨by decide +kernel, by decide +kernel⟩, List.mem_of_getElem? (i := 103) (by decide +kernel), List.mem_of_getElem? (i := 446) (by decide +kernel), List.mem_of_getElem? (i := 447) (by decide +kernel)⟩
theorem lw_p28 : lw_okq (⟨"WordMachines$Parts", "following", "(II)I"⟩, 8) := ⟨⟨by decide +kernel, by decide +kernel⟩, List.mem_of_getElem? (i := 31) (by decide +kernel), List.mem_of_getElem? (i := 450) (by decide +kernel), List.mem_of_getElem? (i := 451) (by decide +kernel)⟩
theorem lw_p29 : lw_okq (⟨"WordMachines$Maker", "setBehind", "(LWordMachines$Parts;I)V"⟩, 4) := ⟨⟨by decide +kernel, by decide +kernel⟩, List.mem_of_getElem? (i := 103) (by decide +kernel), List.mem_of_getElem? (i := 454) (by decide +kernel), List.mem_of_getElem? (i := 455) (by decide +kernel)⟩
theorem lw_p30 : lw_okq (⟨"WordMachines$Maker", "stateBehind", "(LWordMachines$Machine;)I"⟩, 4) := ⟨⟨by decide +kernel, by decide +kernel⟩, List.mem_of_getElem? (i := 103) (by decide +kernel), List.mem_of_getElem? (i := 458) (by decide +kernel), List.mem_of_getElem? (i := 459) (by decide +kernel)⟩
theorem lw_p31 : lw_okq (⟨"WordMachines$Maker", "hasSetsBehind", "(LWordMachines$Machine;I)Z"⟩, 4) := ⟨⟨by decide +kernel, by decide +kernel⟩, List.mem_of_getElem? (i := 103) (by decide +kernel), List.mem_of_getElem? (i := 462) (by decide +kernel), List.mem_of_getElem? (i := 463) (by decide +kernel)⟩
def lw_privs_2 : List (MethodName × Nat) := [(⟨"WordMachines$Parts", "isFull", "()Z"⟩, 8), (⟨"WordMachines$Parser", "bracket", "()I"⟩, 9), (⟨"WordMachines$Parser", "range", "()I"⟩, 9), (⟨"WordMachines$Parts", "addSpot", "(I)I"⟩, 8), (⟨"WordMachines$Parts", "link", "(II)V"⟩, 8), (⟨"WordMachines$Parts", "end", "(IIZ)V"⟩, 8), (⟨"WordMachines$Maker", "make", "(LWordMachines$Parts;LWordMachines$Machine;)Z"⟩, 4), (⟨"WordMachines$Parts", "spotsInAll", "()I"⟩, 8), (⟨"WordMachines$Maker", "beginEmpty", "()V"⟩, 4), (⟨"WordMachines$Maker", "addState", "(LWordMachines$Parts;LWordMachines$Machine;I)Z"⟩, 4), (⟨"WordMachines$Maker", "bucketBehind", "(I)I"⟩, 4), (⟨"WordMachines$Maker", "setReach", "(LWordMachines$Parts;LWordMachines$Machine;I)V"⟩, 4), (⟨"WordMachines$Parts", "following", "(II)I"⟩, 8), (⟨"WordMachines$Maker", "setBehind", "(LWordMachines$Parts;I)V"⟩, 4), (⟨"WordMachines$Maker", "stateBehind", "(LWordMachines$Machine;)I"⟩, 4), (⟨"WordMachines$Maker", "hasSetsBehind", "(LWordMachines$Machine;I)Z"⟩, 4)]
theorem lw_r2 : ∀ q ∈ lw_privs_2, lw_okq q := List.forall_mem_cons.mpr ⟨lw_p16, List.forall_mem_cons.mpr ⟨lw_p17, List.forall_mem_cons.mpr ⟨lw_p18, List.forall_mem_cons.mpr ⟨lw_p19, List.forall_mem_cons.mpr ⟨lw_p20, List.forall_mem_cons.mpr ⟨lw_p21, List.forall_mem_cons.mpr ⟨lw_p22, List.forall_mem_cons.mpr ⟨lw_p23, List.forall_mem_cons.mpr ⟨lw_p24, List.forall_mem_cons.mpr ⟨lw_p25, List.forall_mem_cons.mpr ⟨lw_p26, List.forall_mem_cons.mpr ⟨lw_p27, List.forall_mem_cons.mpr ⟨lw_p28, List.forall_mem_cons.mpr ⟨lw_p29, List.forall_mem_cons.mpr ⟨lw_p30, List.forall_mem_cons.mpr ⟨lw_p31, fun _ h => absurd h List.not_mem_nil⟩⟩⟩⟩⟩⟩⟩⟩⟩⟩⟩⟩⟩⟩⟩⟩
theorem lw_p32 : lw_okq (⟨"WordMachines$Least", "classify", "(LWordMachines$Machine;)V"⟩, 4) := ⟨⟨by decide +kernel, by decide +kernel⟩, List.mem_of_getElem? (i := 122) (by decide +kernel), List.mem_of_getElem? (i := 466) (by decide +kernel), List.mem_of_getElem? (i := 467) (by decide +kernel)⟩
theorem lw_p33 : lw_okq (⟨"WordMachines$Least", "divideByNext", "(LWordMachines$Machine;)Z"⟩, 4) := ⟨⟨by decide +kernel, by decide +kernel⟩, List.mem_of_getElem? (i := 122) (by decide +kernel), List.mem_of_getElem? (i := 473) (by decide +kernel), List.mem_of_getElem? (i := 474) (by decide +kernel)⟩
theorem lw_p34 : lw_okq (⟨"WordMachines$Least", "leaderLike", "(LWordMachines$Machine;I)I"⟩, 4) := ⟨⟨by decide +kernel, by decide +kernel⟩, List.mem_of_getElem? (i := 122) (by decide +kernel), List.mem_of_getElem? (i := 477) (by decide +kernel), List.mem_of_getElem? (i := 478) (by decide +kernel)⟩
theorem lw_p35 : lw_okq (⟨"WordMachines$Least", "isFinite", "(LWordMachines$Machine;)Z"⟩, 4) := ⟨⟨by decide +kernel, by decide +kernel⟩, List.mem_of_getElem? (i := 122) (by decide +kernel), List.mem_of_getElem? (i := 485) (by decide +kernel), List.mem_of_getElem? (i := 486) (by decide +kernel)⟩
theorem lw_p36 : lw_okq (⟨"WordMachines$Least", "goesToEndedOnly", "(LWordMachines$Machine;I)Z"⟩, 4) := ⟨⟨by decide +kernel, by decide +kernel⟩, List.mem_of_getElem? (i := 122) (by decide +kernel), List.mem_of_getElem? (i := 492) (by decide +kernel), List.mem_of_getElem? (i := 493) (by decide +kernel)⟩
theorem lw_p37 : lw_okq (⟨"WordMachines", "machineIn", "(I)LWordMachines$Machine;"⟩, 11) := ⟨⟨by decide +kernel, by decide +kernel⟩, List.mem_of_getElem? (i := 15) (by decide +kernel), List.mem_of_getElem? (i := 504) (by decide +kernel), List.mem_of_getElem? (i := 505) (by decide +kernel)⟩
theorem lw_p38 : lw_okq (⟨"WordMachines$Machine", "firstAccepting", "()I"⟩, 10) := ⟨⟨by decide +kernel, by decide +kernel⟩, List.mem_of_getElem? (i := 357) (by decide +kernel), List.mem_of_getElem? (i := 508) (by decide +kernel), List.mem_of_getElem? (i := 509) (by decide +kernel)⟩
theorem lw_p39 : lw_okq (⟨"WordMachines$Machine", "hasState", "(I)Z"⟩, 10) := ⟨⟨by decide +kernel, by decide +kernel⟩, List.mem_of_getElem? (i := 357) (by decide +kernel), List.mem_of_getElem? (i := 516) (by decide +kernel), List.mem_of_getElem? (i := 517) (by decide +kernel)⟩
theorem lw_p40 : lw_okq (⟨"WordMachines$Counts", "count", "(LWordMachines$Machine;I)V"⟩, 1) := ⟨⟨by decide +kernel, by decide +kernel⟩, List.mem_of_getElem? (i := 141) (by decide +kernel), List.mem_of_getElem? (i := 542) (by decide +kernel), List.mem_of_getElem? (i := 543) (by decide +kernel)⟩
theorem lw_p41 : lw_okq (⟨"WordMachines$Counts", "behind", "(II)J"⟩, 1) := ⟨⟨by decide +kernel, by decide +kernel⟩, List.mem_of_getElem? (i := 141) (by decide +kernel), List.mem_of_getElem? (i := 546) (by decide +kernel), List.mem_of_getElem? (i := 547) (by decide +kernel)⟩
theorem lw_p42 : lw_okq (⟨"WordMachines$Counts", "tellWord", "(LWordMachines$Machine;IJLWordMachines$Told;)V"⟩, 1) := ⟨⟨by decide +kernel, by decide +kernel⟩, List.mem_of_getElem? (i := 141) (by decide +kernel), List.mem_of_getElem? (i := 555) (by decide +kernel), List.mem_of_getElem? (i := 556) (by decide +kernel)⟩
theorem lw_p43 : lw_okq (⟨"WordMachines$Told", "trace", "([II)V"⟩, 2) := ⟨⟨by decide +kernel, by decide +kernel⟩, List.mem_of_getElem? (i := 187) (by decide +kernel), List.mem_of_getElem? (i := 563) (by decide +kernel), List.mem_of_getElem? (i := 564) (by decide +kernel)⟩
theorem lw_p44 : lw_okq (⟨"WordMachines$Inclusion", "surplus", "(LWordMachines$Machine;LWordMachines$Machine;)I"⟩, 2) := ⟨⟨by decide +kernel, by decide +kernel⟩, List.mem_of_getElem? (i := 152) (by decide +kernel), List.mem_of_getElem? (i := 571) (by decide +kernel), List.mem_of_getElem? (i := 572) (by decide +kernel)⟩
theorem lw_p45 : lw_okq (⟨"WordMachines$Inclusion", "visitRow", "(LWordMachines$Machine;LWordMachines$Machine;I)I"⟩, 2) := ⟨⟨by decide +kernel, by decide +kernel⟩, List.mem_of_getElem? (i := 152) (by decide +kernel), List.mem_of_getElem? (i := 576) (by decide +kernel), List.mem_of_getElem? (i := 577) (by decide +kernel)⟩
theorem lw_p46 : lw_okq (⟨"WordMachines$Inclusion", "visit", "(LWordMachines$Machine;LWordMachines$Machine;I)I"⟩, 2) := ⟨⟨by decide +kernel, by decide +kernel⟩, List.mem_of_getElem? (i := 152) (by decide +kernel), List.mem_of_getElem? (i := 580) (by decide +kernel), List.mem_of_getElem? (i := 581) (by decide +kernel)⟩
theorem lw_p47 : lw_okq (⟨"WordMachines$Difference", "find", "(LWordMachines$Machine;LWordMachines$Machine;LWordMachines$Told;)Z"⟩, 5) := ⟨⟨by decide +kernel, by decide +kernel⟩, List.mem_of_getElem? (i := 165) (by decide +kernel), List.mem_of_getElem? (i := 589) (by decide +kernel), List.mem_of_getElem? (i := 590) (by decide +kernel)⟩
def lw_privs_3 : List (MethodName × Nat) := [(⟨"WordMachines$Least", "classify", "(LWordMachines$Machine;)V"⟩, 4), (⟨"WordMachines$Least", "divideByNext", "(LWordMachines$Machine;)Z"⟩, 4), (⟨"WordMachines$Least", "leaderLike", "(LWordMachines$Machine;I)I"⟩, 4), (⟨"WordMachines$Least", "isFinite", "(LWordMachines$Machine;)Z"⟩, 4), (⟨"WordMachines$Least", "goesToEndedOnly", "(LWordMachines$Machine;I)Z"⟩, 4), (⟨"WordMachines", "machineIn", "(I)LWordMachines$Machine;"⟩, 11), (⟨"WordMachines$Machine", "firstAccepting", "()I"⟩, 10), (⟨"WordMachines$Machine", "hasState", "(I)Z"⟩, 10), (⟨"WordMachines$Counts", "count", "(LWordMachines$Machine;I)V"⟩, 1), (⟨"WordMachines$Counts", "behind", "(II)J"⟩, 1), (⟨"WordMachines$Counts", "tellWord", "(LWordMachines$Machine;IJLWordMachines$Told;)V"⟩, 1), (⟨"WordMachines$Told", "trace", "([II)V"⟩, 2), (⟨"WordMachines$Inclusion", "surplus", "(LWordMachines$Machine;LWordMachines$Machine;)I"⟩, 2), (⟨"WordMachines$Inclusion", "visitRow", "(LWordMachines$Machine;LWordMachines$Machine;I)I"⟩, 2), (⟨"WordMachines$Inclusion", "visit", "(LWordMachines$Machine;LWordMachines$Machine;I)I"⟩, 2), (⟨"WordMachines$Difference", "find", "(LWordMachines$Machine;LWordMachines$Machine;LWordMachines$Told;)Z"⟩, 5)]
theorem lw_r3 : ∀ q ∈ lw_privs_3, lw_okq q := List.forall_mem_cons.mpr ⟨lw_p32, List.forall_mem_cons.mpr ⟨lw_p33, List.forall_mem_cons.mpr ⟨lw_p34, List.forall_mem_cons.mpr ⟨lw_p35, List.forall_mem_cons.mpr ⟨lw_p36, List.forall_mem_cons.mpr ⟨lw_p37, List.forall_mem_cons.mpr ⟨lw_p38, List.forall_mem_cons.mpr ⟨lw_p39, List.forall_mem_cons.mpr ⟨lw_p40, List.forall_mem_cons.mpr ⟨lw_p41, List.forall_mem_cons.mpr ⟨lw_p42, List.forall_mem_cons.mpr ⟨lw_p43, List.forall_mem_cons.mpr ⟨lw_p44, List.forall_mem_cons.mpr ⟨lw_p45, List.forall_mem_cons.mpr ⟨lw_p46, List.forall_mem_cons.mpr ⟨lw_p47, fun _ h => absurd h List.not_mem_nil⟩⟩⟩⟩⟩⟩⟩⟩⟩⟩⟩⟩⟩⟩⟩⟩
theorem lw_p48 : lw_okq (⟨"WordMachines$Difference", "tiePair", "(III)V"⟩, 5) := ⟨⟨by decide +kernel, by decide +kernel⟩, List.mem_of_getElem? (i := 165) (by decide +kernel), List.mem_of_getElem? (i := 593) (by decide +kernel), List.mem_of_getElem? (i := 594) (by decide +kernel)⟩
theorem lw_p49 : lw_okq (⟨"WordMachines$Difference", "groupOf", "(I)I"⟩, 5) := ⟨⟨by decide +kernel, by decide +kernel⟩, List.mem_of_getElem? (i := 165) (by decide +kernel), List.mem_of_getElem? (i := 597) (by decide +kernel), List.mem_of_getElem? (i := 598) (by decide +kernel)⟩
theorem lw_p50 : lw_okq (⟨"WordMachinesModel", "push", "(I)V"⟩, 59) := ⟨⟨by decide +kernel, by decide +kernel⟩, List.mem_of_getElem? (i := 606) (by decide +kernel), List.mem_of_getElem? (i := 795) (by decide +kernel), List.mem_of_getElem? (i := 796) (by decide +kernel)⟩
theorem lw_p51 : lw_okq (⟨"WordMachinesModel", "whole", "()V"⟩, 59) := ⟨⟨by decide +kernel, by decide +kernel⟩, List.mem_of_getElem? (i := 606) (by decide +kernel), List.mem_of_getElem? (i := 806) (by decide +kernel), List.mem_of_getElem? (i := 807) (by decide +kernel)⟩
theorem lw_p52 : lw_okq (⟨"WordMachinesModel", "sees", "(I)Z"⟩, 59) := ⟨⟨by decide +kernel, by decide +kernel⟩, List.mem_of_getElem? (i := 606) (by decide +kernel), List.mem_of_getElem? (i := 810) (by decide +kernel), List.mem_of_getElem? (i := 811) (by decide +kernel)⟩
theorem lw_p53 : lw_okq (⟨"WordMachinesModel", "bad", "(II)V"⟩, 59) := ⟨⟨by decide +kernel, by decide +kernel⟩, List.mem_of_getElem? (i := 606) (by decide +kernel), List.mem_of_getElem? (i := 814) (by decide +kernel), List.mem_of_getElem? (i := 815) (by decide +kernel)⟩
theorem lw_p54 : lw_okq (⟨"WordMachinesModel", "seesAtom", "()Z"⟩, 59) := ⟨⟨by decide +kernel, by decide +kernel⟩, List.mem_of_getElem? (i := 606) (by decide +kernel), List.mem_of_getElem? (i := 818) (by decide +kernel), List.mem_of_getElem? (i := 819) (by decide +kernel)⟩
theorem lw_p55 : lw_okq (⟨"WordMachinesModel", "seesLetter", "()Z"⟩, 59) := ⟨⟨by decide +kernel, by decide +kernel⟩, List.mem_of_getElem? (i := 606) (by decide +kernel), List.mem_of_getElem? (i := 822) (by decide +kernel), List.mem_of_getElem? (i := 823) (by decide +kernel)⟩
theorem lw_p56 : lw_okq (⟨"WordMachinesModel", "here", "()I"⟩, 59) := ⟨⟨by decide +kernel, by decide +kernel⟩, List.mem_of_getElem? (i := 606) (by decide +kernel), List.mem_of_getElem? (i := 826) (by decide +kernel), List.mem_of_getElem? (i := 827) (by decide +kernel)⟩
theorem lw_p57 : lw_okq (⟨"WordMachinesModel", "need", "(Z)V"⟩, 59) := ⟨⟨by decide +kernel, by decide +kernel⟩, List.mem_of_getElem? (i := 606) (by decide +kernel), List.mem_of_getElem? (i := 830) (by decide +kernel), List.mem_of_getElem? (i := 831) (by decide +kernel)⟩
theorem lw_p58 : lw_okq (⟨"WordMachinesModel", "part", "()V"⟩, 59) := ⟨⟨by decide +kernel, by decide +kernel⟩, List.mem_of_getElem? (i := 606) (by decide +kernel), List.mem_of_getElem? (i := 834) (by decide +kernel), List.mem_of_getElem? (i := 835) (by decide +kernel)⟩
theorem lw_p59 : lw_okq (⟨"WordMachinesModel", "opens", "()V"⟩, 59) := ⟨⟨by decide +kernel, by decide +kernel⟩, List.mem_of_getElem? (i := 606) (by decide +kernel), List.mem_of_getElem? (i := 838) (by decide +kernel), List.mem_of_getElem? (i := 839) (by decide +kernel)⟩
theorem lw_p60 : lw_okq (⟨"WordMachinesModel", "atom", "()V"⟩, 59) := ⟨⟨by decide +kernel, by decide +kernel⟩, List.mem_of_getElem? (i := 606) (by decide +kernel), List.mem_of_getElem? (i := 842) (by decide +kernel), List.mem_of_getElem? (i := 843) (by decide +kernel)⟩
theorem lw_p61 : lw_okq (⟨"WordMachinesModel", "spot", "(II)V"⟩, 59) := ⟨⟨by decide +kernel, by decide +kernel⟩, List.mem_of_getElem? (i := 606) (by decide +kernel), List.mem_of_getElem? (i := 846) (by decide +kernel), List.mem_of_getElem? (i := 847) (by decide +kernel)⟩
theorem lw_p62 : lw_okq (⟨"WordMachinesModel", "spotAt", "(I)I"⟩, 59) := ⟨⟨by decide +kernel, by decide +kernel⟩, List.mem_of_getElem? (i := 606) (by decide +kernel), List.mem_of_getElem? (i := 850) (by decide +kernel), List.mem_of_getElem? (i := 851) (by decide +kernel)⟩
theorem lw_p63 : lw_okq (⟨"WordMachinesModel", "bracket", "()I"⟩, 59) := ⟨⟨by decide +kernel, by decide +kernel⟩, List.mem_of_getElem? (i := 606) (by decide +kernel), List.mem_of_getElem? (i := 854) (by decide +kernel), List.mem_of_getElem? (i := 855) (by decide +kernel)⟩
def lw_privs_4 : List (MethodName × Nat) := [(⟨"WordMachines$Difference", "tiePair", "(III)V"⟩, 5), (⟨"WordMachines$Difference", "groupOf", "(I)I"⟩, 5), (⟨"WordMachinesModel", "push", "(I)V"⟩, 59), (⟨"WordMachinesModel", "whole", "()V"⟩, 59), (⟨"WordMachinesModel", "sees", "(I)Z"⟩, 59), (⟨"WordMachinesModel", "bad", "(II)V"⟩, 59), (⟨"WordMachinesModel", "seesAtom", "()Z"⟩, 59), (⟨"WordMachinesModel", "seesLetter", "()Z"⟩, 59), (⟨"WordMachinesModel", "here", "()I"⟩, 59), (⟨"WordMachinesModel", "need", "(Z)V"⟩, 59), (⟨"WordMachinesModel", "part", "()V"⟩, 59), (⟨"WordMachinesModel", "opens", "()V"⟩, 59), (⟨"WordMachinesModel", "atom", "()V"⟩, 59), (⟨"WordMachinesModel", "spot", "(II)V"⟩, 59), (⟨"WordMachinesModel", "spotAt", "(I)I"⟩, 59), (⟨"WordMachinesModel", "bracket", "()I"⟩, 59)]
theorem lw_r4 : ∀ q ∈ lw_privs_4, lw_okq q := List.forall_mem_cons.mpr ⟨lw_p48, List.forall_mem_cons.mpr ⟨lw_p49, List.forall_mem_cons.mpr ⟨lw_p50, List.forall_mem_cons.mpr ⟨lw_p51, List.forall_mem_cons.mpr ⟨lw_p52, List.forall_mem_cons.mpr ⟨lw_p53, List.forall_mem_cons.mpr ⟨lw_p54, List.forall_mem_cons.mpr ⟨lw_p55, List.forall_mem_cons.mpr ⟨lw_p56, List.forall_mem_cons.mpr ⟨lw_p57, List.forall_mem_cons.mpr ⟨lw_p58, List.forall_mem_cons.mpr ⟨lw_p59, List.forall_mem_cons.mpr ⟨lw_p60, List.forall_mem_cons.mpr ⟨lw_p61, List.forall_mem_cons.mpr ⟨lw_p62, List.forall_mem_cons.mpr ⟨lw_p63, fun _ h => absurd h List.not_mem_nil⟩⟩⟩⟩⟩⟩⟩⟩⟩⟩⟩⟩⟩⟩⟩⟩
theorem lw_p64 : lw_okq (⟨"WordMachinesModel", "item", "()V"⟩, 59) := ⟨⟨by decide +kernel, by decide +kernel⟩, List.mem_of_getElem? (i := 606) (by decide +kernel), List.mem_of_getElem? (i := 858) (by decide +kernel), List.mem_of_getElem? (i := 859) (by decide +kernel)⟩
theorem lw_p65 : lw_okq (⟨"WordMachinesModel", "follows", "(II)V"⟩, 59) := ⟨⟨by decide +kernel, by decide +kernel⟩, List.mem_of_getElem? (i := 606) (by decide +kernel), List.mem_of_getElem? (i := 862) (by decide +kernel), List.mem_of_getElem? (i := 863) (by decide +kernel)⟩
theorem lw_p66 : lw_okq (⟨"WordMachinesModel", "rowEnds", "()V"⟩, 59) := ⟨⟨by decide +kernel, by decide +kernel⟩, List.mem_of_getElem? (i := 606) (by decide +kernel), List.mem_of_getElem? (i := 866) (by decide +kernel), List.mem_of_getElem? (i := 867) (by decide +kernel)⟩
theorem lw_p67 : lw_okq (⟨"WordMachinesModel", "says", "(I)V"⟩, 59) := ⟨⟨by decide +kernel, by decide +kernel⟩, List.mem_of_getElem? (i := 606) (by decide +kernel), List.mem_of_getElem? (i := 870) (by decide +kernel), List.mem_of_getElem? (i := 871) (by decide +kernel)⟩
theorem lw_p68 : lw_okq (⟨"WordMachinesModel", "sideEnds", "()V"⟩, 59) := ⟨⟨by decide +kernel, by decide +kernel⟩, List.mem_of_getElem? (i := 606) (by decide +kernel), List.mem_of_getElem? (i := 874) (by decide +kernel), List.mem_of_getElem? (i := 875) (by decide +kernel)⟩
theorem lw_p69 : lw_okq (⟨"WordMachinesModel", "meetEnds", "()V"⟩, 59) := ⟨⟨by decide +kernel, by decide +kernel⟩, List.mem_of_getElem? (i := 606) (by decide +kernel), List.mem_of_getElem? (i := 878) (by decide +kernel), List.mem_of_getElem? (i := 879) (by decide +kernel)⟩
theorem lw_p70 : lw_okq (⟨"WordMachinesModel", "keeps", "(IZ)V"⟩, 59) := ⟨⟨by decide +kernel, by decide +kernel⟩, List.mem_of_getElem? (i := 606) (by decide +kernel), List.mem_of_getElem? (i := 882) (by decide +kernel), List.mem_of_getElem? (i := 883) (by decide +kernel)⟩
theorem lw_p71 : lw_okq (⟨"WordMachinesModel", "builds", "(I)I"⟩, 59) := ⟨⟨by decide +kernel, by decide +kernel⟩, List.mem_of_getElem? (i := 606) (by decide +kernel), List.mem_of_getElem? (i := 886) (by decide +kernel), List.mem_of_getElem? (i := 887) (by decide +kernel)⟩
theorem lw_p72 : lw_okq (⟨"WordMachinesModel", "makes", "(III)V"⟩, 59) := ⟨⟨by decide +kernel, by decide +kernel⟩, List.mem_of_getElem? (i := 606) (by decide +kernel), List.mem_of_getElem? (i := 890) (by decide +kernel), List.mem_of_getElem? (i := 891) (by decide +kernel)⟩
theorem lw_p73 : lw_okq (⟨"WordMachinesModel", "find", "(II)I"⟩, 59) := ⟨⟨by decide +kernel, by decide +kernel⟩, List.mem_of_getElem? (i := 606) (by decide +kernel), List.mem_of_getElem? (i := 894) (by decide +kernel), List.mem_of_getElem? (i := 895) (by decide +kernel)⟩
theorem lw_p74 : lw_okq (⟨"WordMachinesModel", "meant", "(II)Z"⟩, 59) := ⟨⟨by decide +kernel, by decide +kernel⟩, List.mem_of_getElem? (i := 606) (by decide +kernel), List.mem_of_getElem? (i := 898) (by decide +kernel), List.mem_of_getElem? (i := 899) (by decide +kernel)⟩
theorem lw_p75 : lw_okq (⟨"WordMachinesModel", "divides", "(II)V"⟩, 59) := ⟨⟨by decide +kernel, by decide +kernel⟩, List.mem_of_getElem? (i := 606) (by decide +kernel), List.mem_of_getElem? (i := 902) (by decide +kernel), List.mem_of_getElem? (i := 903) (by decide +kernel)⟩
theorem lw_p76 : lw_okq (⟨"WordMachinesModel", "areAlike", "(III)Z"⟩, 59) := ⟨⟨by decide +kernel, by decide +kernel⟩, List.mem_of_getElem? (i := 606) (by decide +kernel), List.mem_of_getElem? (i := 906) (by decide +kernel), List.mem_of_getElem? (i := 907) (by decide +kernel)⟩
theorem lw_p77 : lw_okq (⟨"WordMachinesModel", "has", "(I)Z"⟩, 59) := ⟨⟨by decide +kernel, by decide +kernel⟩, List.mem_of_getElem? (i := 606) (by decide +kernel), List.mem_of_getElem? (i := 918) (by decide +kernel), List.mem_of_getElem? (i := 919) (by decide +kernel)⟩
theorem lw_p78 : lw_okq (⟨"WordMachinesModel", "first", "(I)I"⟩, 59) := ⟨⟨by decide +kernel, by decide +kernel⟩, List.mem_of_getElem? (i := 606) (by decide +kernel), List.mem_of_getElem? (i := 922) (by decide +kernel), List.mem_of_getElem? (i := 923) (by decide +kernel)⟩
theorem lw_p79 : lw_okq (⟨"WordMachinesModel", "isAccepted", "(II)Z"⟩, 59) := ⟨⟨by decide +kernel, by decide +kernel⟩, List.mem_of_getElem? (i := 606) (by decide +kernel), List.mem_of_getElem? (i := 926) (by decide +kernel), List.mem_of_getElem? (i := 927) (by decide +kernel)⟩
def lw_privs_5 : List (MethodName × Nat) := [(⟨"WordMachinesModel", "item", "()V"⟩, 59), (⟨"WordMachinesModel", "follows", "(II)V"⟩, 59), (⟨"WordMachinesModel", "rowEnds", "()V"⟩, 59), (⟨"WordMachinesModel", "says", "(I)V"⟩, 59), (⟨"WordMachinesModel", "sideEnds", "()V"⟩, 59), (⟨"WordMachinesModel", "meetEnds", "()V"⟩, 59), (⟨"WordMachinesModel", "keeps", "(IZ)V"⟩, 59), (⟨"WordMachinesModel", "builds", "(I)I"⟩, 59), (⟨"WordMachinesModel", "makes", "(III)V"⟩, 59), (⟨"WordMachinesModel", "find", "(II)I"⟩, 59), (⟨"WordMachinesModel", "meant", "(II)Z"⟩, 59), (⟨"WordMachinesModel", "divides", "(II)V"⟩, 59), (⟨"WordMachinesModel", "areAlike", "(III)Z"⟩, 59), (⟨"WordMachinesModel", "has", "(I)Z"⟩, 59), (⟨"WordMachinesModel", "first", "(I)I"⟩, 59), (⟨"WordMachinesModel", "isAccepted", "(II)Z"⟩, 59)]
theorem lw_r5 : ∀ q ∈ lw_privs_5, lw_okq q := List.forall_mem_cons.mpr ⟨lw_p64, List.forall_mem_cons.mpr ⟨lw_p65, List.forall_mem_cons.mpr ⟨lw_p66, List.forall_mem_cons.mpr ⟨lw_p67, List.forall_mem_cons.mpr ⟨lw_p68, List.forall_mem_cons.mpr ⟨lw_p69, List.forall_mem_cons.mpr ⟨lw_p70, List.forall_mem_cons.mpr ⟨lw_p71, List.forall_mem_cons.mpr ⟨lw_p72, List.forall_mem_cons.mpr ⟨lw_p73, List.forall_mem_cons.mpr ⟨lw_p74, List.forall_mem_cons.mpr ⟨lw_p75, List.forall_mem_cons.mpr ⟨lw_p76, List.forall_mem_cons.mpr ⟨lw_p77, List.forall_mem_cons.mpr ⟨lw_p78, List.forall_mem_cons.mpr ⟨lw_p79, fun _ h => absurd h List.not_mem_nil⟩⟩⟩⟩⟩⟩⟩⟩⟩⟩⟩⟩⟩⟩⟩⟩
theorem lw_p80 : lw_okq (⟨"WordMachinesModel", "isEndless", "(I)Z"⟩, 59) := ⟨⟨by decide +kernel, by decide +kernel⟩, List.mem_of_getElem? (i := 606) (by decide +kernel), List.mem_of_getElem? (i := 930) (by decide +kernel), List.mem_of_getElem? (i := 931) (by decide +kernel)⟩
theorem lw_p81 : lw_okq (⟨"WordMachinesModel", "after", "(III)I"⟩, 59) := ⟨⟨by decide +kernel, by decide +kernel⟩, List.mem_of_getElem? (i := 606) (by decide +kernel), List.mem_of_getElem? (i := 934) (by decide +kernel), List.mem_of_getElem? (i := 935) (by decide +kernel)⟩
theorem lw_p82 : lw_okq (⟨"WordMachinesModel", "isState", "(II)Z"⟩, 59) := ⟨⟨by decide +kernel, by decide +kernel⟩, List.mem_of_getElem? (i := 606) (by decide +kernel), List.mem_of_getElem? (i := 942) (by decide +kernel), List.mem_of_getElem? (i := 943) (by decide +kernel)⟩
theorem lw_p83 : lw_okq (⟨"WordMachinesModel", "counts", "(II)V"⟩, 59) := ⟨⟨by decide +kernel, by decide +kernel⟩, List.mem_of_getElem? (i := 606) (by decide +kernel), List.mem_of_getElem? (i := 967) (by decide +kernel), List.mem_of_getElem? (i := 968) (by decide +kernel)⟩
theorem lw_p84 : lw_okq (⟨"WordMachinesModel", "walks", "(II)V"⟩, 59) := ⟨⟨by decide +kernel, by decide +kernel⟩, List.mem_of_getElem? (i := 606) (by decide +kernel), List.mem_of_getElem? (i := 983) (by decide +kernel), List.mem_of_getElem? (i := 984) (by decide +kernel)⟩
theorem lw_p85 : lw_okq (⟨"WordMachinesModel", "meets", "(III)V"⟩, 59) := ⟨⟨by decide +kernel, by decide +kernel⟩, List.mem_of_getElem? (i := 606) (by decide +kernel), List.mem_of_getElem? (i := 987) (by decide +kernel), List.mem_of_getElem? (i := 988) (by decide +kernel)⟩
def lw_privs_6 : List (MethodName × Nat) := [(⟨"WordMachinesModel", "isEndless", "(I)Z"⟩, 59), (⟨"WordMachinesModel", "after", "(III)I"⟩, 59), (⟨"WordMachinesModel", "isState", "(II)Z"⟩, 59), (⟨"WordMachinesModel", "counts", "(II)V"⟩, 59), (⟨"WordMachinesModel", "walks", "(II)V"⟩, 59), (⟨"WordMachinesModel", "meets", "(III)V"⟩, 59)]
theorem lw_r6 : ∀ q ∈ lw_privs_6, lw_okq q := List.forall_mem_cons.mpr ⟨lw_p80, List.forall_mem_cons.mpr ⟨lw_p81, List.forall_mem_cons.mpr ⟨lw_p82, List.forall_mem_cons.mpr ⟨lw_p83, List.forall_mem_cons.mpr ⟨lw_p84, List.forall_mem_cons.mpr ⟨lw_p85, fun _ h => absurd h List.not_mem_nil⟩⟩⟩⟩⟩⟩
def lw_privs : List (MethodName × Nat) := lw_privs_1 ++ (lw_privs_2 ++ (lw_privs_3 ++ (lw_privs_4 ++ (lw_privs_5 ++ (lw_privs_6)))))
def lw_tbl : List Cond := k2_sels lw_privs ++ tables_1
theorem lw_privs_ok : ∀ q ∈ lw_privs, lw_okq q := by
  show ∀ q ∈ lw_privs_1 ++ (lw_privs_2 ++ (lw_privs_3 ++ (lw_privs_4 ++ (lw_privs_5 ++ (lw_privs_6))))), lw_okq q
  exact List.forall_mem_append.mpr ⟨lw_r1, List.forall_mem_append.mpr ⟨lw_r2, List.forall_mem_append.mpr ⟨lw_r3, List.forall_mem_append.mpr ⟨lw_r4, List.forall_mem_append.mpr ⟨lw_r5, lw_r6⟩⟩⟩⟩⟩
-- ===== end of PART A; then your names; then what follows =====
/-! ===== BEGIN words of one list among another's, by their places ===== -/
theorem goodIn_r {big : List Cond} (ws : List Cond) (ps : List Nat) (hp : ws = ps.filterMap (fun i => big[i]?)) (h : ws.all goodWord = true) : GoodIn big ws := by
  intro w hw
  have h1 := List.all_eq_true.mp h w hw
  rw [hp] at hw
  obtain ⟨i, -, hi⟩ := List.mem_filterMap.mp hw
  have hm : w ∈ big := by first | exact List.mem_of_getElem? hi | exact List.getElem?_mem hi
  exact ⟨hm, good_of_word h1⟩
theorem goodIn_app {big a b : List Cond} (ha : GoodIn big a) (hb : GoodIn big b) : GoodIn big (a ++ b) := fun w h => (List.mem_append.mp h).elim (ha w) (hb w)
theorem goodIn_ca {big a b : List Cond} {c : Cond} (ha : GoodIn big (c :: a)) (hb : GoodIn big b) : GoodIn big (c :: (a ++ b)) := fun w h => (List.mem_cons.mp h).elim (fun e => ha w (List.mem_cons.mpr (Or.inl e))) (fun h => (List.mem_append.mp h).elim (fun h => ha w (List.mem_cons.mpr (Or.inr h))) (hb w))
theorem goodIn_sub {big ws : List Cond} (hm : ∀ w ∈ ws, w ∈ big) (h : ws.all goodWord = true) : GoodIn big ws := fun w hw => ⟨hm w hw, good_of_word (List.all_eq_true.mp h w hw)⟩
/-! ===== END ===== -/

/-! ===== BEGIN printed: names, fields, word lists, decode rows ===== -/
def RX0 : String := "WordMachines$Counts"
def TX0 : u_T := fun k => match k with
  | _ => ("WordMachines$Counts", "table", "[J", true)
def tyX0 : Nat → FieldType := fun k => match k with
  | _ => .array .long
abbrev wsX00 : List Cond := u_ws RX0 TX0 1
theorem nmX0 : ∀ a, a < 1 → ∀ b, b < 1 → a ≠ b → (TX0 a).2.1 ≠ (TX0 b).2.1 := by decide +kernel
theorem tyX0_ok : ∀ k, k < 1 → parseFieldDescriptor (TX0 k).2.2.1 = some (tyX0 k) := by decide +kernel
abbrev cX0_init : ByteArray := prog_2_method_1_code
def yX0_init : MethodName := ⟨RX0, "<init>", "()V"⟩
abbrev cX0_count : ByteArray := prog_2_method_2_code
def yX0_count : MethodName := ⟨RX0, "count", "(LWordMachines$Machine;I)V"⟩
abbrev cX0_behind : ByteArray := prog_2_method_3_code
def yX0_behind : MethodName := ⟨RX0, "behind", "(II)J"⟩
abbrev cX0_tellWord : ByteArray := prog_2_method_4_code
def yX0_tellWord : MethodName := ⟨RX0, "tellWord", "(LWordMachines$Machine;IJLWordMachines$Told;)V"⟩
def RX1 : String := "WordMachines$Difference"
def TX1 : u_T := fun k => match k with
  | 0 => ("WordMachines$Difference", "tie", "[I", true)
  | 1 => ("WordMachines$Difference", "lefts", "[I", true)
  | 2 => ("WordMachines$Difference", "rights", "[I", true)
  | 3 => ("WordMachines$Difference", "origin", "[I", true)
  | _ => ("WordMachines$Difference", "count", "I", false)
def tyX1 : Nat → FieldType := fun k => match k with
  | 0 => .array .int
  | 1 => .array .int
  | 2 => .array .int
  | 3 => .array .int
  | _ => .int
abbrev wsX10 : List Cond := u_ws RX1 TX1 5
theorem nmX1 : ∀ a, a < 5 → ∀ b, b < 5 → a ≠ b → (TX1 a).2.1 ≠ (TX1 b).2.1 := by decide +kernel
theorem tyX1_ok : ∀ k, k < 5 → parseFieldDescriptor (TX1 k).2.2.1 = some (tyX1 k) := by decide +kernel
abbrev cX1_init : ByteArray := prog_3_method_1_code
def yX1_init : MethodName := ⟨RX1, "<init>", "()V"⟩
abbrev cX1_find : ByteArray := prog_3_method_2_code
def yX1_find : MethodName := ⟨RX1, "find", "(LWordMachines$Machine;LWordMachines$Machine;LWordMachines$Told;)Z"⟩
abbrev cX1_tiePair : ByteArray := prog_3_method_3_code
def yX1_tiePair : MethodName := ⟨RX1, "tiePair", "(III)V"⟩
abbrev cX1_groupOf : ByteArray := prog_3_method_4_code
def yX1_groupOf : MethodName := ⟨RX1, "groupOf", "(I)I"⟩
def RX2 : String := "WordMachines$Inclusion"
def TX2 : u_T := fun k => match k with
  | 0 => ("WordMachines$Inclusion", "seen", "[J", true)
  | _ => ("WordMachines$Inclusion", "done", "[J", true)
def tyX2 : Nat → FieldType := fun k => match k with
  | 0 => .array .long
  | _ => .array .long
abbrev wsX20 : List Cond := u_ws RX2 TX2 2
theorem nmX2 : ∀ a, a < 2 → ∀ b, b < 2 → a ≠ b → (TX2 a).2.1 ≠ (TX2 b).2.1 := by decide +kernel
theorem tyX2_ok : ∀ k, k < 2 → parseFieldDescriptor (TX2 k).2.2.1 = some (tyX2 k) := by decide +kernel
abbrev cX2_init : ByteArray := prog_4_method_1_code
def yX2_init : MethodName := ⟨RX2, "<init>", "()V"⟩
abbrev cX2_surplus : ByteArray := prog_4_method_2_code
def yX2_surplus : MethodName := ⟨RX2, "surplus", "(LWordMachines$Machine;LWordMachines$Machine;)I"⟩
abbrev cX2_visitRow : ByteArray := prog_4_method_3_code
def yX2_visitRow : MethodName := ⟨RX2, "visitRow", "(LWordMachines$Machine;LWordMachines$Machine;I)I"⟩
abbrev cX2_visit : ByteArray := prog_4_method_4_code
def yX2_visit : MethodName := ⟨RX2, "visit", "(LWordMachines$Machine;LWordMachines$Machine;I)I"⟩
def RX3 : String := "WordMachines$Least"
def TX3 : u_T := fun k => match k with
  | 0 => ("WordMachines$Least", "fresh", "[I", true)
  | 1 => ("WordMachines$Least", "leader", "[I", true)
  | 2 => ("WordMachines$Least", "earlier", "[I", true)
  | _ => ("WordMachines$Least", "ended", "[Z", true)
def tyX3 : Nat → FieldType := fun k => match k with
  | 0 => .array .int
  | 1 => .array .int
  | 2 => .array .int
  | _ => .array .boolean
abbrev wsX30 : List Cond := u_ws RX3 TX3 4
theorem nmX3 : ∀ a, a < 4 → ∀ b, b < 4 → a ≠ b → (TX3 a).2.1 ≠ (TX3 b).2.1 := by decide +kernel
theorem tyX3_ok : ∀ k, k < 4 → parseFieldDescriptor (TX3 k).2.2.1 = some (tyX3 k) := by decide +kernel
abbrev cX3_init : ByteArray := prog_5_method_1_code
def yX3_init : MethodName := ⟨RX3, "<init>", "()V"⟩
abbrev cX3_classify : ByteArray := prog_5_method_2_code
def yX3_classify : MethodName := ⟨RX3, "classify", "(LWordMachines$Machine;)V"⟩
abbrev cX3_divideByAccepting : ByteArray := prog_5_method_3_code
def yX3_divideByAccepting : MethodName := ⟨RX3, "divideByAccepting", "(LWordMachines$Machine;)V"⟩
abbrev cX3_divideByNext : ByteArray := prog_5_method_4_code
def yX3_divideByNext : MethodName := ⟨RX3, "divideByNext", "(LWordMachines$Machine;)Z"⟩
abbrev cX3_leaderLike : ByteArray := prog_5_method_5_code
def yX3_leaderLike : MethodName := ⟨RX3, "leaderLike", "(LWordMachines$Machine;I)I"⟩
abbrev cX3_goAlike : ByteArray := prog_5_method_6_code
def yX3_goAlike : MethodName := ⟨RX3, "goAlike", "(LWordMachines$Machine;II)Z"⟩
abbrev cX3_isFinite : ByteArray := prog_5_method_7_code
def yX3_isFinite : MethodName := ⟨RX3, "isFinite", "(LWordMachines$Machine;)Z"⟩
abbrev cX3_meansNothing : ByteArray := prog_5_method_8_code
def yX3_meansNothing : MethodName := ⟨RX3, "meansNothing", "(LWordMachines$Machine;I)Z"⟩
abbrev cX3_goesToEndedOnly : ByteArray := prog_5_method_9_code
def yX3_goesToEndedOnly : MethodName := ⟨RX3, "goesToEndedOnly", "(LWordMachines$Machine;I)Z"⟩
def RX4 : String := "WordMachines$Machine"
def TX4 : u_T := fun k => match k with
  | 0 => ("WordMachines$Machine", "states", "I", false)
  | 1 => ("WordMachines$Machine", "classes", "I", false)
  | 2 => ("WordMachines$Machine", "parts", "I", false)
  | 3 => ("WordMachines$Machine", "spotsInAll", "I", false)
  | 4 => ("WordMachines$Machine", "finite", "Z", false)
  | 5 => ("WordMachines$Machine", "step", "[I", true)
  | 6 => ("WordMachines$Machine", "origin", "[I", true)
  | 7 => ("WordMachines$Machine", "sets", "[I", true)
  | 8 => ("WordMachines$Machine", "accepting", "[Z", true)
  | _ => ("WordMachines$Machine", "classRow", "[I", true)
def tyX4 : Nat → FieldType := fun k => match k with
  | 0 => .int
  | 1 => .int
  | 2 => .int
  | 3 => .int
  | 4 => .boolean
  | 5 => .array .int
  | 6 => .array .int
  | 7 => .array .int
  | 8 => .array .boolean
  | _ => .array .int
abbrev wsX40 : List Cond := u_ws RX4 TX4 10
theorem nmX4 : ∀ a, a < 10 → ∀ b, b < 10 → a ≠ b → (TX4 a).2.1 ≠ (TX4 b).2.1 := by decide +kernel
theorem tyX4_ok : ∀ k, k < 10 → parseFieldDescriptor (TX4 k).2.2.1 = some (tyX4 k) := by decide +kernel
abbrev cX4_init : ByteArray := prog_6_method_1_code
def yX4_init : MethodName := ⟨RX4, "<init>", "()V"⟩
abbrev cX4_hasState : ByteArray := prog_6_method_2_code
def yX4_hasState : MethodName := ⟨RX4, "hasState", "(I)Z"⟩
abbrev cX4_firstAccepting : ByteArray := prog_6_method_3_code
def yX4_firstAccepting : MethodName := ⟨RX4, "firstAccepting", "()I"⟩
def RX5 : String := "WordMachines$Maker"
def TX5 : u_T := fun k => match k with
  | 0 => ("WordMachines$Maker", "reach", "[I", true)
  | 1 => ("WordMachines$Maker", "behind", "[I", true)
  | 2 => ("WordMachines$Maker", "latest", "[I", true)
  | _ => ("WordMachines$Maker", "earlier", "[I", true)
def tyX5 : Nat → FieldType := fun k => match k with
  | 0 => .array .int
  | 1 => .array .int
  | 2 => .array .int
  | _ => .array .int
abbrev wsX50 : List Cond := u_ws RX5 TX5 4
theorem nmX5 : ∀ a, a < 4 → ∀ b, b < 4 → a ≠ b → (TX5 a).2.1 ≠ (TX5 b).2.1 := by decide +kernel
theorem tyX5_ok : ∀ k, k < 4 → parseFieldDescriptor (TX5 k).2.2.1 = some (tyX5 k) := by decide +kernel
abbrev cX5_init : ByteArray := prog_7_method_1_code
def yX5_init : MethodName := ⟨RX5, "<init>", "()V"⟩
abbrev cX5_make : ByteArray := prog_7_method_2_code
def yX5_make : MethodName := ⟨RX5, "make", "(LWordMachines$Parts;LWordMachines$Machine;)Z"⟩
abbrev cX5_beginEmpty : ByteArray := prog_7_method_3_code
def yX5_beginEmpty : MethodName := ⟨RX5, "beginEmpty", "()V"⟩
abbrev cX5_setReach : ByteArray := prog_7_method_4_code
def yX5_setReach : MethodName := ⟨RX5, "setReach", "(LWordMachines$Parts;LWordMachines$Machine;I)V"⟩
abbrev cX5_setBehind : ByteArray := prog_7_method_5_code
def yX5_setBehind : MethodName := ⟨RX5, "setBehind", "(LWordMachines$Parts;I)V"⟩
abbrev cX5_stateBehind : ByteArray := prog_7_method_6_code
def yX5_stateBehind : MethodName := ⟨RX5, "stateBehind", "(LWordMachines$Machine;)I"⟩
abbrev cX5_bucketBehind : ByteArray := prog_7_method_7_code
def yX5_bucketBehind : MethodName := ⟨RX5, "bucketBehind", "(I)I"⟩
abbrev cX5_hasSetsBehind : ByteArray := prog_7_method_8_code
def yX5_hasSetsBehind : MethodName := ⟨RX5, "hasSetsBehind", "(LWordMachines$Machine;I)Z"⟩
abbrev cX5_addState : ByteArray := prog_7_method_9_code
def yX5_addState : MethodName := ⟨RX5, "addState", "(LWordMachines$Parts;LWordMachines$Machine;I)Z"⟩
def RX6 : String := "WordMachines$Parser"
def TX6 : u_T := fun k => match k with
  | 0 => ("WordMachines$Parser", "text", "[I", true)
  | 1 => ("WordMachines$Parser", "length", "I", false)
  | 2 => ("WordMachines$Parser", "at", "I", false)
  | 3 => ("WordMachines$Parser", "parts", "LWordMachines$Parts;", true)
  | 4 => ("WordMachines$Parser", "faultNumber", "I", false)
  | 5 => ("WordMachines$Parser", "faultPlace", "I", false)
  | 6 => ("WordMachines$Parser", "first", "I", false)
  | 7 => ("WordMachines$Parser", "last", "I", false)
  | _ => ("WordMachines$Parser", "empty", "Z", false)
def tyX6 : Nat → FieldType := fun k => match k with
  | 0 => .array .int
  | 1 => .int
  | 2 => .int
  | 3 => .object "WordMachines$Parts"
  | 4 => .int
  | 5 => .int
  | 6 => .int
  | 7 => .int
  | _ => .boolean
abbrev wsX60 : List Cond := u_ws RX6 TX6 9
theorem nmX6 : ∀ a, a < 9 → ∀ b, b < 9 → a ≠ b → (TX6 a).2.1 ≠ (TX6 b).2.1 := by decide +kernel
theorem tyX6_ok : ∀ k, k < 9 → parseFieldDescriptor (TX6 k).2.2.1 = some (tyX6 k) := by decide +kernel
abbrev cX6_init : ByteArray := prog_8_method_1_code
def yX6_init : MethodName := ⟨RX6, "<init>", "()V"⟩
abbrev cX6_parse : ByteArray := prog_8_method_2_code
def yX6_parse : MethodName := ⟨RX6, "parse", "([II)Z"⟩
abbrev cX6_sign : ByteArray := prog_8_method_3_code
def yX6_sign : MethodName := ⟨RX6, "sign", "()I"⟩
abbrev cX6_refuse : ByteArray := prog_8_method_4_code
def yX6_refuse : MethodName := ⟨RX6, "refuse", "(I)V"⟩
abbrev cX6_pass : ByteArray := prog_8_method_5_code
def yX6_pass : MethodName := ⟨RX6, "pass", "(I)V"⟩
abbrev cX6_top : ByteArray := prog_8_method_6_code
def yX6_top : MethodName := ⟨RX6, "top", "(I)J"⟩
abbrev cX6_meet : ByteArray := prog_8_method_7_code
def yX6_meet : MethodName := ⟨RX6, "meet", "(I)J"⟩
abbrev cX6_side : ByteArray := prog_8_method_8_code
def yX6_side : MethodName := ⟨RX6, "side", "(I)J"⟩
abbrev cX6_joinedPart : ByteArray := prog_8_method_9_code
def yX6_joinedPart : MethodName := ⟨RX6, "joinedPart", "()J"⟩
abbrev cX6_part : ByteArray := prog_8_method_10_code
def yX6_part : MethodName := ⟨RX6, "part", "(I)V"⟩
abbrev cX6_row : ByteArray := prog_8_method_11_code
def yX6_row : MethodName := ⟨RX6, "row", "(I)V"⟩
abbrev cX6_item : ByteArray := prog_8_method_12_code
def yX6_item : MethodName := ⟨RX6, "item", "(I)V"⟩
abbrev cX6_atom : ByteArray := prog_8_method_13_code
def yX6_atom : MethodName := ⟨RX6, "atom", "(I)V"⟩
abbrev cX6_group : ByteArray := prog_8_method_14_code
def yX6_group : MethodName := ⟨RX6, "group", "(I)V"⟩
abbrev cX6_lettersOf : ByteArray := prog_8_method_15_code
def yX6_lettersOf : MethodName := ⟨RX6, "lettersOf", "(I)I"⟩
abbrev cX6_bracket : ByteArray := prog_8_method_16_code
def yX6_bracket : MethodName := ⟨RX6, "bracket", "()I"⟩
abbrev cX6_range : ByteArray := prog_8_method_17_code
def yX6_range : MethodName := ⟨RX6, "range", "()I"⟩
abbrev cX6_setPiece : ByteArray := prog_8_method_18_code
def yX6_setPiece : MethodName := ⟨RX6, "setPiece", "(IIZ)V"⟩
abbrev cX6_beginsAtom : ByteArray := prog_8_method_19_code
def yX6_beginsAtom : MethodName := ⟨RX6, "beginsAtom", "(I)Z"⟩
abbrev cX6_isRepeat : ByteArray := prog_8_method_20_code
def yX6_isRepeat : MethodName := ⟨RX6, "isRepeat", "(I)Z"⟩
def RX7 : String := "WordMachines$Parts"
def TX7 : u_T := fun k => match k with
  | 0 => ("WordMachines$Parts", "count", "I", false)
  | 1 => ("WordMachines$Parts", "truth", "J", false)
  | 2 => ("WordMachines$Parts", "spotCount", "[I", true)
  | 3 => ("WordMachines$Parts", "firsts", "[I", true)
  | 4 => ("WordMachines$Parts", "lasts", "[I", true)
  | 5 => ("WordMachines$Parts", "takesEmpty", "[Z", true)
  | 6 => ("WordMachines$Parts", "readers", "[I", true)
  | _ => ("WordMachines$Parts", "follows", "[I", true)
def tyX7 : Nat → FieldType := fun k => match k with
  | 0 => .int
  | 1 => .long
  | 2 => .array .int
  | 3 => .array .int
  | 4 => .array .int
  | 5 => .array .boolean
  | 6 => .array .int
  | _ => .array .int
abbrev wsX70 : List Cond := u_ws RX7 TX7 8
theorem nmX7 : ∀ a, a < 8 → ∀ b, b < 8 → a ≠ b → (TX7 a).2.1 ≠ (TX7 b).2.1 := by decide +kernel
theorem tyX7_ok : ∀ k, k < 8 → parseFieldDescriptor (TX7 k).2.2.1 = some (tyX7 k) := by decide +kernel
abbrev cX7_init : ByteArray := prog_9_method_1_code
def yX7_init : MethodName := ⟨RX7, "<init>", "()V"⟩
abbrev cX7_begin : ByteArray := prog_9_method_2_code
def yX7_begin : MethodName := ⟨RX7, "begin", "()V"⟩
abbrev cX7_end : ByteArray := prog_9_method_3_code
def yX7_end : MethodName := ⟨RX7, "end", "(IIZ)V"⟩
abbrev cX7_isFull : ByteArray := prog_9_method_4_code
def yX7_isFull : MethodName := ⟨RX7, "isFull", "()Z"⟩
abbrev cX7_addSpot : ByteArray := prog_9_method_5_code
def yX7_addSpot : MethodName := ⟨RX7, "addSpot", "(I)I"⟩
abbrev cX7_link : ByteArray := prog_9_method_6_code
def yX7_link : MethodName := ⟨RX7, "link", "(II)V"⟩
abbrev cX7_following : ByteArray := prog_9_method_7_code
def yX7_following : MethodName := ⟨RX7, "following", "(II)I"⟩
abbrev cX7_spotsInAll : ByteArray := prog_9_method_8_code
def yX7_spotsInAll : MethodName := ⟨RX7, "spotsInAll", "()I"⟩
def RX8 : String := "WordMachines$Told"
def TX8 : u_T := fun k => match k with
  | 0 => ("WordMachines$Told", "letters", "[I", true)
  | _ => ("WordMachines$Told", "length", "I", false)
def tyX8 : Nat → FieldType := fun k => match k with
  | 0 => .array .int
  | _ => .int
abbrev wsX80 : List Cond := u_ws RX8 TX8 2
theorem nmX8 : ∀ a, a < 2 → ∀ b, b < 2 → a ≠ b → (TX8 a).2.1 ≠ (TX8 b).2.1 := by decide +kernel
theorem tyX8_ok : ∀ k, k < 2 → parseFieldDescriptor (TX8 k).2.2.1 = some (tyX8 k) := by decide +kernel
abbrev cX8_init : ByteArray := prog_10_method_1_code
def yX8_init : MethodName := ⟨RX8, "<init>", "()V"⟩
abbrev cX8_trace : ByteArray := prog_10_method_2_code
def yX8_trace : MethodName := ⟨RX8, "trace", "([II)V"⟩
def RX9 : String := "WordMachines"
def TX9 : u_T := fun k => match k with
  | 0 => ("WordMachines", "tape", "[I", true)
  | 1 => ("WordMachines", "taped", "I", false)
  | 2 => ("WordMachines", "slots", "[LWordMachines$Machine;", true)
  | 3 => ("WordMachines", "spare", "LWordMachines$Machine;", false)
  | 4 => ("WordMachines", "parser", "LWordMachines$Parser;", true)
  | 5 => ("WordMachines", "maker", "LWordMachines$Maker;", true)
  | 6 => ("WordMachines", "least", "LWordMachines$Least;", true)
  | 7 => ("WordMachines", "counts", "LWordMachines$Counts;", true)
  | 8 => ("WordMachines", "inclusion", "LWordMachines$Inclusion;", true)
  | 9 => ("WordMachines", "difference", "LWordMachines$Difference;", true)
  | _ => ("WordMachines", "told", "LWordMachines$Told;", true)
def tyX9 : Nat → FieldType := fun k => match k with
  | 0 => .array .int
  | 1 => .int
  | 2 => .array (.object "WordMachines$Machine")
  | 3 => .object "WordMachines$Machine"
  | 4 => .object "WordMachines$Parser"
  | 5 => .object "WordMachines$Maker"
  | 6 => .object "WordMachines$Least"
  | 7 => .object "WordMachines$Counts"
  | 8 => .object "WordMachines$Inclusion"
  | 9 => .object "WordMachines$Difference"
  | _ => .object "WordMachines$Told"
abbrev wsX90 : List Cond := u_ws RX9 TX9 11
theorem nmX9 : ∀ a, a < 11 → ∀ b, b < 11 → a ≠ b → (TX9 a).2.1 ≠ (TX9 b).2.1 := by decide +kernel
theorem tyX9_ok : ∀ k, k < 11 → parseFieldDescriptor (TX9 k).2.2.1 = some (tyX9 k) := by decide +kernel
abbrev cX9_init : ByteArray := prog_1_method_1_code
def yX9_init : MethodName := ⟨RX9, "<init>", "()V"⟩
abbrev cX9_feed : ByteArray := prog_1_method_2_code
def yX9_feed : MethodName := ⟨RX9, "feed", "(IIIII)I"⟩
abbrev cX9_read : ByteArray := prog_1_method_3_code
def yX9_read : MethodName := ⟨RX9, "read", "(II)I"⟩
abbrev cX9_fault : ByteArray := prog_1_method_4_code
def yX9_fault : MethodName := ⟨RX9, "fault", "(I)I"⟩
abbrev cX9_look : ByteArray := prog_1_method_5_code
def yX9_look : MethodName := ⟨RX9, "look", "(II)I"⟩
abbrev cX9_next : ByteArray := prog_1_method_6_code
def yX9_next : MethodName := ⟨RX9, "next", "(III)I"⟩
abbrev cX9_accepts : ByteArray := prog_1_method_7_code
def yX9_accepts : MethodName := ⟨RX9, "accepts", "(II)I"⟩
abbrev cX9_spots : ByteArray := prog_1_method_8_code
def yX9_spots : MethodName := ⟨RX9, "spots", "(III)I"⟩
abbrev cX9_classOf : ByteArray := prog_1_method_9_code
def yX9_classOf : MethodName := ⟨RX9, "classOf", "(II)I"⟩
abbrev cX9_means : ByteArray := prog_1_method_10_code
def yX9_means : MethodName := ⟨RX9, "means", "(II)I"⟩
abbrev cX9_words : ByteArray := prog_1_method_11_code
def yX9_words : MethodName := ⟨RX9, "words", "(II)J"⟩
abbrev cX9_word : ByteArray := prog_1_method_12_code
def yX9_word : MethodName := ⟨RX9, "word", "(IIJ)Z"⟩
abbrev cX9_shortest : ByteArray := prog_1_method_13_code
def yX9_shortest : MethodName := ⟨RX9, "shortest", "(I)I"⟩
abbrev cX9_compare : ByteArray := prog_1_method_14_code
def yX9_compare : MethodName := ⟨RX9, "compare", "(II)I"⟩
abbrev cX9_differ : ByteArray := prog_1_method_15_code
def yX9_differ : MethodName := ⟨RX9, "differ", "(II)I"⟩
abbrev cX9_letter : ByteArray := prog_1_method_16_code
def yX9_letter : MethodName := ⟨RX9, "letter", "(I)I"⟩
abbrev cX9_putBytes : ByteArray := prog_1_method_17_code
def yX9_putBytes : MethodName := ⟨RX9, "putBytes", "(I)V"⟩
abbrev cX9_machineIn : ByteArray := prog_1_method_18_code
def yX9_machineIn : MethodName := ⟨RX9, "machineIn", "(I)LWordMachines$Machine;"⟩
abbrev cX9_isLetter : ByteArray := prog_1_method_19_code
def yX9_isLetter : MethodName := ⟨RX9, "isLetter", "(I)Z"⟩
def RX10 : String := "WordMachinesModel"
def TX10 : u_T := fun k => match k with
  | 0 => ("WordMachinesModel", "tape", "[B", true)
  | 1 => ("WordMachinesModel", "text", "[B", true)
  | 2 => ("WordMachinesModel", "taped", "I", false)
  | 3 => ("WordMachinesModel", "size", "I", false)
  | 4 => ("WordMachinesModel", "fault", "I", false)
  | 5 => ("WordMachinesModel", "place", "I", false)
  | 6 => ("WordMachinesModel", "parts", "I", false)
  | 7 => ("WordMachinesModel", "spots", "[I", true)
  | 8 => ("WordMachinesModel", "isEmpty", "[Z", true)
  | 9 => ("WordMachinesModel", "begins", "[I", true)
  | 10 => ("WordMachinesModel", "ends", "[I", true)
  | 11 => ("WordMachinesModel", "letters", "[I", true)
  | 12 => ("WordMachinesModel", "follow", "[I", true)
  | 13 => ("WordMachinesModel", "codes", "I", false)
  | 14 => ("WordMachinesModel", "code", "[I", true)
  | 15 => ("WordMachinesModel", "states", "[I", true)
  | 16 => ("WordMachinesModel", "partMany", "[I", true)
  | 17 => ("WordMachinesModel", "spotMany", "[I", true)
  | 18 => ("WordMachinesModel", "classes", "[I", true)
  | 19 => ("WordMachinesModel", "next", "[I", true)
  | 20 => ("WordMachinesModel", "accepts", "[Z", true)
  | 21 => ("WordMachinesModel", "set", "[I", true)
  | 22 => ("WordMachinesModel", "classOf", "[I", true)
  | 23 => ("WordMachinesModel", "from", "[I", true)
  | 24 => ("WordMachinesModel", "by", "[I", true)
  | 25 => ("WordMachinesModel", "told", "I", false)
  | 26 => ("WordMachinesModel", "word", "[I", true)
  | 27 => ("WordMachinesModel", "at", "I", false)
  | 28 => ("WordMachinesModel", "depth", "I", false)
  | 29 => ("WordMachinesModel", "open", "I", false)
  | 30 => ("WordMachinesModel", "hasItem", "[Z", true)
  | 31 => ("WordMachinesModel", "rowEmpty", "[Z", true)
  | 32 => ("WordMachinesModel", "rowBegins", "[I", true)
  | 33 => ("WordMachinesModel", "rowEnds", "[I", true)
  | 34 => ("WordMachinesModel", "anyEmpty", "[Z", true)
  | 35 => ("WordMachinesModel", "anyBegins", "[I", true)
  | 36 => ("WordMachinesModel", "anyEnds", "[I", true)
  | 37 => ("WordMachinesModel", "isVoid", "Z", false)
  | 38 => ("WordMachinesModel", "atomBegins", "I", false)
  | 39 => ("WordMachinesModel", "atomEnds", "I", false)
  | 40 => ("WordMachinesModel", "isBrace", "[Z", true)
  | 41 => ("WordMachinesModel", "both", "[Z", true)
  | 42 => ("WordMachinesModel", "either", "[Z", true)
  | 43 => ("WordMachinesModel", "level", "I", false)
  | 44 => ("WordMachinesModel", "pile", "[Z", true)
  | 45 => ("WordMachinesModel", "made", "[I", true)
  | 46 => ("WordMachinesModel", "newClass", "[I", true)
  | 47 => ("WordMachinesModel", "oldSet", "[I", true)
  | 48 => ("WordMachinesModel", "oldNext", "[I", true)
  | 49 => ("WordMachinesModel", "oldFrom", "[I", true)
  | 50 => ("WordMachinesModel", "oldBy", "[I", true)
  | 51 => ("WordMachinesModel", "isOn", "[Z", true)
  | 52 => ("WordMachinesModel", "isNow", "[Z", true)
  | 53 => ("WordMachinesModel", "many", "[J", true)
  | 54 => ("WordMachinesModel", "pairs", "[I", true)
  | 55 => ("WordMachinesModel", "pairFrom", "[I", true)
  | 56 => ("WordMachinesModel", "pairBy", "[I", true)
  | 57 => ("WordMachinesModel", "isMet", "[Z", true)
  | _ => ("WordMachinesModel", "pairMany", "I", false)
def tyX10 : Nat → FieldType := fun k => match k with
  | 0 => .array .byte
  | 1 => .array .byte
  | 2 => .int
  | 3 => .int
  | 4 => .int
  | 5 => .int
  | 6 => .int
  | 7 => .array .int
  | 8 => .array .boolean
  | 9 => .array .int
  | 10 => .array .int
  | 11 => .array .int
  | 12 => .array .int
  | 13 => .int
  | 14 => .array .int
  | 15 => .array .int
  | 16 => .array .int
  | 17 => .array .int
  | 18 => .array .int
  | 19 => .array .int
  | 20 => .array .boolean
  | 21 => .array .int
  | 22 => .array .int
  | 23 => .array .int
  | 24 => .array .int
  | 25 => .int
  | 26 => .array .int
  | 27 => .int
  | 28 => .int
  | 29 => .int
  | 30 => .array .boolean
  | 31 => .array .boolean
  | 32 => .array .int
  | 33 => .array .int
  | 34 => .array .boolean
  | 35 => .array .int
  | 36 => .array .int
  | 37 => .boolean
  | 38 => .int
  | 39 => .int
  | 40 => .array .boolean
  | 41 => .array .boolean
  | 42 => .array .boolean
  | 43 => .int
  | 44 => .array .boolean
  | 45 => .array .int
  | 46 => .array .int
  | 47 => .array .int
  | 48 => .array .int
  | 49 => .array .int
  | 50 => .array .int
  | 51 => .array .boolean
  | 52 => .array .boolean
  | 53 => .array .long
  | 54 => .array .int
  | 55 => .array .int
  | 56 => .array .int
  | 57 => .array .boolean
  | _ => .int
abbrev wsX100 : List Cond := u_ws RX10 TX10 59
theorem nmX10 : ∀ a, a < 59 → ∀ b, b < 59 → a ≠ b → (TX10 a).2.1 ≠ (TX10 b).2.1 := by decide +kernel
theorem tyX10_ok : ∀ k, k < 59 → parseFieldDescriptor (TX10 k).2.2.1 = some (tyX10 k) := by decide +kernel
abbrev cX10_init : ByteArray := prog_12_method_1_code
def yX10_init : MethodName := ⟨RX10, "<init>", "()V"⟩
abbrev cX10_lies : ByteArray := prog_12_method_2_code
def yX10_lies : MethodName := ⟨RX10, "lies", "(III)Z"⟩
abbrev cX10_push : ByteArray := prog_12_method_3_code
def yX10_push : MethodName := ⟨RX10, "push", "(I)V"⟩
abbrev cX10_feed : ByteArray := prog_12_method_4_code
def yX10_feed : MethodName := ⟨RX10, "feed", "(IIIII)I"⟩
abbrev cX10_here : ByteArray := prog_12_method_5_code
def yX10_here : MethodName := ⟨RX10, "here", "()I"⟩
abbrev cX10_sees : ByteArray := prog_12_method_6_code
def yX10_sees : MethodName := ⟨RX10, "sees", "(I)Z"⟩
abbrev cX10_seesLetter : ByteArray := prog_12_method_7_code
def yX10_seesLetter : MethodName := ⟨RX10, "seesLetter", "()Z"⟩
abbrev cX10_seesAtom : ByteArray := prog_12_method_8_code
def yX10_seesAtom : MethodName := ⟨RX10, "seesAtom", "()Z"⟩
abbrev cX10_bad : ByteArray := prog_12_method_9_code
def yX10_bad : MethodName := ⟨RX10, "bad", "(II)V"⟩
abbrev cX10_need : ByteArray := prog_12_method_10_code
def yX10_need : MethodName := ⟨RX10, "need", "(Z)V"⟩
abbrev cX10_opens : ByteArray := prog_12_method_11_code
def yX10_opens : MethodName := ⟨RX10, "opens", "()V"⟩
abbrev cX10_spotAt : ByteArray := prog_12_method_12_code
def yX10_spotAt : MethodName := ⟨RX10, "spotAt", "(I)I"⟩
abbrev cX10_follows : ByteArray := prog_12_method_13_code
def yX10_follows : MethodName := ⟨RX10, "follows", "(II)V"⟩
abbrev cX10_spot : ByteArray := prog_12_method_14_code
def yX10_spot : MethodName := ⟨RX10, "spot", "(II)V"⟩
abbrev cX10_bracket : ByteArray := prog_12_method_15_code
def yX10_bracket : MethodName := ⟨RX10, "bracket", "()I"⟩
abbrev cX10_item : ByteArray := prog_12_method_16_code
def yX10_item : MethodName := ⟨RX10, "item", "()V"⟩
abbrev cX10_rowEnds : ByteArray := prog_12_method_17_code
def yX10_rowEnds : MethodName := ⟨RX10, "rowEnds", "()V"⟩
abbrev cX10_atom : ByteArray := prog_12_method_18_code
def yX10_atom : MethodName := ⟨RX10, "atom", "()V"⟩
abbrev cX10_part : ByteArray := prog_12_method_19_code
def yX10_part : MethodName := ⟨RX10, "part", "()V"⟩
abbrev cX10_says : ByteArray := prog_12_method_20_code
def yX10_says : MethodName := ⟨RX10, "says", "(I)V"⟩
abbrev cX10_meetEnds : ByteArray := prog_12_method_21_code
def yX10_meetEnds : MethodName := ⟨RX10, "meetEnds", "()V"⟩
abbrev cX10_sideEnds : ByteArray := prog_12_method_22_code
def yX10_sideEnds : MethodName := ⟨RX10, "sideEnds", "()V"⟩
abbrev cX10_whole : ByteArray := prog_12_method_23_code
def yX10_whole : MethodName := ⟨RX10, "whole", "()V"⟩
abbrev cX10_meant : ByteArray := prog_12_method_24_code
def yX10_meant : MethodName := ⟨RX10, "meant", "(II)Z"⟩
abbrev cX10_makes : ByteArray := prog_12_method_25_code
def yX10_makes : MethodName := ⟨RX10, "makes", "(III)V"⟩
abbrev cX10_find : ByteArray := prog_12_method_26_code
def yX10_find : MethodName := ⟨RX10, "find", "(II)I"⟩
abbrev cX10_builds : ByteArray := prog_12_method_27_code
def yX10_builds : MethodName := ⟨RX10, "builds", "(I)I"⟩
abbrev cX10_areAlike : ByteArray := prog_12_method_28_code
def yX10_areAlike : MethodName := ⟨RX10, "areAlike", "(III)Z"⟩
abbrev cX10_divides : ByteArray := prog_12_method_29_code
def yX10_divides : MethodName := ⟨RX10, "divides", "(II)V"⟩
abbrev cX10_keeps : ByteArray := prog_12_method_30_code
def yX10_keeps : MethodName := ⟨RX10, "keeps", "(IZ)V"⟩
abbrev cX10_read : ByteArray := prog_12_method_31_code
def yX10_read : MethodName := ⟨RX10, "read", "(II)I"⟩
abbrev cX10_fault : ByteArray := prog_12_method_32_code
def yX10_fault : MethodName := ⟨RX10, "fault", "(I)I"⟩
abbrev cX10_has : ByteArray := prog_12_method_33_code
def yX10_has : MethodName := ⟨RX10, "has", "(I)Z"⟩
abbrev cX10_isState : ByteArray := prog_12_method_34_code
def yX10_isState : MethodName := ⟨RX10, "isState", "(II)Z"⟩
abbrev cX10_after : ByteArray := prog_12_method_35_code
def yX10_after : MethodName := ⟨RX10, "after", "(III)I"⟩
abbrev cX10_isAccepted : ByteArray := prog_12_method_36_code
def yX10_isAccepted : MethodName := ⟨RX10, "isAccepted", "(II)Z"⟩
abbrev cX10_isEndless : ByteArray := prog_12_method_37_code
def yX10_isEndless : MethodName := ⟨RX10, "isEndless", "(I)Z"⟩
abbrev cX10_first : ByteArray := prog_12_method_38_code
def yX10_first : MethodName := ⟨RX10, "first", "(I)I"⟩
abbrev cX10_look : ByteArray := prog_12_method_39_code
def yX10_look : MethodName := ⟨RX10, "look", "(II)I"⟩
abbrev cX10_next : ByteArray := prog_12_method_40_code
def yX10_next : MethodName := ⟨RX10, "next", "(III)I"⟩
abbrev cX10_accepts : ByteArray := prog_12_method_41_code
def yX10_accepts : MethodName := ⟨RX10, "accepts", "(II)I"⟩
abbrev cX10_spots : ByteArray := prog_12_method_42_code
def yX10_spots : MethodName := ⟨RX10, "spots", "(III)I"⟩
abbrev cX10_classOf : ByteArray := prog_12_method_43_code
def yX10_classOf : MethodName := ⟨RX10, "classOf", "(II)I"⟩
abbrev cX10_means : ByteArray := prog_12_method_44_code
def yX10_means : MethodName := ⟨RX10, "means", "(II)I"⟩
abbrev cX10_counts : ByteArray := prog_12_method_45_code
def yX10_counts : MethodName := ⟨RX10, "counts", "(II)V"⟩
abbrev cX10_words : ByteArray := prog_12_method_46_code
def yX10_words : MethodName := ⟨RX10, "words", "(II)J"⟩
abbrev cX10_word : ByteArray := prog_12_method_47_code
def yX10_word : MethodName := ⟨RX10, "word", "(IIJ)Z"⟩
abbrev cX10_shortest : ByteArray := prog_12_method_48_code
def yX10_shortest : MethodName := ⟨RX10, "shortest", "(I)I"⟩
abbrev cX10_meets : ByteArray := prog_12_method_49_code
def yX10_meets : MethodName := ⟨RX10, "meets", "(III)V"⟩
abbrev cX10_walks : ByteArray := prog_12_method_50_code
def yX10_walks : MethodName := ⟨RX10, "walks", "(II)V"⟩
abbrev cX10_compare : ByteArray := prog_12_method_51_code
def yX10_compare : MethodName := ⟨RX10, "compare", "(II)I"⟩
abbrev cX10_differ : ByteArray := prog_12_method_52_code
def yX10_differ : MethodName := ⟨RX10, "differ", "(II)I"⟩
abbrev cX10_letter : ByteArray := prog_12_method_53_code
def yX10_letter : MethodName := ⟨RX10, "letter", "(I)I"⟩
def RJ9 : String := "java/lang/Math"
def TJ9 : u_T := fun k => match k with
  | _ => ("", "", "", false)
def tyJ9 : Nat → FieldType := fun k => match k with
  | _ => .int
abbrev wsJ90 : List Cond := u_ws RJ9 TJ9 0
theorem nmJ9 : ∀ a, a < 0 → ∀ b, b < 0 → a ≠ b → (TJ9 a).2.1 ≠ (TJ9 b).2.1 := by decide +kernel
theorem tyJ9_ok : ∀ k, k < 0 → parseFieldDescriptor (TJ9 k).2.2.1 = some (tyJ9 k) := by decide +kernel
abbrev cJ9_max_7cf53 : ByteArray := prog_13_method_65_code
def yJ9_max_7cf53 : MethodName := ⟨RJ9, "max", "(II)I"⟩
abbrev cJ9_min_7cf53 : ByteArray := prog_13_method_69_code
def yJ9_min_7cf53 : MethodName := ⟨RJ9, "min", "(II)I"⟩
def RJ10 : String := "java/lang/System"
def TJ10 : u_T := fun k => match k with
  | _ => ("", "", "", false)
def tyJ10 : Nat → FieldType := fun k => match k with
  | _ => .int
abbrev wsJ100 : List Cond := u_ws RJ10 TJ10 0
theorem nmJ10 : ∀ a, a < 0 → ∀ b, b < 0 → a ≠ b → (TJ10 a).2.1 ≠ (TJ10 b).2.1 := by decide +kernel
theorem tyJ10_ok : ∀ k, k < 0 → parseFieldDescriptor (TJ10 k).2.2.1 = some (tyJ10 k) := by decide +kernel
def RL : String := "WordMachinesLaw"
abbrev cL_law : ByteArray := code
def yL_law : MethodName := ⟨RL, "law", "([I)Z"⟩
abbrev vwCl : List vw_C := [(RX0, TX0, 1), (RX1, TX1, 5), (RX2, TX2, 2), (RX3, TX3, 4), (RX4, TX4, 10), (RX5, TX5, 4), (RX6, TX6, 9), (RX7, TX7, 8), (RX8, TX8, 2), (RX9, TX9, 11), (RX10, TX10, 59)]
