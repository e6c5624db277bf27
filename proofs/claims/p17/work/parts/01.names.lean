-- ===== PART A: goes FIRST, ahead of the names: the tables' words, and 'selects' of the private methods out of them =====
/-- a private method of a class that the tables say can be made, by its rows of tables_1 -/
def lw_okq (q : MethodName × Nat) : Prop := (q.1.cls ≠ "java/lang/invoke/MethodHandle" ∧ q.1.cls ≠ "java/lang/invoke/VarHandle") ∧ Cond.instantiable q.1.cls q.2 ∈ tables_1 ∧ Cond.privateMethod q.1 ∈ tables_1 ∧ Cond.instanceMethod q.1 ∈ tables_1
theorem lw_p0 : lw_okq (⟨"WrittenBench", "programIsAnother", "()V"⟩, 15) := ⟨⟨by decide +kernel, by decide +kernel⟩, List.mem_of_getElem? (i := 10) (by decide +kernel), List.mem_of_getElem? (i := 300) (by decide +kernel), List.mem_of_getElem? (i := 301) (by decide +kernel)⟩
theorem lw_p1 : lw_okq (⟨"WrittenBench$Run", "startAnew", "()V"⟩, 18) := ⟨⟨by decide +kernel, by decide +kernel⟩, List.mem_of_getElem? (i := 57) (by decide +kernel), List.mem_of_getElem? (i := 333) (by decide +kernel), List.mem_of_getElem? (i := 334) (by decide +kernel)⟩
theorem lw_p2 : lw_okq (⟨"WrittenBench$Run", "doOne", "()I"⟩, 18) := ⟨⟨by decide +kernel, by decide +kernel⟩, List.mem_of_getElem? (i := 57) (by decide +kernel), List.mem_of_getElem? (i := 338) (by decide +kernel), List.mem_of_getElem? (i := 339) (by decide +kernel)⟩
theorem lw_p3 : lw_okq (⟨"WrittenBench$Run", "lookAtUse", "(I)V"⟩, 18) := ⟨⟨by decide +kernel, by decide +kernel⟩, List.mem_of_getElem? (i := 57) (by decide +kernel), List.mem_of_getElem? (i := 343) (by decide +kernel), List.mem_of_getElem? (i := 344) (by decide +kernel)⟩
theorem lw_p4 : lw_okq (⟨"WrittenBench$Run", "keepPrint", "(I)V"⟩, 18) := ⟨⟨by decide +kernel, by decide +kernel⟩, List.mem_of_getElem? (i := 57) (by decide +kernel), List.mem_of_getElem? (i := 354) (by decide +kernel), List.mem_of_getElem? (i := 355) (by decide +kernel)⟩
theorem lw_p5 : lw_okq (⟨"WrittenBench$Run", "store", "(I)I"⟩, 18) := ⟨⟨by decide +kernel, by decide +kernel⟩, List.mem_of_getElem? (i := 57) (by decide +kernel), List.mem_of_getElem? (i := 358) (by decide +kernel), List.mem_of_getElem? (i := 359) (by decide +kernel)⟩
theorem lw_p6 : lw_okq (⟨"WrittenBench$Run", "copyRow", "(III)V"⟩, 18) := ⟨⟨by decide +kernel, by decide +kernel⟩, List.mem_of_getElem? (i := 57) (by decide +kernel), List.mem_of_getElem? (i := 362) (by decide +kernel), List.mem_of_getElem? (i := 363) (by decide +kernel)⟩
theorem lw_p7 : lw_okq (⟨"WrittenBench$Run", "load", "(I)I"⟩, 18) := ⟨⟨by decide +kernel, by decide +kernel⟩, List.mem_of_getElem? (i := 57) (by decide +kernel), List.mem_of_getElem? (i := 372) (by decide +kernel), List.mem_of_getElem? (i := 373) (by decide +kernel)⟩
theorem lw_p8 : lw_okq (⟨"WrittenBench$Run", "enter", "(I)I"⟩, 18) := ⟨⟨by decide +kernel, by decide +kernel⟩, List.mem_of_getElem? (i := 57) (by decide +kernel), List.mem_of_getElem? (i := 376) (by decide +kernel), List.mem_of_getElem? (i := 377) (by decide +kernel)⟩
theorem lw_p9 : lw_okq (⟨"WrittenBench$Run", "fill", "(I)V"⟩, 18) := ⟨⟨by decide +kernel, by decide +kernel⟩, List.mem_of_getElem? (i := 57) (by decide +kernel), List.mem_of_getElem? (i := 380) (by decide +kernel), List.mem_of_getElem? (i := 381) (by decide +kernel)⟩
theorem lw_p10 : lw_okq (⟨"WrittenBench$Run", "fillRow", "(IIIZ)V"⟩, 18) := ⟨⟨by decide +kernel, by decide +kernel⟩, List.mem_of_getElem? (i := 57) (by decide +kernel), List.mem_of_getElem? (i := 384) (by decide +kernel), List.mem_of_getElem? (i := 385) (by decide +kernel)⟩
theorem lw_p11 : lw_okq (⟨"WrittenBench$Run", "nextOfInput", "()I"⟩, 18) := ⟨⟨by decide +kernel, by decide +kernel⟩, List.mem_of_getElem? (i := 57) (by decide +kernel), List.mem_of_getElem? (i := 391) (by decide +kernel), List.mem_of_getElem? (i := 392) (by decide +kernel)⟩
theorem lw_p12 : lw_okq (⟨"WrittenBench$Run", "goBack", "()V"⟩, 18) := ⟨⟨by decide +kernel, by decide +kernel⟩, List.mem_of_getElem? (i := 57) (by decide +kernel), List.mem_of_getElem? (i := 395) (by decide +kernel), List.mem_of_getElem? (i := 396) (by decide +kernel)⟩
theorem lw_p13 : lw_okq (⟨"WrittenBench", "freshen", "()V"⟩, 15) := ⟨⟨by decide +kernel, by decide +kernel⟩, List.mem_of_getElem? (i := 10) (by decide +kernel), List.mem_of_getElem? (i := 428) (by decide +kernel), List.mem_of_getElem? (i := 429) (by decide +kernel)⟩
theorem lw_p14 : lw_okq (⟨"WrittenBench$Flow", "forget", "()V"⟩, 14) := ⟨⟨by decide +kernel, by decide +kernel⟩, List.mem_of_getElem? (i := 128) (by decide +kernel), List.mem_of_getElem? (i := 437) (by decide +kernel), List.mem_of_getElem? (i := 438) (by decide +kernel)⟩
theorem lw_p15 : lw_okq (⟨"WrittenBench$Flow", "come", "(III)V"⟩, 14) := ⟨⟨by decide +kernel, by decide +kernel⟩, List.mem_of_getElem? (i := 128) (by decide +kernel), List.mem_of_getElem? (i := 442) (by decide +kernel), List.mem_of_getElem? (i := 443) (by decide +kernel)⟩
def lw_privs_1 : List (MethodName × Nat) := [(⟨"WrittenBench", "programIsAnother", "()V"⟩, 15), (⟨"WrittenBench$Run", "startAnew", "()V"⟩, 18), (⟨"WrittenBench$Run", "doOne", "()I"⟩, 18), (⟨"WrittenBench$Run", "lookAtUse", "(I)V"⟩, 18), (⟨"WrittenBench$Run", "keepPrint", "(I)V"⟩, 18), (⟨"WrittenBench$Run", "store", "(I)I"⟩, 18), (⟨"WrittenBench$Run", "copyRow", "(III)V"⟩, 18), (⟨"WrittenBench$Run", "load", "(I)I"⟩, 18), (⟨"WrittenBench$Run", "enter", "(I)I"⟩, 18), (⟨"WrittenBench$Run", "fill", "(I)V"⟩, 18), (⟨"WrittenBench$Run", "fillRow", "(IIIZ)V"⟩, 18), (⟨"WrittenBench$Run", "nextOfInput", "()I"⟩, 18), (⟨"WrittenBench$Run", "goBack", "()V"⟩, 18), (⟨"WrittenBench", "freshen", "()V"⟩, 15), (⟨"WrittenBench$Flow", "forget", "()V"⟩, 14), (⟨"WrittenBench$Flow", "come", "(III)V"⟩, 14)]
theorem lw_r1 : ∀ q ∈ lw_privs_1, lw_okq q := List.forall_mem_cons.mpr ⟨lw_p0, List.forall_mem_cons.mpr ⟨lw_p1, List.forall_mem_cons.mpr ⟨lw_p2, List.forall_mem_cons.mpr ⟨lw_p3, List.forall_mem_cons.mpr ⟨lw_p4, List.forall_mem_cons.mpr ⟨lw_p5, List.forall_mem_cons.mpr ⟨lw_p6, List.forall_mem_cons.mpr ⟨lw_p7, List.forall_mem_cons.mpr ⟨lw_p8, List.forall_mem_cons.mpr ⟨lw_p9, List.forall_mem_cons.mpr ⟨lw_p10, List.forall_mem_cons.mpr ⟨lw_p11, List.forall_mem_cons.mpr ⟨lw_p12, List.forall_mem_cons.mpr ⟨lw_p13, List.forall_mem_cons.mpr ⟨lw_p14, List.forall_mem_cons.mpr ⟨lw_p15, fun _ h => absurd h List.not_mem_nil⟩⟩⟩⟩⟩⟩⟩⟩⟩⟩⟩⟩⟩⟩⟩⟩
theorem lw_p16 : lw_okq (⟨"WrittenBench$Flow", "join", "(IIII)V"⟩, 14) := ⟨⟨by decide +kernel, by decide +kernel⟩, List.mem_of_getElem? (i := 128) (by decide +kernel), List.mem_of_getElem? (i := 446) (by decide +kernel), List.mem_of_getElem? (i := 447) (by decide +kernel)⟩
theorem lw_p17 : lw_okq (⟨"WrittenBench$Flow", "takeOn", "(II)V"⟩, 14) := ⟨⟨by decide +kernel, by decide +kernel⟩, List.mem_of_getElem? (i := 128) (by decide +kernel), List.mem_of_getElem? (i := 451) (by decide +kernel), List.mem_of_getElem? (i := 452) (by decide +kernel)⟩
theorem lw_p18 : lw_okq (⟨"WrittenBench$Flow", "leave", "(III)V"⟩, 14) := ⟨⟨by decide +kernel, by decide +kernel⟩, List.mem_of_getElem? (i := 128) (by decide +kernel), List.mem_of_getElem? (i := 456) (by decide +kernel), List.mem_of_getElem? (i := 457) (by decide +kernel)⟩
theorem lw_p19 : lw_okq (⟨"WrittenBench$Flow", "isComeTo", "(II)Z"⟩, 14) := ⟨⟨by decide +kernel, by decide +kernel⟩, List.mem_of_getElem? (i := 128) (by decide +kernel), List.mem_of_getElem? (i := 460) (by decide +kernel), List.mem_of_getElem? (i := 461) (by decide +kernel)⟩
theorem lw_p20 : lw_okq (⟨"WrittenBench$Flow", "fill", "(I)V"⟩, 14) := ⟨⟨by decide +kernel, by decide +kernel⟩, List.mem_of_getElem? (i := 128) (by decide +kernel), List.mem_of_getElem? (i := 464) (by decide +kernel), List.mem_of_getElem? (i := 465) (by decide +kernel)⟩
theorem lw_p21 : lw_okq (⟨"WrittenBench$Flow", "fillRow", "(IIZ)V"⟩, 14) := ⟨⟨by decide +kernel, by decide +kernel⟩, List.mem_of_getElem? (i := 128) (by decide +kernel), List.mem_of_getElem? (i := 468) (by decide +kernel), List.mem_of_getElem? (i := 469) (by decide +kernel)⟩
theorem lw_p22 : lw_okq (⟨"WrittenBench$Flow", "copyRow", "(III)V"⟩, 14) := ⟨⟨by decide +kernel, by decide +kernel⟩, List.mem_of_getElem? (i := 128) (by decide +kernel), List.mem_of_getElem? (i := 475) (by decide +kernel), List.mem_of_getElem? (i := 476) (by decide +kernel)⟩
theorem lw_p23 : lw_okq (⟨"WrittenBench$Flow", "add", "(II)V"⟩, 14) := ⟨⟨by decide +kernel, by decide +kernel⟩, List.mem_of_getElem? (i := 128) (by decide +kernel), List.mem_of_getElem? (i := 480) (by decide +kernel), List.mem_of_getElem? (i := 481) (by decide +kernel)⟩
theorem lw_p24 : lw_okq (⟨"WrittenBench$Flow", "store", "(III)V"⟩, 14) := ⟨⟨by decide +kernel, by decide +kernel⟩, List.mem_of_getElem? (i := 128) (by decide +kernel), List.mem_of_getElem? (i := 486) (by decide +kernel), List.mem_of_getElem? (i := 487) (by decide +kernel)⟩
theorem lw_p25 : lw_okq (⟨"WrittenBench$Flow", "load", "(III)V"⟩, 14) := ⟨⟨by decide +kernel, by decide +kernel⟩, List.mem_of_getElem? (i := 128) (by decide +kernel), List.mem_of_getElem? (i := 490) (by decide +kernel), List.mem_of_getElem? (i := 491) (by decide +kernel)⟩
theorem lw_p26 : lw_okq (⟨"WrittenBench", "leastWitness", "(II)I"⟩, 15) := ⟨⟨by decide +kernel, by decide +kernel⟩, List.mem_of_getElem? (i := 10) (by decide +kernel), List.mem_of_getElem? (i := 526) (by decide +kernel), List.mem_of_getElem? (i := 527) (by decide +kernel)⟩
theorem lw_p27 : lw_okq (⟨"WrittenBench", "showsBad", "(II)Z"⟩, 15) := ⟨⟨by decide +kernel, by decide +kernel⟩, List.mem_of_getElem? (i := 10) (by decide +kernel), List.mem_of_getElem? (i := 530) (by decide +kernel), List.mem_of_getElem? (i := 531) (by decide +kernel)⟩
theorem lw_p28 : lw_okq (⟨"WrittenBench$Mender", "leads", "(II)Z"⟩, 13) := ⟨⟨by decide +kernel, by decide +kernel⟩, List.mem_of_getElem? (i := 182) (by decide +kernel), List.mem_of_getElem? (i := 567) (by decide +kernel), List.mem_of_getElem? (i := 568) (by decide +kernel)⟩
theorem lw_p29 : lw_okq (⟨"WrittenBench$Mender", "followWays", "()V"⟩, 13) := ⟨⟨by decide +kernel, by decide +kernel⟩, List.mem_of_getElem? (i := 182) (by decide +kernel), List.mem_of_getElem? (i := 582) (by decide +kernel), List.mem_of_getElem? (i := 583) (by decide +kernel)⟩
theorem lw_p30 : lw_okq (⟨"WrittenBench$Mender", "doAllMends", "()V"⟩, 13) := ⟨⟨by decide +kernel, by decide +kernel⟩, List.mem_of_getElem? (i := 182) (by decide +kernel), List.mem_of_getElem? (i := 586) (by decide +kernel), List.mem_of_getElem? (i := 587) (by decide +kernel)⟩
theorem lw_p31 : lw_okq (⟨"WrittenBench$Mender", "mendsComeTo", "()I"⟩, 13) := ⟨⟨by decide +kernel, by decide +kernel⟩, List.mem_of_getElem? (i := 182) (by decide +kernel), List.mem_of_getElem? (i := 595) (by decide +kernel), List.mem_of_getElem? (i := 596) (by decide +kernel)⟩
def lw_privs_2 : List (MethodName × Nat) := [(⟨"WrittenBench$Flow", "join", "(IIII)V"⟩, 14), (⟨"WrittenBench$Flow", "takeOn", "(II)V"⟩, 14), (⟨"WrittenBench$Flow", "leave", "(III)V"⟩, 14), (⟨"WrittenBench$Flow", "isComeTo", "(II)Z"⟩, 14), (⟨"WrittenBench$Flow", "fill", "(I)V"⟩, 14), (⟨"WrittenBench$Flow", "fillRow", "(IIZ)V"⟩, 14), (⟨"WrittenBench$Flow", "copyRow", "(III)V"⟩, 14), (⟨"WrittenBench$Flow", "add", "(II)V"⟩, 14), (⟨"WrittenBench$Flow", "store", "(III)V"⟩, 14), (⟨"WrittenBench$Flow", "load", "(III)V"⟩, 14), (⟨"WrittenBench", "leastWitness", "(II)I"⟩, 15), (⟨"WrittenBench", "showsBad", "(II)Z"⟩, 15), (⟨"WrittenBench$Mender", "leads", "(II)Z"⟩, 13), (⟨"WrittenBench$Mender", "followWays", "()V"⟩, 13), (⟨"WrittenBench$Mender", "doAllMends", "()V"⟩, 13), (⟨"WrittenBench$Mender", "mendsComeTo", "()I"⟩, 13)]
theorem lw_r2 : ∀ q ∈ lw_privs_2, lw_okq q := List.forall_mem_cons.mpr ⟨lw_p16, List.forall_mem_cons.mpr ⟨lw_p17, List.forall_mem_cons.mpr ⟨lw_p18, List.forall_mem_cons.mpr ⟨lw_p19, List.forall_mem_cons.mpr ⟨lw_p20, List.forall_mem_cons.mpr ⟨lw_p21, List.forall_mem_cons.mpr ⟨lw_p22, List.forall_mem_cons.mpr ⟨lw_p23, List.forall_mem_cons.mpr ⟨lw_p24, List.forall_mem_cons.mpr ⟨lw_p25, List.forall_mem_cons.mpr ⟨lw_p26, List.forall_mem_cons.mpr ⟨lw_p27, List.forall_mem_cons.mpr ⟨lw_p28, List.forall_mem_cons.mpr ⟨lw_p29, List.forall_mem_cons.mpr ⟨lw_p30, List.forall_mem_cons.mpr ⟨lw_p31, fun _ h => absurd h List.not_mem_nil⟩⟩⟩⟩⟩⟩⟩⟩⟩⟩⟩⟩⟩⟩⟩⟩
theorem lw_p32 : lw_okq (⟨"WrittenBench$Mender", "cheapest", "([I)I"⟩, 13) := ⟨⟨by decide +kernel, by decide +kernel⟩, List.mem_of_getElem? (i := 182) (by decide +kernel), List.mem_of_getElem? (i := 600) (by decide +kernel), List.mem_of_getElem? (i := 601) (by decide +kernel)⟩
theorem lw_p33 : lw_okq (⟨"WrittenBench$Mender", "costOf", "(I[I)I"⟩, 13) := ⟨⟨by decide +kernel, by decide +kernel⟩, List.mem_of_getElem? (i := 182) (by decide +kernel), List.mem_of_getElem? (i := 604) (by decide +kernel), List.mem_of_getElem? (i := 605) (by decide +kernel)⟩
theorem lw_p34 : lw_okq (⟨"WrittenBench$Mender", "cutsAllWays", "(I)Z"⟩, 13) := ⟨⟨by decide +kernel, by decide +kernel⟩, List.mem_of_getElem? (i := 182) (by decide +kernel), List.mem_of_getElem? (i := 608) (by decide +kernel), List.mem_of_getElem? (i := 609) (by decide +kernel)⟩
theorem lw_p35 : lw_okq (⟨"WrittenBench$Mender", "keep", "(I)V"⟩, 13) := ⟨⟨by decide +kernel, by decide +kernel⟩, List.mem_of_getElem? (i := 182) (by decide +kernel), List.mem_of_getElem? (i := 612) (by decide +kernel), List.mem_of_getElem? (i := 613) (by decide +kernel)⟩
theorem lw_p36 : lw_okq (⟨"WrittenBench$Mender", "keptAt", "(I)I"⟩, 13) := ⟨⟨by decide +kernel, by decide +kernel⟩, List.mem_of_getElem? (i := 182) (by decide +kernel), List.mem_of_getElem? (i := 628) (by decide +kernel), List.mem_of_getElem? (i := 629) (by decide +kernel)⟩
theorem lw_p37 : lw_okq (⟨"WrittenBenchModel", "puts", "(IIIIIII)V"⟩, 56) := ⟨⟨by decide +kernel, by decide +kernel⟩, List.mem_of_getElem? (i := 649) (by decide +kernel), List.mem_of_getElem? (i := 843) (by decide +kernel), List.mem_of_getElem? (i := 844) (by decide +kernel)⟩
theorem lw_p38 : lw_okq (⟨"WrittenBenchModel", "runs", "()I"⟩, 56) := ⟨⟨by decide +kernel, by decide +kernel⟩, List.mem_of_getElem? (i := 649) (by decide +kernel), List.mem_of_getElem? (i := 867) (by decide +kernel), List.mem_of_getElem? (i := 868) (by decide +kernel)⟩
theorem lw_p39 : lw_okq (⟨"WrittenBenchModel", "uses", "(III)V"⟩, 56) := ⟨⟨by decide +kernel, by decide +kernel⟩, List.mem_of_getElem? (i := 649) (by decide +kernel), List.mem_of_getElem? (i := 871) (by decide +kernel), List.mem_of_getElem? (i := 872) (by decide +kernel)⟩
theorem lw_p40 : lw_okq (⟨"WrittenBenchModel", "does", "(II)Z"⟩, 56) := ⟨⟨by decide +kernel, by decide +kernel⟩, List.mem_of_getElem? (i := 649) (by decide +kernel), List.mem_of_getElem? (i := 878) (by decide +kernel), List.mem_of_getElem? (i := 879) (by decide +kernel)⟩
theorem lw_p41 : lw_okq (⟨"WrittenBenchModel", "fills", "(IIIZ)V"⟩, 56) := ⟨⟨by decide +kernel, by decide +kernel⟩, List.mem_of_getElem? (i := 649) (by decide +kernel), List.mem_of_getElem? (i := 882) (by decide +kernel), List.mem_of_getElem? (i := 883) (by decide +kernel)⟩
theorem lw_p42 : lw_okq (⟨"WrittenBenchModel", "copies", "(III)V"⟩, 56) := ⟨⟨by decide +kernel, by decide +kernel⟩, List.mem_of_getElem? (i := 649) (by decide +kernel), List.mem_of_getElem? (i := 886) (by decide +kernel), List.mem_of_getElem? (i := 887) (by decide +kernel)⟩
theorem lw_p43 : lw_okq (⟨"WrittenBenchModel", "reads", "()I"⟩, 56) := ⟨⟨by decide +kernel, by decide +kernel⟩, List.mem_of_getElem? (i := 649) (by decide +kernel), List.mem_of_getElem? (i := 890) (by decide +kernel), List.mem_of_getElem? (i := 891) (by decide +kernel)⟩
theorem lw_p44 : lw_okq (⟨"WrittenBenchModel", "flowsPlain", "()V"⟩, 56) := ⟨⟨by decide +kernel, by decide +kernel⟩, List.mem_of_getElem? (i := 649) (by decide +kernel), List.mem_of_getElem? (i := 914) (by decide +kernel), List.mem_of_getElem? (i := 915) (by decide +kernel)⟩
theorem lw_p45 : lw_okq (⟨"WrittenBenchModel", "unmends", "()V"⟩, 56) := ⟨⟨by decide +kernel, by decide +kernel⟩, List.mem_of_getElem? (i := 649) (by decide +kernel), List.mem_of_getElem? (i := 918) (by decide +kernel), List.mem_of_getElem? (i := 919) (by decide +kernel)⟩
theorem lw_p46 : lw_okq (⟨"WrittenBenchModel", "flows", "(III)V"⟩, 56) := ⟨⟨by decide +kernel, by decide +kernel⟩, List.mem_of_getElem? (i := 649) (by decide +kernel), List.mem_of_getElem? (i := 923) (by decide +kernel), List.mem_of_getElem? (i := 924) (by decide +kernel)⟩
theorem lw_p47 : lw_okq (⟨"WrittenBenchModel", "begins", "(I)V"⟩, 56) := ⟨⟨by decide +kernel, by decide +kernel⟩, List.mem_of_getElem? (i := 649) (by decide +kernel), List.mem_of_getElem? (i := 927) (by decide +kernel), List.mem_of_getElem? (i := 928) (by decide +kernel)⟩
def lw_privs_3 : List (MethodName × Nat) := [(⟨"WrittenBench$Mender", "cheapest", "([I)I"⟩, 13), (⟨"WrittenBench$Mender", "costOf", "(I[I)I"⟩, 13), (⟨"WrittenBench$Mender", "cutsAllWays", "(I)Z"⟩, 13), (⟨"WrittenBench$Mender", "keep", "(I)V"⟩, 13), (⟨"WrittenBench$Mender", "keptAt", "(I)I"⟩, 13), (⟨"WrittenBenchModel", "puts", "(IIIIIII)V"⟩, 56), (⟨"WrittenBenchModel", "runs", "()I"⟩, 56), (⟨"WrittenBenchModel", "uses", "(III)V"⟩, 56), (⟨"WrittenBenchModel", "does", "(II)Z"⟩, 56), (⟨"WrittenBenchModel", "fills", "(IIIZ)V"⟩, 56), (⟨"WrittenBenchModel", "copies", "(III)V"⟩, 56), (⟨"WrittenBenchModel", "reads", "()I"⟩, 56), (⟨"WrittenBenchModel", "flowsPlain", "()V"⟩, 56), (⟨"WrittenBenchModel", "unmends", "()V"⟩, 56), (⟨"WrittenBenchModel", "flows", "(III)V"⟩, 56), (⟨"WrittenBenchModel", "begins", "(I)V"⟩, 56)]
theorem lw_r3 : ∀ q ∈ lw_privs_3, lw_okq q := List.forall_mem_cons.mpr ⟨lw_p32, List.forall_mem_cons.mpr ⟨lw_p33, List.forall_mem_cons.mpr ⟨lw_p34, List.forall_mem_cons.mpr ⟨lw_p35, List.forall_mem_cons.mpr ⟨lw_p36, List.forall_mem_cons.mpr ⟨lw_p37, List.forall_mem_cons.mpr ⟨lw_p38, List.forall_mem_cons.mpr ⟨lw_p39, List.forall_mem_cons.mpr ⟨lw_p40, List.forall_mem_cons.mpr ⟨lw_p41, List.forall_mem_cons.mpr ⟨lw_p42, List.forall_mem_cons.mpr ⟨lw_p43, List.forall_mem_cons.mpr ⟨lw_p44, List.forall_mem_cons.mpr ⟨lw_p45, List.forall_mem_cons.mpr ⟨lw_p46, List.forall_mem_cons.mpr ⟨lw_p47, fun _ h => absurd h List.not_mem_nil⟩⟩⟩⟩⟩⟩⟩⟩⟩⟩⟩⟩⟩⟩⟩⟩
theorem lw_p48 : lw_okq (⟨"WrittenBenchModel", "goes", "(II)V"⟩, 56) := ⟨⟨by decide +kernel, by decide +kernel⟩, List.mem_of_getElem? (i := 649) (by decide +kernel), List.mem_of_getElem? (i := 931) (by decide +kernel), List.mem_of_getElem? (i := 932) (by decide +kernel)⟩
theorem lw_p49 : lw_okq (⟨"WrittenBenchModel", "returns", "(I)V"⟩, 56) := ⟨⟨by decide +kernel, by decide +kernel⟩, List.mem_of_getElem? (i := 649) (by decide +kernel), List.mem_of_getElem? (i := 935) (by decide +kernel), List.mem_of_getElem? (i := 936) (by decide +kernel)⟩
theorem lw_p50 : lw_okq (⟨"WrittenBenchModel", "changes", "(II)Z"⟩, 56) := ⟨⟨by decide +kernel, by decide +kernel⟩, List.mem_of_getElem? (i := 649) (by decide +kernel), List.mem_of_getElem? (i := 939) (by decide +kernel), List.mem_of_getElem? (i := 940) (by decide +kernel)⟩
theorem lw_p51 : lw_okq (⟨"WrittenBenchModel", "sets", "(IIZZ)V"⟩, 56) := ⟨⟨by decide +kernel, by decide +kernel⟩, List.mem_of_getElem? (i := 649) (by decide +kernel), List.mem_of_getElem? (i := 943) (by decide +kernel), List.mem_of_getElem? (i := 944) (by decide +kernel)⟩
theorem lw_p52 : lw_okq (⟨"WrittenBenchModel", "badMany", "()I"⟩, 56) := ⟨⟨by decide +kernel, by decide +kernel⟩, List.mem_of_getElem? (i := 649) (by decide +kernel), List.mem_of_getElem? (i := 953) (by decide +kernel), List.mem_of_getElem? (i := 954) (by decide +kernel)⟩
theorem lw_p53 : lw_okq (⟨"WrittenBenchModel", "isBad", "(II)Z"⟩, 56) := ⟨⟨by decide +kernel, by decide +kernel⟩, List.mem_of_getElem? (i := 649) (by decide +kernel), List.mem_of_getElem? (i := 957) (by decide +kernel), List.mem_of_getElem? (i := 958) (by decide +kernel)⟩
theorem lw_p54 : lw_okq (⟨"WrittenBenchModel", "used", "(II)I"⟩, 56) := ⟨⟨by decide +kernel, by decide +kernel⟩, List.mem_of_getElem? (i := 649) (by decide +kernel), List.mem_of_getElem? (i := 961) (by decide +kernel), List.mem_of_getElem? (i := 962) (by decide +kernel)⟩
theorem lw_p55 : lw_okq (⟨"WrittenBenchModel", "kindOf", "(II)I"⟩, 56) := ⟨⟨by decide +kernel, by decide +kernel⟩, List.mem_of_getElem? (i := 649) (by decide +kernel), List.mem_of_getElem? (i := 977) (by decide +kernel), List.mem_of_getElem? (i := 978) (by decide +kernel)⟩
theorem lw_p56 : lw_okq (⟨"WrittenBenchModel", "looksFor", "()Z"⟩, 56) := ⟨⟨by decide +kernel, by decide +kernel⟩, List.mem_of_getElem? (i := 649) (by decide +kernel), List.mem_of_getElem? (i := 993) (by decide +kernel), List.mem_of_getElem? (i := 994) (by decide +kernel)⟩
theorem lw_p57 : lw_okq (⟨"WrittenBenchModel", "counts", "(II)Z"⟩, 56) := ⟨⟨by decide +kernel, by decide +kernel⟩, List.mem_of_getElem? (i := 649) (by decide +kernel), List.mem_of_getElem? (i := 997) (by decide +kernel), List.mem_of_getElem? (i := 998) (by decide +kernel)⟩
theorem lw_p58 : lw_okq (⟨"WrittenBenchModel", "leads", "(III)V"⟩, 56) := ⟨⟨by decide +kernel, by decide +kernel⟩, List.mem_of_getElem? (i := 649) (by decide +kernel), List.mem_of_getElem? (i := 1001) (by decide +kernel), List.mem_of_getElem? (i := 1002) (by decide +kernel)⟩
theorem lw_p59 : lw_okq (⟨"WrittenBenchModel", "leadsOn", "(II)V"⟩, 56) := ⟨⟨by decide +kernel, by decide +kernel⟩, List.mem_of_getElem? (i := 649) (by decide +kernel), List.mem_of_getElem? (i := 1005) (by decide +kernel), List.mem_of_getElem? (i := 1006) (by decide +kernel)⟩
theorem lw_p60 : lw_okq (⟨"WrittenBenchModel", "left", "(III)I"⟩, 56) := ⟨⟨by decide +kernel, by decide +kernel⟩, List.mem_of_getElem? (i := 649) (by decide +kernel), List.mem_of_getElem? (i := 1009) (by decide +kernel), List.mem_of_getElem? (i := 1010) (by decide +kernel)⟩
theorem lw_p61 : lw_okq (⟨"WrittenBenchModel", "skipsBelow", "(I)Z"⟩, 56) := ⟨⟨by decide +kernel, by decide +kernel⟩, List.mem_of_getElem? (i := 649) (by decide +kernel), List.mem_of_getElem? (i := 1022) (by decide +kernel), List.mem_of_getElem? (i := 1023) (by decide +kernel)⟩
def lw_privs_4 : List (MethodName × Nat) := [(⟨"WrittenBenchModel", "goes", "(II)V"⟩, 56), (⟨"WrittenBenchModel", "returns", "(I)V"⟩, 56), (⟨"WrittenBenchModel", "changes", "(II)Z"⟩, 56), (⟨"WrittenBenchModel", "sets", "(IIZZ)V"⟩, 56), (⟨"WrittenBenchModel", "badMany", "()I"⟩, 56), (⟨"WrittenBenchModel", "isBad", "(II)Z"⟩, 56), (⟨"WrittenBenchModel", "used", "(II)I"⟩, 56), (⟨"WrittenBenchModel", "kindOf", "(II)I"⟩, 56), (⟨"WrittenBenchModel", "looksFor", "()Z"⟩, 56), (⟨"WrittenBenchModel", "counts", "(II)Z"⟩, 56), (⟨"WrittenBenchModel", "leads", "(III)V"⟩, 56), (⟨"WrittenBenchModel", "leadsOn", "(II)V"⟩, 56), (⟨"WrittenBenchModel", "left", "(III)I"⟩, 56), (⟨"WrittenBenchModel", "skipsBelow", "(I)Z"⟩, 56)]
theorem lw_r4 : ∀ q ∈ lw_privs_4, lw_okq q := List.forall_mem_cons.mpr ⟨lw_p48, List.forall_mem_cons.mpr ⟨lw_p49, List.forall_mem_cons.mpr ⟨lw_p50, List.forall_mem_cons.mpr ⟨lw_p51, List.forall_mem_cons.mpr ⟨lw_p52, List.forall_mem_cons.mpr ⟨lw_p53, List.forall_mem_cons.mpr ⟨lw_p54, List.forall_mem_cons.mpr ⟨lw_p55, List.forall_mem_cons.mpr ⟨lw_p56, List.forall_mem_cons.mpr ⟨lw_p57, List.forall_mem_cons.mpr ⟨lw_p58, List.forall_mem_cons.mpr ⟨lw_p59, List.forall_mem_cons.mpr ⟨lw_p60, List.forall_mem_cons.mpr ⟨lw_p61, fun _ h => absurd h List.not_mem_nil⟩⟩⟩⟩⟩⟩⟩⟩⟩⟩⟩⟩⟩⟩
def lw_privs : List (MethodName × Nat) := lw_privs_1 ++ (lw_privs_2 ++ (lw_privs_3 ++ (lw_privs_4)))
def lw_tbl : List Cond := k2_sels lw_privs ++ tables_1
theorem lw_privs_ok : ∀ q ∈ lw_privs, lw_okq q := by
  show ∀ q ∈ lw_privs_1 ++ (lw_privs_2 ++ (lw_privs_3 ++ (lw_privs_4))), lw_okq q
  exact List.forall_mem_append.mpr ⟨lw_r1, List.forall_mem_append.mpr ⟨lw_r2, List.forall_mem_append.mpr ⟨lw_r3, lw_r4⟩⟩⟩
def RX0 : String := "WrittenBench$Flow"
def TX0 : u_T := fun k => match k with
  | 0 => ("WrittenBench$Flow", "program", "LWrittenBench$Program;", true)
  | 1 => ("WrittenBench$Flow", "written", "[I", true)
  | 2 => ("WrittenBench$Flow", "unwritten", "[I", true)
  | 3 => ("WrittenBench$Flow", "due", "[Z", true)
  | 4 => ("WrittenBench$Flow", "anyDue", "Z", false)
  | 5 => ("WrittenBench$Flow", "nextWritten", "I", false)
  | 6 => ("WrittenBench$Flow", "nextUnwritten", "I", false)
  | 7 => ("WrittenBench$Flow", "inWritten", "[I", true)
  | 8 => ("WrittenBench$Flow", "inUnwritten", "[I", true)
  | 9 => ("WrittenBench$Flow", "outWritten", "[I", true)
  | 10 => ("WrittenBench$Flow", "outUnwritten", "[I", true)
  | 11 => ("WrittenBench$Flow", "setAhead", "[I", true)
  | 12 => ("WrittenBench$Flow", "unsetAhead", "[I", true)
  | _ => ("WrittenBench$Flow", "freeWrites", "Z", false)
def tyX0 : Nat → FieldType := fun k => match k with
  | 0 => .object "WrittenBench$Program"
  | 1 => .array .int
  | 2 => .array .int
  | 3 => .array .boolean
  | 4 => .boolean
  | 5 => .int
  | 6 => .int
  | 7 => .array .int
  | 8 => .array .int
  | 9 => .array .int
  | 10 => .array .int
  | 11 => .array .int
  | 12 => .array .int
  | _ => .boolean
abbrev wsX00 : List Cond := u_ws RX0 TX0 14
theorem nmX0 : ∀ a, a < 14 → ∀ b, b < 14 → a ≠ b → (TX0 a).2.1 ≠ (TX0 b).2.1 := by decide +kernel
theorem tyX0_ok : ∀ k, k < 14 → parseFieldDescriptor (TX0 k).2.2.1 = some (tyX0 k) := by decide +kernel
abbrev cX0_init : ByteArray := prog_2_method_1_code
def yX0_init : MethodName := ⟨RX0, "<init>", "(LWrittenBench$Program;)V"⟩
abbrev cX0_takePlain : ByteArray := prog_2_method_2_code
def yX0_takePlain : MethodName := ⟨RX0, "takePlain", "()V"⟩
abbrev cX0_setAtBegin : ByteArray := prog_2_method_3_code
def yX0_setAtBegin : MethodName := ⟨RX0, "setAtBegin", "(II)V"⟩
abbrev cX0_unsetAtBegin : ByteArray := prog_2_method_4_code
def yX0_unsetAtBegin : MethodName := ⟨RX0, "unsetAtBegin", "(II)V"⟩
abbrev cX0_follow : ByteArray := prog_2_method_5_code
def yX0_follow : MethodName := ⟨RX0, "follow", "(II)V"⟩
abbrev cX0_mayBe : ByteArray := prog_2_method_6_code
def yX0_mayBe : MethodName := ⟨RX0, "mayBe", "(III)I"⟩
abbrev cX0_kind : ByteArray := prog_2_method_7_code
def yX0_kind : MethodName := ⟨RX0, "kind", "(II)I"⟩
abbrev cX0_badUses : ByteArray := prog_2_method_8_code
def yX0_badUses : MethodName := ⟨RX0, "badUses", "()I"⟩
abbrev cX0_badUseAt : ByteArray := prog_2_method_9_code
def yX0_badUseAt : MethodName := ⟨RX0, "badUseAt", "(I)I"⟩
abbrev cX0_tellKinds : ByteArray := prog_2_method_10_code
def yX0_tellKinds : MethodName := ⟨RX0, "tellKinds", "([I)V"⟩
abbrev cX0_hasKinds : ByteArray := prog_2_method_11_code
def yX0_hasKinds : MethodName := ⟨RX0, "hasKinds", "([I)Z"⟩
abbrev cX0_forget : ByteArray := prog_2_method_12_code
def yX0_forget : MethodName := ⟨RX0, "forget", "()V"⟩
abbrev cX0_come : ByteArray := prog_2_method_13_code
def yX0_come : MethodName := ⟨RX0, "come", "(III)V"⟩
abbrev cX0_join : ByteArray := prog_2_method_14_code
def yX0_join : MethodName := ⟨RX0, "join", "(IIII)V"⟩
abbrev cX0_takeOn : ByteArray := prog_2_method_15_code
def yX0_takeOn : MethodName := ⟨RX0, "takeOn", "(II)V"⟩
abbrev cX0_leave : ByteArray := prog_2_method_16_code
def yX0_leave : MethodName := ⟨RX0, "leave", "(III)V"⟩
abbrev cX0_isComeTo : ByteArray := prog_2_method_17_code
def yX0_isComeTo : MethodName := ⟨RX0, "isComeTo", "(II)Z"⟩
abbrev cX0_fill : ByteArray := prog_2_method_18_code
def yX0_fill : MethodName := ⟨RX0, "fill", "(I)V"⟩
abbrev cX0_fillRow : ByteArray := prog_2_method_19_code
def yX0_fillRow : MethodName := ⟨RX0, "fillRow", "(IIZ)V"⟩
abbrev cX0_copyRow : ByteArray := prog_2_method_20_code
def yX0_copyRow : MethodName := ⟨RX0, "copyRow", "(III)V"⟩
abbrev cX0_add : ByteArray := prog_2_method_21_code
def yX0_add : MethodName := ⟨RX0, "add", "(II)V"⟩
abbrev cX0_store : ByteArray := prog_2_method_22_code
def yX0_store : MethodName := ⟨RX0, "store", "(III)V"⟩
abbrev cX0_load : ByteArray := prog_2_method_23_code
def yX0_load : MethodName := ⟨RX0, "load", "(III)V"⟩
def RX1 : String := "WrittenBench$Mender"
def TX1 : u_T := fun k => match k with
  | 0 => ("WrittenBench$Mender", "program", "LWrittenBench$Program;", true)
  | 1 => ("WrittenBench$Mender", "plain", "LWrittenBench$Flow;", true)
  | 2 => ("WrittenBench$Mender", "other", "LWrittenBench$Flow;", true)
  | 3 => ("WrittenBench$Mender", "function", "[I", true)
  | 4 => ("WrittenBench$Mender", "cell", "[I", true)
  | 5 => ("WrittenBench$Mender", "waysTo", "[I", true)
  | 6 => ("WrittenBench$Mender", "mends", "I", false)
  | 7 => ("WrittenBench$Mender", "straightToUse", "I", false)
  | 8 => ("WrittenBench$Mender", "firstMends", "I", false)
  | 9 => ("WrittenBench$Mender", "cannotBeCut", "Z", false)
  | 10 => ("WrittenBench$Mender", "keptFunction", "[I", true)
  | 11 => ("WrittenBench$Mender", "keptCell", "[I", true)
  | _ => ("WrittenBench$Mender", "keptCount", "I", false)
def tyX1 : Nat → FieldType := fun k => match k with
  | 0 => .object "WrittenBench$Program"
  | 1 => .object "WrittenBench$Flow"
  | 2 => .object "WrittenBench$Flow"
  | 3 => .array .int
  | 4 => .array .int
  | 5 => .array .int
  | 6 => .int
  | 7 => .int
  | 8 => .int
  | 9 => .boolean
  | 10 => .array .int
  | 11 => .array .int
  | _ => .int
abbrev wsX10 : List Cond := u_ws RX1 TX1 13
theorem nmX1 : ∀ a, a < 13 → ∀ b, b < 13 → a ≠ b → (TX1 a).2.1 ≠ (TX1 b).2.1 := by decide +kernel
theorem tyX1_ok : ∀ k, k < 13 → parseFieldDescriptor (TX1 k).2.2.1 = some (tyX1 k) := by decide +kernel
abbrev cX1_init : ByteArray := prog_3_method_1_code
def yX1_init : MethodName := ⟨RX1, "<init>", "(LWrittenBench$Program;LWrittenBench$Flow;LWrittenBench$Flow;)V"⟩
abbrev cX1_gather : ByteArray := prog_3_method_2_code
def yX1_gather : MethodName := ⟨RX1, "gather", "()Z"⟩
abbrev cX1_find : ByteArray := prog_3_method_3_code
def yX1_find : MethodName := ⟨RX1, "find", "([I)I"⟩
abbrev cX1_canBeDone : ByteArray := prog_3_method_4_code
def yX1_canBeDone : MethodName := ⟨RX1, "canBeDone", "()Z"⟩
abbrev cX1_putSets : ByteArray := prog_3_method_5_code
def yX1_putSets : MethodName := ⟨RX1, "putSets", "()V"⟩
abbrev cX1_keptAt : ByteArray := prog_3_method_6_code
def yX1_keptAt : MethodName := ⟨RX1, "keptAt", "(I)I"⟩
abbrev cX1_leads : ByteArray := prog_3_method_7_code
def yX1_leads : MethodName := ⟨RX1, "leads", "(II)Z"⟩
abbrev cX1_followWays : ByteArray := prog_3_method_8_code
def yX1_followWays : MethodName := ⟨RX1, "followWays", "()V"⟩
abbrev cX1_doAllMends : ByteArray := prog_3_method_9_code
def yX1_doAllMends : MethodName := ⟨RX1, "doAllMends", "()V"⟩
abbrev cX1_mendsComeTo : ByteArray := prog_3_method_10_code
def yX1_mendsComeTo : MethodName := ⟨RX1, "mendsComeTo", "()I"⟩
abbrev cX1_cheapest : ByteArray := prog_3_method_11_code
def yX1_cheapest : MethodName := ⟨RX1, "cheapest", "([I)I"⟩
abbrev cX1_costOf : ByteArray := prog_3_method_12_code
def yX1_costOf : MethodName := ⟨RX1, "costOf", "(I[I)I"⟩
abbrev cX1_cutsAllWays : ByteArray := prog_3_method_13_code
def yX1_cutsAllWays : MethodName := ⟨RX1, "cutsAllWays", "(I)Z"⟩
abbrev cX1_keep : ByteArray := prog_3_method_14_code
def yX1_keep : MethodName := ⟨RX1, "keep", "(I)V"⟩
def RX2 : String := "WrittenBench$Program"
def TX2 : u_T := fun k => match k with
  | 0 => ("WrittenBench$Program", "length", "[I", true)
  | 1 => ("WrittenBench$Program", "op", "[I", true)
  | 2 => ("WrittenBench$Program", "a", "[I", true)
  | 3 => ("WrittenBench$Program", "b", "[I", true)
  | 4 => ("WrittenBench$Program", "c", "[I", true)
  | _ => ("WrittenBench$Program", "d", "[I", true)
def tyX2 : Nat → FieldType := fun k => match k with
  | 0 => .array .int
  | 1 => .array .int
  | 2 => .array .int
  | 3 => .array .int
  | 4 => .array .int
  | _ => .array .int
abbrev wsX20 : List Cond := u_ws RX2 TX2 6
theorem nmX2 : ∀ a, a < 6 → ∀ b, b < 6 → a ≠ b → (TX2 a).2.1 ≠ (TX2 b).2.1 := by decide +kernel
theorem tyX2_ok : ∀ k, k < 6 → parseFieldDescriptor (TX2 k).2.2.1 = some (tyX2 k) := by decide +kernel
abbrev cX2_init : ByteArray := prog_4_method_1_code
def yX2_init : MethodName := ⟨RX2, "<init>", "()V"⟩
abbrev cX2_has : ByteArray := prog_4_method_2_code
def yX2_has : MethodName := ⟨RX2, "has", "(II)Z"⟩
abbrev cX2_put : ByteArray := prog_4_method_3_code
def yX2_put : MethodName := ⟨RX2, "put", "(IIIIIII)V"⟩
abbrev cX2_putSetAhead : ByteArray := prog_4_method_4_code
def yX2_putSetAhead : MethodName := ⟨RX2, "putSetAhead", "(II)V"⟩
abbrev cX2_usedCell : ByteArray := prog_4_method_5_code
def yX2_usedCell : MethodName := ⟨RX2, "usedCell", "(I)I"⟩
abbrev cX2_skipsBelowZero : ByteArray := prog_4_method_6_code
def yX2_skipsBelowZero : MethodName := ⟨RX2, "skipsBelowZero", "(I)Z"⟩
def RX3 : String := "WrittenBench$Run"
def TX3 : u_T := fun k => match k with
  | 0 => ("WrittenBench$Run", "program", "LWrittenBench$Program;", true)
  | 1 => ("WrittenBench$Run", "input", "[I", true)
  | 2 => ("WrittenBench$Run", "inputCount", "I", false)
  | 3 => ("WrittenBench$Run", "openFunction", "[I", true)
  | 4 => ("WrittenBench$Run", "openPlace", "[I", true)
  | 5 => ("WrittenBench$Run", "open", "I", false)
  | 6 => ("WrittenBench$Run", "function", "I", false)
  | 7 => ("WrittenBench$Run", "place", "I", false)
  | 8 => ("WrittenBench$Run", "number", "[I", true)
  | 9 => ("WrittenBench$Run", "written", "I", false)
  | 10 => ("WrittenBench$Run", "done", "I", false)
  | 11 => ("WrittenBench$Run", "badUses", "I", false)
  | 12 => ("WrittenBench$Run", "firstBad", "I", false)
  | 13 => ("WrittenBench$Run", "prints", "I", false)
  | 14 => ("WrittenBench$Run", "kept", "[I", true)
  | 15 => ("WrittenBench$Run", "reads", "I", false)
  | 16 => ("WrittenBench$Run", "watched", "I", false)
  | _ => ("WrittenBench$Run", "watchedIsBad", "Z", false)
def tyX3 : Nat → FieldType := fun k => match k with
  | 0 => .object "WrittenBench$Program"
  | 1 => .array .int
  | 2 => .int
  | 3 => .array .int
  | 4 => .array .int
  | 5 => .int
  | 6 => .int
  | 7 => .int
  | 8 => .array .int
  | 9 => .int
  | 10 => .int
  | 11 => .int
  | 12 => .int
  | 13 => .int
  | 14 => .array .int
  | 15 => .int
  | 16 => .int
  | _ => .boolean
abbrev wsX30 : List Cond := u_ws RX3 TX3 18
theorem nmX3 : ∀ a, a < 18 → ∀ b, b < 18 → a ≠ b → (TX3 a).2.1 ≠ (TX3 b).2.1 := by decide +kernel
theorem tyX3_ok : ∀ k, k < 18 → parseFieldDescriptor (TX3 k).2.2.1 = some (tyX3 k) := by decide +kernel
abbrev cX3_init : ByteArray := prog_5_method_1_code
def yX3_init : MethodName := ⟨RX3, "<init>", "(LWrittenBench$Program;[I)V"⟩
abbrev cX3_go : ByteArray := prog_5_method_2_code
def yX3_go : MethodName := ⟨RX3, "go", "(I)I"⟩
abbrev cX3_startAnew : ByteArray := prog_5_method_3_code
def yX3_startAnew : MethodName := ⟨RX3, "startAnew", "()V"⟩
abbrev cX3_goBack : ByteArray := prog_5_method_4_code
def yX3_goBack : MethodName := ⟨RX3, "goBack", "()V"⟩
abbrev cX3_doOne : ByteArray := prog_5_method_5_code
def yX3_doOne : MethodName := ⟨RX3, "doOne", "()I"⟩
abbrev cX3_lookAtUse : ByteArray := prog_5_method_6_code
def yX3_lookAtUse : MethodName := ⟨RX3, "lookAtUse", "(I)V"⟩
abbrev cX3_keepPrint : ByteArray := prog_5_method_7_code
def yX3_keepPrint : MethodName := ⟨RX3, "keepPrint", "(I)V"⟩
abbrev cX3_store : ByteArray := prog_5_method_8_code
def yX3_store : MethodName := ⟨RX3, "store", "(I)I"⟩
abbrev cX3_load : ByteArray := prog_5_method_9_code
def yX3_load : MethodName := ⟨RX3, "load", "(I)I"⟩
abbrev cX3_enter : ByteArray := prog_5_method_10_code
def yX3_enter : MethodName := ⟨RX3, "enter", "(I)I"⟩
abbrev cX3_fill : ByteArray := prog_5_method_11_code
def yX3_fill : MethodName := ⟨RX3, "fill", "(I)V"⟩
abbrev cX3_nextOfInput : ByteArray := prog_5_method_12_code
def yX3_nextOfInput : MethodName := ⟨RX3, "nextOfInput", "()I"⟩
abbrev cX3_fillRow : ByteArray := prog_5_method_13_code
def yX3_fillRow : MethodName := ⟨RX3, "fillRow", "(IIIZ)V"⟩
abbrev cX3_copyRow : ByteArray := prog_5_method_14_code
def yX3_copyRow : MethodName := ⟨RX3, "copyRow", "(III)V"⟩
def RX4 : String := "WrittenBench"
def TX4 : u_T := fun k => match k with
  | 0 => ("WrittenBench", "program", "LWrittenBench$Program;", true)
  | 1 => ("WrittenBench", "coins", "[I", true)
  | 2 => ("WrittenBench", "numbers", "[I", true)
  | 3 => ("WrittenBench", "numberCount", "I", false)
  | 4 => ("WrittenBench", "latest", "LWrittenBench$Run;", true)
  | 5 => ("WrittenBench", "hasRun", "Z", false)
  | 6 => ("WrittenBench", "bits", "[I", true)
  | 7 => ("WrittenBench", "trial", "LWrittenBench$Run;", true)
  | 8 => ("WrittenBench", "readsOf", "[I", true)
  | 9 => ("WrittenBench", "plain", "LWrittenBench$Flow;", true)
  | 10 => ("WrittenBench", "plainIsFresh", "Z", false)
  | 11 => ("WrittenBench", "other", "LWrittenBench$Flow;", true)
  | 12 => ("WrittenBench", "kinds", "[I", true)
  | 13 => ("WrittenBench", "mender", "LWrittenBench$Mender;", true)
  | _ => ("WrittenBench", "mendsFit", "Z", false)
def tyX4 : Nat → FieldType := fun k => match k with
  | 0 => .object "WrittenBench$Program"
  | 1 => .array .int
  | 2 => .array .int
  | 3 => .int
  | 4 => .object "WrittenBench$Run"
  | 5 => .boolean
  | 6 => .array .int
  | 7 => .object "WrittenBench$Run"
  | 8 => .array .int
  | 9 => .object "WrittenBench$Flow"
  | 10 => .boolean
  | 11 => .object "WrittenBench$Flow"
  | 12 => .array .int
  | 13 => .object "WrittenBench$Mender"
  | _ => .boolean
abbrev wsX40 : List Cond := u_ws RX4 TX4 15
theorem nmX4 : ∀ a, a < 15 → ∀ b, b < 15 → a ≠ b → (TX4 a).2.1 ≠ (TX4 b).2.1 := by decide +kernel
theorem tyX4_ok : ∀ k, k < 15 → parseFieldDescriptor (TX4 k).2.2.1 = some (tyX4 k) := by decide +kernel
abbrev cX4_init : ByteArray := prog_1_method_1_code
def yX4_init : MethodName := ⟨RX4, "<init>", "()V"⟩
abbrev cX4_code : ByteArray := prog_1_method_2_code
def yX4_code : MethodName := ⟨RX4, "code", "(IIIIII)I"⟩
abbrev cX4_change : ByteArray := prog_1_method_3_code
def yX4_change : MethodName := ⟨RX4, "change", "(IIIIIII)Z"⟩
abbrev cX4_clear : ByteArray := prog_1_method_4_code
def yX4_clear : MethodName := ⟨RX4, "clear", "(I)I"⟩
abbrev cX4_input : ByteArray := prog_1_method_5_code
def yX4_input : MethodName := ⟨RX4, "input", "(I)I"⟩
abbrev cX4_empty : ByteArray := prog_1_method_6_code
def yX4_empty : MethodName := ⟨RX4, "empty", "()I"⟩
abbrev cX4_run : ByteArray := prog_1_method_7_code
def yX4_run : MethodName := ⟨RX4, "run", "()I"⟩
abbrev cX4_ran : ByteArray := prog_1_method_8_code
def yX4_ran : MethodName := ⟨RX4, "ran", "(I)I"⟩
abbrev cX4_printed : ByteArray := prog_1_method_9_code
def yX4_printed : MethodName := ⟨RX4, "printed", "(I)I"⟩
abbrev cX4_cell : ByteArray := prog_1_method_10_code
def yX4_cell : MethodName := ⟨RX4, "cell", "(II)I"⟩
abbrev cX4_flow : ByteArray := prog_1_method_11_code
def yX4_flow : MethodName := ⟨RX4, "flow", "()I"⟩
abbrev cX4_bad : ByteArray := prog_1_method_12_code
def yX4_bad : MethodName := ⟨RX4, "bad", "(II)I"⟩
abbrev cX4_state : ByteArray := prog_1_method_13_code
def yX4_state : MethodName := ⟨RX4, "state", "(III)I"⟩
abbrev cX4_witness : ByteArray := prog_1_method_14_code
def yX4_witness : MethodName := ⟨RX4, "witness", "(III)I"⟩
abbrev cX4_needs : ByteArray := prog_1_method_15_code
def yX4_needs : MethodName := ⟨RX4, "needs", "(I)I"⟩
abbrev cX4_writes : ByteArray := prog_1_method_16_code
def yX4_writes : MethodName := ⟨RX4, "writes", "(I)I"⟩
abbrev cX4_cost : ByteArray := prog_1_method_17_code
def yX4_cost : MethodName := ⟨RX4, "cost", "(II)I"⟩
abbrev cX4_mend : ByteArray := prog_1_method_18_code
def yX4_mend : MethodName := ⟨RX4, "mend", "()I"⟩
abbrev cX4_mended : ByteArray := prog_1_method_19_code
def yX4_mended : MethodName := ⟨RX4, "mended", "(II)I"⟩
abbrev cX4_apply : ByteArray := prog_1_method_20_code
def yX4_apply : MethodName := ⟨RX4, "apply", "()Z"⟩
abbrev cX4_count : ByteArray := prog_1_method_21_code
def yX4_count : MethodName := ⟨RX4, "count", "(I)I"⟩
abbrev cX4_programIsAnother : ByteArray := prog_1_method_22_code
def yX4_programIsAnother : MethodName := ⟨RX4, "programIsAnother", "()V"⟩
abbrev cX4_freshen : ByteArray := prog_1_method_23_code
def yX4_freshen : MethodName := ⟨RX4, "freshen", "()V"⟩
abbrev cX4_leastWitness : ByteArray := prog_1_method_24_code
def yX4_leastWitness : MethodName := ⟨RX4, "leastWitness", "(II)I"⟩
abbrev cX4_showsBad : ByteArray := prog_1_method_25_code
def yX4_showsBad : MethodName := ⟨RX4, "showsBad", "(II)Z"⟩
abbrev cX4_isFunction : ByteArray := prog_1_method_26_code
def yX4_isFunction : MethodName := ⟨RX4, "isFunction", "(I)Z"⟩
abbrev cX4_isCell : ByteArray := prog_1_method_27_code
def yX4_isCell : MethodName := ⟨RX4, "isCell", "(I)Z"⟩
abbrev cX4_isRow : ByteArray := prog_1_method_28_code
def yX4_isRow : MethodName := ⟨RX4, "isRow", "(II)Z"⟩
abbrev cX4_isAsTold : ByteArray := prog_1_method_29_code
def yX4_isAsTold : MethodName := ⟨RX4, "isAsTold", "(IIIII)Z"⟩
abbrev cX4_locate : ByteArray := prog_1_method_30_code
def yX4_locate : MethodName := ⟨RX4, "locate", "(II)I"⟩
abbrev cX4_functionAt : ByteArray := prog_1_method_31_code
def yX4_functionAt : MethodName := ⟨RX4, "functionAt", "(I)I"⟩
abbrev cX4_instructionAt : ByteArray := prog_1_method_32_code
def yX4_instructionAt : MethodName := ⟨RX4, "instructionAt", "(I)I"⟩
abbrev cX4_hasBit : ByteArray := prog_1_method_33_code
def yX4_hasBit : MethodName := ⟨RX4, "hasBit", "(II)Z"⟩
abbrev cX4_rowOf : ByteArray := prog_1_method_34_code
def yX4_rowOf : MethodName := ⟨RX4, "rowOf", "(II)I"⟩
abbrev cX4_withRowCopied : ByteArray := prog_1_method_35_code
def yX4_withRowCopied : MethodName := ⟨RX4, "withRowCopied", "(IIII)I"⟩
abbrev cX4_withBit : ByteArray := prog_1_method_36_code
def yX4_withBit : MethodName := ⟨RX4, "withBit", "(IIZ)I"⟩
def RX5 : String := "WrittenBenchModel"
def TX5 : u_T := fun k => match k with
  | 0 => ("WrittenBenchModel", "code", "[I", true)
  | 1 => ("WrittenBenchModel", "length", "[I", true)
  | 2 => ("WrittenBenchModel", "cost", "[I", true)
  | 3 => ("WrittenBenchModel", "input", "[I", true)
  | 4 => ("WrittenBenchModel", "inputMany", "I", false)
  | 5 => ("WrittenBenchModel", "isChanged", "Z", false)
  | 6 => ("WrittenBenchModel", "number", "[I", true)
  | 7 => ("WrittenBenchModel", "isWritten", "[Z", true)
  | 8 => ("WrittenBenchModel", "openFunction", "[I", true)
  | 9 => ("WrittenBenchModel", "openAt", "[I", true)
  | 10 => ("WrittenBenchModel", "steps", "I", false)
  | 11 => ("WrittenBenchModel", "bads", "I", false)
  | 12 => ("WrittenBenchModel", "firstFunction", "I", false)
  | 13 => ("WrittenBenchModel", "firstAt", "I", false)
  | 14 => ("WrittenBenchModel", "printedMany", "I", false)
  | 15 => ("WrittenBenchModel", "printed", "[I", true)
  | 16 => ("WrittenBenchModel", "bits", "I", false)
  | 17 => ("WrittenBenchModel", "bitMany", "I", false)
  | 18 => ("WrittenBenchModel", "taken", "I", false)
  | 19 => ("WrittenBenchModel", "soughtFunction", "I", false)
  | 20 => ("WrittenBenchModel", "soughtAt", "I", false)
  | 21 => ("WrittenBenchModel", "isFound", "Z", false)
  | 22 => ("WrittenBenchModel", "movedNumber", "[I", true)
  | 23 => ("WrittenBenchModel", "movedWritten", "[Z", true)
  | 24 => ("WrittenBenchModel", "hasRun", "Z", false)
  | 25 => ("WrittenBenchModel", "ranSteps", "I", false)
  | 26 => ("WrittenBenchModel", "ranBads", "I", false)
  | 27 => ("WrittenBenchModel", "ranFunction", "I", false)
  | 28 => ("WrittenBenchModel", "ranAt", "I", false)
  | 29 => ("WrittenBenchModel", "ranPrinted", "I", false)
  | 30 => ("WrittenBenchModel", "toldPrinted", "[I", true)
  | 31 => ("WrittenBenchModel", "toldNumber", "[I", true)
  | 32 => ("WrittenBenchModel", "toldWritten", "[Z", true)
  | 33 => ("WrittenBenchModel", "isCome", "[Z", true)
  | 34 => ("WrittenBenchModel", "may", "[I", true)
  | 35 => ("WrittenBenchModel", "mayNot", "[I", true)
  | 36 => ("WrittenBenchModel", "isBack", "[Z", true)
  | 37 => ("WrittenBenchModel", "backMay", "[I", true)
  | 38 => ("WrittenBenchModel", "backNot", "[I", true)
  | 39 => ("WrittenBenchModel", "mended", "[I", true)
  | 40 => ("WrittenBenchModel", "grows", "Z", false)
  | 41 => ("WrittenBenchModel", "w", "I", false)
  | 42 => ("WrittenBenchModel", "u", "I", false)
  | 43 => ("WrittenBenchModel", "enterMay", "[I", true)
  | 44 => ("WrittenBenchModel", "enterNot", "[I", true)
  | 45 => ("WrittenBenchModel", "kindThen", "[I", true)
  | 46 => ("WrittenBenchModel", "many", "I", false)
  | 47 => ("WrittenBenchModel", "mendFunction", "[I", true)
  | 48 => ("WrittenBenchModel", "mendCell", "[I", true)
  | 49 => ("WrittenBenchModel", "lead", "[I", true)
  | 50 => ("WrittenBenchModel", "leadBack", "[I", true)
  | 51 => ("WrittenBenchModel", "leadGrows", "Z", false)
  | 52 => ("WrittenBenchModel", "hasMended", "Z", false)
  | 53 => ("WrittenBenchModel", "toldMany", "I", false)
  | 54 => ("WrittenBenchModel", "toldFunction", "[I", true)
  | _ => ("WrittenBenchModel", "toldCell", "[I", true)
def tyX5 : Nat → FieldType := fun k => match k with
  | 0 => .array .int
  | 1 => .array .int
  | 2 => .array .int
  | 3 => .array .int
  | 4 => .int
  | 5 => .boolean
  | 6 => .array .int
  | 7 => .array .boolean
  | 8 => .array .int
  | 9 => .array .int
  | 10 => .int
  | 11 => .int
  | 12 => .int
  | 13 => .int
  | 14 => .int
  | 15 => .array .int
  | 16 => .int
  | 17 => .int
  | 18 => .int
  | 19 => .int
  | 20 => .int
  | 21 => .boolean
  | 22 => .array .int
  | 23 => .array .boolean
  | 24 => .boolean
  | 25 => .int
  | 26 => .int
  | 27 => .int
  | 28 => .int
  | 29 => .int
  | 30 => .array .int
  | 31 => .array .int
  | 32 => .array .boolean
  | 33 => .array .boolean
  | 34 => .array .int
  | 35 => .array .int
  | 36 => .array .boolean
  | 37 => .array .int
  | 38 => .array .int
  | 39 => .array .int
  | 40 => .boolean
  | 41 => .int
  | 42 => .int
  | 43 => .array .int
  | 44 => .array .int
  | 45 => .array .int
  | 46 => .int
  | 47 => .array .int
  | 48 => .array .int
  | 49 => .array .int
  | 50 => .array .int
  | 51 => .boolean
  | 52 => .boolean
  | 53 => .int
  | 54 => .array .int
  | _ => .array .int
abbrev wsX50 : List Cond := u_ws RX5 TX5 56
theorem nmX5 : ∀ a, a < 56 → ∀ b, b < 56 → a ≠ b → (TX5 a).2.1 ≠ (TX5 b).2.1 := by decide +kernel
theorem tyX5_ok : ∀ k, k < 56 → parseFieldDescriptor (TX5 k).2.2.1 = some (tyX5 k) := by decide +kernel
abbrev cX5_init : ByteArray := prog_7_method_1_code
def yX5_init : MethodName := ⟨RX5, "<init>", "()V"⟩
abbrev cX5_in : ByteArray := prog_7_method_2_code
def yX5_in : MethodName := ⟨RX5, "in", "(III)Z"⟩
abbrev cX5_isFunction : ByteArray := prog_7_method_3_code
def yX5_isFunction : MethodName := ⟨RX5, "isFunction", "(I)Z"⟩
abbrev cX5_isCell : ByteArray := prog_7_method_4_code
def yX5_isCell : MethodName := ⟨RX5, "isCell", "(I)Z"⟩
abbrev cX5_isRow : ByteArray := prog_7_method_5_code
def yX5_isRow : MethodName := ⟨RX5, "isRow", "(II)Z"⟩
abbrev cX5_isGood : ByteArray := prog_7_method_6_code
def yX5_isGood : MethodName := ⟨RX5, "isGood", "(IIIII)Z"⟩
abbrev cX5_puts : ByteArray := prog_7_method_7_code
def yX5_puts : MethodName := ⟨RX5, "puts", "(IIIIIII)V"⟩
abbrev cX5_code : ByteArray := prog_7_method_8_code
def yX5_code : MethodName := ⟨RX5, "code", "(IIIIII)I"⟩
abbrev cX5_change : ByteArray := prog_7_method_9_code
def yX5_change : MethodName := ⟨RX5, "change", "(IIIIIII)Z"⟩
abbrev cX5_clear : ByteArray := prog_7_method_10_code
def yX5_clear : MethodName := ⟨RX5, "clear", "(I)I"⟩
abbrev cX5_input : ByteArray := prog_7_method_11_code
def yX5_input : MethodName := ⟨RX5, "input", "(I)I"⟩
abbrev cX5_empty : ByteArray := prog_7_method_12_code
def yX5_empty : MethodName := ⟨RX5, "empty", "()I"⟩
abbrev cX5_reads : ByteArray := prog_7_method_13_code
def yX5_reads : MethodName := ⟨RX5, "reads", "()I"⟩
abbrev cX5_uses : ByteArray := prog_7_method_14_code
def yX5_uses : MethodName := ⟨RX5, "uses", "(III)V"⟩
abbrev cX5_placed : ByteArray := prog_7_method_15_code
def yX5_placed : MethodName := ⟨RX5, "placed", "(II)I"⟩
abbrev cX5_copies : ByteArray := prog_7_method_16_code
def yX5_copies : MethodName := ⟨RX5, "copies", "(III)V"⟩
abbrev cX5_fills : ByteArray := prog_7_method_17_code
def yX5_fills : MethodName := ⟨RX5, "fills", "(IIIZ)V"⟩
abbrev cX5_does : ByteArray := prog_7_method_18_code
def yX5_does : MethodName := ⟨RX5, "does", "(II)Z"⟩
abbrev cX5_runs : ByteArray := prog_7_method_19_code
def yX5_runs : MethodName := ⟨RX5, "runs", "()I"⟩
abbrev cX5_run : ByteArray := prog_7_method_20_code
def yX5_run : MethodName := ⟨RX5, "run", "()I"⟩
abbrev cX5_ran : ByteArray := prog_7_method_21_code
def yX5_ran : MethodName := ⟨RX5, "ran", "(I)I"⟩
abbrev cX5_printed : ByteArray := prog_7_method_22_code
def yX5_printed : MethodName := ⟨RX5, "printed", "(I)I"⟩
abbrev cX5_cell : ByteArray := prog_7_method_23_code
def yX5_cell : MethodName := ⟨RX5, "cell", "(II)I"⟩
abbrev cX5_witness : ByteArray := prog_7_method_24_code
def yX5_witness : MethodName := ⟨RX5, "witness", "(III)I"⟩
abbrev cX5_goes : ByteArray := prog_7_method_25_code
def yX5_goes : MethodName := ⟨RX5, "goes", "(II)V"⟩
abbrev cX5_begins : ByteArray := prog_7_method_26_code
def yX5_begins : MethodName := ⟨RX5, "begins", "(I)V"⟩
abbrev cX5_returns : ByteArray := prog_7_method_27_code
def yX5_returns : MethodName := ⟨RX5, "returns", "(I)V"⟩
abbrev cX5_row : ByteArray := prog_7_method_28_code
def yX5_row : MethodName := ⟨RX5, "row", "(II)I"⟩
abbrev cX5_sets : ByteArray := prog_7_method_29_code
def yX5_sets : MethodName := ⟨RX5, "sets", "(IIZZ)V"⟩
abbrev cX5_has : ByteArray := prog_7_method_30_code
def yX5_has : MethodName := ⟨RX5, "has", "(II)Z"⟩
abbrev cX5_changes : ByteArray := prog_7_method_31_code
def yX5_changes : MethodName := ⟨RX5, "changes", "(II)Z"⟩
abbrev cX5_flows : ByteArray := prog_7_method_32_code
def yX5_flows : MethodName := ⟨RX5, "flows", "(III)V"⟩
abbrev cX5_used : ByteArray := prog_7_method_33_code
def yX5_used : MethodName := ⟨RX5, "used", "(II)I"⟩
abbrev cX5_isBad : ByteArray := prog_7_method_34_code
def yX5_isBad : MethodName := ⟨RX5, "isBad", "(II)Z"⟩
abbrev cX5_badMany : ByteArray := prog_7_method_35_code
def yX5_badMany : MethodName := ⟨RX5, "badMany", "()I"⟩
abbrev cX5_unmends : ByteArray := prog_7_method_36_code
def yX5_unmends : MethodName := ⟨RX5, "unmends", "()V"⟩
abbrev cX5_flowsPlain : ByteArray := prog_7_method_37_code
def yX5_flowsPlain : MethodName := ⟨RX5, "flowsPlain", "()V"⟩
abbrev cX5_flow : ByteArray := prog_7_method_38_code
def yX5_flow : MethodName := ⟨RX5, "flow", "()I"⟩
abbrev cX5_bad : ByteArray := prog_7_method_39_code
def yX5_bad : MethodName := ⟨RX5, "bad", "(II)I"⟩
abbrev cX5_state : ByteArray := prog_7_method_40_code
def yX5_state : MethodName := ⟨RX5, "state", "(III)I"⟩
abbrev cX5_kindOf : ByteArray := prog_7_method_41_code
def yX5_kindOf : MethodName := ⟨RX5, "kindOf", "(II)I"⟩
abbrev cX5_needs : ByteArray := prog_7_method_42_code
def yX5_needs : MethodName := ⟨RX5, "needs", "(I)I"⟩
abbrev cX5_writes : ByteArray := prog_7_method_43_code
def yX5_writes : MethodName := ⟨RX5, "writes", "(I)I"⟩
abbrev cX5_cost : ByteArray := prog_7_method_44_code
def yX5_cost : MethodName := ⟨RX5, "cost", "(II)I"⟩
abbrev cX5_leads : ByteArray := prog_7_method_45_code
def yX5_leads : MethodName := ⟨RX5, "leads", "(III)V"⟩
abbrev cX5_left : ByteArray := prog_7_method_46_code
def yX5_left : MethodName := ⟨RX5, "left", "(III)I"⟩
abbrev cX5_leadsOn : ByteArray := prog_7_method_47_code
def yX5_leadsOn : MethodName := ⟨RX5, "leadsOn", "(II)V"⟩
abbrev cX5_counts : ByteArray := prog_7_method_48_code
def yX5_counts : MethodName := ⟨RX5, "counts", "(II)Z"⟩
abbrev cX5_looksFor : ByteArray := prog_7_method_49_code
def yX5_looksFor : MethodName := ⟨RX5, "looksFor", "()Z"⟩
abbrev cX5_mend : ByteArray := prog_7_method_50_code
def yX5_mend : MethodName := ⟨RX5, "mend", "()I"⟩
abbrev cX5_mended : ByteArray := prog_7_method_51_code
def yX5_mended : MethodName := ⟨RX5, "mended", "(II)I"⟩
abbrev cX5_skipsBelow : ByteArray := prog_7_method_52_code
def yX5_skipsBelow : MethodName := ⟨RX5, "skipsBelow", "(I)Z"⟩
abbrev cX5_apply : ByteArray := prog_7_method_53_code
def yX5_apply : MethodName := ⟨RX5, "apply", "()Z"⟩
abbrev cX5_count : ByteArray := prog_7_method_54_code
def yX5_count : MethodName := ⟨RX5, "count", "(I)I"⟩
def RJ6 : String := "java/lang/Integer"
def TJ6 : u_T := fun k => match k with
  | _ => ("", "", "", false)
def tyJ6 : Nat → FieldType := fun k => match k with
  | _ => .int
abbrev wsJ60 : List Cond := u_ws RJ6 TJ6 0
abbrev cJ6_bitCount_0f7a4 : ByteArray := prog_8_method_49_code
def yJ6_bitCount_0f7a4 : MethodName := ⟨RJ6, "bitCount", "(I)I"⟩
def RJ10 : String := "java/lang/System"
def TJ10 : u_T := fun k => match k with
  | _ => ("", "", "", false)
def tyJ10 : Nat → FieldType := fun k => match k with
  | _ => .int
abbrev wsJ100 : List Cond := u_ws RJ10 TJ10 0
def RL : String := "WrittenBenchLaw"
abbrev cL_law : ByteArray := code
def yL_law : MethodName := ⟨RL, "law", "([I)Z"⟩
