section
-- ===== PART A: goes FIRST, ahead of the names: the tables' words, and 'selects' of the private methods out of them =====
/-- a private method of a class that the tables say can be made, by its rows of tables_1 -/
def lw_okq (q : MethodName × Nat) : Prop := (q.1.cls ≠ "java/lang/invoke/MethodHandle" ∧ q.1.cls ≠ "java/lang/invoke/VarHandle") ∧ Cond.instantiable q.1.cls q.2 ∈ tables_1 ∧ Cond.privateMethod q.1 ∈ tables_1 ∧ Cond.instanceMethod q.1 ∈ tables_1
theorem lw_p0 : lw_okq (⟨"WrittenBench", "programIsAnother", "()V"⟩, 15) := ⟨⟨by decide +kernel, by decide +kernel⟩, List.mem_of_getElem? (i := 10) (by decide +kernel), List.mem_of_getElem? (i := 300) (by decide +kernel), List.mem_of_getElem? (i := 301) (by decide +kernel)⟩
theorem lw_p1 : lw_okq (⟨"WrittenBench$Run", "startAnew", "()V"⟩, 18) := ⟨⟨by decide +kernel, by decide +kernel⟩, List.mem_of_getElem? (i := 57) (by decide +kernel), List.mem_of_getElem? (i := 333) (by decide +kernel), List.mem_of_getElem? (i := 334) (by decide +kernel)⟩
theorem lw_p2 : lw_okq (⟨"WrittenBench$Run", "doOne", "()I"⟩, 18) := ⟨⟨by decide +kernel, by decide +kernel⟩, List.mem_of_getElem? (i := 57) (by decide +kernel), List.mem_of_getElem? (i := 338) (by decide +kernel), List.mem_of_getElem? (i := 339) (by decide +kernel)⟩
theorem lw_p3 : lw_okq (⟨"WrittenBench$Run", "lookAtUse", "(I)V"⟩, 18) := ⟨⟨by decide +kernel, by decide +kernel⟩, List.mem_of_getElem? (i := 57) (by decide +kernel), List.mem_of_getElem? (i := 343) (by decide +kernel), List.mem_of_getElem? (i := 344) (by decide +kernel)⟩
theorem lw_p4 : lw_okq (⟨"WrittenBench$Run", "keepPrint", "(I)V"⟩, 18) := ⟨⟨by decide +kernel, by decide +kernel⟩, List.mem_of_getElem? (i := 57) (by decide +kernel), List.mem_of_getElem? (i := 354) (by decide +kernel), List.mem_of_getElem? (i := 355) (by decide +kernel)⟩
theorem lw_p5 : lw_okq (⟨"WrittenBench$Run", "store", "(I)I"⟩, 18) := ⟨⟨by decide +kernel, by decide +kernel⟩, List.mem_of_getElem? (i := 57) (by decide +kernel), List.mem_of_getElem? (i := 358) (by decide +kernel), List.mem_of_getElem? (i := 359) (by decide +kernel)⟩
theorem lw_p6 : lw_okq (⟨"WrittenBench$Run", "copyRow", "(III)V"⟩, 18) := ⟨⟨by decide +kernel, by decide +kernel⟩, List.mem_of_getElem? (i := 57) (by decide +kernel), List.mem_of_getElem? (i := 362) (by decide +kernel), List.mem_of_getElem? (i := 363) (by decide +kernel)⟩
theorem lw_p7 : lw_okq (⟨"WrittenBench$Run", "load", "(I)I"⟩, 18) := ⟨⟨by decide +kernel, by decide +kernel⟩, List.mem_of_getElem? (i := 57) (by decide +kernel), List.mem_of_getElem? (i := 372) (by decide +kernel), List.mem_of_getElem? (i := 373) (by decide +kernel)⟩
theorem lw_p8 : lw_okq (⟨"WrittenBench$Run", "enter", "(I)I"⟩, 18) := ⟨⟨by decide +kernel, by decide +kernel⟩, List.mem_of_getElem? (i := 57) (by decide +kernel), List.mem_of_getElem? (i := 376) (by decide +kernel), List.mem_of_getElem? (i := 377) (by decide +kernel)⟩
theorem lw_p9 : lw_okq (⟨"WrittenBench$Run", "fill", "(I)V"⟩, 18) := ⟨⟨by decide +kernel, by decide +kernel⟩, List.mem_of_getElem? (i := 57) (by decide +kernel), List.mem_of_getElem? (i := 380) (by decide +kernel), List.mem_of_getElem? (i := 381) (by decide +kernel)⟩
theorem lw_p10 : lw_okq (⟨"WrittenBench$Run", "fillRow", "(IIIZ)V"⟩, 18) := ⟨⟨by decide +kernel, by decide +kernel⟩, List.mem_of_getElem? (i := 57) (by decide +kernel), List.mem_of_getElem? (i := 384) (by decide +kernel), List.mem_of_getElem? (i := 385) (by decide +kernel)⟩
theorem lw_p11 : lw_okq (⟨"WrittenBench$Run", "nextOfInput", "()I"⟩, 18) := ⟨⟨by decide +kernel, by decide +kernel⟩, List.mem_of_getElem? (i := 57) (by decide +kernel), List.mem_of_getElem? (i := 391) (by decide +kernel), List.mem_of_getElem? (i := 392) (by decide +kernel)⟩
theorem lw_p12 : lw_okq (⟨"WrittenBench$Run", "goBack", "()V"⟩, 18) := ⟨⟨by decide +kernel, by decide +kernel⟩, List.mem_of_getElem? (i := 57) (by decide +kernel), List.mem_of_getElem? (i := 395) (by decide +kernel), List.mem_of_getElem? (i := 396) (by decide +kernel)⟩
theorem lw_p13 : lw_okq (⟨"WrittenBench", "freshen", "()V"⟩, 15) := ⟨⟨by decide +kernel, by decide +kernel⟩, List.mem_of_getElem? (i := 10) (by decide +kernel), List.mem_of_getElem? (i := 428) (by decide +kernel), List.mem_of_getElem? (i := 429) (by decide +kernel)⟩
theorem lw_p14 : lw_okq (⟨"WrittenBench$Flow", "forget", "()V"⟩, 14) := ⟨⟨by decide +kernel, by decide +kernel⟩, List.mem_of_getElem? (i := 128) (by decide +kernel), List.mem_of_getElem? (i := 437) (by decide +kernel), List.mem_of_getElem? (i := 438) (by decide +kernel)⟩
theorem lw_p15 : lw_okq (⟨"WrittenBench$Flow", "come", "(III)V"⟩, 14) := ⟨⟨by decide +kernel, by decide +kernel⟩, List.mem_of_getElem? (i := 128) (by decide +kernel), List.mem_of_getElem? (i := 442) (by decide +kernel), List.mem_of_getElem? (i := 443) (by decide +kernel)⟩
def lw_privs_1 : List (MethodName × Nat) := [(⟨"WrittenBench", "programIsAnother", "()V"⟩, 15), (⟨"WrittenBench$Run", "startAnew", "()V"⟩, 18), (⟨"WrittenBench$Run", "doOne", "()I"⟩, 18), (⟨"WrittenBench$Run", "lookAtUse", "(I)V"⟩, 18), (⟨"WrittenBench$Run", "keepPrint", "(I)V"⟩, 18), (⟨"WrittenBench$Run", "store", "(I)I"⟩, 18), (⟨"WrittenBench$Run", "copyRow", "(III)V"⟩, 18), (⟨"WrittenBench$Run", "load", "(I)I"⟩, 18), (⟨"WrittenBench$Run", "enter", "(I)I"⟩, 18), (⟨"WrittenBench$Run", "fill", "(I)V"⟩, 18), (⟨"WrittenBench$Run", "fillRow", "(IIIZ)V"⟩, 18), (⟨"WrittenBench$Run", "nextOfInput", "()I"⟩, 18), (⟨"WrittenBench$Run", "goBack", "()V"⟩, 18), (⟨"WrittenBench", "freshen", "()V"⟩, 15), (⟨"WrittenBench$Flow", "forget", "()V"⟩, 14), (⟨"WrittenBench$Flow", "come", "(III)V"⟩, 14)]
theorem lw_r1 : ∀ q ∈ lw_privs_1, lw_okq q := List.forall_mem_cons.mpr ⟨lw_p0, List.forall_mem_cons.mpr ⟨lw_p1, List.forall_mem_cons.mpr ⟨lw_p2, List.forall_mem_cons.mpr ⟨lw_p3, List.forall_mem_cons.mpr ⟨lw_p4, List.forall_mem_cons.mpr ⟨lw_p5, List.forall_mem_cons.mpr ⟨lw_p6, List.forall_mem_cons.mpr ⟨lw_p7, List.forall_mem_cons.mpr ⟨lw_p8, List.forall_mem_cons.mpr ⟨lw_p9, List.forall_mem_cons.mpr ⟨lw_p10, List.forall_mem_cons.mpr ⟨lw_p11, List.forall_mem_cons.mpr ⟨lw_p12, List.forall_mem_cons.mpr ⟨lw_p13, List.forall_mem_cons.mpr ⟨lw_p14, List.forall_mem_cons.mpr ⟨lw_p15, fun _ h => absurd h List.not_mem_nil⟩⟩⟩⟩⟩⟩⟩⟩⟩⟩⟩⟩⟩⟩⟩⟩
theorem lw_p16 : lw_okq (⟨"WrittenBench$Flow", "join", "(IIII)V"⟩, 14) := ⟨⟨by decide +kernel, by decide +kernel⟩, List.mem_of_getElem? (i := 128) (by decide +kernel), List.mem_of_getElem? (i := 446) (by decide +kernel), List.mem_of_getElem? (i := 447) (by decide +kernel)⟩
theorem lw_p17 : lw_okq (⟨"WrittenBench$Flow", "takeOn", "(II)V"⟩, 14) := ⟨⟨by decide +kernel, by decide +kernel⟩, List.mem_of_getElem? (i := 128) (by decide +kernel), List.mem_of_getElem? (i := 451) (by decide +kernel), List.mem_of_getElem? (i := 452) (by decide +kernel)⟩
theorem lw_p18 : lw_okq (⟨"WrittenBench$Flow", "leave", "(III)V"⟩, 14) := ⟨⟨by decide +kernel, by decide +kernel⟩, List.mem_of_getElem? (i := 128) (by decide +kernel), List.mem_of_getElem? (i := 456) (by decide +kernel), List.mem_of_getElem? (i := 457) (by decide +kernel)⟩
theorem lw_p19 : lw_okq (⟨"WrittenBench$Flow", "isComeTo", "(II)Z"⟩, 14) := ⟨⟨by decide +kernel, by decide +kernel⟩, List.mem_of_getElem? (i := 128) (by decide +kernel), List.mem_of_getElem? (i := 460) (by decide +kernel), List.mem_of_getElem? (i := 461) (by decide +kernel)⟩
theorem lw_p20 : lw_okq (⟨"WrittenBench$Flow", "fill", "(I)V"⟩, 14) := ⟨⟨by decide +kernel, by decide +kernel⟩, List.mem_of_getElem? (i := 128) (by decide +kernel), List.mem_of_getElem? (i := 464) (by decide +kernel), List.mem_of_getElem? (i := 465) (by decide +kernel)⟩
theorem lw_p21 : lw_okq (⟨"WrittenBench$Flow", "fillRow", "(IIZ)V"⟩, 14) := ⟨⟨by decide +kernel, by decide +kernel⟩, List.mem_of_getElem? (i := 128) (by decide +kernel), List.mem_of_getElem? (i := 468) (by decide +kernel), List.mem_of_getElem? (i := 469) (by decide +kernel)⟩
theorem lw_p22 : lw_okq (⟨"WrittenBench$Flow", "copyRow", "(III)V"⟩, 14) := ⟨⟨by decide +kernel, by decide +kernel⟩, List.mem_of_getElem? (i := 128) (by decide +kernel), List.mem_of_getElem? (i := 475) (by decide +kernel), List.mem_of_getElem? (i := 476) (by decide +kernel)⟩
theorem lw_p23 : lw_okq (⟨"WrittenBench$Flow", "add", "(II)V"⟩, 14) := ⟨⟨by decide +kernel, by decide +kernel⟩, List.mem_of_getElem? (i := 128) (by decide +kernel), List.mem_of_getElem? (i := 480) (by decide +kernel), List.mem_of_getElem? (i := 481) (by decide +kernel)⟩
theorem lw_p24 : lw_okq (⟨"WrittenBench$Flow", "store", "(III)V"⟩, 14) := ⟨⟨by decide +kernel, by decide +kernel⟩, List.mem_of_getElem? (i := 128) (by decide +kernel), List.mem_of_getElem? (i := 486) (by decide +kernel), List.mem_of_getElem? (i := 487) (by decide +kernel)⟩
theorem lw_p25 : lw_okq (⟨"WrittenBench$Flow", "load", "(III)V"⟩, 14) := ⟨⟨by decide +kernel, by decide +kernel⟩, List.mem_of_getElem? (i := 128) (by decide +kernel), List.mem_of_getElem? (i := 490) (by decide +kernel), List.mem_of_getElem? (i := 491) (by decide +kernel)⟩
theorem lw_p26 : lw_okq (⟨"WrittenBench", "leastWitness", "(II)I"⟩, 15) := ⟨⟨by decide +kernel, by decide +kernel⟩, List.mem_of_getElem? (i := 10) (by decide +kernel), List.mem_of_getElem? (i := 526) (by decide +kernel), List.mem_of_getElem? (i := 527) (by decide +kernel)⟩
theorem lw_p27 : lw_okq (⟨"WrittenBench", "showsBad", "(II)Z"⟩, 15) := ⟨⟨by decide +kernel, by decide +kernel⟩, List.mem_of_getElem? (i := 10) (by decide +kernel), List.mem_of_getElem? (i := 530) (by decide +kernel), List.mem_of_getElem? (i := 531) (by decide +kernel)⟩
theorem lw_p28 : lw_okq (⟨"WrittenBench$Mender", "leads", "(II)Z"⟩, 13) := ⟨⟨by decide +kernel, by decide +kernel⟩, List.mem_of_getElem? (i := 182) (by decide +kernel), List.mem_of_getElem? (i := 567) (by decide +kernel), List.mem_of_getElem? (i := 568) (by decide +kernel)⟩
theorem lw_p29 : lw_okq (⟨"WrittenBench$Mender", "followWays", "()V"⟩, 13) := ⟨⟨by decide +kernel, by decide +kernel⟩, List.mem_of_getElem? (i := 182) (by decide +kernel), List.mem_of_getElem? (i := 582) (by decide +kernel), List.mem_of_getElem? (i := 583) (by decide +kernel)⟩
theorem lw_p30 : lw_okq (⟨"WrittenBench$Mender", "doAllMends", "()V"⟩, 13) := ⟨⟨by decide +kernel, by decide +kernel⟩, List.mem_of_getElem? (i := 182) (by decide +kernel), List.mem_of_getElem? (i := 586) (by decide +kernel), List.mem_of_getElem? (i := 587) (by decide +kernel)⟩
theorem lw_p31 : lw_okq (⟨"WrittenBench$Mender", "mendsComeTo", "()I"⟩, 13) := ⟨⟨by decide +kernel, by decide +kernel⟩, List.mem_of_getElem? (i := 182) (by decide +kernel), List.mem_of_getElem? (i := 595) (by decide +kernel), List.mem_of_getElem? (i := 596) (by decide +kernel)⟩
def lw_privs_2 : List (MethodName × Nat) := [(⟨"WrittenBench$Flow", "join", "(IIII)V"⟩, 14), (⟨"WrittenBench$Flow", "takeOn", "(II)V"⟩, 14), (⟨"WrittenBench$Flow", "leave", "(III)V"⟩, 14), (⟨"WrittenBench$Flow", "isComeTo", "(II)Z"⟩, 14), (⟨"WrittenBench$Flow", "fill", "(I)V"⟩, 14), (⟨"WrittenBench$Flow", "fillRow", "(IIZ)V"⟩, 14), (⟨"WrittenBench$Flow", "copyRow", "(III)V"⟩, 14), (⟨"WrittenBench$Flow", "add", "(II)V"⟩, 14), (⟨"WrittenBench$Flow", "store", "(III)V"⟩, 14), (⟨"WrittenBench$Flow", "load", "(III)V"⟩, 14), (⟨"WrittenBench", "leastWitness", "(II)I"⟩, 15), (⟨"WrittenBench", "showsBad", "(II)Z"⟩, 15), (⟨"WrittenBench$Mender", "leads", "(II)Z"⟩, 13), (⟨"WrittenBench$Mender", "followWays", "()V"⟩, 13), (⟨"WrittenBench$Mender", "doAllMends", "()V"⟩, 13), (⟨"WrittenBench$Mender", "mendsComeTo", "()I"⟩, 13)]
theorem lw_r2 : ∀ q ∈ lw_privs_2, lw_okq q := List.forall_mem_cons.mpr ⟨lw_p16, List.forall_mem_cons.mpr ⟨lw_p17, List.forall_mem_cons.mpr ⟨lw_p18, List.forall_mem_cons.mpr ⟨lw_p19, List.forall_mem_cons.mpr ⟨lw_p20, List.forall_mem_cons.mpr ⟨lw_p21, List.forall_mem_cons.mpr ⟨lw_p22, List.forall_mem_cons.mpr ⟨lw_p23, List.forall_mem_cons.mpr ⟨lw_p24, List.forall_mem_cons.mpr ⟨lw_p25, List.forall_mem_cons.mpr ⟨lw_p26, List.forall_mem_cons.mpr ⟨lw_p27, List.forall_mem_cons.mpr ⟨lw_p28, List.forall_mem_cons.mpr ⟨lw_p29, List.forall_mem_cons.mpr ⟨lw_p30, List.forall_mem_cons.mpr ⟨lw_p31, fun _ h => absurd h List.not_mem_nil⟩⟩⟩⟩⟩⟩⟩⟩⟩⟩⟩⟩⟩⟩⟩⟩
theorem lw_p32 : lw_okq (⟨"WrittenBench$Mender", "cheapest", "([I)I"⟩, 13) := ⟨⟨by decide +kernel, by decide +kernel⟩, List.mem_of_getElem? (i := 182) (by decide +kernel), List.mem_of_getElem? (i := 600) (by decide +kernel), List.mem_of_getElem? (i := 601) (by decide +kernel)⟩
theorem lw_p33 : lw_okq (⟨"WrittenBench$Mender", "costOf", "(I[I)I"⟩, 13) := ⟨⟨by decide +kernel, by decide +kernel⟩, List.mem_of_getElem? (i := 182) (by decide +kernel), List.mem_of_getElem? (i := 604) (by decide +kernel), List.mem_of_getElem? (i := 605) (by decide +kernel)⟩
theorem lw_p34 : lw_okq (⟨"WrittenBench$Mender", "cutsAllWays", "(I)Z"⟩, 13) := ⟨⟨by decide +kernel, by decide +kernel⟩, List.mem_of_getElem? (i := 182) (by decide +kernel), List.mem_of_getElem? (i := 608) (by decide +kernel), List.mem_of_getElem? (i := 609) (by decide +kernel)⟩
theorem lw_p35 : lw_okq (⟨"WrittenBench$Mender", "keep", "(I)V"⟩, 13) := ⟨⟨by decide +kernel, by decide +kernel⟩, List.mem_of_getElem? (i := 182) (by decide +kernel), List.mem_of_getElem? (i := 612) (by decide +kernel), List.mem_of_getElem? (i := 613) (by decide +kernel)⟩
theorem lw_p36 : lw_okq (⟨"WrittenBench$Mender", "keptAt", "(I)I"⟩, 13) := ⟨⟨by decide +kernel, by decide +kernel⟩, List.mem_of_getElem? (i := 182) (by decide +kernel), List.mem_of_getElem? (i := 628) (by decide +kernel), List.mem_of_getElem? (i := 629) (by decide +kernel)⟩
theorem lw_p37 : lw_okq (⟨"WrittenBenchModel", "puts", "(IIIIIII)V"⟩, 56) := ⟨⟨by decide +kernel, by decide +kernel⟩, List.mem_of_getElem? (i := 649) (by decide +kernel), List.mem_of_getElem? (i := 843) (by decide +kernel), List.mem_of_getElem? (i := 844) (by decide +kernel)⟩
theorem lw_p38 : lw_okq (⟨"WrittenBenchModel", "runs", "()I"⟩, 56) := ⟨⟨by decide +kernel, by decide +kernel⟩, List.mem_of_getElem? (i := 649) (by decide +kernel), List.mem_of_getElem? (i := 867) (by decide +kernel), List.mem_of_getElem? (i := 868) (by decide +kernel)⟩
theorem lw_p39 : lw_okq (⟨"WrittenBenchModel", "uses", "(III)V"⟩, 56) := ⟨⟨by decide +kernel, by decide +kernel⟩, List.mem_of_getElem? (i := 649) (by decide +kernel), List.mem_of_getElem? (i := 871) (by decide +kernel), List.mem_of_getElem? (i := 872) (by decide +kernel)⟩
theorem lw_p40 : lw_okq (⟨"WrittenBenchModel", "does", "(II)Z"⟩, 56) := ⟨⟨by decide +kernel, by decide +kernel⟩, List.mem_of_getElem? (i := 649) (by decide +kernel), List.mem_of_getElem? (i := 878) (by decide +kernel), List.mem_of_getElem? (i := 879) (by decide +kernel)⟩
theorem lw_p41 : lw_okq (⟨"WrittenBenchModel", "fills", "(IIIZ)V"⟩, 56) := ⟨⟨by decide +kernel, by decide +kernel⟩, List.mem_of_getElem? (i := 649) (by decide +kernel), List.mem_of_getElem? (i := 882) (by decide +kernel), List.mem_of_getElem? (i := 883) (by decide +kernel)⟩
theorem lw_p42 : lw_okq (⟨"WrittenBenchModel", "copies", "(III)V"⟩, 56) := ⟨⟨by decide +kernel, by decide +kernel⟩, List.mem_of_getElem? (i := 649) (by decide +kernel), List.mem_of_getElem? (i := 886) (by decide +kernel), List.mem_of_getElem? (i := 887) (by decide +kernel)⟩
theorem lw_p43 : lw_okq (⟨"WrittenBenchModel", "reads", "()I"⟩, 56) := ⟨⟨by decide +kernel, by decide +kernel⟩, List.mem_of_getElem? (i := 649) (by decide +kernel), List.mem_of_getElem? (i := 890) (by decide +kernel), List.mem_of_getElem? (i := 891) (by decide +kernel)⟩
theorem lw_p44 : lw_okq (⟨"WrittenBenchModel", "flowsPlain", "()V"⟩, 56) := ⟨⟨by decide +kernel, by decide +kernel⟩, List.mem_of_getElem? (i := 649) (by decide +kernel), List.mem_of_getElem? (i := 914) (by decide +kernel), List.mem_of_getElem? (i := 915) (by decide +kernel)⟩
theorem lw_p45 : lw_okq (⟨"WrittenBenchModel", "unmends", "()V"⟩, 56) := ⟨⟨by decide +kernel, by decide +kernel⟩, List.mem_of_getElem? (i := 649) (by decide +kernel), List.mem_of_getElem? (i := 918) (by decide +kernel), List.mem_of_getElem? (i := 919) (by decide +kernel)⟩
theorem lw_p46 : lw_okq (⟨"WrittenBenchModel", "flows", "(III)V"⟩, 56) := ⟨⟨by decide +kernel, by decide +kernel⟩, List.mem_of_getElem? (i := 649) (by decide +kernel), List.mem_of_getElem? (i := 923) (by decide +kernel), List.mem_of_getElem? (i := 924) (by decide +kernel)⟩
theorem lw_p47 : lw_okq (⟨"WrittenBenchModel", "begins", "(I)V"⟩, 56) := ⟨⟨by decide +kernel, by decide +kernel⟩, List.mem_of_getElem? (i := 649) (by decide +kernel), List.mem_of_getElem? (i := 927) (by decide +kernel), List.mem_of_getElem? (i := 928) (by decide +kernel)⟩
def lw_privs_3 : List (MethodName × Nat) := [(⟨"WrittenBench$Mender", "cheapest", "([I)I"⟩, 13), (⟨"WrittenBench$Mender", "costOf", "(I[I)I"⟩, 13), (⟨"WrittenBench$Mender", "cutsAllWays", "(I)Z"⟩, 13), (⟨"WrittenBench$Mender", "keep", "(I)V"⟩, 13), (⟨"WrittenBench$Mender", "keptAt", "(I)I"⟩, 13), (⟨"WrittenBenchModel", "puts", "(IIIIIII)V"⟩, 56), (⟨"WrittenBenchModel", "runs", "()I"⟩, 56), (⟨"WrittenBenchModel", "uses", "(III)V"⟩, 56), (⟨"WrittenBenchModel", "does", "(II)Z"⟩, 56), (⟨"WrittenBenchModel", "fills", "(IIIZ)V"⟩, 56), (⟨"WrittenBenchModel", "copies", "(III)V"⟩, 56), (⟨"WrittenBenchModel", "reads", "()I"⟩, 56), (⟨"WrittenBenchModel", "flowsPlain", "()V"⟩, 56), (⟨"WrittenBenchModel", "unmends", "()V"⟩, 56), (⟨"WrittenBenchModel", "flows", "(III)V"⟩, 56), (⟨"WrittenBenchModel", "begins", "(I)V"⟩, 56)]
theorem lw_r3 : ∀ q ∈ lw_privs_3, lw_okq q := List.forall_mem_cons.mpr ⟨lw_p32, List.forall_mem_cons.mpr ⟨lw_p33, List.forall_mem_cons.mpr ⟨lw_p34, List.forall_mem_cons.mpr ⟨lw_p35, List.forall_mem_cons.mpr ⟨lw_p36, List.forall_mem_cons.mpr ⟨lw_p37, List.forall_mem_cons.mpr ⟨lw_p38, List.forall_mem_cons.mpr ⟨lw_p39, List.forall_mem_cons.mpr ⟨lw_p40, List.forall_mem_cons.mpr ⟨lw_p41, List.forall_mem_cons.mpr ⟨lw_p42, List.forall_mem_cons.mpr ⟨lw_p43, List.forall_mem_cons.mpr ⟨lw_p44, List.forall_mem_cons.mpr ⟨lw_p45, List.forall_mem_cons.mpr ⟨lw_p46, List.forall_mem_cons.mpr ⟨lw_p47, fun _ h => absurd h List.not_mem_nil⟩⟩⟩⟩⟩⟩⟩⟩⟩⟩⟩⟩⟩⟩⟩⟩
theorem lw_p48 : lw_okq (⟨"WrittenBenchModel", "goes", "(II)V"⟩, 56) := ⟨⟨by decide +kernel, by decide +kernel⟩, List.mem_of_getElem? (i := 649) (by decide +kernel), List.mem_of_getElem? (i := 931) (by decide +kernel), List.mem_of_getElem? (i := 932) (by decide +kernel)⟩
theorem lw_p49 : lw_okq (⟨"WrittenBenchModel", "returns", "(I)V"⟩, 56) := ⟨⟨by decide +kernel, by decide +kernel⟩, List.mem_of_getElem? (i := 649) (by decide +kernel), List.mem_of_getElem? (i := 935) (by decide +kernel), List.mem_of_getElem? (i := 936) (by decide +kernel)⟩
theorem lw_p50 : lw_okq (⟨"WrittenBenchModel", "changes", "(II)Z"⟩, 56) := ⟨⟨by decide +kernel, by decide +kernel⟩, List.mem_of_getElem? (i := 649) (by decide +kernel), List.mem_of_getElem? (i := 939) (by decide +kernel), List.mem_of_getElem? (i := 940) (by decide +kernel)⟩
theorem lw_p51 : lw_okq (⟨"WrittenBenchModel", "sets", "(IIZZ)V"⟩, 56) := ⟨⟨by decide +kernel, by decide +kernel⟩, List.mem_of_getElem? (i := 649) (by decide +kernel), List.mem_of_getElem? (i := 943) (by decide +kernel), List.mem_of_getElem? (i := 944) (by decide +kernel)⟩
theorem lw_p52 : lw_okq (⟨"WrittenBenchModel", "badMany", "()I"⟩, 56) := ⟨⟨by decide +kernel, by decide +kernel⟩, List.mem_of_getElem? (i := 649) (by decide +kernel), List.mem_of_getElem? (i := 953) (by decide +kernel), List.mem_of_getElem? (i := 954) (by decide +kernel)⟩
theorem lw_p53 : lw_okq (⟨"WrittenBenchModel", "isBad", "(II)Z"⟩, 56) := ⟨⟨by decide +kernel, by decide +kernel⟩, List.mem_of_getElem? (i := 649) (by decide +kernel), List.mem_of_getElem? (i := 957) (by decide +kernel), List.mem_of_getElem? (i := 958) (by decide +kernel)⟩
theorem lw_p54 : lw_okq (⟨"WrittenBenchModel", "used", "(II)I"⟩, 56) := ⟨⟨by decide +kernel, by decide +kernel⟩, List.mem_of_getElem? (i := 649) (by decide +kernel), List.mem_of_getElem? (i := 961) (by decide +kernel), List.mem_of_getElem? (i := 962) (by decide +kernel)⟩
theorem lw_p55 : lw_okq (⟨"WrittenBenchModel", "kindOf", "(II)I"⟩, 56) := ⟨⟨by decide +kernel, by decide +kernel⟩, List.mem_of_getElem? (i := 649) (by decide +kernel), List.mem_of_getElem? (i := 977) (by decide +kernel), List.mem_of_getElem? (i := 978) (by decide +kernel)⟩
theorem lw_p56 : lw_okq (⟨"WrittenBenchModel", "looksFor", "()Z"⟩, 56) := ⟨⟨by decide +kernel, by decide +kernel⟩, List.mem_of_getElem? (i := 649) (by decide +kernel), List.mem_of_getElem? (i := 993) (by decide +kernel), List.mem_of_getElem? (i := 994) (by decide +kernel)⟩
theorem lw_p57 : lw_okq (⟨"WrittenBenchModel", "counts", "(II)Z"⟩, 56) := ⟨⟨by decide +kernel, by decide +kernel⟩, List.mem_of_getElem? (i := 649) (by decide +kernel), List.mem_of_getElem? (i := 997) (by decide +kernel), List.mem_of_getElem? (i := 998) (by decide +kernel)⟩
theorem lw_p58 : lw_okq (⟨"WrittenBenchModel", "leads", "(III)V"⟩, 56) := ⟨⟨by decide +kernel, by decide +kernel⟩, List.mem_of_getElem? (i := 649) (by decide +kernel), List.mem_of_getElem? (i := 1001) (by decide +kernel), List.mem_of_getElem? (i := 1002) (by decide +kernel)⟩
theorem lw_p59 : lw_okq (⟨"WrittenBenchModel", "leadsOn", "(II)V"⟩, 56) := ⟨⟨by decide +kernel, by decide +kernel⟩, List.mem_of_getElem? (i := 649) (by decide +kernel), List.mem_of_getElem? (i := 1005) (by decide +kernel), List.mem_of_getElem? (i := 1006) (by decide +kernel)⟩
theorem lw_p60 : lw_okq (⟨"WrittenBenchModel", "left", "(III)I"⟩, 56) := ⟨⟨by decide +kernel, by decide +kernel⟩, List.mem_of_getElem? (i := 649) (by decide +kernel), List.mem_of_getElem? (i := 1009) (by decide +kernel), List.mem_of_getElem? (i := 1010) (by decide +kernel)⟩
theorem lw_p61 : lw_okq (⟨"WrittenBenchModel", "skipsBelow", "(I)Z"⟩, 56) := ⟨⟨by decide +kernel, by decide +kernel⟩, List.mem_of_getElem? (i := 649) (by decide +kernel), List.mem_of_getElem? (i := 1022) (by decide +kernel), List.mem_of_getElem? (i := 1023) (by decide +kernel)⟩
def lw_privs_4 : List (MethodName × Nat) := [(⟨"WrittenBenchModel", "goes", "(II)V"⟩, 56), (⟨"WrittenBenchModel", "returns", "(I)V"⟩, 56), (⟨"WrittenBenchModel", "changes", "(II)Z"⟩, 56), (⟨"WrittenBenchModel", "sets", "(IIZZ)V"⟩, 56), (⟨"WrittenBenchModel", "badMany", "()I"⟩, 56), (⟨"WrittenBenchModel", "isBad", "(II)Z"⟩, 56), (⟨"WrittenBenchModel", "used", "(II)I"⟩, 56), (⟨"WrittenBenchModel", "kindOf", "(II)I"⟩, 56), (⟨"WrittenBenchModel", "looksFor", "()Z"⟩, 56), (⟨"WrittenBenchModel", "counts", "(II)Z"⟩, 56), (⟨"WrittenBenchModel", "leads", "(III)V"⟩, 56), (⟨"WrittenBenchModel", "leadsOn", "(II)V"⟩, 56), (⟨"WrittenBenchModel", "left", "(III)I"⟩, 56), (⟨"WrittenBenchModel", "skipsBelow", "(I)Z"⟩, 56)]
theorem lw_r4 : ∀ q ∈ lw_privs_4, lw_okq q := List.forall_mem_cons.mpr ⟨lw_p48, List.forall_mem_cons.mpr ⟨lw_p49, List.forall_mem_cons.mpr ⟨lw_p50, List.forall_mem_cons.mpr ⟨lw_p51, List.forall_mem_cons.mpr ⟨lw_p52, List.forall_mem_cons.mpr ⟨lw_p53, List.forall_mem_cons.mpr ⟨lw_p54, List.forall_mem_cons.mpr ⟨lw_p55, List.forall_mem_cons.mpr ⟨lw_p56, List.forall_mem_cons.mpr ⟨lw_p57, List.forall_mem_cons.mpr ⟨lw_p58, List.forall_mem_cons.mpr ⟨lw_p59, List.forall_mem_cons.mpr ⟨lw_p60, List.forall_mem_cons.mpr ⟨lw_p61, fun _ h => absurd h List.not_mem_nil⟩⟩⟩⟩⟩⟩⟩⟩⟩⟩⟩⟩⟩⟩
def lw_privs : List (MethodName × Nat) := lw_privs_1 ++ (lw_privs_2 ++ (lw_privs_3 ++ (lw_privs_4)))
def lw_tbl : List Cond := k2_sels lw_privs ++ tables_1
theorem lw_privs_ok : ∀ q ∈ lw_privs, lw_okq q := by
  show ∀ q ∈ lw_privs_1 ++ (lw_privs_2 ++ (lw_privs_3 ++ (lw_privs_4))), lw_okq q
  exact List.forall_mem_append.mpr ⟨lw_r1, List.forall_mem_append.mpr ⟨lw_r2, List.forall_mem_append.mpr ⟨lw_r3, lw_r4⟩⟩⟩
def RX0 : String := "WrittenBench$Flow"
def TX0 : u_T := fun k => match k with
  | 0 => ("WrittenBench$Flow", "program", "LWrittenBench$Program;", true)
  | 1 => ("WrittenBench$Flow", "written", "[I", true)
  | 2 => ("WrittenBench$Flow", "unwritten", "[I", true)
  | 3 => ("WrittenBench$Flow", "due", "[Z", true)
  | 4 => ("WrittenBench$Flow", "anyDue", "Z", false)
  | 5 => ("WrittenBench$Flow", "nextWritten", "I", false)
  | 6 => ("WrittenBench$Flow", "nextUnwritten", "I", false)
  | 7 => ("WrittenBench$Flow", "inWritten", "[I", true)
  | 8 => ("WrittenBench$Flow", "inUnwritten", "[I", true)
  | 9 => ("WrittenBench$Flow", "outWritten", "[I", true)
  | 10 => ("WrittenBench$Flow", "outUnwritten", "[I", true)
  | 11 => ("WrittenBench$Flow", "setAhead", "[I", true)
  | 12 => ("WrittenBench$Flow", "unsetAhead", "[I", true)
  | _ => ("WrittenBench$Flow", "freeWrites", "Z", false)
def tyX0 : Nat → FieldType := fun k => match k with
  | 0 => .object "WrittenBench$Program"
  | 1 => .array .int
  | 2 => .array .int
  | 3 => .array .boolean
  | 4 => .boolean
  | 5 => .int
  | 6 => .int
  | 7 => .array .int
  | 8 => .array .int
  | 9 => .array .int
  | 10 => .array .int
  | 11 => .array .int
  | 12 => .array .int
  | _ => .boolean
abbrev wsX00 : List Cond := u_ws RX0 TX0 14
theorem nmX0 : ∀ a, a < 14 → ∀ b, b < 14 → a ≠ b → (TX0 a).2.1 ≠ (TX0 b).2.1 := by decide +kernel
theorem tyX0_ok : ∀ k, k < 14 → parseFieldDescriptor (TX0 k).2.2.1 = some (tyX0 k) := by decide +kernel
abbrev cX0_init : ByteArray := prog_2_method_1_code
def yX0_init : MethodName := ⟨RX0, "<init>", "(LWrittenBench$Program;)V"⟩
abbrev cX0_takePlain : ByteArray := prog_2_method_2_code
def yX0_takePlain : MethodName := ⟨RX0, "takePlain", "()V"⟩
abbrev cX0_setAtBegin : ByteArray := prog_2_method_3_code
def yX0_setAtBegin : MethodName := ⟨RX0, "setAtBegin", "(II)V"⟩
abbrev cX0_unsetAtBegin : ByteArray := prog_2_method_4_code
def yX0_unsetAtBegin : MethodName := ⟨RX0, "unsetAtBegin", "(II)V"⟩
abbrev cX0_follow : ByteArray := prog_2_method_5_code
def yX0_follow : MethodName := ⟨RX0, "follow", "(II)V"⟩
abbrev cX0_mayBe : ByteArray := prog_2_method_6_code
def yX0_mayBe : MethodName := ⟨RX0, "mayBe", "(III)I"⟩
abbrev cX0_kind : ByteArray := prog_2_method_7_code
def yX0_kind : MethodName := ⟨RX0, "kind", "(II)I"⟩
abbrev cX0_badUses : ByteArray := prog_2_method_8_code
def yX0_badUses : MethodName := ⟨RX0, "badUses", "()I"⟩
abbrev cX0_badUseAt : ByteArray := prog_2_method_9_code
def yX0_badUseAt : MethodName := ⟨RX0, "badUseAt", "(I)I"⟩
abbrev cX0_tellKinds : ByteArray := prog_2_method_10_code
def yX0_tellKinds : MethodName := ⟨RX0, "tellKinds", "([I)V"⟩
abbrev cX0_hasKinds : ByteArray := prog_2_method_11_code
def yX0_hasKinds : MethodName := ⟨RX0, "hasKinds", "([I)Z"⟩
abbrev cX0_forget : ByteArray := prog_2_method_12_code
def yX0_forget : MethodName := ⟨RX0, "forget", "()V"⟩
abbrev cX0_come : ByteArray := prog_2_method_13_code
def yX0_come : MethodName := ⟨RX0, "come", "(III)V"⟩
abbrev cX0_join : ByteArray := prog_2_method_14_code
def yX0_join : MethodName := ⟨RX0, "join", "(IIII)V"⟩
abbrev cX0_takeOn : ByteArray := prog_2_method_15_code
def yX0_takeOn : MethodName := ⟨RX0, "takeOn", "(II)V"⟩
abbrev cX0_leave : ByteArray := prog_2_method_16_code
def yX0_leave : MethodName := ⟨RX0, "leave", "(III)V"⟩
abbrev cX0_isComeTo : ByteArray := prog_2_method_17_code
def yX0_isComeTo : MethodName := ⟨RX0, "isComeTo", "(II)Z"⟩
abbrev cX0_fill : ByteArray := prog_2_method_18_code
def yX0_fill : MethodName := ⟨RX0, "fill", "(I)V"⟩
abbrev cX0_fillRow : ByteArray := prog_2_method_19_code
def yX0_fillRow : MethodName := ⟨RX0, "fillRow", "(IIZ)V"⟩
abbrev cX0_copyRow : ByteArray := prog_2_method_20_code
def yX0_copyRow : MethodName := ⟨RX0, "copyRow", "(III)V"⟩
abbrev cX0_add : ByteArray := prog_2_method_21_code
def yX0_add : MethodName := ⟨RX0, "add", "(II)V"⟩
abbrev cX0_store : ByteArray := prog_2_method_22_code
def yX0_store : MethodName := ⟨RX0, "store", "(III)V"⟩
abbrev cX0_load : ByteArray := prog_2_method_23_code
def yX0_load : MethodName := ⟨RX0, "load", "(III)V"⟩
def RX1 : String := "WrittenBench$Mender"
def TX1 : u_T := fun k => match k with
  | 0 => ("WrittenBench$Mender", "program", "LWrittenBench$Program;", true)
  | 1 => ("WrittenBench$Mender", "plain", "LWrittenBench$Flow;", true)
  | 2 => ("WrittenBench$Mender", "other", "LWrittenBench$Flow;", true)
  | 3 => ("WrittenBench$Mender", "function", "[I", true)
  | 4 => ("WrittenBench$Mender", "cell", "[I", true)
  | 5 => ("WrittenBench$Mender", "waysTo", "[I", true)
  | 6 => ("WrittenBench$Mender", "mends", "I", false)
  | 7 => ("WrittenBench$Mender", "straightToUse", "I", false)
  | 8 => ("WrittenBench$Mender", "firstMends", "I", false)
  | 9 => ("WrittenBench$Mender", "cannotBeCut", "Z", false)
  | 10 => ("WrittenBench$Mender", "keptFunction", "[I", true)
  | 11 => ("WrittenBench$Mender", "keptCell", "[I", true)
  | _ => ("WrittenBench$Mender", "keptCount", "I", false)
def tyX1 : Nat → FieldType := fun k => match k with
  | 0 => .object "WrittenBench$Program"
  | 1 => .object "WrittenBench$Flow"
  | 2 => .object "WrittenBench$Flow"
  | 3 => .array .int
  | 4 => .array .int
  | 5 => .array .int
  | 6 => .int
  | 7 => .int
  | 8 => .int
  | 9 => .boolean
  | 10 => .array .int
  | 11 => .array .int
  | _ => .int
abbrev wsX10 : List Cond := u_ws RX1 TX1 13
theorem nmX1 : ∀ a, a < 13 → ∀ b, b < 13 → a ≠ b → (TX1 a).2.1 ≠ (TX1 b).2.1 := by decide +kernel
theorem tyX1_ok : ∀ k, k < 13 → parseFieldDescriptor (TX1 k).2.2.1 = some (tyX1 k) := by decide +kernel
abbrev cX1_init : ByteArray := prog_3_method_1_code
def yX1_init : MethodName := ⟨RX1, "<init>", "(LWrittenBench$Program;LWrittenBench$Flow;LWrittenBench$Flow;)V"⟩
abbrev cX1_gather : ByteArray := prog_3_method_2_code
def yX1_gather : MethodName := ⟨RX1, "gather", "()Z"⟩
abbrev cX1_find : ByteArray := prog_3_method_3_code
def yX1_find : MethodName := ⟨RX1, "find", "([I)I"⟩
abbrev cX1_canBeDone : ByteArray := prog_3_method_4_code
def yX1_canBeDone : MethodName := ⟨RX1, "canBeDone", "()Z"⟩
abbrev cX1_putSets : ByteArray := prog_3_method_5_code
def yX1_putSets : MethodName := ⟨RX1, "putSets", "()V"⟩
abbrev cX1_keptAt : ByteArray := prog_3_method_6_code
def yX1_keptAt : MethodName := ⟨RX1, "keptAt", "(I)I"⟩
abbrev cX1_leads : ByteArray := prog_3_method_7_code
def yX1_leads : MethodName := ⟨RX1, "leads", "(II)Z"⟩
abbrev cX1_followWays : ByteArray := prog_3_method_8_code
def yX1_followWays : MethodName := ⟨RX1, "followWays", "()V"⟩
abbrev cX1_doAllMends : ByteArray := prog_3_method_9_code
def yX1_doAllMends : MethodName := ⟨RX1, "doAllMends", "()V"⟩
abbrev cX1_mendsComeTo : ByteArray := prog_3_method_10_code
def yX1_mendsComeTo : MethodName := ⟨RX1, "mendsComeTo", "()I"⟩
abbrev cX1_cheapest : ByteArray := prog_3_method_11_code
def yX1_cheapest : MethodName := ⟨RX1, "cheapest", "([I)I"⟩
abbrev cX1_costOf : ByteArray := prog_3_method_12_code
def yX1_costOf : MethodName := ⟨RX1, "costOf", "(I[I)I"⟩
abbrev cX1_cutsAllWays : ByteArray := prog_3_method_13_code
def yX1_cutsAllWays : MethodName := ⟨RX1, "cutsAllWays", "(I)Z"⟩
abbrev cX1_keep : ByteArray := prog_3_method_14_code
def yX1_keep : MethodName := ⟨RX1, "keep", "(I)V"⟩
def RX2 : String := "WrittenBench$Program"
def TX2 : u_T := fun k => match k with
  | 0 => ("WrittenBench$Program", "length", "[I", true)
  | 1 => ("WrittenBench$Program", "op", "[I", true)
  | 2 => ("WrittenBench$Program", "a", "[I", true)
  | 3 => ("WrittenBench$Program", "b", "[I", true)
  | 4 => ("WrittenBench$Program", "c", "[I", true)
  | _ => ("WrittenBench$Program", "d", "[I", true)
def tyX2 : Nat → FieldType := fun k => match k with
  | 0 => .array .int
  | 1 => .array .int
  | 2 => .array .int
  | 3 => .array .int
  | 4 => .array .int
  | _ => .array .int
abbrev wsX20 : List Cond := u_ws RX2 TX2 6
theorem nmX2 : ∀ a, a < 6 → ∀ b, b < 6 → a ≠ b → (TX2 a).2.1 ≠ (TX2 b).2.1 := by decide +kernel
theorem tyX2_ok : ∀ k, k < 6 → parseFieldDescriptor (TX2 k).2.2.1 = some (tyX2 k) := by decide +kernel
abbrev cX2_init : ByteArray := prog_4_method_1_code
def yX2_init : MethodName := ⟨RX2, "<init>", "()V"⟩
abbrev cX2_has : ByteArray := prog_4_method_2_code
def yX2_has : MethodName := ⟨RX2, "has", "(II)Z"⟩
abbrev cX2_put : ByteArray := prog_4_method_3_code
def yX2_put : MethodName := ⟨RX2, "put", "(IIIIIII)V"⟩
abbrev cX2_putSetAhead : ByteArray := prog_4_method_4_code
def yX2_putSetAhead : MethodName := ⟨RX2, "putSetAhead", "(II)V"⟩
abbrev cX2_usedCell : ByteArray := prog_4_method_5_code
def yX2_usedCell : MethodName := ⟨RX2, "usedCell", "(I)I"⟩
abbrev cX2_skipsBelowZero : ByteArray := prog_4_method_6_code
def yX2_skipsBelowZero : MethodName := ⟨RX2, "skipsBelowZero", "(I)Z"⟩
def RX3 : String := "WrittenBench$Run"
def TX3 : u_T := fun k => match k with
  | 0 => ("WrittenBench$Run", "program", "LWrittenBench$Program;", true)
  | 1 => ("WrittenBench$Run", "input", "[I", true)
  | 2 => ("WrittenBench$Run", "inputCount", "I", false)
  | 3 => ("WrittenBench$Run", "openFunction", "[I", true)
  | 4 => ("WrittenBench$Run", "openPlace", "[I", true)
  | 5 => ("WrittenBench$Run", "open", "I", false)
  | 6 => ("WrittenBench$Run", "function", "I", false)
  | 7 => ("WrittenBench$Run", "place", "I", false)
  | 8 => ("WrittenBench$Run", "number", "[I", true)
  | 9 => ("WrittenBench$Run", "written", "I", false)
  | 10 => ("WrittenBench$Run", "done", "I", false)
  | 11 => ("WrittenBench$Run", "badUses", "I", false)
  | 12 => ("WrittenBench$Run", "firstBad", "I", false)
  | 13 => ("WrittenBench$Run", "prints", "I", false)
  | 14 => ("WrittenBench$Run", "kept", "[I", true)
  | 15 => ("WrittenBench$Run", "reads", "I", false)
  | 16 => ("WrittenBench$Run", "watched", "I", false)
  | _ => ("WrittenBench$Run", "watchedIsBad", "Z", false)
def tyX3 : Nat → FieldType := fun k => match k with
  | 0 => .object "WrittenBench$Program"
  | 1 => .array .int
  | 2 => .int
  | 3 => .array .int
  | 4 => .array .int
  | 5 => .int
  | 6 => .int
  | 7 => .int
  | 8 => .array .int
  | 9 => .int
  | 10 => .int
  | 11 => .int
  | 12 => .int
  | 13 => .int
  | 14 => .array .int
  | 15 => .int
  | 16 => .int
  | _ => .boolean
abbrev wsX30 : List Cond := u_ws RX3 TX3 18
theorem nmX3 : ∀ a, a < 18 → ∀ b, b < 18 → a ≠ b → (TX3 a).2.1 ≠ (TX3 b).2.1 := by decide +kernel
theorem tyX3_ok : ∀ k, k < 18 → parseFieldDescriptor (TX3 k).2.2.1 = some (tyX3 k) := by decide +kernel
abbrev cX3_init : ByteArray := prog_5_method_1_code
def yX3_init : MethodName := ⟨RX3, "<init>", "(LWrittenBench$Program;[I)V"⟩
abbrev cX3_go : ByteArray := prog_5_method_2_code
def yX3_go : MethodName := ⟨RX3, "go", "(I)I"⟩
abbrev cX3_startAnew : ByteArray := prog_5_method_3_code
def yX3_startAnew : MethodName := ⟨RX3, "startAnew", "()V"⟩
abbrev cX3_goBack : ByteArray := prog_5_method_4_code
def yX3_goBack : MethodName := ⟨RX3, "goBack", "()V"⟩
abbrev cX3_doOne : ByteArray := prog_5_method_5_code
def yX3_doOne : MethodName := ⟨RX3, "doOne", "()I"⟩
abbrev cX3_lookAtUse : ByteArray := prog_5_method_6_code
def yX3_lookAtUse : MethodName := ⟨RX3, "lookAtUse", "(I)V"⟩
abbrev cX3_keepPrint : ByteArray := prog_5_method_7_code
def yX3_keepPrint : MethodName := ⟨RX3, "keepPrint", "(I)V"⟩
abbrev cX3_store : ByteArray := prog_5_method_8_code
def yX3_store : MethodName := ⟨RX3, "store", "(I)I"⟩
abbrev cX3_load : ByteArray := prog_5_method_9_code
def yX3_load : MethodName := ⟨RX3, "load", "(I)I"⟩
abbrev cX3_enter : ByteArray := prog_5_method_10_code
def yX3_enter : MethodName := ⟨RX3, "enter", "(I)I"⟩
abbrev cX3_fill : ByteArray := prog_5_method_11_code
def yX3_fill : MethodName := ⟨RX3, "fill", "(I)V"⟩
abbrev cX3_nextOfInput : ByteArray := prog_5_method_12_code
def yX3_nextOfInput : MethodName := ⟨RX3, "nextOfInput", "()I"⟩
abbrev cX3_fillRow : ByteArray := prog_5_method_13_code
def yX3_fillRow : MethodName := ⟨RX3, "fillRow", "(IIIZ)V"⟩
abbrev cX3_copyRow : ByteArray := prog_5_method_14_code
def yX3_copyRow : MethodName := ⟨RX3, "copyRow", "(III)V"⟩
def RX4 : String := "WrittenBench"
def TX4 : u_T := fun k => match k with
  | 0 => ("WrittenBench", "program", "LWrittenBench$Program;", true)
  | 1 => ("WrittenBench", "coins", "[I", true)
  | 2 => ("WrittenBench", "numbers", "[I", true)
  | 3 => ("WrittenBench", "numberCount", "I", false)
  | 4 => ("WrittenBench", "latest", "LWrittenBench$Run;", true)
  | 5 => ("WrittenBench", "hasRun", "Z", false)
  | 6 => ("WrittenBench", "bits", "[I", true)
  | 7 => ("WrittenBench", "trial", "LWrittenBench$Run;", true)
  | 8 => ("WrittenBench", "readsOf", "[I", true)
  | 9 => ("WrittenBench", "plain", "LWrittenBench$Flow;", true)
  | 10 => ("WrittenBench", "plainIsFresh", "Z", false)
  | 11 => ("WrittenBench", "other", "LWrittenBench$Flow;", true)
  | 12 => ("WrittenBench", "kinds", "[I", true)
  | 13 => ("WrittenBench", "mender", "LWrittenBench$Mender;", true)
  | _ => ("WrittenBench", "mendsFit", "Z", false)
def tyX4 : Nat → FieldType := fun k => match k with
  | 0 => .object "WrittenBench$Program"
  | 1 => .array .int
  | 2 => .array .int
  | 3 => .int
  | 4 => .object "WrittenBench$Run"
  | 5 => .boolean
  | 6 => .array .int
  | 7 => .object "WrittenBench$Run"
  | 8 => .array .int
  | 9 => .object "WrittenBench$Flow"
  | 10 => .boolean
  | 11 => .object "WrittenBench$Flow"
  | 12 => .array .int
  | 13 => .object "WrittenBench$Mender"
  | _ => .boolean
abbrev wsX40 : List Cond := u_ws RX4 TX4 15
theorem nmX4 : ∀ a, a < 15 → ∀ b, b < 15 → a ≠ b → (TX4 a).2.1 ≠ (TX4 b).2.1 := by decide +kernel
theorem tyX4_ok : ∀ k, k < 15 → parseFieldDescriptor (TX4 k).2.2.1 = some (tyX4 k) := by decide +kernel
abbrev cX4_init : ByteArray := prog_1_method_1_code
def yX4_init : MethodName := ⟨RX4, "<init>", "()V"⟩
abbrev cX4_code : ByteArray := prog_1_method_2_code
def yX4_code : MethodName := ⟨RX4, "code", "(IIIIII)I"⟩
abbrev cX4_change : ByteArray := prog_1_method_3_code
def yX4_change : MethodName := ⟨RX4, "change", "(IIIIIII)Z"⟩
abbrev cX4_clear : ByteArray := prog_1_method_4_code
def yX4_clear : MethodName := ⟨RX4, "clear", "(I)I"⟩
abbrev cX4_input : ByteArray := prog_1_method_5_code
def yX4_input : MethodName := ⟨RX4, "input", "(I)I"⟩
abbrev cX4_empty : ByteArray := prog_1_method_6_code
def yX4_empty : MethodName := ⟨RX4, "empty", "()I"⟩
abbrev cX4_run : ByteArray := prog_1_method_7_code
def yX4_run : MethodName := ⟨RX4, "run", "()I"⟩
abbrev cX4_ran : ByteArray := prog_1_method_8_code
def yX4_ran : MethodName := ⟨RX4, "ran", "(I)I"⟩
abbrev cX4_printed : ByteArray := prog_1_method_9_code
def yX4_printed : MethodName := ⟨RX4, "printed", "(I)I"⟩
abbrev cX4_cell : ByteArray := prog_1_method_10_code
def yX4_cell : MethodName := ⟨RX4, "cell", "(II)I"⟩
abbrev cX4_flow : ByteArray := prog_1_method_11_code
def yX4_flow : MethodName := ⟨RX4, "flow", "()I"⟩
abbrev cX4_bad : ByteArray := prog_1_method_12_code
def yX4_bad : MethodName := ⟨RX4, "bad", "(II)I"⟩
abbrev cX4_state : ByteArray := prog_1_method_13_code
def yX4_state : MethodName := ⟨RX4, "state", "(III)I"⟩
abbrev cX4_witness : ByteArray := prog_1_method_14_code
def yX4_witness : MethodName := ⟨RX4, "witness", "(III)I"⟩
abbrev cX4_needs : ByteArray := prog_1_method_15_code
def yX4_needs : MethodName := ⟨RX4, "needs", "(I)I"⟩
abbrev cX4_writes : ByteArray := prog_1_method_16_code
def yX4_writes : MethodName := ⟨RX4, "writes", "(I)I"⟩
abbrev cX4_cost : ByteArray := prog_1_method_17_code
def yX4_cost : MethodName := ⟨RX4, "cost", "(II)I"⟩
abbrev cX4_mend : ByteArray := prog_1_method_18_code
def yX4_mend : MethodName := ⟨RX4, "mend", "()I"⟩
abbrev cX4_mended : ByteArray := prog_1_method_19_code
def yX4_mended : MethodName := ⟨RX4, "mended", "(II)I"⟩
abbrev cX4_apply : ByteArray := prog_1_method_20_code
def yX4_apply : MethodName := ⟨RX4, "apply", "()Z"⟩
abbrev cX4_count : ByteArray := prog_1_method_21_code
def yX4_count : MethodName := ⟨RX4, "count", "(I)I"⟩
abbrev cX4_programIsAnother : ByteArray := prog_1_method_22_code
def yX4_programIsAnother : MethodName := ⟨RX4, "programIsAnother", "()V"⟩
abbrev cX4_freshen : ByteArray := prog_1_method_23_code
def yX4_freshen : MethodName := ⟨RX4, "freshen", "()V"⟩
abbrev cX4_leastWitness : ByteArray := prog_1_method_24_code
def yX4_leastWitness : MethodName := ⟨RX4, "leastWitness", "(II)I"⟩
abbrev cX4_showsBad : ByteArray := prog_1_method_25_code
def yX4_showsBad : MethodName := ⟨RX4, "showsBad", "(II)Z"⟩
abbrev cX4_isFunction : ByteArray := prog_1_method_26_code
def yX4_isFunction : MethodName := ⟨RX4, "isFunction", "(I)Z"⟩
abbrev cX4_isCell : ByteArray := prog_1_method_27_code
def yX4_isCell : MethodName := ⟨RX4, "isCell", "(I)Z"⟩
abbrev cX4_isRow : ByteArray := prog_1_method_28_code
def yX4_isRow : MethodName := ⟨RX4, "isRow", "(II)Z"⟩
abbrev cX4_isAsTold : ByteArray := prog_1_method_29_code
def yX4_isAsTold : MethodName := ⟨RX4, "isAsTold", "(IIIII)Z"⟩
abbrev cX4_locate : ByteArray := prog_1_method_30_code
def yX4_locate : MethodName := ⟨RX4, "locate", "(II)I"⟩
abbrev cX4_functionAt : ByteArray := prog_1_method_31_code
def yX4_functionAt : MethodName := ⟨RX4, "functionAt", "(I)I"⟩
abbrev cX4_instructionAt : ByteArray := prog_1_method_32_code
def yX4_instructionAt : MethodName := ⟨RX4, "instructionAt", "(I)I"⟩
abbrev cX4_hasBit : ByteArray := prog_1_method_33_code
def yX4_hasBit : MethodName := ⟨RX4, "hasBit", "(II)Z"⟩
abbrev cX4_rowOf : ByteArray := prog_1_method_34_code
def yX4_rowOf : MethodName := ⟨RX4, "rowOf", "(II)I"⟩
abbrev cX4_withRowCopied : ByteArray := prog_1_method_35_code
def yX4_withRowCopied : MethodName := ⟨RX4, "withRowCopied", "(IIII)I"⟩
abbrev cX4_withBit : ByteArray := prog_1_method_36_code
def yX4_withBit : MethodName := ⟨RX4, "withBit", "(IIZ)I"⟩
def RX5 : String := "WrittenBenchModel"
def TX5 : u_T := fun k => match k with
  | 0 => ("WrittenBenchModel", "code", "[I", true)
  | 1 => ("WrittenBenchModel", "length", "[I", true)
  | 2 => ("WrittenBenchModel", "cost", "[I", true)
  | 3 => ("WrittenBenchModel", "input", "[I", true)
  | 4 => ("WrittenBenchModel", "inputMany", "I", false)
  | 5 => ("WrittenBenchModel", "isChanged", "Z", false)
  | 6 => ("WrittenBenchModel", "number", "[I", true)
  | 7 => ("WrittenBenchModel", "isWritten", "[Z", true)
  | 8 => ("WrittenBenchModel", "openFunction", "[I", true)
  | 9 => ("WrittenBenchModel", "openAt", "[I", true)
  | 10 => ("WrittenBenchModel", "steps", "I", false)
  | 11 => ("WrittenBenchModel", "bads", "I", false)
  | 12 => ("WrittenBenchModel", "firstFunction", "I", false)
  | 13 => ("WrittenBenchModel", "firstAt", "I", false)
  | 14 => ("WrittenBenchModel", "printedMany", "I", false)
  | 15 => ("WrittenBenchModel", "printed", "[I", true)
  | 16 => ("WrittenBenchModel", "bits", "I", false)
  | 17 => ("WrittenBenchModel", "bitMany", "I", false)
  | 18 => ("WrittenBenchModel", "taken", "I", false)
  | 19 => ("WrittenBenchModel", "soughtFunction", "I", false)
  | 20 => ("WrittenBenchModel", "soughtAt", "I", false)
  | 21 => ("WrittenBenchModel", "isFound", "Z", false)
  | 22 => ("WrittenBenchModel", "movedNumber", "[I", true)
  | 23 => ("WrittenBenchModel", "movedWritten", "[Z", true)
  | 24 => ("WrittenBenchModel", "hasRun", "Z", false)
  | 25 => ("WrittenBenchModel", "ranSteps", "I", false)
  | 26 => ("WrittenBenchModel", "ranBads", "I", false)
  | 27 => ("WrittenBenchModel", "ranFunction", "I", false)
  | 28 => ("WrittenBenchModel", "ranAt", "I", false)
  | 29 => ("WrittenBenchModel", "ranPrinted", "I", false)
  | 30 => ("WrittenBenchModel", "toldPrinted", "[I", true)
  | 31 => ("WrittenBenchModel", "toldNumber", "[I", true)
  | 32 => ("WrittenBenchModel", "toldWritten", "[Z", true)
  | 33 => ("WrittenBenchModel", "isCome", "[Z", true)
  | 34 => ("WrittenBenchModel", "may", "[I", true)
  | 35 => ("WrittenBenchModel", "mayNot", "[I", true)
  | 36 => ("WrittenBenchModel", "isBack", "[Z", true)
  | 37 => ("WrittenBenchModel", "backMay", "[I", true)
  | 38 => ("WrittenBenchModel", "backNot", "[I", true)
  | 39 => ("WrittenBenchModel", "mended", "[I", true)
  | 40 => ("WrittenBenchModel", "grows", "Z", false)
  | 41 => ("WrittenBenchModel", "w", "I", false)
  | 42 => ("WrittenBenchModel", "u", "I", false)
  | 43 => ("WrittenBenchModel", "enterMay", "[I", true)
  | 44 => ("WrittenBenchModel", "enterNot", "[I", true)
  | 45 => ("WrittenBenchModel", "kindThen", "[I", true)
  | 46 => ("WrittenBenchModel", "many", "I", false)
  | 47 => ("WrittenBenchModel", "mendFunction", "[I", true)
  | 48 => ("WrittenBenchModel", "mendCell", "[I", true)
  | 49 => ("WrittenBenchModel", "lead", "[I", true)
  | 50 => ("WrittenBenchModel", "leadBack", "[I", true)
  | 51 => ("WrittenBenchModel", "leadGrows", "Z", false)
  | 52 => ("WrittenBenchModel", "hasMended", "Z", false)
  | 53 => ("WrittenBenchModel", "toldMany", "I", false)
  | 54 => ("WrittenBenchModel", "toldFunction", "[I", true)
  | _ => ("WrittenBenchModel", "toldCell", "[I", true)
def tyX5 : Nat → FieldType := fun k => match k with
  | 0 => .array .int
  | 1 => .array .int
  | 2 => .array .int
  | 3 => .array .int
  | 4 => .int
  | 5 => .boolean
  | 6 => .array .int
  | 7 => .array .boolean
  | 8 => .array .int
  | 9 => .array .int
  | 10 => .int
  | 11 => .int
  | 12 => .int
  | 13 => .int
  | 14 => .int
  | 15 => .array .int
  | 16 => .int
  | 17 => .int
  | 18 => .int
  | 19 => .int
  | 20 => .int
  | 21 => .boolean
  | 22 => .array .int
  | 23 => .array .boolean
  | 24 => .boolean
  | 25 => .int
  | 26 => .int
  | 27 => .int
  | 28 => .int
  | 29 => .int
  | 30 => .array .int
  | 31 => .array .int
  | 32 => .array .boolean
  | 33 => .array .boolean
  | 34 => .array .int
  | 35 => .array .int
  | 36 => .array .boolean
  | 37 => .array .int
  | 38 => .array .int
  | 39 => .array .int
  | 40 => .boolean
  | 41 => .int
  | 42 => .int
  | 43 => .array .int
  | 44 => .array .int
  | 45 => .array .int
  | 46 => .int
  | 47 => .array .int
  | 48 => .array .int
  | 49 => .array .int
  | 50 => .array .int
  | 51 => .boolean
  | 52 => .boolean
  | 53 => .int
  | 54 => .array .int
  | _ => .array .int
abbrev wsX50 : List Cond := u_ws RX5 TX5 56
theorem nmX5 : ∀ a, a < 56 → ∀ b, b < 56 → a ≠ b → (TX5 a).2.1 ≠ (TX5 b).2.1 := by decide +kernel
theorem tyX5_ok : ∀ k, k < 56 → parseFieldDescriptor (TX5 k).2.2.1 = some (tyX5 k) := by decide +kernel
abbrev cX5_init : ByteArray := prog_7_method_1_code
def yX5_init : MethodName := ⟨RX5, "<init>", "()V"⟩
abbrev cX5_in : ByteArray := prog_7_method_2_code
def yX5_in : MethodName := ⟨RX5, "in", "(III)Z"⟩
abbrev cX5_isFunction : ByteArray := prog_7_method_3_code
def yX5_isFunction : MethodName := ⟨RX5, "isFunction", "(I)Z"⟩
abbrev cX5_isCell : ByteArray := prog_7_method_4_code
def yX5_isCell : MethodName := ⟨RX5, "isCell", "(I)Z"⟩
abbrev cX5_isRow : ByteArray := prog_7_method_5_code
def yX5_isRow : MethodName := ⟨RX5, "isRow", "(II)Z"⟩
abbrev cX5_isGood : ByteArray := prog_7_method_6_code
def yX5_isGood : MethodName := ⟨RX5, "isGood", "(IIIII)Z"⟩
abbrev cX5_puts : ByteArray := prog_7_method_7_code
def yX5_puts : MethodName := ⟨RX5, "puts", "(IIIIIII)V"⟩
abbrev cX5_code : ByteArray := prog_7_method_8_code
def yX5_code : MethodName := ⟨RX5, "code", "(IIIIII)I"⟩
abbrev cX5_change : ByteArray := prog_7_method_9_code
def yX5_change : MethodName := ⟨RX5, "change", "(IIIIIII)Z"⟩
abbrev cX5_clear : ByteArray := prog_7_method_10_code
def yX5_clear : MethodName := ⟨RX5, "clear", "(I)I"⟩
abbrev cX5_input : ByteArray := prog_7_method_11_code
def yX5_input : MethodName := ⟨RX5, "input", "(I)I"⟩
abbrev cX5_empty : ByteArray := prog_7_method_12_code
def yX5_empty : MethodName := ⟨RX5, "empty", "()I"⟩
abbrev cX5_reads : ByteArray := prog_7_method_13_code
def yX5_reads : MethodName := ⟨RX5, "reads", "()I"⟩
abbrev cX5_uses : ByteArray := prog_7_method_14_code
def yX5_uses : MethodName := ⟨RX5, "uses", "(III)V"⟩
abbrev cX5_placed : ByteArray := prog_7_method_15_code
def yX5_placed : MethodName := ⟨RX5, "placed", "(II)I"⟩
abbrev cX5_copies : ByteArray := prog_7_method_16_code
def yX5_copies : MethodName := ⟨RX5, "copies", "(III)V"⟩
abbrev cX5_fills : ByteArray := prog_7_method_17_code
def yX5_fills : MethodName := ⟨RX5, "fills", "(IIIZ)V"⟩
abbrev cX5_does : ByteArray := prog_7_method_18_code
def yX5_does : MethodName := ⟨RX5, "does", "(II)Z"⟩
abbrev cX5_runs : ByteArray := prog_7_method_19_code
def yX5_runs : MethodName := ⟨RX5, "runs", "()I"⟩
abbrev cX5_run : ByteArray := prog_7_method_20_code
def yX5_run : MethodName := ⟨RX5, "run", "()I"⟩
abbrev cX5_ran : ByteArray := prog_7_method_21_code
def yX5_ran : MethodName := ⟨RX5, "ran", "(I)I"⟩
abbrev cX5_printed : ByteArray := prog_7_method_22_code
def yX5_printed : MethodName := ⟨RX5, "printed", "(I)I"⟩
abbrev cX5_cell : ByteArray := prog_7_method_23_code
def yX5_cell : MethodName := ⟨RX5, "cell", "(II)I"⟩
abbrev cX5_witness : ByteArray := prog_7_method_24_code
def yX5_witness : MethodName := ⟨RX5, "witness", "(III)I"⟩
abbrev cX5_goes : ByteArray := prog_7_method_25_code
def yX5_goes : MethodName := ⟨RX5, "goes", "(II)V"⟩
abbrev cX5_begins : ByteArray := prog_7_method_26_code
def yX5_begins : MethodName := ⟨RX5, "begins", "(I)V"⟩
abbrev cX5_returns : ByteArray := prog_7_method_27_code
def yX5_returns : MethodName := ⟨RX5, "returns", "(I)V"⟩
abbrev cX5_row : ByteArray := prog_7_method_28_code
def yX5_row : MethodName := ⟨RX5, "row", "(II)I"⟩
abbrev cX5_sets : ByteArray := prog_7_method_29_code
def yX5_sets : MethodName := ⟨RX5, "sets", "(IIZZ)V"⟩
abbrev cX5_has : ByteArray := prog_7_method_30_code
def yX5_has : MethodName := ⟨RX5, "has", "(II)Z"⟩
abbrev cX5_changes : ByteArray := prog_7_method_31_code
def yX5_changes : MethodName := ⟨RX5, "changes", "(II)Z"⟩
abbrev cX5_flows : ByteArray := prog_7_method_32_code
def yX5_flows : MethodName := ⟨RX5, "flows", "(III)V"⟩
abbrev cX5_used : ByteArray := prog_7_method_33_code
def yX5_used : MethodName := ⟨RX5, "used", "(II)I"⟩
abbrev cX5_isBad : ByteArray := prog_7_method_34_code
def yX5_isBad : MethodName := ⟨RX5, "isBad", "(II)Z"⟩
abbrev cX5_badMany : ByteArray := prog_7_method_35_code
def yX5_badMany : MethodName := ⟨RX5, "badMany", "()I"⟩
abbrev cX5_unmends : ByteArray := prog_7_method_36_code
def yX5_unmends : MethodName := ⟨RX5, "unmends", "()V"⟩
abbrev cX5_flowsPlain : ByteArray := prog_7_method_37_code
def yX5_flowsPlain : MethodName := ⟨RX5, "flowsPlain", "()V"⟩
abbrev cX5_flow : ByteArray := prog_7_method_38_code
def yX5_flow : MethodName := ⟨RX5, "flow", "()I"⟩
abbrev cX5_bad : ByteArray := prog_7_method_39_code
def yX5_bad : MethodName := ⟨RX5, "bad", "(II)I"⟩
abbrev cX5_state : ByteArray := prog_7_method_40_code
def yX5_state : MethodName := ⟨RX5, "state", "(III)I"⟩
abbrev cX5_kindOf : ByteArray := prog_7_method_41_code
def yX5_kindOf : MethodName := ⟨RX5, "kindOf", "(II)I"⟩
abbrev cX5_needs : ByteArray := prog_7_method_42_code
def yX5_needs : MethodName := ⟨RX5, "needs", "(I)I"⟩
abbrev cX5_writes : ByteArray := prog_7_method_43_code
def yX5_writes : MethodName := ⟨RX5, "writes", "(I)I"⟩
abbrev cX5_cost : ByteArray := prog_7_method_44_code
def yX5_cost : MethodName := ⟨RX5, "cost", "(II)I"⟩
abbrev cX5_leads : ByteArray := prog_7_method_45_code
def yX5_leads : MethodName := ⟨RX5, "leads", "(III)V"⟩
abbrev cX5_left : ByteArray := prog_7_method_46_code
def yX5_left : MethodName := ⟨RX5, "left", "(III)I"⟩
abbrev cX5_leadsOn : ByteArray := prog_7_method_47_code
def yX5_leadsOn : MethodName := ⟨RX5, "leadsOn", "(II)V"⟩
abbrev cX5_counts : ByteArray := prog_7_method_48_code
def yX5_counts : MethodName := ⟨RX5, "counts", "(II)Z"⟩
abbrev cX5_looksFor : ByteArray := prog_7_method_49_code
def yX5_looksFor : MethodName := ⟨RX5, "looksFor", "()Z"⟩
abbrev cX5_mend : ByteArray := prog_7_method_50_code
def yX5_mend : MethodName := ⟨RX5, "mend", "()I"⟩
abbrev cX5_mended : ByteArray := prog_7_method_51_code
def yX5_mended : MethodName := ⟨RX5, "mended", "(II)I"⟩
abbrev cX5_skipsBelow : ByteArray := prog_7_method_52_code
def yX5_skipsBelow : MethodName := ⟨RX5, "skipsBelow", "(I)Z"⟩
abbrev cX5_apply : ByteArray := prog_7_method_53_code
def yX5_apply : MethodName := ⟨RX5, "apply", "()Z"⟩
abbrev cX5_count : ByteArray := prog_7_method_54_code
def yX5_count : MethodName := ⟨RX5, "count", "(I)I"⟩
def RJ6 : String := "java/lang/Integer"
def TJ6 : u_T := fun k => match k with
  | _ => ("", "", "", false)
def tyJ6 : Nat → FieldType := fun k => match k with
  | _ => .int
abbrev wsJ60 : List Cond := u_ws RJ6 TJ6 0
abbrev cJ6_bitCount_0f7a4 : ByteArray := prog_8_method_49_code
def yJ6_bitCount_0f7a4 : MethodName := ⟨RJ6, "bitCount", "(I)I"⟩
def RJ10 : String := "java/lang/System"
def TJ10 : u_T := fun k => match k with
  | _ => ("", "", "", false)
def tyJ10 : Nat → FieldType := fun k => match k with
  | _ => .int
abbrev wsJ100 : List Cond := u_ws RJ10 TJ10 0
def RL : String := "WrittenBenchLaw"
abbrev cL_law : ByteArray := code
def yL_law : MethodName := ⟨RL, "law", "([I)Z"⟩
end
section
/-! THE EXECUTOR: it runs a method of the tables over a world whose references are places in the list of its cells; what it answers the machine answers (xe_met, at the end of part 03). No method that it runs makes a cell. -/
abbrev xC : Type := List va_E
abbrev xL : Type := List (Nat × Value)
abbrev xR : Type := Option (Option Value × xC)
abbrev xH : Type := Nat → xC → Nat → xL → List Value → xR
/-- a method: its name, bytes, locals, answer's type, class, the frames and the locals' words that it needs; its code; its fields (index, class, field, kind: 0 int, 1 boolean, 2 read alone); its calls (index, method, arguments, kind: 0 virtual, 1 static, 2 a nest mate's static, class of the receiver); its constants -/
abbrev xM : Type := (MethodName × ByteArray × Nat × Option FieldType × String × Nat × Nat) × List (List (Option (Instr × Nat))) × List (Nat × Nat × Nat × Nat) × List (Nat × Nat × Nat × Nat × Nat) × List (Nat × Int32)
abbrev xm_y (X : xM) : MethodName := X.1.1
abbrev xm_c (X : xM) : ByteArray := X.1.2.1
abbrev xm_n (X : xM) : Nat := X.1.2.2.1
abbrev xm_r (X : xM) : Option FieldType := X.1.2.2.2.1
abbrev xm_o (X : xM) : String := X.1.2.2.2.2.1
abbrev xm_f (X : xM) : Nat := X.1.2.2.2.2.2.1
abbrev xm_l (X : xM) : Nat := X.1.2.2.2.2.2.2
abbrev xm_t (X : xM) : List (List (Option (Instr × Nat))) := X.2.1
abbrev xm_F (X : xM) : List (Nat × Nat × Nat × Nat) := X.2.2.1
abbrev xm_I (X : xM) : List (Nat × Nat × Nat × Nat × Nat) := X.2.2.2.1
abbrev xm_K (X : xM) : List (Nat × Int32) := X.2.2.2.2
noncomputable def xe_nth {α : Type} (l : List α) : Nat → Option α := List.rec (motive := fun _ => Nat → Option α) (fun _ => none) (fun h _ ih n => Nat.rec (motive := fun _ => Option α) (some h) (fun m _ => ih m) n) l
theorem xe_nth_eq {α : Type} (l : List α) (n : Nat) : xe_nth l n = l[n]? := by
  induction l generalizing n with
  | nil => simp [xe_nth]
  | cons h t ih =>
    cases n with
    | zero => rfl
    | succ m => exact (ih m).trans (by simp)
noncomputable def xe_as {α : Type} (l : List (Nat × α)) (i : Nat) : Option α := List.rec (motive := fun _ => Option α) none (fun q _ ih => cond (Nat.beq q.1 i) (some q.2) ih) l
theorem xe_as_mem {α : Type} {l : List (Nat × α)} {i : Nat} {a : α} (h : xe_as l i = some a) : (i, a) ∈ l := by
  induction l with
  | nil => cases h
  | cons q t ih =>
    have h : cond (Nat.beq q.1 i) (some q.2) (xe_as t i) = some a := h
    cases hq : Nat.beq q.1 i with
    | true =>
      rw [hq] at h
      have e := Nat.eq_of_beq_eq_true hq
      have h : some q.2 = some a := h
      cases h
      rw [← e]
      exact List.mem_cons_self
    | false =>
      rw [hq] at h
      exact List.mem_cons_of_mem _ (ih h)
noncomputable def xe_set {α β : Type} (l : List α) : Nat → α → (List α → β) → β := List.rec (motive := fun _ => Nat → α → (List α → β) → β) (fun _ _ k => k []) (fun h t ih n v k => Nat.rec (motive := fun _ => β) (k (v :: t)) (fun m _ => ih m v (fun t' => k (h :: t'))) n) l
theorem xe_set_eq {α β : Type} (l : List α) (n : Nat) (v : α) (k : List α → β) : xe_set l n v k = k (l.set n v) := by
  induction l generalizing n k with
  | nil => rfl
  | cons h t ih =>
    cases n with
    | zero => rfl
    | succ m => exact ih m (fun t' => k (h :: t'))
noncomputable def xe_fn {β : Type} (n : Nat) (k : Nat → β) : β := Nat.rec (motive := fun _ => β) (k 0) (fun m _ => k (Nat.succ m)) n
theorem xe_fn_eq {β : Type} (n : Nat) (k : Nat → β) : xe_fn n k = k n := by cases n <;> rfl
noncomputable def xe_f {β : Type} (x : Int32) (k : Int32 → β) : β := xe_fn x.toUInt32.toNat (fun n => k (Int32.ofNat n))
theorem xe_f_eq {β : Type} (x : Int32) (k : Int32 → β) : xe_f x k = k x := by
  unfold xe_f
  rw [xe_fn_eq]
  congr 1
  apply Int32.toBitVec_inj.mp
  simp
noncomputable def xe_lk (t : List (List (Option (Instr × Nat)))) (pc : Nat) : Option (Instr × Nat) := match xe_nth t (pc / 16) with
  | none => none
  | some c => match xe_nth c (pc % 16) with
    | none => none
    | some o => o
noncomputable def xe_jmp {β : Type} (pc : Nat) (off : Int) (go : Nat → Option β) : Option β := Int.rec (motive := fun _ => Option β) (fun t => xe_fn t go) (fun _ => none) ((pc : Int) + off)
theorem xe_jmp_inv {β : Type} {pc : Nat} {off : Int} {go : Nat → Option β} {r : β} (h : xe_jmp pc off go = some r) : ∃ t : Nat, (pc : Int) + off = (t : Int) ∧ go t = some r := by
  unfold xe_jmp at h
  generalize (pc : Int) + off = z at h
  cases z with
  | ofNat t => exact ⟨t, rfl, (xe_fn_eq t go).symm.trans h⟩
  | negSucc t => cases h
/-- a number on top -/
noncomputable def xe_push (x : Int32) (S : List Value) (go : List Value → xR) : xR := xe_f x (fun z => go (.int z :: S))
theorem xe_push_eq (x : Int32) (S : List Value) (go : List Value → xR) : xe_push x S go = go (.int x :: S) := xe_f_eq _ _
noncomputable def xe_bin (g : Int32 → Int32 → Int32) (S : List Value) (go : List Value → xR) : xR := match S with
  | .int y :: .int x :: T => xe_push (g x y) T go
  | _ => none
theorem xe_bin_inv {g : Int32 → Int32 → Int32} {S : List Value} {go : List Value → xR} {r : Option Value × xC} (h : xe_bin g S go = some r) : ∃ (x y : Int32) (T : List Value), S = .int y :: .int x :: T ∧ go (.int (g x y) :: T) = some r := by
  unfold xe_bin at h
  split at h
  · exact ⟨_, _, _, rfl, (xe_push_eq _ _ _).symm.trans h⟩
  · cases h
noncomputable def xe_br1 (q : Int32 → Bool) (S : List Value) (a b : List Value → xR) : xR := match S with
  | .int x :: T => cond (q x) (a T) (b T)
  | _ => none
theorem xe_br1_inv {q : Int32 → Bool} {S : List Value} {a b : List Value → xR} {r : Option Value × xC} (h : xe_br1 q S a b = some r) : ∃ (x : Int32) (T : List Value), S = .int x :: T ∧ ((q x = true → a T = some r) ∧ (q x = false → b T = some r)) := by
  unfold xe_br1 at h
  split at h
  · refine ⟨_, _, rfl, fun e => ?_, fun e => ?_⟩ <;> (rw [e] at h; exact h)
  · cases h
noncomputable def xe_br2 (q : Int32 → Int32 → Bool) (S : List Value) (a b : List Value → xR) : xR := match S with
  | .int y :: .int x :: T => cond (q x y) (a T) (b T)
  | _ => none
theorem xe_br2_inv {q : Int32 → Int32 → Bool} {S : List Value} {a b : List Value → xR} {r : Option Value × xC} (h : xe_br2 q S a b = some r) : ∃ (x y : Int32) (T : List Value), S = .int y :: .int x :: T ∧ ((q x y = true → a T = some r) ∧ (q x y = false → b T = some r)) := by
  unfold xe_br2 at h
  split at h
  · refine ⟨_, _, _, rfl, fun e => ?_, fun e => ?_⟩ <;> (rw [e] at h; exact h)
  · cases h
noncomputable def xe_ldi (L : xL) (i : Nat) (S : List Value) (go : List Value → xR) : xR := match xe_as L i with
  | some (.int x) => go (.int x :: S)
  | _ => none
theorem xe_ldi_inv {L : xL} {i : Nat} {S : List Value} {go : List Value → xR} {r : Option Value × xC} (h : xe_ldi L i S go = some r) : ∃ x : Int32, (i, Value.int x) ∈ L ∧ go (.int x :: S) = some r := by
  unfold xe_ldi at h
  split at h
  · rename_i x hx
    exact ⟨x, xe_as_mem hx, h⟩
  · cases h
noncomputable def xe_lda (L : xL) (i : Nat) (S : List Value) (go : List Value → xR) : xR := match xe_as L i with
  | some (.ref x) => go (.ref x :: S)
  | _ => none
theorem xe_lda_inv {L : xL} {i : Nat} {S : List Value} {go : List Value → xR} {r : Option Value × xC} (h : xe_lda L i S go = some r) : ∃ x : Nat, (i, Value.ref x) ∈ L ∧ go (.ref x :: S) = some r := by
  unfold xe_lda at h
  split at h
  · rename_i x hx
    exact ⟨x, xe_as_mem hx, h⟩
  · cases h
def xe_st (L : xL) (i : Nat) (v : Value) : xL := (i, v) :: L.filter (fun q => !(q.1 == i) && !(q.1 + 1 == i && q.2.category == 2))
noncomputable def xe_sti (N : Nat) (L : xL) (i : Nat) (S : List Value) (go : xL → List Value → xR) : xR := match S with
  | .int x :: T => cond (Nat.blt i N) (go (xe_st L i (.int x)) T) none
  | _ => none
theorem xe_sti_inv {N : Nat} {L : xL} {i : Nat} {S : List Value} {go : xL → List Value → xR} {r : Option Value × xC} (h : xe_sti N L i S go = some r) : ∃ (x : Int32) (T : List Value), S = .int x :: T ∧ i < N ∧ go (xe_st L i (.int x)) T = some r := by
  unfold xe_sti at h
  split at h
  · cases hq : Nat.blt i N with
    | true => rw [hq] at h; exact ⟨_, _, rfl, Nat.blt_eq.mp hq, h⟩
    | false => rw [hq] at h; cases h
  · cases h
noncomputable def xe_inc (N : Nat) (L : xL) (i : Nat) (n : Int) (go : xL → xR) : xR := match xe_as L i with
  | some (.int x) => cond (Nat.blt i N) (xe_f (x + Int32.ofInt n) (fun z => go (xe_st L i (.int z)))) none
  | _ => none
theorem xe_inc_inv {N : Nat} {L : xL} {i : Nat} {n : Int} {go : xL → xR} {r : Option Value × xC} (h : xe_inc N L i n go = some r) : ∃ x : Int32, (i, Value.int x) ∈ L ∧ i < N ∧ go (xe_st L i (.int (x + Int32.ofInt n))) = some r := by
  unfold xe_inc at h
  split at h
  · rename_i x hx
    cases hq : Nat.blt i N with
    | true =>
      rw [hq] at h
      have h : xe_f (x + Int32.ofInt n) (fun z => go (xe_st L i (.int z))) = some r := h
      rw [xe_f_eq] at h
      exact ⟨x, xe_as_mem hx, Nat.blt_eq.mp hq, h⟩
    | false => rw [hq] at h; cases h
  · cases h
noncomputable def xe_get (F : List (Nat × Nat × Nat × Nat)) (idx : Nat) (C : xC) (S : List Value) (go : List Value → xR) : xR := match S with
  | .ref a :: T => match xe_as F idx with
    | some (ci, j, _) => match xe_nth C a with
      | some (.inr (cj, fs)) => cond (Nat.beq cj ci) (match xe_nth fs j with
        | some v => go (v :: T)
        | none => none) none
      | _ => none
    | none => none
  | _ => none
theorem xe_get_inv {F : List (Nat × Nat × Nat × Nat)} {idx : Nat} {C : xC} {S : List Value} {go : List Value → xR} {r : Option Value × xC} (h : xe_get F idx C S go = some r) : ∃ (a : Nat) (T : List Value) (ci j t : Nat) (fs : List Value) (v : Value), S = .ref a :: T ∧ (idx, ci, j, t) ∈ F ∧ C[a]? = some (.inr (ci, fs)) ∧ fs[j]? = some v ∧ go (v :: T) = some r := by
  unfold xe_get at h
  split at h
  · split at h
    · rename_i hF
      split at h
      · rename_i ci j t _ cj fs hC
        cases hq : Nat.beq cj ci with
        | true =>
          rw [hq] at h
          have e := Nat.eq_of_beq_eq_true hq
          subst e
          simp only [cond_true] at h
          split at h
          · rename_i v hv
            exact ⟨_, _, cj, j, t, fs, v, rfl, xe_as_mem hF, (xe_nth_eq C _).symm.trans hC, (xe_nth_eq fs j).symm.trans hv, h⟩
          · cases h
        | false => rw [hq] at h; cases h
      · cases h
    · cases h
  · cases h
/-- a number that a field of its kind may hold -/
def xe_fit (t : Nat) (v : Int32) : Bool := cond (Nat.beq t 0) true (cond (Nat.beq t 1) (decide (v = 0) || decide (v = 1)) false)
noncomputable def xe_put (F : List (Nat × Nat × Nat × Nat)) (idx : Nat) (C : xC) (S : List Value) (go : xC → List Value → xR) : xR := match S with
  | .int v :: .ref a :: T => match xe_as F idx with
    | some (ci, j, t) => match xe_nth C a with
      | some (.inr (cj, fs)) => cond (Nat.beq cj ci && (xe_fit t v && Nat.blt j fs.length)) (xe_set fs j (.int v) fun fs' => xe_set C a (.inr (ci, fs')) fun C' => go C' T) none
      | _ => none
    | none => none
  | _ => none
theorem xe_put_inv {F : List (Nat × Nat × Nat × Nat)} {idx : Nat} {C : xC} {S : List Value} {go : xC → List Value → xR} {r : Option Value × xC} (h : xe_put F idx C S go = some r) : ∃ (a : Nat) (T : List Value) (ci j t : Nat) (fs : List Value) (v : Int32), S = .int v :: .ref a :: T ∧ (idx, ci, j, t) ∈ F ∧ C[a]? = some (.inr (ci, fs)) ∧ xe_fit t v = true ∧ j < fs.length ∧ go (C.set a (.inr (ci, fs.set j (.int v)))) T = some r := by
  unfold xe_put at h
  split at h
  · split at h
    · rename_i hF
      split at h
      · rename_i v _ _ _ ci j t _ cj fs hC
        cases hq : (Nat.beq cj ci && (xe_fit t v && Nat.blt j fs.length)) with
        | true =>
          rw [hq] at h
          simp only [Bool.and_eq_true] at hq
          have e := Nat.eq_of_beq_eq_true hq.1
          subst e
          simp only [cond_true, xe_set_eq] at h
          exact ⟨_, _, cj, j, t, fs, v, rfl, xe_as_mem hF, (xe_nth_eq C _).symm.trans hC, hq.2.1, Nat.blt_eq.mp hq.2.2, h⟩
        | false => rw [hq] at h; cases h
      · cases h
    · cases h
  · cases h
noncomputable def xe_ald (tag : Nat) (C : xC) (S : List Value) (go : List Value → xR) : xR := match S with
  | .int i :: .ref a :: T => match xe_nth C a with
    | some (.inl (t, n, .inl f)) => cond (Nat.beq t tag && decide (¬ (i < 0 ∨ n ≤ i.toNatClampNeg))) (xe_fn i.toNatClampNeg fun j => xe_push (f j) T go) none
    | _ => none
  | _ => none
theorem xe_ald_inv {tag : Nat} {C : xC} {S : List Value} {go : List Value → xR} {r : Option Value × xC} (h : xe_ald tag C S go = some r) : ∃ (i : Int32) (a : Nat) (T : List Value) (n : Nat) (f : Nat → Int32), S = .int i :: .ref a :: T ∧ C[a]? = some (.inl (tag, n, .inl f)) ∧ vp_in i n ∧ go (.int (f i.toNatClampNeg) :: T) = some r := by
  unfold xe_ald at h
  split at h
  · split at h
    · rename_i i _ _ _ t n f hC
      cases hq : (Nat.beq t tag && decide (¬ (i < 0 ∨ n ≤ i.toNatClampNeg))) with
      | true =>
        rw [hq] at h
        simp only [Bool.and_eq_true, decide_eq_true_eq] at hq
        have e := Nat.eq_of_beq_eq_true hq.1
        subst e
        simp only [cond_true, xe_fn_eq, xe_push_eq] at h
        exact ⟨i, _, _, n, f, rfl, (xe_nth_eq C _).symm.trans hC, hq.2, h⟩
      | false => rw [hq] at h; cases h
    · cases h
  · cases h
noncomputable def xe_ast (tag : Nat) (nar : Int32 → Int32) (C : xC) (S : List Value) (go : xC → List Value → xR) : xR := match S with
  | .int x :: .int i :: .ref a :: T => match xe_nth C a with
    | some (.inl (t, n, .inl f)) => cond (Nat.beq t tag && decide (¬ (i < 0 ∨ n ≤ i.toNatClampNeg))) (xe_fn i.toNatClampNeg fun j => xe_f (nar x) fun z => xe_set C a (.inl (t, n, .inl (upd f j z))) fun C' => go C' T) none
    | _ => none
  | _ => none
theorem xe_ast_inv {tag : Nat} {nar : Int32 → Int32} {C : xC} {S : List Value} {go : xC → List Value → xR} {r : Option Value × xC} (h : xe_ast tag nar C S go = some r) : ∃ (x i : Int32) (a : Nat) (T : List Value) (n : Nat) (f : Nat → Int32), S = .int x :: .int i :: .ref a :: T ∧ C[a]? = some (.inl (tag, n, .inl f)) ∧ vp_in i n ∧ go (C.set a (.inl (tag, n, .inl (upd f i.toNatClampNeg (nar x))))) T = some r := by
  unfold xe_ast at h
  split at h
  · split at h
    · rename_i x i _ _ _ t n f hC
      cases hq : (Nat.beq t tag && decide (¬ (i < 0 ∨ n ≤ i.toNatClampNeg))) with
      | true =>
        rw [hq] at h
        simp only [Bool.and_eq_true, decide_eq_true_eq] at hq
        have e := Nat.eq_of_beq_eq_true hq.1
        subst e
        simp only [cond_true, xe_fn_eq, xe_f_eq, xe_set_eq] at h
        exact ⟨x, i, _, _, n, f, rfl, (xe_nth_eq C _).symm.trans hC, hq.2, h⟩
      | false => rw [hq] at h; cases h
    · cases h
  · cases h
noncomputable def xe_aln (C : xC) (S : List Value) (go : List Value → xR) : xR := match S with
  | .ref a :: T => match xe_nth C a with
    | some (.inl (t, n, _)) => cond (Nat.ble t 1) (xe_push (Int32.ofNat n) T go) none
    | _ => none
  | _ => none
theorem xe_aln_inv {C : xC} {S : List Value} {go : List Value → xR} {r : Option Value × xC} (h : xe_aln C S go = some r) : ∃ (a : Nat) (T : List Value) (t : Nat) (x : vp_A), S = .ref a :: T ∧ C[a]? = some (.inl (t, x)) ∧ t ≤ 1 ∧ go (.int (Int32.ofNat x.1) :: T) = some r := by
  unfold xe_aln at h
  split at h
  · split at h
    · rename_i t n x hC
      cases hq : Nat.ble t 1 with
      | true =>
        rw [hq] at h
        simp only [cond_true, xe_push_eq] at h
        exact ⟨_, _, t, (n, x), rfl, (xe_nth_eq C _).symm.trans hC, Nat.le_of_ble_eq_true hq, h⟩
      | false => rw [hq] at h; cases h
    · cases h
  · cases h
noncomputable def xe_pop : Nat → List Value → List Value → Option (List Value × List Value) := fun n => Nat.rec (motive := fun _ => List Value → List Value → Option (List Value × List Value)) (fun S acc => some (acc, S)) (fun _ ih S acc => List.rec (motive := fun _ => Option (List Value × List Value)) none (fun v T _ => ih T (v :: acc)) S) n
theorem xe_pop_inv {n : Nat} {S acc As rest : List Value} (h : xe_pop n S acc = some (As, rest)) : ∃ ts : List Value, ts.length = n ∧ S = ts ++ rest ∧ As = ts.reverse ++ acc := by
  induction n generalizing S acc with
  | zero =>
    have h : some (acc, S) = some (As, rest) := h
    cases h
    exact ⟨[], rfl, rfl, rfl⟩
  | succ n ih =>
    cases S with
    | nil => cases h
    | cons v T =>
      obtain ⟨ts, h1, h2, h3⟩ := ih (S := T) (acc := v :: acc) h
      exact ⟨v :: ts, by simp [h1], by rw [h2]; rfl, by rw [h3]; simp⟩
def xe_c1 (vs : List Value) : Bool := vs.all (fun v => Nat.beq v.category 1)
noncomputable def xe_call (X' : xM) (ih : xH) (k : Nat) (C : xC) (pc : Nat) (L : xL) (k' : Nat) (vs rest : List Value) : xR :=
  cond (decide ((rest.map fun v => v.category).sum ≤ 8) && (xe_c1 vs && Nat.ble vs.length (xm_n X'))) (match ih k' C 0 (lv_args 0 vs) [] with
    | some (none, C') => ih k C' (pc + 3) L rest
    | some (some (.int v), C') => ih k C' (pc + 3) L (.int v :: rest)
    | _ => none) none
theorem xe_call_inv {X' : xM} {ih : xH} {k : Nat} {C : xC} {pc : Nat} {L : xL} {k' : Nat} {vs rest : List Value} {r : Option Value × xC} (h : xe_call X' ih k C pc L k' vs rest = some r) : (rest.map fun v => v.category).sum ≤ 8 ∧ xe_c1 vs = true ∧ vs.length ≤ xm_n X' ∧ ∃ C1 : xC, (ih k' C 0 (lv_args 0 vs) [] = some (none, C1) ∧ ih k C1 (pc + 3) L rest = some r) ∨ ∃ v : Int32, ih k' C 0 (lv_args 0 vs) [] = some (some (.int v), C1) ∧ ih k C1 (pc + 3) L (.int v :: rest) = some r := by
  unfold xe_call at h
  cases hq : (decide ((rest.map fun v => v.category).sum ≤ 8) && (xe_c1 vs && Nat.ble vs.length (xm_n X'))) with
  | true =>
    rw [hq] at h
    simp only [Bool.and_eq_true, decide_eq_true_eq] at hq
    simp only [cond_true] at h
    refine ⟨hq.1, hq.2.1, Nat.le_of_ble_eq_true hq.2.2, ?_⟩
    split at h
    · rename_i C1 h1
      exact ⟨C1, Or.inl ⟨h1, h⟩⟩
    · rename_i v C1 h1
      exact ⟨C1, Or.inr ⟨v, h1, h⟩⟩
    · cases h
  | false => rw [hq] at h; cases h
noncomputable def xe_inv (M : Nat → xM) (ih : xH) (k : Nat) (C : xC) (pc : Nat) (L : xL) (S : List Value) (virt : Bool) (idx : Nat) : xR := match xe_as (xm_I (M k)) idx with
  | some (k', n, kd, ci) => match xe_pop n S [] with
    | some (As, rest) => cond virt (cond (Nat.beq kd 0) (match rest with
        | .ref b :: T => match xe_nth C b with
          | some (.inr (cj, _)) => cond (Nat.beq cj ci) (xe_call (M k') ih k C pc L k' (.ref b :: As) T) none
          | _ => none
        | _ => none) none) (cond (Nat.beq kd 0) none (xe_call (M k') ih k C pc L k' As rest))
    | none => none
  | none => none
theorem xe_inv_v {M : Nat → xM} {ih : xH} {k : Nat} {C : xC} {pc : Nat} {L : xL} {S : List Value} {idx : Nat} {r : Option Value × xC} (h : xe_inv M ih k C pc L S true idx = some r) : ∃ (k' n ci : Nat) (As T : List Value) (b : Nat) (fs : List Value), (idx, k', n, 0, ci) ∈ xm_I (M k) ∧ S = As.reverse ++ .ref b :: T ∧ As.length = n ∧ C[b]? = some (.inr (ci, fs)) ∧ xe_call (M k') ih k C pc L k' (.ref b :: As) T = some r := by
  unfold xe_inv at h
  split at h
  · rename_i k' n kd ci hI
    split at h
    · rename_i As rest hp
      simp only [cond_true] at h
      cases hk : Nat.beq kd 0 with
      | true =>
        rw [hk] at h
        have e := Nat.eq_of_beq_eq_true hk
        subst e
        simp only [cond_true] at h
        split at h
        · split at h
          · rename_i b T _ cj fs hC
            cases hq : Nat.beq cj ci with
            | true =>
              rw [hq] at h
              have e := Nat.eq_of_beq_eq_true hq
              subst e
              obtain ⟨ts, h1, h2, h3⟩ := xe_pop_inv hp
              exact ⟨k', n, cj, As, T, b, fs, xe_as_mem hI, by rw [h2, h3]; simp, by rw [h3]; simp [h1], (xe_nth_eq C _).symm.trans hC, h⟩
            | false => rw [hq] at h; cases h
          · cases h
        · cases h
      | false => rw [hk] at h; cases h
    · cases h
  · cases h
theorem xe_inv_s {M : Nat → xM} {ih : xH} {k : Nat} {C : xC} {pc : Nat} {L : xL} {S : List Value} {idx : Nat} {r : Option Value × xC} (h : xe_inv M ih k C pc L S false idx = some r) : ∃ (k' n kd ci : Nat) (As T : List Value), (idx, k', n, kd, ci) ∈ xm_I (M k) ∧ kd ≠ 0 ∧ S = As.reverse ++ T ∧ As.length = n ∧ xe_call (M k') ih k C pc L k' As T = some r := by
  unfold xe_inv at h
  split at h
  · rename_i k' n kd ci hI
    split at h
    · rename_i As rest hp
      simp only [cond_false] at h
      cases hk : Nat.beq kd 0 with
      | true => rw [hk] at h; cases h
      | false =>
        rw [hk] at h
        obtain ⟨ts, h1, h2, h3⟩ := xe_pop_inv hp
        exact ⟨k', n, kd, ci, As, rest, xe_as_mem hI, (fun e => by rw [e] at hk; cases hk), by rw [h2, h3]; simp, by rw [h3]; simp [h1], h⟩
    · cases h
  · cases h
noncomputable def xe_irt (ret : Option FieldType) (C : xC) (S : List Value) : xR := match S, ret with
  | [.int v], some .int => some (some (.int v), C)
  | [.int v], some .boolean => cond (decide (v = 0) || decide (v = 1)) (some (some (.int v), C)) none
  | _, _ => none
theorem xe_irt_inv {ret : Option FieldType} {C : xC} {S : List Value} {r : Option Value} {C' : xC} (h : xe_irt ret C S = some (r, C')) : ∃ v : Int32, S = [.int v] ∧ r = some (.int v) ∧ C' = C ∧ (ret = some .int ∨ (ret = some .boolean ∧ (v = 0 ∨ v = 1))) := by
  unfold xe_irt at h
  split at h
  · cases h
    exact ⟨_, rfl, rfl, rfl, Or.inl rfl⟩
  · rename_i v
    cases hq : (decide (v = 0) || decide (v = 1)) with
    | true =>
      rw [hq] at h
      simp only [cond_true] at h
      cases h
      simp only [Bool.or_eq_true, decide_eq_true_eq] at hq
      exact ⟨v, rfl, rfl, rfl, Or.inr ⟨rfl, hq⟩⟩
    | false => rw [hq] at h; cases h
  · cases h
noncomputable def xe_vrt (ret : Option FieldType) (C : xC) (S : List Value) : xR := match S, ret with
  | [], none => some (none, C)
  | _, _ => none
theorem xe_vrt_inv {ret : Option FieldType} {C : xC} {S : List Value} {r : Option Value} {C' : xC} (h : xe_vrt ret C S = some (r, C')) : S = [] ∧ r = none ∧ C' = C ∧ ret = none := by
  unfold xe_vrt at h
  split at h
  · cases h
    exact ⟨rfl, rfl, rfl, rfl⟩
  · cases h
noncomputable def xe_swt (pc : Nat) (dflt lo hi : Int) (offs : Array Int) (S : List Value) (go : Nat → List Value → xR) : xR := match S with
  | .int x :: T => cond (decide (x.toInt < lo) || decide (hi < x.toInt)) (xe_jmp pc dflt fun t => go t T) (match xe_nth offs.toList (x.toInt - lo).toNat with
    | some off => xe_jmp pc off fun t => go t T
    | none => none)
  | _ => none
theorem xe_swt_inv {pc : Nat} {dflt lo hi : Int} {offs : Array Int} {S : List Value} {go : Nat → List Value → xR} {r : Option Value × xC} (h : xe_swt pc dflt lo hi offs S go = some r) : ∃ (x : Int32) (T : List Value), S = .int x :: T ∧ (((x.toInt < lo ∨ hi < x.toInt) ∧ ∃ t : Nat, (pc : Int) + dflt = (t : Int) ∧ go t T = some r) ∨ (¬ x.toInt < lo ∧ ¬ hi < x.toInt ∧ ∃ (off : Int) (t : Nat), offs[(x.toInt - lo).toNat]? = some off ∧ (pc : Int) + off = (t : Int) ∧ go t T = some r)) := by
  unfold xe_swt at h
  split at h
  · rename_i x T
    cases hq : (decide (x.toInt < lo) || decide (hi < x.toInt)) with
    | true =>
      rw [hq] at h
      simp only [Bool.or_eq_true, decide_eq_true_eq] at hq
      simp only [cond_true] at h
      obtain ⟨t, h1, h2⟩ := xe_jmp_inv h
      exact ⟨x, T, rfl, Or.inl ⟨hq, t, h1, h2⟩⟩
    | false =>
      rw [hq] at h
      simp only [Bool.or_eq_false_iff, decide_eq_false_iff_not] at hq
      simp only [cond_false] at h
      split at h
      · rename_i off ho
        obtain ⟨t, h1, h2⟩ := xe_jmp_inv h
        exact ⟨x, T, rfl, Or.inr ⟨hq.1, hq.2, off, t, by rw [xe_nth_eq] at ho; simpa using ho, h1, h2⟩⟩
      · cases h
  · cases h
noncomputable def xe_swl (pc : Nat) (dflt : Int) (ps : Array (Int × Int)) (S : List Value) (go : Nat → List Value → xR) : xR := match S with
  | .int x :: T => cond ((ps.toList.zip (ps.toList.drop 1)).all (fun (a, next) => a.1 < next.1)) (xe_jmp pc (Op.lookupswitch.offset ps.toList dflt x.toInt) fun t => go t T) none
  | _ => none
theorem xe_swl_inv {pc : Nat} {dflt : Int} {ps : Array (Int × Int)} {S : List Value} {go : Nat → List Value → xR} {r : Option Value × xC} (h : xe_swl pc dflt ps S go = some r) : ∃ (x : Int32) (T : List Value) (t : Nat), S = .int x :: T ∧ (ps.toList.zip (ps.toList.drop 1)).all (fun (a, next) => a.1 < next.1) = true ∧ (pc : Int) + Op.lookupswitch.offset ps.toList dflt x.toInt = (t : Int) ∧ go t T = some r := by
  unfold xe_swl at h
  split at h
  · rename_i x T
    cases hq : ((ps.toList.zip (ps.toList.drop 1)).all (fun (a, next) => a.1 < next.1)) with
    | true =>
      rw [hq] at h
      simp only [cond_true] at h
      obtain ⟨t, h1, h2⟩ := xe_jmp_inv h
      exact ⟨x, T, t, rfl, rfl, h1, h2⟩
    | false => rw [hq] at h; cases h
  · cases h
noncomputable def xe_ldc (K : List (Nat × Int32)) (idx : Nat) (S : List Value) (go : List Value → xR) : xR := match xe_as K idx with
  | some v => go (.int v :: S)
  | none => none
theorem xe_ldc_inv {K : List (Nat × Int32)} {idx : Nat} {S : List Value} {go : List Value → xR} {r : Option Value × xC} (h : xe_ldc K idx S go = some r) : ∃ v : Int32, (idx, v) ∈ K ∧ go (.int v :: S) = some r := by
  unfold xe_ldc at h
  split at h
  · rename_i v hv
    exact ⟨v, xe_as_mem hv, h⟩
  · cases h
noncomputable def xe_dup (S : List Value) (go : List Value → xR) : xR := match S with
  | v :: T => cond (Nat.beq v.category 1) (go (v :: v :: T)) none
  | _ => none
theorem xe_dup_inv {S : List Value} {go : List Value → xR} {r : Option Value × xC} (h : xe_dup S go = some r) : ∃ (v : Value) (T : List Value), S = v :: T ∧ v.category = 1 ∧ go (v :: v :: T) = some r := by
  unfold xe_dup at h
  split at h
  · rename_i v T
    cases hq : Nat.beq v.category 1 with
    | true => rw [hq] at h; exact ⟨v, T, rfl, Nat.eq_of_beq_eq_true hq, h⟩
    | false => rw [hq] at h; cases h
  · cases h
noncomputable def xe_dup2 (S : List Value) (go : List Value → xR) : xR := match S with
  | v :: w :: T => cond (Nat.beq v.category 1 && Nat.beq w.category 1) (go (v :: w :: v :: w :: T)) none
  | _ => none
theorem xe_dup2_inv {S : List Value} {go : List Value → xR} {r : Option Value × xC} (h : xe_dup2 S go = some r) : ∃ (v w : Value) (T : List Value), S = v :: w :: T ∧ v.category = 1 ∧ w.category = 1 ∧ go (v :: w :: v :: w :: T) = some r := by
  unfold xe_dup2 at h
  split at h
  · rename_i v w T
    cases hq : (Nat.beq v.category 1 && Nat.beq w.category 1) with
    | true =>
      rw [hq] at h
      simp only [Bool.and_eq_true] at hq
      exact ⟨v, w, T, rfl, Nat.eq_of_beq_eq_true hq.1, Nat.eq_of_beq_eq_true hq.2, h⟩
    | false => rw [hq] at h; cases h
  · cases h
noncomputable def xe_pop1 (S : List Value) (go : List Value → xR) : xR := match S with
  | v :: T => cond (Nat.beq v.category 1) (go T) none
  | _ => none
theorem xe_pop1_inv {S : List Value} {go : List Value → xR} {r : Option Value × xC} (h : xe_pop1 S go = some r) : ∃ (v : Value) (T : List Value), S = v :: T ∧ v.category = 1 ∧ go T = some r := by
  unfold xe_pop1 at h
  split at h
  · rename_i v T
    cases hq : Nat.beq v.category 1 with
    | true => rw [hq] at h; exact ⟨v, T, rfl, Nat.eq_of_beq_eq_true hq, h⟩
    | false => rw [hq] at h; cases h
  · cases h
/-- one instruction -/
noncomputable def xe_i (M : Nat → xM) (ih : xH) (k : Nat) (C : xC) (pc : Nat) (L : xL) (S : List Value) (i : Instr) : xR := match i with
  | .iconst v => xe_push (Int32.ofInt v) S (ih k C (pc + 1) L)
  | .bipush v => xe_push (Int8.ofInt v).toInt32 S (ih k C (pc + 2) L)
  | .sipush v => xe_push (Int16.ofInt v).toInt32 S (ih k C (pc + 3) L)
  | .ldc idx => xe_ldc (xm_K (M k)) idx S (ih k C (pc + 2) L)
  | .ldc_w idx => xe_ldc (xm_K (M k)) idx S (ih k C (pc + 3) L)
  | .iload_n j => xe_ldi L j.val S (ih k C (pc + 1) L)
  | .iload j => xe_ldi L j S (ih k C (pc + 2) L)
  | .aload_n j => xe_lda L j.val S (ih k C (pc + 1) L)
  | .aload j => xe_lda L j S (ih k C (pc + 2) L)
  | .istore_n j => xe_sti (xm_n (M k)) L j.val S (ih k C (pc + 1))
  | .istore j => xe_sti (xm_n (M k)) L j S (ih k C (pc + 2))
  | .iinc j n0 => xe_inc (xm_n (M k)) L j n0 (fun L' => ih k C (pc + 3) L' S)
  | .iadd => xe_bin (fun x y => x + y) S (ih k C (pc + 1) L)
  | .isub => xe_bin (fun x y => x - y) S (ih k C (pc + 1) L)
  | .imul => xe_bin (fun x y => x * y) S (ih k C (pc + 1) L)
  | .iand => xe_bin (fun x y => x &&& y) S (ih k C (pc + 1) L)
  | .ior => xe_bin (fun x y => x ||| y) S (ih k C (pc + 1) L)
  | .ixor => xe_bin (fun x y => x ^^^ y) S (ih k C (pc + 1) L)
  | .ishl => xe_bin (fun x y => x <<< (y &&& 31)) S (ih k C (pc + 1) L)
  | .ishr => xe_bin (fun x y => x >>> (y &&& 31)) S (ih k C (pc + 1) L)
  | .iushr => xe_bin (fun x y => (x.toUInt32 >>> (y.toUInt32 &&& Int32.toUInt32 31)).toInt32) S (ih k C (pc + 1) L)
  | .dup => xe_dup S (ih k C (pc + 1) L)
  | .dup2 => xe_dup2 S (ih k C (pc + 1) L)
  | .pop => xe_pop1 S (ih k C (pc + 1) L)
  | .goto off => xe_jmp pc off (fun t => ih k C t L S)
  | .ifCond .eq off => xe_jmp pc off fun t => xe_br1 (fun x => decide (x = 0)) S (ih k C t L) (ih k C (pc + 3) L)
  | .ifCond .ne off => xe_jmp pc off fun t => xe_br1 (fun x => decide (x ≠ 0)) S (ih k C t L) (ih k C (pc + 3) L)
  | .ifCond .lt off => xe_jmp pc off fun t => xe_br1 (fun x => decide (x < 0)) S (ih k C t L) (ih k C (pc + 3) L)
  | .ifCond .ge off => xe_jmp pc off fun t => xe_br1 (fun x => decide (0 ≤ x)) S (ih k C t L) (ih k C (pc + 3) L)
  | .ifCond .gt off => xe_jmp pc off fun t => xe_br1 (fun x => decide (0 < x)) S (ih k C t L) (ih k C (pc + 3) L)
  | .ifCond .le off => xe_jmp pc off fun t => xe_br1 (fun x => decide (x ≤ 0)) S (ih k C t L) (ih k C (pc + 3) L)
  | .if_icmp .eq off => xe_jmp pc off fun t => xe_br2 (fun x y => decide (x = y)) S (ih k C t L) (ih k C (pc + 3) L)
  | .if_icmp .ne off => xe_jmp pc off fun t => xe_br2 (fun x y => decide (x ≠ y)) S (ih k C t L) (ih k C (pc + 3) L)
  | .if_icmp .lt off => xe_jmp pc off fun t => xe_br2 (fun x y => decide (x < y)) S (ih k C t L) (ih k C (pc + 3) L)
  | .if_icmp .ge off => xe_jmp pc off fun t => xe_br2 (fun x y => decide (y ≤ x)) S (ih k C t L) (ih k C (pc + 3) L)
  | .if_icmp .gt off => xe_jmp pc off fun t => xe_br2 (fun x y => decide (y < x)) S (ih k C t L) (ih k C (pc + 3) L)
  | .if_icmp .le off => xe_jmp pc off fun t => xe_br2 (fun x y => decide (x ≤ y)) S (ih k C t L) (ih k C (pc + 3) L)
  | .tableswitch dflt lo hi offs => xe_swt pc dflt lo hi offs S (fun t T => ih k C t L T)
  | .lookupswitch dflt ps => xe_swl pc dflt ps S (fun t T => ih k C t L T)
  | .getfield idx => xe_get (xm_F (M k)) idx C S (ih k C (pc + 3) L)
  | .putfield idx => xe_put (xm_F (M k)) idx C S (fun C' T => ih k C' (pc + 3) L T)
  | .iaload => xe_ald 0 C S (ih k C (pc + 1) L)
  | .baload => xe_ald 1 C S (ih k C (pc + 1) L)
  | .iastore => xe_ast 0 (fun x => x) C S (fun C' T => ih k C' (pc + 1) L T)
  | .bastore => xe_ast 1 (fun x => vp_nar .boolean x) C S (fun C' T => ih k C' (pc + 1) L T)
  | .arraylength => xe_aln C S (ih k C (pc + 1) L)
  | .invokevirtual idx => xe_inv M ih k C pc L S true idx
  | .invokestatic idx => xe_inv M ih k C pc L S false idx
  | .ireturn => xe_irt (xm_r (M k)) C S
  | .return_ => xe_vrt (xm_r (M k)) C S
  | _ => none
noncomputable def xe_b (M : Nat → xM) (ih : xH) : xH := fun k C pc0 L S => xe_fn pc0 fun pc => match xe_lk (xm_t (M k)) pc with
  | none => none
  | some (i, _) => xe_i M ih k C pc L S i
/-- the run of a method: n instructions at most on every way -/
noncomputable def xe (M : Nat → xM) (n : Nat) : xH := Nat.rec (motive := fun _ => xH) (fun _ _ _ _ _ => none) (fun _ ih => xe_b M ih) n
/-- the length of an instruction, where it is fixed -/
def xe_okl (i : Instr) (len : Nat) : Bool := match i with
  | .bipush _ | .ldc _ | .iload _ | .aload _ | .istore _ => Nat.beq len 2
  | .sipush _ | .ldc_w _ | .iinc _ _ | .goto _ | .ifCond _ _ | .if_icmp _ _ | .getfield _ | .putfield _ | .invokevirtual _ | .invokestatic _ => Nat.beq len 3
  | .tableswitch _ _ _ _ | .lookupswitch _ _ => true
  | _ => Nat.beq len 1
end
section
/-! WHAT THE EXECUTOR ANSWERS THE MACHINE ANSWERS -/
def xv (ρ : Nat → Nat) (v : Value) : Value := match v with
  | .ref a => .ref (ρ a)
  | u => u
theorem xv_cat (ρ : Nat → Nat) (v : Value) : (xv ρ v).category = v.category := by cases v <;> rfl
def xcy (cI cZ : ClassId) (t : Nat) : ClassId := match t with
  | 0 => cI
  | _ => cZ
def xd (cI cZ : ClassId) (ρ : Nat → Nat) (e : va_E) : va_E := match e with
  | .inl a => .inl (xcy cI cZ a.1, a.2)
  | .inr b => .inr (b.1, b.2.map (xv ρ))
def xw (cI cZ : ClassId) (ρ : Nat → Nat) (C : xC) : va_W := C.mapIdx (fun i e => (ρ i, xd cI cZ ρ e))
def xl (ρ : Nat → Nat) (L : xL) : xL := L.map (fun q => (q.1, xv ρ q.2))
theorem xw_get {cI cZ : ClassId} {ρ : Nat → Nat} {C : xC} {a : Nat} {e : va_E} (h : C[a]? = some e) : (xw cI cZ ρ C)[a]? = some (ρ a, xd cI cZ ρ e) := by
  simp [xw, h]
theorem xw_set {cI cZ : ClassId} {ρ : Nat → Nat} {C : xC} {a : Nat} {e : va_E} : (xw cI cZ ρ C).set a (ρ a, xd cI cZ ρ e) = xw cI cZ ρ (C.set a e) := by
  apply List.ext_getElem?
  intro i
  simp only [xw, List.getElem?_set, List.getElem?_mapIdx, List.length_mapIdx]
  by_cases hi : a = i
  · subst hi
    by_cases hl : a < C.length
    · simp [hl]
    · simp [hl]
  · simp [hi]
theorem xw_at {cI cZ : ClassId} {ρ : Nat → Nat} {C : xC} {i : Nat} {p : Nat × va_E} (h : (xw cI cZ ρ C)[i]? = some p) : i < C.length ∧ p.1 = ρ i := by
  simp only [xw, List.getElem?_mapIdx, Option.map_eq_some_iff] at h
  obtain ⟨e, h1, h2⟩ := h
  exact ⟨(List.getElem?_eq_some_iff.mp h1).1, by rw [← h2]⟩
theorem xw_ex {cI cZ : ClassId} {ρ : Nat → Nat} {C : xC} {i : Nat} (h : i < C.length) : ∃ e, (xw cI cZ ρ C)[i]? = some (ρ i, e) := ⟨_, xw_get (List.getElem?_eq_getElem h)⟩
theorem xw_D {A : Nat → Prop} {cI cZ : ClassId} {ρ : Nat → Nat} {C C1 : xC} (hN : C1.length = C.length) (h : va_D A (xw cI cZ ρ C)) : va_D A (xw cI cZ ρ C1) := by
  refine ⟨fun i j p q hi hj e => ?_, fun k q hk => ?_⟩
  · obtain ⟨a1, a2⟩ := xw_at hi
    obtain ⟨b1, b2⟩ := xw_at hj
    obtain ⟨e1, h1⟩ := xw_ex (cI := cI) (cZ := cZ) (ρ := ρ) (C := C) (i := i) (by omega)
    obtain ⟨e2, h2⟩ := xw_ex (cI := cI) (cZ := cZ) (ρ := ρ) (C := C) (i := j) (by omega)
    exact h.1 i j _ _ h1 h2 (by show ρ i = ρ j; rw [← a2, ← b2]; exact e)
  · obtain ⟨a1, a2⟩ := xw_at hk
    obtain ⟨e1, h1⟩ := xw_ex (cI := cI) (cZ := cZ) (ρ := ρ) (C := C) (i := k) (by omega)
    rw [a2]
    exact h.2 k _ h1
theorem xl_mem {ρ : Nat → Nat} {L : xL} {i : Nat} {v : Value} (h : (i, v) ∈ L) : (i, xv ρ v) ∈ xl ρ L := List.mem_map.mpr ⟨_, h, rfl⟩
theorem xl_st (ρ : Nat → Nat) (L : xL) (i : Nat) (v : Value) : (i, xv ρ v) :: (xl ρ L).filter (fun q => !(q.1 == i) && !(q.1 + 1 == i && q.2.category == 2)) = xl ρ (xe_st L i v) := by
  unfold xe_st xl
  rw [List.map_cons, List.filter_map]
  congr 2
  refine List.filter_congr (fun q _ => ?_)
  simp [xv_cat]
theorem xl_args (ρ : Nat → Nat) (vs : List Value) (i : Nat) : lv_args i (vs.map (xv ρ)) = xl ρ (lv_args i vs) := by
  induction vs generalizing i with
  | nil => rfl
  | cons v t ih =>
    show (i, xv ρ v) :: lv_args (if (xv ρ v).category = 2 then i + 2 else i + 1) (t.map (xv ρ)) = (i, xv ρ v) :: xl ρ (lv_args (if v.category = 2 then i + 2 else i + 1) t)
    rw [xv_cat, ih]
theorem xe_len {ρ : Nat → Nat} {vs : List Value} (h : xe_c1 vs = true) : (lg_sl (vs.map (xv ρ))).length = vs.length := by
  induction vs with
  | nil => rfl
  | cons v t ih =>
    simp only [xe_c1, List.all_cons, Bool.and_eq_true] at h
    have e := Nat.eq_of_beq_eq_true h.1
    have i2 := ih h.2
    simp only [lg_sl, List.map_cons, List.flatMap_cons, xv_cat, e] at i2 ⊢
    simpa using i2
theorem xe_has {ls : Array Slot} {nL : Nat} {ρ : Nat → Nat} {L : xL} (h : lv_has ls nL (xl ρ L)) {i : Nat} {v : Value} (hm : (i, v) ∈ L) : ls[i]? = some (.val (xv ρ v)) := h.2.2 (i, xv ρ v) (xl_mem hm)
abbrev xN : Type := List (String × Nat × MethodName × String)
def xe_ws (WS : List Cond) (X : xM) : List Cond := .code (xm_y X) (xm_c X) (xm_n X) (xm_r X) :: WS
def xe_rm (X : xM) : Room := { frames := xm_f X, cells := 0, slots := 0, locals := xm_l X }
def xe_ns (ns : xN) (U : State) : Prop := ∀ q ∈ ns, va_Nw (.methodLinkNest q.1 q.2.1 q.2.2.1 q.2.2.2) U
abbrev xe_ty (cI cZ : ClassId) : List (ClassId × FieldType) := [(cI, .int), (cZ, .boolean)]
def xe_Pc (D : va_G) (CL : List vw_C) (ns : xN) (cI cZ : ClassId) (ρ : Nat → Nat) (C : xC) (av : List Value) (sz : Nat) : Array Value → State → Prop := va_Pc av (fun U => U.heap.size = sz ∧ va_P D CL (xw cI cZ ρ C) U.heap ∧ va_K D CL (xe_ty cI cZ) U ∧ va_D (fun _ => True) (xw cI cZ ρ C) ∧ xe_ns ns U)
theorem xe_blind (D : va_G) (CL : List vw_C) (ns : xN) (cI cZ : ClassId) (ρ : Nat → Nat) (C : xC) (av : List Value) (sz : Nat) : FrameBlind (xe_Pc D CL ns cI cZ ρ C av sz) := fun a U g mk q => by
  obtain ⟨q0, q1, qP, qK, qD, qN⟩ := q
  exact ⟨q0, q1, qP, va_K.moved (u := U) (U := U.calling g mk a) (Vm.Alike.refl U.vm) qK, qD, fun w hw => va_Nw.same rfl rfl (qN w hw)⟩
def xe_Q (D : va_G) (CL : List vw_C) (cI cZ : ClassId) (ρ : Nat → Nat) (A : Nat → Prop) (N : Nat) (r : Option Value) (C' : xC) : Array Value → State → Outcome → State → Prop := match r with
  | none => va_Qv (fun _ : Unit => True) (fun _ t => va_P D CL (xw cI cZ ρ C') t.heap ∧ C'.length = N) A
  | some (.int v) => va_Qi (fun (u : Int32) (_ : Unit) => u = v) (fun _ t => va_P D CL (xw cI cZ ρ C') t.heap ∧ C'.length = N) A
  | _ => fun _ _ _ _ => False
def xOK (M : Nat → xM) (CL : List vw_C) (WS : List Cond) (ns : xN) (k : Nat) : Prop :=
  (∀ (pc : Nat) (i : Instr) (len : Nat), xe_lk (xm_t (M k)) pc = some (i, len) → decode (xm_c (M k)) pc = .ok (i, len) ∧ xe_okl i len = true) ∧
  plainName (xm_y (M k)).cls = true ∧ (xm_y (M k)).cls = xm_o (M k) ∧ Cond.code (xm_y (M k)) (xm_c (M k)) (xm_n (M k)) (xm_r (M k)) ∈ WS ∧ Cond.initialized (xm_y (M k)).cls ∈ WS ∧
  (∀ q ∈ xm_F (M k), ∃ (C : String) (T : u_T) (N : Nat), CL[q.2.1]? = some (C, T, N) ∧ q.2.2.1 < N ∧ Cond.fieldLink (xm_o (M k)) q.1 (T q.2.2.1).1 (T q.2.2.1).2.1 (T q.2.2.1).2.2.1 ∈ WS ∧ (q.2.2.2 = 0 → (T q.2.2.1).2.2.2 = false ∧ parseFieldDescriptor (T q.2.2.1).2.2.1 = some .int) ∧ (q.2.2.2 = 1 → (T q.2.2.1).2.2.2 = false ∧ parseFieldDescriptor (T q.2.2.1).2.2.1 = some .boolean)) ∧
  (∀ q ∈ xm_K (M k), Cond.constant (xm_o (M k)) q.1 q.2 ∈ WS) ∧
  (∀ q ∈ xm_I (M k), xm_f (M q.2.1) + 1 ≤ xm_f (M k) ∧ 8 + (xm_n (M q.2.1) + 11) + xm_l (M q.2.1) ≤ xm_l (M k) ∧ ((xm_y (M q.2.1)).cls ≠ "java/lang/invoke/MethodHandle" ∧ (xm_y (M q.2.1)).cls ≠ "java/lang/invoke/VarHandle" ∧ (parseMethodDescriptor (xm_y (M q.2.1)).desc).map (fun d => d.parameters.length) = some q.2.2.1) ∧
    (q.2.2.2.1 = 0 → Cond.methodLink (xm_o (M k)) q.1 (xm_y (M q.2.1)) ∈ WS ∧ Cond.instanceMethod (xm_y (M q.2.1)) ∈ WS ∧ Cond.selects (xm_y (M q.2.1)).cls (xm_y (M q.2.1)) (xm_y (M q.2.1)) ∈ WS ∧ ∃ (T : u_T) (N : Nat), CL[q.2.2.2.2]? = some ((xm_y (M q.2.1)).cls, T, N)) ∧
    (q.2.2.2.1 = 1 → Cond.methodLink (xm_o (M k)) q.1 (xm_y (M q.2.1)) ∈ WS ∧ Cond.static (xm_y (M q.2.1)) ∈ WS) ∧
    (q.2.2.2.1 ≠ 0 → q.2.2.2.1 ≠ 1 → Cond.static (xm_y (M q.2.1)) ∈ WS ∧ ∃ host : String, (xm_o (M k), q.1, xm_y (M q.2.1), host) ∈ ns))
def xCL (CL : List vw_C) (WS : List Cond) : Prop := ∀ (ci : Nat) (C : String) (T : u_T) (N : Nat), CL[ci]? = some (C, T, N) → (∀ u ∈ u_ws C T N, u ∈ WS) ∧ ∃ ty0 : Nat → FieldType, (∀ k, k < N → parseFieldDescriptor (T k).2.2.1 = some (ty0 k)) ∧ ∀ a, a < N → ∀ b, b < N → a ≠ b → (T a).2.1 ≠ (T b).2.1
def xe_At (M : Nat → xM) (CL : List vw_C) (WS : List Cond) (ns : xN) (D : va_G) (cI cZ : ClassId) (k : Nat) (A : Nat → Prop) (p : Program) (s : State) (m : MethodId) (args : Array Value) (meth : Method) (c : Code) : Prop :=
  p.tables.exec = Jvm.exec ∧ c.code = xm_c (M k) ∧ meth.sig.returnType = xm_r (M k) ∧ meth.locks = false ∧ c.maxLocals = xm_n (M k) ∧ s.vm.findClass (xm_o (M k)) = some m.cls ∧ (∀ u ∈ xe_ws WS (M k), u.before args s = true) ∧ xe_ns ns s ∧ va_K D CL (xe_ty cI cZ) s ∧ ∀ q : Nat, s.heap.size ≤ q → A q
def xe_WS (M : Nat → xM) (CL : List vw_C) (WS : List Cond) (ns : xN) (l : Launch) (D : va_G) (cI cZ : ClassId) (ρ : Nat → Nat) (n : Nat) : Prop :=
  ∀ (k : Nat) (C : xC) (pc : Nat) (L : xL) (S : List Value) (r : Option Value) (C' : xC) (A : Nat → Prop) (N : Nat) (p : Program) (e : Env) (s : State) (m : MethodId) (args : Array Value) (below : List Frame) (meth : Method) (c : Code) (H : Heap) (locs : List Loc) (ls : Array Slot),
    xe M n k C pc L S = some (r, C') → xe_At M CL WS ns D cI cZ k A p s m args meth c → va_P D CL (xw cI cZ ρ C) H → va_D A (xw cI cZ ρ C) → va_S A s.heap H locs → lv_has ls (xm_n (M k)) (xl ρ L) → C.length = N →
    W p l e (xe_rm (M k)) s m args below meth c H locs 0 0 (MQ below (xe_Q D CL cI cZ ρ A N r C') args s 0 0 A) (F0 m pc ls (S.map (xv ρ)))
theorem xe_goodIn {M : Nat → xM} {WS : List Cond} (hG : ∀ u ∈ WS, goodWord u = true) {k k' : Nat} (h : Cond.code (xm_y (M k')) (xm_c (M k')) (xm_n (M k')) (xm_r (M k')) ∈ WS) : GoodIn (xe_ws WS (M k)) (xe_ws WS (M k')) := by
  intro u hu
  rcases List.mem_cons.mp hu with e | e
  · rw [e]
    exact ⟨List.mem_cons_of_mem _ h, good_of_word (hG _ h)⟩
  · exact ⟨List.mem_cons_of_mem _ e, good_of_word (hG _ e)⟩
theorem xe_goodV {M : Nat → xM} {WS : List Cond} (hG : ∀ u ∈ WS, goodWord u = true) {k k' : Nat} {ps : List Cond} (hp : ∀ u ∈ ps, u ∈ WS) (h : Cond.code (xm_y (M k')) (xm_c (M k')) (xm_n (M k')) (xm_r (M k')) ∈ WS) : GoodIn (xe_ws WS (M k)) (ps ++ xe_ws WS (M k')) := by
  intro u hu
  rcases List.mem_append.mp hu with e | e
  · exact ⟨List.mem_cons_of_mem _ (hp u e), good_of_word (hG _ (hp u e))⟩
  · exact xe_goodIn hG h u e
set_option maxHeartbeats 4000000 in
theorem xe_m {M : Nat → xM} {CL : List vw_C} {WS : List Cond} {ns : xN} (hV : ∀ k, xOK M CL WS ns k) {l : Launch} {D : va_G} {cI cZ : ClassId} {ρ : Nat → Nat} {n : Nat} (hW : xe_WS M CL WS ns l D cI cZ ρ n) {k : Nat} {C : xC} {vs : List Value} {r : Option Value} {C' : xC} (h : xe M n k C 0 (lv_args 0 vs) [] = some (r, C')) (hc : xe_c1 vs = true) (hn : vs.length ≤ xm_n (M k)) (sz : Nat) :
    Met l (xm_y (M k)) (xe_ws WS (M k)) (xe_rm (M k)) (xe_Pc D CL ns cI cZ ρ C (vs.map (xv ρ)) sz) (xe_Q D CL cI cZ ρ (va_A (xw cI cZ ρ C) sz) C.length r C') 0 0 (va_A (xw cI cZ ρ C) sz) := by
  refine Met.ofW (cc := xm_c (M k)) (maxL := xm_n (M k)) (ret := xm_r (M k)) (hV k).2.1 rfl ?_
  intro p e s m args below meth c s₁ B hml hv
  obtain ⟨rfl, hsz, hP, hK, hD0, hns⟩ := hv
  have hts := atoms_spec (ws := xe_ws WS (M k)) B.pre
  have hown : s.vm.findClass (xm_o (M k)) = some m.cls := by rw [← (hV k).2.2.1]; exact findClass_of_methodNamed B.named
  subst hsz
  have hD := hD0.self (sz := s.heap.size)
  have hl := lv_entry (vs.map (xv ρ)) (n := xm_n (M k)) (by rw [xe_len hc]; exact hn)
  rw [lg_entry_eq]
  rw [xl_args] at hl
  exact hW k C 0 (lv_args 0 vs) [] r C' _ C.length p e s m _ below meth c s.heap [] _ h ⟨B.exec, B.bytes, B.returns, B.notSynchronized, hml, hown, hts, hns, hK, fun q h => Or.inr h⟩ hP hD va_S.rf hl rfl
theorem xe_free {A : Nat → Prop} {s : State} {H : Heap} {locs : List Loc} {ws : va_W} (hD : va_D A ws) (hS : va_S A s.heap H locs) (hA : ∀ q : Nat, s.heap.size ≤ q → A q) : ∀ q : Nat, va_A ws H.size q → A q := by
  intro q h
  rcases h with ⟨k, e, h⟩ | h
  · exact hD.2 k _ h
  · exact hA q (Nat.le_trans hS.1 h)
theorem xe_pre {D : va_G} {CL : List vw_C} {ns : xN} {cI cZ : ClassId} {ρ : Nat → Nat} {C : xC} {av : List Value} {A : Nat → Prop} {s : State} {H : Heap} (hP : va_P D CL (xw cI cZ ρ C) H) (hK : va_K D CL (xe_ty cI cZ) s) (hD : va_D A (xw cI cZ ρ C)) (hns : xe_ns ns s) : ∀ U : State, U.heap = H → s.WarmedH U.vm → xe_Pc D CL ns cI cZ ρ C av H.size av.toArray U := fun U hU hW =>
  ⟨rfl, by rw [hU], by rw [hU]; exact hP, va_K.moved hW.alike hK, hD.weaken (fun _ _ _ _ => trivial), fun q hq => va_Nw.warmM hW (hns q hq)⟩

section XW
set_option maxHeartbeats 4000000 in
theorem xe_w {M : Nat → xM} {CL : List vw_C} {WS : List Cond} {ns : xN} (hV : ∀ k, xOK M CL WS ns k) (hC : xCL CL WS) (hG : ∀ u ∈ WS, goodWord u = true) (l : Launch) (D : va_G) (cI cZ : ClassId) (ρ : Nat → Nat) : ∀ n : Nat, xe_WS M CL WS ns l D cI cZ ρ n := by
  intro n
  induction n with
  | zero =>
    intro k C pc L S r C' A N p e s m args below meth c H locs ls h
    cases h
  | succ n IH =>
    intro k C pc L S r C' A N p e s m args below meth c H locs ls h B hP hD hS hl hN
    obtain ⟨hx, hb, hr, hlk, hml, hown, hts, hns, hK, hA⟩ := id B
    replace h : xe_b M (xe M n) k C pc L S = some (r, C') := h
    unfold xe_b at h
    rw [xe_fn_eq] at h
    split at h
    · cases h
    rename_i i len hlk2
    obtain ⟨hd, ho⟩ := (hV k).1 pc i len hlk2
    have go : ∀ {C1 : xC} {pc1 : Nat} {L1 : xL} {S1 : List Value} {H1 : Heap} {locs1 : List Loc} {ls1 : Array Slot}, xe M n k C1 pc1 L1 S1 = some (r, C') → va_P D CL (xw cI cZ ρ C1) H1 → va_D A (xw cI cZ ρ C1) → va_S A s.heap H1 locs1 → lv_has ls1 (xm_n (M k)) (xl ρ L1) → C1.length = N → W p l e (xe_rm (M k)) s m args below meth c H1 locs1 0 0 (MQ below (xe_Q D CL cI cZ ρ A N r C') args s 0 0 A) (F0 m pc1 ls1 (S1.map (xv ρ))) := fun {C1 pc1 L1 S1 H1 locs1 ls1} h1 h2 h3 h4 h5 h6 => IH k C1 pc1 L1 S1 r C' A N p e s m args below meth c H1 locs1 ls1 h1 B h2 h3 h4 h5 h6
    have hin : ∀ {u : Cond}, u ∈ WS → u.before args s = true := fun hu => hts _ (List.mem_cons_of_mem _ hu)
    cases i with
    | iconst v =>
      obtain rfl : len = 1 := Nat.eq_of_beq_eq_true ho
      replace h : xe_push (Int32.ofInt v) S ((xe M n) k C (pc + 1) L) = some (r, C') := h
      have h := (xe_push_eq _ _ _).symm.trans h
      exact lv_iconst hx hb hd rfl (go h hP hD hS hl hN)
    | bipush v =>
      obtain rfl : len = 2 := Nat.eq_of_beq_eq_true ho
      replace h : xe_push (Int8.ofInt v).toInt32 S ((xe M n) k C (pc + 2) L) = some (r, C') := h
      have h := (xe_push_eq _ _ _).symm.trans h
      exact lv_bipush hx hb hd rfl (go h hP hD hS hl hN)
    | sipush v =>
      obtain rfl : len = 3 := Nat.eq_of_beq_eq_true ho
      replace h : xe_push (Int16.ofInt v).toInt32 S ((xe M n) k C (pc + 3) L) = some (r, C') := h
      have h := (xe_push_eq _ _ _).symm.trans h
      exact lv_sipush hx hb hd rfl (go h hP hD hS hl hN)
    | ldc idx =>
      obtain rfl : len = 2 := Nat.eq_of_beq_eq_true ho
      replace h : xe_ldc (xm_K (M k)) idx S ((xe M n) k C (pc + 2) L) = some (r, C') := h
      have h0 := xe_ldc_inv h
      clear h
      obtain ⟨v, hk, h⟩ := h0
      exact lv_ldc hx hb hown (hin ((hV k).2.2.2.2.2.2.1 _ hk)) hd (go h hP hD hS hl hN)
    | ldc_w idx =>
      obtain rfl : len = 3 := Nat.eq_of_beq_eq_true ho
      replace h : xe_ldc (xm_K (M k)) idx S ((xe M n) k C (pc + 3) L) = some (r, C') := h
      have h0 := xe_ldc_inv h
      clear h
      obtain ⟨v, hk, h⟩ := h0
      exact lv_ldcw hx hb hown (hin ((hV k).2.2.2.2.2.2.1 _ hk)) hd (go h hP hD hS hl hN)
    | iload_n j =>
      obtain rfl : len = 1 := Nat.eq_of_beq_eq_true ho
      replace h : xe_ldi L j.val S ((xe M n) k C (pc + 1) L) = some (r, C') := h
      have h0 := xe_ldi_inv h
      clear h
      obtain ⟨x, hk, h⟩ := h0
      exact lv_iload_n hx hb hd rfl (xe_has hl hk) (go h hP hD hS hl hN)
    | iload j =>
      obtain rfl : len = 2 := Nat.eq_of_beq_eq_true ho
      replace h : xe_ldi L j S ((xe M n) k C (pc + 2) L) = some (r, C') := h
      have h0 := xe_ldi_inv h
      clear h
      obtain ⟨x, hk, h⟩ := h0
      exact lv_iload hx hb hd (xe_has hl hk) (go h hP hD hS hl hN)
    | aload_n j =>
      obtain rfl : len = 1 := Nat.eq_of_beq_eq_true ho
      replace h : xe_lda L j.val S ((xe M n) k C (pc + 1) L) = some (r, C') := h
      have h0 := xe_lda_inv h
      clear h
      obtain ⟨x, hk, h⟩ := h0
      exact lv_aload_n hx hb hd rfl (xe_has hl hk) (go h hP hD hS hl hN)
    | aload j =>
      obtain rfl : len = 2 := Nat.eq_of_beq_eq_true ho
      replace h : xe_lda L j S ((xe M n) k C (pc + 2) L) = some (r, C') := h
      have h0 := xe_lda_inv h
      clear h
      obtain ⟨x, hk, h⟩ := h0
      exact lv_aload hx hb hd (xe_has hl hk) (go h hP hD hS hl hN)
    | istore_n j =>
      obtain rfl : len = 1 := Nat.eq_of_beq_eq_true ho
      replace h : xe_sti (xm_n (M k)) L j.val S ((xe M n) k C (pc + 1)) = some (r, C') := h
      have h0 := xe_sti_inv h
      clear h
      obtain ⟨x, T, rfl, hj, h⟩ := h0
      exact lv_istore_n hx hb hd rfl hl hj (xl_st ρ L j.val (.int x)) (fun ls' hl' => go h hP hD hS hl' hN)
    | istore j =>
      obtain rfl : len = 2 := Nat.eq_of_beq_eq_true ho
      replace h : xe_sti (xm_n (M k)) L j S ((xe M n) k C (pc + 2)) = some (r, C') := h
      have h0 := xe_sti_inv h
      clear h
      obtain ⟨x, T, rfl, hj, h⟩ := h0
      exact lv_istore hx hb hd hl hj (xl_st ρ L j (.int x)) (fun ls' hl' => go h hP hD hS hl' hN)
    | iinc j n0 =>
      obtain rfl : len = 3 := Nat.eq_of_beq_eq_true ho
      replace h : xe_inc (xm_n (M k)) L j n0 (fun L' => (xe M n) k C (pc + 3) L' S) = some (r, C') := h
      have h0 := xe_inc_inv h
      clear h
      obtain ⟨x, hk, hj, h⟩ := h0
      obtain ⟨a, ha⟩ := List.getElem?_of_mem (xl_mem (ρ := ρ) hk)
      exact lv_iinc hx hb hd hl ha rfl hj (xl_st ρ L j (.int (x + Int32.ofInt n0))) (fun ls' hl' => go h hP hD hS hl' hN)
    | iadd =>
      obtain rfl : len = 1 := Nat.eq_of_beq_eq_true ho
      replace h : xe_bin (fun x y => x + y) S ((xe M n) k C (pc + 1) L) = some (r, C') := h
      have h0 := xe_bin_inv h
      clear h
      obtain ⟨x, y, T, rfl, h⟩ := h0
      exact lv_iadd hx hb hd (go h hP hD hS hl hN)
    | isub =>
      obtain rfl : len = 1 := Nat.eq_of_beq_eq_true ho
      replace h : xe_bin (fun x y => x - y) S ((xe M n) k C (pc + 1) L) = some (r, C') := h
      have h0 := xe_bin_inv h
      clear h
      obtain ⟨x, y, T, rfl, h⟩ := h0
      exact lv_isub hx hb hd (go h hP hD hS hl hN)
    | imul =>
      obtain rfl : len = 1 := Nat.eq_of_beq_eq_true ho
      replace h : xe_bin (fun x y => x * y) S ((xe M n) k C (pc + 1) L) = some (r, C') := h
      have h0 := xe_bin_inv h
      clear h
      obtain ⟨x, y, T, rfl, h⟩ := h0
      exact lv_imul hx hb hd (go h hP hD hS hl hN)
    | iand =>
      obtain rfl : len = 1 := Nat.eq_of_beq_eq_true ho
      replace h : xe_bin (fun x y => x &&& y) S ((xe M n) k C (pc + 1) L) = some (r, C') := h
      have h0 := xe_bin_inv h
      clear h
      obtain ⟨x, y, T, rfl, h⟩ := h0
      exact lv_iand hx hb hd (go h hP hD hS hl hN)
    | ior =>
      obtain rfl : len = 1 := Nat.eq_of_beq_eq_true ho
      replace h : xe_bin (fun x y => x ||| y) S ((xe M n) k C (pc + 1) L) = some (r, C') := h
      have h0 := xe_bin_inv h
      clear h
      obtain ⟨x, y, T, rfl, h⟩ := h0
      exact lv_ior hx hb hd (go h hP hD hS hl hN)
    | ixor =>
      obtain rfl : len = 1 := Nat.eq_of_beq_eq_true ho
      replace h : xe_bin (fun x y => x ^^^ y) S ((xe M n) k C (pc + 1) L) = some (r, C') := h
      have h0 := xe_bin_inv h
      clear h
      obtain ⟨x, y, T, rfl, h⟩ := h0
      exact lv_ixor hx hb hd (go h hP hD hS hl hN)
    | ishl =>
      obtain rfl : len = 1 := Nat.eq_of_beq_eq_true ho
      replace h : xe_bin (fun x y => x <<< (y &&& 31)) S ((xe M n) k C (pc + 1) L) = some (r, C') := h
      have h0 := xe_bin_inv h
      clear h
      obtain ⟨x, y, T, rfl, h⟩ := h0
      exact lv_ishl hx hb hd (go h hP hD hS hl hN)
    | ishr =>
      obtain rfl : len = 1 := Nat.eq_of_beq_eq_true ho
      replace h : xe_bin (fun x y => x >>> (y &&& 31)) S ((xe M n) k C (pc + 1) L) = some (r, C') := h
      have h0 := xe_bin_inv h
      clear h
      obtain ⟨x, y, T, rfl, h⟩ := h0
      exact lv_ishr hx hb hd (go h hP hD hS hl hN)
    | iushr =>
      obtain rfl : len = 1 := Nat.eq_of_beq_eq_true ho
      replace h : xe_bin (fun x y => (x.toUInt32 >>> (y.toUInt32 &&& Int32.toUInt32 31)).toInt32) S ((xe M n) k C (pc + 1) L) = some (r, C') := h
      have h0 := xe_bin_inv h
      clear h
      obtain ⟨x, y, T, rfl, h⟩ := h0
      exact lv_iushr hx hb hd rfl (go h hP hD hS hl hN)
    | dup =>
      obtain rfl : len = 1 := Nat.eq_of_beq_eq_true ho
      replace h : xe_dup S ((xe M n) k C (pc + 1) L) = some (r, C') := h
      have h0 := xe_dup_inv h
      clear h
      obtain ⟨v, T, rfl, hv, h⟩ := h0
      exact lv_dup hx hb hd ((xv_cat ρ v).trans hv) (go h hP hD hS hl hN)
    | dup2 =>
      obtain rfl : len = 1 := Nat.eq_of_beq_eq_true ho
      replace h : xe_dup2 S ((xe M n) k C (pc + 1) L) = some (r, C') := h
      have h0 := xe_dup2_inv h
      clear h
      obtain ⟨v, u, T, rfl, hv, hu, h⟩ := h0
      exact lv_dup2_11 hx hb hd ((xv_cat ρ v).trans hv) ((xv_cat ρ u).trans hu) (go h hP hD hS hl hN)
    | pop =>
      obtain rfl : len = 1 := Nat.eq_of_beq_eq_true ho
      replace h : xe_pop1 S ((xe M n) k C (pc + 1) L) = some (r, C') := h
      have h0 := xe_pop1_inv h
      clear h
      obtain ⟨v, T, rfl, hv, h⟩ := h0
      exact lv_pop hx hb hd ((xv_cat ρ v).trans hv) (go h hP hD hS hl hN)
    | goto off =>
      obtain rfl : len = 3 := Nat.eq_of_beq_eq_true ho
      replace h : xe_jmp pc off (fun t => (xe M n) k C t L S) = some (r, C') := h
      have h0 := xe_jmp_inv h
      clear h
      obtain ⟨t, ht, h⟩ := h0
      exact lv_goto hx hb hd ht (go h hP hD hS hl hN)
    | ifCond q off =>
      obtain rfl : len = 3 := Nat.eq_of_beq_eq_true ho
      cases q with
      | eq =>
        replace h : (xe_jmp pc off fun t => xe_br1 (fun x => decide (x = 0)) S ((xe M n) k C t L) ((xe M n) k C (pc + 3) L)) = some (r, C') := h
        obtain ⟨t, ht, h3⟩ := xe_jmp_inv h
        clear h
        obtain ⟨x, T, rfl, h1, h2⟩ := xe_br1_inv h3
        exact lv_if_eq hx hb hd ht (fun g => go (h1 (decide_eq_true g)) hP hD hS hl hN) (fun g => go (h2 (decide_eq_false g)) hP hD hS hl hN)
      | ne =>
        replace h : (xe_jmp pc off fun t => xe_br1 (fun x => decide (x ≠ 0)) S ((xe M n) k C t L) ((xe M n) k C (pc + 3) L)) = some (r, C') := h
        obtain ⟨t, ht, h3⟩ := xe_jmp_inv h
        clear h
        obtain ⟨x, T, rfl, h1, h2⟩ := xe_br1_inv h3
        exact lv_if_ne hx hb hd ht (fun g => go (h1 (decide_eq_true g)) hP hD hS hl hN) (fun g => go (h2 (decide_eq_false (fun z => z g))) hP hD hS hl hN)
      | lt =>
        replace h : (xe_jmp pc off fun t => xe_br1 (fun x => decide (x < 0)) S ((xe M n) k C t L) ((xe M n) k C (pc + 3) L)) = some (r, C') := h
        obtain ⟨t, ht, h3⟩ := xe_jmp_inv h
        clear h
        obtain ⟨x, T, rfl, h1, h2⟩ := xe_br1_inv h3
        exact lv_if_lt hx hb hd ht (fun g => go (h1 (decide_eq_true g)) hP hD hS hl hN) (fun g => go (h2 (decide_eq_false g)) hP hD hS hl hN)
      | ge =>
        replace h : (xe_jmp pc off fun t => xe_br1 (fun x => decide (0 ≤ x)) S ((xe M n) k C t L) ((xe M n) k C (pc + 3) L)) = some (r, C') := h
        obtain ⟨t, ht, h3⟩ := xe_jmp_inv h
        clear h
        obtain ⟨x, T, rfl, h1, h2⟩ := xe_br1_inv h3
        exact lv_if_ge hx hb hd ht (fun g => go (h1 (decide_eq_true g)) hP hD hS hl hN) (fun g => go (h2 (decide_eq_false g)) hP hD hS hl hN)
      | gt =>
        replace h : (xe_jmp pc off fun t => xe_br1 (fun x => decide (0 < x)) S ((xe M n) k C t L) ((xe M n) k C (pc + 3) L)) = some (r, C') := h
        obtain ⟨t, ht, h3⟩ := xe_jmp_inv h
        clear h
        obtain ⟨x, T, rfl, h1, h2⟩ := xe_br1_inv h3
        exact lv_if_gt hx hb hd ht (fun g => go (h1 (decide_eq_true g)) hP hD hS hl hN) (fun g => go (h2 (decide_eq_false g)) hP hD hS hl hN)
      | le =>
        replace h : (xe_jmp pc off fun t => xe_br1 (fun x => decide (x ≤ 0)) S ((xe M n) k C t L) ((xe M n) k C (pc + 3) L)) = some (r, C') := h
        obtain ⟨t, ht, h3⟩ := xe_jmp_inv h
        clear h
        obtain ⟨x, T, rfl, h1, h2⟩ := xe_br1_inv h3
        exact lv_if_le hx hb hd ht (fun g => go (h1 (decide_eq_true g)) hP hD hS hl hN) (fun g => go (h2 (decide_eq_false g)) hP hD hS hl hN)
    | if_icmp q off =>
      obtain rfl : len = 3 := Nat.eq_of_beq_eq_true ho
      cases q with
      | eq =>
        replace h : (xe_jmp pc off fun t => xe_br2 (fun x y => decide (x = y)) S ((xe M n) k C t L) ((xe M n) k C (pc + 3) L)) = some (r, C') := h
        obtain ⟨t, ht, h3⟩ := xe_jmp_inv h
        clear h
        obtain ⟨x, y, T, rfl, h1, h2⟩ := xe_br2_inv h3
        exact lv_icmp_eq hx hb hd ht (fun g => go (h1 (decide_eq_true g)) hP hD hS hl hN) (fun g => go (h2 (decide_eq_false g)) hP hD hS hl hN)
      | ne =>
        replace h : (xe_jmp pc off fun t => xe_br2 (fun x y => decide (x ≠ y)) S ((xe M n) k C t L) ((xe M n) k C (pc + 3) L)) = some (r, C') := h
        obtain ⟨t, ht, h3⟩ := xe_jmp_inv h
        clear h
        obtain ⟨x, y, T, rfl, h1, h2⟩ := xe_br2_inv h3
        exact lv_icmp_ne hx hb hd ht (fun g => go (h1 (decide_eq_true g)) hP hD hS hl hN) (fun g => go (h2 (decide_eq_false (fun z => z g))) hP hD hS hl hN)
      | lt =>
        replace h : (xe_jmp pc off fun t => xe_br2 (fun x y => decide (x < y)) S ((xe M n) k C t L) ((xe M n) k C (pc + 3) L)) = some (r, C') := h
        obtain ⟨t, ht, h3⟩ := xe_jmp_inv h
        clear h
        obtain ⟨x, y, T, rfl, h1, h2⟩ := xe_br2_inv h3
        exact lv_icmp_lt hx hb hd ht (fun g => go (h1 (decide_eq_true g)) hP hD hS hl hN) (fun g => go (h2 (decide_eq_false g)) hP hD hS hl hN)
      | ge =>
        replace h : (xe_jmp pc off fun t => xe_br2 (fun x y => decide (y ≤ x)) S ((xe M n) k C t L) ((xe M n) k C (pc + 3) L)) = some (r, C') := h
        obtain ⟨t, ht, h3⟩ := xe_jmp_inv h
        clear h
        obtain ⟨x, y, T, rfl, h1, h2⟩ := xe_br2_inv h3
        exact lv_icmp_ge hx hb hd ht (fun g => go (h1 (decide_eq_true g)) hP hD hS hl hN) (fun g => go (h2 (decide_eq_false g)) hP hD hS hl hN)
      | gt =>
        replace h : (xe_jmp pc off fun t => xe_br2 (fun x y => decide (y < x)) S ((xe M n) k C t L) ((xe M n) k C (pc + 3) L)) = some (r, C') := h
        obtain ⟨t, ht, h3⟩ := xe_jmp_inv h
        clear h
        obtain ⟨x, y, T, rfl, h1, h2⟩ := xe_br2_inv h3
        exact lv_icmp_gt hx hb hd ht (fun g => go (h1 (decide_eq_true g)) hP hD hS hl hN) (fun g => go (h2 (decide_eq_false g)) hP hD hS hl hN)
      | le =>
        replace h : (xe_jmp pc off fun t => xe_br2 (fun x y => decide (x ≤ y)) S ((xe M n) k C t L) ((xe M n) k C (pc + 3) L)) = some (r, C') := h
        obtain ⟨t, ht, h3⟩ := xe_jmp_inv h
        clear h
        obtain ⟨x, y, T, rfl, h1, h2⟩ := xe_br2_inv h3
        exact lv_icmp_le hx hb hd ht (fun g => go (h1 (decide_eq_true g)) hP hD hS hl hN) (fun g => go (h2 (decide_eq_false g)) hP hD hS hl hN)
    | tableswitch dflt lo hi offs =>
      replace h : xe_swt pc dflt lo hi offs S (fun t T => (xe M n) k C t L T) = some (r, C') := h
      have h0 := xe_swt_inv h
      clear h
      obtain ⟨x, T, rfl, h⟩ := h0
      rcases h with ⟨g, t, ht, h⟩ | ⟨g1, g2, off, t, g3, ht, h⟩
      · exact lv_tableOut hx hb hd g ht (go h hP hD hS hl hN)
      · exact lv_tableIn hx hb hd g1 g2 g3 ht (go h hP hD hS hl hN)
    | lookupswitch dflt ps =>
      replace h : xe_swl pc dflt ps S (fun t T => (xe M n) k C t L T) = some (r, C') := h
      have h0 := xe_swl_inv h
      clear h
      obtain ⟨x, T, t, rfl, g, ht, h⟩ := h0
      exact lv_lookup hx hb hd g rfl ht (go h hP hD hS hl hN)
    | getfield idx =>
      obtain rfl : len = 3 := Nat.eq_of_beq_eq_true ho
      replace h : xe_get (xm_F (M k)) idx C S ((xe M n) k C (pc + 3) L) = some (r, C') := h
      have h0 := xe_get_inv h
      clear h
      obtain ⟨a, T, ci, j, t, fs, v, rfl, hF, hCa, hv, h⟩ := h0
      obtain ⟨Cn, Tn, Nn, g1, g2, g3, -, -⟩ := (hV k).2.2.2.2.2.1 _ hF
      exact va_get (D := D) (ci := ci) (v := xv ρ v) (C := Cn) (T := Tn) (N := Nn) hx hb hts (fun u hu => List.mem_cons_of_mem _ ((hC ci Cn Tn Nn g1).1 u hu)) hown hK hP a (xw_get hCa) g1 j g2 (hin g3) (fun _ h9 => h9) (by rw [List.getElem?_map, hv]; rfl) hd (go h hP hD hS hl hN)
    | putfield idx =>
      obtain rfl : len = 3 := Nat.eq_of_beq_eq_true ho
      replace h : xe_put (xm_F (M k)) idx C S (fun C' T => (xe M n) k C' (pc + 3) L T) = some (r, C') := h
      have h0 := xe_put_inv h
      clear h
      obtain ⟨a, T, ci, j, t, fs, v, rfl, hF, hCa, hft, hj, h⟩ := h0
      obtain ⟨Cn, Tn, Nn, g1, g2, g3, g4, g5⟩ := (hV k).2.2.2.2.2.1 _ hF
      obtain ⟨ty0, gt, gn⟩ := (hC ci Cn Tn Nn g1).2
      have key : ∀ ty : FieldType, (Tn j).2.2.2 = false → parseFieldDescriptor (Tn j).2.2.1 = some ty → narrow ty (.int v) = .int v → fits ty (.int v) = true → W p l e (xe_rm (M k)) s m args below meth c H locs 0 0 (MQ below (xe_Q D CL cI cZ ρ A N r C') args s 0 0 A) (F0 m pc ls (.int v :: .ref (ρ a) :: T.map (xv ρ))) := by
        intro ty e1 e2 e3 e4
        refine va_put (D := D) (ci := ci) (v := .int v) (ty := ty) (C := Cn) (T := Tn) (N := Nn) hx hb hts (fun u hu => List.mem_cons_of_mem _ ((hC ci Cn Tn Nn g1).1 u hu)) ty0 gt gn hown hK hP hD hS a (xw_get hCa) g1 j g2 (hin g3) (fun _ h9 => h9) e1 e2 e3 e4 (by rw [List.length_map]; exact hj) hd (fun H1 locs1 hP1 hD1 hS1 => ?_)
        have e9 : (Sum.inr (ci, (fs.map (xv ρ)).set j (.int v)) : va_E) = xd cI cZ ρ (.inr (ci, fs.set j (.int v))) := by
          show (Sum.inr (ci, (fs.map (xv ρ)).set j (.int v)) : va_E) = .inr (ci, (fs.set j (.int v)).map (xv ρ))
          rw [List.map_set]
          rfl
        rw [e9, xw_set] at hP1 hD1
        exact go h hP1 hD1 hS1 hl (by rw [List.length_set]; exact hN)
      unfold xe_fit at hft
      cases q0 : Nat.beq t 0 with
      | true =>
        have e0 := g4 (Nat.eq_of_beq_eq_true q0)
        exact key .int e0.1 e0.2 rfl rfl
      | false =>
        rw [q0] at hft
        cases q1 : Nat.beq t 1 with
        | true =>
          rw [q1] at hft
          have e0 := g5 (Nat.eq_of_beq_eq_true q1)
          simp only [cond_false, cond_true, Bool.or_eq_true, decide_eq_true_eq] at hft
          rcases hft with e5 | e5
          · subst e5
            exact key .boolean e0.1 e0.2 rfl rfl
          · subst e5
            exact key .boolean e0.1 e0.2 rfl rfl
        | false =>
          rw [q1] at hft
          cases hft
    | iaload =>
      obtain rfl : len = 1 := Nat.eq_of_beq_eq_true ho
      replace h : xe_ald 0 C S ((xe M n) k C (pc + 1) L) = some (r, C') := h
      have h0 := xe_ald_inv h
      clear h
      obtain ⟨i, a, T, sz, f, rfl, hCa, hi, h⟩ := h0
      exact va_iald hx hb hK hP a 0 (xw_get hCa) rfl hi hd (go h hP hD hS hl hN)
    | baload =>
      obtain rfl : len = 1 := Nat.eq_of_beq_eq_true ho
      replace h : xe_ald 1 C S ((xe M n) k C (pc + 1) L) = some (r, C') := h
      have h0 := xe_ald_inv h
      clear h
      obtain ⟨i, a, T, sz, f, rfl, hCa, hi, h⟩ := h0
      exact va_zald hx hb hK hP a 1 (xw_get hCa) rfl hi hd (go h hP hD hS hl hN)
    | iastore =>
      obtain rfl : len = 1 := Nat.eq_of_beq_eq_true ho
      replace h : xe_ast 0 (fun x => x) C S (fun C' T => (xe M n) k C' (pc + 1) L T) = some (r, C') := h
      have h0 := xe_ast_inv h
      clear h
      obtain ⟨x, i, a, T, sz, f, rfl, hCa, hi, h⟩ := h0
      refine va_iast hx hb hK hP hD hS a 0 (xw_get hCa) rfl hi hd (fun H1 locs1 hP1 hD1 hS1 => ?_)
      rw [show (Sum.inl (xcy cI cZ 0, sz, Sum.inl (upd f i.toNatClampNeg x)) : va_E) = xd cI cZ ρ (.inl (0, sz, .inl (upd f i.toNatClampNeg x))) from rfl, xw_set] at hP1 hD1
      exact go h hP1 hD1 hS1 hl (by rw [List.length_set]; exact hN)
    | bastore =>
      obtain rfl : len = 1 := Nat.eq_of_beq_eq_true ho
      replace h : xe_ast 1 (fun x => vp_nar .boolean x) C S (fun C' T => (xe M n) k C' (pc + 1) L T) = some (r, C') := h
      have h0 := xe_ast_inv h
      clear h
      obtain ⟨x, i, a, T, sz, f, rfl, hCa, hi, h⟩ := h0
      refine va_zast hx hb hK hP hD hS a 1 (xw_get hCa) rfl hi hd (fun H1 locs1 hP1 hD1 hS1 => ?_)
      rw [show (Sum.inl (xcy cI cZ 1, sz, Sum.inl (upd f i.toNatClampNeg (vp_nar .boolean x))) : va_E) = xd cI cZ ρ (.inl (1, sz, .inl (upd f i.toNatClampNeg (vp_nar .boolean x)))) from rfl, xw_set] at hP1 hD1
      exact go h hP1 hD1 hS1 hl (by rw [List.length_set]; exact hN)
    | arraylength =>
      obtain rfl : len = 1 := Nat.eq_of_beq_eq_true ho
      replace h : xe_aln C S ((xe M n) k C (pc + 1) L) = some (r, C') := h
      have h0 := xe_aln_inv h
      clear h
      obtain ⟨a, T, t, x, rfl, hCa, ht, h⟩ := h0
      rcases (show t = 0 ∨ t = 1 by omega) with rfl | rfl
      · exact va_alen hx hb hK hP a 0 (xw_get hCa) rfl rfl hd (go h hP hD hS hl hN)
      · exact va_alen hx hb hK hP a 1 (xw_get hCa) rfl rfl hd (go h hP hD hS hl hN)
    | invokevirtual idx =>
      obtain rfl : len = 3 := Nat.eq_of_beq_eq_true ho
      replace h : xe_inv M (xe M n) k C pc L S true idx = some (r, C') := h
      have h0 := xe_inv_v h
      clear h
      obtain ⟨k', na, ci, As, T, b, fs, hI, rfl, hna, hCb, h⟩ := h0
      obtain ⟨f1, f2, f3, f4, f5, f6⟩ := (hV k).2.2.2.2.2.2.2 _ hI
      have h0 := xe_call_inv h
      clear h
      obtain ⟨c1, c2, c3, C1, hc⟩ := h0
      have hcd := (hV k').2.2.2.1
      have hini := hin (hV k').2.2.2.2.1
      have hsum : ((T.map (xv ρ)).map fun v => v.category).sum ≤ 8 := by
        rw [List.map_map]
        rw [show ((fun v : Value => v.category) ∘ xv ρ) = fun v => v.category from funext (xv_cat ρ)]
        exact c1
      have hFr := xe_free hD hS hA
      obtain ⟨p1, p2, p3, Tn, Nn, p4⟩ := f4 rfl
      have hcw : CallW (xe_rm (M k)) s args (xm_o (M k)) (xm_y (M k')).cls idx (xm_y (M k')) (xm_c (M k')) (xm_n (M k')) (xm_r (M k')) (xe_ws WS (M k')) (xe_rm (M k')) 0 0 na := cwV na hts (xe_goodV hG (ps := [.methodLink (xm_o (M k)) idx (xm_y (M k')), .instanceMethod (xm_y (M k')), .selects (xm_y (M k')).cls (xm_y (M k')) (xm_y (M k')), .initialized (xm_y (M k')).cls]) (by
        intro u hu
        simp only [List.mem_cons, List.not_mem_nil, or_false] at hu
        rcases hu with rfl | rfl | rfl | rfl
        · exact p1
        · exact p2
        · exact p3
        · exact (hV k').2.2.2.2.1) hcd) rfl rfl rfl ⟨rfl, f3⟩ ⟨f1, f2⟩
      have hrv := va_recv hK hP (ci := ci) (q0 := b) p4 (xw_get hCb)
      have hstk : (F0 m pc ls ((As.reverse ++ .ref b :: T).map (xv ρ))).stack = (As.map (xv ρ)).reverse ++ .ref (ρ b) :: T.map (xv ρ) := by
        show (As.reverse ++ .ref b :: T).map (xv ρ) = _
        rw [List.map_append, List.map_reverse]
        rfl
      rcases hc with ⟨hc1, h⟩ | ⟨v, hc1, h⟩
      · refine va_callv (S := Unit) (post := fun _ => True) (B := fun _ t => va_P D CL (xw cI cZ ρ C1) t.heap ∧ C1.length = C.length) (va_runV (As := As.map (xv ρ)) (rest := T.map (xv ρ)) ⟨hx, hb, hml, hown, hts⟩ (xe_m hV IH hc1 c2 c3 H.size) hcw ⟨xe_blind _ _ _ _ _ _ _ _ _, hrv, xe_pre (av := .ref (ρ b) :: As.map (xv ρ)) hP hK hD hns⟩ rfl (by rw [List.length_map]; exact hna) hl.1 hstk (lv_room hsum) hd ⟨Nat.le_refl 0, Nat.le_refl 0⟩) hS (fun q _ z => hFr q z) hFr (fun u t H1 locs1 ht hvm hw hB hz1 hk1 hS1 => ?_)
        obtain ⟨hP1, hN1⟩ := hB
        rw [ht] at hP1
        exact go h hP1 (xw_D hN1 hD) hS1 hl (hN1.trans hN)
      · refine va_calli (S := Unit) (post := fun (u : Int32) _ => u = v) (B := fun _ t => va_P D CL (xw cI cZ ρ C1) t.heap ∧ C1.length = C.length) (va_runV (As := As.map (xv ρ)) (rest := T.map (xv ρ)) ⟨hx, hb, hml, hown, hts⟩ (xe_m hV IH hc1 c2 c3 H.size) hcw ⟨xe_blind _ _ _ _ _ _ _ _ _, hrv, xe_pre (av := .ref (ρ b) :: As.map (xv ρ)) hP hK hD hns⟩ rfl (by rw [List.length_map]; exact hna) hl.1 hstk (lv_room hsum) hd ⟨Nat.le_refl 0, Nat.le_refl 0⟩) hS (fun q _ z => hFr q z) hFr (fun x u t H1 locs1 ht hvm hw hB hz1 hk1 hS1 => ?_)
        obtain ⟨hP1, hN1⟩ := hB
        rw [ht] at hP1
        subst hw
        exact go (S1 := .int x :: T) h hP1 (xw_D hN1 hD) hS1 hl (hN1.trans hN)
    | invokestatic idx =>
      obtain rfl : len = 3 := Nat.eq_of_beq_eq_true ho
      replace h : xe_inv M (xe M n) k C pc L S false idx = some (r, C') := h
      have h0 := xe_inv_s h
      clear h
      obtain ⟨k', na, kd, ci, As, T, hI, hkd, rfl, hna, h⟩ := h0
      obtain ⟨f1, f2, f3, f4, f5, f6⟩ := (hV k).2.2.2.2.2.2.2 _ hI
      have h0 := xe_call_inv h
      clear h
      obtain ⟨c1, c2, c3, C1, hc⟩ := h0
      have hcd := (hV k').2.2.2.1
      have hini := hin (hV k').2.2.2.2.1
      have hsum : ((T.map (xv ρ)).map fun v => v.category).sum ≤ 8 := by
        rw [List.map_map]
        rw [show ((fun v : Value => v.category) ∘ xv ρ) = fun v => v.category from funext (xv_cat ρ)]
        exact c1
      have hFr := xe_free hD hS hA
      have hstk : (F0 m pc ls ((As.reverse ++ T).map (xv ρ))).stack = (As.map (xv ρ)).reverse ++ T.map (xv ρ) := by
        show (As.reverse ++ T).map (xv ρ) = _
        rw [List.map_append, List.map_reverse]
      by_cases hk1 : kd = 1
      · obtain ⟨p1, p2⟩ := f5 hk1
        have hcw : CallB (xe_rm (M k)) s args (xm_o (M k)) idx (xm_y (M k')) (xm_c (M k')) (xm_n (M k')) (xm_r (M k')) (xe_ws WS (M k')) (xe_rm (M k')) 0 0 na ∧ (Cond.static (xm_y (M k'))).before args s = true := va_cwS na hts (xe_goodV hG (ps := [.methodLink (xm_o (M k)) idx (xm_y (M k')), .static (xm_y (M k')), .initialized (xm_y (M k')).cls]) (by
          intro u hu
          simp only [List.mem_cons, List.not_mem_nil, or_false] at hu
          rcases hu with rfl | rfl | rfl
          · exact p1
          · exact p2
          · exact (hV k').2.2.2.2.1) hcd) rfl rfl rfl f3 ⟨f1, f2⟩
        rcases hc with ⟨hc1, h⟩ | ⟨v, hc1, h⟩
        · refine va_callv (S := Unit) (post := fun _ => True) (B := fun _ t => va_P D CL (xw cI cZ ρ C1) t.heap ∧ C1.length = C.length) (va_runS (As := As.map (xv ρ)) (rest := T.map (xv ρ)) ⟨hx, hb, hml, hown, hts⟩ (xe_m hV IH hc1 c2 c3 H.size) hcw ⟨xe_blind _ _ _ _ _ _ _ _ _, xe_pre (av := As.map (xv ρ)) hP hK hD hns⟩ rfl (by rw [List.length_map]; exact hna) hl.1 hstk (lv_room hsum) hd ⟨Nat.le_refl 0, Nat.le_refl 0⟩) hS (fun q _ z => hFr q z) hFr (fun u t H1 locs1 ht hvm hw hB hz1 hk1 hS1 => ?_)
          obtain ⟨hP1, hN1⟩ := hB
          rw [ht] at hP1
          exact go h hP1 (xw_D hN1 hD) hS1 hl (hN1.trans hN)
        · refine va_calli (S := Unit) (post := fun (u : Int32) _ => u = v) (B := fun _ t => va_P D CL (xw cI cZ ρ C1) t.heap ∧ C1.length = C.length) (va_runS (As := As.map (xv ρ)) (rest := T.map (xv ρ)) ⟨hx, hb, hml, hown, hts⟩ (xe_m hV IH hc1 c2 c3 H.size) hcw ⟨xe_blind _ _ _ _ _ _ _ _ _, xe_pre (av := As.map (xv ρ)) hP hK hD hns⟩ rfl (by rw [List.length_map]; exact hna) hl.1 hstk (lv_room hsum) hd ⟨Nat.le_refl 0, Nat.le_refl 0⟩) hS (fun q _ z => hFr q z) hFr (fun x u t H1 locs1 ht hvm hw hB hz1 hk1 hS1 => ?_)
          obtain ⟨hP1, hN1⟩ := hB
          rw [ht] at hP1
          subst hw
          exact go (S1 := .int x :: T) h hP1 (xw_D hN1 hD) hS1 hl (hN1.trans hN)
      · obtain ⟨p2, host, p1⟩ := f6 hkd hk1
        have hcw : va_CN (xe_rm (M k)) s args (xm_o (M k)) idx (xm_y (M k')) host (xm_c (M k')) (xm_n (M k')) (xm_r (M k')) (xe_ws WS (M k')) (xe_rm (M k')) 0 0 na := va_cnB na hts (xe_goodIn hG hcd) rfl rfl rfl (hns _ p1) hini f3 ⟨f1, f2⟩
        rcases hc with ⟨hc1, h⟩ | ⟨v, hc1, h⟩
        · refine va_callv (S := Unit) (post := fun _ => True) (B := fun _ t => va_P D CL (xw cI cZ ρ C1) t.heap ∧ C1.length = C.length) (va_runSN (As := As.map (xv ρ)) (rest := T.map (xv ρ)) ⟨hx, hb, hml, hown, hts⟩ (xe_m hV IH hc1 c2 c3 H.size) ⟨hcw, hin p2, trivial⟩ ⟨xe_blind _ _ _ _ _ _ _ _ _, xe_pre (av := As.map (xv ρ)) hP hK hD hns⟩ rfl (by rw [List.length_map]; exact hna) hl.1 hstk (lv_room hsum) hd ⟨Nat.le_refl 0, Nat.le_refl 0⟩) hS (fun q _ z => hFr q z) hFr (fun u t H1 locs1 ht hvm hw hB hz1 hk1 hS1 => ?_)
          obtain ⟨hP1, hN1⟩ := hB
          rw [ht] at hP1
          exact go h hP1 (xw_D hN1 hD) hS1 hl (hN1.trans hN)
        · refine va_calli (S := Unit) (post := fun (u : Int32) _ => u = v) (B := fun _ t => va_P D CL (xw cI cZ ρ C1) t.heap ∧ C1.length = C.length) (va_runSN (As := As.map (xv ρ)) (rest := T.map (xv ρ)) ⟨hx, hb, hml, hown, hts⟩ (xe_m hV IH hc1 c2 c3 H.size) ⟨hcw, hin p2, trivial⟩ ⟨xe_blind _ _ _ _ _ _ _ _ _, xe_pre (av := As.map (xv ρ)) hP hK hD hns⟩ rfl (by rw [List.length_map]; exact hna) hl.1 hstk (lv_room hsum) hd ⟨Nat.le_refl 0, Nat.le_refl 0⟩) hS (fun q _ z => hFr q z) hFr (fun x u t H1 locs1 ht hvm hw hB hz1 hk1 hS1 => ?_)
          obtain ⟨hP1, hN1⟩ := hB
          rw [ht] at hP1
          subst hw
          exact go (S1 := .int x :: T) h hP1 (xw_D hN1 hD) hS1 hl (hN1.trans hN)
    | ireturn =>
      obtain rfl : len = 1 := Nat.eq_of_beq_eq_true ho
      replace h : xe_irt (xm_r (M k)) C S = some (r, C') := h
      have h0 := xe_irt_inv h
      clear h
      obtain ⟨v, rfl, rfl, rfl, hret⟩ := h0
      rcases hret with e0 | ⟨e0, e1⟩
      · exact W.iret (v := v) hx hb (hr.trans e0) (fun t ht hW => ⟨⟨v, (), rfl, rfl, by rw [ht]; exact hP, hN⟩, hS.F ht⟩) hS.2.2 hd hlk
      · exact W.zret (v := v) (ty := .boolean) hx hb (hr.trans e0) (by rcases e1 with rfl | rfl <;> rfl) (fun t ht hW => ⟨⟨v, (), rfl, rfl, by rw [ht]; exact hP, hN⟩, hS.F ht⟩) hS.2.2 hd hlk
    | return_ =>
      obtain rfl : len = 1 := Nat.eq_of_beq_eq_true ho
      replace h : xe_vrt (xm_r (M k)) C S = some (r, C') := h
      have h0 := xe_vrt_inv h
      clear h
      obtain ⟨rfl, rfl, rfl, hret⟩ := h0
      exact W.vret hx hb (hr.trans hret) (fun t ht hW => ⟨⟨(), rfl, trivial, by rw [ht]; exact hP, hN⟩, hS.F ht⟩) hS.2.2 hd hlk
    | _ => cases (show (none : xR) = some (r, C') from h)
end XW
/-- the contract of a method out of one run of the executor -/
theorem xe_met {M : Nat → xM} {CL : List vw_C} {WS : List Cond} {ns : xN} (hV : ∀ k, xOK M CL WS ns k) (hC : xCL CL WS) (hG : ∀ u ∈ WS, goodWord u = true) (l : Launch) (D : va_G) (cI cZ : ClassId) (ρ : Nat → Nat) {n k : Nat} {C : xC} {vs : List Value} {r : Option Value} {C' : xC} (h : xe M n k C 0 (lv_args 0 vs) [] = some (r, C')) (hc : xe_c1 vs = true) (hn : vs.length ≤ xm_n (M k)) (sz : Nat) :
    Met l (xm_y (M k)) (xe_ws WS (M k)) (xe_rm (M k)) (xe_Pc D CL ns cI cZ ρ C (vs.map (xv ρ)) sz) (xe_Q D CL cI cZ ρ (va_A (xw cI cZ ρ C) sz) C.length r C') 0 0 (va_A (xw cI cZ ρ C) sz) := xe_m hV (xe_w hV hC hG l D cI cZ ρ n) h hc hn sz
end
