section
-- ===== PART A: goes FIRST, ahead of the names: the tables' words, and 'selects' of the private methods out of them =====
/-- a private method of a class that the tables say can be made, by its rows of tables_1 -/
def lw_okq (q : MethodName × Nat) : Prop := (q.1.cls ≠ "java/lang/invoke/MethodHandle" ∧ q.1.cls ≠ "java/lang/invoke/VarHandle") ∧ Cond.instantiable q.1.cls q.2 ∈ tables_1 ∧ Cond.privateMethod q.1 ∈ tables_1 ∧ Cond.instanceMethod q.1 ∈ tables_1
theorem lw_p0 : lw_okq (⟨"WrittenBench", "programIsAnother", "()V"⟩, 15) := ⟨⟨by decide +kernel, by decide +kernel⟩, List.mem_of_getElem? (i := 10) (by decide +kernel), List.mem_of_getElem? (i := 300) (by decide +kernel), List.mem_of_getElem? (i := 301) (by decide +kernel)⟩
theorem lw_p1 : lw_okq (⟨"WrittenBench$Run", "startAnew", "()V"⟩, 18) := ⟨⟨by decide +kernel, by decide +kernel⟩, List.mem_of_getElem? (i := 57) (by decide +kernel), List.mem_of_getElem? (i := 333) (by decide +kernel), List.mem_of_getElem? (i := 334) (by decide +kernel)⟩
theorem lw_p2 : lw_okq (⟨"WrittenBench$Run", "doOne", "()I"⟩, 18) := ⟨⟨by decide +kernel, by decide +kernel⟩, List.mem_of_getElem? (i := 57) (by decide +kernel), List.mem_of_getElem? (i := 338) (by decide +kernel), List.mem_of_getElem? (i := 339) (by decide +kernel)⟩
theorem lw_p3 : lw_okq (⟨"WrittenBench$Run", "lookAtUse", "(I)V"⟩, 18) := ⟨⟨by decide +kernel, by decide +kernel⟩, List.mem_of_getElem? (i := 57) (by decide +kernel), List.mem_of_getElem? (i := 343) (by decide +kernel), List.mem_of_getElem? (i := 344) (by decide +kernel)⟩
theorem lw_p4 : lw_okq (⟨"WrittenBench$Run", "keepPrint", "(I)V"⟩, 18) := ⟨⟨by decide +kernel, by decide +kernel⟩, List.mem_of_getElem? (i := 57) (by decide +kernel), List.mem_of_getElem? (i := 354) (by decide +kernel), List.mem_of_getElem? (i := 355) (by decide +kernel)⟩
theorem lw_p5 : lw_okq (⟨"WrittenBench$Run", "store", "(I)I"⟩, 18) := ⟨⟨by decide +kernel, by decide +kernel⟩, List.mem_of_getElem? (i := 57) (by decide +kernel), List.mem_of_getElem? (i := 358) (by decide +kernel), List.mem_of_getElem? (i := 359) (by decide +kernel)⟩
theorem lw_p6 : lw_okq (⟨"WrittenBench$Run", "copyRow", "(III)V"⟩, 18) := ⟨⟨by decide +kernel, by decide +kernel⟩, List.mem_of_getElem? (i := 57) (by decide +kernel), List.mem_of_getElem? (i := 362) (by decide +kernel), List.mem_of_getElem? (i := 363) (by decide +kernel)⟩
theorem lw_p7 : lw_okq (⟨"WrittenBench$Run", "load", "(I)I"⟩, 18) := ⟨⟨by decide +kernel, by decide +kernel⟩, List.mem_of_getElem? (i := 57) (by decide +kernel), List.mem_of_getElem? (i := 372) (by decide +kernel), List.mem_of_getElem? (i := 373) (by decide +kernel)⟩
theorem lw_p8 : lw_okq (⟨"WrittenBench$Run", "enter", "(I)I"⟩, 18) := ⟨⟨by decide +kernel, by decide +kernel⟩, List.mem_of_getElem? (i := 57) (by decide +kernel), List.mem_of_getElem? (i := 376) (by decide +kernel), List.mem_of_getElem? (i := 377) (by decide +kernel)⟩
theorem lw_p9 : lw_okq (⟨"WrittenBench$Run", "fill", "(I)V"⟩, 18) := ⟨⟨by decide +kernel, by decide +kernel⟩, List.mem_of_getElem? (i := 57) (by decide +kernel), List.mem_of_getElem? (i := 380) (by decide +kernel), List.mem_of_getElem? (i := 381) (by decide +kernel)⟩
theorem lw_p10 : lw_okq (⟨"WrittenBench$Run", "fillRow", "(IIIZ)V"⟩, 18) := ⟨⟨by decide +kernel, by decide +kernel⟩, List.mem_of_getElem? (i := 57) (by decide +kernel), List.mem_of_getElem? (i := 384) (by decide +kernel), List.mem_of_getElem? (i := 385) (by decide +kernel)⟩
theorem lw_p11 : lw_okq (⟨"WrittenBench$Run", "nextOfInput", "()I"⟩, 18) := ⟨⟨by decide +kernel, by decide +kernel⟩, List.mem_of_getElem? (i := 57) (by decide +kernel), List.mem_of_getElem? (i := 391) (by decide +kernel), List.mem_of_getElem? (i := 392) (by decide +kernel)⟩
theorem lw_p12 : lw_okq (⟨"WrittenBench$Run", "goBack", "()V"⟩, 18) := ⟨⟨by decide +kernel, by decide +kernel⟩, List.mem_of_getElem? (i := 57) (by decide +kernel), List.mem_of_getElem? (i := 395) (by decide +kernel), List.mem_of_getElem? (i := 396) (by decide +kernel)⟩
theorem lw_p13 : lw_okq (⟨"WrittenBench", "freshen", "()V"⟩, 15) := ⟨⟨by decide +kernel, by decide +kernel⟩, List.mem_of_getElem? (i := 10) (by decide +kernel), List.mem_of_getElem? (i := 428) (by decide +kernel), List.mem_of_getElem? (i := 429) (by decide +kernel)⟩
theorem lw_p14 : lw_okq (⟨"WrittenBench$Flow", "forget", "()V"⟩, 14) := ⟨⟨by decide +kernel, by decide +kernel⟩, List.mem_of_getElem? (i := 128) (by decide +kernel), List.mem_of_getElem? (i := 437) (by decide +kernel), List.mem_of_getElem? (i := 438) (by decide +kernel)⟩
theorem lw_p15 : lw_okq (⟨"WrittenBench$Flow", "come", "(III)V"⟩, 14) := ⟨⟨by decide +kernel, by decide +kernel⟩, List.mem_of_getElem? (i := 128) (by decide +kernel), List.mem_of_getElem? (i := 442) (by decide +kernel), List.mem_of_getElem? (i := 443) (by decide +kernel)⟩
def lw_privs_1 : List (MethodName × Nat) := [(⟨"WrittenBench", "programIsAnother", "()V"⟩, 15), (⟨"WrittenBench$Run", "startAnew", "()V"⟩, 18), (⟨"WrittenBench$Run", "doOne", "()I"⟩, 18), (⟨"WrittenBench$Run", "lookAtUse", "(I)V"⟩, 18), (⟨"WrittenBench$Run", "keepPrint", "(I)V"⟩, 18), (⟨"WrittenBench$Run", "store", "(I)I"⟩, 18), (⟨"WrittenBench$Run", "copyRow", "(III)V"⟩, 18), (⟨"WrittenBench$Run", "load", "(I)I"⟩, 18), (⟨"WrittenBench$Run", "enter", "(I)I"⟩, 18), (⟨"WrittenBench$Run", "fill", "(I)V"⟩, 18), (⟨"WrittenBench$Run", "fillRow", "(IIIZ)V"⟩, 18), (⟨"WrittenBench$Run", "nextOfInput", "()I"⟩, 18), (⟨"WrittenBench$Run", "goBack", "()V"⟩, 18), (⟨"WrittenBench", "freshen", "()V"⟩, 15), (⟨"WrittenBench$Flow", "forget", "()V"⟩, 14), (⟨"WrittenBench$Flow", "come", "(III)V"⟩, 14)]
theorem lw_r1 : ∀ q ∈ lw_privs_1, lw_okq q := List.forall_mem_cons.mpr ⟨lw_p0, List.forall_mem_cons.mpr ⟨lw_p1, List.forall_mem_cons.mpr ⟨lw_p2, List.forall_mem_cons.mpr ⟨lw_p3, List.forall_mem_cons.mpr ⟨lw_p4, List.forall_mem_cons.mpr ⟨lw_p5, List.forall_mem_cons.mpr ⟨lw_p6, List.forall_mem_cons.mpr ⟨lw_p7, List.forall_mem_cons.mpr ⟨lw_p8, List.forall_mem_cons.mpr ⟨lw_p9, List.forall_mem_cons.mpr ⟨lw_p10, List.forall_mem_cons.mpr ⟨lw_p11, List.forall_mem_cons.mpr ⟨lw_p12, List.forall_mem_cons.mpr ⟨lw_p13, List.forall_mem_cons.mpr ⟨lw_p14, List.forall_mem_cons.mpr ⟨lw_p15, fun _ h => absurd h List.not_mem_nil⟩⟩⟩⟩⟩⟩⟩⟩⟩⟩⟩⟩⟩⟩⟩⟩
theorem lw_p16 : lw_okq (⟨"WrittenBench$Flow", "join", "(IIII)V"⟩, 14) := ⟨⟨by decide +kernel, by decide +kernel⟩, List.mem_of_getElem? (i := 128) (by decide +kernel), List.mem_of_getElem? (i := 446) (by decide +kernel), List.mem_of_getElem? (i := 447) (by decide +kernel)⟩
theorem lw_p17 : lw_okq (⟨"WrittenBench$Flow", "takeOn", "(II)V"⟩, 14) := ⟨⟨by decide +kernel, by decide +kernel⟩, List.mem_of_getElem? (i := 128) (by decide +kernel), List.mem_of_getElem? (i := 451) (by decide +kernel), List.mem_of_getElem? (i := 452) (by decide +kernel)⟩
theorem lw_p18 : lw_okq (⟨"WrittenBench$Flow", "leave", "(III)V"⟩, 14) := ⟨⟨by decide +kernel, by decide +kernel⟩, List.mem_of_getElem? (i := 128) (by decide +kernel), List.mem_of_getElem? (i := 456) (by decide +kernel), List.mem_of_getElem? (i := 457) (by decide +kernel)⟩
theorem lw_p19 : lw_okq (⟨"WrittenBench$Flow", "isComeTo", "(II)Z"⟩, 14) := ⟨⟨by decide +kernel, by decide +kernel⟩, List.mem_of_getElem? (i := 128) (by decide +kernel), List.mem_of_getElem? (i := 460) (by decide +kernel), List.mem_of_getElem? (i := 461) (by decide +kernel)⟩
theorem lw_p20 : lw_okq (⟨"WrittenBench$Flow", "fill", "(I)V"⟩, 14) := ⟨⟨by decide +kernel, by decide +kernel⟩, List.mem_of_getElem? (i := 128) (by decide +kernel), List.mem_of_getElem? (i := 464) (by decide +kernel), List.mem_of_getElem? (i := 465) (by decide +kernel)⟩
theorem lw_p21 : lw_okq (⟨"WrittenBench$Flow", "fillRow", "(IIZ)V"⟩, 14) := ⟨⟨by decide +kernel, by decide +kernel⟩, List.mem_of_getElem? (i := 128) (by decide +kernel), List.mem_of_getElem? (i := 468) (by decide +kernel), List.mem_of_getElem? (i := 469) (by decide +kernel)⟩
theorem lw_p22 : lw_okq (⟨"WrittenBench$Flow", "copyRow", "(III)V"⟩, 14) := ⟨⟨by decide +kernel, by decide +kernel⟩, List.mem_of_getElem? (i := 128) (by decide +kernel), List.mem_of_getElem? (i := 475) (by decide +kernel), List.mem_of_getElem? (i := 476) (by decide +kernel)⟩
theorem lw_p23 : lw_okq (⟨"WrittenBench$Flow", "add", "(II)V"⟩, 14) := ⟨⟨by decide +kernel, by decide +kernel⟩, List.mem_of_getElem? (i := 128) (by decide +kernel), List.mem_of_getElem? (i := 480) (by decide +kernel), List.mem_of_getElem? (i := 481) (by decide +kernel)⟩
theorem lw_p24 : lw_okq (⟨"WrittenBench$Flow", "store", "(III)V"⟩, 14) := ⟨⟨by decide +kernel, by decide +kernel⟩, List.mem_of_getElem? (i := 128) (by decide +kernel), List.mem_of_getElem? (i := 486) (by decide +kernel), List.mem_of_getElem? (i := 487) (by decide +kernel)⟩
theorem lw_p25 : lw_okq (⟨"WrittenBench$Flow", "load", "(III)V"⟩, 14) := ⟨⟨by decide +kernel, by decide +kernel⟩, List.mem_of_getElem? (i := 128) (by decide +kernel), List.mem_of_getElem? (i := 490) (by decide +kernel), List.mem_of_getElem? (i := 491) (by decide +kernel)⟩
theorem lw_p26 : lw_okq (⟨"WrittenBench", "leastWitness", "(II)I"⟩, 15) := ⟨⟨by decide +kernel, by decide +kernel⟩, List.mem_of_getElem? (i := 10) (by decide +kernel), List.mem_of_getElem? (i := 526) (by decide +kernel), List.mem_of_getElem? (i := 527) (by decide +kernel)⟩
theorem lw_p27 : lw_okq (⟨"WrittenBench", "showsBad", "(II)Z"⟩, 15) := ⟨⟨by decide +kernel, by decide +kernel⟩, List.mem_of_getElem? (i := 10) (by decide +kernel), List.mem_of_getElem? (i := 530) (by decide +kernel), List.mem_of_getElem? (i := 531) (by decide +kernel)⟩
theorem lw_p28 : lw_okq (⟨"WrittenBench$Mender", "leads", "(II)Z"⟩, 13) := ⟨⟨by decide +kernel, by decide +kernel⟩, List.mem_of_getElem? (i := 182) (by decide +kernel), List.mem_of_getElem? (i := 567) (by decide +kernel), List.mem_of_getElem? (i := 568) (by decide +kernel)⟩
theorem lw_p29 : lw_okq (⟨"WrittenBench$Mender", "followWays", "()V"⟩, 13) := ⟨⟨by decide +kernel, by decide +kernel⟩, List.mem_of_getElem? (i := 182) (by decide +kernel), List.mem_of_getElem? (i := 582) (by decide +kernel), List.mem_of_getElem? (i := 583) (by decide +kernel)⟩
theorem lw_p30 : lw_okq (⟨"WrittenBench$Mender", "doAllMends", "()V"⟩, 13) := ⟨⟨by decide +kernel, by decide +kernel⟩, List.mem_of_getElem? (i := 182) (by decide +kernel), List.mem_of_getElem? (i := 586) (by decide +kernel), List.mem_of_getElem? (i := 587) (by decide +kernel)⟩
theorem lw_p31 : lw_okq (⟨"WrittenBench$Mender", "mendsComeTo", "()I"⟩, 13) := ⟨⟨by decide +kernel, by decide +kernel⟩, List.mem_of_getElem? (i := 182) (by decide +kernel), List.mem_of_getElem? (i := 595) (by decide +kernel), List.mem_of_getElem? (i := 596) (by decide +kernel)⟩
def lw_privs_2 : List (MethodName × Nat) := [(⟨"WrittenBench$Flow", "join", "(IIII)V"⟩, 14), (⟨"WrittenBench$Flow", "takeOn", "(II)V"⟩, 14), (⟨"WrittenBench$Flow", "leave", "(III)V"⟩, 14), (⟨"WrittenBench$Flow", "isComeTo", "(II)Z"⟩, 14), (⟨"WrittenBench$Flow", "fill", "(I)V"⟩, 14), (⟨"WrittenBench$Flow", "fillRow", "(IIZ)V"⟩, 14), (⟨"WrittenBench$Flow", "copyRow", "(III)V"⟩, 14), (⟨"WrittenBench$Flow", "add", "(II)V"⟩, 14), (⟨"WrittenBench$Flow", "store", "(III)V"⟩, 14), (⟨"WrittenBench$Flow", "load", "(III)V"⟩, 14), (⟨"WrittenBench", "leastWitness", "(II)I"⟩, 15), (⟨"WrittenBench", "showsBad", "(II)Z"⟩, 15), (⟨"WrittenBench$Mender", "leads", "(II)Z"⟩, 13), (⟨"WrittenBench$Mender", "followWays", "()V"⟩, 13), (⟨"WrittenBench$Mender", "doAllMends", "()V"⟩, 13), (⟨"WrittenBench$Mender", "mendsComeTo", "()I"⟩, 13)]
theorem lw_r2 : ∀ q ∈ lw_privs_2, lw_okq q := List.forall_mem_cons.mpr ⟨lw_p16, List.forall_mem_cons.mpr ⟨lw_p17, List.forall_mem_cons.mpr ⟨lw_p18, List.forall_mem_cons.mpr ⟨lw_p19, List.forall_mem_cons.mpr ⟨lw_p20, List.forall_mem_cons.mpr ⟨lw_p21, List.forall_mem_cons.mpr ⟨lw_p22, List.forall_mem_cons.mpr ⟨lw_p23, List.forall_mem_cons.mpr ⟨lw_p24, List.forall_mem_cons.mpr ⟨lw_p25, List.forall_mem_cons.mpr ⟨lw_p26, List.forall_mem_cons.mpr ⟨lw_p27, List.forall_mem_cons.mpr ⟨lw_p28, List.forall_mem_cons.mpr ⟨lw_p29, List.forall_mem_cons.mpr ⟨lw_p30, List.forall_mem_cons.mpr ⟨lw_p31, fun _ h => absurd h List.not_mem_nil⟩⟩⟩⟩⟩⟩⟩⟩⟩⟩⟩⟩⟩⟩⟩⟩
theorem lw_p32 : lw_okq (⟨"WrittenBench$Mender", "cheapest", "([I)I"⟩, 13) := ⟨⟨by decide +kernel, by decide +kernel⟩, List.mem_of_getElem? (i := 182) (by decide +kernel), List.mem_of_getElem? (i := 600) (by decide +kernel), List.mem_of_getElem? (i := 601) (by decide +kernel)⟩
theorem lw_p33 : lw_okq (⟨"WrittenBench$Mender", "costOf", "(I[I)I"⟩, 13) := ⟨⟨by decide +kernel, by decide +kernel⟩, List.mem_of_getElem? (i := 182) (by decide +kernel), List.mem_of_getElem? (i := 604) (by decide +kernel), List.mem_of_getElem? (i := 605) (by decide +kernel)⟩
theorem lw_p34 : lw_okq (⟨"WrittenBench$Mender", "cutsAllWays", "(I)Z"⟩, 13) := ⟨⟨by decide +kernel, by decide +kernel⟩, List.mem_of_getElem? (i := 182) (by decide +kernel), List.mem_of_getElem? (i := 608) (by decide +kernel), List.mem_of_getElem? (i := 609) (by decide +kernel)⟩
theorem lw_p35 : lw_okq (⟨"WrittenBench$Mender", "keep", "(I)V"⟩, 13) := ⟨⟨by decide +kernel, by decide +kernel⟩, List.mem_of_getElem? (i := 182) (by decide +kernel), List.mem_of_getElem? (i := 612) (by decide +kernel), List.mem_of_getElem? (i := 613) (by decide +kernel)⟩
theorem lw_p36 : lw_okq (⟨"WrittenBench$Mender", "keptAt", "(I)I"⟩, 13) := ⟨⟨by decide +kernel, by decide +kernel⟩, List.mem_of_getElem? (i := 182) (by decide +kernel), List.mem_of_getElem? (i := 628) (by decide +kernel), List.mem_of_getElem? (i := 629) (by decide +kernel)⟩
theorem lw_p37 : lw_okq (⟨"WrittenBenchModel", "puts", "(IIIIIII)V"⟩, 56) := ⟨⟨by decide +kernel, by decide +kernel⟩, List.mem_of_getElem? (i := 649) (by decide +kernel), List.mem_of_getElem? (i := 843) (by decide +kernel), List.mem_of_getElem? (i := 844) (by decide +kernel)⟩
theorem lw_p38 : lw_okq (⟨"WrittenBenchModel", "runs", "()I"⟩, 56) := ⟨⟨by decide +kernel, by decide +kernel⟩, List.mem_of_getElem? (i := 649) (by decide +kernel), List.mem_of_getElem? (i := 867) (by decide +kernel), List.mem_of_getElem? (i := 868) (by decide +kernel)⟩
theorem lw_p39 : lw_okq (⟨"WrittenBenchModel", "uses", "(III)V"⟩, 56) := ⟨⟨by decide +kernel, by decide +kernel⟩, List.mem_of_getElem? (i := 649) (by decide +kernel), List.mem_of_getElem? (i := 871) (by decide +kernel), List.mem_of_getElem? (i := 872) (by decide +kernel)⟩
theorem lw_p40 : lw_okq (⟨"WrittenBenchModel", "does", "(II)Z"⟩, 56) := ⟨⟨by decide +kernel, by decide +kernel⟩, List.mem_of_getElem? (i := 649) (by decide +kernel), List.mem_of_getElem? (i := 878) (by decide +kernel), List.mem_of_getElem? (i := 879) (by decide +kernel)⟩
theorem lw_p41 : lw_okq (⟨"WrittenBenchModel", "fills", "(IIIZ)V"⟩, 56) := ⟨⟨by decide +kernel, by decide +kernel⟩, List.mem_of_getElem? (i := 649) (by decide +kernel), List.mem_of_getElem? (i := 882) (by decide +kernel), List.mem_of_getElem? (i := 883) (by decide +kernel)⟩
theorem lw_p42 : lw_okq (⟨"WrittenBenchModel", "copies", "(III)V"⟩, 56) := ⟨⟨by decide +kernel, by decide +kernel⟩, List.mem_of_getElem? (i := 649) (by decide +kernel), List.mem_of_getElem? (i := 886) (by decide +kernel), List.mem_of_getElem? (i := 887) (by decide +kernel)⟩
theorem lw_p43 : lw_okq (⟨"WrittenBenchModel", "reads", "()I"⟩, 56) := ⟨⟨by decide +kernel, by decide +kernel⟩, List.mem_of_getElem? (i := 649) (by decide +kernel), List.mem_of_getElem? (i := 890) (by decide +kernel), List.mem_of_getElem? (i := 891) (by decide +kernel)⟩
theorem lw_p44 : lw_okq (⟨"WrittenBenchModel", "flowsPlain", "()V"⟩, 56) := ⟨⟨by decide +kernel, by decide +kernel⟩, List.mem_of_getElem? (i := 649) (by decide +kernel), List.mem_of_getElem? (i := 914) (by decide +kernel), List.mem_of_getElem? (i := 915) (by decide +kernel)⟩
theorem lw_p45 : lw_okq (⟨"WrittenBenchModel", "unmends", "()V"⟩, 56) := ⟨⟨by decide +kernel, by decide +kernel⟩, List.mem_of_getElem? (i := 649) (by decide +kernel), List.mem_of_getElem? (i := 918) (by decide +kernel), List.mem_of_getElem? (i := 919) (by decide +kernel)⟩
theorem lw_p46 : lw_okq (⟨"WrittenBenchModel", "flows", "(III)V"⟩, 56) := ⟨⟨by decide +kernel, by decide +kernel⟩, List.mem_of_getElem? (i := 649) (by decide +kernel), List.mem_of_getElem? (i := 923) (by decide +kernel), List.mem_of_getElem? (i := 924) (by decide +kernel)⟩
theorem lw_p47 : lw_okq (⟨"WrittenBenchModel", "begins", "(I)V"⟩, 56) := ⟨⟨by decide +kernel, by decide +kernel⟩, List.mem_of_getElem? (i := 649) (by decide +kernel), List.mem_of_getElem? (i := 927) (by decide +kernel), List.mem_of_getElem? (i := 928) (by decide +kernel)⟩
def lw_privs_3 : List (MethodName × Nat) := [(⟨"WrittenBench$Mender", "cheapest", "([I)I"⟩, 13), (⟨"WrittenBench$Mender", "costOf", "(I[I)I"⟩, 13), (⟨"WrittenBench$Mender", "cutsAllWays", "(I)Z"⟩, 13), (⟨"WrittenBench$Mender", "keep", "(I)V"⟩, 13), (⟨"WrittenBench$Mender", "keptAt", "(I)I"⟩, 13), (⟨"WrittenBenchModel", "puts", "(IIIIIII)V"⟩, 56), (⟨"WrittenBenchModel", "runs", "()I"⟩, 56), (⟨"WrittenBenchModel", "uses", "(III)V"⟩, 56), (⟨"WrittenBenchModel", "does", "(II)Z"⟩, 56), (⟨"WrittenBenchModel", "fills", "(IIIZ)V"⟩, 56), (⟨"WrittenBenchModel", "copies", "(III)V"⟩, 56), (⟨"WrittenBenchModel", "reads", "()I"⟩, 56), (⟨"WrittenBenchModel", "flowsPlain", "()V"⟩, 56), (⟨"WrittenBenchModel", "unmends", "()V"⟩, 56), (⟨"WrittenBenchModel", "flows", "(III)V"⟩, 56), (⟨"WrittenBenchModel", "begins", "(I)V"⟩, 56)]
theorem lw_r3 : ∀ q ∈ lw_privs_3, lw_okq q := List.forall_mem_cons.mpr ⟨lw_p32, List.forall_mem_cons.mpr ⟨lw_p33, List.forall_mem_cons.mpr ⟨lw_p34, List.forall_mem_cons.mpr ⟨lw_p35, List.forall_mem_cons.mpr ⟨lw_p36, List.forall_mem_cons.mpr ⟨lw_p37, List.forall_mem_cons.mpr ⟨lw_p38, List.forall_mem_cons.mpr ⟨lw_p39, List.forall_mem_cons.mpr ⟨lw_p40, List.forall_mem_cons.mpr ⟨lw_p41, List.forall_mem_cons.mpr ⟨lw_p42, List.forall_mem_cons.mpr ⟨lw_p43, List.forall_mem_cons.mpr ⟨lw_p44, List.forall_mem_cons.mpr ⟨lw_p45, List.forall_mem_cons.mpr ⟨lw_p46, List.forall_mem_cons.mpr ⟨lw_p47, fun _ h => absurd h List.not_mem_nil⟩⟩⟩⟩⟩⟩⟩⟩⟩⟩⟩⟩⟩⟩⟩⟩
theorem lw_p48 : lw_okq (⟨"WrittenBenchModel", "goes", "(II)V"⟩, 56) := ⟨⟨by decide +kernel, by decide +kernel⟩, List.mem_of_getElem? (i := 649) (by decide +kernel), List.mem_of_getElem? (i := 931) (by decide +kernel), List.mem_of_getElem? (i := 932) (by decide +kernel)⟩
theorem lw_p49 : lw_okq (⟨"WrittenBenchModel", "returns", "(I)V"⟩, 56) := ⟨⟨by decide +kernel, by decide +kernel⟩, List.mem_of_getElem? (i := 649) (by decide +kernel), List.mem_of_getElem? (i := 935) (by decide +kernel), List.mem_of_getElem? (i := 936) (by decide +kernel)⟩
theorem lw_p50 : lw_okq (⟨"WrittenBenchModel", "changes", "(II)Z"⟩, 56) := ⟨⟨by decide +kernel, by decide +kernel⟩, List.mem_of_getElem? (i := 649) (by decide +kernel), List.mem_of_getElem? (i := 939) (by decide +kernel), List.mem_of_getElem? (i := 940) (by decide +kernel)⟩
theorem lw_p51 : lw_okq (⟨"WrittenBenchModel", "sets", "(IIZZ)V"⟩, 56) := ⟨⟨by decide +kernel, by decide +kernel⟩, List.mem_of_getElem? (i := 649) (by decide +kernel), List.mem_of_getElem? (i := 943) (by decide +kernel), List.mem_of_getElem? (i := 944) (by decide +kernel)⟩
theorem lw_p52 : lw_okq (⟨"WrittenBenchModel", "badMany", "()I"⟩, 56) := ⟨⟨by decide +kernel, by decide +kernel⟩, List.mem_of_getElem? (i := 649) (by decide +kernel), List.mem_of_getElem? (i := 953) (by decide +kernel), List.mem_of_getElem? (i := 954) (by decide +kernel)⟩
theorem lw_p53 : lw_okq (⟨"WrittenBenchModel", "isBad", "(II)Z"⟩, 56) := ⟨⟨by decide +kernel, by decide +kernel⟩, List.mem_of_getElem? (i := 649) (by decide +kernel), List.mem_of_getElem? (i := 957) (by decide +kernel), List.mem_of_getElem? (i := 958) (by decide +kernel)⟩
theorem lw_p54 : lw_okq (⟨"WrittenBenchModel", "used", "(II)I"⟩, 56) := ⟨⟨by decide +kernel, by decide +kernel⟩, List.mem_of_getElem? (i := 649) (by decide +kernel), List.mem_of_getElem? (i := 961) (by decide +kernel), List.mem_of_getElem? (i := 962) (by decide +kernel)⟩
theorem lw_p55 : lw_okq (⟨"WrittenBenchModel", "kindOf", "(II)I"⟩, 56) := ⟨⟨by decide +kernel, by decide +kernel⟩, List.mem_of_getElem? (i := 649) (by decide +kernel), List.mem_of_getElem? (i := 977) (by decide +kernel), List.mem_of_getElem? (i := 978) (by decide +kernel)⟩
theorem lw_p56 : lw_okq (⟨"WrittenBenchModel", "looksFor", "()Z"⟩, 56) := ⟨⟨by decide +kernel, by decide +kernel⟩, List.mem_of_getElem? (i := 649) (by decide +kernel), List.mem_of_getElem? (i := 993) (by decide +kernel), List.mem_of_getElem? (i := 994) (by decide +kernel)⟩
theorem lw_p57 : lw_okq (⟨"WrittenBenchModel", "counts", "(II)Z"⟩, 56) := ⟨⟨by decide +kernel, by decide +kernel⟩, List.mem_of_getElem? (i := 649) (by decide +kernel), List.mem_of_getElem? (i := 997) (by decide +kernel), List.mem_of_getElem? (i := 998) (by decide +kernel)⟩
theorem lw_p58 : lw_okq (⟨"WrittenBenchModel", "leads", "(III)V"⟩, 56) := ⟨⟨by decide +kernel, by decide +kernel⟩, List.mem_of_getElem? (i := 649) (by decide +kernel), List.mem_of_getElem? (i := 1001) (by decide +kernel), List.mem_of_getElem? (i := 1002) (by decide +kernel)⟩
theorem lw_p59 : lw_okq (⟨"WrittenBenchModel", "leadsOn", "(II)V"⟩, 56) := ⟨⟨by decide +kernel, by decide +kernel⟩, List.mem_of_getElem? (i := 649) (by decide +kernel), List.mem_of_getElem? (i := 1005) (by decide +kernel), List.mem_of_getElem? (i := 1006) (by decide +kernel)⟩
theorem lw_p60 : lw_okq (⟨"WrittenBenchModel", "left", "(III)I"⟩, 56) := ⟨⟨by decide +kernel, by decide +kernel⟩, List.mem_of_getElem? (i := 649) (by decide +kernel), List.mem_of_getElem? (i := 1009) (by decide +kernel), List.mem_of_getElem? (i := 1010) (by decide +kernel)⟩
theorem lw_p61 : lw_okq (⟨"WrittenBenchModel", "skipsBelow", "(I)Z"⟩, 56) := ⟨⟨by decide +kernel, by decide +kernel⟩, List.mem_of_getElem? (i := 649) (by decide +kernel), List.mem_of_getElem? (i := 1022) (by decide +kernel), List.mem_of_getElem? (i := 1023) (by decide +kernel)⟩
def lw_privs_4 : List (MethodName × Nat) := [(⟨"WrittenBenchModel", "goes", "(II)V"⟩, 56), (⟨"WrittenBenchModel", "returns", "(I)V"⟩, 56), (⟨"WrittenBenchModel", "changes", "(II)Z"⟩, 56), (⟨"WrittenBenchModel", "sets", "(IIZZ)V"⟩, 56), (⟨"WrittenBenchModel", "badMany", "()I"⟩, 56), (⟨"WrittenBenchModel", "isBad", "(II)Z"⟩, 56), (⟨"WrittenBenchModel", "used", "(II)I"⟩, 56), (⟨"WrittenBenchModel", "kindOf", "(II)I"⟩, 56), (⟨"WrittenBenchModel", "looksFor", "()Z"⟩, 56), (⟨"WrittenBenchModel", "counts", "(II)Z"⟩, 56), (⟨"WrittenBenchModel", "leads", "(III)V"⟩, 56), (⟨"WrittenBenchModel", "leadsOn", "(II)V"⟩, 56), (⟨"WrittenBenchModel", "left", "(III)I"⟩, 56), (⟨"WrittenBenchModel", "skipsBelow", "(I)Z"⟩, 56)]
theorem lw_r4 : ∀ q ∈ lw_privs_4, lw_okq q := List.forall_mem_cons.mpr ⟨lw_p48, List.forall_mem_cons.mpr ⟨lw_p49, List.forall_mem_cons.mpr ⟨lw_p50, List.forall_mem_cons.mpr ⟨lw_p51, List.forall_mem_cons.mpr ⟨lw_p52, List.forall_mem_cons.mpr ⟨lw_p53, List.forall_mem_cons.mpr ⟨lw_p54, List.forall_mem_cons.mpr ⟨lw_p55, List.forall_mem_cons.mpr ⟨lw_p56, List.forall_mem_cons.mpr ⟨lw_p57, List.forall_mem_cons.mpr ⟨lw_p58, List.forall_mem_cons.mpr ⟨lw_p59, List.forall_mem_cons.mpr ⟨lw_p60, List.forall_mem_cons.mpr ⟨lw_p61, fun _ h => absurd h List.not_mem_nil⟩⟩⟩⟩⟩⟩⟩⟩⟩⟩⟩⟩⟩⟩
def lw_privs : List (MethodName × Nat) := lw_privs_1 ++ (lw_privs_2 ++ (lw_privs_3 ++ (lw_privs_4)))
def lw_tbl : List Cond := k2_sels lw_privs ++ tables_1
theorem lw_privs_ok : ∀ q ∈ lw_privs, lw_okq q := by
  show ∀ q ∈ lw_privs_1 ++ (lw_privs_2 ++ (lw_privs_3 ++ (lw_privs_4))), lw_okq q
  exact List.forall_mem_append.mpr ⟨lw_r1, List.forall_mem_append.mpr ⟨lw_r2, List.forall_mem_append.mpr ⟨lw_r3, lw_r4⟩⟩⟩
def RX0 : String := "WrittenBench$Flow"
def TX0 : u_T := fun k => match k with
  | 0 => ("WrittenBench$Flow", "program", "LWrittenBench$Program;", true)
  | 1 => ("WrittenBench$Flow", "written", "[I", true)
  | 2 => ("WrittenBench$Flow", "unwritten", "[I", true)
  | 3 => ("WrittenBench$Flow", "due", "[Z", true)
  | 4 => ("WrittenBench$Flow", "anyDue", "Z", false)
  | 5 => ("WrittenBench$Flow", "nextWritten", "I", false)
  | 6 => ("WrittenBench$Flow", "nextUnwritten", "I", false)
  | 7 => ("WrittenBench$Flow", "inWritten", "[I", true)
  | 8 => ("WrittenBench$Flow", "inUnwritten", "[I", true)
  | 9 => ("WrittenBench$Flow", "outWritten", "[I", true)
  | 10 => ("WrittenBench$Flow", "outUnwritten", "[I", true)
  | 11 => ("WrittenBench$Flow", "setAhead", "[I", true)
  | 12 => ("WrittenBench$Flow", "unsetAhead", "[I", true)
  | _ => ("WrittenBench$Flow", "freeWrites", "Z", false)
def tyX0 : Nat → FieldType := fun k => match k with
  | 0 => .object "WrittenBench$Program"
  | 1 => .array .int
  | 2 => .array .int
  | 3 => .array .boolean
  | 4 => .boolean
  | 5 => .int
  | 6 => .int
  | 7 => .array .int
  | 8 => .array .int
  | 9 => .array .int
  | 10 => .array .int
  | 11 => .array .int
  | 12 => .array .int
  | _ => .boolean
abbrev wsX00 : List Cond := u_ws RX0 TX0 14
theorem nmX0 : ∀ a, a < 14 → ∀ b, b < 14 → a ≠ b → (TX0 a).2.1 ≠ (TX0 b).2.1 := by decide +kernel
theorem tyX0_ok : ∀ k, k < 14 → parseFieldDescriptor (TX0 k).2.2.1 = some (tyX0 k) := by decide +kernel
abbrev cX0_init : ByteArray := prog_2_method_1_code
def yX0_init : MethodName := ⟨RX0, "<init>", "(LWrittenBench$Program;)V"⟩
abbrev cX0_takePlain : ByteArray := prog_2_method_2_code
def yX0_takePlain : MethodName := ⟨RX0, "takePlain", "()V"⟩
abbrev cX0_setAtBegin : ByteArray := prog_2_method_3_code
def yX0_setAtBegin : MethodName := ⟨RX0, "setAtBegin", "(II)V"⟩
abbrev cX0_unsetAtBegin : ByteArray := prog_2_method_4_code
def yX0_unsetAtBegin : MethodName := ⟨RX0, "unsetAtBegin", "(II)V"⟩
abbrev cX0_follow : ByteArray := prog_2_method_5_code
def yX0_follow : MethodName := ⟨RX0, "follow", "(II)V"⟩
abbrev cX0_mayBe : ByteArray := prog_2_method_6_code
def yX0_mayBe : MethodName := ⟨RX0, "mayBe", "(III)I"⟩
abbrev cX0_kind : ByteArray := prog_2_method_7_code
def yX0_kind : MethodName := ⟨RX0, "kind", "(II)I"⟩
abbrev cX0_badUses : ByteArray := prog_2_method_8_code
def yX0_badUses : MethodName := ⟨RX0, "badUses", "()I"⟩
abbrev cX0_badUseAt : ByteArray := prog_2_method_9_code
def yX0_badUseAt : MethodName := ⟨RX0, "badUseAt", "(I)I"⟩
abbrev cX0_tellKinds : ByteArray := prog_2_method_10_code
def yX0_tellKinds : MethodName := ⟨RX0, "tellKinds", "([I)V"⟩
abbrev cX0_hasKinds : ByteArray := prog_2_method_11_code
def yX0_hasKinds : MethodName := ⟨RX0, "hasKinds", "([I)Z"⟩
abbrev cX0_forget : ByteArray := prog_2_method_12_code
def yX0_forget : MethodName := ⟨RX0, "forget", "()V"⟩
abbrev cX0_come : ByteArray := prog_2_method_13_code
def yX0_come : MethodName := ⟨RX0, "come", "(III)V"⟩
abbrev cX0_join : ByteArray := prog_2_method_14_code
def yX0_join : MethodName := ⟨RX0, "join", "(IIII)V"⟩
abbrev cX0_takeOn : ByteArray := prog_2_method_15_code
def yX0_takeOn : MethodName := ⟨RX0, "takeOn", "(II)V"⟩
abbrev cX0_leave : ByteArray := prog_2_method_16_code
def yX0_leave : MethodName := ⟨RX0, "leave", "(III)V"⟩
abbrev cX0_isComeTo : ByteArray := prog_2_method_17_code
def yX0_isComeTo : MethodName := ⟨RX0, "isComeTo", "(II)Z"⟩
abbrev cX0_fill : ByteArray := prog_2_method_18_code
def yX0_fill : MethodName := ⟨RX0, "fill", "(I)V"⟩
abbrev cX0_fillRow : ByteArray := prog_2_method_19_code
def yX0_fillRow : MethodName := ⟨RX0, "fillRow", "(IIZ)V"⟩
abbrev cX0_copyRow : ByteArray := prog_2_method_20_code
def yX0_copyRow : MethodName := ⟨RX0, "copyRow", "(III)V"⟩
abbrev cX0_add : ByteArray := prog_2_method_21_code
def yX0_add : MethodName := ⟨RX0, "add", "(II)V"⟩
abbrev cX0_store : ByteArray := prog_2_method_22_code
def yX0_store : MethodName := ⟨RX0, "store", "(III)V"⟩
abbrev cX0_load : ByteArray := prog_2_method_23_code
def yX0_load : MethodName := ⟨RX0, "load", "(III)V"⟩
def RX1 : String := "WrittenBench$Mender"
def TX1 : u_T := fun k => match k with
  | 0 => ("WrittenBench$Mender", "program", "LWrittenBench$Program;", true)
  | 1 => ("WrittenBench$Mender", "plain", "LWrittenBench$Flow;", true)
  | 2 => ("WrittenBench$Mender", "other", "LWrittenBench$Flow;", true)
  | 3 => ("WrittenBench$Mender", "function", "[I", true)
  | 4 => ("WrittenBench$Mender", "cell", "[I", true)
  | 5 => ("WrittenBench$Mender", "waysTo", "[I", true)
  | 6 => ("WrittenBench$Mender", "mends", "I", false)
  | 7 => ("WrittenBench$Mender", "straightToUse", "I", false)
  | 8 => ("WrittenBench$Mender", "firstMends", "I", false)
  | 9 => ("WrittenBench$Mender", "cannotBeCut", "Z", false)
  | 10 => ("WrittenBench$Mender", "keptFunction", "[I", true)
  | 11 => ("WrittenBench$Mender", "keptCell", "[I", true)
  | _ => ("WrittenBench$Mender", "keptCount", "I", false)
def tyX1 : Nat → FieldType := fun k => match k with
  | 0 => .object "WrittenBench$Program"
  | 1 => .object "WrittenBench$Flow"
  | 2 => .object "WrittenBench$Flow"
  | 3 => .array .int
  | 4 => .array .int
  | 5 => .array .int
  | 6 => .int
  | 7 => .int
  | 8 => .int
  | 9 => .boolean
  | 10 => .array .int
  | 11 => .array .int
  | _ => .int
abbrev wsX10 : List Cond := u_ws RX1 TX1 13
theorem nmX1 : ∀ a, a < 13 → ∀ b, b < 13 → a ≠ b → (TX1 a).2.1 ≠ (TX1 b).2.1 := by decide +kernel
theorem tyX1_ok : ∀ k, k < 13 → parseFieldDescriptor (TX1 k).2.2.1 = some (tyX1 k) := by decide +kernel
abbrev cX1_init : ByteArray := prog_3_method_1_code
def yX1_init : MethodName := ⟨RX1, "<init>", "(LWrittenBench$Program;LWrittenBench$Flow;LWrittenBench$Flow;)V"⟩
abbrev cX1_gather : ByteArray := prog_3_method_2_code
def yX1_gather : MethodName := ⟨RX1, "gather", "()Z"⟩
abbrev cX1_find : ByteArray := prog_3_method_3_code
def yX1_find : MethodName := ⟨RX1, "find", "([I)I"⟩
abbrev cX1_canBeDone : ByteArray := prog_3_method_4_code
def yX1_canBeDone : MethodName := ⟨RX1, "canBeDone", "()Z"⟩
abbrev cX1_putSets : ByteArray := prog_3_method_5_code
def yX1_putSets : MethodName := ⟨RX1, "putSets", "()V"⟩
abbrev cX1_keptAt : ByteArray := prog_3_method_6_code
def yX1_keptAt : MethodName := ⟨RX1, "keptAt", "(I)I"⟩
abbrev cX1_leads : ByteArray := prog_3_method_7_code
def yX1_leads : MethodName := ⟨RX1, "leads", "(II)Z"⟩
abbrev cX1_followWays : ByteArray := prog_3_method_8_code
def yX1_followWays : MethodName := ⟨RX1, "followWays", "()V"⟩
abbrev cX1_doAllMends : ByteArray := prog_3_method_9_code
def yX1_doAllMends : MethodName := ⟨RX1, "doAllMends", "()V"⟩
abbrev cX1_mendsComeTo : ByteArray := prog_3_method_10_code
def yX1_mendsComeTo : MethodName := ⟨RX1, "mendsComeTo", "()I"⟩
abbrev cX1_cheapest : ByteArray := prog_3_method_11_code
def yX1_cheapest : MethodName := ⟨RX1, "cheapest", "([I)I"⟩
abbrev cX1_costOf : ByteArray := prog_3_method_12_code
def yX1_costOf : MethodName := ⟨RX1, "costOf", "(I[I)I"⟩
abbrev cX1_cutsAllWays : ByteArray := prog_3_method_13_code
def yX1_cutsAllWays : MethodName := ⟨RX1, "cutsAllWays", "(I)Z"⟩
abbrev cX1_keep : ByteArray := prog_3_method_14_code
def yX1_keep : MethodName := ⟨RX1, "keep", "(I)V"⟩
def RX2 : String := "WrittenBench$Program"
def TX2 : u_T := fun k => match k with
  | 0 => ("WrittenBench$Program", "length", "[I", true)
  | 1 => ("WrittenBench$Program", "op", "[I", true)
  | 2 => ("WrittenBench$Program", "a", "[I", true)
  | 3 => ("WrittenBench$Program", "b", "[I", true)
  | 4 => ("WrittenBench$Program", "c", "[I", true)
  | _ => ("WrittenBench$Program", "d", "[I", true)
def tyX2 : Nat → FieldType := fun k => match k with
  | 0 => .array .int
  | 1 => .array .int
  | 2 => .array .int
  | 3 => .array .int
  | 4 => .array .int
  | _ => .array .int
abbrev wsX20 : List Cond := u_ws RX2 TX2 6
theorem nmX2 : ∀ a, a < 6 → ∀ b, b < 6 → a ≠ b → (TX2 a).2.1 ≠ (TX2 b).2.1 := by decide +kernel
theorem tyX2_ok : ∀ k, k < 6 → parseFieldDescriptor (TX2 k).2.2.1 = some (tyX2 k) := by decide +kernel
abbrev cX2_init : ByteArray := prog_4_method_1_code
def yX2_init : MethodName := ⟨RX2, "<init>", "()V"⟩
abbrev cX2_has : ByteArray := prog_4_method_2_code
def yX2_has : MethodName := ⟨RX2, "has", "(II)Z"⟩
abbrev cX2_put : ByteArray := prog_4_method_3_code
def yX2_put : MethodName := ⟨RX2, "put", "(IIIIIII)V"⟩
abbrev cX2_putSetAhead : ByteArray := prog_4_method_4_code
def yX2_putSetAhead : MethodName := ⟨RX2, "putSetAhead", "(II)V"⟩
abbrev cX2_usedCell : ByteArray := prog_4_method_5_code
def yX2_usedCell : MethodName := ⟨RX2, "usedCell", "(I)I"⟩
abbrev cX2_skipsBelowZero : ByteArray := prog_4_method_6_code
def yX2_skipsBelowZero : MethodName := ⟨RX2, "skipsBelowZero", "(I)Z"⟩
def RX3 : String := "WrittenBench$Run"
def TX3 : u_T := fun k => match k with
  | 0 => ("WrittenBench$Run", "program", "LWrittenBench$Program;", true)
  | 1 => ("WrittenBench$Run", "input", "[I", true)
  | 2 => ("WrittenBench$Run", "inputCount", "I", false)
  | 3 => ("WrittenBench$Run", "openFunction", "[I", true)
  | 4 => ("WrittenBench$Run", "openPlace", "[I", true)
  | 5 => ("WrittenBench$Run", "open", "I", false)
  | 6 => ("WrittenBench$Run", "function", "I", false)
  | 7 => ("WrittenBench$Run", "place", "I", false)
  | 8 => ("WrittenBench$Run", "number", "[I", true)
  | 9 => ("WrittenBench$Run", "written", "I", false)
  | 10 => ("WrittenBench$Run", "done", "I", false)
  | 11 => ("WrittenBench$Run", "badUses", "I", false)
  | 12 => ("WrittenBench$Run", "firstBad", "I", false)
  | 13 => ("WrittenBench$Run", "prints", "I", false)
  | 14 => ("WrittenBench$Run", "kept", "[I", true)
  | 15 => ("WrittenBench$Run", "reads", "I", false)
  | 16 => ("WrittenBench$Run", "watched", "I", false)
  | _ => ("WrittenBench$Run", "watchedIsBad", "Z", false)
def tyX3 : Nat → FieldType := fun k => match k with
  | 0 => .object "WrittenBench$Program"
  | 1 => .array .int
  | 2 => .int
  | 3 => .array .int
  | 4 => .array .int
  | 5 => .int
  | 6 => .int
  | 7 => .int
  | 8 => .array .int
  | 9 => .int
  | 10 => .int
  | 11 => .int
  | 12 => .int
  | 13 => .int
  | 14 => .array .int
  | 15 => .int
  | 16 => .int
  | _ => .boolean
abbrev wsX30 : List Cond := u_ws RX3 TX3 18
theorem nmX3 : ∀ a, a < 18 → ∀ b, b < 18 → a ≠ b → (TX3 a).2.1 ≠ (TX3 b).2.1 := by decide +kernel
theorem tyX3_ok : ∀ k, k < 18 → parseFieldDescriptor (TX3 k).2.2.1 = some (tyX3 k) := by decide +kernel
abbrev cX3_init : ByteArray := prog_5_method_1_code
def yX3_init : MethodName := ⟨RX3, "<init>", "(LWrittenBench$Program;[I)V"⟩
abbrev cX3_go : ByteArray := prog_5_method_2_code
def yX3_go : MethodName := ⟨RX3, "go", "(I)I"⟩
abbrev cX3_startAnew : ByteArray := prog_5_method_3_code
def yX3_startAnew : MethodName := ⟨RX3, "startAnew", "()V"⟩
abbrev cX3_goBack : ByteArray := prog_5_method_4_code
def yX3_goBack : MethodName := ⟨RX3, "goBack", "()V"⟩
abbrev cX3_doOne : ByteArray := prog_5_method_5_code
def yX3_doOne : MethodName := ⟨RX3, "doOne", "()I"⟩
abbrev cX3_lookAtUse : ByteArray := prog_5_method_6_code
def yX3_lookAtUse : MethodName := ⟨RX3, "lookAtUse", "(I)V"⟩
abbrev cX3_keepPrint : ByteArray := prog_5_method_7_code
def yX3_keepPrint : MethodName := ⟨RX3, "keepPrint", "(I)V"⟩
abbrev cX3_store : ByteArray := prog_5_method_8_code
def yX3_store : MethodName := ⟨RX3, "store", "(I)I"⟩
abbrev cX3_load : ByteArray := prog_5_method_9_code
def yX3_load : MethodName := ⟨RX3, "load", "(I)I"⟩
abbrev cX3_enter : ByteArray := prog_5_method_10_code
def yX3_enter : MethodName := ⟨RX3, "enter", "(I)I"⟩
abbrev cX3_fill : ByteArray := prog_5_method_11_code
def yX3_fill : MethodName := ⟨RX3, "fill", "(I)V"⟩
abbrev cX3_nextOfInput : ByteArray := prog_5_method_12_code
def yX3_nextOfInput : MethodName := ⟨RX3, "nextOfInput", "()I"⟩
abbrev cX3_fillRow : ByteArray := prog_5_method_13_code
def yX3_fillRow : MethodName := ⟨RX3, "fillRow", "(IIIZ)V"⟩
abbrev cX3_copyRow : ByteArray := prog_5_method_14_code
def yX3_copyRow : MethodName := ⟨RX3, "copyRow", "(III)V"⟩
def RX4 : String := "WrittenBench"
def TX4 : u_T := fun k => match k with
  | 0 => ("WrittenBench", "program", "LWrittenBench$Program;", true)
  | 1 => ("WrittenBench", "coins", "[I", true)
  | 2 => ("WrittenBench", "numbers", "[I", true)
  | 3 => ("WrittenBench", "numberCount", "I", false)
  | 4 => ("WrittenBench", "latest", "LWrittenBench$Run;", true)
  | 5 => ("WrittenBench", "hasRun", "Z", false)
  | 6 => ("WrittenBench", "bits", "[I", true)
  | 7 => ("WrittenBench", "trial", "LWrittenBench$Run;", true)
  | 8 => ("WrittenBench", "readsOf", "[I", true)
  | 9 => ("WrittenBench", "plain", "LWrittenBench$Flow;", true)
  | 10 => ("WrittenBench", "plainIsFresh", "Z", false)
  | 11 => ("WrittenBench", "other", "LWrittenBench$Flow;", true)
  | 12 => ("WrittenBench", "kinds", "[I", true)
  | 13 => ("WrittenBench", "mender", "LWrittenBench$Mender;", true)
  | _ => ("WrittenBench", "mendsFit", "Z", false)
def tyX4 : Nat → FieldType := fun k => match k with
  | 0 => .object "WrittenBench$Program"
  | 1 => .array .int
  | 2 => .array .int
  | 3 => .int
  | 4 => .object "WrittenBench$Run"
  | 5 => .boolean
  | 6 => .array .int
  | 7 => .object "WrittenBench$Run"
  | 8 => .array .int
  | 9 => .object "WrittenBench$Flow"
  | 10 => .boolean
  | 11 => .object "WrittenBench$Flow"
  | 12 => .array .int
  | 13 => .object "WrittenBench$Mender"
  | _ => .boolean
abbrev wsX40 : List Cond := u_ws RX4 TX4 15
theorem nmX4 : ∀ a, a < 15 → ∀ b, b < 15 → a ≠ b → (TX4 a).2.1 ≠ (TX4 b).2.1 := by decide +kernel
theorem tyX4_ok : ∀ k, k < 15 → parseFieldDescriptor (TX4 k).2.2.1 = some (tyX4 k) := by decide +kernel
abbrev cX4_init : ByteArray := prog_1_method_1_code
def yX4_init : MethodName := ⟨RX4, "<init>", "()V"⟩
abbrev cX4_code : ByteArray := prog_1_method_2_code
def yX4_code : MethodName := ⟨RX4, "code", "(IIIIII)I"⟩
abbrev cX4_change : ByteArray := prog_1_method_3_code
def yX4_change : MethodName := ⟨RX4, "change", "(IIIIIII)Z"⟩
abbrev cX4_clear : ByteArray := prog_1_method_4_code
def yX4_clear : MethodName := ⟨RX4, "clear", "(I)I"⟩
abbrev cX4_input : ByteArray := prog_1_method_5_code
def yX4_input : MethodName := ⟨RX4, "input", "(I)I"⟩
abbrev cX4_empty : ByteArray := prog_1_method_6_code
def yX4_empty : MethodName := ⟨RX4, "empty", "()I"⟩
abbrev cX4_run : ByteArray := prog_1_method_7_code
def yX4_run : MethodName := ⟨RX4, "run", "()I"⟩
abbrev cX4_ran : ByteArray := prog_1_method_8_code
def yX4_ran : MethodName := ⟨RX4, "ran", "(I)I"⟩
abbrev cX4_printed : ByteArray := prog_1_method_9_code
def yX4_printed : MethodName := ⟨RX4, "printed", "(I)I"⟩
abbrev cX4_cell : ByteArray := prog_1_method_10_code
def yX4_cell : MethodName := ⟨RX4, "cell", "(II)I"⟩
abbrev cX4_flow : ByteArray := prog_1_method_11_code
def yX4_flow : MethodName := ⟨RX4, "flow", "()I"⟩
abbrev cX4_bad : ByteArray := prog_1_method_12_code
def yX4_bad : MethodName := ⟨RX4, "bad", "(II)I"⟩
abbrev cX4_state : ByteArray := prog_1_method_13_code
def yX4_state : MethodName := ⟨RX4, "state", "(III)I"⟩
abbrev cX4_witness : ByteArray := prog_1_method_14_code
def yX4_witness : MethodName := ⟨RX4, "witness", "(III)I"⟩
abbrev cX4_needs : ByteArray := prog_1_method_15_code
def yX4_needs : MethodName := ⟨RX4, "needs", "(I)I"⟩
abbrev cX4_writes : ByteArray := prog_1_method_16_code
def yX4_writes : MethodName := ⟨RX4, "writes", "(I)I"⟩
abbrev cX4_cost : ByteArray := prog_1_method_17_code
def yX4_cost : MethodName := ⟨RX4, "cost", "(II)I"⟩
abbrev cX4_mend : ByteArray := prog_1_method_18_code
def yX4_mend : MethodName := ⟨RX4, "mend", "()I"⟩
abbrev cX4_mended : ByteArray := prog_1_method_19_code
def yX4_mended : MethodName := ⟨RX4, "mended", "(II)I"⟩
abbrev cX4_apply : ByteArray := prog_1_method_20_code
def yX4_apply : MethodName := ⟨RX4, "apply", "()Z"⟩
abbrev cX4_count : ByteArray := prog_1_method_21_code
def yX4_count : MethodName := ⟨RX4, "count", "(I)I"⟩
abbrev cX4_programIsAnother : ByteArray := prog_1_method_22_code
def yX4_programIsAnother : MethodName := ⟨RX4, "programIsAnother", "()V"⟩
abbrev cX4_freshen : ByteArray := prog_1_method_23_code
def yX4_freshen : MethodName := ⟨RX4, "freshen", "()V"⟩
abbrev cX4_leastWitness : ByteArray := prog_1_method_24_code
def yX4_leastWitness : MethodName := ⟨RX4, "leastWitness", "(II)I"⟩
abbrev cX4_showsBad : ByteArray := prog_1_method_25_code
def yX4_showsBad : MethodName := ⟨RX4, "showsBad", "(II)Z"⟩
abbrev cX4_isFunction : ByteArray := prog_1_method_26_code
def yX4_isFunction : MethodName := ⟨RX4, "isFunction", "(I)Z"⟩
abbrev cX4_isCell : ByteArray := prog_1_method_27_code
def yX4_isCell : MethodName := ⟨RX4, "isCell", "(I)Z"⟩
abbrev cX4_isRow : ByteArray := prog_1_method_28_code
def yX4_isRow : MethodName := ⟨RX4, "isRow", "(II)Z"⟩
abbrev cX4_isAsTold : ByteArray := prog_1_method_29_code
def yX4_isAsTold : MethodName := ⟨RX4, "isAsTold", "(IIIII)Z"⟩
abbrev cX4_locate : ByteArray := prog_1_method_30_code
def yX4_locate : MethodName := ⟨RX4, "locate", "(II)I"⟩
abbrev cX4_functionAt : ByteArray := prog_1_method_31_code
def yX4_functionAt : MethodName := ⟨RX4, "functionAt", "(I)I"⟩
abbrev cX4_instructionAt : ByteArray := prog_1_method_32_code
def yX4_instructionAt : MethodName := ⟨RX4, "instructionAt", "(I)I"⟩
abbrev cX4_hasBit : ByteArray := prog_1_method_33_code
def yX4_hasBit : MethodName := ⟨RX4, "hasBit", "(II)Z"⟩
abbrev cX4_rowOf : ByteArray := prog_1_method_34_code
def yX4_rowOf : MethodName := ⟨RX4, "rowOf", "(II)I"⟩
abbrev cX4_withRowCopied : ByteArray := prog_1_method_35_code
def yX4_withRowCopied : MethodName := ⟨RX4, "withRowCopied", "(IIII)I"⟩
abbrev cX4_withBit : ByteArray := prog_1_method_36_code
def yX4_withBit : MethodName := ⟨RX4, "withBit", "(IIZ)I"⟩
def RX5 : String := "WrittenBenchModel"
def TX5 : u_T := fun k => match k with
  | 0 => ("WrittenBenchModel", "code", "[I", true)
  | 1 => ("WrittenBenchModel", "length", "[I", true)
  | 2 => ("WrittenBenchModel", "cost", "[I", true)
  | 3 => ("WrittenBenchModel", "input", "[I", true)
  | 4 => ("WrittenBenchModel", "inputMany", "I", false)
  | 5 => ("WrittenBenchModel", "isChanged", "Z", false)
  | 6 => ("WrittenBenchModel", "number", "[I", true)
  | 7 => ("WrittenBenchModel", "isWritten", "[Z", true)
  | 8 => ("WrittenBenchModel", "openFunction", "[I", true)
  | 9 => ("WrittenBenchModel", "openAt", "[I", true)
  | 10 => ("WrittenBenchModel", "steps", "I", false)
  | 11 => ("WrittenBenchModel", "bads", "I", false)
  | 12 => ("WrittenBenchModel", "firstFunction", "I", false)
  | 13 => ("WrittenBenchModel", "firstAt", "I", false)
  | 14 => ("WrittenBenchModel", "printedMany", "I", false)
  | 15 => ("WrittenBenchModel", "printed", "[I", true)
  | 16 => ("WrittenBenchModel", "bits", "I", false)
  | 17 => ("WrittenBenchModel", "bitMany", "I", false)
  | 18 => ("WrittenBenchModel", "taken", "I", false)
  | 19 => ("WrittenBenchModel", "soughtFunction", "I", false)
  | 20 => ("WrittenBenchModel", "soughtAt", "I", false)
  | 21 => ("WrittenBenchModel", "isFound", "Z", false)
  | 22 => ("WrittenBenchModel", "movedNumber", "[I", true)
  | 23 => ("WrittenBenchModel", "movedWritten", "[Z", true)
  | 24 => ("WrittenBenchModel", "hasRun", "Z", false)
  | 25 => ("WrittenBenchModel", "ranSteps", "I", false)
  | 26 => ("WrittenBenchModel", "ranBads", "I", false)
  | 27 => ("WrittenBenchModel", "ranFunction", "I", false)
  | 28 => ("WrittenBenchModel", "ranAt", "I", false)
  | 29 => ("WrittenBenchModel", "ranPrinted", "I", false)
  | 30 => ("WrittenBenchModel", "toldPrinted", "[I", true)
  | 31 => ("WrittenBenchModel", "toldNumber", "[I", true)
  | 32 => ("WrittenBenchModel", "toldWritten", "[Z", true)
  | 33 => ("WrittenBenchModel", "isCome", "[Z", true)
  | 34 => ("WrittenBenchModel", "may", "[I", true)
  | 35 => ("WrittenBenchModel", "mayNot", "[I", true)
  | 36 => ("WrittenBenchModel", "isBack", "[Z", true)
  | 37 => ("WrittenBenchModel", "backMay", "[I", true)
  | 38 => ("WrittenBenchModel", "backNot", "[I", true)
  | 39 => ("WrittenBenchModel", "mended", "[I", true)
  | 40 => ("WrittenBenchModel", "grows", "Z", false)
  | 41 => ("WrittenBenchModel", "w", "I", false)
  | 42 => ("WrittenBenchModel", "u", "I", false)
  | 43 => ("WrittenBenchModel", "enterMay", "[I", true)
  | 44 => ("WrittenBenchModel", "enterNot", "[I", true)
  | 45 => ("WrittenBenchModel", "kindThen", "[I", true)
  | 46 => ("WrittenBenchModel", "many", "I", false)
  | 47 => ("WrittenBenchModel", "mendFunction", "[I", true)
  | 48 => ("WrittenBenchModel", "mendCell", "[I", true)
  | 49 => ("WrittenBenchModel", "lead", "[I", true)
  | 50 => ("WrittenBenchModel", "leadBack", "[I", true)
  | 51 => ("WrittenBenchModel", "leadGrows", "Z", false)
  | 52 => ("WrittenBenchModel", "hasMended", "Z", false)
  | 53 => ("WrittenBenchModel", "toldMany", "I", false)
  | 54 => ("WrittenBenchModel", "toldFunction", "[I", true)
  | _ => ("WrittenBenchModel", "toldCell", "[I", true)
def tyX5 : Nat → FieldType := fun k => match k with
  | 0 => .array .int
  | 1 => .array .int
  | 2 => .array .int
  | 3 => .array .int
  | 4 => .int
  | 5 => .boolean
  | 6 => .array .int
  | 7 => .array .boolean
  | 8 => .array .int
  | 9 => .array .int
  | 10 => .int
  | 11 => .int
  | 12 => .int
  | 13 => .int
  | 14 => .int
  | 15 => .array .int
  | 16 => .int
  | 17 => .int
  | 18 => .int
  | 19 => .int
  | 20 => .int
  | 21 => .boolean
  | 22 => .array .int
  | 23 => .array .boolean
  | 24 => .boolean
  | 25 => .int
  | 26 => .int
  | 27 => .int
  | 28 => .int
  | 29 => .int
  | 30 => .array .int
  | 31 => .array .int
  | 32 => .array .boolean
  | 33 => .array .boolean
  | 34 => .array .int
  | 35 => .array .int
  | 36 => .array .boolean
  | 37 => .array .int
  | 38 => .array .int
  | 39 => .array .int
  | 40 => .boolean
  | 41 => .int
  | 42 => .int
  | 43 => .array .int
  | 44 => .array .int
  | 45 => .array .int
  | 46 => .int
  | 47 => .array .int
  | 48 => .array .int
  | 49 => .array .int
  | 50 => .array .int
  | 51 => .boolean
  | 52 => .boolean
  | 53 => .int
  | 54 => .array .int
  | _ => .array .int
abbrev wsX50 : List Cond := u_ws RX5 TX5 56
theorem nmX5 : ∀ a, a < 56 → ∀ b, b < 56 → a ≠ b → (TX5 a).2.1 ≠ (TX5 b).2.1 := by decide +kernel
theorem tyX5_ok : ∀ k, k < 56 → parseFieldDescriptor (TX5 k).2.2.1 = some (tyX5 k) := by decide +kernel
abbrev cX5_init : ByteArray := prog_7_method_1_code
def yX5_init : MethodName := ⟨RX5, "<init>", "()V"⟩
abbrev cX5_in : ByteArray := prog_7_method_2_code
def yX5_in : MethodName := ⟨RX5, "in", "(III)Z"⟩
abbrev cX5_isFunction : ByteArray := prog_7_method_3_code
def yX5_isFunction : MethodName := ⟨RX5, "isFunction", "(I)Z"⟩
abbrev cX5_isCell : ByteArray := prog_7_method_4_code
def yX5_isCell : MethodName := ⟨RX5, "isCell", "(I)Z"⟩
abbrev cX5_isRow : ByteArray := prog_7_method_5_code
def yX5_isRow : MethodName := ⟨RX5, "isRow", "(II)Z"⟩
abbrev cX5_isGood : ByteArray := prog_7_method_6_code
def yX5_isGood : MethodName := ⟨RX5, "isGood", "(IIIII)Z"⟩
abbrev cX5_puts : ByteArray := prog_7_method_7_code
def yX5_puts : MethodName := ⟨RX5, "puts", "(IIIIIII)V"⟩
abbrev cX5_code : ByteArray := prog_7_method_8_code
def yX5_code : MethodName := ⟨RX5, "code", "(IIIIII)I"⟩
abbrev cX5_change : ByteArray := prog_7_method_9_code
def yX5_change : MethodName := ⟨RX5, "change", "(IIIIIII)Z"⟩
abbrev cX5_clear : ByteArray := prog_7_method_10_code
def yX5_clear : MethodName := ⟨RX5, "clear", "(I)I"⟩
abbrev cX5_input : ByteArray := prog_7_method_11_code
def yX5_input : MethodName := ⟨RX5, "input", "(I)I"⟩
abbrev cX5_empty : ByteArray := prog_7_method_12_code
def yX5_empty : MethodName := ⟨RX5, "empty", "()I"⟩
abbrev cX5_reads : ByteArray := prog_7_method_13_code
def yX5_reads : MethodName := ⟨RX5, "reads", "()I"⟩
abbrev cX5_uses : ByteArray := prog_7_method_14_code
def yX5_uses : MethodName := ⟨RX5, "uses", "(III)V"⟩
abbrev cX5_placed : ByteArray := prog_7_method_15_code
def yX5_placed : MethodName := ⟨RX5, "placed", "(II)I"⟩
abbrev cX5_copies : ByteArray := prog_7_method_16_code
def yX5_copies : MethodName := ⟨RX5, "copies", "(III)V"⟩
abbrev cX5_fills : ByteArray := prog_7_method_17_code
def yX5_fills : MethodName := ⟨RX5, "fills", "(IIIZ)V"⟩
abbrev cX5_does : ByteArray := prog_7_method_18_code
def yX5_does : MethodName := ⟨RX5, "does", "(II)Z"⟩
abbrev cX5_runs : ByteArray := prog_7_method_19_code
def yX5_runs : MethodName := ⟨RX5, "runs", "()I"⟩
abbrev cX5_run : ByteArray := prog_7_method_20_code
def yX5_run : MethodName := ⟨RX5, "run", "()I"⟩
abbrev cX5_ran : ByteArray := prog_7_method_21_code
def yX5_ran : MethodName := ⟨RX5, "ran", "(I)I"⟩
abbrev cX5_printed : ByteArray := prog_7_method_22_code
def yX5_printed : MethodName := ⟨RX5, "printed", "(I)I"⟩
abbrev cX5_cell : ByteArray := prog_7_method_23_code
def yX5_cell : MethodName := ⟨RX5, "cell", "(II)I"⟩
abbrev cX5_witness : ByteArray := prog_7_method_24_code
def yX5_witness : MethodName := ⟨RX5, "witness", "(III)I"⟩
abbrev cX5_goes : ByteArray := prog_7_method_25_code
def yX5_goes : MethodName := ⟨RX5, "goes", "(II)V"⟩
abbrev cX5_begins : ByteArray := prog_7_method_26_code
def yX5_begins : MethodName := ⟨RX5, "begins", "(I)V"⟩
abbrev cX5_returns : ByteArray := prog_7_method_27_code
def yX5_returns : MethodName := ⟨RX5, "returns", "(I)V"⟩
abbrev cX5_row : ByteArray := prog_7_method_28_code
def yX5_row : MethodName := ⟨RX5, "row", "(II)I"⟩
abbrev cX5_sets : ByteArray := prog_7_method_29_code
def yX5_sets : MethodName := ⟨RX5, "sets", "(IIZZ)V"⟩
abbrev cX5_has : ByteArray := prog_7_method_30_code
def yX5_has : MethodName := ⟨RX5, "has", "(II)Z"⟩
abbrev cX5_changes : ByteArray := prog_7_method_31_code
def yX5_changes : MethodName := ⟨RX5, "changes", "(II)Z"⟩
abbrev cX5_flows : ByteArray := prog_7_method_32_code
def yX5_flows : MethodName := ⟨RX5, "flows", "(III)V"⟩
abbrev cX5_used : ByteArray := prog_7_method_33_code
def yX5_used : MethodName := ⟨RX5, "used", "(II)I"⟩
abbrev cX5_isBad : ByteArray := prog_7_method_34_code
def yX5_isBad : MethodName := ⟨RX5, "isBad", "(II)Z"⟩
abbrev cX5_badMany : ByteArray := prog_7_method_35_code
def yX5_badMany : MethodName := ⟨RX5, "badMany", "()I"⟩
abbrev cX5_unmends : ByteArray := prog_7_method_36_code
def yX5_unmends : MethodName := ⟨RX5, "unmends", "()V"⟩
abbrev cX5_flowsPlain : ByteArray := prog_7_method_37_code
def yX5_flowsPlain : MethodName := ⟨RX5, "flowsPlain", "()V"⟩
abbrev cX5_flow : ByteArray := prog_7_method_38_code
def yX5_flow : MethodName := ⟨RX5, "flow", "()I"⟩
abbrev cX5_bad : ByteArray := prog_7_method_39_code
def yX5_bad : MethodName := ⟨RX5, "bad", "(II)I"⟩
abbrev cX5_state : ByteArray := prog_7_method_40_code
def yX5_state : MethodName := ⟨RX5, "state", "(III)I"⟩
abbrev cX5_kindOf : ByteArray := prog_7_method_41_code
def yX5_kindOf : MethodName := ⟨RX5, "kindOf", "(II)I"⟩
abbrev cX5_needs : ByteArray := prog_7_method_42_code
def yX5_needs : MethodName := ⟨RX5, "needs", "(I)I"⟩
abbrev cX5_writes : ByteArray := prog_7_method_43_code
def yX5_writes : MethodName := ⟨RX5, "writes", "(I)I"⟩
abbrev cX5_cost : ByteArray := prog_7_method_44_code
def yX5_cost : MethodName := ⟨RX5, "cost", "(II)I"⟩
abbrev cX5_leads : ByteArray := prog_7_method_45_code
def yX5_leads : MethodName := ⟨RX5, "leads", "(III)V"⟩
abbrev cX5_left : ByteArray := prog_7_method_46_code
def yX5_left : MethodName := ⟨RX5, "left", "(III)I"⟩
abbrev cX5_leadsOn : ByteArray := prog_7_method_47_code
def yX5_leadsOn : MethodName := ⟨RX5, "leadsOn", "(II)V"⟩
abbrev cX5_counts : ByteArray := prog_7_method_48_code
def yX5_counts : MethodName := ⟨RX5, "counts", "(II)Z"⟩
abbrev cX5_looksFor : ByteArray := prog_7_method_49_code
def yX5_looksFor : MethodName := ⟨RX5, "looksFor", "()Z"⟩
abbrev cX5_mend : ByteArray := prog_7_method_50_code
def yX5_mend : MethodName := ⟨RX5, "mend", "()I"⟩
abbrev cX5_mended : ByteArray := prog_7_method_51_code
def yX5_mended : MethodName := ⟨RX5, "mended", "(II)I"⟩
abbrev cX5_skipsBelow : ByteArray := prog_7_method_52_code
def yX5_skipsBelow : MethodName := ⟨RX5, "skipsBelow", "(I)Z"⟩
abbrev cX5_apply : ByteArray := prog_7_method_53_code
def yX5_apply : MethodName := ⟨RX5, "apply", "()Z"⟩
abbrev cX5_count : ByteArray := prog_7_method_54_code
def yX5_count : MethodName := ⟨RX5, "count", "(I)I"⟩
def RJ6 : String := "java/lang/Integer"
def TJ6 : u_T := fun k => match k with
  | _ => ("", "", "", false)
def tyJ6 : Nat → FieldType := fun k => match k with
  | _ => .int
abbrev wsJ60 : List Cond := u_ws RJ6 TJ6 0
abbrev cJ6_bitCount_0f7a4 : ByteArray := prog_8_method_49_code
def yJ6_bitCount_0f7a4 : MethodName := ⟨RJ6, "bitCount", "(I)I"⟩
def RJ10 : String := "java/lang/System"
def TJ10 : u_T := fun k => match k with
  | _ => ("", "", "", false)
def tyJ10 : Nat → FieldType := fun k => match k with
  | _ => .int
abbrev wsJ100 : List Cond := u_ws RJ10 TJ10 0
def RL : String := "WrittenBenchLaw"
abbrev cL_law : ByteArray := code
def yL_law : MethodName := ⟨RL, "law", "([I)Z"⟩
end
section
/-! THE EXECUTOR: it runs a method of the tables over a world whose references are places in the list of its cells; what it answers the machine answers (xe_met, at the end of part 03). No method that it runs makes a cell. -/
abbrev xC : Type := List va_E
abbrev xL : Type := List (Nat × Value)
abbrev xR : Type := Option (Option Value × xC)
abbrev xH : Type := Nat → xC → Nat → xL → List Value → xR
/-- a method: its name, bytes, locals, answer's type, class, the frames and the locals' words that it needs; its code; its fields (index, class, field, kind: 0 int, 1 boolean, 2 read alone); its calls (index, method, arguments, kind: 0 virtual, 1 static, 2 a nest mate's static, class of the receiver); its constants -/
abbrev xM : Type := (MethodName × ByteArray × Nat × Option FieldType × String × Nat × Nat) × List (List (Option (Instr × Nat))) × List (Nat × Nat × Nat × Nat) × List (Nat × Nat × Nat × Nat × Nat) × List (Nat × Int32)
abbrev xm_y (X : xM) : MethodName := X.1.1
abbrev xm_c (X : xM) : ByteArray := X.1.2.1
abbrev xm_n (X : xM) : Nat := X.1.2.2.1
abbrev xm_r (X : xM) : Option FieldType := X.1.2.2.2.1
abbrev xm_o (X : xM) : String := X.1.2.2.2.2.1
abbrev xm_f (X : xM) : Nat := X.1.2.2.2.2.2.1
abbrev xm_l (X : xM) : Nat := X.1.2.2.2.2.2.2
abbrev xm_t (X : xM) : List (List (Option (Instr × Nat))) := X.2.1
abbrev xm_F (X : xM) : List (Nat × Nat × Nat × Nat) := X.2.2.1
abbrev xm_I (X : xM) : List (Nat × Nat × Nat × Nat × Nat) := X.2.2.2.1
abbrev xm_K (X : xM) : List (Nat × Int32) := X.2.2.2.2
noncomputable def xe_nth {α : Type} (l : List α) : Nat → Option α := List.rec (motive := fun _ => Nat → Option α) (fun _ => none) (fun h _ ih n => Nat.rec (motive := fun _ => Option α) (some h) (fun m _ => ih m) n) l
theorem xe_nth_eq {α : Type} (l : List α) (n : Nat) : xe_nth l n = l[n]? := by
  induction l generalizing n with
  | nil => simp [xe_nth]
  | cons h t ih =>
    cases n with
    | zero => rfl
    | succ m => exact (ih m).trans (by simp)
noncomputable def xe_as {α : Type} (l : List (Nat × α)) (i : Nat) : Option α := List.rec (motive := fun _ => Option α) none (fun q _ ih => cond (Nat.beq q.1 i) (some q.2) ih) l
theorem xe_as_mem {α : Type} {l : List (Nat × α)} {i : Nat} {a : α} (h : xe_as l i = some a) : (i, a) ∈ l := by
  induction l with
  | nil => cases h
  | cons q t ih =>
    have h : cond (Nat.beq q.1 i) (some q.2) (xe_as t i) = some a := h
    cases hq : Nat.beq q.1 i with
    | true =>
      rw [hq] at h
      have e := Nat.eq_of_beq_eq_true hq
      have h : some q.2 = some a := h
      cases h
      rw [← e]
      exact List.mem_cons_self
    | false =>
      rw [hq] at h
      exact List.mem_cons_of_mem _ (ih h)
noncomputable def xe_set {α β : Type} (l : List α) : Nat → α → (List α → β) → β := List.rec (motive := fun _ => Nat → α → (List α → β) → β) (fun _ _ k => k []) (fun h t ih n v k => Nat.rec (motive := fun _ => β) (k (v :: t)) (fun m _ => ih m v (fun t' => k (h :: t'))) n) l
theorem xe_set_eq {α β : Type} (l : List α) (n : Nat) (v : α) (k : List α → β) : xe_set l n v k = k (l.set n v) := by
  induction l generalizing n k with
  | nil => rfl
  | cons h t ih =>
    cases n with
    | zero => rfl
    | succ m => exact ih m (fun t' => k (h :: t'))
noncomputable def xe_fn {β : Type} (n : Nat) (k : Nat → β) : β := Nat.rec (motive := fun _ => β) (k 0) (fun m _ => k (Nat.succ m)) n
theorem xe_fn_eq {β : Type} (n : Nat) (k : Nat → β) : xe_fn n k = k n := by cases n <;> rfl
noncomputable def xe_f {β : Type} (x : Int32) (k : Int32 → β) : β := xe_fn x.toUInt32.toNat (fun n => k (Int32.ofNat n))
theorem xe_f_eq {β : Type} (x : Int32) (k : Int32 → β) : xe_f x k = k x := by
  unfold xe_f
  rw [xe_fn_eq]
  congr 1
  apply Int32.toBitVec_inj.mp
  simp
noncomputable def xe_lk (t : List (List (Option (Instr × Nat)))) (pc : Nat) : Option (Instr × Nat) := match xe_nth t (pc / 16) with
  | none => none
  | some c => match xe_nth c (pc % 16) with
    | none => none
    | some o => o
noncomputable def xe_jmp {β : Type} (pc : Nat) (off : Int) (go : Nat → Option β) : Option β := Int.rec (motive := fun _ => Option β) (fun t => xe_fn t go) (fun _ => none) ((pc : Int) + off)
theorem xe_jmp_inv {β : Type} {pc : Nat} {off : Int} {go : Nat → Option β} {r : β} (h : xe_jmp pc off go = some r) : ∃ t : Nat, (pc : Int) + off = (t : Int) ∧ go t = some r := by
  unfold xe_jmp at h
  generalize (pc : Int) + off = z at h
  cases z with
  | ofNat t => exact ⟨t, rfl, (xe_fn_eq t go).symm.trans h⟩
  | negSucc t => cases h
/-- a number on top -/
noncomputable def xe_push (x : Int32) (S : List Value) (go : List Value → xR) : xR := xe_f x (fun z => go (.int z :: S))
theorem xe_push_eq (x : Int32) (S : List Value) (go : List Value → xR) : xe_push x S go = go (.int x :: S) := xe_f_eq _ _
noncomputable def xe_bin (g : Int32 → Int32 → Int32) (S : List Value) (go : List Value → xR) : xR := match S with
  | .int y :: .int x :: T => xe_push (g x y) T go
  | _ => none
theorem xe_bin_inv {g : Int32 → Int32 → Int32} {S : List Value} {go : List Value → xR} {r : Option Value × xC} (h : xe_bin g S go = some r) : ∃ (x y : Int32) (T : List Value), S = .int y :: .int x :: T ∧ go (.int (g x y) :: T) = some r := by
  unfold xe_bin at h
  split at h
  · exact ⟨_, _, _, rfl, (xe_push_eq _ _ _).symm.trans h⟩
  · cases h
noncomputable def xe_br1 (q : Int32 → Bool) (S : List Value) (a b : List Value → xR) : xR := match S with
  | .int x :: T => cond (q x) (a T) (b T)
  | _ => none
theorem xe_br1_inv {q : Int32 → Bool} {S : List Value} {a b : List Value → xR} {r : Option Value × xC} (h : xe_br1 q S a b = some r) : ∃ (x : Int32) (T : List Value), S = .int x :: T ∧ ((q x = true → a T = some r) ∧ (q x = false → b T = some r)) := by
  unfold xe_br1 at h
  split at h
  · refine ⟨_, _, rfl, fun e => ?_, fun e => ?_⟩ <;> (rw [e] at h; exact h)
  · cases h
noncomputable def xe_br2 (q : Int32 → Int32 → Bool) (S : List Value) (a b : List Value → xR) : xR := match S with
  | .int y :: .int x :: T => cond (q x y) (a T) (b T)
  | _ => none
theorem xe_br2_inv {q : Int32 → Int32 → Bool} {S : List Value} {a b : List Value → xR} {r : Option Value × xC} (h : xe_br2 q S a b = some r) : ∃ (x y : Int32) (T : List Value), S = .int y :: .int x :: T ∧ ((q x y = true → a T = some r) ∧ (q x y = false → b T = some r)) := by
  unfold xe_br2 at h
  split at h
  · refine ⟨_, _, _, rfl, fun e => ?_, fun e => ?_⟩ <;> (rw [e] at h; exact h)
  · cases h
noncomputable def xe_ldi (L : xL) (i : Nat) (S : List Value) (go : List Value → xR) : xR := match xe_as L i with
  | some (.int x) => go (.int x :: S)
  | _ => none
theorem xe_ldi_inv {L : xL} {i : Nat} {S : List Value} {go : List Value → xR} {r : Option Value × xC} (h : xe_ldi L i S go = some r) : ∃ x : Int32, (i, Value.int x) ∈ L ∧ go (.int x :: S) = some r := by
  unfold xe_ldi at h
  split at h
  · rename_i x hx
    exact ⟨x, xe_as_mem hx, h⟩
  · cases h
noncomputable def xe_lda (L : xL) (i : Nat) (S : List Value) (go : List Value → xR) : xR := match xe_as L i with
  | some (.ref x) => go (.ref x :: S)
  | _ => none
theorem xe_lda_inv {L : xL} {i : Nat} {S : List Value} {go : List Value → xR} {r : Option Value × xC} (h : xe_lda L i S go = some r) : ∃ x : Nat, (i, Value.ref x) ∈ L ∧ go (.ref x :: S) = some r := by
  unfold xe_lda at h
  split at h
  · rename_i x hx
    exact ⟨x, xe_as_mem hx, h⟩
  · cases h
def xe_st (L : xL) (i : Nat) (v : Value) : xL := (i, v) :: L.filter (fun q => !(q.1 == i) && !(q.1 + 1 == i && q.2.category == 2))
noncomputable def xe_sti (N : Nat) (L : xL) (i : Nat) (S : List Value) (go : xL → List Value → xR) : xR := match S with
  | .int x :: T => cond (Nat.blt i N) (go (xe_st L i (.int x)) T) none
  | _ => none
theorem xe_sti_inv {N : Nat} {L : xL} {i : Nat} {S : List Value} {go : xL → List Value → xR} {r : Option Value × xC} (h : xe_sti N L i S go = some r) : ∃ (x : Int32) (T : List Value), S = .int x :: T ∧ i < N ∧ go (xe_st L i (.int x)) T = some r := by
  unfold xe_sti at h
  split at h
  · cases hq : Nat.blt i N with
    | true => rw [hq] at h; exact ⟨_, _, rfl, Nat.blt_eq.mp hq, h⟩
    | false => rw [hq] at h; cases h
  · cases h
noncomputable def xe_inc (N : Nat) (L : xL) (i : Nat) (n : Int) (go : xL → xR) : xR := match xe_as L i with
  | some (.int x) => cond (Nat.blt i N) (xe_f (x + Int32.ofInt n) (fun z => go (xe_st L i (.int z)))) none
  | _ => none
theorem xe_inc_inv {N : Nat} {L : xL} {i : Nat} {n : Int} {go : xL → xR} {r : Option Value × xC} (h : xe_inc N L i n go = some r) : ∃ x : Int32, (i, Value.int x) ∈ L ∧ i < N ∧ go (xe_st L i (.int (x + Int32.ofInt n))) = some r := by
  unfold xe_inc at h
  split at h
  · rename_i x hx
    cases hq : Nat.blt i N with
    | true =>
      rw [hq] at h
      have h : xe_f (x + Int32.ofInt n) (fun z => go (xe_st L i (.int z))) = some r := h
      rw [xe_f_eq] at h
      exact ⟨x, xe_as_mem hx, Nat.blt_eq.mp hq, h⟩
    | false => rw [hq] at h; cases h
  · cases h
noncomputable def xe_get (F : List (Nat × Nat × Nat × Nat)) (idx : Nat) (C : xC) (S : List Value) (go : List Value → xR) : xR := match S with
  | .ref a :: T => match xe_as F idx with
    | some (ci, j, _) => match xe_nth C a with
      | some (.inr (cj, fs)) => cond (Nat.beq cj ci) (match xe_nth fs j with
        | some v => go (v :: T)
        | none => none) none
      | _ => none
    | none => none
  | _ => none
theorem xe_get_inv {F : List (Nat × Nat × Nat × Nat)} {idx : Nat} {C : xC} {S : List Value} {go : List Value → xR} {r : Option Value × xC} (h : xe_get F idx C S go = some r) : ∃ (a : Nat) (T : List Value) (ci j t : Nat) (fs : List Value) (v : Value), S = .ref a :: T ∧ (idx, ci, j, t) ∈ F ∧ C[a]? = some (.inr (ci, fs)) ∧ fs[j]? = some v ∧ go (v :: T) = some r := by
  unfold xe_get at h
  split at h
  · split at h
    · rename_i hF
      split at h
      · rename_i ci j t _ cj fs hC
        cases hq : Nat.beq cj ci with
        | true =>
          rw [hq] at h
          have e := Nat.eq_of_beq_eq_true hq
          subst e
          simp only [cond_true] at h
          split at h
          · rename_i v hv
            exact ⟨_, _, cj, j, t, fs, v, rfl, xe_as_mem hF, (xe_nth_eq C _).symm.trans hC, (xe_nth_eq fs j).symm.trans hv, h⟩
          · cases h
        | false => rw [hq] at h; cases h
      · cases h
    · cases h
  · cases h
/-- a number that a field of its kind may hold -/
def xe_fit (t : Nat) (v : Int32) : Bool := cond (Nat.beq t 0) true (cond (Nat.beq t 1) (decide (v = 0) || decide (v = 1)) false)
noncomputable def xe_put (F : List (Nat × Nat × Nat × Nat)) (idx : Nat) (C : xC) (S : List Value) (go : xC → List Value → xR) : xR := match S with
  | .int v :: .ref a :: T => match xe_as F idx with
    | some (ci, j, t) => match xe_nth C a with
      | some (.inr (cj, fs)) => cond (Nat.beq cj ci && (xe_fit t v && Nat.blt j fs.length)) (xe_set fs j (.int v) fun fs' => xe_set C a (.inr (ci, fs')) fun C' => go C' T) none
      | _ => none
    | none => none
  | _ => none
theorem xe_put_inv {F : List (Nat × Nat × Nat × Nat)} {idx : Nat} {C : xC} {S : List Value} {go : xC → List Value → xR} {r : Option Value × xC} (h : xe_put F idx C S go = some r) : ∃ (a : Nat) (T : List Value) (ci j t : Nat) (fs : List Value) (v : Int32), S = .int v :: .ref a :: T ∧ (idx, ci, j, t) ∈ F ∧ C[a]? = some (.inr (ci, fs)) ∧ xe_fit t v = true ∧ j < fs.length ∧ go (C.set a (.inr (ci, fs.set j (.int v)))) T = some r := by
  unfold xe_put at h
  split at h
  · split at h
    · rename_i hF
      split at h
      · rename_i v _ _ _ ci j t _ cj fs hC
        cases hq : (Nat.beq cj ci && (xe_fit t v && Nat.blt j fs.length)) with
        | true =>
          rw [hq] at h
          simp only [Bool.and_eq_true] at hq
          have e := Nat.eq_of_beq_eq_true hq.1
          subst e
          simp only [cond_true, xe_set_eq] at h
          exact ⟨_, _, cj, j, t, fs, v, rfl, xe_as_mem hF, (xe_nth_eq C _).symm.trans hC, hq.2.1, Nat.blt_eq.mp hq.2.2, h⟩
        | false => rw [hq] at h; cases h
      · cases h
    · cases h
  · cases h
noncomputable def xe_ald (tag : Nat) (C : xC) (S : List Value) (go : List Value → xR) : xR := match S with
  | .int i :: .ref a :: T => match xe_nth C a with
    | some (.inl (t, n, .inl f)) => cond (Nat.beq t tag && decide (¬ (i < 0 ∨ n ≤ i.toNatClampNeg))) (xe_fn i.toNatClampNeg fun j => xe_push (f j) T go) none
    | _ => none
  | _ => none
theorem xe_ald_inv {tag : Nat} {C : xC} {S : List Value} {go : List Value → xR} {r : Option Value × xC} (h : xe_ald tag C S go = some r) : ∃ (i : Int32) (a : Nat) (T : List Value) (n : Nat) (f : Nat → Int32), S = .int i :: .ref a :: T ∧ C[a]? = some (.inl (tag, n, .inl f)) ∧ vp_in i n ∧ go (.int (f i.toNatClampNeg) :: T) = some r := by
  unfold xe_ald at h
  split at h
  · split at h
    · rename_i i _ _ _ t n f hC
      cases hq : (Nat.beq t tag && decide (¬ (i < 0 ∨ n ≤ i.toNatClampNeg))) with
      | true =>
        rw [hq] at h
        simp only [Bool.and_eq_true, decide_eq_true_eq] at hq
        have e := Nat.eq_of_beq_eq_true hq.1
        subst e
        simp only [cond_true, xe_fn_eq, xe_push_eq] at h
        exact ⟨i, _, _, n, f, rfl, (xe_nth_eq C _).symm.trans hC, hq.2, h⟩
      | false => rw [hq] at h; cases h
    · cases h
  · cases h
noncomputable def xe_ast (tag : Nat) (nar : Int32 → Int32) (C : xC) (S : List Value) (go : xC → List Value → xR) : xR := match S with
  | .int x :: .int i :: .ref a :: T => match xe_nth C a with
    | some (.inl (t, n, .inl f)) => cond (Nat.beq t tag && decide (¬ (i < 0 ∨ n ≤ i.toNatClampNeg))) (xe_fn i.toNatClampNeg fun j => xe_f (nar x) fun z => xe_set C a (.inl (t, n, .inl (upd f j z))) fun C' => go C' T) none
    | _ => none
  | _ => none
theorem xe_ast_inv {tag : Nat} {nar : Int32 → Int32} {C : xC} {S : List Value} {go : xC → List Value → xR} {r : Option Value × xC} (h : xe_ast tag nar C S go = some r) : ∃ (x i : Int32) (a : Nat) (T : List Value) (n : Nat) (f : Nat → Int32), S = .int x :: .int i :: .ref a :: T ∧ C[a]? = some (.inl (tag, n, .inl f)) ∧ vp_in i n ∧ go (C.set a (.inl (tag, n, .inl (upd f i.toNatClampNeg (nar x))))) T = some r := by
  unfold xe_ast at h
  split at h
  · split at h
    · rename_i x i _ _ _ t n f hC
      cases hq : (Nat.beq t tag && decide (¬ (i < 0 ∨ n ≤ i.toNatClampNeg))) with
      | true =>
        rw [hq] at h
        simp only [Bool.and_eq_true, decide_eq_true_eq] at hq
        have e := Nat.eq_of_beq_eq_true hq.1
        subst e
        simp only [cond_true, xe_fn_eq, xe_f_eq, xe_set_eq] at h
        exact ⟨x, i, _, _, n, f, rfl, (xe_nth_eq C _).symm.trans hC, hq.2, h⟩
      | false => rw [hq] at h; cases h
    · cases h
  · cases h
noncomputable def xe_aln (C : xC) (S : List Value) (go : List Value → xR) : xR := match S with
  | .ref a :: T => match xe_nth C a with
    | some (.inl (t, n, _)) => cond (Nat.ble t 1) (xe_push (Int32.ofNat n) T go) none
    | _ => none
  | _ => none
theorem xe_aln_inv {C : xC} {S : List Value} {go : List Value → xR} {r : Option Value × xC} (h : xe_aln C S go = some r) : ∃ (a : Nat) (T : List Value) (t : Nat) (x : vp_A), S = .ref a :: T ∧ C[a]? = some (.inl (t, x)) ∧ t ≤ 1 ∧ go (.int (Int32.ofNat x.1) :: T) = some r := by
  unfold xe_aln at h
  split at h
  · split at h
    · rename_i t n x hC
      cases hq : Nat.ble t 1 with
      | true =>
        rw [hq] at h
        simp only [cond_true, xe_push_eq] at h
        exact ⟨_, _, t, (n, x), rfl, (xe_nth_eq C _).symm.trans hC, Nat.le_of_ble_eq_true hq, h⟩
      | false => rw [hq] at h; cases h
    · cases h
  · cases h
noncomputable def xe_pop : Nat → List Value → List Value → Option (List Value × List Value) := fun n => Nat.rec (motive := fun _ => List Value → List Value → Option (List Value × List Value)) (fun S acc => some (acc, S)) (fun _ ih S acc => List.rec (motive := fun _ => Option (List Value × List Value)) none (fun v T _ => ih T (v :: acc)) S) n
theorem xe_pop_inv {n : Nat} {S acc As rest : List Value} (h : xe_pop n S acc = some (As, rest)) : ∃ ts : List Value, ts.length = n ∧ S = ts ++ rest ∧ As = ts.reverse ++ acc := by
  induction n generalizing S acc with
  | zero =>
    have h : some (acc, S) = some (As, rest) := h
    cases h
    exact ⟨[], rfl, rfl, rfl⟩
  | succ n ih =>
    cases S with
    | nil => cases h
    | cons v T =>
      obtain ⟨ts, h1, h2, h3⟩ := ih (S := T) (acc := v :: acc) h
      exact ⟨v :: ts, by simp [h1], by rw [h2]; rfl, by rw [h3]; simp⟩
def xe_c1 (vs : List Value) : Bool := vs.all (fun v => Nat.beq v.category 1)
noncomputable def xe_call (X' : xM) (ih : xH) (k : Nat) (C : xC) (pc : Nat) (L : xL) (k' : Nat) (vs rest : List Value) : xR :=
  cond (decide ((rest.map fun v => v.category).sum ≤ 8) && (xe_c1 vs && Nat.ble vs.length (xm_n X'))) (match ih k' C 0 (lv_args 0 vs) [] with
    | some (none, C') => ih k C' (pc + 3) L rest
    | some (some (.int v), C') => ih k C' (pc + 3) L (.int v :: rest)
    | _ => none) none
theorem xe_call_inv {X' : xM} {ih : xH} {k : Nat} {C : xC} {pc : Nat} {L : xL} {k' : Nat} {vs rest : List Value} {r : Option Value × xC} (h : xe_call X' ih k C pc L k' vs rest = some r) : (rest.map fun v => v.category).sum ≤ 8 ∧ xe_c1 vs = true ∧ vs.length ≤ xm_n X' ∧ ∃ C1 : xC, (ih k' C 0 (lv_args 0 vs) [] = some (none, C1) ∧ ih k C1 (pc + 3) L rest = some r) ∨ ∃ v : Int32, ih k' C 0 (lv_args 0 vs) [] = some (some (.int v), C1) ∧ ih k C1 (pc + 3) L (.int v :: rest) = some r := by
  unfold xe_call at h
  cases hq : (decide ((rest.map fun v => v.category).sum ≤ 8) && (xe_c1 vs && Nat.ble vs.length (xm_n X'))) with
  | true =>
    rw [hq] at h
    simp only [Bool.and_eq_true, decide_eq_true_eq] at hq
    simp only [cond_true] at h
    refine ⟨hq.1, hq.2.1, Nat.le_of_ble_eq_true hq.2.2, ?_⟩
    split at h
    · rename_i C1 h1
      exact ⟨C1, Or.inl ⟨h1, h⟩⟩
    · rename_i v C1 h1
      exact ⟨C1, Or.inr ⟨v, h1, h⟩⟩
    · cases h
  | false => rw [hq] at h; cases h
noncomputable def xe_inv (M : Nat → xM) (ih : xH) (k : Nat) (C : xC) (pc : Nat) (L : xL) (S : List Value) (virt : Bool) (idx : Nat) : xR := match xe_as (xm_I (M k)) idx with
  | some (k', n, kd, ci) => match xe_pop n S [] with
    | some (As, rest) => cond virt (cond (Nat.beq kd 0) (match rest with
        | .ref b :: T => match xe_nth C b with
          | some (.inr (cj, _)) => cond (Nat.beq cj ci) (xe_call (M k') ih k C pc L k' (.ref b :: As) T) none
          | _ => none
        | _ => none) none) (cond (Nat.beq kd 0) none (xe_call (M k') ih k C pc L k' As rest))
    | none => none
  | none => none
theorem xe_inv_v {M : Nat → xM} {ih : xH} {k : Nat} {C : xC} {pc : Nat} {L : xL} {S : List Value} {idx : Nat} {r : Option Value × xC} (h : xe_inv M ih k C pc L S true idx = some r) : ∃ (k' n ci : Nat) (As T : List Value) (b : Nat) (fs : List Value), (idx, k', n, 0, ci) ∈ xm_I (M k) ∧ S = As.reverse ++ .ref b :: T ∧ As.length = n ∧ C[b]? = some (.inr (ci, fs)) ∧ xe_call (M k') ih k C pc L k' (.ref b :: As) T = some r := by
  unfold xe_inv at h
  split at h
  · rename_i k' n kd ci hI
    split at h
    · rename_i As rest hp
      simp only [cond_true] at h
      cases hk : Nat.beq kd 0 with
      | true =>
        rw [hk] at h
        have e := Nat.eq_of_beq_eq_true hk
        subst e
        simp only [cond_true] at h
        split at h
        · split at h
          · rename_i b T _ cj fs hC
            cases hq : Nat.beq cj ci with
            | true =>
              rw [hq] at h
              have e := Nat.eq_of_beq_eq_true hq
              subst e
              obtain ⟨ts, h1, h2, h3⟩ := xe_pop_inv hp
              exact ⟨k', n, cj, As, T, b, fs, xe_as_mem hI, by rw [h2, h3]; simp, by rw [h3]; simp [h1], (xe_nth_eq C _).symm.trans hC, h⟩
            | false => rw [hq] at h; cases h
          · cases h
        · cases h
      | false => rw [hk] at h; cases h
    · cases h
  · cases h
theorem xe_inv_s {M : Nat → xM} {ih : xH} {k : Nat} {C : xC} {pc : Nat} {L : xL} {S : List Value} {idx : Nat} {r : Option Value × xC} (h : xe_inv M ih k C pc L S false idx = some r) : ∃ (k' n kd ci : Nat) (As T : List Value), (idx, k', n, kd, ci) ∈ xm_I (M k) ∧ kd ≠ 0 ∧ S = As.reverse ++ T ∧ As.length = n ∧ xe_call (M k') ih k C pc L k' As T = some r := by
  unfold xe_inv at h
  split at h
  · rename_i k' n kd ci hI
    split at h
    · rename_i As rest hp
      simp only [cond_false] at h
      cases hk : Nat.beq kd 0 with
      | true => rw [hk] at h; cases h
      | false =>
        rw [hk] at h
        obtain ⟨ts, h1, h2, h3⟩ := xe_pop_inv hp
        exact ⟨k', n, kd, ci, As, rest, xe_as_mem hI, (fun e => by rw [e] at hk; cases hk), by rw [h2, h3]; simp, by rw [h3]; simp [h1], h⟩
    · cases h
  · cases h
noncomputable def xe_irt (ret : Option FieldType) (C : xC) (S : List Value) : xR := match S, ret with
  | [.int v], some .int => some (some (.int v), C)
  | [.int v], some .boolean => cond (decide (v = 0) || decide (v = 1)) (some (some (.int v), C)) none
  | _, _ => none
theorem xe_irt_inv {ret : Option FieldType} {C : xC} {S : List Value} {r : Option Value} {C' : xC} (h : xe_irt ret C S = some (r, C')) : ∃ v : Int32, S = [.int v] ∧ r = some (.int v) ∧ C' = C ∧ (ret = some .int ∨ (ret = some .boolean ∧ (v = 0 ∨ v = 1))) := by
  unfold xe_irt at h
  split at h
  · cases h
    exact ⟨_, rfl, rfl, rfl, Or.inl rfl⟩
  · rename_i v
    cases hq : (decide (v = 0) || decide (v = 1)) with
    | true =>
      rw [hq] at h
      simp only [cond_true] at h
      cases h
      simp only [Bool.or_eq_true, decide_eq_true_eq] at hq
      exact ⟨v, rfl, rfl, rfl, Or.inr ⟨rfl, hq⟩⟩
    | false => rw [hq] at h; cases h
  · cases h
noncomputable def xe_vrt (ret : Option FieldType) (C : xC) (S : List Value) : xR := match S, ret with
  | [], none => some (none, C)
  | _, _ => none
theorem xe_vrt_inv {ret : Option FieldType} {C : xC} {S : List Value} {r : Option Value} {C' : xC} (h : xe_vrt ret C S = some (r, C')) : S = [] ∧ r = none ∧ C' = C ∧ ret = none := by
  unfold xe_vrt at h
  split at h
  · cases h
    exact ⟨rfl, rfl, rfl, rfl⟩
  · cases h
noncomputable def xe_swt (pc : Nat) (dflt lo hi : Int) (offs : Array Int) (S : List Value) (go : Nat → List Value → xR) : xR := match S with
  | .int x :: T => cond (decide (x.toInt < lo) || decide (hi < x.toInt)) (xe_jmp pc dflt fun t => go t T) (match xe_nth offs.toList (x.toInt - lo).toNat with
    | some off => xe_jmp pc off fun t => go t T
    | none => none)
  | _ => none
theorem xe_swt_inv {pc : Nat} {dflt lo hi : Int} {offs : Array Int} {S : List Value} {go : Nat → List Value → xR} {r : Option Value × xC} (h : xe_swt pc dflt lo hi offs S go = some r) : ∃ (x : Int32) (T : List Value), S = .int x :: T ∧ (((x.toInt < lo ∨ hi < x.toInt) ∧ ∃ t : Nat, (pc : Int) + dflt = (t : Int) ∧ go t T = some r) ∨ (¬ x.toInt < lo ∧ ¬ hi < x.toInt ∧ ∃ (off : Int) (t : Nat), offs[(x.toInt - lo).toNat]? = some off ∧ (pc : Int) + off = (t : Int) ∧ go t T = some r)) := by
  unfold xe_swt at h
  split at h
  · rename_i x T
    cases hq : (decide (x.toInt < lo) || decide (hi < x.toInt)) with
    | true =>
      rw [hq] at h
      simp only [Bool.or_eq_true, decide_eq_true_eq] at hq
      simp only [cond_true] at h
      obtain ⟨t, h1, h2⟩ := xe_jmp_inv h
      exact ⟨x, T, rfl, Or.inl ⟨hq, t, h1, h2⟩⟩
    | false =>
      rw [hq] at h
      simp only [Bool.or_eq_false_iff, decide_eq_false_iff_not] at hq
      simp only [cond_false] at h
      split at h
      · rename_i off ho
        obtain ⟨t, h1, h2⟩ := xe_jmp_inv h
        exact ⟨x, T, rfl, Or.inr ⟨hq.1, hq.2, off, t, by rw [xe_nth_eq] at ho; simpa using ho, h1, h2⟩⟩
      · cases h
  · cases h
noncomputable def xe_swl (pc : Nat) (dflt : Int) (ps : Array (Int × Int)) (S : List Value) (go : Nat → List Value → xR) : xR := match S with
  | .int x :: T => cond ((ps.toList.zip (ps.toList.drop 1)).all (fun (a, next) => a.1 < next.1)) (xe_jmp pc (Op.lookupswitch.offset ps.toList dflt x.toInt) fun t => go t T) none
  | _ => none
theorem xe_swl_inv {pc : Nat} {dflt : Int} {ps : Array (Int × Int)} {S : List Value} {go : Nat → List Value → xR} {r : Option Value × xC} (h : xe_swl pc dflt ps S go = some r) : ∃ (x : Int32) (T : List Value) (t : Nat), S = .int x :: T ∧ (ps.toList.zip (ps.toList.drop 1)).all (fun (a, next) => a.1 < next.1) = true ∧ (pc : Int) + Op.lookupswitch.offset ps.toList dflt x.toInt = (t : Int) ∧ go t T = some r := by
  unfold xe_swl at h
  split at h
  · rename_i x T
    cases hq : ((ps.toList.zip (ps.toList.drop 1)).all (fun (a, next) => a.1 < next.1)) with
    | true =>
      rw [hq] at h
      simp only [cond_true] at h
      obtain ⟨t, h1, h2⟩ := xe_jmp_inv h
      exact ⟨x, T, t, rfl, rfl, h1, h2⟩
    | false => rw [hq] at h; cases h
  · cases h
noncomputable def xe_ldc (K : List (Nat × Int32)) (idx : Nat) (S : List Value) (go : List Value → xR) : xR := match xe_as K idx with
  | some v => go (.int v :: S)
  | none => none
theorem xe_ldc_inv {K : List (Nat × Int32)} {idx : Nat} {S : List Value} {go : List Value → xR} {r : Option Value × xC} (h : xe_ldc K idx S go = some r) : ∃ v : Int32, (idx, v) ∈ K ∧ go (.int v :: S) = some r := by
  unfold xe_ldc at h
  split at h
  · rename_i v hv
    exact ⟨v, xe_as_mem hv, h⟩
  · cases h
noncomputable def xe_dup (S : List Value) (go : List Value → xR) : xR := match S with
  | v :: T => cond (Nat.beq v.category 1) (go (v :: v :: T)) none
  | _ => none
theorem xe_dup_inv {S : List Value} {go : List Value → xR} {r : Option Value × xC} (h : xe_dup S go = some r) : ∃ (v : Value) (T : List Value), S = v :: T ∧ v.category = 1 ∧ go (v :: v :: T) = some r := by
  unfold xe_dup at h
  split at h
  · rename_i v T
    cases hq : Nat.beq v.category 1 with
    | true => rw [hq] at h; exact ⟨v, T, rfl, Nat.eq_of_beq_eq_true hq, h⟩
    | false => rw [hq] at h; cases h
  · cases h
noncomputable def xe_dup2 (S : List Value) (go : List Value → xR) : xR := match S with
  | v :: w :: T => cond (Nat.beq v.category 1 && Nat.beq w.category 1) (go (v :: w :: v :: w :: T)) none
  | _ => none
theorem xe_dup2_inv {S : List Value} {go : List Value → xR} {r : Option Value × xC} (h : xe_dup2 S go = some r) : ∃ (v w : Value) (T : List Value), S = v :: w :: T ∧ v.category = 1 ∧ w.category = 1 ∧ go (v :: w :: v :: w :: T) = some r := by
  unfold xe_dup2 at h
  split at h
  · rename_i v w T
    cases hq : (Nat.beq v.category 1 && Nat.beq w.category 1) with
    | true =>
      rw [hq] at h
      simp only [Bool.and_eq_true] at hq
      exact ⟨v, w, T, rfl, Nat.eq_of_beq_eq_true hq.1, Nat.eq_of_beq_eq_true hq.2, h⟩
    | false => rw [hq] at h; cases h
  · cases h
noncomputable def xe_pop1 (S : List Value) (go : List Value → xR) : xR := match S with
  | v :: T => cond (Nat.beq v.category 1) (go T) none
  | _ => none
theorem xe_pop1_inv {S : List Value} {go : List Value → xR} {r : Option Value × xC} (h : xe_pop1 S go = some r) : ∃ (v : Value) (T : List Value), S = v :: T ∧ v.category = 1 ∧ go T = some r := by
  unfold xe_pop1 at h
  split at h
  · rename_i v T
    cases hq : Nat.beq v.category 1 with
    | true => rw [hq] at h; exact ⟨v, T, rfl, Nat.eq_of_beq_eq_true hq, h⟩
    | false => rw [hq] at h; cases h
  · cases h
/-- one instruction -/
noncomputable def xe_i (M : Nat → xM) (ih : xH) (k : Nat) (C : xC) (pc : Nat) (L : xL) (S : List Value) (i : Instr) : xR := match i with
  | .iconst v => xe_push (Int32.ofInt v) S (ih k C (pc + 1) L)
  | .bipush v => xe_push (Int8.ofInt v).toInt32 S (ih k C (pc + 2) L)
  | .sipush v => xe_push (Int16.ofInt v).toInt32 S (ih k C (pc + 3) L)
  | .ldc idx => xe_ldc (xm_K (M k)) idx S (ih k C (pc + 2) L)
  | .ldc_w idx => xe_ldc (xm_K (M k)) idx S (ih k C (pc + 3) L)
  | .iload_n j => xe_ldi L j.val S (ih k C (pc + 1) L)
  | .iload j => xe_ldi L j S (ih k C (pc + 2) L)
  | .aload_n j => xe_lda L j.val S (ih k C (pc + 1) L)
  | .aload j => xe_lda L j S (ih k C (pc + 2) L)
  | .istore_n j => xe_sti (xm_n (M k)) L j.val S (ih k C (pc + 1))
  | .istore j => xe_sti (xm_n (M k)) L j S (ih k C (pc + 2))
  | .iinc j n0 => xe_inc (xm_n (M k)) L j n0 (fun L' => ih k C (pc + 3) L' S)
  | .iadd => xe_bin (fun x y => x + y) S (ih k C (pc + 1) L)
  | .isub => xe_bin (fun x y => x - y) S (ih k C (pc + 1) L)
  | .imul => xe_bin (fun x y => x * y) S (ih k C (pc + 1) L)
  | .iand => xe_bin (fun x y => x &&& y) S (ih k C (pc + 1) L)
  | .ior => xe_bin (fun x y => x ||| y) S (ih k C (pc + 1) L)
  | .ixor => xe_bin (fun x y => x ^^^ y) S (ih k C (pc + 1) L)
  | .ishl => xe_bin (fun x y => x <<< (y &&& 31)) S (ih k C (pc + 1) L)
  | .ishr => xe_bin (fun x y => x >>> (y &&& 31)) S (ih k C (pc + 1) L)
  | .iushr => xe_bin (fun x y => (x.toUInt32 >>> (y.toUInt32 &&& Int32.toUInt32 31)).toInt32) S (ih k C (pc + 1) L)
  | .dup => xe_dup S (ih k C (pc + 1) L)
  | .dup2 => xe_dup2 S (ih k C (pc + 1) L)
  | .pop => xe_pop1 S (ih k C (pc + 1) L)
  | .goto off => xe_jmp pc off (fun t => ih k C t L S)
  | .ifCond .eq off => xe_jmp pc off fun t => xe_br1 (fun x => decide (x = 0)) S (ih k C t L) (ih k C (pc + 3) L)
  | .ifCond .ne off => xe_jmp pc off fun t => xe_br1 (fun x => decide (x ≠ 0)) S (ih k C t L) (ih k C (pc + 3) L)
  | .ifCond .lt off => xe_jmp pc off fun t => xe_br1 (fun x => decide (x < 0)) S (ih k C t L) (ih k C (pc + 3) L)
  | .ifCond .ge off => xe_jmp pc off fun t => xe_br1 (fun x => decide (0 ≤ x)) S (ih k C t L) (ih k C (pc + 3) L)
  | .ifCond .gt off => xe_jmp pc off fun t => xe_br1 (fun x => decide (0 < x)) S (ih k C t L) (ih k C (pc + 3) L)
  | .ifCond .le off => xe_jmp pc off fun t => xe_br1 (fun x => decide (x ≤ 0)) S (ih k C t L) (ih k C (pc + 3) L)
  | .if_icmp .eq off => xe_jmp pc off fun t => xe_br2 (fun x y => decide (x = y)) S (ih k C t L) (ih k C (pc + 3) L)
  | .if_icmp .ne off => xe_jmp pc off fun t => xe_br2 (fun x y => decide (x ≠ y)) S (ih k C t L) (ih k C (pc + 3) L)
  | .if_icmp .lt off => xe_jmp pc off fun t => xe_br2 (fun x y => decide (x < y)) S (ih k C t L) (ih k C (pc + 3) L)
  | .if_icmp .ge off => xe_jmp pc off fun t => xe_br2 (fun x y => decide (y ≤ x)) S (ih k C t L) (ih k C (pc + 3) L)
  | .if_icmp .gt off => xe_jmp pc off fun t => xe_br2 (fun x y => decide (y < x)) S (ih k C t L) (ih k C (pc + 3) L)
  | .if_icmp .le off => xe_jmp pc off fun t => xe_br2 (fun x y => decide (x ≤ y)) S (ih k C t L) (ih k C (pc + 3) L)
  | .tableswitch dflt lo hi offs => xe_swt pc dflt lo hi offs S (fun t T => ih k C t L T)
  | .lookupswitch dflt ps => xe_swl pc dflt ps S (fun t T => ih k C t L T)
  | .getfield idx => xe_get (xm_F (M k)) idx C S (ih k C (pc + 3) L)
  | .putfield idx => xe_put (xm_F (M k)) idx C S (fun C' T => ih k C' (pc + 3) L T)
  | .iaload => xe_ald 0 C S (ih k C (pc + 1) L)
  | .baload => xe_ald 1 C S (ih k C (pc + 1) L)
  | .iastore => xe_ast 0 (fun x => x) C S (fun C' T => ih k C' (pc + 1) L T)
  | .bastore => xe_ast 1 (fun x => vp_nar .boolean x) C S (fun C' T => ih k C' (pc + 1) L T)
  | .arraylength => xe_aln C S (ih k C (pc + 1) L)
  | .invokevirtual idx => xe_inv M ih k C pc L S true idx
  | .invokestatic idx => xe_inv M ih k C pc L S false idx
  | .ireturn => xe_irt (xm_r (M k)) C S
  | .return_ => xe_vrt (xm_r (M k)) C S
  | _ => none
/-- a shortcut: from a place to another one of the same method, with other cells and locals -/
abbrev xMac : Type := Nat → xC → Nat → xL → List Value → Option (xC × Nat × xL × List Value)
noncomputable def xe_b (M : Nat → xM) (mac : xMac) (ih : xH) : xH := fun k C pc0 L S => xe_fn pc0 fun pc => match mac k C pc L S with
  | some (C1, pc1, L1, S1) => ih k C1 pc1 L1 S1
  | none => match xe_lk (xm_t (M k)) pc with
    | none => none
    | some (i, _) => xe_i M ih k C pc L S i
/-- the run of a method: n instructions at most on every way -/
noncomputable def xe (M : Nat → xM) (mac : xMac) (n : Nat) : xH := Nat.rec (motive := fun _ => xH) (fun _ _ _ _ _ => none) (fun _ ih => xe_b M mac ih) n
/-- the length of an instruction, where it is fixed -/
def xe_okl (i : Instr) (len : Nat) : Bool := match i with
  | .bipush _ | .ldc _ | .iload _ | .aload _ | .istore _ => Nat.beq len 2
  | .sipush _ | .ldc_w _ | .iinc _ _ | .goto _ | .ifCond _ _ | .if_icmp _ _ | .getfield _ | .putfield _ | .invokevirtual _ | .invokestatic _ => Nat.beq len 3
  | .tableswitch _ _ _ _ | .lookupswitch _ _ => true
  | _ => Nat.beq len 1
end
section
/-! WHAT THE EXECUTOR ANSWERS THE MACHINE ANSWERS -/
def xv (ρ : Nat → Nat) (v : Value) : Value := match v with
  | .ref a => .ref (ρ a)
  | u => u
theorem xv_cat (ρ : Nat → Nat) (v : Value) : (xv ρ v).category = v.category := by cases v <;> rfl
def xcy (cI cZ : ClassId) (t : Nat) : ClassId := match t with
  | 0 => cI
  | _ => cZ
def xd (cI cZ : ClassId) (ρ : Nat → Nat) (e : va_E) : va_E := match e with
  | .inl a => .inl (xcy cI cZ a.1, a.2)
  | .inr b => .inr (b.1, b.2.map (xv ρ))
def xw (cI cZ : ClassId) (ρ : Nat → Nat) (C : xC) : va_W := C.mapIdx (fun i e => (ρ i, xd cI cZ ρ e))
def xl (ρ : Nat → Nat) (L : xL) : xL := L.map (fun q => (q.1, xv ρ q.2))
theorem xw_get {cI cZ : ClassId} {ρ : Nat → Nat} {C : xC} {a : Nat} {e : va_E} (h : C[a]? = some e) : (xw cI cZ ρ C)[a]? = some (ρ a, xd cI cZ ρ e) := by
  simp [xw, h]
theorem xw_set {cI cZ : ClassId} {ρ : Nat → Nat} {C : xC} {a : Nat} {e : va_E} : (xw cI cZ ρ C).set a (ρ a, xd cI cZ ρ e) = xw cI cZ ρ (C.set a e) := by
  apply List.ext_getElem?
  intro i
  simp only [xw, List.getElem?_set, List.getElem?_mapIdx, List.length_mapIdx]
  by_cases hi : a = i
  · subst hi
    by_cases hl : a < C.length
    · simp [hl]
    · simp [hl]
  · simp [hi]
theorem xw_at {cI cZ : ClassId} {ρ : Nat → Nat} {C : xC} {i : Nat} {p : Nat × va_E} (h : (xw cI cZ ρ C)[i]? = some p) : i < C.length ∧ p.1 = ρ i := by
  simp only [xw, List.getElem?_mapIdx, Option.map_eq_some_iff] at h
  obtain ⟨e, h1, h2⟩ := h
  exact ⟨(List.getElem?_eq_some_iff.mp h1).1, by rw [← h2]⟩
theorem xw_ex {cI cZ : ClassId} {ρ : Nat → Nat} {C : xC} {i : Nat} (h : i < C.length) : ∃ e, (xw cI cZ ρ C)[i]? = some (ρ i, e) := ⟨_, xw_get (List.getElem?_eq_getElem h)⟩
theorem xw_D {A : Nat → Prop} {cI cZ : ClassId} {ρ : Nat → Nat} {C C1 : xC} (hN : C1.length = C.length) (h : va_D A (xw cI cZ ρ C)) : va_D A (xw cI cZ ρ C1) := by
  refine ⟨fun i j p q hi hj e => ?_, fun k q hk => ?_⟩
  · obtain ⟨a1, a2⟩ := xw_at hi
    obtain ⟨b1, b2⟩ := xw_at hj
    obtain ⟨e1, h1⟩ := xw_ex (cI := cI) (cZ := cZ) (ρ := ρ) (C := C) (i := i) (by omega)
    obtain ⟨e2, h2⟩ := xw_ex (cI := cI) (cZ := cZ) (ρ := ρ) (C := C) (i := j) (by omega)
    exact h.1 i j _ _ h1 h2 (by show ρ i = ρ j; rw [← a2, ← b2]; exact e)
  · obtain ⟨a1, a2⟩ := xw_at hk
    obtain ⟨e1, h1⟩ := xw_ex (cI := cI) (cZ := cZ) (ρ := ρ) (C := C) (i := k) (by omega)
    rw [a2]
    exact h.2 k _ h1
theorem xl_mem {ρ : Nat → Nat} {L : xL} {i : Nat} {v : Value} (h : (i, v) ∈ L) : (i, xv ρ v) ∈ xl ρ L := List.mem_map.mpr ⟨_, h, rfl⟩
theorem xl_st (ρ : Nat → Nat) (L : xL) (i : Nat) (v : Value) : (i, xv ρ v) :: (xl ρ L).filter (fun q => !(q.1 == i) && !(q.1 + 1 == i && q.2.category == 2)) = xl ρ (xe_st L i v) := by
  unfold xe_st xl
  rw [List.map_cons, List.filter_map]
  congr 2
  refine List.filter_congr (fun q _ => ?_)
  simp [xv_cat]
theorem xl_args (ρ : Nat → Nat) (vs : List Value) (i : Nat) : lv_args i (vs.map (xv ρ)) = xl ρ (lv_args i vs) := by
  induction vs generalizing i with
  | nil => rfl
  | cons v t ih =>
    show (i, xv ρ v) :: lv_args (if (xv ρ v).category = 2 then i + 2 else i + 1) (t.map (xv ρ)) = (i, xv ρ v) :: xl ρ (lv_args (if v.category = 2 then i + 2 else i + 1) t)
    rw [xv_cat, ih]
theorem xe_len {ρ : Nat → Nat} {vs : List Value} (h : xe_c1 vs = true) : (lg_sl (vs.map (xv ρ))).length = vs.length := by
  induction vs with
  | nil => rfl
  | cons v t ih =>
    simp only [xe_c1, List.all_cons, Bool.and_eq_true] at h
    have e := Nat.eq_of_beq_eq_true h.1
    have i2 := ih h.2
    simp only [lg_sl, List.map_cons, List.flatMap_cons, xv_cat, e] at i2 ⊢
    simpa using i2
theorem xe_has {ls : Array Slot} {nL : Nat} {ρ : Nat → Nat} {L : xL} (h : lv_has ls nL (xl ρ L)) {i : Nat} {v : Value} (hm : (i, v) ∈ L) : ls[i]? = some (.val (xv ρ v)) := h.2.2 (i, xv ρ v) (xl_mem hm)
abbrev xN : Type := List (String × Nat × MethodName × String)
def xe_ws (WS : List Cond) (X : xM) : List Cond := .code (xm_y X) (xm_c X) (xm_n X) (xm_r X) :: WS
def xe_rm (X : xM) : Room := { frames := xm_f X, cells := 0, slots := 0, locals := xm_l X }
def xe_ns (ns : xN) (U : State) : Prop := ∀ q ∈ ns, va_Nw (.methodLinkNest q.1 q.2.1 q.2.2.1 q.2.2.2) U
abbrev xe_ty (cI cZ : ClassId) : List (ClassId × FieldType) := [(cI, .int), (cZ, .boolean)]
def xe_Pc (D : va_G) (CL : List vw_C) (ns : xN) (cI cZ : ClassId) (ρ : Nat → Nat) (C : xC) (av : List Value) (sz : Nat) : Array Value → State → Prop := va_Pc av (fun U => U.heap.size = sz ∧ va_P D CL (xw cI cZ ρ C) U.heap ∧ va_K D CL (xe_ty cI cZ) U ∧ va_D (fun _ => True) (xw cI cZ ρ C) ∧ xe_ns ns U)
theorem xe_blind (D : va_G) (CL : List vw_C) (ns : xN) (cI cZ : ClassId) (ρ : Nat → Nat) (C : xC) (av : List Value) (sz : Nat) : FrameBlind (xe_Pc D CL ns cI cZ ρ C av sz) := fun a U g mk q => by
  obtain ⟨q0, q1, qP, qK, qD, qN⟩ := q
  exact ⟨q0, q1, qP, va_K.moved (u := U) (U := U.calling g mk a) (Vm.Alike.refl U.vm) qK, qD, fun w hw => va_Nw.same rfl rfl (qN w hw)⟩
def xe_Q (D : va_G) (CL : List vw_C) (cI cZ : ClassId) (ρ : Nat → Nat) (A : Nat → Prop) (N : Nat) (r : Option Value) (C' : xC) : Array Value → State → Outcome → State → Prop := match r with
  | none => va_Qv (fun _ : Unit => True) (fun _ t => va_P D CL (xw cI cZ ρ C') t.heap ∧ C'.length = N) A
  | some (.int v) => va_Qi (fun (u : Int32) (_ : Unit) => u = v) (fun _ t => va_P D CL (xw cI cZ ρ C') t.heap ∧ C'.length = N) A
  | _ => fun _ _ _ _ => False
def xOK (M : Nat → xM) (CL : List vw_C) (WS : List Cond) (ns : xN) (k : Nat) : Prop :=
  (∀ (pc : Nat) (i : Instr) (len : Nat), xe_lk (xm_t (M k)) pc = some (i, len) → decode (xm_c (M k)) pc = .ok (i, len) ∧ xe_okl i len = true) ∧
  plainName (xm_y (M k)).cls = true ∧ (xm_y (M k)).cls = xm_o (M k) ∧ Cond.code (xm_y (M k)) (xm_c (M k)) (xm_n (M k)) (xm_r (M k)) ∈ WS ∧ Cond.initialized (xm_y (M k)).cls ∈ WS ∧
  (∀ q ∈ xm_F (M k), ∃ (C : String) (T : u_T) (N : Nat), CL[q.2.1]? = some (C, T, N) ∧ q.2.2.1 < N ∧ Cond.fieldLink (xm_o (M k)) q.1 (T q.2.2.1).1 (T q.2.2.1).2.1 (T q.2.2.1).2.2.1 ∈ WS ∧ (q.2.2.2 = 0 → (T q.2.2.1).2.2.2 = false ∧ parseFieldDescriptor (T q.2.2.1).2.2.1 = some .int) ∧ (q.2.2.2 = 1 → (T q.2.2.1).2.2.2 = false ∧ parseFieldDescriptor (T q.2.2.1).2.2.1 = some .boolean)) ∧
  (∀ q ∈ xm_K (M k), Cond.constant (xm_o (M k)) q.1 q.2 ∈ WS) ∧
  (∀ q ∈ xm_I (M k), xm_f (M q.2.1) + 1 ≤ xm_f (M k) ∧ 8 + (xm_n (M q.2.1) + 11) + xm_l (M q.2.1) ≤ xm_l (M k) ∧ ((xm_y (M q.2.1)).cls ≠ "java/lang/invoke/MethodHandle" ∧ (xm_y (M q.2.1)).cls ≠ "java/lang/invoke/VarHandle" ∧ (parseMethodDescriptor (xm_y (M q.2.1)).desc).map (fun d => d.parameters.length) = some q.2.2.1) ∧
    (q.2.2.2.1 = 0 → Cond.methodLink (xm_o (M k)) q.1 (xm_y (M q.2.1)) ∈ WS ∧ Cond.instanceMethod (xm_y (M q.2.1)) ∈ WS ∧ Cond.selects (xm_y (M q.2.1)).cls (xm_y (M q.2.1)) (xm_y (M q.2.1)) ∈ WS ∧ ∃ (T : u_T) (N : Nat), CL[q.2.2.2.2]? = some ((xm_y (M q.2.1)).cls, T, N)) ∧
    (q.2.2.2.1 = 1 → Cond.methodLink (xm_o (M k)) q.1 (xm_y (M q.2.1)) ∈ WS ∧ Cond.static (xm_y (M q.2.1)) ∈ WS) ∧
    (q.2.2.2.1 ≠ 0 → q.2.2.2.1 ≠ 1 → Cond.static (xm_y (M q.2.1)) ∈ WS ∧ ∃ host : String, (xm_o (M k), q.1, xm_y (M q.2.1), host) ∈ ns))
def xCL (CL : List vw_C) (WS : List Cond) : Prop := ∀ (ci : Nat) (C : String) (T : u_T) (N : Nat), CL[ci]? = some (C, T, N) → (∀ u ∈ u_ws C T N, u ∈ WS) ∧ ∃ ty0 : Nat → FieldType, (∀ k, k < N → parseFieldDescriptor (T k).2.2.1 = some (ty0 k)) ∧ ∀ a, a < N → ∀ b, b < N → a ≠ b → (T a).2.1 ≠ (T b).2.1
def xe_At (M : Nat → xM) (CL : List vw_C) (WS : List Cond) (ns : xN) (D : va_G) (cI cZ : ClassId) (k : Nat) (A : Nat → Prop) (p : Program) (s : State) (m : MethodId) (args : Array Value) (meth : Method) (c : Code) : Prop :=
  p.tables.exec = Jvm.exec ∧ c.code = xm_c (M k) ∧ meth.sig.returnType = xm_r (M k) ∧ meth.locks = false ∧ c.maxLocals = xm_n (M k) ∧ s.vm.findClass (xm_o (M k)) = some m.cls ∧ (∀ u ∈ xe_ws WS (M k), u.before args s = true) ∧ xe_ns ns s ∧ va_K D CL (xe_ty cI cZ) s ∧ ∀ q : Nat, s.heap.size ≤ q → A q
def xe_WS (M : Nat → xM) (mac : xMac) (CL : List vw_C) (WS : List Cond) (ns : xN) (l : Launch) (D : va_G) (cI cZ : ClassId) (ρ : Nat → Nat) (n : Nat) : Prop :=
  ∀ (k : Nat) (C : xC) (pc : Nat) (L : xL) (S : List Value) (r : Option Value) (C' : xC) (A : Nat → Prop) (N : Nat) (p : Program) (e : Env) (s : State) (m : MethodId) (args : Array Value) (below : List Frame) (meth : Method) (c : Code) (H : Heap) (locs : List Loc) (ls : Array Slot),
    xe M mac n k C pc L S = some (r, C') → xe_At M CL WS ns D cI cZ k A p s m args meth c → va_P D CL (xw cI cZ ρ C) H → va_D A (xw cI cZ ρ C) → va_S A s.heap H locs → lv_has ls (xm_n (M k)) (xl ρ L) → C.length = N →
    W p l e (xe_rm (M k)) s m args below meth c H locs 0 0 (MQ below (xe_Q D CL cI cZ ρ A N r C') args s 0 0 A) (F0 m pc ls (S.map (xv ρ)))
def xe_MacOK (M : Nat → xM) (mac : xMac) (CL : List vw_C) (WS : List Cond) (ns : xN) (l : Launch) (D : va_G) (cI cZ : ClassId) (ρ : Nat → Nat) : Prop :=
  ∀ (k : Nat) (C : xC) (pc : Nat) (L : xL) (S : List Value) (C1 : xC) (pc1 : Nat) (L1 : xL) (S1 : List Value), mac k C pc L S = some (C1, pc1, L1, S1) →
    ∀ (A : Nat → Prop) (N : Nat) (p : Program) (e : Env) (s : State) (m : MethodId) (args : Array Value) (below : List Frame) (meth : Method) (c : Code) (H : Heap) (locs : List Loc) (ls : Array Slot) (Q : State → Prop),
    xe_At M CL WS ns D cI cZ k A p s m args meth c → va_P D CL (xw cI cZ ρ C) H → va_D A (xw cI cZ ρ C) → va_S A s.heap H locs → lv_has ls (xm_n (M k)) (xl ρ L) → C.length = N →
    (∀ (H1 : Heap) (locs1 : List Loc) (ls1 : Array Slot), va_P D CL (xw cI cZ ρ C1) H1 → va_D A (xw cI cZ ρ C1) → va_S A s.heap H1 locs1 → lv_has ls1 (xm_n (M k)) (xl ρ L1) → C1.length = N → W p l e (xe_rm (M k)) s m args below meth c H1 locs1 0 0 Q (F0 m pc1 ls1 (S1.map (xv ρ)))) →
    W p l e (xe_rm (M k)) s m args below meth c H locs 0 0 Q (F0 m pc ls (S.map (xv ρ)))
theorem xe_goodIn {M : Nat → xM} {WS : List Cond} (hG : ∀ u ∈ WS, goodWord u = true) {k k' : Nat} (h : Cond.code (xm_y (M k')) (xm_c (M k')) (xm_n (M k')) (xm_r (M k')) ∈ WS) : GoodIn (xe_ws WS (M k)) (xe_ws WS (M k')) := by
  intro u hu
  rcases List.mem_cons.mp hu with e | e
  · rw [e]
    exact ⟨List.mem_cons_of_mem _ h, good_of_word (hG _ h)⟩
  · exact ⟨List.mem_cons_of_mem _ e, good_of_word (hG _ e)⟩
theorem xe_goodV {M : Nat → xM} {WS : List Cond} (hG : ∀ u ∈ WS, goodWord u = true) {k k' : Nat} {ps : List Cond} (hp : ∀ u ∈ ps, u ∈ WS) (h : Cond.code (xm_y (M k')) (xm_c (M k')) (xm_n (M k')) (xm_r (M k')) ∈ WS) : GoodIn (xe_ws WS (M k)) (ps ++ xe_ws WS (M k')) := by
  intro u hu
  rcases List.mem_append.mp hu with e | e
  · exact ⟨List.mem_cons_of_mem _ (hp u e), good_of_word (hG _ (hp u e))⟩
  · exact xe_goodIn hG h u e
set_option maxHeartbeats 4000000 in
theorem xe_m {M : Nat → xM} {mac : xMac} {CL : List vw_C} {WS : List Cond} {ns : xN} (hV : ∀ k, xOK M CL WS ns k) {l : Launch} {D : va_G} {cI cZ : ClassId} {ρ : Nat → Nat} {n : Nat} (hW : xe_WS M mac CL WS ns l D cI cZ ρ n) {k : Nat} {C : xC} {vs : List Value} {r : Option Value} {C' : xC} (h : xe M mac n k C 0 (lv_args 0 vs) [] = some (r, C')) (hc : xe_c1 vs = true) (hn : vs.length ≤ xm_n (M k)) (sz : Nat) :
    Met l (xm_y (M k)) (xe_ws WS (M k)) (xe_rm (M k)) (xe_Pc D CL ns cI cZ ρ C (vs.map (xv ρ)) sz) (xe_Q D CL cI cZ ρ (va_A (xw cI cZ ρ C) sz) C.length r C') 0 0 (va_A (xw cI cZ ρ C) sz) := by
  refine Met.ofW (cc := xm_c (M k)) (maxL := xm_n (M k)) (ret := xm_r (M k)) (hV k).2.1 rfl ?_
  intro p e s m args below meth c s₁ B hml hv
  obtain ⟨rfl, hsz, hP, hK, hD0, hns⟩ := hv
  have hts := atoms_spec (ws := xe_ws WS (M k)) B.pre
  have hown : s.vm.findClass (xm_o (M k)) = some m.cls := by rw [← (hV k).2.2.1]; exact findClass_of_methodNamed B.named
  subst hsz
  have hD := hD0.self (sz := s.heap.size)
  have hl := lv_entry (vs.map (xv ρ)) (n := xm_n (M k)) (by rw [xe_len hc]; exact hn)
  rw [lg_entry_eq]
  rw [xl_args] at hl
  exact hW k C 0 (lv_args 0 vs) [] r C' _ C.length p e s m _ below meth c s.heap [] _ h ⟨B.exec, B.bytes, B.returns, B.notSynchronized, hml, hown, hts, hns, hK, fun q h => Or.inr h⟩ hP hD va_S.rf hl rfl
theorem xe_free {A : Nat → Prop} {s : State} {H : Heap} {locs : List Loc} {ws : va_W} (hD : va_D A ws) (hS : va_S A s.heap H locs) (hA : ∀ q : Nat, s.heap.size ≤ q → A q) : ∀ q : Nat, va_A ws H.size q → A q := by
  intro q h
  rcases h with ⟨k, e, h⟩ | h
  · exact hD.2 k _ h
  · exact hA q (Nat.le_trans hS.1 h)
theorem xe_pre {D : va_G} {CL : List vw_C} {ns : xN} {cI cZ : ClassId} {ρ : Nat → Nat} {C : xC} {av : List Value} {A : Nat → Prop} {s : State} {H : Heap} (hP : va_P D CL (xw cI cZ ρ C) H) (hK : va_K D CL (xe_ty cI cZ) s) (hD : va_D A (xw cI cZ ρ C)) (hns : xe_ns ns s) : ∀ U : State, U.heap = H → s.WarmedH U.vm → xe_Pc D CL ns cI cZ ρ C av H.size av.toArray U := fun U hU hW =>
  ⟨rfl, by rw [hU], by rw [hU]; exact hP, va_K.moved hW.alike hK, hD.weaken (fun _ _ _ _ => trivial), fun q hq => va_Nw.warmM hW (hns q hq)⟩

section XW
set_option maxHeartbeats 4000000 in
theorem xe_w {M : Nat → xM} {mac : xMac} {CL : List vw_C} {WS : List Cond} {ns : xN} (hV : ∀ k, xOK M CL WS ns k) (hC : xCL CL WS) (hG : ∀ u ∈ WS, goodWord u = true) (l : Launch) (D : va_G) (cI cZ : ClassId) (ρ : Nat → Nat) (hM : xe_MacOK M mac CL WS ns l D cI cZ ρ) : ∀ n : Nat, xe_WS M mac CL WS ns l D cI cZ ρ n := by
  intro n
  induction n with
  | zero =>
    intro k C pc L S r C' A N p e s m args below meth c H locs ls h
    cases h
  | succ n IH =>
    intro k C pc L S r C' A N p e s m args below meth c H locs ls h B hP hD hS hl hN
    obtain ⟨hx, hb, hr, hlk, hml, hown, hts, hns, hK, hA⟩ := id B
    replace h : xe_b M mac (xe M mac n) k C pc L S = some (r, C') := h
    unfold xe_b at h
    rw [xe_fn_eq] at h
    split at h
    · rename_i C1 pc1 L1 S1 hmac
      exact hM k C pc L S C1 pc1 L1 S1 hmac A N p e s m args below meth c H locs ls _ B hP hD hS hl hN (fun H1 locs1 ls1 h1 h2 h3 h4 h5 => IH k C1 pc1 L1 S1 r C' A N p e s m args below meth c H1 locs1 ls1 h B h1 h2 h3 h4 h5)
    split at h
    · cases h
    rename_i i len hlk2
    obtain ⟨hd, ho⟩ := (hV k).1 pc i len hlk2
    have go : ∀ {C1 : xC} {pc1 : Nat} {L1 : xL} {S1 : List Value} {H1 : Heap} {locs1 : List Loc} {ls1 : Array Slot}, xe M mac n k C1 pc1 L1 S1 = some (r, C') → va_P D CL (xw cI cZ ρ C1) H1 → va_D A (xw cI cZ ρ C1) → va_S A s.heap H1 locs1 → lv_has ls1 (xm_n (M k)) (xl ρ L1) → C1.length = N → W p l e (xe_rm (M k)) s m args below meth c H1 locs1 0 0 (MQ below (xe_Q D CL cI cZ ρ A N r C') args s 0 0 A) (F0 m pc1 ls1 (S1.map (xv ρ))) := fun {C1 pc1 L1 S1 H1 locs1 ls1} h1 h2 h3 h4 h5 h6 => IH k C1 pc1 L1 S1 r C' A N p e s m args below meth c H1 locs1 ls1 h1 B h2 h3 h4 h5 h6
    have hin : ∀ {u : Cond}, u ∈ WS → u.before args s = true := fun hu => hts _ (List.mem_cons_of_mem _ hu)
    cases i with
    | iconst v =>
      obtain rfl : len = 1 := Nat.eq_of_beq_eq_true ho
      replace h : xe_push (Int32.ofInt v) S ((xe M mac n) k C (pc + 1) L) = some (r, C') := h
      have h := (xe_push_eq _ _ _).symm.trans h
      exact lv_iconst hx hb hd rfl (go h hP hD hS hl hN)
    | bipush v =>
      obtain rfl : len = 2 := Nat.eq_of_beq_eq_true ho
      replace h : xe_push (Int8.ofInt v).toInt32 S ((xe M mac n) k C (pc + 2) L) = some (r, C') := h
      have h := (xe_push_eq _ _ _).symm.trans h
      exact lv_bipush hx hb hd rfl (go h hP hD hS hl hN)
    | sipush v =>
      obtain rfl : len = 3 := Nat.eq_of_beq_eq_true ho
      replace h : xe_push (Int16.ofInt v).toInt32 S ((xe M mac n) k C (pc + 3) L) = some (r, C') := h
      have h := (xe_push_eq _ _ _).symm.trans h
      exact lv_sipush hx hb hd rfl (go h hP hD hS hl hN)
    | ldc idx =>
      obtain rfl : len = 2 := Nat.eq_of_beq_eq_true ho
      replace h : xe_ldc (xm_K (M k)) idx S ((xe M mac n) k C (pc + 2) L) = some (r, C') := h
      have h0 := xe_ldc_inv h
      clear h
      obtain ⟨v, hk, h⟩ := h0
      exact lv_ldc hx hb hown (hin ((hV k).2.2.2.2.2.2.1 _ hk)) hd (go h hP hD hS hl hN)
    | ldc_w idx =>
      obtain rfl : len = 3 := Nat.eq_of_beq_eq_true ho
      replace h : xe_ldc (xm_K (M k)) idx S ((xe M mac n) k C (pc + 3) L) = some (r, C') := h
      have h0 := xe_ldc_inv h
      clear h
      obtain ⟨v, hk, h⟩ := h0
      exact lv_ldcw hx hb hown (hin ((hV k).2.2.2.2.2.2.1 _ hk)) hd (go h hP hD hS hl hN)
    | iload_n j =>
      obtain rfl : len = 1 := Nat.eq_of_beq_eq_true ho
      replace h : xe_ldi L j.val S ((xe M mac n) k C (pc + 1) L) = some (r, C') := h
      have h0 := xe_ldi_inv h
      clear h
      obtain ⟨x, hk, h⟩ := h0
      exact lv_iload_n hx hb hd rfl (xe_has hl hk) (go h hP hD hS hl hN)
    | iload j =>
      obtain rfl : len = 2 := Nat.eq_of_beq_eq_true ho
      replace h : xe_ldi L j S ((xe M mac n) k C (pc + 2) L) = some (r, C') := h
      have h0 := xe_ldi_inv h
      clear h
      obtain ⟨x, hk, h⟩ := h0
      exact lv_iload hx hb hd (xe_has hl hk) (go h hP hD hS hl hN)
    | aload_n j =>
      obtain rfl : len = 1 := Nat.eq_of_beq_eq_true ho
      replace h : xe_lda L j.val S ((xe M mac n) k C (pc + 1) L) = some (r, C') := h
      have h0 := xe_lda_inv h
      clear h
      obtain ⟨x, hk, h⟩ := h0
      exact lv_aload_n hx hb hd rfl (xe_has hl hk) (go h hP hD hS hl hN)
    | aload j =>
      obtain rfl : len = 2 := Nat.eq_of_beq_eq_true ho
      replace h : xe_lda L j S ((xe M mac n) k C (pc + 2) L) = some (r, C') := h
      have h0 := xe_lda_inv h
      clear h
      obtain ⟨x, hk, h⟩ := h0
      exact lv_aload hx hb hd (xe_has hl hk) (go h hP hD hS hl hN)
    | istore_n j =>
      obtain rfl : len = 1 := Nat.eq_of_beq_eq_true ho
      replace h : xe_sti (xm_n (M k)) L j.val S ((xe M mac n) k C (pc + 1)) = some (r, C') := h
      have h0 := xe_sti_inv h
      clear h
      obtain ⟨x, T, rfl, hj, h⟩ := h0
      exact lv_istore_n hx hb hd rfl hl hj (xl_st ρ L j.val (.int x)) (fun ls' hl' => go h hP hD hS hl' hN)
    | istore j =>
      obtain rfl : len = 2 := Nat.eq_of_beq_eq_true ho
      replace h : xe_sti (xm_n (M k)) L j S ((xe M mac n) k C (pc + 2)) = some (r, C') := h
      have h0 := xe_sti_inv h
      clear h
      obtain ⟨x, T, rfl, hj, h⟩ := h0
      exact lv_istore hx hb hd hl hj (xl_st ρ L j (.int x)) (fun ls' hl' => go h hP hD hS hl' hN)
    | iinc j n0 =>
      obtain rfl : len = 3 := Nat.eq_of_beq_eq_true ho
      replace h : xe_inc (xm_n (M k)) L j n0 (fun L' => (xe M mac n) k C (pc + 3) L' S) = some (r, C') := h
      have h0 := xe_inc_inv h
      clear h
      obtain ⟨x, hk, hj, h⟩ := h0
      obtain ⟨a, ha⟩ := List.getElem?_of_mem (xl_mem (ρ := ρ) hk)
      exact lv_iinc hx hb hd hl ha rfl hj (xl_st ρ L j (.int (x + Int32.ofInt n0))) (fun ls' hl' => go h hP hD hS hl' hN)
    | iadd =>
      obtain rfl : len = 1 := Nat.eq_of_beq_eq_true ho
      replace h : xe_bin (fun x y => x + y) S ((xe M mac n) k C (pc + 1) L) = some (r, C') := h
      have h0 := xe_bin_inv h
      clear h
      obtain ⟨x, y, T, rfl, h⟩ := h0
      exact lv_iadd hx hb hd (go h hP hD hS hl hN)
    | isub =>
      obtain rfl : len = 1 := Nat.eq_of_beq_eq_true ho
      replace h : xe_bin (fun x y => x - y) S ((xe M mac n) k C (pc + 1) L) = some (r, C') := h
      have h0 := xe_bin_inv h
      clear h
      obtain ⟨x, y, T, rfl, h⟩ := h0
      exact lv_isub hx hb hd (go h hP hD hS hl hN)
    | imul =>
      obtain rfl : len = 1 := Nat.eq_of_beq_eq_true ho
      replace h : xe_bin (fun x y => x * y) S ((xe M mac n) k C (pc + 1) L) = some (r, C') := h
      have h0 := xe_bin_inv h
      clear h
      obtain ⟨x, y, T, rfl, h⟩ := h0
      exact lv_imul hx hb hd (go h hP hD hS hl hN)
    | iand =>
      obtain rfl : len = 1 := Nat.eq_of_beq_eq_true ho
      replace h : xe_bin (fun x y => x &&& y) S ((xe M mac n) k C (pc + 1) L) = some (r, C') := h
      have h0 := xe_bin_inv h
      clear h
      obtain ⟨x, y, T, rfl, h⟩ := h0
      exact lv_iand hx hb hd (go h hP hD hS hl hN)
    | ior =>
      obtain rfl : len = 1 := Nat.eq_of_beq_eq_true ho
      replace h : xe_bin (fun x y => x ||| y) S ((xe M mac n) k C (pc + 1) L) = some (r, C') := h
      have h0 := xe_bin_inv h
      clear h
      obtain ⟨x, y, T, rfl, h⟩ := h0
      exact lv_ior hx hb hd (go h hP hD hS hl hN)
    | ixor =>
      obtain rfl : len = 1 := Nat.eq_of_beq_eq_true ho
      replace h : xe_bin (fun x y => x ^^^ y) S ((xe M mac n) k C (pc + 1) L) = some (r, C') := h
      have h0 := xe_bin_inv h
      clear h
      obtain ⟨x, y, T, rfl, h⟩ := h0
      exact lv_ixor hx hb hd (go h hP hD hS hl hN)
    | ishl =>
      obtain rfl : len = 1 := Nat.eq_of_beq_eq_true ho
      replace h : xe_bin (fun x y => x <<< (y &&& 31)) S ((xe M mac n) k C (pc + 1) L) = some (r, C') := h
      have h0 := xe_bin_inv h
      clear h
      obtain ⟨x, y, T, rfl, h⟩ := h0
      exact lv_ishl hx hb hd (go h hP hD hS hl hN)
    | ishr =>
      obtain rfl : len = 1 := Nat.eq_of_beq_eq_true ho
      replace h : xe_bin (fun x y => x >>> (y &&& 31)) S ((xe M mac n) k C (pc + 1) L) = some (r, C') := h
      have h0 := xe_bin_inv h
      clear h
      obtain ⟨x, y, T, rfl, h⟩ := h0
      exact lv_ishr hx hb hd (go h hP hD hS hl hN)
    | iushr =>
      obtain rfl : len = 1 := Nat.eq_of_beq_eq_true ho
      replace h : xe_bin (fun x y => (x.toUInt32 >>> (y.toUInt32 &&& Int32.toUInt32 31)).toInt32) S ((xe M mac n) k C (pc + 1) L) = some (r, C') := h
      have h0 := xe_bin_inv h
      clear h
      obtain ⟨x, y, T, rfl, h⟩ := h0
      exact lv_iushr hx hb hd rfl (go h hP hD hS hl hN)
    | dup =>
      obtain rfl : len = 1 := Nat.eq_of_beq_eq_true ho
      replace h : xe_dup S ((xe M mac n) k C (pc + 1) L) = some (r, C') := h
      have h0 := xe_dup_inv h
      clear h
      obtain ⟨v, T, rfl, hv, h⟩ := h0
      exact lv_dup hx hb hd ((xv_cat ρ v).trans hv) (go h hP hD hS hl hN)
    | dup2 =>
      obtain rfl : len = 1 := Nat.eq_of_beq_eq_true ho
      replace h : xe_dup2 S ((xe M mac n) k C (pc + 1) L) = some (r, C') := h
      have h0 := xe_dup2_inv h
      clear h
      obtain ⟨v, u, T, rfl, hv, hu, h⟩ := h0
      exact lv_dup2_11 hx hb hd ((xv_cat ρ v).trans hv) ((xv_cat ρ u).trans hu) (go h hP hD hS hl hN)
    | pop =>
      obtain rfl : len = 1 := Nat.eq_of_beq_eq_true ho
      replace h : xe_pop1 S ((xe M mac n) k C (pc + 1) L) = some (r, C') := h
      have h0 := xe_pop1_inv h
      clear h
      obtain ⟨v, T, rfl, hv, h⟩ := h0
      exact lv_pop hx hb hd ((xv_cat ρ v).trans hv) (go h hP hD hS hl hN)
    | goto off =>
      obtain rfl : len = 3 := Nat.eq_of_beq_eq_true ho
      replace h : xe_jmp pc off (fun t => (xe M mac n) k C t L S) = some (r, C') := h
      have h0 := xe_jmp_inv h
      clear h
      obtain ⟨t, ht, h⟩ := h0
      exact lv_goto hx hb hd ht (go h hP hD hS hl hN)
    | ifCond q off =>
      obtain rfl : len = 3 := Nat.eq_of_beq_eq_true ho
      cases q with
      | eq =>
        replace h : (xe_jmp pc off fun t => xe_br1 (fun x => decide (x = 0)) S ((xe M mac n) k C t L) ((xe M mac n) k C (pc + 3) L)) = some (r, C') := h
        obtain ⟨t, ht, h3⟩ := xe_jmp_inv h
        clear h
        obtain ⟨x, T, rfl, h1, h2⟩ := xe_br1_inv h3
        exact lv_if_eq hx hb hd ht (fun g => go (h1 (decide_eq_true g)) hP hD hS hl hN) (fun g => go (h2 (decide_eq_false g)) hP hD hS hl hN)
      | ne =>
        replace h : (xe_jmp pc off fun t => xe_br1 (fun x => decide (x ≠ 0)) S ((xe M mac n) k C t L) ((xe M mac n) k C (pc + 3) L)) = some (r, C') := h
        obtain ⟨t, ht, h3⟩ := xe_jmp_inv h
        clear h
        obtain ⟨x, T, rfl, h1, h2⟩ := xe_br1_inv h3
        exact lv_if_ne hx hb hd ht (fun g => go (h1 (decide_eq_true g)) hP hD hS hl hN) (fun g => go (h2 (decide_eq_false (fun z => z g))) hP hD hS hl hN)
      | lt =>
        replace h : (xe_jmp pc off fun t => xe_br1 (fun x => decide (x < 0)) S ((xe M mac n) k C t L) ((xe M mac n) k C (pc + 3) L)) = some (r, C') := h
        obtain ⟨t, ht, h3⟩ := xe_jmp_inv h
        clear h
        obtain ⟨x, T, rfl, h1, h2⟩ := xe_br1_inv h3
        exact lv_if_lt hx hb hd ht (fun g => go (h1 (decide_eq_true g)) hP hD hS hl hN) (fun g => go (h2 (decide_eq_false g)) hP hD hS hl hN)
      | ge =>
        replace h : (xe_jmp pc off fun t => xe_br1 (fun x => decide (0 ≤ x)) S ((xe M mac n) k C t L) ((xe M mac n) k C (pc + 3) L)) = some (r, C') := h
        obtain ⟨t, ht, h3⟩ := xe_jmp_inv h
        clear h
        obtain ⟨x, T, rfl, h1, h2⟩ := xe_br1_inv h3
        exact lv_if_ge hx hb hd ht (fun g => go (h1 (decide_eq_true g)) hP hD hS hl hN) (fun g => go (h2 (decide_eq_false g)) hP hD hS hl hN)
      | gt =>
        replace h : (xe_jmp pc off fun t => xe_br1 (fun x => decide (0 < x)) S ((xe M mac n) k C t L) ((xe M mac n) k C (pc + 3) L)) = some (r, C') := h
        obtain ⟨t, ht, h3⟩ := xe_jmp_inv h
        clear h
        obtain ⟨x, T, rfl, h1, h2⟩ := xe_br1_inv h3
        exact lv_if_gt hx hb hd ht (fun g => go (h1 (decide_eq_true g)) hP hD hS hl hN) (fun g => go (h2 (decide_eq_false g)) hP hD hS hl hN)
      | le =>
        replace h : (xe_jmp pc off fun t => xe_br1 (fun x => decide (x ≤ 0)) S ((xe M mac n) k C t L) ((xe M mac n) k C (pc + 3) L)) = some (r, C') := h
        obtain ⟨t, ht, h3⟩ := xe_jmp_inv h
        clear h
        obtain ⟨x, T, rfl, h1, h2⟩ := xe_br1_inv h3
        exact lv_if_le hx hb hd ht (fun g => go (h1 (decide_eq_true g)) hP hD hS hl hN) (fun g => go (h2 (decide_eq_false g)) hP hD hS hl hN)
    | if_icmp q off =>
      obtain rfl : len = 3 := Nat.eq_of_beq_eq_true ho
      cases q with
      | eq =>
        replace h : (xe_jmp pc off fun t => xe_br2 (fun x y => decide (x = y)) S ((xe M mac n) k C t L) ((xe M mac n) k C (pc + 3) L)) = some (r, C') := h
        obtain ⟨t, ht, h3⟩ := xe_jmp_inv h
        clear h
        obtain ⟨x, y, T, rfl, h1, h2⟩ := xe_br2_inv h3
        exact lv_icmp_eq hx hb hd ht (fun g => go (h1 (decide_eq_true g)) hP hD hS hl hN) (fun g => go (h2 (decide_eq_false g)) hP hD hS hl hN)
      | ne =>
        replace h : (xe_jmp pc off fun t => xe_br2 (fun x y => decide (x ≠ y)) S ((xe M mac n) k C t L) ((xe M mac n) k C (pc + 3) L)) = some (r, C') := h
        obtain ⟨t, ht, h3⟩ := xe_jmp_inv h
        clear h
        obtain ⟨x, y, T, rfl, h1, h2⟩ := xe_br2_inv h3
        exact lv_icmp_ne hx hb hd ht (fun g => go (h1 (decide_eq_true g)) hP hD hS hl hN) (fun g => go (h2 (decide_eq_false (fun z => z g))) hP hD hS hl hN)
      | lt =>
        replace h : (xe_jmp pc off fun t => xe_br2 (fun x y => decide (x < y)) S ((xe M mac n) k C t L) ((xe M mac n) k C (pc + 3) L)) = some (r, C') := h
        obtain ⟨t, ht, h3⟩ := xe_jmp_inv h
        clear h
        obtain ⟨x, y, T, rfl, h1, h2⟩ := xe_br2_inv h3
        exact lv_icmp_lt hx hb hd ht (fun g => go (h1 (decide_eq_true g)) hP hD hS hl hN) (fun g => go (h2 (decide_eq_false g)) hP hD hS hl hN)
      | ge =>
        replace h : (xe_jmp pc off fun t => xe_br2 (fun x y => decide (y ≤ x)) S ((xe M mac n) k C t L) ((xe M mac n) k C (pc + 3) L)) = some (r, C') := h
        obtain ⟨t, ht, h3⟩ := xe_jmp_inv h
        clear h
        obtain ⟨x, y, T, rfl, h1, h2⟩ := xe_br2_inv h3
        exact lv_icmp_ge hx hb hd ht (fun g => go (h1 (decide_eq_true g)) hP hD hS hl hN) (fun g => go (h2 (decide_eq_false g)) hP hD hS hl hN)
      | gt =>
        replace h : (xe_jmp pc off fun t => xe_br2 (fun x y => decide (y < x)) S ((xe M mac n) k C t L) ((xe M mac n) k C (pc + 3) L)) = some (r, C') := h
        obtain ⟨t, ht, h3⟩ := xe_jmp_inv h
        clear h
        obtain ⟨x, y, T, rfl, h1, h2⟩ := xe_br2_inv h3
        exact lv_icmp_gt hx hb hd ht (fun g => go (h1 (decide_eq_true g)) hP hD hS hl hN) (fun g => go (h2 (decide_eq_false g)) hP hD hS hl hN)
      | le =>
        replace h : (xe_jmp pc off fun t => xe_br2 (fun x y => decide (x ≤ y)) S ((xe M mac n) k C t L) ((xe M mac n) k C (pc + 3) L)) = some (r, C') := h
        obtain ⟨t, ht, h3⟩ := xe_jmp_inv h
        clear h
        obtain ⟨x, y, T, rfl, h1, h2⟩ := xe_br2_inv h3
        exact lv_icmp_le hx hb hd ht (fun g => go (h1 (decide_eq_true g)) hP hD hS hl hN) (fun g => go (h2 (decide_eq_false g)) hP hD hS hl hN)
    | tableswitch dflt lo hi offs =>
      replace h : xe_swt pc dflt lo hi offs S (fun t T => (xe M mac n) k C t L T) = some (r, C') := h
      have h0 := xe_swt_inv h
      clear h
      obtain ⟨x, T, rfl, h⟩ := h0
      rcases h with ⟨g, t, ht, h⟩ | ⟨g1, g2, off, t, g3, ht, h⟩
      · exact lv_tableOut hx hb hd g ht (go h hP hD hS hl hN)
      · exact lv_tableIn hx hb hd g1 g2 g3 ht (go h hP hD hS hl hN)
    | lookupswitch dflt ps =>
      replace h : xe_swl pc dflt ps S (fun t T => (xe M mac n) k C t L T) = some (r, C') := h
      have h0 := xe_swl_inv h
      clear h
      obtain ⟨x, T, t, rfl, g, ht, h⟩ := h0
      exact lv_lookup hx hb hd g rfl ht (go h hP hD hS hl hN)
    | getfield idx =>
      obtain rfl : len = 3 := Nat.eq_of_beq_eq_true ho
      replace h : xe_get (xm_F (M k)) idx C S ((xe M mac n) k C (pc + 3) L) = some (r, C') := h
      have h0 := xe_get_inv h
      clear h
      obtain ⟨a, T, ci, j, t, fs, v, rfl, hF, hCa, hv, h⟩ := h0
      obtain ⟨Cn, Tn, Nn, g1, g2, g3, -, -⟩ := (hV k).2.2.2.2.2.1 _ hF
      exact va_get (D := D) (ci := ci) (v := xv ρ v) (C := Cn) (T := Tn) (N := Nn) hx hb hts (fun u hu => List.mem_cons_of_mem _ ((hC ci Cn Tn Nn g1).1 u hu)) hown hK hP a (xw_get hCa) g1 j g2 (hin g3) (fun _ h9 => h9) (by rw [List.getElem?_map, hv]; rfl) hd (go h hP hD hS hl hN)
    | putfield idx =>
      obtain rfl : len = 3 := Nat.eq_of_beq_eq_true ho
      replace h : xe_put (xm_F (M k)) idx C S (fun C' T => (xe M mac n) k C' (pc + 3) L T) = some (r, C') := h
      have h0 := xe_put_inv h
      clear h
      obtain ⟨a, T, ci, j, t, fs, v, rfl, hF, hCa, hft, hj, h⟩ := h0
      obtain ⟨Cn, Tn, Nn, g1, g2, g3, g4, g5⟩ := (hV k).2.2.2.2.2.1 _ hF
      obtain ⟨ty0, gt, gn⟩ := (hC ci Cn Tn Nn g1).2
      have key : ∀ ty : FieldType, (Tn j).2.2.2 = false → parseFieldDescriptor (Tn j).2.2.1 = some ty → narrow ty (.int v) = .int v → fits ty (.int v) = true → W p l e (xe_rm (M k)) s m args below meth c H locs 0 0 (MQ below (xe_Q D CL cI cZ ρ A N r C') args s 0 0 A) (F0 m pc ls (.int v :: .ref (ρ a) :: T.map (xv ρ))) := by
        intro ty e1 e2 e3 e4
        refine va_put (D := D) (ci := ci) (v := .int v) (ty := ty) (C := Cn) (T := Tn) (N := Nn) hx hb hts (fun u hu => List.mem_cons_of_mem _ ((hC ci Cn Tn Nn g1).1 u hu)) ty0 gt gn hown hK hP hD hS a (xw_get hCa) g1 j g2 (hin g3) (fun _ h9 => h9) e1 e2 e3 e4 (by rw [List.length_map]; exact hj) hd (fun H1 locs1 hP1 hD1 hS1 => ?_)
        have e9 : (Sum.inr (ci, (fs.map (xv ρ)).set j (.int v)) : va_E) = xd cI cZ ρ (.inr (ci, fs.set j (.int v))) := by
          show (Sum.inr (ci, (fs.map (xv ρ)).set j (.int v)) : va_E) = .inr (ci, (fs.set j (.int v)).map (xv ρ))
          rw [List.map_set]
          rfl
        rw [e9, xw_set] at hP1 hD1
        exact go h hP1 hD1 hS1 hl (by rw [List.length_set]; exact hN)
      unfold xe_fit at hft
      cases q0 : Nat.beq t 0 with
      | true =>
        have e0 := g4 (Nat.eq_of_beq_eq_true q0)
        exact key .int e0.1 e0.2 rfl rfl
      | false =>
        rw [q0] at hft
        cases q1 : Nat.beq t 1 with
        | true =>
          rw [q1] at hft
          have e0 := g5 (Nat.eq_of_beq_eq_true q1)
          simp only [cond_false, cond_true, Bool.or_eq_true, decide_eq_true_eq] at hft
          rcases hft with e5 | e5
          · subst e5
            exact key .boolean e0.1 e0.2 rfl rfl
          · subst e5
            exact key .boolean e0.1 e0.2 rfl rfl
        | false =>
          rw [q1] at hft
          cases hft
    | iaload =>
      obtain rfl : len = 1 := Nat.eq_of_beq_eq_true ho
      replace h : xe_ald 0 C S ((xe M mac n) k C (pc + 1) L) = some (r, C') := h
      have h0 := xe_ald_inv h
      clear h
      obtain ⟨i, a, T, sz, f, rfl, hCa, hi, h⟩ := h0
      exact va_iald hx hb hK hP a 0 (xw_get hCa) rfl hi hd (go h hP hD hS hl hN)
    | baload =>
      obtain rfl : len = 1 := Nat.eq_of_beq_eq_true ho
      replace h : xe_ald 1 C S ((xe M mac n) k C (pc + 1) L) = some (r, C') := h
      have h0 := xe_ald_inv h
      clear h
      obtain ⟨i, a, T, sz, f, rfl, hCa, hi, h⟩ := h0
      exact va_zald hx hb hK hP a 1 (xw_get hCa) rfl hi hd (go h hP hD hS hl hN)
    | iastore =>
      obtain rfl : len = 1 := Nat.eq_of_beq_eq_true ho
      replace h : xe_ast 0 (fun x => x) C S (fun C' T => (xe M mac n) k C' (pc + 1) L T) = some (r, C') := h
      have h0 := xe_ast_inv h
      clear h
      obtain ⟨x, i, a, T, sz, f, rfl, hCa, hi, h⟩ := h0
      refine va_iast hx hb hK hP hD hS a 0 (xw_get hCa) rfl hi hd (fun H1 locs1 hP1 hD1 hS1 => ?_)
      rw [show (Sum.inl (xcy cI cZ 0, sz, Sum.inl (upd f i.toNatClampNeg x)) : va_E) = xd cI cZ ρ (.inl (0, sz, .inl (upd f i.toNatClampNeg x))) from rfl, xw_set] at hP1 hD1
      exact go h hP1 hD1 hS1 hl (by rw [List.length_set]; exact hN)
    | bastore =>
      obtain rfl : len = 1 := Nat.eq_of_beq_eq_true ho
      replace h : xe_ast 1 (fun x => vp_nar .boolean x) C S (fun C' T => (xe M mac n) k C' (pc + 1) L T) = some (r, C') := h
      have h0 := xe_ast_inv h
      clear h
      obtain ⟨x, i, a, T, sz, f, rfl, hCa, hi, h⟩ := h0
      refine va_zast hx hb hK hP hD hS a 1 (xw_get hCa) rfl hi hd (fun H1 locs1 hP1 hD1 hS1 => ?_)
      rw [show (Sum.inl (xcy cI cZ 1, sz, Sum.inl (upd f i.toNatClampNeg (vp_nar .boolean x))) : va_E) = xd cI cZ ρ (.inl (1, sz, .inl (upd f i.toNatClampNeg (vp_nar .boolean x)))) from rfl, xw_set] at hP1 hD1
      exact go h hP1 hD1 hS1 hl (by rw [List.length_set]; exact hN)
    | arraylength =>
      obtain rfl : len = 1 := Nat.eq_of_beq_eq_true ho
      replace h : xe_aln C S ((xe M mac n) k C (pc + 1) L) = some (r, C') := h
      have h0 := xe_aln_inv h
      clear h
      obtain ⟨a, T, t, x, rfl, hCa, ht, h⟩ := h0
      rcases (show t = 0 ∨ t = 1 by omega) with rfl | rfl
      · exact va_alen hx hb hK hP a 0 (xw_get hCa) rfl rfl hd (go h hP hD hS hl hN)
      · exact va_alen hx hb hK hP a 1 (xw_get hCa) rfl rfl hd (go h hP hD hS hl hN)
    | invokevirtual idx =>
      obtain rfl : len = 3 := Nat.eq_of_beq_eq_true ho
      replace h : xe_inv M (xe M mac n) k C pc L S true idx = some (r, C') := h
      have h0 := xe_inv_v h
      clear h
      obtain ⟨k', na, ci, As, T, b, fs, hI, rfl, hna, hCb, h⟩ := h0
      obtain ⟨f1, f2, f3, f4, f5, f6⟩ := (hV k).2.2.2.2.2.2.2 _ hI
      have h0 := xe_call_inv h
      clear h
      obtain ⟨c1, c2, c3, C1, hc⟩ := h0
      have hcd := (hV k').2.2.2.1
      have hini := hin (hV k').2.2.2.2.1
      have hsum : ((T.map (xv ρ)).map fun v => v.category).sum ≤ 8 := by
        rw [List.map_map]
        rw [show ((fun v : Value => v.category) ∘ xv ρ) = fun v => v.category from funext (xv_cat ρ)]
        exact c1
      have hFr := xe_free hD hS hA
      obtain ⟨p1, p2, p3, Tn, Nn, p4⟩ := f4 rfl
      have hcw : CallW (xe_rm (M k)) s args (xm_o (M k)) (xm_y (M k')).cls idx (xm_y (M k')) (xm_c (M k')) (xm_n (M k')) (xm_r (M k')) (xe_ws WS (M k')) (xe_rm (M k')) 0 0 na := cwV na hts (xe_goodV hG (ps := [.methodLink (xm_o (M k)) idx (xm_y (M k')), .instanceMethod (xm_y (M k')), .selects (xm_y (M k')).cls (xm_y (M k')) (xm_y (M k')), .initialized (xm_y (M k')).cls]) (by
        intro u hu
        simp only [List.mem_cons, List.not_mem_nil, or_false] at hu
        rcases hu with rfl | rfl | rfl | rfl
        · exact p1
        · exact p2
        · exact p3
        · exact (hV k').2.2.2.2.1) hcd) rfl rfl rfl ⟨rfl, f3⟩ ⟨f1, f2⟩
      have hrv := va_recv hK hP (ci := ci) (q0 := b) p4 (xw_get hCb)
      have hstk : (F0 m pc ls ((As.reverse ++ .ref b :: T).map (xv ρ))).stack = (As.map (xv ρ)).reverse ++ .ref (ρ b) :: T.map (xv ρ) := by
        show (As.reverse ++ .ref b :: T).map (xv ρ) = _
        rw [List.map_append, List.map_reverse]
        rfl
      rcases hc with ⟨hc1, h⟩ | ⟨v, hc1, h⟩
      · refine va_callv (S := Unit) (post := fun _ => True) (B := fun _ t => va_P D CL (xw cI cZ ρ C1) t.heap ∧ C1.length = C.length) (va_runV (As := As.map (xv ρ)) (rest := T.map (xv ρ)) ⟨hx, hb, hml, hown, hts⟩ (xe_m hV IH hc1 c2 c3 H.size) hcw ⟨xe_blind _ _ _ _ _ _ _ _ _, hrv, xe_pre (av := .ref (ρ b) :: As.map (xv ρ)) hP hK hD hns⟩ rfl (by rw [List.length_map]; exact hna) hl.1 hstk (lv_room hsum) hd ⟨Nat.le_refl 0, Nat.le_refl 0⟩) hS (fun q _ z => hFr q z) hFr (fun u t H1 locs1 ht hvm hw hB hz1 hk1 hS1 => ?_)
        obtain ⟨hP1, hN1⟩ := hB
        rw [ht] at hP1
        exact go h hP1 (xw_D hN1 hD) hS1 hl (hN1.trans hN)
      · refine va_calli (S := Unit) (post := fun (u : Int32) _ => u = v) (B := fun _ t => va_P D CL (xw cI cZ ρ C1) t.heap ∧ C1.length = C.length) (va_runV (As := As.map (xv ρ)) (rest := T.map (xv ρ)) ⟨hx, hb, hml, hown, hts⟩ (xe_m hV IH hc1 c2 c3 H.size) hcw ⟨xe_blind _ _ _ _ _ _ _ _ _, hrv, xe_pre (av := .ref (ρ b) :: As.map (xv ρ)) hP hK hD hns⟩ rfl (by rw [List.length_map]; exact hna) hl.1 hstk (lv_room hsum) hd ⟨Nat.le_refl 0, Nat.le_refl 0⟩) hS (fun q _ z => hFr q z) hFr (fun x u t H1 locs1 ht hvm hw hB hz1 hk1 hS1 => ?_)
        obtain ⟨hP1, hN1⟩ := hB
        rw [ht] at hP1
        subst hw
        exact go (S1 := .int x :: T) h hP1 (xw_D hN1 hD) hS1 hl (hN1.trans hN)
    | invokestatic idx =>
      obtain rfl : len = 3 := Nat.eq_of_beq_eq_true ho
      replace h : xe_inv M (xe M mac n) k C pc L S false idx = some (r, C') := h
      have h0 := xe_inv_s h
      clear h
      obtain ⟨k', na, kd, ci, As, T, hI, hkd, rfl, hna, h⟩ := h0
      obtain ⟨f1, f2, f3, f4, f5, f6⟩ := (hV k).2.2.2.2.2.2.2 _ hI
      have h0 := xe_call_inv h
      clear h
      obtain ⟨c1, c2, c3, C1, hc⟩ := h0
      have hcd := (hV k').2.2.2.1
      have hini := hin (hV k').2.2.2.2.1
      have hsum : ((T.map (xv ρ)).map fun v => v.category).sum ≤ 8 := by
        rw [List.map_map]
        rw [show ((fun v : Value => v.category) ∘ xv ρ) = fun v => v.category from funext (xv_cat ρ)]
        exact c1
      have hFr := xe_free hD hS hA
      have hstk : (F0 m pc ls ((As.reverse ++ T).map (xv ρ))).stack = (As.map (xv ρ)).reverse ++ T.map (xv ρ) := by
        show (As.reverse ++ T).map (xv ρ) = _
        rw [List.map_append, List.map_reverse]
      by_cases hk1 : kd = 1
      · obtain ⟨p1, p2⟩ := f5 hk1
        have hcw : CallB (xe_rm (M k)) s args (xm_o (M k)) idx (xm_y (M k')) (xm_c (M k')) (xm_n (M k')) (xm_r (M k')) (xe_ws WS (M k')) (xe_rm (M k')) 0 0 na ∧ (Cond.static (xm_y (M k'))).before args s = true := va_cwS na hts (xe_goodV hG (ps := [.methodLink (xm_o (M k)) idx (xm_y (M k')), .static (xm_y (M k')), .initialized (xm_y (M k')).cls]) (by
          intro u hu
          simp only [List.mem_cons, List.not_mem_nil, or_false] at hu
          rcases hu with rfl | rfl | rfl
          · exact p1
          · exact p2
          · exact (hV k').2.2.2.2.1) hcd) rfl rfl rfl f3 ⟨f1, f2⟩
        rcases hc with ⟨hc1, h⟩ | ⟨v, hc1, h⟩
        · refine va_callv (S := Unit) (post := fun _ => True) (B := fun _ t => va_P D CL (xw cI cZ ρ C1) t.heap ∧ C1.length = C.length) (va_runS (As := As.map (xv ρ)) (rest := T.map (xv ρ)) ⟨hx, hb, hml, hown, hts⟩ (xe_m hV IH hc1 c2 c3 H.size) hcw ⟨xe_blind _ _ _ _ _ _ _ _ _, xe_pre (av := As.map (xv ρ)) hP hK hD hns⟩ rfl (by rw [List.length_map]; exact hna) hl.1 hstk (lv_room hsum) hd ⟨Nat.le_refl 0, Nat.le_refl 0⟩) hS (fun q _ z => hFr q z) hFr (fun u t H1 locs1 ht hvm hw hB hz1 hk1 hS1 => ?_)
          obtain ⟨hP1, hN1⟩ := hB
          rw [ht] at hP1
          exact go h hP1 (xw_D hN1 hD) hS1 hl (hN1.trans hN)
        · refine va_calli (S := Unit) (post := fun (u : Int32) _ => u = v) (B := fun _ t => va_P D CL (xw cI cZ ρ C1) t.heap ∧ C1.length = C.length) (va_runS (As := As.map (xv ρ)) (rest := T.map (xv ρ)) ⟨hx, hb, hml, hown, hts⟩ (xe_m hV IH hc1 c2 c3 H.size) hcw ⟨xe_blind _ _ _ _ _ _ _ _ _, xe_pre (av := As.map (xv ρ)) hP hK hD hns⟩ rfl (by rw [List.length_map]; exact hna) hl.1 hstk (lv_room hsum) hd ⟨Nat.le_refl 0, Nat.le_refl 0⟩) hS (fun q _ z => hFr q z) hFr (fun x u t H1 locs1 ht hvm hw hB hz1 hk1 hS1 => ?_)
          obtain ⟨hP1, hN1⟩ := hB
          rw [ht] at hP1
          subst hw
          exact go (S1 := .int x :: T) h hP1 (xw_D hN1 hD) hS1 hl (hN1.trans hN)
      · obtain ⟨p2, host, p1⟩ := f6 hkd hk1
        have hcw : va_CN (xe_rm (M k)) s args (xm_o (M k)) idx (xm_y (M k')) host (xm_c (M k')) (xm_n (M k')) (xm_r (M k')) (xe_ws WS (M k')) (xe_rm (M k')) 0 0 na := va_cnB na hts (xe_goodIn hG hcd) rfl rfl rfl (hns _ p1) hini f3 ⟨f1, f2⟩
        rcases hc with ⟨hc1, h⟩ | ⟨v, hc1, h⟩
        · refine va_callv (S := Unit) (post := fun _ => True) (B := fun _ t => va_P D CL (xw cI cZ ρ C1) t.heap ∧ C1.length = C.length) (va_runSN (As := As.map (xv ρ)) (rest := T.map (xv ρ)) ⟨hx, hb, hml, hown, hts⟩ (xe_m hV IH hc1 c2 c3 H.size) ⟨hcw, hin p2, trivial⟩ ⟨xe_blind _ _ _ _ _ _ _ _ _, xe_pre (av := As.map (xv ρ)) hP hK hD hns⟩ rfl (by rw [List.length_map]; exact hna) hl.1 hstk (lv_room hsum) hd ⟨Nat.le_refl 0, Nat.le_refl 0⟩) hS (fun q _ z => hFr q z) hFr (fun u t H1 locs1 ht hvm hw hB hz1 hk1 hS1 => ?_)
          obtain ⟨hP1, hN1⟩ := hB
          rw [ht] at hP1
          exact go h hP1 (xw_D hN1 hD) hS1 hl (hN1.trans hN)
        · refine va_calli (S := Unit) (post := fun (u : Int32) _ => u = v) (B := fun _ t => va_P D CL (xw cI cZ ρ C1) t.heap ∧ C1.length = C.length) (va_runSN (As := As.map (xv ρ)) (rest := T.map (xv ρ)) ⟨hx, hb, hml, hown, hts⟩ (xe_m hV IH hc1 c2 c3 H.size) ⟨hcw, hin p2, trivial⟩ ⟨xe_blind _ _ _ _ _ _ _ _ _, xe_pre (av := As.map (xv ρ)) hP hK hD hns⟩ rfl (by rw [List.length_map]; exact hna) hl.1 hstk (lv_room hsum) hd ⟨Nat.le_refl 0, Nat.le_refl 0⟩) hS (fun q _ z => hFr q z) hFr (fun x u t H1 locs1 ht hvm hw hB hz1 hk1 hS1 => ?_)
          obtain ⟨hP1, hN1⟩ := hB
          rw [ht] at hP1
          subst hw
          exact go (S1 := .int x :: T) h hP1 (xw_D hN1 hD) hS1 hl (hN1.trans hN)
    | ireturn =>
      obtain rfl : len = 1 := Nat.eq_of_beq_eq_true ho
      replace h : xe_irt (xm_r (M k)) C S = some (r, C') := h
      have h0 := xe_irt_inv h
      clear h
      obtain ⟨v, rfl, rfl, rfl, hret⟩ := h0
      rcases hret with e0 | ⟨e0, e1⟩
      · exact W.iret (v := v) hx hb (hr.trans e0) (fun t ht hW => ⟨⟨v, (), rfl, rfl, by rw [ht]; exact hP, hN⟩, hS.F ht⟩) hS.2.2 hd hlk
      · exact W.zret (v := v) (ty := .boolean) hx hb (hr.trans e0) (by rcases e1 with rfl | rfl <;> rfl) (fun t ht hW => ⟨⟨v, (), rfl, rfl, by rw [ht]; exact hP, hN⟩, hS.F ht⟩) hS.2.2 hd hlk
    | return_ =>
      obtain rfl : len = 1 := Nat.eq_of_beq_eq_true ho
      replace h : xe_vrt (xm_r (M k)) C S = some (r, C') := h
      have h0 := xe_vrt_inv h
      clear h
      obtain ⟨rfl, rfl, rfl, hret⟩ := h0
      exact W.vret hx hb (hr.trans hret) (fun t ht hW => ⟨⟨(), rfl, trivial, by rw [ht]; exact hP, hN⟩, hS.F ht⟩) hS.2.2 hd hlk
    | _ => cases (show (none : xR) = some (r, C') from h)
end XW
/-- the contract of a method out of one run of the executor -/
theorem xe_met {M : Nat → xM} {mac : xMac} {CL : List vw_C} {WS : List Cond} {ns : xN} (hV : ∀ k, xOK M CL WS ns k) (hC : xCL CL WS) (hG : ∀ u ∈ WS, goodWord u = true) (l : Launch) (D : va_G) (cI cZ : ClassId) (ρ : Nat → Nat) (hM : xe_MacOK M mac CL WS ns l D cI cZ ρ) {n k : Nat} {C : xC} {vs : List Value} {r : Option Value} {C' : xC} (h : xe M mac n k C 0 (lv_args 0 vs) [] = some (r, C')) (hc : xe_c1 vs = true) (hn : vs.length ≤ xm_n (M k)) (sz : Nat) :
    Met l (xm_y (M k)) (xe_ws WS (M k)) (xe_rm (M k)) (xe_Pc D CL ns cI cZ ρ C (vs.map (xv ρ)) sz) (xe_Q D CL cI cZ ρ (va_A (xw cI cZ ρ C) sz) C.length r C') 0 0 (va_A (xw cI cZ ρ C) sz) := xe_m hV (xe_w hV hC hG l D cI cZ ρ hM n) h hc hn sz
end
section
/-! THE TABLES: the methods that the executor runs -/
abbrev xCLs : List vw_C := [(RX0, TX0, 14), (RX1, TX1, 13), (RX2, TX2, 6), (RX3, TX3, 18), (RX4, TX4, 15), (RX5, TX5, 56)]
def xWS : List Cond := lw_tbl.filter goodWord
def xNS : xN := [("WrittenBench", 9, ⟨"WrittenBench$Program", "<init>", "()V"⟩, "WrittenBench"), ("WrittenBench$Program", 34, ⟨"WrittenBench", "locate", "(II)I"⟩, "WrittenBench"), ("WrittenBench$Program", 30, ⟨"WrittenBench", "isFunction", "(I)Z"⟩, "WrittenBench"), ("WrittenBench$Run", 85, ⟨"WrittenBench", "locate", "(II)I"⟩, "WrittenBench"), ("WrittenBench$Run", 121, ⟨"WrittenBench", "hasBit", "(II)Z"⟩, "WrittenBench"), ("WrittenBench$Run", 151, ⟨"WrittenBench", "withRowCopied", "(IIII)I"⟩, "WrittenBench"), ("WrittenBench$Run", 141, ⟨"WrittenBench", "withBit", "(IIZ)I"⟩, "WrittenBench"), ("WrittenBench$Flow", 73, ⟨"WrittenBench", "locate", "(II)I"⟩, "WrittenBench"), ("WrittenBench$Flow", 136, ⟨"WrittenBench", "rowOf", "(II)I"⟩, "WrittenBench"), ("WrittenBench$Flow", 139, ⟨"WrittenBench", "withRowCopied", "(IIII)I"⟩, "WrittenBench"), ("WrittenBench$Flow", 69, ⟨"WrittenBench", "hasBit", "(II)Z"⟩, "WrittenBench"), ("WrittenBench$Flow", 143, ⟨"WrittenBench", "withBit", "(IIZ)I"⟩, "WrittenBench"), ("WrittenBench$Mender", 53, ⟨"WrittenBench", "hasBit", "(II)Z"⟩, "WrittenBench"), ("WrittenBench$Mender", 122, ⟨"WrittenBench", "withBit", "(IIZ)I"⟩, "WrittenBench")]
theorem xWS_good : ∀ u ∈ xWS, goodWord u = true := fun _ h => (List.mem_filter.mp h).2
def xe_wd (n : Nat) (u : Cond) : Bool := decide (lw_tbl[n]? = some u) && goodWord u
theorem xe_wd_mem {n : Nat} {u : Cond} (h : xe_wd n u = true) : u ∈ xWS := by
  simp only [xe_wd, Bool.and_eq_true, decide_eq_true_eq] at h
  exact List.mem_filter.mpr ⟨List.mem_of_getElem? h.1, h.2⟩
def xe_all2 {α β : Type} (g : α → β → Bool) : List α → List β → Bool
  | [], _ => true
  | _ :: _, [] => false
  | a :: as, n :: ns => g a n && xe_all2 g as ns
theorem xe_all2_mem {α β : Type} {g : α → β → Bool} {as : List α} {ns : List β} (h : xe_all2 g as ns = true) : ∀ a ∈ as, ∃ n, g a n = true := by
  induction as generalizing ns with
  | nil => exact fun _ h => absurd h List.not_mem_nil
  | cons a t ih =>
    cases ns with
    | nil => cases h
    | cons n ns =>
      simp only [xe_all2, Bool.and_eq_true] at h
      intro b hb
      rcases List.mem_cons.mp hb with e | e
      · exact ⟨n, by rw [e]; exact h.1⟩
      · exact ih h.2 b e
def xe_dck (code : ByteArray) : Nat → List (Option (Instr × Nat)) → Bool
  | _, [] => true
  | b, none :: t => xe_dck code (b + 1) t
  | b, some q :: t => decide (decode code b = .ok q) && (xe_okl q.1 q.2 && xe_dck code (b + 1) t)
theorem xe_dck_at {code : ByteArray} {b : Nat} {l : List (Option (Instr × Nat))} (h : xe_dck code b l = true) {p : Nat} {q : Instr × Nat} (hp : l[p]? = some (some q)) : decode code (b + p) = .ok q ∧ xe_okl q.1 q.2 = true := by
  induction l generalizing b p with
  | nil => simp at hp
  | cons a t ih =>
    cases p with
    | zero =>
      simp only [List.getElem?_cons_zero, Option.some.injEq] at hp
      subst hp
      simp only [xe_dck, Bool.and_eq_true, decide_eq_true_eq] at h
      exact ⟨h.1, h.2.1⟩
    | succ p =>
      simp only [List.getElem?_cons_succ] at hp
      have h2 : xe_dck code (b + 1) t = true := by
        cases a with
        | none => exact h
        | some a => simp only [xe_dck, Bool.and_eq_true, decide_eq_true_eq] at h; exact h.2.2
      have h3 := ih h2 hp
      rwa [show b + 1 + p = b + (p + 1) by omega] at h3
def xe_dcs (code : ByteArray) : Nat → List (List (Option (Instr × Nat))) → Prop
  | _, [] => True
  | b, l :: t => xe_dck code (16 * b) l = true ∧ xe_dcs code (b + 1) t
theorem xe_dcs_at {code : ByteArray} {b : Nat} {t : List (List (Option (Instr × Nat)))} (h : xe_dcs code b t) {c : Nat} {l : List (Option (Instr × Nat))} (hc : t[c]? = some l) : xe_dck code (16 * (b + c)) l = true := by
  induction t generalizing b c with
  | nil => simp at hc
  | cons a t ih =>
    cases c with
    | zero =>
      simp only [List.getElem?_cons_zero, Option.some.injEq] at hc
      subst hc
      exact h.1
    | succ c =>
      simp only [List.getElem?_cons_succ] at hc
      have h3 := ih h.2 hc
      rwa [show b + 1 + c = b + (c + 1) by omega] at h3
theorem xe_dcs_lk {code : ByteArray} {t : List (List (Option (Instr × Nat)))} (h : xe_dcs code 0 t) (pc : Nat) (i : Instr) (len : Nat) (hl : xe_lk t pc = some (i, len)) : decode code pc = .ok (i, len) ∧ xe_okl i len = true := by
  unfold xe_lk at hl
  split at hl
  · cases hl
  · rename_i l h1
    split at hl
    · cases hl
    · rename_i q h2
      subst hl
      rw [xe_nth_eq] at h1 h2
      have h3 := xe_dck_at (xe_dcs_at h h1) h2
      rwa [show 16 * (0 + pc / 16) + pc % 16 = pc by omega] at h3
def xe_fk (own : String) (q : Nat × Nat × Nat × Nat) (n : Nat) : Bool := match xCLs[q.2.1]? with
  | some (_, T, N) => Nat.blt q.2.2.1 N && (xe_wd n (.fieldLink own q.1 (T q.2.2.1).1 (T q.2.2.1).2.1 (T q.2.2.1).2.2.1) && ((!(Nat.beq q.2.2.2 0) || (!(T q.2.2.1).2.2.2 && decide (parseFieldDescriptor (T q.2.2.1).2.2.1 = some .int))) && (!(Nat.beq q.2.2.2 1) || (!(T q.2.2.1).2.2.2 && decide (parseFieldDescriptor (T q.2.2.1).2.2.1 = some .boolean)))))
  | none => false
theorem xe_fk_of {own : String} {q : Nat × Nat × Nat × Nat} {n : Nat} (h : xe_fk own q n = true) : ∃ (C : String) (T : u_T) (N : Nat), xCLs[q.2.1]? = some (C, T, N) ∧ q.2.2.1 < N ∧ Cond.fieldLink own q.1 (T q.2.2.1).1 (T q.2.2.1).2.1 (T q.2.2.1).2.2.1 ∈ xWS ∧ (q.2.2.2 = 0 → (T q.2.2.1).2.2.2 = false ∧ parseFieldDescriptor (T q.2.2.1).2.2.1 = some .int) ∧ (q.2.2.2 = 1 → (T q.2.2.1).2.2.2 = false ∧ parseFieldDescriptor (T q.2.2.1).2.2.1 = some .boolean) := by
  unfold xe_fk at h
  split at h
  · rename_i C T N hC
    simp only [Bool.and_eq_true] at h
    obtain ⟨h1, h2, h3, h4⟩ := h
    refine ⟨C, T, N, hC, Nat.blt_eq.mp h1, xe_wd_mem h2, fun e => ?_, fun e => ?_⟩
    · rw [e] at h3
      simpa using h3
    · rw [e] at h4
      simpa using h4
  · cases h
def xe_kk (own : String) (q : Nat × Int32) (n : Nat) : Bool := xe_wd n (.constant own q.1 q.2)
def xe_ik (M : Nat → xM) (k : Nat) (q : Nat × Nat × Nat × Nat × Nat) (ns : List Nat) : Bool :=
  (Nat.ble (xm_f (M q.2.1) + 1) (xm_f (M k)) && Nat.ble (8 + (xm_n (M q.2.1) + 11) + xm_l (M q.2.1)) (xm_l (M k))) && ((!(decide ((xm_y (M q.2.1)).cls = "java/lang/invoke/MethodHandle")) && !(decide ((xm_y (M q.2.1)).cls = "java/lang/invoke/VarHandle"))) && (decide ((parseMethodDescriptor (xm_y (M q.2.1)).desc).map (fun d => d.parameters.length) = some q.2.2.1) && match q.2.2.2.1, ns with
    | 0, [a, b, c] => xe_wd a (.methodLink (xm_o (M k)) q.1 (xm_y (M q.2.1))) && (xe_wd b (.instanceMethod (xm_y (M q.2.1))) && (xe_wd c (.selects (xm_y (M q.2.1)).cls (xm_y (M q.2.1)) (xm_y (M q.2.1))) && match xCLs[q.2.2.2.2]? with
      | some (C, _, _) => decide (C = (xm_y (M q.2.1)).cls)
      | none => false))
    | 1, [a, b] => xe_wd a (.methodLink (xm_o (M k)) q.1 (xm_y (M q.2.1))) && xe_wd b (.static (xm_y (M q.2.1)))
    | 2, [b] => xe_wd b (.static (xm_y (M q.2.1))) && xNS.any (fun z => decide (z.1 = xm_o (M k) ∧ z.2.1 = q.1 ∧ z.2.2.1 = xm_y (M q.2.1)))
    | _, _ => false))
theorem xe_ik_of {M : Nat → xM} {k : Nat} {q : Nat × Nat × Nat × Nat × Nat} {ns : List Nat} (h : xe_ik M k q ns = true) : xm_f (M q.2.1) + 1 ≤ xm_f (M k) ∧ 8 + (xm_n (M q.2.1) + 11) + xm_l (M q.2.1) ≤ xm_l (M k) ∧ ((xm_y (M q.2.1)).cls ≠ "java/lang/invoke/MethodHandle" ∧ (xm_y (M q.2.1)).cls ≠ "java/lang/invoke/VarHandle" ∧ (parseMethodDescriptor (xm_y (M q.2.1)).desc).map (fun d => d.parameters.length) = some q.2.2.1) ∧
    (q.2.2.2.1 = 0 → Cond.methodLink (xm_o (M k)) q.1 (xm_y (M q.2.1)) ∈ xWS ∧ Cond.instanceMethod (xm_y (M q.2.1)) ∈ xWS ∧ Cond.selects (xm_y (M q.2.1)).cls (xm_y (M q.2.1)) (xm_y (M q.2.1)) ∈ xWS ∧ ∃ (T : u_T) (N : Nat), xCLs[q.2.2.2.2]? = some ((xm_y (M q.2.1)).cls, T, N)) ∧
    (q.2.2.2.1 = 1 → Cond.methodLink (xm_o (M k)) q.1 (xm_y (M q.2.1)) ∈ xWS ∧ Cond.static (xm_y (M q.2.1)) ∈ xWS) ∧
    (q.2.2.2.1 ≠ 0 → q.2.2.2.1 ≠ 1 → Cond.static (xm_y (M q.2.1)) ∈ xWS ∧ ∃ host : String, (xm_o (M k), q.1, xm_y (M q.2.1), host) ∈ xNS) := by
  unfold xe_ik at h
  simp only [Bool.and_eq_true, Bool.not_eq_true', decide_eq_false_iff_not, decide_eq_true_eq] at h
  obtain ⟨⟨h1, h2⟩, ⟨h3, h4⟩, h5, h6⟩ := h
  refine ⟨Nat.le_of_ble_eq_true h1, Nat.le_of_ble_eq_true h2, ⟨h3, h4, h5⟩, ?_⟩
  split at h6
  · have e : q.2.2.2.1 = 0 := by assumption
    simp only [Bool.and_eq_true] at h6
    obtain ⟨a1, a2, a3, a4⟩ := h6
    refine ⟨fun _ => ⟨xe_wd_mem a1, xe_wd_mem a2, xe_wd_mem a3, ?_⟩, fun g => absurd (e.symm.trans g) (by decide), fun g _ => absurd e g⟩
    split at a4
    · rename_i C T N hC
      exact ⟨T, N, by rw [hC, of_decide_eq_true a4]⟩
    · cases a4
  · have e : q.2.2.2.1 = 1 := by assumption
    simp only [Bool.and_eq_true] at h6
    exact ⟨fun g => absurd (e.symm.trans g) (by decide), fun _ => ⟨xe_wd_mem h6.1, xe_wd_mem h6.2⟩, fun _ g => absurd e g⟩
  · have e : q.2.2.2.1 = 2 := by assumption
    simp only [Bool.and_eq_true, List.any_eq_true, decide_eq_true_eq] at h6
    obtain ⟨a1, z, z1, z2, z3, z4⟩ := h6
    refine ⟨fun g => absurd (e.symm.trans g) (by decide), fun g => absurd (e.symm.trans g) (by decide), fun _ _ => ⟨xe_wd_mem a1, z.2.2.2, ?_⟩⟩
    rw [← z2, ← z3, ← z4]
    exact z1
  · cases h6
theorem xOK_of {M : Nat → xM} {k : Nat} (fi : List Nat) (ki : List Nat) (ii : List (List Nat)) (nc ni : Nat) (h1 : xe_dcs (xm_c (M k)) 0 (xm_t (M k))) (h2 : plainName (xm_y (M k)).cls = true) (h3 : (xm_y (M k)).cls = xm_o (M k)) (h4 : xe_wd nc (.code (xm_y (M k)) (xm_c (M k)) (xm_n (M k)) (xm_r (M k))) = true) (h5 : xe_wd ni (.initialized (xm_y (M k)).cls) = true) (h6 : xe_all2 (xe_fk (xm_o (M k))) (xm_F (M k)) fi = true) (h7 : xe_all2 (xe_kk (xm_o (M k))) (xm_K (M k)) ki = true) (h8 : xe_all2 (xe_ik M k) (xm_I (M k)) ii = true) : xOK M xCLs xWS xNS k :=
  ⟨xe_dcs_lk h1, h2, h3, xe_wd_mem h4, xe_wd_mem h5, fun q hq => (xe_all2_mem h6 q hq).elim fun _ h => xe_fk_of h, fun q hq => (xe_all2_mem h7 q hq).elim fun _ h => xe_wd_mem h, fun q hq => (xe_all2_mem h8 q hq).elim fun _ h => xe_ik_of h⟩
def xt_0_0 : List (Option (Instr × Nat)) := [some (.iload_n 1, 1), some (.invokestatic 79, 3), none, none, some (.ifCond .eq 31, 3), none, none, some (.aload_n 0, 1), some (.getfield 10, 3), none, none, some (.getfield 83, 3), none, none, some (.iload_n 1, 1), some (.iaload, 1)]
def xt_0_1 : List (Option (Instr × Nat)) := [some (.bipush 30, 2), none, some (.if_icmp .ge 17, 3), none, none, some (.iload_n 2, 1), some (.iload_n 3, 1), some (.iload 4, 2), none, some (.iload 5, 2), none, some (.iload 6, 2), none, some (.invokestatic 86, 3), none, none]
def xt_0_2 : List (Option (Instr × Nat)) := [some (.ifCond .ne 5, 3), none, none, some (.iconst (-1), 1), some (.ireturn, 1), some (.aload_n 0, 1), some (.getfield 10, 3), none, none, some (.iload_n 1, 1), some (.aload_n 0, 1), some (.getfield 10, 3), none, none, some (.getfield 83, 3), none]
def xt_0_3 : List (Option (Instr × Nat)) := [none, some (.iload_n 1, 1), some (.iaload, 1), some (.iload_n 2, 1), some (.iload_n 3, 1), some (.iload 4, 2), none, some (.iload 5, 2), none, some (.iload 6, 2), none, some (.invokevirtual 90, 3), none, none, some (.aload_n 0, 1), some (.getfield 10, 3)]
def xt_0_4 : List (Option (Instr × Nat)) := [none, none, some (.getfield 83, 3), none, none, some (.iload_n 1, 1), some (.dup2, 1), some (.iaload, 1), some (.iconst 1, 1), some (.iadd, 1), some (.iastore, 1), some (.aload_n 0, 1), some (.invokevirtual 94, 3), none, none, some (.aload_n 0, 1)]
def xt_0_5 : List (Option (Instr × Nat)) := [some (.getfield 10, 3), none, none, some (.getfield 83, 3), none, none, some (.iload_n 1, 1), some (.iaload, 1), some (.ireturn, 1)]
/-- 0: X4_code -/
def xt_0 : xM := ((yX4_code, cX4_code, 7, some .int, RX4, 3, 65), [xt_0_0, xt_0_1, xt_0_2, xt_0_3, xt_0_4, xt_0_5], [(10, 4, 0, 2), (83, 2, 0, 2)], [(79, 22, 1, 1, 0), (86, 25, 5, 1, 0), (90, 29, 7, 0, 2), (94, 20, 0, 0, 4)], [])
def xt_1_0 : List (Option (Instr × Nat)) := [some (.aload_n 0, 1), some (.getfield 10, 3), none, none, some (.iload_n 1, 1), some (.iload_n 2, 1), some (.invokevirtual 97, 3), none, none, some (.ifCond .eq 18, 3), none, none, some (.iload_n 3, 1), some (.iload 4, 2), none, some (.iload 5, 2)]
def xt_1_1 : List (Option (Instr × Nat)) := [none, some (.iload 6, 2), none, some (.iload 7, 2), none, some (.invokestatic 86, 3), none, none, some (.ifCond .ne 5, 3), none, none, some (.iconst 0, 1), some (.ireturn, 1), some (.aload_n 0, 1), some (.getfield 10, 3), none]
def xt_1_2 : List (Option (Instr × Nat)) := [none, some (.iload_n 1, 1), some (.iload_n 2, 1), some (.iload_n 3, 1), some (.iload 4, 2), none, some (.iload 5, 2), none, some (.iload 6, 2), none, some (.iload 7, 2), none, some (.invokevirtual 90, 3), none, none, some (.aload_n 0, 1)]
def xt_1_3 : List (Option (Instr × Nat)) := [some (.invokevirtual 94, 3), none, none, some (.iconst 1, 1), some (.ireturn, 1)]
/-- 1: X4_change -/
def xt_1 : xM := ((yX4_change, cX4_change, 8, some .boolean, RX4, 3, 65), [xt_1_0, xt_1_1, xt_1_2, xt_1_3], [(10, 4, 0, 2)], [(97, 28, 2, 0, 2), (86, 25, 5, 1, 0), (90, 29, 7, 0, 2), (94, 20, 0, 0, 4)], [])
def xt_2_0 : List (Option (Instr × Nat)) := [some (.iload_n 1, 1), some (.invokestatic 79, 3), none, none, some (.ifCond .ne 5, 3), none, none, some (.iconst (-1), 1), some (.ireturn, 1), some (.aload_n 0, 1), some (.getfield 10, 3), none, none, some (.getfield 83, 3), none, none]
def xt_2_1 : List (Option (Instr × Nat)) := [some (.iload_n 1, 1), some (.iaload, 1), some (.istore_n 2, 1), some (.iload_n 2, 1), some (.ifCond .le 17, 3), none, none, some (.aload_n 0, 1), some (.getfield 10, 3), none, none, some (.getfield 83, 3), none, none, some (.iload_n 1, 1), some (.iconst 0, 1)]
def xt_2_2 : List (Option (Instr × Nat)) := [some (.iastore, 1), some (.aload_n 0, 1), some (.invokevirtual 94, 3), none, none, some (.iload_n 2, 1), some (.ireturn, 1)]
/-- 2: X4_clear -/
def xt_2 : xM := ((yX4_clear, cX4_clear, 3, some .int, RX4, 1, 20), [xt_2_0, xt_2_1, xt_2_2], [(10, 4, 0, 2), (83, 2, 0, 2)], [(79, 22, 1, 1, 0), (94, 20, 0, 0, 4)], [])
def xt_3_0 : List (Option (Instr × Nat)) := [some (.iload_n 1, 1), some (.ifCond .lt 19, 3), none, none, some (.iload_n 1, 1), some (.sipush 255, 3), none, none, some (.if_icmp .gt 12, 3), none, none, some (.aload_n 0, 1), some (.getfield 23, 3), none, none, some (.bipush 16, 2)]
def xt_3_1 : List (Option (Instr × Nat)) := [none, some (.if_icmp .lt 5, 3), none, none, some (.iconst (-1), 1), some (.ireturn, 1), some (.aload_n 0, 1), some (.getfield 20, 3), none, none, some (.aload_n 0, 1), some (.getfield 23, 3), none, none, some (.iload_n 1, 1), some (.iastore, 1)]
def xt_3_2 : List (Option (Instr × Nat)) := [some (.aload_n 0, 1), some (.dup, 1), some (.getfield 23, 3), none, none, some (.iconst 1, 1), some (.iadd, 1), some (.putfield 23, 3), none, none, some (.aload_n 0, 1), some (.getfield 23, 3), none, none, some (.ireturn, 1)]
/-- 3: X4_input -/
def xt_3 : xM := ((yX4_input, cX4_input, 2, some .int, RX4, 0, 0), [xt_3_0, xt_3_1, xt_3_2], [(23, 4, 3, 0), (20, 4, 2, 2)], [], [])
def xt_4_0 : List (Option (Instr × Nat)) := [some (.aload_n 0, 1), some (.getfield 23, 3), none, none, some (.istore_n 1, 1), some (.aload_n 0, 1), some (.iconst 0, 1), some (.putfield 23, 3), none, none, some (.iload_n 1, 1), some (.ireturn, 1)]
/-- 4: X4_empty -/
def xt_4 : xM := ((yX4_empty, cX4_empty, 2, some .int, RX4, 0, 0), [xt_4_0], [(23, 4, 3, 0)], [], [])
def xt_5_0 : List (Option (Instr × Nat)) := [some (.aload_n 0, 1), some (.iconst 1, 1), some (.putfield 36, 3), none, none, some (.aload_n 0, 1), some (.getfield 32, 3), none, none, some (.aload_n 0, 1), some (.getfield 23, 3), none, none, some (.invokevirtual 101, 3), none, none]
def xt_5_1 : List (Option (Instr × Nat)) := [some (.ireturn, 1)]
/-- 5: X4_run -/
def xt_5 : xM := ((yX4_run, cX4_run, 1, some .int, RX4, 3, 65), [xt_5_0, xt_5_1], [(36, 4, 5, 1), (32, 4, 4, 2), (23, 4, 3, 0)], [(101, 30, 1, 0, 3)], [])
def xt_6_0 : List (Option (Instr × Nat)) := [some (.aload_n 0, 1), some (.getfield 36, 3), none, none, some (.ifCond .ne 5, 3), none, none, some (.iconst (-1), 1), some (.ireturn, 1), some (.iload_n 1, 1), some (.tableswitch 125 0 5 #[38, 46, 54, 80, 106, 114], 38), none, none, none, none, none]
def xt_6_1 : List (Option (Instr × Nat)) := [none, none, none, none, none, none, none, none, none, none, none, none, none, none, none, none]
def xt_6_2 : List (Option (Instr × Nat)) := [none, none, none, none, none, none, none, none, none, none, none, none, none, none, none, none]
def xt_6_3 : List (Option (Instr × Nat)) := [some (.aload_n 0, 1), some (.getfield 32, 3), none, none, some (.getfield 105, 3), none, none, some (.ireturn, 1), some (.aload_n 0, 1), some (.getfield 32, 3), none, none, some (.getfield 108, 3), none, none, some (.ireturn, 1)]
def xt_6_4 : List (Option (Instr × Nat)) := [some (.aload_n 0, 1), some (.getfield 32, 3), none, none, some (.getfield 111, 3), none, none, some (.iconst (-1), 1), some (.if_icmp .ne 7, 3), none, none, some (.iconst (-1), 1), some (.goto 13, 3), none, none, some (.aload_n 0, 1)]
def xt_6_5 : List (Option (Instr × Nat)) := [some (.getfield 32, 3), none, none, some (.getfield 111, 3), none, none, some (.invokestatic 114, 3), none, none, some (.ireturn, 1), some (.aload_n 0, 1), some (.getfield 32, 3), none, none, some (.getfield 111, 3), none]
def xt_6_6 : List (Option (Instr × Nat)) := [none, some (.iconst (-1), 1), some (.if_icmp .ne 7, 3), none, none, some (.iconst (-1), 1), some (.goto 13, 3), none, none, some (.aload_n 0, 1), some (.getfield 32, 3), none, none, some (.getfield 111, 3), none, none]
def xt_6_7 : List (Option (Instr × Nat)) := [some (.invokestatic 117, 3), none, none, some (.ireturn, 1), some (.aload_n 0, 1), some (.getfield 32, 3), none, none, some (.getfield 120, 3), none, none, some (.ireturn, 1), some (.aload_n 0, 1), some (.getfield 32, 3), none, none]
def xt_6_8 : List (Option (Instr × Nat)) := [some (.getfield 123, 3), none, none, some (.invokestatic 126, 3), none, none, some (.ireturn, 1), some (.iconst (-1), 1), some (.ireturn, 1)]
/-- 6: X4_ran -/
def xt_6 : xM := ((yX4_ran, cX4_ran, 2, some .int, RX4, 0, 0), [xt_6_0, xt_6_1, xt_6_2, xt_6_3, xt_6_4, xt_6_5, xt_6_6, xt_6_7, xt_6_8], [(36, 4, 5, 1), (32, 4, 4, 2), (105, 3, 10, 0), (108, 3, 11, 0), (111, 3, 12, 0), (120, 3, 13, 0), (123, 3, 9, 0)], [], [])
def xt_7_0 : List (Option (Instr × Nat)) := [some (.aload_n 0, 1), some (.getfield 36, 3), none, none, some (.ifCond .eq 24, 3), none, none, some (.iload_n 1, 1), some (.ifCond .lt 20, 3), none, none, some (.iload_n 1, 1), some (.bipush 40, 2), none, some (.if_icmp .ge 14, 3), none]
def xt_7_1 : List (Option (Instr × Nat)) := [none, some (.iload_n 1, 1), some (.aload_n 0, 1), some (.getfield 32, 3), none, none, some (.getfield 120, 3), none, none, some (.if_icmp .lt 5, 3), none, none, some (.iconst (-1), 1), some (.ireturn, 1), some (.aload_n 0, 1), some (.getfield 32, 3)]
def xt_7_2 : List (Option (Instr × Nat)) := [none, none, some (.getfield 131, 3), none, none, some (.iload_n 1, 1), some (.iaload, 1), some (.ireturn, 1)]
/-- 7: X4_printed -/
def xt_7 : xM := ((yX4_printed, cX4_printed, 2, some .int, RX4, 0, 0), [xt_7_0, xt_7_1, xt_7_2], [(36, 4, 5, 1), (32, 4, 4, 2), (120, 3, 13, 0), (131, 3, 14, 2)], [], [])
def xt_8_0 : List (Option (Instr × Nat)) := [some (.aload_n 0, 1), some (.getfield 36, 3), none, none, some (.ifCond .eq 10, 3), none, none, some (.iload_n 1, 1), some (.invokestatic 134, 3), none, none, some (.ifCond .ne 5, 3), none, none, some (.iconst (-1), 1), some (.ireturn, 1)]
def xt_8_1 : List (Option (Instr × Nat)) := [some (.iload_n 2, 1), some (.lookupswitch 57 #[(0, 27), (1, 37)], 27), none, none, none, none, none, none, none, none, none, none, none, none, none, none]
def xt_8_2 : List (Option (Instr × Nat)) := [none, none, none, none, none, none, none, none, none, none, none, none, some (.aload_n 0, 1), some (.getfield 32, 3), none, none]
def xt_8_3 : List (Option (Instr × Nat)) := [some (.getfield 137, 3), none, none, some (.iload_n 1, 1), some (.iaload, 1), some (.ireturn, 1), some (.aload_n 0, 1), some (.getfield 32, 3), none, none, some (.getfield 123, 3), none, none, some (.iload_n 1, 1), some (.invokestatic 140, 3), none]
def xt_8_4 : List (Option (Instr × Nat)) := [none, some (.ifCond .eq 7, 3), none, none, some (.iconst 1, 1), some (.goto 4, 3), none, none, some (.iconst 0, 1), some (.ireturn, 1), some (.iconst (-1), 1), some (.ireturn, 1)]
/-- 8: X4_cell -/
def xt_8 : xM := ((yX4_cell, cX4_cell, 3, some .int, RX4, 1, 21), [xt_8_0, xt_8_1, xt_8_2, xt_8_3, xt_8_4], [(36, 4, 5, 1), (32, 4, 4, 2), (137, 3, 8, 2), (123, 3, 9, 0)], [(134, 23, 1, 1, 0), (140, 27, 2, 1, 0)], [])
def xt_9_0 : List (Option (Instr × Nat)) := [some (.aload_n 0, 1), some (.invokevirtual 143, 3), none, none, some (.aload_n 0, 1), some (.getfield 54, 3), none, none, some (.invokevirtual 146, 3), none, none, some (.ireturn, 1)]
/-- 9: X4_flow -/
def xt_9 : xM := ((yX4_flow, cX4_flow, 1, some .int, RX4, 5, 122), [xt_9_0], [(54, 4, 9, 2)], [(143, 21, 0, 0, 4), (146, 36, 0, 0, 0)], [])
def xt_10_0 : List (Option (Instr × Nat)) := [some (.aload_n 0, 1), some (.invokevirtual 143, 3), none, none, some (.aload_n 0, 1), some (.getfield 54, 3), none, none, some (.iload_n 1, 1), some (.invokevirtual 149, 3), none, none, some (.istore_n 3, 1), some (.iload_n 3, 1), some (.iconst (-1), 1), some (.if_icmp .ne 5, 3)]
def xt_10_1 : List (Option (Instr × Nat)) := [none, none, some (.iconst (-1), 1), some (.ireturn, 1), some (.iload_n 2, 1), some (.tableswitch 66 0 3 #[31, 36, 41, 50], 31), none, none, none, none, none, none, none, none, none, none]
def xt_10_2 : List (Option (Instr × Nat)) := [none, none, none, none, none, none, none, none, none, none, none, none, none, none, none, none]
def xt_10_3 : List (Option (Instr × Nat)) := [none, none, none, none, some (.iload_n 3, 1), some (.invokestatic 114, 3), none, none, some (.ireturn, 1), some (.iload_n 3, 1), some (.invokestatic 117, 3), none, none, some (.ireturn, 1), some (.aload_n 0, 1), some (.getfield 10, 3)]
def xt_10_4 : List (Option (Instr × Nat)) := [none, none, some (.iload_n 3, 1), some (.invokevirtual 152, 3), none, none, some (.ireturn, 1), some (.aload_n 0, 1), some (.getfield 54, 3), none, none, some (.iload_n 3, 1), some (.invokestatic 114, 3), none, none, some (.iload_n 3, 1)]
def xt_10_5 : List (Option (Instr × Nat)) := [some (.invokestatic 117, 3), none, none, some (.invokevirtual 155, 3), none, none, some (.ireturn, 1), some (.iconst (-1), 1), some (.ireturn, 1)]
/-- 10: X4_bad -/
def xt_10 : xM := ((yX4_bad, cX4_bad, 4, some .int, RX4, 5, 122), [xt_10_0, xt_10_1, xt_10_2, xt_10_3, xt_10_4, xt_10_5], [(54, 4, 9, 2), (10, 4, 0, 2)], [(143, 21, 0, 0, 4), (149, 37, 1, 0, 0)], [])
def xt_11_0 : List (Option (Instr × Nat)) := [some (.iload_n 1, 1), some (.invokestatic 79, 3), none, none, some (.ifCond .eq 27, 3), none, none, some (.iload_n 2, 1), some (.ifCond .lt 23, 3), none, none, some (.iload_n 2, 1), some (.aload_n 0, 1), some (.getfield 10, 3), none, none]
def xt_11_1 : List (Option (Instr × Nat)) := [some (.getfield 83, 3), none, none, some (.iload_n 1, 1), some (.iaload, 1), some (.if_icmp .gt 10, 3), none, none, some (.iload_n 3, 1), some (.invokestatic 134, 3), none, none, some (.ifCond .ne 5, 3), none, none, some (.iconst (-1), 1)]
def xt_11_2 : List (Option (Instr × Nat)) := [some (.ireturn, 1), some (.aload_n 0, 1), some (.invokevirtual 143, 3), none, none, some (.aload_n 0, 1), some (.getfield 54, 3), none, none, some (.iload_n 1, 1), some (.iload_n 2, 1), some (.iload_n 3, 1), some (.invokevirtual 159, 3), none, none, some (.ireturn, 1)]
/-- 11: X4_state -/
def xt_11 : xM := ((yX4_state, cX4_state, 4, some .int, RX4, 5, 122), [xt_11_0, xt_11_1, xt_11_2], [(10, 4, 0, 2), (83, 2, 0, 2), (54, 4, 9, 2)], [(79, 22, 1, 1, 0), (134, 23, 1, 1, 0), (143, 21, 0, 0, 4), (159, 35, 3, 0, 0)], [])
def xt_12_0 : List (Option (Instr × Nat)) := [some (.aload_n 0, 1), some (.getfield 10, 3), none, none, some (.iload_n 1, 1), some (.iload_n 2, 1), some (.invokevirtual 97, 3), none, none, some (.ifCond .eq 14, 3), none, none, some (.iload_n 3, 1), some (.iconst 1, 1), some (.if_icmp .lt 9, 3), none]
def xt_12_1 : List (Option (Instr × Nat)) := [none, some (.iload_n 3, 1), some (.bipush 10, 2), none, some (.if_icmp .le 6, 3), none, none, some (.bipush (-2), 2), none, some (.ireturn, 1), some (.aload_n 0, 1), some (.invokevirtual 143, 3), none, none, some (.aload_n 0, 1), some (.getfield 54, 3)]
def xt_12_2 : List (Option (Instr × Nat)) := [none, none, some (.iload_n 1, 1), some (.iload_n 2, 1), some (.invokevirtual 155, 3), none, none, some (.ifCond .ne 7, 3), none, none, some (.iconst (-1), 1), some (.goto 13, 3), none, none, some (.aload_n 0, 1), some (.iload_n 1, 1)]
def xt_12_3 : List (Option (Instr × Nat)) := [some (.iload_n 2, 1), some (.invokestatic 163, 3), none, none, some (.iload_n 3, 1), some (.invokevirtual 166, 3), none, none, some (.ireturn, 1)]
/-- 12: X4_witness -/
def xt_12 : xM := ((yX4_witness, cX4_witness, 4, some .int, RX4, 5, 122), [xt_12_0, xt_12_1, xt_12_2, xt_12_3], [(10, 4, 0, 2), (54, 4, 9, 2)], [(97, 28, 2, 0, 2), (143, 21, 0, 0, 4), (163, 26, 2, 1, 0)], [])
def xt_13_0 : List (Option (Instr × Nat)) := [some (.iload_n 1, 1), some (.invokestatic 79, 3), none, none, some (.ifCond .ne 5, 3), none, none, some (.iconst (-1), 1), some (.ireturn, 1), some (.aload_n 0, 1), some (.getfield 61, 3), none, none, some (.invokevirtual 169, 3), none, none]
def xt_13_1 : List (Option (Instr × Nat)) := [some (.aload_n 0, 1), some (.getfield 61, 3), none, none, some (.iload_n 1, 1), some (.iconst 0, 1), some (.invokevirtual 172, 3), none, none, some (.aload_n 0, 1), some (.getfield 61, 3), none, none, some (.aload_n 0, 1), some (.getfield 64, 3), none]
def xt_13_2 : List (Option (Instr × Nat)) := [none, some (.invokevirtual 176, 3), none, none, some (.iconst 0, 1), some (.istore_n 2, 1), some (.iconst 0, 1), some (.istore_n 3, 1), some (.iload_n 3, 1), some (.bipush 16, 2), none, some (.if_icmp .ge 40, 3), none, none, some (.aload_n 0, 1), some (.getfield 61, 3)]
def xt_13_3 : List (Option (Instr × Nat)) := [none, none, some (.iload_n 1, 1), some (.iconst 1, 1), some (.iload_n 3, 1), some (.ishl, 1), some (.invokevirtual 172, 3), none, none, some (.aload_n 0, 1), some (.getfield 61, 3), none, none, some (.aload_n 0, 1), some (.getfield 64, 3), none]
def xt_13_4 : List (Option (Instr × Nat)) := [none, some (.invokevirtual 180, 3), none, none, some (.ifCond .ne 9, 3), none, none, some (.iload_n 2, 1), some (.iconst 1, 1), some (.iload_n 3, 1), some (.ishl, 1), some (.ior, 1), some (.istore_n 2, 1), some (.iinc 3 1, 3), none, none]
def xt_13_5 : List (Option (Instr × Nat)) := [some (.goto (-40), 3), none, none, some (.iload_n 2, 1), some (.ireturn, 1)]
/-- 13: X4_needs -/
def xt_13 : xM := ((yX4_needs, cX4_needs, 4, some .int, RX4, 4, 102), [xt_13_0, xt_13_1, xt_13_2, xt_13_3, xt_13_4, xt_13_5], [(61, 4, 11, 2), (64, 4, 12, 2)], [(79, 22, 1, 1, 0), (169, 32, 0, 0, 0), (172, 34, 2, 0, 0), (176, 38, 1, 0, 0), (180, 39, 1, 0, 0)], [])
def xt_14_0 : List (Option (Instr × Nat)) := [some (.iload_n 1, 1), some (.invokestatic 79, 3), none, none, some (.ifCond .ne 5, 3), none, none, some (.iconst (-1), 1), some (.ireturn, 1), some (.aload_n 0, 1), some (.getfield 61, 3), none, none, some (.invokevirtual 169, 3), none, none]
def xt_14_1 : List (Option (Instr × Nat)) := [some (.aload_n 0, 1), some (.getfield 61, 3), none, none, some (.iload_n 1, 1), some (.ldc 184, 2), none, some (.invokevirtual 172, 3), none, none, some (.aload_n 0, 1), some (.getfield 61, 3), none, none, some (.getfield 185, 3), none]
def xt_14_2 : List (Option (Instr × Nat)) := [none, some (.iload_n 1, 1), some (.iaload, 1), some (.aload_n 0, 1), some (.getfield 61, 3), none, none, some (.getfield 188, 3), none, none, some (.iload_n 1, 1), some (.iaload, 1), some (.iconst (-1), 1), some (.ixor, 1), some (.iand, 1), some (.ireturn, 1)]
/-- 14: X4_writes -/
def xt_14 : xM := ((yX4_writes, cX4_writes, 2, some .int, RX4, 4, 102), [xt_14_0, xt_14_1, xt_14_2], [(61, 4, 11, 2), (185, 0, 9, 2), (188, 0, 10, 2)], [(79, 22, 1, 1, 0), (169, 32, 0, 0, 0), (172, 34, 2, 0, 0)], [(184, 65535)])
def xt_15_0 : List (Option (Instr × Nat)) := [some (.iload_n 1, 1), some (.invokestatic 79, 3), none, none, some (.ifCond .eq 14, 3), none, none, some (.iload_n 2, 1), some (.iconst 1, 1), some (.if_icmp .lt 9, 3), none, none, some (.iload_n 2, 1), some (.bipush 99, 2), none, some (.if_icmp .le 5, 3)]
def xt_15_1 : List (Option (Instr × Nat)) := [none, none, some (.iconst (-1), 1), some (.ireturn, 1), some (.aload_n 0, 1), some (.getfield 16, 3), none, none, some (.iload_n 1, 1), some (.iaload, 1), some (.istore_n 3, 1), some (.aload_n 0, 1), some (.getfield 16, 3), none, none, some (.iload_n 1, 1)]
def xt_15_2 : List (Option (Instr × Nat)) := [some (.iload_n 2, 1), some (.iastore, 1), some (.iload_n 3, 1), some (.ireturn, 1)]
/-- 15: X4_cost -/
def xt_15 : xM := ((yX4_cost, cX4_cost, 4, some .int, RX4, 1, 20), [xt_15_0, xt_15_1, xt_15_2], [(16, 4, 1, 2)], [(79, 22, 1, 1, 0)], [])
def xt_16_0 : List (Option (Instr × Nat)) := [some (.aload_n 0, 1), some (.invokevirtual 143, 3), none, none, some (.aload_n 0, 1), some (.getfield 72, 3), none, none, some (.invokevirtual 191, 3), none, none, some (.ifCond .ne 6, 3), none, none, some (.bipush (-2), 2), none]
def xt_16_1 : List (Option (Instr × Nat)) := [some (.ireturn, 1), some (.aload_n 0, 1), some (.getfield 72, 3), none, none, some (.aload_n 0, 1), some (.getfield 16, 3), none, none, some (.invokevirtual 195, 3), none, none, some (.istore_n 1, 1), some (.iload_n 1, 1), some (.iconst (-1), 1), some (.if_icmp .eq 8, 3)]
def xt_16_2 : List (Option (Instr × Nat)) := [none, none, some (.aload_n 0, 1), some (.iconst 1, 1), some (.putfield 76, 3), none, none, some (.iload_n 1, 1), some (.ireturn, 1)]
/-- 16: X4_mend -/
def xt_16 : xM := ((yX4_mend, cX4_mend, 2, some .int, RX4, 6, 147), [xt_16_0, xt_16_1, xt_16_2], [(72, 4, 13, 2), (16, 4, 1, 2), (76, 4, 14, 1)], [(143, 21, 0, 0, 4), (191, 45, 0, 0, 1), (195, 46, 1, 0, 1)], [])
def xt_17_0 : List (Option (Instr × Nat)) := [some (.iload_n 1, 1), some (.ifCond .lt 14, 3), none, none, some (.iload_n 1, 1), some (.aload_n 0, 1), some (.getfield 72, 3), none, none, some (.getfield 199, 3), none, none, some (.if_icmp .lt 5, 3), none, none, some (.iconst (-1), 1)]
def xt_17_1 : List (Option (Instr × Nat)) := [some (.ireturn, 1), some (.iload_n 2, 1), some (.lookupswitch 46 #[(0, 26), (1, 36)], 26), none, none, none, none, none, none, none, none, none, none, none, none, none]
def xt_17_2 : List (Option (Instr × Nat)) := [none, none, none, none, none, none, none, none, none, none, none, none, some (.aload_n 0, 1), some (.getfield 72, 3), none, none]
def xt_17_3 : List (Option (Instr × Nat)) := [some (.getfield 202, 3), none, none, some (.iload_n 1, 1), some (.iaload, 1), some (.ireturn, 1), some (.aload_n 0, 1), some (.getfield 72, 3), none, none, some (.getfield 205, 3), none, none, some (.iload_n 1, 1), some (.iaload, 1), some (.ireturn, 1)]
def xt_17_4 : List (Option (Instr × Nat)) := [some (.iconst (-1), 1), some (.ireturn, 1)]
/-- 17: X4_mended -/
def xt_17 : xM := ((yX4_mended, cX4_mended, 3, some .int, RX4, 0, 0), [xt_17_0, xt_17_1, xt_17_2, xt_17_3, xt_17_4], [(72, 4, 13, 2), (199, 1, 12, 0), (202, 1, 10, 2), (205, 1, 11, 2)], [], [])
def xt_18_0 : List (Option (Instr × Nat)) := [some (.aload_n 0, 1), some (.getfield 76, 3), none, none, some (.ifCond .eq 13, 3), none, none, some (.aload_n 0, 1), some (.getfield 72, 3), none, none, some (.invokevirtual 208, 3), none, none, some (.ifCond .ne 5, 3), none]
def xt_18_1 : List (Option (Instr × Nat)) := [none, some (.iconst 0, 1), some (.ireturn, 1), some (.aload_n 0, 1), some (.getfield 72, 3), none, none, some (.invokevirtual 211, 3), none, none, some (.aload_n 0, 1), some (.invokevirtual 94, 3), none, none, some (.iconst 1, 1), some (.ireturn, 1)]
/-- 18: X4_apply -/
def xt_18 : xM := ((yX4_apply, cX4_apply, 1, some .boolean, RX4, 1, 20), [xt_18_0, xt_18_1], [(76, 4, 14, 1), (72, 4, 13, 2)], [(94, 20, 0, 0, 4)], [])
def xt_19_0 : List (Option (Instr × Nat)) := [some (.iload_n 1, 1), some (.ifCond .ne 8, 3), none, none, some (.aload_n 0, 1), some (.getfield 23, 3), none, none, some (.ireturn, 1), some (.iload_n 1, 1), some (.bipush 10, 2), none, some (.if_icmp .lt 22, 3), none, none, some (.iload_n 1, 1)]
def xt_19_1 : List (Option (Instr × Nat)) := [some (.bipush 16, 2), none, some (.if_icmp .ge 16, 3), none, none, some (.aload_n 0, 1), some (.getfield 10, 3), none, none, some (.getfield 83, 3), none, none, some (.iload_n 1, 1), some (.bipush 10, 2), none, some (.isub, 1)]
def xt_19_2 : List (Option (Instr × Nat)) := [some (.iaload, 1), some (.ireturn, 1), some (.iload_n 1, 1), some (.bipush 20, 2), none, some (.if_icmp .lt 19, 3), none, none, some (.iload_n 1, 1), some (.bipush 26, 2), none, some (.if_icmp .ge 13, 3), none, none, some (.aload_n 0, 1), some (.getfield 16, 3)]
def xt_19_3 : List (Option (Instr × Nat)) := [none, none, some (.iload_n 1, 1), some (.bipush 20, 2), none, some (.isub, 1), some (.iaload, 1), some (.ireturn, 1), some (.iconst (-1), 1), some (.ireturn, 1)]
/-- 19: X4_count -/
def xt_19 : xM := ((yX4_count, cX4_count, 2, some .int, RX4, 0, 0), [xt_19_0, xt_19_1, xt_19_2, xt_19_3], [(23, 4, 3, 0), (10, 4, 0, 2), (83, 2, 0, 2), (16, 4, 1, 2)], [], [])
def xt_20_0 : List (Option (Instr × Nat)) := [some (.aload_n 0, 1), some (.iconst 0, 1), some (.putfield 58, 3), none, none, some (.aload_n 0, 1), some (.iconst 0, 1), some (.putfield 76, 3), none, none, some (.return_, 1)]
/-- 20: X4_programIsAnother -/
def xt_20 : xM := ((yX4_programIsAnother, cX4_programIsAnother, 1, none, RX4, 0, 0), [xt_20_0], [(58, 4, 10, 1), (76, 4, 14, 1)], [], [])
def xt_21_0 : List (Option (Instr × Nat)) := [some (.aload_n 0, 1), some (.getfield 58, 3), none, none, some (.ifCond .ne 18, 3), none, none, some (.aload_n 0, 1), some (.getfield 54, 3), none, none, some (.iconst 0, 1), some (.ldc 184, 2), none, some (.invokevirtual 172, 3), none]
def xt_21_1 : List (Option (Instr × Nat)) := [none, some (.aload_n 0, 1), some (.iconst 1, 1), some (.putfield 58, 3), none, none, some (.return_, 1)]
/-- 21: X4_freshen -/
def xt_21 : xM := ((yX4_freshen, cX4_freshen, 1, none, RX4, 4, 102), [xt_21_0, xt_21_1], [(58, 4, 10, 1), (54, 4, 9, 2)], [(172, 34, 2, 0, 0)], [(184, 65535)])
def xt_22_0 : List (Option (Instr × Nat)) := [some (.iload_n 0, 1), some (.ifCond .lt 13, 3), none, none, some (.iload_n 0, 1), some (.bipush 6, 2), none, some (.if_icmp .ge 7, 3), none, none, some (.iconst 1, 1), some (.goto 4, 3), none, none, some (.iconst 0, 1), some (.ireturn, 1)]
/-- 22: X4_isFunction -/
def xt_22 : xM := ((yX4_isFunction, cX4_isFunction, 1, some .boolean, RX4, 0, 0), [xt_22_0], [], [], [])
def xt_23_0 : List (Option (Instr × Nat)) := [some (.iload_n 0, 1), some (.ifCond .lt 13, 3), none, none, some (.iload_n 0, 1), some (.bipush 16, 2), none, some (.if_icmp .ge 7, 3), none, none, some (.iconst 1, 1), some (.goto 4, 3), none, none, some (.iconst 0, 1), some (.ireturn, 1)]
/-- 23: X4_isCell -/
def xt_23 : xM := ((yX4_isCell, cX4_isCell, 1, some .boolean, RX4, 0, 0), [xt_23_0], [], [], [])
def xt_24_0 : List (Option (Instr × Nat)) := [some (.iload_n 0, 1), some (.invokestatic 134, 3), none, none, some (.ifCond .eq 26, 3), none, none, some (.iload_n 1, 1), some (.iconst 1, 1), some (.if_icmp .lt 21, 3), none, none, some (.iload_n 1, 1), some (.bipush 8, 2), none, some (.if_icmp .gt 15, 3)]
def xt_24_1 : List (Option (Instr × Nat)) := [none, none, some (.iload_n 0, 1), some (.iload_n 1, 1), some (.iadd, 1), some (.bipush 16, 2), none, some (.if_icmp .gt 7, 3), none, none, some (.iconst 1, 1), some (.goto 4, 3), none, none, some (.iconst 0, 1), some (.ireturn, 1)]
/-- 24: X4_isRow -/
def xt_24 : xM := ((yX4_isRow, cX4_isRow, 2, some .boolean, RX4, 1, 20), [xt_24_0, xt_24_1], [], [(134, 23, 1, 1, 0)], [])
def xt_25_0 : List (Option (Instr × Nat)) := [some (.iload_n 0, 1), some (.tableswitch 342 0 11 #[63, 96, 123, 152, 152, 178, 212, 241, 270, 296, 319, 319], 63), none, none, none, none, none, none, none, none, none, none, none, none, none, none]
def xt_25_1 : List (Option (Instr × Nat)) := [none, none, none, none, none, none, none, none, none, none, none, none, none, none, none, none]
def xt_25_2 : List (Option (Instr × Nat)) := [none, none, none, none, none, none, none, none, none, none, none, none, none, none, none, none]
def xt_25_3 : List (Option (Instr × Nat)) := [none, none, none, none, none, none, none, none, none, none, none, none, none, none, none, none]
def xt_25_4 : List (Option (Instr × Nat)) := [some (.iload_n 1, 1), some (.invokestatic 134, 3), none, none, some (.ifCond .eq 27, 3), none, none, some (.iload_n 2, 1), some (.ifCond .lt 23, 3), none, none, some (.iload_n 2, 1), some (.sipush 255, 3), none, none, some (.if_icmp .gt 16, 3)]
def xt_25_5 : List (Option (Instr × Nat)) := [none, none, some (.iload_n 3, 1), some (.ifCond .ne 12, 3), none, none, some (.iload 4, 2), none, some (.ifCond .ne 7, 3), none, none, some (.iconst 1, 1), some (.goto 4, 3), none, none, some (.iconst 0, 1)]
def xt_25_6 : List (Option (Instr × Nat)) := [some (.ireturn, 1), some (.iload_n 1, 1), some (.iload_n 3, 1), some (.invokestatic 226, 3), none, none, some (.ifCond .eq 20, 3), none, none, some (.iload_n 2, 1), some (.iload_n 3, 1), some (.invokestatic 226, 3), none, none, some (.ifCond .eq 12, 3), none]
def xt_25_7 : List (Option (Instr × Nat)) := [none, some (.iload 4, 2), none, some (.ifCond .ne 7, 3), none, none, some (.iconst 1, 1), some (.goto 4, 3), none, none, some (.iconst 0, 1), some (.ireturn, 1), some (.iload_n 1, 1), some (.invokestatic 134, 3), none, none]
def xt_25_8 : List (Option (Instr × Nat)) := [some (.ifCond .eq 23, 3), none, none, some (.iload_n 2, 1), some (.invokestatic 134, 3), none, none, some (.ifCond .eq 16, 3), none, none, some (.iload_n 3, 1), some (.ifCond .ne 12, 3), none, none, some (.iload 4, 2), none]
def xt_25_9 : List (Option (Instr × Nat)) := [some (.ifCond .ne 7, 3), none, none, some (.iconst 1, 1), some (.goto 4, 3), none, none, some (.iconst 0, 1), some (.ireturn, 1), some (.iload_n 1, 1), some (.invokestatic 134, 3), none, none, some (.ifCond .eq 20, 3), none, none]
def xt_25_10 : List (Option (Instr × Nat)) := [some (.iload_n 2, 1), some (.ifCond .ne 16, 3), none, none, some (.iload_n 3, 1), some (.ifCond .ne 12, 3), none, none, some (.iload 4, 2), none, some (.ifCond .ne 7, 3), none, none, some (.iconst 1, 1), some (.goto 4, 3), none]
def xt_25_11 : List (Option (Instr × Nat)) := [none, some (.iconst 0, 1), some (.ireturn, 1), some (.iload_n 1, 1), some (.invokestatic 134, 3), none, none, some (.ifCond .eq 28, 3), none, none, some (.iload_n 2, 1), some (.bipush (-30), 2), none, some (.if_icmp .lt 22, 3), none, none]
def xt_25_12 : List (Option (Instr × Nat)) := [some (.iload_n 2, 1), some (.bipush 30, 2), none, some (.if_icmp .gt 16, 3), none, none, some (.iload_n 3, 1), some (.ifCond .ne 12, 3), none, none, some (.iload 4, 2), none, some (.ifCond .ne 7, 3), none, none, some (.iconst 1, 1)]
def xt_25_13 : List (Option (Instr × Nat)) := [some (.goto 4, 3), none, none, some (.iconst 0, 1), some (.ireturn, 1), some (.iload_n 1, 1), some (.iload_n 2, 1), some (.invokestatic 226, 3), none, none, some (.ifCond .eq 22, 3), none, none, some (.iload_n 3, 1), some (.invokestatic 134, 3), none]
def xt_25_14 : List (Option (Instr × Nat)) := [none, some (.ifCond .eq 15, 3), none, none, some (.iload 4, 2), none, some (.invokestatic 134, 3), none, none, some (.ifCond .eq 7, 3), none, none, some (.iconst 1, 1), some (.goto 4, 3), none, none]
def xt_25_15 : List (Option (Instr × Nat)) := [some (.iconst 0, 1), some (.ireturn, 1), some (.iload_n 1, 1), some (.invokestatic 134, 3), none, none, some (.ifCond .eq 23, 3), none, none, some (.iload_n 2, 1), some (.iload_n 3, 1), some (.invokestatic 226, 3), none, none, some (.ifCond .eq 15, 3), none]
def xt_25_16 : List (Option (Instr × Nat)) := [none, some (.iload 4, 2), none, some (.invokestatic 134, 3), none, none, some (.ifCond .eq 7, 3), none, none, some (.iconst 1, 1), some (.goto 4, 3), none, none, some (.iconst 0, 1), some (.ireturn, 1), some (.iload_n 1, 1)]
def xt_25_17 : List (Option (Instr × Nat)) := [some (.invokestatic 79, 3), none, none, some (.ifCond .eq 20, 3), none, none, some (.iload_n 2, 1), some (.ifCond .ne 16, 3), none, none, some (.iload_n 3, 1), some (.ifCond .ne 12, 3), none, none, some (.iload 4, 2), none]
def xt_25_18 : List (Option (Instr × Nat)) := [some (.ifCond .ne 7, 3), none, none, some (.iconst 1, 1), some (.goto 4, 3), none, none, some (.iconst 0, 1), some (.ireturn, 1), some (.iload_n 1, 1), some (.ifCond .ne 20, 3), none, none, some (.iload_n 2, 1), some (.ifCond .ne 16, 3), none]
def xt_25_19 : List (Option (Instr × Nat)) := [none, some (.iload_n 3, 1), some (.ifCond .ne 12, 3), none, none, some (.iload 4, 2), none, some (.ifCond .ne 7, 3), none, none, some (.iconst 1, 1), some (.goto 4, 3), none, none, some (.iconst 0, 1), some (.ireturn, 1)]
def xt_25_20 : List (Option (Instr × Nat)) := [some (.iload_n 1, 1), some (.iload_n 2, 1), some (.invokestatic 226, 3), none, none, some (.ifCond .eq 16, 3), none, none, some (.iload_n 3, 1), some (.ifCond .ne 12, 3), none, none, some (.iload 4, 2), none, some (.ifCond .ne 7, 3), none]
def xt_25_21 : List (Option (Instr × Nat)) := [none, some (.iconst 1, 1), some (.goto 4, 3), none, none, some (.iconst 0, 1), some (.ireturn, 1), some (.iconst 0, 1), some (.ireturn, 1)]
/-- 25: X4_isAsTold -/
def xt_25 : xM := ((yX4_isAsTold, cX4_isAsTold, 5, some .boolean, RX4, 2, 41), [xt_25_0, xt_25_1, xt_25_2, xt_25_3, xt_25_4, xt_25_5, xt_25_6, xt_25_7, xt_25_8, xt_25_9, xt_25_10, xt_25_11, xt_25_12, xt_25_13, xt_25_14, xt_25_15, xt_25_16, xt_25_17, xt_25_18, xt_25_19, xt_25_20, xt_25_21], [], [(134, 23, 1, 1, 0), (226, 24, 2, 1, 0), (79, 22, 1, 1, 0)], [])
def xt_26_0 : List (Option (Instr × Nat)) := [some (.iload_n 0, 1), some (.bipush 30, 2), none, some (.imul, 1), some (.iload_n 1, 1), some (.iadd, 1), some (.ireturn, 1)]
/-- 26: X4_locate -/
def xt_26 : xM := ((yX4_locate, cX4_locate, 2, some .int, RX4, 0, 0), [xt_26_0], [], [], [])
def xt_27_0 : List (Option (Instr × Nat)) := [some (.iload_n 0, 1), some (.iload_n 1, 1), some (.iushr, 1), some (.iconst 1, 1), some (.iand, 1), some (.ifCond .eq 7, 3), none, none, some (.iconst 1, 1), some (.goto 4, 3), none, none, some (.iconst 0, 1), some (.ireturn, 1)]
/-- 27: X4_hasBit -/
def xt_27 : xM := ((yX4_hasBit, cX4_hasBit, 2, some .boolean, RX4, 0, 0), [xt_27_0], [], [], [])
def xt_28_0 : List (Option (Instr × Nat)) := [some (.iload_n 1, 1), some (.invokestatic 30, 3), none, none, some (.ifCond .eq 21, 3), none, none, some (.iload_n 2, 1), some (.ifCond .lt 17, 3), none, none, some (.iload_n 2, 1), some (.aload_n 0, 1), some (.getfield 9, 3), none, none]
def xt_28_1 : List (Option (Instr × Nat)) := [some (.iload_n 1, 1), some (.iaload, 1), some (.if_icmp .ge 7, 3), none, none, some (.iconst 1, 1), some (.goto 4, 3), none, none, some (.iconst 0, 1), some (.ireturn, 1)]
/-- 28: X2_has -/
def xt_28 : xM := ((yX2_has, cX2_has, 3, some .boolean, RX2, 1, 20), [xt_28_0, xt_28_1], [(9, 2, 0, 2)], [(30, 22, 1, 2, 0)], [])
def xt_29_0 : List (Option (Instr × Nat)) := [some (.iload_n 1, 1), some (.iload_n 2, 1), some (.invokestatic 34, 3), none, none, some (.istore 8, 2), none, some (.aload_n 0, 1), some (.getfield 15, 3), none, none, some (.iload 8, 2), none, some (.iload_n 3, 1), some (.iastore, 1), some (.aload_n 0, 1)]
def xt_29_1 : List (Option (Instr × Nat)) := [some (.getfield 18, 3), none, none, some (.iload 8, 2), none, some (.iload 4, 2), none, some (.iastore, 1), some (.aload_n 0, 1), some (.getfield 21, 3), none, none, some (.iload 8, 2), none, some (.iload 5, 2), none]
def xt_29_2 : List (Option (Instr × Nat)) := [some (.iastore, 1), some (.aload_n 0, 1), some (.getfield 24, 3), none, none, some (.iload 8, 2), none, some (.iload 6, 2), none, some (.iastore, 1), some (.aload_n 0, 1), some (.getfield 27, 3), none, none, some (.iload 8, 2), none]
def xt_29_3 : List (Option (Instr × Nat)) := [some (.iload 7, 2), none, some (.iastore, 1), some (.return_, 1)]
/-- 29: X2_put -/
def xt_29 : xM := ((yX2_put, cX2_put, 9, none, RX2, 1, 21), [xt_29_0, xt_29_1, xt_29_2, xt_29_3], [(15, 2, 1, 2), (18, 2, 2, 2), (21, 2, 3, 2), (24, 2, 4, 2), (27, 2, 5, 2)], [(34, 26, 2, 2, 0)], [])
def xt_30_0 : List (Option (Instr × Nat)) := [some (.aload_n 0, 1), some (.iload_n 1, 1), some (.putfield 35, 3), none, none, some (.aload_n 0, 1), some (.invokevirtual 38, 3), none, none, some (.iconst 0, 1), some (.istore_n 2, 1), some (.iload_n 2, 1), some (.sipush 3000, 3), none, none, some (.if_icmp .ge 80, 3)]
def xt_30_1 : List (Option (Instr × Nat)) := [none, none, some (.aload_n 0, 1), some (.getfield 28, 3), none, none, some (.aload_n 0, 1), some (.getfield 41, 3), none, none, some (.aload_n 0, 1), some (.getfield 44, 3), none, none, some (.invokevirtual 47, 3), none]
def xt_30_2 : List (Option (Instr × Nat)) := [none, some (.ifCond .eq 42, 3), none, none, some (.aload_n 0, 1), some (.getfield 53, 3), none, none, some (.sipush 1000, 3), none, none, some (.if_icmp .lt 7, 3), none, none, some (.iconst 2, 1), some (.goto 7, 3)]
def xt_30_3 : List (Option (Instr × Nat)) := [none, none, some (.aload_n 0, 1), some (.invokevirtual 56, 3), none, none, some (.istore_n 3, 1), some (.iload_n 3, 1), some (.iconst 4, 1), some (.if_icmp .eq 5, 3), none, none, some (.iload_n 3, 1), some (.ireturn, 1), some (.aload_n 0, 1), some (.dup, 1)]
def xt_30_4 : List (Option (Instr × Nat)) := [some (.getfield 53, 3), none, none, some (.iconst 1, 1), some (.iadd, 1), some (.putfield 53, 3), none, none, some (.goto 17, 3), none, none, some (.aload_n 0, 1), some (.getfield 60, 3), none, none, some (.iconst 1, 1)]
def xt_30_5 : List (Option (Instr × Nat)) := [some (.if_icmp .gt 5, 3), none, none, some (.iconst 0, 1), some (.ireturn, 1), some (.aload_n 0, 1), some (.invokevirtual 63, 3), none, none, some (.iinc 2 1, 3), none, none, some (.goto (-81), 3), none, none, some (.iconst 2, 1)]
def xt_30_6 : List (Option (Instr × Nat)) := [some (.ireturn, 1)]
/-- 30: X3_go -/
def xt_30 : xM := ((yX3_go, cX3_go, 4, some .int, RX3, 2, 42), [xt_30_0, xt_30_1, xt_30_2, xt_30_3, xt_30_4, xt_30_5, xt_30_6], [(35, 3, 2, 0), (28, 3, 0, 2), (41, 3, 6, 0), (44, 3, 7, 0), (53, 3, 10, 0), (60, 3, 5, 0)], [(38, 31, 0, 0, 3), (47, 28, 2, 0, 2)], [])
def xt_31_0 : List (Option (Instr × Nat)) := [some (.iconst 0, 1), some (.istore_n 1, 1), some (.iload_n 1, 1), some (.bipush 16, 2), none, some (.if_icmp .ge 16, 3), none, none, some (.aload_n 0, 1), some (.getfield 18, 3), none, none, some (.iload_n 1, 1), some (.iconst 0, 1), some (.iastore, 1), some (.iinc 1 1, 3)]
def xt_31_1 : List (Option (Instr × Nat)) := [none, none, some (.goto (-16), 3), none, none, some (.aload_n 0, 1), some (.iconst 0, 1), some (.putfield 66, 3), none, none, some (.aload_n 0, 1), some (.iconst 1, 1), some (.putfield 60, 3), none, none, some (.aload_n 0, 1)]
def xt_31_2 : List (Option (Instr × Nat)) := [some (.iconst 0, 1), some (.putfield 41, 3), none, none, some (.aload_n 0, 1), some (.iconst 0, 1), some (.putfield 44, 3), none, none, some (.aload_n 0, 1), some (.iconst 0, 1), some (.putfield 53, 3), none, none, some (.aload_n 0, 1), some (.iconst 0, 1)]
def xt_31_3 : List (Option (Instr × Nat)) := [some (.putfield 69, 3), none, none, some (.aload_n 0, 1), some (.iconst (-1), 1), some (.putfield 72, 3), none, none, some (.aload_n 0, 1), some (.iconst 0, 1), some (.putfield 75, 3), none, none, some (.aload_n 0, 1), some (.iconst 0, 1), some (.putfield 78, 3)]
def xt_31_4 : List (Option (Instr × Nat)) := [none, none, some (.aload_n 0, 1), some (.iconst 0, 1), some (.putfield 81, 3), none, none, some (.return_, 1)]
/-- 31: X3_startAnew -/
def xt_31 : xM := ((yX3_startAnew, cX3_startAnew, 2, none, RX3, 0, 0), [xt_31_0, xt_31_1, xt_31_2, xt_31_3, xt_31_4], [(18, 3, 8, 2), (66, 3, 9, 0), (60, 3, 5, 0), (41, 3, 6, 0), (44, 3, 7, 0), (53, 3, 10, 0), (69, 3, 11, 0), (72, 3, 12, 0), (75, 3, 13, 0), (78, 3, 15, 0), (81, 3, 17, 1)], [], [])
def xt_32_0 : List (Option (Instr × Nat)) := [some (.aload_n 0, 1), some (.iconst 0, 1), some (.putfield 40, 3), none, none, some (.iconst 0, 1), some (.istore_n 1, 1), some (.iload_n 1, 1), some (.bipush 6, 2), none, some (.if_icmp .ge 23, 3), none, none, some (.aload_n 0, 1), some (.getfield 34, 3), none]
def xt_32_1 : List (Option (Instr × Nat)) := [none, some (.iload_n 1, 1), some (.iconst 0, 1), some (.iastore, 1), some (.aload_n 0, 1), some (.getfield 37, 3), none, none, some (.iload_n 1, 1), some (.iconst 0, 1), some (.iastore, 1), some (.iinc 1 1, 3), none, none, some (.goto (-23), 3), none]
def xt_32_2 : List (Option (Instr × Nat)) := [none, some (.return_, 1)]
/-- 32: X0_takePlain -/
def xt_32 : xM := ((yX0_takePlain, cX0_takePlain, 2, none, RX0, 0, 0), [xt_32_0, xt_32_1, xt_32_2], [(40, 0, 13, 1), (34, 0, 11, 2), (37, 0, 12, 2)], [], [])
def xt_33_0 : List (Option (Instr × Nat)) := [some (.aload_n 0, 1), some (.getfield 37, 3), none, none, some (.iload_n 1, 1), some (.dup2, 1), some (.iaload, 1), some (.iconst 1, 1), some (.iload_n 2, 1), some (.ishl, 1), some (.ior, 1), some (.iastore, 1), some (.aload_n 0, 1), some (.iconst 1, 1), some (.putfield 40, 3), none]
def xt_33_1 : List (Option (Instr × Nat)) := [none, some (.return_, 1)]
/-- 33: X0_unsetAtBegin -/
def xt_33 : xM := ((yX0_unsetAtBegin, cX0_unsetAtBegin, 3, none, RX0, 0, 0), [xt_33_0, xt_33_1], [(37, 0, 12, 2), (40, 0, 13, 1)], [], [])
def xt_34_0 : List (Option (Instr × Nat)) := [some (.aload_n 0, 1), some (.invokevirtual 48, 3), none, none, some (.aload_n 0, 1), some (.iload_n 1, 1), some (.ldc 51, 2), none, some (.iload_n 2, 1), some (.iconst (-1), 1), some (.ixor, 1), some (.iand, 1), some (.iload_n 2, 1), some (.invokevirtual 52, 3), none, none]
def xt_34_1 : List (Option (Instr × Nat)) := [some (.iconst 0, 1), some (.istore_n 3, 1), some (.iload_n 3, 1), some (.ldc 56, 2), none, some (.if_icmp .ge 85, 3), none, none, some (.aload_n 0, 1), some (.getfield 57, 3), none, none, some (.ifCond .eq 78, 3), none, none, some (.aload_n 0, 1)]
def xt_34_2 : List (Option (Instr × Nat)) := [some (.iconst 0, 1), some (.putfield 57, 3), none, none, some (.iconst 0, 1), some (.istore 4, 2), none, some (.iload 4, 2), none, some (.bipush 6, 2), none, some (.if_icmp .ge 57, 3), none, none, some (.iconst 0, 1), some (.istore 5, 2)]
def xt_34_3 : List (Option (Instr × Nat)) := [none, some (.iload 5, 2), none, some (.aload_n 0, 1), some (.getfield 44, 3), none, none, some (.getfield 60, 3), none, none, some (.iload 4, 2), none, some (.iaload, 1), some (.if_icmp .gt 33, 3), none, none]
def xt_34_4 : List (Option (Instr × Nat)) := [some (.aload_n 0, 1), some (.getfield 18, 3), none, none, some (.iload 4, 2), none, some (.bipush 31, 2), none, some (.imul, 1), some (.iload 5, 2), none, some (.iadd, 1), some (.baload, 1), some (.ifCond .eq 11, 3), none, none]
def xt_34_5 : List (Option (Instr × Nat)) := [some (.aload_n 0, 1), some (.iload 4, 2), none, some (.iload 5, 2), none, some (.invokevirtual 65, 3), none, none, some (.iinc 5 1, 3), none, none, some (.goto (-42), 3), none, none, some (.iinc 4 1, 3), none]
def xt_34_6 : List (Option (Instr × Nat)) := [none, some (.goto (-58), 3), none, none, some (.iinc 3 1, 3), none, none, some (.goto (-85), 3), none, none, some (.return_, 1)]
/-- 34: X0_follow -/
def xt_34 : xM := ((yX0_follow, cX0_follow, 6, none, RX0, 3, 77), [xt_34_0, xt_34_1, xt_34_2, xt_34_3, xt_34_4, xt_34_5, xt_34_6], [(57, 0, 4, 1), (44, 0, 0, 2), (60, 2, 0, 2), (18, 0, 3, 2)], [(48, 40, 0, 0, 0), (52, 41, 3, 0, 0), (65, 43, 2, 0, 0)], [(51, 65535), (56, 1000000)])
def xt_35_0 : List (Option (Instr × Nat)) := [some (.iload_n 1, 1), some (.bipush 31, 2), none, some (.imul, 1), some (.iload_n 2, 1), some (.iadd, 1), some (.istore 4, 2), none, some (.aload_n 0, 1), some (.getfield 11, 3), none, none, some (.iload 4, 2), none, some (.iaload, 1), some (.iload_n 3, 1)]
def xt_35_1 : List (Option (Instr × Nat)) := [some (.invokestatic 69, 3), none, none, some (.ifCond .eq 7, 3), none, none, some (.iconst 1, 1), some (.goto 4, 3), none, none, some (.iconst 0, 1), some (.aload_n 0, 1), some (.getfield 15, 3), none, none, some (.iload 4, 2)]
def xt_35_2 : List (Option (Instr × Nat)) := [none, some (.iaload, 1), some (.iload_n 3, 1), some (.invokestatic 69, 3), none, none, some (.ifCond .eq 7, 3), none, none, some (.iconst 2, 1), some (.goto 4, 3), none, none, some (.iconst 0, 1), some (.iadd, 1), some (.ireturn, 1)]
/-- 35: X0_mayBe -/
def xt_35 : xM := ((yX0_mayBe, cX0_mayBe, 5, some .int, RX0, 1, 21), [xt_35_0, xt_35_1, xt_35_2], [(11, 0, 1, 2), (15, 0, 2, 2)], [(69, 27, 2, 2, 0)], [])
def xt_36_0 : List (Option (Instr × Nat)) := [some (.iconst 0, 1), some (.istore_n 1, 1), some (.iconst 0, 1), some (.istore_n 2, 1), some (.iload_n 2, 1), some (.bipush 6, 2), none, some (.if_icmp .ge 42, 3), none, none, some (.iconst 0, 1), some (.istore_n 3, 1), some (.iload_n 3, 1), some (.aload_n 0, 1), some (.getfield 44, 3), none]
def xt_36_1 : List (Option (Instr × Nat)) := [none, some (.getfield 60, 3), none, none, some (.iload_n 2, 1), some (.iaload, 1), some (.if_icmp .ge 21, 3), none, none, some (.aload_n 0, 1), some (.iload_n 2, 1), some (.iload_n 3, 1), some (.invokevirtual 81, 3), none, none, some (.ifCond .eq 6, 3)]
def xt_36_2 : List (Option (Instr × Nat)) := [none, none, some (.iinc 1 1, 3), none, none, some (.iinc 3 1, 3), none, none, some (.goto (-28), 3), none, none, some (.iinc 2 1, 3), none, none, some (.goto (-42), 3), none]
def xt_36_3 : List (Option (Instr × Nat)) := [none, some (.iload_n 1, 1), some (.ireturn, 1)]
/-- 36: X0_badUses -/
def xt_36 : xM := ((yX0_badUses, cX0_badUses, 4, some .int, RX0, 0, 0), [xt_36_0, xt_36_1, xt_36_2, xt_36_3], [(44, 0, 0, 2), (60, 2, 0, 2)], [], [])
def xt_37_0 : List (Option (Instr × Nat)) := [some (.iconst 0, 1), some (.istore_n 2, 1), some (.iconst 0, 1), some (.istore_n 3, 1), some (.iload_n 3, 1), some (.bipush 6, 2), none, some (.if_icmp .ge 57, 3), none, none, some (.iconst 0, 1), some (.istore 4, 2), none, some (.iload 4, 2), none, some (.aload_n 0, 1)]
def xt_37_1 : List (Option (Instr × Nat)) := [some (.getfield 44, 3), none, none, some (.getfield 60, 3), none, none, some (.iload_n 3, 1), some (.iaload, 1), some (.if_icmp .ge 34, 3), none, none, some (.aload_n 0, 1), some (.iload_n 3, 1), some (.iload 4, 2), none, some (.invokevirtual 81, 3)]
def xt_37_2 : List (Option (Instr × Nat)) := [none, none, some (.ifCond .eq 18, 3), none, none, some (.iload_n 2, 1), some (.iload_n 1, 1), some (.if_icmp .ne 10, 3), none, none, some (.iload_n 3, 1), some (.iload 4, 2), none, some (.invokestatic 73, 3), none, none]
def xt_37_3 : List (Option (Instr × Nat)) := [some (.ireturn, 1), some (.iinc 2 1, 3), none, none, some (.iinc 4 1, 3), none, none, some (.goto (-42), 3), none, none, some (.iinc 3 1, 3), none, none, some (.goto (-57), 3), none, none]
def xt_37_4 : List (Option (Instr × Nat)) := [some (.iconst (-1), 1), some (.ireturn, 1)]
/-- 37: X0_badUseAt -/
def xt_37 : xM := ((yX0_badUseAt, cX0_badUseAt, 5, some .int, RX0, 1, 21), [xt_37_0, xt_37_1, xt_37_2, xt_37_3, xt_37_4], [(44, 0, 0, 2), (60, 2, 0, 2)], [(73, 26, 2, 2, 0)], [])
def xt_38_0 : List (Option (Instr × Nat)) := [some (.iconst 0, 1), some (.istore_n 2, 1), some (.iload_n 2, 1), some (.bipush 6, 2), none, some (.if_icmp .ge 43, 3), none, none, some (.iconst 0, 1), some (.istore_n 3, 1), some (.iload_n 3, 1), some (.aload_n 0, 1), some (.getfield 44, 3), none, none, some (.getfield 60, 3)]
def xt_38_1 : List (Option (Instr × Nat)) := [none, none, some (.iload_n 2, 1), some (.iaload, 1), some (.if_icmp .ge 22, 3), none, none, some (.aload_n 1, 1), some (.iload_n 2, 1), some (.iload_n 3, 1), some (.invokestatic 73, 3), none, none, some (.aload_n 0, 1), some (.iload_n 2, 1), some (.iload_n 3, 1)]
def xt_38_2 : List (Option (Instr × Nat)) := [some (.invokevirtual 81, 3), none, none, some (.iastore, 1), some (.iinc 3 1, 3), none, none, some (.goto (-29), 3), none, none, some (.iinc 2 1, 3), none, none, some (.goto (-43), 3), none, none]
def xt_38_3 : List (Option (Instr × Nat)) := [some (.return_, 1)]
/-- 38: X0_tellKinds -/
def xt_38 : xM := ((yX0_tellKinds, cX0_tellKinds, 4, none, RX0, 1, 21), [xt_38_0, xt_38_1, xt_38_2, xt_38_3], [(44, 0, 0, 2), (60, 2, 0, 2)], [(73, 26, 2, 2, 0)], [])
def xt_39_0 : List (Option (Instr × Nat)) := [some (.iconst 0, 1), some (.istore_n 2, 1), some (.iload_n 2, 1), some (.bipush 6, 2), none, some (.if_icmp .ge 48, 3), none, none, some (.iconst 0, 1), some (.istore_n 3, 1), some (.iload_n 3, 1), some (.aload_n 0, 1), some (.getfield 44, 3), none, none, some (.getfield 60, 3)]
def xt_39_1 : List (Option (Instr × Nat)) := [none, none, some (.iload_n 2, 1), some (.iaload, 1), some (.if_icmp .ge 27, 3), none, none, some (.aload_n 1, 1), some (.iload_n 2, 1), some (.iload_n 3, 1), some (.invokestatic 73, 3), none, none, some (.iaload, 1), some (.aload_n 0, 1), some (.iload_n 2, 1)]
def xt_39_2 : List (Option (Instr × Nat)) := [some (.iload_n 3, 1), some (.invokevirtual 81, 3), none, none, some (.if_icmp .eq 5, 3), none, none, some (.iconst 0, 1), some (.ireturn, 1), some (.iinc 3 1, 3), none, none, some (.goto (-34), 3), none, none, some (.iinc 2 1, 3)]
def xt_39_3 : List (Option (Instr × Nat)) := [none, none, some (.goto (-48), 3), none, none, some (.iconst 1, 1), some (.ireturn, 1)]
/-- 39: X0_hasKinds -/
def xt_39 : xM := ((yX0_hasKinds, cX0_hasKinds, 4, some .boolean, RX0, 1, 21), [xt_39_0, xt_39_1, xt_39_2, xt_39_3], [(44, 0, 0, 2), (60, 2, 0, 2)], [(73, 26, 2, 2, 0)], [])
def xt_40_0 : List (Option (Instr × Nat)) := [some (.iconst 0, 1), some (.istore_n 1, 1), some (.iload_n 1, 1), some (.sipush 186, 3), none, none, some (.if_icmp .ge 30, 3), none, none, some (.aload_n 0, 1), some (.getfield 11, 3), none, none, some (.iload_n 1, 1), some (.iconst 0, 1), some (.iastore, 1)]
def xt_40_1 : List (Option (Instr × Nat)) := [some (.aload_n 0, 1), some (.getfield 15, 3), none, none, some (.iload_n 1, 1), some (.iconst 0, 1), some (.iastore, 1), some (.aload_n 0, 1), some (.getfield 18, 3), none, none, some (.iload_n 1, 1), some (.iconst 0, 1), some (.bastore, 1), some (.iinc 1 1, 3), none]
def xt_40_2 : List (Option (Instr × Nat)) := [none, some (.goto (-31), 3), none, none, some (.iconst 0, 1), some (.istore_n 1, 1), some (.iload_n 1, 1), some (.bipush 6, 2), none, some (.if_icmp .ge 37, 3), none, none, some (.aload_n 0, 1), some (.getfield 22, 3), none, none]
def xt_40_3 : List (Option (Instr × Nat)) := [some (.iload_n 1, 1), some (.iconst 0, 1), some (.iastore, 1), some (.aload_n 0, 1), some (.getfield 25, 3), none, none, some (.iload_n 1, 1), some (.iconst 0, 1), some (.iastore, 1), some (.aload_n 0, 1), some (.getfield 28, 3), none, none, some (.iload_n 1, 1), some (.iconst 0, 1)]
def xt_40_4 : List (Option (Instr × Nat)) := [some (.iastore, 1), some (.aload_n 0, 1), some (.getfield 31, 3), none, none, some (.iload_n 1, 1), some (.iconst 0, 1), some (.iastore, 1), some (.iinc 1 1, 3), none, none, some (.goto (-37), 3), none, none, some (.aload_n 0, 1), some (.iconst 0, 1)]
def xt_40_5 : List (Option (Instr × Nat)) := [some (.putfield 57, 3), none, none, some (.return_, 1)]
/-- 40: X0_forget -/
def xt_40 : xM := ((yX0_forget, cX0_forget, 2, none, RX0, 0, 0), [xt_40_0, xt_40_1, xt_40_2, xt_40_3, xt_40_4, xt_40_5], [(11, 0, 1, 2), (15, 0, 2, 2), (18, 0, 3, 2), (22, 0, 7, 2), (25, 0, 8, 2), (28, 0, 9, 2), (31, 0, 10, 2), (57, 0, 4, 1)], [], [])
def xt_41_0 : List (Option (Instr × Nat)) := [some (.aload_n 0, 1), some (.getfield 22, 3), none, none, some (.iload_n 1, 1), some (.dup2, 1), some (.iaload, 1), some (.iload_n 2, 1), some (.ior, 1), some (.iastore, 1), some (.aload_n 0, 1), some (.getfield 25, 3), none, none, some (.iload_n 1, 1), some (.dup2, 1)]
def xt_41_1 : List (Option (Instr × Nat)) := [some (.iaload, 1), some (.iload_n 3, 1), some (.ior, 1), some (.iastore, 1), some (.aload_n 0, 1), some (.getfield 34, 3), none, none, some (.iload_n 1, 1), some (.iaload, 1), some (.istore 4, 2), none, some (.aload_n 0, 1), some (.getfield 37, 3), none, none]
def xt_41_2 : List (Option (Instr × Nat)) := [some (.iload_n 1, 1), some (.iaload, 1), some (.istore 5, 2), none, some (.aload_n 0, 1), some (.iload_n 1, 1), some (.iconst 0, 1), some (.iload_n 2, 1), some (.iload 4, 2), none, some (.ior, 1), some (.iload 5, 2), none, some (.iconst (-1), 1), some (.ixor, 1), some (.iand, 1)]
def xt_41_3 : List (Option (Instr × Nat)) := [some (.iload_n 3, 1), some (.iload 4, 2), none, some (.iconst (-1), 1), some (.ixor, 1), some (.iand, 1), some (.iload 5, 2), none, some (.ior, 1), some (.invokevirtual 84, 3), none, none, some (.return_, 1)]
/-- 41: X0_come -/
def xt_41 : xM := ((yX0_come, cX0_come, 6, none, RX0, 1, 26), [xt_41_0, xt_41_1, xt_41_2, xt_41_3], [(22, 0, 7, 2), (25, 0, 8, 2), (34, 0, 11, 2), (37, 0, 12, 2)], [(84, 42, 4, 0, 0)], [])
def xt_42_0 : List (Option (Instr × Nat)) := [some (.iload_n 2, 1), some (.ifCond .lt 16, 3), none, none, some (.iload_n 2, 1), some (.aload_n 0, 1), some (.getfield 44, 3), none, none, some (.getfield 60, 3), none, none, some (.iload_n 1, 1), some (.iaload, 1), some (.if_icmp .le 15, 3), none]
def xt_42_1 : List (Option (Instr × Nat)) := [none, some (.aload_n 0, 1), some (.getfield 44, 3), none, none, some (.getfield 60, 3), none, none, some (.iload_n 1, 1), some (.iaload, 1), some (.goto 4, 3), none, none, some (.iload_n 2, 1), some (.istore 5, 2), none]
def xt_42_2 : List (Option (Instr × Nat)) := [some (.iload_n 1, 1), some (.bipush 31, 2), none, some (.imul, 1), some (.iload 5, 2), none, some (.iadd, 1), some (.istore 6, 2), none, some (.iload_n 3, 1), some (.aload_n 0, 1), some (.getfield 11, 3), none, none, some (.iload 6, 2), none]
def xt_42_3 : List (Option (Instr × Nat)) := [some (.iaload, 1), some (.iconst (-1), 1), some (.ixor, 1), some (.iand, 1), some (.ifCond .ne 18, 3), none, none, some (.iload 4, 2), none, some (.aload_n 0, 1), some (.getfield 15, 3), none, none, some (.iload 6, 2), none, some (.iaload, 1)]
def xt_42_4 : List (Option (Instr × Nat)) := [some (.iconst (-1), 1), some (.ixor, 1), some (.iand, 1), some (.ifCond .eq 39, 3), none, none, some (.aload_n 0, 1), some (.getfield 11, 3), none, none, some (.iload 6, 2), none, some (.dup2, 1), some (.iaload, 1), some (.iload_n 3, 1), some (.ior, 1)]
def xt_42_5 : List (Option (Instr × Nat)) := [some (.iastore, 1), some (.aload_n 0, 1), some (.getfield 15, 3), none, none, some (.iload 6, 2), none, some (.dup2, 1), some (.iaload, 1), some (.iload 4, 2), none, some (.ior, 1), some (.iastore, 1), some (.aload_n 0, 1), some (.getfield 18, 3), none]
def xt_42_6 : List (Option (Instr × Nat)) := [none, some (.iload 6, 2), none, some (.iconst 1, 1), some (.bastore, 1), some (.aload_n 0, 1), some (.iconst 1, 1), some (.putfield 57, 3), none, none, some (.return_, 1)]
/-- 42: X0_join -/
def xt_42 : xM := ((yX0_join, cX0_join, 7, none, RX0, 0, 0), [xt_42_0, xt_42_1, xt_42_2, xt_42_3, xt_42_4, xt_42_5, xt_42_6], [(44, 0, 0, 2), (60, 2, 0, 2), (11, 0, 1, 2), (15, 0, 2, 2), (18, 0, 3, 2), (57, 0, 4, 1)], [], [])
def xt_43_0 : List (Option (Instr × Nat)) := [some (.iload_n 1, 1), some (.bipush 31, 2), none, some (.imul, 1), some (.iload_n 2, 1), some (.iadd, 1), some (.istore_n 3, 1), some (.aload_n 0, 1), some (.getfield 18, 3), none, none, some (.iload_n 3, 1), some (.iconst 0, 1), some (.bastore, 1), some (.aload_n 0, 1), some (.getfield 11, 3)]
def xt_43_1 : List (Option (Instr × Nat)) := [none, none, some (.iload_n 3, 1), some (.iaload, 1), some (.istore 4, 2), none, some (.aload_n 0, 1), some (.getfield 15, 3), none, none, some (.iload_n 3, 1), some (.iaload, 1), some (.istore 5, 2), none, some (.iload_n 1, 1), some (.iload_n 2, 1)]
def xt_43_2 : List (Option (Instr × Nat)) := [some (.invokestatic 73, 3), none, none, some (.istore 6, 2), none, some (.iload_n 2, 1), some (.aload_n 0, 1), some (.getfield 44, 3), none, none, some (.getfield 60, 3), none, none, some (.iload_n 1, 1), some (.iaload, 1), some (.if_icmp .ge 18, 3)]
def xt_43_3 : List (Option (Instr × Nat)) := [none, none, some (.aload_n 0, 1), some (.getfield 44, 3), none, none, some (.getfield 88, 3), none, none, some (.iload 6, 2), none, some (.iaload, 1), some (.bipush 9, 2), none, some (.if_icmp .ne 13, 3), none]
def xt_43_4 : List (Option (Instr × Nat)) := [none, some (.aload_n 0, 1), some (.iload_n 1, 1), some (.iload 4, 2), none, some (.iload 5, 2), none, some (.invokevirtual 91, 3), none, none, some (.return_, 1), some (.aload_n 0, 1), some (.getfield 44, 3), none, none, some (.getfield 88, 3)]
def xt_43_5 : List (Option (Instr × Nat)) := [none, none, some (.iload 6, 2), none, some (.iaload, 1), some (.lookupswitch 124 #[(5, 27), (8, 65)], 27), none, none, none, none, none, none, none, none, none, none]
def xt_43_6 : List (Option (Instr × Nat)) := [none, none, none, none, none, none, none, none, none, none, none, none, none, none, none, none]
def xt_43_7 : List (Option (Instr × Nat)) := [some (.aload_n 0, 1), some (.iload_n 1, 1), some (.iload_n 2, 1), some (.iconst 1, 1), some (.iadd, 1), some (.iload 4, 2), none, some (.iload 5, 2), none, some (.invokevirtual 84, 3), none, none, some (.aload_n 0, 1), some (.iload_n 1, 1), some (.iload_n 2, 1), some (.iconst 1, 1)]
def xt_43_8 : List (Option (Instr × Nat)) := [some (.iadd, 1), some (.aload_n 0, 1), some (.getfield 44, 3), none, none, some (.getfield 94, 3), none, none, some (.iload 6, 2), none, some (.iaload, 1), some (.iadd, 1), some (.iload 4, 2), none, some (.iload 5, 2), none]
def xt_43_9 : List (Option (Instr × Nat)) := [some (.invokevirtual 84, 3), none, none, some (.goto 96, 3), none, none, some (.aload_n 0, 1), some (.aload_n 0, 1), some (.getfield 44, 3), none, none, some (.getfield 97, 3), none, none, some (.iload 6, 2), none]
def xt_43_10 : List (Option (Instr × Nat)) := [some (.iaload, 1), some (.iload 4, 2), none, some (.iload 5, 2), none, some (.invokevirtual 52, 3), none, none, some (.aload_n 0, 1), some (.iload_n 1, 1), some (.iload_n 2, 1), some (.iconst 1, 1), some (.iadd, 1), some (.aload_n 0, 1), some (.getfield 28, 3), none]
def xt_43_11 : List (Option (Instr × Nat)) := [none, some (.aload_n 0, 1), some (.getfield 44, 3), none, none, some (.getfield 97, 3), none, none, some (.iload 6, 2), none, some (.iaload, 1), some (.iaload, 1), some (.aload_n 0, 1), some (.getfield 31, 3), none, none]
def xt_43_12 : List (Option (Instr × Nat)) := [some (.aload_n 0, 1), some (.getfield 44, 3), none, none, some (.getfield 97, 3), none, none, some (.iload 6, 2), none, some (.iaload, 1), some (.iaload, 1), some (.invokevirtual 84, 3), none, none, some (.goto 37, 3), none]
def xt_43_13 : List (Option (Instr × Nat)) := [none, some (.aload_n 0, 1), some (.iload 4, 2), none, some (.putfield 100, 3), none, none, some (.aload_n 0, 1), some (.iload 5, 2), none, some (.putfield 104, 3), none, none, some (.aload_n 0, 1), some (.iload 6, 2), none]
def xt_43_14 : List (Option (Instr × Nat)) := [some (.invokevirtual 107, 3), none, none, some (.aload_n 0, 1), some (.iload_n 1, 1), some (.iload_n 2, 1), some (.iconst 1, 1), some (.iadd, 1), some (.aload_n 0, 1), some (.getfield 100, 3), none, none, some (.aload_n 0, 1), some (.getfield 104, 3), none, none]
def xt_43_15 : List (Option (Instr × Nat)) := [some (.invokevirtual 84, 3), none, none, some (.return_, 1)]
/-- 43: X0_takeOn -/
def xt_43 : xM := ((yX0_takeOn, cX0_takeOn, 7, none, RX0, 2, 51), [xt_43_0, xt_43_1, xt_43_2, xt_43_3, xt_43_4, xt_43_5, xt_43_6, xt_43_7, xt_43_8, xt_43_9, xt_43_10, xt_43_11, xt_43_12, xt_43_13, xt_43_14, xt_43_15], [(18, 0, 3, 2), (11, 0, 1, 2), (15, 0, 2, 2), (44, 0, 0, 2), (60, 2, 0, 2), (88, 2, 1, 2), (94, 2, 3, 2), (97, 2, 2, 2), (28, 0, 9, 2), (31, 0, 10, 2), (100, 0, 5, 0), (104, 0, 6, 0)], [(73, 26, 2, 2, 0), (91, 44, 3, 0, 0), (84, 42, 4, 0, 0), (52, 41, 3, 0, 0)], [])
def xt_44_0 : List (Option (Instr × Nat)) := [some (.iload_n 2, 1), some (.aload_n 0, 1), some (.getfield 28, 3), none, none, some (.iload_n 1, 1), some (.iaload, 1), some (.iconst (-1), 1), some (.ixor, 1), some (.iand, 1), some (.ifCond .ne 17, 3), none, none, some (.iload_n 3, 1), some (.aload_n 0, 1), some (.getfield 31, 3)]
def xt_44_1 : List (Option (Instr × Nat)) := [none, none, some (.iload_n 1, 1), some (.iaload, 1), some (.iconst (-1), 1), some (.ixor, 1), some (.iand, 1), some (.ifCond .ne 4, 3), none, none, some (.return_, 1), some (.aload_n 0, 1), some (.getfield 28, 3), none, none, some (.iload_n 1, 1)]
def xt_44_2 : List (Option (Instr × Nat)) := [some (.dup2, 1), some (.iaload, 1), some (.iload_n 2, 1), some (.ior, 1), some (.iastore, 1), some (.aload_n 0, 1), some (.getfield 31, 3), none, none, some (.iload_n 1, 1), some (.dup2, 1), some (.iaload, 1), some (.iload_n 3, 1), some (.ior, 1), some (.iastore, 1), some (.iconst 0, 1)]
def xt_44_3 : List (Option (Instr × Nat)) := [some (.istore 4, 2), none, some (.iload 4, 2), none, some (.bipush 6, 2), none, some (.if_icmp .ge 101, 3), none, none, some (.iconst 0, 1), some (.istore 5, 2), none, some (.iload 5, 2), none, some (.aload_n 0, 1), some (.getfield 44, 3)]
def xt_44_4 : List (Option (Instr × Nat)) := [none, none, some (.getfield 60, 3), none, none, some (.iload 4, 2), none, some (.iaload, 1), some (.if_icmp .ge 77, 3), none, none, some (.iload 4, 2), none, some (.iload 5, 2), none, some (.invokestatic 73, 3)]
def xt_44_5 : List (Option (Instr × Nat)) := [none, none, some (.istore 6, 2), none, some (.aload_n 0, 1), some (.getfield 44, 3), none, none, some (.getfield 88, 3), none, none, some (.iload 6, 2), none, some (.iaload, 1), some (.bipush 8, 2), none]
def xt_44_6 : List (Option (Instr × Nat)) := [some (.if_icmp .ne 47, 3), none, none, some (.aload_n 0, 1), some (.getfield 44, 3), none, none, some (.getfield 97, 3), none, none, some (.iload 6, 2), none, some (.iaload, 1), some (.iload_n 1, 1), some (.if_icmp .ne 33, 3), none]
def xt_44_7 : List (Option (Instr × Nat)) := [none, some (.aload_n 0, 1), some (.iload 4, 2), none, some (.iload 5, 2), none, some (.invokevirtual 111, 3), none, none, some (.ifCond .eq 22, 3), none, none, some (.aload_n 0, 1), some (.getfield 18, 3), none, none]
def xt_44_8 : List (Option (Instr × Nat)) := [some (.iload 4, 2), none, some (.bipush 31, 2), none, some (.imul, 1), some (.iload 5, 2), none, some (.iadd, 1), some (.iconst 1, 1), some (.bastore, 1), some (.aload_n 0, 1), some (.iconst 1, 1), some (.putfield 57, 3), none, none, some (.iinc 5 1, 3)]
def xt_44_9 : List (Option (Instr × Nat)) := [none, none, some (.goto (-86), 3), none, none, some (.iinc 4 1, 3), none, none, some (.goto (-102), 3), none, none, some (.return_, 1)]
/-- 44: X0_leave -/
def xt_44 : xM := ((yX0_leave, cX0_leave, 7, none, RX0, 1, 21), [xt_44_0, xt_44_1, xt_44_2, xt_44_3, xt_44_4, xt_44_5, xt_44_6, xt_44_7, xt_44_8, xt_44_9], [(28, 0, 9, 2), (31, 0, 10, 2), (44, 0, 0, 2), (60, 2, 0, 2), (88, 2, 1, 2), (97, 2, 2, 2), (18, 0, 3, 2), (57, 0, 4, 1)], [(73, 26, 2, 2, 0)], [])
def xt_45_0 : List (Option (Instr × Nat)) := [some (.aload_n 0, 1), some (.iconst 0, 1), some (.putfield 42, 3), none, none, some (.iconst 0, 1), some (.istore_n 1, 1), some (.iload_n 1, 1), some (.bipush 6, 2), none, some (.if_icmp .ge 103, 3), none, none, some (.aload_n 0, 1), some (.getfield 35, 3), none]
def xt_45_1 : List (Option (Instr × Nat)) := [none, some (.getfield 45, 3), none, none, some (.iload_n 1, 1), some (.iaload, 1), some (.aload_n 0, 1), some (.getfield 35, 3), none, none, some (.getfield 50, 3), none, none, some (.iload_n 1, 1), some (.iaload, 1), some (.iconst (-1), 1)]
def xt_45_2 : List (Option (Instr × Nat)) := [some (.ixor, 1), some (.iand, 1), some (.istore_n 2, 1), some (.iconst 0, 1), some (.istore_n 3, 1), some (.iload_n 3, 1), some (.bipush 16, 2), none, some (.if_icmp .ge 67, 3), none, none, some (.iload_n 2, 1), some (.iload_n 3, 1), some (.invokestatic 53, 3), none, none]
def xt_45_3 : List (Option (Instr × Nat)) := [some (.ifCond .eq 53, 3), none, none, some (.aload_n 0, 1), some (.iload_n 1, 1), some (.iload_n 3, 1), some (.invokevirtual 57, 3), none, none, some (.ifCond .eq 44, 3), none, none, some (.aload_n 0, 1), some (.getfield 42, 3), none, none]
def xt_45_4 : List (Option (Instr × Nat)) := [some (.bipush 12, 2), none, some (.if_icmp .lt 5, 3), none, none, some (.iconst 0, 1), some (.ireturn, 1), some (.aload_n 0, 1), some (.getfield 9, 3), none, none, some (.aload_n 0, 1), some (.getfield 42, 3), none, none, some (.iload_n 1, 1)]
def xt_45_5 : List (Option (Instr × Nat)) := [some (.iastore, 1), some (.aload_n 0, 1), some (.getfield 15, 3), none, none, some (.aload_n 0, 1), some (.getfield 42, 3), none, none, some (.iload_n 3, 1), some (.iastore, 1), some (.aload_n 0, 1), some (.dup, 1), some (.getfield 42, 3), none, none]
def xt_45_6 : List (Option (Instr × Nat)) := [some (.iconst 1, 1), some (.iadd, 1), some (.putfield 42, 3), none, none, some (.iinc 3 1, 3), none, none, some (.goto (-67), 3), none, none, some (.iinc 1 1, 3), none, none, some (.goto (-103), 3), none]
def xt_45_7 : List (Option (Instr × Nat)) := [none, some (.iconst 1, 1), some (.ireturn, 1)]
/-- 45: X1_gather -/
def xt_45 : xM := ((yX1_gather, cX1_gather, 4, some .boolean, RX1, 5, 124), [xt_45_0, xt_45_1, xt_45_2, xt_45_3, xt_45_4, xt_45_5, xt_45_6, xt_45_7], [(42, 1, 6, 0), (35, 1, 1, 2), (45, 0, 8, 2), (50, 0, 7, 2), (9, 1, 3, 2), (15, 1, 4, 2)], [(53, 27, 2, 2, 0), (57, 47, 2, 0, 1)], [])
def xt_46_0 : List (Option (Instr × Nat)) := [some (.aload_n 0, 1), some (.invokevirtual 60, 3), none, none, some (.aload_n 0, 1), some (.aload_n 1, 1), some (.invokevirtual 63, 3), none, none, some (.istore_n 2, 1), some (.iload_n 2, 1), some (.iconst (-1), 1), some (.if_icmp .ne 5, 3), none, none, some (.iconst (-1), 1)]
def xt_46_1 : List (Option (Instr × Nat)) := [some (.ireturn, 1), some (.aload_n 0, 1), some (.iload_n 2, 1), some (.invokevirtual 67, 3), none, none, some (.aload_n 0, 1), some (.iload_n 2, 1), some (.aload_n 1, 1), some (.invokevirtual 71, 3), none, none, some (.ireturn, 1)]
/-- 46: X1_find -/
def xt_46 : xM := ((yX1_find, cX1_find, 3, some .int, RX1, 5, 123), [xt_46_0, xt_46_1], [], [(60, 48, 0, 0, 1), (63, 51, 1, 0, 1), (67, 54, 1, 0, 1), (71, 52, 2, 0, 1)], [])
def xt_47_0 : List (Option (Instr × Nat)) := [some (.aload_n 0, 1), some (.getfield 39, 3), none, none, some (.invokevirtual 92, 3), none, none, some (.aload_n 0, 1), some (.getfield 39, 3), none, none, some (.iload_n 1, 1), some (.iload_n 2, 1), some (.invokevirtual 95, 3), none, none]
def xt_47_1 : List (Option (Instr × Nat)) := [some (.aload_n 0, 1), some (.getfield 39, 3), none, none, some (.iconst 0, 1), some (.iconst 0, 1), some (.invokevirtual 98, 3), none, none, some (.aload_n 0, 1), some (.getfield 39, 3), none, none, some (.invokevirtual 101, 3), none, none]
def xt_47_2 : List (Option (Instr × Nat)) := [some (.ifCond .le 7, 3), none, none, some (.iconst 1, 1), some (.goto 4, 3), none, none, some (.iconst 0, 1), some (.ireturn, 1)]
/-- 47: X1_leads -/
def xt_47 : xM := ((yX1_leads, cX1_leads, 3, some .boolean, RX1, 4, 102), [xt_47_0, xt_47_1, xt_47_2], [(39, 1, 2, 2)], [(92, 32, 0, 0, 0), (95, 33, 2, 0, 0), (98, 34, 2, 0, 0), (101, 36, 0, 0, 0)], [])
def xt_48_0 : List (Option (Instr × Nat)) := [some (.aload_n 0, 1), some (.invokevirtual 105, 3), none, none, some (.aload_n 0, 1), some (.getfield 39, 3), none, none, some (.iconst 0, 1), some (.ldc 108, 2), none, some (.invokevirtual 98, 3), none, none, some (.aload_n 0, 1), some (.aload_n 0, 1)]
def xt_48_1 : List (Option (Instr × Nat)) := [some (.invokevirtual 109, 3), none, none, some (.putfield 112, 3), none, none, some (.aload_n 0, 1), some (.aload_n 0, 1), some (.getfield 39, 3), none, none, some (.invokevirtual 101, 3), none, none, some (.ifCond .le 7, 3), none]
def xt_48_2 : List (Option (Instr × Nat)) := [none, some (.iconst 1, 1), some (.goto 4, 3), none, none, some (.iconst 0, 1), some (.putfield 115, 3), none, none, some (.aload_n 0, 1), some (.iconst 0, 1), some (.putfield 119, 3), none, none, some (.iconst 0, 1), some (.istore_n 1, 1)]
def xt_48_3 : List (Option (Instr × Nat)) := [some (.iload_n 1, 1), some (.aload_n 0, 1), some (.getfield 42, 3), none, none, some (.if_icmp .ge 78, 3), none, none, some (.aload_n 0, 1), some (.invokevirtual 105, 3), none, none, some (.aload_n 0, 1), some (.getfield 39, 3), none, none]
def xt_48_4 : List (Option (Instr × Nat)) := [some (.aload_n 0, 1), some (.getfield 9, 3), none, none, some (.iload_n 1, 1), some (.iaload, 1), some (.aload_n 0, 1), some (.getfield 15, 3), none, none, some (.iload_n 1, 1), some (.iaload, 1), some (.invokevirtual 95, 3), none, none, some (.aload_n 0, 1)]
def xt_48_5 : List (Option (Instr × Nat)) := [some (.getfield 39, 3), none, none, some (.iconst 0, 1), some (.iconst 0, 1), some (.invokevirtual 98, 3), none, none, some (.aload_n 0, 1), some (.getfield 18, 3), none, none, some (.iload_n 1, 1), some (.aload_n 0, 1), some (.invokevirtual 109, 3), none]
def xt_48_6 : List (Option (Instr × Nat)) := [none, some (.iastore, 1), some (.aload_n 0, 1), some (.aload_n 0, 1), some (.getfield 119, 3), none, none, some (.iload_n 1, 1), some (.aload_n 0, 1), some (.getfield 39, 3), none, none, some (.invokevirtual 101, 3), none, none, some (.ifCond .le 7, 3)]
def xt_48_7 : List (Option (Instr × Nat)) := [none, none, some (.iconst 1, 1), some (.goto 4, 3), none, none, some (.iconst 0, 1), some (.invokestatic 122, 3), none, none, some (.putfield 119, 3), none, none, some (.iinc 1 1, 3), none, none]
def xt_48_8 : List (Option (Instr × Nat)) := [some (.goto (-80), 3), none, none, some (.return_, 1)]
/-- 48: X1_followWays -/
def xt_48 : xM := ((yX1_followWays, cX1_followWays, 2, none, RX1, 4, 102), [xt_48_0, xt_48_1, xt_48_2, xt_48_3, xt_48_4, xt_48_5, xt_48_6, xt_48_7, xt_48_8], [(39, 1, 2, 2), (112, 1, 8, 0), (115, 1, 9, 1), (119, 1, 7, 0), (42, 1, 6, 0), (9, 1, 3, 2), (15, 1, 4, 2), (18, 1, 5, 2)], [(105, 49, 0, 0, 1), (98, 34, 2, 0, 0), (109, 50, 0, 0, 1), (101, 36, 0, 0, 0), (95, 33, 2, 0, 0)], [(108, 65535)])
def xt_49_0 : List (Option (Instr × Nat)) := [some (.aload_n 0, 1), some (.getfield 39, 3), none, none, some (.invokevirtual 92, 3), none, none, some (.iconst 0, 1), some (.istore_n 1, 1), some (.iload_n 1, 1), some (.aload_n 0, 1), some (.getfield 42, 3), none, none, some (.if_icmp .ge 28, 3), none]
def xt_49_1 : List (Option (Instr × Nat)) := [none, some (.aload_n 0, 1), some (.getfield 39, 3), none, none, some (.aload_n 0, 1), some (.getfield 9, 3), none, none, some (.iload_n 1, 1), some (.iaload, 1), some (.aload_n 0, 1), some (.getfield 15, 3), none, none, some (.iload_n 1, 1)]
def xt_49_2 : List (Option (Instr × Nat)) := [some (.iaload, 1), some (.invokevirtual 126, 3), none, none, some (.iinc 1 1, 3), none, none, some (.goto (-30), 3), none, none, some (.return_, 1)]
/-- 49: X1_doAllMends -/
def xt_49 : xM := ((yX1_doAllMends, cX1_doAllMends, 2, none, RX1, 1, 21), [xt_49_0, xt_49_1, xt_49_2], [(39, 1, 2, 2), (42, 1, 6, 0), (9, 1, 3, 2), (15, 1, 4, 2)], [(92, 32, 0, 0, 0)], [])
def xt_50_0 : List (Option (Instr × Nat)) := [some (.iconst 0, 1), some (.istore_n 1, 1), some (.iconst 0, 1), some (.istore_n 2, 1), some (.iload_n 2, 1), some (.aload_n 0, 1), some (.getfield 42, 3), none, none, some (.if_icmp .ge 38, 3), none, none, some (.iload_n 1, 1), some (.iload_n 2, 1), some (.aload_n 0, 1), some (.getfield 39, 3)]
def xt_50_1 : List (Option (Instr × Nat)) := [none, none, some (.getfield 45, 3), none, none, some (.aload_n 0, 1), some (.getfield 9, 3), none, none, some (.iload_n 2, 1), some (.iaload, 1), some (.iaload, 1), some (.aload_n 0, 1), some (.getfield 15, 3), none, none]
def xt_50_2 : List (Option (Instr × Nat)) := [some (.iload_n 2, 1), some (.iaload, 1), some (.invokestatic 53, 3), none, none, some (.invokestatic 122, 3), none, none, some (.istore_n 1, 1), some (.iinc 2 1, 3), none, none, some (.goto (-40), 3), none, none, some (.iload_n 1, 1)]
def xt_50_3 : List (Option (Instr × Nat)) := [some (.ireturn, 1)]
/-- 50: X1_mendsComeTo -/
def xt_50 : xM := ((yX1_mendsComeTo, cX1_mendsComeTo, 3, some .int, RX1, 1, 21), [xt_50_0, xt_50_1, xt_50_2, xt_50_3], [(42, 1, 6, 0), (39, 1, 2, 2), (45, 0, 8, 2), (9, 1, 3, 2), (15, 1, 4, 2)], [(53, 27, 2, 2, 0)], [])
def xt_51_0 : List (Option (Instr × Nat)) := [some (.aload_n 0, 1), some (.getfield 115, 3), none, none, some (.ifCond .eq 5, 3), none, none, some (.iconst (-1), 1), some (.ireturn, 1), some (.iconst (-1), 1), some (.istore_n 2, 1), some (.sipush 1189, 3), none, none, some (.istore_n 3, 1), some (.iconst 0, 1)]
def xt_51_1 : List (Option (Instr × Nat)) := [some (.istore 4, 2), none, some (.iload 4, 2), none, some (.iconst 1, 1), some (.aload_n 0, 1), some (.getfield 42, 3), none, none, some (.ishl, 1), some (.if_icmp .ge 39, 3), none, none, some (.aload_n 0, 1), some (.iload 4, 2), none]
def xt_51_2 : List (Option (Instr × Nat)) := [some (.aload_n 1, 1), some (.invokevirtual 71, 3), none, none, some (.istore 5, 2), none, some (.iload 5, 2), none, some (.iload_n 3, 1), some (.if_icmp .ge 18, 3), none, none, some (.aload_n 0, 1), some (.iload 4, 2), none, some (.invokevirtual 129, 3)]
def xt_51_3 : List (Option (Instr × Nat)) := [none, none, some (.ifCond .eq 9, 3), none, none, some (.iload 4, 2), none, some (.istore_n 2, 1), some (.iload 5, 2), none, some (.istore_n 3, 1), some (.iinc 4 1, 3), none, none, some (.goto (-44), 3), none]
def xt_51_4 : List (Option (Instr × Nat)) := [none, some (.iload_n 2, 1), some (.ireturn, 1)]
/-- 51: X1_cheapest -/
def xt_51 : xM := ((yX1_cheapest, cX1_cheapest, 6, some .int, RX1, 2, 45), [xt_51_0, xt_51_1, xt_51_2, xt_51_3, xt_51_4], [(115, 1, 9, 1), (42, 1, 6, 0)], [(71, 52, 2, 0, 1), (129, 53, 1, 0, 1)], [])
def xt_52_0 : List (Option (Instr × Nat)) := [some (.iconst 0, 1), some (.istore_n 3, 1), some (.iconst 0, 1), some (.istore 4, 2), none, some (.iload 4, 2), none, some (.aload_n 0, 1), some (.getfield 42, 3), none, none, some (.if_icmp .ge 30, 3), none, none, some (.iload_n 1, 1), some (.iload 4, 2)]
def xt_52_1 : List (Option (Instr × Nat)) := [none, some (.invokestatic 53, 3), none, none, some (.ifCond .eq 15, 3), none, none, some (.iload_n 3, 1), some (.aload_n 2, 1), some (.aload_n 0, 1), some (.getfield 9, 3), none, none, some (.iload 4, 2), none, some (.iaload, 1)]
def xt_52_2 : List (Option (Instr × Nat)) := [some (.iaload, 1), some (.iadd, 1), some (.istore_n 3, 1), some (.iinc 4 1, 3), none, none, some (.goto (-33), 3), none, none, some (.iload_n 3, 1), some (.ireturn, 1)]
/-- 52: X1_costOf -/
def xt_52 : xM := ((yX1_costOf, cX1_costOf, 5, some .int, RX1, 1, 21), [xt_52_0, xt_52_1, xt_52_2], [(42, 1, 6, 0), (9, 1, 3, 2)], [(53, 27, 2, 2, 0)], [])
def xt_53_0 : List (Option (Instr × Nat)) := [some (.aload_n 0, 1), some (.getfield 112, 3), none, none, some (.iload_n 1, 1), some (.iconst (-1), 1), some (.ixor, 1), some (.iand, 1), some (.istore_n 2, 1), some (.iconst 0, 1), some (.istore_n 3, 1), some (.iload_n 3, 1), some (.aload_n 0, 1), some (.getfield 42, 3), none, none]
def xt_53_1 : List (Option (Instr × Nat)) := [some (.if_icmp .ge 50, 3), none, none, some (.iconst 0, 1), some (.istore 4, 2), none, some (.iload 4, 2), none, some (.aload_n 0, 1), some (.getfield 42, 3), none, none, some (.if_icmp .ge 32, 3), none, none, some (.iload_n 2, 1)]
def xt_53_2 : List (Option (Instr × Nat)) := [some (.iload 4, 2), none, some (.invokestatic 53, 3), none, none, some (.ifCond .eq 17, 3), none, none, some (.iload_n 2, 1), some (.aload_n 0, 1), some (.getfield 18, 3), none, none, some (.iload 4, 2), none, some (.iaload, 1)]
def xt_53_3 : List (Option (Instr × Nat)) := [some (.iload_n 1, 1), some (.iconst (-1), 1), some (.ixor, 1), some (.iand, 1), some (.ior, 1), some (.istore_n 2, 1), some (.iinc 4 1, 3), none, none, some (.goto (-35), 3), none, none, some (.iinc 3 1, 3), none, none, some (.goto (-52), 3)]
def xt_53_4 : List (Option (Instr × Nat)) := [none, none, some (.iload_n 2, 1), some (.aload_n 0, 1), some (.getfield 119, 3), none, none, some (.iand, 1), some (.ifCond .ne 7, 3), none, none, some (.iconst 1, 1), some (.goto 4, 3), none, none, some (.iconst 0, 1)]
def xt_53_5 : List (Option (Instr × Nat)) := [some (.ireturn, 1)]
/-- 53: X1_cutsAllWays -/
def xt_53 : xM := ((yX1_cutsAllWays, cX1_cutsAllWays, 5, some .boolean, RX1, 1, 21), [xt_53_0, xt_53_1, xt_53_2, xt_53_3, xt_53_4, xt_53_5], [(112, 1, 8, 0), (42, 1, 6, 0), (18, 1, 5, 2), (119, 1, 7, 0)], [(53, 27, 2, 2, 0)], [])
def xt_54_0 : List (Option (Instr × Nat)) := [some (.aload_n 0, 1), some (.iconst 0, 1), some (.putfield 27, 3), none, none, some (.iconst 0, 1), some (.istore_n 2, 1), some (.iload_n 2, 1), some (.aload_n 0, 1), some (.getfield 42, 3), none, none, some (.if_icmp .ge 57, 3), none, none, some (.iload_n 1, 1)]
def xt_54_1 : List (Option (Instr × Nat)) := [some (.iload_n 2, 1), some (.invokestatic 53, 3), none, none, some (.ifCond .eq 43, 3), none, none, some (.aload_n 0, 1), some (.getfield 21, 3), none, none, some (.aload_n 0, 1), some (.getfield 27, 3), none, none, some (.aload_n 0, 1)]
def xt_54_2 : List (Option (Instr × Nat)) := [some (.getfield 9, 3), none, none, some (.iload_n 2, 1), some (.iaload, 1), some (.iastore, 1), some (.aload_n 0, 1), some (.getfield 24, 3), none, none, some (.aload_n 0, 1), some (.getfield 27, 3), none, none, some (.aload_n 0, 1), some (.getfield 15, 3)]
def xt_54_3 : List (Option (Instr × Nat)) := [none, none, some (.iload_n 2, 1), some (.iaload, 1), some (.iastore, 1), some (.aload_n 0, 1), some (.dup, 1), some (.getfield 27, 3), none, none, some (.iconst 1, 1), some (.iadd, 1), some (.putfield 27, 3), none, none, some (.iinc 2 1, 3)]
def xt_54_4 : List (Option (Instr × Nat)) := [none, none, some (.goto (-59), 3), none, none, some (.return_, 1)]
/-- 54: X1_keep -/
def xt_54 : xM := ((yX1_keep, cX1_keep, 3, none, RX1, 1, 21), [xt_54_0, xt_54_1, xt_54_2, xt_54_3, xt_54_4], [(27, 1, 12, 0), (42, 1, 6, 0), (21, 1, 10, 2), (9, 1, 3, 2), (24, 1, 11, 2), (15, 1, 4, 2)], [(53, 27, 2, 2, 0)], [])
def xt_55_0 : List (Option (Instr × Nat)) := [some (.iload_n 0, 1), some (.iload_n 1, 1), some (.if_icmp .lt 12, 3), none, none, some (.iload_n 0, 1), some (.iload_n 2, 1), some (.if_icmp .gt 7, 3), none, none, some (.iconst 1, 1), some (.goto 4, 3), none, none, some (.iconst 0, 1), some (.ireturn, 1)]
/-- 55: X5_in -/
def xt_55 : xM := ((yX5_in, cX5_in, 3, some .boolean, RX5, 0, 0), [xt_55_0], [], [], [])
def xt_56_0 : List (Option (Instr × Nat)) := [some (.iload_n 0, 1), some (.iconst 0, 1), some (.iconst 5, 1), some (.invokestatic 101, 3), none, none, some (.ireturn, 1)]
/-- 56: X5_isFunction -/
def xt_56 : xM := ((yX5_isFunction, cX5_isFunction, 1, some .boolean, RX5, 1, 22), [xt_56_0], [], [(101, 55, 3, 1, 0)], [])
def xt_57_0 : List (Option (Instr × Nat)) := [some (.iload_n 0, 1), some (.iconst 0, 1), some (.bipush 15, 2), none, some (.invokestatic 101, 3), none, none, some (.ireturn, 1)]
/-- 57: X5_isCell -/
def xt_57 : xM := ((yX5_isCell, cX5_isCell, 1, some .boolean, RX5, 1, 22), [xt_57_0], [], [(101, 55, 3, 1, 0)], [])
def xt_58_0 : List (Option (Instr × Nat)) := [some (.iload_n 0, 1), some (.invokestatic 105, 3), none, none, some (.ifCond .eq 25, 3), none, none, some (.iload_n 1, 1), some (.iconst 1, 1), some (.bipush 8, 2), none, some (.invokestatic 101, 3), none, none, some (.ifCond .eq 15, 3), none]
def xt_58_1 : List (Option (Instr × Nat)) := [none, some (.iload_n 0, 1), some (.iload_n 1, 1), some (.iadd, 1), some (.bipush 16, 2), none, some (.if_icmp .gt 7, 3), none, none, some (.iconst 1, 1), some (.goto 4, 3), none, none, some (.iconst 0, 1), some (.ireturn, 1)]
/-- 58: X5_isRow -/
def xt_58 : xM := ((yX5_isRow, cX5_isRow, 2, some .boolean, RX5, 2, 42), [xt_58_0, xt_58_1], [], [(105, 57, 1, 1, 0), (101, 55, 3, 1, 0)], [])
def xt_59_0 : List (Option (Instr × Nat)) := [some (.iload_n 0, 1), some (.tableswitch 341 0 11 #[63, 96, 123, 152, 152, 178, 211, 240, 269, 295, 318, 318], 63), none, none, none, none, none, none, none, none, none, none, none, none, none, none]
def xt_59_1 : List (Option (Instr × Nat)) := [none, none, none, none, none, none, none, none, none, none, none, none, none, none, none, none]
def xt_59_2 : List (Option (Instr × Nat)) := [none, none, none, none, none, none, none, none, none, none, none, none, none, none, none, none]
def xt_59_3 : List (Option (Instr × Nat)) := [none, none, none, none, none, none, none, none, none, none, none, none, none, none, none, none]
def xt_59_4 : List (Option (Instr × Nat)) := [some (.iload_n 1, 1), some (.invokestatic 105, 3), none, none, some (.ifCond .eq 27, 3), none, none, some (.iload_n 2, 1), some (.iconst 0, 1), some (.sipush 255, 3), none, none, some (.invokestatic 101, 3), none, none, some (.ifCond .eq 16, 3)]
def xt_59_5 : List (Option (Instr × Nat)) := [none, none, some (.iload_n 3, 1), some (.ifCond .ne 12, 3), none, none, some (.iload 4, 2), none, some (.ifCond .ne 7, 3), none, none, some (.iconst 1, 1), some (.goto 4, 3), none, none, some (.iconst 0, 1)]
def xt_59_6 : List (Option (Instr × Nat)) := [some (.ireturn, 1), some (.iload_n 1, 1), some (.iload_n 3, 1), some (.invokestatic 109, 3), none, none, some (.ifCond .eq 20, 3), none, none, some (.iload_n 2, 1), some (.iload_n 3, 1), some (.invokestatic 109, 3), none, none, some (.ifCond .eq 12, 3), none]
def xt_59_7 : List (Option (Instr × Nat)) := [none, some (.iload 4, 2), none, some (.ifCond .ne 7, 3), none, none, some (.iconst 1, 1), some (.goto 4, 3), none, none, some (.iconst 0, 1), some (.ireturn, 1), some (.iload_n 1, 1), some (.invokestatic 105, 3), none, none]
def xt_59_8 : List (Option (Instr × Nat)) := [some (.ifCond .eq 23, 3), none, none, some (.iload_n 2, 1), some (.invokestatic 105, 3), none, none, some (.ifCond .eq 16, 3), none, none, some (.iload_n 3, 1), some (.ifCond .ne 12, 3), none, none, some (.iload 4, 2), none]
def xt_59_9 : List (Option (Instr × Nat)) := [some (.ifCond .ne 7, 3), none, none, some (.iconst 1, 1), some (.goto 4, 3), none, none, some (.iconst 0, 1), some (.ireturn, 1), some (.iload_n 1, 1), some (.invokestatic 105, 3), none, none, some (.ifCond .eq 20, 3), none, none]
def xt_59_10 : List (Option (Instr × Nat)) := [some (.iload_n 2, 1), some (.ifCond .ne 16, 3), none, none, some (.iload_n 3, 1), some (.ifCond .ne 12, 3), none, none, some (.iload 4, 2), none, some (.ifCond .ne 7, 3), none, none, some (.iconst 1, 1), some (.goto 4, 3), none]
def xt_59_11 : List (Option (Instr × Nat)) := [none, some (.iconst 0, 1), some (.ireturn, 1), some (.iload_n 1, 1), some (.invokestatic 105, 3), none, none, some (.ifCond .eq 27, 3), none, none, some (.iload_n 2, 1), some (.bipush (-30), 2), none, some (.bipush 30, 2), none, some (.invokestatic 101, 3)]
def xt_59_12 : List (Option (Instr × Nat)) := [none, none, some (.ifCond .eq 16, 3), none, none, some (.iload_n 3, 1), some (.ifCond .ne 12, 3), none, none, some (.iload 4, 2), none, some (.ifCond .ne 7, 3), none, none, some (.iconst 1, 1), some (.goto 4, 3)]
def xt_59_13 : List (Option (Instr × Nat)) := [none, none, some (.iconst 0, 1), some (.ireturn, 1), some (.iload_n 1, 1), some (.iload_n 2, 1), some (.invokestatic 109, 3), none, none, some (.ifCond .eq 22, 3), none, none, some (.iload_n 3, 1), some (.invokestatic 105, 3), none, none]
def xt_59_14 : List (Option (Instr × Nat)) := [some (.ifCond .eq 15, 3), none, none, some (.iload 4, 2), none, some (.invokestatic 105, 3), none, none, some (.ifCond .eq 7, 3), none, none, some (.iconst 1, 1), some (.goto 4, 3), none, none, some (.iconst 0, 1)]
def xt_59_15 : List (Option (Instr × Nat)) := [some (.ireturn, 1), some (.iload_n 1, 1), some (.invokestatic 105, 3), none, none, some (.ifCond .eq 23, 3), none, none, some (.iload_n 2, 1), some (.iload_n 3, 1), some (.invokestatic 109, 3), none, none, some (.ifCond .eq 15, 3), none, none]
def xt_59_16 : List (Option (Instr × Nat)) := [some (.iload 4, 2), none, some (.invokestatic 105, 3), none, none, some (.ifCond .eq 7, 3), none, none, some (.iconst 1, 1), some (.goto 4, 3), none, none, some (.iconst 0, 1), some (.ireturn, 1), some (.iload_n 1, 1), some (.invokestatic 113, 3)]
def xt_59_17 : List (Option (Instr × Nat)) := [none, none, some (.ifCond .eq 20, 3), none, none, some (.iload_n 2, 1), some (.ifCond .ne 16, 3), none, none, some (.iload_n 3, 1), some (.ifCond .ne 12, 3), none, none, some (.iload 4, 2), none, some (.ifCond .ne 7, 3)]
def xt_59_18 : List (Option (Instr × Nat)) := [none, none, some (.iconst 1, 1), some (.goto 4, 3), none, none, some (.iconst 0, 1), some (.ireturn, 1), some (.iload_n 1, 1), some (.ifCond .ne 20, 3), none, none, some (.iload_n 2, 1), some (.ifCond .ne 16, 3), none, none]
def xt_59_19 : List (Option (Instr × Nat)) := [some (.iload_n 3, 1), some (.ifCond .ne 12, 3), none, none, some (.iload 4, 2), none, some (.ifCond .ne 7, 3), none, none, some (.iconst 1, 1), some (.goto 4, 3), none, none, some (.iconst 0, 1), some (.ireturn, 1), some (.iload_n 1, 1)]
def xt_59_20 : List (Option (Instr × Nat)) := [some (.iload_n 2, 1), some (.invokestatic 109, 3), none, none, some (.ifCond .eq 16, 3), none, none, some (.iload_n 3, 1), some (.ifCond .ne 12, 3), none, none, some (.iload 4, 2), none, some (.ifCond .ne 7, 3), none, none]
def xt_59_21 : List (Option (Instr × Nat)) := [some (.iconst 1, 1), some (.goto 4, 3), none, none, some (.iconst 0, 1), some (.ireturn, 1), some (.iconst 0, 1), some (.ireturn, 1)]
/-- 59: X5_isGood -/
def xt_59 : xM := ((yX5_isGood, cX5_isGood, 5, some .boolean, RX5, 3, 63), [xt_59_0, xt_59_1, xt_59_2, xt_59_3, xt_59_4, xt_59_5, xt_59_6, xt_59_7, xt_59_8, xt_59_9, xt_59_10, xt_59_11, xt_59_12, xt_59_13, xt_59_14, xt_59_15, xt_59_16, xt_59_17, xt_59_18, xt_59_19, xt_59_20, xt_59_21], [], [(105, 57, 1, 1, 0), (101, 55, 3, 1, 0), (109, 58, 2, 1, 0), (113, 56, 1, 1, 0)], [])
def xt_60_0 : List (Option (Instr × Nat)) := [some (.iconst 5, 1), some (.bipush 30, 2), none, some (.iload_n 1, 1), some (.imul, 1), some (.iload_n 2, 1), some (.iadd, 1), some (.imul, 1), some (.istore 8, 2), none, some (.aload_n 0, 1), some (.getfield 7, 3), none, none, some (.iload 8, 2), none]
def xt_60_1 : List (Option (Instr × Nat)) := [some (.iload_n 3, 1), some (.iastore, 1), some (.aload_n 0, 1), some (.getfield 7, 3), none, none, some (.iload 8, 2), none, some (.iconst 1, 1), some (.iadd, 1), some (.iload 4, 2), none, some (.iastore, 1), some (.aload_n 0, 1), some (.getfield 7, 3), none]
def xt_60_2 : List (Option (Instr × Nat)) := [none, some (.iload 8, 2), none, some (.iconst 2, 1), some (.iadd, 1), some (.iload 5, 2), none, some (.iastore, 1), some (.aload_n 0, 1), some (.getfield 7, 3), none, none, some (.iload 8, 2), none, some (.iconst 3, 1), some (.iadd, 1)]
def xt_60_3 : List (Option (Instr × Nat)) := [some (.iload 6, 2), none, some (.iastore, 1), some (.aload_n 0, 1), some (.getfield 7, 3), none, none, some (.iload 8, 2), none, some (.iconst 4, 1), some (.iadd, 1), some (.iload 7, 2), none, some (.iastore, 1), some (.aload_n 0, 1), some (.iconst 1, 1)]
def xt_60_4 : List (Option (Instr × Nat)) := [some (.putfield 116, 3), none, none, some (.return_, 1)]
/-- 60: X5_puts -/
def xt_60 : xM := ((yX5_puts, cX5_puts, 9, none, RX5, 0, 0), [xt_60_0, xt_60_1, xt_60_2, xt_60_3, xt_60_4], [(7, 5, 0, 2), (116, 5, 5, 1)], [], [])
def xt_61_0 : List (Option (Instr × Nat)) := [some (.iload_n 1, 1), some (.invokestatic 113, 3), none, none, some (.ifCond .eq 28, 3), none, none, some (.aload_n 0, 1), some (.getfield 13, 3), none, none, some (.iload_n 1, 1), some (.iaload, 1), some (.bipush 30, 2), none, some (.if_icmp .eq 17, 3)]
def xt_61_1 : List (Option (Instr × Nat)) := [none, none, some (.iload_n 2, 1), some (.iload_n 3, 1), some (.iload 4, 2), none, some (.iload 5, 2), none, some (.iload 6, 2), none, some (.invokestatic 120, 3), none, none, some (.ifCond .ne 5, 3), none, none]
def xt_61_2 : List (Option (Instr × Nat)) := [some (.iconst (-1), 1), some (.ireturn, 1), some (.aload_n 0, 1), some (.iload_n 1, 1), some (.aload_n 0, 1), some (.getfield 13, 3), none, none, some (.iload_n 1, 1), some (.iaload, 1), some (.iload_n 2, 1), some (.iload_n 3, 1), some (.iload 4, 2), none, some (.iload 5, 2), none]
def xt_61_3 : List (Option (Instr × Nat)) := [some (.iload 6, 2), none, some (.invokevirtual 124, 3), none, none, some (.aload_n 0, 1), some (.getfield 13, 3), none, none, some (.iload_n 1, 1), some (.dup2, 1), some (.iaload, 1), some (.iconst 1, 1), some (.iadd, 1), some (.iastore, 1), some (.aload_n 0, 1)]
def xt_61_4 : List (Option (Instr × Nat)) := [some (.getfield 13, 3), none, none, some (.iload_n 1, 1), some (.iaload, 1), some (.ireturn, 1)]
/-- 61: X5_code -/
def xt_61 : xM := ((yX5_code, cX5_code, 7, some .int, RX5, 4, 87), [xt_61_0, xt_61_1, xt_61_2, xt_61_3, xt_61_4], [(13, 5, 1, 2)], [(113, 56, 1, 1, 0), (120, 59, 5, 1, 0), (124, 60, 7, 0, 5)], [])
def xt_62_0 : List (Option (Instr × Nat)) := [some (.iload_n 1, 1), some (.invokestatic 113, 3), none, none, some (.ifCond .eq 34, 3), none, none, some (.iload_n 2, 1), some (.iconst 0, 1), some (.aload_n 0, 1), some (.getfield 13, 3), none, none, some (.iload_n 1, 1), some (.iaload, 1), some (.iconst 1, 1)]
def xt_62_1 : List (Option (Instr × Nat)) := [some (.isub, 1), some (.invokestatic 101, 3), none, none, some (.ifCond .eq 18, 3), none, none, some (.iload_n 3, 1), some (.iload 4, 2), none, some (.iload 5, 2), none, some (.iload 6, 2), none, some (.iload 7, 2), none]
def xt_62_2 : List (Option (Instr × Nat)) := [some (.invokestatic 120, 3), none, none, some (.ifCond .ne 5, 3), none, none, some (.iconst 0, 1), some (.ireturn, 1), some (.aload_n 0, 1), some (.iload_n 1, 1), some (.iload_n 2, 1), some (.iload_n 3, 1), some (.iload 4, 2), none, some (.iload 5, 2), none]
def xt_62_3 : List (Option (Instr × Nat)) := [some (.iload 6, 2), none, some (.iload 7, 2), none, some (.invokevirtual 124, 3), none, none, some (.iconst 1, 1), some (.ireturn, 1)]
/-- 62: X5_change -/
def xt_62 : xM := ((yX5_change, cX5_change, 8, some .boolean, RX5, 4, 87), [xt_62_0, xt_62_1, xt_62_2, xt_62_3], [(13, 5, 1, 2)], [(113, 56, 1, 1, 0), (101, 55, 3, 1, 0), (120, 59, 5, 1, 0), (124, 60, 7, 0, 5)], [])
def xt_63_0 : List (Option (Instr × Nat)) := [some (.iload_n 1, 1), some (.invokestatic 113, 3), none, none, some (.ifCond .ne 5, 3), none, none, some (.iconst (-1), 1), some (.ireturn, 1), some (.aload_n 0, 1), some (.getfield 13, 3), none, none, some (.iload_n 1, 1), some (.iaload, 1), some (.istore_n 2, 1)]
def xt_63_1 : List (Option (Instr × Nat)) := [some (.aload_n 0, 1), some (.getfield 13, 3), none, none, some (.iload_n 1, 1), some (.iconst 0, 1), some (.iastore, 1), some (.aload_n 0, 1), some (.iconst 1, 1), some (.putfield 116, 3), none, none, some (.iload_n 2, 1), some (.ireturn, 1)]
/-- 63: X5_clear -/
def xt_63 : xM := ((yX5_clear, cX5_clear, 3, some .int, RX5, 2, 42), [xt_63_0, xt_63_1], [(13, 5, 1, 2), (116, 5, 5, 1)], [(113, 56, 1, 1, 0)], [])
def xt_64_0 : List (Option (Instr × Nat)) := [some (.aload_n 0, 1), some (.getfield 128, 3), none, none, some (.bipush 16, 2), none, some (.if_icmp .eq 14, 3), none, none, some (.iload_n 1, 1), some (.iconst 0, 1), some (.sipush 255, 3), none, none, some (.invokestatic 101, 3), none]
def xt_64_1 : List (Option (Instr × Nat)) := [none, some (.ifCond .ne 5, 3), none, none, some (.iconst (-1), 1), some (.ireturn, 1), some (.aload_n 0, 1), some (.getfield 19, 3), none, none, some (.aload_n 0, 1), some (.getfield 128, 3), none, none, some (.iload_n 1, 1), some (.iastore, 1)]
def xt_64_2 : List (Option (Instr × Nat)) := [some (.aload_n 0, 1), some (.dup, 1), some (.getfield 128, 3), none, none, some (.iconst 1, 1), some (.iadd, 1), some (.putfield 128, 3), none, none, some (.aload_n 0, 1), some (.getfield 128, 3), none, none, some (.ireturn, 1)]
/-- 64: X5_input -/
def xt_64 : xM := ((yX5_input, cX5_input, 2, some .int, RX5, 1, 22), [xt_64_0, xt_64_1, xt_64_2], [(128, 5, 4, 0), (19, 5, 3, 2)], [(101, 55, 3, 1, 0)], [])
def xt_65_0 : List (Option (Instr × Nat)) := [some (.aload_n 0, 1), some (.getfield 128, 3), none, none, some (.istore_n 1, 1), some (.aload_n 0, 1), some (.iconst 0, 1), some (.putfield 128, 3), none, none, some (.iload_n 1, 1), some (.ireturn, 1)]
/-- 65: X5_empty -/
def xt_65 : xM := ((yX5_empty, cX5_empty, 2, some .int, RX5, 0, 0), [xt_65_0], [(128, 5, 4, 0)], [], [])
def xt_66_0 : List (Option (Instr × Nat)) := [some (.iconst 0, 1), some (.istore_n 1, 1), some (.iload_n 1, 1), some (.bipush 16, 2), none, some (.if_icmp .ge 23, 3), none, none, some (.aload_n 0, 1), some (.getfield 22, 3), none, none, some (.iload_n 1, 1), some (.iconst 0, 1), some (.iastore, 1), some (.aload_n 0, 1)]
def xt_66_1 : List (Option (Instr × Nat)) := [some (.getfield 25, 3), none, none, some (.iload_n 1, 1), some (.iconst 0, 1), some (.bastore, 1), some (.iinc 1 1, 3), none, none, some (.goto (-23), 3), none, none, some (.aload_n 0, 1), some (.iconst 0, 1), some (.putfield 177, 3), none]
def xt_66_2 : List (Option (Instr × Nat)) := [none, some (.aload_n 0, 1), some (.iconst 0, 1), some (.putfield 141, 3), none, none, some (.aload_n 0, 1), some (.iconst (-1), 1), some (.putfield 144, 3), none, none, some (.aload_n 0, 1), some (.iconst (-1), 1), some (.putfield 147, 3), none, none]
def xt_66_3 : List (Option (Instr × Nat)) := [some (.aload_n 0, 1), some (.iconst 0, 1), some (.putfield 174, 3), none, none, some (.aload_n 0, 1), some (.iconst 0, 1), some (.putfield 135, 3), none, none, some (.aload_n 0, 1), some (.iconst 0, 1), some (.putfield 156, 3), none, none, some (.iconst 0, 1)]
def xt_66_4 : List (Option (Instr × Nat)) := [some (.istore_n 1, 1), some (.aload_n 0, 1), some (.getfield 29, 3), none, none, some (.iconst 0, 1), some (.iconst 0, 1), some (.iastore, 1), some (.aload_n 0, 1), some (.getfield 32, 3), none, none, some (.iconst 0, 1), some (.iconst 0, 1), some (.iastore, 1), some (.iload_n 1, 1)]
def xt_66_5 : List (Option (Instr × Nat)) := [some (.ifCond .lt 231, 3), none, none, some (.aload_n 0, 1), some (.getfield 29, 3), none, none, some (.iload_n 1, 1), some (.iaload, 1), some (.istore_n 2, 1), some (.aload_n 0, 1), some (.getfield 32, 3), none, none, some (.iload_n 1, 1), some (.iaload, 1)]
def xt_66_6 : List (Option (Instr × Nat)) := [some (.istore_n 3, 1), some (.iload_n 3, 1), some (.aload_n 0, 1), some (.getfield 13, 3), none, none, some (.iload_n 2, 1), some (.iaload, 1), some (.if_icmp .lt 9, 3), none, none, some (.iinc 1 (-1), 3), none, none, some (.goto (-31), 3), none]
def xt_66_7 : List (Option (Instr × Nat)) := [none, some (.aload_n 0, 1), some (.getfield 177, 3), none, none, some (.sipush 1000, 3), none, none, some (.if_icmp .ne 5, 3), none, none, some (.iconst 2, 1), some (.ireturn, 1), some (.iconst 5, 1), some (.bipush 30, 2), none]
def xt_66_8 : List (Option (Instr × Nat)) := [some (.iload_n 2, 1), some (.imul, 1), some (.iload_n 3, 1), some (.iadd, 1), some (.imul, 1), some (.istore 4, 2), none, some (.aload_n 0, 1), some (.getfield 7, 3), none, none, some (.iload 4, 2), none, some (.iaload, 1), some (.istore 5, 2), none]
def xt_66_9 : List (Option (Instr × Nat)) := [some (.iload 5, 2), none, some (.bipush 8, 2), none, some (.if_icmp .ne 13, 3), none, none, some (.iload_n 1, 1), some (.iconst 1, 1), some (.iadd, 1), some (.bipush 12, 2), none, some (.if_icmp .ne 5, 3), none, none, some (.iconst 3, 1)]
def xt_66_10 : List (Option (Instr × Nat)) := [some (.ireturn, 1), some (.aload_n 0, 1), some (.getfield 32, 3), none, none, some (.iload_n 1, 1), some (.iload_n 3, 1), some (.iconst 1, 1), some (.iadd, 1), some (.iastore, 1), some (.iload 5, 2), none, some (.iconst 5, 1), some (.if_icmp .ne 66, 3), none, none]
def xt_66_11 : List (Option (Instr × Nat)) := [some (.aload_n 0, 1), some (.iload_n 2, 1), some (.iload_n 3, 1), some (.aload_n 0, 1), some (.getfield 7, 3), none, none, some (.iload 4, 2), none, some (.iconst 1, 1), some (.iadd, 1), some (.iaload, 1), some (.invokevirtual 171, 3), none, none, some (.aload_n 0, 1)]
def xt_66_12 : List (Option (Instr × Nat)) := [some (.getfield 22, 3), none, none, some (.aload_n 0, 1), some (.getfield 7, 3), none, none, some (.iload 4, 2), none, some (.iconst 1, 1), some (.iadd, 1), some (.iaload, 1), some (.iaload, 1), some (.ifCond .ne 93, 3), none, none]
def xt_66_13 : List (Option (Instr × Nat)) := [some (.aload_n 0, 1), some (.getfield 32, 3), none, none, some (.iload_n 1, 1), some (.iload_n 3, 1), some (.iconst 1, 1), some (.iadd, 1), some (.aload_n 0, 1), some (.getfield 7, 3), none, none, some (.iload 4, 2), none, some (.iconst 2, 1), some (.iadd, 1)]
def xt_66_14 : List (Option (Instr × Nat)) := [some (.iaload, 1), some (.iadd, 1), some (.aload_n 0, 1), some (.getfield 13, 3), none, none, some (.iload_n 2, 1), some (.iaload, 1), some (.invokestatic 180, 3), none, none, some (.iastore, 1), some (.goto 62, 3), none, none, some (.iload 5, 2)]
def xt_66_15 : List (Option (Instr × Nat)) := [none, some (.bipush 8, 2), none, some (.if_icmp .ne 31, 3), none, none, some (.iinc 1 1, 3), none, none, some (.aload_n 0, 1), some (.getfield 29, 3), none, none, some (.iload_n 1, 1), some (.aload_n 0, 1), some (.getfield 7, 3)]
def xt_66_16 : List (Option (Instr × Nat)) := [none, none, some (.iload 4, 2), none, some (.iconst 1, 1), some (.iadd, 1), some (.iaload, 1), some (.iastore, 1), some (.aload_n 0, 1), some (.getfield 32, 3), none, none, some (.iload_n 1, 1), some (.iconst 0, 1), some (.iastore, 1), some (.goto 27, 3)]
def xt_66_17 : List (Option (Instr × Nat)) := [none, none, some (.iload 5, 2), none, some (.bipush 9, 2), none, some (.if_icmp .ne 9, 3), none, none, some (.iinc 1 (-1), 3), none, none, some (.goto 14, 3), none, none, some (.aload_n 0, 1)]
def xt_66_18 : List (Option (Instr × Nat)) := [some (.iload_n 2, 1), some (.iload_n 3, 1), some (.invokevirtual 184, 3), none, none, some (.ifCond .ne 5, 3), none, none, some (.iconst 1, 1), some (.ireturn, 1), some (.aload_n 0, 1), some (.dup, 1), some (.getfield 177, 3), none, none, some (.iconst 1, 1)]
def xt_66_19 : List (Option (Instr × Nat)) := [some (.iadd, 1), some (.putfield 177, 3), none, none, some (.goto (-229), 3), none, none, some (.iconst 0, 1), some (.ireturn, 1)]
/-- 66: X5_runs -/
def xt_66 : xM := ((yX5_runs, cX5_runs, 6, some .int, RX5, 0, 0), [xt_66_0, xt_66_1, xt_66_2, xt_66_3, xt_66_4, xt_66_5, xt_66_6, xt_66_7, xt_66_8, xt_66_9, xt_66_10, xt_66_11, xt_66_12, xt_66_13, xt_66_14, xt_66_15, xt_66_16, xt_66_17, xt_66_18, xt_66_19], [(22, 5, 6, 2), (25, 5, 7, 2), (177, 5, 10, 0), (141, 5, 11, 0), (144, 5, 12, 0), (147, 5, 13, 0), (174, 5, 14, 0), (135, 5, 18, 0), (156, 5, 21, 1), (29, 5, 8, 2), (32, 5, 9, 2), (13, 5, 1, 2), (7, 5, 0, 2)], [], [])
def xt_67_0 : List (Option (Instr × Nat)) := [some (.aload_n 0, 1), some (.iconst 0, 1), some (.putfield 132, 3), none, none, some (.aload_n 0, 1), some (.iconst (-1), 1), some (.putfield 150, 3), none, none, some (.aload_n 0, 1), some (.invokevirtual 187, 3), none, none, some (.istore_n 1, 1), some (.aload_n 0, 1)]
def xt_67_1 : List (Option (Instr × Nat)) := [some (.iconst 1, 1), some (.putfield 190, 3), none, none, some (.aload_n 0, 1), some (.aload_n 0, 1), some (.getfield 177, 3), none, none, some (.putfield 193, 3), none, none, some (.aload_n 0, 1), some (.aload_n 0, 1), some (.getfield 141, 3), none]
def xt_67_2 : List (Option (Instr × Nat)) := [none, some (.putfield 196, 3), none, none, some (.aload_n 0, 1), some (.aload_n 0, 1), some (.getfield 144, 3), none, none, some (.putfield 199, 3), none, none, some (.aload_n 0, 1), some (.aload_n 0, 1), some (.getfield 147, 3), none]
def xt_67_3 : List (Option (Instr × Nat)) := [none, some (.putfield 202, 3), none, none, some (.aload_n 0, 1), some (.aload_n 0, 1), some (.getfield 174, 3), none, none, some (.putfield 205, 3), none, none, some (.iconst 0, 1), some (.istore_n 2, 1), some (.iload_n 2, 1), some (.bipush 40, 2)]
def xt_67_4 : List (Option (Instr × Nat)) := [none, some (.if_icmp .ge 29, 3), none, none, some (.iload_n 2, 1), some (.aload_n 0, 1), some (.getfield 174, 3), none, none, some (.if_icmp .ge 21, 3), none, none, some (.aload_n 0, 1), some (.getfield 44, 3), none, none]
def xt_67_5 : List (Option (Instr × Nat)) := [some (.iload_n 2, 1), some (.aload_n 0, 1), some (.getfield 35, 3), none, none, some (.iload_n 2, 1), some (.iaload, 1), some (.iastore, 1), some (.iinc 2 1, 3), none, none, some (.goto (-29), 3), none, none, some (.iconst 0, 1), some (.istore_n 2, 1)]
def xt_67_6 : List (Option (Instr × Nat)) := [some (.iload_n 2, 1), some (.bipush 16, 2), none, some (.if_icmp .ge 33, 3), none, none, some (.aload_n 0, 1), some (.getfield 47, 3), none, none, some (.iload_n 2, 1), some (.aload_n 0, 1), some (.getfield 22, 3), none, none, some (.iload_n 2, 1)]
def xt_67_7 : List (Option (Instr × Nat)) := [some (.iaload, 1), some (.iastore, 1), some (.aload_n 0, 1), some (.getfield 50, 3), none, none, some (.iload_n 2, 1), some (.aload_n 0, 1), some (.getfield 25, 3), none, none, some (.iload_n 2, 1), some (.baload, 1), some (.bastore, 1), some (.iinc 2 1, 3), none]
def xt_67_8 : List (Option (Instr × Nat)) := [none, some (.goto (-33), 3), none, none, some (.iload_n 1, 1), some (.ireturn, 1)]
/-- 67: X5_run -/
def xt_67 : xM := ((yX5_run, cX5_run, 3, some .int, RX5, 1, 25), [xt_67_0, xt_67_1, xt_67_2, xt_67_3, xt_67_4, xt_67_5, xt_67_6, xt_67_7, xt_67_8], [(132, 5, 17, 0), (150, 5, 19, 0), (190, 5, 24, 1), (177, 5, 10, 0), (193, 5, 25, 0), (141, 5, 11, 0), (196, 5, 26, 0), (144, 5, 12, 0), (199, 5, 27, 0), (147, 5, 13, 0), (202, 5, 28, 0), (174, 5, 14, 0), (205, 5, 29, 0), (44, 5, 30, 2), (35, 5, 15, 2), (47, 5, 31, 2), (22, 5, 6, 2), (50, 5, 32, 2), (25, 5, 7, 2)], [(187, 66, 0, 0, 5)], [])
def xt_68_0 : List (Option (Instr × Nat)) := [some (.aload_n 0, 1), some (.getfield 190, 3), none, none, some (.ifCond .ne 5, 3), none, none, some (.iconst (-1), 1), some (.ireturn, 1), some (.iconst 0, 1), some (.istore_n 2, 1), some (.iload_n 1, 1), some (.tableswitch 98 0 5 #[40, 45, 50, 55, 60, 65], 40), none, none, none]
def xt_68_1 : List (Option (Instr × Nat)) := [none, none, none, none, none, none, none, none, none, none, none, none, none, none, none, none]
def xt_68_2 : List (Option (Instr × Nat)) := [none, none, none, none, none, none, none, none, none, none, none, none, none, none, none, none]
def xt_68_3 : List (Option (Instr × Nat)) := [none, none, none, none, some (.aload_n 0, 1), some (.getfield 193, 3), none, none, some (.ireturn, 1), some (.aload_n 0, 1), some (.getfield 196, 3), none, none, some (.ireturn, 1), some (.aload_n 0, 1), some (.getfield 199, 3)]
def xt_68_4 : List (Option (Instr × Nat)) := [none, none, some (.ireturn, 1), some (.aload_n 0, 1), some (.getfield 202, 3), none, none, some (.ireturn, 1), some (.aload_n 0, 1), some (.getfield 205, 3), none, none, some (.ireturn, 1), some (.iconst 0, 1), some (.istore_n 3, 1), some (.iload_n 3, 1)]
def xt_68_5 : List (Option (Instr × Nat)) := [some (.bipush 16, 2), none, some (.if_icmp .ge 26, 3), none, none, some (.iload_n 2, 1), some (.aload_n 0, 1), some (.getfield 50, 3), none, none, some (.iload_n 3, 1), some (.baload, 1), some (.ifCond .eq 7, 3), none, none, some (.iconst 1, 1)]
def xt_68_6 : List (Option (Instr × Nat)) := [some (.goto 4, 3), none, none, some (.iconst 0, 1), some (.iadd, 1), some (.istore_n 2, 1), some (.iinc 3 1, 3), none, none, some (.goto (-26), 3), none, none, some (.iload_n 2, 1), some (.ireturn, 1), some (.iconst (-1), 1), some (.ireturn, 1)]
/-- 68: X5_ran -/
def xt_68 : xM := ((yX5_ran, cX5_ran, 4, some .int, RX5, 0, 0), [xt_68_0, xt_68_1, xt_68_2, xt_68_3, xt_68_4, xt_68_5, xt_68_6], [(190, 5, 24, 1), (193, 5, 25, 0), (196, 5, 26, 0), (199, 5, 27, 0), (202, 5, 28, 0), (205, 5, 29, 0), (50, 5, 32, 2)], [], [])
def xt_69_0 : List (Option (Instr × Nat)) := [some (.aload_n 0, 1), some (.getfield 190, 3), none, none, some (.ifCond .eq 30, 3), none, none, some (.iload_n 1, 1), some (.iconst 0, 1), some (.bipush 39, 2), none, some (.invokestatic 101, 3), none, none, some (.ifCond .eq 20, 3), none]
def xt_69_1 : List (Option (Instr × Nat)) := [none, some (.iload_n 1, 1), some (.aload_n 0, 1), some (.getfield 205, 3), none, none, some (.if_icmp .ge 12, 3), none, none, some (.aload_n 0, 1), some (.getfield 44, 3), none, none, some (.iload_n 1, 1), some (.iaload, 1), some (.goto 4, 3)]
def xt_69_2 : List (Option (Instr × Nat)) := [none, none, some (.iconst (-1), 1), some (.ireturn, 1)]
/-- 69: X5_printed -/
def xt_69 : xM := ((yX5_printed, cX5_printed, 2, some .int, RX5, 1, 22), [xt_69_0, xt_69_1, xt_69_2], [(190, 5, 24, 1), (205, 5, 29, 0), (44, 5, 30, 2)], [(101, 55, 3, 1, 0)], [])
def xt_70_0 : List (Option (Instr × Nat)) := [some (.aload_n 0, 1), some (.getfield 190, 3), none, none, some (.ifCond .eq 10, 3), none, none, some (.iload_n 1, 1), some (.invokestatic 105, 3), none, none, some (.ifCond .ne 5, 3), none, none, some (.iconst (-1), 1), some (.ireturn, 1)]
def xt_70_1 : List (Option (Instr × Nat)) := [some (.iload_n 2, 1), some (.ifCond .ne 12, 3), none, none, some (.aload_n 0, 1), some (.getfield 47, 3), none, none, some (.iload_n 1, 1), some (.iaload, 1), some (.goto 26, 3), none, none, some (.iload_n 2, 1), some (.iconst 1, 1), some (.if_icmp .ne 20, 3)]
def xt_70_2 : List (Option (Instr × Nat)) := [none, none, some (.aload_n 0, 1), some (.getfield 50, 3), none, none, some (.iload_n 1, 1), some (.baload, 1), some (.ifCond .eq 7, 3), none, none, some (.iconst 1, 1), some (.goto 8, 3), none, none, some (.iconst 0, 1)]
def xt_70_3 : List (Option (Instr × Nat)) := [some (.goto 4, 3), none, none, some (.iconst (-1), 1), some (.ireturn, 1)]
/-- 70: X5_cell -/
def xt_70 : xM := ((yX5_cell, cX5_cell, 3, some .int, RX5, 2, 42), [xt_70_0, xt_70_1, xt_70_2, xt_70_3], [(190, 5, 24, 1), (47, 5, 31, 2), (50, 5, 32, 2)], [(105, 57, 1, 1, 0)], [])
def xt_71_0 : List (Option (Instr × Nat)) := [some (.iload_n 1, 1), some (.invokestatic 113, 3), none, none, some (.ifCond .eq 29, 3), none, none, some (.iload_n 2, 1), some (.iconst 0, 1), some (.aload_n 0, 1), some (.getfield 13, 3), none, none, some (.iload_n 1, 1), some (.iaload, 1), some (.iconst 1, 1)]
def xt_71_1 : List (Option (Instr × Nat)) := [some (.isub, 1), some (.invokestatic 101, 3), none, none, some (.ifCond .eq 13, 3), none, none, some (.iload_n 3, 1), some (.iconst 1, 1), some (.bipush 10, 2), none, some (.invokestatic 101, 3), none, none, some (.ifCond .ne 6, 3), none]
def xt_71_2 : List (Option (Instr × Nat)) := [none, some (.bipush (-2), 2), none, some (.ireturn, 1), some (.aload_n 0, 1), some (.iload_n 3, 1), some (.putfield 132, 3), none, none, some (.aload_n 0, 1), some (.iload_n 1, 1), some (.putfield 150, 3), none, none, some (.aload_n 0, 1), some (.iload_n 2, 1)]
def xt_71_3 : List (Option (Instr × Nat)) := [some (.putfield 153, 3), none, none, some (.aload_n 0, 1), some (.iconst 0, 1), some (.putfield 138, 3), none, none, some (.aload_n 0, 1), some (.getfield 138, 3), none, none, some (.iconst 1, 1), some (.iload_n 3, 1), some (.ishl, 1), some (.if_icmp .ge 33, 3)]
def xt_71_4 : List (Option (Instr × Nat)) := [none, none, some (.aload_n 0, 1), some (.invokevirtual 187, 3), none, none, some (.pop, 1), some (.aload_n 0, 1), some (.getfield 156, 3), none, none, some (.ifCond .eq 8, 3), none, none, some (.aload_n 0, 1), some (.getfield 138, 3)]
def xt_71_5 : List (Option (Instr × Nat)) := [none, none, some (.ireturn, 1), some (.aload_n 0, 1), some (.dup, 1), some (.getfield 138, 3), none, none, some (.iconst 1, 1), some (.iadd, 1), some (.putfield 138, 3), none, none, some (.goto (-37), 3), none, none]
def xt_71_6 : List (Option (Instr × Nat)) := [some (.iconst (-1), 1), some (.ireturn, 1)]
/-- 71: X5_witness -/
def xt_71 : xM := ((yX5_witness, cX5_witness, 4, some .int, RX5, 2, 42), [xt_71_0, xt_71_1, xt_71_2, xt_71_3, xt_71_4, xt_71_5, xt_71_6], [(13, 5, 1, 2), (132, 5, 17, 0), (150, 5, 19, 0), (153, 5, 20, 0), (138, 5, 16, 0), (156, 5, 21, 1)], [(113, 56, 1, 1, 0), (101, 55, 3, 1, 0), (187, 66, 0, 0, 5)], [])
def xt_72_0 : List (Option (Instr × Nat)) := [some (.bipush 31, 2), none, some (.iload_n 1, 1), some (.imul, 1), some (.iload_n 2, 1), some (.iadd, 1), some (.istore_n 3, 1), some (.aload_n 0, 1), some (.aload_n 0, 1), some (.getfield 208, 3), none, none, some (.ifCond .ne 52, 3), none, none, some (.aload_n 0, 1)]
def xt_72_1 : List (Option (Instr × Nat)) := [some (.getfield 53, 3), none, none, some (.iload_n 3, 1), some (.baload, 1), some (.ifCond .eq 43, 3), none, none, some (.aload_n 0, 1), some (.getfield 56, 3), none, none, some (.iload_n 3, 1), some (.iaload, 1), some (.aload_n 0, 1), some (.getfield 211, 3)]
def xt_72_2 : List (Option (Instr × Nat)) := [none, none, some (.ior, 1), some (.aload_n 0, 1), some (.getfield 56, 3), none, none, some (.iload_n 3, 1), some (.iaload, 1), some (.if_icmp .ne 23, 3), none, none, some (.aload_n 0, 1), some (.getfield 59, 3), none, none]
def xt_72_3 : List (Option (Instr × Nat)) := [some (.iload_n 3, 1), some (.iaload, 1), some (.aload_n 0, 1), some (.getfield 214, 3), none, none, some (.ior, 1), some (.aload_n 0, 1), some (.getfield 59, 3), none, none, some (.iload_n 3, 1), some (.iaload, 1), some (.if_icmp .eq 7, 3), none, none]
def xt_72_4 : List (Option (Instr × Nat)) := [some (.iconst 1, 1), some (.goto 4, 3), none, none, some (.iconst 0, 1), some (.putfield 208, 3), none, none, some (.aload_n 0, 1), some (.getfield 53, 3), none, none, some (.iload_n 3, 1), some (.iconst 1, 1), some (.bastore, 1), some (.aload_n 0, 1)]
def xt_72_5 : List (Option (Instr × Nat)) := [some (.getfield 56, 3), none, none, some (.iload_n 3, 1), some (.dup2, 1), some (.iaload, 1), some (.aload_n 0, 1), some (.getfield 211, 3), none, none, some (.ior, 1), some (.iastore, 1), some (.aload_n 0, 1), some (.getfield 59, 3), none, none]
def xt_72_6 : List (Option (Instr × Nat)) := [some (.iload_n 3, 1), some (.dup2, 1), some (.iaload, 1), some (.aload_n 0, 1), some (.getfield 214, 3), none, none, some (.ior, 1), some (.iastore, 1), some (.return_, 1)]
/-- 72: X5_goes -/
def xt_72 : xM := ((yX5_goes, cX5_goes, 4, none, RX5, 0, 0), [xt_72_0, xt_72_1, xt_72_2, xt_72_3, xt_72_4, xt_72_5, xt_72_6], [(208, 5, 40, 1), (53, 5, 33, 2), (56, 5, 34, 2), (211, 5, 41, 0), (59, 5, 35, 2), (214, 5, 42, 0)], [], [])
def xt_73_0 : List (Option (Instr × Nat)) := [some (.aload_n 0, 1), some (.getfield 211, 3), none, none, some (.istore_n 2, 1), some (.aload_n 0, 1), some (.getfield 214, 3), none, none, some (.istore_n 3, 1), some (.aload_n 0, 1), some (.getfield 74, 3), none, none, some (.iload_n 1, 1), some (.dup2, 1)]
def xt_73_1 : List (Option (Instr × Nat)) := [some (.iaload, 1), some (.aload_n 0, 1), some (.getfield 211, 3), none, none, some (.ior, 1), some (.iastore, 1), some (.aload_n 0, 1), some (.getfield 77, 3), none, none, some (.iload_n 1, 1), some (.dup2, 1), some (.iaload, 1), some (.aload_n 0, 1), some (.getfield 214, 3)]
def xt_73_2 : List (Option (Instr × Nat)) := [none, none, some (.ior, 1), some (.iastore, 1), some (.aload_n 0, 1), some (.dup, 1), some (.getfield 211, 3), none, none, some (.aload_n 0, 1), some (.getfield 71, 3), none, none, some (.iload_n 1, 1), some (.iaload, 1), some (.ior, 1)]
def xt_73_3 : List (Option (Instr × Nat)) := [some (.putfield 211, 3), none, none, some (.aload_n 0, 1), some (.dup, 1), some (.getfield 214, 3), none, none, some (.ldc 217, 2), none, some (.aload_n 0, 1), some (.getfield 71, 3), none, none, some (.iload_n 1, 1), some (.iaload, 1)]
def xt_73_4 : List (Option (Instr × Nat)) := [some (.ixor, 1), some (.iand, 1), some (.putfield 214, 3), none, none, some (.aload_n 0, 1), some (.iload_n 1, 1), some (.iconst 0, 1), some (.invokevirtual 218, 3), none, none, some (.aload_n 0, 1), some (.iload_n 2, 1), some (.putfield 211, 3), none, none]
def xt_73_5 : List (Option (Instr × Nat)) := [some (.aload_n 0, 1), some (.iload_n 3, 1), some (.putfield 214, 3), none, none, some (.return_, 1)]
/-- 73: X5_begins -/
def xt_73 : xM := ((yX5_begins, cX5_begins, 4, none, RX5, 1, 23), [xt_73_0, xt_73_1, xt_73_2, xt_73_3, xt_73_4, xt_73_5], [(211, 5, 41, 0), (214, 5, 42, 0), (74, 5, 43, 2), (77, 5, 44, 2), (71, 5, 39, 2)], [(218, 72, 2, 0, 5)], [(217, 65535)])
def xt_74_0 : List (Option (Instr × Nat)) := [some (.aload_n 0, 1), some (.aload_n 0, 1), some (.getfield 208, 3), none, none, some (.ifCond .ne 52, 3), none, none, some (.aload_n 0, 1), some (.getfield 62, 3), none, none, some (.iload_n 1, 1), some (.baload, 1), some (.ifCond .eq 43, 3), none]
def xt_74_1 : List (Option (Instr × Nat)) := [none, some (.aload_n 0, 1), some (.getfield 65, 3), none, none, some (.iload_n 1, 1), some (.iaload, 1), some (.aload_n 0, 1), some (.getfield 211, 3), none, none, some (.ior, 1), some (.aload_n 0, 1), some (.getfield 65, 3), none, none]
def xt_74_2 : List (Option (Instr × Nat)) := [some (.iload_n 1, 1), some (.iaload, 1), some (.if_icmp .ne 23, 3), none, none, some (.aload_n 0, 1), some (.getfield 68, 3), none, none, some (.iload_n 1, 1), some (.iaload, 1), some (.aload_n 0, 1), some (.getfield 214, 3), none, none, some (.ior, 1)]
def xt_74_3 : List (Option (Instr × Nat)) := [some (.aload_n 0, 1), some (.getfield 68, 3), none, none, some (.iload_n 1, 1), some (.iaload, 1), some (.if_icmp .eq 7, 3), none, none, some (.iconst 1, 1), some (.goto 4, 3), none, none, some (.iconst 0, 1), some (.putfield 208, 3), none]
def xt_74_4 : List (Option (Instr × Nat)) := [none, some (.aload_n 0, 1), some (.getfield 62, 3), none, none, some (.iload_n 1, 1), some (.iconst 1, 1), some (.bastore, 1), some (.aload_n 0, 1), some (.getfield 65, 3), none, none, some (.iload_n 1, 1), some (.dup2, 1), some (.iaload, 1), some (.aload_n 0, 1)]
def xt_74_5 : List (Option (Instr × Nat)) := [some (.getfield 211, 3), none, none, some (.ior, 1), some (.iastore, 1), some (.aload_n 0, 1), some (.getfield 68, 3), none, none, some (.iload_n 1, 1), some (.dup2, 1), some (.iaload, 1), some (.aload_n 0, 1), some (.getfield 214, 3), none, none]
def xt_74_6 : List (Option (Instr × Nat)) := [some (.ior, 1), some (.iastore, 1), some (.return_, 1)]
/-- 74: X5_returns -/
def xt_74 : xM := ((yX5_returns, cX5_returns, 2, none, RX5, 0, 0), [xt_74_0, xt_74_1, xt_74_2, xt_74_3, xt_74_4, xt_74_5, xt_74_6], [(208, 5, 40, 1), (62, 5, 36, 2), (65, 5, 37, 2), (211, 5, 41, 0), (68, 5, 38, 2), (214, 5, 42, 0)], [], [])
def xt_75_0 : List (Option (Instr × Nat)) := [some (.iconst 0, 1), some (.istore 4, 2), none, some (.iload 4, 2), none, some (.sipush 186, 3), none, none, some (.if_icmp .ge 33, 3), none, none, some (.aload_n 0, 1), some (.getfield 53, 3), none, none, some (.iload 4, 2)]
def xt_75_1 : List (Option (Instr × Nat)) := [none, some (.iconst 0, 1), some (.bastore, 1), some (.aload_n 0, 1), some (.getfield 56, 3), none, none, some (.iload 4, 2), none, some (.iconst 0, 1), some (.iastore, 1), some (.aload_n 0, 1), some (.getfield 59, 3), none, none, some (.iload 4, 2)]
def xt_75_2 : List (Option (Instr × Nat)) := [none, some (.iconst 0, 1), some (.iastore, 1), some (.iinc 4 1, 3), none, none, some (.goto (-35), 3), none, none, some (.iconst 0, 1), some (.istore 4, 2), none, some (.iload 4, 2), none, some (.bipush 6, 2), none]
def xt_75_3 : List (Option (Instr × Nat)) := [some (.if_icmp .ge 49, 3), none, none, some (.aload_n 0, 1), some (.getfield 62, 3), none, none, some (.iload 4, 2), none, some (.iconst 0, 1), some (.bastore, 1), some (.aload_n 0, 1), some (.getfield 65, 3), none, none, some (.iload 4, 2)]
def xt_75_4 : List (Option (Instr × Nat)) := [none, some (.iconst 0, 1), some (.iastore, 1), some (.aload_n 0, 1), some (.getfield 68, 3), none, none, some (.iload 4, 2), none, some (.iconst 0, 1), some (.iastore, 1), some (.aload_n 0, 1), some (.getfield 74, 3), none, none, some (.iload 4, 2)]
def xt_75_5 : List (Option (Instr × Nat)) := [none, some (.iconst 0, 1), some (.iastore, 1), some (.aload_n 0, 1), some (.getfield 77, 3), none, none, some (.iload 4, 2), none, some (.iconst 0, 1), some (.iastore, 1), some (.iinc 4 1, 3), none, none, some (.goto (-50), 3), none]
def xt_75_6 : List (Option (Instr × Nat)) := [none, some (.aload_n 0, 1), some (.iload_n 2, 1), some (.putfield 211, 3), none, none, some (.aload_n 0, 1), some (.iload_n 3, 1), some (.putfield 214, 3), none, none, some (.aload_n 0, 1), some (.iload_n 1, 1), some (.invokevirtual 236, 3), none, none]
def xt_75_7 : List (Option (Instr × Nat)) := [some (.aload_n 0, 1), some (.iconst 1, 1), some (.putfield 208, 3), none, none, some (.aload_n 0, 1), some (.getfield 208, 3), none, none, some (.ifCond .eq 135, 3), none, none, some (.aload_n 0, 1), some (.iconst 0, 1), some (.putfield 208, 3), none]
def xt_75_8 : List (Option (Instr × Nat)) := [none, some (.iconst 0, 1), some (.istore 4, 2), none, some (.iload 4, 2), none, some (.bipush 6, 2), none, some (.if_icmp .ge 117, 3), none, none, some (.iconst 0, 1), some (.istore 5, 2), none, some (.iload 5, 2), none]
def xt_75_9 : List (Option (Instr × Nat)) := [some (.aload_n 0, 1), some (.getfield 13, 3), none, none, some (.iload 4, 2), none, some (.iaload, 1), some (.if_icmp .gt 96, 3), none, none, some (.bipush 31, 2), none, some (.iload 4, 2), none, some (.imul, 1), some (.iload 5, 2)]
def xt_75_10 : List (Option (Instr × Nat)) := [none, some (.iadd, 1), some (.istore 6, 2), none, some (.aload_n 0, 1), some (.getfield 53, 3), none, none, some (.iload 6, 2), none, some (.baload, 1), some (.ifCond .ne 6, 3), none, none, some (.goto 67, 3), none]
def xt_75_11 : List (Option (Instr × Nat)) := [none, some (.aload_n 0, 1), some (.aload_n 0, 1), some (.getfield 56, 3), none, none, some (.iload 6, 2), none, some (.iaload, 1), some (.putfield 211, 3), none, none, some (.aload_n 0, 1), some (.aload_n 0, 1), some (.getfield 59, 3), none]
def xt_75_12 : List (Option (Instr × Nat)) := [none, some (.iload 6, 2), none, some (.iaload, 1), some (.putfield 214, 3), none, none, some (.iload 5, 2), none, some (.aload_n 0, 1), some (.getfield 13, 3), none, none, some (.iload 4, 2), none, some (.iaload, 1)]
def xt_75_13 : List (Option (Instr × Nat)) := [some (.if_icmp .ne 12, 3), none, none, some (.aload_n 0, 1), some (.iload 4, 2), none, some (.invokevirtual 232, 3), none, none, some (.goto 24, 3), none, none, some (.aload_n 0, 1), some (.iload 4, 2), none, some (.iload 5, 2)]
def xt_75_14 : List (Option (Instr × Nat)) := [none, some (.invokevirtual 239, 3), none, none, some (.ifCond .eq 13, 3), none, none, some (.aload_n 0, 1), some (.iload 4, 2), none, some (.iload 5, 2), none, some (.iconst 1, 1), some (.iadd, 1), some (.invokevirtual 218, 3), none]
def xt_75_15 : List (Option (Instr × Nat)) := [none, some (.iinc 5 1, 3), none, none, some (.goto (-102), 3), none, none, some (.iinc 4 1, 3), none, none, some (.goto (-118), 3), none, none, some (.goto (-136), 3), none, none]
def xt_75_16 : List (Option (Instr × Nat)) := [some (.return_, 1)]
/-- 75: X5_flows -/
def xt_75 : xM := ((yX5_flows, cX5_flows, 7, none, RX5, 2, 46), [xt_75_0, xt_75_1, xt_75_2, xt_75_3, xt_75_4, xt_75_5, xt_75_6, xt_75_7, xt_75_8, xt_75_9, xt_75_10, xt_75_11, xt_75_12, xt_75_13, xt_75_14, xt_75_15, xt_75_16], [(53, 5, 33, 2), (56, 5, 34, 2), (59, 5, 35, 2), (62, 5, 36, 2), (65, 5, 37, 2), (68, 5, 38, 2), (74, 5, 43, 2), (77, 5, 44, 2), (211, 5, 41, 0), (214, 5, 42, 0), (208, 5, 40, 1), (13, 5, 1, 2)], [(236, 73, 1, 0, 5), (232, 74, 1, 0, 5), (218, 72, 2, 0, 5)], [])
def xt_76_0 : List (Option (Instr × Nat)) := [some (.iload_n 0, 1), some (.iload_n 1, 1), some (.iand, 1), some (.ifCond .eq 7, 3), none, none, some (.iconst 1, 1), some (.goto 4, 3), none, none, some (.iconst 0, 1), some (.ireturn, 1)]
/-- 76: X5_has -/
def xt_76 : xM := ((yX5_has, cX5_has, 2, some .boolean, RX5, 0, 0), [xt_76_0], [], [], [])
def xt_77_0 : List (Option (Instr × Nat)) := [some (.iconst 0, 1), some (.istore_n 1, 1), some (.iconst 0, 1), some (.istore_n 2, 1), some (.iload_n 2, 1), some (.bipush 6, 2), none, some (.if_icmp .ge 44, 3), none, none, some (.iconst 0, 1), some (.istore_n 3, 1), some (.iload_n 3, 1), some (.aload_n 0, 1), some (.getfield 13, 3), none]
def xt_77_1 : List (Option (Instr × Nat)) := [none, some (.iload_n 2, 1), some (.iaload, 1), some (.if_icmp .ge 26, 3), none, none, some (.iload_n 1, 1), some (.aload_n 0, 1), some (.iload_n 2, 1), some (.iload_n 3, 1), some (.invokevirtual 245, 3), none, none, some (.ifCond .eq 7, 3), none, none]
def xt_77_2 : List (Option (Instr × Nat)) := [some (.iconst 1, 1), some (.goto 4, 3), none, none, some (.iconst 0, 1), some (.iadd, 1), some (.istore_n 1, 1), some (.iinc 3 1, 3), none, none, some (.goto (-30), 3), none, none, some (.iinc 2 1, 3), none, none]
def xt_77_3 : List (Option (Instr × Nat)) := [some (.goto (-44), 3), none, none, some (.iload_n 1, 1), some (.ireturn, 1)]
/-- 77: X5_badMany -/
def xt_77 : xM := ((yX5_badMany, cX5_badMany, 4, some .int, RX5, 0, 0), [xt_77_0, xt_77_1, xt_77_2, xt_77_3], [(13, 5, 1, 2)], [], [])
def xt_78_0 : List (Option (Instr × Nat)) := [some (.iconst 0, 1), some (.istore_n 1, 1), some (.iload_n 1, 1), some (.bipush 6, 2), none, some (.if_icmp .ge 16, 3), none, none, some (.aload_n 0, 1), some (.getfield 71, 3), none, none, some (.iload_n 1, 1), some (.iconst 0, 1), some (.iastore, 1), some (.iinc 1 1, 3)]
def xt_78_1 : List (Option (Instr × Nat)) := [none, none, some (.goto (-16), 3), none, none, some (.return_, 1)]
/-- 78: X5_unmends -/
def xt_78 : xM := ((yX5_unmends, cX5_unmends, 2, none, RX5, 0, 0), [xt_78_0, xt_78_1], [(71, 5, 39, 2)], [], [])
def xt_79_0 : List (Option (Instr × Nat)) := [some (.aload_n 0, 1), some (.invokevirtual 248, 3), none, none, some (.aload_n 0, 1), some (.iconst 0, 1), some (.iconst 0, 1), some (.ldc 217, 2), none, some (.invokevirtual 251, 3), none, none, some (.return_, 1)]
/-- 79: X5_flowsPlain -/
def xt_79 : xM := ((yX5_flowsPlain, cX5_flowsPlain, 1, none, RX5, 3, 72), [xt_79_0], [], [(248, 78, 0, 0, 5), (251, 75, 3, 0, 5)], [(217, 65535)])
def xt_80_0 : List (Option (Instr × Nat)) := [some (.aload_n 0, 1), some (.invokevirtual 254, 3), none, none, some (.aload_n 0, 1), some (.invokevirtual 257, 3), none, none, some (.ireturn, 1)]
/-- 80: X5_flow -/
def xt_80 : xM := ((yX5_flow, cX5_flow, 1, some .int, RX5, 4, 92), [xt_80_0], [], [(254, 79, 0, 0, 5), (257, 77, 0, 0, 5)], [])
def xt_81_0 : List (Option (Instr × Nat)) := [some (.aload_n 0, 1), some (.invokevirtual 254, 3), none, none, some (.iconst 0, 1), some (.istore_n 3, 1), some (.iconst 0, 1), some (.istore 4, 2), none, some (.iload 4, 2), none, some (.bipush 6, 2), none, some (.if_icmp .ge 131, 3), none, none]
def xt_81_1 : List (Option (Instr × Nat)) := [some (.iconst 0, 1), some (.istore 5, 2), none, some (.iload 5, 2), none, some (.aload_n 0, 1), some (.getfield 13, 3), none, none, some (.iload 4, 2), none, some (.iaload, 1), some (.if_icmp .ge 110, 3), none, none, some (.aload_n 0, 1)]
def xt_81_2 : List (Option (Instr × Nat)) := [some (.iload 4, 2), none, some (.iload 5, 2), none, some (.invokevirtual 245, 3), none, none, some (.ifCond .ne 6, 3), none, none, some (.goto 90, 3), none, none, some (.iload_n 3, 1), some (.iload_n 1, 1), some (.if_icmp .ne 82, 3)]
def xt_81_3 : List (Option (Instr × Nat)) := [none, none, some (.iload_n 2, 1), some (.ifCond .ne 8, 3), none, none, some (.iload 4, 2), none, some (.goto 72, 3), none, none, some (.iload_n 2, 1), some (.iconst 1, 1), some (.if_icmp .ne 8, 3), none, none]
def xt_81_4 : List (Option (Instr × Nat)) := [some (.iload 5, 2), none, some (.goto 62, 3), none, none, some (.iload_n 2, 1), some (.iconst 2, 1), some (.if_icmp .ne 14, 3), none, none, some (.aload_n 0, 1), some (.iload 4, 2), none, some (.iload 5, 2), none, some (.invokevirtual 242, 3)]
def xt_81_5 : List (Option (Instr × Nat)) := [none, none, some (.goto 46, 3), none, none, some (.iload_n 2, 1), some (.iconst 3, 1), some (.if_icmp .ne 40, 3), none, none, some (.aload_n 0, 1), some (.getfield 56, 3), none, none, some (.bipush 31, 2), none]
def xt_81_6 : List (Option (Instr × Nat)) := [some (.iload 4, 2), none, some (.imul, 1), some (.iload 5, 2), none, some (.iadd, 1), some (.iaload, 1), some (.iconst 1, 1), some (.aload_n 0, 1), some (.iload 4, 2), none, some (.iload 5, 2), none, some (.invokevirtual 242, 3), none, none]
def xt_81_7 : List (Option (Instr × Nat)) := [some (.ishl, 1), some (.invokestatic 229, 3), none, none, some (.ifCond .eq 7, 3), none, none, some (.iconst 2, 1), some (.goto 8, 3), none, none, some (.iconst 1, 1), some (.goto 4, 3), none, none, some (.iconst (-1), 1)]
def xt_81_8 : List (Option (Instr × Nat)) := [some (.ireturn, 1), some (.iinc 3 1, 3), none, none, some (.iinc 5 1, 3), none, none, some (.goto (-116), 3), none, none, some (.iinc 4 1, 3), none, none, some (.goto (-132), 3), none, none]
def xt_81_9 : List (Option (Instr × Nat)) := [some (.iconst (-1), 1), some (.ireturn, 1)]
/-- 81: X5_bad -/
def xt_81 : xM := ((yX5_bad, cX5_bad, 6, some .int, RX5, 4, 92), [xt_81_0, xt_81_1, xt_81_2, xt_81_3, xt_81_4, xt_81_5, xt_81_6, xt_81_7, xt_81_8, xt_81_9], [(13, 5, 1, 2), (56, 5, 34, 2)], [(254, 79, 0, 0, 5), (229, 76, 2, 1, 0)], [])
def xt_82_0 : List (Option (Instr × Nat)) := [some (.iload_n 1, 1), some (.invokestatic 113, 3), none, none, some (.ifCond .eq 24, 3), none, none, some (.iload_n 2, 1), some (.iconst 0, 1), some (.aload_n 0, 1), some (.getfield 13, 3), none, none, some (.iload_n 1, 1), some (.iaload, 1), some (.invokestatic 101, 3)]
def xt_82_1 : List (Option (Instr × Nat)) := [none, none, some (.ifCond .eq 10, 3), none, none, some (.iload_n 3, 1), some (.invokestatic 105, 3), none, none, some (.ifCond .ne 5, 3), none, none, some (.iconst (-1), 1), some (.ireturn, 1), some (.aload_n 0, 1), some (.invokevirtual 254, 3)]
def xt_82_2 : List (Option (Instr × Nat)) := [none, none, some (.bipush 31, 2), none, some (.iload_n 1, 1), some (.imul, 1), some (.iload_n 2, 1), some (.iadd, 1), some (.istore 4, 2), none, some (.aload_n 0, 1), some (.getfield 53, 3), none, none, some (.iload 4, 2), none]
def xt_82_3 : List (Option (Instr × Nat)) := [some (.baload, 1), some (.ifCond .ne 7, 3), none, none, some (.iconst 0, 1), some (.goto 46, 3), none, none, some (.aload_n 0, 1), some (.getfield 56, 3), none, none, some (.iload 4, 2), none, some (.iaload, 1), some (.iconst 1, 1)]
def xt_82_4 : List (Option (Instr × Nat)) := [some (.iload_n 3, 1), some (.ishl, 1), some (.invokestatic 229, 3), none, none, some (.ifCond .eq 7, 3), none, none, some (.iconst 1, 1), some (.goto 4, 3), none, none, some (.iconst 0, 1), some (.aload_n 0, 1), some (.getfield 59, 3), none]
def xt_82_5 : List (Option (Instr × Nat)) := [none, some (.iload 4, 2), none, some (.iaload, 1), some (.iconst 1, 1), some (.iload_n 3, 1), some (.ishl, 1), some (.invokestatic 229, 3), none, none, some (.ifCond .eq 7, 3), none, none, some (.iconst 2, 1), some (.goto 4, 3), none]
def xt_82_6 : List (Option (Instr × Nat)) := [none, some (.iconst 0, 1), some (.iadd, 1), some (.ireturn, 1)]
/-- 82: X5_state -/
def xt_82 : xM := ((yX5_state, cX5_state, 5, some .int, RX5, 4, 92), [xt_82_0, xt_82_1, xt_82_2, xt_82_3, xt_82_4, xt_82_5, xt_82_6], [(13, 5, 1, 2), (53, 5, 33, 2), (56, 5, 34, 2), (59, 5, 35, 2)], [(113, 56, 1, 1, 0), (101, 55, 3, 1, 0), (105, 57, 1, 1, 0), (254, 79, 0, 0, 5), (229, 76, 2, 1, 0)], [])
def xt_83_0 : List (Option (Instr × Nat)) := [some (.iload_n 1, 1), some (.invokestatic 113, 3), none, none, some (.ifCond .ne 5, 3), none, none, some (.iconst (-1), 1), some (.ireturn, 1), some (.aload_n 0, 1), some (.invokevirtual 248, 3), none, none, some (.aload_n 0, 1), some (.iload_n 1, 1), some (.ldc 217, 2)]
def xt_83_1 : List (Option (Instr × Nat)) := [none, some (.iconst 0, 1), some (.invokevirtual 251, 3), none, none, some (.iconst 0, 1), some (.istore_n 2, 1), some (.iload_n 2, 1), some (.bipush 6, 2), none, some (.if_icmp .ge 44, 3), none, none, some (.iconst 0, 1), some (.istore_n 3, 1), some (.iload_n 3, 1)]
def xt_83_2 : List (Option (Instr × Nat)) := [some (.aload_n 0, 1), some (.getfield 13, 3), none, none, some (.iload_n 2, 1), some (.iaload, 1), some (.if_icmp .ge 26, 3), none, none, some (.aload_n 0, 1), some (.getfield 80, 3), none, none, some (.bipush 31, 2), none, some (.iload_n 2, 1)]
def xt_83_3 : List (Option (Instr × Nat)) := [some (.imul, 1), some (.iload_n 3, 1), some (.iadd, 1), some (.aload_n 0, 1), some (.iload_n 2, 1), some (.iload_n 3, 1), some (.invokevirtual 260, 3), none, none, some (.iastore, 1), some (.iinc 3 1, 3), none, none, some (.goto (-30), 3), none, none]
def xt_83_4 : List (Option (Instr × Nat)) := [some (.iinc 2 1, 3), none, none, some (.goto (-44), 3), none, none, some (.iconst 0, 1), some (.istore_n 2, 1), some (.iconst 0, 1), some (.istore_n 3, 1), some (.iload_n 3, 1), some (.bipush 16, 2), none, some (.if_icmp .ge 114, 3), none, none]
def xt_83_5 : List (Option (Instr × Nat)) := [some (.aload_n 0, 1), some (.iload_n 1, 1), some (.ldc 217, 2), none, some (.iconst 1, 1), some (.iload_n 3, 1), some (.ishl, 1), some (.ixor, 1), some (.iconst 1, 1), some (.iload_n 3, 1), some (.ishl, 1), some (.invokevirtual 251, 3), none, none, some (.iconst 1, 1), some (.istore 4, 2)]
def xt_83_6 : List (Option (Instr × Nat)) := [none, some (.iconst 0, 1), some (.istore 5, 2), none, some (.iload 5, 2), none, some (.bipush 6, 2), none, some (.if_icmp .ge 66, 3), none, none, some (.iconst 0, 1), some (.istore 6, 2), none, some (.iload 6, 2), none]
def xt_83_7 : List (Option (Instr × Nat)) := [some (.aload_n 0, 1), some (.getfield 13, 3), none, none, some (.iload 5, 2), none, some (.iaload, 1), some (.if_icmp .ge 45, 3), none, none, some (.iload 4, 2), none, some (.ifCond .eq 31, 3), none, none, some (.aload_n 0, 1)]
def xt_83_8 : List (Option (Instr × Nat)) := [some (.getfield 80, 3), none, none, some (.bipush 31, 2), none, some (.iload 5, 2), none, some (.imul, 1), some (.iload 6, 2), none, some (.iadd, 1), some (.iaload, 1), some (.aload_n 0, 1), some (.iload 5, 2), none, some (.iload 6, 2)]
def xt_83_9 : List (Option (Instr × Nat)) := [none, some (.invokevirtual 260, 3), none, none, some (.if_icmp .ne 7, 3), none, none, some (.iconst 1, 1), some (.goto 4, 3), none, none, some (.iconst 0, 1), some (.istore 4, 2), none, some (.iinc 6 1, 3), none]
def xt_83_10 : List (Option (Instr × Nat)) := [none, some (.goto (-51), 3), none, none, some (.iinc 5 1, 3), none, none, some (.goto (-67), 3), none, none, some (.iload_n 2, 1), some (.iload 4, 2), none, some (.ifCond .eq 7, 3), none, none]
def xt_83_11 : List (Option (Instr × Nat)) := [some (.iconst 0, 1), some (.goto 6, 3), none, none, some (.iconst 1, 1), some (.iload_n 3, 1), some (.ishl, 1), some (.ior, 1), some (.istore_n 2, 1), some (.iinc 3 1, 3), none, none, some (.goto (-114), 3), none, none, some (.iload_n 2, 1)]
def xt_83_12 : List (Option (Instr × Nat)) := [some (.ireturn, 1)]
/-- 83: X5_needs -/
def xt_83 : xM := ((yX5_needs, cX5_needs, 7, some .int, RX5, 3, 72), [xt_83_0, xt_83_1, xt_83_2, xt_83_3, xt_83_4, xt_83_5, xt_83_6, xt_83_7, xt_83_8, xt_83_9, xt_83_10, xt_83_11, xt_83_12], [(13, 5, 1, 2), (80, 5, 45, 2)], [(113, 56, 1, 1, 0), (248, 78, 0, 0, 5), (251, 75, 3, 0, 5)], [(217, 65535)])
def xt_84_0 : List (Option (Instr × Nat)) := [some (.iload_n 1, 1), some (.invokestatic 113, 3), none, none, some (.ifCond .ne 5, 3), none, none, some (.iconst (-1), 1), some (.ireturn, 1), some (.aload_n 0, 1), some (.invokevirtual 248, 3), none, none, some (.aload_n 0, 1), some (.iload_n 1, 1), some (.iconst 0, 1)]
def xt_84_1 : List (Option (Instr × Nat)) := [some (.ldc 217, 2), none, some (.invokevirtual 251, 3), none, none, some (.aload_n 0, 1), some (.getfield 62, 3), none, none, some (.iload_n 1, 1), some (.baload, 1), some (.ifCond .eq 22, 3), none, none, some (.aload_n 0, 1), some (.getfield 65, 3)]
def xt_84_2 : List (Option (Instr × Nat)) := [none, none, some (.iload_n 1, 1), some (.iaload, 1), some (.ldc 217, 2), none, some (.aload_n 0, 1), some (.getfield 68, 3), none, none, some (.iload_n 1, 1), some (.iaload, 1), some (.ixor, 1), some (.iand, 1), some (.goto 4, 3), none]
def xt_84_3 : List (Option (Instr × Nat)) := [none, some (.iconst 0, 1), some (.ireturn, 1)]
/-- 84: X5_writes -/
def xt_84 : xM := ((yX5_writes, cX5_writes, 2, some .int, RX5, 3, 72), [xt_84_0, xt_84_1, xt_84_2, xt_84_3], [(62, 5, 36, 2), (65, 5, 37, 2), (68, 5, 38, 2)], [(113, 56, 1, 1, 0), (248, 78, 0, 0, 5), (251, 75, 3, 0, 5)], [(217, 65535)])
def xt_85_0 : List (Option (Instr × Nat)) := [some (.iload_n 1, 1), some (.invokestatic 113, 3), none, none, some (.ifCond .eq 13, 3), none, none, some (.iload_n 2, 1), some (.iconst 1, 1), some (.bipush 99, 2), none, some (.invokestatic 101, 3), none, none, some (.ifCond .ne 5, 3), none]
def xt_85_1 : List (Option (Instr × Nat)) := [none, some (.iconst (-1), 1), some (.ireturn, 1), some (.aload_n 0, 1), some (.getfield 16, 3), none, none, some (.iload_n 1, 1), some (.iaload, 1), some (.istore_n 3, 1), some (.aload_n 0, 1), some (.getfield 16, 3), none, none, some (.iload_n 1, 1), some (.iload_n 2, 1)]
def xt_85_2 : List (Option (Instr × Nat)) := [some (.iastore, 1), some (.iload_n 3, 1), some (.ireturn, 1)]
/-- 85: X5_cost -/
def xt_85 : xM := ((yX5_cost, cX5_cost, 4, some .int, RX5, 2, 42), [xt_85_0, xt_85_1, xt_85_2], [(16, 5, 2, 2)], [(113, 56, 1, 1, 0), (101, 55, 3, 1, 0)], [])
def xt_86_0 : List (Option (Instr × Nat)) := [some (.aload_n 0, 1), some (.invokevirtual 254, 3), none, none, some (.aload_n 0, 1), some (.invokevirtual 257, 3), none, none, some (.istore_n 1, 1), some (.iload_n 1, 1), some (.ifCond .le 13, 3), none, none, some (.aload_n 0, 1), some (.invokevirtual 282, 3), none]
def xt_86_1 : List (Option (Instr × Nat)) := [none, some (.ifCond .ne 6, 3), none, none, some (.bipush (-2), 2), none, some (.ireturn, 1), some (.iload_n 1, 1), some (.ifCond .ne 8, 3), none, none, some (.aload_n 0, 1), some (.iconst 0, 1), some (.putfield 276, 3), none, none]
def xt_86_2 : List (Option (Instr × Nat)) := [some (.ldc_w 286, 3), none, none, some (.istore_n 2, 1), some (.iconst 0, 1), some (.istore_n 3, 1), some (.iconst 0, 1), some (.istore 4, 2), none, some (.iload 4, 2), none, some (.iconst 1, 1), some (.aload_n 0, 1), some (.getfield 276, 3), none, none]
def xt_86_3 : List (Option (Instr × Nat)) := [some (.ishl, 1), some (.if_icmp .ge 121, 3), none, none, some (.iconst 0, 1), some (.istore 5, 2), none, some (.aload_n 0, 1), some (.invokevirtual 248, 3), none, none, some (.iconst 0, 1), some (.istore 6, 2), none, some (.iload 6, 2), none]
def xt_86_4 : List (Option (Instr × Nat)) := [some (.aload_n 0, 1), some (.getfield 276, 3), none, none, some (.if_icmp .ge 63, 3), none, none, some (.iload 4, 2), none, some (.iload 6, 2), none, some (.ishr, 1), some (.iconst 1, 1), some (.iand, 1), some (.ifCond .ne 6, 3), none]
def xt_86_5 : List (Option (Instr × Nat)) := [none, some (.goto 44, 3), none, none, some (.iload 5, 2), none, some (.aload_n 0, 1), some (.getfield 16, 3), none, none, some (.aload_n 0, 1), some (.getfield 83, 3), none, none, some (.iload 6, 2), none]
def xt_86_6 : List (Option (Instr × Nat)) := [some (.iaload, 1), some (.iaload, 1), some (.iadd, 1), some (.istore 5, 2), none, some (.aload_n 0, 1), some (.getfield 71, 3), none, none, some (.aload_n 0, 1), some (.getfield 83, 3), none, none, some (.iload 6, 2), none, some (.iaload, 1)]
def xt_86_7 : List (Option (Instr × Nat)) := [some (.dup2, 1), some (.iaload, 1), some (.iconst 1, 1), some (.aload_n 0, 1), some (.getfield 86, 3), none, none, some (.iload 6, 2), none, some (.iaload, 1), some (.ishl, 1), some (.ior, 1), some (.iastore, 1), some (.iinc 6 1, 3), none, none]
def xt_86_8 : List (Option (Instr × Nat)) := [some (.goto (-66), 3), none, none, some (.iload 5, 2), none, some (.iload_n 2, 1), some (.if_icmp .lt 6, 3), none, none, some (.goto 27, 3), none, none, some (.aload_n 0, 1), some (.iconst 0, 1), some (.iconst 0, 1), some (.ldc 217, 2)]
def xt_86_9 : List (Option (Instr × Nat)) := [none, some (.invokevirtual 251, 3), none, none, some (.aload_n 0, 1), some (.invokevirtual 257, 3), none, none, some (.ifCond .le 6, 3), none, none, some (.goto 9, 3), none, none, some (.iload 5, 2), none]
def xt_86_10 : List (Option (Instr × Nat)) := [some (.istore_n 2, 1), some (.iload 4, 2), none, some (.istore_n 3, 1), some (.iinc 4 1, 3), none, none, some (.goto (-126), 3), none, none, some (.iload_n 2, 1), some (.ldc_w 286, 3), none, none, some (.if_icmp .ne 5, 3), none]
def xt_86_11 : List (Option (Instr × Nat)) := [none, some (.iconst (-1), 1), some (.ireturn, 1), some (.aload_n 0, 1), some (.iconst 1, 1), some (.putfield 287, 3), none, none, some (.aload_n 0, 1), some (.iconst 0, 1), some (.putfield 116, 3), none, none, some (.aload_n 0, 1), some (.iconst 0, 1), some (.putfield 290, 3)]
def xt_86_12 : List (Option (Instr × Nat)) := [none, none, some (.iconst 0, 1), some (.istore 4, 2), none, some (.iload 4, 2), none, some (.aload_n 0, 1), some (.getfield 276, 3), none, none, some (.if_icmp .ge 63, 3), none, none, some (.iload_n 3, 1), some (.iload 4, 2)]
def xt_86_13 : List (Option (Instr × Nat)) := [none, some (.ishr, 1), some (.iconst 1, 1), some (.iand, 1), some (.ifCond .ne 6, 3), none, none, some (.goto 45, 3), none, none, some (.aload_n 0, 1), some (.getfield 95, 3), none, none, some (.aload_n 0, 1), some (.getfield 290, 3)]
def xt_86_14 : List (Option (Instr × Nat)) := [none, none, some (.aload_n 0, 1), some (.getfield 83, 3), none, none, some (.iload 4, 2), none, some (.iaload, 1), some (.iastore, 1), some (.aload_n 0, 1), some (.getfield 98, 3), none, none, some (.aload_n 0, 1), some (.getfield 290, 3)]
def xt_86_15 : List (Option (Instr × Nat)) := [none, none, some (.aload_n 0, 1), some (.getfield 86, 3), none, none, some (.iload 4, 2), none, some (.iaload, 1), some (.iastore, 1), some (.aload_n 0, 1), some (.dup, 1), some (.getfield 290, 3), none, none, some (.iconst 1, 1)]
def xt_86_16 : List (Option (Instr × Nat)) := [some (.iadd, 1), some (.putfield 290, 3), none, none, some (.iinc 4 1, 3), none, none, some (.goto (-66), 3), none, none, some (.iload_n 2, 1), some (.ireturn, 1)]
/-- 86: X5_mend -/
def xt_86 : xM := ((yX5_mend, cX5_mend, 7, some .int, RX5, 4, 92), [xt_86_0, xt_86_1, xt_86_2, xt_86_3, xt_86_4, xt_86_5, xt_86_6, xt_86_7, xt_86_8, xt_86_9, xt_86_10, xt_86_11, xt_86_12, xt_86_13, xt_86_14, xt_86_15, xt_86_16], [(276, 5, 46, 0), (16, 5, 2, 2), (83, 5, 47, 2), (71, 5, 39, 2), (86, 5, 48, 2), (287, 5, 52, 1), (116, 5, 5, 1), (290, 5, 53, 0), (95, 5, 54, 2), (98, 5, 55, 2)], [(254, 79, 0, 0, 5), (257, 77, 0, 0, 5), (248, 78, 0, 0, 5), (251, 75, 3, 0, 5)], [(286, 1000000), (217, 65535)])
def xt_87_0 : List (Option (Instr × Nat)) := [some (.aload_n 0, 1), some (.getfield 287, 3), none, none, some (.ifCond .eq 17, 3), none, none, some (.iload_n 1, 1), some (.iconst 0, 1), some (.aload_n 0, 1), some (.getfield 290, 3), none, none, some (.iconst 1, 1), some (.isub, 1), some (.invokestatic 101, 3)]
def xt_87_1 : List (Option (Instr × Nat)) := [none, none, some (.ifCond .ne 5, 3), none, none, some (.iconst (-1), 1), some (.ireturn, 1), some (.iload_n 2, 1), some (.ifCond .ne 12, 3), none, none, some (.aload_n 0, 1), some (.getfield 95, 3), none, none, some (.iload_n 1, 1)]
def xt_87_2 : List (Option (Instr × Nat)) := [some (.iaload, 1), some (.goto 18, 3), none, none, some (.iload_n 2, 1), some (.iconst 1, 1), some (.if_icmp .ne 12, 3), none, none, some (.aload_n 0, 1), some (.getfield 98, 3), none, none, some (.iload_n 1, 1), some (.iaload, 1), some (.goto 4, 3)]
def xt_87_3 : List (Option (Instr × Nat)) := [none, none, some (.iconst (-1), 1), some (.ireturn, 1)]
/-- 87: X5_mended -/
def xt_87 : xM := ((yX5_mended, cX5_mended, 3, some .int, RX5, 1, 22), [xt_87_0, xt_87_1, xt_87_2, xt_87_3], [(287, 5, 52, 1), (290, 5, 53, 0), (95, 5, 54, 2), (98, 5, 55, 2)], [(101, 55, 3, 1, 0)], [])
def xt_88_0 : List (Option (Instr × Nat)) := [some (.aload_n 0, 1), some (.getfield 287, 3), none, none, some (.ifCond .eq 17, 3), none, none, some (.aload_n 0, 1), some (.getfield 290, 3), none, none, some (.ifCond .eq 10, 3), none, none, some (.aload_n 0, 1), some (.getfield 116, 3)]
def xt_88_1 : List (Option (Instr × Nat)) := [none, none, some (.ifCond .eq 5, 3), none, none, some (.iconst 0, 1), some (.ireturn, 1), some (.iconst 0, 1), some (.istore_n 1, 1), some (.iload_n 1, 1), some (.bipush 6, 2), none, some (.if_icmp .ge 76, 3), none, none, some (.aload_n 0, 1)]
def xt_88_2 : List (Option (Instr × Nat)) := [some (.getfield 13, 3), none, none, some (.iload_n 1, 1), some (.iaload, 1), some (.istore_n 2, 1), some (.iconst 0, 1), some (.istore_n 3, 1), some (.iload_n 3, 1), some (.aload_n 0, 1), some (.getfield 290, 3), none, none, some (.if_icmp .ge 27, 3), none, none]
def xt_88_3 : List (Option (Instr × Nat)) := [some (.iload_n 2, 1), some (.aload_n 0, 1), some (.getfield 95, 3), none, none, some (.iload_n 3, 1), some (.iaload, 1), some (.iload_n 1, 1), some (.if_icmp .ne 7, 3), none, none, some (.iconst 1, 1), some (.goto 4, 3), none, none, some (.iconst 0, 1)]
def xt_88_4 : List (Option (Instr × Nat)) := [some (.iadd, 1), some (.istore_n 2, 1), some (.iinc 3 1, 3), none, none, some (.goto (-29), 3), none, none, some (.iload_n 2, 1), some (.bipush 30, 2), none, some (.if_icmp .gt 21, 3), none, none, some (.iload_n 2, 1), some (.aload_n 0, 1)]
def xt_88_5 : List (Option (Instr × Nat)) := [some (.getfield 13, 3), none, none, some (.iload_n 1, 1), some (.iaload, 1), some (.if_icmp .le 13, 3), none, none, some (.aload_n 0, 1), some (.iload_n 1, 1), some (.invokevirtual 293, 3), none, none, some (.ifCond .eq 5, 3), none, none]
def xt_88_6 : List (Option (Instr × Nat)) := [some (.iconst 0, 1), some (.ireturn, 1), some (.iinc 1 1, 3), none, none, some (.goto (-76), 3), none, none, some (.iconst 0, 1), some (.istore_n 1, 1), some (.iload_n 1, 1), some (.bipush 6, 2), none, some (.if_icmp .ge 158, 3), none, none]
def xt_88_7 : List (Option (Instr × Nat)) := [some (.iconst 0, 1), some (.istore_n 2, 1), some (.iconst 0, 1), some (.istore_n 3, 1), some (.iload_n 3, 1), some (.aload_n 0, 1), some (.getfield 290, 3), none, none, some (.if_icmp .ge 27, 3), none, none, some (.iload_n 2, 1), some (.aload_n 0, 1), some (.getfield 95, 3), none]
def xt_88_8 : List (Option (Instr × Nat)) := [none, some (.iload_n 3, 1), some (.iaload, 1), some (.iload_n 1, 1), some (.if_icmp .ne 7, 3), none, none, some (.iconst 1, 1), some (.goto 4, 3), none, none, some (.iconst 0, 1), some (.iadd, 1), some (.istore_n 2, 1), some (.iinc 3 1, 3), none]
def xt_88_9 : List (Option (Instr × Nat)) := [none, some (.goto (-29), 3), none, none, some (.iconst 5, 1), some (.aload_n 0, 1), some (.getfield 13, 3), none, none, some (.iload_n 1, 1), some (.iaload, 1), some (.imul, 1), some (.iconst 1, 1), some (.isub, 1), some (.istore_n 3, 1), some (.iload_n 3, 1)]
def xt_88_10 : List (Option (Instr × Nat)) := [some (.ifCond .lt 37, 3), none, none, some (.aload_n 0, 1), some (.getfield 7, 3), none, none, some (.sipush 150, 3), none, none, some (.iload_n 1, 1), some (.imul, 1), some (.iconst 5, 1), some (.iload_n 2, 1), some (.imul, 1), some (.iadd, 1)]
def xt_88_11 : List (Option (Instr × Nat)) := [some (.iload_n 3, 1), some (.iadd, 1), some (.aload_n 0, 1), some (.getfield 7, 3), none, none, some (.sipush 150, 3), none, none, some (.iload_n 1, 1), some (.imul, 1), some (.iload_n 3, 1), some (.iadd, 1), some (.iaload, 1), some (.iastore, 1), some (.iinc 3 (-1), 3)]
def xt_88_12 : List (Option (Instr × Nat)) := [none, none, some (.goto (-35), 3), none, none, some (.aload_n 0, 1), some (.getfield 13, 3), none, none, some (.iload_n 1, 1), some (.dup2, 1), some (.iaload, 1), some (.iload_n 2, 1), some (.iadd, 1), some (.iastore, 1), some (.iconst 0, 1)]
def xt_88_13 : List (Option (Instr × Nat)) := [some (.istore_n 3, 1), some (.iconst 0, 1), some (.istore 4, 2), none, some (.iload 4, 2), none, some (.aload_n 0, 1), some (.getfield 290, 3), none, none, some (.if_icmp .ge 43, 3), none, none, some (.aload_n 0, 1), some (.getfield 95, 3), none]
def xt_88_14 : List (Option (Instr × Nat)) := [none, some (.iload 4, 2), none, some (.iaload, 1), some (.iload_n 1, 1), some (.if_icmp .eq 6, 3), none, none, some (.goto 23, 3), none, none, some (.aload_n 0, 1), some (.iload_n 1, 1), some (.iload_n 3, 1), some (.iconst 0, 1), some (.aload_n 0, 1)]
def xt_88_15 : List (Option (Instr × Nat)) := [some (.getfield 98, 3), none, none, some (.iload 4, 2), none, some (.iaload, 1), some (.iconst 0, 1), some (.iconst 0, 1), some (.iconst 0, 1), some (.invokevirtual 124, 3), none, none, some (.iinc 3 1, 3), none, none, some (.iinc 4 1, 3)]
def xt_88_16 : List (Option (Instr × Nat)) := [none, none, some (.goto (-46), 3), none, none, some (.iinc 1 1, 3), none, none, some (.goto (-158), 3), none, none, some (.aload_n 0, 1), some (.iconst 1, 1), some (.putfield 116, 3), none, none]
def xt_88_17 : List (Option (Instr × Nat)) := [some (.iconst 1, 1), some (.ireturn, 1)]
/-- 88: X5_apply -/
def xt_88 : xM := ((yX5_apply, cX5_apply, 5, some .boolean, RX5, 1, 28), [xt_88_0, xt_88_1, xt_88_2, xt_88_3, xt_88_4, xt_88_5, xt_88_6, xt_88_7, xt_88_8, xt_88_9, xt_88_10, xt_88_11, xt_88_12, xt_88_13, xt_88_14, xt_88_15, xt_88_16, xt_88_17], [(287, 5, 52, 1), (290, 5, 53, 0), (116, 5, 5, 1), (13, 5, 1, 2), (95, 5, 54, 2), (7, 5, 0, 2), (98, 5, 55, 2)], [(124, 60, 7, 0, 5)], [])
def xt_89_0 : List (Option (Instr × Nat)) := [some (.iload_n 1, 1), some (.ifCond .ne 8, 3), none, none, some (.aload_n 0, 1), some (.getfield 128, 3), none, none, some (.ireturn, 1), some (.iload_n 1, 1), some (.bipush 10, 2), none, some (.bipush 15, 2), none, some (.invokestatic 101, 3), none]
def xt_89_1 : List (Option (Instr × Nat)) := [none, some (.ifCond .eq 15, 3), none, none, some (.aload_n 0, 1), some (.getfield 13, 3), none, none, some (.iload_n 1, 1), some (.bipush 10, 2), none, some (.isub, 1), some (.iaload, 1), some (.goto 27, 3), none, none]
def xt_89_2 : List (Option (Instr × Nat)) := [some (.iload_n 1, 1), some (.bipush 20, 2), none, some (.bipush 25, 2), none, some (.invokestatic 101, 3), none, none, some (.ifCond .eq 15, 3), none, none, some (.aload_n 0, 1), some (.getfield 16, 3), none, none, some (.iload_n 1, 1)]
def xt_89_3 : List (Option (Instr × Nat)) := [some (.bipush 20, 2), none, some (.isub, 1), some (.iaload, 1), some (.goto 4, 3), none, none, some (.iconst (-1), 1), some (.ireturn, 1)]
/-- 89: X5_count -/
def xt_89 : xM := ((yX5_count, cX5_count, 2, some .int, RX5, 1, 22), [xt_89_0, xt_89_1, xt_89_2, xt_89_3], [(128, 5, 4, 0), (13, 5, 1, 2), (16, 5, 2, 2)], [(101, 55, 3, 1, 0)], [])
def xml_0 : List xM := [xt_0, xt_1, xt_2, xt_3, xt_4, xt_5, xt_6, xt_7, xt_8, xt_9, xt_10, xt_11, xt_12, xt_13, xt_14, xt_15]
def xml_1 : List xM := [xt_16, xt_17, xt_18, xt_19, xt_20, xt_21, xt_22, xt_23, xt_24, xt_25, xt_26, xt_27, xt_28, xt_29, xt_30, xt_31]
def xml_2 : List xM := [xt_32, xt_33, xt_34, xt_35, xt_36, xt_37, xt_38, xt_39, xt_40, xt_41, xt_42, xt_43, xt_44, xt_45, xt_46, xt_47]
def xml_3 : List xM := [xt_48, xt_49, xt_50, xt_51, xt_52, xt_53, xt_54, xt_55, xt_56, xt_57, xt_58, xt_59, xt_60, xt_61, xt_62, xt_63]
def xml_4 : List xM := [xt_64, xt_65, xt_66, xt_67, xt_68, xt_69, xt_70, xt_71, xt_72, xt_73, xt_74, xt_75, xt_76, xt_77, xt_78, xt_79]
def xml_5 : List xM := [xt_80, xt_81, xt_82, xt_83, xt_84, xt_85, xt_86, xt_87, xt_88, xt_89]
def xml : List (List xM) := [xml_0, xml_1, xml_2, xml_3, xml_4, xml_5]
noncomputable def xMT (k : Nat) : xM := match xe_nth xml (k / 16) with
  | none => xt_0
  | some c => match xe_nth c (k % 16) with
    | none => xt_0
    | some X => X
end
section
/-! THE CHECKS of the tables -/
theorem xd_0_0 : xe_dck cX4_code (16 * 0) xt_0_0 = true := by decide +kernel
theorem xd_0_1 : xe_dck cX4_code (16 * 1) xt_0_1 = true := by decide +kernel
theorem xd_0_2 : xe_dck cX4_code (16 * 2) xt_0_2 = true := by decide +kernel
theorem xd_0_3 : xe_dck cX4_code (16 * 3) xt_0_3 = true := by decide +kernel
theorem xd_0_4 : xe_dck cX4_code (16 * 4) xt_0_4 = true := by decide +kernel
theorem xd_0_5 : xe_dck cX4_code (16 * 5) xt_0_5 = true := by decide +kernel
theorem xk_0 : xOK xMT xCLs xWS xNS 0 := xOK_of [292, 86] [] [[342, 343], [345, 346], [354, 355, 356], [361, 363, 0]] 341 63 ⟨xd_0_0, xd_0_1, xd_0_2, xd_0_3, xd_0_4, xd_0_5, trivial⟩ (by decide +kernel) rfl (by decide +kernel) (by decide +kernel) (by decide +kernel) (by decide +kernel) (by decide +kernel)
theorem xd_1_0 : xe_dck cX4_change (16 * 0) xt_1_0 = true := by decide +kernel
theorem xd_1_1 : xe_dck cX4_change (16 * 1) xt_1_1 = true := by decide +kernel
theorem xd_1_2 : xe_dck cX4_change (16 * 2) xt_1_2 = true := by decide +kernel
theorem xd_1_3 : xe_dck cX4_change (16 * 3) xt_1_3 = true := by decide +kernel
theorem xk_1 : xOK xMT xCLs xWS xNS 1 := xOK_of [292] [] [[369, 370, 371], [345, 346], [354, 355, 356], [361, 363, 0]] 368 63 ⟨xd_1_0, xd_1_1, xd_1_2, xd_1_3, trivial⟩ (by decide +kernel) rfl (by decide +kernel) (by decide +kernel) (by decide +kernel) (by decide +kernel) (by decide +kernel)
theorem xd_2_0 : xe_dck cX4_clear (16 * 0) xt_2_0 = true := by decide +kernel
theorem xd_2_1 : xe_dck cX4_clear (16 * 1) xt_2_1 = true := by decide +kernel
theorem xd_2_2 : xe_dck cX4_clear (16 * 2) xt_2_2 = true := by decide +kernel
theorem xk_2 : xOK xMT xCLs xWS xNS 2 := xOK_of [292, 86] [] [[342, 343], [361, 363, 0]] 377 63 ⟨xd_2_0, xd_2_1, xd_2_2, trivial⟩ (by decide +kernel) rfl (by decide +kernel) (by decide +kernel) (by decide +kernel) (by decide +kernel) (by decide +kernel)
theorem xd_3_0 : xe_dck cX4_input (16 * 0) xt_3_0 = true := by decide +kernel
theorem xd_3_1 : xe_dck cX4_input (16 * 1) xt_3_1 = true := by decide +kernel
theorem xd_3_2 : xe_dck cX4_input (16 * 2) xt_3_2 = true := by decide +kernel
theorem xk_3 : xOK xMT xCLs xWS xNS 3 := xOK_of [295, 294] [] [] 381 63 ⟨xd_3_0, xd_3_1, xd_3_2, trivial⟩ (by decide +kernel) rfl (by decide +kernel) (by decide +kernel) (by decide +kernel) (by decide +kernel) (by decide +kernel)
theorem xd_4_0 : xe_dck cX4_empty (16 * 0) xt_4_0 = true := by decide +kernel
theorem xk_4 : xOK xMT xCLs xWS xNS 4 := xOK_of [295] [] [] 385 63 ⟨xd_4_0, trivial⟩ (by decide +kernel) rfl (by decide +kernel) (by decide +kernel) (by decide +kernel) (by decide +kernel) (by decide +kernel)
theorem xd_5_0 : xe_dck cX4_run (16 * 0) xt_5_0 = true := by decide +kernel
theorem xd_5_1 : xe_dck cX4_run (16 * 1) xt_5_1 = true := by decide +kernel
theorem xk_5 : xOK xMT xCLs xWS xNS 5 := xOK_of [297, 296, 295] [] [[390, 391, 392]] 389 63 ⟨xd_5_0, xd_5_1, trivial⟩ (by decide +kernel) rfl (by decide +kernel) (by decide +kernel) (by decide +kernel) (by decide +kernel) (by decide +kernel)
theorem xd_6_0 : xe_dck cX4_ran (16 * 0) xt_6_0 = true := by decide +kernel
theorem xd_6_1 : xe_dck cX4_ran (16 * 1) xt_6_1 = true := by decide +kernel
theorem xd_6_2 : xe_dck cX4_ran (16 * 2) xt_6_2 = true := by decide +kernel
theorem xd_6_3 : xe_dck cX4_ran (16 * 3) xt_6_3 = true := by decide +kernel
theorem xd_6_4 : xe_dck cX4_ran (16 * 4) xt_6_4 = true := by decide +kernel
theorem xd_6_5 : xe_dck cX4_ran (16 * 5) xt_6_5 = true := by decide +kernel
theorem xd_6_6 : xe_dck cX4_ran (16 * 6) xt_6_6 = true := by decide +kernel
theorem xd_6_7 : xe_dck cX4_ran (16 * 7) xt_6_7 = true := by decide +kernel
theorem xd_6_8 : xe_dck cX4_ran (16 * 8) xt_6_8 = true := by decide +kernel
theorem xk_6 : xOK xMT xCLs xWS xNS 6 := xOK_of [297, 296, 137, 139, 141, 143, 135] [] [] 463 63 ⟨xd_6_0, xd_6_1, xd_6_2, xd_6_3, xd_6_4, xd_6_5, xd_6_6, xd_6_7, xd_6_8, trivial⟩ (by decide +kernel) rfl (by decide +kernel) (by decide +kernel) (by decide +kernel) (by decide +kernel) (by decide +kernel)
theorem xd_7_0 : xe_dck cX4_printed (16 * 0) xt_7_0 = true := by decide +kernel
theorem xd_7_1 : xe_dck cX4_printed (16 * 1) xt_7_1 = true := by decide +kernel
theorem xd_7_2 : xe_dck cX4_printed (16 * 2) xt_7_2 = true := by decide +kernel
theorem xk_7 : xOK xMT xCLs xWS xNS 7 := xOK_of [297, 296, 143, 145] [] [] 479 63 ⟨xd_7_0, xd_7_1, xd_7_2, trivial⟩ (by decide +kernel) rfl (by decide +kernel) (by decide +kernel) (by decide +kernel) (by decide +kernel) (by decide +kernel)
theorem xd_8_0 : xe_dck cX4_cell (16 * 0) xt_8_0 = true := by decide +kernel
theorem xd_8_1 : xe_dck cX4_cell (16 * 1) xt_8_1 = true := by decide +kernel
theorem xd_8_2 : xe_dck cX4_cell (16 * 2) xt_8_2 = true := by decide +kernel
theorem xd_8_3 : xe_dck cX4_cell (16 * 3) xt_8_3 = true := by decide +kernel
theorem xd_8_4 : xe_dck cX4_cell (16 * 4) xt_8_4 = true := by decide +kernel
theorem xk_8 : xOK xMT xCLs xWS xNS 8 := xOK_of [297, 296, 133, 135] [] [[348, 349], [484, 413]] 483 63 ⟨xd_8_0, xd_8_1, xd_8_2, xd_8_3, xd_8_4, trivial⟩ (by decide +kernel) rfl (by decide +kernel) (by decide +kernel) (by decide +kernel) (by decide +kernel) (by decide +kernel)
theorem xd_9_0 : xe_dck cX4_flow (16 * 0) xt_9_0 = true := by decide +kernel
theorem xk_9 : xOK xMT xCLs xWS xNS 9 := xOK_of [301] [] [[489, 491, 13], [555, 556, 557]] 488 63 ⟨xd_9_0, trivial⟩ (by decide +kernel) rfl (by decide +kernel) (by decide +kernel) (by decide +kernel) (by decide +kernel) (by decide +kernel)
theorem xd_10_0 : xe_dck cX4_bad (16 * 0) xt_10_0 = true := by decide +kernel
theorem xd_10_1 : xe_dck cX4_bad (16 * 1) xt_10_1 = true := by decide +kernel
theorem xd_10_2 : xe_dck cX4_bad (16 * 2) xt_10_2 = true := by decide +kernel
theorem xd_10_3 : xe_dck cX4_bad (16 * 3) xt_10_3 = true := by decide +kernel
theorem xd_10_4 : xe_dck cX4_bad (16 * 4) xt_10_4 = true := by decide +kernel
theorem xd_10_5 : xe_dck cX4_bad (16 * 5) xt_10_5 = true := by decide +kernel
theorem xk_10 : xOK xMT xCLs xWS xNS 10 := xOK_of [301, 292] [] [[489, 491, 13], [568, 569, 570]] 567 63 ⟨xd_10_0, xd_10_1, xd_10_2, xd_10_3, xd_10_4, xd_10_5, trivial⟩ (by decide +kernel) rfl (by decide +kernel) (by decide +kernel) (by decide +kernel) (by decide +kernel) (by decide +kernel)
theorem xd_11_0 : xe_dck cX4_state (16 * 0) xt_11_0 = true := by decide +kernel
theorem xd_11_1 : xe_dck cX4_state (16 * 1) xt_11_1 = true := by decide +kernel
theorem xd_11_2 : xe_dck cX4_state (16 * 2) xt_11_2 = true := by decide +kernel
theorem xk_11 : xOK xMT xCLs xWS xNS 11 := xOK_of [292, 86, 301] [] [[342, 343], [348, 349], [489, 491, 13], [578, 579, 580]] 577 63 ⟨xd_11_0, xd_11_1, xd_11_2, trivial⟩ (by decide +kernel) rfl (by decide +kernel) (by decide +kernel) (by decide +kernel) (by decide +kernel) (by decide +kernel)
theorem xd_12_0 : xe_dck cX4_witness (16 * 0) xt_12_0 = true := by decide +kernel
theorem xd_12_1 : xe_dck cX4_witness (16 * 1) xt_12_1 = true := by decide +kernel
theorem xd_12_2 : xe_dck cX4_witness (16 * 2) xt_12_2 = true := by decide +kernel
theorem xd_12_3 : xe_dck cX4_witness (16 * 3) xt_12_3 = true := by decide +kernel
theorem xk_12 : xOK xMT xCLs xWS xNS 12 := xOK_of [292, 301] [] [[369, 370, 371], [489, 491, 13], [586, 359]] 585 63 ⟨xd_12_0, xd_12_1, xd_12_2, xd_12_3, trivial⟩ (by decide +kernel) rfl (by decide +kernel) (by decide +kernel) (by decide +kernel) (by decide +kernel) (by decide +kernel)
theorem xd_13_0 : xe_dck cX4_needs (16 * 0) xt_13_0 = true := by decide +kernel
theorem xd_13_1 : xe_dck cX4_needs (16 * 1) xt_13_1 = true := by decide +kernel
theorem xd_13_2 : xe_dck cX4_needs (16 * 2) xt_13_2 = true := by decide +kernel
theorem xd_13_3 : xe_dck cX4_needs (16 * 3) xt_13_3 = true := by decide +kernel
theorem xd_13_4 : xe_dck cX4_needs (16 * 4) xt_13_4 = true := by decide +kernel
theorem xd_13_5 : xe_dck cX4_needs (16 * 5) xt_13_5 = true := by decide +kernel
theorem xk_13 : xOK xMT xCLs xWS xNS 13 := xOK_of [303, 304] [] [[342, 343], [599, 600, 601], [494, 495, 496], [603, 604, 605], [607, 608, 609]] 598 63 ⟨xd_13_0, xd_13_1, xd_13_2, xd_13_3, xd_13_4, xd_13_5, trivial⟩ (by decide +kernel) rfl (by decide +kernel) (by decide +kernel) (by decide +kernel) (by decide +kernel) (by decide +kernel)
theorem xd_14_0 : xe_dck cX4_writes (16 * 0) xt_14_0 = true := by decide +kernel
theorem xd_14_1 : xe_dck cX4_writes (16 * 1) xt_14_1 = true := by decide +kernel
theorem xd_14_2 : xe_dck cX4_writes (16 * 2) xt_14_2 = true := by decide +kernel
theorem xk_14 : xOK xMT xCLs xWS xNS 14 := xOK_of [303, 207, 209] [493] [[342, 343], [599, 600, 601], [494, 495, 496]] 614 63 ⟨xd_14_0, xd_14_1, xd_14_2, trivial⟩ (by decide +kernel) rfl (by decide +kernel) (by decide +kernel) (by decide +kernel) (by decide +kernel) (by decide +kernel)
theorem xd_15_0 : xe_dck cX4_cost (16 * 0) xt_15_0 = true := by decide +kernel
theorem xd_15_1 : xe_dck cX4_cost (16 * 1) xt_15_1 = true := by decide +kernel
theorem xd_15_2 : xe_dck cX4_cost (16 * 2) xt_15_2 = true := by decide +kernel
theorem xk_15 : xOK xMT xCLs xWS xNS 15 := xOK_of [293] [] [[342, 343]] 618 63 ⟨xd_15_0, xd_15_1, xd_15_2, trivial⟩ (by decide +kernel) rfl (by decide +kernel) (by decide +kernel) (by decide +kernel) (by decide +kernel) (by decide +kernel)
theorem xd_16_0 : xe_dck cX4_mend (16 * 0) xt_16_0 = true := by decide +kernel
theorem xd_16_1 : xe_dck cX4_mend (16 * 1) xt_16_1 = true := by decide +kernel
theorem xd_16_2 : xe_dck cX4_mend (16 * 2) xt_16_2 = true := by decide +kernel
theorem xk_16 : xOK xMT xCLs xWS xNS 16 := xOK_of [305, 293, 306] [] [[489, 491, 13], [623, 624, 625], [639, 640, 641]] 622 63 ⟨xd_16_0, xd_16_1, xd_16_2, trivial⟩ (by decide +kernel) rfl (by decide +kernel) (by decide +kernel) (by decide +kernel) (by decide +kernel) (by decide +kernel)
theorem xd_17_0 : xe_dck cX4_mended (16 * 0) xt_17_0 = true := by decide +kernel
theorem xd_17_1 : xe_dck cX4_mended (16 * 1) xt_17_1 = true := by decide +kernel
theorem xd_17_2 : xe_dck cX4_mended (16 * 2) xt_17_2 = true := by decide +kernel
theorem xd_17_3 : xe_dck cX4_mended (16 * 3) xt_17_3 = true := by decide +kernel
theorem xd_17_4 : xe_dck cX4_mended (16 * 4) xt_17_4 = true := by decide +kernel
theorem xk_17 : xOK xMT xCLs xWS xNS 17 := xOK_of [305, 264, 260, 262] [] [] 680 63 ⟨xd_17_0, xd_17_1, xd_17_2, xd_17_3, xd_17_4, trivial⟩ (by decide +kernel) rfl (by decide +kernel) (by decide +kernel) (by decide +kernel) (by decide +kernel) (by decide +kernel)
theorem xd_18_0 : xe_dck cX4_apply (16 * 0) xt_18_0 = true := by decide +kernel
theorem xd_18_1 : xe_dck cX4_apply (16 * 1) xt_18_1 = true := by decide +kernel
theorem xk_18 : xOK xMT xCLs xWS xNS 18 := xOK_of [306, 305] [] [[361, 363, 0]] 684 63 ⟨xd_18_0, xd_18_1, trivial⟩ (by decide +kernel) rfl (by decide +kernel) (by decide +kernel) (by decide +kernel) (by decide +kernel) (by decide +kernel)
theorem xd_19_0 : xe_dck cX4_count (16 * 0) xt_19_0 = true := by decide +kernel
theorem xd_19_1 : xe_dck cX4_count (16 * 1) xt_19_1 = true := by decide +kernel
theorem xd_19_2 : xe_dck cX4_count (16 * 2) xt_19_2 = true := by decide +kernel
theorem xd_19_3 : xe_dck cX4_count (16 * 3) xt_19_3 = true := by decide +kernel
theorem xk_19 : xOK xMT xCLs xWS xNS 19 := xOK_of [295, 292, 86, 293] [] [] 709 63 ⟨xd_19_0, xd_19_1, xd_19_2, xd_19_3, trivial⟩ (by decide +kernel) rfl (by decide +kernel) (by decide +kernel) (by decide +kernel) (by decide +kernel) (by decide +kernel)
theorem xd_20_0 : xe_dck cX4_programIsAnother (16 * 0) xt_20_0 = true := by decide +kernel
theorem xk_20 : xOK xMT xCLs xWS xNS 20 := xOK_of [302, 306] [] [] 364 63 ⟨xd_20_0, trivial⟩ (by decide +kernel) rfl (by decide +kernel) (by decide +kernel) (by decide +kernel) (by decide +kernel) (by decide +kernel)
theorem xd_21_0 : xe_dck cX4_freshen (16 * 0) xt_21_0 = true := by decide +kernel
theorem xd_21_1 : xe_dck cX4_freshen (16 * 1) xt_21_1 = true := by decide +kernel
theorem xk_21 : xOK xMT xCLs xWS xNS 21 := xOK_of [302, 301] [493] [[494, 495, 496]] 492 63 ⟨xd_21_0, xd_21_1, trivial⟩ (by decide +kernel) rfl (by decide +kernel) (by decide +kernel) (by decide +kernel) (by decide +kernel) (by decide +kernel)
theorem xd_22_0 : xe_dck cX4_isFunction (16 * 0) xt_22_0 = true := by decide +kernel
theorem xk_22 : xOK xMT xCLs xWS xNS 22 := xOK_of [] [] [] 344 63 ⟨xd_22_0, trivial⟩ (by decide +kernel) rfl (by decide +kernel) (by decide +kernel) (by decide +kernel) (by decide +kernel) (by decide +kernel)
theorem xd_23_0 : xe_dck cX4_isCell (16 * 0) xt_23_0 = true := by decide +kernel
theorem xk_23 : xOK xMT xCLs xWS xNS 23 := xOK_of [] [] [] 350 63 ⟨xd_23_0, trivial⟩ (by decide +kernel) rfl (by decide +kernel) (by decide +kernel) (by decide +kernel) (by decide +kernel) (by decide +kernel)
theorem xd_24_0 : xe_dck cX4_isRow (16 * 0) xt_24_0 = true := by decide +kernel
theorem xd_24_1 : xe_dck cX4_isRow (16 * 1) xt_24_1 = true := by decide +kernel
theorem xk_24 : xOK xMT xCLs xWS xNS 24 := xOK_of [] [] [[348, 349]] 353 63 ⟨xd_24_0, xd_24_1, trivial⟩ (by decide +kernel) rfl (by decide +kernel) (by decide +kernel) (by decide +kernel) (by decide +kernel) (by decide +kernel)
theorem xd_25_0 : xe_dck cX4_isAsTold (16 * 0) xt_25_0 = true := by decide +kernel
theorem xd_25_1 : xe_dck cX4_isAsTold (16 * 1) xt_25_1 = true := by decide +kernel
theorem xd_25_2 : xe_dck cX4_isAsTold (16 * 2) xt_25_2 = true := by decide +kernel
theorem xd_25_3 : xe_dck cX4_isAsTold (16 * 3) xt_25_3 = true := by decide +kernel
theorem xd_25_4 : xe_dck cX4_isAsTold (16 * 4) xt_25_4 = true := by decide +kernel
theorem xd_25_5 : xe_dck cX4_isAsTold (16 * 5) xt_25_5 = true := by decide +kernel
theorem xd_25_6 : xe_dck cX4_isAsTold (16 * 6) xt_25_6 = true := by decide +kernel
theorem xd_25_7 : xe_dck cX4_isAsTold (16 * 7) xt_25_7 = true := by decide +kernel
theorem xd_25_8 : xe_dck cX4_isAsTold (16 * 8) xt_25_8 = true := by decide +kernel
theorem xd_25_9 : xe_dck cX4_isAsTold (16 * 9) xt_25_9 = true := by decide +kernel
theorem xd_25_10 : xe_dck cX4_isAsTold (16 * 10) xt_25_10 = true := by decide +kernel
theorem xd_25_11 : xe_dck cX4_isAsTold (16 * 11) xt_25_11 = true := by decide +kernel
theorem xd_25_12 : xe_dck cX4_isAsTold (16 * 12) xt_25_12 = true := by decide +kernel
theorem xd_25_13 : xe_dck cX4_isAsTold (16 * 13) xt_25_13 = true := by decide +kernel
theorem xd_25_14 : xe_dck cX4_isAsTold (16 * 14) xt_25_14 = true := by decide +kernel
theorem xd_25_15 : xe_dck cX4_isAsTold (16 * 15) xt_25_15 = true := by decide +kernel
theorem xd_25_16 : xe_dck cX4_isAsTold (16 * 16) xt_25_16 = true := by decide +kernel
theorem xd_25_17 : xe_dck cX4_isAsTold (16 * 17) xt_25_17 = true := by decide +kernel
theorem xd_25_18 : xe_dck cX4_isAsTold (16 * 18) xt_25_18 = true := by decide +kernel
theorem xd_25_19 : xe_dck cX4_isAsTold (16 * 19) xt_25_19 = true := by decide +kernel
theorem xd_25_20 : xe_dck cX4_isAsTold (16 * 20) xt_25_20 = true := by decide +kernel
theorem xd_25_21 : xe_dck cX4_isAsTold (16 * 21) xt_25_21 = true := by decide +kernel
theorem xk_25 : xOK xMT xCLs xWS xNS 25 := xOK_of [] [] [[348, 349], [351, 352], [342, 343]] 347 63 ⟨xd_25_0, xd_25_1, xd_25_2, xd_25_3, xd_25_4, xd_25_5, xd_25_6, xd_25_7, xd_25_8, xd_25_9, xd_25_10, xd_25_11, xd_25_12, xd_25_13, xd_25_14, xd_25_15, xd_25_16, xd_25_17, xd_25_18, xd_25_19, xd_25_20, xd_25_21, trivial⟩ (by decide +kernel) rfl (by decide +kernel) (by decide +kernel) (by decide +kernel) (by decide +kernel) (by decide +kernel)
theorem xd_26_0 : xe_dck cX4_locate (16 * 0) xt_26_0 = true := by decide +kernel
theorem xk_26 : xOK xMT xCLs xWS xNS 26 := xOK_of [] [] [] 360 63 ⟨xd_26_0, trivial⟩ (by decide +kernel) rfl (by decide +kernel) (by decide +kernel) (by decide +kernel) (by decide +kernel) (by decide +kernel)
theorem xd_27_0 : xe_dck cX4_hasBit (16 * 0) xt_27_0 = true := by decide +kernel
theorem xk_27 : xOK xMT xCLs xWS xNS 27 := xOK_of [] [] [] 414 63 ⟨xd_27_0, trivial⟩ (by decide +kernel) rfl (by decide +kernel) (by decide +kernel) (by decide +kernel) (by decide +kernel) (by decide +kernel)
theorem xd_28_0 : xe_dck cX2_has (16 * 0) xt_28_0 = true := by decide +kernel
theorem xd_28_1 : xe_dck cX2_has (16 * 1) xt_28_1 = true := by decide +kernel
theorem xk_28 : xOK xMT xCLs xWS xNS 28 := xOK_of [85] [] [[343]] 372 64 ⟨xd_28_0, xd_28_1, trivial⟩ (by decide +kernel) rfl (by decide +kernel) (by decide +kernel) (by decide +kernel) (by decide +kernel) (by decide +kernel)
theorem xd_29_0 : xe_dck cX2_put (16 * 0) xt_29_0 = true := by decide +kernel
theorem xd_29_1 : xe_dck cX2_put (16 * 1) xt_29_1 = true := by decide +kernel
theorem xd_29_2 : xe_dck cX2_put (16 * 2) xt_29_2 = true := by decide +kernel
theorem xd_29_3 : xe_dck cX2_put (16 * 3) xt_29_3 = true := by decide +kernel
theorem xk_29 : xOK xMT xCLs xWS xNS 29 := xOK_of [89, 92, 95, 98, 101] [] [[359]] 357 64 ⟨xd_29_0, xd_29_1, xd_29_2, xd_29_3, trivial⟩ (by decide +kernel) rfl (by decide +kernel) (by decide +kernel) (by decide +kernel) (by decide +kernel) (by decide +kernel)
theorem xd_30_0 : xe_dck cX3_go (16 * 0) xt_30_0 = true := by decide +kernel
theorem xd_30_1 : xe_dck cX3_go (16 * 1) xt_30_1 = true := by decide +kernel
theorem xd_30_2 : xe_dck cX3_go (16 * 2) xt_30_2 = true := by decide +kernel
theorem xd_30_3 : xe_dck cX3_go (16 * 3) xt_30_3 = true := by decide +kernel
theorem xd_30_4 : xe_dck cX3_go (16 * 4) xt_30_4 = true := by decide +kernel
theorem xd_30_5 : xe_dck cX3_go (16 * 5) xt_30_5 = true := by decide +kernel
theorem xd_30_6 : xe_dck cX3_go (16 * 6) xt_30_6 = true := by decide +kernel
theorem xk_30 : xOK xMT xCLs xWS xNS 30 := xOK_of [126, 124, 130, 131, 136, 129] [] [[394, 396, 1], [398, 370, 371]] 393 65 ⟨xd_30_0, xd_30_1, xd_30_2, xd_30_3, xd_30_4, xd_30_5, xd_30_6, trivial⟩ (by decide +kernel) rfl (by decide +kernel) (by decide +kernel) (by decide +kernel) (by decide +kernel) (by decide +kernel)
theorem xd_31_0 : xe_dck cX3_startAnew (16 * 0) xt_31_0 = true := by decide +kernel
theorem xd_31_1 : xe_dck cX3_startAnew (16 * 1) xt_31_1 = true := by decide +kernel
theorem xd_31_2 : xe_dck cX3_startAnew (16 * 2) xt_31_2 = true := by decide +kernel
theorem xd_31_3 : xe_dck cX3_startAnew (16 * 3) xt_31_3 = true := by decide +kernel
theorem xd_31_4 : xe_dck cX3_startAnew (16 * 4) xt_31_4 = true := by decide +kernel
theorem xk_31 : xOK xMT xCLs xWS xNS 31 := xOK_of [132, 134, 129, 130, 131, 136, 138, 140, 142, 146, 150] [] [] 397 65 ⟨xd_31_0, xd_31_1, xd_31_2, xd_31_3, xd_31_4, trivial⟩ (by decide +kernel) rfl (by decide +kernel) (by decide +kernel) (by decide +kernel) (by decide +kernel) (by decide +kernel)
theorem xd_32_0 : xe_dck cX0_takePlain (16 * 0) xt_32_0 = true := by decide +kernel
theorem xd_32_1 : xe_dck cX0_takePlain (16 * 1) xt_32_1 = true := by decide +kernel
theorem xd_32_2 : xe_dck cX0_takePlain (16 * 2) xt_32_2 = true := by decide +kernel
theorem xk_32 : xOK xMT xCLs xWS xNS 32 := xOK_of [212, 210, 211] [] [] 602 66 ⟨xd_32_0, xd_32_1, xd_32_2, trivial⟩ (by decide +kernel) rfl (by decide +kernel) (by decide +kernel) (by decide +kernel) (by decide +kernel) (by decide +kernel)
theorem xd_33_0 : xe_dck cX0_unsetAtBegin (16 * 0) xt_33_0 = true := by decide +kernel
theorem xd_33_1 : xe_dck cX0_unsetAtBegin (16 * 1) xt_33_1 = true := by decide +kernel
theorem xk_33 : xOK xMT xCLs xWS xNS 33 := xOK_of [211, 212] [] [] 636 66 ⟨xd_33_0, xd_33_1, trivial⟩ (by decide +kernel) rfl (by decide +kernel) (by decide +kernel) (by decide +kernel) (by decide +kernel) (by decide +kernel)
theorem xd_34_0 : xe_dck cX0_follow (16 * 0) xt_34_0 = true := by decide +kernel
theorem xd_34_1 : xe_dck cX0_follow (16 * 1) xt_34_1 = true := by decide +kernel
theorem xd_34_2 : xe_dck cX0_follow (16 * 2) xt_34_2 = true := by decide +kernel
theorem xd_34_3 : xe_dck cX0_follow (16 * 3) xt_34_3 = true := by decide +kernel
theorem xd_34_4 : xe_dck cX0_follow (16 * 4) xt_34_4 = true := by decide +kernel
theorem xd_34_5 : xe_dck cX0_follow (16 * 5) xt_34_5 = true := by decide +kernel
theorem xd_34_6 : xe_dck cX0_follow (16 * 6) xt_34_6 = true := by decide +kernel
theorem xk_34 : xOK xMT xCLs xWS xNS 34 := xOK_of [199, 195, 88, 198] [502, 511] [[498, 500, 14], [503, 505, 15], [512, 514, 17]] 497 66 ⟨xd_34_0, xd_34_1, xd_34_2, xd_34_3, xd_34_4, xd_34_5, xd_34_6, trivial⟩ (by decide +kernel) rfl (by decide +kernel) (by decide +kernel) (by decide +kernel) (by decide +kernel) (by decide +kernel)
theorem xd_35_0 : xe_dck cX0_mayBe (16 * 0) xt_35_0 = true := by decide +kernel
theorem xd_35_1 : xe_dck cX0_mayBe (16 * 1) xt_35_1 = true := by decide +kernel
theorem xd_35_2 : xe_dck cX0_mayBe (16 * 2) xt_35_2 = true := by decide +kernel
theorem xk_35 : xOK xMT xCLs xWS xNS 35 := xOK_of [196, 197] [] [[413]] 581 66 ⟨xd_35_0, xd_35_1, xd_35_2, trivial⟩ (by decide +kernel) rfl (by decide +kernel) (by decide +kernel) (by decide +kernel) (by decide +kernel) (by decide +kernel)
theorem xd_36_0 : xe_dck cX0_badUses (16 * 0) xt_36_0 = true := by decide +kernel
theorem xd_36_1 : xe_dck cX0_badUses (16 * 1) xt_36_1 = true := by decide +kernel
theorem xd_36_2 : xe_dck cX0_badUses (16 * 2) xt_36_2 = true := by decide +kernel
theorem xd_36_3 : xe_dck cX0_badUses (16 * 3) xt_36_3 = true := by decide +kernel
theorem xk_36 : xOK xMT xCLs xWS xNS 36 := xOK_of [195, 88] [] [] 558 66 ⟨xd_36_0, xd_36_1, xd_36_2, xd_36_3, trivial⟩ (by decide +kernel) rfl (by decide +kernel) (by decide +kernel) (by decide +kernel) (by decide +kernel) (by decide +kernel)
theorem xd_37_0 : xe_dck cX0_badUseAt (16 * 0) xt_37_0 = true := by decide +kernel
theorem xd_37_1 : xe_dck cX0_badUseAt (16 * 1) xt_37_1 = true := by decide +kernel
theorem xd_37_2 : xe_dck cX0_badUseAt (16 * 2) xt_37_2 = true := by decide +kernel
theorem xd_37_3 : xe_dck cX0_badUseAt (16 * 3) xt_37_3 = true := by decide +kernel
theorem xd_37_4 : xe_dck cX0_badUseAt (16 * 4) xt_37_4 = true := by decide +kernel
theorem xk_37 : xOK xMT xCLs xWS xNS 37 := xOK_of [195, 88] [] [[359]] 571 66 ⟨xd_37_0, xd_37_1, xd_37_2, xd_37_3, xd_37_4, trivial⟩ (by decide +kernel) rfl (by decide +kernel) (by decide +kernel) (by decide +kernel) (by decide +kernel) (by decide +kernel)
theorem xd_38_0 : xe_dck cX0_tellKinds (16 * 0) xt_38_0 = true := by decide +kernel
theorem xd_38_1 : xe_dck cX0_tellKinds (16 * 1) xt_38_1 = true := by decide +kernel
theorem xd_38_2 : xe_dck cX0_tellKinds (16 * 2) xt_38_2 = true := by decide +kernel
theorem xd_38_3 : xe_dck cX0_tellKinds (16 * 3) xt_38_3 = true := by decide +kernel
theorem xk_38 : xOK xMT xCLs xWS xNS 38 := xOK_of [195, 88] [] [[359]] 606 66 ⟨xd_38_0, xd_38_1, xd_38_2, xd_38_3, trivial⟩ (by decide +kernel) rfl (by decide +kernel) (by decide +kernel) (by decide +kernel) (by decide +kernel) (by decide +kernel)
theorem xd_39_0 : xe_dck cX0_hasKinds (16 * 0) xt_39_0 = true := by decide +kernel
theorem xd_39_1 : xe_dck cX0_hasKinds (16 * 1) xt_39_1 = true := by decide +kernel
theorem xd_39_2 : xe_dck cX0_hasKinds (16 * 2) xt_39_2 = true := by decide +kernel
theorem xd_39_3 : xe_dck cX0_hasKinds (16 * 3) xt_39_3 = true := by decide +kernel
theorem xk_39 : xOK xMT xCLs xWS xNS 39 := xOK_of [195, 88] [] [[359]] 610 66 ⟨xd_39_0, xd_39_1, xd_39_2, xd_39_3, trivial⟩ (by decide +kernel) rfl (by decide +kernel) (by decide +kernel) (by decide +kernel) (by decide +kernel) (by decide +kernel)
theorem xd_40_0 : xe_dck cX0_forget (16 * 0) xt_40_0 = true := by decide +kernel
theorem xd_40_1 : xe_dck cX0_forget (16 * 1) xt_40_1 = true := by decide +kernel
theorem xd_40_2 : xe_dck cX0_forget (16 * 2) xt_40_2 = true := by decide +kernel
theorem xd_40_3 : xe_dck cX0_forget (16 * 3) xt_40_3 = true := by decide +kernel
theorem xd_40_4 : xe_dck cX0_forget (16 * 4) xt_40_4 = true := by decide +kernel
theorem xd_40_5 : xe_dck cX0_forget (16 * 5) xt_40_5 = true := by decide +kernel
theorem xk_40 : xOK xMT xCLs xWS xNS 40 := xOK_of [196, 197, 198, 202, 204, 206, 208, 199] [] [] 501 66 ⟨xd_40_0, xd_40_1, xd_40_2, xd_40_3, xd_40_4, xd_40_5, trivial⟩ (by decide +kernel) rfl (by decide +kernel) (by decide +kernel) (by decide +kernel) (by decide +kernel) (by decide +kernel)
theorem xd_41_0 : xe_dck cX0_come (16 * 0) xt_41_0 = true := by decide +kernel
theorem xd_41_1 : xe_dck cX0_come (16 * 1) xt_41_1 = true := by decide +kernel
theorem xd_41_2 : xe_dck cX0_come (16 * 2) xt_41_2 = true := by decide +kernel
theorem xd_41_3 : xe_dck cX0_come (16 * 3) xt_41_3 = true := by decide +kernel
theorem xk_41 : xOK xMT xCLs xWS xNS 41 := xOK_of [202, 204, 210, 211] [] [[507, 509, 16]] 506 66 ⟨xd_41_0, xd_41_1, xd_41_2, xd_41_3, trivial⟩ (by decide +kernel) rfl (by decide +kernel) (by decide +kernel) (by decide +kernel) (by decide +kernel) (by decide +kernel)
theorem xd_42_0 : xe_dck cX0_join (16 * 0) xt_42_0 = true := by decide +kernel
theorem xd_42_1 : xe_dck cX0_join (16 * 1) xt_42_1 = true := by decide +kernel
theorem xd_42_2 : xe_dck cX0_join (16 * 2) xt_42_2 = true := by decide +kernel
theorem xd_42_3 : xe_dck cX0_join (16 * 3) xt_42_3 = true := by decide +kernel
theorem xd_42_4 : xe_dck cX0_join (16 * 4) xt_42_4 = true := by decide +kernel
theorem xd_42_5 : xe_dck cX0_join (16 * 5) xt_42_5 = true := by decide +kernel
theorem xd_42_6 : xe_dck cX0_join (16 * 6) xt_42_6 = true := by decide +kernel
theorem xk_42 : xOK xMT xCLs xWS xNS 42 := xOK_of [195, 88, 196, 197, 198, 199] [] [] 510 66 ⟨xd_42_0, xd_42_1, xd_42_2, xd_42_3, xd_42_4, xd_42_5, xd_42_6, trivial⟩ (by decide +kernel) rfl (by decide +kernel) (by decide +kernel) (by decide +kernel) (by decide +kernel) (by decide +kernel)
theorem xd_43_0 : xe_dck cX0_takeOn (16 * 0) xt_43_0 = true := by decide +kernel
theorem xd_43_1 : xe_dck cX0_takeOn (16 * 1) xt_43_1 = true := by decide +kernel
theorem xd_43_2 : xe_dck cX0_takeOn (16 * 2) xt_43_2 = true := by decide +kernel
theorem xd_43_3 : xe_dck cX0_takeOn (16 * 3) xt_43_3 = true := by decide +kernel
theorem xd_43_4 : xe_dck cX0_takeOn (16 * 4) xt_43_4 = true := by decide +kernel
theorem xd_43_5 : xe_dck cX0_takeOn (16 * 5) xt_43_5 = true := by decide +kernel
theorem xd_43_6 : xe_dck cX0_takeOn (16 * 6) xt_43_6 = true := by decide +kernel
theorem xd_43_7 : xe_dck cX0_takeOn (16 * 7) xt_43_7 = true := by decide +kernel
theorem xd_43_8 : xe_dck cX0_takeOn (16 * 8) xt_43_8 = true := by decide +kernel
theorem xd_43_9 : xe_dck cX0_takeOn (16 * 9) xt_43_9 = true := by decide +kernel
theorem xd_43_10 : xe_dck cX0_takeOn (16 * 10) xt_43_10 = true := by decide +kernel
theorem xd_43_11 : xe_dck cX0_takeOn (16 * 11) xt_43_11 = true := by decide +kernel
theorem xd_43_12 : xe_dck cX0_takeOn (16 * 12) xt_43_12 = true := by decide +kernel
theorem xd_43_13 : xe_dck cX0_takeOn (16 * 13) xt_43_13 = true := by decide +kernel
theorem xd_43_14 : xe_dck cX0_takeOn (16 * 14) xt_43_14 = true := by decide +kernel
theorem xd_43_15 : xe_dck cX0_takeOn (16 * 15) xt_43_15 = true := by decide +kernel
theorem xk_43 : xOK xMT xCLs xWS xNS 43 := xOK_of [198, 196, 197, 195, 88, 91, 97, 94, 206, 208, 200, 201] [] [[359], [517, 519, 18], [507, 509, 16], [503, 505, 15]] 515 66 ⟨xd_43_0, xd_43_1, xd_43_2, xd_43_3, xd_43_4, xd_43_5, xd_43_6, xd_43_7, xd_43_8, xd_43_9, xd_43_10, xd_43_11, xd_43_12, xd_43_13, xd_43_14, xd_43_15, trivial⟩ (by decide +kernel) rfl (by decide +kernel) (by decide +kernel) (by decide +kernel) (by decide +kernel) (by decide +kernel)
theorem xd_44_0 : xe_dck cX0_leave (16 * 0) xt_44_0 = true := by decide +kernel
theorem xd_44_1 : xe_dck cX0_leave (16 * 1) xt_44_1 = true := by decide +kernel
theorem xd_44_2 : xe_dck cX0_leave (16 * 2) xt_44_2 = true := by decide +kernel
theorem xd_44_3 : xe_dck cX0_leave (16 * 3) xt_44_3 = true := by decide +kernel
theorem xd_44_4 : xe_dck cX0_leave (16 * 4) xt_44_4 = true := by decide +kernel
theorem xd_44_5 : xe_dck cX0_leave (16 * 5) xt_44_5 = true := by decide +kernel
theorem xd_44_6 : xe_dck cX0_leave (16 * 6) xt_44_6 = true := by decide +kernel
theorem xd_44_7 : xe_dck cX0_leave (16 * 7) xt_44_7 = true := by decide +kernel
theorem xd_44_8 : xe_dck cX0_leave (16 * 8) xt_44_8 = true := by decide +kernel
theorem xd_44_9 : xe_dck cX0_leave (16 * 9) xt_44_9 = true := by decide +kernel
theorem xk_44 : xOK xMT xCLs xWS xNS 44 := xOK_of [206, 208, 195, 88, 91, 94, 198, 199] [] [[359]] 520 66 ⟨xd_44_0, xd_44_1, xd_44_2, xd_44_3, xd_44_4, xd_44_5, xd_44_6, xd_44_7, xd_44_8, xd_44_9, trivial⟩ (by decide +kernel) rfl (by decide +kernel) (by decide +kernel) (by decide +kernel) (by decide +kernel) (by decide +kernel)
theorem xd_45_0 : xe_dck cX1_gather (16 * 0) xt_45_0 = true := by decide +kernel
theorem xd_45_1 : xe_dck cX1_gather (16 * 1) xt_45_1 = true := by decide +kernel
theorem xd_45_2 : xe_dck cX1_gather (16 * 2) xt_45_2 = true := by decide +kernel
theorem xd_45_3 : xe_dck cX1_gather (16 * 3) xt_45_3 = true := by decide +kernel
theorem xd_45_4 : xe_dck cX1_gather (16 * 4) xt_45_4 = true := by decide +kernel
theorem xd_45_5 : xe_dck cX1_gather (16 * 5) xt_45_5 = true := by decide +kernel
theorem xd_45_6 : xe_dck cX1_gather (16 * 6) xt_45_6 = true := by decide +kernel
theorem xd_45_7 : xe_dck cX1_gather (16 * 7) xt_45_7 = true := by decide +kernel
theorem xk_45 : xOK xMT xCLs xWS xNS 45 := xOK_of [255, 250, 205, 203, 252, 253] [] [[413], [628, 630, 28]] 626 67 ⟨xd_45_0, xd_45_1, xd_45_2, xd_45_3, xd_45_4, xd_45_5, xd_45_6, xd_45_7, trivial⟩ (by decide +kernel) rfl (by decide +kernel) (by decide +kernel) (by decide +kernel) (by decide +kernel) (by decide +kernel)
theorem xd_46_0 : xe_dck cX1_find (16 * 0) xt_46_0 = true := by decide +kernel
theorem xd_46_1 : xe_dck cX1_find (16 * 1) xt_46_1 = true := by decide +kernel
theorem xk_46 : xOK xMT xCLs xWS xNS 46 := xOK_of [] [] [[643, 645, 29], [661, 663, 32], [673, 675, 35], [665, 667, 33]] 642 67 ⟨xd_46_0, xd_46_1, trivial⟩ (by decide +kernel) rfl (by decide +kernel) (by decide +kernel) (by decide +kernel) (by decide +kernel) (by decide +kernel)
theorem xd_47_0 : xe_dck cX1_leads (16 * 0) xt_47_0 = true := by decide +kernel
theorem xd_47_1 : xe_dck cX1_leads (16 * 1) xt_47_1 = true := by decide +kernel
theorem xd_47_2 : xe_dck cX1_leads (16 * 2) xt_47_2 = true := by decide +kernel
theorem xk_47 : xOK xMT xCLs xWS xNS 47 := xOK_of [251] [] [[632, 600, 601], [633, 634, 635], [637, 495, 496], [638, 556, 557]] 631 67 ⟨xd_47_0, xd_47_1, xd_47_2, trivial⟩ (by decide +kernel) rfl (by decide +kernel) (by decide +kernel) (by decide +kernel) (by decide +kernel) (by decide +kernel)
theorem xd_48_0 : xe_dck cX1_followWays (16 * 0) xt_48_0 = true := by decide +kernel
theorem xd_48_1 : xe_dck cX1_followWays (16 * 1) xt_48_1 = true := by decide +kernel
theorem xd_48_2 : xe_dck cX1_followWays (16 * 2) xt_48_2 = true := by decide +kernel
theorem xd_48_3 : xe_dck cX1_followWays (16 * 3) xt_48_3 = true := by decide +kernel
theorem xd_48_4 : xe_dck cX1_followWays (16 * 4) xt_48_4 = true := by decide +kernel
theorem xd_48_5 : xe_dck cX1_followWays (16 * 5) xt_48_5 = true := by decide +kernel
theorem xd_48_6 : xe_dck cX1_followWays (16 * 6) xt_48_6 = true := by decide +kernel
theorem xd_48_7 : xe_dck cX1_followWays (16 * 7) xt_48_7 = true := by decide +kernel
theorem xd_48_8 : xe_dck cX1_followWays (16 * 8) xt_48_8 = true := by decide +kernel
theorem xk_48 : xOK xMT xCLs xWS xNS 48 := xOK_of [251, 257, 258, 256, 255, 252, 253, 254] [655] [[647, 649, 30], [637, 495, 496], [656, 658, 31], [638, 556, 557], [633, 634, 635]] 646 67 ⟨xd_48_0, xd_48_1, xd_48_2, xd_48_3, xd_48_4, xd_48_5, xd_48_6, xd_48_7, xd_48_8, trivial⟩ (by decide +kernel) rfl (by decide +kernel) (by decide +kernel) (by decide +kernel) (by decide +kernel) (by decide +kernel)
theorem xd_49_0 : xe_dck cX1_doAllMends (16 * 0) xt_49_0 = true := by decide +kernel
theorem xd_49_1 : xe_dck cX1_doAllMends (16 * 1) xt_49_1 = true := by decide +kernel
theorem xd_49_2 : xe_dck cX1_doAllMends (16 * 2) xt_49_2 = true := by decide +kernel
theorem xk_49 : xOK xMT xCLs xWS xNS 49 := xOK_of [251, 255, 252, 253] [] [[632, 600, 601]] 650 67 ⟨xd_49_0, xd_49_1, xd_49_2, trivial⟩ (by decide +kernel) rfl (by decide +kernel) (by decide +kernel) (by decide +kernel) (by decide +kernel) (by decide +kernel)
theorem xd_50_0 : xe_dck cX1_mendsComeTo (16 * 0) xt_50_0 = true := by decide +kernel
theorem xd_50_1 : xe_dck cX1_mendsComeTo (16 * 1) xt_50_1 = true := by decide +kernel
theorem xd_50_2 : xe_dck cX1_mendsComeTo (16 * 2) xt_50_2 = true := by decide +kernel
theorem xd_50_3 : xe_dck cX1_mendsComeTo (16 * 3) xt_50_3 = true := by decide +kernel
theorem xk_50 : xOK xMT xCLs xWS xNS 50 := xOK_of [255, 251, 205, 252, 253] [] [[413]] 659 67 ⟨xd_50_0, xd_50_1, xd_50_2, xd_50_3, trivial⟩ (by decide +kernel) rfl (by decide +kernel) (by decide +kernel) (by decide +kernel) (by decide +kernel) (by decide +kernel)
theorem xd_51_0 : xe_dck cX1_cheapest (16 * 0) xt_51_0 = true := by decide +kernel
theorem xd_51_1 : xe_dck cX1_cheapest (16 * 1) xt_51_1 = true := by decide +kernel
theorem xd_51_2 : xe_dck cX1_cheapest (16 * 2) xt_51_2 = true := by decide +kernel
theorem xd_51_3 : xe_dck cX1_cheapest (16 * 3) xt_51_3 = true := by decide +kernel
theorem xd_51_4 : xe_dck cX1_cheapest (16 * 4) xt_51_4 = true := by decide +kernel
theorem xk_51 : xOK xMT xCLs xWS xNS 51 := xOK_of [258, 255] [] [[665, 667, 33], [669, 671, 34]] 664 67 ⟨xd_51_0, xd_51_1, xd_51_2, xd_51_3, xd_51_4, trivial⟩ (by decide +kernel) rfl (by decide +kernel) (by decide +kernel) (by decide +kernel) (by decide +kernel) (by decide +kernel)
theorem xd_52_0 : xe_dck cX1_costOf (16 * 0) xt_52_0 = true := by decide +kernel
theorem xd_52_1 : xe_dck cX1_costOf (16 * 1) xt_52_1 = true := by decide +kernel
theorem xd_52_2 : xe_dck cX1_costOf (16 * 2) xt_52_2 = true := by decide +kernel
theorem xk_52 : xOK xMT xCLs xWS xNS 52 := xOK_of [255, 252] [] [[413]] 668 67 ⟨xd_52_0, xd_52_1, xd_52_2, trivial⟩ (by decide +kernel) rfl (by decide +kernel) (by decide +kernel) (by decide +kernel) (by decide +kernel) (by decide +kernel)
theorem xd_53_0 : xe_dck cX1_cutsAllWays (16 * 0) xt_53_0 = true := by decide +kernel
theorem xd_53_1 : xe_dck cX1_cutsAllWays (16 * 1) xt_53_1 = true := by decide +kernel
theorem xd_53_2 : xe_dck cX1_cutsAllWays (16 * 2) xt_53_2 = true := by decide +kernel
theorem xd_53_3 : xe_dck cX1_cutsAllWays (16 * 3) xt_53_3 = true := by decide +kernel
theorem xd_53_4 : xe_dck cX1_cutsAllWays (16 * 4) xt_53_4 = true := by decide +kernel
theorem xd_53_5 : xe_dck cX1_cutsAllWays (16 * 5) xt_53_5 = true := by decide +kernel
theorem xk_53 : xOK xMT xCLs xWS xNS 53 := xOK_of [257, 255, 254, 256] [] [[413]] 672 67 ⟨xd_53_0, xd_53_1, xd_53_2, xd_53_3, xd_53_4, xd_53_5, trivial⟩ (by decide +kernel) rfl (by decide +kernel) (by decide +kernel) (by decide +kernel) (by decide +kernel) (by decide +kernel)
theorem xd_54_0 : xe_dck cX1_keep (16 * 0) xt_54_0 = true := by decide +kernel
theorem xd_54_1 : xe_dck cX1_keep (16 * 1) xt_54_1 = true := by decide +kernel
theorem xd_54_2 : xe_dck cX1_keep (16 * 2) xt_54_2 = true := by decide +kernel
theorem xd_54_3 : xe_dck cX1_keep (16 * 3) xt_54_3 = true := by decide +kernel
theorem xd_54_4 : xe_dck cX1_keep (16 * 4) xt_54_4 = true := by decide +kernel
theorem xk_54 : xOK xMT xCLs xWS xNS 54 := xOK_of [263, 255, 259, 252, 261, 253] [] [[413]] 676 67 ⟨xd_54_0, xd_54_1, xd_54_2, xd_54_3, xd_54_4, trivial⟩ (by decide +kernel) rfl (by decide +kernel) (by decide +kernel) (by decide +kernel) (by decide +kernel) (by decide +kernel)
theorem xd_55_0 : xe_dck cX5_in (16 * 0) xt_55_0 = true := by decide +kernel
theorem xk_55 : xOK xMT xCLs xWS xNS 55 := xOK_of [] [] [] 894 68 ⟨xd_55_0, trivial⟩ (by decide +kernel) rfl (by decide +kernel) (by decide +kernel) (by decide +kernel) (by decide +kernel) (by decide +kernel)
theorem xd_56_0 : xe_dck cX5_isFunction (16 * 0) xt_56_0 = true := by decide +kernel
theorem xk_56 : xOK xMT xCLs xWS xNS 56 := xOK_of [] [] [[892, 893]] 891 68 ⟨xd_56_0, trivial⟩ (by decide +kernel) rfl (by decide +kernel) (by decide +kernel) (by decide +kernel) (by decide +kernel) (by decide +kernel)
theorem xd_57_0 : xe_dck cX5_isCell (16 * 0) xt_57_0 = true := by decide +kernel
theorem xk_57 : xOK xMT xCLs xWS xNS 57 := xOK_of [] [] [[892, 893]] 900 68 ⟨xd_57_0, trivial⟩ (by decide +kernel) rfl (by decide +kernel) (by decide +kernel) (by decide +kernel) (by decide +kernel) (by decide +kernel)
theorem xd_58_0 : xe_dck cX5_isRow (16 * 0) xt_58_0 = true := by decide +kernel
theorem xd_58_1 : xe_dck cX5_isRow (16 * 1) xt_58_1 = true := by decide +kernel
theorem xk_58 : xOK xMT xCLs xWS xNS 58 := xOK_of [] [] [[898, 899], [892, 893]] 903 68 ⟨xd_58_0, xd_58_1, trivial⟩ (by decide +kernel) rfl (by decide +kernel) (by decide +kernel) (by decide +kernel) (by decide +kernel) (by decide +kernel)
theorem xd_59_0 : xe_dck cX5_isGood (16 * 0) xt_59_0 = true := by decide +kernel
theorem xd_59_1 : xe_dck cX5_isGood (16 * 1) xt_59_1 = true := by decide +kernel
theorem xd_59_2 : xe_dck cX5_isGood (16 * 2) xt_59_2 = true := by decide +kernel
theorem xd_59_3 : xe_dck cX5_isGood (16 * 3) xt_59_3 = true := by decide +kernel
theorem xd_59_4 : xe_dck cX5_isGood (16 * 4) xt_59_4 = true := by decide +kernel
theorem xd_59_5 : xe_dck cX5_isGood (16 * 5) xt_59_5 = true := by decide +kernel
theorem xd_59_6 : xe_dck cX5_isGood (16 * 6) xt_59_6 = true := by decide +kernel
theorem xd_59_7 : xe_dck cX5_isGood (16 * 7) xt_59_7 = true := by decide +kernel
theorem xd_59_8 : xe_dck cX5_isGood (16 * 8) xt_59_8 = true := by decide +kernel
theorem xd_59_9 : xe_dck cX5_isGood (16 * 9) xt_59_9 = true := by decide +kernel
theorem xd_59_10 : xe_dck cX5_isGood (16 * 10) xt_59_10 = true := by decide +kernel
theorem xd_59_11 : xe_dck cX5_isGood (16 * 11) xt_59_11 = true := by decide +kernel
theorem xd_59_12 : xe_dck cX5_isGood (16 * 12) xt_59_12 = true := by decide +kernel
theorem xd_59_13 : xe_dck cX5_isGood (16 * 13) xt_59_13 = true := by decide +kernel
theorem xd_59_14 : xe_dck cX5_isGood (16 * 14) xt_59_14 = true := by decide +kernel
theorem xd_59_15 : xe_dck cX5_isGood (16 * 15) xt_59_15 = true := by decide +kernel
theorem xd_59_16 : xe_dck cX5_isGood (16 * 16) xt_59_16 = true := by decide +kernel
theorem xd_59_17 : xe_dck cX5_isGood (16 * 17) xt_59_17 = true := by decide +kernel
theorem xd_59_18 : xe_dck cX5_isGood (16 * 18) xt_59_18 = true := by decide +kernel
theorem xd_59_19 : xe_dck cX5_isGood (16 * 19) xt_59_19 = true := by decide +kernel
theorem xd_59_20 : xe_dck cX5_isGood (16 * 20) xt_59_20 = true := by decide +kernel
theorem xd_59_21 : xe_dck cX5_isGood (16 * 21) xt_59_21 = true := by decide +kernel
theorem xk_59 : xOK xMT xCLs xWS xNS 59 := xOK_of [] [] [[898, 899], [892, 893], [901, 902], [889, 890]] 897 68 ⟨xd_59_0, xd_59_1, xd_59_2, xd_59_3, xd_59_4, xd_59_5, xd_59_6, xd_59_7, xd_59_8, xd_59_9, xd_59_10, xd_59_11, xd_59_12, xd_59_13, xd_59_14, xd_59_15, xd_59_16, xd_59_17, xd_59_18, xd_59_19, xd_59_20, xd_59_21, trivial⟩ (by decide +kernel) rfl (by decide +kernel) (by decide +kernel) (by decide +kernel) (by decide +kernel) (by decide +kernel)
theorem xd_60_0 : xe_dck cX5_puts (16 * 0) xt_60_0 = true := by decide +kernel
theorem xd_60_1 : xe_dck cX5_puts (16 * 1) xt_60_1 = true := by decide +kernel
theorem xd_60_2 : xe_dck cX5_puts (16 * 2) xt_60_2 = true := by decide +kernel
theorem xd_60_3 : xe_dck cX5_puts (16 * 3) xt_60_3 = true := by decide +kernel
theorem xd_60_4 : xe_dck cX5_puts (16 * 4) xt_60_4 = true := by decide +kernel
theorem xk_60 : xOK xMT xCLs xWS xNS 60 := xOK_of [716, 721] [] [] 907 68 ⟨xd_60_0, xd_60_1, xd_60_2, xd_60_3, xd_60_4, trivial⟩ (by decide +kernel) rfl (by decide +kernel) (by decide +kernel) (by decide +kernel) (by decide +kernel) (by decide +kernel)
theorem xd_61_0 : xe_dck cX5_code (16 * 0) xt_61_0 = true := by decide +kernel
theorem xd_61_1 : xe_dck cX5_code (16 * 1) xt_61_1 = true := by decide +kernel
theorem xd_61_2 : xe_dck cX5_code (16 * 2) xt_61_2 = true := by decide +kernel
theorem xd_61_3 : xe_dck cX5_code (16 * 3) xt_61_3 = true := by decide +kernel
theorem xd_61_4 : xe_dck cX5_code (16 * 4) xt_61_4 = true := by decide +kernel
theorem xk_61 : xOK xMT xCLs xWS xNS 61 := xOK_of [717] [] [[889, 890], [895, 896], [904, 906, 37]] 888 68 ⟨xd_61_0, xd_61_1, xd_61_2, xd_61_3, xd_61_4, trivial⟩ (by decide +kernel) rfl (by decide +kernel) (by decide +kernel) (by decide +kernel) (by decide +kernel) (by decide +kernel)
theorem xd_62_0 : xe_dck cX5_change (16 * 0) xt_62_0 = true := by decide +kernel
theorem xd_62_1 : xe_dck cX5_change (16 * 1) xt_62_1 = true := by decide +kernel
theorem xd_62_2 : xe_dck cX5_change (16 * 2) xt_62_2 = true := by decide +kernel
theorem xd_62_3 : xe_dck cX5_change (16 * 3) xt_62_3 = true := by decide +kernel
theorem xk_62 : xOK xMT xCLs xWS xNS 62 := xOK_of [717] [] [[889, 890], [892, 893], [895, 896], [904, 906, 37]] 911 68 ⟨xd_62_0, xd_62_1, xd_62_2, xd_62_3, trivial⟩ (by decide +kernel) rfl (by decide +kernel) (by decide +kernel) (by decide +kernel) (by decide +kernel) (by decide +kernel)
theorem xd_63_0 : xe_dck cX5_clear (16 * 0) xt_63_0 = true := by decide +kernel
theorem xd_63_1 : xe_dck cX5_clear (16 * 1) xt_63_1 = true := by decide +kernel
theorem xk_63 : xOK xMT xCLs xWS xNS 63 := xOK_of [717, 721] [] [[889, 890]] 915 68 ⟨xd_63_0, xd_63_1, trivial⟩ (by decide +kernel) rfl (by decide +kernel) (by decide +kernel) (by decide +kernel) (by decide +kernel) (by decide +kernel)
theorem xd_64_0 : xe_dck cX5_input (16 * 0) xt_64_0 = true := by decide +kernel
theorem xd_64_1 : xe_dck cX5_input (16 * 1) xt_64_1 = true := by decide +kernel
theorem xd_64_2 : xe_dck cX5_input (16 * 2) xt_64_2 = true := by decide +kernel
theorem xk_64 : xOK xMT xCLs xWS xNS 64 := xOK_of [720, 719] [] [[892, 893]] 919 68 ⟨xd_64_0, xd_64_1, xd_64_2, trivial⟩ (by decide +kernel) rfl (by decide +kernel) (by decide +kernel) (by decide +kernel) (by decide +kernel) (by decide +kernel)
theorem xd_65_0 : xe_dck cX5_empty (16 * 0) xt_65_0 = true := by decide +kernel
theorem xk_65 : xOK xMT xCLs xWS xNS 65 := xOK_of [720] [] [] 923 68 ⟨xd_65_0, trivial⟩ (by decide +kernel) rfl (by decide +kernel) (by decide +kernel) (by decide +kernel) (by decide +kernel) (by decide +kernel)
theorem xd_66_0 : xe_dck cX5_runs (16 * 0) xt_66_0 = true := by decide +kernel
theorem xd_66_1 : xe_dck cX5_runs (16 * 1) xt_66_1 = true := by decide +kernel
theorem xd_66_2 : xe_dck cX5_runs (16 * 2) xt_66_2 = true := by decide +kernel
theorem xd_66_3 : xe_dck cX5_runs (16 * 3) xt_66_3 = true := by decide +kernel
theorem xd_66_4 : xe_dck cX5_runs (16 * 4) xt_66_4 = true := by decide +kernel
theorem xd_66_5 : xe_dck cX5_runs (16 * 5) xt_66_5 = true := by decide +kernel
theorem xd_66_6 : xe_dck cX5_runs (16 * 6) xt_66_6 = true := by decide +kernel
theorem xd_66_7 : xe_dck cX5_runs (16 * 7) xt_66_7 = true := by decide +kernel
theorem xd_66_8 : xe_dck cX5_runs (16 * 8) xt_66_8 = true := by decide +kernel
theorem xd_66_9 : xe_dck cX5_runs (16 * 9) xt_66_9 = true := by decide +kernel
theorem xd_66_10 : xe_dck cX5_runs (16 * 10) xt_66_10 = true := by decide +kernel
theorem xd_66_11 : xe_dck cX5_runs (16 * 11) xt_66_11 = true := by decide +kernel
theorem xd_66_12 : xe_dck cX5_runs (16 * 12) xt_66_12 = true := by decide +kernel
theorem xd_66_13 : xe_dck cX5_runs (16 * 13) xt_66_13 = true := by decide +kernel
theorem xd_66_14 : xe_dck cX5_runs (16 * 14) xt_66_14 = true := by decide +kernel
theorem xd_66_15 : xe_dck cX5_runs (16 * 15) xt_66_15 = true := by decide +kernel
theorem xd_66_16 : xe_dck cX5_runs (16 * 16) xt_66_16 = true := by decide +kernel
theorem xd_66_17 : xe_dck cX5_runs (16 * 17) xt_66_17 = true := by decide +kernel
theorem xd_66_18 : xe_dck cX5_runs (16 * 18) xt_66_18 = true := by decide +kernel
theorem xd_66_19 : xe_dck cX5_runs (16 * 19) xt_66_19 = true := by decide +kernel
theorem xk_66 : xOK xMT xCLs xWS xNS 66 := xOK_of [722, 723, 726, 727, 728, 729, 730, 734, 737, 724, 725, 717, 716] [] [] 931 68 ⟨xd_66_0, xd_66_1, xd_66_2, xd_66_3, xd_66_4, xd_66_5, xd_66_6, xd_66_7, xd_66_8, xd_66_9, xd_66_10, xd_66_11, xd_66_12, xd_66_13, xd_66_14, xd_66_15, xd_66_16, xd_66_17, xd_66_18, xd_66_19, trivial⟩ (by decide +kernel) rfl (by decide +kernel) (by decide +kernel) (by decide +kernel) (by decide +kernel) (by decide +kernel)
theorem xd_67_0 : xe_dck cX5_run (16 * 0) xt_67_0 = true := by decide +kernel
theorem xd_67_1 : xe_dck cX5_run (16 * 1) xt_67_1 = true := by decide +kernel
theorem xd_67_2 : xe_dck cX5_run (16 * 2) xt_67_2 = true := by decide +kernel
theorem xd_67_3 : xe_dck cX5_run (16 * 3) xt_67_3 = true := by decide +kernel
theorem xd_67_4 : xe_dck cX5_run (16 * 4) xt_67_4 = true := by decide +kernel
theorem xd_67_5 : xe_dck cX5_run (16 * 5) xt_67_5 = true := by decide +kernel
theorem xd_67_6 : xe_dck cX5_run (16 * 6) xt_67_6 = true := by decide +kernel
theorem xd_67_7 : xe_dck cX5_run (16 * 7) xt_67_7 = true := by decide +kernel
theorem xd_67_8 : xe_dck cX5_run (16 * 8) xt_67_8 = true := by decide +kernel
theorem xk_67 : xOK xMT xCLs xWS xNS 67 := xOK_of [733, 735, 740, 726, 741, 727, 742, 728, 743, 729, 744, 730, 745, 746, 731, 747, 722, 748, 723] [] [[928, 930, 38]] 927 68 ⟨xd_67_0, xd_67_1, xd_67_2, xd_67_3, xd_67_4, xd_67_5, xd_67_6, xd_67_7, xd_67_8, trivial⟩ (by decide +kernel) rfl (by decide +kernel) (by decide +kernel) (by decide +kernel) (by decide +kernel) (by decide +kernel)
theorem xd_68_0 : xe_dck cX5_ran (16 * 0) xt_68_0 = true := by decide +kernel
theorem xd_68_1 : xe_dck cX5_ran (16 * 1) xt_68_1 = true := by decide +kernel
theorem xd_68_2 : xe_dck cX5_ran (16 * 2) xt_68_2 = true := by decide +kernel
theorem xd_68_3 : xe_dck cX5_ran (16 * 3) xt_68_3 = true := by decide +kernel
theorem xd_68_4 : xe_dck cX5_ran (16 * 4) xt_68_4 = true := by decide +kernel
theorem xd_68_5 : xe_dck cX5_ran (16 * 5) xt_68_5 = true := by decide +kernel
theorem xd_68_6 : xe_dck cX5_ran (16 * 6) xt_68_6 = true := by decide +kernel
theorem xk_68 : xOK xMT xCLs xWS xNS 68 := xOK_of [740, 741, 742, 743, 744, 745, 748] [] [] 958 68 ⟨xd_68_0, xd_68_1, xd_68_2, xd_68_3, xd_68_4, xd_68_5, xd_68_6, trivial⟩ (by decide +kernel) rfl (by decide +kernel) (by decide +kernel) (by decide +kernel) (by decide +kernel) (by decide +kernel)
theorem xd_69_0 : xe_dck cX5_printed (16 * 0) xt_69_0 = true := by decide +kernel
theorem xd_69_1 : xe_dck cX5_printed (16 * 1) xt_69_1 = true := by decide +kernel
theorem xd_69_2 : xe_dck cX5_printed (16 * 2) xt_69_2 = true := by decide +kernel
theorem xk_69 : xOK xMT xCLs xWS xNS 69 := xOK_of [740, 745, 746] [] [[892, 893]] 962 68 ⟨xd_69_0, xd_69_1, xd_69_2, trivial⟩ (by decide +kernel) rfl (by decide +kernel) (by decide +kernel) (by decide +kernel) (by decide +kernel) (by decide +kernel)
theorem xd_70_0 : xe_dck cX5_cell (16 * 0) xt_70_0 = true := by decide +kernel
theorem xd_70_1 : xe_dck cX5_cell (16 * 1) xt_70_1 = true := by decide +kernel
theorem xd_70_2 : xe_dck cX5_cell (16 * 2) xt_70_2 = true := by decide +kernel
theorem xd_70_3 : xe_dck cX5_cell (16 * 3) xt_70_3 = true := by decide +kernel
theorem xk_70 : xOK xMT xCLs xWS xNS 70 := xOK_of [740, 747, 748] [] [[898, 899]] 966 68 ⟨xd_70_0, xd_70_1, xd_70_2, xd_70_3, trivial⟩ (by decide +kernel) rfl (by decide +kernel) (by decide +kernel) (by decide +kernel) (by decide +kernel) (by decide +kernel)
theorem xd_71_0 : xe_dck cX5_witness (16 * 0) xt_71_0 = true := by decide +kernel
theorem xd_71_1 : xe_dck cX5_witness (16 * 1) xt_71_1 = true := by decide +kernel
theorem xd_71_2 : xe_dck cX5_witness (16 * 2) xt_71_2 = true := by decide +kernel
theorem xd_71_3 : xe_dck cX5_witness (16 * 3) xt_71_3 = true := by decide +kernel
theorem xd_71_4 : xe_dck cX5_witness (16 * 4) xt_71_4 = true := by decide +kernel
theorem xd_71_5 : xe_dck cX5_witness (16 * 5) xt_71_5 = true := by decide +kernel
theorem xd_71_6 : xe_dck cX5_witness (16 * 6) xt_71_6 = true := by decide +kernel
theorem xk_71 : xOK xMT xCLs xWS xNS 71 := xOK_of [717, 733, 735, 736, 732, 737] [] [[889, 890], [892, 893], [928, 930, 38]] 970 68 ⟨xd_71_0, xd_71_1, xd_71_2, xd_71_3, xd_71_4, xd_71_5, xd_71_6, trivial⟩ (by decide +kernel) rfl (by decide +kernel) (by decide +kernel) (by decide +kernel) (by decide +kernel) (by decide +kernel)
theorem xd_72_0 : xe_dck cX5_goes (16 * 0) xt_72_0 = true := by decide +kernel
theorem xd_72_1 : xe_dck cX5_goes (16 * 1) xt_72_1 = true := by decide +kernel
theorem xd_72_2 : xe_dck cX5_goes (16 * 2) xt_72_2 = true := by decide +kernel
theorem xd_72_3 : xe_dck cX5_goes (16 * 3) xt_72_3 = true := by decide +kernel
theorem xd_72_4 : xe_dck cX5_goes (16 * 4) xt_72_4 = true := by decide +kernel
theorem xd_72_5 : xe_dck cX5_goes (16 * 5) xt_72_5 = true := by decide +kernel
theorem xd_72_6 : xe_dck cX5_goes (16 * 6) xt_72_6 = true := by decide +kernel
theorem xk_72 : xOK xMT xCLs xWS xNS 72 := xOK_of [756, 749, 750, 757, 751, 758] [] [] 995 68 ⟨xd_72_0, xd_72_1, xd_72_2, xd_72_3, xd_72_4, xd_72_5, xd_72_6, trivial⟩ (by decide +kernel) rfl (by decide +kernel) (by decide +kernel) (by decide +kernel) (by decide +kernel) (by decide +kernel)
theorem xd_73_0 : xe_dck cX5_begins (16 * 0) xt_73_0 = true := by decide +kernel
theorem xd_73_1 : xe_dck cX5_begins (16 * 1) xt_73_1 = true := by decide +kernel
theorem xd_73_2 : xe_dck cX5_begins (16 * 2) xt_73_2 = true := by decide +kernel
theorem xd_73_3 : xe_dck cX5_begins (16 * 3) xt_73_3 = true := by decide +kernel
theorem xd_73_4 : xe_dck cX5_begins (16 * 4) xt_73_4 = true := by decide +kernel
theorem xd_73_5 : xe_dck cX5_begins (16 * 5) xt_73_5 = true := by decide +kernel
theorem xk_73 : xOK xMT xCLs xWS xNS 73 := xOK_of [757, 758, 759, 760, 755] [983] [[992, 994, 48]] 991 68 ⟨xd_73_0, xd_73_1, xd_73_2, xd_73_3, xd_73_4, xd_73_5, trivial⟩ (by decide +kernel) rfl (by decide +kernel) (by decide +kernel) (by decide +kernel) (by decide +kernel) (by decide +kernel)
theorem xd_74_0 : xe_dck cX5_returns (16 * 0) xt_74_0 = true := by decide +kernel
theorem xd_74_1 : xe_dck cX5_returns (16 * 1) xt_74_1 = true := by decide +kernel
theorem xd_74_2 : xe_dck cX5_returns (16 * 2) xt_74_2 = true := by decide +kernel
theorem xd_74_3 : xe_dck cX5_returns (16 * 3) xt_74_3 = true := by decide +kernel
theorem xd_74_4 : xe_dck cX5_returns (16 * 4) xt_74_4 = true := by decide +kernel
theorem xd_74_5 : xe_dck cX5_returns (16 * 5) xt_74_5 = true := by decide +kernel
theorem xd_74_6 : xe_dck cX5_returns (16 * 6) xt_74_6 = true := by decide +kernel
theorem xk_74 : xOK xMT xCLs xWS xNS 74 := xOK_of [756, 752, 753, 757, 754, 758] [] [] 999 68 ⟨xd_74_0, xd_74_1, xd_74_2, xd_74_3, xd_74_4, xd_74_5, xd_74_6, trivial⟩ (by decide +kernel) rfl (by decide +kernel) (by decide +kernel) (by decide +kernel) (by decide +kernel) (by decide +kernel)
theorem xd_75_0 : xe_dck cX5_flows (16 * 0) xt_75_0 = true := by decide +kernel
theorem xd_75_1 : xe_dck cX5_flows (16 * 1) xt_75_1 = true := by decide +kernel
theorem xd_75_2 : xe_dck cX5_flows (16 * 2) xt_75_2 = true := by decide +kernel
theorem xd_75_3 : xe_dck cX5_flows (16 * 3) xt_75_3 = true := by decide +kernel
theorem xd_75_4 : xe_dck cX5_flows (16 * 4) xt_75_4 = true := by decide +kernel
theorem xd_75_5 : xe_dck cX5_flows (16 * 5) xt_75_5 = true := by decide +kernel
theorem xd_75_6 : xe_dck cX5_flows (16 * 6) xt_75_6 = true := by decide +kernel
theorem xd_75_7 : xe_dck cX5_flows (16 * 7) xt_75_7 = true := by decide +kernel
theorem xd_75_8 : xe_dck cX5_flows (16 * 8) xt_75_8 = true := by decide +kernel
theorem xd_75_9 : xe_dck cX5_flows (16 * 9) xt_75_9 = true := by decide +kernel
theorem xd_75_10 : xe_dck cX5_flows (16 * 10) xt_75_10 = true := by decide +kernel
theorem xd_75_11 : xe_dck cX5_flows (16 * 11) xt_75_11 = true := by decide +kernel
theorem xd_75_12 : xe_dck cX5_flows (16 * 12) xt_75_12 = true := by decide +kernel
theorem xd_75_13 : xe_dck cX5_flows (16 * 13) xt_75_13 = true := by decide +kernel
theorem xd_75_14 : xe_dck cX5_flows (16 * 14) xt_75_14 = true := by decide +kernel
theorem xd_75_15 : xe_dck cX5_flows (16 * 15) xt_75_15 = true := by decide +kernel
theorem xd_75_16 : xe_dck cX5_flows (16 * 16) xt_75_16 = true := by decide +kernel
theorem xk_75 : xOK xMT xCLs xWS xNS 75 := xOK_of [749, 750, 751, 752, 753, 754, 759, 760, 757, 758, 756, 717] [] [[988, 990, 47], [996, 998, 49], [992, 994, 48]] 987 68 ⟨xd_75_0, xd_75_1, xd_75_2, xd_75_3, xd_75_4, xd_75_5, xd_75_6, xd_75_7, xd_75_8, xd_75_9, xd_75_10, xd_75_11, xd_75_12, xd_75_13, xd_75_14, xd_75_15, xd_75_16, trivial⟩ (by decide +kernel) rfl (by decide +kernel) (by decide +kernel) (by decide +kernel) (by decide +kernel) (by decide +kernel)
theorem xd_76_0 : xe_dck cX5_has (16 * 0) xt_76_0 = true := by decide +kernel
theorem xk_76 : xOK xMT xCLs xWS xNS 76 := xOK_of [] [] [] 1013 68 ⟨xd_76_0, trivial⟩ (by decide +kernel) rfl (by decide +kernel) (by decide +kernel) (by decide +kernel) (by decide +kernel) (by decide +kernel)
theorem xd_77_0 : xe_dck cX5_badMany (16 * 0) xt_77_0 = true := by decide +kernel
theorem xd_77_1 : xe_dck cX5_badMany (16 * 1) xt_77_1 = true := by decide +kernel
theorem xd_77_2 : xe_dck cX5_badMany (16 * 2) xt_77_2 = true := by decide +kernel
theorem xd_77_3 : xe_dck cX5_badMany (16 * 3) xt_77_3 = true := by decide +kernel
theorem xk_77 : xOK xMT xCLs xWS xNS 77 := xOK_of [717] [] [] 1017 68 ⟨xd_77_0, xd_77_1, xd_77_2, xd_77_3, trivial⟩ (by decide +kernel) rfl (by decide +kernel) (by decide +kernel) (by decide +kernel) (by decide +kernel) (by decide +kernel)
theorem xd_78_0 : xe_dck cX5_unmends (16 * 0) xt_78_0 = true := by decide +kernel
theorem xd_78_1 : xe_dck cX5_unmends (16 * 1) xt_78_1 = true := by decide +kernel
theorem xk_78 : xOK xMT xCLs xWS xNS 78 := xOK_of [755] [] [] 982 68 ⟨xd_78_0, xd_78_1, trivial⟩ (by decide +kernel) rfl (by decide +kernel) (by decide +kernel) (by decide +kernel) (by decide +kernel) (by decide +kernel)
theorem xd_79_0 : xe_dck cX5_flowsPlain (16 * 0) xt_79_0 = true := by decide +kernel
theorem xk_79 : xOK xMT xCLs xWS xNS 79 := xOK_of [] [983] [[979, 981, 45], [984, 986, 46]] 978 68 ⟨xd_79_0, trivial⟩ (by decide +kernel) rfl (by decide +kernel) (by decide +kernel) (by decide +kernel) (by decide +kernel) (by decide +kernel)
theorem xd_80_0 : xe_dck cX5_flow (16 * 0) xt_80_0 = true := by decide +kernel
theorem xk_80 : xOK xMT xCLs xWS xNS 80 := xOK_of [] [] [[975, 977, 44], [1014, 1016, 52]] 974 68 ⟨xd_80_0, trivial⟩ (by decide +kernel) rfl (by decide +kernel) (by decide +kernel) (by decide +kernel) (by decide +kernel) (by decide +kernel)
theorem xd_81_0 : xe_dck cX5_bad (16 * 0) xt_81_0 = true := by decide +kernel
theorem xd_81_1 : xe_dck cX5_bad (16 * 1) xt_81_1 = true := by decide +kernel
theorem xd_81_2 : xe_dck cX5_bad (16 * 2) xt_81_2 = true := by decide +kernel
theorem xd_81_3 : xe_dck cX5_bad (16 * 3) xt_81_3 = true := by decide +kernel
theorem xd_81_4 : xe_dck cX5_bad (16 * 4) xt_81_4 = true := by decide +kernel
theorem xd_81_5 : xe_dck cX5_bad (16 * 5) xt_81_5 = true := by decide +kernel
theorem xd_81_6 : xe_dck cX5_bad (16 * 6) xt_81_6 = true := by decide +kernel
theorem xd_81_7 : xe_dck cX5_bad (16 * 7) xt_81_7 = true := by decide +kernel
theorem xd_81_8 : xe_dck cX5_bad (16 * 8) xt_81_8 = true := by decide +kernel
theorem xd_81_9 : xe_dck cX5_bad (16 * 9) xt_81_9 = true := by decide +kernel
theorem xk_81 : xOK xMT xCLs xWS xNS 81 := xOK_of [717, 750] [] [[975, 977, 44], [1011, 1012]] 1029 68 ⟨xd_81_0, xd_81_1, xd_81_2, xd_81_3, xd_81_4, xd_81_5, xd_81_6, xd_81_7, xd_81_8, xd_81_9, trivial⟩ (by decide +kernel) rfl (by decide +kernel) (by decide +kernel) (by decide +kernel) (by decide +kernel) (by decide +kernel)
theorem xd_82_0 : xe_dck cX5_state (16 * 0) xt_82_0 = true := by decide +kernel
theorem xd_82_1 : xe_dck cX5_state (16 * 1) xt_82_1 = true := by decide +kernel
theorem xd_82_2 : xe_dck cX5_state (16 * 2) xt_82_2 = true := by decide +kernel
theorem xd_82_3 : xe_dck cX5_state (16 * 3) xt_82_3 = true := by decide +kernel
theorem xd_82_4 : xe_dck cX5_state (16 * 4) xt_82_4 = true := by decide +kernel
theorem xd_82_5 : xe_dck cX5_state (16 * 5) xt_82_5 = true := by decide +kernel
theorem xd_82_6 : xe_dck cX5_state (16 * 6) xt_82_6 = true := by decide +kernel
theorem xk_82 : xOK xMT xCLs xWS xNS 82 := xOK_of [717, 749, 750, 751] [] [[889, 890], [892, 893], [898, 899], [975, 977, 44], [1011, 1012]] 1033 68 ⟨xd_82_0, xd_82_1, xd_82_2, xd_82_3, xd_82_4, xd_82_5, xd_82_6, trivial⟩ (by decide +kernel) rfl (by decide +kernel) (by decide +kernel) (by decide +kernel) (by decide +kernel) (by decide +kernel)
theorem xd_83_0 : xe_dck cX5_needs (16 * 0) xt_83_0 = true := by decide +kernel
theorem xd_83_1 : xe_dck cX5_needs (16 * 1) xt_83_1 = true := by decide +kernel
theorem xd_83_2 : xe_dck cX5_needs (16 * 2) xt_83_2 = true := by decide +kernel
theorem xd_83_3 : xe_dck cX5_needs (16 * 3) xt_83_3 = true := by decide +kernel
theorem xd_83_4 : xe_dck cX5_needs (16 * 4) xt_83_4 = true := by decide +kernel
theorem xd_83_5 : xe_dck cX5_needs (16 * 5) xt_83_5 = true := by decide +kernel
theorem xd_83_6 : xe_dck cX5_needs (16 * 6) xt_83_6 = true := by decide +kernel
theorem xd_83_7 : xe_dck cX5_needs (16 * 7) xt_83_7 = true := by decide +kernel
theorem xd_83_8 : xe_dck cX5_needs (16 * 8) xt_83_8 = true := by decide +kernel
theorem xd_83_9 : xe_dck cX5_needs (16 * 9) xt_83_9 = true := by decide +kernel
theorem xd_83_10 : xe_dck cX5_needs (16 * 10) xt_83_10 = true := by decide +kernel
theorem xd_83_11 : xe_dck cX5_needs (16 * 11) xt_83_11 = true := by decide +kernel
theorem xd_83_12 : xe_dck cX5_needs (16 * 12) xt_83_12 = true := by decide +kernel
theorem xk_83 : xOK xMT xCLs xWS xNS 83 := xOK_of [717, 761] [983] [[889, 890], [979, 981, 45], [984, 986, 46]] 1037 68 ⟨xd_83_0, xd_83_1, xd_83_2, xd_83_3, xd_83_4, xd_83_5, xd_83_6, xd_83_7, xd_83_8, xd_83_9, xd_83_10, xd_83_11, xd_83_12, trivial⟩ (by decide +kernel) rfl (by decide +kernel) (by decide +kernel) (by decide +kernel) (by decide +kernel) (by decide +kernel)
theorem xd_84_0 : xe_dck cX5_writes (16 * 0) xt_84_0 = true := by decide +kernel
theorem xd_84_1 : xe_dck cX5_writes (16 * 1) xt_84_1 = true := by decide +kernel
theorem xd_84_2 : xe_dck cX5_writes (16 * 2) xt_84_2 = true := by decide +kernel
theorem xd_84_3 : xe_dck cX5_writes (16 * 3) xt_84_3 = true := by decide +kernel
theorem xk_84 : xOK xMT xCLs xWS xNS 84 := xOK_of [752, 753, 754] [983] [[889, 890], [979, 981, 45], [984, 986, 46]] 1045 68 ⟨xd_84_0, xd_84_1, xd_84_2, xd_84_3, trivial⟩ (by decide +kernel) rfl (by decide +kernel) (by decide +kernel) (by decide +kernel) (by decide +kernel) (by decide +kernel)
theorem xd_85_0 : xe_dck cX5_cost (16 * 0) xt_85_0 = true := by decide +kernel
theorem xd_85_1 : xe_dck cX5_cost (16 * 1) xt_85_1 = true := by decide +kernel
theorem xd_85_2 : xe_dck cX5_cost (16 * 2) xt_85_2 = true := by decide +kernel
theorem xk_85 : xOK xMT xCLs xWS xNS 85 := xOK_of [718] [] [[889, 890], [892, 893]] 1049 68 ⟨xd_85_0, xd_85_1, xd_85_2, trivial⟩ (by decide +kernel) rfl (by decide +kernel) (by decide +kernel) (by decide +kernel) (by decide +kernel) (by decide +kernel)
theorem xd_86_0 : xe_dck cX5_mend (16 * 0) xt_86_0 = true := by decide +kernel
theorem xd_86_1 : xe_dck cX5_mend (16 * 1) xt_86_1 = true := by decide +kernel
theorem xd_86_2 : xe_dck cX5_mend (16 * 2) xt_86_2 = true := by decide +kernel
theorem xd_86_3 : xe_dck cX5_mend (16 * 3) xt_86_3 = true := by decide +kernel
theorem xd_86_4 : xe_dck cX5_mend (16 * 4) xt_86_4 = true := by decide +kernel
theorem xd_86_5 : xe_dck cX5_mend (16 * 5) xt_86_5 = true := by decide +kernel
theorem xd_86_6 : xe_dck cX5_mend (16 * 6) xt_86_6 = true := by decide +kernel
theorem xd_86_7 : xe_dck cX5_mend (16 * 7) xt_86_7 = true := by decide +kernel
theorem xd_86_8 : xe_dck cX5_mend (16 * 8) xt_86_8 = true := by decide +kernel
theorem xd_86_9 : xe_dck cX5_mend (16 * 9) xt_86_9 = true := by decide +kernel
theorem xd_86_10 : xe_dck cX5_mend (16 * 10) xt_86_10 = true := by decide +kernel
theorem xd_86_11 : xe_dck cX5_mend (16 * 11) xt_86_11 = true := by decide +kernel
theorem xd_86_12 : xe_dck cX5_mend (16 * 12) xt_86_12 = true := by decide +kernel
theorem xd_86_13 : xe_dck cX5_mend (16 * 13) xt_86_13 = true := by decide +kernel
theorem xd_86_14 : xe_dck cX5_mend (16 * 14) xt_86_14 = true := by decide +kernel
theorem xd_86_15 : xe_dck cX5_mend (16 * 15) xt_86_15 = true := by decide +kernel
theorem xd_86_16 : xe_dck cX5_mend (16 * 16) xt_86_16 = true := by decide +kernel
theorem xk_86 : xOK xMT xCLs xWS xNS 86 := xOK_of [762, 718, 763, 755, 764, 768, 721, 769, 770, 771] [1074, 983] [[975, 977, 44], [1014, 1016, 52], [979, 981, 45], [984, 986, 46]] 1053 68 ⟨xd_86_0, xd_86_1, xd_86_2, xd_86_3, xd_86_4, xd_86_5, xd_86_6, xd_86_7, xd_86_8, xd_86_9, xd_86_10, xd_86_11, xd_86_12, xd_86_13, xd_86_14, xd_86_15, xd_86_16, trivial⟩ (by decide +kernel) rfl (by decide +kernel) (by decide +kernel) (by decide +kernel) (by decide +kernel) (by decide +kernel)
theorem xd_87_0 : xe_dck cX5_mended (16 * 0) xt_87_0 = true := by decide +kernel
theorem xd_87_1 : xe_dck cX5_mended (16 * 1) xt_87_1 = true := by decide +kernel
theorem xd_87_2 : xe_dck cX5_mended (16 * 2) xt_87_2 = true := by decide +kernel
theorem xd_87_3 : xe_dck cX5_mended (16 * 3) xt_87_3 = true := by decide +kernel
theorem xk_87 : xOK xMT xCLs xWS xNS 87 := xOK_of [768, 769, 770, 771] [] [[892, 893]] 1078 68 ⟨xd_87_0, xd_87_1, xd_87_2, xd_87_3, trivial⟩ (by decide +kernel) rfl (by decide +kernel) (by decide +kernel) (by decide +kernel) (by decide +kernel) (by decide +kernel)
theorem xd_88_0 : xe_dck cX5_apply (16 * 0) xt_88_0 = true := by decide +kernel
theorem xd_88_1 : xe_dck cX5_apply (16 * 1) xt_88_1 = true := by decide +kernel
theorem xd_88_2 : xe_dck cX5_apply (16 * 2) xt_88_2 = true := by decide +kernel
theorem xd_88_3 : xe_dck cX5_apply (16 * 3) xt_88_3 = true := by decide +kernel
theorem xd_88_4 : xe_dck cX5_apply (16 * 4) xt_88_4 = true := by decide +kernel
theorem xd_88_5 : xe_dck cX5_apply (16 * 5) xt_88_5 = true := by decide +kernel
theorem xd_88_6 : xe_dck cX5_apply (16 * 6) xt_88_6 = true := by decide +kernel
theorem xd_88_7 : xe_dck cX5_apply (16 * 7) xt_88_7 = true := by decide +kernel
theorem xd_88_8 : xe_dck cX5_apply (16 * 8) xt_88_8 = true := by decide +kernel
theorem xd_88_9 : xe_dck cX5_apply (16 * 9) xt_88_9 = true := by decide +kernel
theorem xd_88_10 : xe_dck cX5_apply (16 * 10) xt_88_10 = true := by decide +kernel
theorem xd_88_11 : xe_dck cX5_apply (16 * 11) xt_88_11 = true := by decide +kernel
theorem xd_88_12 : xe_dck cX5_apply (16 * 12) xt_88_12 = true := by decide +kernel
theorem xd_88_13 : xe_dck cX5_apply (16 * 13) xt_88_13 = true := by decide +kernel
theorem xd_88_14 : xe_dck cX5_apply (16 * 14) xt_88_14 = true := by decide +kernel
theorem xd_88_15 : xe_dck cX5_apply (16 * 15) xt_88_15 = true := by decide +kernel
theorem xd_88_16 : xe_dck cX5_apply (16 * 16) xt_88_16 = true := by decide +kernel
theorem xd_88_17 : xe_dck cX5_apply (16 * 17) xt_88_17 = true := by decide +kernel
theorem xk_88 : xOK xMT xCLs xWS xNS 88 := xOK_of [768, 769, 721, 717, 770, 716, 771] [] [[904, 906, 37]] 1082 68 ⟨xd_88_0, xd_88_1, xd_88_2, xd_88_3, xd_88_4, xd_88_5, xd_88_6, xd_88_7, xd_88_8, xd_88_9, xd_88_10, xd_88_11, xd_88_12, xd_88_13, xd_88_14, xd_88_15, xd_88_16, xd_88_17, trivial⟩ (by decide +kernel) rfl (by decide +kernel) (by decide +kernel) (by decide +kernel) (by decide +kernel) (by decide +kernel)
theorem xd_89_0 : xe_dck cX5_count (16 * 0) xt_89_0 = true := by decide +kernel
theorem xd_89_1 : xe_dck cX5_count (16 * 1) xt_89_1 = true := by decide +kernel
theorem xd_89_2 : xe_dck cX5_count (16 * 2) xt_89_2 = true := by decide +kernel
theorem xd_89_3 : xe_dck cX5_count (16 * 3) xt_89_3 = true := by decide +kernel
theorem xk_89 : xOK xMT xCLs xWS xNS 89 := xOK_of [720, 717, 718] [] [[892, 893]] 1090 68 ⟨xd_89_0, xd_89_1, xd_89_2, xd_89_3, trivial⟩ (by decide +kernel) rfl (by decide +kernel) (by decide +kernel) (by decide +kernel) (by decide +kernel) (by decide +kernel)
theorem xOK_congr {M : Nat → xM} {CL : List vw_C} {WS : List Cond} {ns : xN} {k j : Nat} (h : M k = M j) (hj : xOK M CL WS ns j) : xOK M CL WS ns k := by
  unfold xOK at hj ⊢
  rw [h]
  exact hj
theorem xk_out {k : Nat} (h : 90 ≤ k) : xMT k = xMT 0 := by
  rcases Nat.lt_or_ge k 96 with h2 | h2
  · rcases (show k = 90 ∨ k = 91 ∨ k = 92 ∨ k = 93 ∨ k = 94 ∨ k = 95 by omega) with rfl | rfl | rfl | rfl | rfl | rfl <;> rfl
  · have e : xe_nth xml (k / 16) = none := by rw [xe_nth_eq]; exact List.getElem?_eq_none (by show 6 ≤ k / 16; omega)
    unfold xMT
    rw [e]
    rfl
theorem xk_all : ∀ k : Nat, xOK xMT xCLs xWS xNS k
  | 0 => xk_0
  | 1 => xk_1
  | 2 => xk_2
  | 3 => xk_3
  | 4 => xk_4
  | 5 => xk_5
  | 6 => xk_6
  | 7 => xk_7
  | 8 => xk_8
  | 9 => xk_9
  | 10 => xk_10
  | 11 => xk_11
  | 12 => xk_12
  | 13 => xk_13
  | 14 => xk_14
  | 15 => xk_15
  | 16 => xk_16
  | 17 => xk_17
  | 18 => xk_18
  | 19 => xk_19
  | 20 => xk_20
  | 21 => xk_21
  | 22 => xk_22
  | 23 => xk_23
  | 24 => xk_24
  | 25 => xk_25
  | 26 => xk_26
  | 27 => xk_27
  | 28 => xk_28
  | 29 => xk_29
  | 30 => xk_30
  | 31 => xk_31
  | 32 => xk_32
  | 33 => xk_33
  | 34 => xk_34
  | 35 => xk_35
  | 36 => xk_36
  | 37 => xk_37
  | 38 => xk_38
  | 39 => xk_39
  | 40 => xk_40
  | 41 => xk_41
  | 42 => xk_42
  | 43 => xk_43
  | 44 => xk_44
  | 45 => xk_45
  | 46 => xk_46
  | 47 => xk_47
  | 48 => xk_48
  | 49 => xk_49
  | 50 => xk_50
  | 51 => xk_51
  | 52 => xk_52
  | 53 => xk_53
  | 54 => xk_54
  | 55 => xk_55
  | 56 => xk_56
  | 57 => xk_57
  | 58 => xk_58
  | 59 => xk_59
  | 60 => xk_60
  | 61 => xk_61
  | 62 => xk_62
  | 63 => xk_63
  | 64 => xk_64
  | 65 => xk_65
  | 66 => xk_66
  | 67 => xk_67
  | 68 => xk_68
  | 69 => xk_69
  | 70 => xk_70
  | 71 => xk_71
  | 72 => xk_72
  | 73 => xk_73
  | 74 => xk_74
  | 75 => xk_75
  | 76 => xk_76
  | 77 => xk_77
  | 78 => xk_78
  | 79 => xk_79
  | 80 => xk_80
  | 81 => xk_81
  | 82 => xk_82
  | 83 => xk_83
  | 84 => xk_84
  | 85 => xk_85
  | 86 => xk_86
  | 87 => xk_87
  | 88 => xk_88
  | 89 => xk_89
  | n + 90 => xOK_congr (xk_out (Nat.le_add_left 90 n)) xk_0
theorem xq_0 : xe_all2 (fun u n => xe_wd n u) (u_ws RX0 TX0 14) [213, 215, 217, 219, 221, 223, 225, 227, 229, 231, 233, 235, 237, 239] = true := by decide +kernel
theorem xq_1 : xe_all2 (fun u n => xe_wd n u) (u_ws RX1 TX1 13) [265, 267, 269, 271, 273, 275, 277, 279, 281, 283, 285, 287, 289] = true := by decide +kernel
theorem xq_2 : xe_all2 (fun u n => xe_wd n u) (u_ws RX2 TX2 6) [104, 106, 108, 110, 112, 114] = true := by decide +kernel
theorem xq_3 : xe_all2 (fun u n => xe_wd n u) (u_ws RX3 TX3 18) [152, 154, 156, 158, 160, 162, 164, 166, 168, 170, 172, 174, 176, 178, 180, 182, 184, 186] = true := by decide +kernel
theorem xq_4 : xe_all2 (fun u n => xe_wd n u) (u_ws RX4 TX4 15) [307, 309, 311, 313, 315, 317, 319, 321, 323, 325, 327, 329, 331, 333, 335] = true := by decide +kernel
theorem xq_5 : xe_all2 (fun u n => xe_wd n u) (u_ws RX5 TX5 56) [772, 774, 776, 778, 780, 782, 784, 786, 788, 790, 792, 794, 796, 798, 800, 802, 804, 806, 808, 810, 812, 814, 816, 818, 820, 822, 824, 826, 828, 830, 832, 834, 836, 838, 840, 842, 844, 846, 848, 850, 852, 854, 856, 858, 860, 862, 864, 866, 868, 870, 872, 874, 876, 878, 880, 882] = true := by decide +kernel
theorem xq_all : xCL xCLs xWS := by
  intro ci C T N h
  match ci, h with
  | 0, h => cases h; exact ⟨fun u hu => (xe_all2_mem xq_0 u hu).elim fun _ h => xe_wd_mem h, tyX0, tyX0_ok, nmX0⟩
  | 1, h => cases h; exact ⟨fun u hu => (xe_all2_mem xq_1 u hu).elim fun _ h => xe_wd_mem h, tyX1, tyX1_ok, nmX1⟩
  | 2, h => cases h; exact ⟨fun u hu => (xe_all2_mem xq_2 u hu).elim fun _ h => xe_wd_mem h, tyX2, tyX2_ok, nmX2⟩
  | 3, h => cases h; exact ⟨fun u hu => (xe_all2_mem xq_3 u hu).elim fun _ h => xe_wd_mem h, tyX3, tyX3_ok, nmX3⟩
  | 4, h => cases h; exact ⟨fun u hu => (xe_all2_mem xq_4 u hu).elim fun _ h => xe_wd_mem h, tyX4, tyX4_ok, nmX4⟩
  | 5, h => cases h; exact ⟨fun u hu => (xe_all2_mem xq_5 u hu).elim fun _ h => xe_wd_mem h, tyX5, tyX5_ok, nmX5⟩
  | n + 6, h => simp [xCLs] at h
end
section
/-! SHORTCUTS: the two loops that empty three rows of 186 (forget, flows) -/
def xe_eqv (a b : va_E) : Prop := a = b ∨ ∃ (t n : Nat) (f g : Nat → Int32), a = .inl (t, n, .inl f) ∧ b = .inl (t, n, .inl g) ∧ ∀ j, j < n → f j = g j
theorem xe_arr {cA : ClassId} {n : Nat} {f g : Nat → Int32} (h : ∀ j, j < n → f j = g j) : vp_cell cA (n, .inl f) = vp_cell cA (n, .inl g) := by
  rw [vp_cell_i, vp_cell_i]
  unfold arrV
  congr 2
  funext j
  show Value.int (f j.val) = Value.int (g j.val)
  rw [h j.val j.isLt]
theorem xw_eqv {D : va_G} {CL : List vw_C} {cI cZ : ClassId} {ρ : Nat → Nat} {C1 C2 : xC} {H : Heap} (h : va_P D CL (xw cI cZ ρ C1) H) (hh : ∀ (q : Nat) (b : va_E), C2[q]? = some b → ∃ a, C1[q]? = some a ∧ xe_eqv a b) : va_P D CL (xw cI cZ ρ C2) H := by
  intro k q hk
  have hl := (xw_at hk).1
  obtain ⟨a, h1, h2⟩ := hh k _ (List.getElem?_eq_getElem hl)
  have e2 := xw_get (cI := cI) (cZ := cZ) (ρ := ρ) (List.getElem?_eq_getElem hl)
  rw [e2] at hk
  cases hk
  have h3 := h k _ (xw_get h1)
  rcases h2 with h2 | ⟨t, n, f, g, ea, eb, hfg⟩
  · rw [← h2]
    exact h3
  · rw [ea] at h3
    rw [eb]
    have h4 : H[ρ k]? = some (vp_cell (xcy cI cZ t) (n, .inl f)) := h3
    show H[ρ k]? = some (vp_cell (xcy cI cZ t) (n, .inl g))
    rw [h4, xe_arr hfg]
noncomputable def xe_gr (C : xC) (fs : List Value) (j t : Nat) : Option Nat := match xe_nth fs j with
  | some (.ref i) => match xe_nth C i with
    | some (.inl (s, n, .inl _)) => cond (Nat.beq s t && Nat.beq n 186) (some i) none
    | _ => none
  | _ => none
theorem xe_gr_inv {C : xC} {fs : List Value} {j t i : Nat} (h : xe_gr C fs j t = some i) : fs[j]? = some (.ref i) ∧ ∃ f : Nat → Int32, C[i]? = some (.inl (t, 186, .inl f)) := by
  unfold xe_gr at h
  split at h
  · rename_i i0 h1
    split at h
    · rename_i s n f h2
      cases hq : (Nat.beq s t && Nat.beq n 186) with
      | true =>
        rw [hq] at h
        simp only [Bool.and_eq_true] at hq
        have e1 := Nat.eq_of_beq_eq_true hq.1
        have e2 := Nat.eq_of_beq_eq_true hq.2
        subst e1; subst e2
        have h : some i0 = some i := h
        cases h
        rw [xe_nth_eq] at h1 h2
        exact ⟨h1, f, h2⟩
      | false => rw [hq] at h; cases h
    · cases h
  · cases h
noncomputable def xe_z3 (C : xC) (L : xL) (li ci j1 j2 j3 t1 t2 t3 out : Nat) : Option (xC × Nat × xL × List Value) := match xe_as L li with
  | some (.int v) => cond (decide (v = 0)) (match xe_as L 0 with
    | some (.ref a) => match xe_nth C a with
      | some (.inr (cj, fs)) => cond (Nat.beq cj ci) (match xe_gr C fs j1 t1 with
        | some i1 => match xe_gr C fs j2 t2 with
          | some i2 => match xe_gr C fs j3 t3 with
            | some i3 => cond (!(Nat.beq i1 i2) && (!(Nat.beq i1 i3) && !(Nat.beq i2 i3))) (xe_set C i1 (.inl (t1, 186, .inl fun _ => 0)) fun C1 => xe_set C1 i2 (.inl (t2, 186, .inl fun _ => 0)) fun C2 => xe_set C2 i3 (.inl (t3, 186, .inl fun _ => 0)) fun C3 => some (C3, out, xe_st L li (.int 186), [])) none
            | none => none
          | none => none
        | none => none) none
      | _ => none
    | _ => none) none
  | _ => none
theorem xe_z3_inv {C : xC} {L : xL} {li ci j1 j2 j3 t1 t2 t3 out : Nat} {C1 : xC} {pc1 : Nat} {L1 : xL} {S1 : List Value} (h : xe_z3 C L li ci j1 j2 j3 t1 t2 t3 out = some (C1, pc1, L1, S1)) : ∃ (a : Nat) (fs : List Value) (i1 i2 i3 : Nat) (f1 f2 f3 : Nat → Int32), (li, Value.int 0) ∈ L ∧ (0, Value.ref a) ∈ L ∧ C[a]? = some (.inr (ci, fs)) ∧ fs[j1]? = some (.ref i1) ∧ fs[j2]? = some (.ref i2) ∧ fs[j3]? = some (.ref i3) ∧ C[i1]? = some (.inl (t1, 186, .inl f1)) ∧ C[i2]? = some (.inl (t2, 186, .inl f2)) ∧ C[i3]? = some (.inl (t3, 186, .inl f3)) ∧ i1 ≠ i2 ∧ i1 ≠ i3 ∧ i2 ≠ i3 ∧ C1 = ((C.set i1 (.inl (t1, 186, .inl fun _ => 0))).set i2 (.inl (t2, 186, .inl fun _ => 0))).set i3 (.inl (t3, 186, .inl fun _ => 0)) ∧ pc1 = out ∧ L1 = xe_st L li (.int 186) ∧ S1 = [] := by
  unfold xe_z3 at h
  split at h
  · rename_i v hv
    cases hv0 : decide (v = 0) with
    | false => rw [hv0] at h; cases h
    | true =>
      rw [hv0] at h
      have ev := of_decide_eq_true hv0
      subst ev
      simp only [cond_true] at h
      split at h
      · rename_i a ha
        split at h
        · rename_i cj fs hC
          cases hc : Nat.beq cj ci with
          | false => rw [hc] at h; cases h
          | true =>
            rw [hc] at h
            have ec := Nat.eq_of_beq_eq_true hc
            subst ec
            simp only [cond_true] at h
            split at h
            · rename_i i1 h1
              split at h
              · rename_i i2 h2
                split at h
                · rename_i i3 h3
                  cases hq : (!(Nat.beq i1 i2) && (!(Nat.beq i1 i3) && !(Nat.beq i2 i3))) with
                  | false => rw [hq] at h; cases h
                  | true =>
                    rw [hq] at h
                    simp only [Bool.and_eq_true, Bool.not_eq_true'] at hq
                    simp only [cond_true, xe_set_eq] at h
                    cases h
                    obtain ⟨a1, f1, b1⟩ := xe_gr_inv h1
                    obtain ⟨a2, f2, b2⟩ := xe_gr_inv h2
                    obtain ⟨a3, f3, b3⟩ := xe_gr_inv h3
                    rw [xe_nth_eq] at hC
                    exact ⟨a, fs, i1, i2, i3, f1, f2, f3, xe_as_mem hv, xe_as_mem ha, hC, a1, a2, a3, b1, b2, b3, Nat.ne_of_beq_eq_false hq.1, Nat.ne_of_beq_eq_false hq.2.1, Nat.ne_of_beq_eq_false hq.2.2, rfl, rfl, rfl, rfl⟩
                · cases h
              · cases h
            · cases h
        · cases h
      · cases h
  · cases h
def xz_I (C Cj : xC) (i1 i2 i3 t1 t2 t3 : Nat) (f1 f2 f3 : Nat → Int32) : Prop := Cj.length = C.length ∧ Cj[i1]? = some (.inl (t1, 186, .inl f1)) ∧ Cj[i2]? = some (.inl (t2, 186, .inl f2)) ∧ Cj[i3]? = some (.inl (t3, 186, .inl f3)) ∧ ∀ q, q ≠ i1 → q ≠ i2 → q ≠ i3 → Cj[q]? = C[q]?
theorem xz_lt {C : xC} {i : Nat} {e : va_E} (h : C[i]? = some e) : i < C.length := (List.getElem?_eq_some_iff.mp h).1
theorem xz_1 {C Cj : xC} {i1 i2 i3 t1 t2 t3 : Nat} {f1 f2 f3 g : Nat → Int32} (h : xz_I C Cj i1 i2 i3 t1 t2 t3 f1 f2 f3) (n12 : i1 ≠ i2) (n13 : i1 ≠ i3) : xz_I C (Cj.set i1 (.inl (t1, 186, .inl g))) i1 i2 i3 t1 t2 t3 g f2 f3 := by
  obtain ⟨h0, h1, h2, h3, h4⟩ := h
  refine ⟨by rw [List.length_set]; exact h0, ?_, ?_, ?_, fun q q1 q2 q3 => ?_⟩
  · rw [List.getElem?_set_self (xz_lt h1)]
  · rw [List.getElem?_set_ne n12]; exact h2
  · rw [List.getElem?_set_ne n13]; exact h3
  · rw [List.getElem?_set_ne (Ne.symm q1)]; exact h4 q q1 q2 q3
theorem xz_2 {C Cj : xC} {i1 i2 i3 t1 t2 t3 : Nat} {f1 f2 f3 g : Nat → Int32} (h : xz_I C Cj i1 i2 i3 t1 t2 t3 f1 f2 f3) (n12 : i1 ≠ i2) (n23 : i2 ≠ i3) : xz_I C (Cj.set i2 (.inl (t2, 186, .inl g))) i1 i2 i3 t1 t2 t3 f1 g f3 := by
  obtain ⟨h0, h1, h2, h3, h4⟩ := h
  refine ⟨by rw [List.length_set]; exact h0, ?_, ?_, ?_, fun q q1 q2 q3 => ?_⟩
  · rw [List.getElem?_set_ne (Ne.symm n12)]; exact h1
  · rw [List.getElem?_set_self (xz_lt h2)]
  · rw [List.getElem?_set_ne n23]; exact h3
  · rw [List.getElem?_set_ne (Ne.symm q2)]; exact h4 q q1 q2 q3
theorem xz_3 {C Cj : xC} {i1 i2 i3 t1 t2 t3 : Nat} {f1 f2 f3 g : Nat → Int32} (h : xz_I C Cj i1 i2 i3 t1 t2 t3 f1 f2 f3) (n13 : i1 ≠ i3) (n23 : i2 ≠ i3) : xz_I C (Cj.set i3 (.inl (t3, 186, .inl g))) i1 i2 i3 t1 t2 t3 f1 f2 g := by
  obtain ⟨h0, h1, h2, h3, h4⟩ := h
  refine ⟨by rw [List.length_set]; exact h0, ?_, ?_, ?_, fun q q1 q2 q3 => ?_⟩
  · rw [List.getElem?_set_ne (Ne.symm n13)]; exact h1
  · rw [List.getElem?_set_ne (Ne.symm n23)]; exact h2
  · rw [List.getElem?_set_self (xz_lt h3)]
  · rw [List.getElem?_set_ne (Ne.symm q3)]; exact h4 q q1 q2 q3
theorem xz_upd {f : Nat → Int32} {j : Nat} (h : ∀ i, i < j → f i = 0) : ∀ i, i < j + 1 → upd f j 0 i = 0 := by
  intro i hi
  unfold upd
  split
  · rfl
  · exact h i (by omega)

theorem xe_st_st (L : xL) (i : Nat) (u v : Value) : xe_st (xe_st L i u) i v = xe_st L i v := by
  unfold xe_st
  simp [List.filter_filter]
set_option maxHeartbeats 4000000 in
set_option maxRecDepth 100000 in
theorem xz_40 {l : Launch} {D : va_G} {cI cZ : ClassId} {ρ : Nat → Nat} {C : xC} {L : xL} {a : Nat} {fs : List Value} {i1 i2 i3 : Nat} {A : Nat → Prop} {N : Nat} {p : Program} {e : Env} {s : State} {m : MethodId} {args : Array Value} {below : List Frame} {meth : Method} {c : Code} {Q : State → Prop} (B : xe_At xMT xCLs xWS xNS D cI cZ 40 A p s m args meth c) (hN : C.length = N) (h0 : (0, Value.ref a) ∈ L) (hCa : C[a]? = some (.inr (0, fs))) (hf1 : fs[1]? = some (.ref i1)) (hf2 : fs[2]? = some (.ref i2)) (hf3 : fs[3]? = some (.ref i3)) (ha1 : a ≠ i1) (ha2 : a ≠ i2) (ha3 : a ≠ i3) (n12 : i1 ≠ i2) (n13 : i1 ≠ i3) (n23 : i2 ≠ i3)
    (K : ∀ (Cj : xC) (f1 f2 f3 : Nat → Int32) (H1 : Heap) (locs1 : List Loc) (ls1 : Array Slot), xz_I C Cj i1 i2 i3 0 0 1 f1 f2 f3 → (∀ i, i < 186 → f1 i = 0) → (∀ i, i < 186 → f2 i = 0) → (∀ i, i < 186 → f3 i = 0) → va_P D xCLs (xw cI cZ ρ Cj) H1 → va_D A (xw cI cZ ρ Cj) → va_S A s.heap H1 locs1 → lv_has ls1 (xm_n (xMT 40)) (xl ρ (xe_st L 1 (.int 186))) → W p l e (xe_rm (xMT 40)) s m args below meth c H1 locs1 0 0 Q (F0 m 36 ls1 [])) :
    ∀ (n j : Nat) (L1 : xL) (Cj : xC) (f1 f2 f3 : Nat → Int32) (H : Heap) (locs : List Loc) (ls : Array Slot), j + n = 186 → L1 = xe_st L 1 (.int (nI j)) → xz_I C Cj i1 i2 i3 0 0 1 f1 f2 f3 → (∀ i, i < j → f1 i = 0) → (∀ i, i < j → f2 i = 0) → (∀ i, i < j → f3 i = 0) → va_P D xCLs (xw cI cZ ρ Cj) H → va_D A (xw cI cZ ρ Cj) → va_S A s.heap H locs → lv_has ls (xm_n (xMT 40)) (xl ρ L1) → W p l e (xe_rm (xMT 40)) s m args below meth c H locs 0 0 Q (F0 m 2 ls []) := by
  obtain ⟨hx, hb, hr, hlk, hml, hown, hts, hns, hK, hA⟩ := B
  have hin : ∀ {u : Cond}, u ∈ xWS → u.before args s = true := fun hu => hts _ (List.mem_cons_of_mem _ hu)
  have dd : ∀ {pc : Nat} {i : Instr} {len : Nat}, xe_lk (xm_t (xMT 40)) pc = some (i, len) → decode (xm_c (xMT 40)) pc = .ok (i, len) := fun h => ((xk_all 40).1 _ _ _ h).1
  obtain ⟨Cn0, Tn0, Nn0, g10, g20, g30, -, -⟩ := (xk_all 40).2.2.2.2.2.1 (11, 0, 1, 2) (List.mem_of_getElem? (i := 0) rfl)
  obtain ⟨Cn1, Tn1, Nn1, g11, g21, g31, -, -⟩ := (xk_all 40).2.2.2.2.2.1 (15, 0, 2, 2) (List.mem_of_getElem? (i := 1) rfl)
  obtain ⟨Cn2, Tn2, Nn2, g12, g22, g32, -, -⟩ := (xk_all 40).2.2.2.2.2.1 (18, 0, 3, 2) (List.mem_of_getElem? (i := 2) rfl)
  intro n
  induction n with
  | zero =>
    intro j L1 Cj f1 f2 f3 H locs ls hj eL hI p1 p2 p3 hP hD hS hl
    have hj2 : (1, Value.int (nI j)) ∈ L1 := by rw [eL]; exact List.mem_cons_self
    refine lv_iload_n hx hb (dd (pc := 2) rfl) rfl (xe_has hl hj2) ?_
    refine lv_sipush (v := 186) hx hb (dd (pc := 3) rfl) rfl ?_
    refine lv_icmp_ge (tgt := 36) hx hb (dd (pc := 6) rfl) rfl (fun hq => ?_) (fun hq => ?_)
    · have ej : j = 186 := by omega
      subst ej
      exact K Cj f1 f2 f3 H locs ls hI p1 p2 p3 hP hD hS (by rw [← show (nI 186 : Int32) = 186 from rfl, ← eL]; exact hl)
    · exact absurd (show (186 : Int32) ≤ nI j by rw [show j = 186 by omega]; decide) hq
  | succ n ih =>
    intro j L1 Cj f1 f2 f3 H locs ls hj eL hI p1 p2 p3 hP hD hS hl
    have hj2 : (1, Value.int (nI j)) ∈ L1 := by rw [eL]; exact List.mem_cons_self
    refine lv_iload_n hx hb (dd (pc := 2) rfl) rfl (xe_has hl hj2) ?_
    refine lv_sipush (v := 186) hx hb (dd (pc := 3) rfl) rfl ?_
    refine lv_icmp_ge (tgt := 36) hx hb (dd (pc := 6) rfl) rfl (fun hq => ?_) (fun hq => ?_)
    · exact absurd hq (show ¬ (186 : Int32) ≤ nI j from nI_ge (a := j) (b := 186) (by omega) (by omega))
    · have hi : vp_in (nI j) 186 := vp_in_nI (by omega) (by omega)
      have h0j : (0, Value.ref a) ∈ L1 := by rw [eL]; exact List.mem_cons_of_mem _ (List.mem_filter.mpr ⟨h0, rfl⟩)
      refine lv_aload_n hx hb (dd (pc := 9) rfl) rfl (xe_has hl h0j) ?_
      refine va_get (D := D) (ci := 0) (v := .ref (ρ i1)) (C := Cn0) (T := Tn0) (N := Nn0) hx hb hts (fun u hu => List.mem_cons_of_mem _ ((xq_all 0 Cn0 Tn0 Nn0 g10).1 u hu)) hown hK hP a (xw_get ((hI.2.2.2.2 a ha1 ha2 ha3).trans hCa)) g10 1 g20 (hin g30) (fun _ h9 => h9) (by rw [List.getElem?_map, hf1]; rfl) (dd (pc := 10) rfl) ?_
      refine lv_iload_n hx hb (dd (pc := 13) rfl) rfl (xe_has hl hj2) ?_
      refine lv_iconst (v := 0) hx hb (dd (pc := 14) rfl) rfl ?_
      refine va_iast hx hb hK hP hD hS i1 0 (xw_get hI.2.1) rfl hi (dd (pc := 15) rfl) (fun H locs hP hD hS => ?_)
      rw [nI_clamp (show j < 2 ^ 31 by omega), show (Sum.inl (xcy cI cZ 0, 186, Sum.inl (upd f1 j 0)) : va_E) = xd cI cZ ρ (.inl (0, 186, .inl (upd f1 j 0))) from rfl, xw_set] at hP hD
      replace hI := xz_1 (g := upd f1 j 0) hI n12 n13
      refine lv_aload_n hx hb (dd (pc := 16) rfl) rfl (xe_has hl h0j) ?_
      refine va_get (D := D) (ci := 0) (v := .ref (ρ i2)) (C := Cn1) (T := Tn1) (N := Nn1) hx hb hts (fun u hu => List.mem_cons_of_mem _ ((xq_all 0 Cn1 Tn1 Nn1 g11).1 u hu)) hown hK hP a (xw_get ((hI.2.2.2.2 a ha1 ha2 ha3).trans hCa)) g11 2 g21 (hin g31) (fun _ h9 => h9) (by rw [List.getElem?_map, hf2]; rfl) (dd (pc := 17) rfl) ?_
      refine lv_iload_n hx hb (dd (pc := 20) rfl) rfl (xe_has hl hj2) ?_
      refine lv_iconst (v := 0) hx hb (dd (pc := 21) rfl) rfl ?_
      refine va_iast hx hb hK hP hD hS i2 0 (xw_get hI.2.2.1) rfl hi (dd (pc := 22) rfl) (fun H locs hP hD hS => ?_)
      rw [nI_clamp (show j < 2 ^ 31 by omega), show (Sum.inl (xcy cI cZ 0, 186, Sum.inl (upd f2 j 0)) : va_E) = xd cI cZ ρ (.inl (0, 186, .inl (upd f2 j 0))) from rfl, xw_set] at hP hD
      replace hI := xz_2 (g := upd f2 j 0) hI n12 n23
      refine lv_aload_n hx hb (dd (pc := 23) rfl) rfl (xe_has hl h0j) ?_
      refine va_get (D := D) (ci := 0) (v := .ref (ρ i3)) (C := Cn2) (T := Tn2) (N := Nn2) hx hb hts (fun u hu => List.mem_cons_of_mem _ ((xq_all 0 Cn2 Tn2 Nn2 g12).1 u hu)) hown hK hP a (xw_get ((hI.2.2.2.2 a ha1 ha2 ha3).trans hCa)) g12 3 g22 (hin g32) (fun _ h9 => h9) (by rw [List.getElem?_map, hf3]; rfl) (dd (pc := 24) rfl) ?_
      refine lv_iload_n hx hb (dd (pc := 27) rfl) rfl (xe_has hl hj2) ?_
      refine lv_iconst (v := 0) hx hb (dd (pc := 28) rfl) rfl ?_
      refine va_zast hx hb hK hP hD hS i3 1 (xw_get hI.2.2.2.1) rfl hi (dd (pc := 29) rfl) (fun H locs hP hD hS => ?_)
      rw [nI_clamp (show j < 2 ^ 31 by omega), show (Sum.inl (xcy cI cZ 1, 186, Sum.inl (upd f3 j (vp_nar .boolean 0))) : va_E) = xd cI cZ ρ (.inl (1, 186, .inl (upd f3 j 0))) from rfl, xw_set] at hP hD
      replace hI := xz_3 (g := upd f3 j 0) hI n13 n23
      refine lv_iinc (v := nI (j + 1)) hx hb (dd (pc := 30) rfl) hl (k := 0) (by rw [eL]; rfl) (nI_1 j) (Nat.le_of_ble_eq_true rfl) (xl_st ρ L1 1 (.int (nI (j + 1)))) (fun ls hl => ?_)
      refine lv_goto (tgt := 2) hx hb (dd (pc := 33) rfl) rfl ?_
      refine ih (j + 1) (xe_st L1 1 (.int (nI (j + 1)))) _ (upd f1 j 0) (upd f2 j 0) (upd f3 j 0) H locs ls (by omega) ?_ hI (xz_upd p1) (xz_upd p2) (xz_upd p3) hP hD hS hl
      rw [eL]
      exact xe_st_st L 1 _ _
set_option maxHeartbeats 4000000 in
set_option maxRecDepth 100000 in
theorem xz_75 {l : Launch} {D : va_G} {cI cZ : ClassId} {ρ : Nat → Nat} {C : xC} {L : xL} {a : Nat} {fs : List Value} {i1 i2 i3 : Nat} {A : Nat → Prop} {N : Nat} {p : Program} {e : Env} {s : State} {m : MethodId} {args : Array Value} {below : List Frame} {meth : Method} {c : Code} {Q : State → Prop} (B : xe_At xMT xCLs xWS xNS D cI cZ 75 A p s m args meth c) (hN : C.length = N) (h0 : (0, Value.ref a) ∈ L) (hCa : C[a]? = some (.inr (5, fs))) (hf1 : fs[33]? = some (.ref i1)) (hf2 : fs[34]? = some (.ref i2)) (hf3 : fs[35]? = some (.ref i3)) (ha1 : a ≠ i1) (ha2 : a ≠ i2) (ha3 : a ≠ i3) (n12 : i1 ≠ i2) (n13 : i1 ≠ i3) (n23 : i2 ≠ i3)
    (K : ∀ (Cj : xC) (f1 f2 f3 : Nat → Int32) (H1 : Heap) (locs1 : List Loc) (ls1 : Array Slot), xz_I C Cj i1 i2 i3 1 0 0 f1 f2 f3 → (∀ i, i < 186 → f1 i = 0) → (∀ i, i < 186 → f2 i = 0) → (∀ i, i < 186 → f3 i = 0) → va_P D xCLs (xw cI cZ ρ Cj) H1 → va_D A (xw cI cZ ρ Cj) → va_S A s.heap H1 locs1 → lv_has ls1 (xm_n (xMT 75)) (xl ρ (xe_st L 4 (.int 186))) → W p l e (xe_rm (xMT 75)) s m args below meth c H1 locs1 0 0 Q (F0 m 41 ls1 [])) :
    ∀ (n j : Nat) (L1 : xL) (Cj : xC) (f1 f2 f3 : Nat → Int32) (H : Heap) (locs : List Loc) (ls : Array Slot), j + n = 186 → L1 = xe_st L 4 (.int (nI j)) → xz_I C Cj i1 i2 i3 1 0 0 f1 f2 f3 → (∀ i, i < j → f1 i = 0) → (∀ i, i < j → f2 i = 0) → (∀ i, i < j → f3 i = 0) → va_P D xCLs (xw cI cZ ρ Cj) H → va_D A (xw cI cZ ρ Cj) → va_S A s.heap H locs → lv_has ls (xm_n (xMT 75)) (xl ρ L1) → W p l e (xe_rm (xMT 75)) s m args below meth c H locs 0 0 Q (F0 m 3 ls []) := by
  obtain ⟨hx, hb, hr, hlk, hml, hown, hts, hns, hK, hA⟩ := B
  have hin : ∀ {u : Cond}, u ∈ xWS → u.before args s = true := fun hu => hts _ (List.mem_cons_of_mem _ hu)
  have dd : ∀ {pc : Nat} {i : Instr} {len : Nat}, xe_lk (xm_t (xMT 75)) pc = some (i, len) → decode (xm_c (xMT 75)) pc = .ok (i, len) := fun h => ((xk_all 75).1 _ _ _ h).1
  obtain ⟨Cn0, Tn0, Nn0, g10, g20, g30, -, -⟩ := (xk_all 75).2.2.2.2.2.1 (53, 5, 33, 2) (List.mem_of_getElem? (i := 0) rfl)
  obtain ⟨Cn1, Tn1, Nn1, g11, g21, g31, -, -⟩ := (xk_all 75).2.2.2.2.2.1 (56, 5, 34, 2) (List.mem_of_getElem? (i := 1) rfl)
  obtain ⟨Cn2, Tn2, Nn2, g12, g22, g32, -, -⟩ := (xk_all 75).2.2.2.2.2.1 (59, 5, 35, 2) (List.mem_of_getElem? (i := 2) rfl)
  intro n
  induction n with
  | zero =>
    intro j L1 Cj f1 f2 f3 H locs ls hj eL hI p1 p2 p3 hP hD hS hl
    have hj2 : (4, Value.int (nI j)) ∈ L1 := by rw [eL]; exact List.mem_cons_self
    refine lv_iload hx hb (dd (pc := 3) rfl) (xe_has hl hj2) ?_
    refine lv_sipush (v := 186) hx hb (dd (pc := 5) rfl) rfl ?_
    refine lv_icmp_ge (tgt := 41) hx hb (dd (pc := 8) rfl) rfl (fun hq => ?_) (fun hq => ?_)
    · have ej : j = 186 := by omega
      subst ej
      exact K Cj f1 f2 f3 H locs ls hI p1 p2 p3 hP hD hS (by rw [← show (nI 186 : Int32) = 186 from rfl, ← eL]; exact hl)
    · exact absurd (show (186 : Int32) ≤ nI j by rw [show j = 186 by omega]; decide) hq
  | succ n ih =>
    intro j L1 Cj f1 f2 f3 H locs ls hj eL hI p1 p2 p3 hP hD hS hl
    have hj2 : (4, Value.int (nI j)) ∈ L1 := by rw [eL]; exact List.mem_cons_self
    refine lv_iload hx hb (dd (pc := 3) rfl) (xe_has hl hj2) ?_
    refine lv_sipush (v := 186) hx hb (dd (pc := 5) rfl) rfl ?_
    refine lv_icmp_ge (tgt := 41) hx hb (dd (pc := 8) rfl) rfl (fun hq => ?_) (fun hq => ?_)
    · exact absurd hq (show ¬ (186 : Int32) ≤ nI j from nI_ge (a := j) (b := 186) (by omega) (by omega))
    · have hi : vp_in (nI j) 186 := vp_in_nI (by omega) (by omega)
      have h0j : (0, Value.ref a) ∈ L1 := by rw [eL]; exact List.mem_cons_of_mem _ (List.mem_filter.mpr ⟨h0, rfl⟩)
      refine lv_aload_n hx hb (dd (pc := 11) rfl) rfl (xe_has hl h0j) ?_
      refine va_get (D := D) (ci := 5) (v := .ref (ρ i1)) (C := Cn0) (T := Tn0) (N := Nn0) hx hb hts (fun u hu => List.mem_cons_of_mem _ ((xq_all 5 Cn0 Tn0 Nn0 g10).1 u hu)) hown hK hP a (xw_get ((hI.2.2.2.2 a ha1 ha2 ha3).trans hCa)) g10 33 g20 (hin g30) (fun _ h9 => h9) (by rw [List.getElem?_map, hf1]; rfl) (dd (pc := 12) rfl) ?_
      refine lv_iload hx hb (dd (pc := 15) rfl) (xe_has hl hj2) ?_
      refine lv_iconst (v := 0) hx hb (dd (pc := 17) rfl) rfl ?_
      refine va_zast hx hb hK hP hD hS i1 1 (xw_get hI.2.1) rfl hi (dd (pc := 18) rfl) (fun H locs hP hD hS => ?_)
      rw [nI_clamp (show j < 2 ^ 31 by omega), show (Sum.inl (xcy cI cZ 1, 186, Sum.inl (upd f1 j (vp_nar .boolean 0))) : va_E) = xd cI cZ ρ (.inl (1, 186, .inl (upd f1 j 0))) from rfl, xw_set] at hP hD
      replace hI := xz_1 (g := upd f1 j 0) hI n12 n13
      refine lv_aload_n hx hb (dd (pc := 19) rfl) rfl (xe_has hl h0j) ?_
      refine va_get (D := D) (ci := 5) (v := .ref (ρ i2)) (C := Cn1) (T := Tn1) (N := Nn1) hx hb hts (fun u hu => List.mem_cons_of_mem _ ((xq_all 5 Cn1 Tn1 Nn1 g11).1 u hu)) hown hK hP a (xw_get ((hI.2.2.2.2 a ha1 ha2 ha3).trans hCa)) g11 34 g21 (hin g31) (fun _ h9 => h9) (by rw [List.getElem?_map, hf2]; rfl) (dd (pc := 20) rfl) ?_
      refine lv_iload hx hb (dd (pc := 23) rfl) (xe_has hl hj2) ?_
      refine lv_iconst (v := 0) hx hb (dd (pc := 25) rfl) rfl ?_
      refine va_iast hx hb hK hP hD hS i2 0 (xw_get hI.2.2.1) rfl hi (dd (pc := 26) rfl) (fun H locs hP hD hS => ?_)
      rw [nI_clamp (show j < 2 ^ 31 by omega), show (Sum.inl (xcy cI cZ 0, 186, Sum.inl (upd f2 j 0)) : va_E) = xd cI cZ ρ (.inl (0, 186, .inl (upd f2 j 0))) from rfl, xw_set] at hP hD
      replace hI := xz_2 (g := upd f2 j 0) hI n12 n23
      refine lv_aload_n hx hb (dd (pc := 27) rfl) rfl (xe_has hl h0j) ?_
      refine va_get (D := D) (ci := 5) (v := .ref (ρ i3)) (C := Cn2) (T := Tn2) (N := Nn2) hx hb hts (fun u hu => List.mem_cons_of_mem _ ((xq_all 5 Cn2 Tn2 Nn2 g12).1 u hu)) hown hK hP a (xw_get ((hI.2.2.2.2 a ha1 ha2 ha3).trans hCa)) g12 35 g22 (hin g32) (fun _ h9 => h9) (by rw [List.getElem?_map, hf3]; rfl) (dd (pc := 28) rfl) ?_
      refine lv_iload hx hb (dd (pc := 31) rfl) (xe_has hl hj2) ?_
      refine lv_iconst (v := 0) hx hb (dd (pc := 33) rfl) rfl ?_
      refine va_iast hx hb hK hP hD hS i3 0 (xw_get hI.2.2.2.1) rfl hi (dd (pc := 34) rfl) (fun H locs hP hD hS => ?_)
      rw [nI_clamp (show j < 2 ^ 31 by omega), show (Sum.inl (xcy cI cZ 0, 186, Sum.inl (upd f3 j 0)) : va_E) = xd cI cZ ρ (.inl (0, 186, .inl (upd f3 j 0))) from rfl, xw_set] at hP hD
      replace hI := xz_3 (g := upd f3 j 0) hI n13 n23
      refine lv_iinc (v := nI (j + 1)) hx hb (dd (pc := 35) rfl) hl (k := 0) (by rw [eL]; rfl) (nI_1 j) (Nat.le_of_ble_eq_true rfl) (xl_st ρ L1 4 (.int (nI (j + 1)))) (fun ls hl => ?_)
      refine lv_goto (tgt := 3) hx hb (dd (pc := 38) rfl) rfl ?_
      refine ih (j + 1) (xe_st L1 4 (.int (nI (j + 1)))) _ (upd f1 j 0) (upd f2 j 0) (upd f3 j 0) H locs ls (by omega) ?_ hI (xz_upd p1) (xz_upd p2) (xz_upd p3) hP hD hS hl
      rw [eL]
      exact xe_st_st L 4 _ _
noncomputable def xmac : xMac := fun k C pc L S => cond (Nat.beq k 40 && Nat.beq pc 2) (match S with
  | [] => xe_z3 C L 1 0 1 2 3 0 0 1 36
  | _ => none) (cond (Nat.beq k 75 && Nat.beq pc 3) (match S with
    | [] => xe_z3 C L 4 5 33 34 35 1 0 0 41
    | _ => none) none)
theorem xz_out {D : va_G} {CL : List vw_C} {cI cZ : ClassId} {ρ : Nat → Nat} {C Cj : xC} {i1 i2 i3 t1 t2 t3 : Nat} {f1 f2 f3 : Nat → Int32} {H : Heap} (hI : xz_I C Cj i1 i2 i3 t1 t2 t3 f1 f2 f3) (q1 : ∀ i, i < 186 → f1 i = 0) (q2 : ∀ i, i < 186 → f2 i = 0) (q3 : ∀ i, i < 186 → f3 i = 0) (hP : va_P D CL (xw cI cZ ρ Cj) H) : va_P D CL (xw cI cZ ρ (((C.set i1 (.inl (t1, 186, .inl fun _ => 0))).set i2 (.inl (t2, 186, .inl fun _ => 0))).set i3 (.inl (t3, 186, .inl fun _ => 0)))) H := by
  refine xw_eqv hP (fun q b hb => ?_)
  obtain ⟨h0, h1, h2, h3, h4⟩ := hI
  have l1 := xz_lt h1
  have l2 := xz_lt h2
  have l3 := xz_lt h3
  simp only [List.getElem?_set, List.length_set] at hb
  by_cases e3 : i3 = q
  · subst e3
    rw [if_pos rfl, if_pos (by omega)] at hb
    cases hb
    exact ⟨_, h3, Or.inr ⟨t3, 186, f3, _, rfl, rfl, q3⟩⟩
  · rw [if_neg e3] at hb
    by_cases e2 : i2 = q
    · subst e2
      rw [if_pos rfl, if_pos (by omega)] at hb
      cases hb
      exact ⟨_, h2, Or.inr ⟨t2, 186, f2, _, rfl, rfl, q2⟩⟩
    · rw [if_neg e2] at hb
      by_cases e1 : i1 = q
      · subst e1
        rw [if_pos rfl, if_pos (by omega)] at hb
        cases hb
        exact ⟨_, h1, Or.inr ⟨t1, 186, f1, _, rfl, rfl, q1⟩⟩
      · rw [if_neg e1] at hb
        exact ⟨b, (h4 q (Ne.symm e1) (Ne.symm e2) (Ne.symm e3)).trans hb, Or.inl rfl⟩
theorem xz_ne {C : xC} {a i ci t : Nat} {fs : List Value} {x : vp_A} (h1 : C[a]? = some (.inr (ci, fs))) (h2 : C[i]? = some (.inl (t, x))) : a ≠ i := by
  intro e
  rw [e, h2] at h1
  cases h1
theorem xz_eta {L : xL} {li : Nat} (h : (li, Value.int 0) ∈ L) {ls : Array Slot} {n : Nat} {ρ : Nat → Nat} (hl : lv_has ls n (xl ρ L)) : lv_has ls n (xl ρ (xe_st L li (.int (nI 0)))) := by
  refine ⟨hl.1, hl.2.1, fun q hq => ?_⟩
  obtain ⟨z, hz, e⟩ := List.mem_map.mp hq
  rw [← e]
  rcases List.mem_cons.mp hz with e2 | e2
  · rw [e2]
    exact hl.2.2 _ (xl_mem (ρ := ρ) h)
  · exact hl.2.2 _ (xl_mem (ρ := ρ) (List.mem_filter.mp e2).1)
theorem xmac_ok (l : Launch) (D : va_G) (cI cZ : ClassId) (ρ : Nat → Nat) : xe_MacOK xMT xmac xCLs xWS xNS l D cI cZ ρ := by
  intro k C pc L S C1 pc1 L1 S1 h A N p e s m args below meth c H locs ls Q B hP hD hS hl hN K
  unfold xmac at h
  cases q1 : (Nat.beq k 40 && Nat.beq pc 2) with
  | true =>
    rw [q1] at h
    simp only [cond_true] at h
    simp only [Bool.and_eq_true] at q1
    have e1 := Nat.eq_of_beq_eq_true q1.1
    have e2 := Nat.eq_of_beq_eq_true q1.2
    subst e1; subst e2
    split at h
    · obtain ⟨a, fs, i1, i2, i3, f1, f2, f3, m1, m0, hCa, a1, a2, a3, b1, b2, b3, n12, n13, n23, rfl, rfl, rfl, rfl⟩ := xe_z3_inv h
      exact xz_40 B hN m0 hCa a1 a2 a3 (xz_ne hCa b1) (xz_ne hCa b2) (xz_ne hCa b3) n12 n13 n23 (fun Cj g1 g2 g3 H1 locs1 ls1 hI p1 p2 p3 hP1 hD1 hS1 hl1 => K H1 locs1 ls1 (xz_out hI p1 p2 p3 hP1) (xw_D (by simp) hD) hS1 hl1 (by simp; exact hN)) 186 0 _ C f1 f2 f3 H locs ls rfl rfl ⟨rfl, b1, b2, b3, fun _ _ _ _ => rfl⟩ (fun i hi => absurd hi (Nat.not_lt_zero i)) (fun i hi => absurd hi (Nat.not_lt_zero i)) (fun i hi => absurd hi (Nat.not_lt_zero i)) hP hD hS (xz_eta m1 hl)
    · cases h
  | false =>
    rw [q1] at h
    simp only [cond_false] at h
    cases q2 : (Nat.beq k 75 && Nat.beq pc 3) with
    | true =>
      rw [q2] at h
      simp only [cond_true] at h
      simp only [Bool.and_eq_true] at q2
      have e1 := Nat.eq_of_beq_eq_true q2.1
      have e2 := Nat.eq_of_beq_eq_true q2.2
      subst e1; subst e2
      split at h
      · obtain ⟨a, fs, i1, i2, i3, f1, f2, f3, m1, m0, hCa, a1, a2, a3, b1, b2, b3, n12, n13, n23, rfl, rfl, rfl, rfl⟩ := xe_z3_inv h
        exact xz_75 B hN m0 hCa a1 a2 a3 (xz_ne hCa b1) (xz_ne hCa b2) (xz_ne hCa b3) n12 n13 n23 (fun Cj g1 g2 g3 H1 locs1 ls1 hI p1 p2 p3 hP1 hD1 hS1 hl1 => K H1 locs1 ls1 (xz_out hI p1 p2 p3 hP1) (xw_D (by simp) hD) hS1 hl1 (by simp; exact hN)) 186 0 _ C f1 f2 f3 H locs ls rfl rfl ⟨rfl, b1, b2, b3, fun _ _ _ _ => rfl⟩ (fun i hi => absurd hi (Nat.not_lt_zero i)) (fun i hi => absurd hi (Nat.not_lt_zero i)) (fun i hi => absurd hi (Nat.not_lt_zero i)) hP hD hS (xz_eta m1 hl)
      · cases h
    | false =>
      rw [q2] at h
      cases h
end
section
/-! THE CELLS of a new object (Cx) and of a new reference (Cm) -/
def Cx : xC := [.inr (4, [.ref 1, .ref 8, .ref 9, .int 0, .ref 10, .int 0, .ref 15, .ref 16, .ref 21, .ref 22, .int 0, .ref 32, .ref 42, .ref 43, .int 0]),
  .inr (2, [.ref 2, .ref 3, .ref 4, .ref 5, .ref 6, .ref 7]),
  .inl (0, 6, .inl (fun _ => 0)),
  .inl (0, 180, .inl (fun _ => 0)),
  .inl (0, 180, .inl (fun _ => 0)),
  .inl (0, 180, .inl (fun _ => 0)),
  .inl (0, 180, .inl (fun _ => 0)),
  .inl (0, 180, .inl (fun _ => 0)),
  .inl (0, 6, .inl (fun _ => 1)),
  .inl (0, 16, .inl (fun _ => 0)),
  .inr (3, [.ref 1, .ref 9, .int 0, .ref 11, .ref 12, .int 0, .int 0, .int 0, .ref 13, .int 0, .int 0, .int 0, .int 0, .int 0, .ref 14, .int 0, .int (-1), .int 0]),
  .inl (0, 12, .inl (fun _ => 0)),
  .inl (0, 12, .inl (fun _ => 0)),
  .inl (0, 16, .inl (fun _ => 0)),
  .inl (0, 40, .inl (fun _ => 0)),
  .inl (0, 10, .inl (fun _ => 0)),
  .inr (3, [.ref 1, .ref 15, .int 0, .ref 17, .ref 18, .int 0, .int 0, .int 0, .ref 19, .int 0, .int 0, .int 0, .int 0, .int 0, .ref 20, .int 0, .int (-1), .int 0]),
  .inl (0, 12, .inl (fun _ => 0)),
  .inl (0, 12, .inl (fun _ => 0)),
  .inl (0, 16, .inl (fun _ => 0)),
  .inl (0, 40, .inl (fun _ => 0)),
  .inl (0, 1024, .inl (fun _ => 0)),
  .inr (0, [.ref 1, .ref 23, .ref 24, .ref 25, .int 0, .int 0, .int 0, .ref 26, .ref 27, .ref 28, .ref 29, .ref 30, .ref 31, .int 0]),
  .inl (0, 186, .inl (fun _ => 0)),
  .inl (0, 186, .inl (fun _ => 0)),
  .inl (1, 186, .inl (fun _ => 0)),
  .inl (0, 6, .inl (fun _ => 0)),
  .inl (0, 6, .inl (fun _ => 0)),
  .inl (0, 6, .inl (fun _ => 0)),
  .inl (0, 6, .inl (fun _ => 0)),
  .inl (0, 6, .inl (fun _ => 0)),
  .inl (0, 6, .inl (fun _ => 0)),
  .inr (0, [.ref 1, .ref 33, .ref 34, .ref 35, .int 0, .int 0, .int 0, .ref 36, .ref 37, .ref 38, .ref 39, .ref 40, .ref 41, .int 0]),
  .inl (0, 186, .inl (fun _ => 0)),
  .inl (0, 186, .inl (fun _ => 0)),
  .inl (1, 186, .inl (fun _ => 0)),
  .inl (0, 6, .inl (fun _ => 0)),
  .inl (0, 6, .inl (fun _ => 0)),
  .inl (0, 6, .inl (fun _ => 0)),
  .inl (0, 6, .inl (fun _ => 0)),
  .inl (0, 6, .inl (fun _ => 0)),
  .inl (0, 6, .inl (fun _ => 0)),
  .inl (0, 180, .inl (fun _ => 0)),
  .inr (1, [.ref 1, .ref 22, .ref 32, .ref 44, .ref 45, .ref 46, .int 0, .int 0, .int 0, .int 0, .ref 47, .ref 48, .int 0]),
  .inl (0, 12, .inl (fun _ => 0)),
  .inl (0, 12, .inl (fun _ => 0)),
  .inl (0, 12, .inl (fun _ => 0)),
  .inl (0, 12, .inl (fun _ => 0)),
  .inl (0, 12, .inl (fun _ => 0))]
def Cm : xC := [.inr (5, [.ref 1, .ref 2, .ref 3, .ref 4, .int 0, .int 0, .ref 5, .ref 6, .ref 7, .ref 8, .int 0, .int 0, .int 0, .int 0, .int 0, .ref 9, .int 0, .int 0, .int 0, .int 0, .int 0, .int 0, .ref 10, .ref 11, .int 0, .int 0, .int 0, .int 0, .int 0, .int 0, .ref 12, .ref 13, .ref 14, .ref 15, .ref 16, .ref 17, .ref 18, .ref 19, .ref 20, .ref 21, .int 0, .int 0, .int 0, .ref 22, .ref 23, .ref 24, .int 0, .ref 25, .ref 26, .ref 27, .ref 28, .int 0, .int 0, .int 0, .ref 29, .ref 30]),
  .inl (0, 900, .inl (fun _ => 0)),
  .inl (0, 6, .inl (fun _ => 0)),
  .inl (0, 6, .inl (fun _ => 1)),
  .inl (0, 16, .inl (fun _ => 0)),
  .inl (0, 16, .inl (fun _ => 0)),
  .inl (1, 16, .inl (fun _ => 0)),
  .inl (0, 12, .inl (fun _ => 0)),
  .inl (0, 12, .inl (fun _ => 0)),
  .inl (0, 40, .inl (fun _ => 0)),
  .inl (0, 8, .inl (fun _ => 0)),
  .inl (1, 8, .inl (fun _ => 0)),
  .inl (0, 40, .inl (fun _ => 0)),
  .inl (0, 16, .inl (fun _ => 0)),
  .inl (1, 16, .inl (fun _ => 0)),
  .inl (1, 186, .inl (fun _ => 0)),
  .inl (0, 186, .inl (fun _ => 0)),
  .inl (0, 186, .inl (fun _ => 0)),
  .inl (1, 6, .inl (fun _ => 0)),
  .inl (0, 6, .inl (fun _ => 0)),
  .inl (0, 6, .inl (fun _ => 0)),
  .inl (0, 6, .inl (fun _ => 0)),
  .inl (0, 6, .inl (fun _ => 0)),
  .inl (0, 6, .inl (fun _ => 0)),
  .inl (0, 186, .inl (fun _ => 0)),
  .inl (0, 12, .inl (fun _ => 0)),
  .inl (0, 12, .inl (fun _ => 0)),
  .inl (0, 186, .inl (fun _ => 0)),
  .inl (0, 6, .inl (fun _ => 0)),
  .inl (0, 12, .inl (fun _ => 0)),
  .inl (0, 12, .inl (fun _ => 0))]
end
section
/-! RUNS: what a run of the executor comes to, goal first -/
def RP (k : Nat) (C : xC) (pc : Nat) (L : xL) (S : List Value) (Φ : Option Value → xC → Prop) : Prop := ∃ (m : Nat) (r : Option Value) (C' : xC), (∀ n : Nat, xe xMT xmac (n + m) k C pc L S = some (r, C')) ∧ Φ r C'
theorem RP_step {k : Nat} {C : xC} {pc : Nat} {L : xL} {S : List Value} {Φ : Option Value → xC → Prop} {C1 : xC} {pc1 : Nat} {L1 : xL} {S1 : List Value} (a b : Nat) (h : ∀ n : Nat, xe xMT xmac (n + a) k C pc L S = xe xMT xmac (n + b) k C1 pc1 L1 S1) (g : RP k C1 pc1 L1 S1 Φ) : RP k C pc L S Φ := by
  obtain ⟨m, r, C', h1, h2⟩ := g
  refine ⟨m + a, r, C', fun n => ?_, h2⟩
  rw [show n + (m + a) = (n + m) + a by omega, h, show n + m + b = n + b + m by omega]
  exact h1 _
theorem RP_done {k : Nat} {C : xC} {pc : Nat} {L : xL} {S : List Value} {Φ : Option Value → xC → Prop} {r : Option Value} {C' : xC} (a : Nat) (h : ∀ n : Nat, xe xMT xmac (n + a) k C pc L S = some (r, C')) (g : Φ r C') : RP k C pc L S Φ := ⟨a, r, C', h, g⟩
theorem RP_cond {k : Nat} {C : xC} {pc : Nat} {L : xL} {S : List Value} {Φ : Option Value → xC → Prop} {pc1 pc2 : Nat} {S1 S2 : List Value} (b : Bool) (h : ∀ n : Nat, xe xMT xmac (n + 1) k C pc L S = cond b (xe xMT xmac n k C pc1 L S1) (xe xMT xmac n k C pc2 L S2)) (g1 : b = true → RP k C pc1 L S1 Φ) (g2 : b = false → RP k C pc2 L S2 Φ) : RP k C pc L S Φ := by
  cases b with
  | true => exact RP_step 1 0 h (g1 rfl)
  | false => exact RP_step 1 0 h (g2 rfl)
theorem RP_call {k : Nat} {C : xC} {pc : Nat} {L : xL} {S : List Value} {Φ : Option Value → xC → Prop} {rest : List Value} (k' : Nat) (vs : List Value) (h : ∀ n : Nat, xe xMT xmac (n + 1) k C pc L S = match xe xMT xmac n k' C 0 (lv_args 0 vs) [] with
    | some (none, C1) => xe xMT xmac n k C1 (pc + 3) L rest
    | some (some (.int v), C1) => xe xMT xmac n k C1 (pc + 3) L (.int v :: rest)
    | _ => none) (g : RP k' C 0 (lv_args 0 vs) [] (fun r C1 => (r = none ∧ RP k C1 (pc + 3) L rest Φ) ∨ ∃ v : Int32, r = some (.int v) ∧ RP k C1 (pc + 3) L (.int v :: rest) Φ)) : RP k C pc L S Φ := by
  obtain ⟨m, r, C1, h1, h2⟩ := g
  rcases h2 with ⟨e, m2, r2, C2, h3, h4⟩ | ⟨v, e, m2, r2, C2, h3, h4⟩
  · subst e
    refine ⟨m + m2 + 1, r2, C2, fun n => ?_, h4⟩
    rw [show n + (m + m2 + 1) = (n + m2 + m) + 1 by omega, h, h1]
    show xe xMT xmac (n + m2 + m) k C1 (pc + 3) L rest = some (r2, C2)
    rw [show n + m2 + m = n + m + m2 by omega]
    exact h3 _
  · subst e
    refine ⟨m + m2 + 1, r2, C2, fun n => ?_, h4⟩
    rw [show n + (m + m2 + 1) = (n + m2 + m) + 1 by omega, h, h1]
    show xe xMT xmac (n + m2 + m) k C1 (pc + 3) L (.int v :: rest) = some (r2, C2)
    rw [show n + m2 + m = n + m + m2 by omega]
    exact h3 _
theorem RP_bin {k : Nat} {C : xC} {pc : Nat} {L : xL} {T : List Value} {x y : Int32} {Φ : Option Value → xC → Prop} (f : Int32 → Int32 → Int32) (h : ∀ n : Nat, xe xMT xmac (n + 1) k C pc L (.int y :: .int x :: T) = xe_bin f (.int y :: .int x :: T) (xe xMT xmac n k C (pc + 1) L)) (g : RP k C (pc + 1) L (.int (f x y) :: T) Φ) : RP k C pc L (.int y :: .int x :: T) Φ :=
  RP_step 1 0 (fun n => (h n).trans (xe_push_eq _ _ _)) g
theorem RP_ast {k : Nat} {C : xC} {pc : Nat} {L : xL} {T : List Value} {x i : Int32} {a N : Nat} {f : Nat → Int32} {Φ : Option Value → xC → Prop} (h : ∀ n : Nat, xe xMT xmac (n + 1) k C pc L (.int x :: .int i :: .ref a :: T) = xe_ast 0 (fun x => x) C (.int x :: .int i :: .ref a :: T) (fun C' T => xe xMT xmac n k C' (pc + 1) L T)) (hC : C[a]? = some (.inl (0, N, .inl f))) (hi : decide (¬ (i < 0 ∨ N ≤ i.toNatClampNeg)) = true) (g : RP k (C.set a (.inl (0, N, .inl (upd f i.toNatClampNeg x)))) (pc + 1) L T Φ) : RP k C pc L (.int x :: .int i :: .ref a :: T) Φ := by
  refine RP_step 1 0 (fun n => (h n).trans ?_) g
  unfold xe_ast
  simp only [xe_nth_eq, hC]
  rw [hi]
  simp only [xe_fn_eq, xe_f_eq, xe_set_eq]
  rfl
theorem RP_mono {k : Nat} {C : xC} {pc : Nat} {L : xL} {S : List Value} {Φ Ψ : Option Value → xC → Prop} (h : RP k C pc L S Φ) (g : ∀ r C', Φ r C' → Ψ r C') : RP k C pc L S Ψ := by
  obtain ⟨m, r, C', h1, h2⟩ := h
  exact ⟨m, r, C', h1, g r C' h2⟩
end
section
/-! numbers -/
theorem xi_lt {x y : Int32} (h : x.toInt < y.toInt) : x < y := Int32.lt_iff_toInt_lt.mpr h
theorem xi_le {x y : Int32} (h : x.toInt ≤ y.toInt) : x ≤ y := Int32.le_iff_toInt_le.mpr h
theorem xj_lt {x y : Int32} (h : x < y) : x.toInt < y.toInt := Int32.lt_iff_toInt_lt.mp h
theorem xj_le {x y : Int32} (h : x ≤ y) : x.toInt ≤ y.toInt := Int32.le_iff_toInt_le.mp h
theorem xi_nlt {x y : Int32} (h : y.toInt ≤ x.toInt) : ¬ x < y := fun g => by have := xj_lt g; omega
theorem xi_nle {x y : Int32} (h : y.toInt < x.toInt) : ¬ x ≤ y := fun g => by have := xj_le g; omega
theorem xj_nlt {x y : Int32} (h : ¬ x < y) : y.toInt ≤ x.toInt := by
  rcases Int.lt_or_le x.toInt y.toInt with g | g
  · exact absurd (xi_lt g) h
  · exact g
theorem xj_nle {x y : Int32} (h : ¬ x ≤ y) : y.toInt < x.toInt := by
  rcases Int.lt_or_le y.toInt x.toInt with g | g
  · exact g
  · exact absurd (xi_le g) h
theorem xi_eq {x y : Int32} (h : x.toInt = y.toInt) : x = y := Int32.toInt_inj.mp h
theorem xi_ne {x y : Int32} (h : ¬ x.toInt = y.toInt) : ¬ x = y := fun g => h (by rw [g])
theorem RP_swo {k : Nat} {C : xC} {pc : Nat} {L : xL} {T : List Value} {x : Int32} {Φ : Option Value → xC → Prop} {dflt lo hi : Int} {offs : Array Int} (h : ∀ n : Nat, xe xMT xmac (n + 1) k C pc L (.int x :: T) = xe_swt pc dflt lo hi offs (.int x :: T) (fun t T => xe xMT xmac n k C t L T)) (hq : x.toInt < lo ∨ hi < x.toInt) {t : Nat} (ht : (pc : Int) + dflt = (t : Int)) (g : RP k C t L T Φ) : RP k C pc L (.int x :: T) Φ := by
  refine RP_step 1 0 (fun n => (h n).trans ?_) g
  unfold xe_swt
  have e : (decide (x.toInt < lo) || decide (hi < x.toInt)) = true := by simpa using hq
  simp only [e, cond_true]
  unfold xe_jmp
  rw [ht]
  exact xe_fn_eq t _
theorem xi_12 (x : Int32) : x = 0 ∨ x = 1 ∨ x = 2 ∨ x = 3 ∨ x = 4 ∨ x = 5 ∨ x = 6 ∨ x = 7 ∨ x = 8 ∨ x = 9 ∨ x = 10 ∨ x = 11 ∨ (x.toInt < 0 ∨ 11 < x.toInt) := by
  by_cases h : x.toInt < 0 ∨ 11 < x.toInt
  · exact Or.inr (Or.inr (Or.inr (Or.inr (Or.inr (Or.inr (Or.inr (Or.inr (Or.inr (Or.inr (Or.inr (Or.inr (h))))))))))))
  · rcases (show x.toInt = 0 ∨ x.toInt = 1 ∨ x.toInt = 2 ∨ x.toInt = 3 ∨ x.toInt = 4 ∨ x.toInt = 5 ∨ x.toInt = 6 ∨ x.toInt = 7 ∨ x.toInt = 8 ∨ x.toInt = 9 ∨ x.toInt = 10 ∨ x.toInt = 11 by omega) with e | e | e | e | e | e | e | e | e | e | e | e
    · exact Or.inl (xi_eq e)
    · exact Or.inr (Or.inl (xi_eq e))
    · exact Or.inr (Or.inr (Or.inl (xi_eq e)))
    · exact Or.inr (Or.inr (Or.inr (Or.inl (xi_eq e))))
    · exact Or.inr (Or.inr (Or.inr (Or.inr (Or.inl (xi_eq e)))))
    · exact Or.inr (Or.inr (Or.inr (Or.inr (Or.inr (Or.inl (xi_eq e))))))
    · exact Or.inr (Or.inr (Or.inr (Or.inr (Or.inr (Or.inr (Or.inl (xi_eq e)))))))
    · exact Or.inr (Or.inr (Or.inr (Or.inr (Or.inr (Or.inr (Or.inr (Or.inl (xi_eq e))))))))
    · exact Or.inr (Or.inr (Or.inr (Or.inr (Or.inr (Or.inr (Or.inr (Or.inr (Or.inl (xi_eq e)))))))))
    · exact Or.inr (Or.inr (Or.inr (Or.inr (Or.inr (Or.inr (Or.inr (Or.inr (Or.inr (Or.inl (xi_eq e))))))))))
    · exact Or.inr (Or.inr (Or.inr (Or.inr (Or.inr (Or.inr (Or.inr (Or.inr (Or.inr (Or.inr (Or.inl (xi_eq e)))))))))))
    · exact Or.inr (Or.inr (Or.inr (Or.inr (Or.inr (Or.inr (Or.inr (Or.inr (Or.inr (Or.inr (Or.inr (Or.inl (xi_eq e))))))))))))
/-- the two answer alike -/
def Same (kx km : Nat) (vs : List Value) : Prop := ∃ v : Int32, (∃ (n : Nat) (C' : xC), xe xMT xmac n kx Cx 0 (lv_args 0 (.ref 0 :: vs)) [] = some (some (.int v), C')) ∧ ∃ (n : Nat) (C' : xC), xe xMT xmac n km Cm 0 (lv_args 0 (.ref 0 :: vs)) [] = some (some (.int v), C')
theorem Same_of {kx km : Nat} {vs : List Value} (h : RP kx Cx 0 (lv_args 0 (.ref 0 :: vs)) [] (fun r _ => RP km Cm 0 (lv_args 0 (.ref 0 :: vs)) [] (fun r' _ => r' = r ∧ ∃ v : Int32, r = some (.int v)))) : Same kx km vs := by
  obtain ⟨m, r, C', h1, m2, r2, C2, h2, e, v, e2⟩ := h
  subst e2; subst e
  exact ⟨v, ⟨_, _, h1 0⟩, ⟨_, _, h2 0⟩⟩
noncomputable def xr (n k : Nat) (C : xC) (vs : List Value) : Option (Option Value) := (xe xMT xmac n k C 0 (lv_args 0 vs) []).map (fun r => r.1)
theorem xr_of {n k : Nat} {C : xC} {vs : List Value} {v : Int32} (h : xr n k C vs = some (some (.int v))) : ∃ (n : Nat) (C' : xC), xe xMT xmac n k C 0 (lv_args 0 vs) [] = some (some (.int v), C') := by
  unfold xr at h
  obtain ⟨q, h1, h2⟩ := Option.map_eq_some_iff.mp h
  exact ⟨n, q.2, by rw [h1, ← h2]⟩

set_option maxHeartbeats 8000000 in
set_option maxRecDepth 1000000 in
theorem sm_told (op a b c d : Int32) (C D : xC) : RP 25 C 0 (lv_args 0 [.int op, .int a, .int b, .int c, .int d]) [] (fun r C' => (r = some (.int 0) ∨ r = some (.int 1)) ∧ C' = C ∧ RP 59 D 0 (lv_args 0 [.int op, .int a, .int b, .int c, .int d]) [] (fun r' D' => r' = r ∧ D' = D)) := by
  rcases xi_12 op with rfl | rfl | rfl | rfl | rfl | rfl | rfl | rfl | rfl | rfl | rfl | rfl | ho
  · skip
    show RP 25 _ 0 [(0, .int 0), (1, .int a), (2, .int b), (3, .int c), (4, .int d)] [] _
    refine RP_step (pc1 := 65) (L1 := [(0, .int 0), (1, .int a), (2, .int b), (3, .int c), (4, .int d)]) (S1 := [.int a]) 3 0 (fun n => rfl) ?_
    refine RP_call 23 [.int a] (fun n => rfl) ?_
    show RP 23 _ 0 [(0, .int a)] [] _
    refine RP_step (pc1 := 1) (L1 := [(0, .int a)]) (S1 := [.int a]) 1 0 (fun n => rfl) ?_
    refine RP_cond (decide (a < 0)) (fun n => rfl) (fun hh => ?_) (fun hh => ?_)
    · have h1 := of_decide_eq_true hh
      have h2 : a.toInt < 0 := xj_lt h1
      show RP 23 _ 14 [(0, .int a)] [] _
      refine RP_done 4 (fun n => rfl) ?_
      refine Or.inr ⟨0, rfl, ?_⟩
      show RP 25 _ 68 [(0, .int 0), (1, .int a), (2, .int b), (3, .int c), (4, .int d)] [.int 0] _
      refine RP_done 5 (fun n => rfl) ?_
      refine ⟨Or.inl rfl, rfl, ?_⟩
      show RP 59 _ 0 [(0, .int 0), (1, .int a), (2, .int b), (3, .int c), (4, .int d)] [] _
      refine RP_step (pc1 := 65) (L1 := [(0, .int 0), (1, .int a), (2, .int b), (3, .int c), (4, .int d)]) (S1 := [.int a]) 3 0 (fun n => rfl) ?_
      refine RP_call 57 [.int a] (fun n => rfl) ?_
      show RP 57 _ 0 [(0, .int a)] [] _
      refine RP_step (pc1 := 4) (L1 := [(0, .int a)]) (S1 := [.int 15, .int 0, .int a]) 3 0 (fun n => rfl) ?_
      refine RP_call 55 [.int a, .int 0, .int 15] (fun n => rfl) ?_
      show RP 55 _ 0 [(0, .int a), (1, .int 0), (2, .int 15)] [] _
      refine RP_step (pc1 := 2) (L1 := [(0, .int a), (1, .int 0), (2, .int 15)]) (S1 := [.int 0, .int a]) 2 0 (fun n => rfl) ?_
      refine RP_cond (decide (a < 0)) (fun n => rfl) (fun _ => ?_) (fun h => absurd (xi_lt (x := a) (y := 0) (show a.toInt < 0 by omega)) (of_decide_eq_false h))
      show RP 55 _ 14 [(0, .int a), (1, .int 0), (2, .int 15)] [] _
      refine RP_done 4 (fun n => rfl) ?_
      refine Or.inr ⟨0, rfl, ?_⟩
      show RP 57 _ 7 [(0, .int a)] [.int 0] _
      refine RP_done 3 (fun n => rfl) ?_
      refine Or.inr ⟨0, rfl, ?_⟩
      show RP 59 _ 68 [(0, .int 0), (1, .int a), (2, .int b), (3, .int c), (4, .int d)] [.int 0] _
      refine RP_done 5 (fun n => rfl) ?_
      exact ⟨rfl, rfl⟩
    · have h3 := of_decide_eq_false hh
      have h4 : 0 ≤ a.toInt := xj_nlt h3
      show RP 23 _ 4 [(0, .int a)] [] _
      refine RP_step (pc1 := 7) (L1 := [(0, .int a)]) (S1 := [.int 16, .int a]) 2 0 (fun n => rfl) ?_
      refine RP_cond (decide (16 ≤ a)) (fun n => rfl) (fun hh => ?_) (fun hh => ?_)
      · have h5 := of_decide_eq_true hh
        have h6 : 16 ≤ a.toInt := xj_le h5
        show RP 23 _ 14 [(0, .int a)] [] _
        refine RP_done 4 (fun n => rfl) ?_
        refine Or.inr ⟨0, rfl, ?_⟩
        show RP 25 _ 68 [(0, .int 0), (1, .int a), (2, .int b), (3, .int c), (4, .int d)] [.int 0] _
        refine RP_done 5 (fun n => rfl) ?_
        refine ⟨Or.inl rfl, rfl, ?_⟩
        show RP 59 _ 0 [(0, .int 0), (1, .int a), (2, .int b), (3, .int c), (4, .int d)] [] _
        refine RP_step (pc1 := 65) (L1 := [(0, .int 0), (1, .int a), (2, .int b), (3, .int c), (4, .int d)]) (S1 := [.int a]) 3 0 (fun n => rfl) ?_
        refine RP_call 57 [.int a] (fun n => rfl) ?_
        show RP 57 _ 0 [(0, .int a)] [] _
        refine RP_step (pc1 := 4) (L1 := [(0, .int a)]) (S1 := [.int 15, .int 0, .int a]) 3 0 (fun n => rfl) ?_
        refine RP_call 55 [.int a, .int 0, .int 15] (fun n => rfl) ?_
        show RP 55 _ 0 [(0, .int a), (1, .int 0), (2, .int 15)] [] _
        refine RP_step (pc1 := 2) (L1 := [(0, .int a), (1, .int 0), (2, .int 15)]) (S1 := [.int 0, .int a]) 2 0 (fun n => rfl) ?_
        refine RP_cond (decide (a < 0)) (fun n => rfl) (fun h => absurd (of_decide_eq_true h) (xi_nlt (x := a) (y := 0) (show 0 ≤ a.toInt by omega))) (fun _ => ?_)
        show RP 55 _ 5 [(0, .int a), (1, .int 0), (2, .int 15)] [] _
        refine RP_step (pc1 := 7) (L1 := [(0, .int a), (1, .int 0), (2, .int 15)]) (S1 := [.int 15, .int a]) 2 0 (fun n => rfl) ?_
        refine RP_cond (decide (15 < a)) (fun n => rfl) (fun _ => ?_) (fun h => absurd (xi_lt (x := 15) (y := a) (show 15 < a.toInt by omega)) (of_decide_eq_false h))
        show RP 55 _ 14 [(0, .int a), (1, .int 0), (2, .int 15)] [] _
        refine RP_done 4 (fun n => rfl) ?_
        refine Or.inr ⟨0, rfl, ?_⟩
        show RP 57 _ 7 [(0, .int a)] [.int 0] _
        refine RP_done 3 (fun n => rfl) ?_
        refine Or.inr ⟨0, rfl, ?_⟩
        show RP 59 _ 68 [(0, .int 0), (1, .int a), (2, .int b), (3, .int c), (4, .int d)] [.int 0] _
        refine RP_done 5 (fun n => rfl) ?_
        exact ⟨rfl, rfl⟩
      · have h7 := of_decide_eq_false hh
        have h8 : a.toInt < 16 := xj_nle h7
        show RP 23 _ 10 [(0, .int a)] [] _
        refine RP_done 5 (fun n => rfl) ?_
        refine Or.inr ⟨1, rfl, ?_⟩
        show RP 25 _ 68 [(0, .int 0), (1, .int a), (2, .int b), (3, .int c), (4, .int d)] [.int 1] _
        refine RP_step (pc1 := 72) (L1 := [(0, .int 0), (1, .int a), (2, .int b), (3, .int c), (4, .int d)]) (S1 := [.int b]) 2 0 (fun n => rfl) ?_
        refine RP_cond (decide (b < 0)) (fun n => rfl) (fun hh => ?_) (fun hh => ?_)
        · have h9 := of_decide_eq_true hh
          have h10 : b.toInt < 0 := xj_lt h9
          show RP 25 _ 95 [(0, .int 0), (1, .int a), (2, .int b), (3, .int c), (4, .int d)] [] _
          refine RP_done 4 (fun n => rfl) ?_
          refine ⟨Or.inl rfl, rfl, ?_⟩
          show RP 59 _ 0 [(0, .int 0), (1, .int a), (2, .int b), (3, .int c), (4, .int d)] [] _
          refine RP_step (pc1 := 65) (L1 := [(0, .int 0), (1, .int a), (2, .int b), (3, .int c), (4, .int d)]) (S1 := [.int a]) 3 0 (fun n => rfl) ?_
          refine RP_call 57 [.int a] (fun n => rfl) ?_
          show RP 57 _ 0 [(0, .int a)] [] _
          refine RP_step (pc1 := 4) (L1 := [(0, .int a)]) (S1 := [.int 15, .int 0, .int a]) 3 0 (fun n => rfl) ?_
          refine RP_call 55 [.int a, .int 0, .int 15] (fun n => rfl) ?_
          show RP 55 _ 0 [(0, .int a), (1, .int 0), (2, .int 15)] [] _
          refine RP_step (pc1 := 2) (L1 := [(0, .int a), (1, .int 0), (2, .int 15)]) (S1 := [.int 0, .int a]) 2 0 (fun n => rfl) ?_
          refine RP_cond (decide (a < 0)) (fun n => rfl) (fun h => absurd (of_decide_eq_true h) (xi_nlt (x := a) (y := 0) (show 0 ≤ a.toInt by omega))) (fun _ => ?_)
          show RP 55 _ 5 [(0, .int a), (1, .int 0), (2, .int 15)] [] _
          refine RP_step (pc1 := 7) (L1 := [(0, .int a), (1, .int 0), (2, .int 15)]) (S1 := [.int 15, .int a]) 2 0 (fun n => rfl) ?_
          refine RP_cond (decide (15 < a)) (fun n => rfl) (fun h => absurd (of_decide_eq_true h) (xi_nlt (x := 15) (y := a) (show a.toInt ≤ 15 by omega))) (fun _ => ?_)
          show RP 55 _ 10 [(0, .int a), (1, .int 0), (2, .int 15)] [] _
          refine RP_done 5 (fun n => rfl) ?_
          refine Or.inr ⟨1, rfl, ?_⟩
          show RP 57 _ 7 [(0, .int a)] [.int 1] _
          refine RP_done 3 (fun n => rfl) ?_
          refine Or.inr ⟨1, rfl, ?_⟩
          show RP 59 _ 68 [(0, .int 0), (1, .int a), (2, .int b), (3, .int c), (4, .int d)] [.int 1] _
          refine RP_step (pc1 := 76) (L1 := [(0, .int 0), (1, .int a), (2, .int b), (3, .int c), (4, .int d)]) (S1 := [.int 255, .int 0, .int b]) 4 0 (fun n => rfl) ?_
          refine RP_call 55 [.int b, .int 0, .int 255] (fun n => rfl) ?_
          show RP 55 _ 0 [(0, .int b), (1, .int 0), (2, .int 255)] [] _
          refine RP_step (pc1 := 2) (L1 := [(0, .int b), (1, .int 0), (2, .int 255)]) (S1 := [.int 0, .int b]) 2 0 (fun n => rfl) ?_
          refine RP_cond (decide (b < 0)) (fun n => rfl) (fun _ => ?_) (fun h => absurd (xi_lt (x := b) (y := 0) (show b.toInt < 0 by omega)) (of_decide_eq_false h))
          show RP 55 _ 14 [(0, .int b), (1, .int 0), (2, .int 255)] [] _
          refine RP_done 4 (fun n => rfl) ?_
          refine Or.inr ⟨0, rfl, ?_⟩
          show RP 59 _ 79 [(0, .int 0), (1, .int a), (2, .int b), (3, .int c), (4, .int d)] [.int 0] _
          refine RP_done 5 (fun n => rfl) ?_
          exact ⟨rfl, rfl⟩
        · have h11 := of_decide_eq_false hh
          have h12 : 0 ≤ b.toInt := xj_nlt h11
          show RP 25 _ 75 [(0, .int 0), (1, .int a), (2, .int b), (3, .int c), (4, .int d)] [] _
          refine RP_step (pc1 := 79) (L1 := [(0, .int 0), (1, .int a), (2, .int b), (3, .int c), (4, .int d)]) (S1 := [.int 255, .int b]) 2 0 (fun n => rfl) ?_
          refine RP_cond (decide (255 < b)) (fun n => rfl) (fun hh => ?_) (fun hh => ?_)
          · have h13 := of_decide_eq_true hh
            have h14 : 255 < b.toInt := xj_lt h13
            show RP 25 _ 95 [(0, .int 0), (1, .int a), (2, .int b), (3, .int c), (4, .int d)] [] _
            refine RP_done 4 (fun n => rfl) ?_
            refine ⟨Or.inl rfl, rfl, ?_⟩
            show RP 59 _ 0 [(0, .int 0), (1, .int a), (2, .int b), (3, .int c), (4, .int d)] [] _
            refine RP_step (pc1 := 65) (L1 := [(0, .int 0), (1, .int a), (2, .int b), (3, .int c), (4, .int d)]) (S1 := [.int a]) 3 0 (fun n => rfl) ?_
            refine RP_call 57 [.int a] (fun n => rfl) ?_
            show RP 57 _ 0 [(0, .int a)] [] _
            refine RP_step (pc1 := 4) (L1 := [(0, .int a)]) (S1 := [.int 15, .int 0, .int a]) 3 0 (fun n => rfl) ?_
            refine RP_call 55 [.int a, .int 0, .int 15] (fun n => rfl) ?_
            show RP 55 _ 0 [(0, .int a), (1, .int 0), (2, .int 15)] [] _
            refine RP_step (pc1 := 2) (L1 := [(0, .int a), (1, .int 0), (2, .int 15)]) (S1 := [.int 0, .int a]) 2 0 (fun n => rfl) ?_
            refine RP_cond (decide (a < 0)) (fun n => rfl) (fun h => absurd (of_decide_eq_true h) (xi_nlt (x := a) (y := 0) (show 0 ≤ a.toInt by omega))) (fun _ => ?_)
            show RP 55 _ 5 [(0, .int a), (1, .int 0), (2, .int 15)] [] _
            refine RP_step (pc1 := 7) (L1 := [(0, .int a), (1, .int 0), (2, .int 15)]) (S1 := [.int 15, .int a]) 2 0 (fun n => rfl) ?_
            refine RP_cond (decide (15 < a)) (fun n => rfl) (fun h => absurd (of_decide_eq_true h) (xi_nlt (x := 15) (y := a) (show a.toInt ≤ 15 by omega))) (fun _ => ?_)
            show RP 55 _ 10 [(0, .int a), (1, .int 0), (2, .int 15)] [] _
            refine RP_done 5 (fun n => rfl) ?_
            refine Or.inr ⟨1, rfl, ?_⟩
            show RP 57 _ 7 [(0, .int a)] [.int 1] _
            refine RP_done 3 (fun n => rfl) ?_
            refine Or.inr ⟨1, rfl, ?_⟩
            show RP 59 _ 68 [(0, .int 0), (1, .int a), (2, .int b), (3, .int c), (4, .int d)] [.int 1] _
            refine RP_step (pc1 := 76) (L1 := [(0, .int 0), (1, .int a), (2, .int b), (3, .int c), (4, .int d)]) (S1 := [.int 255, .int 0, .int b]) 4 0 (fun n => rfl) ?_
            refine RP_call 55 [.int b, .int 0, .int 255] (fun n => rfl) ?_
            show RP 55 _ 0 [(0, .int b), (1, .int 0), (2, .int 255)] [] _
            refine RP_step (pc1 := 2) (L1 := [(0, .int b), (1, .int 0), (2, .int 255)]) (S1 := [.int 0, .int b]) 2 0 (fun n => rfl) ?_
            refine RP_cond (decide (b < 0)) (fun n => rfl) (fun h => absurd (of_decide_eq_true h) (xi_nlt (x := b) (y := 0) (show 0 ≤ b.toInt by omega))) (fun _ => ?_)
            show RP 55 _ 5 [(0, .int b), (1, .int 0), (2, .int 255)] [] _
            refine RP_step (pc1 := 7) (L1 := [(0, .int b), (1, .int 0), (2, .int 255)]) (S1 := [.int 255, .int b]) 2 0 (fun n => rfl) ?_
            refine RP_cond (decide (255 < b)) (fun n => rfl) (fun _ => ?_) (fun h => absurd (xi_lt (x := 255) (y := b) (show 255 < b.toInt by omega)) (of_decide_eq_false h))
            show RP 55 _ 14 [(0, .int b), (1, .int 0), (2, .int 255)] [] _
            refine RP_done 4 (fun n => rfl) ?_
            refine Or.inr ⟨0, rfl, ?_⟩
            show RP 59 _ 79 [(0, .int 0), (1, .int a), (2, .int b), (3, .int c), (4, .int d)] [.int 0] _
            refine RP_done 5 (fun n => rfl) ?_
            exact ⟨rfl, rfl⟩
          · have h15 := of_decide_eq_false hh
            have h16 : b.toInt ≤ 255 := xj_nlt h15
            show RP 25 _ 82 [(0, .int 0), (1, .int a), (2, .int b), (3, .int c), (4, .int d)] [] _
            refine RP_step (pc1 := 83) (L1 := [(0, .int 0), (1, .int a), (2, .int b), (3, .int c), (4, .int d)]) (S1 := [.int c]) 1 0 (fun n => rfl) ?_
            refine RP_cond (decide (c ≠ 0)) (fun n => rfl) (fun hh => ?_) (fun hh => ?_)
            · have h17 := of_decide_eq_true hh
              show RP 25 _ 95 [(0, .int 0), (1, .int a), (2, .int b), (3, .int c), (4, .int d)] [] _
              refine RP_done 4 (fun n => rfl) ?_
              refine ⟨Or.inl rfl, rfl, ?_⟩
              show RP 59 _ 0 [(0, .int 0), (1, .int a), (2, .int b), (3, .int c), (4, .int d)] [] _
              refine RP_step (pc1 := 65) (L1 := [(0, .int 0), (1, .int a), (2, .int b), (3, .int c), (4, .int d)]) (S1 := [.int a]) 3 0 (fun n => rfl) ?_
              refine RP_call 57 [.int a] (fun n => rfl) ?_
              show RP 57 _ 0 [(0, .int a)] [] _
              refine RP_step (pc1 := 4) (L1 := [(0, .int a)]) (S1 := [.int 15, .int 0, .int a]) 3 0 (fun n => rfl) ?_
              refine RP_call 55 [.int a, .int 0, .int 15] (fun n => rfl) ?_
              show RP 55 _ 0 [(0, .int a), (1, .int 0), (2, .int 15)] [] _
              refine RP_step (pc1 := 2) (L1 := [(0, .int a), (1, .int 0), (2, .int 15)]) (S1 := [.int 0, .int a]) 2 0 (fun n => rfl) ?_
              refine RP_cond (decide (a < 0)) (fun n => rfl) (fun h => absurd (of_decide_eq_true h) (xi_nlt (x := a) (y := 0) (show 0 ≤ a.toInt by omega))) (fun _ => ?_)
              show RP 55 _ 5 [(0, .int a), (1, .int 0), (2, .int 15)] [] _
              refine RP_step (pc1 := 7) (L1 := [(0, .int a), (1, .int 0), (2, .int 15)]) (S1 := [.int 15, .int a]) 2 0 (fun n => rfl) ?_
              refine RP_cond (decide (15 < a)) (fun n => rfl) (fun h => absurd (of_decide_eq_true h) (xi_nlt (x := 15) (y := a) (show a.toInt ≤ 15 by omega))) (fun _ => ?_)
              show RP 55 _ 10 [(0, .int a), (1, .int 0), (2, .int 15)] [] _
              refine RP_done 5 (fun n => rfl) ?_
              refine Or.inr ⟨1, rfl, ?_⟩
              show RP 57 _ 7 [(0, .int a)] [.int 1] _
              refine RP_done 3 (fun n => rfl) ?_
              refine Or.inr ⟨1, rfl, ?_⟩
              show RP 59 _ 68 [(0, .int 0), (1, .int a), (2, .int b), (3, .int c), (4, .int d)] [.int 1] _
              refine RP_step (pc1 := 76) (L1 := [(0, .int 0), (1, .int a), (2, .int b), (3, .int c), (4, .int d)]) (S1 := [.int 255, .int 0, .int b]) 4 0 (fun n => rfl) ?_
              refine RP_call 55 [.int b, .int 0, .int 255] (fun n => rfl) ?_
              show RP 55 _ 0 [(0, .int b), (1, .int 0), (2, .int 255)] [] _
              refine RP_step (pc1 := 2) (L1 := [(0, .int b), (1, .int 0), (2, .int 255)]) (S1 := [.int 0, .int b]) 2 0 (fun n => rfl) ?_
              refine RP_cond (decide (b < 0)) (fun n => rfl) (fun h => absurd (of_decide_eq_true h) (xi_nlt (x := b) (y := 0) (show 0 ≤ b.toInt by omega))) (fun _ => ?_)
              show RP 55 _ 5 [(0, .int b), (1, .int 0), (2, .int 255)] [] _
              refine RP_step (pc1 := 7) (L1 := [(0, .int b), (1, .int 0), (2, .int 255)]) (S1 := [.int 255, .int b]) 2 0 (fun n => rfl) ?_
              refine RP_cond (decide (255 < b)) (fun n => rfl) (fun h => absurd (of_decide_eq_true h) (xi_nlt (x := 255) (y := b) (show b.toInt ≤ 255 by omega))) (fun _ => ?_)
              show RP 55 _ 10 [(0, .int b), (1, .int 0), (2, .int 255)] [] _
              refine RP_done 5 (fun n => rfl) ?_
              refine Or.inr ⟨1, rfl, ?_⟩
              show RP 59 _ 79 [(0, .int 0), (1, .int a), (2, .int b), (3, .int c), (4, .int d)] [.int 1] _
              refine RP_step (pc1 := 83) (L1 := [(0, .int 0), (1, .int a), (2, .int b), (3, .int c), (4, .int d)]) (S1 := [.int c]) 2 0 (fun n => rfl) ?_
              refine RP_cond (decide (c ≠ 0)) (fun n => rfl) (fun _ => ?_) (fun h => absurd (by assumption) (of_decide_eq_false h))
              show RP 59 _ 95 [(0, .int 0), (1, .int a), (2, .int b), (3, .int c), (4, .int d)] [] _
              refine RP_done 4 (fun n => rfl) ?_
              exact ⟨rfl, rfl⟩
            · have h18 := of_decide_eq_false hh
              replace h18 := Decidable.of_not_not h18
              clear hh
              subst h18
              show RP 25 _ 86 [(0, .int 0), (1, .int a), (2, .int b), (3, .int 0), (4, .int d)] [] _
              refine RP_step (pc1 := 88) (L1 := [(0, .int 0), (1, .int a), (2, .int b), (3, .int 0), (4, .int d)]) (S1 := [.int d]) 1 0 (fun n => rfl) ?_
              refine RP_cond (decide (d ≠ 0)) (fun n => rfl) (fun hh => ?_) (fun hh => ?_)
              · have h19 := of_decide_eq_true hh
                show RP 25 _ 95 [(0, .int 0), (1, .int a), (2, .int b), (3, .int 0), (4, .int d)] [] _
                refine RP_done 4 (fun n => rfl) ?_
                refine ⟨Or.inl rfl, rfl, ?_⟩
                show RP 59 _ 0 [(0, .int 0), (1, .int a), (2, .int b), (3, .int 0), (4, .int d)] [] _
                refine RP_step (pc1 := 65) (L1 := [(0, .int 0), (1, .int a), (2, .int b), (3, .int 0), (4, .int d)]) (S1 := [.int a]) 3 0 (fun n => rfl) ?_
                refine RP_call 57 [.int a] (fun n => rfl) ?_
                show RP 57 _ 0 [(0, .int a)] [] _
                refine RP_step (pc1 := 4) (L1 := [(0, .int a)]) (S1 := [.int 15, .int 0, .int a]) 3 0 (fun n => rfl) ?_
                refine RP_call 55 [.int a, .int 0, .int 15] (fun n => rfl) ?_
                show RP 55 _ 0 [(0, .int a), (1, .int 0), (2, .int 15)] [] _
                refine RP_step (pc1 := 2) (L1 := [(0, .int a), (1, .int 0), (2, .int 15)]) (S1 := [.int 0, .int a]) 2 0 (fun n => rfl) ?_
                refine RP_cond (decide (a < 0)) (fun n => rfl) (fun h => absurd (of_decide_eq_true h) (xi_nlt (x := a) (y := 0) (show 0 ≤ a.toInt by omega))) (fun _ => ?_)
                show RP 55 _ 5 [(0, .int a), (1, .int 0), (2, .int 15)] [] _
                refine RP_step (pc1 := 7) (L1 := [(0, .int a), (1, .int 0), (2, .int 15)]) (S1 := [.int 15, .int a]) 2 0 (fun n => rfl) ?_
                refine RP_cond (decide (15 < a)) (fun n => rfl) (fun h => absurd (of_decide_eq_true h) (xi_nlt (x := 15) (y := a) (show a.toInt ≤ 15 by omega))) (fun _ => ?_)
                show RP 55 _ 10 [(0, .int a), (1, .int 0), (2, .int 15)] [] _
                refine RP_done 5 (fun n => rfl) ?_
                refine Or.inr ⟨1, rfl, ?_⟩
                show RP 57 _ 7 [(0, .int a)] [.int 1] _
                refine RP_done 3 (fun n => rfl) ?_
                refine Or.inr ⟨1, rfl, ?_⟩
                show RP 59 _ 68 [(0, .int 0), (1, .int a), (2, .int b), (3, .int 0), (4, .int d)] [.int 1] _
                refine RP_step (pc1 := 76) (L1 := [(0, .int 0), (1, .int a), (2, .int b), (3, .int 0), (4, .int d)]) (S1 := [.int 255, .int 0, .int b]) 4 0 (fun n => rfl) ?_
                refine RP_call 55 [.int b, .int 0, .int 255] (fun n => rfl) ?_
                show RP 55 _ 0 [(0, .int b), (1, .int 0), (2, .int 255)] [] _
                refine RP_step (pc1 := 2) (L1 := [(0, .int b), (1, .int 0), (2, .int 255)]) (S1 := [.int 0, .int b]) 2 0 (fun n => rfl) ?_
                refine RP_cond (decide (b < 0)) (fun n => rfl) (fun h => absurd (of_decide_eq_true h) (xi_nlt (x := b) (y := 0) (show 0 ≤ b.toInt by omega))) (fun _ => ?_)
                show RP 55 _ 5 [(0, .int b), (1, .int 0), (2, .int 255)] [] _
                refine RP_step (pc1 := 7) (L1 := [(0, .int b), (1, .int 0), (2, .int 255)]) (S1 := [.int 255, .int b]) 2 0 (fun n => rfl) ?_
                refine RP_cond (decide (255 < b)) (fun n => rfl) (fun h => absurd (of_decide_eq_true h) (xi_nlt (x := 255) (y := b) (show b.toInt ≤ 255 by omega))) (fun _ => ?_)
                show RP 55 _ 10 [(0, .int b), (1, .int 0), (2, .int 255)] [] _
                refine RP_done 5 (fun n => rfl) ?_
                refine Or.inr ⟨1, rfl, ?_⟩
                show RP 59 _ 79 [(0, .int 0), (1, .int a), (2, .int b), (3, .int 0), (4, .int d)] [.int 1] _
                refine RP_step (pc1 := 88) (L1 := [(0, .int 0), (1, .int a), (2, .int b), (3, .int 0), (4, .int d)]) (S1 := [.int d]) 4 0 (fun n => rfl) ?_
                refine RP_cond (decide (d ≠ 0)) (fun n => rfl) (fun _ => ?_) (fun h => absurd (by assumption) (of_decide_eq_false h))
                show RP 59 _ 95 [(0, .int 0), (1, .int a), (2, .int b), (3, .int 0), (4, .int d)] [] _
                refine RP_done 4 (fun n => rfl) ?_
                exact ⟨rfl, rfl⟩
              · have h20 := of_decide_eq_false hh
                replace h20 := Decidable.of_not_not h20
                clear hh
                subst h20
                show RP 25 _ 91 [(0, .int 0), (1, .int a), (2, .int b), (3, .int 0), (4, .int 0)] [] _
                refine RP_done 5 (fun n => rfl) ?_
                refine ⟨Or.inr rfl, rfl, ?_⟩
                show RP 59 _ 0 [(0, .int 0), (1, .int a), (2, .int b), (3, .int 0), (4, .int 0)] [] _
                refine RP_step (pc1 := 65) (L1 := [(0, .int 0), (1, .int a), (2, .int b), (3, .int 0), (4, .int 0)]) (S1 := [.int a]) 3 0 (fun n => rfl) ?_
                refine RP_call 57 [.int a] (fun n => rfl) ?_
                show RP 57 _ 0 [(0, .int a)] [] _
                refine RP_step (pc1 := 4) (L1 := [(0, .int a)]) (S1 := [.int 15, .int 0, .int a]) 3 0 (fun n => rfl) ?_
                refine RP_call 55 [.int a, .int 0, .int 15] (fun n => rfl) ?_
                show RP 55 _ 0 [(0, .int a), (1, .int 0), (2, .int 15)] [] _
                refine RP_step (pc1 := 2) (L1 := [(0, .int a), (1, .int 0), (2, .int 15)]) (S1 := [.int 0, .int a]) 2 0 (fun n => rfl) ?_
                refine RP_cond (decide (a < 0)) (fun n => rfl) (fun h => absurd (of_decide_eq_true h) (xi_nlt (x := a) (y := 0) (show 0 ≤ a.toInt by omega))) (fun _ => ?_)
                show RP 55 _ 5 [(0, .int a), (1, .int 0), (2, .int 15)] [] _
                refine RP_step (pc1 := 7) (L1 := [(0, .int a), (1, .int 0), (2, .int 15)]) (S1 := [.int 15, .int a]) 2 0 (fun n => rfl) ?_
                refine RP_cond (decide (15 < a)) (fun n => rfl) (fun h => absurd (of_decide_eq_true h) (xi_nlt (x := 15) (y := a) (show a.toInt ≤ 15 by omega))) (fun _ => ?_)
                show RP 55 _ 10 [(0, .int a), (1, .int 0), (2, .int 15)] [] _
                refine RP_done 5 (fun n => rfl) ?_
                refine Or.inr ⟨1, rfl, ?_⟩
                show RP 57 _ 7 [(0, .int a)] [.int 1] _
                refine RP_done 3 (fun n => rfl) ?_
                refine Or.inr ⟨1, rfl, ?_⟩
                show RP 59 _ 68 [(0, .int 0), (1, .int a), (2, .int b), (3, .int 0), (4, .int 0)] [.int 1] _
                refine RP_step (pc1 := 76) (L1 := [(0, .int 0), (1, .int a), (2, .int b), (3, .int 0), (4, .int 0)]) (S1 := [.int 255, .int 0, .int b]) 4 0 (fun n => rfl) ?_
                refine RP_call 55 [.int b, .int 0, .int 255] (fun n => rfl) ?_
                show RP 55 _ 0 [(0, .int b), (1, .int 0), (2, .int 255)] [] _
                refine RP_step (pc1 := 2) (L1 := [(0, .int b), (1, .int 0), (2, .int 255)]) (S1 := [.int 0, .int b]) 2 0 (fun n => rfl) ?_
                refine RP_cond (decide (b < 0)) (fun n => rfl) (fun h => absurd (of_decide_eq_true h) (xi_nlt (x := b) (y := 0) (show 0 ≤ b.toInt by omega))) (fun _ => ?_)
                show RP 55 _ 5 [(0, .int b), (1, .int 0), (2, .int 255)] [] _
                refine RP_step (pc1 := 7) (L1 := [(0, .int b), (1, .int 0), (2, .int 255)]) (S1 := [.int 255, .int b]) 2 0 (fun n => rfl) ?_
                refine RP_cond (decide (255 < b)) (fun n => rfl) (fun h => absurd (of_decide_eq_true h) (xi_nlt (x := 255) (y := b) (show b.toInt ≤ 255 by omega))) (fun _ => ?_)
                show RP 55 _ 10 [(0, .int b), (1, .int 0), (2, .int 255)] [] _
                refine RP_done 5 (fun n => rfl) ?_
                refine Or.inr ⟨1, rfl, ?_⟩
                show RP 59 _ 79 [(0, .int 0), (1, .int a), (2, .int b), (3, .int 0), (4, .int 0)] [.int 1] _
                refine RP_done 10 (fun n => rfl) ?_
                exact ⟨rfl, rfl⟩
  · skip
    show RP 25 _ 0 [(0, .int 1), (1, .int a), (2, .int b), (3, .int c), (4, .int d)] [] _
    refine RP_step (pc1 := 99) (L1 := [(0, .int 1), (1, .int a), (2, .int b), (3, .int c), (4, .int d)]) (S1 := [.int c, .int a]) 4 0 (fun n => rfl) ?_
    refine RP_call 24 [.int a, .int c] (fun n => rfl) ?_
    show RP 24 _ 0 [(0, .int a), (1, .int c)] [] _
    refine RP_step (pc1 := 1) (L1 := [(0, .int a), (1, .int c)]) (S1 := [.int a]) 1 0 (fun n => rfl) ?_
    refine RP_call 23 [.int a] (fun n => rfl) ?_
    show RP 23 _ 0 [(0, .int a)] [] _
    refine RP_step (pc1 := 1) (L1 := [(0, .int a)]) (S1 := [.int a]) 1 0 (fun n => rfl) ?_
    refine RP_cond (decide (a < 0)) (fun n => rfl) (fun hh => ?_) (fun hh => ?_)
    · have h21 := of_decide_eq_true hh
      have h22 : a.toInt < 0 := xj_lt h21
      show RP 23 _ 14 [(0, .int a)] [] _
      refine RP_done 4 (fun n => rfl) ?_
      refine Or.inr ⟨0, rfl, ?_⟩
      show RP 24 _ 4 [(0, .int a), (1, .int c)] [.int 0] _
      refine RP_done 5 (fun n => rfl) ?_
      refine Or.inr ⟨0, rfl, ?_⟩
      show RP 25 _ 102 [(0, .int 1), (1, .int a), (2, .int b), (3, .int c), (4, .int d)] [.int 0] _
      refine RP_done 5 (fun n => rfl) ?_
      refine ⟨Or.inl rfl, rfl, ?_⟩
      show RP 59 _ 0 [(0, .int 1), (1, .int a), (2, .int b), (3, .int c), (4, .int d)] [] _
      refine RP_step (pc1 := 99) (L1 := [(0, .int 1), (1, .int a), (2, .int b), (3, .int c), (4, .int d)]) (S1 := [.int c, .int a]) 4 0 (fun n => rfl) ?_
      refine RP_call 58 [.int a, .int c] (fun n => rfl) ?_
      show RP 58 _ 0 [(0, .int a), (1, .int c)] [] _
      refine RP_step (pc1 := 1) (L1 := [(0, .int a), (1, .int c)]) (S1 := [.int a]) 1 0 (fun n => rfl) ?_
      refine RP_call 57 [.int a] (fun n => rfl) ?_
      show RP 57 _ 0 [(0, .int a)] [] _
      refine RP_step (pc1 := 4) (L1 := [(0, .int a)]) (S1 := [.int 15, .int 0, .int a]) 3 0 (fun n => rfl) ?_
      refine RP_call 55 [.int a, .int 0, .int 15] (fun n => rfl) ?_
      show RP 55 _ 0 [(0, .int a), (1, .int 0), (2, .int 15)] [] _
      refine RP_step (pc1 := 2) (L1 := [(0, .int a), (1, .int 0), (2, .int 15)]) (S1 := [.int 0, .int a]) 2 0 (fun n => rfl) ?_
      refine RP_cond (decide (a < 0)) (fun n => rfl) (fun _ => ?_) (fun h => absurd (xi_lt (x := a) (y := 0) (show a.toInt < 0 by omega)) (of_decide_eq_false h))
      show RP 55 _ 14 [(0, .int a), (1, .int 0), (2, .int 15)] [] _
      refine RP_done 4 (fun n => rfl) ?_
      refine Or.inr ⟨0, rfl, ?_⟩
      show RP 57 _ 7 [(0, .int a)] [.int 0] _
      refine RP_done 3 (fun n => rfl) ?_
      refine Or.inr ⟨0, rfl, ?_⟩
      show RP 58 _ 4 [(0, .int a), (1, .int c)] [.int 0] _
      refine RP_done 5 (fun n => rfl) ?_
      refine Or.inr ⟨0, rfl, ?_⟩
      show RP 59 _ 102 [(0, .int 1), (1, .int a), (2, .int b), (3, .int c), (4, .int d)] [.int 0] _
      refine RP_done 5 (fun n => rfl) ?_
      exact ⟨rfl, rfl⟩
    · have h23 := of_decide_eq_false hh
      have h24 : 0 ≤ a.toInt := xj_nlt h23
      show RP 23 _ 4 [(0, .int a)] [] _
      refine RP_step (pc1 := 7) (L1 := [(0, .int a)]) (S1 := [.int 16, .int a]) 2 0 (fun n => rfl) ?_
      refine RP_cond (decide (16 ≤ a)) (fun n => rfl) (fun hh => ?_) (fun hh => ?_)
      · have h25 := of_decide_eq_true hh
        have h26 : 16 ≤ a.toInt := xj_le h25
        show RP 23 _ 14 [(0, .int a)] [] _
        refine RP_done 4 (fun n => rfl) ?_
        refine Or.inr ⟨0, rfl, ?_⟩
        show RP 24 _ 4 [(0, .int a), (1, .int c)] [.int 0] _
        refine RP_done 5 (fun n => rfl) ?_
        refine Or.inr ⟨0, rfl, ?_⟩
        show RP 25 _ 102 [(0, .int 1), (1, .int a), (2, .int b), (3, .int c), (4, .int d)] [.int 0] _
        refine RP_done 5 (fun n => rfl) ?_
        refine ⟨Or.inl rfl, rfl, ?_⟩
        show RP 59 _ 0 [(0, .int 1), (1, .int a), (2, .int b), (3, .int c), (4, .int d)] [] _
        refine RP_step (pc1 := 99) (L1 := [(0, .int 1), (1, .int a), (2, .int b), (3, .int c), (4, .int d)]) (S1 := [.int c, .int a]) 4 0 (fun n => rfl) ?_
        refine RP_call 58 [.int a, .int c] (fun n => rfl) ?_
        show RP 58 _ 0 [(0, .int a), (1, .int c)] [] _
        refine RP_step (pc1 := 1) (L1 := [(0, .int a), (1, .int c)]) (S1 := [.int a]) 1 0 (fun n => rfl) ?_
        refine RP_call 57 [.int a] (fun n => rfl) ?_
        show RP 57 _ 0 [(0, .int a)] [] _
        refine RP_step (pc1 := 4) (L1 := [(0, .int a)]) (S1 := [.int 15, .int 0, .int a]) 3 0 (fun n => rfl) ?_
        refine RP_call 55 [.int a, .int 0, .int 15] (fun n => rfl) ?_
        show RP 55 _ 0 [(0, .int a), (1, .int 0), (2, .int 15)] [] _
        refine RP_step (pc1 := 2) (L1 := [(0, .int a), (1, .int 0), (2, .int 15)]) (S1 := [.int 0, .int a]) 2 0 (fun n => rfl) ?_
        refine RP_cond (decide (a < 0)) (fun n => rfl) (fun h => absurd (of_decide_eq_true h) (xi_nlt (x := a) (y := 0) (show 0 ≤ a.toInt by omega))) (fun _ => ?_)
        show RP 55 _ 5 [(0, .int a), (1, .int 0), (2, .int 15)] [] _
        refine RP_step (pc1 := 7) (L1 := [(0, .int a), (1, .int 0), (2, .int 15)]) (S1 := [.int 15, .int a]) 2 0 (fun n => rfl) ?_
        refine RP_cond (decide (15 < a)) (fun n => rfl) (fun _ => ?_) (fun h => absurd (xi_lt (x := 15) (y := a) (show 15 < a.toInt by omega)) (of_decide_eq_false h))
        show RP 55 _ 14 [(0, .int a), (1, .int 0), (2, .int 15)] [] _
        refine RP_done 4 (fun n => rfl) ?_
        refine Or.inr ⟨0, rfl, ?_⟩
        show RP 57 _ 7 [(0, .int a)] [.int 0] _
        refine RP_done 3 (fun n => rfl) ?_
        refine Or.inr ⟨0, rfl, ?_⟩
        show RP 58 _ 4 [(0, .int a), (1, .int c)] [.int 0] _
        refine RP_done 5 (fun n => rfl) ?_
        refine Or.inr ⟨0, rfl, ?_⟩
        show RP 59 _ 102 [(0, .int 1), (1, .int a), (2, .int b), (3, .int c), (4, .int d)] [.int 0] _
        refine RP_done 5 (fun n => rfl) ?_
        exact ⟨rfl, rfl⟩
      · have h27 := of_decide_eq_false hh
        have h28 : a.toInt < 16 := xj_nle h27
        show RP 23 _ 10 [(0, .int a)] [] _
        refine RP_done 5 (fun n => rfl) ?_
        refine Or.inr ⟨1, rfl, ?_⟩
        show RP 24 _ 4 [(0, .int a), (1, .int c)] [.int 1] _
        refine RP_step (pc1 := 9) (L1 := [(0, .int a), (1, .int c)]) (S1 := [.int 1, .int c]) 3 0 (fun n => rfl) ?_
        refine RP_cond (decide (c < 1)) (fun n => rfl) (fun hh => ?_) (fun hh => ?_)
        · have h29 := of_decide_eq_true hh
          have h30 : c.toInt < 1 := xj_lt h29
          show RP 24 _ 30 [(0, .int a), (1, .int c)] [] _
          refine RP_done 4 (fun n => rfl) ?_
          refine Or.inr ⟨0, rfl, ?_⟩
          show RP 25 _ 102 [(0, .int 1), (1, .int a), (2, .int b), (3, .int c), (4, .int d)] [.int 0] _
          refine RP_done 5 (fun n => rfl) ?_
          refine ⟨Or.inl rfl, rfl, ?_⟩
          show RP 59 _ 0 [(0, .int 1), (1, .int a), (2, .int b), (3, .int c), (4, .int d)] [] _
          refine RP_step (pc1 := 99) (L1 := [(0, .int 1), (1, .int a), (2, .int b), (3, .int c), (4, .int d)]) (S1 := [.int c, .int a]) 4 0 (fun n => rfl) ?_
          refine RP_call 58 [.int a, .int c] (fun n => rfl) ?_
          show RP 58 _ 0 [(0, .int a), (1, .int c)] [] _
          refine RP_step (pc1 := 1) (L1 := [(0, .int a), (1, .int c)]) (S1 := [.int a]) 1 0 (fun n => rfl) ?_
          refine RP_call 57 [.int a] (fun n => rfl) ?_
          show RP 57 _ 0 [(0, .int a)] [] _
          refine RP_step (pc1 := 4) (L1 := [(0, .int a)]) (S1 := [.int 15, .int 0, .int a]) 3 0 (fun n => rfl) ?_
          refine RP_call 55 [.int a, .int 0, .int 15] (fun n => rfl) ?_
          show RP 55 _ 0 [(0, .int a), (1, .int 0), (2, .int 15)] [] _
          refine RP_step (pc1 := 2) (L1 := [(0, .int a), (1, .int 0), (2, .int 15)]) (S1 := [.int 0, .int a]) 2 0 (fun n => rfl) ?_
          refine RP_cond (decide (a < 0)) (fun n => rfl) (fun h => absurd (of_decide_eq_true h) (xi_nlt (x := a) (y := 0) (show 0 ≤ a.toInt by omega))) (fun _ => ?_)
          show RP 55 _ 5 [(0, .int a), (1, .int 0), (2, .int 15)] [] _
          refine RP_step (pc1 := 7) (L1 := [(0, .int a), (1, .int 0), (2, .int 15)]) (S1 := [.int 15, .int a]) 2 0 (fun n => rfl) ?_
          refine RP_cond (decide (15 < a)) (fun n => rfl) (fun h => absurd (of_decide_eq_true h) (xi_nlt (x := 15) (y := a) (show a.toInt ≤ 15 by omega))) (fun _ => ?_)
          show RP 55 _ 10 [(0, .int a), (1, .int 0), (2, .int 15)] [] _
          refine RP_done 5 (fun n => rfl) ?_
          refine Or.inr ⟨1, rfl, ?_⟩
          show RP 57 _ 7 [(0, .int a)] [.int 1] _
          refine RP_done 3 (fun n => rfl) ?_
          refine Or.inr ⟨1, rfl, ?_⟩
          show RP 58 _ 4 [(0, .int a), (1, .int c)] [.int 1] _
          refine RP_step (pc1 := 11) (L1 := [(0, .int a), (1, .int c)]) (S1 := [.int 8, .int 1, .int c]) 4 0 (fun n => rfl) ?_
          refine RP_call 55 [.int c, .int 1, .int 8] (fun n => rfl) ?_
          show RP 55 _ 0 [(0, .int c), (1, .int 1), (2, .int 8)] [] _
          refine RP_step (pc1 := 2) (L1 := [(0, .int c), (1, .int 1), (2, .int 8)]) (S1 := [.int 1, .int c]) 2 0 (fun n => rfl) ?_
          refine RP_cond (decide (c < 1)) (fun n => rfl) (fun _ => ?_) (fun h => absurd (xi_lt (x := c) (y := 1) (show c.toInt < 1 by omega)) (of_decide_eq_false h))
          show RP 55 _ 14 [(0, .int c), (1, .int 1), (2, .int 8)] [] _
          refine RP_done 4 (fun n => rfl) ?_
          refine Or.inr ⟨0, rfl, ?_⟩
          show RP 58 _ 14 [(0, .int a), (1, .int c)] [.int 0] _
          refine RP_done 5 (fun n => rfl) ?_
          refine Or.inr ⟨0, rfl, ?_⟩
          show RP 59 _ 102 [(0, .int 1), (1, .int a), (2, .int b), (3, .int c), (4, .int d)] [.int 0] _
          refine RP_done 5 (fun n => rfl) ?_
          exact ⟨rfl, rfl⟩
        · have h31 := of_decide_eq_false hh
          have h32 : 1 ≤ c.toInt := xj_nlt h31
          show RP 24 _ 12 [(0, .int a), (1, .int c)] [] _
          refine RP_step (pc1 := 15) (L1 := [(0, .int a), (1, .int c)]) (S1 := [.int 8, .int c]) 2 0 (fun n => rfl) ?_
          refine RP_cond (decide (8 < c)) (fun n => rfl) (fun hh => ?_) (fun hh => ?_)
          · have h33 := of_decide_eq_true hh
            have h34 : 8 < c.toInt := xj_lt h33
            show RP 24 _ 30 [(0, .int a), (1, .int c)] [] _
            refine RP_done 4 (fun n => rfl) ?_
            refine Or.inr ⟨0, rfl, ?_⟩
            show RP 25 _ 102 [(0, .int 1), (1, .int a), (2, .int b), (3, .int c), (4, .int d)] [.int 0] _
            refine RP_done 5 (fun n => rfl) ?_
            refine ⟨Or.inl rfl, rfl, ?_⟩
            show RP 59 _ 0 [(0, .int 1), (1, .int a), (2, .int b), (3, .int c), (4, .int d)] [] _
            refine RP_step (pc1 := 99) (L1 := [(0, .int 1), (1, .int a), (2, .int b), (3, .int c), (4, .int d)]) (S1 := [.int c, .int a]) 4 0 (fun n => rfl) ?_
            refine RP_call 58 [.int a, .int c] (fun n => rfl) ?_
            show RP 58 _ 0 [(0, .int a), (1, .int c)] [] _
            refine RP_step (pc1 := 1) (L1 := [(0, .int a), (1, .int c)]) (S1 := [.int a]) 1 0 (fun n => rfl) ?_
            refine RP_call 57 [.int a] (fun n => rfl) ?_
            show RP 57 _ 0 [(0, .int a)] [] _
            refine RP_step (pc1 := 4) (L1 := [(0, .int a)]) (S1 := [.int 15, .int 0, .int a]) 3 0 (fun n => rfl) ?_
            refine RP_call 55 [.int a, .int 0, .int 15] (fun n => rfl) ?_
            show RP 55 _ 0 [(0, .int a), (1, .int 0), (2, .int 15)] [] _
            refine RP_step (pc1 := 2) (L1 := [(0, .int a), (1, .int 0), (2, .int 15)]) (S1 := [.int 0, .int a]) 2 0 (fun n => rfl) ?_
            refine RP_cond (decide (a < 0)) (fun n => rfl) (fun h => absurd (of_decide_eq_true h) (xi_nlt (x := a) (y := 0) (show 0 ≤ a.toInt by omega))) (fun _ => ?_)
            show RP 55 _ 5 [(0, .int a), (1, .int 0), (2, .int 15)] [] _
            refine RP_step (pc1 := 7) (L1 := [(0, .int a), (1, .int 0), (2, .int 15)]) (S1 := [.int 15, .int a]) 2 0 (fun n => rfl) ?_
            refine RP_cond (decide (15 < a)) (fun n => rfl) (fun h => absurd (of_decide_eq_true h) (xi_nlt (x := 15) (y := a) (show a.toInt ≤ 15 by omega))) (fun _ => ?_)
            show RP 55 _ 10 [(0, .int a), (1, .int 0), (2, .int 15)] [] _
            refine RP_done 5 (fun n => rfl) ?_
            refine Or.inr ⟨1, rfl, ?_⟩
            show RP 57 _ 7 [(0, .int a)] [.int 1] _
            refine RP_done 3 (fun n => rfl) ?_
            refine Or.inr ⟨1, rfl, ?_⟩
            show RP 58 _ 4 [(0, .int a), (1, .int c)] [.int 1] _
            refine RP_step (pc1 := 11) (L1 := [(0, .int a), (1, .int c)]) (S1 := [.int 8, .int 1, .int c]) 4 0 (fun n => rfl) ?_
            refine RP_call 55 [.int c, .int 1, .int 8] (fun n => rfl) ?_
            show RP 55 _ 0 [(0, .int c), (1, .int 1), (2, .int 8)] [] _
            refine RP_step (pc1 := 2) (L1 := [(0, .int c), (1, .int 1), (2, .int 8)]) (S1 := [.int 1, .int c]) 2 0 (fun n => rfl) ?_
            refine RP_cond (decide (c < 1)) (fun n => rfl) (fun h => absurd (of_decide_eq_true h) (xi_nlt (x := c) (y := 1) (show 1 ≤ c.toInt by omega))) (fun _ => ?_)
            show RP 55 _ 5 [(0, .int c), (1, .int 1), (2, .int 8)] [] _
            refine RP_step (pc1 := 7) (L1 := [(0, .int c), (1, .int 1), (2, .int 8)]) (S1 := [.int 8, .int c]) 2 0 (fun n => rfl) ?_
            refine RP_cond (decide (8 < c)) (fun n => rfl) (fun _ => ?_) (fun h => absurd (xi_lt (x := 8) (y := c) (show 8 < c.toInt by omega)) (of_decide_eq_false h))
            show RP 55 _ 14 [(0, .int c), (1, .int 1), (2, .int 8)] [] _
            refine RP_done 4 (fun n => rfl) ?_
            refine Or.inr ⟨0, rfl, ?_⟩
            show RP 58 _ 14 [(0, .int a), (1, .int c)] [.int 0] _
            refine RP_done 5 (fun n => rfl) ?_
            refine Or.inr ⟨0, rfl, ?_⟩
            show RP 59 _ 102 [(0, .int 1), (1, .int a), (2, .int b), (3, .int c), (4, .int d)] [.int 0] _
            refine RP_done 5 (fun n => rfl) ?_
            exact ⟨rfl, rfl⟩
          · have h35 := of_decide_eq_false hh
            have h36 : c.toInt ≤ 8 := xj_nlt h35
            show RP 24 _ 18 [(0, .int a), (1, .int c)] [] _
            refine RP_step (pc1 := 20) (L1 := [(0, .int a), (1, .int c)]) (S1 := [.int c, .int a]) 2 0 (fun n => rfl) ?_
            refine RP_bin (fun x y => x + y) (fun n => rfl) ?_
            show RP 24 _ 21 [(0, .int a), (1, .int c)] [.int (a + c)] _
            refine RP_step (pc1 := 23) (L1 := [(0, .int a), (1, .int c)]) (S1 := [.int 16, .int (a + c)]) 1 0 (fun n => rfl) ?_
            refine RP_cond (decide (16 < (a + c))) (fun n => rfl) (fun hh => ?_) (fun hh => ?_)
            · have h37 := of_decide_eq_true hh
              have h38 : 16 < (a + c).toInt := xj_lt h37
              show RP 24 _ 30 [(0, .int a), (1, .int c)] [] _
              refine RP_done 4 (fun n => rfl) ?_
              refine Or.inr ⟨0, rfl, ?_⟩
              show RP 25 _ 102 [(0, .int 1), (1, .int a), (2, .int b), (3, .int c), (4, .int d)] [.int 0] _
              refine RP_done 5 (fun n => rfl) ?_
              refine ⟨Or.inl rfl, rfl, ?_⟩
              show RP 59 _ 0 [(0, .int 1), (1, .int a), (2, .int b), (3, .int c), (4, .int d)] [] _
              refine RP_step (pc1 := 99) (L1 := [(0, .int 1), (1, .int a), (2, .int b), (3, .int c), (4, .int d)]) (S1 := [.int c, .int a]) 4 0 (fun n => rfl) ?_
              refine RP_call 58 [.int a, .int c] (fun n => rfl) ?_
              show RP 58 _ 0 [(0, .int a), (1, .int c)] [] _
              refine RP_step (pc1 := 1) (L1 := [(0, .int a), (1, .int c)]) (S1 := [.int a]) 1 0 (fun n => rfl) ?_
              refine RP_call 57 [.int a] (fun n => rfl) ?_
              show RP 57 _ 0 [(0, .int a)] [] _
              refine RP_step (pc1 := 4) (L1 := [(0, .int a)]) (S1 := [.int 15, .int 0, .int a]) 3 0 (fun n => rfl) ?_
              refine RP_call 55 [.int a, .int 0, .int 15] (fun n => rfl) ?_
              show RP 55 _ 0 [(0, .int a), (1, .int 0), (2, .int 15)] [] _
              refine RP_step (pc1 := 2) (L1 := [(0, .int a), (1, .int 0), (2, .int 15)]) (S1 := [.int 0, .int a]) 2 0 (fun n => rfl) ?_
              refine RP_cond (decide (a < 0)) (fun n => rfl) (fun h => absurd (of_decide_eq_true h) (xi_nlt (x := a) (y := 0) (show 0 ≤ a.toInt by omega))) (fun _ => ?_)
              show RP 55 _ 5 [(0, .int a), (1, .int 0), (2, .int 15)] [] _
              refine RP_step (pc1 := 7) (L1 := [(0, .int a), (1, .int 0), (2, .int 15)]) (S1 := [.int 15, .int a]) 2 0 (fun n => rfl) ?_
              refine RP_cond (decide (15 < a)) (fun n => rfl) (fun h => absurd (of_decide_eq_true h) (xi_nlt (x := 15) (y := a) (show a.toInt ≤ 15 by omega))) (fun _ => ?_)
              show RP 55 _ 10 [(0, .int a), (1, .int 0), (2, .int 15)] [] _
              refine RP_done 5 (fun n => rfl) ?_
              refine Or.inr ⟨1, rfl, ?_⟩
              show RP 57 _ 7 [(0, .int a)] [.int 1] _
              refine RP_done 3 (fun n => rfl) ?_
              refine Or.inr ⟨1, rfl, ?_⟩
              show RP 58 _ 4 [(0, .int a), (1, .int c)] [.int 1] _
              refine RP_step (pc1 := 11) (L1 := [(0, .int a), (1, .int c)]) (S1 := [.int 8, .int 1, .int c]) 4 0 (fun n => rfl) ?_
              refine RP_call 55 [.int c, .int 1, .int 8] (fun n => rfl) ?_
              show RP 55 _ 0 [(0, .int c), (1, .int 1), (2, .int 8)] [] _
              refine RP_step (pc1 := 2) (L1 := [(0, .int c), (1, .int 1), (2, .int 8)]) (S1 := [.int 1, .int c]) 2 0 (fun n => rfl) ?_
              refine RP_cond (decide (c < 1)) (fun n => rfl) (fun h => absurd (of_decide_eq_true h) (xi_nlt (x := c) (y := 1) (show 1 ≤ c.toInt by omega))) (fun _ => ?_)
              show RP 55 _ 5 [(0, .int c), (1, .int 1), (2, .int 8)] [] _
              refine RP_step (pc1 := 7) (L1 := [(0, .int c), (1, .int 1), (2, .int 8)]) (S1 := [.int 8, .int c]) 2 0 (fun n => rfl) ?_
              refine RP_cond (decide (8 < c)) (fun n => rfl) (fun h => absurd (of_decide_eq_true h) (xi_nlt (x := 8) (y := c) (show c.toInt ≤ 8 by omega))) (fun _ => ?_)
              show RP 55 _ 10 [(0, .int c), (1, .int 1), (2, .int 8)] [] _
              refine RP_done 5 (fun n => rfl) ?_
              refine Or.inr ⟨1, rfl, ?_⟩
              show RP 58 _ 14 [(0, .int a), (1, .int c)] [.int 1] _
              refine RP_step (pc1 := 19) (L1 := [(0, .int a), (1, .int c)]) (S1 := [.int c, .int a]) 3 0 (fun n => rfl) ?_
              refine RP_bin (fun x y => x + y) (fun n => rfl) ?_
              show RP 58 _ 20 [(0, .int a), (1, .int c)] [.int (a + c)] _
              refine RP_step (pc1 := 22) (L1 := [(0, .int a), (1, .int c)]) (S1 := [.int 16, .int (a + c)]) 1 0 (fun n => rfl) ?_
              refine RP_cond (decide (16 < (a + c))) (fun n => rfl) (fun _ => ?_) (fun h => absurd (xi_lt (x := 16) (y := (a + c)) (show 16 < (a + c).toInt by omega)) (of_decide_eq_false h))
              show RP 58 _ 29 [(0, .int a), (1, .int c)] [] _
              refine RP_done 4 (fun n => rfl) ?_
              refine Or.inr ⟨0, rfl, ?_⟩
              show RP 59 _ 102 [(0, .int 1), (1, .int a), (2, .int b), (3, .int c), (4, .int d)] [.int 0] _
              refine RP_done 5 (fun n => rfl) ?_
              exact ⟨rfl, rfl⟩
            · have h39 := of_decide_eq_false hh
              have h40 : (a + c).toInt ≤ 16 := xj_nlt h39
              show RP 24 _ 26 [(0, .int a), (1, .int c)] [] _
              refine RP_done 5 (fun n => rfl) ?_
              refine Or.inr ⟨1, rfl, ?_⟩
              show RP 25 _ 102 [(0, .int 1), (1, .int a), (2, .int b), (3, .int c), (4, .int d)] [.int 1] _
              refine RP_step (pc1 := 107) (L1 := [(0, .int 1), (1, .int a), (2, .int b), (3, .int c), (4, .int d)]) (S1 := [.int c, .int b]) 3 0 (fun n => rfl) ?_
              refine RP_call 24 [.int b, .int c] (fun n => rfl) ?_
              show RP 24 _ 0 [(0, .int b), (1, .int c)] [] _
              refine RP_step (pc1 := 1) (L1 := [(0, .int b), (1, .int c)]) (S1 := [.int b]) 1 0 (fun n => rfl) ?_
              refine RP_call 23 [.int b] (fun n => rfl) ?_
              show RP 23 _ 0 [(0, .int b)] [] _
              refine RP_step (pc1 := 1) (L1 := [(0, .int b)]) (S1 := [.int b]) 1 0 (fun n => rfl) ?_
              refine RP_cond (decide (b < 0)) (fun n => rfl) (fun hh => ?_) (fun hh => ?_)
              · have h41 := of_decide_eq_true hh
                have h42 : b.toInt < 0 := xj_lt h41
                show RP 23 _ 14 [(0, .int b)] [] _
                refine RP_done 4 (fun n => rfl) ?_
                refine Or.inr ⟨0, rfl, ?_⟩
                show RP 24 _ 4 [(0, .int b), (1, .int c)] [.int 0] _
                refine RP_done 5 (fun n => rfl) ?_
                refine Or.inr ⟨0, rfl, ?_⟩
                show RP 25 _ 110 [(0, .int 1), (1, .int a), (2, .int b), (3, .int c), (4, .int d)] [.int 0] _
                refine RP_done 5 (fun n => rfl) ?_
                refine ⟨Or.inl rfl, rfl, ?_⟩
                show RP 59 _ 0 [(0, .int 1), (1, .int a), (2, .int b), (3, .int c), (4, .int d)] [] _
                refine RP_step (pc1 := 99) (L1 := [(0, .int 1), (1, .int a), (2, .int b), (3, .int c), (4, .int d)]) (S1 := [.int c, .int a]) 4 0 (fun n => rfl) ?_
                refine RP_call 58 [.int a, .int c] (fun n => rfl) ?_
                show RP 58 _ 0 [(0, .int a), (1, .int c)] [] _
                refine RP_step (pc1 := 1) (L1 := [(0, .int a), (1, .int c)]) (S1 := [.int a]) 1 0 (fun n => rfl) ?_
                refine RP_call 57 [.int a] (fun n => rfl) ?_
                show RP 57 _ 0 [(0, .int a)] [] _
                refine RP_step (pc1 := 4) (L1 := [(0, .int a)]) (S1 := [.int 15, .int 0, .int a]) 3 0 (fun n => rfl) ?_
                refine RP_call 55 [.int a, .int 0, .int 15] (fun n => rfl) ?_
                show RP 55 _ 0 [(0, .int a), (1, .int 0), (2, .int 15)] [] _
                refine RP_step (pc1 := 2) (L1 := [(0, .int a), (1, .int 0), (2, .int 15)]) (S1 := [.int 0, .int a]) 2 0 (fun n => rfl) ?_
                refine RP_cond (decide (a < 0)) (fun n => rfl) (fun h => absurd (of_decide_eq_true h) (xi_nlt (x := a) (y := 0) (show 0 ≤ a.toInt by omega))) (fun _ => ?_)
                show RP 55 _ 5 [(0, .int a), (1, .int 0), (2, .int 15)] [] _
                refine RP_step (pc1 := 7) (L1 := [(0, .int a), (1, .int 0), (2, .int 15)]) (S1 := [.int 15, .int a]) 2 0 (fun n => rfl) ?_
                refine RP_cond (decide (15 < a)) (fun n => rfl) (fun h => absurd (of_decide_eq_true h) (xi_nlt (x := 15) (y := a) (show a.toInt ≤ 15 by omega))) (fun _ => ?_)
                show RP 55 _ 10 [(0, .int a), (1, .int 0), (2, .int 15)] [] _
                refine RP_done 5 (fun n => rfl) ?_
                refine Or.inr ⟨1, rfl, ?_⟩
                show RP 57 _ 7 [(0, .int a)] [.int 1] _
                refine RP_done 3 (fun n => rfl) ?_
                refine Or.inr ⟨1, rfl, ?_⟩
                show RP 58 _ 4 [(0, .int a), (1, .int c)] [.int 1] _
                refine RP_step (pc1 := 11) (L1 := [(0, .int a), (1, .int c)]) (S1 := [.int 8, .int 1, .int c]) 4 0 (fun n => rfl) ?_
                refine RP_call 55 [.int c, .int 1, .int 8] (fun n => rfl) ?_
                show RP 55 _ 0 [(0, .int c), (1, .int 1), (2, .int 8)] [] _
                refine RP_step (pc1 := 2) (L1 := [(0, .int c), (1, .int 1), (2, .int 8)]) (S1 := [.int 1, .int c]) 2 0 (fun n => rfl) ?_
                refine RP_cond (decide (c < 1)) (fun n => rfl) (fun h => absurd (of_decide_eq_true h) (xi_nlt (x := c) (y := 1) (show 1 ≤ c.toInt by omega))) (fun _ => ?_)
                show RP 55 _ 5 [(0, .int c), (1, .int 1), (2, .int 8)] [] _
                refine RP_step (pc1 := 7) (L1 := [(0, .int c), (1, .int 1), (2, .int 8)]) (S1 := [.int 8, .int c]) 2 0 (fun n => rfl) ?_
                refine RP_cond (decide (8 < c)) (fun n => rfl) (fun h => absurd (of_decide_eq_true h) (xi_nlt (x := 8) (y := c) (show c.toInt ≤ 8 by omega))) (fun _ => ?_)
                show RP 55 _ 10 [(0, .int c), (1, .int 1), (2, .int 8)] [] _
                refine RP_done 5 (fun n => rfl) ?_
                refine Or.inr ⟨1, rfl, ?_⟩
                show RP 58 _ 14 [(0, .int a), (1, .int c)] [.int 1] _
                refine RP_step (pc1 := 19) (L1 := [(0, .int a), (1, .int c)]) (S1 := [.int c, .int a]) 3 0 (fun n => rfl) ?_
                refine RP_bin (fun x y => x + y) (fun n => rfl) ?_
                show RP 58 _ 20 [(0, .int a), (1, .int c)] [.int (a + c)] _
                refine RP_step (pc1 := 22) (L1 := [(0, .int a), (1, .int c)]) (S1 := [.int 16, .int (a + c)]) 1 0 (fun n => rfl) ?_
                refine RP_cond (decide (16 < (a + c))) (fun n => rfl) (fun h => absurd (of_decide_eq_true h) (xi_nlt (x := 16) (y := (a + c)) (show (a + c).toInt ≤ 16 by omega))) (fun _ => ?_)
                show RP 58 _ 25 [(0, .int a), (1, .int c)] [] _
                refine RP_done 5 (fun n => rfl) ?_
                refine Or.inr ⟨1, rfl, ?_⟩
                show RP 59 _ 102 [(0, .int 1), (1, .int a), (2, .int b), (3, .int c), (4, .int d)] [.int 1] _
                refine RP_step (pc1 := 107) (L1 := [(0, .int 1), (1, .int a), (2, .int b), (3, .int c), (4, .int d)]) (S1 := [.int c, .int b]) 3 0 (fun n => rfl) ?_
                refine RP_call 58 [.int b, .int c] (fun n => rfl) ?_
                show RP 58 _ 0 [(0, .int b), (1, .int c)] [] _
                refine RP_step (pc1 := 1) (L1 := [(0, .int b), (1, .int c)]) (S1 := [.int b]) 1 0 (fun n => rfl) ?_
                refine RP_call 57 [.int b] (fun n => rfl) ?_
                show RP 57 _ 0 [(0, .int b)] [] _
                refine RP_step (pc1 := 4) (L1 := [(0, .int b)]) (S1 := [.int 15, .int 0, .int b]) 3 0 (fun n => rfl) ?_
                refine RP_call 55 [.int b, .int 0, .int 15] (fun n => rfl) ?_
                show RP 55 _ 0 [(0, .int b), (1, .int 0), (2, .int 15)] [] _
                refine RP_step (pc1 := 2) (L1 := [(0, .int b), (1, .int 0), (2, .int 15)]) (S1 := [.int 0, .int b]) 2 0 (fun n => rfl) ?_
                refine RP_cond (decide (b < 0)) (fun n => rfl) (fun _ => ?_) (fun h => absurd (xi_lt (x := b) (y := 0) (show b.toInt < 0 by omega)) (of_decide_eq_false h))
                show RP 55 _ 14 [(0, .int b), (1, .int 0), (2, .int 15)] [] _
                refine RP_done 4 (fun n => rfl) ?_
                refine Or.inr ⟨0, rfl, ?_⟩
                show RP 57 _ 7 [(0, .int b)] [.int 0] _
                refine RP_done 3 (fun n => rfl) ?_
                refine Or.inr ⟨0, rfl, ?_⟩
                show RP 58 _ 4 [(0, .int b), (1, .int c)] [.int 0] _
                refine RP_done 5 (fun n => rfl) ?_
                refine Or.inr ⟨0, rfl, ?_⟩
                show RP 59 _ 110 [(0, .int 1), (1, .int a), (2, .int b), (3, .int c), (4, .int d)] [.int 0] _
                refine RP_done 5 (fun n => rfl) ?_
                exact ⟨rfl, rfl⟩
              · have h43 := of_decide_eq_false hh
                have h44 : 0 ≤ b.toInt := xj_nlt h43
                show RP 23 _ 4 [(0, .int b)] [] _
                refine RP_step (pc1 := 7) (L1 := [(0, .int b)]) (S1 := [.int 16, .int b]) 2 0 (fun n => rfl) ?_
                refine RP_cond (decide (16 ≤ b)) (fun n => rfl) (fun hh => ?_) (fun hh => ?_)
                · have h45 := of_decide_eq_true hh
                  have h46 : 16 ≤ b.toInt := xj_le h45
                  show RP 23 _ 14 [(0, .int b)] [] _
                  refine RP_done 4 (fun n => rfl) ?_
                  refine Or.inr ⟨0, rfl, ?_⟩
                  show RP 24 _ 4 [(0, .int b), (1, .int c)] [.int 0] _
                  refine RP_done 5 (fun n => rfl) ?_
                  refine Or.inr ⟨0, rfl, ?_⟩
                  show RP 25 _ 110 [(0, .int 1), (1, .int a), (2, .int b), (3, .int c), (4, .int d)] [.int 0] _
                  refine RP_done 5 (fun n => rfl) ?_
                  refine ⟨Or.inl rfl, rfl, ?_⟩
                  show RP 59 _ 0 [(0, .int 1), (1, .int a), (2, .int b), (3, .int c), (4, .int d)] [] _
                  refine RP_step (pc1 := 99) (L1 := [(0, .int 1), (1, .int a), (2, .int b), (3, .int c), (4, .int d)]) (S1 := [.int c, .int a]) 4 0 (fun n => rfl) ?_
                  refine RP_call 58 [.int a, .int c] (fun n => rfl) ?_
                  show RP 58 _ 0 [(0, .int a), (1, .int c)] [] _
                  refine RP_step (pc1 := 1) (L1 := [(0, .int a), (1, .int c)]) (S1 := [.int a]) 1 0 (fun n => rfl) ?_
                  refine RP_call 57 [.int a] (fun n => rfl) ?_
                  show RP 57 _ 0 [(0, .int a)] [] _
                  refine RP_step (pc1 := 4) (L1 := [(0, .int a)]) (S1 := [.int 15, .int 0, .int a]) 3 0 (fun n => rfl) ?_
                  refine RP_call 55 [.int a, .int 0, .int 15] (fun n => rfl) ?_
                  show RP 55 _ 0 [(0, .int a), (1, .int 0), (2, .int 15)] [] _
                  refine RP_step (pc1 := 2) (L1 := [(0, .int a), (1, .int 0), (2, .int 15)]) (S1 := [.int 0, .int a]) 2 0 (fun n => rfl) ?_
                  refine RP_cond (decide (a < 0)) (fun n => rfl) (fun h => absurd (of_decide_eq_true h) (xi_nlt (x := a) (y := 0) (show 0 ≤ a.toInt by omega))) (fun _ => ?_)
                  show RP 55 _ 5 [(0, .int a), (1, .int 0), (2, .int 15)] [] _
                  refine RP_step (pc1 := 7) (L1 := [(0, .int a), (1, .int 0), (2, .int 15)]) (S1 := [.int 15, .int a]) 2 0 (fun n => rfl) ?_
                  refine RP_cond (decide (15 < a)) (fun n => rfl) (fun h => absurd (of_decide_eq_true h) (xi_nlt (x := 15) (y := a) (show a.toInt ≤ 15 by omega))) (fun _ => ?_)
                  show RP 55 _ 10 [(0, .int a), (1, .int 0), (2, .int 15)] [] _
                  refine RP_done 5 (fun n => rfl) ?_
                  refine Or.inr ⟨1, rfl, ?_⟩
                  show RP 57 _ 7 [(0, .int a)] [.int 1] _
                  refine RP_done 3 (fun n => rfl) ?_
                  refine Or.inr ⟨1, rfl, ?_⟩
                  show RP 58 _ 4 [(0, .int a), (1, .int c)] [.int 1] _
                  refine RP_step (pc1 := 11) (L1 := [(0, .int a), (1, .int c)]) (S1 := [.int 8, .int 1, .int c]) 4 0 (fun n => rfl) ?_
                  refine RP_call 55 [.int c, .int 1, .int 8] (fun n => rfl) ?_
                  show RP 55 _ 0 [(0, .int c), (1, .int 1), (2, .int 8)] [] _
                  refine RP_step (pc1 := 2) (L1 := [(0, .int c), (1, .int 1), (2, .int 8)]) (S1 := [.int 1, .int c]) 2 0 (fun n => rfl) ?_
                  refine RP_cond (decide (c < 1)) (fun n => rfl) (fun h => absurd (of_decide_eq_true h) (xi_nlt (x := c) (y := 1) (show 1 ≤ c.toInt by omega))) (fun _ => ?_)
                  show RP 55 _ 5 [(0, .int c), (1, .int 1), (2, .int 8)] [] _
                  refine RP_step (pc1 := 7) (L1 := [(0, .int c), (1, .int 1), (2, .int 8)]) (S1 := [.int 8, .int c]) 2 0 (fun n => rfl) ?_
                  refine RP_cond (decide (8 < c)) (fun n => rfl) (fun h => absurd (of_decide_eq_true h) (xi_nlt (x := 8) (y := c) (show c.toInt ≤ 8 by omega))) (fun _ => ?_)
                  show RP 55 _ 10 [(0, .int c), (1, .int 1), (2, .int 8)] [] _
                  refine RP_done 5 (fun n => rfl) ?_
                  refine Or.inr ⟨1, rfl, ?_⟩
                  show RP 58 _ 14 [(0, .int a), (1, .int c)] [.int 1] _
                  refine RP_step (pc1 := 19) (L1 := [(0, .int a), (1, .int c)]) (S1 := [.int c, .int a]) 3 0 (fun n => rfl) ?_
                  refine RP_bin (fun x y => x + y) (fun n => rfl) ?_
                  show RP 58 _ 20 [(0, .int a), (1, .int c)] [.int (a + c)] _
                  refine RP_step (pc1 := 22) (L1 := [(0, .int a), (1, .int c)]) (S1 := [.int 16, .int (a + c)]) 1 0 (fun n => rfl) ?_
                  refine RP_cond (decide (16 < (a + c))) (fun n => rfl) (fun h => absurd (of_decide_eq_true h) (xi_nlt (x := 16) (y := (a + c)) (show (a + c).toInt ≤ 16 by omega))) (fun _ => ?_)
                  show RP 58 _ 25 [(0, .int a), (1, .int c)] [] _
                  refine RP_done 5 (fun n => rfl) ?_
                  refine Or.inr ⟨1, rfl, ?_⟩
                  show RP 59 _ 102 [(0, .int 1), (1, .int a), (2, .int b), (3, .int c), (4, .int d)] [.int 1] _
                  refine RP_step (pc1 := 107) (L1 := [(0, .int 1), (1, .int a), (2, .int b), (3, .int c), (4, .int d)]) (S1 := [.int c, .int b]) 3 0 (fun n => rfl) ?_
                  refine RP_call 58 [.int b, .int c] (fun n => rfl) ?_
                  show RP 58 _ 0 [(0, .int b), (1, .int c)] [] _
                  refine RP_step (pc1 := 1) (L1 := [(0, .int b), (1, .int c)]) (S1 := [.int b]) 1 0 (fun n => rfl) ?_
                  refine RP_call 57 [.int b] (fun n => rfl) ?_
                  show RP 57 _ 0 [(0, .int b)] [] _
                  refine RP_step (pc1 := 4) (L1 := [(0, .int b)]) (S1 := [.int 15, .int 0, .int b]) 3 0 (fun n => rfl) ?_
                  refine RP_call 55 [.int b, .int 0, .int 15] (fun n => rfl) ?_
                  show RP 55 _ 0 [(0, .int b), (1, .int 0), (2, .int 15)] [] _
                  refine RP_step (pc1 := 2) (L1 := [(0, .int b), (1, .int 0), (2, .int 15)]) (S1 := [.int 0, .int b]) 2 0 (fun n => rfl) ?_
                  refine RP_cond (decide (b < 0)) (fun n => rfl) (fun h => absurd (of_decide_eq_true h) (xi_nlt (x := b) (y := 0) (show 0 ≤ b.toInt by omega))) (fun _ => ?_)
                  show RP 55 _ 5 [(0, .int b), (1, .int 0), (2, .int 15)] [] _
                  refine RP_step (pc1 := 7) (L1 := [(0, .int b), (1, .int 0), (2, .int 15)]) (S1 := [.int 15, .int b]) 2 0 (fun n => rfl) ?_
                  refine RP_cond (decide (15 < b)) (fun n => rfl) (fun _ => ?_) (fun h => absurd (xi_lt (x := 15) (y := b) (show 15 < b.toInt by omega)) (of_decide_eq_false h))
                  show RP 55 _ 14 [(0, .int b), (1, .int 0), (2, .int 15)] [] _
                  refine RP_done 4 (fun n => rfl) ?_
                  refine Or.inr ⟨0, rfl, ?_⟩
                  show RP 57 _ 7 [(0, .int b)] [.int 0] _
                  refine RP_done 3 (fun n => rfl) ?_
                  refine Or.inr ⟨0, rfl, ?_⟩
                  show RP 58 _ 4 [(0, .int b), (1, .int c)] [.int 0] _
                  refine RP_done 5 (fun n => rfl) ?_
                  refine Or.inr ⟨0, rfl, ?_⟩
                  show RP 59 _ 110 [(0, .int 1), (1, .int a), (2, .int b), (3, .int c), (4, .int d)] [.int 0] _
                  refine RP_done 5 (fun n => rfl) ?_
                  exact ⟨rfl, rfl⟩
                · have h47 := of_decide_eq_false hh
                  have h48 : b.toInt < 16 := xj_nle h47
                  show RP 23 _ 10 [(0, .int b)] [] _
                  refine RP_done 5 (fun n => rfl) ?_
                  refine Or.inr ⟨1, rfl, ?_⟩
                  show RP 24 _ 4 [(0, .int b), (1, .int c)] [.int 1] _
                  refine RP_step (pc1 := 9) (L1 := [(0, .int b), (1, .int c)]) (S1 := [.int 1, .int c]) 3 0 (fun n => rfl) ?_
                  refine RP_cond (decide (c < 1)) (fun n => rfl) (fun h => absurd (of_decide_eq_true h) (xi_nlt (x := c) (y := 1) (show 1 ≤ c.toInt by omega))) (fun _ => ?_)
                  show RP 24 _ 12 [(0, .int b), (1, .int c)] [] _
                  refine RP_step (pc1 := 15) (L1 := [(0, .int b), (1, .int c)]) (S1 := [.int 8, .int c]) 2 0 (fun n => rfl) ?_
                  refine RP_cond (decide (8 < c)) (fun n => rfl) (fun h => absurd (of_decide_eq_true h) (xi_nlt (x := 8) (y := c) (show c.toInt ≤ 8 by omega))) (fun _ => ?_)
                  show RP 24 _ 18 [(0, .int b), (1, .int c)] [] _
                  refine RP_step (pc1 := 20) (L1 := [(0, .int b), (1, .int c)]) (S1 := [.int c, .int b]) 2 0 (fun n => rfl) ?_
                  refine RP_bin (fun x y => x + y) (fun n => rfl) ?_
                  show RP 24 _ 21 [(0, .int b), (1, .int c)] [.int (b + c)] _
                  refine RP_step (pc1 := 23) (L1 := [(0, .int b), (1, .int c)]) (S1 := [.int 16, .int (b + c)]) 1 0 (fun n => rfl) ?_
                  refine RP_cond (decide (16 < (b + c))) (fun n => rfl) (fun hh => ?_) (fun hh => ?_)
                  · have h49 := of_decide_eq_true hh
                    have h50 : 16 < (b + c).toInt := xj_lt h49
                    show RP 24 _ 30 [(0, .int b), (1, .int c)] [] _
                    refine RP_done 4 (fun n => rfl) ?_
                    refine Or.inr ⟨0, rfl, ?_⟩
                    show RP 25 _ 110 [(0, .int 1), (1, .int a), (2, .int b), (3, .int c), (4, .int d)] [.int 0] _
                    refine RP_done 5 (fun n => rfl) ?_
                    refine ⟨Or.inl rfl, rfl, ?_⟩
                    show RP 59 _ 0 [(0, .int 1), (1, .int a), (2, .int b), (3, .int c), (4, .int d)] [] _
                    refine RP_step (pc1 := 99) (L1 := [(0, .int 1), (1, .int a), (2, .int b), (3, .int c), (4, .int d)]) (S1 := [.int c, .int a]) 4 0 (fun n => rfl) ?_
                    refine RP_call 58 [.int a, .int c] (fun n => rfl) ?_
                    show RP 58 _ 0 [(0, .int a), (1, .int c)] [] _
                    refine RP_step (pc1 := 1) (L1 := [(0, .int a), (1, .int c)]) (S1 := [.int a]) 1 0 (fun n => rfl) ?_
                    refine RP_call 57 [.int a] (fun n => rfl) ?_
                    show RP 57 _ 0 [(0, .int a)] [] _
                    refine RP_step (pc1 := 4) (L1 := [(0, .int a)]) (S1 := [.int 15, .int 0, .int a]) 3 0 (fun n => rfl) ?_
                    refine RP_call 55 [.int a, .int 0, .int 15] (fun n => rfl) ?_
                    show RP 55 _ 0 [(0, .int a), (1, .int 0), (2, .int 15)] [] _
                    refine RP_step (pc1 := 2) (L1 := [(0, .int a), (1, .int 0), (2, .int 15)]) (S1 := [.int 0, .int a]) 2 0 (fun n => rfl) ?_
                    refine RP_cond (decide (a < 0)) (fun n => rfl) (fun h => absurd (of_decide_eq_true h) (xi_nlt (x := a) (y := 0) (show 0 ≤ a.toInt by omega))) (fun _ => ?_)
                    show RP 55 _ 5 [(0, .int a), (1, .int 0), (2, .int 15)] [] _
                    refine RP_step (pc1 := 7) (L1 := [(0, .int a), (1, .int 0), (2, .int 15)]) (S1 := [.int 15, .int a]) 2 0 (fun n => rfl) ?_
                    refine RP_cond (decide (15 < a)) (fun n => rfl) (fun h => absurd (of_decide_eq_true h) (xi_nlt (x := 15) (y := a) (show a.toInt ≤ 15 by omega))) (fun _ => ?_)
                    show RP 55 _ 10 [(0, .int a), (1, .int 0), (2, .int 15)] [] _
                    refine RP_done 5 (fun n => rfl) ?_
                    refine Or.inr ⟨1, rfl, ?_⟩
                    show RP 57 _ 7 [(0, .int a)] [.int 1] _
                    refine RP_done 3 (fun n => rfl) ?_
                    refine Or.inr ⟨1, rfl, ?_⟩
                    show RP 58 _ 4 [(0, .int a), (1, .int c)] [.int 1] _
                    refine RP_step (pc1 := 11) (L1 := [(0, .int a), (1, .int c)]) (S1 := [.int 8, .int 1, .int c]) 4 0 (fun n => rfl) ?_
                    refine RP_call 55 [.int c, .int 1, .int 8] (fun n => rfl) ?_
                    show RP 55 _ 0 [(0, .int c), (1, .int 1), (2, .int 8)] [] _
                    refine RP_step (pc1 := 2) (L1 := [(0, .int c), (1, .int 1), (2, .int 8)]) (S1 := [.int 1, .int c]) 2 0 (fun n => rfl) ?_
                    refine RP_cond (decide (c < 1)) (fun n => rfl) (fun h => absurd (of_decide_eq_true h) (xi_nlt (x := c) (y := 1) (show 1 ≤ c.toInt by omega))) (fun _ => ?_)
                    show RP 55 _ 5 [(0, .int c), (1, .int 1), (2, .int 8)] [] _
                    refine RP_step (pc1 := 7) (L1 := [(0, .int c), (1, .int 1), (2, .int 8)]) (S1 := [.int 8, .int c]) 2 0 (fun n => rfl) ?_
                    refine RP_cond (decide (8 < c)) (fun n => rfl) (fun h => absurd (of_decide_eq_true h) (xi_nlt (x := 8) (y := c) (show c.toInt ≤ 8 by omega))) (fun _ => ?_)
                    show RP 55 _ 10 [(0, .int c), (1, .int 1), (2, .int 8)] [] _
                    refine RP_done 5 (fun n => rfl) ?_
                    refine Or.inr ⟨1, rfl, ?_⟩
                    show RP 58 _ 14 [(0, .int a), (1, .int c)] [.int 1] _
                    refine RP_step (pc1 := 19) (L1 := [(0, .int a), (1, .int c)]) (S1 := [.int c, .int a]) 3 0 (fun n => rfl) ?_
                    refine RP_bin (fun x y => x + y) (fun n => rfl) ?_
                    show RP 58 _ 20 [(0, .int a), (1, .int c)] [.int (a + c)] _
                    refine RP_step (pc1 := 22) (L1 := [(0, .int a), (1, .int c)]) (S1 := [.int 16, .int (a + c)]) 1 0 (fun n => rfl) ?_
                    refine RP_cond (decide (16 < (a + c))) (fun n => rfl) (fun h => absurd (of_decide_eq_true h) (xi_nlt (x := 16) (y := (a + c)) (show (a + c).toInt ≤ 16 by omega))) (fun _ => ?_)
                    show RP 58 _ 25 [(0, .int a), (1, .int c)] [] _
                    refine RP_done 5 (fun n => rfl) ?_
                    refine Or.inr ⟨1, rfl, ?_⟩
                    show RP 59 _ 102 [(0, .int 1), (1, .int a), (2, .int b), (3, .int c), (4, .int d)] [.int 1] _
                    refine RP_step (pc1 := 107) (L1 := [(0, .int 1), (1, .int a), (2, .int b), (3, .int c), (4, .int d)]) (S1 := [.int c, .int b]) 3 0 (fun n => rfl) ?_
                    refine RP_call 58 [.int b, .int c] (fun n => rfl) ?_
                    show RP 58 _ 0 [(0, .int b), (1, .int c)] [] _
                    refine RP_step (pc1 := 1) (L1 := [(0, .int b), (1, .int c)]) (S1 := [.int b]) 1 0 (fun n => rfl) ?_
                    refine RP_call 57 [.int b] (fun n => rfl) ?_
                    show RP 57 _ 0 [(0, .int b)] [] _
                    refine RP_step (pc1 := 4) (L1 := [(0, .int b)]) (S1 := [.int 15, .int 0, .int b]) 3 0 (fun n => rfl) ?_
                    refine RP_call 55 [.int b, .int 0, .int 15] (fun n => rfl) ?_
                    show RP 55 _ 0 [(0, .int b), (1, .int 0), (2, .int 15)] [] _
                    refine RP_step (pc1 := 2) (L1 := [(0, .int b), (1, .int 0), (2, .int 15)]) (S1 := [.int 0, .int b]) 2 0 (fun n => rfl) ?_
                    refine RP_cond (decide (b < 0)) (fun n => rfl) (fun h => absurd (of_decide_eq_true h) (xi_nlt (x := b) (y := 0) (show 0 ≤ b.toInt by omega))) (fun _ => ?_)
                    show RP 55 _ 5 [(0, .int b), (1, .int 0), (2, .int 15)] [] _
                    refine RP_step (pc1 := 7) (L1 := [(0, .int b), (1, .int 0), (2, .int 15)]) (S1 := [.int 15, .int b]) 2 0 (fun n => rfl) ?_
                    refine RP_cond (decide (15 < b)) (fun n => rfl) (fun h => absurd (of_decide_eq_true h) (xi_nlt (x := 15) (y := b) (show b.toInt ≤ 15 by omega))) (fun _ => ?_)
                    show RP 55 _ 10 [(0, .int b), (1, .int 0), (2, .int 15)] [] _
                    refine RP_done 5 (fun n => rfl) ?_
                    refine Or.inr ⟨1, rfl, ?_⟩
                    show RP 57 _ 7 [(0, .int b)] [.int 1] _
                    refine RP_done 3 (fun n => rfl) ?_
                    refine Or.inr ⟨1, rfl, ?_⟩
                    show RP 58 _ 4 [(0, .int b), (1, .int c)] [.int 1] _
                    refine RP_step (pc1 := 11) (L1 := [(0, .int b), (1, .int c)]) (S1 := [.int 8, .int 1, .int c]) 4 0 (fun n => rfl) ?_
                    refine RP_call 55 [.int c, .int 1, .int 8] (fun n => rfl) ?_
                    show RP 55 _ 0 [(0, .int c), (1, .int 1), (2, .int 8)] [] _
                    refine RP_step (pc1 := 2) (L1 := [(0, .int c), (1, .int 1), (2, .int 8)]) (S1 := [.int 1, .int c]) 2 0 (fun n => rfl) ?_
                    refine RP_cond (decide (c < 1)) (fun n => rfl) (fun h => absurd (of_decide_eq_true h) (xi_nlt (x := c) (y := 1) (show 1 ≤ c.toInt by omega))) (fun _ => ?_)
                    show RP 55 _ 5 [(0, .int c), (1, .int 1), (2, .int 8)] [] _
                    refine RP_step (pc1 := 7) (L1 := [(0, .int c), (1, .int 1), (2, .int 8)]) (S1 := [.int 8, .int c]) 2 0 (fun n => rfl) ?_
                    refine RP_cond (decide (8 < c)) (fun n => rfl) (fun h => absurd (of_decide_eq_true h) (xi_nlt (x := 8) (y := c) (show c.toInt ≤ 8 by omega))) (fun _ => ?_)
                    show RP 55 _ 10 [(0, .int c), (1, .int 1), (2, .int 8)] [] _
                    refine RP_done 5 (fun n => rfl) ?_
                    refine Or.inr ⟨1, rfl, ?_⟩
                    show RP 58 _ 14 [(0, .int b), (1, .int c)] [.int 1] _
                    refine RP_step (pc1 := 19) (L1 := [(0, .int b), (1, .int c)]) (S1 := [.int c, .int b]) 3 0 (fun n => rfl) ?_
                    refine RP_bin (fun x y => x + y) (fun n => rfl) ?_
                    show RP 58 _ 20 [(0, .int b), (1, .int c)] [.int (b + c)] _
                    refine RP_step (pc1 := 22) (L1 := [(0, .int b), (1, .int c)]) (S1 := [.int 16, .int (b + c)]) 1 0 (fun n => rfl) ?_
                    refine RP_cond (decide (16 < (b + c))) (fun n => rfl) (fun _ => ?_) (fun h => absurd (xi_lt (x := 16) (y := (b + c)) (show 16 < (b + c).toInt by omega)) (of_decide_eq_false h))
                    show RP 58 _ 29 [(0, .int b), (1, .int c)] [] _
                    refine RP_done 4 (fun n => rfl) ?_
                    refine Or.inr ⟨0, rfl, ?_⟩
                    show RP 59 _ 110 [(0, .int 1), (1, .int a), (2, .int b), (3, .int c), (4, .int d)] [.int 0] _
                    refine RP_done 5 (fun n => rfl) ?_
                    exact ⟨rfl, rfl⟩
                  · have h51 := of_decide_eq_false hh
                    have h52 : (b + c).toInt ≤ 16 := xj_nlt h51
                    show RP 24 _ 26 [(0, .int b), (1, .int c)] [] _
                    refine RP_done 5 (fun n => rfl) ?_
                    refine Or.inr ⟨1, rfl, ?_⟩
                    show RP 25 _ 110 [(0, .int 1), (1, .int a), (2, .int b), (3, .int c), (4, .int d)] [.int 1] _
                    refine RP_step (pc1 := 115) (L1 := [(0, .int 1), (1, .int a), (2, .int b), (3, .int c), (4, .int d)]) (S1 := [.int d]) 2 0 (fun n => rfl) ?_
                    refine RP_cond (decide (d ≠ 0)) (fun n => rfl) (fun hh => ?_) (fun hh => ?_)
                    · have h53 := of_decide_eq_true hh
                      show RP 25 _ 122 [(0, .int 1), (1, .int a), (2, .int b), (3, .int c), (4, .int d)] [] _
                      refine RP_done 4 (fun n => rfl) ?_
                      refine ⟨Or.inl rfl, rfl, ?_⟩
                      show RP 59 _ 0 [(0, .int 1), (1, .int a), (2, .int b), (3, .int c), (4, .int d)] [] _
                      refine RP_step (pc1 := 99) (L1 := [(0, .int 1), (1, .int a), (2, .int b), (3, .int c), (4, .int d)]) (S1 := [.int c, .int a]) 4 0 (fun n => rfl) ?_
                      refine RP_call 58 [.int a, .int c] (fun n => rfl) ?_
                      show RP 58 _ 0 [(0, .int a), (1, .int c)] [] _
                      refine RP_step (pc1 := 1) (L1 := [(0, .int a), (1, .int c)]) (S1 := [.int a]) 1 0 (fun n => rfl) ?_
                      refine RP_call 57 [.int a] (fun n => rfl) ?_
                      show RP 57 _ 0 [(0, .int a)] [] _
                      refine RP_step (pc1 := 4) (L1 := [(0, .int a)]) (S1 := [.int 15, .int 0, .int a]) 3 0 (fun n => rfl) ?_
                      refine RP_call 55 [.int a, .int 0, .int 15] (fun n => rfl) ?_
                      show RP 55 _ 0 [(0, .int a), (1, .int 0), (2, .int 15)] [] _
                      refine RP_step (pc1 := 2) (L1 := [(0, .int a), (1, .int 0), (2, .int 15)]) (S1 := [.int 0, .int a]) 2 0 (fun n => rfl) ?_
                      refine RP_cond (decide (a < 0)) (fun n => rfl) (fun h => absurd (of_decide_eq_true h) (xi_nlt (x := a) (y := 0) (show 0 ≤ a.toInt by omega))) (fun _ => ?_)
                      show RP 55 _ 5 [(0, .int a), (1, .int 0), (2, .int 15)] [] _
                      refine RP_step (pc1 := 7) (L1 := [(0, .int a), (1, .int 0), (2, .int 15)]) (S1 := [.int 15, .int a]) 2 0 (fun n => rfl) ?_
                      refine RP_cond (decide (15 < a)) (fun n => rfl) (fun h => absurd (of_decide_eq_true h) (xi_nlt (x := 15) (y := a) (show a.toInt ≤ 15 by omega))) (fun _ => ?_)
                      show RP 55 _ 10 [(0, .int a), (1, .int 0), (2, .int 15)] [] _
                      refine RP_done 5 (fun n => rfl) ?_
                      refine Or.inr ⟨1, rfl, ?_⟩
                      show RP 57 _ 7 [(0, .int a)] [.int 1] _
                      refine RP_done 3 (fun n => rfl) ?_
                      refine Or.inr ⟨1, rfl, ?_⟩
                      show RP 58 _ 4 [(0, .int a), (1, .int c)] [.int 1] _
                      refine RP_step (pc1 := 11) (L1 := [(0, .int a), (1, .int c)]) (S1 := [.int 8, .int 1, .int c]) 4 0 (fun n => rfl) ?_
                      refine RP_call 55 [.int c, .int 1, .int 8] (fun n => rfl) ?_
                      show RP 55 _ 0 [(0, .int c), (1, .int 1), (2, .int 8)] [] _
                      refine RP_step (pc1 := 2) (L1 := [(0, .int c), (1, .int 1), (2, .int 8)]) (S1 := [.int 1, .int c]) 2 0 (fun n => rfl) ?_
                      refine RP_cond (decide (c < 1)) (fun n => rfl) (fun h => absurd (of_decide_eq_true h) (xi_nlt (x := c) (y := 1) (show 1 ≤ c.toInt by omega))) (fun _ => ?_)
                      show RP 55 _ 5 [(0, .int c), (1, .int 1), (2, .int 8)] [] _
                      refine RP_step (pc1 := 7) (L1 := [(0, .int c), (1, .int 1), (2, .int 8)]) (S1 := [.int 8, .int c]) 2 0 (fun n => rfl) ?_
                      refine RP_cond (decide (8 < c)) (fun n => rfl) (fun h => absurd (of_decide_eq_true h) (xi_nlt (x := 8) (y := c) (show c.toInt ≤ 8 by omega))) (fun _ => ?_)
                      show RP 55 _ 10 [(0, .int c), (1, .int 1), (2, .int 8)] [] _
                      refine RP_done 5 (fun n => rfl) ?_
                      refine Or.inr ⟨1, rfl, ?_⟩
                      show RP 58 _ 14 [(0, .int a), (1, .int c)] [.int 1] _
                      refine RP_step (pc1 := 19) (L1 := [(0, .int a), (1, .int c)]) (S1 := [.int c, .int a]) 3 0 (fun n => rfl) ?_
                      refine RP_bin (fun x y => x + y) (fun n => rfl) ?_
                      show RP 58 _ 20 [(0, .int a), (1, .int c)] [.int (a + c)] _
                      refine RP_step (pc1 := 22) (L1 := [(0, .int a), (1, .int c)]) (S1 := [.int 16, .int (a + c)]) 1 0 (fun n => rfl) ?_
                      refine RP_cond (decide (16 < (a + c))) (fun n => rfl) (fun h => absurd (of_decide_eq_true h) (xi_nlt (x := 16) (y := (a + c)) (show (a + c).toInt ≤ 16 by omega))) (fun _ => ?_)
                      show RP 58 _ 25 [(0, .int a), (1, .int c)] [] _
                      refine RP_done 5 (fun n => rfl) ?_
                      refine Or.inr ⟨1, rfl, ?_⟩
                      show RP 59 _ 102 [(0, .int 1), (1, .int a), (2, .int b), (3, .int c), (4, .int d)] [.int 1] _
                      refine RP_step (pc1 := 107) (L1 := [(0, .int 1), (1, .int a), (2, .int b), (3, .int c), (4, .int d)]) (S1 := [.int c, .int b]) 3 0 (fun n => rfl) ?_
                      refine RP_call 58 [.int b, .int c] (fun n => rfl) ?_
                      show RP 58 _ 0 [(0, .int b), (1, .int c)] [] _
                      refine RP_step (pc1 := 1) (L1 := [(0, .int b), (1, .int c)]) (S1 := [.int b]) 1 0 (fun n => rfl) ?_
                      refine RP_call 57 [.int b] (fun n => rfl) ?_
                      show RP 57 _ 0 [(0, .int b)] [] _
                      refine RP_step (pc1 := 4) (L1 := [(0, .int b)]) (S1 := [.int 15, .int 0, .int b]) 3 0 (fun n => rfl) ?_
                      refine RP_call 55 [.int b, .int 0, .int 15] (fun n => rfl) ?_
                      show RP 55 _ 0 [(0, .int b), (1, .int 0), (2, .int 15)] [] _
                      refine RP_step (pc1 := 2) (L1 := [(0, .int b), (1, .int 0), (2, .int 15)]) (S1 := [.int 0, .int b]) 2 0 (fun n => rfl) ?_
                      refine RP_cond (decide (b < 0)) (fun n => rfl) (fun h => absurd (of_decide_eq_true h) (xi_nlt (x := b) (y := 0) (show 0 ≤ b.toInt by omega))) (fun _ => ?_)
                      show RP 55 _ 5 [(0, .int b), (1, .int 0), (2, .int 15)] [] _
                      refine RP_step (pc1 := 7) (L1 := [(0, .int b), (1, .int 0), (2, .int 15)]) (S1 := [.int 15, .int b]) 2 0 (fun n => rfl) ?_
                      refine RP_cond (decide (15 < b)) (fun n => rfl) (fun h => absurd (of_decide_eq_true h) (xi_nlt (x := 15) (y := b) (show b.toInt ≤ 15 by omega))) (fun _ => ?_)
                      show RP 55 _ 10 [(0, .int b), (1, .int 0), (2, .int 15)] [] _
                      refine RP_done 5 (fun n => rfl) ?_
                      refine Or.inr ⟨1, rfl, ?_⟩
                      show RP 57 _ 7 [(0, .int b)] [.int 1] _
                      refine RP_done 3 (fun n => rfl) ?_
                      refine Or.inr ⟨1, rfl, ?_⟩
                      show RP 58 _ 4 [(0, .int b), (1, .int c)] [.int 1] _
                      refine RP_step (pc1 := 11) (L1 := [(0, .int b), (1, .int c)]) (S1 := [.int 8, .int 1, .int c]) 4 0 (fun n => rfl) ?_
                      refine RP_call 55 [.int c, .int 1, .int 8] (fun n => rfl) ?_
                      show RP 55 _ 0 [(0, .int c), (1, .int 1), (2, .int 8)] [] _
                      refine RP_step (pc1 := 2) (L1 := [(0, .int c), (1, .int 1), (2, .int 8)]) (S1 := [.int 1, .int c]) 2 0 (fun n => rfl) ?_
                      refine RP_cond (decide (c < 1)) (fun n => rfl) (fun h => absurd (of_decide_eq_true h) (xi_nlt (x := c) (y := 1) (show 1 ≤ c.toInt by omega))) (fun _ => ?_)
                      show RP 55 _ 5 [(0, .int c), (1, .int 1), (2, .int 8)] [] _
                      refine RP_step (pc1 := 7) (L1 := [(0, .int c), (1, .int 1), (2, .int 8)]) (S1 := [.int 8, .int c]) 2 0 (fun n => rfl) ?_
                      refine RP_cond (decide (8 < c)) (fun n => rfl) (fun h => absurd (of_decide_eq_true h) (xi_nlt (x := 8) (y := c) (show c.toInt ≤ 8 by omega))) (fun _ => ?_)
                      show RP 55 _ 10 [(0, .int c), (1, .int 1), (2, .int 8)] [] _
                      refine RP_done 5 (fun n => rfl) ?_
                      refine Or.inr ⟨1, rfl, ?_⟩
                      show RP 58 _ 14 [(0, .int b), (1, .int c)] [.int 1] _
                      refine RP_step (pc1 := 19) (L1 := [(0, .int b), (1, .int c)]) (S1 := [.int c, .int b]) 3 0 (fun n => rfl) ?_
                      refine RP_bin (fun x y => x + y) (fun n => rfl) ?_
                      show RP 58 _ 20 [(0, .int b), (1, .int c)] [.int (b + c)] _
                      refine RP_step (pc1 := 22) (L1 := [(0, .int b), (1, .int c)]) (S1 := [.int 16, .int (b + c)]) 1 0 (fun n => rfl) ?_
                      refine RP_cond (decide (16 < (b + c))) (fun n => rfl) (fun h => absurd (of_decide_eq_true h) (xi_nlt (x := 16) (y := (b + c)) (show (b + c).toInt ≤ 16 by omega))) (fun _ => ?_)
                      show RP 58 _ 25 [(0, .int b), (1, .int c)] [] _
                      refine RP_done 5 (fun n => rfl) ?_
                      refine Or.inr ⟨1, rfl, ?_⟩
                      show RP 59 _ 110 [(0, .int 1), (1, .int a), (2, .int b), (3, .int c), (4, .int d)] [.int 1] _
                      refine RP_step (pc1 := 115) (L1 := [(0, .int 1), (1, .int a), (2, .int b), (3, .int c), (4, .int d)]) (S1 := [.int d]) 2 0 (fun n => rfl) ?_
                      refine RP_cond (decide (d ≠ 0)) (fun n => rfl) (fun _ => ?_) (fun h => absurd (by assumption) (of_decide_eq_false h))
                      show RP 59 _ 122 [(0, .int 1), (1, .int a), (2, .int b), (3, .int c), (4, .int d)] [] _
                      refine RP_done 4 (fun n => rfl) ?_
                      exact ⟨rfl, rfl⟩
                    · have h54 := of_decide_eq_false hh
                      replace h54 := Decidable.of_not_not h54
                      clear hh
                      subst h54
                      show RP 25 _ 118 [(0, .int 1), (1, .int a), (2, .int b), (3, .int c), (4, .int 0)] [] _
                      refine RP_done 5 (fun n => rfl) ?_
                      refine ⟨Or.inr rfl, rfl, ?_⟩
                      show RP 59 _ 0 [(0, .int 1), (1, .int a), (2, .int b), (3, .int c), (4, .int 0)] [] _
                      refine RP_step (pc1 := 99) (L1 := [(0, .int 1), (1, .int a), (2, .int b), (3, .int c), (4, .int 0)]) (S1 := [.int c, .int a]) 4 0 (fun n => rfl) ?_
                      refine RP_call 58 [.int a, .int c] (fun n => rfl) ?_
                      show RP 58 _ 0 [(0, .int a), (1, .int c)] [] _
                      refine RP_step (pc1 := 1) (L1 := [(0, .int a), (1, .int c)]) (S1 := [.int a]) 1 0 (fun n => rfl) ?_
                      refine RP_call 57 [.int a] (fun n => rfl) ?_
                      show RP 57 _ 0 [(0, .int a)] [] _
                      refine RP_step (pc1 := 4) (L1 := [(0, .int a)]) (S1 := [.int 15, .int 0, .int a]) 3 0 (fun n => rfl) ?_
                      refine RP_call 55 [.int a, .int 0, .int 15] (fun n => rfl) ?_
                      show RP 55 _ 0 [(0, .int a), (1, .int 0), (2, .int 15)] [] _
                      refine RP_step (pc1 := 2) (L1 := [(0, .int a), (1, .int 0), (2, .int 15)]) (S1 := [.int 0, .int a]) 2 0 (fun n => rfl) ?_
                      refine RP_cond (decide (a < 0)) (fun n => rfl) (fun h => absurd (of_decide_eq_true h) (xi_nlt (x := a) (y := 0) (show 0 ≤ a.toInt by omega))) (fun _ => ?_)
                      show RP 55 _ 5 [(0, .int a), (1, .int 0), (2, .int 15)] [] _
                      refine RP_step (pc1 := 7) (L1 := [(0, .int a), (1, .int 0), (2, .int 15)]) (S1 := [.int 15, .int a]) 2 0 (fun n => rfl) ?_
                      refine RP_cond (decide (15 < a)) (fun n => rfl) (fun h => absurd (of_decide_eq_true h) (xi_nlt (x := 15) (y := a) (show a.toInt ≤ 15 by omega))) (fun _ => ?_)
                      show RP 55 _ 10 [(0, .int a), (1, .int 0), (2, .int 15)] [] _
                      refine RP_done 5 (fun n => rfl) ?_
                      refine Or.inr ⟨1, rfl, ?_⟩
                      show RP 57 _ 7 [(0, .int a)] [.int 1] _
                      refine RP_done 3 (fun n => rfl) ?_
                      refine Or.inr ⟨1, rfl, ?_⟩
                      show RP 58 _ 4 [(0, .int a), (1, .int c)] [.int 1] _
                      refine RP_step (pc1 := 11) (L1 := [(0, .int a), (1, .int c)]) (S1 := [.int 8, .int 1, .int c]) 4 0 (fun n => rfl) ?_
                      refine RP_call 55 [.int c, .int 1, .int 8] (fun n => rfl) ?_
                      show RP 55 _ 0 [(0, .int c), (1, .int 1), (2, .int 8)] [] _
                      refine RP_step (pc1 := 2) (L1 := [(0, .int c), (1, .int 1), (2, .int 8)]) (S1 := [.int 1, .int c]) 2 0 (fun n => rfl) ?_
                      refine RP_cond (decide (c < 1)) (fun n => rfl) (fun h => absurd (of_decide_eq_true h) (xi_nlt (x := c) (y := 1) (show 1 ≤ c.toInt by omega))) (fun _ => ?_)
                      show RP 55 _ 5 [(0, .int c), (1, .int 1), (2, .int 8)] [] _
                      refine RP_step (pc1 := 7) (L1 := [(0, .int c), (1, .int 1), (2, .int 8)]) (S1 := [.int 8, .int c]) 2 0 (fun n => rfl) ?_
                      refine RP_cond (decide (8 < c)) (fun n => rfl) (fun h => absurd (of_decide_eq_true h) (xi_nlt (x := 8) (y := c) (show c.toInt ≤ 8 by omega))) (fun _ => ?_)
                      show RP 55 _ 10 [(0, .int c), (1, .int 1), (2, .int 8)] [] _
                      refine RP_done 5 (fun n => rfl) ?_
                      refine Or.inr ⟨1, rfl, ?_⟩
                      show RP 58 _ 14 [(0, .int a), (1, .int c)] [.int 1] _
                      refine RP_step (pc1 := 19) (L1 := [(0, .int a), (1, .int c)]) (S1 := [.int c, .int a]) 3 0 (fun n => rfl) ?_
                      refine RP_bin (fun x y => x + y) (fun n => rfl) ?_
                      show RP 58 _ 20 [(0, .int a), (1, .int c)] [.int (a + c)] _
                      refine RP_step (pc1 := 22) (L1 := [(0, .int a), (1, .int c)]) (S1 := [.int 16, .int (a + c)]) 1 0 (fun n => rfl) ?_
                      refine RP_cond (decide (16 < (a + c))) (fun n => rfl) (fun h => absurd (of_decide_eq_true h) (xi_nlt (x := 16) (y := (a + c)) (show (a + c).toInt ≤ 16 by omega))) (fun _ => ?_)
                      show RP 58 _ 25 [(0, .int a), (1, .int c)] [] _
                      refine RP_done 5 (fun n => rfl) ?_
                      refine Or.inr ⟨1, rfl, ?_⟩
                      show RP 59 _ 102 [(0, .int 1), (1, .int a), (2, .int b), (3, .int c), (4, .int 0)] [.int 1] _
                      refine RP_step (pc1 := 107) (L1 := [(0, .int 1), (1, .int a), (2, .int b), (3, .int c), (4, .int 0)]) (S1 := [.int c, .int b]) 3 0 (fun n => rfl) ?_
                      refine RP_call 58 [.int b, .int c] (fun n => rfl) ?_
                      show RP 58 _ 0 [(0, .int b), (1, .int c)] [] _
                      refine RP_step (pc1 := 1) (L1 := [(0, .int b), (1, .int c)]) (S1 := [.int b]) 1 0 (fun n => rfl) ?_
                      refine RP_call 57 [.int b] (fun n => rfl) ?_
                      show RP 57 _ 0 [(0, .int b)] [] _
                      refine RP_step (pc1 := 4) (L1 := [(0, .int b)]) (S1 := [.int 15, .int 0, .int b]) 3 0 (fun n => rfl) ?_
                      refine RP_call 55 [.int b, .int 0, .int 15] (fun n => rfl) ?_
                      show RP 55 _ 0 [(0, .int b), (1, .int 0), (2, .int 15)] [] _
                      refine RP_step (pc1 := 2) (L1 := [(0, .int b), (1, .int 0), (2, .int 15)]) (S1 := [.int 0, .int b]) 2 0 (fun n => rfl) ?_
                      refine RP_cond (decide (b < 0)) (fun n => rfl) (fun h => absurd (of_decide_eq_true h) (xi_nlt (x := b) (y := 0) (show 0 ≤ b.toInt by omega))) (fun _ => ?_)
                      show RP 55 _ 5 [(0, .int b), (1, .int 0), (2, .int 15)] [] _
                      refine RP_step (pc1 := 7) (L1 := [(0, .int b), (1, .int 0), (2, .int 15)]) (S1 := [.int 15, .int b]) 2 0 (fun n => rfl) ?_
                      refine RP_cond (decide (15 < b)) (fun n => rfl) (fun h => absurd (of_decide_eq_true h) (xi_nlt (x := 15) (y := b) (show b.toInt ≤ 15 by omega))) (fun _ => ?_)
                      show RP 55 _ 10 [(0, .int b), (1, .int 0), (2, .int 15)] [] _
                      refine RP_done 5 (fun n => rfl) ?_
                      refine Or.inr ⟨1, rfl, ?_⟩
                      show RP 57 _ 7 [(0, .int b)] [.int 1] _
                      refine RP_done 3 (fun n => rfl) ?_
                      refine Or.inr ⟨1, rfl, ?_⟩
                      show RP 58 _ 4 [(0, .int b), (1, .int c)] [.int 1] _
                      refine RP_step (pc1 := 11) (L1 := [(0, .int b), (1, .int c)]) (S1 := [.int 8, .int 1, .int c]) 4 0 (fun n => rfl) ?_
                      refine RP_call 55 [.int c, .int 1, .int 8] (fun n => rfl) ?_
                      show RP 55 _ 0 [(0, .int c), (1, .int 1), (2, .int 8)] [] _
                      refine RP_step (pc1 := 2) (L1 := [(0, .int c), (1, .int 1), (2, .int 8)]) (S1 := [.int 1, .int c]) 2 0 (fun n => rfl) ?_
                      refine RP_cond (decide (c < 1)) (fun n => rfl) (fun h => absurd (of_decide_eq_true h) (xi_nlt (x := c) (y := 1) (show 1 ≤ c.toInt by omega))) (fun _ => ?_)
                      show RP 55 _ 5 [(0, .int c), (1, .int 1), (2, .int 8)] [] _
                      refine RP_step (pc1 := 7) (L1 := [(0, .int c), (1, .int 1), (2, .int 8)]) (S1 := [.int 8, .int c]) 2 0 (fun n => rfl) ?_
                      refine RP_cond (decide (8 < c)) (fun n => rfl) (fun h => absurd (of_decide_eq_true h) (xi_nlt (x := 8) (y := c) (show c.toInt ≤ 8 by omega))) (fun _ => ?_)
                      show RP 55 _ 10 [(0, .int c), (1, .int 1), (2, .int 8)] [] _
                      refine RP_done 5 (fun n => rfl) ?_
                      refine Or.inr ⟨1, rfl, ?_⟩
                      show RP 58 _ 14 [(0, .int b), (1, .int c)] [.int 1] _
                      refine RP_step (pc1 := 19) (L1 := [(0, .int b), (1, .int c)]) (S1 := [.int c, .int b]) 3 0 (fun n => rfl) ?_
                      refine RP_bin (fun x y => x + y) (fun n => rfl) ?_
                      show RP 58 _ 20 [(0, .int b), (1, .int c)] [.int (b + c)] _
                      refine RP_step (pc1 := 22) (L1 := [(0, .int b), (1, .int c)]) (S1 := [.int 16, .int (b + c)]) 1 0 (fun n => rfl) ?_
                      refine RP_cond (decide (16 < (b + c))) (fun n => rfl) (fun h => absurd (of_decide_eq_true h) (xi_nlt (x := 16) (y := (b + c)) (show (b + c).toInt ≤ 16 by omega))) (fun _ => ?_)
                      show RP 58 _ 25 [(0, .int b), (1, .int c)] [] _
                      refine RP_done 5 (fun n => rfl) ?_
                      refine Or.inr ⟨1, rfl, ?_⟩
                      show RP 59 _ 110 [(0, .int 1), (1, .int a), (2, .int b), (3, .int c), (4, .int 0)] [.int 1] _
                      refine RP_done 8 (fun n => rfl) ?_
                      exact ⟨rfl, rfl⟩
  · skip
    show RP 25 _ 0 [(0, .int 2), (1, .int a), (2, .int b), (3, .int c), (4, .int d)] [] _
    refine RP_step (pc1 := 125) (L1 := [(0, .int 2), (1, .int a), (2, .int b), (3, .int c), (4, .int d)]) (S1 := [.int a]) 3 0 (fun n => rfl) ?_
    refine RP_call 23 [.int a] (fun n => rfl) ?_
    show RP 23 _ 0 [(0, .int a)] [] _
    refine RP_step (pc1 := 1) (L1 := [(0, .int a)]) (S1 := [.int a]) 1 0 (fun n => rfl) ?_
    refine RP_cond (decide (a < 0)) (fun n => rfl) (fun hh => ?_) (fun hh => ?_)
    · have h55 := of_decide_eq_true hh
      have h56 : a.toInt < 0 := xj_lt h55
      show RP 23 _ 14 [(0, .int a)] [] _
      refine RP_done 4 (fun n => rfl) ?_
      refine Or.inr ⟨0, rfl, ?_⟩
      show RP 25 _ 128 [(0, .int 2), (1, .int a), (2, .int b), (3, .int c), (4, .int d)] [.int 0] _
      refine RP_done 5 (fun n => rfl) ?_
      refine ⟨Or.inl rfl, rfl, ?_⟩
      show RP 59 _ 0 [(0, .int 2), (1, .int a), (2, .int b), (3, .int c), (4, .int d)] [] _
      refine RP_step (pc1 := 125) (L1 := [(0, .int 2), (1, .int a), (2, .int b), (3, .int c), (4, .int d)]) (S1 := [.int a]) 3 0 (fun n => rfl) ?_
      refine RP_call 57 [.int a] (fun n => rfl) ?_
      show RP 57 _ 0 [(0, .int a)] [] _
      refine RP_step (pc1 := 4) (L1 := [(0, .int a)]) (S1 := [.int 15, .int 0, .int a]) 3 0 (fun n => rfl) ?_
      refine RP_call 55 [.int a, .int 0, .int 15] (fun n => rfl) ?_
      show RP 55 _ 0 [(0, .int a), (1, .int 0), (2, .int 15)] [] _
      refine RP_step (pc1 := 2) (L1 := [(0, .int a), (1, .int 0), (2, .int 15)]) (S1 := [.int 0, .int a]) 2 0 (fun n => rfl) ?_
      refine RP_cond (decide (a < 0)) (fun n => rfl) (fun _ => ?_) (fun h => absurd (xi_lt (x := a) (y := 0) (show a.toInt < 0 by omega)) (of_decide_eq_false h))
      show RP 55 _ 14 [(0, .int a), (1, .int 0), (2, .int 15)] [] _
      refine RP_done 4 (fun n => rfl) ?_
      refine Or.inr ⟨0, rfl, ?_⟩
      show RP 57 _ 7 [(0, .int a)] [.int 0] _
      refine RP_done 3 (fun n => rfl) ?_
      refine Or.inr ⟨0, rfl, ?_⟩
      show RP 59 _ 128 [(0, .int 2), (1, .int a), (2, .int b), (3, .int c), (4, .int d)] [.int 0] _
      refine RP_done 5 (fun n => rfl) ?_
      exact ⟨rfl, rfl⟩
    · have h57 := of_decide_eq_false hh
      have h58 : 0 ≤ a.toInt := xj_nlt h57
      show RP 23 _ 4 [(0, .int a)] [] _
      refine RP_step (pc1 := 7) (L1 := [(0, .int a)]) (S1 := [.int 16, .int a]) 2 0 (fun n => rfl) ?_
      refine RP_cond (decide (16 ≤ a)) (fun n => rfl) (fun hh => ?_) (fun hh => ?_)
      · have h59 := of_decide_eq_true hh
        have h60 : 16 ≤ a.toInt := xj_le h59
        show RP 23 _ 14 [(0, .int a)] [] _
        refine RP_done 4 (fun n => rfl) ?_
        refine Or.inr ⟨0, rfl, ?_⟩
        show RP 25 _ 128 [(0, .int 2), (1, .int a), (2, .int b), (3, .int c), (4, .int d)] [.int 0] _
        refine RP_done 5 (fun n => rfl) ?_
        refine ⟨Or.inl rfl, rfl, ?_⟩
        show RP 59 _ 0 [(0, .int 2), (1, .int a), (2, .int b), (3, .int c), (4, .int d)] [] _
        refine RP_step (pc1 := 125) (L1 := [(0, .int 2), (1, .int a), (2, .int b), (3, .int c), (4, .int d)]) (S1 := [.int a]) 3 0 (fun n => rfl) ?_
        refine RP_call 57 [.int a] (fun n => rfl) ?_
        show RP 57 _ 0 [(0, .int a)] [] _
        refine RP_step (pc1 := 4) (L1 := [(0, .int a)]) (S1 := [.int 15, .int 0, .int a]) 3 0 (fun n => rfl) ?_
        refine RP_call 55 [.int a, .int 0, .int 15] (fun n => rfl) ?_
        show RP 55 _ 0 [(0, .int a), (1, .int 0), (2, .int 15)] [] _
        refine RP_step (pc1 := 2) (L1 := [(0, .int a), (1, .int 0), (2, .int 15)]) (S1 := [.int 0, .int a]) 2 0 (fun n => rfl) ?_
        refine RP_cond (decide (a < 0)) (fun n => rfl) (fun h => absurd (of_decide_eq_true h) (xi_nlt (x := a) (y := 0) (show 0 ≤ a.toInt by omega))) (fun _ => ?_)
        show RP 55 _ 5 [(0, .int a), (1, .int 0), (2, .int 15)] [] _
        refine RP_step (pc1 := 7) (L1 := [(0, .int a), (1, .int 0), (2, .int 15)]) (S1 := [.int 15, .int a]) 2 0 (fun n => rfl) ?_
        refine RP_cond (decide (15 < a)) (fun n => rfl) (fun _ => ?_) (fun h => absurd (xi_lt (x := 15) (y := a) (show 15 < a.toInt by omega)) (of_decide_eq_false h))
        show RP 55 _ 14 [(0, .int a), (1, .int 0), (2, .int 15)] [] _
        refine RP_done 4 (fun n => rfl) ?_
        refine Or.inr ⟨0, rfl, ?_⟩
        show RP 57 _ 7 [(0, .int a)] [.int 0] _
        refine RP_done 3 (fun n => rfl) ?_
        refine Or.inr ⟨0, rfl, ?_⟩
        show RP 59 _ 128 [(0, .int 2), (1, .int a), (2, .int b), (3, .int c), (4, .int d)] [.int 0] _
        refine RP_done 5 (fun n => rfl) ?_
        exact ⟨rfl, rfl⟩
      · have h61 := of_decide_eq_false hh
        have h62 : a.toInt < 16 := xj_nle h61
        show RP 23 _ 10 [(0, .int a)] [] _
        refine RP_done 5 (fun n => rfl) ?_
        refine Or.inr ⟨1, rfl, ?_⟩
        show RP 25 _ 128 [(0, .int 2), (1, .int a), (2, .int b), (3, .int c), (4, .int d)] [.int 1] _
        refine RP_step (pc1 := 132) (L1 := [(0, .int 2), (1, .int a), (2, .int b), (3, .int c), (4, .int d)]) (S1 := [.int b]) 2 0 (fun n => rfl) ?_
        refine RP_call 23 [.int b] (fun n => rfl) ?_
        show RP 23 _ 0 [(0, .int b)] [] _
        refine RP_step (pc1 := 1) (L1 := [(0, .int b)]) (S1 := [.int b]) 1 0 (fun n => rfl) ?_
        refine RP_cond (decide (b < 0)) (fun n => rfl) (fun hh => ?_) (fun hh => ?_)
        · have h63 := of_decide_eq_true hh
          have h64 : b.toInt < 0 := xj_lt h63
          show RP 23 _ 14 [(0, .int b)] [] _
          refine RP_done 4 (fun n => rfl) ?_
          refine Or.inr ⟨0, rfl, ?_⟩
          show RP 25 _ 135 [(0, .int 2), (1, .int a), (2, .int b), (3, .int c), (4, .int d)] [.int 0] _
          refine RP_done 5 (fun n => rfl) ?_
          refine ⟨Or.inl rfl, rfl, ?_⟩
          show RP 59 _ 0 [(0, .int 2), (1, .int a), (2, .int b), (3, .int c), (4, .int d)] [] _
          refine RP_step (pc1 := 125) (L1 := [(0, .int 2), (1, .int a), (2, .int b), (3, .int c), (4, .int d)]) (S1 := [.int a]) 3 0 (fun n => rfl) ?_
          refine RP_call 57 [.int a] (fun n => rfl) ?_
          show RP 57 _ 0 [(0, .int a)] [] _
          refine RP_step (pc1 := 4) (L1 := [(0, .int a)]) (S1 := [.int 15, .int 0, .int a]) 3 0 (fun n => rfl) ?_
          refine RP_call 55 [.int a, .int 0, .int 15] (fun n => rfl) ?_
          show RP 55 _ 0 [(0, .int a), (1, .int 0), (2, .int 15)] [] _
          refine RP_step (pc1 := 2) (L1 := [(0, .int a), (1, .int 0), (2, .int 15)]) (S1 := [.int 0, .int a]) 2 0 (fun n => rfl) ?_
          refine RP_cond (decide (a < 0)) (fun n => rfl) (fun h => absurd (of_decide_eq_true h) (xi_nlt (x := a) (y := 0) (show 0 ≤ a.toInt by omega))) (fun _ => ?_)
          show RP 55 _ 5 [(0, .int a), (1, .int 0), (2, .int 15)] [] _
          refine RP_step (pc1 := 7) (L1 := [(0, .int a), (1, .int 0), (2, .int 15)]) (S1 := [.int 15, .int a]) 2 0 (fun n => rfl) ?_
          refine RP_cond (decide (15 < a)) (fun n => rfl) (fun h => absurd (of_decide_eq_true h) (xi_nlt (x := 15) (y := a) (show a.toInt ≤ 15 by omega))) (fun _ => ?_)
          show RP 55 _ 10 [(0, .int a), (1, .int 0), (2, .int 15)] [] _
          refine RP_done 5 (fun n => rfl) ?_
          refine Or.inr ⟨1, rfl, ?_⟩
          show RP 57 _ 7 [(0, .int a)] [.int 1] _
          refine RP_done 3 (fun n => rfl) ?_
          refine Or.inr ⟨1, rfl, ?_⟩
          show RP 59 _ 128 [(0, .int 2), (1, .int a), (2, .int b), (3, .int c), (4, .int d)] [.int 1] _
          refine RP_step (pc1 := 132) (L1 := [(0, .int 2), (1, .int a), (2, .int b), (3, .int c), (4, .int d)]) (S1 := [.int b]) 2 0 (fun n => rfl) ?_
          refine RP_call 57 [.int b] (fun n => rfl) ?_
          show RP 57 _ 0 [(0, .int b)] [] _
          refine RP_step (pc1 := 4) (L1 := [(0, .int b)]) (S1 := [.int 15, .int 0, .int b]) 3 0 (fun n => rfl) ?_
          refine RP_call 55 [.int b, .int 0, .int 15] (fun n => rfl) ?_
          show RP 55 _ 0 [(0, .int b), (1, .int 0), (2, .int 15)] [] _
          refine RP_step (pc1 := 2) (L1 := [(0, .int b), (1, .int 0), (2, .int 15)]) (S1 := [.int 0, .int b]) 2 0 (fun n => rfl) ?_
          refine RP_cond (decide (b < 0)) (fun n => rfl) (fun _ => ?_) (fun h => absurd (xi_lt (x := b) (y := 0) (show b.toInt < 0 by omega)) (of_decide_eq_false h))
          show RP 55 _ 14 [(0, .int b), (1, .int 0), (2, .int 15)] [] _
          refine RP_done 4 (fun n => rfl) ?_
          refine Or.inr ⟨0, rfl, ?_⟩
          show RP 57 _ 7 [(0, .int b)] [.int 0] _
          refine RP_done 3 (fun n => rfl) ?_
          refine Or.inr ⟨0, rfl, ?_⟩
          show RP 59 _ 135 [(0, .int 2), (1, .int a), (2, .int b), (3, .int c), (4, .int d)] [.int 0] _
          refine RP_done 5 (fun n => rfl) ?_
          exact ⟨rfl, rfl⟩
        · have h65 := of_decide_eq_false hh
          have h66 : 0 ≤ b.toInt := xj_nlt h65
          show RP 23 _ 4 [(0, .int b)] [] _
          refine RP_step (pc1 := 7) (L1 := [(0, .int b)]) (S1 := [.int 16, .int b]) 2 0 (fun n => rfl) ?_
          refine RP_cond (decide (16 ≤ b)) (fun n => rfl) (fun hh => ?_) (fun hh => ?_)
          · have h67 := of_decide_eq_true hh
            have h68 : 16 ≤ b.toInt := xj_le h67
            show RP 23 _ 14 [(0, .int b)] [] _
            refine RP_done 4 (fun n => rfl) ?_
            refine Or.inr ⟨0, rfl, ?_⟩
            show RP 25 _ 135 [(0, .int 2), (1, .int a), (2, .int b), (3, .int c), (4, .int d)] [.int 0] _
            refine RP_done 5 (fun n => rfl) ?_
            refine ⟨Or.inl rfl, rfl, ?_⟩
            show RP 59 _ 0 [(0, .int 2), (1, .int a), (2, .int b), (3, .int c), (4, .int d)] [] _
            refine RP_step (pc1 := 125) (L1 := [(0, .int 2), (1, .int a), (2, .int b), (3, .int c), (4, .int d)]) (S1 := [.int a]) 3 0 (fun n => rfl) ?_
            refine RP_call 57 [.int a] (fun n => rfl) ?_
            show RP 57 _ 0 [(0, .int a)] [] _
            refine RP_step (pc1 := 4) (L1 := [(0, .int a)]) (S1 := [.int 15, .int 0, .int a]) 3 0 (fun n => rfl) ?_
            refine RP_call 55 [.int a, .int 0, .int 15] (fun n => rfl) ?_
            show RP 55 _ 0 [(0, .int a), (1, .int 0), (2, .int 15)] [] _
            refine RP_step (pc1 := 2) (L1 := [(0, .int a), (1, .int 0), (2, .int 15)]) (S1 := [.int 0, .int a]) 2 0 (fun n => rfl) ?_
            refine RP_cond (decide (a < 0)) (fun n => rfl) (fun h => absurd (of_decide_eq_true h) (xi_nlt (x := a) (y := 0) (show 0 ≤ a.toInt by omega))) (fun _ => ?_)
            show RP 55 _ 5 [(0, .int a), (1, .int 0), (2, .int 15)] [] _
            refine RP_step (pc1 := 7) (L1 := [(0, .int a), (1, .int 0), (2, .int 15)]) (S1 := [.int 15, .int a]) 2 0 (fun n => rfl) ?_
            refine RP_cond (decide (15 < a)) (fun n => rfl) (fun h => absurd (of_decide_eq_true h) (xi_nlt (x := 15) (y := a) (show a.toInt ≤ 15 by omega))) (fun _ => ?_)
            show RP 55 _ 10 [(0, .int a), (1, .int 0), (2, .int 15)] [] _
            refine RP_done 5 (fun n => rfl) ?_
            refine Or.inr ⟨1, rfl, ?_⟩
            show RP 57 _ 7 [(0, .int a)] [.int 1] _
            refine RP_done 3 (fun n => rfl) ?_
            refine Or.inr ⟨1, rfl, ?_⟩
            show RP 59 _ 128 [(0, .int 2), (1, .int a), (2, .int b), (3, .int c), (4, .int d)] [.int 1] _
            refine RP_step (pc1 := 132) (L1 := [(0, .int 2), (1, .int a), (2, .int b), (3, .int c), (4, .int d)]) (S1 := [.int b]) 2 0 (fun n => rfl) ?_
            refine RP_call 57 [.int b] (fun n => rfl) ?_
            show RP 57 _ 0 [(0, .int b)] [] _
            refine RP_step (pc1 := 4) (L1 := [(0, .int b)]) (S1 := [.int 15, .int 0, .int b]) 3 0 (fun n => rfl) ?_
            refine RP_call 55 [.int b, .int 0, .int 15] (fun n => rfl) ?_
            show RP 55 _ 0 [(0, .int b), (1, .int 0), (2, .int 15)] [] _
            refine RP_step (pc1 := 2) (L1 := [(0, .int b), (1, .int 0), (2, .int 15)]) (S1 := [.int 0, .int b]) 2 0 (fun n => rfl) ?_
            refine RP_cond (decide (b < 0)) (fun n => rfl) (fun h => absurd (of_decide_eq_true h) (xi_nlt (x := b) (y := 0) (show 0 ≤ b.toInt by omega))) (fun _ => ?_)
            show RP 55 _ 5 [(0, .int b), (1, .int 0), (2, .int 15)] [] _
            refine RP_step (pc1 := 7) (L1 := [(0, .int b), (1, .int 0), (2, .int 15)]) (S1 := [.int 15, .int b]) 2 0 (fun n => rfl) ?_
            refine RP_cond (decide (15 < b)) (fun n => rfl) (fun _ => ?_) (fun h => absurd (xi_lt (x := 15) (y := b) (show 15 < b.toInt by omega)) (of_decide_eq_false h))
            show RP 55 _ 14 [(0, .int b), (1, .int 0), (2, .int 15)] [] _
            refine RP_done 4 (fun n => rfl) ?_
            refine Or.inr ⟨0, rfl, ?_⟩
            show RP 57 _ 7 [(0, .int b)] [.int 0] _
            refine RP_done 3 (fun n => rfl) ?_
            refine Or.inr ⟨0, rfl, ?_⟩
            show RP 59 _ 135 [(0, .int 2), (1, .int a), (2, .int b), (3, .int c), (4, .int d)] [.int 0] _
            refine RP_done 5 (fun n => rfl) ?_
            exact ⟨rfl, rfl⟩
          · have h69 := of_decide_eq_false hh
            have h70 : b.toInt < 16 := xj_nle h69
            show RP 23 _ 10 [(0, .int b)] [] _
            refine RP_done 5 (fun n => rfl) ?_
            refine Or.inr ⟨1, rfl, ?_⟩
            show RP 25 _ 135 [(0, .int 2), (1, .int a), (2, .int b), (3, .int c), (4, .int d)] [.int 1] _
            refine RP_step (pc1 := 139) (L1 := [(0, .int 2), (1, .int a), (2, .int b), (3, .int c), (4, .int d)]) (S1 := [.int c]) 2 0 (fun n => rfl) ?_
            refine RP_cond (decide (c ≠ 0)) (fun n => rfl) (fun hh => ?_) (fun hh => ?_)
            · have h71 := of_decide_eq_true hh
              show RP 25 _ 151 [(0, .int 2), (1, .int a), (2, .int b), (3, .int c), (4, .int d)] [] _
              refine RP_done 4 (fun n => rfl) ?_
              refine ⟨Or.inl rfl, rfl, ?_⟩
              show RP 59 _ 0 [(0, .int 2), (1, .int a), (2, .int b), (3, .int c), (4, .int d)] [] _
              refine RP_step (pc1 := 125) (L1 := [(0, .int 2), (1, .int a), (2, .int b), (3, .int c), (4, .int d)]) (S1 := [.int a]) 3 0 (fun n => rfl) ?_
              refine RP_call 57 [.int a] (fun n => rfl) ?_
              show RP 57 _ 0 [(0, .int a)] [] _
              refine RP_step (pc1 := 4) (L1 := [(0, .int a)]) (S1 := [.int 15, .int 0, .int a]) 3 0 (fun n => rfl) ?_
              refine RP_call 55 [.int a, .int 0, .int 15] (fun n => rfl) ?_
              show RP 55 _ 0 [(0, .int a), (1, .int 0), (2, .int 15)] [] _
              refine RP_step (pc1 := 2) (L1 := [(0, .int a), (1, .int 0), (2, .int 15)]) (S1 := [.int 0, .int a]) 2 0 (fun n => rfl) ?_
              refine RP_cond (decide (a < 0)) (fun n => rfl) (fun h => absurd (of_decide_eq_true h) (xi_nlt (x := a) (y := 0) (show 0 ≤ a.toInt by omega))) (fun _ => ?_)
              show RP 55 _ 5 [(0, .int a), (1, .int 0), (2, .int 15)] [] _
              refine RP_step (pc1 := 7) (L1 := [(0, .int a), (1, .int 0), (2, .int 15)]) (S1 := [.int 15, .int a]) 2 0 (fun n => rfl) ?_
              refine RP_cond (decide (15 < a)) (fun n => rfl) (fun h => absurd (of_decide_eq_true h) (xi_nlt (x := 15) (y := a) (show a.toInt ≤ 15 by omega))) (fun _ => ?_)
              show RP 55 _ 10 [(0, .int a), (1, .int 0), (2, .int 15)] [] _
              refine RP_done 5 (fun n => rfl) ?_
              refine Or.inr ⟨1, rfl, ?_⟩
              show RP 57 _ 7 [(0, .int a)] [.int 1] _
              refine RP_done 3 (fun n => rfl) ?_
              refine Or.inr ⟨1, rfl, ?_⟩
              show RP 59 _ 128 [(0, .int 2), (1, .int a), (2, .int b), (3, .int c), (4, .int d)] [.int 1] _
              refine RP_step (pc1 := 132) (L1 := [(0, .int 2), (1, .int a), (2, .int b), (3, .int c), (4, .int d)]) (S1 := [.int b]) 2 0 (fun n => rfl) ?_
              refine RP_call 57 [.int b] (fun n => rfl) ?_
              show RP 57 _ 0 [(0, .int b)] [] _
              refine RP_step (pc1 := 4) (L1 := [(0, .int b)]) (S1 := [.int 15, .int 0, .int b]) 3 0 (fun n => rfl) ?_
              refine RP_call 55 [.int b, .int 0, .int 15] (fun n => rfl) ?_
              show RP 55 _ 0 [(0, .int b), (1, .int 0), (2, .int 15)] [] _
              refine RP_step (pc1 := 2) (L1 := [(0, .int b), (1, .int 0), (2, .int 15)]) (S1 := [.int 0, .int b]) 2 0 (fun n => rfl) ?_
              refine RP_cond (decide (b < 0)) (fun n => rfl) (fun h => absurd (of_decide_eq_true h) (xi_nlt (x := b) (y := 0) (show 0 ≤ b.toInt by omega))) (fun _ => ?_)
              show RP 55 _ 5 [(0, .int b), (1, .int 0), (2, .int 15)] [] _
              refine RP_step (pc1 := 7) (L1 := [(0, .int b), (1, .int 0), (2, .int 15)]) (S1 := [.int 15, .int b]) 2 0 (fun n => rfl) ?_
              refine RP_cond (decide (15 < b)) (fun n => rfl) (fun h => absurd (of_decide_eq_true h) (xi_nlt (x := 15) (y := b) (show b.toInt ≤ 15 by omega))) (fun _ => ?_)
              show RP 55 _ 10 [(0, .int b), (1, .int 0), (2, .int 15)] [] _
              refine RP_done 5 (fun n => rfl) ?_
              refine Or.inr ⟨1, rfl, ?_⟩
              show RP 57 _ 7 [(0, .int b)] [.int 1] _
              refine RP_done 3 (fun n => rfl) ?_
              refine Or.inr ⟨1, rfl, ?_⟩
              show RP 59 _ 135 [(0, .int 2), (1, .int a), (2, .int b), (3, .int c), (4, .int d)] [.int 1] _
              refine RP_step (pc1 := 139) (L1 := [(0, .int 2), (1, .int a), (2, .int b), (3, .int c), (4, .int d)]) (S1 := [.int c]) 2 0 (fun n => rfl) ?_
              refine RP_cond (decide (c ≠ 0)) (fun n => rfl) (fun _ => ?_) (fun h => absurd (by assumption) (of_decide_eq_false h))
              show RP 59 _ 151 [(0, .int 2), (1, .int a), (2, .int b), (3, .int c), (4, .int d)] [] _
              refine RP_done 4 (fun n => rfl) ?_
              exact ⟨rfl, rfl⟩
            · have h72 := of_decide_eq_false hh
              replace h72 := Decidable.of_not_not h72
              clear hh
              subst h72
              show RP 25 _ 142 [(0, .int 2), (1, .int a), (2, .int b), (3, .int 0), (4, .int d)] [] _
              refine RP_step (pc1 := 144) (L1 := [(0, .int 2), (1, .int a), (2, .int b), (3, .int 0), (4, .int d)]) (S1 := [.int d]) 1 0 (fun n => rfl) ?_
              refine RP_cond (decide (d ≠ 0)) (fun n => rfl) (fun hh => ?_) (fun hh => ?_)
              · have h73 := of_decide_eq_true hh
                show RP 25 _ 151 [(0, .int 2), (1, .int a), (2, .int b), (3, .int 0), (4, .int d)] [] _
                refine RP_done 4 (fun n => rfl) ?_
                refine ⟨Or.inl rfl, rfl, ?_⟩
                show RP 59 _ 0 [(0, .int 2), (1, .int a), (2, .int b), (3, .int 0), (4, .int d)] [] _
                refine RP_step (pc1 := 125) (L1 := [(0, .int 2), (1, .int a), (2, .int b), (3, .int 0), (4, .int d)]) (S1 := [.int a]) 3 0 (fun n => rfl) ?_
                refine RP_call 57 [.int a] (fun n => rfl) ?_
                show RP 57 _ 0 [(0, .int a)] [] _
                refine RP_step (pc1 := 4) (L1 := [(0, .int a)]) (S1 := [.int 15, .int 0, .int a]) 3 0 (fun n => rfl) ?_
                refine RP_call 55 [.int a, .int 0, .int 15] (fun n => rfl) ?_
                show RP 55 _ 0 [(0, .int a), (1, .int 0), (2, .int 15)] [] _
                refine RP_step (pc1 := 2) (L1 := [(0, .int a), (1, .int 0), (2, .int 15)]) (S1 := [.int 0, .int a]) 2 0 (fun n => rfl) ?_
                refine RP_cond (decide (a < 0)) (fun n => rfl) (fun h => absurd (of_decide_eq_true h) (xi_nlt (x := a) (y := 0) (show 0 ≤ a.toInt by omega))) (fun _ => ?_)
                show RP 55 _ 5 [(0, .int a), (1, .int 0), (2, .int 15)] [] _
                refine RP_step (pc1 := 7) (L1 := [(0, .int a), (1, .int 0), (2, .int 15)]) (S1 := [.int 15, .int a]) 2 0 (fun n => rfl) ?_
                refine RP_cond (decide (15 < a)) (fun n => rfl) (fun h => absurd (of_decide_eq_true h) (xi_nlt (x := 15) (y := a) (show a.toInt ≤ 15 by omega))) (fun _ => ?_)
                show RP 55 _ 10 [(0, .int a), (1, .int 0), (2, .int 15)] [] _
                refine RP_done 5 (fun n => rfl) ?_
                refine Or.inr ⟨1, rfl, ?_⟩
                show RP 57 _ 7 [(0, .int a)] [.int 1] _
                refine RP_done 3 (fun n => rfl) ?_
                refine Or.inr ⟨1, rfl, ?_⟩
                show RP 59 _ 128 [(0, .int 2), (1, .int a), (2, .int b), (3, .int 0), (4, .int d)] [.int 1] _
                refine RP_step (pc1 := 132) (L1 := [(0, .int 2), (1, .int a), (2, .int b), (3, .int 0), (4, .int d)]) (S1 := [.int b]) 2 0 (fun n => rfl) ?_
                refine RP_call 57 [.int b] (fun n => rfl) ?_
                show RP 57 _ 0 [(0, .int b)] [] _
                refine RP_step (pc1 := 4) (L1 := [(0, .int b)]) (S1 := [.int 15, .int 0, .int b]) 3 0 (fun n => rfl) ?_
                refine RP_call 55 [.int b, .int 0, .int 15] (fun n => rfl) ?_
                show RP 55 _ 0 [(0, .int b), (1, .int 0), (2, .int 15)] [] _
                refine RP_step (pc1 := 2) (L1 := [(0, .int b), (1, .int 0), (2, .int 15)]) (S1 := [.int 0, .int b]) 2 0 (fun n => rfl) ?_
                refine RP_cond (decide (b < 0)) (fun n => rfl) (fun h => absurd (of_decide_eq_true h) (xi_nlt (x := b) (y := 0) (show 0 ≤ b.toInt by omega))) (fun _ => ?_)
                show RP 55 _ 5 [(0, .int b), (1, .int 0), (2, .int 15)] [] _
                refine RP_step (pc1 := 7) (L1 := [(0, .int b), (1, .int 0), (2, .int 15)]) (S1 := [.int 15, .int b]) 2 0 (fun n => rfl) ?_
                refine RP_cond (decide (15 < b)) (fun n => rfl) (fun h => absurd (of_decide_eq_true h) (xi_nlt (x := 15) (y := b) (show b.toInt ≤ 15 by omega))) (fun _ => ?_)
                show RP 55 _ 10 [(0, .int b), (1, .int 0), (2, .int 15)] [] _
                refine RP_done 5 (fun n => rfl) ?_
                refine Or.inr ⟨1, rfl, ?_⟩
                show RP 57 _ 7 [(0, .int b)] [.int 1] _
                refine RP_done 3 (fun n => rfl) ?_
                refine Or.inr ⟨1, rfl, ?_⟩
                show RP 59 _ 135 [(0, .int 2), (1, .int a), (2, .int b), (3, .int 0), (4, .int d)] [.int 1] _
                refine RP_step (pc1 := 144) (L1 := [(0, .int 2), (1, .int a), (2, .int b), (3, .int 0), (4, .int d)]) (S1 := [.int d]) 4 0 (fun n => rfl) ?_
                refine RP_cond (decide (d ≠ 0)) (fun n => rfl) (fun _ => ?_) (fun h => absurd (by assumption) (of_decide_eq_false h))
                show RP 59 _ 151 [(0, .int 2), (1, .int a), (2, .int b), (3, .int 0), (4, .int d)] [] _
                refine RP_done 4 (fun n => rfl) ?_
                exact ⟨rfl, rfl⟩
              · have h74 := of_decide_eq_false hh
                replace h74 := Decidable.of_not_not h74
                clear hh
                subst h74
                show RP 25 _ 147 [(0, .int 2), (1, .int a), (2, .int b), (3, .int 0), (4, .int 0)] [] _
                refine RP_done 5 (fun n => rfl) ?_
                refine ⟨Or.inr rfl, rfl, ?_⟩
                show RP 59 _ 0 [(0, .int 2), (1, .int a), (2, .int b), (3, .int 0), (4, .int 0)] [] _
                refine RP_step (pc1 := 125) (L1 := [(0, .int 2), (1, .int a), (2, .int b), (3, .int 0), (4, .int 0)]) (S1 := [.int a]) 3 0 (fun n => rfl) ?_
                refine RP_call 57 [.int a] (fun n => rfl) ?_
                show RP 57 _ 0 [(0, .int a)] [] _
                refine RP_step (pc1 := 4) (L1 := [(0, .int a)]) (S1 := [.int 15, .int 0, .int a]) 3 0 (fun n => rfl) ?_
                refine RP_call 55 [.int a, .int 0, .int 15] (fun n => rfl) ?_
                show RP 55 _ 0 [(0, .int a), (1, .int 0), (2, .int 15)] [] _
                refine RP_step (pc1 := 2) (L1 := [(0, .int a), (1, .int 0), (2, .int 15)]) (S1 := [.int 0, .int a]) 2 0 (fun n => rfl) ?_
                refine RP_cond (decide (a < 0)) (fun n => rfl) (fun h => absurd (of_decide_eq_true h) (xi_nlt (x := a) (y := 0) (show 0 ≤ a.toInt by omega))) (fun _ => ?_)
                show RP 55 _ 5 [(0, .int a), (1, .int 0), (2, .int 15)] [] _
                refine RP_step (pc1 := 7) (L1 := [(0, .int a), (1, .int 0), (2, .int 15)]) (S1 := [.int 15, .int a]) 2 0 (fun n => rfl) ?_
                refine RP_cond (decide (15 < a)) (fun n => rfl) (fun h => absurd (of_decide_eq_true h) (xi_nlt (x := 15) (y := a) (show a.toInt ≤ 15 by omega))) (fun _ => ?_)
                show RP 55 _ 10 [(0, .int a), (1, .int 0), (2, .int 15)] [] _
                refine RP_done 5 (fun n => rfl) ?_
                refine Or.inr ⟨1, rfl, ?_⟩
                show RP 57 _ 7 [(0, .int a)] [.int 1] _
                refine RP_done 3 (fun n => rfl) ?_
                refine Or.inr ⟨1, rfl, ?_⟩
                show RP 59 _ 128 [(0, .int 2), (1, .int a), (2, .int b), (3, .int 0), (4, .int 0)] [.int 1] _
                refine RP_step (pc1 := 132) (L1 := [(0, .int 2), (1, .int a), (2, .int b), (3, .int 0), (4, .int 0)]) (S1 := [.int b]) 2 0 (fun n => rfl) ?_
                refine RP_call 57 [.int b] (fun n => rfl) ?_
                show RP 57 _ 0 [(0, .int b)] [] _
                refine RP_step (pc1 := 4) (L1 := [(0, .int b)]) (S1 := [.int 15, .int 0, .int b]) 3 0 (fun n => rfl) ?_
                refine RP_call 55 [.int b, .int 0, .int 15] (fun n => rfl) ?_
                show RP 55 _ 0 [(0, .int b), (1, .int 0), (2, .int 15)] [] _
                refine RP_step (pc1 := 2) (L1 := [(0, .int b), (1, .int 0), (2, .int 15)]) (S1 := [.int 0, .int b]) 2 0 (fun n => rfl) ?_
                refine RP_cond (decide (b < 0)) (fun n => rfl) (fun h => absurd (of_decide_eq_true h) (xi_nlt (x := b) (y := 0) (show 0 ≤ b.toInt by omega))) (fun _ => ?_)
                show RP 55 _ 5 [(0, .int b), (1, .int 0), (2, .int 15)] [] _
                refine RP_step (pc1 := 7) (L1 := [(0, .int b), (1, .int 0), (2, .int 15)]) (S1 := [.int 15, .int b]) 2 0 (fun n => rfl) ?_
                refine RP_cond (decide (15 < b)) (fun n => rfl) (fun h => absurd (of_decide_eq_true h) (xi_nlt (x := 15) (y := b) (show b.toInt ≤ 15 by omega))) (fun _ => ?_)
                show RP 55 _ 10 [(0, .int b), (1, .int 0), (2, .int 15)] [] _
                refine RP_done 5 (fun n => rfl) ?_
                refine Or.inr ⟨1, rfl, ?_⟩
                show RP 57 _ 7 [(0, .int b)] [.int 1] _
                refine RP_done 3 (fun n => rfl) ?_
                refine Or.inr ⟨1, rfl, ?_⟩
                show RP 59 _ 135 [(0, .int 2), (1, .int a), (2, .int b), (3, .int 0), (4, .int 0)] [.int 1] _
                refine RP_done 10 (fun n => rfl) ?_
                exact ⟨rfl, rfl⟩
  · skip
    show RP 25 _ 0 [(0, .int 3), (1, .int a), (2, .int b), (3, .int c), (4, .int d)] [] _
    refine RP_step (pc1 := 154) (L1 := [(0, .int 3), (1, .int a), (2, .int b), (3, .int c), (4, .int d)]) (S1 := [.int a]) 3 0 (fun n => rfl) ?_
    refine RP_call 23 [.int a] (fun n => rfl) ?_
    show RP 23 _ 0 [(0, .int a)] [] _
    refine RP_step (pc1 := 1) (L1 := [(0, .int a)]) (S1 := [.int a]) 1 0 (fun n => rfl) ?_
    refine RP_cond (decide (a < 0)) (fun n => rfl) (fun hh => ?_) (fun hh => ?_)
    · have h75 := of_decide_eq_true hh
      have h76 : a.toInt < 0 := xj_lt h75
      show RP 23 _ 14 [(0, .int a)] [] _
      refine RP_done 4 (fun n => rfl) ?_
      refine Or.inr ⟨0, rfl, ?_⟩
      show RP 25 _ 157 [(0, .int 3), (1, .int a), (2, .int b), (3, .int c), (4, .int d)] [.int 0] _
      refine RP_done 5 (fun n => rfl) ?_
      refine ⟨Or.inl rfl, rfl, ?_⟩
      show RP 59 _ 0 [(0, .int 3), (1, .int a), (2, .int b), (3, .int c), (4, .int d)] [] _
      refine RP_step (pc1 := 154) (L1 := [(0, .int 3), (1, .int a), (2, .int b), (3, .int c), (4, .int d)]) (S1 := [.int a]) 3 0 (fun n => rfl) ?_
      refine RP_call 57 [.int a] (fun n => rfl) ?_
      show RP 57 _ 0 [(0, .int a)] [] _
      refine RP_step (pc1 := 4) (L1 := [(0, .int a)]) (S1 := [.int 15, .int 0, .int a]) 3 0 (fun n => rfl) ?_
      refine RP_call 55 [.int a, .int 0, .int 15] (fun n => rfl) ?_
      show RP 55 _ 0 [(0, .int a), (1, .int 0), (2, .int 15)] [] _
      refine RP_step (pc1 := 2) (L1 := [(0, .int a), (1, .int 0), (2, .int 15)]) (S1 := [.int 0, .int a]) 2 0 (fun n => rfl) ?_
      refine RP_cond (decide (a < 0)) (fun n => rfl) (fun _ => ?_) (fun h => absurd (xi_lt (x := a) (y := 0) (show a.toInt < 0 by omega)) (of_decide_eq_false h))
      show RP 55 _ 14 [(0, .int a), (1, .int 0), (2, .int 15)] [] _
      refine RP_done 4 (fun n => rfl) ?_
      refine Or.inr ⟨0, rfl, ?_⟩
      show RP 57 _ 7 [(0, .int a)] [.int 0] _
      refine RP_done 3 (fun n => rfl) ?_
      refine Or.inr ⟨0, rfl, ?_⟩
      show RP 59 _ 157 [(0, .int 3), (1, .int a), (2, .int b), (3, .int c), (4, .int d)] [.int 0] _
      refine RP_done 5 (fun n => rfl) ?_
      exact ⟨rfl, rfl⟩
    · have h77 := of_decide_eq_false hh
      have h78 : 0 ≤ a.toInt := xj_nlt h77
      show RP 23 _ 4 [(0, .int a)] [] _
      refine RP_step (pc1 := 7) (L1 := [(0, .int a)]) (S1 := [.int 16, .int a]) 2 0 (fun n => rfl) ?_
      refine RP_cond (decide (16 ≤ a)) (fun n => rfl) (fun hh => ?_) (fun hh => ?_)
      · have h79 := of_decide_eq_true hh
        have h80 : 16 ≤ a.toInt := xj_le h79
        show RP 23 _ 14 [(0, .int a)] [] _
        refine RP_done 4 (fun n => rfl) ?_
        refine Or.inr ⟨0, rfl, ?_⟩
        show RP 25 _ 157 [(0, .int 3), (1, .int a), (2, .int b), (3, .int c), (4, .int d)] [.int 0] _
        refine RP_done 5 (fun n => rfl) ?_
        refine ⟨Or.inl rfl, rfl, ?_⟩
        show RP 59 _ 0 [(0, .int 3), (1, .int a), (2, .int b), (3, .int c), (4, .int d)] [] _
        refine RP_step (pc1 := 154) (L1 := [(0, .int 3), (1, .int a), (2, .int b), (3, .int c), (4, .int d)]) (S1 := [.int a]) 3 0 (fun n => rfl) ?_
        refine RP_call 57 [.int a] (fun n => rfl) ?_
        show RP 57 _ 0 [(0, .int a)] [] _
        refine RP_step (pc1 := 4) (L1 := [(0, .int a)]) (S1 := [.int 15, .int 0, .int a]) 3 0 (fun n => rfl) ?_
        refine RP_call 55 [.int a, .int 0, .int 15] (fun n => rfl) ?_
        show RP 55 _ 0 [(0, .int a), (1, .int 0), (2, .int 15)] [] _
        refine RP_step (pc1 := 2) (L1 := [(0, .int a), (1, .int 0), (2, .int 15)]) (S1 := [.int 0, .int a]) 2 0 (fun n => rfl) ?_
        refine RP_cond (decide (a < 0)) (fun n => rfl) (fun h => absurd (of_decide_eq_true h) (xi_nlt (x := a) (y := 0) (show 0 ≤ a.toInt by omega))) (fun _ => ?_)
        show RP 55 _ 5 [(0, .int a), (1, .int 0), (2, .int 15)] [] _
        refine RP_step (pc1 := 7) (L1 := [(0, .int a), (1, .int 0), (2, .int 15)]) (S1 := [.int 15, .int a]) 2 0 (fun n => rfl) ?_
        refine RP_cond (decide (15 < a)) (fun n => rfl) (fun _ => ?_) (fun h => absurd (xi_lt (x := 15) (y := a) (show 15 < a.toInt by omega)) (of_decide_eq_false h))
        show RP 55 _ 14 [(0, .int a), (1, .int 0), (2, .int 15)] [] _
        refine RP_done 4 (fun n => rfl) ?_
        refine Or.inr ⟨0, rfl, ?_⟩
        show RP 57 _ 7 [(0, .int a)] [.int 0] _
        refine RP_done 3 (fun n => rfl) ?_
        refine Or.inr ⟨0, rfl, ?_⟩
        show RP 59 _ 157 [(0, .int 3), (1, .int a), (2, .int b), (3, .int c), (4, .int d)] [.int 0] _
        refine RP_done 5 (fun n => rfl) ?_
        exact ⟨rfl, rfl⟩
      · have h81 := of_decide_eq_false hh
        have h82 : a.toInt < 16 := xj_nle h81
        show RP 23 _ 10 [(0, .int a)] [] _
        refine RP_done 5 (fun n => rfl) ?_
        refine Or.inr ⟨1, rfl, ?_⟩
        show RP 25 _ 157 [(0, .int 3), (1, .int a), (2, .int b), (3, .int c), (4, .int d)] [.int 1] _
        refine RP_step (pc1 := 161) (L1 := [(0, .int 3), (1, .int a), (2, .int b), (3, .int c), (4, .int d)]) (S1 := [.int b]) 2 0 (fun n => rfl) ?_
        refine RP_cond (decide (b ≠ 0)) (fun n => rfl) (fun hh => ?_) (fun hh => ?_)
        · have h83 := of_decide_eq_true hh
          show RP 25 _ 177 [(0, .int 3), (1, .int a), (2, .int b), (3, .int c), (4, .int d)] [] _
          refine RP_done 4 (fun n => rfl) ?_
          refine ⟨Or.inl rfl, rfl, ?_⟩
          show RP 59 _ 0 [(0, .int 3), (1, .int a), (2, .int b), (3, .int c), (4, .int d)] [] _
          refine RP_step (pc1 := 154) (L1 := [(0, .int 3), (1, .int a), (2, .int b), (3, .int c), (4, .int d)]) (S1 := [.int a]) 3 0 (fun n => rfl) ?_
          refine RP_call 57 [.int a] (fun n => rfl) ?_
          show RP 57 _ 0 [(0, .int a)] [] _
          refine RP_step (pc1 := 4) (L1 := [(0, .int a)]) (S1 := [.int 15, .int 0, .int a]) 3 0 (fun n => rfl) ?_
          refine RP_call 55 [.int a, .int 0, .int 15] (fun n => rfl) ?_
          show RP 55 _ 0 [(0, .int a), (1, .int 0), (2, .int 15)] [] _
          refine RP_step (pc1 := 2) (L1 := [(0, .int a), (1, .int 0), (2, .int 15)]) (S1 := [.int 0, .int a]) 2 0 (fun n => rfl) ?_
          refine RP_cond (decide (a < 0)) (fun n => rfl) (fun h => absurd (of_decide_eq_true h) (xi_nlt (x := a) (y := 0) (show 0 ≤ a.toInt by omega))) (fun _ => ?_)
          show RP 55 _ 5 [(0, .int a), (1, .int 0), (2, .int 15)] [] _
          refine RP_step (pc1 := 7) (L1 := [(0, .int a), (1, .int 0), (2, .int 15)]) (S1 := [.int 15, .int a]) 2 0 (fun n => rfl) ?_
          refine RP_cond (decide (15 < a)) (fun n => rfl) (fun h => absurd (of_decide_eq_true h) (xi_nlt (x := 15) (y := a) (show a.toInt ≤ 15 by omega))) (fun _ => ?_)
          show RP 55 _ 10 [(0, .int a), (1, .int 0), (2, .int 15)] [] _
          refine RP_done 5 (fun n => rfl) ?_
          refine Or.inr ⟨1, rfl, ?_⟩
          show RP 57 _ 7 [(0, .int a)] [.int 1] _
          refine RP_done 3 (fun n => rfl) ?_
          refine Or.inr ⟨1, rfl, ?_⟩
          show RP 59 _ 157 [(0, .int 3), (1, .int a), (2, .int b), (3, .int c), (4, .int d)] [.int 1] _
          refine RP_step (pc1 := 161) (L1 := [(0, .int 3), (1, .int a), (2, .int b), (3, .int c), (4, .int d)]) (S1 := [.int b]) 2 0 (fun n => rfl) ?_
          refine RP_cond (decide (b ≠ 0)) (fun n => rfl) (fun _ => ?_) (fun h => absurd (by assumption) (of_decide_eq_false h))
          show RP 59 _ 177 [(0, .int 3), (1, .int a), (2, .int b), (3, .int c), (4, .int d)] [] _
          refine RP_done 4 (fun n => rfl) ?_
          exact ⟨rfl, rfl⟩
        · have h84 := of_decide_eq_false hh
          replace h84 := Decidable.of_not_not h84
          clear hh
          subst h84
          show RP 25 _ 164 [(0, .int 3), (1, .int a), (2, .int 0), (3, .int c), (4, .int d)] [] _
          refine RP_step (pc1 := 165) (L1 := [(0, .int 3), (1, .int a), (2, .int 0), (3, .int c), (4, .int d)]) (S1 := [.int c]) 1 0 (fun n => rfl) ?_
          refine RP_cond (decide (c ≠ 0)) (fun n => rfl) (fun hh => ?_) (fun hh => ?_)
          · have h85 := of_decide_eq_true hh
            show RP 25 _ 177 [(0, .int 3), (1, .int a), (2, .int 0), (3, .int c), (4, .int d)] [] _
            refine RP_done 4 (fun n => rfl) ?_
            refine ⟨Or.inl rfl, rfl, ?_⟩
            show RP 59 _ 0 [(0, .int 3), (1, .int a), (2, .int 0), (3, .int c), (4, .int d)] [] _
            refine RP_step (pc1 := 154) (L1 := [(0, .int 3), (1, .int a), (2, .int 0), (3, .int c), (4, .int d)]) (S1 := [.int a]) 3 0 (fun n => rfl) ?_
            refine RP_call 57 [.int a] (fun n => rfl) ?_
            show RP 57 _ 0 [(0, .int a)] [] _
            refine RP_step (pc1 := 4) (L1 := [(0, .int a)]) (S1 := [.int 15, .int 0, .int a]) 3 0 (fun n => rfl) ?_
            refine RP_call 55 [.int a, .int 0, .int 15] (fun n => rfl) ?_
            show RP 55 _ 0 [(0, .int a), (1, .int 0), (2, .int 15)] [] _
            refine RP_step (pc1 := 2) (L1 := [(0, .int a), (1, .int 0), (2, .int 15)]) (S1 := [.int 0, .int a]) 2 0 (fun n => rfl) ?_
            refine RP_cond (decide (a < 0)) (fun n => rfl) (fun h => absurd (of_decide_eq_true h) (xi_nlt (x := a) (y := 0) (show 0 ≤ a.toInt by omega))) (fun _ => ?_)
            show RP 55 _ 5 [(0, .int a), (1, .int 0), (2, .int 15)] [] _
            refine RP_step (pc1 := 7) (L1 := [(0, .int a), (1, .int 0), (2, .int 15)]) (S1 := [.int 15, .int a]) 2 0 (fun n => rfl) ?_
            refine RP_cond (decide (15 < a)) (fun n => rfl) (fun h => absurd (of_decide_eq_true h) (xi_nlt (x := 15) (y := a) (show a.toInt ≤ 15 by omega))) (fun _ => ?_)
            show RP 55 _ 10 [(0, .int a), (1, .int 0), (2, .int 15)] [] _
            refine RP_done 5 (fun n => rfl) ?_
            refine Or.inr ⟨1, rfl, ?_⟩
            show RP 57 _ 7 [(0, .int a)] [.int 1] _
            refine RP_done 3 (fun n => rfl) ?_
            refine Or.inr ⟨1, rfl, ?_⟩
            show RP 59 _ 157 [(0, .int 3), (1, .int a), (2, .int 0), (3, .int c), (4, .int d)] [.int 1] _
            refine RP_step (pc1 := 165) (L1 := [(0, .int 3), (1, .int a), (2, .int 0), (3, .int c), (4, .int d)]) (S1 := [.int c]) 4 0 (fun n => rfl) ?_
            refine RP_cond (decide (c ≠ 0)) (fun n => rfl) (fun _ => ?_) (fun h => absurd (by assumption) (of_decide_eq_false h))
            show RP 59 _ 177 [(0, .int 3), (1, .int a), (2, .int 0), (3, .int c), (4, .int d)] [] _
            refine RP_done 4 (fun n => rfl) ?_
            exact ⟨rfl, rfl⟩
          · have h86 := of_decide_eq_false hh
            replace h86 := Decidable.of_not_not h86
            clear hh
            subst h86
            show RP 25 _ 168 [(0, .int 3), (1, .int a), (2, .int 0), (3, .int 0), (4, .int d)] [] _
            refine RP_step (pc1 := 170) (L1 := [(0, .int 3), (1, .int a), (2, .int 0), (3, .int 0), (4, .int d)]) (S1 := [.int d]) 1 0 (fun n => rfl) ?_
            refine RP_cond (decide (d ≠ 0)) (fun n => rfl) (fun hh => ?_) (fun hh => ?_)
            · have h87 := of_decide_eq_true hh
              show RP 25 _ 177 [(0, .int 3), (1, .int a), (2, .int 0), (3, .int 0), (4, .int d)] [] _
              refine RP_done 4 (fun n => rfl) ?_
              refine ⟨Or.inl rfl, rfl, ?_⟩
              show RP 59 _ 0 [(0, .int 3), (1, .int a), (2, .int 0), (3, .int 0), (4, .int d)] [] _
              refine RP_step (pc1 := 154) (L1 := [(0, .int 3), (1, .int a), (2, .int 0), (3, .int 0), (4, .int d)]) (S1 := [.int a]) 3 0 (fun n => rfl) ?_
              refine RP_call 57 [.int a] (fun n => rfl) ?_
              show RP 57 _ 0 [(0, .int a)] [] _
              refine RP_step (pc1 := 4) (L1 := [(0, .int a)]) (S1 := [.int 15, .int 0, .int a]) 3 0 (fun n => rfl) ?_
              refine RP_call 55 [.int a, .int 0, .int 15] (fun n => rfl) ?_
              show RP 55 _ 0 [(0, .int a), (1, .int 0), (2, .int 15)] [] _
              refine RP_step (pc1 := 2) (L1 := [(0, .int a), (1, .int 0), (2, .int 15)]) (S1 := [.int 0, .int a]) 2 0 (fun n => rfl) ?_
              refine RP_cond (decide (a < 0)) (fun n => rfl) (fun h => absurd (of_decide_eq_true h) (xi_nlt (x := a) (y := 0) (show 0 ≤ a.toInt by omega))) (fun _ => ?_)
              show RP 55 _ 5 [(0, .int a), (1, .int 0), (2, .int 15)] [] _
              refine RP_step (pc1 := 7) (L1 := [(0, .int a), (1, .int 0), (2, .int 15)]) (S1 := [.int 15, .int a]) 2 0 (fun n => rfl) ?_
              refine RP_cond (decide (15 < a)) (fun n => rfl) (fun h => absurd (of_decide_eq_true h) (xi_nlt (x := 15) (y := a) (show a.toInt ≤ 15 by omega))) (fun _ => ?_)
              show RP 55 _ 10 [(0, .int a), (1, .int 0), (2, .int 15)] [] _
              refine RP_done 5 (fun n => rfl) ?_
              refine Or.inr ⟨1, rfl, ?_⟩
              show RP 57 _ 7 [(0, .int a)] [.int 1] _
              refine RP_done 3 (fun n => rfl) ?_
              refine Or.inr ⟨1, rfl, ?_⟩
              show RP 59 _ 157 [(0, .int 3), (1, .int a), (2, .int 0), (3, .int 0), (4, .int d)] [.int 1] _
              refine RP_step (pc1 := 170) (L1 := [(0, .int 3), (1, .int a), (2, .int 0), (3, .int 0), (4, .int d)]) (S1 := [.int d]) 6 0 (fun n => rfl) ?_
              refine RP_cond (decide (d ≠ 0)) (fun n => rfl) (fun _ => ?_) (fun h => absurd (by assumption) (of_decide_eq_false h))
              show RP 59 _ 177 [(0, .int 3), (1, .int a), (2, .int 0), (3, .int 0), (4, .int d)] [] _
              refine RP_done 4 (fun n => rfl) ?_
              exact ⟨rfl, rfl⟩
            · have h88 := of_decide_eq_false hh
              replace h88 := Decidable.of_not_not h88
              clear hh
              subst h88
              show RP 25 _ 173 [(0, .int 3), (1, .int a), (2, .int 0), (3, .int 0), (4, .int 0)] [] _
              refine RP_done 5 (fun n => rfl) ?_
              refine ⟨Or.inr rfl, rfl, ?_⟩
              show RP 59 _ 0 [(0, .int 3), (1, .int a), (2, .int 0), (3, .int 0), (4, .int 0)] [] _
              refine RP_step (pc1 := 154) (L1 := [(0, .int 3), (1, .int a), (2, .int 0), (3, .int 0), (4, .int 0)]) (S1 := [.int a]) 3 0 (fun n => rfl) ?_
              refine RP_call 57 [.int a] (fun n => rfl) ?_
              show RP 57 _ 0 [(0, .int a)] [] _
              refine RP_step (pc1 := 4) (L1 := [(0, .int a)]) (S1 := [.int 15, .int 0, .int a]) 3 0 (fun n => rfl) ?_
              refine RP_call 55 [.int a, .int 0, .int 15] (fun n => rfl) ?_
              show RP 55 _ 0 [(0, .int a), (1, .int 0), (2, .int 15)] [] _
              refine RP_step (pc1 := 2) (L1 := [(0, .int a), (1, .int 0), (2, .int 15)]) (S1 := [.int 0, .int a]) 2 0 (fun n => rfl) ?_
              refine RP_cond (decide (a < 0)) (fun n => rfl) (fun h => absurd (of_decide_eq_true h) (xi_nlt (x := a) (y := 0) (show 0 ≤ a.toInt by omega))) (fun _ => ?_)
              show RP 55 _ 5 [(0, .int a), (1, .int 0), (2, .int 15)] [] _
              refine RP_step (pc1 := 7) (L1 := [(0, .int a), (1, .int 0), (2, .int 15)]) (S1 := [.int 15, .int a]) 2 0 (fun n => rfl) ?_
              refine RP_cond (decide (15 < a)) (fun n => rfl) (fun h => absurd (of_decide_eq_true h) (xi_nlt (x := 15) (y := a) (show a.toInt ≤ 15 by omega))) (fun _ => ?_)
              show RP 55 _ 10 [(0, .int a), (1, .int 0), (2, .int 15)] [] _
              refine RP_done 5 (fun n => rfl) ?_
              refine Or.inr ⟨1, rfl, ?_⟩
              show RP 57 _ 7 [(0, .int a)] [.int 1] _
              refine RP_done 3 (fun n => rfl) ?_
              refine Or.inr ⟨1, rfl, ?_⟩
              show RP 59 _ 157 [(0, .int 3), (1, .int a), (2, .int 0), (3, .int 0), (4, .int 0)] [.int 1] _
              refine RP_done 12 (fun n => rfl) ?_
              exact ⟨rfl, rfl⟩
  · skip
    show RP 25 _ 0 [(0, .int 4), (1, .int a), (2, .int b), (3, .int c), (4, .int d)] [] _
    refine RP_step (pc1 := 154) (L1 := [(0, .int 4), (1, .int a), (2, .int b), (3, .int c), (4, .int d)]) (S1 := [.int a]) 3 0 (fun n => rfl) ?_
    refine RP_call 23 [.int a] (fun n => rfl) ?_
    show RP 23 _ 0 [(0, .int a)] [] _
    refine RP_step (pc1 := 1) (L1 := [(0, .int a)]) (S1 := [.int a]) 1 0 (fun n => rfl) ?_
    refine RP_cond (decide (a < 0)) (fun n => rfl) (fun hh => ?_) (fun hh => ?_)
    · have h89 := of_decide_eq_true hh
      have h90 : a.toInt < 0 := xj_lt h89
      show RP 23 _ 14 [(0, .int a)] [] _
      refine RP_done 4 (fun n => rfl) ?_
      refine Or.inr ⟨0, rfl, ?_⟩
      show RP 25 _ 157 [(0, .int 4), (1, .int a), (2, .int b), (3, .int c), (4, .int d)] [.int 0] _
      refine RP_done 5 (fun n => rfl) ?_
      refine ⟨Or.inl rfl, rfl, ?_⟩
      show RP 59 _ 0 [(0, .int 4), (1, .int a), (2, .int b), (3, .int c), (4, .int d)] [] _
      refine RP_step (pc1 := 154) (L1 := [(0, .int 4), (1, .int a), (2, .int b), (3, .int c), (4, .int d)]) (S1 := [.int a]) 3 0 (fun n => rfl) ?_
      refine RP_call 57 [.int a] (fun n => rfl) ?_
      show RP 57 _ 0 [(0, .int a)] [] _
      refine RP_step (pc1 := 4) (L1 := [(0, .int a)]) (S1 := [.int 15, .int 0, .int a]) 3 0 (fun n => rfl) ?_
      refine RP_call 55 [.int a, .int 0, .int 15] (fun n => rfl) ?_
      show RP 55 _ 0 [(0, .int a), (1, .int 0), (2, .int 15)] [] _
      refine RP_step (pc1 := 2) (L1 := [(0, .int a), (1, .int 0), (2, .int 15)]) (S1 := [.int 0, .int a]) 2 0 (fun n => rfl) ?_
      refine RP_cond (decide (a < 0)) (fun n => rfl) (fun _ => ?_) (fun h => absurd (xi_lt (x := a) (y := 0) (show a.toInt < 0 by omega)) (of_decide_eq_false h))
      show RP 55 _ 14 [(0, .int a), (1, .int 0), (2, .int 15)] [] _
      refine RP_done 4 (fun n => rfl) ?_
      refine Or.inr ⟨0, rfl, ?_⟩
      show RP 57 _ 7 [(0, .int a)] [.int 0] _
      refine RP_done 3 (fun n => rfl) ?_
      refine Or.inr ⟨0, rfl, ?_⟩
      show RP 59 _ 157 [(0, .int 4), (1, .int a), (2, .int b), (3, .int c), (4, .int d)] [.int 0] _
      refine RP_done 5 (fun n => rfl) ?_
      exact ⟨rfl, rfl⟩
    · have h91 := of_decide_eq_false hh
      have h92 : 0 ≤ a.toInt := xj_nlt h91
      show RP 23 _ 4 [(0, .int a)] [] _
      refine RP_step (pc1 := 7) (L1 := [(0, .int a)]) (S1 := [.int 16, .int a]) 2 0 (fun n => rfl) ?_
      refine RP_cond (decide (16 ≤ a)) (fun n => rfl) (fun hh => ?_) (fun hh => ?_)
      · have h93 := of_decide_eq_true hh
        have h94 : 16 ≤ a.toInt := xj_le h93
        show RP 23 _ 14 [(0, .int a)] [] _
        refine RP_done 4 (fun n => rfl) ?_
        refine Or.inr ⟨0, rfl, ?_⟩
        show RP 25 _ 157 [(0, .int 4), (1, .int a), (2, .int b), (3, .int c), (4, .int d)] [.int 0] _
        refine RP_done 5 (fun n => rfl) ?_
        refine ⟨Or.inl rfl, rfl, ?_⟩
        show RP 59 _ 0 [(0, .int 4), (1, .int a), (2, .int b), (3, .int c), (4, .int d)] [] _
        refine RP_step (pc1 := 154) (L1 := [(0, .int 4), (1, .int a), (2, .int b), (3, .int c), (4, .int d)]) (S1 := [.int a]) 3 0 (fun n => rfl) ?_
        refine RP_call 57 [.int a] (fun n => rfl) ?_
        show RP 57 _ 0 [(0, .int a)] [] _
        refine RP_step (pc1 := 4) (L1 := [(0, .int a)]) (S1 := [.int 15, .int 0, .int a]) 3 0 (fun n => rfl) ?_
        refine RP_call 55 [.int a, .int 0, .int 15] (fun n => rfl) ?_
        show RP 55 _ 0 [(0, .int a), (1, .int 0), (2, .int 15)] [] _
        refine RP_step (pc1 := 2) (L1 := [(0, .int a), (1, .int 0), (2, .int 15)]) (S1 := [.int 0, .int a]) 2 0 (fun n => rfl) ?_
        refine RP_cond (decide (a < 0)) (fun n => rfl) (fun h => absurd (of_decide_eq_true h) (xi_nlt (x := a) (y := 0) (show 0 ≤ a.toInt by omega))) (fun _ => ?_)
        show RP 55 _ 5 [(0, .int a), (1, .int 0), (2, .int 15)] [] _
        refine RP_step (pc1 := 7) (L1 := [(0, .int a), (1, .int 0), (2, .int 15)]) (S1 := [.int 15, .int a]) 2 0 (fun n => rfl) ?_
        refine RP_cond (decide (15 < a)) (fun n => rfl) (fun _ => ?_) (fun h => absurd (xi_lt (x := 15) (y := a) (show 15 < a.toInt by omega)) (of_decide_eq_false h))
        show RP 55 _ 14 [(0, .int a), (1, .int 0), (2, .int 15)] [] _
        refine RP_done 4 (fun n => rfl) ?_
        refine Or.inr ⟨0, rfl, ?_⟩
        show RP 57 _ 7 [(0, .int a)] [.int 0] _
        refine RP_done 3 (fun n => rfl) ?_
        refine Or.inr ⟨0, rfl, ?_⟩
        show RP 59 _ 157 [(0, .int 4), (1, .int a), (2, .int b), (3, .int c), (4, .int d)] [.int 0] _
        refine RP_done 5 (fun n => rfl) ?_
        exact ⟨rfl, rfl⟩
      · have h95 := of_decide_eq_false hh
        have h96 : a.toInt < 16 := xj_nle h95
        show RP 23 _ 10 [(0, .int a)] [] _
        refine RP_done 5 (fun n => rfl) ?_
        refine Or.inr ⟨1, rfl, ?_⟩
        show RP 25 _ 157 [(0, .int 4), (1, .int a), (2, .int b), (3, .int c), (4, .int d)] [.int 1] _
        refine RP_step (pc1 := 161) (L1 := [(0, .int 4), (1, .int a), (2, .int b), (3, .int c), (4, .int d)]) (S1 := [.int b]) 2 0 (fun n => rfl) ?_
        refine RP_cond (decide (b ≠ 0)) (fun n => rfl) (fun hh => ?_) (fun hh => ?_)
        · have h97 := of_decide_eq_true hh
          show RP 25 _ 177 [(0, .int 4), (1, .int a), (2, .int b), (3, .int c), (4, .int d)] [] _
          refine RP_done 4 (fun n => rfl) ?_
          refine ⟨Or.inl rfl, rfl, ?_⟩
          show RP 59 _ 0 [(0, .int 4), (1, .int a), (2, .int b), (3, .int c), (4, .int d)] [] _
          refine RP_step (pc1 := 154) (L1 := [(0, .int 4), (1, .int a), (2, .int b), (3, .int c), (4, .int d)]) (S1 := [.int a]) 3 0 (fun n => rfl) ?_
          refine RP_call 57 [.int a] (fun n => rfl) ?_
          show RP 57 _ 0 [(0, .int a)] [] _
          refine RP_step (pc1 := 4) (L1 := [(0, .int a)]) (S1 := [.int 15, .int 0, .int a]) 3 0 (fun n => rfl) ?_
          refine RP_call 55 [.int a, .int 0, .int 15] (fun n => rfl) ?_
          show RP 55 _ 0 [(0, .int a), (1, .int 0), (2, .int 15)] [] _
          refine RP_step (pc1 := 2) (L1 := [(0, .int a), (1, .int 0), (2, .int 15)]) (S1 := [.int 0, .int a]) 2 0 (fun n => rfl) ?_
          refine RP_cond (decide (a < 0)) (fun n => rfl) (fun h => absurd (of_decide_eq_true h) (xi_nlt (x := a) (y := 0) (show 0 ≤ a.toInt by omega))) (fun _ => ?_)
          show RP 55 _ 5 [(0, .int a), (1, .int 0), (2, .int 15)] [] _
          refine RP_step (pc1 := 7) (L1 := [(0, .int a), (1, .int 0), (2, .int 15)]) (S1 := [.int 15, .int a]) 2 0 (fun n => rfl) ?_
          refine RP_cond (decide (15 < a)) (fun n => rfl) (fun h => absurd (of_decide_eq_true h) (xi_nlt (x := 15) (y := a) (show a.toInt ≤ 15 by omega))) (fun _ => ?_)
          show RP 55 _ 10 [(0, .int a), (1, .int 0), (2, .int 15)] [] _
          refine RP_done 5 (fun n => rfl) ?_
          refine Or.inr ⟨1, rfl, ?_⟩
          show RP 57 _ 7 [(0, .int a)] [.int 1] _
          refine RP_done 3 (fun n => rfl) ?_
          refine Or.inr ⟨1, rfl, ?_⟩
          show RP 59 _ 157 [(0, .int 4), (1, .int a), (2, .int b), (3, .int c), (4, .int d)] [.int 1] _
          refine RP_step (pc1 := 161) (L1 := [(0, .int 4), (1, .int a), (2, .int b), (3, .int c), (4, .int d)]) (S1 := [.int b]) 2 0 (fun n => rfl) ?_
          refine RP_cond (decide (b ≠ 0)) (fun n => rfl) (fun _ => ?_) (fun h => absurd (by assumption) (of_decide_eq_false h))
          show RP 59 _ 177 [(0, .int 4), (1, .int a), (2, .int b), (3, .int c), (4, .int d)] [] _
          refine RP_done 4 (fun n => rfl) ?_
          exact ⟨rfl, rfl⟩
        · have h98 := of_decide_eq_false hh
          replace h98 := Decidable.of_not_not h98
          clear hh
          subst h98
          show RP 25 _ 164 [(0, .int 4), (1, .int a), (2, .int 0), (3, .int c), (4, .int d)] [] _
          refine RP_step (pc1 := 165) (L1 := [(0, .int 4), (1, .int a), (2, .int 0), (3, .int c), (4, .int d)]) (S1 := [.int c]) 1 0 (fun n => rfl) ?_
          refine RP_cond (decide (c ≠ 0)) (fun n => rfl) (fun hh => ?_) (fun hh => ?_)
          · have h99 := of_decide_eq_true hh
            show RP 25 _ 177 [(0, .int 4), (1, .int a), (2, .int 0), (3, .int c), (4, .int d)] [] _
            refine RP_done 4 (fun n => rfl) ?_
            refine ⟨Or.inl rfl, rfl, ?_⟩
            show RP 59 _ 0 [(0, .int 4), (1, .int a), (2, .int 0), (3, .int c), (4, .int d)] [] _
            refine RP_step (pc1 := 154) (L1 := [(0, .int 4), (1, .int a), (2, .int 0), (3, .int c), (4, .int d)]) (S1 := [.int a]) 3 0 (fun n => rfl) ?_
            refine RP_call 57 [.int a] (fun n => rfl) ?_
            show RP 57 _ 0 [(0, .int a)] [] _
            refine RP_step (pc1 := 4) (L1 := [(0, .int a)]) (S1 := [.int 15, .int 0, .int a]) 3 0 (fun n => rfl) ?_
            refine RP_call 55 [.int a, .int 0, .int 15] (fun n => rfl) ?_
            show RP 55 _ 0 [(0, .int a), (1, .int 0), (2, .int 15)] [] _
            refine RP_step (pc1 := 2) (L1 := [(0, .int a), (1, .int 0), (2, .int 15)]) (S1 := [.int 0, .int a]) 2 0 (fun n => rfl) ?_
            refine RP_cond (decide (a < 0)) (fun n => rfl) (fun h => absurd (of_decide_eq_true h) (xi_nlt (x := a) (y := 0) (show 0 ≤ a.toInt by omega))) (fun _ => ?_)
            show RP 55 _ 5 [(0, .int a), (1, .int 0), (2, .int 15)] [] _
            refine RP_step (pc1 := 7) (L1 := [(0, .int a), (1, .int 0), (2, .int 15)]) (S1 := [.int 15, .int a]) 2 0 (fun n => rfl) ?_
            refine RP_cond (decide (15 < a)) (fun n => rfl) (fun h => absurd (of_decide_eq_true h) (xi_nlt (x := 15) (y := a) (show a.toInt ≤ 15 by omega))) (fun _ => ?_)
            show RP 55 _ 10 [(0, .int a), (1, .int 0), (2, .int 15)] [] _
            refine RP_done 5 (fun n => rfl) ?_
            refine Or.inr ⟨1, rfl, ?_⟩
            show RP 57 _ 7 [(0, .int a)] [.int 1] _
            refine RP_done 3 (fun n => rfl) ?_
            refine Or.inr ⟨1, rfl, ?_⟩
            show RP 59 _ 157 [(0, .int 4), (1, .int a), (2, .int 0), (3, .int c), (4, .int d)] [.int 1] _
            refine RP_step (pc1 := 165) (L1 := [(0, .int 4), (1, .int a), (2, .int 0), (3, .int c), (4, .int d)]) (S1 := [.int c]) 4 0 (fun n => rfl) ?_
            refine RP_cond (decide (c ≠ 0)) (fun n => rfl) (fun _ => ?_) (fun h => absurd (by assumption) (of_decide_eq_false h))
            show RP 59 _ 177 [(0, .int 4), (1, .int a), (2, .int 0), (3, .int c), (4, .int d)] [] _
            refine RP_done 4 (fun n => rfl) ?_
            exact ⟨rfl, rfl⟩
          · have h100 := of_decide_eq_false hh
            replace h100 := Decidable.of_not_not h100
            clear hh
            subst h100
            show RP 25 _ 168 [(0, .int 4), (1, .int a), (2, .int 0), (3, .int 0), (4, .int d)] [] _
            refine RP_step (pc1 := 170) (L1 := [(0, .int 4), (1, .int a), (2, .int 0), (3, .int 0), (4, .int d)]) (S1 := [.int d]) 1 0 (fun n => rfl) ?_
            refine RP_cond (decide (d ≠ 0)) (fun n => rfl) (fun hh => ?_) (fun hh => ?_)
            · have h101 := of_decide_eq_true hh
              show RP 25 _ 177 [(0, .int 4), (1, .int a), (2, .int 0), (3, .int 0), (4, .int d)] [] _
              refine RP_done 4 (fun n => rfl) ?_
              refine ⟨Or.inl rfl, rfl, ?_⟩
              show RP 59 _ 0 [(0, .int 4), (1, .int a), (2, .int 0), (3, .int 0), (4, .int d)] [] _
              refine RP_step (pc1 := 154) (L1 := [(0, .int 4), (1, .int a), (2, .int 0), (3, .int 0), (4, .int d)]) (S1 := [.int a]) 3 0 (fun n => rfl) ?_
              refine RP_call 57 [.int a] (fun n => rfl) ?_
              show RP 57 _ 0 [(0, .int a)] [] _
              refine RP_step (pc1 := 4) (L1 := [(0, .int a)]) (S1 := [.int 15, .int 0, .int a]) 3 0 (fun n => rfl) ?_
              refine RP_call 55 [.int a, .int 0, .int 15] (fun n => rfl) ?_
              show RP 55 _ 0 [(0, .int a), (1, .int 0), (2, .int 15)] [] _
              refine RP_step (pc1 := 2) (L1 := [(0, .int a), (1, .int 0), (2, .int 15)]) (S1 := [.int 0, .int a]) 2 0 (fun n => rfl) ?_
              refine RP_cond (decide (a < 0)) (fun n => rfl) (fun h => absurd (of_decide_eq_true h) (xi_nlt (x := a) (y := 0) (show 0 ≤ a.toInt by omega))) (fun _ => ?_)
              show RP 55 _ 5 [(0, .int a), (1, .int 0), (2, .int 15)] [] _
              refine RP_step (pc1 := 7) (L1 := [(0, .int a), (1, .int 0), (2, .int 15)]) (S1 := [.int 15, .int a]) 2 0 (fun n => rfl) ?_
              refine RP_cond (decide (15 < a)) (fun n => rfl) (fun h => absurd (of_decide_eq_true h) (xi_nlt (x := 15) (y := a) (show a.toInt ≤ 15 by omega))) (fun _ => ?_)
              show RP 55 _ 10 [(0, .int a), (1, .int 0), (2, .int 15)] [] _
              refine RP_done 5 (fun n => rfl) ?_
              refine Or.inr ⟨1, rfl, ?_⟩
              show RP 57 _ 7 [(0, .int a)] [.int 1] _
              refine RP_done 3 (fun n => rfl) ?_
              refine Or.inr ⟨1, rfl, ?_⟩
              show RP 59 _ 157 [(0, .int 4), (1, .int a), (2, .int 0), (3, .int 0), (4, .int d)] [.int 1] _
              refine RP_step (pc1 := 170) (L1 := [(0, .int 4), (1, .int a), (2, .int 0), (3, .int 0), (4, .int d)]) (S1 := [.int d]) 6 0 (fun n => rfl) ?_
              refine RP_cond (decide (d ≠ 0)) (fun n => rfl) (fun _ => ?_) (fun h => absurd (by assumption) (of_decide_eq_false h))
              show RP 59 _ 177 [(0, .int 4), (1, .int a), (2, .int 0), (3, .int 0), (4, .int d)] [] _
              refine RP_done 4 (fun n => rfl) ?_
              exact ⟨rfl, rfl⟩
            · have h102 := of_decide_eq_false hh
              replace h102 := Decidable.of_not_not h102
              clear hh
              subst h102
              show RP 25 _ 173 [(0, .int 4), (1, .int a), (2, .int 0), (3, .int 0), (4, .int 0)] [] _
              refine RP_done 5 (fun n => rfl) ?_
              refine ⟨Or.inr rfl, rfl, ?_⟩
              show RP 59 _ 0 [(0, .int 4), (1, .int a), (2, .int 0), (3, .int 0), (4, .int 0)] [] _
              refine RP_step (pc1 := 154) (L1 := [(0, .int 4), (1, .int a), (2, .int 0), (3, .int 0), (4, .int 0)]) (S1 := [.int a]) 3 0 (fun n => rfl) ?_
              refine RP_call 57 [.int a] (fun n => rfl) ?_
              show RP 57 _ 0 [(0, .int a)] [] _
              refine RP_step (pc1 := 4) (L1 := [(0, .int a)]) (S1 := [.int 15, .int 0, .int a]) 3 0 (fun n => rfl) ?_
              refine RP_call 55 [.int a, .int 0, .int 15] (fun n => rfl) ?_
              show RP 55 _ 0 [(0, .int a), (1, .int 0), (2, .int 15)] [] _
              refine RP_step (pc1 := 2) (L1 := [(0, .int a), (1, .int 0), (2, .int 15)]) (S1 := [.int 0, .int a]) 2 0 (fun n => rfl) ?_
              refine RP_cond (decide (a < 0)) (fun n => rfl) (fun h => absurd (of_decide_eq_true h) (xi_nlt (x := a) (y := 0) (show 0 ≤ a.toInt by omega))) (fun _ => ?_)
              show RP 55 _ 5 [(0, .int a), (1, .int 0), (2, .int 15)] [] _
              refine RP_step (pc1 := 7) (L1 := [(0, .int a), (1, .int 0), (2, .int 15)]) (S1 := [.int 15, .int a]) 2 0 (fun n => rfl) ?_
              refine RP_cond (decide (15 < a)) (fun n => rfl) (fun h => absurd (of_decide_eq_true h) (xi_nlt (x := 15) (y := a) (show a.toInt ≤ 15 by omega))) (fun _ => ?_)
              show RP 55 _ 10 [(0, .int a), (1, .int 0), (2, .int 15)] [] _
              refine RP_done 5 (fun n => rfl) ?_
              refine Or.inr ⟨1, rfl, ?_⟩
              show RP 57 _ 7 [(0, .int a)] [.int 1] _
              refine RP_done 3 (fun n => rfl) ?_
              refine Or.inr ⟨1, rfl, ?_⟩
              show RP 59 _ 157 [(0, .int 4), (1, .int a), (2, .int 0), (3, .int 0), (4, .int 0)] [.int 1] _
              refine RP_done 12 (fun n => rfl) ?_
              exact ⟨rfl, rfl⟩
  · skip
    show RP 25 _ 0 [(0, .int 5), (1, .int a), (2, .int b), (3, .int c), (4, .int d)] [] _
    refine RP_step (pc1 := 180) (L1 := [(0, .int 5), (1, .int a), (2, .int b), (3, .int c), (4, .int d)]) (S1 := [.int a]) 3 0 (fun n => rfl) ?_
    refine RP_call 23 [.int a] (fun n => rfl) ?_
    show RP 23 _ 0 [(0, .int a)] [] _
    refine RP_step (pc1 := 1) (L1 := [(0, .int a)]) (S1 := [.int a]) 1 0 (fun n => rfl) ?_
    refine RP_cond (decide (a < 0)) (fun n => rfl) (fun hh => ?_) (fun hh => ?_)
    · have h103 := of_decide_eq_true hh
      have h104 : a.toInt < 0 := xj_lt h103
      show RP 23 _ 14 [(0, .int a)] [] _
      refine RP_done 4 (fun n => rfl) ?_
      refine Or.inr ⟨0, rfl, ?_⟩
      show RP 25 _ 183 [(0, .int 5), (1, .int a), (2, .int b), (3, .int c), (4, .int d)] [.int 0] _
      refine RP_done 5 (fun n => rfl) ?_
      refine ⟨Or.inl rfl, rfl, ?_⟩
      show RP 59 _ 0 [(0, .int 5), (1, .int a), (2, .int b), (3, .int c), (4, .int d)] [] _
      refine RP_step (pc1 := 180) (L1 := [(0, .int 5), (1, .int a), (2, .int b), (3, .int c), (4, .int d)]) (S1 := [.int a]) 3 0 (fun n => rfl) ?_
      refine RP_call 57 [.int a] (fun n => rfl) ?_
      show RP 57 _ 0 [(0, .int a)] [] _
      refine RP_step (pc1 := 4) (L1 := [(0, .int a)]) (S1 := [.int 15, .int 0, .int a]) 3 0 (fun n => rfl) ?_
      refine RP_call 55 [.int a, .int 0, .int 15] (fun n => rfl) ?_
      show RP 55 _ 0 [(0, .int a), (1, .int 0), (2, .int 15)] [] _
      refine RP_step (pc1 := 2) (L1 := [(0, .int a), (1, .int 0), (2, .int 15)]) (S1 := [.int 0, .int a]) 2 0 (fun n => rfl) ?_
      refine RP_cond (decide (a < 0)) (fun n => rfl) (fun _ => ?_) (fun h => absurd (xi_lt (x := a) (y := 0) (show a.toInt < 0 by omega)) (of_decide_eq_false h))
      show RP 55 _ 14 [(0, .int a), (1, .int 0), (2, .int 15)] [] _
      refine RP_done 4 (fun n => rfl) ?_
      refine Or.inr ⟨0, rfl, ?_⟩
      show RP 57 _ 7 [(0, .int a)] [.int 0] _
      refine RP_done 3 (fun n => rfl) ?_
      refine Or.inr ⟨0, rfl, ?_⟩
      show RP 59 _ 183 [(0, .int 5), (1, .int a), (2, .int b), (3, .int c), (4, .int d)] [.int 0] _
      refine RP_done 5 (fun n => rfl) ?_
      exact ⟨rfl, rfl⟩
    · have h105 := of_decide_eq_false hh
      have h106 : 0 ≤ a.toInt := xj_nlt h105
      show RP 23 _ 4 [(0, .int a)] [] _
      refine RP_step (pc1 := 7) (L1 := [(0, .int a)]) (S1 := [.int 16, .int a]) 2 0 (fun n => rfl) ?_
      refine RP_cond (decide (16 ≤ a)) (fun n => rfl) (fun hh => ?_) (fun hh => ?_)
      · have h107 := of_decide_eq_true hh
        have h108 : 16 ≤ a.toInt := xj_le h107
        show RP 23 _ 14 [(0, .int a)] [] _
        refine RP_done 4 (fun n => rfl) ?_
        refine Or.inr ⟨0, rfl, ?_⟩
        show RP 25 _ 183 [(0, .int 5), (1, .int a), (2, .int b), (3, .int c), (4, .int d)] [.int 0] _
        refine RP_done 5 (fun n => rfl) ?_
        refine ⟨Or.inl rfl, rfl, ?_⟩
        show RP 59 _ 0 [(0, .int 5), (1, .int a), (2, .int b), (3, .int c), (4, .int d)] [] _
        refine RP_step (pc1 := 180) (L1 := [(0, .int 5), (1, .int a), (2, .int b), (3, .int c), (4, .int d)]) (S1 := [.int a]) 3 0 (fun n => rfl) ?_
        refine RP_call 57 [.int a] (fun n => rfl) ?_
        show RP 57 _ 0 [(0, .int a)] [] _
        refine RP_step (pc1 := 4) (L1 := [(0, .int a)]) (S1 := [.int 15, .int 0, .int a]) 3 0 (fun n => rfl) ?_
        refine RP_call 55 [.int a, .int 0, .int 15] (fun n => rfl) ?_
        show RP 55 _ 0 [(0, .int a), (1, .int 0), (2, .int 15)] [] _
        refine RP_step (pc1 := 2) (L1 := [(0, .int a), (1, .int 0), (2, .int 15)]) (S1 := [.int 0, .int a]) 2 0 (fun n => rfl) ?_
        refine RP_cond (decide (a < 0)) (fun n => rfl) (fun h => absurd (of_decide_eq_true h) (xi_nlt (x := a) (y := 0) (show 0 ≤ a.toInt by omega))) (fun _ => ?_)
        show RP 55 _ 5 [(0, .int a), (1, .int 0), (2, .int 15)] [] _
        refine RP_step (pc1 := 7) (L1 := [(0, .int a), (1, .int 0), (2, .int 15)]) (S1 := [.int 15, .int a]) 2 0 (fun n => rfl) ?_
        refine RP_cond (decide (15 < a)) (fun n => rfl) (fun _ => ?_) (fun h => absurd (xi_lt (x := 15) (y := a) (show 15 < a.toInt by omega)) (of_decide_eq_false h))
        show RP 55 _ 14 [(0, .int a), (1, .int 0), (2, .int 15)] [] _
        refine RP_done 4 (fun n => rfl) ?_
        refine Or.inr ⟨0, rfl, ?_⟩
        show RP 57 _ 7 [(0, .int a)] [.int 0] _
        refine RP_done 3 (fun n => rfl) ?_
        refine Or.inr ⟨0, rfl, ?_⟩
        show RP 59 _ 183 [(0, .int 5), (1, .int a), (2, .int b), (3, .int c), (4, .int d)] [.int 0] _
        refine RP_done 5 (fun n => rfl) ?_
        exact ⟨rfl, rfl⟩
      · have h109 := of_decide_eq_false hh
        have h110 : a.toInt < 16 := xj_nle h109
        show RP 23 _ 10 [(0, .int a)] [] _
        refine RP_done 5 (fun n => rfl) ?_
        refine Or.inr ⟨1, rfl, ?_⟩
        show RP 25 _ 183 [(0, .int 5), (1, .int a), (2, .int b), (3, .int c), (4, .int d)] [.int 1] _
        refine RP_step (pc1 := 189) (L1 := [(0, .int 5), (1, .int a), (2, .int b), (3, .int c), (4, .int d)]) (S1 := [.int (-30), .int b]) 3 0 (fun n => rfl) ?_
        refine RP_cond (decide (b < (-30))) (fun n => rfl) (fun hh => ?_) (fun hh => ?_)
        · have h111 := of_decide_eq_true hh
          have h112 : b.toInt < -30 := xj_lt h111
          show RP 25 _ 211 [(0, .int 5), (1, .int a), (2, .int b), (3, .int c), (4, .int d)] [] _
          refine RP_done 4 (fun n => rfl) ?_
          refine ⟨Or.inl rfl, rfl, ?_⟩
          show RP 59 _ 0 [(0, .int 5), (1, .int a), (2, .int b), (3, .int c), (4, .int d)] [] _
          refine RP_step (pc1 := 180) (L1 := [(0, .int 5), (1, .int a), (2, .int b), (3, .int c), (4, .int d)]) (S1 := [.int a]) 3 0 (fun n => rfl) ?_
          refine RP_call 57 [.int a] (fun n => rfl) ?_
          show RP 57 _ 0 [(0, .int a)] [] _
          refine RP_step (pc1 := 4) (L1 := [(0, .int a)]) (S1 := [.int 15, .int 0, .int a]) 3 0 (fun n => rfl) ?_
          refine RP_call 55 [.int a, .int 0, .int 15] (fun n => rfl) ?_
          show RP 55 _ 0 [(0, .int a), (1, .int 0), (2, .int 15)] [] _
          refine RP_step (pc1 := 2) (L1 := [(0, .int a), (1, .int 0), (2, .int 15)]) (S1 := [.int 0, .int a]) 2 0 (fun n => rfl) ?_
          refine RP_cond (decide (a < 0)) (fun n => rfl) (fun h => absurd (of_decide_eq_true h) (xi_nlt (x := a) (y := 0) (show 0 ≤ a.toInt by omega))) (fun _ => ?_)
          show RP 55 _ 5 [(0, .int a), (1, .int 0), (2, .int 15)] [] _
          refine RP_step (pc1 := 7) (L1 := [(0, .int a), (1, .int 0), (2, .int 15)]) (S1 := [.int 15, .int a]) 2 0 (fun n => rfl) ?_
          refine RP_cond (decide (15 < a)) (fun n => rfl) (fun h => absurd (of_decide_eq_true h) (xi_nlt (x := 15) (y := a) (show a.toInt ≤ 15 by omega))) (fun _ => ?_)
          show RP 55 _ 10 [(0, .int a), (1, .int 0), (2, .int 15)] [] _
          refine RP_done 5 (fun n => rfl) ?_
          refine Or.inr ⟨1, rfl, ?_⟩
          show RP 57 _ 7 [(0, .int a)] [.int 1] _
          refine RP_done 3 (fun n => rfl) ?_
          refine Or.inr ⟨1, rfl, ?_⟩
          show RP 59 _ 183 [(0, .int 5), (1, .int a), (2, .int b), (3, .int c), (4, .int d)] [.int 1] _
          refine RP_step (pc1 := 191) (L1 := [(0, .int 5), (1, .int a), (2, .int b), (3, .int c), (4, .int d)]) (S1 := [.int 30, .int (-30), .int b]) 4 0 (fun n => rfl) ?_
          refine RP_call 55 [.int b, .int (-30), .int 30] (fun n => rfl) ?_
          show RP 55 _ 0 [(0, .int b), (1, .int (-30)), (2, .int 30)] [] _
          refine RP_step (pc1 := 2) (L1 := [(0, .int b), (1, .int (-30)), (2, .int 30)]) (S1 := [.int (-30), .int b]) 2 0 (fun n => rfl) ?_
          refine RP_cond (decide (b < (-30))) (fun n => rfl) (fun _ => ?_) (fun h => absurd (xi_lt (x := b) (y := (-30)) (show b.toInt < -30 by omega)) (of_decide_eq_false h))
          show RP 55 _ 14 [(0, .int b), (1, .int (-30)), (2, .int 30)] [] _
          refine RP_done 4 (fun n => rfl) ?_
          refine Or.inr ⟨0, rfl, ?_⟩
          show RP 59 _ 194 [(0, .int 5), (1, .int a), (2, .int b), (3, .int c), (4, .int d)] [.int 0] _
          refine RP_done 5 (fun n => rfl) ?_
          exact ⟨rfl, rfl⟩
        · have h113 := of_decide_eq_false hh
          have h114 : -30 ≤ b.toInt := xj_nlt h113
          show RP 25 _ 192 [(0, .int 5), (1, .int a), (2, .int b), (3, .int c), (4, .int d)] [] _
          refine RP_step (pc1 := 195) (L1 := [(0, .int 5), (1, .int a), (2, .int b), (3, .int c), (4, .int d)]) (S1 := [.int 30, .int b]) 2 0 (fun n => rfl) ?_
          refine RP_cond (decide (30 < b)) (fun n => rfl) (fun hh => ?_) (fun hh => ?_)
          · have h115 := of_decide_eq_true hh
            have h116 : 30 < b.toInt := xj_lt h115
            show RP 25 _ 211 [(0, .int 5), (1, .int a), (2, .int b), (3, .int c), (4, .int d)] [] _
            refine RP_done 4 (fun n => rfl) ?_
            refine ⟨Or.inl rfl, rfl, ?_⟩
            show RP 59 _ 0 [(0, .int 5), (1, .int a), (2, .int b), (3, .int c), (4, .int d)] [] _
            refine RP_step (pc1 := 180) (L1 := [(0, .int 5), (1, .int a), (2, .int b), (3, .int c), (4, .int d)]) (S1 := [.int a]) 3 0 (fun n => rfl) ?_
            refine RP_call 57 [.int a] (fun n => rfl) ?_
            show RP 57 _ 0 [(0, .int a)] [] _
            refine RP_step (pc1 := 4) (L1 := [(0, .int a)]) (S1 := [.int 15, .int 0, .int a]) 3 0 (fun n => rfl) ?_
            refine RP_call 55 [.int a, .int 0, .int 15] (fun n => rfl) ?_
            show RP 55 _ 0 [(0, .int a), (1, .int 0), (2, .int 15)] [] _
            refine RP_step (pc1 := 2) (L1 := [(0, .int a), (1, .int 0), (2, .int 15)]) (S1 := [.int 0, .int a]) 2 0 (fun n => rfl) ?_
            refine RP_cond (decide (a < 0)) (fun n => rfl) (fun h => absurd (of_decide_eq_true h) (xi_nlt (x := a) (y := 0) (show 0 ≤ a.toInt by omega))) (fun _ => ?_)
            show RP 55 _ 5 [(0, .int a), (1, .int 0), (2, .int 15)] [] _
            refine RP_step (pc1 := 7) (L1 := [(0, .int a), (1, .int 0), (2, .int 15)]) (S1 := [.int 15, .int a]) 2 0 (fun n => rfl) ?_
            refine RP_cond (decide (15 < a)) (fun n => rfl) (fun h => absurd (of_decide_eq_true h) (xi_nlt (x := 15) (y := a) (show a.toInt ≤ 15 by omega))) (fun _ => ?_)
            show RP 55 _ 10 [(0, .int a), (1, .int 0), (2, .int 15)] [] _
            refine RP_done 5 (fun n => rfl) ?_
            refine Or.inr ⟨1, rfl, ?_⟩
            show RP 57 _ 7 [(0, .int a)] [.int 1] _
            refine RP_done 3 (fun n => rfl) ?_
            refine Or.inr ⟨1, rfl, ?_⟩
            show RP 59 _ 183 [(0, .int 5), (1, .int a), (2, .int b), (3, .int c), (4, .int d)] [.int 1] _
            refine RP_step (pc1 := 191) (L1 := [(0, .int 5), (1, .int a), (2, .int b), (3, .int c), (4, .int d)]) (S1 := [.int 30, .int (-30), .int b]) 4 0 (fun n => rfl) ?_
            refine RP_call 55 [.int b, .int (-30), .int 30] (fun n => rfl) ?_
            show RP 55 _ 0 [(0, .int b), (1, .int (-30)), (2, .int 30)] [] _
            refine RP_step (pc1 := 2) (L1 := [(0, .int b), (1, .int (-30)), (2, .int 30)]) (S1 := [.int (-30), .int b]) 2 0 (fun n => rfl) ?_
            refine RP_cond (decide (b < (-30))) (fun n => rfl) (fun h => absurd (of_decide_eq_true h) (xi_nlt (x := b) (y := (-30)) (show -30 ≤ b.toInt by omega))) (fun _ => ?_)
            show RP 55 _ 5 [(0, .int b), (1, .int (-30)), (2, .int 30)] [] _
            refine RP_step (pc1 := 7) (L1 := [(0, .int b), (1, .int (-30)), (2, .int 30)]) (S1 := [.int 30, .int b]) 2 0 (fun n => rfl) ?_
            refine RP_cond (decide (30 < b)) (fun n => rfl) (fun _ => ?_) (fun h => absurd (xi_lt (x := 30) (y := b) (show 30 < b.toInt by omega)) (of_decide_eq_false h))
            show RP 55 _ 14 [(0, .int b), (1, .int (-30)), (2, .int 30)] [] _
            refine RP_done 4 (fun n => rfl) ?_
            refine Or.inr ⟨0, rfl, ?_⟩
            show RP 59 _ 194 [(0, .int 5), (1, .int a), (2, .int b), (3, .int c), (4, .int d)] [.int 0] _
            refine RP_done 5 (fun n => rfl) ?_
            exact ⟨rfl, rfl⟩
          · have h117 := of_decide_eq_false hh
            have h118 : b.toInt ≤ 30 := xj_nlt h117
            show RP 25 _ 198 [(0, .int 5), (1, .int a), (2, .int b), (3, .int c), (4, .int d)] [] _
            refine RP_step (pc1 := 199) (L1 := [(0, .int 5), (1, .int a), (2, .int b), (3, .int c), (4, .int d)]) (S1 := [.int c]) 1 0 (fun n => rfl) ?_
            refine RP_cond (decide (c ≠ 0)) (fun n => rfl) (fun hh => ?_) (fun hh => ?_)
            · have h119 := of_decide_eq_true hh
              show RP 25 _ 211 [(0, .int 5), (1, .int a), (2, .int b), (3, .int c), (4, .int d)] [] _
              refine RP_done 4 (fun n => rfl) ?_
              refine ⟨Or.inl rfl, rfl, ?_⟩
              show RP 59 _ 0 [(0, .int 5), (1, .int a), (2, .int b), (3, .int c), (4, .int d)] [] _
              refine RP_step (pc1 := 180) (L1 := [(0, .int 5), (1, .int a), (2, .int b), (3, .int c), (4, .int d)]) (S1 := [.int a]) 3 0 (fun n => rfl) ?_
              refine RP_call 57 [.int a] (fun n => rfl) ?_
              show RP 57 _ 0 [(0, .int a)] [] _
              refine RP_step (pc1 := 4) (L1 := [(0, .int a)]) (S1 := [.int 15, .int 0, .int a]) 3 0 (fun n => rfl) ?_
              refine RP_call 55 [.int a, .int 0, .int 15] (fun n => rfl) ?_
              show RP 55 _ 0 [(0, .int a), (1, .int 0), (2, .int 15)] [] _
              refine RP_step (pc1 := 2) (L1 := [(0, .int a), (1, .int 0), (2, .int 15)]) (S1 := [.int 0, .int a]) 2 0 (fun n => rfl) ?_
              refine RP_cond (decide (a < 0)) (fun n => rfl) (fun h => absurd (of_decide_eq_true h) (xi_nlt (x := a) (y := 0) (show 0 ≤ a.toInt by omega))) (fun _ => ?_)
              show RP 55 _ 5 [(0, .int a), (1, .int 0), (2, .int 15)] [] _
              refine RP_step (pc1 := 7) (L1 := [(0, .int a), (1, .int 0), (2, .int 15)]) (S1 := [.int 15, .int a]) 2 0 (fun n => rfl) ?_
              refine RP_cond (decide (15 < a)) (fun n => rfl) (fun h => absurd (of_decide_eq_true h) (xi_nlt (x := 15) (y := a) (show a.toInt ≤ 15 by omega))) (fun _ => ?_)
              show RP 55 _ 10 [(0, .int a), (1, .int 0), (2, .int 15)] [] _
              refine RP_done 5 (fun n => rfl) ?_
              refine Or.inr ⟨1, rfl, ?_⟩
              show RP 57 _ 7 [(0, .int a)] [.int 1] _
              refine RP_done 3 (fun n => rfl) ?_
              refine Or.inr ⟨1, rfl, ?_⟩
              show RP 59 _ 183 [(0, .int 5), (1, .int a), (2, .int b), (3, .int c), (4, .int d)] [.int 1] _
              refine RP_step (pc1 := 191) (L1 := [(0, .int 5), (1, .int a), (2, .int b), (3, .int c), (4, .int d)]) (S1 := [.int 30, .int (-30), .int b]) 4 0 (fun n => rfl) ?_
              refine RP_call 55 [.int b, .int (-30), .int 30] (fun n => rfl) ?_
              show RP 55 _ 0 [(0, .int b), (1, .int (-30)), (2, .int 30)] [] _
              refine RP_step (pc1 := 2) (L1 := [(0, .int b), (1, .int (-30)), (2, .int 30)]) (S1 := [.int (-30), .int b]) 2 0 (fun n => rfl) ?_
              refine RP_cond (decide (b < (-30))) (fun n => rfl) (fun h => absurd (of_decide_eq_true h) (xi_nlt (x := b) (y := (-30)) (show -30 ≤ b.toInt by omega))) (fun _ => ?_)
              show RP 55 _ 5 [(0, .int b), (1, .int (-30)), (2, .int 30)] [] _
              refine RP_step (pc1 := 7) (L1 := [(0, .int b), (1, .int (-30)), (2, .int 30)]) (S1 := [.int 30, .int b]) 2 0 (fun n => rfl) ?_
              refine RP_cond (decide (30 < b)) (fun n => rfl) (fun h => absurd (of_decide_eq_true h) (xi_nlt (x := 30) (y := b) (show b.toInt ≤ 30 by omega))) (fun _ => ?_)
              show RP 55 _ 10 [(0, .int b), (1, .int (-30)), (2, .int 30)] [] _
              refine RP_done 5 (fun n => rfl) ?_
              refine Or.inr ⟨1, rfl, ?_⟩
              show RP 59 _ 194 [(0, .int 5), (1, .int a), (2, .int b), (3, .int c), (4, .int d)] [.int 1] _
              refine RP_step (pc1 := 198) (L1 := [(0, .int 5), (1, .int a), (2, .int b), (3, .int c), (4, .int d)]) (S1 := [.int c]) 2 0 (fun n => rfl) ?_
              refine RP_cond (decide (c ≠ 0)) (fun n => rfl) (fun _ => ?_) (fun h => absurd (by assumption) (of_decide_eq_false h))
              show RP 59 _ 210 [(0, .int 5), (1, .int a), (2, .int b), (3, .int c), (4, .int d)] [] _
              refine RP_done 4 (fun n => rfl) ?_
              exact ⟨rfl, rfl⟩
            · have h120 := of_decide_eq_false hh
              replace h120 := Decidable.of_not_not h120
              clear hh
              subst h120
              show RP 25 _ 202 [(0, .int 5), (1, .int a), (2, .int b), (3, .int 0), (4, .int d)] [] _
              refine RP_step (pc1 := 204) (L1 := [(0, .int 5), (1, .int a), (2, .int b), (3, .int 0), (4, .int d)]) (S1 := [.int d]) 1 0 (fun n => rfl) ?_
              refine RP_cond (decide (d ≠ 0)) (fun n => rfl) (fun hh => ?_) (fun hh => ?_)
              · have h121 := of_decide_eq_true hh
                show RP 25 _ 211 [(0, .int 5), (1, .int a), (2, .int b), (3, .int 0), (4, .int d)] [] _
                refine RP_done 4 (fun n => rfl) ?_
                refine ⟨Or.inl rfl, rfl, ?_⟩
                show RP 59 _ 0 [(0, .int 5), (1, .int a), (2, .int b), (3, .int 0), (4, .int d)] [] _
                refine RP_step (pc1 := 180) (L1 := [(0, .int 5), (1, .int a), (2, .int b), (3, .int 0), (4, .int d)]) (S1 := [.int a]) 3 0 (fun n => rfl) ?_
                refine RP_call 57 [.int a] (fun n => rfl) ?_
                show RP 57 _ 0 [(0, .int a)] [] _
                refine RP_step (pc1 := 4) (L1 := [(0, .int a)]) (S1 := [.int 15, .int 0, .int a]) 3 0 (fun n => rfl) ?_
                refine RP_call 55 [.int a, .int 0, .int 15] (fun n => rfl) ?_
                show RP 55 _ 0 [(0, .int a), (1, .int 0), (2, .int 15)] [] _
                refine RP_step (pc1 := 2) (L1 := [(0, .int a), (1, .int 0), (2, .int 15)]) (S1 := [.int 0, .int a]) 2 0 (fun n => rfl) ?_
                refine RP_cond (decide (a < 0)) (fun n => rfl) (fun h => absurd (of_decide_eq_true h) (xi_nlt (x := a) (y := 0) (show 0 ≤ a.toInt by omega))) (fun _ => ?_)
                show RP 55 _ 5 [(0, .int a), (1, .int 0), (2, .int 15)] [] _
                refine RP_step (pc1 := 7) (L1 := [(0, .int a), (1, .int 0), (2, .int 15)]) (S1 := [.int 15, .int a]) 2 0 (fun n => rfl) ?_
                refine RP_cond (decide (15 < a)) (fun n => rfl) (fun h => absurd (of_decide_eq_true h) (xi_nlt (x := 15) (y := a) (show a.toInt ≤ 15 by omega))) (fun _ => ?_)
                show RP 55 _ 10 [(0, .int a), (1, .int 0), (2, .int 15)] [] _
                refine RP_done 5 (fun n => rfl) ?_
                refine Or.inr ⟨1, rfl, ?_⟩
                show RP 57 _ 7 [(0, .int a)] [.int 1] _
                refine RP_done 3 (fun n => rfl) ?_
                refine Or.inr ⟨1, rfl, ?_⟩
                show RP 59 _ 183 [(0, .int 5), (1, .int a), (2, .int b), (3, .int 0), (4, .int d)] [.int 1] _
                refine RP_step (pc1 := 191) (L1 := [(0, .int 5), (1, .int a), (2, .int b), (3, .int 0), (4, .int d)]) (S1 := [.int 30, .int (-30), .int b]) 4 0 (fun n => rfl) ?_
                refine RP_call 55 [.int b, .int (-30), .int 30] (fun n => rfl) ?_
                show RP 55 _ 0 [(0, .int b), (1, .int (-30)), (2, .int 30)] [] _
                refine RP_step (pc1 := 2) (L1 := [(0, .int b), (1, .int (-30)), (2, .int 30)]) (S1 := [.int (-30), .int b]) 2 0 (fun n => rfl) ?_
                refine RP_cond (decide (b < (-30))) (fun n => rfl) (fun h => absurd (of_decide_eq_true h) (xi_nlt (x := b) (y := (-30)) (show -30 ≤ b.toInt by omega))) (fun _ => ?_)
                show RP 55 _ 5 [(0, .int b), (1, .int (-30)), (2, .int 30)] [] _
                refine RP_step (pc1 := 7) (L1 := [(0, .int b), (1, .int (-30)), (2, .int 30)]) (S1 := [.int 30, .int b]) 2 0 (fun n => rfl) ?_
                refine RP_cond (decide (30 < b)) (fun n => rfl) (fun h => absurd (of_decide_eq_true h) (xi_nlt (x := 30) (y := b) (show b.toInt ≤ 30 by omega))) (fun _ => ?_)
                show RP 55 _ 10 [(0, .int b), (1, .int (-30)), (2, .int 30)] [] _
                refine RP_done 5 (fun n => rfl) ?_
                refine Or.inr ⟨1, rfl, ?_⟩
                show RP 59 _ 194 [(0, .int 5), (1, .int a), (2, .int b), (3, .int 0), (4, .int d)] [.int 1] _
                refine RP_step (pc1 := 203) (L1 := [(0, .int 5), (1, .int a), (2, .int b), (3, .int 0), (4, .int d)]) (S1 := [.int d]) 4 0 (fun n => rfl) ?_
                refine RP_cond (decide (d ≠ 0)) (fun n => rfl) (fun _ => ?_) (fun h => absurd (by assumption) (of_decide_eq_false h))
                show RP 59 _ 210 [(0, .int 5), (1, .int a), (2, .int b), (3, .int 0), (4, .int d)] [] _
                refine RP_done 4 (fun n => rfl) ?_
                exact ⟨rfl, rfl⟩
              · have h122 := of_decide_eq_false hh
                replace h122 := Decidable.of_not_not h122
                clear hh
                subst h122
                show RP 25 _ 207 [(0, .int 5), (1, .int a), (2, .int b), (3, .int 0), (4, .int 0)] [] _
                refine RP_done 5 (fun n => rfl) ?_
                refine ⟨Or.inr rfl, rfl, ?_⟩
                show RP 59 _ 0 [(0, .int 5), (1, .int a), (2, .int b), (3, .int 0), (4, .int 0)] [] _
                refine RP_step (pc1 := 180) (L1 := [(0, .int 5), (1, .int a), (2, .int b), (3, .int 0), (4, .int 0)]) (S1 := [.int a]) 3 0 (fun n => rfl) ?_
                refine RP_call 57 [.int a] (fun n => rfl) ?_
                show RP 57 _ 0 [(0, .int a)] [] _
                refine RP_step (pc1 := 4) (L1 := [(0, .int a)]) (S1 := [.int 15, .int 0, .int a]) 3 0 (fun n => rfl) ?_
                refine RP_call 55 [.int a, .int 0, .int 15] (fun n => rfl) ?_
                show RP 55 _ 0 [(0, .int a), (1, .int 0), (2, .int 15)] [] _
                refine RP_step (pc1 := 2) (L1 := [(0, .int a), (1, .int 0), (2, .int 15)]) (S1 := [.int 0, .int a]) 2 0 (fun n => rfl) ?_
                refine RP_cond (decide (a < 0)) (fun n => rfl) (fun h => absurd (of_decide_eq_true h) (xi_nlt (x := a) (y := 0) (show 0 ≤ a.toInt by omega))) (fun _ => ?_)
                show RP 55 _ 5 [(0, .int a), (1, .int 0), (2, .int 15)] [] _
                refine RP_step (pc1 := 7) (L1 := [(0, .int a), (1, .int 0), (2, .int 15)]) (S1 := [.int 15, .int a]) 2 0 (fun n => rfl) ?_
                refine RP_cond (decide (15 < a)) (fun n => rfl) (fun h => absurd (of_decide_eq_true h) (xi_nlt (x := 15) (y := a) (show a.toInt ≤ 15 by omega))) (fun _ => ?_)
                show RP 55 _ 10 [(0, .int a), (1, .int 0), (2, .int 15)] [] _
                refine RP_done 5 (fun n => rfl) ?_
                refine Or.inr ⟨1, rfl, ?_⟩
                show RP 57 _ 7 [(0, .int a)] [.int 1] _
                refine RP_done 3 (fun n => rfl) ?_
                refine Or.inr ⟨1, rfl, ?_⟩
                show RP 59 _ 183 [(0, .int 5), (1, .int a), (2, .int b), (3, .int 0), (4, .int 0)] [.int 1] _
                refine RP_step (pc1 := 191) (L1 := [(0, .int 5), (1, .int a), (2, .int b), (3, .int 0), (4, .int 0)]) (S1 := [.int 30, .int (-30), .int b]) 4 0 (fun n => rfl) ?_
                refine RP_call 55 [.int b, .int (-30), .int 30] (fun n => rfl) ?_
                show RP 55 _ 0 [(0, .int b), (1, .int (-30)), (2, .int 30)] [] _
                refine RP_step (pc1 := 2) (L1 := [(0, .int b), (1, .int (-30)), (2, .int 30)]) (S1 := [.int (-30), .int b]) 2 0 (fun n => rfl) ?_
                refine RP_cond (decide (b < (-30))) (fun n => rfl) (fun h => absurd (of_decide_eq_true h) (xi_nlt (x := b) (y := (-30)) (show -30 ≤ b.toInt by omega))) (fun _ => ?_)
                show RP 55 _ 5 [(0, .int b), (1, .int (-30)), (2, .int 30)] [] _
                refine RP_step (pc1 := 7) (L1 := [(0, .int b), (1, .int (-30)), (2, .int 30)]) (S1 := [.int 30, .int b]) 2 0 (fun n => rfl) ?_
                refine RP_cond (decide (30 < b)) (fun n => rfl) (fun h => absurd (of_decide_eq_true h) (xi_nlt (x := 30) (y := b) (show b.toInt ≤ 30 by omega))) (fun _ => ?_)
                show RP 55 _ 10 [(0, .int b), (1, .int (-30)), (2, .int 30)] [] _
                refine RP_done 5 (fun n => rfl) ?_
                refine Or.inr ⟨1, rfl, ?_⟩
                show RP 59 _ 194 [(0, .int 5), (1, .int a), (2, .int b), (3, .int 0), (4, .int 0)] [.int 1] _
                refine RP_done 10 (fun n => rfl) ?_
                exact ⟨rfl, rfl⟩
  · skip
    show RP 25 _ 0 [(0, .int 6), (1, .int a), (2, .int b), (3, .int c), (4, .int d)] [] _
    refine RP_step (pc1 := 215) (L1 := [(0, .int 6), (1, .int a), (2, .int b), (3, .int c), (4, .int d)]) (S1 := [.int b, .int a]) 4 0 (fun n => rfl) ?_
    refine RP_call 24 [.int a, .int b] (fun n => rfl) ?_
    show RP 24 _ 0 [(0, .int a), (1, .int b)] [] _
    refine RP_step (pc1 := 1) (L1 := [(0, .int a), (1, .int b)]) (S1 := [.int a]) 1 0 (fun n => rfl) ?_
    refine RP_call 23 [.int a] (fun n => rfl) ?_
    show RP 23 _ 0 [(0, .int a)] [] _
    refine RP_step (pc1 := 1) (L1 := [(0, .int a)]) (S1 := [.int a]) 1 0 (fun n => rfl) ?_
    refine RP_cond (decide (a < 0)) (fun n => rfl) (fun hh => ?_) (fun hh => ?_)
    · have h123 := of_decide_eq_true hh
      have h124 : a.toInt < 0 := xj_lt h123
      show RP 23 _ 14 [(0, .int a)] [] _
      refine RP_done 4 (fun n => rfl) ?_
      refine Or.inr ⟨0, rfl, ?_⟩
      show RP 24 _ 4 [(0, .int a), (1, .int b)] [.int 0] _
      refine RP_done 5 (fun n => rfl) ?_
      refine Or.inr ⟨0, rfl, ?_⟩
      show RP 25 _ 218 [(0, .int 6), (1, .int a), (2, .int b), (3, .int c), (4, .int d)] [.int 0] _
      refine RP_done 5 (fun n => rfl) ?_
      refine ⟨Or.inl rfl, rfl, ?_⟩
      show RP 59 _ 0 [(0, .int 6), (1, .int a), (2, .int b), (3, .int c), (4, .int d)] [] _
      refine RP_step (pc1 := 214) (L1 := [(0, .int 6), (1, .int a), (2, .int b), (3, .int c), (4, .int d)]) (S1 := [.int b, .int a]) 4 0 (fun n => rfl) ?_
      refine RP_call 58 [.int a, .int b] (fun n => rfl) ?_
      show RP 58 _ 0 [(0, .int a), (1, .int b)] [] _
      refine RP_step (pc1 := 1) (L1 := [(0, .int a), (1, .int b)]) (S1 := [.int a]) 1 0 (fun n => rfl) ?_
      refine RP_call 57 [.int a] (fun n => rfl) ?_
      show RP 57 _ 0 [(0, .int a)] [] _
      refine RP_step (pc1 := 4) (L1 := [(0, .int a)]) (S1 := [.int 15, .int 0, .int a]) 3 0 (fun n => rfl) ?_
      refine RP_call 55 [.int a, .int 0, .int 15] (fun n => rfl) ?_
      show RP 55 _ 0 [(0, .int a), (1, .int 0), (2, .int 15)] [] _
      refine RP_step (pc1 := 2) (L1 := [(0, .int a), (1, .int 0), (2, .int 15)]) (S1 := [.int 0, .int a]) 2 0 (fun n => rfl) ?_
      refine RP_cond (decide (a < 0)) (fun n => rfl) (fun _ => ?_) (fun h => absurd (xi_lt (x := a) (y := 0) (show a.toInt < 0 by omega)) (of_decide_eq_false h))
      show RP 55 _ 14 [(0, .int a), (1, .int 0), (2, .int 15)] [] _
      refine RP_done 4 (fun n => rfl) ?_
      refine Or.inr ⟨0, rfl, ?_⟩
      show RP 57 _ 7 [(0, .int a)] [.int 0] _
      refine RP_done 3 (fun n => rfl) ?_
      refine Or.inr ⟨0, rfl, ?_⟩
      show RP 58 _ 4 [(0, .int a), (1, .int b)] [.int 0] _
      refine RP_done 5 (fun n => rfl) ?_
      refine Or.inr ⟨0, rfl, ?_⟩
      show RP 59 _ 217 [(0, .int 6), (1, .int a), (2, .int b), (3, .int c), (4, .int d)] [.int 0] _
      refine RP_done 5 (fun n => rfl) ?_
      exact ⟨rfl, rfl⟩
    · have h125 := of_decide_eq_false hh
      have h126 : 0 ≤ a.toInt := xj_nlt h125
      show RP 23 _ 4 [(0, .int a)] [] _
      refine RP_step (pc1 := 7) (L1 := [(0, .int a)]) (S1 := [.int 16, .int a]) 2 0 (fun n => rfl) ?_
      refine RP_cond (decide (16 ≤ a)) (fun n => rfl) (fun hh => ?_) (fun hh => ?_)
      · have h127 := of_decide_eq_true hh
        have h128 : 16 ≤ a.toInt := xj_le h127
        show RP 23 _ 14 [(0, .int a)] [] _
        refine RP_done 4 (fun n => rfl) ?_
        refine Or.inr ⟨0, rfl, ?_⟩
        show RP 24 _ 4 [(0, .int a), (1, .int b)] [.int 0] _
        refine RP_done 5 (fun n => rfl) ?_
        refine Or.inr ⟨0, rfl, ?_⟩
        show RP 25 _ 218 [(0, .int 6), (1, .int a), (2, .int b), (3, .int c), (4, .int d)] [.int 0] _
        refine RP_done 5 (fun n => rfl) ?_
        refine ⟨Or.inl rfl, rfl, ?_⟩
        show RP 59 _ 0 [(0, .int 6), (1, .int a), (2, .int b), (3, .int c), (4, .int d)] [] _
        refine RP_step (pc1 := 214) (L1 := [(0, .int 6), (1, .int a), (2, .int b), (3, .int c), (4, .int d)]) (S1 := [.int b, .int a]) 4 0 (fun n => rfl) ?_
        refine RP_call 58 [.int a, .int b] (fun n => rfl) ?_
        show RP 58 _ 0 [(0, .int a), (1, .int b)] [] _
        refine RP_step (pc1 := 1) (L1 := [(0, .int a), (1, .int b)]) (S1 := [.int a]) 1 0 (fun n => rfl) ?_
        refine RP_call 57 [.int a] (fun n => rfl) ?_
        show RP 57 _ 0 [(0, .int a)] [] _
        refine RP_step (pc1 := 4) (L1 := [(0, .int a)]) (S1 := [.int 15, .int 0, .int a]) 3 0 (fun n => rfl) ?_
        refine RP_call 55 [.int a, .int 0, .int 15] (fun n => rfl) ?_
        show RP 55 _ 0 [(0, .int a), (1, .int 0), (2, .int 15)] [] _
        refine RP_step (pc1 := 2) (L1 := [(0, .int a), (1, .int 0), (2, .int 15)]) (S1 := [.int 0, .int a]) 2 0 (fun n => rfl) ?_
        refine RP_cond (decide (a < 0)) (fun n => rfl) (fun h => absurd (of_decide_eq_true h) (xi_nlt (x := a) (y := 0) (show 0 ≤ a.toInt by omega))) (fun _ => ?_)
        show RP 55 _ 5 [(0, .int a), (1, .int 0), (2, .int 15)] [] _
        refine RP_step (pc1 := 7) (L1 := [(0, .int a), (1, .int 0), (2, .int 15)]) (S1 := [.int 15, .int a]) 2 0 (fun n => rfl) ?_
        refine RP_cond (decide (15 < a)) (fun n => rfl) (fun _ => ?_) (fun h => absurd (xi_lt (x := 15) (y := a) (show 15 < a.toInt by omega)) (of_decide_eq_false h))
        show RP 55 _ 14 [(0, .int a), (1, .int 0), (2, .int 15)] [] _
        refine RP_done 4 (fun n => rfl) ?_
        refine Or.inr ⟨0, rfl, ?_⟩
        show RP 57 _ 7 [(0, .int a)] [.int 0] _
        refine RP_done 3 (fun n => rfl) ?_
        refine Or.inr ⟨0, rfl, ?_⟩
        show RP 58 _ 4 [(0, .int a), (1, .int b)] [.int 0] _
        refine RP_done 5 (fun n => rfl) ?_
        refine Or.inr ⟨0, rfl, ?_⟩
        show RP 59 _ 217 [(0, .int 6), (1, .int a), (2, .int b), (3, .int c), (4, .int d)] [.int 0] _
        refine RP_done 5 (fun n => rfl) ?_
        exact ⟨rfl, rfl⟩
      · have h129 := of_decide_eq_false hh
        have h130 : a.toInt < 16 := xj_nle h129
        show RP 23 _ 10 [(0, .int a)] [] _
        refine RP_done 5 (fun n => rfl) ?_
        refine Or.inr ⟨1, rfl, ?_⟩
        show RP 24 _ 4 [(0, .int a), (1, .int b)] [.int 1] _
        refine RP_step (pc1 := 9) (L1 := [(0, .int a), (1, .int b)]) (S1 := [.int 1, .int b]) 3 0 (fun n => rfl) ?_
        refine RP_cond (decide (b < 1)) (fun n => rfl) (fun hh => ?_) (fun hh => ?_)
        · have h131 := of_decide_eq_true hh
          have h132 : b.toInt < 1 := xj_lt h131
          show RP 24 _ 30 [(0, .int a), (1, .int b)] [] _
          refine RP_done 4 (fun n => rfl) ?_
          refine Or.inr ⟨0, rfl, ?_⟩
          show RP 25 _ 218 [(0, .int 6), (1, .int a), (2, .int b), (3, .int c), (4, .int d)] [.int 0] _
          refine RP_done 5 (fun n => rfl) ?_
          refine ⟨Or.inl rfl, rfl, ?_⟩
          show RP 59 _ 0 [(0, .int 6), (1, .int a), (2, .int b), (3, .int c), (4, .int d)] [] _
          refine RP_step (pc1 := 214) (L1 := [(0, .int 6), (1, .int a), (2, .int b), (3, .int c), (4, .int d)]) (S1 := [.int b, .int a]) 4 0 (fun n => rfl) ?_
          refine RP_call 58 [.int a, .int b] (fun n => rfl) ?_
          show RP 58 _ 0 [(0, .int a), (1, .int b)] [] _
          refine RP_step (pc1 := 1) (L1 := [(0, .int a), (1, .int b)]) (S1 := [.int a]) 1 0 (fun n => rfl) ?_
          refine RP_call 57 [.int a] (fun n => rfl) ?_
          show RP 57 _ 0 [(0, .int a)] [] _
          refine RP_step (pc1 := 4) (L1 := [(0, .int a)]) (S1 := [.int 15, .int 0, .int a]) 3 0 (fun n => rfl) ?_
          refine RP_call 55 [.int a, .int 0, .int 15] (fun n => rfl) ?_
          show RP 55 _ 0 [(0, .int a), (1, .int 0), (2, .int 15)] [] _
          refine RP_step (pc1 := 2) (L1 := [(0, .int a), (1, .int 0), (2, .int 15)]) (S1 := [.int 0, .int a]) 2 0 (fun n => rfl) ?_
          refine RP_cond (decide (a < 0)) (fun n => rfl) (fun h => absurd (of_decide_eq_true h) (xi_nlt (x := a) (y := 0) (show 0 ≤ a.toInt by omega))) (fun _ => ?_)
          show RP 55 _ 5 [(0, .int a), (1, .int 0), (2, .int 15)] [] _
          refine RP_step (pc1 := 7) (L1 := [(0, .int a), (1, .int 0), (2, .int 15)]) (S1 := [.int 15, .int a]) 2 0 (fun n => rfl) ?_
          refine RP_cond (decide (15 < a)) (fun n => rfl) (fun h => absurd (of_decide_eq_true h) (xi_nlt (x := 15) (y := a) (show a.toInt ≤ 15 by omega))) (fun _ => ?_)
          show RP 55 _ 10 [(0, .int a), (1, .int 0), (2, .int 15)] [] _
          refine RP_done 5 (fun n => rfl) ?_
          refine Or.inr ⟨1, rfl, ?_⟩
          show RP 57 _ 7 [(0, .int a)] [.int 1] _
          refine RP_done 3 (fun n => rfl) ?_
          refine Or.inr ⟨1, rfl, ?_⟩
          show RP 58 _ 4 [(0, .int a), (1, .int b)] [.int 1] _
          refine RP_step (pc1 := 11) (L1 := [(0, .int a), (1, .int b)]) (S1 := [.int 8, .int 1, .int b]) 4 0 (fun n => rfl) ?_
          refine RP_call 55 [.int b, .int 1, .int 8] (fun n => rfl) ?_
          show RP 55 _ 0 [(0, .int b), (1, .int 1), (2, .int 8)] [] _
          refine RP_step (pc1 := 2) (L1 := [(0, .int b), (1, .int 1), (2, .int 8)]) (S1 := [.int 1, .int b]) 2 0 (fun n => rfl) ?_
          refine RP_cond (decide (b < 1)) (fun n => rfl) (fun _ => ?_) (fun h => absurd (xi_lt (x := b) (y := 1) (show b.toInt < 1 by omega)) (of_decide_eq_false h))
          show RP 55 _ 14 [(0, .int b), (1, .int 1), (2, .int 8)] [] _
          refine RP_done 4 (fun n => rfl) ?_
          refine Or.inr ⟨0, rfl, ?_⟩
          show RP 58 _ 14 [(0, .int a), (1, .int b)] [.int 0] _
          refine RP_done 5 (fun n => rfl) ?_
          refine Or.inr ⟨0, rfl, ?_⟩
          show RP 59 _ 217 [(0, .int 6), (1, .int a), (2, .int b), (3, .int c), (4, .int d)] [.int 0] _
          refine RP_done 5 (fun n => rfl) ?_
          exact ⟨rfl, rfl⟩
        · have h133 := of_decide_eq_false hh
          have h134 : 1 ≤ b.toInt := xj_nlt h133
          show RP 24 _ 12 [(0, .int a), (1, .int b)] [] _
          refine RP_step (pc1 := 15) (L1 := [(0, .int a), (1, .int b)]) (S1 := [.int 8, .int b]) 2 0 (fun n => rfl) ?_
          refine RP_cond (decide (8 < b)) (fun n => rfl) (fun hh => ?_) (fun hh => ?_)
          · have h135 := of_decide_eq_true hh
            have h136 : 8 < b.toInt := xj_lt h135
            show RP 24 _ 30 [(0, .int a), (1, .int b)] [] _
            refine RP_done 4 (fun n => rfl) ?_
            refine Or.inr ⟨0, rfl, ?_⟩
            show RP 25 _ 218 [(0, .int 6), (1, .int a), (2, .int b), (3, .int c), (4, .int d)] [.int 0] _
            refine RP_done 5 (fun n => rfl) ?_
            refine ⟨Or.inl rfl, rfl, ?_⟩
            show RP 59 _ 0 [(0, .int 6), (1, .int a), (2, .int b), (3, .int c), (4, .int d)] [] _
            refine RP_step (pc1 := 214) (L1 := [(0, .int 6), (1, .int a), (2, .int b), (3, .int c), (4, .int d)]) (S1 := [.int b, .int a]) 4 0 (fun n => rfl) ?_
            refine RP_call 58 [.int a, .int b] (fun n => rfl) ?_
            show RP 58 _ 0 [(0, .int a), (1, .int b)] [] _
            refine RP_step (pc1 := 1) (L1 := [(0, .int a), (1, .int b)]) (S1 := [.int a]) 1 0 (fun n => rfl) ?_
            refine RP_call 57 [.int a] (fun n => rfl) ?_
            show RP 57 _ 0 [(0, .int a)] [] _
            refine RP_step (pc1 := 4) (L1 := [(0, .int a)]) (S1 := [.int 15, .int 0, .int a]) 3 0 (fun n => rfl) ?_
            refine RP_call 55 [.int a, .int 0, .int 15] (fun n => rfl) ?_
            show RP 55 _ 0 [(0, .int a), (1, .int 0), (2, .int 15)] [] _
            refine RP_step (pc1 := 2) (L1 := [(0, .int a), (1, .int 0), (2, .int 15)]) (S1 := [.int 0, .int a]) 2 0 (fun n => rfl) ?_
            refine RP_cond (decide (a < 0)) (fun n => rfl) (fun h => absurd (of_decide_eq_true h) (xi_nlt (x := a) (y := 0) (show 0 ≤ a.toInt by omega))) (fun _ => ?_)
            show RP 55 _ 5 [(0, .int a), (1, .int 0), (2, .int 15)] [] _
            refine RP_step (pc1 := 7) (L1 := [(0, .int a), (1, .int 0), (2, .int 15)]) (S1 := [.int 15, .int a]) 2 0 (fun n => rfl) ?_
            refine RP_cond (decide (15 < a)) (fun n => rfl) (fun h => absurd (of_decide_eq_true h) (xi_nlt (x := 15) (y := a) (show a.toInt ≤ 15 by omega))) (fun _ => ?_)
            show RP 55 _ 10 [(0, .int a), (1, .int 0), (2, .int 15)] [] _
            refine RP_done 5 (fun n => rfl) ?_
            refine Or.inr ⟨1, rfl, ?_⟩
            show RP 57 _ 7 [(0, .int a)] [.int 1] _
            refine RP_done 3 (fun n => rfl) ?_
            refine Or.inr ⟨1, rfl, ?_⟩
            show RP 58 _ 4 [(0, .int a), (1, .int b)] [.int 1] _
            refine RP_step (pc1 := 11) (L1 := [(0, .int a), (1, .int b)]) (S1 := [.int 8, .int 1, .int b]) 4 0 (fun n => rfl) ?_
            refine RP_call 55 [.int b, .int 1, .int 8] (fun n => rfl) ?_
            show RP 55 _ 0 [(0, .int b), (1, .int 1), (2, .int 8)] [] _
            refine RP_step (pc1 := 2) (L1 := [(0, .int b), (1, .int 1), (2, .int 8)]) (S1 := [.int 1, .int b]) 2 0 (fun n => rfl) ?_
            refine RP_cond (decide (b < 1)) (fun n => rfl) (fun h => absurd (of_decide_eq_true h) (xi_nlt (x := b) (y := 1) (show 1 ≤ b.toInt by omega))) (fun _ => ?_)
            show RP 55 _ 5 [(0, .int b), (1, .int 1), (2, .int 8)] [] _
            refine RP_step (pc1 := 7) (L1 := [(0, .int b), (1, .int 1), (2, .int 8)]) (S1 := [.int 8, .int b]) 2 0 (fun n => rfl) ?_
            refine RP_cond (decide (8 < b)) (fun n => rfl) (fun _ => ?_) (fun h => absurd (xi_lt (x := 8) (y := b) (show 8 < b.toInt by omega)) (of_decide_eq_false h))
            show RP 55 _ 14 [(0, .int b), (1, .int 1), (2, .int 8)] [] _
            refine RP_done 4 (fun n => rfl) ?_
            refine Or.inr ⟨0, rfl, ?_⟩
            show RP 58 _ 14 [(0, .int a), (1, .int b)] [.int 0] _
            refine RP_done 5 (fun n => rfl) ?_
            refine Or.inr ⟨0, rfl, ?_⟩
            show RP 59 _ 217 [(0, .int 6), (1, .int a), (2, .int b), (3, .int c), (4, .int d)] [.int 0] _
            refine RP_done 5 (fun n => rfl) ?_
            exact ⟨rfl, rfl⟩
          · have h137 := of_decide_eq_false hh
            have h138 : b.toInt ≤ 8 := xj_nlt h137
            show RP 24 _ 18 [(0, .int a), (1, .int b)] [] _
            refine RP_step (pc1 := 20) (L1 := [(0, .int a), (1, .int b)]) (S1 := [.int b, .int a]) 2 0 (fun n => rfl) ?_
            refine RP_bin (fun x y => x + y) (fun n => rfl) ?_
            show RP 24 _ 21 [(0, .int a), (1, .int b)] [.int (a + b)] _
            refine RP_step (pc1 := 23) (L1 := [(0, .int a), (1, .int b)]) (S1 := [.int 16, .int (a + b)]) 1 0 (fun n => rfl) ?_
            refine RP_cond (decide (16 < (a + b))) (fun n => rfl) (fun hh => ?_) (fun hh => ?_)
            · have h139 := of_decide_eq_true hh
              have h140 : 16 < (a + b).toInt := xj_lt h139
              show RP 24 _ 30 [(0, .int a), (1, .int b)] [] _
              refine RP_done 4 (fun n => rfl) ?_
              refine Or.inr ⟨0, rfl, ?_⟩
              show RP 25 _ 218 [(0, .int 6), (1, .int a), (2, .int b), (3, .int c), (4, .int d)] [.int 0] _
              refine RP_done 5 (fun n => rfl) ?_
              refine ⟨Or.inl rfl, rfl, ?_⟩
              show RP 59 _ 0 [(0, .int 6), (1, .int a), (2, .int b), (3, .int c), (4, .int d)] [] _
              refine RP_step (pc1 := 214) (L1 := [(0, .int 6), (1, .int a), (2, .int b), (3, .int c), (4, .int d)]) (S1 := [.int b, .int a]) 4 0 (fun n => rfl) ?_
              refine RP_call 58 [.int a, .int b] (fun n => rfl) ?_
              show RP 58 _ 0 [(0, .int a), (1, .int b)] [] _
              refine RP_step (pc1 := 1) (L1 := [(0, .int a), (1, .int b)]) (S1 := [.int a]) 1 0 (fun n => rfl) ?_
              refine RP_call 57 [.int a] (fun n => rfl) ?_
              show RP 57 _ 0 [(0, .int a)] [] _
              refine RP_step (pc1 := 4) (L1 := [(0, .int a)]) (S1 := [.int 15, .int 0, .int a]) 3 0 (fun n => rfl) ?_
              refine RP_call 55 [.int a, .int 0, .int 15] (fun n => rfl) ?_
              show RP 55 _ 0 [(0, .int a), (1, .int 0), (2, .int 15)] [] _
              refine RP_step (pc1 := 2) (L1 := [(0, .int a), (1, .int 0), (2, .int 15)]) (S1 := [.int 0, .int a]) 2 0 (fun n => rfl) ?_
              refine RP_cond (decide (a < 0)) (fun n => rfl) (fun h => absurd (of_decide_eq_true h) (xi_nlt (x := a) (y := 0) (show 0 ≤ a.toInt by omega))) (fun _ => ?_)
              show RP 55 _ 5 [(0, .int a), (1, .int 0), (2, .int 15)] [] _
              refine RP_step (pc1 := 7) (L1 := [(0, .int a), (1, .int 0), (2, .int 15)]) (S1 := [.int 15, .int a]) 2 0 (fun n => rfl) ?_
              refine RP_cond (decide (15 < a)) (fun n => rfl) (fun h => absurd (of_decide_eq_true h) (xi_nlt (x := 15) (y := a) (show a.toInt ≤ 15 by omega))) (fun _ => ?_)
              show RP 55 _ 10 [(0, .int a), (1, .int 0), (2, .int 15)] [] _
              refine RP_done 5 (fun n => rfl) ?_
              refine Or.inr ⟨1, rfl, ?_⟩
              show RP 57 _ 7 [(0, .int a)] [.int 1] _
              refine RP_done 3 (fun n => rfl) ?_
              refine Or.inr ⟨1, rfl, ?_⟩
              show RP 58 _ 4 [(0, .int a), (1, .int b)] [.int 1] _
              refine RP_step (pc1 := 11) (L1 := [(0, .int a), (1, .int b)]) (S1 := [.int 8, .int 1, .int b]) 4 0 (fun n => rfl) ?_
              refine RP_call 55 [.int b, .int 1, .int 8] (fun n => rfl) ?_
              show RP 55 _ 0 [(0, .int b), (1, .int 1), (2, .int 8)] [] _
              refine RP_step (pc1 := 2) (L1 := [(0, .int b), (1, .int 1), (2, .int 8)]) (S1 := [.int 1, .int b]) 2 0 (fun n => rfl) ?_
              refine RP_cond (decide (b < 1)) (fun n => rfl) (fun h => absurd (of_decide_eq_true h) (xi_nlt (x := b) (y := 1) (show 1 ≤ b.toInt by omega))) (fun _ => ?_)
              show RP 55 _ 5 [(0, .int b), (1, .int 1), (2, .int 8)] [] _
              refine RP_step (pc1 := 7) (L1 := [(0, .int b), (1, .int 1), (2, .int 8)]) (S1 := [.int 8, .int b]) 2 0 (fun n => rfl) ?_
              refine RP_cond (decide (8 < b)) (fun n => rfl) (fun h => absurd (of_decide_eq_true h) (xi_nlt (x := 8) (y := b) (show b.toInt ≤ 8 by omega))) (fun _ => ?_)
              show RP 55 _ 10 [(0, .int b), (1, .int 1), (2, .int 8)] [] _
              refine RP_done 5 (fun n => rfl) ?_
              refine Or.inr ⟨1, rfl, ?_⟩
              show RP 58 _ 14 [(0, .int a), (1, .int b)] [.int 1] _
              refine RP_step (pc1 := 19) (L1 := [(0, .int a), (1, .int b)]) (S1 := [.int b, .int a]) 3 0 (fun n => rfl) ?_
              refine RP_bin (fun x y => x + y) (fun n => rfl) ?_
              show RP 58 _ 20 [(0, .int a), (1, .int b)] [.int (a + b)] _
              refine RP_step (pc1 := 22) (L1 := [(0, .int a), (1, .int b)]) (S1 := [.int 16, .int (a + b)]) 1 0 (fun n => rfl) ?_
              refine RP_cond (decide (16 < (a + b))) (fun n => rfl) (fun _ => ?_) (fun h => absurd (xi_lt (x := 16) (y := (a + b)) (show 16 < (a + b).toInt by omega)) (of_decide_eq_false h))
              show RP 58 _ 29 [(0, .int a), (1, .int b)] [] _
              refine RP_done 4 (fun n => rfl) ?_
              refine Or.inr ⟨0, rfl, ?_⟩
              show RP 59 _ 217 [(0, .int 6), (1, .int a), (2, .int b), (3, .int c), (4, .int d)] [.int 0] _
              refine RP_done 5 (fun n => rfl) ?_
              exact ⟨rfl, rfl⟩
            · have h141 := of_decide_eq_false hh
              have h142 : (a + b).toInt ≤ 16 := xj_nlt h141
              show RP 24 _ 26 [(0, .int a), (1, .int b)] [] _
              refine RP_done 5 (fun n => rfl) ?_
              refine Or.inr ⟨1, rfl, ?_⟩
              show RP 25 _ 218 [(0, .int 6), (1, .int a), (2, .int b), (3, .int c), (4, .int d)] [.int 1] _
              refine RP_step (pc1 := 222) (L1 := [(0, .int 6), (1, .int a), (2, .int b), (3, .int c), (4, .int d)]) (S1 := [.int c]) 2 0 (fun n => rfl) ?_
              refine RP_call 23 [.int c] (fun n => rfl) ?_
              show RP 23 _ 0 [(0, .int c)] [] _
              refine RP_step (pc1 := 1) (L1 := [(0, .int c)]) (S1 := [.int c]) 1 0 (fun n => rfl) ?_
              refine RP_cond (decide (c < 0)) (fun n => rfl) (fun hh => ?_) (fun hh => ?_)
              · have h143 := of_decide_eq_true hh
                have h144 : c.toInt < 0 := xj_lt h143
                show RP 23 _ 14 [(0, .int c)] [] _
                refine RP_done 4 (fun n => rfl) ?_
                refine Or.inr ⟨0, rfl, ?_⟩
                show RP 25 _ 225 [(0, .int 6), (1, .int a), (2, .int b), (3, .int c), (4, .int d)] [.int 0] _
                refine RP_done 5 (fun n => rfl) ?_
                refine ⟨Or.inl rfl, rfl, ?_⟩
                show RP 59 _ 0 [(0, .int 6), (1, .int a), (2, .int b), (3, .int c), (4, .int d)] [] _
                refine RP_step (pc1 := 214) (L1 := [(0, .int 6), (1, .int a), (2, .int b), (3, .int c), (4, .int d)]) (S1 := [.int b, .int a]) 4 0 (fun n => rfl) ?_
                refine RP_call 58 [.int a, .int b] (fun n => rfl) ?_
                show RP 58 _ 0 [(0, .int a), (1, .int b)] [] _
                refine RP_step (pc1 := 1) (L1 := [(0, .int a), (1, .int b)]) (S1 := [.int a]) 1 0 (fun n => rfl) ?_
                refine RP_call 57 [.int a] (fun n => rfl) ?_
                show RP 57 _ 0 [(0, .int a)] [] _
                refine RP_step (pc1 := 4) (L1 := [(0, .int a)]) (S1 := [.int 15, .int 0, .int a]) 3 0 (fun n => rfl) ?_
                refine RP_call 55 [.int a, .int 0, .int 15] (fun n => rfl) ?_
                show RP 55 _ 0 [(0, .int a), (1, .int 0), (2, .int 15)] [] _
                refine RP_step (pc1 := 2) (L1 := [(0, .int a), (1, .int 0), (2, .int 15)]) (S1 := [.int 0, .int a]) 2 0 (fun n => rfl) ?_
                refine RP_cond (decide (a < 0)) (fun n => rfl) (fun h => absurd (of_decide_eq_true h) (xi_nlt (x := a) (y := 0) (show 0 ≤ a.toInt by omega))) (fun _ => ?_)
                show RP 55 _ 5 [(0, .int a), (1, .int 0), (2, .int 15)] [] _
                refine RP_step (pc1 := 7) (L1 := [(0, .int a), (1, .int 0), (2, .int 15)]) (S1 := [.int 15, .int a]) 2 0 (fun n => rfl) ?_
                refine RP_cond (decide (15 < a)) (fun n => rfl) (fun h => absurd (of_decide_eq_true h) (xi_nlt (x := 15) (y := a) (show a.toInt ≤ 15 by omega))) (fun _ => ?_)
                show RP 55 _ 10 [(0, .int a), (1, .int 0), (2, .int 15)] [] _
                refine RP_done 5 (fun n => rfl) ?_
                refine Or.inr ⟨1, rfl, ?_⟩
                show RP 57 _ 7 [(0, .int a)] [.int 1] _
                refine RP_done 3 (fun n => rfl) ?_
                refine Or.inr ⟨1, rfl, ?_⟩
                show RP 58 _ 4 [(0, .int a), (1, .int b)] [.int 1] _
                refine RP_step (pc1 := 11) (L1 := [(0, .int a), (1, .int b)]) (S1 := [.int 8, .int 1, .int b]) 4 0 (fun n => rfl) ?_
                refine RP_call 55 [.int b, .int 1, .int 8] (fun n => rfl) ?_
                show RP 55 _ 0 [(0, .int b), (1, .int 1), (2, .int 8)] [] _
                refine RP_step (pc1 := 2) (L1 := [(0, .int b), (1, .int 1), (2, .int 8)]) (S1 := [.int 1, .int b]) 2 0 (fun n => rfl) ?_
                refine RP_cond (decide (b < 1)) (fun n => rfl) (fun h => absurd (of_decide_eq_true h) (xi_nlt (x := b) (y := 1) (show 1 ≤ b.toInt by omega))) (fun _ => ?_)
                show RP 55 _ 5 [(0, .int b), (1, .int 1), (2, .int 8)] [] _
                refine RP_step (pc1 := 7) (L1 := [(0, .int b), (1, .int 1), (2, .int 8)]) (S1 := [.int 8, .int b]) 2 0 (fun n => rfl) ?_
                refine RP_cond (decide (8 < b)) (fun n => rfl) (fun h => absurd (of_decide_eq_true h) (xi_nlt (x := 8) (y := b) (show b.toInt ≤ 8 by omega))) (fun _ => ?_)
                show RP 55 _ 10 [(0, .int b), (1, .int 1), (2, .int 8)] [] _
                refine RP_done 5 (fun n => rfl) ?_
                refine Or.inr ⟨1, rfl, ?_⟩
                show RP 58 _ 14 [(0, .int a), (1, .int b)] [.int 1] _
                refine RP_step (pc1 := 19) (L1 := [(0, .int a), (1, .int b)]) (S1 := [.int b, .int a]) 3 0 (fun n => rfl) ?_
                refine RP_bin (fun x y => x + y) (fun n => rfl) ?_
                show RP 58 _ 20 [(0, .int a), (1, .int b)] [.int (a + b)] _
                refine RP_step (pc1 := 22) (L1 := [(0, .int a), (1, .int b)]) (S1 := [.int 16, .int (a + b)]) 1 0 (fun n => rfl) ?_
                refine RP_cond (decide (16 < (a + b))) (fun n => rfl) (fun h => absurd (of_decide_eq_true h) (xi_nlt (x := 16) (y := (a + b)) (show (a + b).toInt ≤ 16 by omega))) (fun _ => ?_)
                show RP 58 _ 25 [(0, .int a), (1, .int b)] [] _
                refine RP_done 5 (fun n => rfl) ?_
                refine Or.inr ⟨1, rfl, ?_⟩
                show RP 59 _ 217 [(0, .int 6), (1, .int a), (2, .int b), (3, .int c), (4, .int d)] [.int 1] _
                refine RP_step (pc1 := 221) (L1 := [(0, .int 6), (1, .int a), (2, .int b), (3, .int c), (4, .int d)]) (S1 := [.int c]) 2 0 (fun n => rfl) ?_
                refine RP_call 57 [.int c] (fun n => rfl) ?_
                show RP 57 _ 0 [(0, .int c)] [] _
                refine RP_step (pc1 := 4) (L1 := [(0, .int c)]) (S1 := [.int 15, .int 0, .int c]) 3 0 (fun n => rfl) ?_
                refine RP_call 55 [.int c, .int 0, .int 15] (fun n => rfl) ?_
                show RP 55 _ 0 [(0, .int c), (1, .int 0), (2, .int 15)] [] _
                refine RP_step (pc1 := 2) (L1 := [(0, .int c), (1, .int 0), (2, .int 15)]) (S1 := [.int 0, .int c]) 2 0 (fun n => rfl) ?_
                refine RP_cond (decide (c < 0)) (fun n => rfl) (fun _ => ?_) (fun h => absurd (xi_lt (x := c) (y := 0) (show c.toInt < 0 by omega)) (of_decide_eq_false h))
                show RP 55 _ 14 [(0, .int c), (1, .int 0), (2, .int 15)] [] _
                refine RP_done 4 (fun n => rfl) ?_
                refine Or.inr ⟨0, rfl, ?_⟩
                show RP 57 _ 7 [(0, .int c)] [.int 0] _
                refine RP_done 3 (fun n => rfl) ?_
                refine Or.inr ⟨0, rfl, ?_⟩
                show RP 59 _ 224 [(0, .int 6), (1, .int a), (2, .int b), (3, .int c), (4, .int d)] [.int 0] _
                refine RP_done 5 (fun n => rfl) ?_
                exact ⟨rfl, rfl⟩
              · have h145 := of_decide_eq_false hh
                have h146 : 0 ≤ c.toInt := xj_nlt h145
                show RP 23 _ 4 [(0, .int c)] [] _
                refine RP_step (pc1 := 7) (L1 := [(0, .int c)]) (S1 := [.int 16, .int c]) 2 0 (fun n => rfl) ?_
                refine RP_cond (decide (16 ≤ c)) (fun n => rfl) (fun hh => ?_) (fun hh => ?_)
                · have h147 := of_decide_eq_true hh
                  have h148 : 16 ≤ c.toInt := xj_le h147
                  show RP 23 _ 14 [(0, .int c)] [] _
                  refine RP_done 4 (fun n => rfl) ?_
                  refine Or.inr ⟨0, rfl, ?_⟩
                  show RP 25 _ 225 [(0, .int 6), (1, .int a), (2, .int b), (3, .int c), (4, .int d)] [.int 0] _
                  refine RP_done 5 (fun n => rfl) ?_
                  refine ⟨Or.inl rfl, rfl, ?_⟩
                  show RP 59 _ 0 [(0, .int 6), (1, .int a), (2, .int b), (3, .int c), (4, .int d)] [] _
                  refine RP_step (pc1 := 214) (L1 := [(0, .int 6), (1, .int a), (2, .int b), (3, .int c), (4, .int d)]) (S1 := [.int b, .int a]) 4 0 (fun n => rfl) ?_
                  refine RP_call 58 [.int a, .int b] (fun n => rfl) ?_
                  show RP 58 _ 0 [(0, .int a), (1, .int b)] [] _
                  refine RP_step (pc1 := 1) (L1 := [(0, .int a), (1, .int b)]) (S1 := [.int a]) 1 0 (fun n => rfl) ?_
                  refine RP_call 57 [.int a] (fun n => rfl) ?_
                  show RP 57 _ 0 [(0, .int a)] [] _
                  refine RP_step (pc1 := 4) (L1 := [(0, .int a)]) (S1 := [.int 15, .int 0, .int a]) 3 0 (fun n => rfl) ?_
                  refine RP_call 55 [.int a, .int 0, .int 15] (fun n => rfl) ?_
                  show RP 55 _ 0 [(0, .int a), (1, .int 0), (2, .int 15)] [] _
                  refine RP_step (pc1 := 2) (L1 := [(0, .int a), (1, .int 0), (2, .int 15)]) (S1 := [.int 0, .int a]) 2 0 (fun n => rfl) ?_
                  refine RP_cond (decide (a < 0)) (fun n => rfl) (fun h => absurd (of_decide_eq_true h) (xi_nlt (x := a) (y := 0) (show 0 ≤ a.toInt by omega))) (fun _ => ?_)
                  show RP 55 _ 5 [(0, .int a), (1, .int 0), (2, .int 15)] [] _
                  refine RP_step (pc1 := 7) (L1 := [(0, .int a), (1, .int 0), (2, .int 15)]) (S1 := [.int 15, .int a]) 2 0 (fun n => rfl) ?_
                  refine RP_cond (decide (15 < a)) (fun n => rfl) (fun h => absurd (of_decide_eq_true h) (xi_nlt (x := 15) (y := a) (show a.toInt ≤ 15 by omega))) (fun _ => ?_)
                  show RP 55 _ 10 [(0, .int a), (1, .int 0), (2, .int 15)] [] _
                  refine RP_done 5 (fun n => rfl) ?_
                  refine Or.inr ⟨1, rfl, ?_⟩
                  show RP 57 _ 7 [(0, .int a)] [.int 1] _
                  refine RP_done 3 (fun n => rfl) ?_
                  refine Or.inr ⟨1, rfl, ?_⟩
                  show RP 58 _ 4 [(0, .int a), (1, .int b)] [.int 1] _
                  refine RP_step (pc1 := 11) (L1 := [(0, .int a), (1, .int b)]) (S1 := [.int 8, .int 1, .int b]) 4 0 (fun n => rfl) ?_
                  refine RP_call 55 [.int b, .int 1, .int 8] (fun n => rfl) ?_
                  show RP 55 _ 0 [(0, .int b), (1, .int 1), (2, .int 8)] [] _
                  refine RP_step (pc1 := 2) (L1 := [(0, .int b), (1, .int 1), (2, .int 8)]) (S1 := [.int 1, .int b]) 2 0 (fun n => rfl) ?_
                  refine RP_cond (decide (b < 1)) (fun n => rfl) (fun h => absurd (of_decide_eq_true h) (xi_nlt (x := b) (y := 1) (show 1 ≤ b.toInt by omega))) (fun _ => ?_)
                  show RP 55 _ 5 [(0, .int b), (1, .int 1), (2, .int 8)] [] _
                  refine RP_step (pc1 := 7) (L1 := [(0, .int b), (1, .int 1), (2, .int 8)]) (S1 := [.int 8, .int b]) 2 0 (fun n => rfl) ?_
                  refine RP_cond (decide (8 < b)) (fun n => rfl) (fun h => absurd (of_decide_eq_true h) (xi_nlt (x := 8) (y := b) (show b.toInt ≤ 8 by omega))) (fun _ => ?_)
                  show RP 55 _ 10 [(0, .int b), (1, .int 1), (2, .int 8)] [] _
                  refine RP_done 5 (fun n => rfl) ?_
                  refine Or.inr ⟨1, rfl, ?_⟩
                  show RP 58 _ 14 [(0, .int a), (1, .int b)] [.int 1] _
                  refine RP_step (pc1 := 19) (L1 := [(0, .int a), (1, .int b)]) (S1 := [.int b, .int a]) 3 0 (fun n => rfl) ?_
                  refine RP_bin (fun x y => x + y) (fun n => rfl) ?_
                  show RP 58 _ 20 [(0, .int a), (1, .int b)] [.int (a + b)] _
                  refine RP_step (pc1 := 22) (L1 := [(0, .int a), (1, .int b)]) (S1 := [.int 16, .int (a + b)]) 1 0 (fun n => rfl) ?_
                  refine RP_cond (decide (16 < (a + b))) (fun n => rfl) (fun h => absurd (of_decide_eq_true h) (xi_nlt (x := 16) (y := (a + b)) (show (a + b).toInt ≤ 16 by omega))) (fun _ => ?_)
                  show RP 58 _ 25 [(0, .int a), (1, .int b)] [] _
                  refine RP_done 5 (fun n => rfl) ?_
                  refine Or.inr ⟨1, rfl, ?_⟩
                  show RP 59 _ 217 [(0, .int 6), (1, .int a), (2, .int b), (3, .int c), (4, .int d)] [.int 1] _
                  refine RP_step (pc1 := 221) (L1 := [(0, .int 6), (1, .int a), (2, .int b), (3, .int c), (4, .int d)]) (S1 := [.int c]) 2 0 (fun n => rfl) ?_
                  refine RP_call 57 [.int c] (fun n => rfl) ?_
                  show RP 57 _ 0 [(0, .int c)] [] _
                  refine RP_step (pc1 := 4) (L1 := [(0, .int c)]) (S1 := [.int 15, .int 0, .int c]) 3 0 (fun n => rfl) ?_
                  refine RP_call 55 [.int c, .int 0, .int 15] (fun n => rfl) ?_
                  show RP 55 _ 0 [(0, .int c), (1, .int 0), (2, .int 15)] [] _
                  refine RP_step (pc1 := 2) (L1 := [(0, .int c), (1, .int 0), (2, .int 15)]) (S1 := [.int 0, .int c]) 2 0 (fun n => rfl) ?_
                  refine RP_cond (decide (c < 0)) (fun n => rfl) (fun h => absurd (of_decide_eq_true h) (xi_nlt (x := c) (y := 0) (show 0 ≤ c.toInt by omega))) (fun _ => ?_)
                  show RP 55 _ 5 [(0, .int c), (1, .int 0), (2, .int 15)] [] _
                  refine RP_step (pc1 := 7) (L1 := [(0, .int c), (1, .int 0), (2, .int 15)]) (S1 := [.int 15, .int c]) 2 0 (fun n => rfl) ?_
                  refine RP_cond (decide (15 < c)) (fun n => rfl) (fun _ => ?_) (fun h => absurd (xi_lt (x := 15) (y := c) (show 15 < c.toInt by omega)) (of_decide_eq_false h))
                  show RP 55 _ 14 [(0, .int c), (1, .int 0), (2, .int 15)] [] _
                  refine RP_done 4 (fun n => rfl) ?_
                  refine Or.inr ⟨0, rfl, ?_⟩
                  show RP 57 _ 7 [(0, .int c)] [.int 0] _
                  refine RP_done 3 (fun n => rfl) ?_
                  refine Or.inr ⟨0, rfl, ?_⟩
                  show RP 59 _ 224 [(0, .int 6), (1, .int a), (2, .int b), (3, .int c), (4, .int d)] [.int 0] _
                  refine RP_done 5 (fun n => rfl) ?_
                  exact ⟨rfl, rfl⟩
                · have h149 := of_decide_eq_false hh
                  have h150 : c.toInt < 16 := xj_nle h149
                  show RP 23 _ 10 [(0, .int c)] [] _
                  refine RP_done 5 (fun n => rfl) ?_
                  refine Or.inr ⟨1, rfl, ?_⟩
                  show RP 25 _ 225 [(0, .int 6), (1, .int a), (2, .int b), (3, .int c), (4, .int d)] [.int 1] _
                  refine RP_step (pc1 := 230) (L1 := [(0, .int 6), (1, .int a), (2, .int b), (3, .int c), (4, .int d)]) (S1 := [.int d]) 2 0 (fun n => rfl) ?_
                  refine RP_call 23 [.int d] (fun n => rfl) ?_
                  show RP 23 _ 0 [(0, .int d)] [] _
                  refine RP_step (pc1 := 1) (L1 := [(0, .int d)]) (S1 := [.int d]) 1 0 (fun n => rfl) ?_
                  refine RP_cond (decide (d < 0)) (fun n => rfl) (fun hh => ?_) (fun hh => ?_)
                  · have h151 := of_decide_eq_true hh
                    have h152 : d.toInt < 0 := xj_lt h151
                    show RP 23 _ 14 [(0, .int d)] [] _
                    refine RP_done 4 (fun n => rfl) ?_
                    refine Or.inr ⟨0, rfl, ?_⟩
                    show RP 25 _ 233 [(0, .int 6), (1, .int a), (2, .int b), (3, .int c), (4, .int d)] [.int 0] _
                    refine RP_done 5 (fun n => rfl) ?_
                    refine ⟨Or.inl rfl, rfl, ?_⟩
                    show RP 59 _ 0 [(0, .int 6), (1, .int a), (2, .int b), (3, .int c), (4, .int d)] [] _
                    refine RP_step (pc1 := 214) (L1 := [(0, .int 6), (1, .int a), (2, .int b), (3, .int c), (4, .int d)]) (S1 := [.int b, .int a]) 4 0 (fun n => rfl) ?_
                    refine RP_call 58 [.int a, .int b] (fun n => rfl) ?_
                    show RP 58 _ 0 [(0, .int a), (1, .int b)] [] _
                    refine RP_step (pc1 := 1) (L1 := [(0, .int a), (1, .int b)]) (S1 := [.int a]) 1 0 (fun n => rfl) ?_
                    refine RP_call 57 [.int a] (fun n => rfl) ?_
                    show RP 57 _ 0 [(0, .int a)] [] _
                    refine RP_step (pc1 := 4) (L1 := [(0, .int a)]) (S1 := [.int 15, .int 0, .int a]) 3 0 (fun n => rfl) ?_
                    refine RP_call 55 [.int a, .int 0, .int 15] (fun n => rfl) ?_
                    show RP 55 _ 0 [(0, .int a), (1, .int 0), (2, .int 15)] [] _
                    refine RP_step (pc1 := 2) (L1 := [(0, .int a), (1, .int 0), (2, .int 15)]) (S1 := [.int 0, .int a]) 2 0 (fun n => rfl) ?_
                    refine RP_cond (decide (a < 0)) (fun n => rfl) (fun h => absurd (of_decide_eq_true h) (xi_nlt (x := a) (y := 0) (show 0 ≤ a.toInt by omega))) (fun _ => ?_)
                    show RP 55 _ 5 [(0, .int a), (1, .int 0), (2, .int 15)] [] _
                    refine RP_step (pc1 := 7) (L1 := [(0, .int a), (1, .int 0), (2, .int 15)]) (S1 := [.int 15, .int a]) 2 0 (fun n => rfl) ?_
                    refine RP_cond (decide (15 < a)) (fun n => rfl) (fun h => absurd (of_decide_eq_true h) (xi_nlt (x := 15) (y := a) (show a.toInt ≤ 15 by omega))) (fun _ => ?_)
                    show RP 55 _ 10 [(0, .int a), (1, .int 0), (2, .int 15)] [] _
                    refine RP_done 5 (fun n => rfl) ?_
                    refine Or.inr ⟨1, rfl, ?_⟩
                    show RP 57 _ 7 [(0, .int a)] [.int 1] _
                    refine RP_done 3 (fun n => rfl) ?_
                    refine Or.inr ⟨1, rfl, ?_⟩
                    show RP 58 _ 4 [(0, .int a), (1, .int b)] [.int 1] _
                    refine RP_step (pc1 := 11) (L1 := [(0, .int a), (1, .int b)]) (S1 := [.int 8, .int 1, .int b]) 4 0 (fun n => rfl) ?_
                    refine RP_call 55 [.int b, .int 1, .int 8] (fun n => rfl) ?_
                    show RP 55 _ 0 [(0, .int b), (1, .int 1), (2, .int 8)] [] _
                    refine RP_step (pc1 := 2) (L1 := [(0, .int b), (1, .int 1), (2, .int 8)]) (S1 := [.int 1, .int b]) 2 0 (fun n => rfl) ?_
                    refine RP_cond (decide (b < 1)) (fun n => rfl) (fun h => absurd (of_decide_eq_true h) (xi_nlt (x := b) (y := 1) (show 1 ≤ b.toInt by omega))) (fun _ => ?_)
                    show RP 55 _ 5 [(0, .int b), (1, .int 1), (2, .int 8)] [] _
                    refine RP_step (pc1 := 7) (L1 := [(0, .int b), (1, .int 1), (2, .int 8)]) (S1 := [.int 8, .int b]) 2 0 (fun n => rfl) ?_
                    refine RP_cond (decide (8 < b)) (fun n => rfl) (fun h => absurd (of_decide_eq_true h) (xi_nlt (x := 8) (y := b) (show b.toInt ≤ 8 by omega))) (fun _ => ?_)
                    show RP 55 _ 10 [(0, .int b), (1, .int 1), (2, .int 8)] [] _
                    refine RP_done 5 (fun n => rfl) ?_
                    refine Or.inr ⟨1, rfl, ?_⟩
                    show RP 58 _ 14 [(0, .int a), (1, .int b)] [.int 1] _
                    refine RP_step (pc1 := 19) (L1 := [(0, .int a), (1, .int b)]) (S1 := [.int b, .int a]) 3 0 (fun n => rfl) ?_
                    refine RP_bin (fun x y => x + y) (fun n => rfl) ?_
                    show RP 58 _ 20 [(0, .int a), (1, .int b)] [.int (a + b)] _
                    refine RP_step (pc1 := 22) (L1 := [(0, .int a), (1, .int b)]) (S1 := [.int 16, .int (a + b)]) 1 0 (fun n => rfl) ?_
                    refine RP_cond (decide (16 < (a + b))) (fun n => rfl) (fun h => absurd (of_decide_eq_true h) (xi_nlt (x := 16) (y := (a + b)) (show (a + b).toInt ≤ 16 by omega))) (fun _ => ?_)
                    show RP 58 _ 25 [(0, .int a), (1, .int b)] [] _
                    refine RP_done 5 (fun n => rfl) ?_
                    refine Or.inr ⟨1, rfl, ?_⟩
                    show RP 59 _ 217 [(0, .int 6), (1, .int a), (2, .int b), (3, .int c), (4, .int d)] [.int 1] _
                    refine RP_step (pc1 := 221) (L1 := [(0, .int 6), (1, .int a), (2, .int b), (3, .int c), (4, .int d)]) (S1 := [.int c]) 2 0 (fun n => rfl) ?_
                    refine RP_call 57 [.int c] (fun n => rfl) ?_
                    show RP 57 _ 0 [(0, .int c)] [] _
                    refine RP_step (pc1 := 4) (L1 := [(0, .int c)]) (S1 := [.int 15, .int 0, .int c]) 3 0 (fun n => rfl) ?_
                    refine RP_call 55 [.int c, .int 0, .int 15] (fun n => rfl) ?_
                    show RP 55 _ 0 [(0, .int c), (1, .int 0), (2, .int 15)] [] _
                    refine RP_step (pc1 := 2) (L1 := [(0, .int c), (1, .int 0), (2, .int 15)]) (S1 := [.int 0, .int c]) 2 0 (fun n => rfl) ?_
                    refine RP_cond (decide (c < 0)) (fun n => rfl) (fun h => absurd (of_decide_eq_true h) (xi_nlt (x := c) (y := 0) (show 0 ≤ c.toInt by omega))) (fun _ => ?_)
                    show RP 55 _ 5 [(0, .int c), (1, .int 0), (2, .int 15)] [] _
                    refine RP_step (pc1 := 7) (L1 := [(0, .int c), (1, .int 0), (2, .int 15)]) (S1 := [.int 15, .int c]) 2 0 (fun n => rfl) ?_
                    refine RP_cond (decide (15 < c)) (fun n => rfl) (fun h => absurd (of_decide_eq_true h) (xi_nlt (x := 15) (y := c) (show c.toInt ≤ 15 by omega))) (fun _ => ?_)
                    show RP 55 _ 10 [(0, .int c), (1, .int 0), (2, .int 15)] [] _
                    refine RP_done 5 (fun n => rfl) ?_
                    refine Or.inr ⟨1, rfl, ?_⟩
                    show RP 57 _ 7 [(0, .int c)] [.int 1] _
                    refine RP_done 3 (fun n => rfl) ?_
                    refine Or.inr ⟨1, rfl, ?_⟩
                    show RP 59 _ 224 [(0, .int 6), (1, .int a), (2, .int b), (3, .int c), (4, .int d)] [.int 1] _
                    refine RP_step (pc1 := 229) (L1 := [(0, .int 6), (1, .int a), (2, .int b), (3, .int c), (4, .int d)]) (S1 := [.int d]) 2 0 (fun n => rfl) ?_
                    refine RP_call 57 [.int d] (fun n => rfl) ?_
                    show RP 57 _ 0 [(0, .int d)] [] _
                    refine RP_step (pc1 := 4) (L1 := [(0, .int d)]) (S1 := [.int 15, .int 0, .int d]) 3 0 (fun n => rfl) ?_
                    refine RP_call 55 [.int d, .int 0, .int 15] (fun n => rfl) ?_
                    show RP 55 _ 0 [(0, .int d), (1, .int 0), (2, .int 15)] [] _
                    refine RP_step (pc1 := 2) (L1 := [(0, .int d), (1, .int 0), (2, .int 15)]) (S1 := [.int 0, .int d]) 2 0 (fun n => rfl) ?_
                    refine RP_cond (decide (d < 0)) (fun n => rfl) (fun _ => ?_) (fun h => absurd (xi_lt (x := d) (y := 0) (show d.toInt < 0 by omega)) (of_decide_eq_false h))
                    show RP 55 _ 14 [(0, .int d), (1, .int 0), (2, .int 15)] [] _
                    refine RP_done 4 (fun n => rfl) ?_
                    refine Or.inr ⟨0, rfl, ?_⟩
                    show RP 57 _ 7 [(0, .int d)] [.int 0] _
                    refine RP_done 3 (fun n => rfl) ?_
                    refine Or.inr ⟨0, rfl, ?_⟩
                    show RP 59 _ 232 [(0, .int 6), (1, .int a), (2, .int b), (3, .int c), (4, .int d)] [.int 0] _
                    refine RP_done 5 (fun n => rfl) ?_
                    exact ⟨rfl, rfl⟩
                  · have h153 := of_decide_eq_false hh
                    have h154 : 0 ≤ d.toInt := xj_nlt h153
                    show RP 23 _ 4 [(0, .int d)] [] _
                    refine RP_step (pc1 := 7) (L1 := [(0, .int d)]) (S1 := [.int 16, .int d]) 2 0 (fun n => rfl) ?_
                    refine RP_cond (decide (16 ≤ d)) (fun n => rfl) (fun hh => ?_) (fun hh => ?_)
                    · have h155 := of_decide_eq_true hh
                      have h156 : 16 ≤ d.toInt := xj_le h155
                      show RP 23 _ 14 [(0, .int d)] [] _
                      refine RP_done 4 (fun n => rfl) ?_
                      refine Or.inr ⟨0, rfl, ?_⟩
                      show RP 25 _ 233 [(0, .int 6), (1, .int a), (2, .int b), (3, .int c), (4, .int d)] [.int 0] _
                      refine RP_done 5 (fun n => rfl) ?_
                      refine ⟨Or.inl rfl, rfl, ?_⟩
                      show RP 59 _ 0 [(0, .int 6), (1, .int a), (2, .int b), (3, .int c), (4, .int d)] [] _
                      refine RP_step (pc1 := 214) (L1 := [(0, .int 6), (1, .int a), (2, .int b), (3, .int c), (4, .int d)]) (S1 := [.int b, .int a]) 4 0 (fun n => rfl) ?_
                      refine RP_call 58 [.int a, .int b] (fun n => rfl) ?_
                      show RP 58 _ 0 [(0, .int a), (1, .int b)] [] _
                      refine RP_step (pc1 := 1) (L1 := [(0, .int a), (1, .int b)]) (S1 := [.int a]) 1 0 (fun n => rfl) ?_
                      refine RP_call 57 [.int a] (fun n => rfl) ?_
                      show RP 57 _ 0 [(0, .int a)] [] _
                      refine RP_step (pc1 := 4) (L1 := [(0, .int a)]) (S1 := [.int 15, .int 0, .int a]) 3 0 (fun n => rfl) ?_
                      refine RP_call 55 [.int a, .int 0, .int 15] (fun n => rfl) ?_
                      show RP 55 _ 0 [(0, .int a), (1, .int 0), (2, .int 15)] [] _
                      refine RP_step (pc1 := 2) (L1 := [(0, .int a), (1, .int 0), (2, .int 15)]) (S1 := [.int 0, .int a]) 2 0 (fun n => rfl) ?_
                      refine RP_cond (decide (a < 0)) (fun n => rfl) (fun h => absurd (of_decide_eq_true h) (xi_nlt (x := a) (y := 0) (show 0 ≤ a.toInt by omega))) (fun _ => ?_)
                      show RP 55 _ 5 [(0, .int a), (1, .int 0), (2, .int 15)] [] _
                      refine RP_step (pc1 := 7) (L1 := [(0, .int a), (1, .int 0), (2, .int 15)]) (S1 := [.int 15, .int a]) 2 0 (fun n => rfl) ?_
                      refine RP_cond (decide (15 < a)) (fun n => rfl) (fun h => absurd (of_decide_eq_true h) (xi_nlt (x := 15) (y := a) (show a.toInt ≤ 15 by omega))) (fun _ => ?_)
                      show RP 55 _ 10 [(0, .int a), (1, .int 0), (2, .int 15)] [] _
                      refine RP_done 5 (fun n => rfl) ?_
                      refine Or.inr ⟨1, rfl, ?_⟩
                      show RP 57 _ 7 [(0, .int a)] [.int 1] _
                      refine RP_done 3 (fun n => rfl) ?_
                      refine Or.inr ⟨1, rfl, ?_⟩
                      show RP 58 _ 4 [(0, .int a), (1, .int b)] [.int 1] _
                      refine RP_step (pc1 := 11) (L1 := [(0, .int a), (1, .int b)]) (S1 := [.int 8, .int 1, .int b]) 4 0 (fun n => rfl) ?_
                      refine RP_call 55 [.int b, .int 1, .int 8] (fun n => rfl) ?_
                      show RP 55 _ 0 [(0, .int b), (1, .int 1), (2, .int 8)] [] _
                      refine RP_step (pc1 := 2) (L1 := [(0, .int b), (1, .int 1), (2, .int 8)]) (S1 := [.int 1, .int b]) 2 0 (fun n => rfl) ?_
                      refine RP_cond (decide (b < 1)) (fun n => rfl) (fun h => absurd (of_decide_eq_true h) (xi_nlt (x := b) (y := 1) (show 1 ≤ b.toInt by omega))) (fun _ => ?_)
                      show RP 55 _ 5 [(0, .int b), (1, .int 1), (2, .int 8)] [] _
                      refine RP_step (pc1 := 7) (L1 := [(0, .int b), (1, .int 1), (2, .int 8)]) (S1 := [.int 8, .int b]) 2 0 (fun n => rfl) ?_
                      refine RP_cond (decide (8 < b)) (fun n => rfl) (fun h => absurd (of_decide_eq_true h) (xi_nlt (x := 8) (y := b) (show b.toInt ≤ 8 by omega))) (fun _ => ?_)
                      show RP 55 _ 10 [(0, .int b), (1, .int 1), (2, .int 8)] [] _
                      refine RP_done 5 (fun n => rfl) ?_
                      refine Or.inr ⟨1, rfl, ?_⟩
                      show RP 58 _ 14 [(0, .int a), (1, .int b)] [.int 1] _
                      refine RP_step (pc1 := 19) (L1 := [(0, .int a), (1, .int b)]) (S1 := [.int b, .int a]) 3 0 (fun n => rfl) ?_
                      refine RP_bin (fun x y => x + y) (fun n => rfl) ?_
                      show RP 58 _ 20 [(0, .int a), (1, .int b)] [.int (a + b)] _
                      refine RP_step (pc1 := 22) (L1 := [(0, .int a), (1, .int b)]) (S1 := [.int 16, .int (a + b)]) 1 0 (fun n => rfl) ?_
                      refine RP_cond (decide (16 < (a + b))) (fun n => rfl) (fun h => absurd (of_decide_eq_true h) (xi_nlt (x := 16) (y := (a + b)) (show (a + b).toInt ≤ 16 by omega))) (fun _ => ?_)
                      show RP 58 _ 25 [(0, .int a), (1, .int b)] [] _
                      refine RP_done 5 (fun n => rfl) ?_
                      refine Or.inr ⟨1, rfl, ?_⟩
                      show RP 59 _ 217 [(0, .int 6), (1, .int a), (2, .int b), (3, .int c), (4, .int d)] [.int 1] _
                      refine RP_step (pc1 := 221) (L1 := [(0, .int 6), (1, .int a), (2, .int b), (3, .int c), (4, .int d)]) (S1 := [.int c]) 2 0 (fun n => rfl) ?_
                      refine RP_call 57 [.int c] (fun n => rfl) ?_
                      show RP 57 _ 0 [(0, .int c)] [] _
                      refine RP_step (pc1 := 4) (L1 := [(0, .int c)]) (S1 := [.int 15, .int 0, .int c]) 3 0 (fun n => rfl) ?_
                      refine RP_call 55 [.int c, .int 0, .int 15] (fun n => rfl) ?_
                      show RP 55 _ 0 [(0, .int c), (1, .int 0), (2, .int 15)] [] _
                      refine RP_step (pc1 := 2) (L1 := [(0, .int c), (1, .int 0), (2, .int 15)]) (S1 := [.int 0, .int c]) 2 0 (fun n => rfl) ?_
                      refine RP_cond (decide (c < 0)) (fun n => rfl) (fun h => absurd (of_decide_eq_true h) (xi_nlt (x := c) (y := 0) (show 0 ≤ c.toInt by omega))) (fun _ => ?_)
                      show RP 55 _ 5 [(0, .int c), (1, .int 0), (2, .int 15)] [] _
                      refine RP_step (pc1 := 7) (L1 := [(0, .int c), (1, .int 0), (2, .int 15)]) (S1 := [.int 15, .int c]) 2 0 (fun n => rfl) ?_
                      refine RP_cond (decide (15 < c)) (fun n => rfl) (fun h => absurd (of_decide_eq_true h) (xi_nlt (x := 15) (y := c) (show c.toInt ≤ 15 by omega))) (fun _ => ?_)
                      show RP 55 _ 10 [(0, .int c), (1, .int 0), (2, .int 15)] [] _
                      refine RP_done 5 (fun n => rfl) ?_
                      refine Or.inr ⟨1, rfl, ?_⟩
                      show RP 57 _ 7 [(0, .int c)] [.int 1] _
                      refine RP_done 3 (fun n => rfl) ?_
                      refine Or.inr ⟨1, rfl, ?_⟩
                      show RP 59 _ 224 [(0, .int 6), (1, .int a), (2, .int b), (3, .int c), (4, .int d)] [.int 1] _
                      refine RP_step (pc1 := 229) (L1 := [(0, .int 6), (1, .int a), (2, .int b), (3, .int c), (4, .int d)]) (S1 := [.int d]) 2 0 (fun n => rfl) ?_
                      refine RP_call 57 [.int d] (fun n => rfl) ?_
                      show RP 57 _ 0 [(0, .int d)] [] _
                      refine RP_step (pc1 := 4) (L1 := [(0, .int d)]) (S1 := [.int 15, .int 0, .int d]) 3 0 (fun n => rfl) ?_
                      refine RP_call 55 [.int d, .int 0, .int 15] (fun n => rfl) ?_
                      show RP 55 _ 0 [(0, .int d), (1, .int 0), (2, .int 15)] [] _
                      refine RP_step (pc1 := 2) (L1 := [(0, .int d), (1, .int 0), (2, .int 15)]) (S1 := [.int 0, .int d]) 2 0 (fun n => rfl) ?_
                      refine RP_cond (decide (d < 0)) (fun n => rfl) (fun h => absurd (of_decide_eq_true h) (xi_nlt (x := d) (y := 0) (show 0 ≤ d.toInt by omega))) (fun _ => ?_)
                      show RP 55 _ 5 [(0, .int d), (1, .int 0), (2, .int 15)] [] _
                      refine RP_step (pc1 := 7) (L1 := [(0, .int d), (1, .int 0), (2, .int 15)]) (S1 := [.int 15, .int d]) 2 0 (fun n => rfl) ?_
                      refine RP_cond (decide (15 < d)) (fun n => rfl) (fun _ => ?_) (fun h => absurd (xi_lt (x := 15) (y := d) (show 15 < d.toInt by omega)) (of_decide_eq_false h))
                      show RP 55 _ 14 [(0, .int d), (1, .int 0), (2, .int 15)] [] _
                      refine RP_done 4 (fun n => rfl) ?_
                      refine Or.inr ⟨0, rfl, ?_⟩
                      show RP 57 _ 7 [(0, .int d)] [.int 0] _
                      refine RP_done 3 (fun n => rfl) ?_
                      refine Or.inr ⟨0, rfl, ?_⟩
                      show RP 59 _ 232 [(0, .int 6), (1, .int a), (2, .int b), (3, .int c), (4, .int d)] [.int 0] _
                      refine RP_done 5 (fun n => rfl) ?_
                      exact ⟨rfl, rfl⟩
                    · have h157 := of_decide_eq_false hh
                      have h158 : d.toInt < 16 := xj_nle h157
                      show RP 23 _ 10 [(0, .int d)] [] _
                      refine RP_done 5 (fun n => rfl) ?_
                      refine Or.inr ⟨1, rfl, ?_⟩
                      show RP 25 _ 233 [(0, .int 6), (1, .int a), (2, .int b), (3, .int c), (4, .int d)] [.int 1] _
                      refine RP_done 6 (fun n => rfl) ?_
                      refine ⟨Or.inr rfl, rfl, ?_⟩
                      show RP 59 _ 0 [(0, .int 6), (1, .int a), (2, .int b), (3, .int c), (4, .int d)] [] _
                      refine RP_step (pc1 := 214) (L1 := [(0, .int 6), (1, .int a), (2, .int b), (3, .int c), (4, .int d)]) (S1 := [.int b, .int a]) 4 0 (fun n => rfl) ?_
                      refine RP_call 58 [.int a, .int b] (fun n => rfl) ?_
                      show RP 58 _ 0 [(0, .int a), (1, .int b)] [] _
                      refine RP_step (pc1 := 1) (L1 := [(0, .int a), (1, .int b)]) (S1 := [.int a]) 1 0 (fun n => rfl) ?_
                      refine RP_call 57 [.int a] (fun n => rfl) ?_
                      show RP 57 _ 0 [(0, .int a)] [] _
                      refine RP_step (pc1 := 4) (L1 := [(0, .int a)]) (S1 := [.int 15, .int 0, .int a]) 3 0 (fun n => rfl) ?_
                      refine RP_call 55 [.int a, .int 0, .int 15] (fun n => rfl) ?_
                      show RP 55 _ 0 [(0, .int a), (1, .int 0), (2, .int 15)] [] _
                      refine RP_step (pc1 := 2) (L1 := [(0, .int a), (1, .int 0), (2, .int 15)]) (S1 := [.int 0, .int a]) 2 0 (fun n => rfl) ?_
                      refine RP_cond (decide (a < 0)) (fun n => rfl) (fun h => absurd (of_decide_eq_true h) (xi_nlt (x := a) (y := 0) (show 0 ≤ a.toInt by omega))) (fun _ => ?_)
                      show RP 55 _ 5 [(0, .int a), (1, .int 0), (2, .int 15)] [] _
                      refine RP_step (pc1 := 7) (L1 := [(0, .int a), (1, .int 0), (2, .int 15)]) (S1 := [.int 15, .int a]) 2 0 (fun n => rfl) ?_
                      refine RP_cond (decide (15 < a)) (fun n => rfl) (fun h => absurd (of_decide_eq_true h) (xi_nlt (x := 15) (y := a) (show a.toInt ≤ 15 by omega))) (fun _ => ?_)
                      show RP 55 _ 10 [(0, .int a), (1, .int 0), (2, .int 15)] [] _
                      refine RP_done 5 (fun n => rfl) ?_
                      refine Or.inr ⟨1, rfl, ?_⟩
                      show RP 57 _ 7 [(0, .int a)] [.int 1] _
                      refine RP_done 3 (fun n => rfl) ?_
                      refine Or.inr ⟨1, rfl, ?_⟩
                      show RP 58 _ 4 [(0, .int a), (1, .int b)] [.int 1] _
                      refine RP_step (pc1 := 11) (L1 := [(0, .int a), (1, .int b)]) (S1 := [.int 8, .int 1, .int b]) 4 0 (fun n => rfl) ?_
                      refine RP_call 55 [.int b, .int 1, .int 8] (fun n => rfl) ?_
                      show RP 55 _ 0 [(0, .int b), (1, .int 1), (2, .int 8)] [] _
                      refine RP_step (pc1 := 2) (L1 := [(0, .int b), (1, .int 1), (2, .int 8)]) (S1 := [.int 1, .int b]) 2 0 (fun n => rfl) ?_
                      refine RP_cond (decide (b < 1)) (fun n => rfl) (fun h => absurd (of_decide_eq_true h) (xi_nlt (x := b) (y := 1) (show 1 ≤ b.toInt by omega))) (fun _ => ?_)
                      show RP 55 _ 5 [(0, .int b), (1, .int 1), (2, .int 8)] [] _
                      refine RP_step (pc1 := 7) (L1 := [(0, .int b), (1, .int 1), (2, .int 8)]) (S1 := [.int 8, .int b]) 2 0 (fun n => rfl) ?_
                      refine RP_cond (decide (8 < b)) (fun n => rfl) (fun h => absurd (of_decide_eq_true h) (xi_nlt (x := 8) (y := b) (show b.toInt ≤ 8 by omega))) (fun _ => ?_)
                      show RP 55 _ 10 [(0, .int b), (1, .int 1), (2, .int 8)] [] _
                      refine RP_done 5 (fun n => rfl) ?_
                      refine Or.inr ⟨1, rfl, ?_⟩
                      show RP 58 _ 14 [(0, .int a), (1, .int b)] [.int 1] _
                      refine RP_step (pc1 := 19) (L1 := [(0, .int a), (1, .int b)]) (S1 := [.int b, .int a]) 3 0 (fun n => rfl) ?_
                      refine RP_bin (fun x y => x + y) (fun n => rfl) ?_
                      show RP 58 _ 20 [(0, .int a), (1, .int b)] [.int (a + b)] _
                      refine RP_step (pc1 := 22) (L1 := [(0, .int a), (1, .int b)]) (S1 := [.int 16, .int (a + b)]) 1 0 (fun n => rfl) ?_
                      refine RP_cond (decide (16 < (a + b))) (fun n => rfl) (fun h => absurd (of_decide_eq_true h) (xi_nlt (x := 16) (y := (a + b)) (show (a + b).toInt ≤ 16 by omega))) (fun _ => ?_)
                      show RP 58 _ 25 [(0, .int a), (1, .int b)] [] _
                      refine RP_done 5 (fun n => rfl) ?_
                      refine Or.inr ⟨1, rfl, ?_⟩
                      show RP 59 _ 217 [(0, .int 6), (1, .int a), (2, .int b), (3, .int c), (4, .int d)] [.int 1] _
                      refine RP_step (pc1 := 221) (L1 := [(0, .int 6), (1, .int a), (2, .int b), (3, .int c), (4, .int d)]) (S1 := [.int c]) 2 0 (fun n => rfl) ?_
                      refine RP_call 57 [.int c] (fun n => rfl) ?_
                      show RP 57 _ 0 [(0, .int c)] [] _
                      refine RP_step (pc1 := 4) (L1 := [(0, .int c)]) (S1 := [.int 15, .int 0, .int c]) 3 0 (fun n => rfl) ?_
                      refine RP_call 55 [.int c, .int 0, .int 15] (fun n => rfl) ?_
                      show RP 55 _ 0 [(0, .int c), (1, .int 0), (2, .int 15)] [] _
                      refine RP_step (pc1 := 2) (L1 := [(0, .int c), (1, .int 0), (2, .int 15)]) (S1 := [.int 0, .int c]) 2 0 (fun n => rfl) ?_
                      refine RP_cond (decide (c < 0)) (fun n => rfl) (fun h => absurd (of_decide_eq_true h) (xi_nlt (x := c) (y := 0) (show 0 ≤ c.toInt by omega))) (fun _ => ?_)
                      show RP 55 _ 5 [(0, .int c), (1, .int 0), (2, .int 15)] [] _
                      refine RP_step (pc1 := 7) (L1 := [(0, .int c), (1, .int 0), (2, .int 15)]) (S1 := [.int 15, .int c]) 2 0 (fun n => rfl) ?_
                      refine RP_cond (decide (15 < c)) (fun n => rfl) (fun h => absurd (of_decide_eq_true h) (xi_nlt (x := 15) (y := c) (show c.toInt ≤ 15 by omega))) (fun _ => ?_)
                      show RP 55 _ 10 [(0, .int c), (1, .int 0), (2, .int 15)] [] _
                      refine RP_done 5 (fun n => rfl) ?_
                      refine Or.inr ⟨1, rfl, ?_⟩
                      show RP 57 _ 7 [(0, .int c)] [.int 1] _
                      refine RP_done 3 (fun n => rfl) ?_
                      refine Or.inr ⟨1, rfl, ?_⟩
                      show RP 59 _ 224 [(0, .int 6), (1, .int a), (2, .int b), (3, .int c), (4, .int d)] [.int 1] _
                      refine RP_step (pc1 := 229) (L1 := [(0, .int 6), (1, .int a), (2, .int b), (3, .int c), (4, .int d)]) (S1 := [.int d]) 2 0 (fun n => rfl) ?_
                      refine RP_call 57 [.int d] (fun n => rfl) ?_
                      show RP 57 _ 0 [(0, .int d)] [] _
                      refine RP_step (pc1 := 4) (L1 := [(0, .int d)]) (S1 := [.int 15, .int 0, .int d]) 3 0 (fun n => rfl) ?_
                      refine RP_call 55 [.int d, .int 0, .int 15] (fun n => rfl) ?_
                      show RP 55 _ 0 [(0, .int d), (1, .int 0), (2, .int 15)] [] _
                      refine RP_step (pc1 := 2) (L1 := [(0, .int d), (1, .int 0), (2, .int 15)]) (S1 := [.int 0, .int d]) 2 0 (fun n => rfl) ?_
                      refine RP_cond (decide (d < 0)) (fun n => rfl) (fun h => absurd (of_decide_eq_true h) (xi_nlt (x := d) (y := 0) (show 0 ≤ d.toInt by omega))) (fun _ => ?_)
                      show RP 55 _ 5 [(0, .int d), (1, .int 0), (2, .int 15)] [] _
                      refine RP_step (pc1 := 7) (L1 := [(0, .int d), (1, .int 0), (2, .int 15)]) (S1 := [.int 15, .int d]) 2 0 (fun n => rfl) ?_
                      refine RP_cond (decide (15 < d)) (fun n => rfl) (fun h => absurd (of_decide_eq_true h) (xi_nlt (x := 15) (y := d) (show d.toInt ≤ 15 by omega))) (fun _ => ?_)
                      show RP 55 _ 10 [(0, .int d), (1, .int 0), (2, .int 15)] [] _
                      refine RP_done 5 (fun n => rfl) ?_
                      refine Or.inr ⟨1, rfl, ?_⟩
                      show RP 57 _ 7 [(0, .int d)] [.int 1] _
                      refine RP_done 3 (fun n => rfl) ?_
                      refine Or.inr ⟨1, rfl, ?_⟩
                      show RP 59 _ 232 [(0, .int 6), (1, .int a), (2, .int b), (3, .int c), (4, .int d)] [.int 1] _
                      refine RP_done 6 (fun n => rfl) ?_
                      exact ⟨rfl, rfl⟩
  · skip
    show RP 25 _ 0 [(0, .int 7), (1, .int a), (2, .int b), (3, .int c), (4, .int d)] [] _
    refine RP_step (pc1 := 243) (L1 := [(0, .int 7), (1, .int a), (2, .int b), (3, .int c), (4, .int d)]) (S1 := [.int a]) 3 0 (fun n => rfl) ?_
    refine RP_call 23 [.int a] (fun n => rfl) ?_
    show RP 23 _ 0 [(0, .int a)] [] _
    refine RP_step (pc1 := 1) (L1 := [(0, .int a)]) (S1 := [.int a]) 1 0 (fun n => rfl) ?_
    refine RP_cond (decide (a < 0)) (fun n => rfl) (fun hh => ?_) (fun hh => ?_)
    · have h159 := of_decide_eq_true hh
      have h160 : a.toInt < 0 := xj_lt h159
      show RP 23 _ 14 [(0, .int a)] [] _
      refine RP_done 4 (fun n => rfl) ?_
      refine Or.inr ⟨0, rfl, ?_⟩
      show RP 25 _ 246 [(0, .int 7), (1, .int a), (2, .int b), (3, .int c), (4, .int d)] [.int 0] _
      refine RP_done 5 (fun n => rfl) ?_
      refine ⟨Or.inl rfl, rfl, ?_⟩
      show RP 59 _ 0 [(0, .int 7), (1, .int a), (2, .int b), (3, .int c), (4, .int d)] [] _
      refine RP_step (pc1 := 242) (L1 := [(0, .int 7), (1, .int a), (2, .int b), (3, .int c), (4, .int d)]) (S1 := [.int a]) 3 0 (fun n => rfl) ?_
      refine RP_call 57 [.int a] (fun n => rfl) ?_
      show RP 57 _ 0 [(0, .int a)] [] _
      refine RP_step (pc1 := 4) (L1 := [(0, .int a)]) (S1 := [.int 15, .int 0, .int a]) 3 0 (fun n => rfl) ?_
      refine RP_call 55 [.int a, .int 0, .int 15] (fun n => rfl) ?_
      show RP 55 _ 0 [(0, .int a), (1, .int 0), (2, .int 15)] [] _
      refine RP_step (pc1 := 2) (L1 := [(0, .int a), (1, .int 0), (2, .int 15)]) (S1 := [.int 0, .int a]) 2 0 (fun n => rfl) ?_
      refine RP_cond (decide (a < 0)) (fun n => rfl) (fun _ => ?_) (fun h => absurd (xi_lt (x := a) (y := 0) (show a.toInt < 0 by omega)) (of_decide_eq_false h))
      show RP 55 _ 14 [(0, .int a), (1, .int 0), (2, .int 15)] [] _
      refine RP_done 4 (fun n => rfl) ?_
      refine Or.inr ⟨0, rfl, ?_⟩
      show RP 57 _ 7 [(0, .int a)] [.int 0] _
      refine RP_done 3 (fun n => rfl) ?_
      refine Or.inr ⟨0, rfl, ?_⟩
      show RP 59 _ 245 [(0, .int 7), (1, .int a), (2, .int b), (3, .int c), (4, .int d)] [.int 0] _
      refine RP_done 5 (fun n => rfl) ?_
      exact ⟨rfl, rfl⟩
    · have h161 := of_decide_eq_false hh
      have h162 : 0 ≤ a.toInt := xj_nlt h161
      show RP 23 _ 4 [(0, .int a)] [] _
      refine RP_step (pc1 := 7) (L1 := [(0, .int a)]) (S1 := [.int 16, .int a]) 2 0 (fun n => rfl) ?_
      refine RP_cond (decide (16 ≤ a)) (fun n => rfl) (fun hh => ?_) (fun hh => ?_)
      · have h163 := of_decide_eq_true hh
        have h164 : 16 ≤ a.toInt := xj_le h163
        show RP 23 _ 14 [(0, .int a)] [] _
        refine RP_done 4 (fun n => rfl) ?_
        refine Or.inr ⟨0, rfl, ?_⟩
        show RP 25 _ 246 [(0, .int 7), (1, .int a), (2, .int b), (3, .int c), (4, .int d)] [.int 0] _
        refine RP_done 5 (fun n => rfl) ?_
        refine ⟨Or.inl rfl, rfl, ?_⟩
        show RP 59 _ 0 [(0, .int 7), (1, .int a), (2, .int b), (3, .int c), (4, .int d)] [] _
        refine RP_step (pc1 := 242) (L1 := [(0, .int 7), (1, .int a), (2, .int b), (3, .int c), (4, .int d)]) (S1 := [.int a]) 3 0 (fun n => rfl) ?_
        refine RP_call 57 [.int a] (fun n => rfl) ?_
        show RP 57 _ 0 [(0, .int a)] [] _
        refine RP_step (pc1 := 4) (L1 := [(0, .int a)]) (S1 := [.int 15, .int 0, .int a]) 3 0 (fun n => rfl) ?_
        refine RP_call 55 [.int a, .int 0, .int 15] (fun n => rfl) ?_
        show RP 55 _ 0 [(0, .int a), (1, .int 0), (2, .int 15)] [] _
        refine RP_step (pc1 := 2) (L1 := [(0, .int a), (1, .int 0), (2, .int 15)]) (S1 := [.int 0, .int a]) 2 0 (fun n => rfl) ?_
        refine RP_cond (decide (a < 0)) (fun n => rfl) (fun h => absurd (of_decide_eq_true h) (xi_nlt (x := a) (y := 0) (show 0 ≤ a.toInt by omega))) (fun _ => ?_)
        show RP 55 _ 5 [(0, .int a), (1, .int 0), (2, .int 15)] [] _
        refine RP_step (pc1 := 7) (L1 := [(0, .int a), (1, .int 0), (2, .int 15)]) (S1 := [.int 15, .int a]) 2 0 (fun n => rfl) ?_
        refine RP_cond (decide (15 < a)) (fun n => rfl) (fun _ => ?_) (fun h => absurd (xi_lt (x := 15) (y := a) (show 15 < a.toInt by omega)) (of_decide_eq_false h))
        show RP 55 _ 14 [(0, .int a), (1, .int 0), (2, .int 15)] [] _
        refine RP_done 4 (fun n => rfl) ?_
        refine Or.inr ⟨0, rfl, ?_⟩
        show RP 57 _ 7 [(0, .int a)] [.int 0] _
        refine RP_done 3 (fun n => rfl) ?_
        refine Or.inr ⟨0, rfl, ?_⟩
        show RP 59 _ 245 [(0, .int 7), (1, .int a), (2, .int b), (3, .int c), (4, .int d)] [.int 0] _
        refine RP_done 5 (fun n => rfl) ?_
        exact ⟨rfl, rfl⟩
      · have h165 := of_decide_eq_false hh
        have h166 : a.toInt < 16 := xj_nle h165
        show RP 23 _ 10 [(0, .int a)] [] _
        refine RP_done 5 (fun n => rfl) ?_
        refine Or.inr ⟨1, rfl, ?_⟩
        show RP 25 _ 246 [(0, .int 7), (1, .int a), (2, .int b), (3, .int c), (4, .int d)] [.int 1] _
        refine RP_step (pc1 := 251) (L1 := [(0, .int 7), (1, .int a), (2, .int b), (3, .int c), (4, .int d)]) (S1 := [.int c, .int b]) 3 0 (fun n => rfl) ?_
        refine RP_call 24 [.int b, .int c] (fun n => rfl) ?_
        show RP 24 _ 0 [(0, .int b), (1, .int c)] [] _
        refine RP_step (pc1 := 1) (L1 := [(0, .int b), (1, .int c)]) (S1 := [.int b]) 1 0 (fun n => rfl) ?_
        refine RP_call 23 [.int b] (fun n => rfl) ?_
        show RP 23 _ 0 [(0, .int b)] [] _
        refine RP_step (pc1 := 1) (L1 := [(0, .int b)]) (S1 := [.int b]) 1 0 (fun n => rfl) ?_
        refine RP_cond (decide (b < 0)) (fun n => rfl) (fun hh => ?_) (fun hh => ?_)
        · have h167 := of_decide_eq_true hh
          have h168 : b.toInt < 0 := xj_lt h167
          show RP 23 _ 14 [(0, .int b)] [] _
          refine RP_done 4 (fun n => rfl) ?_
          refine Or.inr ⟨0, rfl, ?_⟩
          show RP 24 _ 4 [(0, .int b), (1, .int c)] [.int 0] _
          refine RP_done 5 (fun n => rfl) ?_
          refine Or.inr ⟨0, rfl, ?_⟩
          show RP 25 _ 254 [(0, .int 7), (1, .int a), (2, .int b), (3, .int c), (4, .int d)] [.int 0] _
          refine RP_done 5 (fun n => rfl) ?_
          refine ⟨Or.inl rfl, rfl, ?_⟩
          show RP 59 _ 0 [(0, .int 7), (1, .int a), (2, .int b), (3, .int c), (4, .int d)] [] _
          refine RP_step (pc1 := 242) (L1 := [(0, .int 7), (1, .int a), (2, .int b), (3, .int c), (4, .int d)]) (S1 := [.int a]) 3 0 (fun n => rfl) ?_
          refine RP_call 57 [.int a] (fun n => rfl) ?_
          show RP 57 _ 0 [(0, .int a)] [] _
          refine RP_step (pc1 := 4) (L1 := [(0, .int a)]) (S1 := [.int 15, .int 0, .int a]) 3 0 (fun n => rfl) ?_
          refine RP_call 55 [.int a, .int 0, .int 15] (fun n => rfl) ?_
          show RP 55 _ 0 [(0, .int a), (1, .int 0), (2, .int 15)] [] _
          refine RP_step (pc1 := 2) (L1 := [(0, .int a), (1, .int 0), (2, .int 15)]) (S1 := [.int 0, .int a]) 2 0 (fun n => rfl) ?_
          refine RP_cond (decide (a < 0)) (fun n => rfl) (fun h => absurd (of_decide_eq_true h) (xi_nlt (x := a) (y := 0) (show 0 ≤ a.toInt by omega))) (fun _ => ?_)
          show RP 55 _ 5 [(0, .int a), (1, .int 0), (2, .int 15)] [] _
          refine RP_step (pc1 := 7) (L1 := [(0, .int a), (1, .int 0), (2, .int 15)]) (S1 := [.int 15, .int a]) 2 0 (fun n => rfl) ?_
          refine RP_cond (decide (15 < a)) (fun n => rfl) (fun h => absurd (of_decide_eq_true h) (xi_nlt (x := 15) (y := a) (show a.toInt ≤ 15 by omega))) (fun _ => ?_)
          show RP 55 _ 10 [(0, .int a), (1, .int 0), (2, .int 15)] [] _
          refine RP_done 5 (fun n => rfl) ?_
          refine Or.inr ⟨1, rfl, ?_⟩
          show RP 57 _ 7 [(0, .int a)] [.int 1] _
          refine RP_done 3 (fun n => rfl) ?_
          refine Or.inr ⟨1, rfl, ?_⟩
          show RP 59 _ 245 [(0, .int 7), (1, .int a), (2, .int b), (3, .int c), (4, .int d)] [.int 1] _
          refine RP_step (pc1 := 250) (L1 := [(0, .int 7), (1, .int a), (2, .int b), (3, .int c), (4, .int d)]) (S1 := [.int c, .int b]) 3 0 (fun n => rfl) ?_
          refine RP_call 58 [.int b, .int c] (fun n => rfl) ?_
          show RP 58 _ 0 [(0, .int b), (1, .int c)] [] _
          refine RP_step (pc1 := 1) (L1 := [(0, .int b), (1, .int c)]) (S1 := [.int b]) 1 0 (fun n => rfl) ?_
          refine RP_call 57 [.int b] (fun n => rfl) ?_
          show RP 57 _ 0 [(0, .int b)] [] _
          refine RP_step (pc1 := 4) (L1 := [(0, .int b)]) (S1 := [.int 15, .int 0, .int b]) 3 0 (fun n => rfl) ?_
          refine RP_call 55 [.int b, .int 0, .int 15] (fun n => rfl) ?_
          show RP 55 _ 0 [(0, .int b), (1, .int 0), (2, .int 15)] [] _
          refine RP_step (pc1 := 2) (L1 := [(0, .int b), (1, .int 0), (2, .int 15)]) (S1 := [.int 0, .int b]) 2 0 (fun n => rfl) ?_
          refine RP_cond (decide (b < 0)) (fun n => rfl) (fun _ => ?_) (fun h => absurd (xi_lt (x := b) (y := 0) (show b.toInt < 0 by omega)) (of_decide_eq_false h))
          show RP 55 _ 14 [(0, .int b), (1, .int 0), (2, .int 15)] [] _
          refine RP_done 4 (fun n => rfl) ?_
          refine Or.inr ⟨0, rfl, ?_⟩
          show RP 57 _ 7 [(0, .int b)] [.int 0] _
          refine RP_done 3 (fun n => rfl) ?_
          refine Or.inr ⟨0, rfl, ?_⟩
          show RP 58 _ 4 [(0, .int b), (1, .int c)] [.int 0] _
          refine RP_done 5 (fun n => rfl) ?_
          refine Or.inr ⟨0, rfl, ?_⟩
          show RP 59 _ 253 [(0, .int 7), (1, .int a), (2, .int b), (3, .int c), (4, .int d)] [.int 0] _
          refine RP_done 5 (fun n => rfl) ?_
          exact ⟨rfl, rfl⟩
        · have h169 := of_decide_eq_false hh
          have h170 : 0 ≤ b.toInt := xj_nlt h169
          show RP 23 _ 4 [(0, .int b)] [] _
          refine RP_step (pc1 := 7) (L1 := [(0, .int b)]) (S1 := [.int 16, .int b]) 2 0 (fun n => rfl) ?_
          refine RP_cond (decide (16 ≤ b)) (fun n => rfl) (fun hh => ?_) (fun hh => ?_)
          · have h171 := of_decide_eq_true hh
            have h172 : 16 ≤ b.toInt := xj_le h171
            show RP 23 _ 14 [(0, .int b)] [] _
            refine RP_done 4 (fun n => rfl) ?_
            refine Or.inr ⟨0, rfl, ?_⟩
            show RP 24 _ 4 [(0, .int b), (1, .int c)] [.int 0] _
            refine RP_done 5 (fun n => rfl) ?_
            refine Or.inr ⟨0, rfl, ?_⟩
            show RP 25 _ 254 [(0, .int 7), (1, .int a), (2, .int b), (3, .int c), (4, .int d)] [.int 0] _
            refine RP_done 5 (fun n => rfl) ?_
            refine ⟨Or.inl rfl, rfl, ?_⟩
            show RP 59 _ 0 [(0, .int 7), (1, .int a), (2, .int b), (3, .int c), (4, .int d)] [] _
            refine RP_step (pc1 := 242) (L1 := [(0, .int 7), (1, .int a), (2, .int b), (3, .int c), (4, .int d)]) (S1 := [.int a]) 3 0 (fun n => rfl) ?_
            refine RP_call 57 [.int a] (fun n => rfl) ?_
            show RP 57 _ 0 [(0, .int a)] [] _
            refine RP_step (pc1 := 4) (L1 := [(0, .int a)]) (S1 := [.int 15, .int 0, .int a]) 3 0 (fun n => rfl) ?_
            refine RP_call 55 [.int a, .int 0, .int 15] (fun n => rfl) ?_
            show RP 55 _ 0 [(0, .int a), (1, .int 0), (2, .int 15)] [] _
            refine RP_step (pc1 := 2) (L1 := [(0, .int a), (1, .int 0), (2, .int 15)]) (S1 := [.int 0, .int a]) 2 0 (fun n => rfl) ?_
            refine RP_cond (decide (a < 0)) (fun n => rfl) (fun h => absurd (of_decide_eq_true h) (xi_nlt (x := a) (y := 0) (show 0 ≤ a.toInt by omega))) (fun _ => ?_)
            show RP 55 _ 5 [(0, .int a), (1, .int 0), (2, .int 15)] [] _
            refine RP_step (pc1 := 7) (L1 := [(0, .int a), (1, .int 0), (2, .int 15)]) (S1 := [.int 15, .int a]) 2 0 (fun n => rfl) ?_
            refine RP_cond (decide (15 < a)) (fun n => rfl) (fun h => absurd (of_decide_eq_true h) (xi_nlt (x := 15) (y := a) (show a.toInt ≤ 15 by omega))) (fun _ => ?_)
            show RP 55 _ 10 [(0, .int a), (1, .int 0), (2, .int 15)] [] _
            refine RP_done 5 (fun n => rfl) ?_
            refine Or.inr ⟨1, rfl, ?_⟩
            show RP 57 _ 7 [(0, .int a)] [.int 1] _
            refine RP_done 3 (fun n => rfl) ?_
            refine Or.inr ⟨1, rfl, ?_⟩
            show RP 59 _ 245 [(0, .int 7), (1, .int a), (2, .int b), (3, .int c), (4, .int d)] [.int 1] _
            refine RP_step (pc1 := 250) (L1 := [(0, .int 7), (1, .int a), (2, .int b), (3, .int c), (4, .int d)]) (S1 := [.int c, .int b]) 3 0 (fun n => rfl) ?_
            refine RP_call 58 [.int b, .int c] (fun n => rfl) ?_
            show RP 58 _ 0 [(0, .int b), (1, .int c)] [] _
            refine RP_step (pc1 := 1) (L1 := [(0, .int b), (1, .int c)]) (S1 := [.int b]) 1 0 (fun n => rfl) ?_
            refine RP_call 57 [.int b] (fun n => rfl) ?_
            show RP 57 _ 0 [(0, .int b)] [] _
            refine RP_step (pc1 := 4) (L1 := [(0, .int b)]) (S1 := [.int 15, .int 0, .int b]) 3 0 (fun n => rfl) ?_
            refine RP_call 55 [.int b, .int 0, .int 15] (fun n => rfl) ?_
            show RP 55 _ 0 [(0, .int b), (1, .int 0), (2, .int 15)] [] _
            refine RP_step (pc1 := 2) (L1 := [(0, .int b), (1, .int 0), (2, .int 15)]) (S1 := [.int 0, .int b]) 2 0 (fun n => rfl) ?_
            refine RP_cond (decide (b < 0)) (fun n => rfl) (fun h => absurd (of_decide_eq_true h) (xi_nlt (x := b) (y := 0) (show 0 ≤ b.toInt by omega))) (fun _ => ?_)
            show RP 55 _ 5 [(0, .int b), (1, .int 0), (2, .int 15)] [] _
            refine RP_step (pc1 := 7) (L1 := [(0, .int b), (1, .int 0), (2, .int 15)]) (S1 := [.int 15, .int b]) 2 0 (fun n => rfl) ?_
            refine RP_cond (decide (15 < b)) (fun n => rfl) (fun _ => ?_) (fun h => absurd (xi_lt (x := 15) (y := b) (show 15 < b.toInt by omega)) (of_decide_eq_false h))
            show RP 55 _ 14 [(0, .int b), (1, .int 0), (2, .int 15)] [] _
            refine RP_done 4 (fun n => rfl) ?_
            refine Or.inr ⟨0, rfl, ?_⟩
            show RP 57 _ 7 [(0, .int b)] [.int 0] _
            refine RP_done 3 (fun n => rfl) ?_
            refine Or.inr ⟨0, rfl, ?_⟩
            show RP 58 _ 4 [(0, .int b), (1, .int c)] [.int 0] _
            refine RP_done 5 (fun n => rfl) ?_
            refine Or.inr ⟨0, rfl, ?_⟩
            show RP 59 _ 253 [(0, .int 7), (1, .int a), (2, .int b), (3, .int c), (4, .int d)] [.int 0] _
            refine RP_done 5 (fun n => rfl) ?_
            exact ⟨rfl, rfl⟩
          · have h173 := of_decide_eq_false hh
            have h174 : b.toInt < 16 := xj_nle h173
            show RP 23 _ 10 [(0, .int b)] [] _
            refine RP_done 5 (fun n => rfl) ?_
            refine Or.inr ⟨1, rfl, ?_⟩
            show RP 24 _ 4 [(0, .int b), (1, .int c)] [.int 1] _
            refine RP_step (pc1 := 9) (L1 := [(0, .int b), (1, .int c)]) (S1 := [.int 1, .int c]) 3 0 (fun n => rfl) ?_
            refine RP_cond (decide (c < 1)) (fun n => rfl) (fun hh => ?_) (fun hh => ?_)
            · have h175 := of_decide_eq_true hh
              have h176 : c.toInt < 1 := xj_lt h175
              show RP 24 _ 30 [(0, .int b), (1, .int c)] [] _
              refine RP_done 4 (fun n => rfl) ?_
              refine Or.inr ⟨0, rfl, ?_⟩
              show RP 25 _ 254 [(0, .int 7), (1, .int a), (2, .int b), (3, .int c), (4, .int d)] [.int 0] _
              refine RP_done 5 (fun n => rfl) ?_
              refine ⟨Or.inl rfl, rfl, ?_⟩
              show RP 59 _ 0 [(0, .int 7), (1, .int a), (2, .int b), (3, .int c), (4, .int d)] [] _
              refine RP_step (pc1 := 242) (L1 := [(0, .int 7), (1, .int a), (2, .int b), (3, .int c), (4, .int d)]) (S1 := [.int a]) 3 0 (fun n => rfl) ?_
              refine RP_call 57 [.int a] (fun n => rfl) ?_
              show RP 57 _ 0 [(0, .int a)] [] _
              refine RP_step (pc1 := 4) (L1 := [(0, .int a)]) (S1 := [.int 15, .int 0, .int a]) 3 0 (fun n => rfl) ?_
              refine RP_call 55 [.int a, .int 0, .int 15] (fun n => rfl) ?_
              show RP 55 _ 0 [(0, .int a), (1, .int 0), (2, .int 15)] [] _
              refine RP_step (pc1 := 2) (L1 := [(0, .int a), (1, .int 0), (2, .int 15)]) (S1 := [.int 0, .int a]) 2 0 (fun n => rfl) ?_
              refine RP_cond (decide (a < 0)) (fun n => rfl) (fun h => absurd (of_decide_eq_true h) (xi_nlt (x := a) (y := 0) (show 0 ≤ a.toInt by omega))) (fun _ => ?_)
              show RP 55 _ 5 [(0, .int a), (1, .int 0), (2, .int 15)] [] _
              refine RP_step (pc1 := 7) (L1 := [(0, .int a), (1, .int 0), (2, .int 15)]) (S1 := [.int 15, .int a]) 2 0 (fun n => rfl) ?_
              refine RP_cond (decide (15 < a)) (fun n => rfl) (fun h => absurd (of_decide_eq_true h) (xi_nlt (x := 15) (y := a) (show a.toInt ≤ 15 by omega))) (fun _ => ?_)
              show RP 55 _ 10 [(0, .int a), (1, .int 0), (2, .int 15)] [] _
              refine RP_done 5 (fun n => rfl) ?_
              refine Or.inr ⟨1, rfl, ?_⟩
              show RP 57 _ 7 [(0, .int a)] [.int 1] _
              refine RP_done 3 (fun n => rfl) ?_
              refine Or.inr ⟨1, rfl, ?_⟩
              show RP 59 _ 245 [(0, .int 7), (1, .int a), (2, .int b), (3, .int c), (4, .int d)] [.int 1] _
              refine RP_step (pc1 := 250) (L1 := [(0, .int 7), (1, .int a), (2, .int b), (3, .int c), (4, .int d)]) (S1 := [.int c, .int b]) 3 0 (fun n => rfl) ?_
              refine RP_call 58 [.int b, .int c] (fun n => rfl) ?_
              show RP 58 _ 0 [(0, .int b), (1, .int c)] [] _
              refine RP_step (pc1 := 1) (L1 := [(0, .int b), (1, .int c)]) (S1 := [.int b]) 1 0 (fun n => rfl) ?_
              refine RP_call 57 [.int b] (fun n => rfl) ?_
              show RP 57 _ 0 [(0, .int b)] [] _
              refine RP_step (pc1 := 4) (L1 := [(0, .int b)]) (S1 := [.int 15, .int 0, .int b]) 3 0 (fun n => rfl) ?_
              refine RP_call 55 [.int b, .int 0, .int 15] (fun n => rfl) ?_
              show RP 55 _ 0 [(0, .int b), (1, .int 0), (2, .int 15)] [] _
              refine RP_step (pc1 := 2) (L1 := [(0, .int b), (1, .int 0), (2, .int 15)]) (S1 := [.int 0, .int b]) 2 0 (fun n => rfl) ?_
              refine RP_cond (decide (b < 0)) (fun n => rfl) (fun h => absurd (of_decide_eq_true h) (xi_nlt (x := b) (y := 0) (show 0 ≤ b.toInt by omega))) (fun _ => ?_)
              show RP 55 _ 5 [(0, .int b), (1, .int 0), (2, .int 15)] [] _
              refine RP_step (pc1 := 7) (L1 := [(0, .int b), (1, .int 0), (2, .int 15)]) (S1 := [.int 15, .int b]) 2 0 (fun n => rfl) ?_
              refine RP_cond (decide (15 < b)) (fun n => rfl) (fun h => absurd (of_decide_eq_true h) (xi_nlt (x := 15) (y := b) (show b.toInt ≤ 15 by omega))) (fun _ => ?_)
              show RP 55 _ 10 [(0, .int b), (1, .int 0), (2, .int 15)] [] _
              refine RP_done 5 (fun n => rfl) ?_
              refine Or.inr ⟨1, rfl, ?_⟩
              show RP 57 _ 7 [(0, .int b)] [.int 1] _
              refine RP_done 3 (fun n => rfl) ?_
              refine Or.inr ⟨1, rfl, ?_⟩
              show RP 58 _ 4 [(0, .int b), (1, .int c)] [.int 1] _
              refine RP_step (pc1 := 11) (L1 := [(0, .int b), (1, .int c)]) (S1 := [.int 8, .int 1, .int c]) 4 0 (fun n => rfl) ?_
              refine RP_call 55 [.int c, .int 1, .int 8] (fun n => rfl) ?_
              show RP 55 _ 0 [(0, .int c), (1, .int 1), (2, .int 8)] [] _
              refine RP_step (pc1 := 2) (L1 := [(0, .int c), (1, .int 1), (2, .int 8)]) (S1 := [.int 1, .int c]) 2 0 (fun n => rfl) ?_
              refine RP_cond (decide (c < 1)) (fun n => rfl) (fun _ => ?_) (fun h => absurd (xi_lt (x := c) (y := 1) (show c.toInt < 1 by omega)) (of_decide_eq_false h))
              show RP 55 _ 14 [(0, .int c), (1, .int 1), (2, .int 8)] [] _
              refine RP_done 4 (fun n => rfl) ?_
              refine Or.inr ⟨0, rfl, ?_⟩
              show RP 58 _ 14 [(0, .int b), (1, .int c)] [.int 0] _
              refine RP_done 5 (fun n => rfl) ?_
              refine Or.inr ⟨0, rfl, ?_⟩
              show RP 59 _ 253 [(0, .int 7), (1, .int a), (2, .int b), (3, .int c), (4, .int d)] [.int 0] _
              refine RP_done 5 (fun n => rfl) ?_
              exact ⟨rfl, rfl⟩
            · have h177 := of_decide_eq_false hh
              have h178 : 1 ≤ c.toInt := xj_nlt h177
              show RP 24 _ 12 [(0, .int b), (1, .int c)] [] _
              refine RP_step (pc1 := 15) (L1 := [(0, .int b), (1, .int c)]) (S1 := [.int 8, .int c]) 2 0 (fun n => rfl) ?_
              refine RP_cond (decide (8 < c)) (fun n => rfl) (fun hh => ?_) (fun hh => ?_)
              · have h179 := of_decide_eq_true hh
                have h180 : 8 < c.toInt := xj_lt h179
                show RP 24 _ 30 [(0, .int b), (1, .int c)] [] _
                refine RP_done 4 (fun n => rfl) ?_
                refine Or.inr ⟨0, rfl, ?_⟩
                show RP 25 _ 254 [(0, .int 7), (1, .int a), (2, .int b), (3, .int c), (4, .int d)] [.int 0] _
                refine RP_done 5 (fun n => rfl) ?_
                refine ⟨Or.inl rfl, rfl, ?_⟩
                show RP 59 _ 0 [(0, .int 7), (1, .int a), (2, .int b), (3, .int c), (4, .int d)] [] _
                refine RP_step (pc1 := 242) (L1 := [(0, .int 7), (1, .int a), (2, .int b), (3, .int c), (4, .int d)]) (S1 := [.int a]) 3 0 (fun n => rfl) ?_
                refine RP_call 57 [.int a] (fun n => rfl) ?_
                show RP 57 _ 0 [(0, .int a)] [] _
                refine RP_step (pc1 := 4) (L1 := [(0, .int a)]) (S1 := [.int 15, .int 0, .int a]) 3 0 (fun n => rfl) ?_
                refine RP_call 55 [.int a, .int 0, .int 15] (fun n => rfl) ?_
                show RP 55 _ 0 [(0, .int a), (1, .int 0), (2, .int 15)] [] _
                refine RP_step (pc1 := 2) (L1 := [(0, .int a), (1, .int 0), (2, .int 15)]) (S1 := [.int 0, .int a]) 2 0 (fun n => rfl) ?_
                refine RP_cond (decide (a < 0)) (fun n => rfl) (fun h => absurd (of_decide_eq_true h) (xi_nlt (x := a) (y := 0) (show 0 ≤ a.toInt by omega))) (fun _ => ?_)
                show RP 55 _ 5 [(0, .int a), (1, .int 0), (2, .int 15)] [] _
                refine RP_step (pc1 := 7) (L1 := [(0, .int a), (1, .int 0), (2, .int 15)]) (S1 := [.int 15, .int a]) 2 0 (fun n => rfl) ?_
                refine RP_cond (decide (15 < a)) (fun n => rfl) (fun h => absurd (of_decide_eq_true h) (xi_nlt (x := 15) (y := a) (show a.toInt ≤ 15 by omega))) (fun _ => ?_)
                show RP 55 _ 10 [(0, .int a), (1, .int 0), (2, .int 15)] [] _
                refine RP_done 5 (fun n => rfl) ?_
                refine Or.inr ⟨1, rfl, ?_⟩
                show RP 57 _ 7 [(0, .int a)] [.int 1] _
                refine RP_done 3 (fun n => rfl) ?_
                refine Or.inr ⟨1, rfl, ?_⟩
                show RP 59 _ 245 [(0, .int 7), (1, .int a), (2, .int b), (3, .int c), (4, .int d)] [.int 1] _
                refine RP_step (pc1 := 250) (L1 := [(0, .int 7), (1, .int a), (2, .int b), (3, .int c), (4, .int d)]) (S1 := [.int c, .int b]) 3 0 (fun n => rfl) ?_
                refine RP_call 58 [.int b, .int c] (fun n => rfl) ?_
                show RP 58 _ 0 [(0, .int b), (1, .int c)] [] _
                refine RP_step (pc1 := 1) (L1 := [(0, .int b), (1, .int c)]) (S1 := [.int b]) 1 0 (fun n => rfl) ?_
                refine RP_call 57 [.int b] (fun n => rfl) ?_
                show RP 57 _ 0 [(0, .int b)] [] _
                refine RP_step (pc1 := 4) (L1 := [(0, .int b)]) (S1 := [.int 15, .int 0, .int b]) 3 0 (fun n => rfl) ?_
                refine RP_call 55 [.int b, .int 0, .int 15] (fun n => rfl) ?_
                show RP 55 _ 0 [(0, .int b), (1, .int 0), (2, .int 15)] [] _
                refine RP_step (pc1 := 2) (L1 := [(0, .int b), (1, .int 0), (2, .int 15)]) (S1 := [.int 0, .int b]) 2 0 (fun n => rfl) ?_
                refine RP_cond (decide (b < 0)) (fun n => rfl) (fun h => absurd (of_decide_eq_true h) (xi_nlt (x := b) (y := 0) (show 0 ≤ b.toInt by omega))) (fun _ => ?_)
                show RP 55 _ 5 [(0, .int b), (1, .int 0), (2, .int 15)] [] _
                refine RP_step (pc1 := 7) (L1 := [(0, .int b), (1, .int 0), (2, .int 15)]) (S1 := [.int 15, .int b]) 2 0 (fun n => rfl) ?_
                refine RP_cond (decide (15 < b)) (fun n => rfl) (fun h => absurd (of_decide_eq_true h) (xi_nlt (x := 15) (y := b) (show b.toInt ≤ 15 by omega))) (fun _ => ?_)
                show RP 55 _ 10 [(0, .int b), (1, .int 0), (2, .int 15)] [] _
                refine RP_done 5 (fun n => rfl) ?_
                refine Or.inr ⟨1, rfl, ?_⟩
                show RP 57 _ 7 [(0, .int b)] [.int 1] _
                refine RP_done 3 (fun n => rfl) ?_
                refine Or.inr ⟨1, rfl, ?_⟩
                show RP 58 _ 4 [(0, .int b), (1, .int c)] [.int 1] _
                refine RP_step (pc1 := 11) (L1 := [(0, .int b), (1, .int c)]) (S1 := [.int 8, .int 1, .int c]) 4 0 (fun n => rfl) ?_
                refine RP_call 55 [.int c, .int 1, .int 8] (fun n => rfl) ?_
                show RP 55 _ 0 [(0, .int c), (1, .int 1), (2, .int 8)] [] _
                refine RP_step (pc1 := 2) (L1 := [(0, .int c), (1, .int 1), (2, .int 8)]) (S1 := [.int 1, .int c]) 2 0 (fun n => rfl) ?_
                refine RP_cond (decide (c < 1)) (fun n => rfl) (fun h => absurd (of_decide_eq_true h) (xi_nlt (x := c) (y := 1) (show 1 ≤ c.toInt by omega))) (fun _ => ?_)
                show RP 55 _ 5 [(0, .int c), (1, .int 1), (2, .int 8)] [] _
                refine RP_step (pc1 := 7) (L1 := [(0, .int c), (1, .int 1), (2, .int 8)]) (S1 := [.int 8, .int c]) 2 0 (fun n => rfl) ?_
                refine RP_cond (decide (8 < c)) (fun n => rfl) (fun _ => ?_) (fun h => absurd (xi_lt (x := 8) (y := c) (show 8 < c.toInt by omega)) (of_decide_eq_false h))
                show RP 55 _ 14 [(0, .int c), (1, .int 1), (2, .int 8)] [] _
                refine RP_done 4 (fun n => rfl) ?_
                refine Or.inr ⟨0, rfl, ?_⟩
                show RP 58 _ 14 [(0, .int b), (1, .int c)] [.int 0] _
                refine RP_done 5 (fun n => rfl) ?_
                refine Or.inr ⟨0, rfl, ?_⟩
                show RP 59 _ 253 [(0, .int 7), (1, .int a), (2, .int b), (3, .int c), (4, .int d)] [.int 0] _
                refine RP_done 5 (fun n => rfl) ?_
                exact ⟨rfl, rfl⟩
              · have h181 := of_decide_eq_false hh
                have h182 : c.toInt ≤ 8 := xj_nlt h181
                show RP 24 _ 18 [(0, .int b), (1, .int c)] [] _
                refine RP_step (pc1 := 20) (L1 := [(0, .int b), (1, .int c)]) (S1 := [.int c, .int b]) 2 0 (fun n => rfl) ?_
                refine RP_bin (fun x y => x + y) (fun n => rfl) ?_
                show RP 24 _ 21 [(0, .int b), (1, .int c)] [.int (b + c)] _
                refine RP_step (pc1 := 23) (L1 := [(0, .int b), (1, .int c)]) (S1 := [.int 16, .int (b + c)]) 1 0 (fun n => rfl) ?_
                refine RP_cond (decide (16 < (b + c))) (fun n => rfl) (fun hh => ?_) (fun hh => ?_)
                · have h183 := of_decide_eq_true hh
                  have h184 : 16 < (b + c).toInt := xj_lt h183
                  show RP 24 _ 30 [(0, .int b), (1, .int c)] [] _
                  refine RP_done 4 (fun n => rfl) ?_
                  refine Or.inr ⟨0, rfl, ?_⟩
                  show RP 25 _ 254 [(0, .int 7), (1, .int a), (2, .int b), (3, .int c), (4, .int d)] [.int 0] _
                  refine RP_done 5 (fun n => rfl) ?_
                  refine ⟨Or.inl rfl, rfl, ?_⟩
                  show RP 59 _ 0 [(0, .int 7), (1, .int a), (2, .int b), (3, .int c), (4, .int d)] [] _
                  refine RP_step (pc1 := 242) (L1 := [(0, .int 7), (1, .int a), (2, .int b), (3, .int c), (4, .int d)]) (S1 := [.int a]) 3 0 (fun n => rfl) ?_
                  refine RP_call 57 [.int a] (fun n => rfl) ?_
                  show RP 57 _ 0 [(0, .int a)] [] _
                  refine RP_step (pc1 := 4) (L1 := [(0, .int a)]) (S1 := [.int 15, .int 0, .int a]) 3 0 (fun n => rfl) ?_
                  refine RP_call 55 [.int a, .int 0, .int 15] (fun n => rfl) ?_
                  show RP 55 _ 0 [(0, .int a), (1, .int 0), (2, .int 15)] [] _
                  refine RP_step (pc1 := 2) (L1 := [(0, .int a), (1, .int 0), (2, .int 15)]) (S1 := [.int 0, .int a]) 2 0 (fun n => rfl) ?_
                  refine RP_cond (decide (a < 0)) (fun n => rfl) (fun h => absurd (of_decide_eq_true h) (xi_nlt (x := a) (y := 0) (show 0 ≤ a.toInt by omega))) (fun _ => ?_)
                  show RP 55 _ 5 [(0, .int a), (1, .int 0), (2, .int 15)] [] _
                  refine RP_step (pc1 := 7) (L1 := [(0, .int a), (1, .int 0), (2, .int 15)]) (S1 := [.int 15, .int a]) 2 0 (fun n => rfl) ?_
                  refine RP_cond (decide (15 < a)) (fun n => rfl) (fun h => absurd (of_decide_eq_true h) (xi_nlt (x := 15) (y := a) (show a.toInt ≤ 15 by omega))) (fun _ => ?_)
                  show RP 55 _ 10 [(0, .int a), (1, .int 0), (2, .int 15)] [] _
                  refine RP_done 5 (fun n => rfl) ?_
                  refine Or.inr ⟨1, rfl, ?_⟩
                  show RP 57 _ 7 [(0, .int a)] [.int 1] _
                  refine RP_done 3 (fun n => rfl) ?_
                  refine Or.inr ⟨1, rfl, ?_⟩
                  show RP 59 _ 245 [(0, .int 7), (1, .int a), (2, .int b), (3, .int c), (4, .int d)] [.int 1] _
                  refine RP_step (pc1 := 250) (L1 := [(0, .int 7), (1, .int a), (2, .int b), (3, .int c), (4, .int d)]) (S1 := [.int c, .int b]) 3 0 (fun n => rfl) ?_
                  refine RP_call 58 [.int b, .int c] (fun n => rfl) ?_
                  show RP 58 _ 0 [(0, .int b), (1, .int c)] [] _
                  refine RP_step (pc1 := 1) (L1 := [(0, .int b), (1, .int c)]) (S1 := [.int b]) 1 0 (fun n => rfl) ?_
                  refine RP_call 57 [.int b] (fun n => rfl) ?_
                  show RP 57 _ 0 [(0, .int b)] [] _
                  refine RP_step (pc1 := 4) (L1 := [(0, .int b)]) (S1 := [.int 15, .int 0, .int b]) 3 0 (fun n => rfl) ?_
                  refine RP_call 55 [.int b, .int 0, .int 15] (fun n => rfl) ?_
                  show RP 55 _ 0 [(0, .int b), (1, .int 0), (2, .int 15)] [] _
                  refine RP_step (pc1 := 2) (L1 := [(0, .int b), (1, .int 0), (2, .int 15)]) (S1 := [.int 0, .int b]) 2 0 (fun n => rfl) ?_
                  refine RP_cond (decide (b < 0)) (fun n => rfl) (fun h => absurd (of_decide_eq_true h) (xi_nlt (x := b) (y := 0) (show 0 ≤ b.toInt by omega))) (fun _ => ?_)
                  show RP 55 _ 5 [(0, .int b), (1, .int 0), (2, .int 15)] [] _
                  refine RP_step (pc1 := 7) (L1 := [(0, .int b), (1, .int 0), (2, .int 15)]) (S1 := [.int 15, .int b]) 2 0 (fun n => rfl) ?_
                  refine RP_cond (decide (15 < b)) (fun n => rfl) (fun h => absurd (of_decide_eq_true h) (xi_nlt (x := 15) (y := b) (show b.toInt ≤ 15 by omega))) (fun _ => ?_)
                  show RP 55 _ 10 [(0, .int b), (1, .int 0), (2, .int 15)] [] _
                  refine RP_done 5 (fun n => rfl) ?_
                  refine Or.inr ⟨1, rfl, ?_⟩
                  show RP 57 _ 7 [(0, .int b)] [.int 1] _
                  refine RP_done 3 (fun n => rfl) ?_
                  refine Or.inr ⟨1, rfl, ?_⟩
                  show RP 58 _ 4 [(0, .int b), (1, .int c)] [.int 1] _
                  refine RP_step (pc1 := 11) (L1 := [(0, .int b), (1, .int c)]) (S1 := [.int 8, .int 1, .int c]) 4 0 (fun n => rfl) ?_
                  refine RP_call 55 [.int c, .int 1, .int 8] (fun n => rfl) ?_
                  show RP 55 _ 0 [(0, .int c), (1, .int 1), (2, .int 8)] [] _
                  refine RP_step (pc1 := 2) (L1 := [(0, .int c), (1, .int 1), (2, .int 8)]) (S1 := [.int 1, .int c]) 2 0 (fun n => rfl) ?_
                  refine RP_cond (decide (c < 1)) (fun n => rfl) (fun h => absurd (of_decide_eq_true h) (xi_nlt (x := c) (y := 1) (show 1 ≤ c.toInt by omega))) (fun _ => ?_)
                  show RP 55 _ 5 [(0, .int c), (1, .int 1), (2, .int 8)] [] _
                  refine RP_step (pc1 := 7) (L1 := [(0, .int c), (1, .int 1), (2, .int 8)]) (S1 := [.int 8, .int c]) 2 0 (fun n => rfl) ?_
                  refine RP_cond (decide (8 < c)) (fun n => rfl) (fun h => absurd (of_decide_eq_true h) (xi_nlt (x := 8) (y := c) (show c.toInt ≤ 8 by omega))) (fun _ => ?_)
                  show RP 55 _ 10 [(0, .int c), (1, .int 1), (2, .int 8)] [] _
                  refine RP_done 5 (fun n => rfl) ?_
                  refine Or.inr ⟨1, rfl, ?_⟩
                  show RP 58 _ 14 [(0, .int b), (1, .int c)] [.int 1] _
                  refine RP_step (pc1 := 19) (L1 := [(0, .int b), (1, .int c)]) (S1 := [.int c, .int b]) 3 0 (fun n => rfl) ?_
                  refine RP_bin (fun x y => x + y) (fun n => rfl) ?_
                  show RP 58 _ 20 [(0, .int b), (1, .int c)] [.int (b + c)] _
                  refine RP_step (pc1 := 22) (L1 := [(0, .int b), (1, .int c)]) (S1 := [.int 16, .int (b + c)]) 1 0 (fun n => rfl) ?_
                  refine RP_cond (decide (16 < (b + c))) (fun n => rfl) (fun _ => ?_) (fun h => absurd (xi_lt (x := 16) (y := (b + c)) (show 16 < (b + c).toInt by omega)) (of_decide_eq_false h))
                  show RP 58 _ 29 [(0, .int b), (1, .int c)] [] _
                  refine RP_done 4 (fun n => rfl) ?_
                  refine Or.inr ⟨0, rfl, ?_⟩
                  show RP 59 _ 253 [(0, .int 7), (1, .int a), (2, .int b), (3, .int c), (4, .int d)] [.int 0] _
                  refine RP_done 5 (fun n => rfl) ?_
                  exact ⟨rfl, rfl⟩
                · have h185 := of_decide_eq_false hh
                  have h186 : (b + c).toInt ≤ 16 := xj_nlt h185
                  show RP 24 _ 26 [(0, .int b), (1, .int c)] [] _
                  refine RP_done 5 (fun n => rfl) ?_
                  refine Or.inr ⟨1, rfl, ?_⟩
                  show RP 25 _ 254 [(0, .int 7), (1, .int a), (2, .int b), (3, .int c), (4, .int d)] [.int 1] _
                  refine RP_step (pc1 := 259) (L1 := [(0, .int 7), (1, .int a), (2, .int b), (3, .int c), (4, .int d)]) (S1 := [.int d]) 2 0 (fun n => rfl) ?_
                  refine RP_call 23 [.int d] (fun n => rfl) ?_
                  show RP 23 _ 0 [(0, .int d)] [] _
                  refine RP_step (pc1 := 1) (L1 := [(0, .int d)]) (S1 := [.int d]) 1 0 (fun n => rfl) ?_
                  refine RP_cond (decide (d < 0)) (fun n => rfl) (fun hh => ?_) (fun hh => ?_)
                  · have h187 := of_decide_eq_true hh
                    have h188 : d.toInt < 0 := xj_lt h187
                    show RP 23 _ 14 [(0, .int d)] [] _
                    refine RP_done 4 (fun n => rfl) ?_
                    refine Or.inr ⟨0, rfl, ?_⟩
                    show RP 25 _ 262 [(0, .int 7), (1, .int a), (2, .int b), (3, .int c), (4, .int d)] [.int 0] _
                    refine RP_done 5 (fun n => rfl) ?_
                    refine ⟨Or.inl rfl, rfl, ?_⟩
                    show RP 59 _ 0 [(0, .int 7), (1, .int a), (2, .int b), (3, .int c), (4, .int d)] [] _
                    refine RP_step (pc1 := 242) (L1 := [(0, .int 7), (1, .int a), (2, .int b), (3, .int c), (4, .int d)]) (S1 := [.int a]) 3 0 (fun n => rfl) ?_
                    refine RP_call 57 [.int a] (fun n => rfl) ?_
                    show RP 57 _ 0 [(0, .int a)] [] _
                    refine RP_step (pc1 := 4) (L1 := [(0, .int a)]) (S1 := [.int 15, .int 0, .int a]) 3 0 (fun n => rfl) ?_
                    refine RP_call 55 [.int a, .int 0, .int 15] (fun n => rfl) ?_
                    show RP 55 _ 0 [(0, .int a), (1, .int 0), (2, .int 15)] [] _
                    refine RP_step (pc1 := 2) (L1 := [(0, .int a), (1, .int 0), (2, .int 15)]) (S1 := [.int 0, .int a]) 2 0 (fun n => rfl) ?_
                    refine RP_cond (decide (a < 0)) (fun n => rfl) (fun h => absurd (of_decide_eq_true h) (xi_nlt (x := a) (y := 0) (show 0 ≤ a.toInt by omega))) (fun _ => ?_)
                    show RP 55 _ 5 [(0, .int a), (1, .int 0), (2, .int 15)] [] _
                    refine RP_step (pc1 := 7) (L1 := [(0, .int a), (1, .int 0), (2, .int 15)]) (S1 := [.int 15, .int a]) 2 0 (fun n => rfl) ?_
                    refine RP_cond (decide (15 < a)) (fun n => rfl) (fun h => absurd (of_decide_eq_true h) (xi_nlt (x := 15) (y := a) (show a.toInt ≤ 15 by omega))) (fun _ => ?_)
                    show RP 55 _ 10 [(0, .int a), (1, .int 0), (2, .int 15)] [] _
                    refine RP_done 5 (fun n => rfl) ?_
                    refine Or.inr ⟨1, rfl, ?_⟩
                    show RP 57 _ 7 [(0, .int a)] [.int 1] _
                    refine RP_done 3 (fun n => rfl) ?_
                    refine Or.inr ⟨1, rfl, ?_⟩
                    show RP 59 _ 245 [(0, .int 7), (1, .int a), (2, .int b), (3, .int c), (4, .int d)] [.int 1] _
                    refine RP_step (pc1 := 250) (L1 := [(0, .int 7), (1, .int a), (2, .int b), (3, .int c), (4, .int d)]) (S1 := [.int c, .int b]) 3 0 (fun n => rfl) ?_
                    refine RP_call 58 [.int b, .int c] (fun n => rfl) ?_
                    show RP 58 _ 0 [(0, .int b), (1, .int c)] [] _
                    refine RP_step (pc1 := 1) (L1 := [(0, .int b), (1, .int c)]) (S1 := [.int b]) 1 0 (fun n => rfl) ?_
                    refine RP_call 57 [.int b] (fun n => rfl) ?_
                    show RP 57 _ 0 [(0, .int b)] [] _
                    refine RP_step (pc1 := 4) (L1 := [(0, .int b)]) (S1 := [.int 15, .int 0, .int b]) 3 0 (fun n => rfl) ?_
                    refine RP_call 55 [.int b, .int 0, .int 15] (fun n => rfl) ?_
                    show RP 55 _ 0 [(0, .int b), (1, .int 0), (2, .int 15)] [] _
                    refine RP_step (pc1 := 2) (L1 := [(0, .int b), (1, .int 0), (2, .int 15)]) (S1 := [.int 0, .int b]) 2 0 (fun n => rfl) ?_
                    refine RP_cond (decide (b < 0)) (fun n => rfl) (fun h => absurd (of_decide_eq_true h) (xi_nlt (x := b) (y := 0) (show 0 ≤ b.toInt by omega))) (fun _ => ?_)
                    show RP 55 _ 5 [(0, .int b), (1, .int 0), (2, .int 15)] [] _
                    refine RP_step (pc1 := 7) (L1 := [(0, .int b), (1, .int 0), (2, .int 15)]) (S1 := [.int 15, .int b]) 2 0 (fun n => rfl) ?_
                    refine RP_cond (decide (15 < b)) (fun n => rfl) (fun h => absurd (of_decide_eq_true h) (xi_nlt (x := 15) (y := b) (show b.toInt ≤ 15 by omega))) (fun _ => ?_)
                    show RP 55 _ 10 [(0, .int b), (1, .int 0), (2, .int 15)] [] _
                    refine RP_done 5 (fun n => rfl) ?_
                    refine Or.inr ⟨1, rfl, ?_⟩
                    show RP 57 _ 7 [(0, .int b)] [.int 1] _
                    refine RP_done 3 (fun n => rfl) ?_
                    refine Or.inr ⟨1, rfl, ?_⟩
                    show RP 58 _ 4 [(0, .int b), (1, .int c)] [.int 1] _
                    refine RP_step (pc1 := 11) (L1 := [(0, .int b), (1, .int c)]) (S1 := [.int 8, .int 1, .int c]) 4 0 (fun n => rfl) ?_
                    refine RP_call 55 [.int c, .int 1, .int 8] (fun n => rfl) ?_
                    show RP 55 _ 0 [(0, .int c), (1, .int 1), (2, .int 8)] [] _
                    refine RP_step (pc1 := 2) (L1 := [(0, .int c), (1, .int 1), (2, .int 8)]) (S1 := [.int 1, .int c]) 2 0 (fun n => rfl) ?_
                    refine RP_cond (decide (c < 1)) (fun n => rfl) (fun h => absurd (of_decide_eq_true h) (xi_nlt (x := c) (y := 1) (show 1 ≤ c.toInt by omega))) (fun _ => ?_)
                    show RP 55 _ 5 [(0, .int c), (1, .int 1), (2, .int 8)] [] _
                    refine RP_step (pc1 := 7) (L1 := [(0, .int c), (1, .int 1), (2, .int 8)]) (S1 := [.int 8, .int c]) 2 0 (fun n => rfl) ?_
                    refine RP_cond (decide (8 < c)) (fun n => rfl) (fun h => absurd (of_decide_eq_true h) (xi_nlt (x := 8) (y := c) (show c.toInt ≤ 8 by omega))) (fun _ => ?_)
                    show RP 55 _ 10 [(0, .int c), (1, .int 1), (2, .int 8)] [] _
                    refine RP_done 5 (fun n => rfl) ?_
                    refine Or.inr ⟨1, rfl, ?_⟩
                    show RP 58 _ 14 [(0, .int b), (1, .int c)] [.int 1] _
                    refine RP_step (pc1 := 19) (L1 := [(0, .int b), (1, .int c)]) (S1 := [.int c, .int b]) 3 0 (fun n => rfl) ?_
                    refine RP_bin (fun x y => x + y) (fun n => rfl) ?_
                    show RP 58 _ 20 [(0, .int b), (1, .int c)] [.int (b + c)] _
                    refine RP_step (pc1 := 22) (L1 := [(0, .int b), (1, .int c)]) (S1 := [.int 16, .int (b + c)]) 1 0 (fun n => rfl) ?_
                    refine RP_cond (decide (16 < (b + c))) (fun n => rfl) (fun h => absurd (of_decide_eq_true h) (xi_nlt (x := 16) (y := (b + c)) (show (b + c).toInt ≤ 16 by omega))) (fun _ => ?_)
                    show RP 58 _ 25 [(0, .int b), (1, .int c)] [] _
                    refine RP_done 5 (fun n => rfl) ?_
                    refine Or.inr ⟨1, rfl, ?_⟩
                    show RP 59 _ 253 [(0, .int 7), (1, .int a), (2, .int b), (3, .int c), (4, .int d)] [.int 1] _
                    refine RP_step (pc1 := 258) (L1 := [(0, .int 7), (1, .int a), (2, .int b), (3, .int c), (4, .int d)]) (S1 := [.int d]) 2 0 (fun n => rfl) ?_
                    refine RP_call 57 [.int d] (fun n => rfl) ?_
                    show RP 57 _ 0 [(0, .int d)] [] _
                    refine RP_step (pc1 := 4) (L1 := [(0, .int d)]) (S1 := [.int 15, .int 0, .int d]) 3 0 (fun n => rfl) ?_
                    refine RP_call 55 [.int d, .int 0, .int 15] (fun n => rfl) ?_
                    show RP 55 _ 0 [(0, .int d), (1, .int 0), (2, .int 15)] [] _
                    refine RP_step (pc1 := 2) (L1 := [(0, .int d), (1, .int 0), (2, .int 15)]) (S1 := [.int 0, .int d]) 2 0 (fun n => rfl) ?_
                    refine RP_cond (decide (d < 0)) (fun n => rfl) (fun _ => ?_) (fun h => absurd (xi_lt (x := d) (y := 0) (show d.toInt < 0 by omega)) (of_decide_eq_false h))
                    show RP 55 _ 14 [(0, .int d), (1, .int 0), (2, .int 15)] [] _
                    refine RP_done 4 (fun n => rfl) ?_
                    refine Or.inr ⟨0, rfl, ?_⟩
                    show RP 57 _ 7 [(0, .int d)] [.int 0] _
                    refine RP_done 3 (fun n => rfl) ?_
                    refine Or.inr ⟨0, rfl, ?_⟩
                    show RP 59 _ 261 [(0, .int 7), (1, .int a), (2, .int b), (3, .int c), (4, .int d)] [.int 0] _
                    refine RP_done 5 (fun n => rfl) ?_
                    exact ⟨rfl, rfl⟩
                  · have h189 := of_decide_eq_false hh
                    have h190 : 0 ≤ d.toInt := xj_nlt h189
                    show RP 23 _ 4 [(0, .int d)] [] _
                    refine RP_step (pc1 := 7) (L1 := [(0, .int d)]) (S1 := [.int 16, .int d]) 2 0 (fun n => rfl) ?_
                    refine RP_cond (decide (16 ≤ d)) (fun n => rfl) (fun hh => ?_) (fun hh => ?_)
                    · have h191 := of_decide_eq_true hh
                      have h192 : 16 ≤ d.toInt := xj_le h191
                      show RP 23 _ 14 [(0, .int d)] [] _
                      refine RP_done 4 (fun n => rfl) ?_
                      refine Or.inr ⟨0, rfl, ?_⟩
                      show RP 25 _ 262 [(0, .int 7), (1, .int a), (2, .int b), (3, .int c), (4, .int d)] [.int 0] _
                      refine RP_done 5 (fun n => rfl) ?_
                      refine ⟨Or.inl rfl, rfl, ?_⟩
                      show RP 59 _ 0 [(0, .int 7), (1, .int a), (2, .int b), (3, .int c), (4, .int d)] [] _
                      refine RP_step (pc1 := 242) (L1 := [(0, .int 7), (1, .int a), (2, .int b), (3, .int c), (4, .int d)]) (S1 := [.int a]) 3 0 (fun n => rfl) ?_
                      refine RP_call 57 [.int a] (fun n => rfl) ?_
                      show RP 57 _ 0 [(0, .int a)] [] _
                      refine RP_step (pc1 := 4) (L1 := [(0, .int a)]) (S1 := [.int 15, .int 0, .int a]) 3 0 (fun n => rfl) ?_
                      refine RP_call 55 [.int a, .int 0, .int 15] (fun n => rfl) ?_
                      show RP 55 _ 0 [(0, .int a), (1, .int 0), (2, .int 15)] [] _
                      refine RP_step (pc1 := 2) (L1 := [(0, .int a), (1, .int 0), (2, .int 15)]) (S1 := [.int 0, .int a]) 2 0 (fun n => rfl) ?_
                      refine RP_cond (decide (a < 0)) (fun n => rfl) (fun h => absurd (of_decide_eq_true h) (xi_nlt (x := a) (y := 0) (show 0 ≤ a.toInt by omega))) (fun _ => ?_)
                      show RP 55 _ 5 [(0, .int a), (1, .int 0), (2, .int 15)] [] _
                      refine RP_step (pc1 := 7) (L1 := [(0, .int a), (1, .int 0), (2, .int 15)]) (S1 := [.int 15, .int a]) 2 0 (fun n => rfl) ?_
                      refine RP_cond (decide (15 < a)) (fun n => rfl) (fun h => absurd (of_decide_eq_true h) (xi_nlt (x := 15) (y := a) (show a.toInt ≤ 15 by omega))) (fun _ => ?_)
                      show RP 55 _ 10 [(0, .int a), (1, .int 0), (2, .int 15)] [] _
                      refine RP_done 5 (fun n => rfl) ?_
                      refine Or.inr ⟨1, rfl, ?_⟩
                      show RP 57 _ 7 [(0, .int a)] [.int 1] _
                      refine RP_done 3 (fun n => rfl) ?_
                      refine Or.inr ⟨1, rfl, ?_⟩
                      show RP 59 _ 245 [(0, .int 7), (1, .int a), (2, .int b), (3, .int c), (4, .int d)] [.int 1] _
                      refine RP_step (pc1 := 250) (L1 := [(0, .int 7), (1, .int a), (2, .int b), (3, .int c), (4, .int d)]) (S1 := [.int c, .int b]) 3 0 (fun n => rfl) ?_
                      refine RP_call 58 [.int b, .int c] (fun n => rfl) ?_
                      show RP 58 _ 0 [(0, .int b), (1, .int c)] [] _
                      refine RP_step (pc1 := 1) (L1 := [(0, .int b), (1, .int c)]) (S1 := [.int b]) 1 0 (fun n => rfl) ?_
                      refine RP_call 57 [.int b] (fun n => rfl) ?_
                      show RP 57 _ 0 [(0, .int b)] [] _
                      refine RP_step (pc1 := 4) (L1 := [(0, .int b)]) (S1 := [.int 15, .int 0, .int b]) 3 0 (fun n => rfl) ?_
                      refine RP_call 55 [.int b, .int 0, .int 15] (fun n => rfl) ?_
                      show RP 55 _ 0 [(0, .int b), (1, .int 0), (2, .int 15)] [] _
                      refine RP_step (pc1 := 2) (L1 := [(0, .int b), (1, .int 0), (2, .int 15)]) (S1 := [.int 0, .int b]) 2 0 (fun n => rfl) ?_
                      refine RP_cond (decide (b < 0)) (fun n => rfl) (fun h => absurd (of_decide_eq_true h) (xi_nlt (x := b) (y := 0) (show 0 ≤ b.toInt by omega))) (fun _ => ?_)
                      show RP 55 _ 5 [(0, .int b), (1, .int 0), (2, .int 15)] [] _
                      refine RP_step (pc1 := 7) (L1 := [(0, .int b), (1, .int 0), (2, .int 15)]) (S1 := [.int 15, .int b]) 2 0 (fun n => rfl) ?_
                      refine RP_cond (decide (15 < b)) (fun n => rfl) (fun h => absurd (of_decide_eq_true h) (xi_nlt (x := 15) (y := b) (show b.toInt ≤ 15 by omega))) (fun _ => ?_)
                      show RP 55 _ 10 [(0, .int b), (1, .int 0), (2, .int 15)] [] _
                      refine RP_done 5 (fun n => rfl) ?_
                      refine Or.inr ⟨1, rfl, ?_⟩
                      show RP 57 _ 7 [(0, .int b)] [.int 1] _
                      refine RP_done 3 (fun n => rfl) ?_
                      refine Or.inr ⟨1, rfl, ?_⟩
                      show RP 58 _ 4 [(0, .int b), (1, .int c)] [.int 1] _
                      refine RP_step (pc1 := 11) (L1 := [(0, .int b), (1, .int c)]) (S1 := [.int 8, .int 1, .int c]) 4 0 (fun n => rfl) ?_
                      refine RP_call 55 [.int c, .int 1, .int 8] (fun n => rfl) ?_
                      show RP 55 _ 0 [(0, .int c), (1, .int 1), (2, .int 8)] [] _
                      refine RP_step (pc1 := 2) (L1 := [(0, .int c), (1, .int 1), (2, .int 8)]) (S1 := [.int 1, .int c]) 2 0 (fun n => rfl) ?_
                      refine RP_cond (decide (c < 1)) (fun n => rfl) (fun h => absurd (of_decide_eq_true h) (xi_nlt (x := c) (y := 1) (show 1 ≤ c.toInt by omega))) (fun _ => ?_)
                      show RP 55 _ 5 [(0, .int c), (1, .int 1), (2, .int 8)] [] _
                      refine RP_step (pc1 := 7) (L1 := [(0, .int c), (1, .int 1), (2, .int 8)]) (S1 := [.int 8, .int c]) 2 0 (fun n => rfl) ?_
                      refine RP_cond (decide (8 < c)) (fun n => rfl) (fun h => absurd (of_decide_eq_true h) (xi_nlt (x := 8) (y := c) (show c.toInt ≤ 8 by omega))) (fun _ => ?_)
                      show RP 55 _ 10 [(0, .int c), (1, .int 1), (2, .int 8)] [] _
                      refine RP_done 5 (fun n => rfl) ?_
                      refine Or.inr ⟨1, rfl, ?_⟩
                      show RP 58 _ 14 [(0, .int b), (1, .int c)] [.int 1] _
                      refine RP_step (pc1 := 19) (L1 := [(0, .int b), (1, .int c)]) (S1 := [.int c, .int b]) 3 0 (fun n => rfl) ?_
                      refine RP_bin (fun x y => x + y) (fun n => rfl) ?_
                      show RP 58 _ 20 [(0, .int b), (1, .int c)] [.int (b + c)] _
                      refine RP_step (pc1 := 22) (L1 := [(0, .int b), (1, .int c)]) (S1 := [.int 16, .int (b + c)]) 1 0 (fun n => rfl) ?_
                      refine RP_cond (decide (16 < (b + c))) (fun n => rfl) (fun h => absurd (of_decide_eq_true h) (xi_nlt (x := 16) (y := (b + c)) (show (b + c).toInt ≤ 16 by omega))) (fun _ => ?_)
                      show RP 58 _ 25 [(0, .int b), (1, .int c)] [] _
                      refine RP_done 5 (fun n => rfl) ?_
                      refine Or.inr ⟨1, rfl, ?_⟩
                      show RP 59 _ 253 [(0, .int 7), (1, .int a), (2, .int b), (3, .int c), (4, .int d)] [.int 1] _
                      refine RP_step (pc1 := 258) (L1 := [(0, .int 7), (1, .int a), (2, .int b), (3, .int c), (4, .int d)]) (S1 := [.int d]) 2 0 (fun n => rfl) ?_
                      refine RP_call 57 [.int d] (fun n => rfl) ?_
                      show RP 57 _ 0 [(0, .int d)] [] _
                      refine RP_step (pc1 := 4) (L1 := [(0, .int d)]) (S1 := [.int 15, .int 0, .int d]) 3 0 (fun n => rfl) ?_
                      refine RP_call 55 [.int d, .int 0, .int 15] (fun n => rfl) ?_
                      show RP 55 _ 0 [(0, .int d), (1, .int 0), (2, .int 15)] [] _
                      refine RP_step (pc1 := 2) (L1 := [(0, .int d), (1, .int 0), (2, .int 15)]) (S1 := [.int 0, .int d]) 2 0 (fun n => rfl) ?_
                      refine RP_cond (decide (d < 0)) (fun n => rfl) (fun h => absurd (of_decide_eq_true h) (xi_nlt (x := d) (y := 0) (show 0 ≤ d.toInt by omega))) (fun _ => ?_)
                      show RP 55 _ 5 [(0, .int d), (1, .int 0), (2, .int 15)] [] _
                      refine RP_step (pc1 := 7) (L1 := [(0, .int d), (1, .int 0), (2, .int 15)]) (S1 := [.int 15, .int d]) 2 0 (fun n => rfl) ?_
                      refine RP_cond (decide (15 < d)) (fun n => rfl) (fun _ => ?_) (fun h => absurd (xi_lt (x := 15) (y := d) (show 15 < d.toInt by omega)) (of_decide_eq_false h))
                      show RP 55 _ 14 [(0, .int d), (1, .int 0), (2, .int 15)] [] _
                      refine RP_done 4 (fun n => rfl) ?_
                      refine Or.inr ⟨0, rfl, ?_⟩
                      show RP 57 _ 7 [(0, .int d)] [.int 0] _
                      refine RP_done 3 (fun n => rfl) ?_
                      refine Or.inr ⟨0, rfl, ?_⟩
                      show RP 59 _ 261 [(0, .int 7), (1, .int a), (2, .int b), (3, .int c), (4, .int d)] [.int 0] _
                      refine RP_done 5 (fun n => rfl) ?_
                      exact ⟨rfl, rfl⟩
                    · have h193 := of_decide_eq_false hh
                      have h194 : d.toInt < 16 := xj_nle h193
                      show RP 23 _ 10 [(0, .int d)] [] _
                      refine RP_done 5 (fun n => rfl) ?_
                      refine Or.inr ⟨1, rfl, ?_⟩
                      show RP 25 _ 262 [(0, .int 7), (1, .int a), (2, .int b), (3, .int c), (4, .int d)] [.int 1] _
                      refine RP_done 6 (fun n => rfl) ?_
                      refine ⟨Or.inr rfl, rfl, ?_⟩
                      show RP 59 _ 0 [(0, .int 7), (1, .int a), (2, .int b), (3, .int c), (4, .int d)] [] _
                      refine RP_step (pc1 := 242) (L1 := [(0, .int 7), (1, .int a), (2, .int b), (3, .int c), (4, .int d)]) (S1 := [.int a]) 3 0 (fun n => rfl) ?_
                      refine RP_call 57 [.int a] (fun n => rfl) ?_
                      show RP 57 _ 0 [(0, .int a)] [] _
                      refine RP_step (pc1 := 4) (L1 := [(0, .int a)]) (S1 := [.int 15, .int 0, .int a]) 3 0 (fun n => rfl) ?_
                      refine RP_call 55 [.int a, .int 0, .int 15] (fun n => rfl) ?_
                      show RP 55 _ 0 [(0, .int a), (1, .int 0), (2, .int 15)] [] _
                      refine RP_step (pc1 := 2) (L1 := [(0, .int a), (1, .int 0), (2, .int 15)]) (S1 := [.int 0, .int a]) 2 0 (fun n => rfl) ?_
                      refine RP_cond (decide (a < 0)) (fun n => rfl) (fun h => absurd (of_decide_eq_true h) (xi_nlt (x := a) (y := 0) (show 0 ≤ a.toInt by omega))) (fun _ => ?_)
                      show RP 55 _ 5 [(0, .int a), (1, .int 0), (2, .int 15)] [] _
                      refine RP_step (pc1 := 7) (L1 := [(0, .int a), (1, .int 0), (2, .int 15)]) (S1 := [.int 15, .int a]) 2 0 (fun n => rfl) ?_
                      refine RP_cond (decide (15 < a)) (fun n => rfl) (fun h => absurd (of_decide_eq_true h) (xi_nlt (x := 15) (y := a) (show a.toInt ≤ 15 by omega))) (fun _ => ?_)
                      show RP 55 _ 10 [(0, .int a), (1, .int 0), (2, .int 15)] [] _
                      refine RP_done 5 (fun n => rfl) ?_
                      refine Or.inr ⟨1, rfl, ?_⟩
                      show RP 57 _ 7 [(0, .int a)] [.int 1] _
                      refine RP_done 3 (fun n => rfl) ?_
                      refine Or.inr ⟨1, rfl, ?_⟩
                      show RP 59 _ 245 [(0, .int 7), (1, .int a), (2, .int b), (3, .int c), (4, .int d)] [.int 1] _
                      refine RP_step (pc1 := 250) (L1 := [(0, .int 7), (1, .int a), (2, .int b), (3, .int c), (4, .int d)]) (S1 := [.int c, .int b]) 3 0 (fun n => rfl) ?_
                      refine RP_call 58 [.int b, .int c] (fun n => rfl) ?_
                      show RP 58 _ 0 [(0, .int b), (1, .int c)] [] _
                      refine RP_step (pc1 := 1) (L1 := [(0, .int b), (1, .int c)]) (S1 := [.int b]) 1 0 (fun n => rfl) ?_
                      refine RP_call 57 [.int b] (fun n => rfl) ?_
                      show RP 57 _ 0 [(0, .int b)] [] _
                      refine RP_step (pc1 := 4) (L1 := [(0, .int b)]) (S1 := [.int 15, .int 0, .int b]) 3 0 (fun n => rfl) ?_
                      refine RP_call 55 [.int b, .int 0, .int 15] (fun n => rfl) ?_
                      show RP 55 _ 0 [(0, .int b), (1, .int 0), (2, .int 15)] [] _
                      refine RP_step (pc1 := 2) (L1 := [(0, .int b), (1, .int 0), (2, .int 15)]) (S1 := [.int 0, .int b]) 2 0 (fun n => rfl) ?_
                      refine RP_cond (decide (b < 0)) (fun n => rfl) (fun h => absurd (of_decide_eq_true h) (xi_nlt (x := b) (y := 0) (show 0 ≤ b.toInt by omega))) (fun _ => ?_)
                      show RP 55 _ 5 [(0, .int b), (1, .int 0), (2, .int 15)] [] _
                      refine RP_step (pc1 := 7) (L1 := [(0, .int b), (1, .int 0), (2, .int 15)]) (S1 := [.int 15, .int b]) 2 0 (fun n => rfl) ?_
                      refine RP_cond (decide (15 < b)) (fun n => rfl) (fun h => absurd (of_decide_eq_true h) (xi_nlt (x := 15) (y := b) (show b.toInt ≤ 15 by omega))) (fun _ => ?_)
                      show RP 55 _ 10 [(0, .int b), (1, .int 0), (2, .int 15)] [] _
                      refine RP_done 5 (fun n => rfl) ?_
                      refine Or.inr ⟨1, rfl, ?_⟩
                      show RP 57 _ 7 [(0, .int b)] [.int 1] _
                      refine RP_done 3 (fun n => rfl) ?_
                      refine Or.inr ⟨1, rfl, ?_⟩
                      show RP 58 _ 4 [(0, .int b), (1, .int c)] [.int 1] _
                      refine RP_step (pc1 := 11) (L1 := [(0, .int b), (1, .int c)]) (S1 := [.int 8, .int 1, .int c]) 4 0 (fun n => rfl) ?_
                      refine RP_call 55 [.int c, .int 1, .int 8] (fun n => rfl) ?_
                      show RP 55 _ 0 [(0, .int c), (1, .int 1), (2, .int 8)] [] _
                      refine RP_step (pc1 := 2) (L1 := [(0, .int c), (1, .int 1), (2, .int 8)]) (S1 := [.int 1, .int c]) 2 0 (fun n => rfl) ?_
                      refine RP_cond (decide (c < 1)) (fun n => rfl) (fun h => absurd (of_decide_eq_true h) (xi_nlt (x := c) (y := 1) (show 1 ≤ c.toInt by omega))) (fun _ => ?_)
                      show RP 55 _ 5 [(0, .int c), (1, .int 1), (2, .int 8)] [] _
                      refine RP_step (pc1 := 7) (L1 := [(0, .int c), (1, .int 1), (2, .int 8)]) (S1 := [.int 8, .int c]) 2 0 (fun n => rfl) ?_
                      refine RP_cond (decide (8 < c)) (fun n => rfl) (fun h => absurd (of_decide_eq_true h) (xi_nlt (x := 8) (y := c) (show c.toInt ≤ 8 by omega))) (fun _ => ?_)
                      show RP 55 _ 10 [(0, .int c), (1, .int 1), (2, .int 8)] [] _
                      refine RP_done 5 (fun n => rfl) ?_
                      refine Or.inr ⟨1, rfl, ?_⟩
                      show RP 58 _ 14 [(0, .int b), (1, .int c)] [.int 1] _
                      refine RP_step (pc1 := 19) (L1 := [(0, .int b), (1, .int c)]) (S1 := [.int c, .int b]) 3 0 (fun n => rfl) ?_
                      refine RP_bin (fun x y => x + y) (fun n => rfl) ?_
                      show RP 58 _ 20 [(0, .int b), (1, .int c)] [.int (b + c)] _
                      refine RP_step (pc1 := 22) (L1 := [(0, .int b), (1, .int c)]) (S1 := [.int 16, .int (b + c)]) 1 0 (fun n => rfl) ?_
                      refine RP_cond (decide (16 < (b + c))) (fun n => rfl) (fun h => absurd (of_decide_eq_true h) (xi_nlt (x := 16) (y := (b + c)) (show (b + c).toInt ≤ 16 by omega))) (fun _ => ?_)
                      show RP 58 _ 25 [(0, .int b), (1, .int c)] [] _
                      refine RP_done 5 (fun n => rfl) ?_
                      refine Or.inr ⟨1, rfl, ?_⟩
                      show RP 59 _ 253 [(0, .int 7), (1, .int a), (2, .int b), (3, .int c), (4, .int d)] [.int 1] _
                      refine RP_step (pc1 := 258) (L1 := [(0, .int 7), (1, .int a), (2, .int b), (3, .int c), (4, .int d)]) (S1 := [.int d]) 2 0 (fun n => rfl) ?_
                      refine RP_call 57 [.int d] (fun n => rfl) ?_
                      show RP 57 _ 0 [(0, .int d)] [] _
                      refine RP_step (pc1 := 4) (L1 := [(0, .int d)]) (S1 := [.int 15, .int 0, .int d]) 3 0 (fun n => rfl) ?_
                      refine RP_call 55 [.int d, .int 0, .int 15] (fun n => rfl) ?_
                      show RP 55 _ 0 [(0, .int d), (1, .int 0), (2, .int 15)] [] _
                      refine RP_step (pc1 := 2) (L1 := [(0, .int d), (1, .int 0), (2, .int 15)]) (S1 := [.int 0, .int d]) 2 0 (fun n => rfl) ?_
                      refine RP_cond (decide (d < 0)) (fun n => rfl) (fun h => absurd (of_decide_eq_true h) (xi_nlt (x := d) (y := 0) (show 0 ≤ d.toInt by omega))) (fun _ => ?_)
                      show RP 55 _ 5 [(0, .int d), (1, .int 0), (2, .int 15)] [] _
                      refine RP_step (pc1 := 7) (L1 := [(0, .int d), (1, .int 0), (2, .int 15)]) (S1 := [.int 15, .int d]) 2 0 (fun n => rfl) ?_
                      refine RP_cond (decide (15 < d)) (fun n => rfl) (fun h => absurd (of_decide_eq_true h) (xi_nlt (x := 15) (y := d) (show d.toInt ≤ 15 by omega))) (fun _ => ?_)
                      show RP 55 _ 10 [(0, .int d), (1, .int 0), (2, .int 15)] [] _
                      refine RP_done 5 (fun n => rfl) ?_
                      refine Or.inr ⟨1, rfl, ?_⟩
                      show RP 57 _ 7 [(0, .int d)] [.int 1] _
                      refine RP_done 3 (fun n => rfl) ?_
                      refine Or.inr ⟨1, rfl, ?_⟩
                      show RP 59 _ 261 [(0, .int 7), (1, .int a), (2, .int b), (3, .int c), (4, .int d)] [.int 1] _
                      refine RP_done 6 (fun n => rfl) ?_
                      exact ⟨rfl, rfl⟩
  · skip
    show RP 25 _ 0 [(0, .int 8), (1, .int a), (2, .int b), (3, .int c), (4, .int d)] [] _
    refine RP_step (pc1 := 272) (L1 := [(0, .int 8), (1, .int a), (2, .int b), (3, .int c), (4, .int d)]) (S1 := [.int a]) 3 0 (fun n => rfl) ?_
    refine RP_call 22 [.int a] (fun n => rfl) ?_
    show RP 22 _ 0 [(0, .int a)] [] _
    refine RP_step (pc1 := 1) (L1 := [(0, .int a)]) (S1 := [.int a]) 1 0 (fun n => rfl) ?_
    refine RP_cond (decide (a < 0)) (fun n => rfl) (fun hh => ?_) (fun hh => ?_)
    · have h195 := of_decide_eq_true hh
      have h196 : a.toInt < 0 := xj_lt h195
      show RP 22 _ 14 [(0, .int a)] [] _
      refine RP_done 4 (fun n => rfl) ?_
      refine Or.inr ⟨0, rfl, ?_⟩
      show RP 25 _ 275 [(0, .int 8), (1, .int a), (2, .int b), (3, .int c), (4, .int d)] [.int 0] _
      refine RP_done 5 (fun n => rfl) ?_
      refine ⟨Or.inl rfl, rfl, ?_⟩
      show RP 59 _ 0 [(0, .int 8), (1, .int a), (2, .int b), (3, .int c), (4, .int d)] [] _
      refine RP_step (pc1 := 271) (L1 := [(0, .int 8), (1, .int a), (2, .int b), (3, .int c), (4, .int d)]) (S1 := [.int a]) 3 0 (fun n => rfl) ?_
      refine RP_call 56 [.int a] (fun n => rfl) ?_
      show RP 56 _ 0 [(0, .int a)] [] _
      refine RP_step (pc1 := 3) (L1 := [(0, .int a)]) (S1 := [.int 5, .int 0, .int a]) 3 0 (fun n => rfl) ?_
      refine RP_call 55 [.int a, .int 0, .int 5] (fun n => rfl) ?_
      show RP 55 _ 0 [(0, .int a), (1, .int 0), (2, .int 5)] [] _
      refine RP_step (pc1 := 2) (L1 := [(0, .int a), (1, .int 0), (2, .int 5)]) (S1 := [.int 0, .int a]) 2 0 (fun n => rfl) ?_
      refine RP_cond (decide (a < 0)) (fun n => rfl) (fun _ => ?_) (fun h => absurd (xi_lt (x := a) (y := 0) (show a.toInt < 0 by omega)) (of_decide_eq_false h))
      show RP 55 _ 14 [(0, .int a), (1, .int 0), (2, .int 5)] [] _
      refine RP_done 4 (fun n => rfl) ?_
      refine Or.inr ⟨0, rfl, ?_⟩
      show RP 56 _ 6 [(0, .int a)] [.int 0] _
      refine RP_done 3 (fun n => rfl) ?_
      refine Or.inr ⟨0, rfl, ?_⟩
      show RP 59 _ 274 [(0, .int 8), (1, .int a), (2, .int b), (3, .int c), (4, .int d)] [.int 0] _
      refine RP_done 5 (fun n => rfl) ?_
      exact ⟨rfl, rfl⟩
    · have h197 := of_decide_eq_false hh
      have h198 : 0 ≤ a.toInt := xj_nlt h197
      show RP 22 _ 4 [(0, .int a)] [] _
      refine RP_step (pc1 := 7) (L1 := [(0, .int a)]) (S1 := [.int 6, .int a]) 2 0 (fun n => rfl) ?_
      refine RP_cond (decide (6 ≤ a)) (fun n => rfl) (fun hh => ?_) (fun hh => ?_)
      · have h199 := of_decide_eq_true hh
        have h200 : 6 ≤ a.toInt := xj_le h199
        show RP 22 _ 14 [(0, .int a)] [] _
        refine RP_done 4 (fun n => rfl) ?_
        refine Or.inr ⟨0, rfl, ?_⟩
        show RP 25 _ 275 [(0, .int 8), (1, .int a), (2, .int b), (3, .int c), (4, .int d)] [.int 0] _
        refine RP_done 5 (fun n => rfl) ?_
        refine ⟨Or.inl rfl, rfl, ?_⟩
        show RP 59 _ 0 [(0, .int 8), (1, .int a), (2, .int b), (3, .int c), (4, .int d)] [] _
        refine RP_step (pc1 := 271) (L1 := [(0, .int 8), (1, .int a), (2, .int b), (3, .int c), (4, .int d)]) (S1 := [.int a]) 3 0 (fun n => rfl) ?_
        refine RP_call 56 [.int a] (fun n => rfl) ?_
        show RP 56 _ 0 [(0, .int a)] [] _
        refine RP_step (pc1 := 3) (L1 := [(0, .int a)]) (S1 := [.int 5, .int 0, .int a]) 3 0 (fun n => rfl) ?_
        refine RP_call 55 [.int a, .int 0, .int 5] (fun n => rfl) ?_
        show RP 55 _ 0 [(0, .int a), (1, .int 0), (2, .int 5)] [] _
        refine RP_step (pc1 := 2) (L1 := [(0, .int a), (1, .int 0), (2, .int 5)]) (S1 := [.int 0, .int a]) 2 0 (fun n => rfl) ?_
        refine RP_cond (decide (a < 0)) (fun n => rfl) (fun h => absurd (of_decide_eq_true h) (xi_nlt (x := a) (y := 0) (show 0 ≤ a.toInt by omega))) (fun _ => ?_)
        show RP 55 _ 5 [(0, .int a), (1, .int 0), (2, .int 5)] [] _
        refine RP_step (pc1 := 7) (L1 := [(0, .int a), (1, .int 0), (2, .int 5)]) (S1 := [.int 5, .int a]) 2 0 (fun n => rfl) ?_
        refine RP_cond (decide (5 < a)) (fun n => rfl) (fun _ => ?_) (fun h => absurd (xi_lt (x := 5) (y := a) (show 5 < a.toInt by omega)) (of_decide_eq_false h))
        show RP 55 _ 14 [(0, .int a), (1, .int 0), (2, .int 5)] [] _
        refine RP_done 4 (fun n => rfl) ?_
        refine Or.inr ⟨0, rfl, ?_⟩
        show RP 56 _ 6 [(0, .int a)] [.int 0] _
        refine RP_done 3 (fun n => rfl) ?_
        refine Or.inr ⟨0, rfl, ?_⟩
        show RP 59 _ 274 [(0, .int 8), (1, .int a), (2, .int b), (3, .int c), (4, .int d)] [.int 0] _
        refine RP_done 5 (fun n => rfl) ?_
        exact ⟨rfl, rfl⟩
      · have h201 := of_decide_eq_false hh
        have h202 : a.toInt < 6 := xj_nle h201
        show RP 22 _ 10 [(0, .int a)] [] _
        refine RP_done 5 (fun n => rfl) ?_
        refine Or.inr ⟨1, rfl, ?_⟩
        show RP 25 _ 275 [(0, .int 8), (1, .int a), (2, .int b), (3, .int c), (4, .int d)] [.int 1] _
        refine RP_step (pc1 := 279) (L1 := [(0, .int 8), (1, .int a), (2, .int b), (3, .int c), (4, .int d)]) (S1 := [.int b]) 2 0 (fun n => rfl) ?_
        refine RP_cond (decide (b ≠ 0)) (fun n => rfl) (fun hh => ?_) (fun hh => ?_)
        · have h203 := of_decide_eq_true hh
          show RP 25 _ 295 [(0, .int 8), (1, .int a), (2, .int b), (3, .int c), (4, .int d)] [] _
          refine RP_done 4 (fun n => rfl) ?_
          refine ⟨Or.inl rfl, rfl, ?_⟩
          show RP 59 _ 0 [(0, .int 8), (1, .int a), (2, .int b), (3, .int c), (4, .int d)] [] _
          refine RP_step (pc1 := 271) (L1 := [(0, .int 8), (1, .int a), (2, .int b), (3, .int c), (4, .int d)]) (S1 := [.int a]) 3 0 (fun n => rfl) ?_
          refine RP_call 56 [.int a] (fun n => rfl) ?_
          show RP 56 _ 0 [(0, .int a)] [] _
          refine RP_step (pc1 := 3) (L1 := [(0, .int a)]) (S1 := [.int 5, .int 0, .int a]) 3 0 (fun n => rfl) ?_
          refine RP_call 55 [.int a, .int 0, .int 5] (fun n => rfl) ?_
          show RP 55 _ 0 [(0, .int a), (1, .int 0), (2, .int 5)] [] _
          refine RP_step (pc1 := 2) (L1 := [(0, .int a), (1, .int 0), (2, .int 5)]) (S1 := [.int 0, .int a]) 2 0 (fun n => rfl) ?_
          refine RP_cond (decide (a < 0)) (fun n => rfl) (fun h => absurd (of_decide_eq_true h) (xi_nlt (x := a) (y := 0) (show 0 ≤ a.toInt by omega))) (fun _ => ?_)
          show RP 55 _ 5 [(0, .int a), (1, .int 0), (2, .int 5)] [] _
          refine RP_step (pc1 := 7) (L1 := [(0, .int a), (1, .int 0), (2, .int 5)]) (S1 := [.int 5, .int a]) 2 0 (fun n => rfl) ?_
          refine RP_cond (decide (5 < a)) (fun n => rfl) (fun h => absurd (of_decide_eq_true h) (xi_nlt (x := 5) (y := a) (show a.toInt ≤ 5 by omega))) (fun _ => ?_)
          show RP 55 _ 10 [(0, .int a), (1, .int 0), (2, .int 5)] [] _
          refine RP_done 5 (fun n => rfl) ?_
          refine Or.inr ⟨1, rfl, ?_⟩
          show RP 56 _ 6 [(0, .int a)] [.int 1] _
          refine RP_done 3 (fun n => rfl) ?_
          refine Or.inr ⟨1, rfl, ?_⟩
          show RP 59 _ 274 [(0, .int 8), (1, .int a), (2, .int b), (3, .int c), (4, .int d)] [.int 1] _
          refine RP_step (pc1 := 278) (L1 := [(0, .int 8), (1, .int a), (2, .int b), (3, .int c), (4, .int d)]) (S1 := [.int b]) 2 0 (fun n => rfl) ?_
          refine RP_cond (decide (b ≠ 0)) (fun n => rfl) (fun _ => ?_) (fun h => absurd (by assumption) (of_decide_eq_false h))
          show RP 59 _ 294 [(0, .int 8), (1, .int a), (2, .int b), (3, .int c), (4, .int d)] [] _
          refine RP_done 4 (fun n => rfl) ?_
          exact ⟨rfl, rfl⟩
        · have h204 := of_decide_eq_false hh
          replace h204 := Decidable.of_not_not h204
          clear hh
          subst h204
          show RP 25 _ 282 [(0, .int 8), (1, .int a), (2, .int 0), (3, .int c), (4, .int d)] [] _
          refine RP_step (pc1 := 283) (L1 := [(0, .int 8), (1, .int a), (2, .int 0), (3, .int c), (4, .int d)]) (S1 := [.int c]) 1 0 (fun n => rfl) ?_
          refine RP_cond (decide (c ≠ 0)) (fun n => rfl) (fun hh => ?_) (fun hh => ?_)
          · have h205 := of_decide_eq_true hh
            show RP 25 _ 295 [(0, .int 8), (1, .int a), (2, .int 0), (3, .int c), (4, .int d)] [] _
            refine RP_done 4 (fun n => rfl) ?_
            refine ⟨Or.inl rfl, rfl, ?_⟩
            show RP 59 _ 0 [(0, .int 8), (1, .int a), (2, .int 0), (3, .int c), (4, .int d)] [] _
            refine RP_step (pc1 := 271) (L1 := [(0, .int 8), (1, .int a), (2, .int 0), (3, .int c), (4, .int d)]) (S1 := [.int a]) 3 0 (fun n => rfl) ?_
            refine RP_call 56 [.int a] (fun n => rfl) ?_
            show RP 56 _ 0 [(0, .int a)] [] _
            refine RP_step (pc1 := 3) (L1 := [(0, .int a)]) (S1 := [.int 5, .int 0, .int a]) 3 0 (fun n => rfl) ?_
            refine RP_call 55 [.int a, .int 0, .int 5] (fun n => rfl) ?_
            show RP 55 _ 0 [(0, .int a), (1, .int 0), (2, .int 5)] [] _
            refine RP_step (pc1 := 2) (L1 := [(0, .int a), (1, .int 0), (2, .int 5)]) (S1 := [.int 0, .int a]) 2 0 (fun n => rfl) ?_
            refine RP_cond (decide (a < 0)) (fun n => rfl) (fun h => absurd (of_decide_eq_true h) (xi_nlt (x := a) (y := 0) (show 0 ≤ a.toInt by omega))) (fun _ => ?_)
            show RP 55 _ 5 [(0, .int a), (1, .int 0), (2, .int 5)] [] _
            refine RP_step (pc1 := 7) (L1 := [(0, .int a), (1, .int 0), (2, .int 5)]) (S1 := [.int 5, .int a]) 2 0 (fun n => rfl) ?_
            refine RP_cond (decide (5 < a)) (fun n => rfl) (fun h => absurd (of_decide_eq_true h) (xi_nlt (x := 5) (y := a) (show a.toInt ≤ 5 by omega))) (fun _ => ?_)
            show RP 55 _ 10 [(0, .int a), (1, .int 0), (2, .int 5)] [] _
            refine RP_done 5 (fun n => rfl) ?_
            refine Or.inr ⟨1, rfl, ?_⟩
            show RP 56 _ 6 [(0, .int a)] [.int 1] _
            refine RP_done 3 (fun n => rfl) ?_
            refine Or.inr ⟨1, rfl, ?_⟩
            show RP 59 _ 274 [(0, .int 8), (1, .int a), (2, .int 0), (3, .int c), (4, .int d)] [.int 1] _
            refine RP_step (pc1 := 282) (L1 := [(0, .int 8), (1, .int a), (2, .int 0), (3, .int c), (4, .int d)]) (S1 := [.int c]) 4 0 (fun n => rfl) ?_
            refine RP_cond (decide (c ≠ 0)) (fun n => rfl) (fun _ => ?_) (fun h => absurd (by assumption) (of_decide_eq_false h))
            show RP 59 _ 294 [(0, .int 8), (1, .int a), (2, .int 0), (3, .int c), (4, .int d)] [] _
            refine RP_done 4 (fun n => rfl) ?_
            exact ⟨rfl, rfl⟩
          · have h206 := of_decide_eq_false hh
            replace h206 := Decidable.of_not_not h206
            clear hh
            subst h206
            show RP 25 _ 286 [(0, .int 8), (1, .int a), (2, .int 0), (3, .int 0), (4, .int d)] [] _
            refine RP_step (pc1 := 288) (L1 := [(0, .int 8), (1, .int a), (2, .int 0), (3, .int 0), (4, .int d)]) (S1 := [.int d]) 1 0 (fun n => rfl) ?_
            refine RP_cond (decide (d ≠ 0)) (fun n => rfl) (fun hh => ?_) (fun hh => ?_)
            · have h207 := of_decide_eq_true hh
              show RP 25 _ 295 [(0, .int 8), (1, .int a), (2, .int 0), (3, .int 0), (4, .int d)] [] _
              refine RP_done 4 (fun n => rfl) ?_
              refine ⟨Or.inl rfl, rfl, ?_⟩
              show RP 59 _ 0 [(0, .int 8), (1, .int a), (2, .int 0), (3, .int 0), (4, .int d)] [] _
              refine RP_step (pc1 := 271) (L1 := [(0, .int 8), (1, .int a), (2, .int 0), (3, .int 0), (4, .int d)]) (S1 := [.int a]) 3 0 (fun n => rfl) ?_
              refine RP_call 56 [.int a] (fun n => rfl) ?_
              show RP 56 _ 0 [(0, .int a)] [] _
              refine RP_step (pc1 := 3) (L1 := [(0, .int a)]) (S1 := [.int 5, .int 0, .int a]) 3 0 (fun n => rfl) ?_
              refine RP_call 55 [.int a, .int 0, .int 5] (fun n => rfl) ?_
              show RP 55 _ 0 [(0, .int a), (1, .int 0), (2, .int 5)] [] _
              refine RP_step (pc1 := 2) (L1 := [(0, .int a), (1, .int 0), (2, .int 5)]) (S1 := [.int 0, .int a]) 2 0 (fun n => rfl) ?_
              refine RP_cond (decide (a < 0)) (fun n => rfl) (fun h => absurd (of_decide_eq_true h) (xi_nlt (x := a) (y := 0) (show 0 ≤ a.toInt by omega))) (fun _ => ?_)
              show RP 55 _ 5 [(0, .int a), (1, .int 0), (2, .int 5)] [] _
              refine RP_step (pc1 := 7) (L1 := [(0, .int a), (1, .int 0), (2, .int 5)]) (S1 := [.int 5, .int a]) 2 0 (fun n => rfl) ?_
              refine RP_cond (decide (5 < a)) (fun n => rfl) (fun h => absurd (of_decide_eq_true h) (xi_nlt (x := 5) (y := a) (show a.toInt ≤ 5 by omega))) (fun _ => ?_)
              show RP 55 _ 10 [(0, .int a), (1, .int 0), (2, .int 5)] [] _
              refine RP_done 5 (fun n => rfl) ?_
              refine Or.inr ⟨1, rfl, ?_⟩
              show RP 56 _ 6 [(0, .int a)] [.int 1] _
              refine RP_done 3 (fun n => rfl) ?_
              refine Or.inr ⟨1, rfl, ?_⟩
              show RP 59 _ 274 [(0, .int 8), (1, .int a), (2, .int 0), (3, .int 0), (4, .int d)] [.int 1] _
              refine RP_step (pc1 := 287) (L1 := [(0, .int 8), (1, .int a), (2, .int 0), (3, .int 0), (4, .int d)]) (S1 := [.int d]) 6 0 (fun n => rfl) ?_
              refine RP_cond (decide (d ≠ 0)) (fun n => rfl) (fun _ => ?_) (fun h => absurd (by assumption) (of_decide_eq_false h))
              show RP 59 _ 294 [(0, .int 8), (1, .int a), (2, .int 0), (3, .int 0), (4, .int d)] [] _
              refine RP_done 4 (fun n => rfl) ?_
              exact ⟨rfl, rfl⟩
            · have h208 := of_decide_eq_false hh
              replace h208 := Decidable.of_not_not h208
              clear hh
              subst h208
              show RP 25 _ 291 [(0, .int 8), (1, .int a), (2, .int 0), (3, .int 0), (4, .int 0)] [] _
              refine RP_done 5 (fun n => rfl) ?_
              refine ⟨Or.inr rfl, rfl, ?_⟩
              show RP 59 _ 0 [(0, .int 8), (1, .int a), (2, .int 0), (3, .int 0), (4, .int 0)] [] _
              refine RP_step (pc1 := 271) (L1 := [(0, .int 8), (1, .int a), (2, .int 0), (3, .int 0), (4, .int 0)]) (S1 := [.int a]) 3 0 (fun n => rfl) ?_
              refine RP_call 56 [.int a] (fun n => rfl) ?_
              show RP 56 _ 0 [(0, .int a)] [] _
              refine RP_step (pc1 := 3) (L1 := [(0, .int a)]) (S1 := [.int 5, .int 0, .int a]) 3 0 (fun n => rfl) ?_
              refine RP_call 55 [.int a, .int 0, .int 5] (fun n => rfl) ?_
              show RP 55 _ 0 [(0, .int a), (1, .int 0), (2, .int 5)] [] _
              refine RP_step (pc1 := 2) (L1 := [(0, .int a), (1, .int 0), (2, .int 5)]) (S1 := [.int 0, .int a]) 2 0 (fun n => rfl) ?_
              refine RP_cond (decide (a < 0)) (fun n => rfl) (fun h => absurd (of_decide_eq_true h) (xi_nlt (x := a) (y := 0) (show 0 ≤ a.toInt by omega))) (fun _ => ?_)
              show RP 55 _ 5 [(0, .int a), (1, .int 0), (2, .int 5)] [] _
              refine RP_step (pc1 := 7) (L1 := [(0, .int a), (1, .int 0), (2, .int 5)]) (S1 := [.int 5, .int a]) 2 0 (fun n => rfl) ?_
              refine RP_cond (decide (5 < a)) (fun n => rfl) (fun h => absurd (of_decide_eq_true h) (xi_nlt (x := 5) (y := a) (show a.toInt ≤ 5 by omega))) (fun _ => ?_)
              show RP 55 _ 10 [(0, .int a), (1, .int 0), (2, .int 5)] [] _
              refine RP_done 5 (fun n => rfl) ?_
              refine Or.inr ⟨1, rfl, ?_⟩
              show RP 56 _ 6 [(0, .int a)] [.int 1] _
              refine RP_done 3 (fun n => rfl) ?_
              refine Or.inr ⟨1, rfl, ?_⟩
              show RP 59 _ 274 [(0, .int 8), (1, .int a), (2, .int 0), (3, .int 0), (4, .int 0)] [.int 1] _
              refine RP_done 12 (fun n => rfl) ?_
              exact ⟨rfl, rfl⟩
  · skip
    show RP 25 _ 0 [(0, .int 9), (1, .int a), (2, .int b), (3, .int c), (4, .int d)] [] _
    refine RP_step (pc1 := 298) (L1 := [(0, .int 9), (1, .int a), (2, .int b), (3, .int c), (4, .int d)]) (S1 := [.int a]) 3 0 (fun n => rfl) ?_
    refine RP_cond (decide (a ≠ 0)) (fun n => rfl) (fun hh => ?_) (fun hh => ?_)
    · have h209 := of_decide_eq_true hh
      show RP 25 _ 318 [(0, .int 9), (1, .int a), (2, .int b), (3, .int c), (4, .int d)] [] _
      refine RP_done 4 (fun n => rfl) ?_
      refine ⟨Or.inl rfl, rfl, ?_⟩
      show RP 59 _ 0 [(0, .int 9), (1, .int a), (2, .int b), (3, .int c), (4, .int d)] [] _
      refine RP_step (pc1 := 297) (L1 := [(0, .int 9), (1, .int a), (2, .int b), (3, .int c), (4, .int d)]) (S1 := [.int a]) 3 0 (fun n => rfl) ?_
      refine RP_cond (decide (a ≠ 0)) (fun n => rfl) (fun _ => ?_) (fun h => absurd (by assumption) (of_decide_eq_false h))
      show RP 59 _ 317 [(0, .int 9), (1, .int a), (2, .int b), (3, .int c), (4, .int d)] [] _
      refine RP_done 4 (fun n => rfl) ?_
      exact ⟨rfl, rfl⟩
    · have h210 := of_decide_eq_false hh
      replace h210 := Decidable.of_not_not h210
      clear hh
      subst h210
      show RP 25 _ 301 [(0, .int 9), (1, .int 0), (2, .int b), (3, .int c), (4, .int d)] [] _
      refine RP_step (pc1 := 302) (L1 := [(0, .int 9), (1, .int 0), (2, .int b), (3, .int c), (4, .int d)]) (S1 := [.int b]) 1 0 (fun n => rfl) ?_
      refine RP_cond (decide (b ≠ 0)) (fun n => rfl) (fun hh => ?_) (fun hh => ?_)
      · have h211 := of_decide_eq_true hh
        show RP 25 _ 318 [(0, .int 9), (1, .int 0), (2, .int b), (3, .int c), (4, .int d)] [] _
        refine RP_done 4 (fun n => rfl) ?_
        refine ⟨Or.inl rfl, rfl, ?_⟩
        show RP 59 _ 0 [(0, .int 9), (1, .int 0), (2, .int b), (3, .int c), (4, .int d)] [] _
        refine RP_step (pc1 := 301) (L1 := [(0, .int 9), (1, .int 0), (2, .int b), (3, .int c), (4, .int d)]) (S1 := [.int b]) 5 0 (fun n => rfl) ?_
        refine RP_cond (decide (b ≠ 0)) (fun n => rfl) (fun _ => ?_) (fun h => absurd (by assumption) (of_decide_eq_false h))
        show RP 59 _ 317 [(0, .int 9), (1, .int 0), (2, .int b), (3, .int c), (4, .int d)] [] _
        refine RP_done 4 (fun n => rfl) ?_
        exact ⟨rfl, rfl⟩
      · have h212 := of_decide_eq_false hh
        replace h212 := Decidable.of_not_not h212
        clear hh
        subst h212
        show RP 25 _ 305 [(0, .int 9), (1, .int 0), (2, .int 0), (3, .int c), (4, .int d)] [] _
        refine RP_step (pc1 := 306) (L1 := [(0, .int 9), (1, .int 0), (2, .int 0), (3, .int c), (4, .int d)]) (S1 := [.int c]) 1 0 (fun n => rfl) ?_
        refine RP_cond (decide (c ≠ 0)) (fun n => rfl) (fun hh => ?_) (fun hh => ?_)
        · have h213 := of_decide_eq_true hh
          show RP 25 _ 318 [(0, .int 9), (1, .int 0), (2, .int 0), (3, .int c), (4, .int d)] [] _
          refine RP_done 4 (fun n => rfl) ?_
          refine ⟨Or.inl rfl, rfl, ?_⟩
          show RP 59 _ 0 [(0, .int 9), (1, .int 0), (2, .int 0), (3, .int c), (4, .int d)] [] _
          refine RP_step (pc1 := 305) (L1 := [(0, .int 9), (1, .int 0), (2, .int 0), (3, .int c), (4, .int d)]) (S1 := [.int c]) 7 0 (fun n => rfl) ?_
          refine RP_cond (decide (c ≠ 0)) (fun n => rfl) (fun _ => ?_) (fun h => absurd (by assumption) (of_decide_eq_false h))
          show RP 59 _ 317 [(0, .int 9), (1, .int 0), (2, .int 0), (3, .int c), (4, .int d)] [] _
          refine RP_done 4 (fun n => rfl) ?_
          exact ⟨rfl, rfl⟩
        · have h214 := of_decide_eq_false hh
          replace h214 := Decidable.of_not_not h214
          clear hh
          subst h214
          show RP 25 _ 309 [(0, .int 9), (1, .int 0), (2, .int 0), (3, .int 0), (4, .int d)] [] _
          refine RP_step (pc1 := 311) (L1 := [(0, .int 9), (1, .int 0), (2, .int 0), (3, .int 0), (4, .int d)]) (S1 := [.int d]) 1 0 (fun n => rfl) ?_
          refine RP_cond (decide (d ≠ 0)) (fun n => rfl) (fun hh => ?_) (fun hh => ?_)
          · have h215 := of_decide_eq_true hh
            show RP 25 _ 318 [(0, .int 9), (1, .int 0), (2, .int 0), (3, .int 0), (4, .int d)] [] _
            refine RP_done 4 (fun n => rfl) ?_
            refine ⟨Or.inl rfl, rfl, ?_⟩
            show RP 59 _ 0 [(0, .int 9), (1, .int 0), (2, .int 0), (3, .int 0), (4, .int d)] [] _
            refine RP_step (pc1 := 310) (L1 := [(0, .int 9), (1, .int 0), (2, .int 0), (3, .int 0), (4, .int d)]) (S1 := [.int d]) 9 0 (fun n => rfl) ?_
            refine RP_cond (decide (d ≠ 0)) (fun n => rfl) (fun _ => ?_) (fun h => absurd (by assumption) (of_decide_eq_false h))
            show RP 59 _ 317 [(0, .int 9), (1, .int 0), (2, .int 0), (3, .int 0), (4, .int d)] [] _
            refine RP_done 4 (fun n => rfl) ?_
            exact ⟨rfl, rfl⟩
          · have h216 := of_decide_eq_false hh
            replace h216 := Decidable.of_not_not h216
            clear hh
            subst h216
            show RP 25 _ 314 [(0, .int 9), (1, .int 0), (2, .int 0), (3, .int 0), (4, .int 0)] [] _
            refine RP_done 5 (fun n => rfl) ?_
            refine ⟨Or.inr rfl, rfl, ?_⟩
            show RP 59 _ 0 [(0, .int 9), (1, .int 0), (2, .int 0), (3, .int 0), (4, .int 0)] [] _
            refine RP_done 15 (fun n => rfl) ?_
            exact ⟨rfl, rfl⟩
  · skip
    show RP 25 _ 0 [(0, .int 10), (1, .int a), (2, .int b), (3, .int c), (4, .int d)] [] _
    refine RP_step (pc1 := 322) (L1 := [(0, .int 10), (1, .int a), (2, .int b), (3, .int c), (4, .int d)]) (S1 := [.int b, .int a]) 4 0 (fun n => rfl) ?_
    refine RP_call 24 [.int a, .int b] (fun n => rfl) ?_
    show RP 24 _ 0 [(0, .int a), (1, .int b)] [] _
    refine RP_step (pc1 := 1) (L1 := [(0, .int a), (1, .int b)]) (S1 := [.int a]) 1 0 (fun n => rfl) ?_
    refine RP_call 23 [.int a] (fun n => rfl) ?_
    show RP 23 _ 0 [(0, .int a)] [] _
    refine RP_step (pc1 := 1) (L1 := [(0, .int a)]) (S1 := [.int a]) 1 0 (fun n => rfl) ?_
    refine RP_cond (decide (a < 0)) (fun n => rfl) (fun hh => ?_) (fun hh => ?_)
    · have h217 := of_decide_eq_true hh
      have h218 : a.toInt < 0 := xj_lt h217
      show RP 23 _ 14 [(0, .int a)] [] _
      refine RP_done 4 (fun n => rfl) ?_
      refine Or.inr ⟨0, rfl, ?_⟩
      show RP 24 _ 4 [(0, .int a), (1, .int b)] [.int 0] _
      refine RP_done 5 (fun n => rfl) ?_
      refine Or.inr ⟨0, rfl, ?_⟩
      show RP 25 _ 325 [(0, .int 10), (1, .int a), (2, .int b), (3, .int c), (4, .int d)] [.int 0] _
      refine RP_done 5 (fun n => rfl) ?_
      refine ⟨Or.inl rfl, rfl, ?_⟩
      show RP 59 _ 0 [(0, .int 10), (1, .int a), (2, .int b), (3, .int c), (4, .int d)] [] _
      refine RP_step (pc1 := 321) (L1 := [(0, .int 10), (1, .int a), (2, .int b), (3, .int c), (4, .int d)]) (S1 := [.int b, .int a]) 4 0 (fun n => rfl) ?_
      refine RP_call 58 [.int a, .int b] (fun n => rfl) ?_
      show RP 58 _ 0 [(0, .int a), (1, .int b)] [] _
      refine RP_step (pc1 := 1) (L1 := [(0, .int a), (1, .int b)]) (S1 := [.int a]) 1 0 (fun n => rfl) ?_
      refine RP_call 57 [.int a] (fun n => rfl) ?_
      show RP 57 _ 0 [(0, .int a)] [] _
      refine RP_step (pc1 := 4) (L1 := [(0, .int a)]) (S1 := [.int 15, .int 0, .int a]) 3 0 (fun n => rfl) ?_
      refine RP_call 55 [.int a, .int 0, .int 15] (fun n => rfl) ?_
      show RP 55 _ 0 [(0, .int a), (1, .int 0), (2, .int 15)] [] _
      refine RP_step (pc1 := 2) (L1 := [(0, .int a), (1, .int 0), (2, .int 15)]) (S1 := [.int 0, .int a]) 2 0 (fun n => rfl) ?_
      refine RP_cond (decide (a < 0)) (fun n => rfl) (fun _ => ?_) (fun h => absurd (xi_lt (x := a) (y := 0) (show a.toInt < 0 by omega)) (of_decide_eq_false h))
      show RP 55 _ 14 [(0, .int a), (1, .int 0), (2, .int 15)] [] _
      refine RP_done 4 (fun n => rfl) ?_
      refine Or.inr ⟨0, rfl, ?_⟩
      show RP 57 _ 7 [(0, .int a)] [.int 0] _
      refine RP_done 3 (fun n => rfl) ?_
      refine Or.inr ⟨0, rfl, ?_⟩
      show RP 58 _ 4 [(0, .int a), (1, .int b)] [.int 0] _
      refine RP_done 5 (fun n => rfl) ?_
      refine Or.inr ⟨0, rfl, ?_⟩
      show RP 59 _ 324 [(0, .int 10), (1, .int a), (2, .int b), (3, .int c), (4, .int d)] [.int 0] _
      refine RP_done 5 (fun n => rfl) ?_
      exact ⟨rfl, rfl⟩
    · have h219 := of_decide_eq_false hh
      have h220 : 0 ≤ a.toInt := xj_nlt h219
      show RP 23 _ 4 [(0, .int a)] [] _
      refine RP_step (pc1 := 7) (L1 := [(0, .int a)]) (S1 := [.int 16, .int a]) 2 0 (fun n => rfl) ?_
      refine RP_cond (decide (16 ≤ a)) (fun n => rfl) (fun hh => ?_) (fun hh => ?_)
      · have h221 := of_decide_eq_true hh
        have h222 : 16 ≤ a.toInt := xj_le h221
        show RP 23 _ 14 [(0, .int a)] [] _
        refine RP_done 4 (fun n => rfl) ?_
        refine Or.inr ⟨0, rfl, ?_⟩
        show RP 24 _ 4 [(0, .int a), (1, .int b)] [.int 0] _
        refine RP_done 5 (fun n => rfl) ?_
        refine Or.inr ⟨0, rfl, ?_⟩
        show RP 25 _ 325 [(0, .int 10), (1, .int a), (2, .int b), (3, .int c), (4, .int d)] [.int 0] _
        refine RP_done 5 (fun n => rfl) ?_
        refine ⟨Or.inl rfl, rfl, ?_⟩
        show RP 59 _ 0 [(0, .int 10), (1, .int a), (2, .int b), (3, .int c), (4, .int d)] [] _
        refine RP_step (pc1 := 321) (L1 := [(0, .int 10), (1, .int a), (2, .int b), (3, .int c), (4, .int d)]) (S1 := [.int b, .int a]) 4 0 (fun n => rfl) ?_
        refine RP_call 58 [.int a, .int b] (fun n => rfl) ?_
        show RP 58 _ 0 [(0, .int a), (1, .int b)] [] _
        refine RP_step (pc1 := 1) (L1 := [(0, .int a), (1, .int b)]) (S1 := [.int a]) 1 0 (fun n => rfl) ?_
        refine RP_call 57 [.int a] (fun n => rfl) ?_
        show RP 57 _ 0 [(0, .int a)] [] _
        refine RP_step (pc1 := 4) (L1 := [(0, .int a)]) (S1 := [.int 15, .int 0, .int a]) 3 0 (fun n => rfl) ?_
        refine RP_call 55 [.int a, .int 0, .int 15] (fun n => rfl) ?_
        show RP 55 _ 0 [(0, .int a), (1, .int 0), (2, .int 15)] [] _
        refine RP_step (pc1 := 2) (L1 := [(0, .int a), (1, .int 0), (2, .int 15)]) (S1 := [.int 0, .int a]) 2 0 (fun n => rfl) ?_
        refine RP_cond (decide (a < 0)) (fun n => rfl) (fun h => absurd (of_decide_eq_true h) (xi_nlt (x := a) (y := 0) (show 0 ≤ a.toInt by omega))) (fun _ => ?_)
        show RP 55 _ 5 [(0, .int a), (1, .int 0), (2, .int 15)] [] _
        refine RP_step (pc1 := 7) (L1 := [(0, .int a), (1, .int 0), (2, .int 15)]) (S1 := [.int 15, .int a]) 2 0 (fun n => rfl) ?_
        refine RP_cond (decide (15 < a)) (fun n => rfl) (fun _ => ?_) (fun h => absurd (xi_lt (x := 15) (y := a) (show 15 < a.toInt by omega)) (of_decide_eq_false h))
        show RP 55 _ 14 [(0, .int a), (1, .int 0), (2, .int 15)] [] _
        refine RP_done 4 (fun n => rfl) ?_
        refine Or.inr ⟨0, rfl, ?_⟩
        show RP 57 _ 7 [(0, .int a)] [.int 0] _
        refine RP_done 3 (fun n => rfl) ?_
        refine Or.inr ⟨0, rfl, ?_⟩
        show RP 58 _ 4 [(0, .int a), (1, .int b)] [.int 0] _
        refine RP_done 5 (fun n => rfl) ?_
        refine Or.inr ⟨0, rfl, ?_⟩
        show RP 59 _ 324 [(0, .int 10), (1, .int a), (2, .int b), (3, .int c), (4, .int d)] [.int 0] _
        refine RP_done 5 (fun n => rfl) ?_
        exact ⟨rfl, rfl⟩
      · have h223 := of_decide_eq_false hh
        have h224 : a.toInt < 16 := xj_nle h223
        show RP 23 _ 10 [(0, .int a)] [] _
        refine RP_done 5 (fun n => rfl) ?_
        refine Or.inr ⟨1, rfl, ?_⟩
        show RP 24 _ 4 [(0, .int a), (1, .int b)] [.int 1] _
        refine RP_step (pc1 := 9) (L1 := [(0, .int a), (1, .int b)]) (S1 := [.int 1, .int b]) 3 0 (fun n => rfl) ?_
        refine RP_cond (decide (b < 1)) (fun n => rfl) (fun hh => ?_) (fun hh => ?_)
        · have h225 := of_decide_eq_true hh
          have h226 : b.toInt < 1 := xj_lt h225
          show RP 24 _ 30 [(0, .int a), (1, .int b)] [] _
          refine RP_done 4 (fun n => rfl) ?_
          refine Or.inr ⟨0, rfl, ?_⟩
          show RP 25 _ 325 [(0, .int 10), (1, .int a), (2, .int b), (3, .int c), (4, .int d)] [.int 0] _
          refine RP_done 5 (fun n => rfl) ?_
          refine ⟨Or.inl rfl, rfl, ?_⟩
          show RP 59 _ 0 [(0, .int 10), (1, .int a), (2, .int b), (3, .int c), (4, .int d)] [] _
          refine RP_step (pc1 := 321) (L1 := [(0, .int 10), (1, .int a), (2, .int b), (3, .int c), (4, .int d)]) (S1 := [.int b, .int a]) 4 0 (fun n => rfl) ?_
          refine RP_call 58 [.int a, .int b] (fun n => rfl) ?_
          show RP 58 _ 0 [(0, .int a), (1, .int b)] [] _
          refine RP_step (pc1 := 1) (L1 := [(0, .int a), (1, .int b)]) (S1 := [.int a]) 1 0 (fun n => rfl) ?_
          refine RP_call 57 [.int a] (fun n => rfl) ?_
          show RP 57 _ 0 [(0, .int a)] [] _
          refine RP_step (pc1 := 4) (L1 := [(0, .int a)]) (S1 := [.int 15, .int 0, .int a]) 3 0 (fun n => rfl) ?_
          refine RP_call 55 [.int a, .int 0, .int 15] (fun n => rfl) ?_
          show RP 55 _ 0 [(0, .int a), (1, .int 0), (2, .int 15)] [] _
          refine RP_step (pc1 := 2) (L1 := [(0, .int a), (1, .int 0), (2, .int 15)]) (S1 := [.int 0, .int a]) 2 0 (fun n => rfl) ?_
          refine RP_cond (decide (a < 0)) (fun n => rfl) (fun h => absurd (of_decide_eq_true h) (xi_nlt (x := a) (y := 0) (show 0 ≤ a.toInt by omega))) (fun _ => ?_)
          show RP 55 _ 5 [(0, .int a), (1, .int 0), (2, .int 15)] [] _
          refine RP_step (pc1 := 7) (L1 := [(0, .int a), (1, .int 0), (2, .int 15)]) (S1 := [.int 15, .int a]) 2 0 (fun n => rfl) ?_
          refine RP_cond (decide (15 < a)) (fun n => rfl) (fun h => absurd (of_decide_eq_true h) (xi_nlt (x := 15) (y := a) (show a.toInt ≤ 15 by omega))) (fun _ => ?_)
          show RP 55 _ 10 [(0, .int a), (1, .int 0), (2, .int 15)] [] _
          refine RP_done 5 (fun n => rfl) ?_
          refine Or.inr ⟨1, rfl, ?_⟩
          show RP 57 _ 7 [(0, .int a)] [.int 1] _
          refine RP_done 3 (fun n => rfl) ?_
          refine Or.inr ⟨1, rfl, ?_⟩
          show RP 58 _ 4 [(0, .int a), (1, .int b)] [.int 1] _
          refine RP_step (pc1 := 11) (L1 := [(0, .int a), (1, .int b)]) (S1 := [.int 8, .int 1, .int b]) 4 0 (fun n => rfl) ?_
          refine RP_call 55 [.int b, .int 1, .int 8] (fun n => rfl) ?_
          show RP 55 _ 0 [(0, .int b), (1, .int 1), (2, .int 8)] [] _
          refine RP_step (pc1 := 2) (L1 := [(0, .int b), (1, .int 1), (2, .int 8)]) (S1 := [.int 1, .int b]) 2 0 (fun n => rfl) ?_
          refine RP_cond (decide (b < 1)) (fun n => rfl) (fun _ => ?_) (fun h => absurd (xi_lt (x := b) (y := 1) (show b.toInt < 1 by omega)) (of_decide_eq_false h))
          show RP 55 _ 14 [(0, .int b), (1, .int 1), (2, .int 8)] [] _
          refine RP_done 4 (fun n => rfl) ?_
          refine Or.inr ⟨0, rfl, ?_⟩
          show RP 58 _ 14 [(0, .int a), (1, .int b)] [.int 0] _
          refine RP_done 5 (fun n => rfl) ?_
          refine Or.inr ⟨0, rfl, ?_⟩
          show RP 59 _ 324 [(0, .int 10), (1, .int a), (2, .int b), (3, .int c), (4, .int d)] [.int 0] _
          refine RP_done 5 (fun n => rfl) ?_
          exact ⟨rfl, rfl⟩
        · have h227 := of_decide_eq_false hh
          have h228 : 1 ≤ b.toInt := xj_nlt h227
          show RP 24 _ 12 [(0, .int a), (1, .int b)] [] _
          refine RP_step (pc1 := 15) (L1 := [(0, .int a), (1, .int b)]) (S1 := [.int 8, .int b]) 2 0 (fun n => rfl) ?_
          refine RP_cond (decide (8 < b)) (fun n => rfl) (fun hh => ?_) (fun hh => ?_)
          · have h229 := of_decide_eq_true hh
            have h230 : 8 < b.toInt := xj_lt h229
            show RP 24 _ 30 [(0, .int a), (1, .int b)] [] _
            refine RP_done 4 (fun n => rfl) ?_
            refine Or.inr ⟨0, rfl, ?_⟩
            show RP 25 _ 325 [(0, .int 10), (1, .int a), (2, .int b), (3, .int c), (4, .int d)] [.int 0] _
            refine RP_done 5 (fun n => rfl) ?_
            refine ⟨Or.inl rfl, rfl, ?_⟩
            show RP 59 _ 0 [(0, .int 10), (1, .int a), (2, .int b), (3, .int c), (4, .int d)] [] _
            refine RP_step (pc1 := 321) (L1 := [(0, .int 10), (1, .int a), (2, .int b), (3, .int c), (4, .int d)]) (S1 := [.int b, .int a]) 4 0 (fun n => rfl) ?_
            refine RP_call 58 [.int a, .int b] (fun n => rfl) ?_
            show RP 58 _ 0 [(0, .int a), (1, .int b)] [] _
            refine RP_step (pc1 := 1) (L1 := [(0, .int a), (1, .int b)]) (S1 := [.int a]) 1 0 (fun n => rfl) ?_
            refine RP_call 57 [.int a] (fun n => rfl) ?_
            show RP 57 _ 0 [(0, .int a)] [] _
            refine RP_step (pc1 := 4) (L1 := [(0, .int a)]) (S1 := [.int 15, .int 0, .int a]) 3 0 (fun n => rfl) ?_
            refine RP_call 55 [.int a, .int 0, .int 15] (fun n => rfl) ?_
            show RP 55 _ 0 [(0, .int a), (1, .int 0), (2, .int 15)] [] _
            refine RP_step (pc1 := 2) (L1 := [(0, .int a), (1, .int 0), (2, .int 15)]) (S1 := [.int 0, .int a]) 2 0 (fun n => rfl) ?_
            refine RP_cond (decide (a < 0)) (fun n => rfl) (fun h => absurd (of_decide_eq_true h) (xi_nlt (x := a) (y := 0) (show 0 ≤ a.toInt by omega))) (fun _ => ?_)
            show RP 55 _ 5 [(0, .int a), (1, .int 0), (2, .int 15)] [] _
            refine RP_step (pc1 := 7) (L1 := [(0, .int a), (1, .int 0), (2, .int 15)]) (S1 := [.int 15, .int a]) 2 0 (fun n => rfl) ?_
            refine RP_cond (decide (15 < a)) (fun n => rfl) (fun h => absurd (of_decide_eq_true h) (xi_nlt (x := 15) (y := a) (show a.toInt ≤ 15 by omega))) (fun _ => ?_)
            show RP 55 _ 10 [(0, .int a), (1, .int 0), (2, .int 15)] [] _
            refine RP_done 5 (fun n => rfl) ?_
            refine Or.inr ⟨1, rfl, ?_⟩
            show RP 57 _ 7 [(0, .int a)] [.int 1] _
            refine RP_done 3 (fun n => rfl) ?_
            refine Or.inr ⟨1, rfl, ?_⟩
            show RP 58 _ 4 [(0, .int a), (1, .int b)] [.int 1] _
            refine RP_step (pc1 := 11) (L1 := [(0, .int a), (1, .int b)]) (S1 := [.int 8, .int 1, .int b]) 4 0 (fun n => rfl) ?_
            refine RP_call 55 [.int b, .int 1, .int 8] (fun n => rfl) ?_
            show RP 55 _ 0 [(0, .int b), (1, .int 1), (2, .int 8)] [] _
            refine RP_step (pc1 := 2) (L1 := [(0, .int b), (1, .int 1), (2, .int 8)]) (S1 := [.int 1, .int b]) 2 0 (fun n => rfl) ?_
            refine RP_cond (decide (b < 1)) (fun n => rfl) (fun h => absurd (of_decide_eq_true h) (xi_nlt (x := b) (y := 1) (show 1 ≤ b.toInt by omega))) (fun _ => ?_)
            show RP 55 _ 5 [(0, .int b), (1, .int 1), (2, .int 8)] [] _
            refine RP_step (pc1 := 7) (L1 := [(0, .int b), (1, .int 1), (2, .int 8)]) (S1 := [.int 8, .int b]) 2 0 (fun n => rfl) ?_
            refine RP_cond (decide (8 < b)) (fun n => rfl) (fun _ => ?_) (fun h => absurd (xi_lt (x := 8) (y := b) (show 8 < b.toInt by omega)) (of_decide_eq_false h))
            show RP 55 _ 14 [(0, .int b), (1, .int 1), (2, .int 8)] [] _
            refine RP_done 4 (fun n => rfl) ?_
            refine Or.inr ⟨0, rfl, ?_⟩
            show RP 58 _ 14 [(0, .int a), (1, .int b)] [.int 0] _
            refine RP_done 5 (fun n => rfl) ?_
            refine Or.inr ⟨0, rfl, ?_⟩
            show RP 59 _ 324 [(0, .int 10), (1, .int a), (2, .int b), (3, .int c), (4, .int d)] [.int 0] _
            refine RP_done 5 (fun n => rfl) ?_
            exact ⟨rfl, rfl⟩
          · have h231 := of_decide_eq_false hh
            have h232 : b.toInt ≤ 8 := xj_nlt h231
            show RP 24 _ 18 [(0, .int a), (1, .int b)] [] _
            refine RP_step (pc1 := 20) (L1 := [(0, .int a), (1, .int b)]) (S1 := [.int b, .int a]) 2 0 (fun n => rfl) ?_
            refine RP_bin (fun x y => x + y) (fun n => rfl) ?_
            show RP 24 _ 21 [(0, .int a), (1, .int b)] [.int (a + b)] _
            refine RP_step (pc1 := 23) (L1 := [(0, .int a), (1, .int b)]) (S1 := [.int 16, .int (a + b)]) 1 0 (fun n => rfl) ?_
            refine RP_cond (decide (16 < (a + b))) (fun n => rfl) (fun hh => ?_) (fun hh => ?_)
            · have h233 := of_decide_eq_true hh
              have h234 : 16 < (a + b).toInt := xj_lt h233
              show RP 24 _ 30 [(0, .int a), (1, .int b)] [] _
              refine RP_done 4 (fun n => rfl) ?_
              refine Or.inr ⟨0, rfl, ?_⟩
              show RP 25 _ 325 [(0, .int 10), (1, .int a), (2, .int b), (3, .int c), (4, .int d)] [.int 0] _
              refine RP_done 5 (fun n => rfl) ?_
              refine ⟨Or.inl rfl, rfl, ?_⟩
              show RP 59 _ 0 [(0, .int 10), (1, .int a), (2, .int b), (3, .int c), (4, .int d)] [] _
              refine RP_step (pc1 := 321) (L1 := [(0, .int 10), (1, .int a), (2, .int b), (3, .int c), (4, .int d)]) (S1 := [.int b, .int a]) 4 0 (fun n => rfl) ?_
              refine RP_call 58 [.int a, .int b] (fun n => rfl) ?_
              show RP 58 _ 0 [(0, .int a), (1, .int b)] [] _
              refine RP_step (pc1 := 1) (L1 := [(0, .int a), (1, .int b)]) (S1 := [.int a]) 1 0 (fun n => rfl) ?_
              refine RP_call 57 [.int a] (fun n => rfl) ?_
              show RP 57 _ 0 [(0, .int a)] [] _
              refine RP_step (pc1 := 4) (L1 := [(0, .int a)]) (S1 := [.int 15, .int 0, .int a]) 3 0 (fun n => rfl) ?_
              refine RP_call 55 [.int a, .int 0, .int 15] (fun n => rfl) ?_
              show RP 55 _ 0 [(0, .int a), (1, .int 0), (2, .int 15)] [] _
              refine RP_step (pc1 := 2) (L1 := [(0, .int a), (1, .int 0), (2, .int 15)]) (S1 := [.int 0, .int a]) 2 0 (fun n => rfl) ?_
              refine RP_cond (decide (a < 0)) (fun n => rfl) (fun h => absurd (of_decide_eq_true h) (xi_nlt (x := a) (y := 0) (show 0 ≤ a.toInt by omega))) (fun _ => ?_)
              show RP 55 _ 5 [(0, .int a), (1, .int 0), (2, .int 15)] [] _
              refine RP_step (pc1 := 7) (L1 := [(0, .int a), (1, .int 0), (2, .int 15)]) (S1 := [.int 15, .int a]) 2 0 (fun n => rfl) ?_
              refine RP_cond (decide (15 < a)) (fun n => rfl) (fun h => absurd (of_decide_eq_true h) (xi_nlt (x := 15) (y := a) (show a.toInt ≤ 15 by omega))) (fun _ => ?_)
              show RP 55 _ 10 [(0, .int a), (1, .int 0), (2, .int 15)] [] _
              refine RP_done 5 (fun n => rfl) ?_
              refine Or.inr ⟨1, rfl, ?_⟩
              show RP 57 _ 7 [(0, .int a)] [.int 1] _
              refine RP_done 3 (fun n => rfl) ?_
              refine Or.inr ⟨1, rfl, ?_⟩
              show RP 58 _ 4 [(0, .int a), (1, .int b)] [.int 1] _
              refine RP_step (pc1 := 11) (L1 := [(0, .int a), (1, .int b)]) (S1 := [.int 8, .int 1, .int b]) 4 0 (fun n => rfl) ?_
              refine RP_call 55 [.int b, .int 1, .int 8] (fun n => rfl) ?_
              show RP 55 _ 0 [(0, .int b), (1, .int 1), (2, .int 8)] [] _
              refine RP_step (pc1 := 2) (L1 := [(0, .int b), (1, .int 1), (2, .int 8)]) (S1 := [.int 1, .int b]) 2 0 (fun n => rfl) ?_
              refine RP_cond (decide (b < 1)) (fun n => rfl) (fun h => absurd (of_decide_eq_true h) (xi_nlt (x := b) (y := 1) (show 1 ≤ b.toInt by omega))) (fun _ => ?_)
              show RP 55 _ 5 [(0, .int b), (1, .int 1), (2, .int 8)] [] _
              refine RP_step (pc1 := 7) (L1 := [(0, .int b), (1, .int 1), (2, .int 8)]) (S1 := [.int 8, .int b]) 2 0 (fun n => rfl) ?_
              refine RP_cond (decide (8 < b)) (fun n => rfl) (fun h => absurd (of_decide_eq_true h) (xi_nlt (x := 8) (y := b) (show b.toInt ≤ 8 by omega))) (fun _ => ?_)
              show RP 55 _ 10 [(0, .int b), (1, .int 1), (2, .int 8)] [] _
              refine RP_done 5 (fun n => rfl) ?_
              refine Or.inr ⟨1, rfl, ?_⟩
              show RP 58 _ 14 [(0, .int a), (1, .int b)] [.int 1] _
              refine RP_step (pc1 := 19) (L1 := [(0, .int a), (1, .int b)]) (S1 := [.int b, .int a]) 3 0 (fun n => rfl) ?_
              refine RP_bin (fun x y => x + y) (fun n => rfl) ?_
              show RP 58 _ 20 [(0, .int a), (1, .int b)] [.int (a + b)] _
              refine RP_step (pc1 := 22) (L1 := [(0, .int a), (1, .int b)]) (S1 := [.int 16, .int (a + b)]) 1 0 (fun n => rfl) ?_
              refine RP_cond (decide (16 < (a + b))) (fun n => rfl) (fun _ => ?_) (fun h => absurd (xi_lt (x := 16) (y := (a + b)) (show 16 < (a + b).toInt by omega)) (of_decide_eq_false h))
              show RP 58 _ 29 [(0, .int a), (1, .int b)] [] _
              refine RP_done 4 (fun n => rfl) ?_
              refine Or.inr ⟨0, rfl, ?_⟩
              show RP 59 _ 324 [(0, .int 10), (1, .int a), (2, .int b), (3, .int c), (4, .int d)] [.int 0] _
              refine RP_done 5 (fun n => rfl) ?_
              exact ⟨rfl, rfl⟩
            · have h235 := of_decide_eq_false hh
              have h236 : (a + b).toInt ≤ 16 := xj_nlt h235
              show RP 24 _ 26 [(0, .int a), (1, .int b)] [] _
              refine RP_done 5 (fun n => rfl) ?_
              refine Or.inr ⟨1, rfl, ?_⟩
              show RP 25 _ 325 [(0, .int 10), (1, .int a), (2, .int b), (3, .int c), (4, .int d)] [.int 1] _
              refine RP_step (pc1 := 329) (L1 := [(0, .int 10), (1, .int a), (2, .int b), (3, .int c), (4, .int d)]) (S1 := [.int c]) 2 0 (fun n => rfl) ?_
              refine RP_cond (decide (c ≠ 0)) (fun n => rfl) (fun hh => ?_) (fun hh => ?_)
              · have h237 := of_decide_eq_true hh
                show RP 25 _ 341 [(0, .int 10), (1, .int a), (2, .int b), (3, .int c), (4, .int d)] [] _
                refine RP_done 4 (fun n => rfl) ?_
                refine ⟨Or.inl rfl, rfl, ?_⟩
                show RP 59 _ 0 [(0, .int 10), (1, .int a), (2, .int b), (3, .int c), (4, .int d)] [] _
                refine RP_step (pc1 := 321) (L1 := [(0, .int 10), (1, .int a), (2, .int b), (3, .int c), (4, .int d)]) (S1 := [.int b, .int a]) 4 0 (fun n => rfl) ?_
                refine RP_call 58 [.int a, .int b] (fun n => rfl) ?_
                show RP 58 _ 0 [(0, .int a), (1, .int b)] [] _
                refine RP_step (pc1 := 1) (L1 := [(0, .int a), (1, .int b)]) (S1 := [.int a]) 1 0 (fun n => rfl) ?_
                refine RP_call 57 [.int a] (fun n => rfl) ?_
                show RP 57 _ 0 [(0, .int a)] [] _
                refine RP_step (pc1 := 4) (L1 := [(0, .int a)]) (S1 := [.int 15, .int 0, .int a]) 3 0 (fun n => rfl) ?_
                refine RP_call 55 [.int a, .int 0, .int 15] (fun n => rfl) ?_
                show RP 55 _ 0 [(0, .int a), (1, .int 0), (2, .int 15)] [] _
                refine RP_step (pc1 := 2) (L1 := [(0, .int a), (1, .int 0), (2, .int 15)]) (S1 := [.int 0, .int a]) 2 0 (fun n => rfl) ?_
                refine RP_cond (decide (a < 0)) (fun n => rfl) (fun h => absurd (of_decide_eq_true h) (xi_nlt (x := a) (y := 0) (show 0 ≤ a.toInt by omega))) (fun _ => ?_)
                show RP 55 _ 5 [(0, .int a), (1, .int 0), (2, .int 15)] [] _
                refine RP_step (pc1 := 7) (L1 := [(0, .int a), (1, .int 0), (2, .int 15)]) (S1 := [.int 15, .int a]) 2 0 (fun n => rfl) ?_
                refine RP_cond (decide (15 < a)) (fun n => rfl) (fun h => absurd (of_decide_eq_true h) (xi_nlt (x := 15) (y := a) (show a.toInt ≤ 15 by omega))) (fun _ => ?_)
                show RP 55 _ 10 [(0, .int a), (1, .int 0), (2, .int 15)] [] _
                refine RP_done 5 (fun n => rfl) ?_
                refine Or.inr ⟨1, rfl, ?_⟩
                show RP 57 _ 7 [(0, .int a)] [.int 1] _
                refine RP_done 3 (fun n => rfl) ?_
                refine Or.inr ⟨1, rfl, ?_⟩
                show RP 58 _ 4 [(0, .int a), (1, .int b)] [.int 1] _
                refine RP_step (pc1 := 11) (L1 := [(0, .int a), (1, .int b)]) (S1 := [.int 8, .int 1, .int b]) 4 0 (fun n => rfl) ?_
                refine RP_call 55 [.int b, .int 1, .int 8] (fun n => rfl) ?_
                show RP 55 _ 0 [(0, .int b), (1, .int 1), (2, .int 8)] [] _
                refine RP_step (pc1 := 2) (L1 := [(0, .int b), (1, .int 1), (2, .int 8)]) (S1 := [.int 1, .int b]) 2 0 (fun n => rfl) ?_
                refine RP_cond (decide (b < 1)) (fun n => rfl) (fun h => absurd (of_decide_eq_true h) (xi_nlt (x := b) (y := 1) (show 1 ≤ b.toInt by omega))) (fun _ => ?_)
                show RP 55 _ 5 [(0, .int b), (1, .int 1), (2, .int 8)] [] _
                refine RP_step (pc1 := 7) (L1 := [(0, .int b), (1, .int 1), (2, .int 8)]) (S1 := [.int 8, .int b]) 2 0 (fun n => rfl) ?_
                refine RP_cond (decide (8 < b)) (fun n => rfl) (fun h => absurd (of_decide_eq_true h) (xi_nlt (x := 8) (y := b) (show b.toInt ≤ 8 by omega))) (fun _ => ?_)
                show RP 55 _ 10 [(0, .int b), (1, .int 1), (2, .int 8)] [] _
                refine RP_done 5 (fun n => rfl) ?_
                refine Or.inr ⟨1, rfl, ?_⟩
                show RP 58 _ 14 [(0, .int a), (1, .int b)] [.int 1] _
                refine RP_step (pc1 := 19) (L1 := [(0, .int a), (1, .int b)]) (S1 := [.int b, .int a]) 3 0 (fun n => rfl) ?_
                refine RP_bin (fun x y => x + y) (fun n => rfl) ?_
                show RP 58 _ 20 [(0, .int a), (1, .int b)] [.int (a + b)] _
                refine RP_step (pc1 := 22) (L1 := [(0, .int a), (1, .int b)]) (S1 := [.int 16, .int (a + b)]) 1 0 (fun n => rfl) ?_
                refine RP_cond (decide (16 < (a + b))) (fun n => rfl) (fun h => absurd (of_decide_eq_true h) (xi_nlt (x := 16) (y := (a + b)) (show (a + b).toInt ≤ 16 by omega))) (fun _ => ?_)
                show RP 58 _ 25 [(0, .int a), (1, .int b)] [] _
                refine RP_done 5 (fun n => rfl) ?_
                refine Or.inr ⟨1, rfl, ?_⟩
                show RP 59 _ 324 [(0, .int 10), (1, .int a), (2, .int b), (3, .int c), (4, .int d)] [.int 1] _
                refine RP_step (pc1 := 328) (L1 := [(0, .int 10), (1, .int a), (2, .int b), (3, .int c), (4, .int d)]) (S1 := [.int c]) 2 0 (fun n => rfl) ?_
                refine RP_cond (decide (c ≠ 0)) (fun n => rfl) (fun _ => ?_) (fun h => absurd (by assumption) (of_decide_eq_false h))
                show RP 59 _ 340 [(0, .int 10), (1, .int a), (2, .int b), (3, .int c), (4, .int d)] [] _
                refine RP_done 4 (fun n => rfl) ?_
                exact ⟨rfl, rfl⟩
              · have h238 := of_decide_eq_false hh
                replace h238 := Decidable.of_not_not h238
                clear hh
                subst h238
                show RP 25 _ 332 [(0, .int 10), (1, .int a), (2, .int b), (3, .int 0), (4, .int d)] [] _
                refine RP_step (pc1 := 334) (L1 := [(0, .int 10), (1, .int a), (2, .int b), (3, .int 0), (4, .int d)]) (S1 := [.int d]) 1 0 (fun n => rfl) ?_
                refine RP_cond (decide (d ≠ 0)) (fun n => rfl) (fun hh => ?_) (fun hh => ?_)
                · have h239 := of_decide_eq_true hh
                  show RP 25 _ 341 [(0, .int 10), (1, .int a), (2, .int b), (3, .int 0), (4, .int d)] [] _
                  refine RP_done 4 (fun n => rfl) ?_
                  refine ⟨Or.inl rfl, rfl, ?_⟩
                  show RP 59 _ 0 [(0, .int 10), (1, .int a), (2, .int b), (3, .int 0), (4, .int d)] [] _
                  refine RP_step (pc1 := 321) (L1 := [(0, .int 10), (1, .int a), (2, .int b), (3, .int 0), (4, .int d)]) (S1 := [.int b, .int a]) 4 0 (fun n => rfl) ?_
                  refine RP_call 58 [.int a, .int b] (fun n => rfl) ?_
                  show RP 58 _ 0 [(0, .int a), (1, .int b)] [] _
                  refine RP_step (pc1 := 1) (L1 := [(0, .int a), (1, .int b)]) (S1 := [.int a]) 1 0 (fun n => rfl) ?_
                  refine RP_call 57 [.int a] (fun n => rfl) ?_
                  show RP 57 _ 0 [(0, .int a)] [] _
                  refine RP_step (pc1 := 4) (L1 := [(0, .int a)]) (S1 := [.int 15, .int 0, .int a]) 3 0 (fun n => rfl) ?_
                  refine RP_call 55 [.int a, .int 0, .int 15] (fun n => rfl) ?_
                  show RP 55 _ 0 [(0, .int a), (1, .int 0), (2, .int 15)] [] _
                  refine RP_step (pc1 := 2) (L1 := [(0, .int a), (1, .int 0), (2, .int 15)]) (S1 := [.int 0, .int a]) 2 0 (fun n => rfl) ?_
                  refine RP_cond (decide (a < 0)) (fun n => rfl) (fun h => absurd (of_decide_eq_true h) (xi_nlt (x := a) (y := 0) (show 0 ≤ a.toInt by omega))) (fun _ => ?_)
                  show RP 55 _ 5 [(0, .int a), (1, .int 0), (2, .int 15)] [] _
                  refine RP_step (pc1 := 7) (L1 := [(0, .int a), (1, .int 0), (2, .int 15)]) (S1 := [.int 15, .int a]) 2 0 (fun n => rfl) ?_
                  refine RP_cond (decide (15 < a)) (fun n => rfl) (fun h => absurd (of_decide_eq_true h) (xi_nlt (x := 15) (y := a) (show a.toInt ≤ 15 by omega))) (fun _ => ?_)
                  show RP 55 _ 10 [(0, .int a), (1, .int 0), (2, .int 15)] [] _
                  refine RP_done 5 (fun n => rfl) ?_
                  refine Or.inr ⟨1, rfl, ?_⟩
                  show RP 57 _ 7 [(0, .int a)] [.int 1] _
                  refine RP_done 3 (fun n => rfl) ?_
                  refine Or.inr ⟨1, rfl, ?_⟩
                  show RP 58 _ 4 [(0, .int a), (1, .int b)] [.int 1] _
                  refine RP_step (pc1 := 11) (L1 := [(0, .int a), (1, .int b)]) (S1 := [.int 8, .int 1, .int b]) 4 0 (fun n => rfl) ?_
                  refine RP_call 55 [.int b, .int 1, .int 8] (fun n => rfl) ?_
                  show RP 55 _ 0 [(0, .int b), (1, .int 1), (2, .int 8)] [] _
                  refine RP_step (pc1 := 2) (L1 := [(0, .int b), (1, .int 1), (2, .int 8)]) (S1 := [.int 1, .int b]) 2 0 (fun n => rfl) ?_
                  refine RP_cond (decide (b < 1)) (fun n => rfl) (fun h => absurd (of_decide_eq_true h) (xi_nlt (x := b) (y := 1) (show 1 ≤ b.toInt by omega))) (fun _ => ?_)
                  show RP 55 _ 5 [(0, .int b), (1, .int 1), (2, .int 8)] [] _
                  refine RP_step (pc1 := 7) (L1 := [(0, .int b), (1, .int 1), (2, .int 8)]) (S1 := [.int 8, .int b]) 2 0 (fun n => rfl) ?_
                  refine RP_cond (decide (8 < b)) (fun n => rfl) (fun h => absurd (of_decide_eq_true h) (xi_nlt (x := 8) (y := b) (show b.toInt ≤ 8 by omega))) (fun _ => ?_)
                  show RP 55 _ 10 [(0, .int b), (1, .int 1), (2, .int 8)] [] _
                  refine RP_done 5 (fun n => rfl) ?_
                  refine Or.inr ⟨1, rfl, ?_⟩
                  show RP 58 _ 14 [(0, .int a), (1, .int b)] [.int 1] _
                  refine RP_step (pc1 := 19) (L1 := [(0, .int a), (1, .int b)]) (S1 := [.int b, .int a]) 3 0 (fun n => rfl) ?_
                  refine RP_bin (fun x y => x + y) (fun n => rfl) ?_
                  show RP 58 _ 20 [(0, .int a), (1, .int b)] [.int (a + b)] _
                  refine RP_step (pc1 := 22) (L1 := [(0, .int a), (1, .int b)]) (S1 := [.int 16, .int (a + b)]) 1 0 (fun n => rfl) ?_
                  refine RP_cond (decide (16 < (a + b))) (fun n => rfl) (fun h => absurd (of_decide_eq_true h) (xi_nlt (x := 16) (y := (a + b)) (show (a + b).toInt ≤ 16 by omega))) (fun _ => ?_)
                  show RP 58 _ 25 [(0, .int a), (1, .int b)] [] _
                  refine RP_done 5 (fun n => rfl) ?_
                  refine Or.inr ⟨1, rfl, ?_⟩
                  show RP 59 _ 324 [(0, .int 10), (1, .int a), (2, .int b), (3, .int 0), (4, .int d)] [.int 1] _
                  refine RP_step (pc1 := 333) (L1 := [(0, .int 10), (1, .int a), (2, .int b), (3, .int 0), (4, .int d)]) (S1 := [.int d]) 4 0 (fun n => rfl) ?_
                  refine RP_cond (decide (d ≠ 0)) (fun n => rfl) (fun _ => ?_) (fun h => absurd (by assumption) (of_decide_eq_false h))
                  show RP 59 _ 340 [(0, .int 10), (1, .int a), (2, .int b), (3, .int 0), (4, .int d)] [] _
                  refine RP_done 4 (fun n => rfl) ?_
                  exact ⟨rfl, rfl⟩
                · have h240 := of_decide_eq_false hh
                  replace h240 := Decidable.of_not_not h240
                  clear hh
                  subst h240
                  show RP 25 _ 337 [(0, .int 10), (1, .int a), (2, .int b), (3, .int 0), (4, .int 0)] [] _
                  refine RP_done 5 (fun n => rfl) ?_
                  refine ⟨Or.inr rfl, rfl, ?_⟩
                  show RP 59 _ 0 [(0, .int 10), (1, .int a), (2, .int b), (3, .int 0), (4, .int 0)] [] _
                  refine RP_step (pc1 := 321) (L1 := [(0, .int 10), (1, .int a), (2, .int b), (3, .int 0), (4, .int 0)]) (S1 := [.int b, .int a]) 4 0 (fun n => rfl) ?_
                  refine RP_call 58 [.int a, .int b] (fun n => rfl) ?_
                  show RP 58 _ 0 [(0, .int a), (1, .int b)] [] _
                  refine RP_step (pc1 := 1) (L1 := [(0, .int a), (1, .int b)]) (S1 := [.int a]) 1 0 (fun n => rfl) ?_
                  refine RP_call 57 [.int a] (fun n => rfl) ?_
                  show RP 57 _ 0 [(0, .int a)] [] _
                  refine RP_step (pc1 := 4) (L1 := [(0, .int a)]) (S1 := [.int 15, .int 0, .int a]) 3 0 (fun n => rfl) ?_
                  refine RP_call 55 [.int a, .int 0, .int 15] (fun n => rfl) ?_
                  show RP 55 _ 0 [(0, .int a), (1, .int 0), (2, .int 15)] [] _
                  refine RP_step (pc1 := 2) (L1 := [(0, .int a), (1, .int 0), (2, .int 15)]) (S1 := [.int 0, .int a]) 2 0 (fun n => rfl) ?_
                  refine RP_cond (decide (a < 0)) (fun n => rfl) (fun h => absurd (of_decide_eq_true h) (xi_nlt (x := a) (y := 0) (show 0 ≤ a.toInt by omega))) (fun _ => ?_)
                  show RP 55 _ 5 [(0, .int a), (1, .int 0), (2, .int 15)] [] _
                  refine RP_step (pc1 := 7) (L1 := [(0, .int a), (1, .int 0), (2, .int 15)]) (S1 := [.int 15, .int a]) 2 0 (fun n => rfl) ?_
                  refine RP_cond (decide (15 < a)) (fun n => rfl) (fun h => absurd (of_decide_eq_true h) (xi_nlt (x := 15) (y := a) (show a.toInt ≤ 15 by omega))) (fun _ => ?_)
                  show RP 55 _ 10 [(0, .int a), (1, .int 0), (2, .int 15)] [] _
                  refine RP_done 5 (fun n => rfl) ?_
                  refine Or.inr ⟨1, rfl, ?_⟩
                  show RP 57 _ 7 [(0, .int a)] [.int 1] _
                  refine RP_done 3 (fun n => rfl) ?_
                  refine Or.inr ⟨1, rfl, ?_⟩
                  show RP 58 _ 4 [(0, .int a), (1, .int b)] [.int 1] _
                  refine RP_step (pc1 := 11) (L1 := [(0, .int a), (1, .int b)]) (S1 := [.int 8, .int 1, .int b]) 4 0 (fun n => rfl) ?_
                  refine RP_call 55 [.int b, .int 1, .int 8] (fun n => rfl) ?_
                  show RP 55 _ 0 [(0, .int b), (1, .int 1), (2, .int 8)] [] _
                  refine RP_step (pc1 := 2) (L1 := [(0, .int b), (1, .int 1), (2, .int 8)]) (S1 := [.int 1, .int b]) 2 0 (fun n => rfl) ?_
                  refine RP_cond (decide (b < 1)) (fun n => rfl) (fun h => absurd (of_decide_eq_true h) (xi_nlt (x := b) (y := 1) (show 1 ≤ b.toInt by omega))) (fun _ => ?_)
                  show RP 55 _ 5 [(0, .int b), (1, .int 1), (2, .int 8)] [] _
                  refine RP_step (pc1 := 7) (L1 := [(0, .int b), (1, .int 1), (2, .int 8)]) (S1 := [.int 8, .int b]) 2 0 (fun n => rfl) ?_
                  refine RP_cond (decide (8 < b)) (fun n => rfl) (fun h => absurd (of_decide_eq_true h) (xi_nlt (x := 8) (y := b) (show b.toInt ≤ 8 by omega))) (fun _ => ?_)
                  show RP 55 _ 10 [(0, .int b), (1, .int 1), (2, .int 8)] [] _
                  refine RP_done 5 (fun n => rfl) ?_
                  refine Or.inr ⟨1, rfl, ?_⟩
                  show RP 58 _ 14 [(0, .int a), (1, .int b)] [.int 1] _
                  refine RP_step (pc1 := 19) (L1 := [(0, .int a), (1, .int b)]) (S1 := [.int b, .int a]) 3 0 (fun n => rfl) ?_
                  refine RP_bin (fun x y => x + y) (fun n => rfl) ?_
                  show RP 58 _ 20 [(0, .int a), (1, .int b)] [.int (a + b)] _
                  refine RP_step (pc1 := 22) (L1 := [(0, .int a), (1, .int b)]) (S1 := [.int 16, .int (a + b)]) 1 0 (fun n => rfl) ?_
                  refine RP_cond (decide (16 < (a + b))) (fun n => rfl) (fun h => absurd (of_decide_eq_true h) (xi_nlt (x := 16) (y := (a + b)) (show (a + b).toInt ≤ 16 by omega))) (fun _ => ?_)
                  show RP 58 _ 25 [(0, .int a), (1, .int b)] [] _
                  refine RP_done 5 (fun n => rfl) ?_
                  refine Or.inr ⟨1, rfl, ?_⟩
                  show RP 59 _ 324 [(0, .int 10), (1, .int a), (2, .int b), (3, .int 0), (4, .int 0)] [.int 1] _
                  refine RP_done 10 (fun n => rfl) ?_
                  exact ⟨rfl, rfl⟩
  · skip
    show RP 25 _ 0 [(0, .int 11), (1, .int a), (2, .int b), (3, .int c), (4, .int d)] [] _
    refine RP_step (pc1 := 322) (L1 := [(0, .int 11), (1, .int a), (2, .int b), (3, .int c), (4, .int d)]) (S1 := [.int b, .int a]) 4 0 (fun n => rfl) ?_
    refine RP_call 24 [.int a, .int b] (fun n => rfl) ?_
    show RP 24 _ 0 [(0, .int a), (1, .int b)] [] _
    refine RP_step (pc1 := 1) (L1 := [(0, .int a), (1, .int b)]) (S1 := [.int a]) 1 0 (fun n => rfl) ?_
    refine RP_call 23 [.int a] (fun n => rfl) ?_
    show RP 23 _ 0 [(0, .int a)] [] _
    refine RP_step (pc1 := 1) (L1 := [(0, .int a)]) (S1 := [.int a]) 1 0 (fun n => rfl) ?_
    refine RP_cond (decide (a < 0)) (fun n => rfl) (fun hh => ?_) (fun hh => ?_)
    · have h241 := of_decide_eq_true hh
      have h242 : a.toInt < 0 := xj_lt h241
      show RP 23 _ 14 [(0, .int a)] [] _
      refine RP_done 4 (fun n => rfl) ?_
      refine Or.inr ⟨0, rfl, ?_⟩
      show RP 24 _ 4 [(0, .int a), (1, .int b)] [.int 0] _
      refine RP_done 5 (fun n => rfl) ?_
      refine Or.inr ⟨0, rfl, ?_⟩
      show RP 25 _ 325 [(0, .int 11), (1, .int a), (2, .int b), (3, .int c), (4, .int d)] [.int 0] _
      refine RP_done 5 (fun n => rfl) ?_
      refine ⟨Or.inl rfl, rfl, ?_⟩
      show RP 59 _ 0 [(0, .int 11), (1, .int a), (2, .int b), (3, .int c), (4, .int d)] [] _
      refine RP_step (pc1 := 321) (L1 := [(0, .int 11), (1, .int a), (2, .int b), (3, .int c), (4, .int d)]) (S1 := [.int b, .int a]) 4 0 (fun n => rfl) ?_
      refine RP_call 58 [.int a, .int b] (fun n => rfl) ?_
      show RP 58 _ 0 [(0, .int a), (1, .int b)] [] _
      refine RP_step (pc1 := 1) (L1 := [(0, .int a), (1, .int b)]) (S1 := [.int a]) 1 0 (fun n => rfl) ?_
      refine RP_call 57 [.int a] (fun n => rfl) ?_
      show RP 57 _ 0 [(0, .int a)] [] _
      refine RP_step (pc1 := 4) (L1 := [(0, .int a)]) (S1 := [.int 15, .int 0, .int a]) 3 0 (fun n => rfl) ?_
      refine RP_call 55 [.int a, .int 0, .int 15] (fun n => rfl) ?_
      show RP 55 _ 0 [(0, .int a), (1, .int 0), (2, .int 15)] [] _
      refine RP_step (pc1 := 2) (L1 := [(0, .int a), (1, .int 0), (2, .int 15)]) (S1 := [.int 0, .int a]) 2 0 (fun n => rfl) ?_
      refine RP_cond (decide (a < 0)) (fun n => rfl) (fun _ => ?_) (fun h => absurd (xi_lt (x := a) (y := 0) (show a.toInt < 0 by omega)) (of_decide_eq_false h))
      show RP 55 _ 14 [(0, .int a), (1, .int 0), (2, .int 15)] [] _
      refine RP_done 4 (fun n => rfl) ?_
      refine Or.inr ⟨0, rfl, ?_⟩
      show RP 57 _ 7 [(0, .int a)] [.int 0] _
      refine RP_done 3 (fun n => rfl) ?_
      refine Or.inr ⟨0, rfl, ?_⟩
      show RP 58 _ 4 [(0, .int a), (1, .int b)] [.int 0] _
      refine RP_done 5 (fun n => rfl) ?_
      refine Or.inr ⟨0, rfl, ?_⟩
      show RP 59 _ 324 [(0, .int 11), (1, .int a), (2, .int b), (3, .int c), (4, .int d)] [.int 0] _
      refine RP_done 5 (fun n => rfl) ?_
      exact ⟨rfl, rfl⟩
    · have h243 := of_decide_eq_false hh
      have h244 : 0 ≤ a.toInt := xj_nlt h243
      show RP 23 _ 4 [(0, .int a)] [] _
      refine RP_step (pc1 := 7) (L1 := [(0, .int a)]) (S1 := [.int 16, .int a]) 2 0 (fun n => rfl) ?_
      refine RP_cond (decide (16 ≤ a)) (fun n => rfl) (fun hh => ?_) (fun hh => ?_)
      · have h245 := of_decide_eq_true hh
        have h246 : 16 ≤ a.toInt := xj_le h245
        show RP 23 _ 14 [(0, .int a)] [] _
        refine RP_done 4 (fun n => rfl) ?_
        refine Or.inr ⟨0, rfl, ?_⟩
        show RP 24 _ 4 [(0, .int a), (1, .int b)] [.int 0] _
        refine RP_done 5 (fun n => rfl) ?_
        refine Or.inr ⟨0, rfl, ?_⟩
        show RP 25 _ 325 [(0, .int 11), (1, .int a), (2, .int b), (3, .int c), (4, .int d)] [.int 0] _
        refine RP_done 5 (fun n => rfl) ?_
        refine ⟨Or.inl rfl, rfl, ?_⟩
        show RP 59 _ 0 [(0, .int 11), (1, .int a), (2, .int b), (3, .int c), (4, .int d)] [] _
        refine RP_step (pc1 := 321) (L1 := [(0, .int 11), (1, .int a), (2, .int b), (3, .int c), (4, .int d)]) (S1 := [.int b, .int a]) 4 0 (fun n => rfl) ?_
        refine RP_call 58 [.int a, .int b] (fun n => rfl) ?_
        show RP 58 _ 0 [(0, .int a), (1, .int b)] [] _
        refine RP_step (pc1 := 1) (L1 := [(0, .int a), (1, .int b)]) (S1 := [.int a]) 1 0 (fun n => rfl) ?_
        refine RP_call 57 [.int a] (fun n => rfl) ?_
        show RP 57 _ 0 [(0, .int a)] [] _
        refine RP_step (pc1 := 4) (L1 := [(0, .int a)]) (S1 := [.int 15, .int 0, .int a]) 3 0 (fun n => rfl) ?_
        refine RP_call 55 [.int a, .int 0, .int 15] (fun n => rfl) ?_
        show RP 55 _ 0 [(0, .int a), (1, .int 0), (2, .int 15)] [] _
        refine RP_step (pc1 := 2) (L1 := [(0, .int a), (1, .int 0), (2, .int 15)]) (S1 := [.int 0, .int a]) 2 0 (fun n => rfl) ?_
        refine RP_cond (decide (a < 0)) (fun n => rfl) (fun h => absurd (of_decide_eq_true h) (xi_nlt (x := a) (y := 0) (show 0 ≤ a.toInt by omega))) (fun _ => ?_)
        show RP 55 _ 5 [(0, .int a), (1, .int 0), (2, .int 15)] [] _
        refine RP_step (pc1 := 7) (L1 := [(0, .int a), (1, .int 0), (2, .int 15)]) (S1 := [.int 15, .int a]) 2 0 (fun n => rfl) ?_
        refine RP_cond (decide (15 < a)) (fun n => rfl) (fun _ => ?_) (fun h => absurd (xi_lt (x := 15) (y := a) (show 15 < a.toInt by omega)) (of_decide_eq_false h))
        show RP 55 _ 14 [(0, .int a), (1, .int 0), (2, .int 15)] [] _
        refine RP_done 4 (fun n => rfl) ?_
        refine Or.inr ⟨0, rfl, ?_⟩
        show RP 57 _ 7 [(0, .int a)] [.int 0] _
        refine RP_done 3 (fun n => rfl) ?_
        refine Or.inr ⟨0, rfl, ?_⟩
        show RP 58 _ 4 [(0, .int a), (1, .int b)] [.int 0] _
        refine RP_done 5 (fun n => rfl) ?_
        refine Or.inr ⟨0, rfl, ?_⟩
        show RP 59 _ 324 [(0, .int 11), (1, .int a), (2, .int b), (3, .int c), (4, .int d)] [.int 0] _
        refine RP_done 5 (fun n => rfl) ?_
        exact ⟨rfl, rfl⟩
      · have h247 := of_decide_eq_false hh
        have h248 : a.toInt < 16 := xj_nle h247
        show RP 23 _ 10 [(0, .int a)] [] _
        refine RP_done 5 (fun n => rfl) ?_
        refine Or.inr ⟨1, rfl, ?_⟩
        show RP 24 _ 4 [(0, .int a), (1, .int b)] [.int 1] _
        refine RP_step (pc1 := 9) (L1 := [(0, .int a), (1, .int b)]) (S1 := [.int 1, .int b]) 3 0 (fun n => rfl) ?_
        refine RP_cond (decide (b < 1)) (fun n => rfl) (fun hh => ?_) (fun hh => ?_)
        · have h249 := of_decide_eq_true hh
          have h250 : b.toInt < 1 := xj_lt h249
          show RP 24 _ 30 [(0, .int a), (1, .int b)] [] _
          refine RP_done 4 (fun n => rfl) ?_
          refine Or.inr ⟨0, rfl, ?_⟩
          show RP 25 _ 325 [(0, .int 11), (1, .int a), (2, .int b), (3, .int c), (4, .int d)] [.int 0] _
          refine RP_done 5 (fun n => rfl) ?_
          refine ⟨Or.inl rfl, rfl, ?_⟩
          show RP 59 _ 0 [(0, .int 11), (1, .int a), (2, .int b), (3, .int c), (4, .int d)] [] _
          refine RP_step (pc1 := 321) (L1 := [(0, .int 11), (1, .int a), (2, .int b), (3, .int c), (4, .int d)]) (S1 := [.int b, .int a]) 4 0 (fun n => rfl) ?_
          refine RP_call 58 [.int a, .int b] (fun n => rfl) ?_
          show RP 58 _ 0 [(0, .int a), (1, .int b)] [] _
          refine RP_step (pc1 := 1) (L1 := [(0, .int a), (1, .int b)]) (S1 := [.int a]) 1 0 (fun n => rfl) ?_
          refine RP_call 57 [.int a] (fun n => rfl) ?_
          show RP 57 _ 0 [(0, .int a)] [] _
          refine RP_step (pc1 := 4) (L1 := [(0, .int a)]) (S1 := [.int 15, .int 0, .int a]) 3 0 (fun n => rfl) ?_
          refine RP_call 55 [.int a, .int 0, .int 15] (fun n => rfl) ?_
          show RP 55 _ 0 [(0, .int a), (1, .int 0), (2, .int 15)] [] _
          refine RP_step (pc1 := 2) (L1 := [(0, .int a), (1, .int 0), (2, .int 15)]) (S1 := [.int 0, .int a]) 2 0 (fun n => rfl) ?_
          refine RP_cond (decide (a < 0)) (fun n => rfl) (fun h => absurd (of_decide_eq_true h) (xi_nlt (x := a) (y := 0) (show 0 ≤ a.toInt by omega))) (fun _ => ?_)
          show RP 55 _ 5 [(0, .int a), (1, .int 0), (2, .int 15)] [] _
          refine RP_step (pc1 := 7) (L1 := [(0, .int a), (1, .int 0), (2, .int 15)]) (S1 := [.int 15, .int a]) 2 0 (fun n => rfl) ?_
          refine RP_cond (decide (15 < a)) (fun n => rfl) (fun h => absurd (of_decide_eq_true h) (xi_nlt (x := 15) (y := a) (show a.toInt ≤ 15 by omega))) (fun _ => ?_)
          show RP 55 _ 10 [(0, .int a), (1, .int 0), (2, .int 15)] [] _
          refine RP_done 5 (fun n => rfl) ?_
          refine Or.inr ⟨1, rfl, ?_⟩
          show RP 57 _ 7 [(0, .int a)] [.int 1] _
          refine RP_done 3 (fun n => rfl) ?_
          refine Or.inr ⟨1, rfl, ?_⟩
          show RP 58 _ 4 [(0, .int a), (1, .int b)] [.int 1] _
          refine RP_step (pc1 := 11) (L1 := [(0, .int a), (1, .int b)]) (S1 := [.int 8, .int 1, .int b]) 4 0 (fun n => rfl) ?_
          refine RP_call 55 [.int b, .int 1, .int 8] (fun n => rfl) ?_
          show RP 55 _ 0 [(0, .int b), (1, .int 1), (2, .int 8)] [] _
          refine RP_step (pc1 := 2) (L1 := [(0, .int b), (1, .int 1), (2, .int 8)]) (S1 := [.int 1, .int b]) 2 0 (fun n => rfl) ?_
          refine RP_cond (decide (b < 1)) (fun n => rfl) (fun _ => ?_) (fun h => absurd (xi_lt (x := b) (y := 1) (show b.toInt < 1 by omega)) (of_decide_eq_false h))
          show RP 55 _ 14 [(0, .int b), (1, .int 1), (2, .int 8)] [] _
          refine RP_done 4 (fun n => rfl) ?_
          refine Or.inr ⟨0, rfl, ?_⟩
          show RP 58 _ 14 [(0, .int a), (1, .int b)] [.int 0] _
          refine RP_done 5 (fun n => rfl) ?_
          refine Or.inr ⟨0, rfl, ?_⟩
          show RP 59 _ 324 [(0, .int 11), (1, .int a), (2, .int b), (3, .int c), (4, .int d)] [.int 0] _
          refine RP_done 5 (fun n => rfl) ?_
          exact ⟨rfl, rfl⟩
        · have h251 := of_decide_eq_false hh
          have h252 : 1 ≤ b.toInt := xj_nlt h251
          show RP 24 _ 12 [(0, .int a), (1, .int b)] [] _
          refine RP_step (pc1 := 15) (L1 := [(0, .int a), (1, .int b)]) (S1 := [.int 8, .int b]) 2 0 (fun n => rfl) ?_
          refine RP_cond (decide (8 < b)) (fun n => rfl) (fun hh => ?_) (fun hh => ?_)
          · have h253 := of_decide_eq_true hh
            have h254 : 8 < b.toInt := xj_lt h253
            show RP 24 _ 30 [(0, .int a), (1, .int b)] [] _
            refine RP_done 4 (fun n => rfl) ?_
            refine Or.inr ⟨0, rfl, ?_⟩
            show RP 25 _ 325 [(0, .int 11), (1, .int a), (2, .int b), (3, .int c), (4, .int d)] [.int 0] _
            refine RP_done 5 (fun n => rfl) ?_
            refine ⟨Or.inl rfl, rfl, ?_⟩
            show RP 59 _ 0 [(0, .int 11), (1, .int a), (2, .int b), (3, .int c), (4, .int d)] [] _
            refine RP_step (pc1 := 321) (L1 := [(0, .int 11), (1, .int a), (2, .int b), (3, .int c), (4, .int d)]) (S1 := [.int b, .int a]) 4 0 (fun n => rfl) ?_
            refine RP_call 58 [.int a, .int b] (fun n => rfl) ?_
            show RP 58 _ 0 [(0, .int a), (1, .int b)] [] _
            refine RP_step (pc1 := 1) (L1 := [(0, .int a), (1, .int b)]) (S1 := [.int a]) 1 0 (fun n => rfl) ?_
            refine RP_call 57 [.int a] (fun n => rfl) ?_
            show RP 57 _ 0 [(0, .int a)] [] _
            refine RP_step (pc1 := 4) (L1 := [(0, .int a)]) (S1 := [.int 15, .int 0, .int a]) 3 0 (fun n => rfl) ?_
            refine RP_call 55 [.int a, .int 0, .int 15] (fun n => rfl) ?_
            show RP 55 _ 0 [(0, .int a), (1, .int 0), (2, .int 15)] [] _
            refine RP_step (pc1 := 2) (L1 := [(0, .int a), (1, .int 0), (2, .int 15)]) (S1 := [.int 0, .int a]) 2 0 (fun n => rfl) ?_
            refine RP_cond (decide (a < 0)) (fun n => rfl) (fun h => absurd (of_decide_eq_true h) (xi_nlt (x := a) (y := 0) (show 0 ≤ a.toInt by omega))) (fun _ => ?_)
            show RP 55 _ 5 [(0, .int a), (1, .int 0), (2, .int 15)] [] _
            refine RP_step (pc1 := 7) (L1 := [(0, .int a), (1, .int 0), (2, .int 15)]) (S1 := [.int 15, .int a]) 2 0 (fun n => rfl) ?_
            refine RP_cond (decide (15 < a)) (fun n => rfl) (fun h => absurd (of_decide_eq_true h) (xi_nlt (x := 15) (y := a) (show a.toInt ≤ 15 by omega))) (fun _ => ?_)
            show RP 55 _ 10 [(0, .int a), (1, .int 0), (2, .int 15)] [] _
            refine RP_done 5 (fun n => rfl) ?_
            refine Or.inr ⟨1, rfl, ?_⟩
            show RP 57 _ 7 [(0, .int a)] [.int 1] _
            refine RP_done 3 (fun n => rfl) ?_
            refine Or.inr ⟨1, rfl, ?_⟩
            show RP 58 _ 4 [(0, .int a), (1, .int b)] [.int 1] _
            refine RP_step (pc1 := 11) (L1 := [(0, .int a), (1, .int b)]) (S1 := [.int 8, .int 1, .int b]) 4 0 (fun n => rfl) ?_
            refine RP_call 55 [.int b, .int 1, .int 8] (fun n => rfl) ?_
            show RP 55 _ 0 [(0, .int b), (1, .int 1), (2, .int 8)] [] _
            refine RP_step (pc1 := 2) (L1 := [(0, .int b), (1, .int 1), (2, .int 8)]) (S1 := [.int 1, .int b]) 2 0 (fun n => rfl) ?_
            refine RP_cond (decide (b < 1)) (fun n => rfl) (fun h => absurd (of_decide_eq_true h) (xi_nlt (x := b) (y := 1) (show 1 ≤ b.toInt by omega))) (fun _ => ?_)
            show RP 55 _ 5 [(0, .int b), (1, .int 1), (2, .int 8)] [] _
            refine RP_step (pc1 := 7) (L1 := [(0, .int b), (1, .int 1), (2, .int 8)]) (S1 := [.int 8, .int b]) 2 0 (fun n => rfl) ?_
            refine RP_cond (decide (8 < b)) (fun n => rfl) (fun _ => ?_) (fun h => absurd (xi_lt (x := 8) (y := b) (show 8 < b.toInt by omega)) (of_decide_eq_false h))
            show RP 55 _ 14 [(0, .int b), (1, .int 1), (2, .int 8)] [] _
            refine RP_done 4 (fun n => rfl) ?_
            refine Or.inr ⟨0, rfl, ?_⟩
            show RP 58 _ 14 [(0, .int a), (1, .int b)] [.int 0] _
            refine RP_done 5 (fun n => rfl) ?_
            refine Or.inr ⟨0, rfl, ?_⟩
            show RP 59 _ 324 [(0, .int 11), (1, .int a), (2, .int b), (3, .int c), (4, .int d)] [.int 0] _
            refine RP_done 5 (fun n => rfl) ?_
            exact ⟨rfl, rfl⟩
          · have h255 := of_decide_eq_false hh
            have h256 : b.toInt ≤ 8 := xj_nlt h255
            show RP 24 _ 18 [(0, .int a), (1, .int b)] [] _
            refine RP_step (pc1 := 20) (L1 := [(0, .int a), (1, .int b)]) (S1 := [.int b, .int a]) 2 0 (fun n => rfl) ?_
            refine RP_bin (fun x y => x + y) (fun n => rfl) ?_
            show RP 24 _ 21 [(0, .int a), (1, .int b)] [.int (a + b)] _
            refine RP_step (pc1 := 23) (L1 := [(0, .int a), (1, .int b)]) (S1 := [.int 16, .int (a + b)]) 1 0 (fun n => rfl) ?_
            refine RP_cond (decide (16 < (a + b))) (fun n => rfl) (fun hh => ?_) (fun hh => ?_)
            · have h257 := of_decide_eq_true hh
              have h258 : 16 < (a + b).toInt := xj_lt h257
              show RP 24 _ 30 [(0, .int a), (1, .int b)] [] _
              refine RP_done 4 (fun n => rfl) ?_
              refine Or.inr ⟨0, rfl, ?_⟩
              show RP 25 _ 325 [(0, .int 11), (1, .int a), (2, .int b), (3, .int c), (4, .int d)] [.int 0] _
              refine RP_done 5 (fun n => rfl) ?_
              refine ⟨Or.inl rfl, rfl, ?_⟩
              show RP 59 _ 0 [(0, .int 11), (1, .int a), (2, .int b), (3, .int c), (4, .int d)] [] _
              refine RP_step (pc1 := 321) (L1 := [(0, .int 11), (1, .int a), (2, .int b), (3, .int c), (4, .int d)]) (S1 := [.int b, .int a]) 4 0 (fun n => rfl) ?_
              refine RP_call 58 [.int a, .int b] (fun n => rfl) ?_
              show RP 58 _ 0 [(0, .int a), (1, .int b)] [] _
              refine RP_step (pc1 := 1) (L1 := [(0, .int a), (1, .int b)]) (S1 := [.int a]) 1 0 (fun n => rfl) ?_
              refine RP_call 57 [.int a] (fun n => rfl) ?_
              show RP 57 _ 0 [(0, .int a)] [] _
              refine RP_step (pc1 := 4) (L1 := [(0, .int a)]) (S1 := [.int 15, .int 0, .int a]) 3 0 (fun n => rfl) ?_
              refine RP_call 55 [.int a, .int 0, .int 15] (fun n => rfl) ?_
              show RP 55 _ 0 [(0, .int a), (1, .int 0), (2, .int 15)] [] _
              refine RP_step (pc1 := 2) (L1 := [(0, .int a), (1, .int 0), (2, .int 15)]) (S1 := [.int 0, .int a]) 2 0 (fun n => rfl) ?_
              refine RP_cond (decide (a < 0)) (fun n => rfl) (fun h => absurd (of_decide_eq_true h) (xi_nlt (x := a) (y := 0) (show 0 ≤ a.toInt by omega))) (fun _ => ?_)
              show RP 55 _ 5 [(0, .int a), (1, .int 0), (2, .int 15)] [] _
              refine RP_step (pc1 := 7) (L1 := [(0, .int a), (1, .int 0), (2, .int 15)]) (S1 := [.int 15, .int a]) 2 0 (fun n => rfl) ?_
              refine RP_cond (decide (15 < a)) (fun n => rfl) (fun h => absurd (of_decide_eq_true h) (xi_nlt (x := 15) (y := a) (show a.toInt ≤ 15 by omega))) (fun _ => ?_)
              show RP 55 _ 10 [(0, .int a), (1, .int 0), (2, .int 15)] [] _
              refine RP_done 5 (fun n => rfl) ?_
              refine Or.inr ⟨1, rfl, ?_⟩
              show RP 57 _ 7 [(0, .int a)] [.int 1] _
              refine RP_done 3 (fun n => rfl) ?_
              refine Or.inr ⟨1, rfl, ?_⟩
              show RP 58 _ 4 [(0, .int a), (1, .int b)] [.int 1] _
              refine RP_step (pc1 := 11) (L1 := [(0, .int a), (1, .int b)]) (S1 := [.int 8, .int 1, .int b]) 4 0 (fun n => rfl) ?_
              refine RP_call 55 [.int b, .int 1, .int 8] (fun n => rfl) ?_
              show RP 55 _ 0 [(0, .int b), (1, .int 1), (2, .int 8)] [] _
              refine RP_step (pc1 := 2) (L1 := [(0, .int b), (1, .int 1), (2, .int 8)]) (S1 := [.int 1, .int b]) 2 0 (fun n => rfl) ?_
              refine RP_cond (decide (b < 1)) (fun n => rfl) (fun h => absurd (of_decide_eq_true h) (xi_nlt (x := b) (y := 1) (show 1 ≤ b.toInt by omega))) (fun _ => ?_)
              show RP 55 _ 5 [(0, .int b), (1, .int 1), (2, .int 8)] [] _
              refine RP_step (pc1 := 7) (L1 := [(0, .int b), (1, .int 1), (2, .int 8)]) (S1 := [.int 8, .int b]) 2 0 (fun n => rfl) ?_
              refine RP_cond (decide (8 < b)) (fun n => rfl) (fun h => absurd (of_decide_eq_true h) (xi_nlt (x := 8) (y := b) (show b.toInt ≤ 8 by omega))) (fun _ => ?_)
              show RP 55 _ 10 [(0, .int b), (1, .int 1), (2, .int 8)] [] _
              refine RP_done 5 (fun n => rfl) ?_
              refine Or.inr ⟨1, rfl, ?_⟩
              show RP 58 _ 14 [(0, .int a), (1, .int b)] [.int 1] _
              refine RP_step (pc1 := 19) (L1 := [(0, .int a), (1, .int b)]) (S1 := [.int b, .int a]) 3 0 (fun n => rfl) ?_
              refine RP_bin (fun x y => x + y) (fun n => rfl) ?_
              show RP 58 _ 20 [(0, .int a), (1, .int b)] [.int (a + b)] _
              refine RP_step (pc1 := 22) (L1 := [(0, .int a), (1, .int b)]) (S1 := [.int 16, .int (a + b)]) 1 0 (fun n => rfl) ?_
              refine RP_cond (decide (16 < (a + b))) (fun n => rfl) (fun _ => ?_) (fun h => absurd (xi_lt (x := 16) (y := (a + b)) (show 16 < (a + b).toInt by omega)) (of_decide_eq_false h))
              show RP 58 _ 29 [(0, .int a), (1, .int b)] [] _
              refine RP_done 4 (fun n => rfl) ?_
              refine Or.inr ⟨0, rfl, ?_⟩
              show RP 59 _ 324 [(0, .int 11), (1, .int a), (2, .int b), (3, .int c), (4, .int d)] [.int 0] _
              refine RP_done 5 (fun n => rfl) ?_
              exact ⟨rfl, rfl⟩
            · have h259 := of_decide_eq_false hh
              have h260 : (a + b).toInt ≤ 16 := xj_nlt h259
              show RP 24 _ 26 [(0, .int a), (1, .int b)] [] _
              refine RP_done 5 (fun n => rfl) ?_
              refine Or.inr ⟨1, rfl, ?_⟩
              show RP 25 _ 325 [(0, .int 11), (1, .int a), (2, .int b), (3, .int c), (4, .int d)] [.int 1] _
              refine RP_step (pc1 := 329) (L1 := [(0, .int 11), (1, .int a), (2, .int b), (3, .int c), (4, .int d)]) (S1 := [.int c]) 2 0 (fun n => rfl) ?_
              refine RP_cond (decide (c ≠ 0)) (fun n => rfl) (fun hh => ?_) (fun hh => ?_)
              · have h261 := of_decide_eq_true hh
                show RP 25 _ 341 [(0, .int 11), (1, .int a), (2, .int b), (3, .int c), (4, .int d)] [] _
                refine RP_done 4 (fun n => rfl) ?_
                refine ⟨Or.inl rfl, rfl, ?_⟩
                show RP 59 _ 0 [(0, .int 11), (1, .int a), (2, .int b), (3, .int c), (4, .int d)] [] _
                refine RP_step (pc1 := 321) (L1 := [(0, .int 11), (1, .int a), (2, .int b), (3, .int c), (4, .int d)]) (S1 := [.int b, .int a]) 4 0 (fun n => rfl) ?_
                refine RP_call 58 [.int a, .int b] (fun n => rfl) ?_
                show RP 58 _ 0 [(0, .int a), (1, .int b)] [] _
                refine RP_step (pc1 := 1) (L1 := [(0, .int a), (1, .int b)]) (S1 := [.int a]) 1 0 (fun n => rfl) ?_
                refine RP_call 57 [.int a] (fun n => rfl) ?_
                show RP 57 _ 0 [(0, .int a)] [] _
                refine RP_step (pc1 := 4) (L1 := [(0, .int a)]) (S1 := [.int 15, .int 0, .int a]) 3 0 (fun n => rfl) ?_
                refine RP_call 55 [.int a, .int 0, .int 15] (fun n => rfl) ?_
                show RP 55 _ 0 [(0, .int a), (1, .int 0), (2, .int 15)] [] _
                refine RP_step (pc1 := 2) (L1 := [(0, .int a), (1, .int 0), (2, .int 15)]) (S1 := [.int 0, .int a]) 2 0 (fun n => rfl) ?_
                refine RP_cond (decide (a < 0)) (fun n => rfl) (fun h => absurd (of_decide_eq_true h) (xi_nlt (x := a) (y := 0) (show 0 ≤ a.toInt by omega))) (fun _ => ?_)
                show RP 55 _ 5 [(0, .int a), (1, .int 0), (2, .int 15)] [] _
                refine RP_step (pc1 := 7) (L1 := [(0, .int a), (1, .int 0), (2, .int 15)]) (S1 := [.int 15, .int a]) 2 0 (fun n => rfl) ?_
                refine RP_cond (decide (15 < a)) (fun n => rfl) (fun h => absurd (of_decide_eq_true h) (xi_nlt (x := 15) (y := a) (show a.toInt ≤ 15 by omega))) (fun _ => ?_)
                show RP 55 _ 10 [(0, .int a), (1, .int 0), (2, .int 15)] [] _
                refine RP_done 5 (fun n => rfl) ?_
                refine Or.inr ⟨1, rfl, ?_⟩
                show RP 57 _ 7 [(0, .int a)] [.int 1] _
                refine RP_done 3 (fun n => rfl) ?_
                refine Or.inr ⟨1, rfl, ?_⟩
                show RP 58 _ 4 [(0, .int a), (1, .int b)] [.int 1] _
                refine RP_step (pc1 := 11) (L1 := [(0, .int a), (1, .int b)]) (S1 := [.int 8, .int 1, .int b]) 4 0 (fun n => rfl) ?_
                refine RP_call 55 [.int b, .int 1, .int 8] (fun n => rfl) ?_
                show RP 55 _ 0 [(0, .int b), (1, .int 1), (2, .int 8)] [] _
                refine RP_step (pc1 := 2) (L1 := [(0, .int b), (1, .int 1), (2, .int 8)]) (S1 := [.int 1, .int b]) 2 0 (fun n => rfl) ?_
                refine RP_cond (decide (b < 1)) (fun n => rfl) (fun h => absurd (of_decide_eq_true h) (xi_nlt (x := b) (y := 1) (show 1 ≤ b.toInt by omega))) (fun _ => ?_)
                show RP 55 _ 5 [(0, .int b), (1, .int 1), (2, .int 8)] [] _
                refine RP_step (pc1 := 7) (L1 := [(0, .int b), (1, .int 1), (2, .int 8)]) (S1 := [.int 8, .int b]) 2 0 (fun n => rfl) ?_
                refine RP_cond (decide (8 < b)) (fun n => rfl) (fun h => absurd (of_decide_eq_true h) (xi_nlt (x := 8) (y := b) (show b.toInt ≤ 8 by omega))) (fun _ => ?_)
                show RP 55 _ 10 [(0, .int b), (1, .int 1), (2, .int 8)] [] _
                refine RP_done 5 (fun n => rfl) ?_
                refine Or.inr ⟨1, rfl, ?_⟩
                show RP 58 _ 14 [(0, .int a), (1, .int b)] [.int 1] _
                refine RP_step (pc1 := 19) (L1 := [(0, .int a), (1, .int b)]) (S1 := [.int b, .int a]) 3 0 (fun n => rfl) ?_
                refine RP_bin (fun x y => x + y) (fun n => rfl) ?_
                show RP 58 _ 20 [(0, .int a), (1, .int b)] [.int (a + b)] _
                refine RP_step (pc1 := 22) (L1 := [(0, .int a), (1, .int b)]) (S1 := [.int 16, .int (a + b)]) 1 0 (fun n => rfl) ?_
                refine RP_cond (decide (16 < (a + b))) (fun n => rfl) (fun h => absurd (of_decide_eq_true h) (xi_nlt (x := 16) (y := (a + b)) (show (a + b).toInt ≤ 16 by omega))) (fun _ => ?_)
                show RP 58 _ 25 [(0, .int a), (1, .int b)] [] _
                refine RP_done 5 (fun n => rfl) ?_
                refine Or.inr ⟨1, rfl, ?_⟩
                show RP 59 _ 324 [(0, .int 11), (1, .int a), (2, .int b), (3, .int c), (4, .int d)] [.int 1] _
                refine RP_step (pc1 := 328) (L1 := [(0, .int 11), (1, .int a), (2, .int b), (3, .int c), (4, .int d)]) (S1 := [.int c]) 2 0 (fun n => rfl) ?_
                refine RP_cond (decide (c ≠ 0)) (fun n => rfl) (fun _ => ?_) (fun h => absurd (by assumption) (of_decide_eq_false h))
                show RP 59 _ 340 [(0, .int 11), (1, .int a), (2, .int b), (3, .int c), (4, .int d)] [] _
                refine RP_done 4 (fun n => rfl) ?_
                exact ⟨rfl, rfl⟩
              · have h262 := of_decide_eq_false hh
                replace h262 := Decidable.of_not_not h262
                clear hh
                subst h262
                show RP 25 _ 332 [(0, .int 11), (1, .int a), (2, .int b), (3, .int 0), (4, .int d)] [] _
                refine RP_step (pc1 := 334) (L1 := [(0, .int 11), (1, .int a), (2, .int b), (3, .int 0), (4, .int d)]) (S1 := [.int d]) 1 0 (fun n => rfl) ?_
                refine RP_cond (decide (d ≠ 0)) (fun n => rfl) (fun hh => ?_) (fun hh => ?_)
                · have h263 := of_decide_eq_true hh
                  show RP 25 _ 341 [(0, .int 11), (1, .int a), (2, .int b), (3, .int 0), (4, .int d)] [] _
                  refine RP_done 4 (fun n => rfl) ?_
                  refine ⟨Or.inl rfl, rfl, ?_⟩
                  show RP 59 _ 0 [(0, .int 11), (1, .int a), (2, .int b), (3, .int 0), (4, .int d)] [] _
                  refine RP_step (pc1 := 321) (L1 := [(0, .int 11), (1, .int a), (2, .int b), (3, .int 0), (4, .int d)]) (S1 := [.int b, .int a]) 4 0 (fun n => rfl) ?_
                  refine RP_call 58 [.int a, .int b] (fun n => rfl) ?_
                  show RP 58 _ 0 [(0, .int a), (1, .int b)] [] _
                  refine RP_step (pc1 := 1) (L1 := [(0, .int a), (1, .int b)]) (S1 := [.int a]) 1 0 (fun n => rfl) ?_
                  refine RP_call 57 [.int a] (fun n => rfl) ?_
                  show RP 57 _ 0 [(0, .int a)] [] _
                  refine RP_step (pc1 := 4) (L1 := [(0, .int a)]) (S1 := [.int 15, .int 0, .int a]) 3 0 (fun n => rfl) ?_
                  refine RP_call 55 [.int a, .int 0, .int 15] (fun n => rfl) ?_
                  show RP 55 _ 0 [(0, .int a), (1, .int 0), (2, .int 15)] [] _
                  refine RP_step (pc1 := 2) (L1 := [(0, .int a), (1, .int 0), (2, .int 15)]) (S1 := [.int 0, .int a]) 2 0 (fun n => rfl) ?_
                  refine RP_cond (decide (a < 0)) (fun n => rfl) (fun h => absurd (of_decide_eq_true h) (xi_nlt (x := a) (y := 0) (show 0 ≤ a.toInt by omega))) (fun _ => ?_)
                  show RP 55 _ 5 [(0, .int a), (1, .int 0), (2, .int 15)] [] _
                  refine RP_step (pc1 := 7) (L1 := [(0, .int a), (1, .int 0), (2, .int 15)]) (S1 := [.int 15, .int a]) 2 0 (fun n => rfl) ?_
                  refine RP_cond (decide (15 < a)) (fun n => rfl) (fun h => absurd (of_decide_eq_true h) (xi_nlt (x := 15) (y := a) (show a.toInt ≤ 15 by omega))) (fun _ => ?_)
                  show RP 55 _ 10 [(0, .int a), (1, .int 0), (2, .int 15)] [] _
                  refine RP_done 5 (fun n => rfl) ?_
                  refine Or.inr ⟨1, rfl, ?_⟩
                  show RP 57 _ 7 [(0, .int a)] [.int 1] _
                  refine RP_done 3 (fun n => rfl) ?_
                  refine Or.inr ⟨1, rfl, ?_⟩
                  show RP 58 _ 4 [(0, .int a), (1, .int b)] [.int 1] _
                  refine RP_step (pc1 := 11) (L1 := [(0, .int a), (1, .int b)]) (S1 := [.int 8, .int 1, .int b]) 4 0 (fun n => rfl) ?_
                  refine RP_call 55 [.int b, .int 1, .int 8] (fun n => rfl) ?_
                  show RP 55 _ 0 [(0, .int b), (1, .int 1), (2, .int 8)] [] _
                  refine RP_step (pc1 := 2) (L1 := [(0, .int b), (1, .int 1), (2, .int 8)]) (S1 := [.int 1, .int b]) 2 0 (fun n => rfl) ?_
                  refine RP_cond (decide (b < 1)) (fun n => rfl) (fun h => absurd (of_decide_eq_true h) (xi_nlt (x := b) (y := 1) (show 1 ≤ b.toInt by omega))) (fun _ => ?_)
                  show RP 55 _ 5 [(0, .int b), (1, .int 1), (2, .int 8)] [] _
                  refine RP_step (pc1 := 7) (L1 := [(0, .int b), (1, .int 1), (2, .int 8)]) (S1 := [.int 8, .int b]) 2 0 (fun n => rfl) ?_
                  refine RP_cond (decide (8 < b)) (fun n => rfl) (fun h => absurd (of_decide_eq_true h) (xi_nlt (x := 8) (y := b) (show b.toInt ≤ 8 by omega))) (fun _ => ?_)
                  show RP 55 _ 10 [(0, .int b), (1, .int 1), (2, .int 8)] [] _
                  refine RP_done 5 (fun n => rfl) ?_
                  refine Or.inr ⟨1, rfl, ?_⟩
                  show RP 58 _ 14 [(0, .int a), (1, .int b)] [.int 1] _
                  refine RP_step (pc1 := 19) (L1 := [(0, .int a), (1, .int b)]) (S1 := [.int b, .int a]) 3 0 (fun n => rfl) ?_
                  refine RP_bin (fun x y => x + y) (fun n => rfl) ?_
                  show RP 58 _ 20 [(0, .int a), (1, .int b)] [.int (a + b)] _
                  refine RP_step (pc1 := 22) (L1 := [(0, .int a), (1, .int b)]) (S1 := [.int 16, .int (a + b)]) 1 0 (fun n => rfl) ?_
                  refine RP_cond (decide (16 < (a + b))) (fun n => rfl) (fun h => absurd (of_decide_eq_true h) (xi_nlt (x := 16) (y := (a + b)) (show (a + b).toInt ≤ 16 by omega))) (fun _ => ?_)
                  show RP 58 _ 25 [(0, .int a), (1, .int b)] [] _
                  refine RP_done 5 (fun n => rfl) ?_
                  refine Or.inr ⟨1, rfl, ?_⟩
                  show RP 59 _ 324 [(0, .int 11), (1, .int a), (2, .int b), (3, .int 0), (4, .int d)] [.int 1] _
                  refine RP_step (pc1 := 333) (L1 := [(0, .int 11), (1, .int a), (2, .int b), (3, .int 0), (4, .int d)]) (S1 := [.int d]) 4 0 (fun n => rfl) ?_
                  refine RP_cond (decide (d ≠ 0)) (fun n => rfl) (fun _ => ?_) (fun h => absurd (by assumption) (of_decide_eq_false h))
                  show RP 59 _ 340 [(0, .int 11), (1, .int a), (2, .int b), (3, .int 0), (4, .int d)] [] _
                  refine RP_done 4 (fun n => rfl) ?_
                  exact ⟨rfl, rfl⟩
                · have h264 := of_decide_eq_false hh
                  replace h264 := Decidable.of_not_not h264
                  clear hh
                  subst h264
                  show RP 25 _ 337 [(0, .int 11), (1, .int a), (2, .int b), (3, .int 0), (4, .int 0)] [] _
                  refine RP_done 5 (fun n => rfl) ?_
                  refine ⟨Or.inr rfl, rfl, ?_⟩
                  show RP 59 _ 0 [(0, .int 11), (1, .int a), (2, .int b), (3, .int 0), (4, .int 0)] [] _
                  refine RP_step (pc1 := 321) (L1 := [(0, .int 11), (1, .int a), (2, .int b), (3, .int 0), (4, .int 0)]) (S1 := [.int b, .int a]) 4 0 (fun n => rfl) ?_
                  refine RP_call 58 [.int a, .int b] (fun n => rfl) ?_
                  show RP 58 _ 0 [(0, .int a), (1, .int b)] [] _
                  refine RP_step (pc1 := 1) (L1 := [(0, .int a), (1, .int b)]) (S1 := [.int a]) 1 0 (fun n => rfl) ?_
                  refine RP_call 57 [.int a] (fun n => rfl) ?_
                  show RP 57 _ 0 [(0, .int a)] [] _
                  refine RP_step (pc1 := 4) (L1 := [(0, .int a)]) (S1 := [.int 15, .int 0, .int a]) 3 0 (fun n => rfl) ?_
                  refine RP_call 55 [.int a, .int 0, .int 15] (fun n => rfl) ?_
                  show RP 55 _ 0 [(0, .int a), (1, .int 0), (2, .int 15)] [] _
                  refine RP_step (pc1 := 2) (L1 := [(0, .int a), (1, .int 0), (2, .int 15)]) (S1 := [.int 0, .int a]) 2 0 (fun n => rfl) ?_
                  refine RP_cond (decide (a < 0)) (fun n => rfl) (fun h => absurd (of_decide_eq_true h) (xi_nlt (x := a) (y := 0) (show 0 ≤ a.toInt by omega))) (fun _ => ?_)
                  show RP 55 _ 5 [(0, .int a), (1, .int 0), (2, .int 15)] [] _
                  refine RP_step (pc1 := 7) (L1 := [(0, .int a), (1, .int 0), (2, .int 15)]) (S1 := [.int 15, .int a]) 2 0 (fun n => rfl) ?_
                  refine RP_cond (decide (15 < a)) (fun n => rfl) (fun h => absurd (of_decide_eq_true h) (xi_nlt (x := 15) (y := a) (show a.toInt ≤ 15 by omega))) (fun _ => ?_)
                  show RP 55 _ 10 [(0, .int a), (1, .int 0), (2, .int 15)] [] _
                  refine RP_done 5 (fun n => rfl) ?_
                  refine Or.inr ⟨1, rfl, ?_⟩
                  show RP 57 _ 7 [(0, .int a)] [.int 1] _
                  refine RP_done 3 (fun n => rfl) ?_
                  refine Or.inr ⟨1, rfl, ?_⟩
                  show RP 58 _ 4 [(0, .int a), (1, .int b)] [.int 1] _
                  refine RP_step (pc1 := 11) (L1 := [(0, .int a), (1, .int b)]) (S1 := [.int 8, .int 1, .int b]) 4 0 (fun n => rfl) ?_
                  refine RP_call 55 [.int b, .int 1, .int 8] (fun n => rfl) ?_
                  show RP 55 _ 0 [(0, .int b), (1, .int 1), (2, .int 8)] [] _
                  refine RP_step (pc1 := 2) (L1 := [(0, .int b), (1, .int 1), (2, .int 8)]) (S1 := [.int 1, .int b]) 2 0 (fun n => rfl) ?_
                  refine RP_cond (decide (b < 1)) (fun n => rfl) (fun h => absurd (of_decide_eq_true h) (xi_nlt (x := b) (y := 1) (show 1 ≤ b.toInt by omega))) (fun _ => ?_)
                  show RP 55 _ 5 [(0, .int b), (1, .int 1), (2, .int 8)] [] _
                  refine RP_step (pc1 := 7) (L1 := [(0, .int b), (1, .int 1), (2, .int 8)]) (S1 := [.int 8, .int b]) 2 0 (fun n => rfl) ?_
                  refine RP_cond (decide (8 < b)) (fun n => rfl) (fun h => absurd (of_decide_eq_true h) (xi_nlt (x := 8) (y := b) (show b.toInt ≤ 8 by omega))) (fun _ => ?_)
                  show RP 55 _ 10 [(0, .int b), (1, .int 1), (2, .int 8)] [] _
                  refine RP_done 5 (fun n => rfl) ?_
                  refine Or.inr ⟨1, rfl, ?_⟩
                  show RP 58 _ 14 [(0, .int a), (1, .int b)] [.int 1] _
                  refine RP_step (pc1 := 19) (L1 := [(0, .int a), (1, .int b)]) (S1 := [.int b, .int a]) 3 0 (fun n => rfl) ?_
                  refine RP_bin (fun x y => x + y) (fun n => rfl) ?_
                  show RP 58 _ 20 [(0, .int a), (1, .int b)] [.int (a + b)] _
                  refine RP_step (pc1 := 22) (L1 := [(0, .int a), (1, .int b)]) (S1 := [.int 16, .int (a + b)]) 1 0 (fun n => rfl) ?_
                  refine RP_cond (decide (16 < (a + b))) (fun n => rfl) (fun h => absurd (of_decide_eq_true h) (xi_nlt (x := 16) (y := (a + b)) (show (a + b).toInt ≤ 16 by omega))) (fun _ => ?_)
                  show RP 58 _ 25 [(0, .int a), (1, .int b)] [] _
                  refine RP_done 5 (fun n => rfl) ?_
                  refine Or.inr ⟨1, rfl, ?_⟩
                  show RP 59 _ 324 [(0, .int 11), (1, .int a), (2, .int b), (3, .int 0), (4, .int 0)] [.int 1] _
                  refine RP_done 10 (fun n => rfl) ?_
                  exact ⟨rfl, rfl⟩
  · skip
    show RP 25 _ 0 [(0, .int op), (1, .int a), (2, .int b), (3, .int c), (4, .int d)] [] _
    refine RP_step (pc1 := 1) (L1 := [(0, .int op), (1, .int a), (2, .int b), (3, .int c), (4, .int d)]) (S1 := [.int op]) 1 0 (fun n => rfl) ?_
    refine RP_swo (dflt := 342) (lo := 0) (hi := 11) (offs := #[63, 96, 123, 152, 152, 178, 212, 241, 270, 296, 319, 319]) (fun n => rfl) ho (t := 343) rfl ?_
    show RP 25 _ 343 [(0, .int op), (1, .int a), (2, .int b), (3, .int c), (4, .int d)] [] _
    refine RP_done 4 (fun n => rfl) ?_
    refine ⟨Or.inl rfl, rfl, ?_⟩
    show RP 59 _ 0 [(0, .int op), (1, .int a), (2, .int b), (3, .int c), (4, .int d)] [] _
    refine RP_step (pc1 := 1) (L1 := [(0, .int op), (1, .int a), (2, .int b), (3, .int c), (4, .int d)]) (S1 := [.int op]) 1 0 (fun n => rfl) ?_
    refine RP_swo (dflt := 341) (lo := 0) (hi := 11) (offs := #[63, 96, 123, 152, 152, 178, 211, 240, 269, 295, 318, 318]) (fun n => rfl) ho (t := 342) rfl ?_
    show RP 59 _ 342 [(0, .int op), (1, .int a), (2, .int b), (3, .int c), (4, .int d)] [] _
    refine RP_done 4 (fun n => rfl) ?_
    exact ⟨rfl, rfl⟩
end
section
set_option maxHeartbeats 8000000 in
set_option maxRecDepth 1000000 in
theorem sm_0 (f op a b c d : Int32) : Same 0 61 [.int f, .int op, .int a, .int b, .int c, .int d] := by
  obtain ⟨m1, r1, C1, e1, hv, rfl, m2, r2, D1, e2, rfl, rfl⟩ := sm_told op a b c d Cx Cm
  refine Same_of ?_
  rcases hv with rfl | rfl
  · skip
    show RP 0 _ 0 [(0, .ref 0), (1, .int f), (2, .int op), (3, .int a), (4, .int b), (5, .int c), (6, .int d)] [] _
    refine RP_step (pc1 := 1) (L1 := [(0, .ref 0), (1, .int f), (2, .int op), (3, .int a), (4, .int b), (5, .int c), (6, .int d)]) (S1 := [.int f]) 1 0 (fun n => rfl) ?_
    refine RP_call 22 [.int f] (fun n => rfl) ?_
    show RP 22 _ 0 [(0, .int f)] [] _
    refine RP_step (pc1 := 1) (L1 := [(0, .int f)]) (S1 := [.int f]) 1 0 (fun n => rfl) ?_
    refine RP_cond (decide (f < 0)) (fun n => rfl) (fun hh => ?_) (fun hh => ?_)
    · have h1 := of_decide_eq_true hh
      have h2 : f.toInt < 0 := xj_lt h1
      show RP 22 _ 14 [(0, .int f)] [] _
      refine RP_done 4 (fun n => rfl) ?_
      refine Or.inr ⟨0, rfl, ?_⟩
      show RP 0 _ 4 [(0, .ref 0), (1, .int f), (2, .int op), (3, .int a), (4, .int b), (5, .int c), (6, .int d)] [.int 0] _
      refine RP_done 5 (fun n => rfl) ?_
      show RP 61 _ 0 [(0, .ref 0), (1, .int f), (2, .int op), (3, .int a), (4, .int b), (5, .int c), (6, .int d)] [] _
      refine RP_step (pc1 := 1) (L1 := [(0, .ref 0), (1, .int f), (2, .int op), (3, .int a), (4, .int b), (5, .int c), (6, .int d)]) (S1 := [.int f]) 1 0 (fun n => rfl) ?_
      refine RP_call 56 [.int f] (fun n => rfl) ?_
      show RP 56 _ 0 [(0, .int f)] [] _
      refine RP_step (pc1 := 3) (L1 := [(0, .int f)]) (S1 := [.int 5, .int 0, .int f]) 3 0 (fun n => rfl) ?_
      refine RP_call 55 [.int f, .int 0, .int 5] (fun n => rfl) ?_
      show RP 55 _ 0 [(0, .int f), (1, .int 0), (2, .int 5)] [] _
      refine RP_step (pc1 := 2) (L1 := [(0, .int f), (1, .int 0), (2, .int 5)]) (S1 := [.int 0, .int f]) 2 0 (fun n => rfl) ?_
      refine RP_cond (decide (f < 0)) (fun n => rfl) (fun _ => ?_) (fun h => absurd (xi_lt (x := f) (y := 0) (show f.toInt < 0 by omega)) (of_decide_eq_false h))
      show RP 55 _ 14 [(0, .int f), (1, .int 0), (2, .int 5)] [] _
      refine RP_done 4 (fun n => rfl) ?_
      refine Or.inr ⟨0, rfl, ?_⟩
      show RP 56 _ 6 [(0, .int f)] [.int 0] _
      refine RP_done 3 (fun n => rfl) ?_
      refine Or.inr ⟨0, rfl, ?_⟩
      show RP 61 _ 4 [(0, .ref 0), (1, .int f), (2, .int op), (3, .int a), (4, .int b), (5, .int c), (6, .int d)] [.int 0] _
      refine RP_done 5 (fun n => rfl) ?_
      exact ⟨rfl, _, rfl⟩
    · have h3 := of_decide_eq_false hh
      have h4 : 0 ≤ f.toInt := xj_nlt h3
      show RP 22 _ 4 [(0, .int f)] [] _
      refine RP_step (pc1 := 7) (L1 := [(0, .int f)]) (S1 := [.int 6, .int f]) 2 0 (fun n => rfl) ?_
      refine RP_cond (decide (6 ≤ f)) (fun n => rfl) (fun hh => ?_) (fun hh => ?_)
      · have h5 := of_decide_eq_true hh
        have h6 : 6 ≤ f.toInt := xj_le h5
        show RP 22 _ 14 [(0, .int f)] [] _
        refine RP_done 4 (fun n => rfl) ?_
        refine Or.inr ⟨0, rfl, ?_⟩
        show RP 0 _ 4 [(0, .ref 0), (1, .int f), (2, .int op), (3, .int a), (4, .int b), (5, .int c), (6, .int d)] [.int 0] _
        refine RP_done 5 (fun n => rfl) ?_
        show RP 61 _ 0 [(0, .ref 0), (1, .int f), (2, .int op), (3, .int a), (4, .int b), (5, .int c), (6, .int d)] [] _
        refine RP_step (pc1 := 1) (L1 := [(0, .ref 0), (1, .int f), (2, .int op), (3, .int a), (4, .int b), (5, .int c), (6, .int d)]) (S1 := [.int f]) 1 0 (fun n => rfl) ?_
        refine RP_call 56 [.int f] (fun n => rfl) ?_
        show RP 56 _ 0 [(0, .int f)] [] _
        refine RP_step (pc1 := 3) (L1 := [(0, .int f)]) (S1 := [.int 5, .int 0, .int f]) 3 0 (fun n => rfl) ?_
        refine RP_call 55 [.int f, .int 0, .int 5] (fun n => rfl) ?_
        show RP 55 _ 0 [(0, .int f), (1, .int 0), (2, .int 5)] [] _
        refine RP_step (pc1 := 2) (L1 := [(0, .int f), (1, .int 0), (2, .int 5)]) (S1 := [.int 0, .int f]) 2 0 (fun n => rfl) ?_
        refine RP_cond (decide (f < 0)) (fun n => rfl) (fun h => absurd (of_decide_eq_true h) (xi_nlt (x := f) (y := 0) (show 0 ≤ f.toInt by omega))) (fun _ => ?_)
        show RP 55 _ 5 [(0, .int f), (1, .int 0), (2, .int 5)] [] _
        refine RP_step (pc1 := 7) (L1 := [(0, .int f), (1, .int 0), (2, .int 5)]) (S1 := [.int 5, .int f]) 2 0 (fun n => rfl) ?_
        refine RP_cond (decide (5 < f)) (fun n => rfl) (fun _ => ?_) (fun h => absurd (xi_lt (x := 5) (y := f) (show 5 < f.toInt by omega)) (of_decide_eq_false h))
        show RP 55 _ 14 [(0, .int f), (1, .int 0), (2, .int 5)] [] _
        refine RP_done 4 (fun n => rfl) ?_
        refine Or.inr ⟨0, rfl, ?_⟩
        show RP 56 _ 6 [(0, .int f)] [.int 0] _
        refine RP_done 3 (fun n => rfl) ?_
        refine Or.inr ⟨0, rfl, ?_⟩
        show RP 61 _ 4 [(0, .ref 0), (1, .int f), (2, .int op), (3, .int a), (4, .int b), (5, .int c), (6, .int d)] [.int 0] _
        refine RP_done 5 (fun n => rfl) ?_
        exact ⟨rfl, _, rfl⟩
      · have h7 := of_decide_eq_false hh
        have h8 : f.toInt < 6 := xj_nle h7
        show RP 22 _ 10 [(0, .int f)] [] _
        refine RP_done 5 (fun n => rfl) ?_
        refine Or.inr ⟨1, rfl, ?_⟩
        show RP 0 _ 4 [(0, .ref 0), (1, .int f), (2, .int op), (3, .int a), (4, .int b), (5, .int c), (6, .int d)] [.int 1] _
        refine RP_step (pc1 := 15) (L1 := [(0, .ref 0), (1, .int f), (2, .int op), (3, .int a), (4, .int b), (5, .int c), (6, .int d)]) (S1 := [.int f, .ref 2]) 5 0 (fun n => rfl) ?_
        rcases (show f.toInt = 0 ∨ f.toInt = 1 ∨ f.toInt = 2 ∨ f.toInt = 3 ∨ f.toInt = 4 ∨ f.toInt = 5 by omega) with e9 | e9 | e9 | e9 | e9 | e9
        · obtain rfl : f = 0 := xi_eq e9
          show RP 0 _ 15 [(0, .ref 0), (1, .int 0), (2, .int op), (3, .int a), (4, .int b), (5, .int c), (6, .int d)] [.int 0, .ref 2] _
          refine RP_step (pc1 := 29) (L1 := [(0, .ref 0), (1, .int 0), (2, .int op), (3, .int a), (4, .int b), (5, .int c), (6, .int d)]) (S1 := [.int d, .int c, .int b, .int a, .int op]) 8 0 (fun n => rfl) ?_
          refine RP_call 25 [.int op, .int a, .int b, .int c, .int d] (fun n => rfl) ?_
          refine ⟨_, _, _, e1, Or.inr ⟨0, rfl, ?_⟩⟩
          show RP 0 _ 32 [(0, .ref 0), (1, .int 0), (2, .int op), (3, .int a), (4, .int b), (5, .int c), (6, .int d)] [.int 0] _
          refine RP_done 5 (fun n => rfl) ?_
          show RP 61 _ 0 [(0, .ref 0), (1, .int 0), (2, .int op), (3, .int a), (4, .int b), (5, .int c), (6, .int d)] [] _
          refine RP_step (pc1 := 1) (L1 := [(0, .ref 0), (1, .int 0), (2, .int op), (3, .int a), (4, .int b), (5, .int c), (6, .int d)]) (S1 := [.int 0]) 1 0 (fun n => rfl) ?_
          refine RP_call 56 [.int 0] (fun n => rfl) ?_
          show RP 56 _ 0 [(0, .int 0)] [] _
          refine RP_done 15 (fun n => rfl) ?_
          refine Or.inr ⟨1, rfl, ?_⟩
          show RP 61 _ 4 [(0, .ref 0), (1, .int 0), (2, .int op), (3, .int a), (4, .int b), (5, .int c), (6, .int d)] [.int 1] _
          refine RP_step (pc1 := 26) (L1 := [(0, .ref 0), (1, .int 0), (2, .int op), (3, .int a), (4, .int b), (5, .int c), (6, .int d)]) (S1 := [.int d, .int c, .int b, .int a, .int op]) 12 0 (fun n => rfl) ?_
          refine RP_call 59 [.int op, .int a, .int b, .int c, .int d] (fun n => rfl) ?_
          refine ⟨_, _, _, e2, Or.inr ⟨0, rfl, ?_⟩⟩
          show RP 61 _ 29 [(0, .ref 0), (1, .int 0), (2, .int op), (3, .int a), (4, .int b), (5, .int c), (6, .int d)] [.int 0] _
          refine RP_done 5 (fun n => rfl) ?_
          exact ⟨rfl, _, rfl⟩
        · obtain rfl : f = 1 := xi_eq e9
          show RP 0 _ 15 [(0, .ref 0), (1, .int 1), (2, .int op), (3, .int a), (4, .int b), (5, .int c), (6, .int d)] [.int 1, .ref 2] _
          refine RP_step (pc1 := 29) (L1 := [(0, .ref 0), (1, .int 1), (2, .int op), (3, .int a), (4, .int b), (5, .int c), (6, .int d)]) (S1 := [.int d, .int c, .int b, .int a, .int op]) 8 0 (fun n => rfl) ?_
          refine RP_call 25 [.int op, .int a, .int b, .int c, .int d] (fun n => rfl) ?_
          refine ⟨_, _, _, e1, Or.inr ⟨0, rfl, ?_⟩⟩
          show RP 0 _ 32 [(0, .ref 0), (1, .int 1), (2, .int op), (3, .int a), (4, .int b), (5, .int c), (6, .int d)] [.int 0] _
          refine RP_done 5 (fun n => rfl) ?_
          show RP 61 _ 0 [(0, .ref 0), (1, .int 1), (2, .int op), (3, .int a), (4, .int b), (5, .int c), (6, .int d)] [] _
          refine RP_step (pc1 := 1) (L1 := [(0, .ref 0), (1, .int 1), (2, .int op), (3, .int a), (4, .int b), (5, .int c), (6, .int d)]) (S1 := [.int 1]) 1 0 (fun n => rfl) ?_
          refine RP_call 56 [.int 1] (fun n => rfl) ?_
          show RP 56 _ 0 [(0, .int 1)] [] _
          refine RP_done 15 (fun n => rfl) ?_
          refine Or.inr ⟨1, rfl, ?_⟩
          show RP 61 _ 4 [(0, .ref 0), (1, .int 1), (2, .int op), (3, .int a), (4, .int b), (5, .int c), (6, .int d)] [.int 1] _
          refine RP_step (pc1 := 26) (L1 := [(0, .ref 0), (1, .int 1), (2, .int op), (3, .int a), (4, .int b), (5, .int c), (6, .int d)]) (S1 := [.int d, .int c, .int b, .int a, .int op]) 12 0 (fun n => rfl) ?_
          refine RP_call 59 [.int op, .int a, .int b, .int c, .int d] (fun n => rfl) ?_
          refine ⟨_, _, _, e2, Or.inr ⟨0, rfl, ?_⟩⟩
          show RP 61 _ 29 [(0, .ref 0), (1, .int 1), (2, .int op), (3, .int a), (4, .int b), (5, .int c), (6, .int d)] [.int 0] _
          refine RP_done 5 (fun n => rfl) ?_
          exact ⟨rfl, _, rfl⟩
        · obtain rfl : f = 2 := xi_eq e9
          show RP 0 _ 15 [(0, .ref 0), (1, .int 2), (2, .int op), (3, .int a), (4, .int b), (5, .int c), (6, .int d)] [.int 2, .ref 2] _
          refine RP_step (pc1 := 29) (L1 := [(0, .ref 0), (1, .int 2), (2, .int op), (3, .int a), (4, .int b), (5, .int c), (6, .int d)]) (S1 := [.int d, .int c, .int b, .int a, .int op]) 8 0 (fun n => rfl) ?_
          refine RP_call 25 [.int op, .int a, .int b, .int c, .int d] (fun n => rfl) ?_
          refine ⟨_, _, _, e1, Or.inr ⟨0, rfl, ?_⟩⟩
          show RP 0 _ 32 [(0, .ref 0), (1, .int 2), (2, .int op), (3, .int a), (4, .int b), (5, .int c), (6, .int d)] [.int 0] _
          refine RP_done 5 (fun n => rfl) ?_
          show RP 61 _ 0 [(0, .ref 0), (1, .int 2), (2, .int op), (3, .int a), (4, .int b), (5, .int c), (6, .int d)] [] _
          refine RP_step (pc1 := 1) (L1 := [(0, .ref 0), (1, .int 2), (2, .int op), (3, .int a), (4, .int b), (5, .int c), (6, .int d)]) (S1 := [.int 2]) 1 0 (fun n => rfl) ?_
          refine RP_call 56 [.int 2] (fun n => rfl) ?_
          show RP 56 _ 0 [(0, .int 2)] [] _
          refine RP_done 15 (fun n => rfl) ?_
          refine Or.inr ⟨1, rfl, ?_⟩
          show RP 61 _ 4 [(0, .ref 0), (1, .int 2), (2, .int op), (3, .int a), (4, .int b), (5, .int c), (6, .int d)] [.int 1] _
          refine RP_step (pc1 := 26) (L1 := [(0, .ref 0), (1, .int 2), (2, .int op), (3, .int a), (4, .int b), (5, .int c), (6, .int d)]) (S1 := [.int d, .int c, .int b, .int a, .int op]) 12 0 (fun n => rfl) ?_
          refine RP_call 59 [.int op, .int a, .int b, .int c, .int d] (fun n => rfl) ?_
          refine ⟨_, _, _, e2, Or.inr ⟨0, rfl, ?_⟩⟩
          show RP 61 _ 29 [(0, .ref 0), (1, .int 2), (2, .int op), (3, .int a), (4, .int b), (5, .int c), (6, .int d)] [.int 0] _
          refine RP_done 5 (fun n => rfl) ?_
          exact ⟨rfl, _, rfl⟩
        · obtain rfl : f = 3 := xi_eq e9
          show RP 0 _ 15 [(0, .ref 0), (1, .int 3), (2, .int op), (3, .int a), (4, .int b), (5, .int c), (6, .int d)] [.int 3, .ref 2] _
          refine RP_step (pc1 := 29) (L1 := [(0, .ref 0), (1, .int 3), (2, .int op), (3, .int a), (4, .int b), (5, .int c), (6, .int d)]) (S1 := [.int d, .int c, .int b, .int a, .int op]) 8 0 (fun n => rfl) ?_
          refine RP_call 25 [.int op, .int a, .int b, .int c, .int d] (fun n => rfl) ?_
          refine ⟨_, _, _, e1, Or.inr ⟨0, rfl, ?_⟩⟩
          show RP 0 _ 32 [(0, .ref 0), (1, .int 3), (2, .int op), (3, .int a), (4, .int b), (5, .int c), (6, .int d)] [.int 0] _
          refine RP_done 5 (fun n => rfl) ?_
          show RP 61 _ 0 [(0, .ref 0), (1, .int 3), (2, .int op), (3, .int a), (4, .int b), (5, .int c), (6, .int d)] [] _
          refine RP_step (pc1 := 1) (L1 := [(0, .ref 0), (1, .int 3), (2, .int op), (3, .int a), (4, .int b), (5, .int c), (6, .int d)]) (S1 := [.int 3]) 1 0 (fun n => rfl) ?_
          refine RP_call 56 [.int 3] (fun n => rfl) ?_
          show RP 56 _ 0 [(0, .int 3)] [] _
          refine RP_done 15 (fun n => rfl) ?_
          refine Or.inr ⟨1, rfl, ?_⟩
          show RP 61 _ 4 [(0, .ref 0), (1, .int 3), (2, .int op), (3, .int a), (4, .int b), (5, .int c), (6, .int d)] [.int 1] _
          refine RP_step (pc1 := 26) (L1 := [(0, .ref 0), (1, .int 3), (2, .int op), (3, .int a), (4, .int b), (5, .int c), (6, .int d)]) (S1 := [.int d, .int c, .int b, .int a, .int op]) 12 0 (fun n => rfl) ?_
          refine RP_call 59 [.int op, .int a, .int b, .int c, .int d] (fun n => rfl) ?_
          refine ⟨_, _, _, e2, Or.inr ⟨0, rfl, ?_⟩⟩
          show RP 61 _ 29 [(0, .ref 0), (1, .int 3), (2, .int op), (3, .int a), (4, .int b), (5, .int c), (6, .int d)] [.int 0] _
          refine RP_done 5 (fun n => rfl) ?_
          exact ⟨rfl, _, rfl⟩
        · obtain rfl : f = 4 := xi_eq e9
          show RP 0 _ 15 [(0, .ref 0), (1, .int 4), (2, .int op), (3, .int a), (4, .int b), (5, .int c), (6, .int d)] [.int 4, .ref 2] _
          refine RP_step (pc1 := 29) (L1 := [(0, .ref 0), (1, .int 4), (2, .int op), (3, .int a), (4, .int b), (5, .int c), (6, .int d)]) (S1 := [.int d, .int c, .int b, .int a, .int op]) 8 0 (fun n => rfl) ?_
          refine RP_call 25 [.int op, .int a, .int b, .int c, .int d] (fun n => rfl) ?_
          refine ⟨_, _, _, e1, Or.inr ⟨0, rfl, ?_⟩⟩
          show RP 0 _ 32 [(0, .ref 0), (1, .int 4), (2, .int op), (3, .int a), (4, .int b), (5, .int c), (6, .int d)] [.int 0] _
          refine RP_done 5 (fun n => rfl) ?_
          show RP 61 _ 0 [(0, .ref 0), (1, .int 4), (2, .int op), (3, .int a), (4, .int b), (5, .int c), (6, .int d)] [] _
          refine RP_step (pc1 := 1) (L1 := [(0, .ref 0), (1, .int 4), (2, .int op), (3, .int a), (4, .int b), (5, .int c), (6, .int d)]) (S1 := [.int 4]) 1 0 (fun n => rfl) ?_
          refine RP_call 56 [.int 4] (fun n => rfl) ?_
          show RP 56 _ 0 [(0, .int 4)] [] _
          refine RP_done 15 (fun n => rfl) ?_
          refine Or.inr ⟨1, rfl, ?_⟩
          show RP 61 _ 4 [(0, .ref 0), (1, .int 4), (2, .int op), (3, .int a), (4, .int b), (5, .int c), (6, .int d)] [.int 1] _
          refine RP_step (pc1 := 26) (L1 := [(0, .ref 0), (1, .int 4), (2, .int op), (3, .int a), (4, .int b), (5, .int c), (6, .int d)]) (S1 := [.int d, .int c, .int b, .int a, .int op]) 12 0 (fun n => rfl) ?_
          refine RP_call 59 [.int op, .int a, .int b, .int c, .int d] (fun n => rfl) ?_
          refine ⟨_, _, _, e2, Or.inr ⟨0, rfl, ?_⟩⟩
          show RP 61 _ 29 [(0, .ref 0), (1, .int 4), (2, .int op), (3, .int a), (4, .int b), (5, .int c), (6, .int d)] [.int 0] _
          refine RP_done 5 (fun n => rfl) ?_
          exact ⟨rfl, _, rfl⟩
        · obtain rfl : f = 5 := xi_eq e9
          show RP 0 _ 15 [(0, .ref 0), (1, .int 5), (2, .int op), (3, .int a), (4, .int b), (5, .int c), (6, .int d)] [.int 5, .ref 2] _
          refine RP_step (pc1 := 29) (L1 := [(0, .ref 0), (1, .int 5), (2, .int op), (3, .int a), (4, .int b), (5, .int c), (6, .int d)]) (S1 := [.int d, .int c, .int b, .int a, .int op]) 8 0 (fun n => rfl) ?_
          refine RP_call 25 [.int op, .int a, .int b, .int c, .int d] (fun n => rfl) ?_
          refine ⟨_, _, _, e1, Or.inr ⟨0, rfl, ?_⟩⟩
          show RP 0 _ 32 [(0, .ref 0), (1, .int 5), (2, .int op), (3, .int a), (4, .int b), (5, .int c), (6, .int d)] [.int 0] _
          refine RP_done 5 (fun n => rfl) ?_
          show RP 61 _ 0 [(0, .ref 0), (1, .int 5), (2, .int op), (3, .int a), (4, .int b), (5, .int c), (6, .int d)] [] _
          refine RP_step (pc1 := 1) (L1 := [(0, .ref 0), (1, .int 5), (2, .int op), (3, .int a), (4, .int b), (5, .int c), (6, .int d)]) (S1 := [.int 5]) 1 0 (fun n => rfl) ?_
          refine RP_call 56 [.int 5] (fun n => rfl) ?_
          show RP 56 _ 0 [(0, .int 5)] [] _
          refine RP_done 15 (fun n => rfl) ?_
          refine Or.inr ⟨1, rfl, ?_⟩
          show RP 61 _ 4 [(0, .ref 0), (1, .int 5), (2, .int op), (3, .int a), (4, .int b), (5, .int c), (6, .int d)] [.int 1] _
          refine RP_step (pc1 := 26) (L1 := [(0, .ref 0), (1, .int 5), (2, .int op), (3, .int a), (4, .int b), (5, .int c), (6, .int d)]) (S1 := [.int d, .int c, .int b, .int a, .int op]) 12 0 (fun n => rfl) ?_
          refine RP_call 59 [.int op, .int a, .int b, .int c, .int d] (fun n => rfl) ?_
          refine ⟨_, _, _, e2, Or.inr ⟨0, rfl, ?_⟩⟩
          show RP 61 _ 29 [(0, .ref 0), (1, .int 5), (2, .int op), (3, .int a), (4, .int b), (5, .int c), (6, .int d)] [.int 0] _
          refine RP_done 5 (fun n => rfl) ?_
          exact ⟨rfl, _, rfl⟩
  · skip
    show RP 0 _ 0 [(0, .ref 0), (1, .int f), (2, .int op), (3, .int a), (4, .int b), (5, .int c), (6, .int d)] [] _
    refine RP_step (pc1 := 1) (L1 := [(0, .ref 0), (1, .int f), (2, .int op), (3, .int a), (4, .int b), (5, .int c), (6, .int d)]) (S1 := [.int f]) 1 0 (fun n => rfl) ?_
    refine RP_call 22 [.int f] (fun n => rfl) ?_
    show RP 22 _ 0 [(0, .int f)] [] _
    refine RP_step (pc1 := 1) (L1 := [(0, .int f)]) (S1 := [.int f]) 1 0 (fun n => rfl) ?_
    refine RP_cond (decide (f < 0)) (fun n => rfl) (fun hh => ?_) (fun hh => ?_)
    · have h9 := of_decide_eq_true hh
      have h10 : f.toInt < 0 := xj_lt h9
      show RP 22 _ 14 [(0, .int f)] [] _
      refine RP_done 4 (fun n => rfl) ?_
      refine Or.inr ⟨0, rfl, ?_⟩
      show RP 0 _ 4 [(0, .ref 0), (1, .int f), (2, .int op), (3, .int a), (4, .int b), (5, .int c), (6, .int d)] [.int 0] _
      refine RP_done 5 (fun n => rfl) ?_
      show RP 61 _ 0 [(0, .ref 0), (1, .int f), (2, .int op), (3, .int a), (4, .int b), (5, .int c), (6, .int d)] [] _
      refine RP_step (pc1 := 1) (L1 := [(0, .ref 0), (1, .int f), (2, .int op), (3, .int a), (4, .int b), (5, .int c), (6, .int d)]) (S1 := [.int f]) 1 0 (fun n => rfl) ?_
      refine RP_call 56 [.int f] (fun n => rfl) ?_
      show RP 56 _ 0 [(0, .int f)] [] _
      refine RP_step (pc1 := 3) (L1 := [(0, .int f)]) (S1 := [.int 5, .int 0, .int f]) 3 0 (fun n => rfl) ?_
      refine RP_call 55 [.int f, .int 0, .int 5] (fun n => rfl) ?_
      show RP 55 _ 0 [(0, .int f), (1, .int 0), (2, .int 5)] [] _
      refine RP_step (pc1 := 2) (L1 := [(0, .int f), (1, .int 0), (2, .int 5)]) (S1 := [.int 0, .int f]) 2 0 (fun n => rfl) ?_
      refine RP_cond (decide (f < 0)) (fun n => rfl) (fun _ => ?_) (fun h => absurd (xi_lt (x := f) (y := 0) (show f.toInt < 0 by omega)) (of_decide_eq_false h))
      show RP 55 _ 14 [(0, .int f), (1, .int 0), (2, .int 5)] [] _
      refine RP_done 4 (fun n => rfl) ?_
      refine Or.inr ⟨0, rfl, ?_⟩
      show RP 56 _ 6 [(0, .int f)] [.int 0] _
      refine RP_done 3 (fun n => rfl) ?_
      refine Or.inr ⟨0, rfl, ?_⟩
      show RP 61 _ 4 [(0, .ref 0), (1, .int f), (2, .int op), (3, .int a), (4, .int b), (5, .int c), (6, .int d)] [.int 0] _
      refine RP_done 5 (fun n => rfl) ?_
      exact ⟨rfl, _, rfl⟩
    · have h11 := of_decide_eq_false hh
      have h12 : 0 ≤ f.toInt := xj_nlt h11
      show RP 22 _ 4 [(0, .int f)] [] _
      refine RP_step (pc1 := 7) (L1 := [(0, .int f)]) (S1 := [.int 6, .int f]) 2 0 (fun n => rfl) ?_
      refine RP_cond (decide (6 ≤ f)) (fun n => rfl) (fun hh => ?_) (fun hh => ?_)
      · have h13 := of_decide_eq_true hh
        have h14 : 6 ≤ f.toInt := xj_le h13
        show RP 22 _ 14 [(0, .int f)] [] _
        refine RP_done 4 (fun n => rfl) ?_
        refine Or.inr ⟨0, rfl, ?_⟩
        show RP 0 _ 4 [(0, .ref 0), (1, .int f), (2, .int op), (3, .int a), (4, .int b), (5, .int c), (6, .int d)] [.int 0] _
        refine RP_done 5 (fun n => rfl) ?_
        show RP 61 _ 0 [(0, .ref 0), (1, .int f), (2, .int op), (3, .int a), (4, .int b), (5, .int c), (6, .int d)] [] _
        refine RP_step (pc1 := 1) (L1 := [(0, .ref 0), (1, .int f), (2, .int op), (3, .int a), (4, .int b), (5, .int c), (6, .int d)]) (S1 := [.int f]) 1 0 (fun n => rfl) ?_
        refine RP_call 56 [.int f] (fun n => rfl) ?_
        show RP 56 _ 0 [(0, .int f)] [] _
        refine RP_step (pc1 := 3) (L1 := [(0, .int f)]) (S1 := [.int 5, .int 0, .int f]) 3 0 (fun n => rfl) ?_
        refine RP_call 55 [.int f, .int 0, .int 5] (fun n => rfl) ?_
        show RP 55 _ 0 [(0, .int f), (1, .int 0), (2, .int 5)] [] _
        refine RP_step (pc1 := 2) (L1 := [(0, .int f), (1, .int 0), (2, .int 5)]) (S1 := [.int 0, .int f]) 2 0 (fun n => rfl) ?_
        refine RP_cond (decide (f < 0)) (fun n => rfl) (fun h => absurd (of_decide_eq_true h) (xi_nlt (x := f) (y := 0) (show 0 ≤ f.toInt by omega))) (fun _ => ?_)
        show RP 55 _ 5 [(0, .int f), (1, .int 0), (2, .int 5)] [] _
        refine RP_step (pc1 := 7) (L1 := [(0, .int f), (1, .int 0), (2, .int 5)]) (S1 := [.int 5, .int f]) 2 0 (fun n => rfl) ?_
        refine RP_cond (decide (5 < f)) (fun n => rfl) (fun _ => ?_) (fun h => absurd (xi_lt (x := 5) (y := f) (show 5 < f.toInt by omega)) (of_decide_eq_false h))
        show RP 55 _ 14 [(0, .int f), (1, .int 0), (2, .int 5)] [] _
        refine RP_done 4 (fun n => rfl) ?_
        refine Or.inr ⟨0, rfl, ?_⟩
        show RP 56 _ 6 [(0, .int f)] [.int 0] _
        refine RP_done 3 (fun n => rfl) ?_
        refine Or.inr ⟨0, rfl, ?_⟩
        show RP 61 _ 4 [(0, .ref 0), (1, .int f), (2, .int op), (3, .int a), (4, .int b), (5, .int c), (6, .int d)] [.int 0] _
        refine RP_done 5 (fun n => rfl) ?_
        exact ⟨rfl, _, rfl⟩
      · have h15 := of_decide_eq_false hh
        have h16 : f.toInt < 6 := xj_nle h15
        show RP 22 _ 10 [(0, .int f)] [] _
        refine RP_done 5 (fun n => rfl) ?_
        refine Or.inr ⟨1, rfl, ?_⟩
        show RP 0 _ 4 [(0, .ref 0), (1, .int f), (2, .int op), (3, .int a), (4, .int b), (5, .int c), (6, .int d)] [.int 1] _
        refine RP_step (pc1 := 15) (L1 := [(0, .ref 0), (1, .int f), (2, .int op), (3, .int a), (4, .int b), (5, .int c), (6, .int d)]) (S1 := [.int f, .ref 2]) 5 0 (fun n => rfl) ?_
        rcases (show f.toInt = 0 ∨ f.toInt = 1 ∨ f.toInt = 2 ∨ f.toInt = 3 ∨ f.toInt = 4 ∨ f.toInt = 5 by omega) with e9 | e9 | e9 | e9 | e9 | e9
        · obtain rfl : f = 0 := xi_eq e9
          show RP 0 _ 15 [(0, .ref 0), (1, .int 0), (2, .int op), (3, .int a), (4, .int b), (5, .int c), (6, .int d)] [.int 0, .ref 2] _
          refine RP_step (pc1 := 29) (L1 := [(0, .ref 0), (1, .int 0), (2, .int op), (3, .int a), (4, .int b), (5, .int c), (6, .int d)]) (S1 := [.int d, .int c, .int b, .int a, .int op]) 8 0 (fun n => rfl) ?_
          refine RP_call 25 [.int op, .int a, .int b, .int c, .int d] (fun n => rfl) ?_
          refine ⟨_, _, _, e1, Or.inr ⟨1, rfl, ?_⟩⟩
          show RP 0 _ 32 [(0, .ref 0), (1, .int 0), (2, .int op), (3, .int a), (4, .int b), (5, .int c), (6, .int d)] [.int 1] _
          refine RP_step (pc1 := 59) (L1 := [(0, .ref 0), (1, .int 0), (2, .int op), (3, .int a), (4, .int b), (5, .int c), (6, .int d)]) (S1 := [.int d, .int c, .int b, .int a, .int op, .int 0, .int 0, .ref 1]) 14 0 (fun n => rfl) ?_
          refine RP_call 29 [.ref 1, .int 0, .int 0, .int op, .int a, .int b, .int c, .int d] (fun n => rfl) ?_
          show RP 29 _ 0 [(0, .ref 1), (1, .int 0), (2, .int 0), (3, .int op), (4, .int a), (5, .int b), (6, .int c), (7, .int d)] [] _
          refine RP_step (pc1 := 2) (L1 := [(0, .ref 1), (1, .int 0), (2, .int 0), (3, .int op), (4, .int a), (5, .int b), (6, .int c), (7, .int d)]) (S1 := [.int 0, .int 0]) 2 0 (fun n => rfl) ?_
          refine RP_call 26 [.int 0, .int 0] (fun n => rfl) ?_
          show RP 26 _ 0 [(0, .int 0), (1, .int 0)] [] _
          refine RP_done 8 (fun n => rfl) ?_
          refine Or.inr ⟨0, rfl, ?_⟩
          show RP 29 _ 5 [(0, .ref 1), (1, .int 0), (2, .int 0), (3, .int op), (4, .int a), (5, .int b), (6, .int c), (7, .int d)] [.int 0] _
          refine RP_step (pc1 := 14) (L1 := [(8, .int 0), (0, .ref 1), (1, .int 0), (2, .int 0), (3, .int op), (4, .int a), (5, .int b), (6, .int c), (7, .int d)]) (S1 := [.int op, .int 0, .ref 3]) 5 0 (fun n => rfl) ?_
          refine RP_ast (fun n => rfl) rfl (by decide) ?_
          show RP 29 _ 15 [(8, .int 0), (0, .ref 1), (1, .int 0), (2, .int 0), (3, .int op), (4, .int a), (5, .int b), (6, .int c), (7, .int d)] [] _
          refine RP_step (pc1 := 23) (L1 := [(8, .int 0), (0, .ref 1), (1, .int 0), (2, .int 0), (3, .int op), (4, .int a), (5, .int b), (6, .int c), (7, .int d)]) (S1 := [.int a, .int 0, .ref 4]) 4 0 (fun n => rfl) ?_
          refine RP_ast (fun n => rfl) rfl (by decide) ?_
          show RP 29 _ 24 [(8, .int 0), (0, .ref 1), (1, .int 0), (2, .int 0), (3, .int op), (4, .int a), (5, .int b), (6, .int c), (7, .int d)] [] _
          refine RP_step (pc1 := 32) (L1 := [(8, .int 0), (0, .ref 1), (1, .int 0), (2, .int 0), (3, .int op), (4, .int a), (5, .int b), (6, .int c), (7, .int d)]) (S1 := [.int b, .int 0, .ref 5]) 4 0 (fun n => rfl) ?_
          refine RP_ast (fun n => rfl) rfl (by decide) ?_
          show RP 29 _ 33 [(8, .int 0), (0, .ref 1), (1, .int 0), (2, .int 0), (3, .int op), (4, .int a), (5, .int b), (6, .int c), (7, .int d)] [] _
          refine RP_step (pc1 := 41) (L1 := [(8, .int 0), (0, .ref 1), (1, .int 0), (2, .int 0), (3, .int op), (4, .int a), (5, .int b), (6, .int c), (7, .int d)]) (S1 := [.int c, .int 0, .ref 6]) 4 0 (fun n => rfl) ?_
          refine RP_ast (fun n => rfl) rfl (by decide) ?_
          show RP 29 _ 42 [(8, .int 0), (0, .ref 1), (1, .int 0), (2, .int 0), (3, .int op), (4, .int a), (5, .int b), (6, .int c), (7, .int d)] [] _
          refine RP_step (pc1 := 50) (L1 := [(8, .int 0), (0, .ref 1), (1, .int 0), (2, .int 0), (3, .int op), (4, .int a), (5, .int b), (6, .int c), (7, .int d)]) (S1 := [.int d, .int 0, .ref 7]) 4 0 (fun n => rfl) ?_
          refine RP_ast (fun n => rfl) rfl (by decide) ?_
          show RP 29 _ 51 [(8, .int 0), (0, .ref 1), (1, .int 0), (2, .int 0), (3, .int op), (4, .int a), (5, .int b), (6, .int c), (7, .int d)] [] _
          refine RP_done 3 (fun n => rfl) ?_
          refine Or.inl ⟨rfl, ?_⟩
          show RP 0 _ 62 [(0, .ref 0), (1, .int 0), (2, .int op), (3, .int a), (4, .int b), (5, .int c), (6, .int d)] [] _
          refine RP_done 20 (fun n => rfl) ?_
          show RP 61 _ 0 [(0, .ref 0), (1, .int 0), (2, .int op), (3, .int a), (4, .int b), (5, .int c), (6, .int d)] [] _
          refine RP_step (pc1 := 1) (L1 := [(0, .ref 0), (1, .int 0), (2, .int op), (3, .int a), (4, .int b), (5, .int c), (6, .int d)]) (S1 := [.int 0]) 1 0 (fun n => rfl) ?_
          refine RP_call 56 [.int 0] (fun n => rfl) ?_
          show RP 56 _ 0 [(0, .int 0)] [] _
          refine RP_done 15 (fun n => rfl) ?_
          refine Or.inr ⟨1, rfl, ?_⟩
          show RP 61 _ 4 [(0, .ref 0), (1, .int 0), (2, .int op), (3, .int a), (4, .int b), (5, .int c), (6, .int d)] [.int 1] _
          refine RP_step (pc1 := 26) (L1 := [(0, .ref 0), (1, .int 0), (2, .int op), (3, .int a), (4, .int b), (5, .int c), (6, .int d)]) (S1 := [.int d, .int c, .int b, .int a, .int op]) 12 0 (fun n => rfl) ?_
          refine RP_call 59 [.int op, .int a, .int b, .int c, .int d] (fun n => rfl) ?_
          refine ⟨_, _, _, e2, Or.inr ⟨1, rfl, ?_⟩⟩
          show RP 61 _ 29 [(0, .ref 0), (1, .int 0), (2, .int op), (3, .int a), (4, .int b), (5, .int c), (6, .int d)] [.int 1] _
          refine RP_step (pc1 := 50) (L1 := [(0, .ref 0), (1, .int 0), (2, .int op), (3, .int a), (4, .int b), (5, .int c), (6, .int d)]) (S1 := [.int d, .int c, .int b, .int a, .int op, .int 0, .int 0, .ref 0]) 12 0 (fun n => rfl) ?_
          refine RP_call 60 [.ref 0, .int 0, .int 0, .int op, .int a, .int b, .int c, .int d] (fun n => rfl) ?_
          show RP 60 _ 0 [(0, .ref 0), (1, .int 0), (2, .int 0), (3, .int op), (4, .int a), (5, .int b), (6, .int c), (7, .int d)] [] _
          refine RP_step (pc1 := 17) (L1 := [(8, .int 0), (0, .ref 0), (1, .int 0), (2, .int 0), (3, .int op), (4, .int a), (5, .int b), (6, .int c), (7, .int d)]) (S1 := [.int op, .int 0, .ref 1]) 12 0 (fun n => rfl) ?_
          refine RP_ast (fun n => rfl) rfl (by decide) ?_
          show RP 60 _ 18 [(8, .int 0), (0, .ref 0), (1, .int 0), (2, .int 0), (3, .int op), (4, .int a), (5, .int b), (6, .int c), (7, .int d)] [] _
          refine RP_step (pc1 := 28) (L1 := [(8, .int 0), (0, .ref 0), (1, .int 0), (2, .int 0), (3, .int op), (4, .int a), (5, .int b), (6, .int c), (7, .int d)]) (S1 := [.int a, .int 1, .ref 1]) 6 0 (fun n => rfl) ?_
          refine RP_ast (fun n => rfl) rfl (by decide) ?_
          show RP 60 _ 29 [(8, .int 0), (0, .ref 0), (1, .int 0), (2, .int 0), (3, .int op), (4, .int a), (5, .int b), (6, .int c), (7, .int d)] [] _
          refine RP_step (pc1 := 39) (L1 := [(8, .int 0), (0, .ref 0), (1, .int 0), (2, .int 0), (3, .int op), (4, .int a), (5, .int b), (6, .int c), (7, .int d)]) (S1 := [.int b, .int 2, .ref 1]) 6 0 (fun n => rfl) ?_
          refine RP_ast (fun n => rfl) rfl (by decide) ?_
          show RP 60 _ 40 [(8, .int 0), (0, .ref 0), (1, .int 0), (2, .int 0), (3, .int op), (4, .int a), (5, .int b), (6, .int c), (7, .int d)] [] _
          refine RP_step (pc1 := 50) (L1 := [(8, .int 0), (0, .ref 0), (1, .int 0), (2, .int 0), (3, .int op), (4, .int a), (5, .int b), (6, .int c), (7, .int d)]) (S1 := [.int c, .int 3, .ref 1]) 6 0 (fun n => rfl) ?_
          refine RP_ast (fun n => rfl) rfl (by decide) ?_
          show RP 60 _ 51 [(8, .int 0), (0, .ref 0), (1, .int 0), (2, .int 0), (3, .int op), (4, .int a), (5, .int b), (6, .int c), (7, .int d)] [] _
          refine RP_step (pc1 := 61) (L1 := [(8, .int 0), (0, .ref 0), (1, .int 0), (2, .int 0), (3, .int op), (4, .int a), (5, .int b), (6, .int c), (7, .int d)]) (S1 := [.int d, .int 4, .ref 1]) 6 0 (fun n => rfl) ?_
          refine RP_ast (fun n => rfl) rfl (by decide) ?_
          show RP 60 _ 62 [(8, .int 0), (0, .ref 0), (1, .int 0), (2, .int 0), (3, .int op), (4, .int a), (5, .int b), (6, .int c), (7, .int d)] [] _
          refine RP_done 6 (fun n => rfl) ?_
          refine Or.inl ⟨rfl, ?_⟩
          show RP 61 _ 53 [(0, .ref 0), (1, .int 0), (2, .int op), (3, .int a), (4, .int b), (5, .int c), (6, .int d)] [] _
          refine RP_done 15 (fun n => rfl) ?_
          exact ⟨rfl, _, rfl⟩
        · obtain rfl : f = 1 := xi_eq e9
          show RP 0 _ 15 [(0, .ref 0), (1, .int 1), (2, .int op), (3, .int a), (4, .int b), (5, .int c), (6, .int d)] [.int 1, .ref 2] _
          refine RP_step (pc1 := 29) (L1 := [(0, .ref 0), (1, .int 1), (2, .int op), (3, .int a), (4, .int b), (5, .int c), (6, .int d)]) (S1 := [.int d, .int c, .int b, .int a, .int op]) 8 0 (fun n => rfl) ?_
          refine RP_call 25 [.int op, .int a, .int b, .int c, .int d] (fun n => rfl) ?_
          refine ⟨_, _, _, e1, Or.inr ⟨1, rfl, ?_⟩⟩
          show RP 0 _ 32 [(0, .ref 0), (1, .int 1), (2, .int op), (3, .int a), (4, .int b), (5, .int c), (6, .int d)] [.int 1] _
          refine RP_step (pc1 := 59) (L1 := [(0, .ref 0), (1, .int 1), (2, .int op), (3, .int a), (4, .int b), (5, .int c), (6, .int d)]) (S1 := [.int d, .int c, .int b, .int a, .int op, .int 0, .int 1, .ref 1]) 14 0 (fun n => rfl) ?_
          refine RP_call 29 [.ref 1, .int 1, .int 0, .int op, .int a, .int b, .int c, .int d] (fun n => rfl) ?_
          show RP 29 _ 0 [(0, .ref 1), (1, .int 1), (2, .int 0), (3, .int op), (4, .int a), (5, .int b), (6, .int c), (7, .int d)] [] _
          refine RP_step (pc1 := 2) (L1 := [(0, .ref 1), (1, .int 1), (2, .int 0), (3, .int op), (4, .int a), (5, .int b), (6, .int c), (7, .int d)]) (S1 := [.int 0, .int 1]) 2 0 (fun n => rfl) ?_
          refine RP_call 26 [.int 1, .int 0] (fun n => rfl) ?_
          show RP 26 _ 0 [(0, .int 1), (1, .int 0)] [] _
          refine RP_done 8 (fun n => rfl) ?_
          refine Or.inr ⟨30, rfl, ?_⟩
          show RP 29 _ 5 [(0, .ref 1), (1, .int 1), (2, .int 0), (3, .int op), (4, .int a), (5, .int b), (6, .int c), (7, .int d)] [.int 30] _
          refine RP_step (pc1 := 14) (L1 := [(8, .int 30), (0, .ref 1), (1, .int 1), (2, .int 0), (3, .int op), (4, .int a), (5, .int b), (6, .int c), (7, .int d)]) (S1 := [.int op, .int 30, .ref 3]) 5 0 (fun n => rfl) ?_
          refine RP_ast (fun n => rfl) rfl (by decide) ?_
          show RP 29 _ 15 [(8, .int 30), (0, .ref 1), (1, .int 1), (2, .int 0), (3, .int op), (4, .int a), (5, .int b), (6, .int c), (7, .int d)] [] _
          refine RP_step (pc1 := 23) (L1 := [(8, .int 30), (0, .ref 1), (1, .int 1), (2, .int 0), (3, .int op), (4, .int a), (5, .int b), (6, .int c), (7, .int d)]) (S1 := [.int a, .int 30, .ref 4]) 4 0 (fun n => rfl) ?_
          refine RP_ast (fun n => rfl) rfl (by decide) ?_
          show RP 29 _ 24 [(8, .int 30), (0, .ref 1), (1, .int 1), (2, .int 0), (3, .int op), (4, .int a), (5, .int b), (6, .int c), (7, .int d)] [] _
          refine RP_step (pc1 := 32) (L1 := [(8, .int 30), (0, .ref 1), (1, .int 1), (2, .int 0), (3, .int op), (4, .int a), (5, .int b), (6, .int c), (7, .int d)]) (S1 := [.int b, .int 30, .ref 5]) 4 0 (fun n => rfl) ?_
          refine RP_ast (fun n => rfl) rfl (by decide) ?_
          show RP 29 _ 33 [(8, .int 30), (0, .ref 1), (1, .int 1), (2, .int 0), (3, .int op), (4, .int a), (5, .int b), (6, .int c), (7, .int d)] [] _
          refine RP_step (pc1 := 41) (L1 := [(8, .int 30), (0, .ref 1), (1, .int 1), (2, .int 0), (3, .int op), (4, .int a), (5, .int b), (6, .int c), (7, .int d)]) (S1 := [.int c, .int 30, .ref 6]) 4 0 (fun n => rfl) ?_
          refine RP_ast (fun n => rfl) rfl (by decide) ?_
          show RP 29 _ 42 [(8, .int 30), (0, .ref 1), (1, .int 1), (2, .int 0), (3, .int op), (4, .int a), (5, .int b), (6, .int c), (7, .int d)] [] _
          refine RP_step (pc1 := 50) (L1 := [(8, .int 30), (0, .ref 1), (1, .int 1), (2, .int 0), (3, .int op), (4, .int a), (5, .int b), (6, .int c), (7, .int d)]) (S1 := [.int d, .int 30, .ref 7]) 4 0 (fun n => rfl) ?_
          refine RP_ast (fun n => rfl) rfl (by decide) ?_
          show RP 29 _ 51 [(8, .int 30), (0, .ref 1), (1, .int 1), (2, .int 0), (3, .int op), (4, .int a), (5, .int b), (6, .int c), (7, .int d)] [] _
          refine RP_done 3 (fun n => rfl) ?_
          refine Or.inl ⟨rfl, ?_⟩
          show RP 0 _ 62 [(0, .ref 0), (1, .int 1), (2, .int op), (3, .int a), (4, .int b), (5, .int c), (6, .int d)] [] _
          refine RP_done 20 (fun n => rfl) ?_
          show RP 61 _ 0 [(0, .ref 0), (1, .int 1), (2, .int op), (3, .int a), (4, .int b), (5, .int c), (6, .int d)] [] _
          refine RP_step (pc1 := 1) (L1 := [(0, .ref 0), (1, .int 1), (2, .int op), (3, .int a), (4, .int b), (5, .int c), (6, .int d)]) (S1 := [.int 1]) 1 0 (fun n => rfl) ?_
          refine RP_call 56 [.int 1] (fun n => rfl) ?_
          show RP 56 _ 0 [(0, .int 1)] [] _
          refine RP_done 15 (fun n => rfl) ?_
          refine Or.inr ⟨1, rfl, ?_⟩
          show RP 61 _ 4 [(0, .ref 0), (1, .int 1), (2, .int op), (3, .int a), (4, .int b), (5, .int c), (6, .int d)] [.int 1] _
          refine RP_step (pc1 := 26) (L1 := [(0, .ref 0), (1, .int 1), (2, .int op), (3, .int a), (4, .int b), (5, .int c), (6, .int d)]) (S1 := [.int d, .int c, .int b, .int a, .int op]) 12 0 (fun n => rfl) ?_
          refine RP_call 59 [.int op, .int a, .int b, .int c, .int d] (fun n => rfl) ?_
          refine ⟨_, _, _, e2, Or.inr ⟨1, rfl, ?_⟩⟩
          show RP 61 _ 29 [(0, .ref 0), (1, .int 1), (2, .int op), (3, .int a), (4, .int b), (5, .int c), (6, .int d)] [.int 1] _
          refine RP_step (pc1 := 50) (L1 := [(0, .ref 0), (1, .int 1), (2, .int op), (3, .int a), (4, .int b), (5, .int c), (6, .int d)]) (S1 := [.int d, .int c, .int b, .int a, .int op, .int 0, .int 1, .ref 0]) 12 0 (fun n => rfl) ?_
          refine RP_call 60 [.ref 0, .int 1, .int 0, .int op, .int a, .int b, .int c, .int d] (fun n => rfl) ?_
          show RP 60 _ 0 [(0, .ref 0), (1, .int 1), (2, .int 0), (3, .int op), (4, .int a), (5, .int b), (6, .int c), (7, .int d)] [] _
          refine RP_step (pc1 := 17) (L1 := [(8, .int 150), (0, .ref 0), (1, .int 1), (2, .int 0), (3, .int op), (4, .int a), (5, .int b), (6, .int c), (7, .int d)]) (S1 := [.int op, .int 150, .ref 1]) 12 0 (fun n => rfl) ?_
          refine RP_ast (fun n => rfl) rfl (by decide) ?_
          show RP 60 _ 18 [(8, .int 150), (0, .ref 0), (1, .int 1), (2, .int 0), (3, .int op), (4, .int a), (5, .int b), (6, .int c), (7, .int d)] [] _
          refine RP_step (pc1 := 28) (L1 := [(8, .int 150), (0, .ref 0), (1, .int 1), (2, .int 0), (3, .int op), (4, .int a), (5, .int b), (6, .int c), (7, .int d)]) (S1 := [.int a, .int 151, .ref 1]) 6 0 (fun n => rfl) ?_
          refine RP_ast (fun n => rfl) rfl (by decide) ?_
          show RP 60 _ 29 [(8, .int 150), (0, .ref 0), (1, .int 1), (2, .int 0), (3, .int op), (4, .int a), (5, .int b), (6, .int c), (7, .int d)] [] _
          refine RP_step (pc1 := 39) (L1 := [(8, .int 150), (0, .ref 0), (1, .int 1), (2, .int 0), (3, .int op), (4, .int a), (5, .int b), (6, .int c), (7, .int d)]) (S1 := [.int b, .int 152, .ref 1]) 6 0 (fun n => rfl) ?_
          refine RP_ast (fun n => rfl) rfl (by decide) ?_
          show RP 60 _ 40 [(8, .int 150), (0, .ref 0), (1, .int 1), (2, .int 0), (3, .int op), (4, .int a), (5, .int b), (6, .int c), (7, .int d)] [] _
          refine RP_step (pc1 := 50) (L1 := [(8, .int 150), (0, .ref 0), (1, .int 1), (2, .int 0), (3, .int op), (4, .int a), (5, .int b), (6, .int c), (7, .int d)]) (S1 := [.int c, .int 153, .ref 1]) 6 0 (fun n => rfl) ?_
          refine RP_ast (fun n => rfl) rfl (by decide) ?_
          show RP 60 _ 51 [(8, .int 150), (0, .ref 0), (1, .int 1), (2, .int 0), (3, .int op), (4, .int a), (5, .int b), (6, .int c), (7, .int d)] [] _
          refine RP_step (pc1 := 61) (L1 := [(8, .int 150), (0, .ref 0), (1, .int 1), (2, .int 0), (3, .int op), (4, .int a), (5, .int b), (6, .int c), (7, .int d)]) (S1 := [.int d, .int 154, .ref 1]) 6 0 (fun n => rfl) ?_
          refine RP_ast (fun n => rfl) rfl (by decide) ?_
          show RP 60 _ 62 [(8, .int 150), (0, .ref 0), (1, .int 1), (2, .int 0), (3, .int op), (4, .int a), (5, .int b), (6, .int c), (7, .int d)] [] _
          refine RP_done 6 (fun n => rfl) ?_
          refine Or.inl ⟨rfl, ?_⟩
          show RP 61 _ 53 [(0, .ref 0), (1, .int 1), (2, .int op), (3, .int a), (4, .int b), (5, .int c), (6, .int d)] [] _
          refine RP_done 15 (fun n => rfl) ?_
          exact ⟨rfl, _, rfl⟩
        · obtain rfl : f = 2 := xi_eq e9
          show RP 0 _ 15 [(0, .ref 0), (1, .int 2), (2, .int op), (3, .int a), (4, .int b), (5, .int c), (6, .int d)] [.int 2, .ref 2] _
          refine RP_step (pc1 := 29) (L1 := [(0, .ref 0), (1, .int 2), (2, .int op), (3, .int a), (4, .int b), (5, .int c), (6, .int d)]) (S1 := [.int d, .int c, .int b, .int a, .int op]) 8 0 (fun n => rfl) ?_
          refine RP_call 25 [.int op, .int a, .int b, .int c, .int d] (fun n => rfl) ?_
          refine ⟨_, _, _, e1, Or.inr ⟨1, rfl, ?_⟩⟩
          show RP 0 _ 32 [(0, .ref 0), (1, .int 2), (2, .int op), (3, .int a), (4, .int b), (5, .int c), (6, .int d)] [.int 1] _
          refine RP_step (pc1 := 59) (L1 := [(0, .ref 0), (1, .int 2), (2, .int op), (3, .int a), (4, .int b), (5, .int c), (6, .int d)]) (S1 := [.int d, .int c, .int b, .int a, .int op, .int 0, .int 2, .ref 1]) 14 0 (fun n => rfl) ?_
          refine RP_call 29 [.ref 1, .int 2, .int 0, .int op, .int a, .int b, .int c, .int d] (fun n => rfl) ?_
          show RP 29 _ 0 [(0, .ref 1), (1, .int 2), (2, .int 0), (3, .int op), (4, .int a), (5, .int b), (6, .int c), (7, .int d)] [] _
          refine RP_step (pc1 := 2) (L1 := [(0, .ref 1), (1, .int 2), (2, .int 0), (3, .int op), (4, .int a), (5, .int b), (6, .int c), (7, .int d)]) (S1 := [.int 0, .int 2]) 2 0 (fun n => rfl) ?_
          refine RP_call 26 [.int 2, .int 0] (fun n => rfl) ?_
          show RP 26 _ 0 [(0, .int 2), (1, .int 0)] [] _
          refine RP_done 8 (fun n => rfl) ?_
          refine Or.inr ⟨60, rfl, ?_⟩
          show RP 29 _ 5 [(0, .ref 1), (1, .int 2), (2, .int 0), (3, .int op), (4, .int a), (5, .int b), (6, .int c), (7, .int d)] [.int 60] _
          refine RP_step (pc1 := 14) (L1 := [(8, .int 60), (0, .ref 1), (1, .int 2), (2, .int 0), (3, .int op), (4, .int a), (5, .int b), (6, .int c), (7, .int d)]) (S1 := [.int op, .int 60, .ref 3]) 5 0 (fun n => rfl) ?_
          refine RP_ast (fun n => rfl) rfl (by decide) ?_
          show RP 29 _ 15 [(8, .int 60), (0, .ref 1), (1, .int 2), (2, .int 0), (3, .int op), (4, .int a), (5, .int b), (6, .int c), (7, .int d)] [] _
          refine RP_step (pc1 := 23) (L1 := [(8, .int 60), (0, .ref 1), (1, .int 2), (2, .int 0), (3, .int op), (4, .int a), (5, .int b), (6, .int c), (7, .int d)]) (S1 := [.int a, .int 60, .ref 4]) 4 0 (fun n => rfl) ?_
          refine RP_ast (fun n => rfl) rfl (by decide) ?_
          show RP 29 _ 24 [(8, .int 60), (0, .ref 1), (1, .int 2), (2, .int 0), (3, .int op), (4, .int a), (5, .int b), (6, .int c), (7, .int d)] [] _
          refine RP_step (pc1 := 32) (L1 := [(8, .int 60), (0, .ref 1), (1, .int 2), (2, .int 0), (3, .int op), (4, .int a), (5, .int b), (6, .int c), (7, .int d)]) (S1 := [.int b, .int 60, .ref 5]) 4 0 (fun n => rfl) ?_
          refine RP_ast (fun n => rfl) rfl (by decide) ?_
          show RP 29 _ 33 [(8, .int 60), (0, .ref 1), (1, .int 2), (2, .int 0), (3, .int op), (4, .int a), (5, .int b), (6, .int c), (7, .int d)] [] _
          refine RP_step (pc1 := 41) (L1 := [(8, .int 60), (0, .ref 1), (1, .int 2), (2, .int 0), (3, .int op), (4, .int a), (5, .int b), (6, .int c), (7, .int d)]) (S1 := [.int c, .int 60, .ref 6]) 4 0 (fun n => rfl) ?_
          refine RP_ast (fun n => rfl) rfl (by decide) ?_
          show RP 29 _ 42 [(8, .int 60), (0, .ref 1), (1, .int 2), (2, .int 0), (3, .int op), (4, .int a), (5, .int b), (6, .int c), (7, .int d)] [] _
          refine RP_step (pc1 := 50) (L1 := [(8, .int 60), (0, .ref 1), (1, .int 2), (2, .int 0), (3, .int op), (4, .int a), (5, .int b), (6, .int c), (7, .int d)]) (S1 := [.int d, .int 60, .ref 7]) 4 0 (fun n => rfl) ?_
          refine RP_ast (fun n => rfl) rfl (by decide) ?_
          show RP 29 _ 51 [(8, .int 60), (0, .ref 1), (1, .int 2), (2, .int 0), (3, .int op), (4, .int a), (5, .int b), (6, .int c), (7, .int d)] [] _
          refine RP_done 3 (fun n => rfl) ?_
          refine Or.inl ⟨rfl, ?_⟩
          show RP 0 _ 62 [(0, .ref 0), (1, .int 2), (2, .int op), (3, .int a), (4, .int b), (5, .int c), (6, .int d)] [] _
          refine RP_done 20 (fun n => rfl) ?_
          show RP 61 _ 0 [(0, .ref 0), (1, .int 2), (2, .int op), (3, .int a), (4, .int b), (5, .int c), (6, .int d)] [] _
          refine RP_step (pc1 := 1) (L1 := [(0, .ref 0), (1, .int 2), (2, .int op), (3, .int a), (4, .int b), (5, .int c), (6, .int d)]) (S1 := [.int 2]) 1 0 (fun n => rfl) ?_
          refine RP_call 56 [.int 2] (fun n => rfl) ?_
          show RP 56 _ 0 [(0, .int 2)] [] _
          refine RP_done 15 (fun n => rfl) ?_
          refine Or.inr ⟨1, rfl, ?_⟩
          show RP 61 _ 4 [(0, .ref 0), (1, .int 2), (2, .int op), (3, .int a), (4, .int b), (5, .int c), (6, .int d)] [.int 1] _
          refine RP_step (pc1 := 26) (L1 := [(0, .ref 0), (1, .int 2), (2, .int op), (3, .int a), (4, .int b), (5, .int c), (6, .int d)]) (S1 := [.int d, .int c, .int b, .int a, .int op]) 12 0 (fun n => rfl) ?_
          refine RP_call 59 [.int op, .int a, .int b, .int c, .int d] (fun n => rfl) ?_
          refine ⟨_, _, _, e2, Or.inr ⟨1, rfl, ?_⟩⟩
          show RP 61 _ 29 [(0, .ref 0), (1, .int 2), (2, .int op), (3, .int a), (4, .int b), (5, .int c), (6, .int d)] [.int 1] _
          refine RP_step (pc1 := 50) (L1 := [(0, .ref 0), (1, .int 2), (2, .int op), (3, .int a), (4, .int b), (5, .int c), (6, .int d)]) (S1 := [.int d, .int c, .int b, .int a, .int op, .int 0, .int 2, .ref 0]) 12 0 (fun n => rfl) ?_
          refine RP_call 60 [.ref 0, .int 2, .int 0, .int op, .int a, .int b, .int c, .int d] (fun n => rfl) ?_
          show RP 60 _ 0 [(0, .ref 0), (1, .int 2), (2, .int 0), (3, .int op), (4, .int a), (5, .int b), (6, .int c), (7, .int d)] [] _
          refine RP_step (pc1 := 17) (L1 := [(8, .int 300), (0, .ref 0), (1, .int 2), (2, .int 0), (3, .int op), (4, .int a), (5, .int b), (6, .int c), (7, .int d)]) (S1 := [.int op, .int 300, .ref 1]) 12 0 (fun n => rfl) ?_
          refine RP_ast (fun n => rfl) rfl (by decide) ?_
          show RP 60 _ 18 [(8, .int 300), (0, .ref 0), (1, .int 2), (2, .int 0), (3, .int op), (4, .int a), (5, .int b), (6, .int c), (7, .int d)] [] _
          refine RP_step (pc1 := 28) (L1 := [(8, .int 300), (0, .ref 0), (1, .int 2), (2, .int 0), (3, .int op), (4, .int a), (5, .int b), (6, .int c), (7, .int d)]) (S1 := [.int a, .int 301, .ref 1]) 6 0 (fun n => rfl) ?_
          refine RP_ast (fun n => rfl) rfl (by decide) ?_
          show RP 60 _ 29 [(8, .int 300), (0, .ref 0), (1, .int 2), (2, .int 0), (3, .int op), (4, .int a), (5, .int b), (6, .int c), (7, .int d)] [] _
          refine RP_step (pc1 := 39) (L1 := [(8, .int 300), (0, .ref 0), (1, .int 2), (2, .int 0), (3, .int op), (4, .int a), (5, .int b), (6, .int c), (7, .int d)]) (S1 := [.int b, .int 302, .ref 1]) 6 0 (fun n => rfl) ?_
          refine RP_ast (fun n => rfl) rfl (by decide) ?_
          show RP 60 _ 40 [(8, .int 300), (0, .ref 0), (1, .int 2), (2, .int 0), (3, .int op), (4, .int a), (5, .int b), (6, .int c), (7, .int d)] [] _
          refine RP_step (pc1 := 50) (L1 := [(8, .int 300), (0, .ref 0), (1, .int 2), (2, .int 0), (3, .int op), (4, .int a), (5, .int b), (6, .int c), (7, .int d)]) (S1 := [.int c, .int 303, .ref 1]) 6 0 (fun n => rfl) ?_
          refine RP_ast (fun n => rfl) rfl (by decide) ?_
          show RP 60 _ 51 [(8, .int 300), (0, .ref 0), (1, .int 2), (2, .int 0), (3, .int op), (4, .int a), (5, .int b), (6, .int c), (7, .int d)] [] _
          refine RP_step (pc1 := 61) (L1 := [(8, .int 300), (0, .ref 0), (1, .int 2), (2, .int 0), (3, .int op), (4, .int a), (5, .int b), (6, .int c), (7, .int d)]) (S1 := [.int d, .int 304, .ref 1]) 6 0 (fun n => rfl) ?_
          refine RP_ast (fun n => rfl) rfl (by decide) ?_
          show RP 60 _ 62 [(8, .int 300), (0, .ref 0), (1, .int 2), (2, .int 0), (3, .int op), (4, .int a), (5, .int b), (6, .int c), (7, .int d)] [] _
          refine RP_done 6 (fun n => rfl) ?_
          refine Or.inl ⟨rfl, ?_⟩
          show RP 61 _ 53 [(0, .ref 0), (1, .int 2), (2, .int op), (3, .int a), (4, .int b), (5, .int c), (6, .int d)] [] _
          refine RP_done 15 (fun n => rfl) ?_
          exact ⟨rfl, _, rfl⟩
        · obtain rfl : f = 3 := xi_eq e9
          show RP 0 _ 15 [(0, .ref 0), (1, .int 3), (2, .int op), (3, .int a), (4, .int b), (5, .int c), (6, .int d)] [.int 3, .ref 2] _
          refine RP_step (pc1 := 29) (L1 := [(0, .ref 0), (1, .int 3), (2, .int op), (3, .int a), (4, .int b), (5, .int c), (6, .int d)]) (S1 := [.int d, .int c, .int b, .int a, .int op]) 8 0 (fun n => rfl) ?_
          refine RP_call 25 [.int op, .int a, .int b, .int c, .int d] (fun n => rfl) ?_
          refine ⟨_, _, _, e1, Or.inr ⟨1, rfl, ?_⟩⟩
          show RP 0 _ 32 [(0, .ref 0), (1, .int 3), (2, .int op), (3, .int a), (4, .int b), (5, .int c), (6, .int d)] [.int 1] _
          refine RP_step (pc1 := 59) (L1 := [(0, .ref 0), (1, .int 3), (2, .int op), (3, .int a), (4, .int b), (5, .int c), (6, .int d)]) (S1 := [.int d, .int c, .int b, .int a, .int op, .int 0, .int 3, .ref 1]) 14 0 (fun n => rfl) ?_
          refine RP_call 29 [.ref 1, .int 3, .int 0, .int op, .int a, .int b, .int c, .int d] (fun n => rfl) ?_
          show RP 29 _ 0 [(0, .ref 1), (1, .int 3), (2, .int 0), (3, .int op), (4, .int a), (5, .int b), (6, .int c), (7, .int d)] [] _
          refine RP_step (pc1 := 2) (L1 := [(0, .ref 1), (1, .int 3), (2, .int 0), (3, .int op), (4, .int a), (5, .int b), (6, .int c), (7, .int d)]) (S1 := [.int 0, .int 3]) 2 0 (fun n => rfl) ?_
          refine RP_call 26 [.int 3, .int 0] (fun n => rfl) ?_
          show RP 26 _ 0 [(0, .int 3), (1, .int 0)] [] _
          refine RP_done 8 (fun n => rfl) ?_
          refine Or.inr ⟨90, rfl, ?_⟩
          show RP 29 _ 5 [(0, .ref 1), (1, .int 3), (2, .int 0), (3, .int op), (4, .int a), (5, .int b), (6, .int c), (7, .int d)] [.int 90] _
          refine RP_step (pc1 := 14) (L1 := [(8, .int 90), (0, .ref 1), (1, .int 3), (2, .int 0), (3, .int op), (4, .int a), (5, .int b), (6, .int c), (7, .int d)]) (S1 := [.int op, .int 90, .ref 3]) 5 0 (fun n => rfl) ?_
          refine RP_ast (fun n => rfl) rfl (by decide) ?_
          show RP 29 _ 15 [(8, .int 90), (0, .ref 1), (1, .int 3), (2, .int 0), (3, .int op), (4, .int a), (5, .int b), (6, .int c), (7, .int d)] [] _
          refine RP_step (pc1 := 23) (L1 := [(8, .int 90), (0, .ref 1), (1, .int 3), (2, .int 0), (3, .int op), (4, .int a), (5, .int b), (6, .int c), (7, .int d)]) (S1 := [.int a, .int 90, .ref 4]) 4 0 (fun n => rfl) ?_
          refine RP_ast (fun n => rfl) rfl (by decide) ?_
          show RP 29 _ 24 [(8, .int 90), (0, .ref 1), (1, .int 3), (2, .int 0), (3, .int op), (4, .int a), (5, .int b), (6, .int c), (7, .int d)] [] _
          refine RP_step (pc1 := 32) (L1 := [(8, .int 90), (0, .ref 1), (1, .int 3), (2, .int 0), (3, .int op), (4, .int a), (5, .int b), (6, .int c), (7, .int d)]) (S1 := [.int b, .int 90, .ref 5]) 4 0 (fun n => rfl) ?_
          refine RP_ast (fun n => rfl) rfl (by decide) ?_
          show RP 29 _ 33 [(8, .int 90), (0, .ref 1), (1, .int 3), (2, .int 0), (3, .int op), (4, .int a), (5, .int b), (6, .int c), (7, .int d)] [] _
          refine RP_step (pc1 := 41) (L1 := [(8, .int 90), (0, .ref 1), (1, .int 3), (2, .int 0), (3, .int op), (4, .int a), (5, .int b), (6, .int c), (7, .int d)]) (S1 := [.int c, .int 90, .ref 6]) 4 0 (fun n => rfl) ?_
          refine RP_ast (fun n => rfl) rfl (by decide) ?_
          show RP 29 _ 42 [(8, .int 90), (0, .ref 1), (1, .int 3), (2, .int 0), (3, .int op), (4, .int a), (5, .int b), (6, .int c), (7, .int d)] [] _
          refine RP_step (pc1 := 50) (L1 := [(8, .int 90), (0, .ref 1), (1, .int 3), (2, .int 0), (3, .int op), (4, .int a), (5, .int b), (6, .int c), (7, .int d)]) (S1 := [.int d, .int 90, .ref 7]) 4 0 (fun n => rfl) ?_
          refine RP_ast (fun n => rfl) rfl (by decide) ?_
          show RP 29 _ 51 [(8, .int 90), (0, .ref 1), (1, .int 3), (2, .int 0), (3, .int op), (4, .int a), (5, .int b), (6, .int c), (7, .int d)] [] _
          refine RP_done 3 (fun n => rfl) ?_
          refine Or.inl ⟨rfl, ?_⟩
          show RP 0 _ 62 [(0, .ref 0), (1, .int 3), (2, .int op), (3, .int a), (4, .int b), (5, .int c), (6, .int d)] [] _
          refine RP_done 20 (fun n => rfl) ?_
          show RP 61 _ 0 [(0, .ref 0), (1, .int 3), (2, .int op), (3, .int a), (4, .int b), (5, .int c), (6, .int d)] [] _
          refine RP_step (pc1 := 1) (L1 := [(0, .ref 0), (1, .int 3), (2, .int op), (3, .int a), (4, .int b), (5, .int c), (6, .int d)]) (S1 := [.int 3]) 1 0 (fun n => rfl) ?_
          refine RP_call 56 [.int 3] (fun n => rfl) ?_
          show RP 56 _ 0 [(0, .int 3)] [] _
          refine RP_done 15 (fun n => rfl) ?_
          refine Or.inr ⟨1, rfl, ?_⟩
          show RP 61 _ 4 [(0, .ref 0), (1, .int 3), (2, .int op), (3, .int a), (4, .int b), (5, .int c), (6, .int d)] [.int 1] _
          refine RP_step (pc1 := 26) (L1 := [(0, .ref 0), (1, .int 3), (2, .int op), (3, .int a), (4, .int b), (5, .int c), (6, .int d)]) (S1 := [.int d, .int c, .int b, .int a, .int op]) 12 0 (fun n => rfl) ?_
          refine RP_call 59 [.int op, .int a, .int b, .int c, .int d] (fun n => rfl) ?_
          refine ⟨_, _, _, e2, Or.inr ⟨1, rfl, ?_⟩⟩
          show RP 61 _ 29 [(0, .ref 0), (1, .int 3), (2, .int op), (3, .int a), (4, .int b), (5, .int c), (6, .int d)] [.int 1] _
          refine RP_step (pc1 := 50) (L1 := [(0, .ref 0), (1, .int 3), (2, .int op), (3, .int a), (4, .int b), (5, .int c), (6, .int d)]) (S1 := [.int d, .int c, .int b, .int a, .int op, .int 0, .int 3, .ref 0]) 12 0 (fun n => rfl) ?_
          refine RP_call 60 [.ref 0, .int 3, .int 0, .int op, .int a, .int b, .int c, .int d] (fun n => rfl) ?_
          show RP 60 _ 0 [(0, .ref 0), (1, .int 3), (2, .int 0), (3, .int op), (4, .int a), (5, .int b), (6, .int c), (7, .int d)] [] _
          refine RP_step (pc1 := 17) (L1 := [(8, .int 450), (0, .ref 0), (1, .int 3), (2, .int 0), (3, .int op), (4, .int a), (5, .int b), (6, .int c), (7, .int d)]) (S1 := [.int op, .int 450, .ref 1]) 12 0 (fun n => rfl) ?_
          refine RP_ast (fun n => rfl) rfl (by decide) ?_
          show RP 60 _ 18 [(8, .int 450), (0, .ref 0), (1, .int 3), (2, .int 0), (3, .int op), (4, .int a), (5, .int b), (6, .int c), (7, .int d)] [] _
          refine RP_step (pc1 := 28) (L1 := [(8, .int 450), (0, .ref 0), (1, .int 3), (2, .int 0), (3, .int op), (4, .int a), (5, .int b), (6, .int c), (7, .int d)]) (S1 := [.int a, .int 451, .ref 1]) 6 0 (fun n => rfl) ?_
          refine RP_ast (fun n => rfl) rfl (by decide) ?_
          show RP 60 _ 29 [(8, .int 450), (0, .ref 0), (1, .int 3), (2, .int 0), (3, .int op), (4, .int a), (5, .int b), (6, .int c), (7, .int d)] [] _
          refine RP_step (pc1 := 39) (L1 := [(8, .int 450), (0, .ref 0), (1, .int 3), (2, .int 0), (3, .int op), (4, .int a), (5, .int b), (6, .int c), (7, .int d)]) (S1 := [.int b, .int 452, .ref 1]) 6 0 (fun n => rfl) ?_
          refine RP_ast (fun n => rfl) rfl (by decide) ?_
          show RP 60 _ 40 [(8, .int 450), (0, .ref 0), (1, .int 3), (2, .int 0), (3, .int op), (4, .int a), (5, .int b), (6, .int c), (7, .int d)] [] _
          refine RP_step (pc1 := 50) (L1 := [(8, .int 450), (0, .ref 0), (1, .int 3), (2, .int 0), (3, .int op), (4, .int a), (5, .int b), (6, .int c), (7, .int d)]) (S1 := [.int c, .int 453, .ref 1]) 6 0 (fun n => rfl) ?_
          refine RP_ast (fun n => rfl) rfl (by decide) ?_
          show RP 60 _ 51 [(8, .int 450), (0, .ref 0), (1, .int 3), (2, .int 0), (3, .int op), (4, .int a), (5, .int b), (6, .int c), (7, .int d)] [] _
          refine RP_step (pc1 := 61) (L1 := [(8, .int 450), (0, .ref 0), (1, .int 3), (2, .int 0), (3, .int op), (4, .int a), (5, .int b), (6, .int c), (7, .int d)]) (S1 := [.int d, .int 454, .ref 1]) 6 0 (fun n => rfl) ?_
          refine RP_ast (fun n => rfl) rfl (by decide) ?_
          show RP 60 _ 62 [(8, .int 450), (0, .ref 0), (1, .int 3), (2, .int 0), (3, .int op), (4, .int a), (5, .int b), (6, .int c), (7, .int d)] [] _
          refine RP_done 6 (fun n => rfl) ?_
          refine Or.inl ⟨rfl, ?_⟩
          show RP 61 _ 53 [(0, .ref 0), (1, .int 3), (2, .int op), (3, .int a), (4, .int b), (5, .int c), (6, .int d)] [] _
          refine RP_done 15 (fun n => rfl) ?_
          exact ⟨rfl, _, rfl⟩
        · obtain rfl : f = 4 := xi_eq e9
          show RP 0 _ 15 [(0, .ref 0), (1, .int 4), (2, .int op), (3, .int a), (4, .int b), (5, .int c), (6, .int d)] [.int 4, .ref 2] _
          refine RP_step (pc1 := 29) (L1 := [(0, .ref 0), (1, .int 4), (2, .int op), (3, .int a), (4, .int b), (5, .int c), (6, .int d)]) (S1 := [.int d, .int c, .int b, .int a, .int op]) 8 0 (fun n => rfl) ?_
          refine RP_call 25 [.int op, .int a, .int b, .int c, .int d] (fun n => rfl) ?_
          refine ⟨_, _, _, e1, Or.inr ⟨1, rfl, ?_⟩⟩
          show RP 0 _ 32 [(0, .ref 0), (1, .int 4), (2, .int op), (3, .int a), (4, .int b), (5, .int c), (6, .int d)] [.int 1] _
          refine RP_step (pc1 := 59) (L1 := [(0, .ref 0), (1, .int 4), (2, .int op), (3, .int a), (4, .int b), (5, .int c), (6, .int d)]) (S1 := [.int d, .int c, .int b, .int a, .int op, .int 0, .int 4, .ref 1]) 14 0 (fun n => rfl) ?_
          refine RP_call 29 [.ref 1, .int 4, .int 0, .int op, .int a, .int b, .int c, .int d] (fun n => rfl) ?_
          show RP 29 _ 0 [(0, .ref 1), (1, .int 4), (2, .int 0), (3, .int op), (4, .int a), (5, .int b), (6, .int c), (7, .int d)] [] _
          refine RP_step (pc1 := 2) (L1 := [(0, .ref 1), (1, .int 4), (2, .int 0), (3, .int op), (4, .int a), (5, .int b), (6, .int c), (7, .int d)]) (S1 := [.int 0, .int 4]) 2 0 (fun n => rfl) ?_
          refine RP_call 26 [.int 4, .int 0] (fun n => rfl) ?_
          show RP 26 _ 0 [(0, .int 4), (1, .int 0)] [] _
          refine RP_done 8 (fun n => rfl) ?_
          refine Or.inr ⟨120, rfl, ?_⟩
          show RP 29 _ 5 [(0, .ref 1), (1, .int 4), (2, .int 0), (3, .int op), (4, .int a), (5, .int b), (6, .int c), (7, .int d)] [.int 120] _
          refine RP_step (pc1 := 14) (L1 := [(8, .int 120), (0, .ref 1), (1, .int 4), (2, .int 0), (3, .int op), (4, .int a), (5, .int b), (6, .int c), (7, .int d)]) (S1 := [.int op, .int 120, .ref 3]) 5 0 (fun n => rfl) ?_
          refine RP_ast (fun n => rfl) rfl (by decide) ?_
          show RP 29 _ 15 [(8, .int 120), (0, .ref 1), (1, .int 4), (2, .int 0), (3, .int op), (4, .int a), (5, .int b), (6, .int c), (7, .int d)] [] _
          refine RP_step (pc1 := 23) (L1 := [(8, .int 120), (0, .ref 1), (1, .int 4), (2, .int 0), (3, .int op), (4, .int a), (5, .int b), (6, .int c), (7, .int d)]) (S1 := [.int a, .int 120, .ref 4]) 4 0 (fun n => rfl) ?_
          refine RP_ast (fun n => rfl) rfl (by decide) ?_
          show RP 29 _ 24 [(8, .int 120), (0, .ref 1), (1, .int 4), (2, .int 0), (3, .int op), (4, .int a), (5, .int b), (6, .int c), (7, .int d)] [] _
          refine RP_step (pc1 := 32) (L1 := [(8, .int 120), (0, .ref 1), (1, .int 4), (2, .int 0), (3, .int op), (4, .int a), (5, .int b), (6, .int c), (7, .int d)]) (S1 := [.int b, .int 120, .ref 5]) 4 0 (fun n => rfl) ?_
          refine RP_ast (fun n => rfl) rfl (by decide) ?_
          show RP 29 _ 33 [(8, .int 120), (0, .ref 1), (1, .int 4), (2, .int 0), (3, .int op), (4, .int a), (5, .int b), (6, .int c), (7, .int d)] [] _
          refine RP_step (pc1 := 41) (L1 := [(8, .int 120), (0, .ref 1), (1, .int 4), (2, .int 0), (3, .int op), (4, .int a), (5, .int b), (6, .int c), (7, .int d)]) (S1 := [.int c, .int 120, .ref 6]) 4 0 (fun n => rfl) ?_
          refine RP_ast (fun n => rfl) rfl (by decide) ?_
          show RP 29 _ 42 [(8, .int 120), (0, .ref 1), (1, .int 4), (2, .int 0), (3, .int op), (4, .int a), (5, .int b), (6, .int c), (7, .int d)] [] _
          refine RP_step (pc1 := 50) (L1 := [(8, .int 120), (0, .ref 1), (1, .int 4), (2, .int 0), (3, .int op), (4, .int a), (5, .int b), (6, .int c), (7, .int d)]) (S1 := [.int d, .int 120, .ref 7]) 4 0 (fun n => rfl) ?_
          refine RP_ast (fun n => rfl) rfl (by decide) ?_
          show RP 29 _ 51 [(8, .int 120), (0, .ref 1), (1, .int 4), (2, .int 0), (3, .int op), (4, .int a), (5, .int b), (6, .int c), (7, .int d)] [] _
          refine RP_done 3 (fun n => rfl) ?_
          refine Or.inl ⟨rfl, ?_⟩
          show RP 0 _ 62 [(0, .ref 0), (1, .int 4), (2, .int op), (3, .int a), (4, .int b), (5, .int c), (6, .int d)] [] _
          refine RP_done 20 (fun n => rfl) ?_
          show RP 61 _ 0 [(0, .ref 0), (1, .int 4), (2, .int op), (3, .int a), (4, .int b), (5, .int c), (6, .int d)] [] _
          refine RP_step (pc1 := 1) (L1 := [(0, .ref 0), (1, .int 4), (2, .int op), (3, .int a), (4, .int b), (5, .int c), (6, .int d)]) (S1 := [.int 4]) 1 0 (fun n => rfl) ?_
          refine RP_call 56 [.int 4] (fun n => rfl) ?_
          show RP 56 _ 0 [(0, .int 4)] [] _
          refine RP_done 15 (fun n => rfl) ?_
          refine Or.inr ⟨1, rfl, ?_⟩
          show RP 61 _ 4 [(0, .ref 0), (1, .int 4), (2, .int op), (3, .int a), (4, .int b), (5, .int c), (6, .int d)] [.int 1] _
          refine RP_step (pc1 := 26) (L1 := [(0, .ref 0), (1, .int 4), (2, .int op), (3, .int a), (4, .int b), (5, .int c), (6, .int d)]) (S1 := [.int d, .int c, .int b, .int a, .int op]) 12 0 (fun n => rfl) ?_
          refine RP_call 59 [.int op, .int a, .int b, .int c, .int d] (fun n => rfl) ?_
          refine ⟨_, _, _, e2, Or.inr ⟨1, rfl, ?_⟩⟩
          show RP 61 _ 29 [(0, .ref 0), (1, .int 4), (2, .int op), (3, .int a), (4, .int b), (5, .int c), (6, .int d)] [.int 1] _
          refine RP_step (pc1 := 50) (L1 := [(0, .ref 0), (1, .int 4), (2, .int op), (3, .int a), (4, .int b), (5, .int c), (6, .int d)]) (S1 := [.int d, .int c, .int b, .int a, .int op, .int 0, .int 4, .ref 0]) 12 0 (fun n => rfl) ?_
          refine RP_call 60 [.ref 0, .int 4, .int 0, .int op, .int a, .int b, .int c, .int d] (fun n => rfl) ?_
          show RP 60 _ 0 [(0, .ref 0), (1, .int 4), (2, .int 0), (3, .int op), (4, .int a), (5, .int b), (6, .int c), (7, .int d)] [] _
          refine RP_step (pc1 := 17) (L1 := [(8, .int 600), (0, .ref 0), (1, .int 4), (2, .int 0), (3, .int op), (4, .int a), (5, .int b), (6, .int c), (7, .int d)]) (S1 := [.int op, .int 600, .ref 1]) 12 0 (fun n => rfl) ?_
          refine RP_ast (fun n => rfl) rfl (by decide) ?_
          show RP 60 _ 18 [(8, .int 600), (0, .ref 0), (1, .int 4), (2, .int 0), (3, .int op), (4, .int a), (5, .int b), (6, .int c), (7, .int d)] [] _
          refine RP_step (pc1 := 28) (L1 := [(8, .int 600), (0, .ref 0), (1, .int 4), (2, .int 0), (3, .int op), (4, .int a), (5, .int b), (6, .int c), (7, .int d)]) (S1 := [.int a, .int 601, .ref 1]) 6 0 (fun n => rfl) ?_
          refine RP_ast (fun n => rfl) rfl (by decide) ?_
          show RP 60 _ 29 [(8, .int 600), (0, .ref 0), (1, .int 4), (2, .int 0), (3, .int op), (4, .int a), (5, .int b), (6, .int c), (7, .int d)] [] _
          refine RP_step (pc1 := 39) (L1 := [(8, .int 600), (0, .ref 0), (1, .int 4), (2, .int 0), (3, .int op), (4, .int a), (5, .int b), (6, .int c), (7, .int d)]) (S1 := [.int b, .int 602, .ref 1]) 6 0 (fun n => rfl) ?_
          refine RP_ast (fun n => rfl) rfl (by decide) ?_
          show RP 60 _ 40 [(8, .int 600), (0, .ref 0), (1, .int 4), (2, .int 0), (3, .int op), (4, .int a), (5, .int b), (6, .int c), (7, .int d)] [] _
          refine RP_step (pc1 := 50) (L1 := [(8, .int 600), (0, .ref 0), (1, .int 4), (2, .int 0), (3, .int op), (4, .int a), (5, .int b), (6, .int c), (7, .int d)]) (S1 := [.int c, .int 603, .ref 1]) 6 0 (fun n => rfl) ?_
          refine RP_ast (fun n => rfl) rfl (by decide) ?_
          show RP 60 _ 51 [(8, .int 600), (0, .ref 0), (1, .int 4), (2, .int 0), (3, .int op), (4, .int a), (5, .int b), (6, .int c), (7, .int d)] [] _
          refine RP_step (pc1 := 61) (L1 := [(8, .int 600), (0, .ref 0), (1, .int 4), (2, .int 0), (3, .int op), (4, .int a), (5, .int b), (6, .int c), (7, .int d)]) (S1 := [.int d, .int 604, .ref 1]) 6 0 (fun n => rfl) ?_
          refine RP_ast (fun n => rfl) rfl (by decide) ?_
          show RP 60 _ 62 [(8, .int 600), (0, .ref 0), (1, .int 4), (2, .int 0), (3, .int op), (4, .int a), (5, .int b), (6, .int c), (7, .int d)] [] _
          refine RP_done 6 (fun n => rfl) ?_
          refine Or.inl ⟨rfl, ?_⟩
          show RP 61 _ 53 [(0, .ref 0), (1, .int 4), (2, .int op), (3, .int a), (4, .int b), (5, .int c), (6, .int d)] [] _
          refine RP_done 15 (fun n => rfl) ?_
          exact ⟨rfl, _, rfl⟩
        · obtain rfl : f = 5 := xi_eq e9
          show RP 0 _ 15 [(0, .ref 0), (1, .int 5), (2, .int op), (3, .int a), (4, .int b), (5, .int c), (6, .int d)] [.int 5, .ref 2] _
          refine RP_step (pc1 := 29) (L1 := [(0, .ref 0), (1, .int 5), (2, .int op), (3, .int a), (4, .int b), (5, .int c), (6, .int d)]) (S1 := [.int d, .int c, .int b, .int a, .int op]) 8 0 (fun n => rfl) ?_
          refine RP_call 25 [.int op, .int a, .int b, .int c, .int d] (fun n => rfl) ?_
          refine ⟨_, _, _, e1, Or.inr ⟨1, rfl, ?_⟩⟩
          show RP 0 _ 32 [(0, .ref 0), (1, .int 5), (2, .int op), (3, .int a), (4, .int b), (5, .int c), (6, .int d)] [.int 1] _
          refine RP_step (pc1 := 59) (L1 := [(0, .ref 0), (1, .int 5), (2, .int op), (3, .int a), (4, .int b), (5, .int c), (6, .int d)]) (S1 := [.int d, .int c, .int b, .int a, .int op, .int 0, .int 5, .ref 1]) 14 0 (fun n => rfl) ?_
          refine RP_call 29 [.ref 1, .int 5, .int 0, .int op, .int a, .int b, .int c, .int d] (fun n => rfl) ?_
          show RP 29 _ 0 [(0, .ref 1), (1, .int 5), (2, .int 0), (3, .int op), (4, .int a), (5, .int b), (6, .int c), (7, .int d)] [] _
          refine RP_step (pc1 := 2) (L1 := [(0, .ref 1), (1, .int 5), (2, .int 0), (3, .int op), (4, .int a), (5, .int b), (6, .int c), (7, .int d)]) (S1 := [.int 0, .int 5]) 2 0 (fun n => rfl) ?_
          refine RP_call 26 [.int 5, .int 0] (fun n => rfl) ?_
          show RP 26 _ 0 [(0, .int 5), (1, .int 0)] [] _
          refine RP_done 8 (fun n => rfl) ?_
          refine Or.inr ⟨150, rfl, ?_⟩
          show RP 29 _ 5 [(0, .ref 1), (1, .int 5), (2, .int 0), (3, .int op), (4, .int a), (5, .int b), (6, .int c), (7, .int d)] [.int 150] _
          refine RP_step (pc1 := 14) (L1 := [(8, .int 150), (0, .ref 1), (1, .int 5), (2, .int 0), (3, .int op), (4, .int a), (5, .int b), (6, .int c), (7, .int d)]) (S1 := [.int op, .int 150, .ref 3]) 5 0 (fun n => rfl) ?_
          refine RP_ast (fun n => rfl) rfl (by decide) ?_
          show RP 29 _ 15 [(8, .int 150), (0, .ref 1), (1, .int 5), (2, .int 0), (3, .int op), (4, .int a), (5, .int b), (6, .int c), (7, .int d)] [] _
          refine RP_step (pc1 := 23) (L1 := [(8, .int 150), (0, .ref 1), (1, .int 5), (2, .int 0), (3, .int op), (4, .int a), (5, .int b), (6, .int c), (7, .int d)]) (S1 := [.int a, .int 150, .ref 4]) 4 0 (fun n => rfl) ?_
          refine RP_ast (fun n => rfl) rfl (by decide) ?_
          show RP 29 _ 24 [(8, .int 150), (0, .ref 1), (1, .int 5), (2, .int 0), (3, .int op), (4, .int a), (5, .int b), (6, .int c), (7, .int d)] [] _
          refine RP_step (pc1 := 32) (L1 := [(8, .int 150), (0, .ref 1), (1, .int 5), (2, .int 0), (3, .int op), (4, .int a), (5, .int b), (6, .int c), (7, .int d)]) (S1 := [.int b, .int 150, .ref 5]) 4 0 (fun n => rfl) ?_
          refine RP_ast (fun n => rfl) rfl (by decide) ?_
          show RP 29 _ 33 [(8, .int 150), (0, .ref 1), (1, .int 5), (2, .int 0), (3, .int op), (4, .int a), (5, .int b), (6, .int c), (7, .int d)] [] _
          refine RP_step (pc1 := 41) (L1 := [(8, .int 150), (0, .ref 1), (1, .int 5), (2, .int 0), (3, .int op), (4, .int a), (5, .int b), (6, .int c), (7, .int d)]) (S1 := [.int c, .int 150, .ref 6]) 4 0 (fun n => rfl) ?_
          refine RP_ast (fun n => rfl) rfl (by decide) ?_
          show RP 29 _ 42 [(8, .int 150), (0, .ref 1), (1, .int 5), (2, .int 0), (3, .int op), (4, .int a), (5, .int b), (6, .int c), (7, .int d)] [] _
          refine RP_step (pc1 := 50) (L1 := [(8, .int 150), (0, .ref 1), (1, .int 5), (2, .int 0), (3, .int op), (4, .int a), (5, .int b), (6, .int c), (7, .int d)]) (S1 := [.int d, .int 150, .ref 7]) 4 0 (fun n => rfl) ?_
          refine RP_ast (fun n => rfl) rfl (by decide) ?_
          show RP 29 _ 51 [(8, .int 150), (0, .ref 1), (1, .int 5), (2, .int 0), (3, .int op), (4, .int a), (5, .int b), (6, .int c), (7, .int d)] [] _
          refine RP_done 3 (fun n => rfl) ?_
          refine Or.inl ⟨rfl, ?_⟩
          show RP 0 _ 62 [(0, .ref 0), (1, .int 5), (2, .int op), (3, .int a), (4, .int b), (5, .int c), (6, .int d)] [] _
          refine RP_done 20 (fun n => rfl) ?_
          show RP 61 _ 0 [(0, .ref 0), (1, .int 5), (2, .int op), (3, .int a), (4, .int b), (5, .int c), (6, .int d)] [] _
          refine RP_step (pc1 := 1) (L1 := [(0, .ref 0), (1, .int 5), (2, .int op), (3, .int a), (4, .int b), (5, .int c), (6, .int d)]) (S1 := [.int 5]) 1 0 (fun n => rfl) ?_
          refine RP_call 56 [.int 5] (fun n => rfl) ?_
          show RP 56 _ 0 [(0, .int 5)] [] _
          refine RP_done 15 (fun n => rfl) ?_
          refine Or.inr ⟨1, rfl, ?_⟩
          show RP 61 _ 4 [(0, .ref 0), (1, .int 5), (2, .int op), (3, .int a), (4, .int b), (5, .int c), (6, .int d)] [.int 1] _
          refine RP_step (pc1 := 26) (L1 := [(0, .ref 0), (1, .int 5), (2, .int op), (3, .int a), (4, .int b), (5, .int c), (6, .int d)]) (S1 := [.int d, .int c, .int b, .int a, .int op]) 12 0 (fun n => rfl) ?_
          refine RP_call 59 [.int op, .int a, .int b, .int c, .int d] (fun n => rfl) ?_
          refine ⟨_, _, _, e2, Or.inr ⟨1, rfl, ?_⟩⟩
          show RP 61 _ 29 [(0, .ref 0), (1, .int 5), (2, .int op), (3, .int a), (4, .int b), (5, .int c), (6, .int d)] [.int 1] _
          refine RP_step (pc1 := 50) (L1 := [(0, .ref 0), (1, .int 5), (2, .int op), (3, .int a), (4, .int b), (5, .int c), (6, .int d)]) (S1 := [.int d, .int c, .int b, .int a, .int op, .int 0, .int 5, .ref 0]) 12 0 (fun n => rfl) ?_
          refine RP_call 60 [.ref 0, .int 5, .int 0, .int op, .int a, .int b, .int c, .int d] (fun n => rfl) ?_
          show RP 60 _ 0 [(0, .ref 0), (1, .int 5), (2, .int 0), (3, .int op), (4, .int a), (5, .int b), (6, .int c), (7, .int d)] [] _
          refine RP_step (pc1 := 17) (L1 := [(8, .int 750), (0, .ref 0), (1, .int 5), (2, .int 0), (3, .int op), (4, .int a), (5, .int b), (6, .int c), (7, .int d)]) (S1 := [.int op, .int 750, .ref 1]) 12 0 (fun n => rfl) ?_
          refine RP_ast (fun n => rfl) rfl (by decide) ?_
          show RP 60 _ 18 [(8, .int 750), (0, .ref 0), (1, .int 5), (2, .int 0), (3, .int op), (4, .int a), (5, .int b), (6, .int c), (7, .int d)] [] _
          refine RP_step (pc1 := 28) (L1 := [(8, .int 750), (0, .ref 0), (1, .int 5), (2, .int 0), (3, .int op), (4, .int a), (5, .int b), (6, .int c), (7, .int d)]) (S1 := [.int a, .int 751, .ref 1]) 6 0 (fun n => rfl) ?_
          refine RP_ast (fun n => rfl) rfl (by decide) ?_
          show RP 60 _ 29 [(8, .int 750), (0, .ref 0), (1, .int 5), (2, .int 0), (3, .int op), (4, .int a), (5, .int b), (6, .int c), (7, .int d)] [] _
          refine RP_step (pc1 := 39) (L1 := [(8, .int 750), (0, .ref 0), (1, .int 5), (2, .int 0), (3, .int op), (4, .int a), (5, .int b), (6, .int c), (7, .int d)]) (S1 := [.int b, .int 752, .ref 1]) 6 0 (fun n => rfl) ?_
          refine RP_ast (fun n => rfl) rfl (by decide) ?_
          show RP 60 _ 40 [(8, .int 750), (0, .ref 0), (1, .int 5), (2, .int 0), (3, .int op), (4, .int a), (5, .int b), (6, .int c), (7, .int d)] [] _
          refine RP_step (pc1 := 50) (L1 := [(8, .int 750), (0, .ref 0), (1, .int 5), (2, .int 0), (3, .int op), (4, .int a), (5, .int b), (6, .int c), (7, .int d)]) (S1 := [.int c, .int 753, .ref 1]) 6 0 (fun n => rfl) ?_
          refine RP_ast (fun n => rfl) rfl (by decide) ?_
          show RP 60 _ 51 [(8, .int 750), (0, .ref 0), (1, .int 5), (2, .int 0), (3, .int op), (4, .int a), (5, .int b), (6, .int c), (7, .int d)] [] _
          refine RP_step (pc1 := 61) (L1 := [(8, .int 750), (0, .ref 0), (1, .int 5), (2, .int 0), (3, .int op), (4, .int a), (5, .int b), (6, .int c), (7, .int d)]) (S1 := [.int d, .int 754, .ref 1]) 6 0 (fun n => rfl) ?_
          refine RP_ast (fun n => rfl) rfl (by decide) ?_
          show RP 60 _ 62 [(8, .int 750), (0, .ref 0), (1, .int 5), (2, .int 0), (3, .int op), (4, .int a), (5, .int b), (6, .int c), (7, .int d)] [] _
          refine RP_done 6 (fun n => rfl) ?_
          refine Or.inl ⟨rfl, ?_⟩
          show RP 61 _ 53 [(0, .ref 0), (1, .int 5), (2, .int op), (3, .int a), (4, .int b), (5, .int c), (6, .int d)] [] _
          refine RP_done 15 (fun n => rfl) ?_
          exact ⟨rfl, _, rfl⟩

set_option maxHeartbeats 8000000 in
set_option maxRecDepth 1000000 in
theorem sm_1 (f i op a b c d : Int32) : Same 1 62 [.int f, .int i, .int op, .int a, .int b, .int c, .int d] := by
  refine Same_of ?_
  show RP 1 _ 0 [(0, .ref 0), (1, .int f), (2, .int i), (3, .int op), (4, .int a), (5, .int b), (6, .int c), (7, .int d)] [] _
  refine RP_step (pc1 := 6) (L1 := [(0, .ref 0), (1, .int f), (2, .int i), (3, .int op), (4, .int a), (5, .int b), (6, .int c), (7, .int d)]) (S1 := [.int i, .int f, .ref 1]) 4 0 (fun n => rfl) ?_
  refine RP_call 28 [.ref 1, .int f, .int i] (fun n => rfl) ?_
  show RP 28 _ 0 [(0, .ref 1), (1, .int f), (2, .int i)] [] _
  refine RP_step (pc1 := 1) (L1 := [(0, .ref 1), (1, .int f), (2, .int i)]) (S1 := [.int f]) 1 0 (fun n => rfl) ?_
  refine RP_call 22 [.int f] (fun n => rfl) ?_
  show RP 22 _ 0 [(0, .int f)] [] _
  refine RP_step (pc1 := 1) (L1 := [(0, .int f)]) (S1 := [.int f]) 1 0 (fun n => rfl) ?_
  refine RP_cond (decide (f < 0)) (fun n => rfl) (fun hh => ?_) (fun hh => ?_)
  · have h1 := of_decide_eq_true hh
    have h2 : f.toInt < 0 := xj_lt h1
    show RP 22 _ 14 [(0, .int f)] [] _
    refine RP_done 4 (fun n => rfl) ?_
    refine Or.inr ⟨0, rfl, ?_⟩
    show RP 28 _ 4 [(0, .ref 1), (1, .int f), (2, .int i)] [.int 0] _
    refine RP_done 5 (fun n => rfl) ?_
    refine Or.inr ⟨0, rfl, ?_⟩
    show RP 1 _ 9 [(0, .ref 0), (1, .int f), (2, .int i), (3, .int op), (4, .int a), (5, .int b), (6, .int c), (7, .int d)] [.int 0] _
    refine RP_done 5 (fun n => rfl) ?_
    show RP 62 _ 0 [(0, .ref 0), (1, .int f), (2, .int i), (3, .int op), (4, .int a), (5, .int b), (6, .int c), (7, .int d)] [] _
    refine RP_step (pc1 := 1) (L1 := [(0, .ref 0), (1, .int f), (2, .int i), (3, .int op), (4, .int a), (5, .int b), (6, .int c), (7, .int d)]) (S1 := [.int f]) 1 0 (fun n => rfl) ?_
    refine RP_call 56 [.int f] (fun n => rfl) ?_
    show RP 56 _ 0 [(0, .int f)] [] _
    refine RP_step (pc1 := 3) (L1 := [(0, .int f)]) (S1 := [.int 5, .int 0, .int f]) 3 0 (fun n => rfl) ?_
    refine RP_call 55 [.int f, .int 0, .int 5] (fun n => rfl) ?_
    show RP 55 _ 0 [(0, .int f), (1, .int 0), (2, .int 5)] [] _
    refine RP_step (pc1 := 2) (L1 := [(0, .int f), (1, .int 0), (2, .int 5)]) (S1 := [.int 0, .int f]) 2 0 (fun n => rfl) ?_
    refine RP_cond (decide (f < 0)) (fun n => rfl) (fun _ => ?_) (fun h => absurd (xi_lt (x := f) (y := 0) (show f.toInt < 0 by omega)) (of_decide_eq_false h))
    show RP 55 _ 14 [(0, .int f), (1, .int 0), (2, .int 5)] [] _
    refine RP_done 4 (fun n => rfl) ?_
    refine Or.inr ⟨0, rfl, ?_⟩
    show RP 56 _ 6 [(0, .int f)] [.int 0] _
    refine RP_done 3 (fun n => rfl) ?_
    refine Or.inr ⟨0, rfl, ?_⟩
    show RP 62 _ 4 [(0, .ref 0), (1, .int f), (2, .int i), (3, .int op), (4, .int a), (5, .int b), (6, .int c), (7, .int d)] [.int 0] _
    refine RP_done 5 (fun n => rfl) ?_
    exact ⟨rfl, _, rfl⟩
  · have h3 := of_decide_eq_false hh
    have h4 : 0 ≤ f.toInt := xj_nlt h3
    show RP 22 _ 4 [(0, .int f)] [] _
    refine RP_step (pc1 := 7) (L1 := [(0, .int f)]) (S1 := [.int 6, .int f]) 2 0 (fun n => rfl) ?_
    refine RP_cond (decide (6 ≤ f)) (fun n => rfl) (fun hh => ?_) (fun hh => ?_)
    · have h5 := of_decide_eq_true hh
      have h6 : 6 ≤ f.toInt := xj_le h5
      show RP 22 _ 14 [(0, .int f)] [] _
      refine RP_done 4 (fun n => rfl) ?_
      refine Or.inr ⟨0, rfl, ?_⟩
      show RP 28 _ 4 [(0, .ref 1), (1, .int f), (2, .int i)] [.int 0] _
      refine RP_done 5 (fun n => rfl) ?_
      refine Or.inr ⟨0, rfl, ?_⟩
      show RP 1 _ 9 [(0, .ref 0), (1, .int f), (2, .int i), (3, .int op), (4, .int a), (5, .int b), (6, .int c), (7, .int d)] [.int 0] _
      refine RP_done 5 (fun n => rfl) ?_
      show RP 62 _ 0 [(0, .ref 0), (1, .int f), (2, .int i), (3, .int op), (4, .int a), (5, .int b), (6, .int c), (7, .int d)] [] _
      refine RP_step (pc1 := 1) (L1 := [(0, .ref 0), (1, .int f), (2, .int i), (3, .int op), (4, .int a), (5, .int b), (6, .int c), (7, .int d)]) (S1 := [.int f]) 1 0 (fun n => rfl) ?_
      refine RP_call 56 [.int f] (fun n => rfl) ?_
      show RP 56 _ 0 [(0, .int f)] [] _
      refine RP_step (pc1 := 3) (L1 := [(0, .int f)]) (S1 := [.int 5, .int 0, .int f]) 3 0 (fun n => rfl) ?_
      refine RP_call 55 [.int f, .int 0, .int 5] (fun n => rfl) ?_
      show RP 55 _ 0 [(0, .int f), (1, .int 0), (2, .int 5)] [] _
      refine RP_step (pc1 := 2) (L1 := [(0, .int f), (1, .int 0), (2, .int 5)]) (S1 := [.int 0, .int f]) 2 0 (fun n => rfl) ?_
      refine RP_cond (decide (f < 0)) (fun n => rfl) (fun h => absurd (of_decide_eq_true h) (xi_nlt (x := f) (y := 0) (show 0 ≤ f.toInt by omega))) (fun _ => ?_)
      show RP 55 _ 5 [(0, .int f), (1, .int 0), (2, .int 5)] [] _
      refine RP_step (pc1 := 7) (L1 := [(0, .int f), (1, .int 0), (2, .int 5)]) (S1 := [.int 5, .int f]) 2 0 (fun n => rfl) ?_
      refine RP_cond (decide (5 < f)) (fun n => rfl) (fun _ => ?_) (fun h => absurd (xi_lt (x := 5) (y := f) (show 5 < f.toInt by omega)) (of_decide_eq_false h))
      show RP 55 _ 14 [(0, .int f), (1, .int 0), (2, .int 5)] [] _
      refine RP_done 4 (fun n => rfl) ?_
      refine Or.inr ⟨0, rfl, ?_⟩
      show RP 56 _ 6 [(0, .int f)] [.int 0] _
      refine RP_done 3 (fun n => rfl) ?_
      refine Or.inr ⟨0, rfl, ?_⟩
      show RP 62 _ 4 [(0, .ref 0), (1, .int f), (2, .int i), (3, .int op), (4, .int a), (5, .int b), (6, .int c), (7, .int d)] [.int 0] _
      refine RP_done 5 (fun n => rfl) ?_
      exact ⟨rfl, _, rfl⟩
    · have h7 := of_decide_eq_false hh
      have h8 : f.toInt < 6 := xj_nle h7
      show RP 22 _ 10 [(0, .int f)] [] _
      refine RP_done 5 (fun n => rfl) ?_
      refine Or.inr ⟨1, rfl, ?_⟩
      show RP 28 _ 4 [(0, .ref 1), (1, .int f), (2, .int i)] [.int 1] _
      refine RP_step (pc1 := 8) (L1 := [(0, .ref 1), (1, .int f), (2, .int i)]) (S1 := [.int i]) 2 0 (fun n => rfl) ?_
      refine RP_cond (decide (i < 0)) (fun n => rfl) (fun hh => ?_) (fun hh => ?_)
      · have h9 := of_decide_eq_true hh
        have h10 : i.toInt < 0 := xj_lt h9
        show RP 28 _ 25 [(0, .ref 1), (1, .int f), (2, .int i)] [] _
        refine RP_done 4 (fun n => rfl) ?_
        refine Or.inr ⟨0, rfl, ?_⟩
        show RP 1 _ 9 [(0, .ref 0), (1, .int f), (2, .int i), (3, .int op), (4, .int a), (5, .int b), (6, .int c), (7, .int d)] [.int 0] _
        refine RP_done 5 (fun n => rfl) ?_
        show RP 62 _ 0 [(0, .ref 0), (1, .int f), (2, .int i), (3, .int op), (4, .int a), (5, .int b), (6, .int c), (7, .int d)] [] _
        refine RP_step (pc1 := 1) (L1 := [(0, .ref 0), (1, .int f), (2, .int i), (3, .int op), (4, .int a), (5, .int b), (6, .int c), (7, .int d)]) (S1 := [.int f]) 1 0 (fun n => rfl) ?_
        refine RP_call 56 [.int f] (fun n => rfl) ?_
        show RP 56 _ 0 [(0, .int f)] [] _
        refine RP_step (pc1 := 3) (L1 := [(0, .int f)]) (S1 := [.int 5, .int 0, .int f]) 3 0 (fun n => rfl) ?_
        refine RP_call 55 [.int f, .int 0, .int 5] (fun n => rfl) ?_
        show RP 55 _ 0 [(0, .int f), (1, .int 0), (2, .int 5)] [] _
        refine RP_step (pc1 := 2) (L1 := [(0, .int f), (1, .int 0), (2, .int 5)]) (S1 := [.int 0, .int f]) 2 0 (fun n => rfl) ?_
        refine RP_cond (decide (f < 0)) (fun n => rfl) (fun h => absurd (of_decide_eq_true h) (xi_nlt (x := f) (y := 0) (show 0 ≤ f.toInt by omega))) (fun _ => ?_)
        show RP 55 _ 5 [(0, .int f), (1, .int 0), (2, .int 5)] [] _
        refine RP_step (pc1 := 7) (L1 := [(0, .int f), (1, .int 0), (2, .int 5)]) (S1 := [.int 5, .int f]) 2 0 (fun n => rfl) ?_
        refine RP_cond (decide (5 < f)) (fun n => rfl) (fun h => absurd (of_decide_eq_true h) (xi_nlt (x := 5) (y := f) (show f.toInt ≤ 5 by omega))) (fun _ => ?_)
        show RP 55 _ 10 [(0, .int f), (1, .int 0), (2, .int 5)] [] _
        refine RP_done 5 (fun n => rfl) ?_
        refine Or.inr ⟨1, rfl, ?_⟩
        show RP 56 _ 6 [(0, .int f)] [.int 1] _
        refine RP_done 3 (fun n => rfl) ?_
        refine Or.inr ⟨1, rfl, ?_⟩
        show RP 62 _ 4 [(0, .ref 0), (1, .int f), (2, .int i), (3, .int op), (4, .int a), (5, .int b), (6, .int c), (7, .int d)] [.int 1] _
        refine RP_step (pc1 := 14) (L1 := [(0, .ref 0), (1, .int f), (2, .int i), (3, .int op), (4, .int a), (5, .int b), (6, .int c), (7, .int d)]) (S1 := [.int f, .ref 2, .int 0, .int i]) 6 0 (fun n => rfl) ?_
        rcases (show f.toInt = 0 ∨ f.toInt = 1 ∨ f.toInt = 2 ∨ f.toInt = 3 ∨ f.toInt = 4 ∨ f.toInt = 5 by omega) with e9 | e9 | e9 | e9 | e9 | e9
        · obtain rfl : f = 0 := xi_eq e9
          show RP 62 _ 14 [(0, .ref 0), (1, .int 0), (2, .int i), (3, .int op), (4, .int a), (5, .int b), (6, .int c), (7, .int d)] [.int 0, .ref 2, .int 0, .int i] _
          refine RP_step (pc1 := 17) (L1 := [(0, .ref 0), (1, .int 0), (2, .int i), (3, .int op), (4, .int a), (5, .int b), (6, .int c), (7, .int d)]) (S1 := [.int (-1), .int 0, .int i]) 3 0 (fun n => rfl) ?_
          refine RP_call 55 [.int i, .int 0, .int (-1)] (fun n => rfl) ?_
          show RP 55 _ 0 [(0, .int i), (1, .int 0), (2, .int (-1))] [] _
          refine RP_step (pc1 := 2) (L1 := [(0, .int i), (1, .int 0), (2, .int (-1))]) (S1 := [.int 0, .int i]) 2 0 (fun n => rfl) ?_
          refine RP_cond (decide (i < 0)) (fun n => rfl) (fun _ => ?_) (fun h => absurd (xi_lt (x := i) (y := 0) (show i.toInt < 0 by omega)) (of_decide_eq_false h))
          show RP 55 _ 14 [(0, .int i), (1, .int 0), (2, .int (-1))] [] _
          refine RP_done 4 (fun n => rfl) ?_
          refine Or.inr ⟨0, rfl, ?_⟩
          show RP 62 _ 20 [(0, .ref 0), (1, .int 0), (2, .int i), (3, .int op), (4, .int a), (5, .int b), (6, .int c), (7, .int d)] [.int 0] _
          refine RP_done 5 (fun n => rfl) ?_
          exact ⟨rfl, _, rfl⟩
        · obtain rfl : f = 1 := xi_eq e9
          show RP 62 _ 14 [(0, .ref 0), (1, .int 1), (2, .int i), (3, .int op), (4, .int a), (5, .int b), (6, .int c), (7, .int d)] [.int 1, .ref 2, .int 0, .int i] _
          refine RP_step (pc1 := 17) (L1 := [(0, .ref 0), (1, .int 1), (2, .int i), (3, .int op), (4, .int a), (5, .int b), (6, .int c), (7, .int d)]) (S1 := [.int (-1), .int 0, .int i]) 3 0 (fun n => rfl) ?_
          refine RP_call 55 [.int i, .int 0, .int (-1)] (fun n => rfl) ?_
          show RP 55 _ 0 [(0, .int i), (1, .int 0), (2, .int (-1))] [] _
          refine RP_step (pc1 := 2) (L1 := [(0, .int i), (1, .int 0), (2, .int (-1))]) (S1 := [.int 0, .int i]) 2 0 (fun n => rfl) ?_
          refine RP_cond (decide (i < 0)) (fun n => rfl) (fun _ => ?_) (fun h => absurd (xi_lt (x := i) (y := 0) (show i.toInt < 0 by omega)) (of_decide_eq_false h))
          show RP 55 _ 14 [(0, .int i), (1, .int 0), (2, .int (-1))] [] _
          refine RP_done 4 (fun n => rfl) ?_
          refine Or.inr ⟨0, rfl, ?_⟩
          show RP 62 _ 20 [(0, .ref 0), (1, .int 1), (2, .int i), (3, .int op), (4, .int a), (5, .int b), (6, .int c), (7, .int d)] [.int 0] _
          refine RP_done 5 (fun n => rfl) ?_
          exact ⟨rfl, _, rfl⟩
        · obtain rfl : f = 2 := xi_eq e9
          show RP 62 _ 14 [(0, .ref 0), (1, .int 2), (2, .int i), (3, .int op), (4, .int a), (5, .int b), (6, .int c), (7, .int d)] [.int 2, .ref 2, .int 0, .int i] _
          refine RP_step (pc1 := 17) (L1 := [(0, .ref 0), (1, .int 2), (2, .int i), (3, .int op), (4, .int a), (5, .int b), (6, .int c), (7, .int d)]) (S1 := [.int (-1), .int 0, .int i]) 3 0 (fun n => rfl) ?_
          refine RP_call 55 [.int i, .int 0, .int (-1)] (fun n => rfl) ?_
          show RP 55 _ 0 [(0, .int i), (1, .int 0), (2, .int (-1))] [] _
          refine RP_step (pc1 := 2) (L1 := [(0, .int i), (1, .int 0), (2, .int (-1))]) (S1 := [.int 0, .int i]) 2 0 (fun n => rfl) ?_
          refine RP_cond (decide (i < 0)) (fun n => rfl) (fun _ => ?_) (fun h => absurd (xi_lt (x := i) (y := 0) (show i.toInt < 0 by omega)) (of_decide_eq_false h))
          show RP 55 _ 14 [(0, .int i), (1, .int 0), (2, .int (-1))] [] _
          refine RP_done 4 (fun n => rfl) ?_
          refine Or.inr ⟨0, rfl, ?_⟩
          show RP 62 _ 20 [(0, .ref 0), (1, .int 2), (2, .int i), (3, .int op), (4, .int a), (5, .int b), (6, .int c), (7, .int d)] [.int 0] _
          refine RP_done 5 (fun n => rfl) ?_
          exact ⟨rfl, _, rfl⟩
        · obtain rfl : f = 3 := xi_eq e9
          show RP 62 _ 14 [(0, .ref 0), (1, .int 3), (2, .int i), (3, .int op), (4, .int a), (5, .int b), (6, .int c), (7, .int d)] [.int 3, .ref 2, .int 0, .int i] _
          refine RP_step (pc1 := 17) (L1 := [(0, .ref 0), (1, .int 3), (2, .int i), (3, .int op), (4, .int a), (5, .int b), (6, .int c), (7, .int d)]) (S1 := [.int (-1), .int 0, .int i]) 3 0 (fun n => rfl) ?_
          refine RP_call 55 [.int i, .int 0, .int (-1)] (fun n => rfl) ?_
          show RP 55 _ 0 [(0, .int i), (1, .int 0), (2, .int (-1))] [] _
          refine RP_step (pc1 := 2) (L1 := [(0, .int i), (1, .int 0), (2, .int (-1))]) (S1 := [.int 0, .int i]) 2 0 (fun n => rfl) ?_
          refine RP_cond (decide (i < 0)) (fun n => rfl) (fun _ => ?_) (fun h => absurd (xi_lt (x := i) (y := 0) (show i.toInt < 0 by omega)) (of_decide_eq_false h))
          show RP 55 _ 14 [(0, .int i), (1, .int 0), (2, .int (-1))] [] _
          refine RP_done 4 (fun n => rfl) ?_
          refine Or.inr ⟨0, rfl, ?_⟩
          show RP 62 _ 20 [(0, .ref 0), (1, .int 3), (2, .int i), (3, .int op), (4, .int a), (5, .int b), (6, .int c), (7, .int d)] [.int 0] _
          refine RP_done 5 (fun n => rfl) ?_
          exact ⟨rfl, _, rfl⟩
        · obtain rfl : f = 4 := xi_eq e9
          show RP 62 _ 14 [(0, .ref 0), (1, .int 4), (2, .int i), (3, .int op), (4, .int a), (5, .int b), (6, .int c), (7, .int d)] [.int 4, .ref 2, .int 0, .int i] _
          refine RP_step (pc1 := 17) (L1 := [(0, .ref 0), (1, .int 4), (2, .int i), (3, .int op), (4, .int a), (5, .int b), (6, .int c), (7, .int d)]) (S1 := [.int (-1), .int 0, .int i]) 3 0 (fun n => rfl) ?_
          refine RP_call 55 [.int i, .int 0, .int (-1)] (fun n => rfl) ?_
          show RP 55 _ 0 [(0, .int i), (1, .int 0), (2, .int (-1))] [] _
          refine RP_step (pc1 := 2) (L1 := [(0, .int i), (1, .int 0), (2, .int (-1))]) (S1 := [.int 0, .int i]) 2 0 (fun n => rfl) ?_
          refine RP_cond (decide (i < 0)) (fun n => rfl) (fun _ => ?_) (fun h => absurd (xi_lt (x := i) (y := 0) (show i.toInt < 0 by omega)) (of_decide_eq_false h))
          show RP 55 _ 14 [(0, .int i), (1, .int 0), (2, .int (-1))] [] _
          refine RP_done 4 (fun n => rfl) ?_
          refine Or.inr ⟨0, rfl, ?_⟩
          show RP 62 _ 20 [(0, .ref 0), (1, .int 4), (2, .int i), (3, .int op), (4, .int a), (5, .int b), (6, .int c), (7, .int d)] [.int 0] _
          refine RP_done 5 (fun n => rfl) ?_
          exact ⟨rfl, _, rfl⟩
        · obtain rfl : f = 5 := xi_eq e9
          show RP 62 _ 14 [(0, .ref 0), (1, .int 5), (2, .int i), (3, .int op), (4, .int a), (5, .int b), (6, .int c), (7, .int d)] [.int 5, .ref 2, .int 0, .int i] _
          refine RP_step (pc1 := 17) (L1 := [(0, .ref 0), (1, .int 5), (2, .int i), (3, .int op), (4, .int a), (5, .int b), (6, .int c), (7, .int d)]) (S1 := [.int (-1), .int 0, .int i]) 3 0 (fun n => rfl) ?_
          refine RP_call 55 [.int i, .int 0, .int (-1)] (fun n => rfl) ?_
          show RP 55 _ 0 [(0, .int i), (1, .int 0), (2, .int (-1))] [] _
          refine RP_step (pc1 := 2) (L1 := [(0, .int i), (1, .int 0), (2, .int (-1))]) (S1 := [.int 0, .int i]) 2 0 (fun n => rfl) ?_
          refine RP_cond (decide (i < 0)) (fun n => rfl) (fun _ => ?_) (fun h => absurd (xi_lt (x := i) (y := 0) (show i.toInt < 0 by omega)) (of_decide_eq_false h))
          show RP 55 _ 14 [(0, .int i), (1, .int 0), (2, .int (-1))] [] _
          refine RP_done 4 (fun n => rfl) ?_
          refine Or.inr ⟨0, rfl, ?_⟩
          show RP 62 _ 20 [(0, .ref 0), (1, .int 5), (2, .int i), (3, .int op), (4, .int a), (5, .int b), (6, .int c), (7, .int d)] [.int 0] _
          refine RP_done 5 (fun n => rfl) ?_
          exact ⟨rfl, _, rfl⟩
      · have h11 := of_decide_eq_false hh
        have h12 : 0 ≤ i.toInt := xj_nlt h11
        show RP 28 _ 11 [(0, .ref 1), (1, .int f), (2, .int i)] [] _
        refine RP_step (pc1 := 17) (L1 := [(0, .ref 1), (1, .int f), (2, .int i)]) (S1 := [.int f, .ref 2, .int i]) 4 0 (fun n => rfl) ?_
        rcases (show f.toInt = 0 ∨ f.toInt = 1 ∨ f.toInt = 2 ∨ f.toInt = 3 ∨ f.toInt = 4 ∨ f.toInt = 5 by omega) with e9 | e9 | e9 | e9 | e9 | e9
        · obtain rfl : f = 0 := xi_eq e9
          show RP 28 _ 17 [(0, .ref 1), (1, .int 0), (2, .int i)] [.int 0, .ref 2, .int i] _
          refine RP_step (pc1 := 18) (L1 := [(0, .ref 1), (1, .int 0), (2, .int i)]) (S1 := [.int 0, .int i]) 1 0 (fun n => rfl) ?_
          refine RP_cond (decide (0 ≤ i)) (fun n => rfl) (fun _ => ?_) (fun h => absurd (xi_le (x := 0) (y := i) (show 0 ≤ i.toInt by omega)) (of_decide_eq_false h))
          show RP 28 _ 25 [(0, .ref 1), (1, .int 0), (2, .int i)] [] _
          refine RP_done 4 (fun n => rfl) ?_
          refine Or.inr ⟨0, rfl, ?_⟩
          show RP 1 _ 9 [(0, .ref 0), (1, .int 0), (2, .int i), (3, .int op), (4, .int a), (5, .int b), (6, .int c), (7, .int d)] [.int 0] _
          refine RP_done 5 (fun n => rfl) ?_
          show RP 62 _ 0 [(0, .ref 0), (1, .int 0), (2, .int i), (3, .int op), (4, .int a), (5, .int b), (6, .int c), (7, .int d)] [] _
          refine RP_step (pc1 := 1) (L1 := [(0, .ref 0), (1, .int 0), (2, .int i), (3, .int op), (4, .int a), (5, .int b), (6, .int c), (7, .int d)]) (S1 := [.int 0]) 1 0 (fun n => rfl) ?_
          refine RP_call 56 [.int 0] (fun n => rfl) ?_
          show RP 56 _ 0 [(0, .int 0)] [] _
          refine RP_done 15 (fun n => rfl) ?_
          refine Or.inr ⟨1, rfl, ?_⟩
          show RP 62 _ 4 [(0, .ref 0), (1, .int 0), (2, .int i), (3, .int op), (4, .int a), (5, .int b), (6, .int c), (7, .int d)] [.int 1] _
          refine RP_step (pc1 := 17) (L1 := [(0, .ref 0), (1, .int 0), (2, .int i), (3, .int op), (4, .int a), (5, .int b), (6, .int c), (7, .int d)]) (S1 := [.int (-1), .int 0, .int i]) 9 0 (fun n => rfl) ?_
          refine RP_call 55 [.int i, .int 0, .int (-1)] (fun n => rfl) ?_
          show RP 55 _ 0 [(0, .int i), (1, .int 0), (2, .int (-1))] [] _
          refine RP_step (pc1 := 2) (L1 := [(0, .int i), (1, .int 0), (2, .int (-1))]) (S1 := [.int 0, .int i]) 2 0 (fun n => rfl) ?_
          refine RP_cond (decide (i < 0)) (fun n => rfl) (fun h => absurd (of_decide_eq_true h) (xi_nlt (x := i) (y := 0) (show 0 ≤ i.toInt by omega))) (fun _ => ?_)
          show RP 55 _ 5 [(0, .int i), (1, .int 0), (2, .int (-1))] [] _
          refine RP_step (pc1 := 7) (L1 := [(0, .int i), (1, .int 0), (2, .int (-1))]) (S1 := [.int (-1), .int i]) 2 0 (fun n => rfl) ?_
          refine RP_cond (decide ((-1) < i)) (fun n => rfl) (fun _ => ?_) (fun h => absurd (xi_lt (x := (-1)) (y := i) (show -1 < i.toInt by omega)) (of_decide_eq_false h))
          show RP 55 _ 14 [(0, .int i), (1, .int 0), (2, .int (-1))] [] _
          refine RP_done 4 (fun n => rfl) ?_
          refine Or.inr ⟨0, rfl, ?_⟩
          show RP 62 _ 20 [(0, .ref 0), (1, .int 0), (2, .int i), (3, .int op), (4, .int a), (5, .int b), (6, .int c), (7, .int d)] [.int 0] _
          refine RP_done 5 (fun n => rfl) ?_
          exact ⟨rfl, _, rfl⟩
        · obtain rfl : f = 1 := xi_eq e9
          show RP 28 _ 17 [(0, .ref 1), (1, .int 1), (2, .int i)] [.int 1, .ref 2, .int i] _
          refine RP_step (pc1 := 18) (L1 := [(0, .ref 1), (1, .int 1), (2, .int i)]) (S1 := [.int 0, .int i]) 1 0 (fun n => rfl) ?_
          refine RP_cond (decide (0 ≤ i)) (fun n => rfl) (fun _ => ?_) (fun h => absurd (xi_le (x := 0) (y := i) (show 0 ≤ i.toInt by omega)) (of_decide_eq_false h))
          show RP 28 _ 25 [(0, .ref 1), (1, .int 1), (2, .int i)] [] _
          refine RP_done 4 (fun n => rfl) ?_
          refine Or.inr ⟨0, rfl, ?_⟩
          show RP 1 _ 9 [(0, .ref 0), (1, .int 1), (2, .int i), (3, .int op), (4, .int a), (5, .int b), (6, .int c), (7, .int d)] [.int 0] _
          refine RP_done 5 (fun n => rfl) ?_
          show RP 62 _ 0 [(0, .ref 0), (1, .int 1), (2, .int i), (3, .int op), (4, .int a), (5, .int b), (6, .int c), (7, .int d)] [] _
          refine RP_step (pc1 := 1) (L1 := [(0, .ref 0), (1, .int 1), (2, .int i), (3, .int op), (4, .int a), (5, .int b), (6, .int c), (7, .int d)]) (S1 := [.int 1]) 1 0 (fun n => rfl) ?_
          refine RP_call 56 [.int 1] (fun n => rfl) ?_
          show RP 56 _ 0 [(0, .int 1)] [] _
          refine RP_done 15 (fun n => rfl) ?_
          refine Or.inr ⟨1, rfl, ?_⟩
          show RP 62 _ 4 [(0, .ref 0), (1, .int 1), (2, .int i), (3, .int op), (4, .int a), (5, .int b), (6, .int c), (7, .int d)] [.int 1] _
          refine RP_step (pc1 := 17) (L1 := [(0, .ref 0), (1, .int 1), (2, .int i), (3, .int op), (4, .int a), (5, .int b), (6, .int c), (7, .int d)]) (S1 := [.int (-1), .int 0, .int i]) 9 0 (fun n => rfl) ?_
          refine RP_call 55 [.int i, .int 0, .int (-1)] (fun n => rfl) ?_
          show RP 55 _ 0 [(0, .int i), (1, .int 0), (2, .int (-1))] [] _
          refine RP_step (pc1 := 2) (L1 := [(0, .int i), (1, .int 0), (2, .int (-1))]) (S1 := [.int 0, .int i]) 2 0 (fun n => rfl) ?_
          refine RP_cond (decide (i < 0)) (fun n => rfl) (fun h => absurd (of_decide_eq_true h) (xi_nlt (x := i) (y := 0) (show 0 ≤ i.toInt by omega))) (fun _ => ?_)
          show RP 55 _ 5 [(0, .int i), (1, .int 0), (2, .int (-1))] [] _
          refine RP_step (pc1 := 7) (L1 := [(0, .int i), (1, .int 0), (2, .int (-1))]) (S1 := [.int (-1), .int i]) 2 0 (fun n => rfl) ?_
          refine RP_cond (decide ((-1) < i)) (fun n => rfl) (fun _ => ?_) (fun h => absurd (xi_lt (x := (-1)) (y := i) (show -1 < i.toInt by omega)) (of_decide_eq_false h))
          show RP 55 _ 14 [(0, .int i), (1, .int 0), (2, .int (-1))] [] _
          refine RP_done 4 (fun n => rfl) ?_
          refine Or.inr ⟨0, rfl, ?_⟩
          show RP 62 _ 20 [(0, .ref 0), (1, .int 1), (2, .int i), (3, .int op), (4, .int a), (5, .int b), (6, .int c), (7, .int d)] [.int 0] _
          refine RP_done 5 (fun n => rfl) ?_
          exact ⟨rfl, _, rfl⟩
        · obtain rfl : f = 2 := xi_eq e9
          show RP 28 _ 17 [(0, .ref 1), (1, .int 2), (2, .int i)] [.int 2, .ref 2, .int i] _
          refine RP_step (pc1 := 18) (L1 := [(0, .ref 1), (1, .int 2), (2, .int i)]) (S1 := [.int 0, .int i]) 1 0 (fun n => rfl) ?_
          refine RP_cond (decide (0 ≤ i)) (fun n => rfl) (fun _ => ?_) (fun h => absurd (xi_le (x := 0) (y := i) (show 0 ≤ i.toInt by omega)) (of_decide_eq_false h))
          show RP 28 _ 25 [(0, .ref 1), (1, .int 2), (2, .int i)] [] _
          refine RP_done 4 (fun n => rfl) ?_
          refine Or.inr ⟨0, rfl, ?_⟩
          show RP 1 _ 9 [(0, .ref 0), (1, .int 2), (2, .int i), (3, .int op), (4, .int a), (5, .int b), (6, .int c), (7, .int d)] [.int 0] _
          refine RP_done 5 (fun n => rfl) ?_
          show RP 62 _ 0 [(0, .ref 0), (1, .int 2), (2, .int i), (3, .int op), (4, .int a), (5, .int b), (6, .int c), (7, .int d)] [] _
          refine RP_step (pc1 := 1) (L1 := [(0, .ref 0), (1, .int 2), (2, .int i), (3, .int op), (4, .int a), (5, .int b), (6, .int c), (7, .int d)]) (S1 := [.int 2]) 1 0 (fun n => rfl) ?_
          refine RP_call 56 [.int 2] (fun n => rfl) ?_
          show RP 56 _ 0 [(0, .int 2)] [] _
          refine RP_done 15 (fun n => rfl) ?_
          refine Or.inr ⟨1, rfl, ?_⟩
          show RP 62 _ 4 [(0, .ref 0), (1, .int 2), (2, .int i), (3, .int op), (4, .int a), (5, .int b), (6, .int c), (7, .int d)] [.int 1] _
          refine RP_step (pc1 := 17) (L1 := [(0, .ref 0), (1, .int 2), (2, .int i), (3, .int op), (4, .int a), (5, .int b), (6, .int c), (7, .int d)]) (S1 := [.int (-1), .int 0, .int i]) 9 0 (fun n => rfl) ?_
          refine RP_call 55 [.int i, .int 0, .int (-1)] (fun n => rfl) ?_
          show RP 55 _ 0 [(0, .int i), (1, .int 0), (2, .int (-1))] [] _
          refine RP_step (pc1 := 2) (L1 := [(0, .int i), (1, .int 0), (2, .int (-1))]) (S1 := [.int 0, .int i]) 2 0 (fun n => rfl) ?_
          refine RP_cond (decide (i < 0)) (fun n => rfl) (fun h => absurd (of_decide_eq_true h) (xi_nlt (x := i) (y := 0) (show 0 ≤ i.toInt by omega))) (fun _ => ?_)
          show RP 55 _ 5 [(0, .int i), (1, .int 0), (2, .int (-1))] [] _
          refine RP_step (pc1 := 7) (L1 := [(0, .int i), (1, .int 0), (2, .int (-1))]) (S1 := [.int (-1), .int i]) 2 0 (fun n => rfl) ?_
          refine RP_cond (decide ((-1) < i)) (fun n => rfl) (fun _ => ?_) (fun h => absurd (xi_lt (x := (-1)) (y := i) (show -1 < i.toInt by omega)) (of_decide_eq_false h))
          show RP 55 _ 14 [(0, .int i), (1, .int 0), (2, .int (-1))] [] _
          refine RP_done 4 (fun n => rfl) ?_
          refine Or.inr ⟨0, rfl, ?_⟩
          show RP 62 _ 20 [(0, .ref 0), (1, .int 2), (2, .int i), (3, .int op), (4, .int a), (5, .int b), (6, .int c), (7, .int d)] [.int 0] _
          refine RP_done 5 (fun n => rfl) ?_
          exact ⟨rfl, _, rfl⟩
        · obtain rfl : f = 3 := xi_eq e9
          show RP 28 _ 17 [(0, .ref 1), (1, .int 3), (2, .int i)] [.int 3, .ref 2, .int i] _
          refine RP_step (pc1 := 18) (L1 := [(0, .ref 1), (1, .int 3), (2, .int i)]) (S1 := [.int 0, .int i]) 1 0 (fun n => rfl) ?_
          refine RP_cond (decide (0 ≤ i)) (fun n => rfl) (fun _ => ?_) (fun h => absurd (xi_le (x := 0) (y := i) (show 0 ≤ i.toInt by omega)) (of_decide_eq_false h))
          show RP 28 _ 25 [(0, .ref 1), (1, .int 3), (2, .int i)] [] _
          refine RP_done 4 (fun n => rfl) ?_
          refine Or.inr ⟨0, rfl, ?_⟩
          show RP 1 _ 9 [(0, .ref 0), (1, .int 3), (2, .int i), (3, .int op), (4, .int a), (5, .int b), (6, .int c), (7, .int d)] [.int 0] _
          refine RP_done 5 (fun n => rfl) ?_
          show RP 62 _ 0 [(0, .ref 0), (1, .int 3), (2, .int i), (3, .int op), (4, .int a), (5, .int b), (6, .int c), (7, .int d)] [] _
          refine RP_step (pc1 := 1) (L1 := [(0, .ref 0), (1, .int 3), (2, .int i), (3, .int op), (4, .int a), (5, .int b), (6, .int c), (7, .int d)]) (S1 := [.int 3]) 1 0 (fun n => rfl) ?_
          refine RP_call 56 [.int 3] (fun n => rfl) ?_
          show RP 56 _ 0 [(0, .int 3)] [] _
          refine RP_done 15 (fun n => rfl) ?_
          refine Or.inr ⟨1, rfl, ?_⟩
          show RP 62 _ 4 [(0, .ref 0), (1, .int 3), (2, .int i), (3, .int op), (4, .int a), (5, .int b), (6, .int c), (7, .int d)] [.int 1] _
          refine RP_step (pc1 := 17) (L1 := [(0, .ref 0), (1, .int 3), (2, .int i), (3, .int op), (4, .int a), (5, .int b), (6, .int c), (7, .int d)]) (S1 := [.int (-1), .int 0, .int i]) 9 0 (fun n => rfl) ?_
          refine RP_call 55 [.int i, .int 0, .int (-1)] (fun n => rfl) ?_
          show RP 55 _ 0 [(0, .int i), (1, .int 0), (2, .int (-1))] [] _
          refine RP_step (pc1 := 2) (L1 := [(0, .int i), (1, .int 0), (2, .int (-1))]) (S1 := [.int 0, .int i]) 2 0 (fun n => rfl) ?_
          refine RP_cond (decide (i < 0)) (fun n => rfl) (fun h => absurd (of_decide_eq_true h) (xi_nlt (x := i) (y := 0) (show 0 ≤ i.toInt by omega))) (fun _ => ?_)
          show RP 55 _ 5 [(0, .int i), (1, .int 0), (2, .int (-1))] [] _
          refine RP_step (pc1 := 7) (L1 := [(0, .int i), (1, .int 0), (2, .int (-1))]) (S1 := [.int (-1), .int i]) 2 0 (fun n => rfl) ?_
          refine RP_cond (decide ((-1) < i)) (fun n => rfl) (fun _ => ?_) (fun h => absurd (xi_lt (x := (-1)) (y := i) (show -1 < i.toInt by omega)) (of_decide_eq_false h))
          show RP 55 _ 14 [(0, .int i), (1, .int 0), (2, .int (-1))] [] _
          refine RP_done 4 (fun n => rfl) ?_
          refine Or.inr ⟨0, rfl, ?_⟩
          show RP 62 _ 20 [(0, .ref 0), (1, .int 3), (2, .int i), (3, .int op), (4, .int a), (5, .int b), (6, .int c), (7, .int d)] [.int 0] _
          refine RP_done 5 (fun n => rfl) ?_
          exact ⟨rfl, _, rfl⟩
        · obtain rfl : f = 4 := xi_eq e9
          show RP 28 _ 17 [(0, .ref 1), (1, .int 4), (2, .int i)] [.int 4, .ref 2, .int i] _
          refine RP_step (pc1 := 18) (L1 := [(0, .ref 1), (1, .int 4), (2, .int i)]) (S1 := [.int 0, .int i]) 1 0 (fun n => rfl) ?_
          refine RP_cond (decide (0 ≤ i)) (fun n => rfl) (fun _ => ?_) (fun h => absurd (xi_le (x := 0) (y := i) (show 0 ≤ i.toInt by omega)) (of_decide_eq_false h))
          show RP 28 _ 25 [(0, .ref 1), (1, .int 4), (2, .int i)] [] _
          refine RP_done 4 (fun n => rfl) ?_
          refine Or.inr ⟨0, rfl, ?_⟩
          show RP 1 _ 9 [(0, .ref 0), (1, .int 4), (2, .int i), (3, .int op), (4, .int a), (5, .int b), (6, .int c), (7, .int d)] [.int 0] _
          refine RP_done 5 (fun n => rfl) ?_
          show RP 62 _ 0 [(0, .ref 0), (1, .int 4), (2, .int i), (3, .int op), (4, .int a), (5, .int b), (6, .int c), (7, .int d)] [] _
          refine RP_step (pc1 := 1) (L1 := [(0, .ref 0), (1, .int 4), (2, .int i), (3, .int op), (4, .int a), (5, .int b), (6, .int c), (7, .int d)]) (S1 := [.int 4]) 1 0 (fun n => rfl) ?_
          refine RP_call 56 [.int 4] (fun n => rfl) ?_
          show RP 56 _ 0 [(0, .int 4)] [] _
          refine RP_done 15 (fun n => rfl) ?_
          refine Or.inr ⟨1, rfl, ?_⟩
          show RP 62 _ 4 [(0, .ref 0), (1, .int 4), (2, .int i), (3, .int op), (4, .int a), (5, .int b), (6, .int c), (7, .int d)] [.int 1] _
          refine RP_step (pc1 := 17) (L1 := [(0, .ref 0), (1, .int 4), (2, .int i), (3, .int op), (4, .int a), (5, .int b), (6, .int c), (7, .int d)]) (S1 := [.int (-1), .int 0, .int i]) 9 0 (fun n => rfl) ?_
          refine RP_call 55 [.int i, .int 0, .int (-1)] (fun n => rfl) ?_
          show RP 55 _ 0 [(0, .int i), (1, .int 0), (2, .int (-1))] [] _
          refine RP_step (pc1 := 2) (L1 := [(0, .int i), (1, .int 0), (2, .int (-1))]) (S1 := [.int 0, .int i]) 2 0 (fun n => rfl) ?_
          refine RP_cond (decide (i < 0)) (fun n => rfl) (fun h => absurd (of_decide_eq_true h) (xi_nlt (x := i) (y := 0) (show 0 ≤ i.toInt by omega))) (fun _ => ?_)
          show RP 55 _ 5 [(0, .int i), (1, .int 0), (2, .int (-1))] [] _
          refine RP_step (pc1 := 7) (L1 := [(0, .int i), (1, .int 0), (2, .int (-1))]) (S1 := [.int (-1), .int i]) 2 0 (fun n => rfl) ?_
          refine RP_cond (decide ((-1) < i)) (fun n => rfl) (fun _ => ?_) (fun h => absurd (xi_lt (x := (-1)) (y := i) (show -1 < i.toInt by omega)) (of_decide_eq_false h))
          show RP 55 _ 14 [(0, .int i), (1, .int 0), (2, .int (-1))] [] _
          refine RP_done 4 (fun n => rfl) ?_
          refine Or.inr ⟨0, rfl, ?_⟩
          show RP 62 _ 20 [(0, .ref 0), (1, .int 4), (2, .int i), (3, .int op), (4, .int a), (5, .int b), (6, .int c), (7, .int d)] [.int 0] _
          refine RP_done 5 (fun n => rfl) ?_
          exact ⟨rfl, _, rfl⟩
        · obtain rfl : f = 5 := xi_eq e9
          show RP 28 _ 17 [(0, .ref 1), (1, .int 5), (2, .int i)] [.int 5, .ref 2, .int i] _
          refine RP_step (pc1 := 18) (L1 := [(0, .ref 1), (1, .int 5), (2, .int i)]) (S1 := [.int 0, .int i]) 1 0 (fun n => rfl) ?_
          refine RP_cond (decide (0 ≤ i)) (fun n => rfl) (fun _ => ?_) (fun h => absurd (xi_le (x := 0) (y := i) (show 0 ≤ i.toInt by omega)) (of_decide_eq_false h))
          show RP 28 _ 25 [(0, .ref 1), (1, .int 5), (2, .int i)] [] _
          refine RP_done 4 (fun n => rfl) ?_
          refine Or.inr ⟨0, rfl, ?_⟩
          show RP 1 _ 9 [(0, .ref 0), (1, .int 5), (2, .int i), (3, .int op), (4, .int a), (5, .int b), (6, .int c), (7, .int d)] [.int 0] _
          refine RP_done 5 (fun n => rfl) ?_
          show RP 62 _ 0 [(0, .ref 0), (1, .int 5), (2, .int i), (3, .int op), (4, .int a), (5, .int b), (6, .int c), (7, .int d)] [] _
          refine RP_step (pc1 := 1) (L1 := [(0, .ref 0), (1, .int 5), (2, .int i), (3, .int op), (4, .int a), (5, .int b), (6, .int c), (7, .int d)]) (S1 := [.int 5]) 1 0 (fun n => rfl) ?_
          refine RP_call 56 [.int 5] (fun n => rfl) ?_
          show RP 56 _ 0 [(0, .int 5)] [] _
          refine RP_done 15 (fun n => rfl) ?_
          refine Or.inr ⟨1, rfl, ?_⟩
          show RP 62 _ 4 [(0, .ref 0), (1, .int 5), (2, .int i), (3, .int op), (4, .int a), (5, .int b), (6, .int c), (7, .int d)] [.int 1] _
          refine RP_step (pc1 := 17) (L1 := [(0, .ref 0), (1, .int 5), (2, .int i), (3, .int op), (4, .int a), (5, .int b), (6, .int c), (7, .int d)]) (S1 := [.int (-1), .int 0, .int i]) 9 0 (fun n => rfl) ?_
          refine RP_call 55 [.int i, .int 0, .int (-1)] (fun n => rfl) ?_
          show RP 55 _ 0 [(0, .int i), (1, .int 0), (2, .int (-1))] [] _
          refine RP_step (pc1 := 2) (L1 := [(0, .int i), (1, .int 0), (2, .int (-1))]) (S1 := [.int 0, .int i]) 2 0 (fun n => rfl) ?_
          refine RP_cond (decide (i < 0)) (fun n => rfl) (fun h => absurd (of_decide_eq_true h) (xi_nlt (x := i) (y := 0) (show 0 ≤ i.toInt by omega))) (fun _ => ?_)
          show RP 55 _ 5 [(0, .int i), (1, .int 0), (2, .int (-1))] [] _
          refine RP_step (pc1 := 7) (L1 := [(0, .int i), (1, .int 0), (2, .int (-1))]) (S1 := [.int (-1), .int i]) 2 0 (fun n => rfl) ?_
          refine RP_cond (decide ((-1) < i)) (fun n => rfl) (fun _ => ?_) (fun h => absurd (xi_lt (x := (-1)) (y := i) (show -1 < i.toInt by omega)) (of_decide_eq_false h))
          show RP 55 _ 14 [(0, .int i), (1, .int 0), (2, .int (-1))] [] _
          refine RP_done 4 (fun n => rfl) ?_
          refine Or.inr ⟨0, rfl, ?_⟩
          show RP 62 _ 20 [(0, .ref 0), (1, .int 5), (2, .int i), (3, .int op), (4, .int a), (5, .int b), (6, .int c), (7, .int d)] [.int 0] _
          refine RP_done 5 (fun n => rfl) ?_
          exact ⟨rfl, _, rfl⟩

set_option maxHeartbeats 8000000 in
set_option maxRecDepth 1000000 in
theorem sm_2 (f : Int32) : Same 2 63 [.int f] := by
  refine Same_of ?_
  show RP 2 _ 0 [(0, .ref 0), (1, .int f)] [] _
  refine RP_step (pc1 := 1) (L1 := [(0, .ref 0), (1, .int f)]) (S1 := [.int f]) 1 0 (fun n => rfl) ?_
  refine RP_call 22 [.int f] (fun n => rfl) ?_
  show RP 22 _ 0 [(0, .int f)] [] _
  refine RP_step (pc1 := 1) (L1 := [(0, .int f)]) (S1 := [.int f]) 1 0 (fun n => rfl) ?_
  refine RP_cond (decide (f < 0)) (fun n => rfl) (fun hh => ?_) (fun hh => ?_)
  · have h1 := of_decide_eq_true hh
    have h2 : f.toInt < 0 := xj_lt h1
    show RP 22 _ 14 [(0, .int f)] [] _
    refine RP_done 4 (fun n => rfl) ?_
    refine Or.inr ⟨0, rfl, ?_⟩
    show RP 2 _ 4 [(0, .ref 0), (1, .int f)] [.int 0] _
    refine RP_done 5 (fun n => rfl) ?_
    show RP 63 _ 0 [(0, .ref 0), (1, .int f)] [] _
    refine RP_step (pc1 := 1) (L1 := [(0, .ref 0), (1, .int f)]) (S1 := [.int f]) 1 0 (fun n => rfl) ?_
    refine RP_call 56 [.int f] (fun n => rfl) ?_
    show RP 56 _ 0 [(0, .int f)] [] _
    refine RP_step (pc1 := 3) (L1 := [(0, .int f)]) (S1 := [.int 5, .int 0, .int f]) 3 0 (fun n => rfl) ?_
    refine RP_call 55 [.int f, .int 0, .int 5] (fun n => rfl) ?_
    show RP 55 _ 0 [(0, .int f), (1, .int 0), (2, .int 5)] [] _
    refine RP_step (pc1 := 2) (L1 := [(0, .int f), (1, .int 0), (2, .int 5)]) (S1 := [.int 0, .int f]) 2 0 (fun n => rfl) ?_
    refine RP_cond (decide (f < 0)) (fun n => rfl) (fun _ => ?_) (fun h => absurd (xi_lt (x := f) (y := 0) (show f.toInt < 0 by omega)) (of_decide_eq_false h))
    show RP 55 _ 14 [(0, .int f), (1, .int 0), (2, .int 5)] [] _
    refine RP_done 4 (fun n => rfl) ?_
    refine Or.inr ⟨0, rfl, ?_⟩
    show RP 56 _ 6 [(0, .int f)] [.int 0] _
    refine RP_done 3 (fun n => rfl) ?_
    refine Or.inr ⟨0, rfl, ?_⟩
    show RP 63 _ 4 [(0, .ref 0), (1, .int f)] [.int 0] _
    refine RP_done 5 (fun n => rfl) ?_
    exact ⟨rfl, _, rfl⟩
  · have h3 := of_decide_eq_false hh
    have h4 : 0 ≤ f.toInt := xj_nlt h3
    show RP 22 _ 4 [(0, .int f)] [] _
    refine RP_step (pc1 := 7) (L1 := [(0, .int f)]) (S1 := [.int 6, .int f]) 2 0 (fun n => rfl) ?_
    refine RP_cond (decide (6 ≤ f)) (fun n => rfl) (fun hh => ?_) (fun hh => ?_)
    · have h5 := of_decide_eq_true hh
      have h6 : 6 ≤ f.toInt := xj_le h5
      show RP 22 _ 14 [(0, .int f)] [] _
      refine RP_done 4 (fun n => rfl) ?_
      refine Or.inr ⟨0, rfl, ?_⟩
      show RP 2 _ 4 [(0, .ref 0), (1, .int f)] [.int 0] _
      refine RP_done 5 (fun n => rfl) ?_
      show RP 63 _ 0 [(0, .ref 0), (1, .int f)] [] _
      refine RP_step (pc1 := 1) (L1 := [(0, .ref 0), (1, .int f)]) (S1 := [.int f]) 1 0 (fun n => rfl) ?_
      refine RP_call 56 [.int f] (fun n => rfl) ?_
      show RP 56 _ 0 [(0, .int f)] [] _
      refine RP_step (pc1 := 3) (L1 := [(0, .int f)]) (S1 := [.int 5, .int 0, .int f]) 3 0 (fun n => rfl) ?_
      refine RP_call 55 [.int f, .int 0, .int 5] (fun n => rfl) ?_
      show RP 55 _ 0 [(0, .int f), (1, .int 0), (2, .int 5)] [] _
      refine RP_step (pc1 := 2) (L1 := [(0, .int f), (1, .int 0), (2, .int 5)]) (S1 := [.int 0, .int f]) 2 0 (fun n => rfl) ?_
      refine RP_cond (decide (f < 0)) (fun n => rfl) (fun h => absurd (of_decide_eq_true h) (xi_nlt (x := f) (y := 0) (show 0 ≤ f.toInt by omega))) (fun _ => ?_)
      show RP 55 _ 5 [(0, .int f), (1, .int 0), (2, .int 5)] [] _
      refine RP_step (pc1 := 7) (L1 := [(0, .int f), (1, .int 0), (2, .int 5)]) (S1 := [.int 5, .int f]) 2 0 (fun n => rfl) ?_
      refine RP_cond (decide (5 < f)) (fun n => rfl) (fun _ => ?_) (fun h => absurd (xi_lt (x := 5) (y := f) (show 5 < f.toInt by omega)) (of_decide_eq_false h))
      show RP 55 _ 14 [(0, .int f), (1, .int 0), (2, .int 5)] [] _
      refine RP_done 4 (fun n => rfl) ?_
      refine Or.inr ⟨0, rfl, ?_⟩
      show RP 56 _ 6 [(0, .int f)] [.int 0] _
      refine RP_done 3 (fun n => rfl) ?_
      refine Or.inr ⟨0, rfl, ?_⟩
      show RP 63 _ 4 [(0, .ref 0), (1, .int f)] [.int 0] _
      refine RP_done 5 (fun n => rfl) ?_
      exact ⟨rfl, _, rfl⟩
    · have h7 := of_decide_eq_false hh
      have h8 : f.toInt < 6 := xj_nle h7
      show RP 22 _ 10 [(0, .int f)] [] _
      refine RP_done 5 (fun n => rfl) ?_
      refine Or.inr ⟨1, rfl, ?_⟩
      show RP 2 _ 4 [(0, .ref 0), (1, .int f)] [.int 1] _
      refine RP_step (pc1 := 17) (L1 := [(0, .ref 0), (1, .int f)]) (S1 := [.int f, .ref 2]) 5 0 (fun n => rfl) ?_
      rcases (show f.toInt = 0 ∨ f.toInt = 1 ∨ f.toInt = 2 ∨ f.toInt = 3 ∨ f.toInt = 4 ∨ f.toInt = 5 by omega) with e9 | e9 | e9 | e9 | e9 | e9
      · obtain rfl : f = 0 := xi_eq e9
        show RP 2 _ 17 [(0, .ref 0), (1, .int 0)] [.int 0, .ref 2] _
        refine RP_done 8 (fun n => rfl) ?_
        show RP 63 _ 0 [(0, .ref 0), (1, .int 0)] [] _
        refine RP_done 20 (fun n => rfl) ?_
        exact ⟨rfl, _, rfl⟩
      · obtain rfl : f = 1 := xi_eq e9
        show RP 2 _ 17 [(0, .ref 0), (1, .int 1)] [.int 1, .ref 2] _
        refine RP_done 8 (fun n => rfl) ?_
        show RP 63 _ 0 [(0, .ref 0), (1, .int 1)] [] _
        refine RP_done 20 (fun n => rfl) ?_
        exact ⟨rfl, _, rfl⟩
      · obtain rfl : f = 2 := xi_eq e9
        show RP 2 _ 17 [(0, .ref 0), (1, .int 2)] [.int 2, .ref 2] _
        refine RP_done 8 (fun n => rfl) ?_
        show RP 63 _ 0 [(0, .ref 0), (1, .int 2)] [] _
        refine RP_done 20 (fun n => rfl) ?_
        exact ⟨rfl, _, rfl⟩
      · obtain rfl : f = 3 := xi_eq e9
        show RP 2 _ 17 [(0, .ref 0), (1, .int 3)] [.int 3, .ref 2] _
        refine RP_done 8 (fun n => rfl) ?_
        show RP 63 _ 0 [(0, .ref 0), (1, .int 3)] [] _
        refine RP_done 20 (fun n => rfl) ?_
        exact ⟨rfl, _, rfl⟩
      · obtain rfl : f = 4 := xi_eq e9
        show RP 2 _ 17 [(0, .ref 0), (1, .int 4)] [.int 4, .ref 2] _
        refine RP_done 8 (fun n => rfl) ?_
        show RP 63 _ 0 [(0, .ref 0), (1, .int 4)] [] _
        refine RP_done 20 (fun n => rfl) ?_
        exact ⟨rfl, _, rfl⟩
      · obtain rfl : f = 5 := xi_eq e9
        show RP 2 _ 17 [(0, .ref 0), (1, .int 5)] [.int 5, .ref 2] _
        refine RP_done 8 (fun n => rfl) ?_
        show RP 63 _ 0 [(0, .ref 0), (1, .int 5)] [] _
        refine RP_done 20 (fun n => rfl) ?_
        exact ⟨rfl, _, rfl⟩

set_option maxHeartbeats 8000000 in
set_option maxRecDepth 1000000 in
theorem sm_3 (v : Int32) : Same 3 64 [.int v] := by
  refine Same_of ?_
  show RP 3 _ 0 [(0, .ref 0), (1, .int v)] [] _
  refine RP_step (pc1 := 1) (L1 := [(0, .ref 0), (1, .int v)]) (S1 := [.int v]) 1 0 (fun n => rfl) ?_
  refine RP_cond (decide (v < 0)) (fun n => rfl) (fun hh => ?_) (fun hh => ?_)
  · have h1 := of_decide_eq_true hh
    have h2 : v.toInt < 0 := xj_lt h1
    show RP 3 _ 20 [(0, .ref 0), (1, .int v)] [] _
    refine RP_done 4 (fun n => rfl) ?_
    show RP 64 _ 0 [(0, .ref 0), (1, .int v)] [] _
    refine RP_step (pc1 := 14) (L1 := [(0, .ref 0), (1, .int v)]) (S1 := [.int 255, .int 0, .int v]) 7 0 (fun n => rfl) ?_
    refine RP_call 55 [.int v, .int 0, .int 255] (fun n => rfl) ?_
    show RP 55 _ 0 [(0, .int v), (1, .int 0), (2, .int 255)] [] _
    refine RP_step (pc1 := 2) (L1 := [(0, .int v), (1, .int 0), (2, .int 255)]) (S1 := [.int 0, .int v]) 2 0 (fun n => rfl) ?_
    refine RP_cond (decide (v < 0)) (fun n => rfl) (fun _ => ?_) (fun h => absurd (xi_lt (x := v) (y := 0) (show v.toInt < 0 by omega)) (of_decide_eq_false h))
    show RP 55 _ 14 [(0, .int v), (1, .int 0), (2, .int 255)] [] _
    refine RP_done 4 (fun n => rfl) ?_
    refine Or.inr ⟨0, rfl, ?_⟩
    show RP 64 _ 17 [(0, .ref 0), (1, .int v)] [.int 0] _
    refine RP_done 5 (fun n => rfl) ?_
    exact ⟨rfl, _, rfl⟩
  · have h3 := of_decide_eq_false hh
    have h4 : 0 ≤ v.toInt := xj_nlt h3
    show RP 3 _ 4 [(0, .ref 0), (1, .int v)] [] _
    refine RP_step (pc1 := 8) (L1 := [(0, .ref 0), (1, .int v)]) (S1 := [.int 255, .int v]) 2 0 (fun n => rfl) ?_
    refine RP_cond (decide (255 < v)) (fun n => rfl) (fun hh => ?_) (fun hh => ?_)
    · have h5 := of_decide_eq_true hh
      have h6 : 255 < v.toInt := xj_lt h5
      show RP 3 _ 20 [(0, .ref 0), (1, .int v)] [] _
      refine RP_done 4 (fun n => rfl) ?_
      show RP 64 _ 0 [(0, .ref 0), (1, .int v)] [] _
      refine RP_step (pc1 := 14) (L1 := [(0, .ref 0), (1, .int v)]) (S1 := [.int 255, .int 0, .int v]) 7 0 (fun n => rfl) ?_
      refine RP_call 55 [.int v, .int 0, .int 255] (fun n => rfl) ?_
      show RP 55 _ 0 [(0, .int v), (1, .int 0), (2, .int 255)] [] _
      refine RP_step (pc1 := 2) (L1 := [(0, .int v), (1, .int 0), (2, .int 255)]) (S1 := [.int 0, .int v]) 2 0 (fun n => rfl) ?_
      refine RP_cond (decide (v < 0)) (fun n => rfl) (fun h => absurd (of_decide_eq_true h) (xi_nlt (x := v) (y := 0) (show 0 ≤ v.toInt by omega))) (fun _ => ?_)
      show RP 55 _ 5 [(0, .int v), (1, .int 0), (2, .int 255)] [] _
      refine RP_step (pc1 := 7) (L1 := [(0, .int v), (1, .int 0), (2, .int 255)]) (S1 := [.int 255, .int v]) 2 0 (fun n => rfl) ?_
      refine RP_cond (decide (255 < v)) (fun n => rfl) (fun _ => ?_) (fun h => absurd (xi_lt (x := 255) (y := v) (show 255 < v.toInt by omega)) (of_decide_eq_false h))
      show RP 55 _ 14 [(0, .int v), (1, .int 0), (2, .int 255)] [] _
      refine RP_done 4 (fun n => rfl) ?_
      refine Or.inr ⟨0, rfl, ?_⟩
      show RP 64 _ 17 [(0, .ref 0), (1, .int v)] [.int 0] _
      refine RP_done 5 (fun n => rfl) ?_
      exact ⟨rfl, _, rfl⟩
    · have h7 := of_decide_eq_false hh
      have h8 : v.toInt ≤ 255 := xj_nlt h7
      show RP 3 _ 11 [(0, .ref 0), (1, .int v)] [] _
      refine RP_step (pc1 := 31) (L1 := [(0, .ref 0), (1, .int v)]) (S1 := [.int v, .int 0, .ref 9]) 9 0 (fun n => rfl) ?_
      refine RP_ast (fun n => rfl) rfl (by decide) ?_
      show RP 3 _ 32 [(0, .ref 0), (1, .int v)] [] _
      refine RP_done 11 (fun n => rfl) ?_
      show RP 64 _ 0 [(0, .ref 0), (1, .int v)] [] _
      refine RP_step (pc1 := 14) (L1 := [(0, .ref 0), (1, .int v)]) (S1 := [.int 255, .int 0, .int v]) 7 0 (fun n => rfl) ?_
      refine RP_call 55 [.int v, .int 0, .int 255] (fun n => rfl) ?_
      show RP 55 _ 0 [(0, .int v), (1, .int 0), (2, .int 255)] [] _
      refine RP_step (pc1 := 2) (L1 := [(0, .int v), (1, .int 0), (2, .int 255)]) (S1 := [.int 0, .int v]) 2 0 (fun n => rfl) ?_
      refine RP_cond (decide (v < 0)) (fun n => rfl) (fun h => absurd (of_decide_eq_true h) (xi_nlt (x := v) (y := 0) (show 0 ≤ v.toInt by omega))) (fun _ => ?_)
      show RP 55 _ 5 [(0, .int v), (1, .int 0), (2, .int 255)] [] _
      refine RP_step (pc1 := 7) (L1 := [(0, .int v), (1, .int 0), (2, .int 255)]) (S1 := [.int 255, .int v]) 2 0 (fun n => rfl) ?_
      refine RP_cond (decide (255 < v)) (fun n => rfl) (fun h => absurd (of_decide_eq_true h) (xi_nlt (x := 255) (y := v) (show v.toInt ≤ 255 by omega))) (fun _ => ?_)
      show RP 55 _ 10 [(0, .int v), (1, .int 0), (2, .int 255)] [] _
      refine RP_done 5 (fun n => rfl) ?_
      refine Or.inr ⟨1, rfl, ?_⟩
      show RP 64 _ 17 [(0, .ref 0), (1, .int v)] [.int 1] _
      refine RP_step (pc1 := 31) (L1 := [(0, .ref 0), (1, .int v)]) (S1 := [.int v, .int 0, .ref 4]) 6 0 (fun n => rfl) ?_
      refine RP_ast (fun n => rfl) rfl (by decide) ?_
      show RP 64 _ 32 [(0, .ref 0), (1, .int v)] [] _
      refine RP_done 11 (fun n => rfl) ?_
      exact ⟨rfl, _, rfl⟩

set_option maxHeartbeats 8000000 in
set_option maxRecDepth 1000000 in
theorem sm_4 : Same 4 65 [] := by
  refine Same_of ?_
  show RP 4 _ 0 [(0, .ref 0)] [] _
  refine RP_done 10 (fun n => rfl) ?_
  show RP 65 _ 0 [(0, .ref 0)] [] _
  refine RP_done 10 (fun n => rfl) ?_
  exact ⟨rfl, _, rfl⟩

set_option maxHeartbeats 8000000 in
set_option maxRecDepth 1000000 in
theorem sm_5 : Same 5 67 [] := by
  refine Same_of ?_
  show RP 5 _ 0 [(0, .ref 0)] [] _
  refine RP_done 211 (fun n => rfl) ?_
  show RP 67 _ 0 [(0, .ref 0)] [] _
  refine RP_done 386 (fun n => rfl) ?_
  exact ⟨rfl, _, rfl⟩

set_option maxHeartbeats 8000000 in
set_option maxRecDepth 1000000 in
theorem sm_6 (what : Int32) : Same 6 68 [.int what] := by
  refine Same_of ?_
  show RP 6 _ 0 [(0, .ref 0), (1, .int what)] [] _
  refine RP_done 7 (fun n => rfl) ?_
  show RP 68 _ 0 [(0, .ref 0), (1, .int what)] [] _
  refine RP_done 7 (fun n => rfl) ?_
  exact ⟨rfl, _, rfl⟩

set_option maxHeartbeats 8000000 in
set_option maxRecDepth 1000000 in
theorem sm_7 (i : Int32) : Same 7 69 [.int i] := by
  refine Same_of ?_
  show RP 7 _ 0 [(0, .ref 0), (1, .int i)] [] _
  refine RP_done 7 (fun n => rfl) ?_
  show RP 69 _ 0 [(0, .ref 0), (1, .int i)] [] _
  refine RP_done 7 (fun n => rfl) ?_
  exact ⟨rfl, _, rfl⟩

set_option maxHeartbeats 8000000 in
set_option maxRecDepth 1000000 in
theorem sm_8 (k what : Int32) : Same 8 70 [.int k, .int what] := by
  refine Same_of ?_
  show RP 8 _ 0 [(0, .ref 0), (1, .int k), (2, .int what)] [] _
  refine RP_done 7 (fun n => rfl) ?_
  show RP 70 _ 0 [(0, .ref 0), (1, .int k), (2, .int what)] [] _
  refine RP_done 7 (fun n => rfl) ?_
  exact ⟨rfl, _, rfl⟩

set_option maxHeartbeats 8000000 in
set_option maxRecDepth 1000000 in
theorem sm_12 (f i l : Int32) : Same 12 71 [.int f, .int i, .int l] := by
  refine Same_of ?_
  show RP 12 _ 0 [(0, .ref 0), (1, .int f), (2, .int i), (3, .int l)] [] _
  refine RP_step (pc1 := 6) (L1 := [(0, .ref 0), (1, .int f), (2, .int i), (3, .int l)]) (S1 := [.int i, .int f, .ref 1]) 4 0 (fun n => rfl) ?_
  refine RP_call 28 [.ref 1, .int f, .int i] (fun n => rfl) ?_
  show RP 28 _ 0 [(0, .ref 1), (1, .int f), (2, .int i)] [] _
  refine RP_step (pc1 := 1) (L1 := [(0, .ref 1), (1, .int f), (2, .int i)]) (S1 := [.int f]) 1 0 (fun n => rfl) ?_
  refine RP_call 22 [.int f] (fun n => rfl) ?_
  show RP 22 _ 0 [(0, .int f)] [] _
  refine RP_step (pc1 := 1) (L1 := [(0, .int f)]) (S1 := [.int f]) 1 0 (fun n => rfl) ?_
  refine RP_cond (decide (f < 0)) (fun n => rfl) (fun hh => ?_) (fun hh => ?_)
  · have h1 := of_decide_eq_true hh
    have h2 : f.toInt < 0 := xj_lt h1
    show RP 22 _ 14 [(0, .int f)] [] _
    refine RP_done 4 (fun n => rfl) ?_
    refine Or.inr ⟨0, rfl, ?_⟩
    show RP 28 _ 4 [(0, .ref 1), (1, .int f), (2, .int i)] [.int 0] _
    refine RP_done 5 (fun n => rfl) ?_
    refine Or.inr ⟨0, rfl, ?_⟩
    show RP 12 _ 9 [(0, .ref 0), (1, .int f), (2, .int i), (3, .int l)] [.int 0] _
    refine RP_done 5 (fun n => rfl) ?_
    show RP 71 _ 0 [(0, .ref 0), (1, .int f), (2, .int i), (3, .int l)] [] _
    refine RP_step (pc1 := 1) (L1 := [(0, .ref 0), (1, .int f), (2, .int i), (3, .int l)]) (S1 := [.int f]) 1 0 (fun n => rfl) ?_
    refine RP_call 56 [.int f] (fun n => rfl) ?_
    show RP 56 _ 0 [(0, .int f)] [] _
    refine RP_step (pc1 := 3) (L1 := [(0, .int f)]) (S1 := [.int 5, .int 0, .int f]) 3 0 (fun n => rfl) ?_
    refine RP_call 55 [.int f, .int 0, .int 5] (fun n => rfl) ?_
    show RP 55 _ 0 [(0, .int f), (1, .int 0), (2, .int 5)] [] _
    refine RP_step (pc1 := 2) (L1 := [(0, .int f), (1, .int 0), (2, .int 5)]) (S1 := [.int 0, .int f]) 2 0 (fun n => rfl) ?_
    refine RP_cond (decide (f < 0)) (fun n => rfl) (fun _ => ?_) (fun h => absurd (xi_lt (x := f) (y := 0) (show f.toInt < 0 by omega)) (of_decide_eq_false h))
    show RP 55 _ 14 [(0, .int f), (1, .int 0), (2, .int 5)] [] _
    refine RP_done 4 (fun n => rfl) ?_
    refine Or.inr ⟨0, rfl, ?_⟩
    show RP 56 _ 6 [(0, .int f)] [.int 0] _
    refine RP_done 3 (fun n => rfl) ?_
    refine Or.inr ⟨0, rfl, ?_⟩
    show RP 71 _ 4 [(0, .ref 0), (1, .int f), (2, .int i), (3, .int l)] [.int 0] _
    refine RP_done 5 (fun n => rfl) ?_
    exact ⟨rfl, _, rfl⟩
  · have h3 := of_decide_eq_false hh
    have h4 : 0 ≤ f.toInt := xj_nlt h3
    show RP 22 _ 4 [(0, .int f)] [] _
    refine RP_step (pc1 := 7) (L1 := [(0, .int f)]) (S1 := [.int 6, .int f]) 2 0 (fun n => rfl) ?_
    refine RP_cond (decide (6 ≤ f)) (fun n => rfl) (fun hh => ?_) (fun hh => ?_)
    · have h5 := of_decide_eq_true hh
      have h6 : 6 ≤ f.toInt := xj_le h5
      show RP 22 _ 14 [(0, .int f)] [] _
      refine RP_done 4 (fun n => rfl) ?_
      refine Or.inr ⟨0, rfl, ?_⟩
      show RP 28 _ 4 [(0, .ref 1), (1, .int f), (2, .int i)] [.int 0] _
      refine RP_done 5 (fun n => rfl) ?_
      refine Or.inr ⟨0, rfl, ?_⟩
      show RP 12 _ 9 [(0, .ref 0), (1, .int f), (2, .int i), (3, .int l)] [.int 0] _
      refine RP_done 5 (fun n => rfl) ?_
      show RP 71 _ 0 [(0, .ref 0), (1, .int f), (2, .int i), (3, .int l)] [] _
      refine RP_step (pc1 := 1) (L1 := [(0, .ref 0), (1, .int f), (2, .int i), (3, .int l)]) (S1 := [.int f]) 1 0 (fun n => rfl) ?_
      refine RP_call 56 [.int f] (fun n => rfl) ?_
      show RP 56 _ 0 [(0, .int f)] [] _
      refine RP_step (pc1 := 3) (L1 := [(0, .int f)]) (S1 := [.int 5, .int 0, .int f]) 3 0 (fun n => rfl) ?_
      refine RP_call 55 [.int f, .int 0, .int 5] (fun n => rfl) ?_
      show RP 55 _ 0 [(0, .int f), (1, .int 0), (2, .int 5)] [] _
      refine RP_step (pc1 := 2) (L1 := [(0, .int f), (1, .int 0), (2, .int 5)]) (S1 := [.int 0, .int f]) 2 0 (fun n => rfl) ?_
      refine RP_cond (decide (f < 0)) (fun n => rfl) (fun h => absurd (of_decide_eq_true h) (xi_nlt (x := f) (y := 0) (show 0 ≤ f.toInt by omega))) (fun _ => ?_)
      show RP 55 _ 5 [(0, .int f), (1, .int 0), (2, .int 5)] [] _
      refine RP_step (pc1 := 7) (L1 := [(0, .int f), (1, .int 0), (2, .int 5)]) (S1 := [.int 5, .int f]) 2 0 (fun n => rfl) ?_
      refine RP_cond (decide (5 < f)) (fun n => rfl) (fun _ => ?_) (fun h => absurd (xi_lt (x := 5) (y := f) (show 5 < f.toInt by omega)) (of_decide_eq_false h))
      show RP 55 _ 14 [(0, .int f), (1, .int 0), (2, .int 5)] [] _
      refine RP_done 4 (fun n => rfl) ?_
      refine Or.inr ⟨0, rfl, ?_⟩
      show RP 56 _ 6 [(0, .int f)] [.int 0] _
      refine RP_done 3 (fun n => rfl) ?_
      refine Or.inr ⟨0, rfl, ?_⟩
      show RP 71 _ 4 [(0, .ref 0), (1, .int f), (2, .int i), (3, .int l)] [.int 0] _
      refine RP_done 5 (fun n => rfl) ?_
      exact ⟨rfl, _, rfl⟩
    · have h7 := of_decide_eq_false hh
      have h8 : f.toInt < 6 := xj_nle h7
      show RP 22 _ 10 [(0, .int f)] [] _
      refine RP_done 5 (fun n => rfl) ?_
      refine Or.inr ⟨1, rfl, ?_⟩
      show RP 28 _ 4 [(0, .ref 1), (1, .int f), (2, .int i)] [.int 1] _
      refine RP_step (pc1 := 8) (L1 := [(0, .ref 1), (1, .int f), (2, .int i)]) (S1 := [.int i]) 2 0 (fun n => rfl) ?_
      refine RP_cond (decide (i < 0)) (fun n => rfl) (fun hh => ?_) (fun hh => ?_)
      · have h9 := of_decide_eq_true hh
        have h10 : i.toInt < 0 := xj_lt h9
        show RP 28 _ 25 [(0, .ref 1), (1, .int f), (2, .int i)] [] _
        refine RP_done 4 (fun n => rfl) ?_
        refine Or.inr ⟨0, rfl, ?_⟩
        show RP 12 _ 9 [(0, .ref 0), (1, .int f), (2, .int i), (3, .int l)] [.int 0] _
        refine RP_done 5 (fun n => rfl) ?_
        show RP 71 _ 0 [(0, .ref 0), (1, .int f), (2, .int i), (3, .int l)] [] _
        refine RP_step (pc1 := 1) (L1 := [(0, .ref 0), (1, .int f), (2, .int i), (3, .int l)]) (S1 := [.int f]) 1 0 (fun n => rfl) ?_
        refine RP_call 56 [.int f] (fun n => rfl) ?_
        show RP 56 _ 0 [(0, .int f)] [] _
        refine RP_step (pc1 := 3) (L1 := [(0, .int f)]) (S1 := [.int 5, .int 0, .int f]) 3 0 (fun n => rfl) ?_
        refine RP_call 55 [.int f, .int 0, .int 5] (fun n => rfl) ?_
        show RP 55 _ 0 [(0, .int f), (1, .int 0), (2, .int 5)] [] _
        refine RP_step (pc1 := 2) (L1 := [(0, .int f), (1, .int 0), (2, .int 5)]) (S1 := [.int 0, .int f]) 2 0 (fun n => rfl) ?_
        refine RP_cond (decide (f < 0)) (fun n => rfl) (fun h => absurd (of_decide_eq_true h) (xi_nlt (x := f) (y := 0) (show 0 ≤ f.toInt by omega))) (fun _ => ?_)
        show RP 55 _ 5 [(0, .int f), (1, .int 0), (2, .int 5)] [] _
        refine RP_step (pc1 := 7) (L1 := [(0, .int f), (1, .int 0), (2, .int 5)]) (S1 := [.int 5, .int f]) 2 0 (fun n => rfl) ?_
        refine RP_cond (decide (5 < f)) (fun n => rfl) (fun h => absurd (of_decide_eq_true h) (xi_nlt (x := 5) (y := f) (show f.toInt ≤ 5 by omega))) (fun _ => ?_)
        show RP 55 _ 10 [(0, .int f), (1, .int 0), (2, .int 5)] [] _
        refine RP_done 5 (fun n => rfl) ?_
        refine Or.inr ⟨1, rfl, ?_⟩
        show RP 56 _ 6 [(0, .int f)] [.int 1] _
        refine RP_done 3 (fun n => rfl) ?_
        refine Or.inr ⟨1, rfl, ?_⟩
        show RP 71 _ 4 [(0, .ref 0), (1, .int f), (2, .int i), (3, .int l)] [.int 1] _
        refine RP_step (pc1 := 14) (L1 := [(0, .ref 0), (1, .int f), (2, .int i), (3, .int l)]) (S1 := [.int f, .ref 2, .int 0, .int i]) 6 0 (fun n => rfl) ?_
        rcases (show f.toInt = 0 ∨ f.toInt = 1 ∨ f.toInt = 2 ∨ f.toInt = 3 ∨ f.toInt = 4 ∨ f.toInt = 5 by omega) with e9 | e9 | e9 | e9 | e9 | e9
        · obtain rfl : f = 0 := xi_eq e9
          show RP 71 _ 14 [(0, .ref 0), (1, .int 0), (2, .int i), (3, .int l)] [.int 0, .ref 2, .int 0, .int i] _
          refine RP_step (pc1 := 17) (L1 := [(0, .ref 0), (1, .int 0), (2, .int i), (3, .int l)]) (S1 := [.int (-1), .int 0, .int i]) 3 0 (fun n => rfl) ?_
          refine RP_call 55 [.int i, .int 0, .int (-1)] (fun n => rfl) ?_
          show RP 55 _ 0 [(0, .int i), (1, .int 0), (2, .int (-1))] [] _
          refine RP_step (pc1 := 2) (L1 := [(0, .int i), (1, .int 0), (2, .int (-1))]) (S1 := [.int 0, .int i]) 2 0 (fun n => rfl) ?_
          refine RP_cond (decide (i < 0)) (fun n => rfl) (fun _ => ?_) (fun h => absurd (xi_lt (x := i) (y := 0) (show i.toInt < 0 by omega)) (of_decide_eq_false h))
          show RP 55 _ 14 [(0, .int i), (1, .int 0), (2, .int (-1))] [] _
          refine RP_done 4 (fun n => rfl) ?_
          refine Or.inr ⟨0, rfl, ?_⟩
          show RP 71 _ 20 [(0, .ref 0), (1, .int 0), (2, .int i), (3, .int l)] [.int 0] _
          refine RP_done 5 (fun n => rfl) ?_
          exact ⟨rfl, _, rfl⟩
        · obtain rfl : f = 1 := xi_eq e9
          show RP 71 _ 14 [(0, .ref 0), (1, .int 1), (2, .int i), (3, .int l)] [.int 1, .ref 2, .int 0, .int i] _
          refine RP_step (pc1 := 17) (L1 := [(0, .ref 0), (1, .int 1), (2, .int i), (3, .int l)]) (S1 := [.int (-1), .int 0, .int i]) 3 0 (fun n => rfl) ?_
          refine RP_call 55 [.int i, .int 0, .int (-1)] (fun n => rfl) ?_
          show RP 55 _ 0 [(0, .int i), (1, .int 0), (2, .int (-1))] [] _
          refine RP_step (pc1 := 2) (L1 := [(0, .int i), (1, .int 0), (2, .int (-1))]) (S1 := [.int 0, .int i]) 2 0 (fun n => rfl) ?_
          refine RP_cond (decide (i < 0)) (fun n => rfl) (fun _ => ?_) (fun h => absurd (xi_lt (x := i) (y := 0) (show i.toInt < 0 by omega)) (of_decide_eq_false h))
          show RP 55 _ 14 [(0, .int i), (1, .int 0), (2, .int (-1))] [] _
          refine RP_done 4 (fun n => rfl) ?_
          refine Or.inr ⟨0, rfl, ?_⟩
          show RP 71 _ 20 [(0, .ref 0), (1, .int 1), (2, .int i), (3, .int l)] [.int 0] _
          refine RP_done 5 (fun n => rfl) ?_
          exact ⟨rfl, _, rfl⟩
        · obtain rfl : f = 2 := xi_eq e9
          show RP 71 _ 14 [(0, .ref 0), (1, .int 2), (2, .int i), (3, .int l)] [.int 2, .ref 2, .int 0, .int i] _
          refine RP_step (pc1 := 17) (L1 := [(0, .ref 0), (1, .int 2), (2, .int i), (3, .int l)]) (S1 := [.int (-1), .int 0, .int i]) 3 0 (fun n => rfl) ?_
          refine RP_call 55 [.int i, .int 0, .int (-1)] (fun n => rfl) ?_
          show RP 55 _ 0 [(0, .int i), (1, .int 0), (2, .int (-1))] [] _
          refine RP_step (pc1 := 2) (L1 := [(0, .int i), (1, .int 0), (2, .int (-1))]) (S1 := [.int 0, .int i]) 2 0 (fun n => rfl) ?_
          refine RP_cond (decide (i < 0)) (fun n => rfl) (fun _ => ?_) (fun h => absurd (xi_lt (x := i) (y := 0) (show i.toInt < 0 by omega)) (of_decide_eq_false h))
          show RP 55 _ 14 [(0, .int i), (1, .int 0), (2, .int (-1))] [] _
          refine RP_done 4 (fun n => rfl) ?_
          refine Or.inr ⟨0, rfl, ?_⟩
          show RP 71 _ 20 [(0, .ref 0), (1, .int 2), (2, .int i), (3, .int l)] [.int 0] _
          refine RP_done 5 (fun n => rfl) ?_
          exact ⟨rfl, _, rfl⟩
        · obtain rfl : f = 3 := xi_eq e9
          show RP 71 _ 14 [(0, .ref 0), (1, .int 3), (2, .int i), (3, .int l)] [.int 3, .ref 2, .int 0, .int i] _
          refine RP_step (pc1 := 17) (L1 := [(0, .ref 0), (1, .int 3), (2, .int i), (3, .int l)]) (S1 := [.int (-1), .int 0, .int i]) 3 0 (fun n => rfl) ?_
          refine RP_call 55 [.int i, .int 0, .int (-1)] (fun n => rfl) ?_
          show RP 55 _ 0 [(0, .int i), (1, .int 0), (2, .int (-1))] [] _
          refine RP_step (pc1 := 2) (L1 := [(0, .int i), (1, .int 0), (2, .int (-1))]) (S1 := [.int 0, .int i]) 2 0 (fun n => rfl) ?_
          refine RP_cond (decide (i < 0)) (fun n => rfl) (fun _ => ?_) (fun h => absurd (xi_lt (x := i) (y := 0) (show i.toInt < 0 by omega)) (of_decide_eq_false h))
          show RP 55 _ 14 [(0, .int i), (1, .int 0), (2, .int (-1))] [] _
          refine RP_done 4 (fun n => rfl) ?_
          refine Or.inr ⟨0, rfl, ?_⟩
          show RP 71 _ 20 [(0, .ref 0), (1, .int 3), (2, .int i), (3, .int l)] [.int 0] _
          refine RP_done 5 (fun n => rfl) ?_
          exact ⟨rfl, _, rfl⟩
        · obtain rfl : f = 4 := xi_eq e9
          show RP 71 _ 14 [(0, .ref 0), (1, .int 4), (2, .int i), (3, .int l)] [.int 4, .ref 2, .int 0, .int i] _
          refine RP_step (pc1 := 17) (L1 := [(0, .ref 0), (1, .int 4), (2, .int i), (3, .int l)]) (S1 := [.int (-1), .int 0, .int i]) 3 0 (fun n => rfl) ?_
          refine RP_call 55 [.int i, .int 0, .int (-1)] (fun n => rfl) ?_
          show RP 55 _ 0 [(0, .int i), (1, .int 0), (2, .int (-1))] [] _
          refine RP_step (pc1 := 2) (L1 := [(0, .int i), (1, .int 0), (2, .int (-1))]) (S1 := [.int 0, .int i]) 2 0 (fun n => rfl) ?_
          refine RP_cond (decide (i < 0)) (fun n => rfl) (fun _ => ?_) (fun h => absurd (xi_lt (x := i) (y := 0) (show i.toInt < 0 by omega)) (of_decide_eq_false h))
          show RP 55 _ 14 [(0, .int i), (1, .int 0), (2, .int (-1))] [] _
          refine RP_done 4 (fun n => rfl) ?_
          refine Or.inr ⟨0, rfl, ?_⟩
          show RP 71 _ 20 [(0, .ref 0), (1, .int 4), (2, .int i), (3, .int l)] [.int 0] _
          refine RP_done 5 (fun n => rfl) ?_
          exact ⟨rfl, _, rfl⟩
        · obtain rfl : f = 5 := xi_eq e9
          show RP 71 _ 14 [(0, .ref 0), (1, .int 5), (2, .int i), (3, .int l)] [.int 5, .ref 2, .int 0, .int i] _
          refine RP_step (pc1 := 17) (L1 := [(0, .ref 0), (1, .int 5), (2, .int i), (3, .int l)]) (S1 := [.int (-1), .int 0, .int i]) 3 0 (fun n => rfl) ?_
          refine RP_call 55 [.int i, .int 0, .int (-1)] (fun n => rfl) ?_
          show RP 55 _ 0 [(0, .int i), (1, .int 0), (2, .int (-1))] [] _
          refine RP_step (pc1 := 2) (L1 := [(0, .int i), (1, .int 0), (2, .int (-1))]) (S1 := [.int 0, .int i]) 2 0 (fun n => rfl) ?_
          refine RP_cond (decide (i < 0)) (fun n => rfl) (fun _ => ?_) (fun h => absurd (xi_lt (x := i) (y := 0) (show i.toInt < 0 by omega)) (of_decide_eq_false h))
          show RP 55 _ 14 [(0, .int i), (1, .int 0), (2, .int (-1))] [] _
          refine RP_done 4 (fun n => rfl) ?_
          refine Or.inr ⟨0, rfl, ?_⟩
          show RP 71 _ 20 [(0, .ref 0), (1, .int 5), (2, .int i), (3, .int l)] [.int 0] _
          refine RP_done 5 (fun n => rfl) ?_
          exact ⟨rfl, _, rfl⟩
      · have h11 := of_decide_eq_false hh
        have h12 : 0 ≤ i.toInt := xj_nlt h11
        show RP 28 _ 11 [(0, .ref 1), (1, .int f), (2, .int i)] [] _
        refine RP_step (pc1 := 17) (L1 := [(0, .ref 1), (1, .int f), (2, .int i)]) (S1 := [.int f, .ref 2, .int i]) 4 0 (fun n => rfl) ?_
        rcases (show f.toInt = 0 ∨ f.toInt = 1 ∨ f.toInt = 2 ∨ f.toInt = 3 ∨ f.toInt = 4 ∨ f.toInt = 5 by omega) with e9 | e9 | e9 | e9 | e9 | e9
        · obtain rfl : f = 0 := xi_eq e9
          show RP 28 _ 17 [(0, .ref 1), (1, .int 0), (2, .int i)] [.int 0, .ref 2, .int i] _
          refine RP_step (pc1 := 18) (L1 := [(0, .ref 1), (1, .int 0), (2, .int i)]) (S1 := [.int 0, .int i]) 1 0 (fun n => rfl) ?_
          refine RP_cond (decide (0 ≤ i)) (fun n => rfl) (fun _ => ?_) (fun h => absurd (xi_le (x := 0) (y := i) (show 0 ≤ i.toInt by omega)) (of_decide_eq_false h))
          show RP 28 _ 25 [(0, .ref 1), (1, .int 0), (2, .int i)] [] _
          refine RP_done 4 (fun n => rfl) ?_
          refine Or.inr ⟨0, rfl, ?_⟩
          show RP 12 _ 9 [(0, .ref 0), (1, .int 0), (2, .int i), (3, .int l)] [.int 0] _
          refine RP_done 5 (fun n => rfl) ?_
          show RP 71 _ 0 [(0, .ref 0), (1, .int 0), (2, .int i), (3, .int l)] [] _
          refine RP_step (pc1 := 1) (L1 := [(0, .ref 0), (1, .int 0), (2, .int i), (3, .int l)]) (S1 := [.int 0]) 1 0 (fun n => rfl) ?_
          refine RP_call 56 [.int 0] (fun n => rfl) ?_
          show RP 56 _ 0 [(0, .int 0)] [] _
          refine RP_done 15 (fun n => rfl) ?_
          refine Or.inr ⟨1, rfl, ?_⟩
          show RP 71 _ 4 [(0, .ref 0), (1, .int 0), (2, .int i), (3, .int l)] [.int 1] _
          refine RP_step (pc1 := 17) (L1 := [(0, .ref 0), (1, .int 0), (2, .int i), (3, .int l)]) (S1 := [.int (-1), .int 0, .int i]) 9 0 (fun n => rfl) ?_
          refine RP_call 55 [.int i, .int 0, .int (-1)] (fun n => rfl) ?_
          show RP 55 _ 0 [(0, .int i), (1, .int 0), (2, .int (-1))] [] _
          refine RP_step (pc1 := 2) (L1 := [(0, .int i), (1, .int 0), (2, .int (-1))]) (S1 := [.int 0, .int i]) 2 0 (fun n => rfl) ?_
          refine RP_cond (decide (i < 0)) (fun n => rfl) (fun h => absurd (of_decide_eq_true h) (xi_nlt (x := i) (y := 0) (show 0 ≤ i.toInt by omega))) (fun _ => ?_)
          show RP 55 _ 5 [(0, .int i), (1, .int 0), (2, .int (-1))] [] _
          refine RP_step (pc1 := 7) (L1 := [(0, .int i), (1, .int 0), (2, .int (-1))]) (S1 := [.int (-1), .int i]) 2 0 (fun n => rfl) ?_
          refine RP_cond (decide ((-1) < i)) (fun n => rfl) (fun _ => ?_) (fun h => absurd (xi_lt (x := (-1)) (y := i) (show -1 < i.toInt by omega)) (of_decide_eq_false h))
          show RP 55 _ 14 [(0, .int i), (1, .int 0), (2, .int (-1))] [] _
          refine RP_done 4 (fun n => rfl) ?_
          refine Or.inr ⟨0, rfl, ?_⟩
          show RP 71 _ 20 [(0, .ref 0), (1, .int 0), (2, .int i), (3, .int l)] [.int 0] _
          refine RP_done 5 (fun n => rfl) ?_
          exact ⟨rfl, _, rfl⟩
        · obtain rfl : f = 1 := xi_eq e9
          show RP 28 _ 17 [(0, .ref 1), (1, .int 1), (2, .int i)] [.int 1, .ref 2, .int i] _
          refine RP_step (pc1 := 18) (L1 := [(0, .ref 1), (1, .int 1), (2, .int i)]) (S1 := [.int 0, .int i]) 1 0 (fun n => rfl) ?_
          refine RP_cond (decide (0 ≤ i)) (fun n => rfl) (fun _ => ?_) (fun h => absurd (xi_le (x := 0) (y := i) (show 0 ≤ i.toInt by omega)) (of_decide_eq_false h))
          show RP 28 _ 25 [(0, .ref 1), (1, .int 1), (2, .int i)] [] _
          refine RP_done 4 (fun n => rfl) ?_
          refine Or.inr ⟨0, rfl, ?_⟩
          show RP 12 _ 9 [(0, .ref 0), (1, .int 1), (2, .int i), (3, .int l)] [.int 0] _
          refine RP_done 5 (fun n => rfl) ?_
          show RP 71 _ 0 [(0, .ref 0), (1, .int 1), (2, .int i), (3, .int l)] [] _
          refine RP_step (pc1 := 1) (L1 := [(0, .ref 0), (1, .int 1), (2, .int i), (3, .int l)]) (S1 := [.int 1]) 1 0 (fun n => rfl) ?_
          refine RP_call 56 [.int 1] (fun n => rfl) ?_
          show RP 56 _ 0 [(0, .int 1)] [] _
          refine RP_done 15 (fun n => rfl) ?_
          refine Or.inr ⟨1, rfl, ?_⟩
          show RP 71 _ 4 [(0, .ref 0), (1, .int 1), (2, .int i), (3, .int l)] [.int 1] _
          refine RP_step (pc1 := 17) (L1 := [(0, .ref 0), (1, .int 1), (2, .int i), (3, .int l)]) (S1 := [.int (-1), .int 0, .int i]) 9 0 (fun n => rfl) ?_
          refine RP_call 55 [.int i, .int 0, .int (-1)] (fun n => rfl) ?_
          show RP 55 _ 0 [(0, .int i), (1, .int 0), (2, .int (-1))] [] _
          refine RP_step (pc1 := 2) (L1 := [(0, .int i), (1, .int 0), (2, .int (-1))]) (S1 := [.int 0, .int i]) 2 0 (fun n => rfl) ?_
          refine RP_cond (decide (i < 0)) (fun n => rfl) (fun h => absurd (of_decide_eq_true h) (xi_nlt (x := i) (y := 0) (show 0 ≤ i.toInt by omega))) (fun _ => ?_)
          show RP 55 _ 5 [(0, .int i), (1, .int 0), (2, .int (-1))] [] _
          refine RP_step (pc1 := 7) (L1 := [(0, .int i), (1, .int 0), (2, .int (-1))]) (S1 := [.int (-1), .int i]) 2 0 (fun n => rfl) ?_
          refine RP_cond (decide ((-1) < i)) (fun n => rfl) (fun _ => ?_) (fun h => absurd (xi_lt (x := (-1)) (y := i) (show -1 < i.toInt by omega)) (of_decide_eq_false h))
          show RP 55 _ 14 [(0, .int i), (1, .int 0), (2, .int (-1))] [] _
          refine RP_done 4 (fun n => rfl) ?_
          refine Or.inr ⟨0, rfl, ?_⟩
          show RP 71 _ 20 [(0, .ref 0), (1, .int 1), (2, .int i), (3, .int l)] [.int 0] _
          refine RP_done 5 (fun n => rfl) ?_
          exact ⟨rfl, _, rfl⟩
        · obtain rfl : f = 2 := xi_eq e9
          show RP 28 _ 17 [(0, .ref 1), (1, .int 2), (2, .int i)] [.int 2, .ref 2, .int i] _
          refine RP_step (pc1 := 18) (L1 := [(0, .ref 1), (1, .int 2), (2, .int i)]) (S1 := [.int 0, .int i]) 1 0 (fun n => rfl) ?_
          refine RP_cond (decide (0 ≤ i)) (fun n => rfl) (fun _ => ?_) (fun h => absurd (xi_le (x := 0) (y := i) (show 0 ≤ i.toInt by omega)) (of_decide_eq_false h))
          show RP 28 _ 25 [(0, .ref 1), (1, .int 2), (2, .int i)] [] _
          refine RP_done 4 (fun n => rfl) ?_
          refine Or.inr ⟨0, rfl, ?_⟩
          show RP 12 _ 9 [(0, .ref 0), (1, .int 2), (2, .int i), (3, .int l)] [.int 0] _
          refine RP_done 5 (fun n => rfl) ?_
          show RP 71 _ 0 [(0, .ref 0), (1, .int 2), (2, .int i), (3, .int l)] [] _
          refine RP_step (pc1 := 1) (L1 := [(0, .ref 0), (1, .int 2), (2, .int i), (3, .int l)]) (S1 := [.int 2]) 1 0 (fun n => rfl) ?_
          refine RP_call 56 [.int 2] (fun n => rfl) ?_
          show RP 56 _ 0 [(0, .int 2)] [] _
          refine RP_done 15 (fun n => rfl) ?_
          refine Or.inr ⟨1, rfl, ?_⟩
          show RP 71 _ 4 [(0, .ref 0), (1, .int 2), (2, .int i), (3, .int l)] [.int 1] _
          refine RP_step (pc1 := 17) (L1 := [(0, .ref 0), (1, .int 2), (2, .int i), (3, .int l)]) (S1 := [.int (-1), .int 0, .int i]) 9 0 (fun n => rfl) ?_
          refine RP_call 55 [.int i, .int 0, .int (-1)] (fun n => rfl) ?_
          show RP 55 _ 0 [(0, .int i), (1, .int 0), (2, .int (-1))] [] _
          refine RP_step (pc1 := 2) (L1 := [(0, .int i), (1, .int 0), (2, .int (-1))]) (S1 := [.int 0, .int i]) 2 0 (fun n => rfl) ?_
          refine RP_cond (decide (i < 0)) (fun n => rfl) (fun h => absurd (of_decide_eq_true h) (xi_nlt (x := i) (y := 0) (show 0 ≤ i.toInt by omega))) (fun _ => ?_)
          show RP 55 _ 5 [(0, .int i), (1, .int 0), (2, .int (-1))] [] _
          refine RP_step (pc1 := 7) (L1 := [(0, .int i), (1, .int 0), (2, .int (-1))]) (S1 := [.int (-1), .int i]) 2 0 (fun n => rfl) ?_
          refine RP_cond (decide ((-1) < i)) (fun n => rfl) (fun _ => ?_) (fun h => absurd (xi_lt (x := (-1)) (y := i) (show -1 < i.toInt by omega)) (of_decide_eq_false h))
          show RP 55 _ 14 [(0, .int i), (1, .int 0), (2, .int (-1))] [] _
          refine RP_done 4 (fun n => rfl) ?_
          refine Or.inr ⟨0, rfl, ?_⟩
          show RP 71 _ 20 [(0, .ref 0), (1, .int 2), (2, .int i), (3, .int l)] [.int 0] _
          refine RP_done 5 (fun n => rfl) ?_
          exact ⟨rfl, _, rfl⟩
        · obtain rfl : f = 3 := xi_eq e9
          show RP 28 _ 17 [(0, .ref 1), (1, .int 3), (2, .int i)] [.int 3, .ref 2, .int i] _
          refine RP_step (pc1 := 18) (L1 := [(0, .ref 1), (1, .int 3), (2, .int i)]) (S1 := [.int 0, .int i]) 1 0 (fun n => rfl) ?_
          refine RP_cond (decide (0 ≤ i)) (fun n => rfl) (fun _ => ?_) (fun h => absurd (xi_le (x := 0) (y := i) (show 0 ≤ i.toInt by omega)) (of_decide_eq_false h))
          show RP 28 _ 25 [(0, .ref 1), (1, .int 3), (2, .int i)] [] _
          refine RP_done 4 (fun n => rfl) ?_
          refine Or.inr ⟨0, rfl, ?_⟩
          show RP 12 _ 9 [(0, .ref 0), (1, .int 3), (2, .int i), (3, .int l)] [.int 0] _
          refine RP_done 5 (fun n => rfl) ?_
          show RP 71 _ 0 [(0, .ref 0), (1, .int 3), (2, .int i), (3, .int l)] [] _
          refine RP_step (pc1 := 1) (L1 := [(0, .ref 0), (1, .int 3), (2, .int i), (3, .int l)]) (S1 := [.int 3]) 1 0 (fun n => rfl) ?_
          refine RP_call 56 [.int 3] (fun n => rfl) ?_
          show RP 56 _ 0 [(0, .int 3)] [] _
          refine RP_done 15 (fun n => rfl) ?_
          refine Or.inr ⟨1, rfl, ?_⟩
          show RP 71 _ 4 [(0, .ref 0), (1, .int 3), (2, .int i), (3, .int l)] [.int 1] _
          refine RP_step (pc1 := 17) (L1 := [(0, .ref 0), (1, .int 3), (2, .int i), (3, .int l)]) (S1 := [.int (-1), .int 0, .int i]) 9 0 (fun n => rfl) ?_
          refine RP_call 55 [.int i, .int 0, .int (-1)] (fun n => rfl) ?_
          show RP 55 _ 0 [(0, .int i), (1, .int 0), (2, .int (-1))] [] _
          refine RP_step (pc1 := 2) (L1 := [(0, .int i), (1, .int 0), (2, .int (-1))]) (S1 := [.int 0, .int i]) 2 0 (fun n => rfl) ?_
          refine RP_cond (decide (i < 0)) (fun n => rfl) (fun h => absurd (of_decide_eq_true h) (xi_nlt (x := i) (y := 0) (show 0 ≤ i.toInt by omega))) (fun _ => ?_)
          show RP 55 _ 5 [(0, .int i), (1, .int 0), (2, .int (-1))] [] _
          refine RP_step (pc1 := 7) (L1 := [(0, .int i), (1, .int 0), (2, .int (-1))]) (S1 := [.int (-1), .int i]) 2 0 (fun n => rfl) ?_
          refine RP_cond (decide ((-1) < i)) (fun n => rfl) (fun _ => ?_) (fun h => absurd (xi_lt (x := (-1)) (y := i) (show -1 < i.toInt by omega)) (of_decide_eq_false h))
          show RP 55 _ 14 [(0, .int i), (1, .int 0), (2, .int (-1))] [] _
          refine RP_done 4 (fun n => rfl) ?_
          refine Or.inr ⟨0, rfl, ?_⟩
          show RP 71 _ 20 [(0, .ref 0), (1, .int 3), (2, .int i), (3, .int l)] [.int 0] _
          refine RP_done 5 (fun n => rfl) ?_
          exact ⟨rfl, _, rfl⟩
        · obtain rfl : f = 4 := xi_eq e9
          show RP 28 _ 17 [(0, .ref 1), (1, .int 4), (2, .int i)] [.int 4, .ref 2, .int i] _
          refine RP_step (pc1 := 18) (L1 := [(0, .ref 1), (1, .int 4), (2, .int i)]) (S1 := [.int 0, .int i]) 1 0 (fun n => rfl) ?_
          refine RP_cond (decide (0 ≤ i)) (fun n => rfl) (fun _ => ?_) (fun h => absurd (xi_le (x := 0) (y := i) (show 0 ≤ i.toInt by omega)) (of_decide_eq_false h))
          show RP 28 _ 25 [(0, .ref 1), (1, .int 4), (2, .int i)] [] _
          refine RP_done 4 (fun n => rfl) ?_
          refine Or.inr ⟨0, rfl, ?_⟩
          show RP 12 _ 9 [(0, .ref 0), (1, .int 4), (2, .int i), (3, .int l)] [.int 0] _
          refine RP_done 5 (fun n => rfl) ?_
          show RP 71 _ 0 [(0, .ref 0), (1, .int 4), (2, .int i), (3, .int l)] [] _
          refine RP_step (pc1 := 1) (L1 := [(0, .ref 0), (1, .int 4), (2, .int i), (3, .int l)]) (S1 := [.int 4]) 1 0 (fun n => rfl) ?_
          refine RP_call 56 [.int 4] (fun n => rfl) ?_
          show RP 56 _ 0 [(0, .int 4)] [] _
          refine RP_done 15 (fun n => rfl) ?_
          refine Or.inr ⟨1, rfl, ?_⟩
          show RP 71 _ 4 [(0, .ref 0), (1, .int 4), (2, .int i), (3, .int l)] [.int 1] _
          refine RP_step (pc1 := 17) (L1 := [(0, .ref 0), (1, .int 4), (2, .int i), (3, .int l)]) (S1 := [.int (-1), .int 0, .int i]) 9 0 (fun n => rfl) ?_
          refine RP_call 55 [.int i, .int 0, .int (-1)] (fun n => rfl) ?_
          show RP 55 _ 0 [(0, .int i), (1, .int 0), (2, .int (-1))] [] _
          refine RP_step (pc1 := 2) (L1 := [(0, .int i), (1, .int 0), (2, .int (-1))]) (S1 := [.int 0, .int i]) 2 0 (fun n => rfl) ?_
          refine RP_cond (decide (i < 0)) (fun n => rfl) (fun h => absurd (of_decide_eq_true h) (xi_nlt (x := i) (y := 0) (show 0 ≤ i.toInt by omega))) (fun _ => ?_)
          show RP 55 _ 5 [(0, .int i), (1, .int 0), (2, .int (-1))] [] _
          refine RP_step (pc1 := 7) (L1 := [(0, .int i), (1, .int 0), (2, .int (-1))]) (S1 := [.int (-1), .int i]) 2 0 (fun n => rfl) ?_
          refine RP_cond (decide ((-1) < i)) (fun n => rfl) (fun _ => ?_) (fun h => absurd (xi_lt (x := (-1)) (y := i) (show -1 < i.toInt by omega)) (of_decide_eq_false h))
          show RP 55 _ 14 [(0, .int i), (1, .int 0), (2, .int (-1))] [] _
          refine RP_done 4 (fun n => rfl) ?_
          refine Or.inr ⟨0, rfl, ?_⟩
          show RP 71 _ 20 [(0, .ref 0), (1, .int 4), (2, .int i), (3, .int l)] [.int 0] _
          refine RP_done 5 (fun n => rfl) ?_
          exact ⟨rfl, _, rfl⟩
        · obtain rfl : f = 5 := xi_eq e9
          show RP 28 _ 17 [(0, .ref 1), (1, .int 5), (2, .int i)] [.int 5, .ref 2, .int i] _
          refine RP_step (pc1 := 18) (L1 := [(0, .ref 1), (1, .int 5), (2, .int i)]) (S1 := [.int 0, .int i]) 1 0 (fun n => rfl) ?_
          refine RP_cond (decide (0 ≤ i)) (fun n => rfl) (fun _ => ?_) (fun h => absurd (xi_le (x := 0) (y := i) (show 0 ≤ i.toInt by omega)) (of_decide_eq_false h))
          show RP 28 _ 25 [(0, .ref 1), (1, .int 5), (2, .int i)] [] _
          refine RP_done 4 (fun n => rfl) ?_
          refine Or.inr ⟨0, rfl, ?_⟩
          show RP 12 _ 9 [(0, .ref 0), (1, .int 5), (2, .int i), (3, .int l)] [.int 0] _
          refine RP_done 5 (fun n => rfl) ?_
          show RP 71 _ 0 [(0, .ref 0), (1, .int 5), (2, .int i), (3, .int l)] [] _
          refine RP_step (pc1 := 1) (L1 := [(0, .ref 0), (1, .int 5), (2, .int i), (3, .int l)]) (S1 := [.int 5]) 1 0 (fun n => rfl) ?_
          refine RP_call 56 [.int 5] (fun n => rfl) ?_
          show RP 56 _ 0 [(0, .int 5)] [] _
          refine RP_done 15 (fun n => rfl) ?_
          refine Or.inr ⟨1, rfl, ?_⟩
          show RP 71 _ 4 [(0, .ref 0), (1, .int 5), (2, .int i), (3, .int l)] [.int 1] _
          refine RP_step (pc1 := 17) (L1 := [(0, .ref 0), (1, .int 5), (2, .int i), (3, .int l)]) (S1 := [.int (-1), .int 0, .int i]) 9 0 (fun n => rfl) ?_
          refine RP_call 55 [.int i, .int 0, .int (-1)] (fun n => rfl) ?_
          show RP 55 _ 0 [(0, .int i), (1, .int 0), (2, .int (-1))] [] _
          refine RP_step (pc1 := 2) (L1 := [(0, .int i), (1, .int 0), (2, .int (-1))]) (S1 := [.int 0, .int i]) 2 0 (fun n => rfl) ?_
          refine RP_cond (decide (i < 0)) (fun n => rfl) (fun h => absurd (of_decide_eq_true h) (xi_nlt (x := i) (y := 0) (show 0 ≤ i.toInt by omega))) (fun _ => ?_)
          show RP 55 _ 5 [(0, .int i), (1, .int 0), (2, .int (-1))] [] _
          refine RP_step (pc1 := 7) (L1 := [(0, .int i), (1, .int 0), (2, .int (-1))]) (S1 := [.int (-1), .int i]) 2 0 (fun n => rfl) ?_
          refine RP_cond (decide ((-1) < i)) (fun n => rfl) (fun _ => ?_) (fun h => absurd (xi_lt (x := (-1)) (y := i) (show -1 < i.toInt by omega)) (of_decide_eq_false h))
          show RP 55 _ 14 [(0, .int i), (1, .int 0), (2, .int (-1))] [] _
          refine RP_done 4 (fun n => rfl) ?_
          refine Or.inr ⟨0, rfl, ?_⟩
          show RP 71 _ 20 [(0, .ref 0), (1, .int 5), (2, .int i), (3, .int l)] [.int 0] _
          refine RP_done 5 (fun n => rfl) ?_
          exact ⟨rfl, _, rfl⟩

set_option maxHeartbeats 8000000 in
set_option maxRecDepth 1000000 in
theorem sm_15 (f coins : Int32) : Same 15 85 [.int f, .int coins] := by
  refine Same_of ?_
  show RP 15 _ 0 [(0, .ref 0), (1, .int f), (2, .int coins)] [] _
  refine RP_step (pc1 := 1) (L1 := [(0, .ref 0), (1, .int f), (2, .int coins)]) (S1 := [.int f]) 1 0 (fun n => rfl) ?_
  refine RP_call 22 [.int f] (fun n => rfl) ?_
  show RP 22 _ 0 [(0, .int f)] [] _
  refine RP_step (pc1 := 1) (L1 := [(0, .int f)]) (S1 := [.int f]) 1 0 (fun n => rfl) ?_
  refine RP_cond (decide (f < 0)) (fun n => rfl) (fun hh => ?_) (fun hh => ?_)
  · have h1 := of_decide_eq_true hh
    have h2 : f.toInt < 0 := xj_lt h1
    show RP 22 _ 14 [(0, .int f)] [] _
    refine RP_done 4 (fun n => rfl) ?_
    refine Or.inr ⟨0, rfl, ?_⟩
    show RP 15 _ 4 [(0, .ref 0), (1, .int f), (2, .int coins)] [.int 0] _
    refine RP_done 5 (fun n => rfl) ?_
    show RP 85 _ 0 [(0, .ref 0), (1, .int f), (2, .int coins)] [] _
    refine RP_step (pc1 := 1) (L1 := [(0, .ref 0), (1, .int f), (2, .int coins)]) (S1 := [.int f]) 1 0 (fun n => rfl) ?_
    refine RP_call 56 [.int f] (fun n => rfl) ?_
    show RP 56 _ 0 [(0, .int f)] [] _
    refine RP_step (pc1 := 3) (L1 := [(0, .int f)]) (S1 := [.int 5, .int 0, .int f]) 3 0 (fun n => rfl) ?_
    refine RP_call 55 [.int f, .int 0, .int 5] (fun n => rfl) ?_
    show RP 55 _ 0 [(0, .int f), (1, .int 0), (2, .int 5)] [] _
    refine RP_step (pc1 := 2) (L1 := [(0, .int f), (1, .int 0), (2, .int 5)]) (S1 := [.int 0, .int f]) 2 0 (fun n => rfl) ?_
    refine RP_cond (decide (f < 0)) (fun n => rfl) (fun _ => ?_) (fun h => absurd (xi_lt (x := f) (y := 0) (show f.toInt < 0 by omega)) (of_decide_eq_false h))
    show RP 55 _ 14 [(0, .int f), (1, .int 0), (2, .int 5)] [] _
    refine RP_done 4 (fun n => rfl) ?_
    refine Or.inr ⟨0, rfl, ?_⟩
    show RP 56 _ 6 [(0, .int f)] [.int 0] _
    refine RP_done 3 (fun n => rfl) ?_
    refine Or.inr ⟨0, rfl, ?_⟩
    show RP 85 _ 4 [(0, .ref 0), (1, .int f), (2, .int coins)] [.int 0] _
    refine RP_done 5 (fun n => rfl) ?_
    exact ⟨rfl, _, rfl⟩
  · have h3 := of_decide_eq_false hh
    have h4 : 0 ≤ f.toInt := xj_nlt h3
    show RP 22 _ 4 [(0, .int f)] [] _
    refine RP_step (pc1 := 7) (L1 := [(0, .int f)]) (S1 := [.int 6, .int f]) 2 0 (fun n => rfl) ?_
    refine RP_cond (decide (6 ≤ f)) (fun n => rfl) (fun hh => ?_) (fun hh => ?_)
    · have h5 := of_decide_eq_true hh
      have h6 : 6 ≤ f.toInt := xj_le h5
      show RP 22 _ 14 [(0, .int f)] [] _
      refine RP_done 4 (fun n => rfl) ?_
      refine Or.inr ⟨0, rfl, ?_⟩
      show RP 15 _ 4 [(0, .ref 0), (1, .int f), (2, .int coins)] [.int 0] _
      refine RP_done 5 (fun n => rfl) ?_
      show RP 85 _ 0 [(0, .ref 0), (1, .int f), (2, .int coins)] [] _
      refine RP_step (pc1 := 1) (L1 := [(0, .ref 0), (1, .int f), (2, .int coins)]) (S1 := [.int f]) 1 0 (fun n => rfl) ?_
      refine RP_call 56 [.int f] (fun n => rfl) ?_
      show RP 56 _ 0 [(0, .int f)] [] _
      refine RP_step (pc1 := 3) (L1 := [(0, .int f)]) (S1 := [.int 5, .int 0, .int f]) 3 0 (fun n => rfl) ?_
      refine RP_call 55 [.int f, .int 0, .int 5] (fun n => rfl) ?_
      show RP 55 _ 0 [(0, .int f), (1, .int 0), (2, .int 5)] [] _
      refine RP_step (pc1 := 2) (L1 := [(0, .int f), (1, .int 0), (2, .int 5)]) (S1 := [.int 0, .int f]) 2 0 (fun n => rfl) ?_
      refine RP_cond (decide (f < 0)) (fun n => rfl) (fun h => absurd (of_decide_eq_true h) (xi_nlt (x := f) (y := 0) (show 0 ≤ f.toInt by omega))) (fun _ => ?_)
      show RP 55 _ 5 [(0, .int f), (1, .int 0), (2, .int 5)] [] _
      refine RP_step (pc1 := 7) (L1 := [(0, .int f), (1, .int 0), (2, .int 5)]) (S1 := [.int 5, .int f]) 2 0 (fun n => rfl) ?_
      refine RP_cond (decide (5 < f)) (fun n => rfl) (fun _ => ?_) (fun h => absurd (xi_lt (x := 5) (y := f) (show 5 < f.toInt by omega)) (of_decide_eq_false h))
      show RP 55 _ 14 [(0, .int f), (1, .int 0), (2, .int 5)] [] _
      refine RP_done 4 (fun n => rfl) ?_
      refine Or.inr ⟨0, rfl, ?_⟩
      show RP 56 _ 6 [(0, .int f)] [.int 0] _
      refine RP_done 3 (fun n => rfl) ?_
      refine Or.inr ⟨0, rfl, ?_⟩
      show RP 85 _ 4 [(0, .ref 0), (1, .int f), (2, .int coins)] [.int 0] _
      refine RP_done 5 (fun n => rfl) ?_
      exact ⟨rfl, _, rfl⟩
    · have h7 := of_decide_eq_false hh
      have h8 : f.toInt < 6 := xj_nle h7
      show RP 22 _ 10 [(0, .int f)] [] _
      refine RP_done 5 (fun n => rfl) ?_
      refine Or.inr ⟨1, rfl, ?_⟩
      show RP 15 _ 4 [(0, .ref 0), (1, .int f), (2, .int coins)] [.int 1] _
      refine RP_step (pc1 := 9) (L1 := [(0, .ref 0), (1, .int f), (2, .int coins)]) (S1 := [.int 1, .int coins]) 3 0 (fun n => rfl) ?_
      refine RP_cond (decide (coins < 1)) (fun n => rfl) (fun hh => ?_) (fun hh => ?_)
      · have h9 := of_decide_eq_true hh
        have h10 : coins.toInt < 1 := xj_lt h9
        show RP 15 _ 18 [(0, .ref 0), (1, .int f), (2, .int coins)] [] _
        refine RP_done 4 (fun n => rfl) ?_
        show RP 85 _ 0 [(0, .ref 0), (1, .int f), (2, .int coins)] [] _
        refine RP_step (pc1 := 1) (L1 := [(0, .ref 0), (1, .int f), (2, .int coins)]) (S1 := [.int f]) 1 0 (fun n => rfl) ?_
        refine RP_call 56 [.int f] (fun n => rfl) ?_
        show RP 56 _ 0 [(0, .int f)] [] _
        refine RP_step (pc1 := 3) (L1 := [(0, .int f)]) (S1 := [.int 5, .int 0, .int f]) 3 0 (fun n => rfl) ?_
        refine RP_call 55 [.int f, .int 0, .int 5] (fun n => rfl) ?_
        show RP 55 _ 0 [(0, .int f), (1, .int 0), (2, .int 5)] [] _
        refine RP_step (pc1 := 2) (L1 := [(0, .int f), (1, .int 0), (2, .int 5)]) (S1 := [.int 0, .int f]) 2 0 (fun n => rfl) ?_
        refine RP_cond (decide (f < 0)) (fun n => rfl) (fun h => absurd (of_decide_eq_true h) (xi_nlt (x := f) (y := 0) (show 0 ≤ f.toInt by omega))) (fun _ => ?_)
        show RP 55 _ 5 [(0, .int f), (1, .int 0), (2, .int 5)] [] _
        refine RP_step (pc1 := 7) (L1 := [(0, .int f), (1, .int 0), (2, .int 5)]) (S1 := [.int 5, .int f]) 2 0 (fun n => rfl) ?_
        refine RP_cond (decide (5 < f)) (fun n => rfl) (fun h => absurd (of_decide_eq_true h) (xi_nlt (x := 5) (y := f) (show f.toInt ≤ 5 by omega))) (fun _ => ?_)
        show RP 55 _ 10 [(0, .int f), (1, .int 0), (2, .int 5)] [] _
        refine RP_done 5 (fun n => rfl) ?_
        refine Or.inr ⟨1, rfl, ?_⟩
        show RP 56 _ 6 [(0, .int f)] [.int 1] _
        refine RP_done 3 (fun n => rfl) ?_
        refine Or.inr ⟨1, rfl, ?_⟩
        show RP 85 _ 4 [(0, .ref 0), (1, .int f), (2, .int coins)] [.int 1] _
        refine RP_step (pc1 := 11) (L1 := [(0, .ref 0), (1, .int f), (2, .int coins)]) (S1 := [.int 99, .int 1, .int coins]) 4 0 (fun n => rfl) ?_
        refine RP_call 55 [.int coins, .int 1, .int 99] (fun n => rfl) ?_
        show RP 55 _ 0 [(0, .int coins), (1, .int 1), (2, .int 99)] [] _
        refine RP_step (pc1 := 2) (L1 := [(0, .int coins), (1, .int 1), (2, .int 99)]) (S1 := [.int 1, .int coins]) 2 0 (fun n => rfl) ?_
        refine RP_cond (decide (coins < 1)) (fun n => rfl) (fun _ => ?_) (fun h => absurd (xi_lt (x := coins) (y := 1) (show coins.toInt < 1 by omega)) (of_decide_eq_false h))
        show RP 55 _ 14 [(0, .int coins), (1, .int 1), (2, .int 99)] [] _
        refine RP_done 4 (fun n => rfl) ?_
        refine Or.inr ⟨0, rfl, ?_⟩
        show RP 85 _ 14 [(0, .ref 0), (1, .int f), (2, .int coins)] [.int 0] _
        refine RP_done 5 (fun n => rfl) ?_
        exact ⟨rfl, _, rfl⟩
      · have h11 := of_decide_eq_false hh
        have h12 : 1 ≤ coins.toInt := xj_nlt h11
        show RP 15 _ 12 [(0, .ref 0), (1, .int f), (2, .int coins)] [] _
        refine RP_step (pc1 := 15) (L1 := [(0, .ref 0), (1, .int f), (2, .int coins)]) (S1 := [.int 99, .int coins]) 2 0 (fun n => rfl) ?_
        refine RP_cond (decide (coins ≤ 99)) (fun n => rfl) (fun hh => ?_) (fun hh => ?_)
        · have h13 := of_decide_eq_true hh
          have h14 : coins.toInt ≤ 99 := xj_le h13
          show RP 15 _ 20 [(0, .ref 0), (1, .int f), (2, .int coins)] [] _
          refine RP_step (pc1 := 25) (L1 := [(0, .ref 0), (1, .int f), (2, .int coins)]) (S1 := [.int f, .ref 8]) 3 0 (fun n => rfl) ?_
          rcases (show f.toInt = 0 ∨ f.toInt = 1 ∨ f.toInt = 2 ∨ f.toInt = 3 ∨ f.toInt = 4 ∨ f.toInt = 5 by omega) with e9 | e9 | e9 | e9 | e9 | e9
          · obtain rfl : f = 0 := xi_eq e9
            show RP 15 _ 25 [(0, .ref 0), (1, .int 0), (2, .int coins)] [.int 0, .ref 8] _
            refine RP_step (pc1 := 33) (L1 := [(3, .int 1), (0, .ref 0), (1, .int 0), (2, .int coins)]) (S1 := [.int coins, .int 0, .ref 8]) 6 0 (fun n => rfl) ?_
            refine RP_ast (fun n => rfl) rfl (by decide) ?_
            show RP 15 _ 34 [(3, .int 1), (0, .ref 0), (1, .int 0), (2, .int coins)] [] _
            refine RP_done 4 (fun n => rfl) ?_
            show RP 85 _ 0 [(0, .ref 0), (1, .int 0), (2, .int coins)] [] _
            refine RP_step (pc1 := 1) (L1 := [(0, .ref 0), (1, .int 0), (2, .int coins)]) (S1 := [.int 0]) 1 0 (fun n => rfl) ?_
            refine RP_call 56 [.int 0] (fun n => rfl) ?_
            show RP 56 _ 0 [(0, .int 0)] [] _
            refine RP_done 15 (fun n => rfl) ?_
            refine Or.inr ⟨1, rfl, ?_⟩
            show RP 85 _ 4 [(0, .ref 0), (1, .int 0), (2, .int coins)] [.int 1] _
            refine RP_step (pc1 := 11) (L1 := [(0, .ref 0), (1, .int 0), (2, .int coins)]) (S1 := [.int 99, .int 1, .int coins]) 4 0 (fun n => rfl) ?_
            refine RP_call 55 [.int coins, .int 1, .int 99] (fun n => rfl) ?_
            show RP 55 _ 0 [(0, .int coins), (1, .int 1), (2, .int 99)] [] _
            refine RP_step (pc1 := 2) (L1 := [(0, .int coins), (1, .int 1), (2, .int 99)]) (S1 := [.int 1, .int coins]) 2 0 (fun n => rfl) ?_
            refine RP_cond (decide (coins < 1)) (fun n => rfl) (fun h => absurd (of_decide_eq_true h) (xi_nlt (x := coins) (y := 1) (show 1 ≤ coins.toInt by omega))) (fun _ => ?_)
            show RP 55 _ 5 [(0, .int coins), (1, .int 1), (2, .int 99)] [] _
            refine RP_step (pc1 := 7) (L1 := [(0, .int coins), (1, .int 1), (2, .int 99)]) (S1 := [.int 99, .int coins]) 2 0 (fun n => rfl) ?_
            refine RP_cond (decide (99 < coins)) (fun n => rfl) (fun h => absurd (of_decide_eq_true h) (xi_nlt (x := 99) (y := coins) (show coins.toInt ≤ 99 by omega))) (fun _ => ?_)
            show RP 55 _ 10 [(0, .int coins), (1, .int 1), (2, .int 99)] [] _
            refine RP_done 5 (fun n => rfl) ?_
            refine Or.inr ⟨1, rfl, ?_⟩
            show RP 85 _ 14 [(0, .ref 0), (1, .int 0), (2, .int coins)] [.int 1] _
            refine RP_step (pc1 := 32) (L1 := [(3, .int 1), (0, .ref 0), (1, .int 0), (2, .int coins)]) (S1 := [.int coins, .int 0, .ref 3]) 10 0 (fun n => rfl) ?_
            refine RP_ast (fun n => rfl) rfl (by decide) ?_
            show RP 85 _ 33 [(3, .int 1), (0, .ref 0), (1, .int 0), (2, .int coins)] [] _
            refine RP_done 4 (fun n => rfl) ?_
            exact ⟨rfl, _, rfl⟩
          · obtain rfl : f = 1 := xi_eq e9
            show RP 15 _ 25 [(0, .ref 0), (1, .int 1), (2, .int coins)] [.int 1, .ref 8] _
            refine RP_step (pc1 := 33) (L1 := [(3, .int 1), (0, .ref 0), (1, .int 1), (2, .int coins)]) (S1 := [.int coins, .int 1, .ref 8]) 6 0 (fun n => rfl) ?_
            refine RP_ast (fun n => rfl) rfl (by decide) ?_
            show RP 15 _ 34 [(3, .int 1), (0, .ref 0), (1, .int 1), (2, .int coins)] [] _
            refine RP_done 4 (fun n => rfl) ?_
            show RP 85 _ 0 [(0, .ref 0), (1, .int 1), (2, .int coins)] [] _
            refine RP_step (pc1 := 1) (L1 := [(0, .ref 0), (1, .int 1), (2, .int coins)]) (S1 := [.int 1]) 1 0 (fun n => rfl) ?_
            refine RP_call 56 [.int 1] (fun n => rfl) ?_
            show RP 56 _ 0 [(0, .int 1)] [] _
            refine RP_done 15 (fun n => rfl) ?_
            refine Or.inr ⟨1, rfl, ?_⟩
            show RP 85 _ 4 [(0, .ref 0), (1, .int 1), (2, .int coins)] [.int 1] _
            refine RP_step (pc1 := 11) (L1 := [(0, .ref 0), (1, .int 1), (2, .int coins)]) (S1 := [.int 99, .int 1, .int coins]) 4 0 (fun n => rfl) ?_
            refine RP_call 55 [.int coins, .int 1, .int 99] (fun n => rfl) ?_
            show RP 55 _ 0 [(0, .int coins), (1, .int 1), (2, .int 99)] [] _
            refine RP_step (pc1 := 2) (L1 := [(0, .int coins), (1, .int 1), (2, .int 99)]) (S1 := [.int 1, .int coins]) 2 0 (fun n => rfl) ?_
            refine RP_cond (decide (coins < 1)) (fun n => rfl) (fun h => absurd (of_decide_eq_true h) (xi_nlt (x := coins) (y := 1) (show 1 ≤ coins.toInt by omega))) (fun _ => ?_)
            show RP 55 _ 5 [(0, .int coins), (1, .int 1), (2, .int 99)] [] _
            refine RP_step (pc1 := 7) (L1 := [(0, .int coins), (1, .int 1), (2, .int 99)]) (S1 := [.int 99, .int coins]) 2 0 (fun n => rfl) ?_
            refine RP_cond (decide (99 < coins)) (fun n => rfl) (fun h => absurd (of_decide_eq_true h) (xi_nlt (x := 99) (y := coins) (show coins.toInt ≤ 99 by omega))) (fun _ => ?_)
            show RP 55 _ 10 [(0, .int coins), (1, .int 1), (2, .int 99)] [] _
            refine RP_done 5 (fun n => rfl) ?_
            refine Or.inr ⟨1, rfl, ?_⟩
            show RP 85 _ 14 [(0, .ref 0), (1, .int 1), (2, .int coins)] [.int 1] _
            refine RP_step (pc1 := 32) (L1 := [(3, .int 1), (0, .ref 0), (1, .int 1), (2, .int coins)]) (S1 := [.int coins, .int 1, .ref 3]) 10 0 (fun n => rfl) ?_
            refine RP_ast (fun n => rfl) rfl (by decide) ?_
            show RP 85 _ 33 [(3, .int 1), (0, .ref 0), (1, .int 1), (2, .int coins)] [] _
            refine RP_done 4 (fun n => rfl) ?_
            exact ⟨rfl, _, rfl⟩
          · obtain rfl : f = 2 := xi_eq e9
            show RP 15 _ 25 [(0, .ref 0), (1, .int 2), (2, .int coins)] [.int 2, .ref 8] _
            refine RP_step (pc1 := 33) (L1 := [(3, .int 1), (0, .ref 0), (1, .int 2), (2, .int coins)]) (S1 := [.int coins, .int 2, .ref 8]) 6 0 (fun n => rfl) ?_
            refine RP_ast (fun n => rfl) rfl (by decide) ?_
            show RP 15 _ 34 [(3, .int 1), (0, .ref 0), (1, .int 2), (2, .int coins)] [] _
            refine RP_done 4 (fun n => rfl) ?_
            show RP 85 _ 0 [(0, .ref 0), (1, .int 2), (2, .int coins)] [] _
            refine RP_step (pc1 := 1) (L1 := [(0, .ref 0), (1, .int 2), (2, .int coins)]) (S1 := [.int 2]) 1 0 (fun n => rfl) ?_
            refine RP_call 56 [.int 2] (fun n => rfl) ?_
            show RP 56 _ 0 [(0, .int 2)] [] _
            refine RP_done 15 (fun n => rfl) ?_
            refine Or.inr ⟨1, rfl, ?_⟩
            show RP 85 _ 4 [(0, .ref 0), (1, .int 2), (2, .int coins)] [.int 1] _
            refine RP_step (pc1 := 11) (L1 := [(0, .ref 0), (1, .int 2), (2, .int coins)]) (S1 := [.int 99, .int 1, .int coins]) 4 0 (fun n => rfl) ?_
            refine RP_call 55 [.int coins, .int 1, .int 99] (fun n => rfl) ?_
            show RP 55 _ 0 [(0, .int coins), (1, .int 1), (2, .int 99)] [] _
            refine RP_step (pc1 := 2) (L1 := [(0, .int coins), (1, .int 1), (2, .int 99)]) (S1 := [.int 1, .int coins]) 2 0 (fun n => rfl) ?_
            refine RP_cond (decide (coins < 1)) (fun n => rfl) (fun h => absurd (of_decide_eq_true h) (xi_nlt (x := coins) (y := 1) (show 1 ≤ coins.toInt by omega))) (fun _ => ?_)
            show RP 55 _ 5 [(0, .int coins), (1, .int 1), (2, .int 99)] [] _
            refine RP_step (pc1 := 7) (L1 := [(0, .int coins), (1, .int 1), (2, .int 99)]) (S1 := [.int 99, .int coins]) 2 0 (fun n => rfl) ?_
            refine RP_cond (decide (99 < coins)) (fun n => rfl) (fun h => absurd (of_decide_eq_true h) (xi_nlt (x := 99) (y := coins) (show coins.toInt ≤ 99 by omega))) (fun _ => ?_)
            show RP 55 _ 10 [(0, .int coins), (1, .int 1), (2, .int 99)] [] _
            refine RP_done 5 (fun n => rfl) ?_
            refine Or.inr ⟨1, rfl, ?_⟩
            show RP 85 _ 14 [(0, .ref 0), (1, .int 2), (2, .int coins)] [.int 1] _
            refine RP_step (pc1 := 32) (L1 := [(3, .int 1), (0, .ref 0), (1, .int 2), (2, .int coins)]) (S1 := [.int coins, .int 2, .ref 3]) 10 0 (fun n => rfl) ?_
            refine RP_ast (fun n => rfl) rfl (by decide) ?_
            show RP 85 _ 33 [(3, .int 1), (0, .ref 0), (1, .int 2), (2, .int coins)] [] _
            refine RP_done 4 (fun n => rfl) ?_
            exact ⟨rfl, _, rfl⟩
          · obtain rfl : f = 3 := xi_eq e9
            show RP 15 _ 25 [(0, .ref 0), (1, .int 3), (2, .int coins)] [.int 3, .ref 8] _
            refine RP_step (pc1 := 33) (L1 := [(3, .int 1), (0, .ref 0), (1, .int 3), (2, .int coins)]) (S1 := [.int coins, .int 3, .ref 8]) 6 0 (fun n => rfl) ?_
            refine RP_ast (fun n => rfl) rfl (by decide) ?_
            show RP 15 _ 34 [(3, .int 1), (0, .ref 0), (1, .int 3), (2, .int coins)] [] _
            refine RP_done 4 (fun n => rfl) ?_
            show RP 85 _ 0 [(0, .ref 0), (1, .int 3), (2, .int coins)] [] _
            refine RP_step (pc1 := 1) (L1 := [(0, .ref 0), (1, .int 3), (2, .int coins)]) (S1 := [.int 3]) 1 0 (fun n => rfl) ?_
            refine RP_call 56 [.int 3] (fun n => rfl) ?_
            show RP 56 _ 0 [(0, .int 3)] [] _
            refine RP_done 15 (fun n => rfl) ?_
            refine Or.inr ⟨1, rfl, ?_⟩
            show RP 85 _ 4 [(0, .ref 0), (1, .int 3), (2, .int coins)] [.int 1] _
            refine RP_step (pc1 := 11) (L1 := [(0, .ref 0), (1, .int 3), (2, .int coins)]) (S1 := [.int 99, .int 1, .int coins]) 4 0 (fun n => rfl) ?_
            refine RP_call 55 [.int coins, .int 1, .int 99] (fun n => rfl) ?_
            show RP 55 _ 0 [(0, .int coins), (1, .int 1), (2, .int 99)] [] _
            refine RP_step (pc1 := 2) (L1 := [(0, .int coins), (1, .int 1), (2, .int 99)]) (S1 := [.int 1, .int coins]) 2 0 (fun n => rfl) ?_
            refine RP_cond (decide (coins < 1)) (fun n => rfl) (fun h => absurd (of_decide_eq_true h) (xi_nlt (x := coins) (y := 1) (show 1 ≤ coins.toInt by omega))) (fun _ => ?_)
            show RP 55 _ 5 [(0, .int coins), (1, .int 1), (2, .int 99)] [] _
            refine RP_step (pc1 := 7) (L1 := [(0, .int coins), (1, .int 1), (2, .int 99)]) (S1 := [.int 99, .int coins]) 2 0 (fun n => rfl) ?_
            refine RP_cond (decide (99 < coins)) (fun n => rfl) (fun h => absurd (of_decide_eq_true h) (xi_nlt (x := 99) (y := coins) (show coins.toInt ≤ 99 by omega))) (fun _ => ?_)
            show RP 55 _ 10 [(0, .int coins), (1, .int 1), (2, .int 99)] [] _
            refine RP_done 5 (fun n => rfl) ?_
            refine Or.inr ⟨1, rfl, ?_⟩
            show RP 85 _ 14 [(0, .ref 0), (1, .int 3), (2, .int coins)] [.int 1] _
            refine RP_step (pc1 := 32) (L1 := [(3, .int 1), (0, .ref 0), (1, .int 3), (2, .int coins)]) (S1 := [.int coins, .int 3, .ref 3]) 10 0 (fun n => rfl) ?_
            refine RP_ast (fun n => rfl) rfl (by decide) ?_
            show RP 85 _ 33 [(3, .int 1), (0, .ref 0), (1, .int 3), (2, .int coins)] [] _
            refine RP_done 4 (fun n => rfl) ?_
            exact ⟨rfl, _, rfl⟩
          · obtain rfl : f = 4 := xi_eq e9
            show RP 15 _ 25 [(0, .ref 0), (1, .int 4), (2, .int coins)] [.int 4, .ref 8] _
            refine RP_step (pc1 := 33) (L1 := [(3, .int 1), (0, .ref 0), (1, .int 4), (2, .int coins)]) (S1 := [.int coins, .int 4, .ref 8]) 6 0 (fun n => rfl) ?_
            refine RP_ast (fun n => rfl) rfl (by decide) ?_
            show RP 15 _ 34 [(3, .int 1), (0, .ref 0), (1, .int 4), (2, .int coins)] [] _
            refine RP_done 4 (fun n => rfl) ?_
            show RP 85 _ 0 [(0, .ref 0), (1, .int 4), (2, .int coins)] [] _
            refine RP_step (pc1 := 1) (L1 := [(0, .ref 0), (1, .int 4), (2, .int coins)]) (S1 := [.int 4]) 1 0 (fun n => rfl) ?_
            refine RP_call 56 [.int 4] (fun n => rfl) ?_
            show RP 56 _ 0 [(0, .int 4)] [] _
            refine RP_done 15 (fun n => rfl) ?_
            refine Or.inr ⟨1, rfl, ?_⟩
            show RP 85 _ 4 [(0, .ref 0), (1, .int 4), (2, .int coins)] [.int 1] _
            refine RP_step (pc1 := 11) (L1 := [(0, .ref 0), (1, .int 4), (2, .int coins)]) (S1 := [.int 99, .int 1, .int coins]) 4 0 (fun n => rfl) ?_
            refine RP_call 55 [.int coins, .int 1, .int 99] (fun n => rfl) ?_
            show RP 55 _ 0 [(0, .int coins), (1, .int 1), (2, .int 99)] [] _
            refine RP_step (pc1 := 2) (L1 := [(0, .int coins), (1, .int 1), (2, .int 99)]) (S1 := [.int 1, .int coins]) 2 0 (fun n => rfl) ?_
            refine RP_cond (decide (coins < 1)) (fun n => rfl) (fun h => absurd (of_decide_eq_true h) (xi_nlt (x := coins) (y := 1) (show 1 ≤ coins.toInt by omega))) (fun _ => ?_)
            show RP 55 _ 5 [(0, .int coins), (1, .int 1), (2, .int 99)] [] _
            refine RP_step (pc1 := 7) (L1 := [(0, .int coins), (1, .int 1), (2, .int 99)]) (S1 := [.int 99, .int coins]) 2 0 (fun n => rfl) ?_
            refine RP_cond (decide (99 < coins)) (fun n => rfl) (fun h => absurd (of_decide_eq_true h) (xi_nlt (x := 99) (y := coins) (show coins.toInt ≤ 99 by omega))) (fun _ => ?_)
            show RP 55 _ 10 [(0, .int coins), (1, .int 1), (2, .int 99)] [] _
            refine RP_done 5 (fun n => rfl) ?_
            refine Or.inr ⟨1, rfl, ?_⟩
            show RP 85 _ 14 [(0, .ref 0), (1, .int 4), (2, .int coins)] [.int 1] _
            refine RP_step (pc1 := 32) (L1 := [(3, .int 1), (0, .ref 0), (1, .int 4), (2, .int coins)]) (S1 := [.int coins, .int 4, .ref 3]) 10 0 (fun n => rfl) ?_
            refine RP_ast (fun n => rfl) rfl (by decide) ?_
            show RP 85 _ 33 [(3, .int 1), (0, .ref 0), (1, .int 4), (2, .int coins)] [] _
            refine RP_done 4 (fun n => rfl) ?_
            exact ⟨rfl, _, rfl⟩
          · obtain rfl : f = 5 := xi_eq e9
            show RP 15 _ 25 [(0, .ref 0), (1, .int 5), (2, .int coins)] [.int 5, .ref 8] _
            refine RP_step (pc1 := 33) (L1 := [(3, .int 1), (0, .ref 0), (1, .int 5), (2, .int coins)]) (S1 := [.int coins, .int 5, .ref 8]) 6 0 (fun n => rfl) ?_
            refine RP_ast (fun n => rfl) rfl (by decide) ?_
            show RP 15 _ 34 [(3, .int 1), (0, .ref 0), (1, .int 5), (2, .int coins)] [] _
            refine RP_done 4 (fun n => rfl) ?_
            show RP 85 _ 0 [(0, .ref 0), (1, .int 5), (2, .int coins)] [] _
            refine RP_step (pc1 := 1) (L1 := [(0, .ref 0), (1, .int 5), (2, .int coins)]) (S1 := [.int 5]) 1 0 (fun n => rfl) ?_
            refine RP_call 56 [.int 5] (fun n => rfl) ?_
            show RP 56 _ 0 [(0, .int 5)] [] _
            refine RP_done 15 (fun n => rfl) ?_
            refine Or.inr ⟨1, rfl, ?_⟩
            show RP 85 _ 4 [(0, .ref 0), (1, .int 5), (2, .int coins)] [.int 1] _
            refine RP_step (pc1 := 11) (L1 := [(0, .ref 0), (1, .int 5), (2, .int coins)]) (S1 := [.int 99, .int 1, .int coins]) 4 0 (fun n => rfl) ?_
            refine RP_call 55 [.int coins, .int 1, .int 99] (fun n => rfl) ?_
            show RP 55 _ 0 [(0, .int coins), (1, .int 1), (2, .int 99)] [] _
            refine RP_step (pc1 := 2) (L1 := [(0, .int coins), (1, .int 1), (2, .int 99)]) (S1 := [.int 1, .int coins]) 2 0 (fun n => rfl) ?_
            refine RP_cond (decide (coins < 1)) (fun n => rfl) (fun h => absurd (of_decide_eq_true h) (xi_nlt (x := coins) (y := 1) (show 1 ≤ coins.toInt by omega))) (fun _ => ?_)
            show RP 55 _ 5 [(0, .int coins), (1, .int 1), (2, .int 99)] [] _
            refine RP_step (pc1 := 7) (L1 := [(0, .int coins), (1, .int 1), (2, .int 99)]) (S1 := [.int 99, .int coins]) 2 0 (fun n => rfl) ?_
            refine RP_cond (decide (99 < coins)) (fun n => rfl) (fun h => absurd (of_decide_eq_true h) (xi_nlt (x := 99) (y := coins) (show coins.toInt ≤ 99 by omega))) (fun _ => ?_)
            show RP 55 _ 10 [(0, .int coins), (1, .int 1), (2, .int 99)] [] _
            refine RP_done 5 (fun n => rfl) ?_
            refine Or.inr ⟨1, rfl, ?_⟩
            show RP 85 _ 14 [(0, .ref 0), (1, .int 5), (2, .int coins)] [.int 1] _
            refine RP_step (pc1 := 32) (L1 := [(3, .int 1), (0, .ref 0), (1, .int 5), (2, .int coins)]) (S1 := [.int coins, .int 5, .ref 3]) 10 0 (fun n => rfl) ?_
            refine RP_ast (fun n => rfl) rfl (by decide) ?_
            show RP 85 _ 33 [(3, .int 1), (0, .ref 0), (1, .int 5), (2, .int coins)] [] _
            refine RP_done 4 (fun n => rfl) ?_
            exact ⟨rfl, _, rfl⟩
        · have h15 := of_decide_eq_false hh
          have h16 : 99 < coins.toInt := xj_nle h15
          show RP 15 _ 18 [(0, .ref 0), (1, .int f), (2, .int coins)] [] _
          refine RP_done 4 (fun n => rfl) ?_
          show RP 85 _ 0 [(0, .ref 0), (1, .int f), (2, .int coins)] [] _
          refine RP_step (pc1 := 1) (L1 := [(0, .ref 0), (1, .int f), (2, .int coins)]) (S1 := [.int f]) 1 0 (fun n => rfl) ?_
          refine RP_call 56 [.int f] (fun n => rfl) ?_
          show RP 56 _ 0 [(0, .int f)] [] _
          refine RP_step (pc1 := 3) (L1 := [(0, .int f)]) (S1 := [.int 5, .int 0, .int f]) 3 0 (fun n => rfl) ?_
          refine RP_call 55 [.int f, .int 0, .int 5] (fun n => rfl) ?_
          show RP 55 _ 0 [(0, .int f), (1, .int 0), (2, .int 5)] [] _
          refine RP_step (pc1 := 2) (L1 := [(0, .int f), (1, .int 0), (2, .int 5)]) (S1 := [.int 0, .int f]) 2 0 (fun n => rfl) ?_
          refine RP_cond (decide (f < 0)) (fun n => rfl) (fun h => absurd (of_decide_eq_true h) (xi_nlt (x := f) (y := 0) (show 0 ≤ f.toInt by omega))) (fun _ => ?_)
          show RP 55 _ 5 [(0, .int f), (1, .int 0), (2, .int 5)] [] _
          refine RP_step (pc1 := 7) (L1 := [(0, .int f), (1, .int 0), (2, .int 5)]) (S1 := [.int 5, .int f]) 2 0 (fun n => rfl) ?_
          refine RP_cond (decide (5 < f)) (fun n => rfl) (fun h => absurd (of_decide_eq_true h) (xi_nlt (x := 5) (y := f) (show f.toInt ≤ 5 by omega))) (fun _ => ?_)
          show RP 55 _ 10 [(0, .int f), (1, .int 0), (2, .int 5)] [] _
          refine RP_done 5 (fun n => rfl) ?_
          refine Or.inr ⟨1, rfl, ?_⟩
          show RP 56 _ 6 [(0, .int f)] [.int 1] _
          refine RP_done 3 (fun n => rfl) ?_
          refine Or.inr ⟨1, rfl, ?_⟩
          show RP 85 _ 4 [(0, .ref 0), (1, .int f), (2, .int coins)] [.int 1] _
          refine RP_step (pc1 := 11) (L1 := [(0, .ref 0), (1, .int f), (2, .int coins)]) (S1 := [.int 99, .int 1, .int coins]) 4 0 (fun n => rfl) ?_
          refine RP_call 55 [.int coins, .int 1, .int 99] (fun n => rfl) ?_
          show RP 55 _ 0 [(0, .int coins), (1, .int 1), (2, .int 99)] [] _
          refine RP_step (pc1 := 2) (L1 := [(0, .int coins), (1, .int 1), (2, .int 99)]) (S1 := [.int 1, .int coins]) 2 0 (fun n => rfl) ?_
          refine RP_cond (decide (coins < 1)) (fun n => rfl) (fun h => absurd (of_decide_eq_true h) (xi_nlt (x := coins) (y := 1) (show 1 ≤ coins.toInt by omega))) (fun _ => ?_)
          show RP 55 _ 5 [(0, .int coins), (1, .int 1), (2, .int 99)] [] _
          refine RP_step (pc1 := 7) (L1 := [(0, .int coins), (1, .int 1), (2, .int 99)]) (S1 := [.int 99, .int coins]) 2 0 (fun n => rfl) ?_
          refine RP_cond (decide (99 < coins)) (fun n => rfl) (fun _ => ?_) (fun h => absurd (xi_lt (x := 99) (y := coins) (show 99 < coins.toInt by omega)) (of_decide_eq_false h))
          show RP 55 _ 14 [(0, .int coins), (1, .int 1), (2, .int 99)] [] _
          refine RP_done 4 (fun n => rfl) ?_
          refine Or.inr ⟨0, rfl, ?_⟩
          show RP 85 _ 14 [(0, .ref 0), (1, .int f), (2, .int coins)] [.int 0] _
          refine RP_done 5 (fun n => rfl) ?_
          exact ⟨rfl, _, rfl⟩

set_option maxHeartbeats 8000000 in
set_option maxRecDepth 1000000 in
theorem sm_17 (k what : Int32) : Same 17 87 [.int k, .int what] := by
  refine Same_of ?_
  show RP 17 _ 0 [(0, .ref 0), (1, .int k), (2, .int what)] [] _
  refine RP_step (pc1 := 1) (L1 := [(0, .ref 0), (1, .int k), (2, .int what)]) (S1 := [.int k]) 1 0 (fun n => rfl) ?_
  refine RP_cond (decide (k < 0)) (fun n => rfl) (fun hh => ?_) (fun hh => ?_)
  · have h1 := of_decide_eq_true hh
    have h2 : k.toInt < 0 := xj_lt h1
    show RP 17 _ 15 [(0, .ref 0), (1, .int k), (2, .int what)] [] _
    refine RP_done 4 (fun n => rfl) ?_
    show RP 87 _ 0 [(0, .ref 0), (1, .int k), (2, .int what)] [] _
    refine RP_done 7 (fun n => rfl) ?_
    exact ⟨rfl, _, rfl⟩
  · have h3 := of_decide_eq_false hh
    have h4 : 0 ≤ k.toInt := xj_nlt h3
    show RP 17 _ 4 [(0, .ref 0), (1, .int k), (2, .int what)] [] _
    refine RP_step (pc1 := 12) (L1 := [(0, .ref 0), (1, .int k), (2, .int what)]) (S1 := [.int 0, .int k]) 4 0 (fun n => rfl) ?_
    refine RP_cond (decide (k < 0)) (fun n => rfl) (fun h => absurd (of_decide_eq_true h) (xi_nlt (x := k) (y := 0) (show 0 ≤ k.toInt by omega))) (fun _ => ?_)
    show RP 17 _ 15 [(0, .ref 0), (1, .int k), (2, .int what)] [] _
    refine RP_done 4 (fun n => rfl) ?_
    show RP 87 _ 0 [(0, .ref 0), (1, .int k), (2, .int what)] [] _
    refine RP_done 7 (fun n => rfl) ?_
    exact ⟨rfl, _, rfl⟩

set_option maxHeartbeats 8000000 in
set_option maxRecDepth 1000000 in
theorem sm_18 : Same 18 88 [] := by
  refine Same_of ?_
  show RP 18 _ 0 [(0, .ref 0)] [] _
  refine RP_done 7 (fun n => rfl) ?_
  show RP 88 _ 0 [(0, .ref 0)] [] _
  refine RP_done 7 (fun n => rfl) ?_
  exact ⟨rfl, _, rfl⟩

set_option maxHeartbeats 8000000 in
set_option maxRecDepth 1000000 in
theorem sm_19 (what : Int32) : Same 19 89 [.int what] := by
  refine Same_of ?_
  show RP 19 _ 0 [(0, .ref 0), (1, .int what)] [] _
  refine RP_step (pc1 := 1) (L1 := [(0, .ref 0), (1, .int what)]) (S1 := [.int what]) 1 0 (fun n => rfl) ?_
  refine RP_cond (decide (what ≠ 0)) (fun n => rfl) (fun hh => ?_) (fun hh => ?_)
  · have h1 := of_decide_eq_true hh
    show RP 19 _ 9 [(0, .ref 0), (1, .int what)] [] _
    refine RP_step (pc1 := 12) (L1 := [(0, .ref 0), (1, .int what)]) (S1 := [.int 10, .int what]) 2 0 (fun n => rfl) ?_
    refine RP_cond (decide (what < 10)) (fun n => rfl) (fun hh => ?_) (fun hh => ?_)
    · have h2 := of_decide_eq_true hh
      have h3 : what.toInt < 10 := xj_lt h2
      show RP 19 _ 34 [(0, .ref 0), (1, .int what)] [] _
      refine RP_step (pc1 := 37) (L1 := [(0, .ref 0), (1, .int what)]) (S1 := [.int 20, .int what]) 2 0 (fun n => rfl) ?_
      refine RP_cond (decide (what < 20)) (fun n => rfl) (fun _ => ?_) (fun h => absurd (xi_lt (x := what) (y := 20) (show what.toInt < 20 by omega)) (of_decide_eq_false h))
      show RP 19 _ 56 [(0, .ref 0), (1, .int what)] [] _
      refine RP_done 4 (fun n => rfl) ?_
      show RP 89 _ 0 [(0, .ref 0), (1, .int what)] [] _
      refine RP_step (pc1 := 1) (L1 := [(0, .ref 0), (1, .int what)]) (S1 := [.int what]) 1 0 (fun n => rfl) ?_
      refine RP_cond (decide (what ≠ 0)) (fun n => rfl) (fun _ => ?_) (fun h => absurd (by assumption) (of_decide_eq_false h))
      show RP 89 _ 9 [(0, .ref 0), (1, .int what)] [] _
      refine RP_step (pc1 := 14) (L1 := [(0, .ref 0), (1, .int what)]) (S1 := [.int 15, .int 10, .int what]) 3 0 (fun n => rfl) ?_
      refine RP_call 55 [.int what, .int 10, .int 15] (fun n => rfl) ?_
      show RP 55 _ 0 [(0, .int what), (1, .int 10), (2, .int 15)] [] _
      refine RP_step (pc1 := 2) (L1 := [(0, .int what), (1, .int 10), (2, .int 15)]) (S1 := [.int 10, .int what]) 2 0 (fun n => rfl) ?_
      refine RP_cond (decide (what < 10)) (fun n => rfl) (fun _ => ?_) (fun h => absurd (xi_lt (x := what) (y := 10) (show what.toInt < 10 by omega)) (of_decide_eq_false h))
      show RP 55 _ 14 [(0, .int what), (1, .int 10), (2, .int 15)] [] _
      refine RP_done 4 (fun n => rfl) ?_
      refine Or.inr ⟨0, rfl, ?_⟩
      show RP 89 _ 17 [(0, .ref 0), (1, .int what)] [.int 0] _
      refine RP_step (pc1 := 37) (L1 := [(0, .ref 0), (1, .int what)]) (S1 := [.int 25, .int 20, .int what]) 4 0 (fun n => rfl) ?_
      refine RP_call 55 [.int what, .int 20, .int 25] (fun n => rfl) ?_
      show RP 55 _ 0 [(0, .int what), (1, .int 20), (2, .int 25)] [] _
      refine RP_step (pc1 := 2) (L1 := [(0, .int what), (1, .int 20), (2, .int 25)]) (S1 := [.int 20, .int what]) 2 0 (fun n => rfl) ?_
      refine RP_cond (decide (what < 20)) (fun n => rfl) (fun _ => ?_) (fun h => absurd (xi_lt (x := what) (y := 20) (show what.toInt < 20 by omega)) (of_decide_eq_false h))
      show RP 55 _ 14 [(0, .int what), (1, .int 20), (2, .int 25)] [] _
      refine RP_done 4 (fun n => rfl) ?_
      refine Or.inr ⟨0, rfl, ?_⟩
      show RP 89 _ 40 [(0, .ref 0), (1, .int what)] [.int 0] _
      refine RP_done 5 (fun n => rfl) ?_
      exact ⟨rfl, _, rfl⟩
    · have h4 := of_decide_eq_false hh
      have h5 : 10 ≤ what.toInt := xj_nlt h4
      show RP 19 _ 15 [(0, .ref 0), (1, .int what)] [] _
      refine RP_step (pc1 := 18) (L1 := [(0, .ref 0), (1, .int what)]) (S1 := [.int 16, .int what]) 2 0 (fun n => rfl) ?_
      refine RP_cond (decide (16 ≤ what)) (fun n => rfl) (fun hh => ?_) (fun hh => ?_)
      · have h6 := of_decide_eq_true hh
        have h7 : 16 ≤ what.toInt := xj_le h6
        show RP 19 _ 34 [(0, .ref 0), (1, .int what)] [] _
        refine RP_step (pc1 := 37) (L1 := [(0, .ref 0), (1, .int what)]) (S1 := [.int 20, .int what]) 2 0 (fun n => rfl) ?_
        refine RP_cond (decide (what < 20)) (fun n => rfl) (fun hh => ?_) (fun hh => ?_)
        · have h8 := of_decide_eq_true hh
          have h9 : what.toInt < 20 := xj_lt h8
          show RP 19 _ 56 [(0, .ref 0), (1, .int what)] [] _
          refine RP_done 4 (fun n => rfl) ?_
          show RP 89 _ 0 [(0, .ref 0), (1, .int what)] [] _
          refine RP_step (pc1 := 1) (L1 := [(0, .ref 0), (1, .int what)]) (S1 := [.int what]) 1 0 (fun n => rfl) ?_
          refine RP_cond (decide (what ≠ 0)) (fun n => rfl) (fun _ => ?_) (fun h => absurd (by assumption) (of_decide_eq_false h))
          show RP 89 _ 9 [(0, .ref 0), (1, .int what)] [] _
          refine RP_step (pc1 := 14) (L1 := [(0, .ref 0), (1, .int what)]) (S1 := [.int 15, .int 10, .int what]) 3 0 (fun n => rfl) ?_
          refine RP_call 55 [.int what, .int 10, .int 15] (fun n => rfl) ?_
          show RP 55 _ 0 [(0, .int what), (1, .int 10), (2, .int 15)] [] _
          refine RP_step (pc1 := 2) (L1 := [(0, .int what), (1, .int 10), (2, .int 15)]) (S1 := [.int 10, .int what]) 2 0 (fun n => rfl) ?_
          refine RP_cond (decide (what < 10)) (fun n => rfl) (fun h => absurd (of_decide_eq_true h) (xi_nlt (x := what) (y := 10) (show 10 ≤ what.toInt by omega))) (fun _ => ?_)
          show RP 55 _ 5 [(0, .int what), (1, .int 10), (2, .int 15)] [] _
          refine RP_step (pc1 := 7) (L1 := [(0, .int what), (1, .int 10), (2, .int 15)]) (S1 := [.int 15, .int what]) 2 0 (fun n => rfl) ?_
          refine RP_cond (decide (15 < what)) (fun n => rfl) (fun _ => ?_) (fun h => absurd (xi_lt (x := 15) (y := what) (show 15 < what.toInt by omega)) (of_decide_eq_false h))
          show RP 55 _ 14 [(0, .int what), (1, .int 10), (2, .int 15)] [] _
          refine RP_done 4 (fun n => rfl) ?_
          refine Or.inr ⟨0, rfl, ?_⟩
          show RP 89 _ 17 [(0, .ref 0), (1, .int what)] [.int 0] _
          refine RP_step (pc1 := 37) (L1 := [(0, .ref 0), (1, .int what)]) (S1 := [.int 25, .int 20, .int what]) 4 0 (fun n => rfl) ?_
          refine RP_call 55 [.int what, .int 20, .int 25] (fun n => rfl) ?_
          show RP 55 _ 0 [(0, .int what), (1, .int 20), (2, .int 25)] [] _
          refine RP_step (pc1 := 2) (L1 := [(0, .int what), (1, .int 20), (2, .int 25)]) (S1 := [.int 20, .int what]) 2 0 (fun n => rfl) ?_
          refine RP_cond (decide (what < 20)) (fun n => rfl) (fun _ => ?_) (fun h => absurd (xi_lt (x := what) (y := 20) (show what.toInt < 20 by omega)) (of_decide_eq_false h))
          show RP 55 _ 14 [(0, .int what), (1, .int 20), (2, .int 25)] [] _
          refine RP_done 4 (fun n => rfl) ?_
          refine Or.inr ⟨0, rfl, ?_⟩
          show RP 89 _ 40 [(0, .ref 0), (1, .int what)] [.int 0] _
          refine RP_done 5 (fun n => rfl) ?_
          exact ⟨rfl, _, rfl⟩
        · have h10 := of_decide_eq_false hh
          have h11 : 20 ≤ what.toInt := xj_nlt h10
          show RP 19 _ 40 [(0, .ref 0), (1, .int what)] [] _
          refine RP_step (pc1 := 43) (L1 := [(0, .ref 0), (1, .int what)]) (S1 := [.int 26, .int what]) 2 0 (fun n => rfl) ?_
          refine RP_cond (decide (26 ≤ what)) (fun n => rfl) (fun hh => ?_) (fun hh => ?_)
          · have h12 := of_decide_eq_true hh
            have h13 : 26 ≤ what.toInt := xj_le h12
            show RP 19 _ 56 [(0, .ref 0), (1, .int what)] [] _
            refine RP_done 4 (fun n => rfl) ?_
            show RP 89 _ 0 [(0, .ref 0), (1, .int what)] [] _
            refine RP_step (pc1 := 1) (L1 := [(0, .ref 0), (1, .int what)]) (S1 := [.int what]) 1 0 (fun n => rfl) ?_
            refine RP_cond (decide (what ≠ 0)) (fun n => rfl) (fun _ => ?_) (fun h => absurd (by assumption) (of_decide_eq_false h))
            show RP 89 _ 9 [(0, .ref 0), (1, .int what)] [] _
            refine RP_step (pc1 := 14) (L1 := [(0, .ref 0), (1, .int what)]) (S1 := [.int 15, .int 10, .int what]) 3 0 (fun n => rfl) ?_
            refine RP_call 55 [.int what, .int 10, .int 15] (fun n => rfl) ?_
            show RP 55 _ 0 [(0, .int what), (1, .int 10), (2, .int 15)] [] _
            refine RP_step (pc1 := 2) (L1 := [(0, .int what), (1, .int 10), (2, .int 15)]) (S1 := [.int 10, .int what]) 2 0 (fun n => rfl) ?_
            refine RP_cond (decide (what < 10)) (fun n => rfl) (fun h => absurd (of_decide_eq_true h) (xi_nlt (x := what) (y := 10) (show 10 ≤ what.toInt by omega))) (fun _ => ?_)
            show RP 55 _ 5 [(0, .int what), (1, .int 10), (2, .int 15)] [] _
            refine RP_step (pc1 := 7) (L1 := [(0, .int what), (1, .int 10), (2, .int 15)]) (S1 := [.int 15, .int what]) 2 0 (fun n => rfl) ?_
            refine RP_cond (decide (15 < what)) (fun n => rfl) (fun _ => ?_) (fun h => absurd (xi_lt (x := 15) (y := what) (show 15 < what.toInt by omega)) (of_decide_eq_false h))
            show RP 55 _ 14 [(0, .int what), (1, .int 10), (2, .int 15)] [] _
            refine RP_done 4 (fun n => rfl) ?_
            refine Or.inr ⟨0, rfl, ?_⟩
            show RP 89 _ 17 [(0, .ref 0), (1, .int what)] [.int 0] _
            refine RP_step (pc1 := 37) (L1 := [(0, .ref 0), (1, .int what)]) (S1 := [.int 25, .int 20, .int what]) 4 0 (fun n => rfl) ?_
            refine RP_call 55 [.int what, .int 20, .int 25] (fun n => rfl) ?_
            show RP 55 _ 0 [(0, .int what), (1, .int 20), (2, .int 25)] [] _
            refine RP_step (pc1 := 2) (L1 := [(0, .int what), (1, .int 20), (2, .int 25)]) (S1 := [.int 20, .int what]) 2 0 (fun n => rfl) ?_
            refine RP_cond (decide (what < 20)) (fun n => rfl) (fun h => absurd (of_decide_eq_true h) (xi_nlt (x := what) (y := 20) (show 20 ≤ what.toInt by omega))) (fun _ => ?_)
            show RP 55 _ 5 [(0, .int what), (1, .int 20), (2, .int 25)] [] _
            refine RP_step (pc1 := 7) (L1 := [(0, .int what), (1, .int 20), (2, .int 25)]) (S1 := [.int 25, .int what]) 2 0 (fun n => rfl) ?_
            refine RP_cond (decide (25 < what)) (fun n => rfl) (fun _ => ?_) (fun h => absurd (xi_lt (x := 25) (y := what) (show 25 < what.toInt by omega)) (of_decide_eq_false h))
            show RP 55 _ 14 [(0, .int what), (1, .int 20), (2, .int 25)] [] _
            refine RP_done 4 (fun n => rfl) ?_
            refine Or.inr ⟨0, rfl, ?_⟩
            show RP 89 _ 40 [(0, .ref 0), (1, .int what)] [.int 0] _
            refine RP_done 5 (fun n => rfl) ?_
            exact ⟨rfl, _, rfl⟩
          · have h14 := of_decide_eq_false hh
            have h15 : what.toInt < 26 := xj_nle h14
            show RP 19 _ 46 [(0, .ref 0), (1, .int what)] [] _
            refine RP_step (pc1 := 53) (L1 := [(0, .ref 0), (1, .int what)]) (S1 := [.int 20, .int what, .ref 8]) 4 0 (fun n => rfl) ?_
            rcases (show what.toInt = 20 ∨ what.toInt = 21 ∨ what.toInt = 22 ∨ what.toInt = 23 ∨ what.toInt = 24 ∨ what.toInt = 25 by omega) with e9 | e9 | e9 | e9 | e9 | e9
            · obtain rfl : what = 20 := xi_eq e9
              show RP 19 _ 53 [(0, .ref 0), (1, .int 20)] [.int 20, .int 20, .ref 8] _
              refine RP_done 5 (fun n => rfl) ?_
              show RP 89 _ 0 [(0, .ref 0), (1, .int 20)] [] _
              refine RP_done 22 (fun n => rfl) ?_
              exact ⟨rfl, _, rfl⟩
            · obtain rfl : what = 21 := xi_eq e9
              show RP 19 _ 53 [(0, .ref 0), (1, .int 21)] [.int 20, .int 21, .ref 8] _
              refine RP_done 5 (fun n => rfl) ?_
              show RP 89 _ 0 [(0, .ref 0), (1, .int 21)] [] _
              refine RP_done 22 (fun n => rfl) ?_
              exact ⟨rfl, _, rfl⟩
            · obtain rfl : what = 22 := xi_eq e9
              show RP 19 _ 53 [(0, .ref 0), (1, .int 22)] [.int 20, .int 22, .ref 8] _
              refine RP_done 5 (fun n => rfl) ?_
              show RP 89 _ 0 [(0, .ref 0), (1, .int 22)] [] _
              refine RP_done 22 (fun n => rfl) ?_
              exact ⟨rfl, _, rfl⟩
            · obtain rfl : what = 23 := xi_eq e9
              show RP 19 _ 53 [(0, .ref 0), (1, .int 23)] [.int 20, .int 23, .ref 8] _
              refine RP_done 5 (fun n => rfl) ?_
              show RP 89 _ 0 [(0, .ref 0), (1, .int 23)] [] _
              refine RP_done 22 (fun n => rfl) ?_
              exact ⟨rfl, _, rfl⟩
            · obtain rfl : what = 24 := xi_eq e9
              show RP 19 _ 53 [(0, .ref 0), (1, .int 24)] [.int 20, .int 24, .ref 8] _
              refine RP_done 5 (fun n => rfl) ?_
              show RP 89 _ 0 [(0, .ref 0), (1, .int 24)] [] _
              refine RP_done 22 (fun n => rfl) ?_
              exact ⟨rfl, _, rfl⟩
            · obtain rfl : what = 25 := xi_eq e9
              show RP 19 _ 53 [(0, .ref 0), (1, .int 25)] [.int 20, .int 25, .ref 8] _
              refine RP_done 5 (fun n => rfl) ?_
              show RP 89 _ 0 [(0, .ref 0), (1, .int 25)] [] _
              refine RP_done 22 (fun n => rfl) ?_
              exact ⟨rfl, _, rfl⟩
      · have h16 := of_decide_eq_false hh
        have h17 : what.toInt < 16 := xj_nle h16
        show RP 19 _ 21 [(0, .ref 0), (1, .int what)] [] _
        refine RP_step (pc1 := 31) (L1 := [(0, .ref 0), (1, .int what)]) (S1 := [.int 10, .int what, .ref 2]) 5 0 (fun n => rfl) ?_
        rcases (show what.toInt = 10 ∨ what.toInt = 11 ∨ what.toInt = 12 ∨ what.toInt = 13 ∨ what.toInt = 14 ∨ what.toInt = 15 by omega) with e9 | e9 | e9 | e9 | e9 | e9
        · obtain rfl : what = 10 := xi_eq e9
          show RP 19 _ 31 [(0, .ref 0), (1, .int 10)] [.int 10, .int 10, .ref 2] _
          refine RP_done 5 (fun n => rfl) ?_
          show RP 89 _ 0 [(0, .ref 0), (1, .int 10)] [] _
          refine RP_done 17 (fun n => rfl) ?_
          exact ⟨rfl, _, rfl⟩
        · obtain rfl : what = 11 := xi_eq e9
          show RP 19 _ 31 [(0, .ref 0), (1, .int 11)] [.int 10, .int 11, .ref 2] _
          refine RP_done 5 (fun n => rfl) ?_
          show RP 89 _ 0 [(0, .ref 0), (1, .int 11)] [] _
          refine RP_done 17 (fun n => rfl) ?_
          exact ⟨rfl, _, rfl⟩
        · obtain rfl : what = 12 := xi_eq e9
          show RP 19 _ 31 [(0, .ref 0), (1, .int 12)] [.int 10, .int 12, .ref 2] _
          refine RP_done 5 (fun n => rfl) ?_
          show RP 89 _ 0 [(0, .ref 0), (1, .int 12)] [] _
          refine RP_done 17 (fun n => rfl) ?_
          exact ⟨rfl, _, rfl⟩
        · obtain rfl : what = 13 := xi_eq e9
          show RP 19 _ 31 [(0, .ref 0), (1, .int 13)] [.int 10, .int 13, .ref 2] _
          refine RP_done 5 (fun n => rfl) ?_
          show RP 89 _ 0 [(0, .ref 0), (1, .int 13)] [] _
          refine RP_done 17 (fun n => rfl) ?_
          exact ⟨rfl, _, rfl⟩
        · obtain rfl : what = 14 := xi_eq e9
          show RP 19 _ 31 [(0, .ref 0), (1, .int 14)] [.int 10, .int 14, .ref 2] _
          refine RP_done 5 (fun n => rfl) ?_
          show RP 89 _ 0 [(0, .ref 0), (1, .int 14)] [] _
          refine RP_done 17 (fun n => rfl) ?_
          exact ⟨rfl, _, rfl⟩
        · obtain rfl : what = 15 := xi_eq e9
          show RP 19 _ 31 [(0, .ref 0), (1, .int 15)] [.int 10, .int 15, .ref 2] _
          refine RP_done 5 (fun n => rfl) ?_
          show RP 89 _ 0 [(0, .ref 0), (1, .int 15)] [] _
          refine RP_done 17 (fun n => rfl) ?_
          exact ⟨rfl, _, rfl⟩
  · have h18 := of_decide_eq_false hh
    replace h18 := Decidable.of_not_not h18
    clear hh
    subst h18
    show RP 19 _ 4 [(0, .ref 0), (1, .int 0)] [] _
    refine RP_done 5 (fun n => rfl) ?_
    show RP 89 _ 0 [(0, .ref 0), (1, .int 0)] [] _
    refine RP_done 7 (fun n => rfl) ?_
    exact ⟨rfl, _, rfl⟩
end
