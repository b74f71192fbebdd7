section
/-! p27: the claim is false as printed (its room): made by wip/refute/port.py out of whole's rows -/
-- ===== PART A: goes FIRST, ahead of the names: the tables' words, and 'selects' of the private methods out of them =====
/-- a private method of a class that the tables say can be made, by its rows of tables_1 -/
def lw_okq (q : MethodName × Nat) : Prop := (q.1.cls ≠ "java/lang/invoke/MethodHandle" ∧ q.1.cls ≠ "java/lang/invoke/VarHandle") ∧ Cond.instantiable q.1.cls q.2 ∈ tables_1 ∧ Cond.privateMethod q.1 ∈ tables_1 ∧ Cond.instanceMethod q.1 ∈ tables_1
theorem lw_p0 : lw_okq (⟨"ArrowDiagrams", "graphChanged", "()V"⟩, 8) := ⟨⟨by decide +kernel, by decide +kernel⟩, List.mem_of_getElem? (i := 22) (by decide +kernel), List.mem_of_getElem? (i := 269) (by decide +kernel), List.mem_of_getElem? (i := 270) (by decide +kernel)⟩
theorem lw_p1 : lw_okq (⟨"ArrowDiagrams$Paths", "enter", "(IIII)V"⟩, 7) := ⟨⟨by decide +kernel, by decide +kernel⟩, List.mem_of_getElem? (i := 103) (by decide +kernel), List.mem_of_getElem? (i := 281) (by decide +kernel), List.mem_of_getElem? (i := 282) (by decide +kernel)⟩
theorem lw_p2 : lw_okq (⟨"ArrowDiagrams$Paths", "enterLonger", "(III)V"⟩, 7) := ⟨⟨by decide +kernel, by decide +kernel⟩, List.mem_of_getElem? (i := 103) (by decide +kernel), List.mem_of_getElem? (i := 313) (by decide +kernel), List.mem_of_getElem? (i := 314) (by decide +kernel)⟩
theorem lw_p3 : lw_okq (⟨"ArrowDiagrams", "cellsChanged", "()V"⟩, 8) := ⟨⟨by decide +kernel, by decide +kernel⟩, List.mem_of_getElem? (i := 22) (by decide +kernel), List.mem_of_getElem? (i := 322) (by decide +kernel), List.mem_of_getElem? (i := 323) (by decide +kernel)⟩
theorem lw_p4 : lw_okq (⟨"ArrowDiagrams$Reader", "accepts", "(I)Z"⟩, 6) := ⟨⟨by decide +kernel, by decide +kernel⟩, List.mem_of_getElem? (i := 231) (by decide +kernel), List.mem_of_getElem? (i := 406) (by decide +kernel), List.mem_of_getElem? (i := 407) (by decide +kernel)⟩
theorem lw_p5 : lw_okq (⟨"ArrowDiagrams$Reader", "beginsArrow", "(I)Z"⟩, 6) := ⟨⟨by decide +kernel, by decide +kernel⟩, List.mem_of_getElem? (i := 231) (by decide +kernel), List.mem_of_getElem? (i := 410) (by decide +kernel), List.mem_of_getElem? (i := 411) (by decide +kernel)⟩
theorem lw_p6 : lw_okq (⟨"ArrowDiagrams$Reader", "beginsCell", "(I)Z"⟩, 6) := ⟨⟨by decide +kernel, by decide +kernel⟩, List.mem_of_getElem? (i := 231) (by decide +kernel), List.mem_of_getElem? (i := 416) (by decide +kernel), List.mem_of_getElem? (i := 417) (by decide +kernel)⟩
theorem lw_p7 : lw_okq (⟨"ArrowDiagrams$Reader", "goesOn", "(III)Z"⟩, 6) := ⟨⟨by decide +kernel, by decide +kernel⟩, List.mem_of_getElem? (i := 231) (by decide +kernel), List.mem_of_getElem? (i := 430) (by decide +kernel), List.mem_of_getElem? (i := 431) (by decide +kernel)⟩
theorem lw_p8 : lw_okq (⟨"ArrowDiagrams$Reader", "endsArrow", "(I)Z"⟩, 6) := ⟨⟨by decide +kernel, by decide +kernel⟩, List.mem_of_getElem? (i := 231) (by decide +kernel), List.mem_of_getElem? (i := 440) (by decide +kernel), List.mem_of_getElem? (i := 441) (by decide +kernel)⟩
theorem lw_p9 : lw_okq (⟨"ArrowDiagrams$Reader", "endsItem", "(I)Z"⟩, 6) := ⟨⟨by decide +kernel, by decide +kernel⟩, List.mem_of_getElem? (i := 231) (by decide +kernel), List.mem_of_getElem? (i := 453) (by decide +kernel), List.mem_of_getElem? (i := 454) (by decide +kernel)⟩
theorem lw_p10 : lw_okq (⟨"ArrowDiagrams$Reader", "endsFirst", "(I)Z"⟩, 6) := ⟨⟨by decide +kernel, by decide +kernel⟩, List.mem_of_getElem? (i := 231) (by decide +kernel), List.mem_of_getElem? (i := 461) (by decide +kernel), List.mem_of_getElem? (i := 462) (by decide +kernel)⟩
theorem lw_p11 : lw_okq (⟨"ArrowDiagrams$Reader", "beginsSecond", "(I)Z"⟩, 6) := ⟨⟨by decide +kernel, by decide +kernel⟩, List.mem_of_getElem? (i := 231) (by decide +kernel), List.mem_of_getElem? (i := 465) (by decide +kernel), List.mem_of_getElem? (i := 466) (by decide +kernel)⟩
theorem lw_p12 : lw_okq (⟨"ArrowDiagrams$Pasting", "stepFrom", "(LArrowDiagrams$Paths;IIII)I"⟩, 12) := ⟨⟨by decide +kernel, by decide +kernel⟩, List.mem_of_getElem? (i := 150) (by decide +kernel), List.mem_of_getElem? (i := 497) (by decide +kernel), List.mem_of_getElem? (i := 498) (by decide +kernel)⟩
theorem lw_p13 : lw_okq (⟨"ArrowDiagrams$Pasting", "findClasses", "(LArrowDiagrams$Paths;)V"⟩, 12) := ⟨⟨by decide +kernel, by decide +kernel⟩, List.mem_of_getElem? (i := 150) (by decide +kernel), List.mem_of_getElem? (i := 508) (by decide +kernel), List.mem_of_getElem? (i := 509) (by decide +kernel)⟩
theorem lw_p14 : lw_okq (⟨"ArrowDiagrams$Pasting", "reach", "(II)V"⟩, 12) := ⟨⟨by decide +kernel, by decide +kernel⟩, List.mem_of_getElem? (i := 150) (by decide +kernel), List.mem_of_getElem? (i := 521) (by decide +kernel), List.mem_of_getElem? (i := 522) (by decide +kernel)⟩
theorem lw_p15 : lw_okq (⟨"ArrowDiagrams$Pasting", "nameReached", "(I)V"⟩, 12) := ⟨⟨by decide +kernel, by decide +kernel⟩, List.mem_of_getElem? (i := 150) (by decide +kernel), List.mem_of_getElem? (i := 525) (by decide +kernel), List.mem_of_getElem? (i := 526) (by decide +kernel)⟩
def lw_privs_1 : List (MethodName × Nat) := [(⟨"ArrowDiagrams", "graphChanged", "()V"⟩, 8), (⟨"ArrowDiagrams$Paths", "enter", "(IIII)V"⟩, 7), (⟨"ArrowDiagrams$Paths", "enterLonger", "(III)V"⟩, 7), (⟨"ArrowDiagrams", "cellsChanged", "()V"⟩, 8), (⟨"ArrowDiagrams$Reader", "accepts", "(I)Z"⟩, 6), (⟨"ArrowDiagrams$Reader", "beginsArrow", "(I)Z"⟩, 6), (⟨"ArrowDiagrams$Reader", "beginsCell", "(I)Z"⟩, 6), (⟨"ArrowDiagrams$Reader", "goesOn", "(III)Z"⟩, 6), (⟨"ArrowDiagrams$Reader", "endsArrow", "(I)Z"⟩, 6), (⟨"ArrowDiagrams$Reader", "endsItem", "(I)Z"⟩, 6), (⟨"ArrowDiagrams$Reader", "endsFirst", "(I)Z"⟩, 6), (⟨"ArrowDiagrams$Reader", "beginsSecond", "(I)Z"⟩, 6), (⟨"ArrowDiagrams$Pasting", "stepFrom", "(LArrowDiagrams$Paths;IIII)I"⟩, 12), (⟨"ArrowDiagrams$Pasting", "findClasses", "(LArrowDiagrams$Paths;)V"⟩, 12), (⟨"ArrowDiagrams$Pasting", "reach", "(II)V"⟩, 12), (⟨"ArrowDiagrams$Pasting", "nameReached", "(I)V"⟩, 12)]
theorem lw_r1 : ∀ q ∈ lw_privs_1, lw_okq q := List.forall_mem_cons.mpr ⟨lw_p0, List.forall_mem_cons.mpr ⟨lw_p1, List.forall_mem_cons.mpr ⟨lw_p2, List.forall_mem_cons.mpr ⟨lw_p3, List.forall_mem_cons.mpr ⟨lw_p4, List.forall_mem_cons.mpr ⟨lw_p5, List.forall_mem_cons.mpr ⟨lw_p6, List.forall_mem_cons.mpr ⟨lw_p7, List.forall_mem_cons.mpr ⟨lw_p8, List.forall_mem_cons.mpr ⟨lw_p9, List.forall_mem_cons.mpr ⟨lw_p10, List.forall_mem_cons.mpr ⟨lw_p11, List.forall_mem_cons.mpr ⟨lw_p12, List.forall_mem_cons.mpr ⟨lw_p13, List.forall_mem_cons.mpr ⟨lw_p14, List.forall_mem_cons.mpr ⟨lw_p15, fun _ h => absurd h List.not_mem_nil⟩⟩⟩⟩⟩⟩⟩⟩⟩⟩⟩⟩⟩⟩⟩⟩
theorem lw_p16 : lw_okq (⟨"ArrowDiagrams$Pasting", "countClass", "(II)V"⟩, 12) := ⟨⟨by decide +kernel, by decide +kernel⟩, List.mem_of_getElem? (i := 150) (by decide +kernel), List.mem_of_getElem? (i := 529) (by decide +kernel), List.mem_of_getElem? (i := 530) (by decide +kernel)⟩
theorem lw_p17 : lw_okq (⟨"ArrowDiagrams", "pairsWithAtMost", "(I)I"⟩, 8) := ⟨⟨by decide +kernel, by decide +kernel⟩, List.mem_of_getElem? (i := 22) (by decide +kernel), List.mem_of_getElem? (i := 533) (by decide +kernel), List.mem_of_getElem? (i := 534) (by decide +kernel)⟩
theorem lw_p18 : lw_okq (⟨"ArrowDiagrams", "holdingCells", "()I"⟩, 8) := ⟨⟨by decide +kernel, by decide +kernel⟩, List.mem_of_getElem? (i := 22) (by decide +kernel), List.mem_of_getElem? (i := 559) (by decide +kernel), List.mem_of_getElem? (i := 560) (by decide +kernel)⟩
theorem lw_p19 : lw_okq (⟨"ArrowDiagrams", "holds", "(LArrowDiagrams$Functions;I)Z"⟩, 8) := ⟨⟨by decide +kernel, by decide +kernel⟩, List.mem_of_getElem? (i := 22) (by decide +kernel), List.mem_of_getElem? (i := 563) (by decide +kernel), List.mem_of_getElem? (i := 564) (by decide +kernel)⟩
theorem lw_p20 : lw_okq (⟨"ArrowDiagrams$Pasting", "isEqualBy", "(LArrowDiagrams$Cells;II)Z"⟩, 12) := ⟨⟨by decide +kernel, by decide +kernel⟩, List.mem_of_getElem? (i := 150) (by decide +kernel), List.mem_of_getElem? (i := 585) (by decide +kernel), List.mem_of_getElem? (i := 586) (by decide +kernel)⟩
theorem lw_p21 : lw_okq (⟨"java/lang/Throwable", "fillInStackTrace", "(I)Ljava/lang/Throwable;"⟩, 6) := ⟨⟨by decide +kernel, by decide +kernel⟩, List.mem_of_getElem? (i := 637) (by decide +kernel), List.mem_of_getElem? (i := 635) (by decide +kernel), List.mem_of_getElem? (i := 636) (by decide +kernel)⟩
theorem lw_p22 : lw_okq (⟨"ArrowDiagrams", "requireCell", "(I)V"⟩, 8) := ⟨⟨by decide +kernel, by decide +kernel⟩, List.mem_of_getElem? (i := 22) (by decide +kernel), List.mem_of_getElem? (i := 680) (by decide +kernel), List.mem_of_getElem? (i := 681) (by decide +kernel)⟩
theorem lw_p23 : lw_okq (⟨"ArrowDiagrams", "requirePath", "(I)V"⟩, 8) := ⟨⟨by decide +kernel, by decide +kernel⟩, List.mem_of_getElem? (i := 22) (by decide +kernel), List.mem_of_getElem? (i := 713) (by decide +kernel), List.mem_of_getElem? (i := 714) (by decide +kernel)⟩
theorem lw_p24 : lw_okq (⟨"ArrowDiagrams", "requireObject", "(I)V"⟩, 8) := ⟨⟨by decide +kernel, by decide +kernel⟩, List.mem_of_getElem? (i := 22) (by decide +kernel), List.mem_of_getElem? (i := 763) (by decide +kernel), List.mem_of_getElem? (i := 764) (by decide +kernel)⟩
theorem lw_p25 : lw_okq (⟨"ArrowDiagrams$Graph", "countFrom", "(I)V"⟩, 5) := ⟨⟨by decide +kernel, by decide +kernel⟩, List.mem_of_getElem? (i := 30) (by decide +kernel), List.mem_of_getElem? (i := 790) (by decide +kernel), List.mem_of_getElem? (i := 791) (by decide +kernel)⟩
theorem lw_p26 : lw_okq (⟨"ArrowDiagrams$Cells", "occurs", "(III)Z"⟩, 5) := ⟨⟨by decide +kernel, by decide +kernel⟩, List.mem_of_getElem? (i := 63) (by decide +kernel), List.mem_of_getElem? (i := 817) (by decide +kernel), List.mem_of_getElem? (i := 818) (by decide +kernel)⟩
theorem lw_p27 : lw_okq (⟨"ArrowDiagrams$Cells", "move", "(II)V"⟩, 5) := ⟨⟨by decide +kernel, by decide +kernel⟩, List.mem_of_getElem? (i := 63) (by decide +kernel), List.mem_of_getElem? (i := 821) (by decide +kernel), List.mem_of_getElem? (i := 822) (by decide +kernel)⟩
theorem lw_p28 : lw_okq (⟨"ArrowDiagrams", "requireParallel", "(II)V"⟩, 8) := ⟨⟨by decide +kernel, by decide +kernel⟩, List.mem_of_getElem? (i := 22) (by decide +kernel), List.mem_of_getElem? (i := 836) (by decide +kernel), List.mem_of_getElem? (i := 837) (by decide +kernel)⟩
theorem lw_p29 : lw_okq (⟨"ArrowDiagrams", "lengthenBy", "(II)V"⟩, 8) := ⟨⟨by decide +kernel, by decide +kernel⟩, List.mem_of_getElem? (i := 22) (by decide +kernel), List.mem_of_getElem? (i := 843) (by decide +kernel), List.mem_of_getElem? (i := 844) (by decide +kernel)⟩
theorem lw_p30 : lw_okq (⟨"ArrowDiagrams", "pathsFromTo", "(II)I"⟩, 8) := ⟨⟨by decide +kernel, by decide +kernel⟩, List.mem_of_getElem? (i := 22) (by decide +kernel), List.mem_of_getElem? (i := 911) (by decide +kernel), List.mem_of_getElem? (i := 912) (by decide +kernel)⟩
theorem lw_p31 : lw_okq (⟨"ArrowDiagrams", "stepsTo", "(II)I"⟩, 8) := ⟨⟨by decide +kernel, by decide +kernel⟩, List.mem_of_getElem? (i := 22) (by decide +kernel), List.mem_of_getElem? (i := 926) (by decide +kernel), List.mem_of_getElem? (i := 927) (by decide +kernel)⟩
def lw_privs_2 : List (MethodName × Nat) := [(⟨"ArrowDiagrams$Pasting", "countClass", "(II)V"⟩, 12), (⟨"ArrowDiagrams", "pairsWithAtMost", "(I)I"⟩, 8), (⟨"ArrowDiagrams", "holdingCells", "()I"⟩, 8), (⟨"ArrowDiagrams", "holds", "(LArrowDiagrams$Functions;I)Z"⟩, 8), (⟨"ArrowDiagrams$Pasting", "isEqualBy", "(LArrowDiagrams$Cells;II)Z"⟩, 12), (⟨"java/lang/Throwable", "fillInStackTrace", "(I)Ljava/lang/Throwable;"⟩, 6), (⟨"ArrowDiagrams", "requireCell", "(I)V"⟩, 8), (⟨"ArrowDiagrams", "requirePath", "(I)V"⟩, 8), (⟨"ArrowDiagrams", "requireObject", "(I)V"⟩, 8), (⟨"ArrowDiagrams$Graph", "countFrom", "(I)V"⟩, 5), (⟨"ArrowDiagrams$Cells", "occurs", "(III)Z"⟩, 5), (⟨"ArrowDiagrams$Cells", "move", "(II)V"⟩, 5), (⟨"ArrowDiagrams", "requireParallel", "(II)V"⟩, 8), (⟨"ArrowDiagrams", "lengthenBy", "(II)V"⟩, 8), (⟨"ArrowDiagrams", "pathsFromTo", "(II)I"⟩, 8), (⟨"ArrowDiagrams", "stepsTo", "(II)I"⟩, 8)]
theorem lw_r2 : ∀ q ∈ lw_privs_2, lw_okq q := List.forall_mem_cons.mpr ⟨lw_p16, List.forall_mem_cons.mpr ⟨lw_p17, List.forall_mem_cons.mpr ⟨lw_p18, List.forall_mem_cons.mpr ⟨lw_p19, List.forall_mem_cons.mpr ⟨lw_p20, List.forall_mem_cons.mpr ⟨lw_p21, List.forall_mem_cons.mpr ⟨lw_p22, List.forall_mem_cons.mpr ⟨lw_p23, List.forall_mem_cons.mpr ⟨lw_p24, List.forall_mem_cons.mpr ⟨lw_p25, List.forall_mem_cons.mpr ⟨lw_p26, List.forall_mem_cons.mpr ⟨lw_p27, List.forall_mem_cons.mpr ⟨lw_p28, List.forall_mem_cons.mpr ⟨lw_p29, List.forall_mem_cons.mpr ⟨lw_p30, List.forall_mem_cons.mpr ⟨lw_p31, fun _ h => absurd h List.not_mem_nil⟩⟩⟩⟩⟩⟩⟩⟩⟩⟩⟩⟩⟩⟩⟩⟩
theorem lw_p32 : lw_okq (⟨"ArrowDiagrams", "requireArrow", "(I)V"⟩, 8) := ⟨⟨by decide +kernel, by decide +kernel⟩, List.mem_of_getElem? (i := 22) (by decide +kernel), List.mem_of_getElem? (i := 979) (by decide +kernel), List.mem_of_getElem? (i := 980) (by decide +kernel)⟩
theorem lw_p33 : lw_okq (⟨"ArrowDiagrams", "allHold", "(LArrowDiagrams$Functions;)Z"⟩, 8) := ⟨⟨by decide +kernel, by decide +kernel⟩, List.mem_of_getElem? (i := 22) (by decide +kernel), List.mem_of_getElem? (i := 1021) (by decide +kernel), List.mem_of_getElem? (i := 1022) (by decide +kernel)⟩
theorem lw_p34 : lw_okq (⟨"ArrowDiagrams", "sizeAtEnd", "(I)I"⟩, 8) := ⟨⟨by decide +kernel, by decide +kernel⟩, List.mem_of_getElem? (i := 22) (by decide +kernel), List.mem_of_getElem? (i := 1038) (by decide +kernel), List.mem_of_getElem? (i := 1039) (by decide +kernel)⟩
theorem lw_p35 : lw_okq (⟨"ArrowDiagrams", "sources", "(IIII)I"⟩, 8) := ⟨⟨by decide +kernel, by decide +kernel⟩, List.mem_of_getElem? (i := 22) (by decide +kernel), List.mem_of_getElem? (i := 1042) (by decide +kernel), List.mem_of_getElem? (i := 1043) (by decide +kernel)⟩
theorem lw_p36 : lw_okq (⟨"ArrowDiagrams", "sizeAtStart", "(I)I"⟩, 8) := ⟨⟨by decide +kernel, by decide +kernel⟩, List.mem_of_getElem? (i := 22) (by decide +kernel), List.mem_of_getElem? (i := 1046) (by decide +kernel), List.mem_of_getElem? (i := 1047) (by decide +kernel)⟩
theorem lw_p37 : lw_okq (⟨"ArrowDiagrams", "isSquare", "(IIII)Z"⟩, 8) := ⟨⟨by decide +kernel, by decide +kernel⟩, List.mem_of_getElem? (i := 22) (by decide +kernel), List.mem_of_getElem? (i := 1061) (by decide +kernel), List.mem_of_getElem? (i := 1062) (by decide +kernel)⟩
theorem lw_p38 : lw_okq (⟨"ArrowDiagrams", "sameBehind", "(IIII)Z"⟩, 8) := ⟨⟨by decide +kernel, by decide +kernel⟩, List.mem_of_getElem? (i := 22) (by decide +kernel), List.mem_of_getElem? (i := 1066) (by decide +kernel), List.mem_of_getElem? (i := 1067) (by decide +kernel)⟩
theorem lw_p39 : lw_okq (⟨"ArrowDiagramsModel", "fresh", "(I)V"⟩, 32) := ⟨⟨by decide +kernel, by decide +kernel⟩, List.mem_of_getElem? (i := 1078) (by decide +kernel), List.mem_of_getElem? (i := 1084) (by decide +kernel), List.mem_of_getElem? (i := 1085) (by decide +kernel)⟩
theorem lw_p40 : lw_okq (⟨"ArrowDiagramsModel", "layPaths", "()Z"⟩, 32) := ⟨⟨by decide +kernel, by decide +kernel⟩, List.mem_of_getElem? (i := 1078) (by decide +kernel), List.mem_of_getElem? (i := 1088) (by decide +kernel), List.mem_of_getElem? (i := 1089) (by decide +kernel)⟩
theorem lw_p41 : lw_okq (⟨"ArrowDiagramsModel", "putPath", "(III)V"⟩, 32) := ⟨⟨by decide +kernel, by decide +kernel⟩, List.mem_of_getElem? (i := 1078) (by decide +kernel), List.mem_of_getElem? (i := 1092) (by decide +kernel), List.mem_of_getElem? (i := 1093) (by decide +kernel)⟩
theorem lw_p42 : lw_okq (⟨"ArrowDiagramsModel", "goOn", "(II)V"⟩, 32) := ⟨⟨by decide +kernel, by decide +kernel⟩, List.mem_of_getElem? (i := 1078) (by decide +kernel), List.mem_of_getElem? (i := 1096) (by decide +kernel), List.mem_of_getElem? (i := 1097) (by decide +kernel)⟩
theorem lw_p43 : lw_okq (⟨"ArrowDiagramsModel", "isObject", "(I)Z"⟩, 32) := ⟨⟨by decide +kernel, by decide +kernel⟩, List.mem_of_getElem? (i := 1078) (by decide +kernel), List.mem_of_getElem? (i := 1212) (by decide +kernel), List.mem_of_getElem? (i := 1213) (by decide +kernel)⟩
theorem lw_p44 : lw_okq (⟨"ArrowDiagramsModel", "putArrow", "(II)V"⟩, 32) := ⟨⟨by decide +kernel, by decide +kernel⟩, List.mem_of_getElem? (i := 1078) (by decide +kernel), List.mem_of_getElem? (i := 1216) (by decide +kernel), List.mem_of_getElem? (i := 1217) (by decide +kernel)⟩
theorem lw_p45 : lw_okq (⟨"ArrowDiagramsModel", "hasLetter", "(II)Z"⟩, 32) := ⟨⟨by decide +kernel, by decide +kernel⟩, List.mem_of_getElem? (i := 1078) (by decide +kernel), List.mem_of_getElem? (i := 1224) (by decide +kernel), List.mem_of_getElem? (i := 1225) (by decide +kernel)⟩
theorem lw_p46 : lw_okq (⟨"ArrowDiagramsModel", "removeCell", "(I)V"⟩, 32) := ⟨⟨by decide +kernel, by decide +kernel⟩, List.mem_of_getElem? (i := 1078) (by decide +kernel), List.mem_of_getElem? (i := 1228) (by decide +kernel), List.mem_of_getElem? (i := 1229) (by decide +kernel)⟩
theorem lw_p47 : lw_okq (⟨"ArrowDiagramsModel", "isPath", "(I)Z"⟩, 32) := ⟨⟨by decide +kernel, by decide +kernel⟩, List.mem_of_getElem? (i := 1078) (by decide +kernel), List.mem_of_getElem? (i := 1236) (by decide +kernel), List.mem_of_getElem? (i := 1237) (by decide +kernel)⟩
def lw_privs_3 : List (MethodName × Nat) := [(⟨"ArrowDiagrams", "requireArrow", "(I)V"⟩, 8), (⟨"ArrowDiagrams", "allHold", "(LArrowDiagrams$Functions;)Z"⟩, 8), (⟨"ArrowDiagrams", "sizeAtEnd", "(I)I"⟩, 8), (⟨"ArrowDiagrams", "sources", "(IIII)I"⟩, 8), (⟨"ArrowDiagrams", "sizeAtStart", "(I)I"⟩, 8), (⟨"ArrowDiagrams", "isSquare", "(IIII)Z"⟩, 8), (⟨"ArrowDiagrams", "sameBehind", "(IIII)Z"⟩, 8), (⟨"ArrowDiagramsModel", "fresh", "(I)V"⟩, 32), (⟨"ArrowDiagramsModel", "layPaths", "()Z"⟩, 32), (⟨"ArrowDiagramsModel", "putPath", "(III)V"⟩, 32), (⟨"ArrowDiagramsModel", "goOn", "(II)V"⟩, 32), (⟨"ArrowDiagramsModel", "isObject", "(I)Z"⟩, 32), (⟨"ArrowDiagramsModel", "putArrow", "(II)V"⟩, 32), (⟨"ArrowDiagramsModel", "hasLetter", "(II)Z"⟩, 32), (⟨"ArrowDiagramsModel", "removeCell", "(I)V"⟩, 32), (⟨"ArrowDiagramsModel", "isPath", "(I)Z"⟩, 32)]
theorem lw_r3 : ∀ q ∈ lw_privs_3, lw_okq q := List.forall_mem_cons.mpr ⟨lw_p32, List.forall_mem_cons.mpr ⟨lw_p33, List.forall_mem_cons.mpr ⟨lw_p34, List.forall_mem_cons.mpr ⟨lw_p35, List.forall_mem_cons.mpr ⟨lw_p36, List.forall_mem_cons.mpr ⟨lw_p37, List.forall_mem_cons.mpr ⟨lw_p38, List.forall_mem_cons.mpr ⟨lw_p39, List.forall_mem_cons.mpr ⟨lw_p40, List.forall_mem_cons.mpr ⟨lw_p41, List.forall_mem_cons.mpr ⟨lw_p42, List.forall_mem_cons.mpr ⟨lw_p43, List.forall_mem_cons.mpr ⟨lw_p44, List.forall_mem_cons.mpr ⟨lw_p45, List.forall_mem_cons.mpr ⟨lw_p46, List.forall_mem_cons.mpr ⟨lw_p47, fun _ h => absurd h List.not_mem_nil⟩⟩⟩⟩⟩⟩⟩⟩⟩⟩⟩⟩⟩⟩⟩⟩
theorem lw_p48 : lw_okq (⟨"ArrowDiagramsModel", "areParallel", "(II)Z"⟩, 32) := ⟨⟨by decide +kernel, by decide +kernel⟩, List.mem_of_getElem? (i := 1078) (by decide +kernel), List.mem_of_getElem? (i := 1240) (by decide +kernel), List.mem_of_getElem? (i := 1241) (by decide +kernel)⟩
theorem lw_p49 : lw_okq (⟨"ArrowDiagramsModel", "putSide", "(II)V"⟩, 32) := ⟨⟨by decide +kernel, by decide +kernel⟩, List.mem_of_getElem? (i := 1078) (by decide +kernel), List.mem_of_getElem? (i := 1244) (by decide +kernel), List.mem_of_getElem? (i := 1245) (by decide +kernel)⟩
theorem lw_p50 : lw_okq (⟨"ArrowDiagramsModel", "isCell", "(I)Z"⟩, 32) := ⟨⟨by decide +kernel, by decide +kernel⟩, List.mem_of_getElem? (i := 1078) (by decide +kernel), List.mem_of_getElem? (i := 1252) (by decide +kernel), List.mem_of_getElem? (i := 1253) (by decide +kernel)⟩
theorem lw_p51 : lw_okq (⟨"ArrowDiagramsModel", "rightLength", "()I"⟩, 32) := ⟨⟨by decide +kernel, by decide +kernel⟩, List.mem_of_getElem? (i := 1078) (by decide +kernel), List.mem_of_getElem? (i := 1268) (by decide +kernel), List.mem_of_getElem? (i := 1269) (by decide +kernel)⟩
theorem lw_p52 : lw_okq (⟨"ArrowDiagramsModel", "takes", "(I)Z"⟩, 32) := ⟨⟨by decide +kernel, by decide +kernel⟩, List.mem_of_getElem? (i := 1078) (by decide +kernel), List.mem_of_getElem? (i := 1272) (by decide +kernel), List.mem_of_getElem? (i := 1273) (by decide +kernel)⟩
theorem lw_p53 : lw_okq (⟨"ArrowDiagramsModel", "mayEnd", "()Z"⟩, 32) := ⟨⟨by decide +kernel, by decide +kernel⟩, List.mem_of_getElem? (i := 1078) (by decide +kernel), List.mem_of_getElem? (i := 1276) (by decide +kernel), List.mem_of_getElem? (i := 1277) (by decide +kernel)⟩
theorem lw_p54 : lw_okq (⟨"ArrowDiagramsModel", "endItem", "()V"⟩, 32) := ⟨⟨by decide +kernel, by decide +kernel⟩, List.mem_of_getElem? (i := 1078) (by decide +kernel), List.mem_of_getElem? (i := 1280) (by decide +kernel), List.mem_of_getElem? (i := 1281) (by decide +kernel)⟩
theorem lw_p55 : lw_okq (⟨"ArrowDiagramsModel", "takesDigit", "(I)Z"⟩, 32) := ⟨⟨by decide +kernel, by decide +kernel⟩, List.mem_of_getElem? (i := 1078) (by decide +kernel), List.mem_of_getElem? (i := 1284) (by decide +kernel), List.mem_of_getElem? (i := 1285) (by decide +kernel)⟩
theorem lw_p56 : lw_okq (⟨"ArrowDiagramsModel", "takesLetter", "(I)Z"⟩, 32) := ⟨⟨by decide +kernel, by decide +kernel⟩, List.mem_of_getElem? (i := 1078) (by decide +kernel), List.mem_of_getElem? (i := 1288) (by decide +kernel), List.mem_of_getElem? (i := 1289) (by decide +kernel)⟩
theorem lw_p57 : lw_okq (⟨"ArrowDiagramsModel", "putLetter", "(II)V"⟩, 32) := ⟨⟨by decide +kernel, by decide +kernel⟩, List.mem_of_getElem? (i := 1078) (by decide +kernel), List.mem_of_getElem? (i := 1292) (by decide +kernel), List.mem_of_getElem? (i := 1293) (by decide +kernel)⟩
theorem lw_p58 : lw_okq (⟨"ArrowDiagramsModel", "isArrow", "(I)Z"⟩, 32) := ⟨⟨by decide +kernel, by decide +kernel⟩, List.mem_of_getElem? (i := 1078) (by decide +kernel), List.mem_of_getElem? (i := 1304) (by decide +kernel), List.mem_of_getElem? (i := 1305) (by decide +kernel)⟩
theorem lw_p59 : lw_okq (⟨"ArrowDiagramsModel", "distanceOf", "(II)I"⟩, 32) := ⟨⟨by decide +kernel, by decide +kernel⟩, List.mem_of_getElem? (i := 1078) (by decide +kernel), List.mem_of_getElem? (i := 1312) (by decide +kernel), List.mem_of_getElem? (i := 1313) (by decide +kernel)⟩
theorem lw_p60 : lw_okq (⟨"ArrowDiagramsModel", "clearFar", "()V"⟩, 32) := ⟨⟨by decide +kernel, by decide +kernel⟩, List.mem_of_getElem? (i := 1078) (by decide +kernel), List.mem_of_getElem? (i := 1316) (by decide +kernel), List.mem_of_getElem? (i := 1317) (by decide +kernel)⟩
theorem lw_p61 : lw_okq (⟨"ArrowDiagramsModel", "allCells", "()I"⟩, 32) := ⟨⟨by decide +kernel, by decide +kernel⟩, List.mem_of_getElem? (i := 1078) (by decide +kernel), List.mem_of_getElem? (i := 1320) (by decide +kernel), List.mem_of_getElem? (i := 1321) (by decide +kernel)⟩
theorem lw_p62 : lw_okq (⟨"ArrowDiagramsModel", "spread", "(II)I"⟩, 32) := ⟨⟨by decide +kernel, by decide +kernel⟩, List.mem_of_getElem? (i := 1078) (by decide +kernel), List.mem_of_getElem? (i := 1324) (by decide +kernel), List.mem_of_getElem? (i := 1325) (by decide +kernel)⟩
theorem lw_p63 : lw_okq (⟨"ArrowDiagramsModel", "stepped", "(III)I"⟩, 32) := ⟨⟨by decide +kernel, by decide +kernel⟩, List.mem_of_getElem? (i := 1078) (by decide +kernel), List.mem_of_getElem? (i := 1328) (by decide +kernel), List.mem_of_getElem? (i := 1329) (by decide +kernel)⟩
def lw_privs_4 : List (MethodName × Nat) := [(⟨"ArrowDiagramsModel", "areParallel", "(II)Z"⟩, 32), (⟨"ArrowDiagramsModel", "putSide", "(II)V"⟩, 32), (⟨"ArrowDiagramsModel", "isCell", "(I)Z"⟩, 32), (⟨"ArrowDiagramsModel", "rightLength", "()I"⟩, 32), (⟨"ArrowDiagramsModel", "takes", "(I)Z"⟩, 32), (⟨"ArrowDiagramsModel", "mayEnd", "()Z"⟩, 32), (⟨"ArrowDiagramsModel", "endItem", "()V"⟩, 32), (⟨"ArrowDiagramsModel", "takesDigit", "(I)Z"⟩, 32), (⟨"ArrowDiagramsModel", "takesLetter", "(I)Z"⟩, 32), (⟨"ArrowDiagramsModel", "putLetter", "(II)V"⟩, 32), (⟨"ArrowDiagramsModel", "isArrow", "(I)Z"⟩, 32), (⟨"ArrowDiagramsModel", "distanceOf", "(II)I"⟩, 32), (⟨"ArrowDiagramsModel", "clearFar", "()V"⟩, 32), (⟨"ArrowDiagramsModel", "allCells", "()I"⟩, 32), (⟨"ArrowDiagramsModel", "spread", "(II)I"⟩, 32), (⟨"ArrowDiagramsModel", "stepped", "(III)I"⟩, 32)]
theorem lw_r4 : ∀ q ∈ lw_privs_4, lw_okq q := List.forall_mem_cons.mpr ⟨lw_p48, List.forall_mem_cons.mpr ⟨lw_p49, List.forall_mem_cons.mpr ⟨lw_p50, List.forall_mem_cons.mpr ⟨lw_p51, List.forall_mem_cons.mpr ⟨lw_p52, List.forall_mem_cons.mpr ⟨lw_p53, List.forall_mem_cons.mpr ⟨lw_p54, List.forall_mem_cons.mpr ⟨lw_p55, List.forall_mem_cons.mpr ⟨lw_p56, List.forall_mem_cons.mpr ⟨lw_p57, List.forall_mem_cons.mpr ⟨lw_p58, List.forall_mem_cons.mpr ⟨lw_p59, List.forall_mem_cons.mpr ⟨lw_p60, List.forall_mem_cons.mpr ⟨lw_p61, List.forall_mem_cons.mpr ⟨lw_p62, List.forall_mem_cons.mpr ⟨lw_p63, fun _ h => absurd h List.not_mem_nil⟩⟩⟩⟩⟩⟩⟩⟩⟩⟩⟩⟩⟩⟩⟩⟩
theorem lw_p64 : lw_okq (⟨"ArrowDiagramsModel", "stands", "(III)Z"⟩, 32) := ⟨⟨by decide +kernel, by decide +kernel⟩, List.mem_of_getElem? (i := 1078) (by decide +kernel), List.mem_of_getElem? (i := 1332) (by decide +kernel), List.mem_of_getElem? (i := 1333) (by decide +kernel)⟩
theorem lw_p65 : lw_okq (⟨"ArrowDiagramsModel", "nearer", "(I)I"⟩, 32) := ⟨⟨by decide +kernel, by decide +kernel⟩, List.mem_of_getElem? (i := 1078) (by decide +kernel), List.mem_of_getElem? (i := 1340) (by decide +kernel), List.mem_of_getElem? (i := 1341) (by decide +kernel)⟩
theorem lw_p66 : lw_okq (⟨"ArrowDiagramsModel", "layNames", "(I)I"⟩, 32) := ⟨⟨by decide +kernel, by decide +kernel⟩, List.mem_of_getElem? (i := 1078) (by decide +kernel), List.mem_of_getElem? (i := 1348) (by decide +kernel), List.mem_of_getElem? (i := 1349) (by decide +kernel)⟩
theorem lw_p67 : lw_okq (⟨"ArrowDiagramsModel", "pathNow", "(II)I"⟩, 32) := ⟨⟨by decide +kernel, by decide +kernel⟩, List.mem_of_getElem? (i := 1078) (by decide +kernel), List.mem_of_getElem? (i := 1352) (by decide +kernel), List.mem_of_getElem? (i := 1353) (by decide +kernel)⟩
theorem lw_p68 : lw_okq (⟨"ArrowDiagramsModel", "classSize", "(I)I"⟩, 32) := ⟨⟨by decide +kernel, by decide +kernel⟩, List.mem_of_getElem? (i := 1078) (by decide +kernel), List.mem_of_getElem? (i := 1356) (by decide +kernel), List.mem_of_getElem? (i := 1357) (by decide +kernel)⟩
theorem lw_p69 : lw_okq (⟨"ArrowDiagramsModel", "image", "(I)I"⟩, 32) := ⟨⟨by decide +kernel, by decide +kernel⟩, List.mem_of_getElem? (i := 1078) (by decide +kernel), List.mem_of_getElem? (i := 1360) (by decide +kernel), List.mem_of_getElem? (i := 1361) (by decide +kernel)⟩
theorem lw_p70 : lw_okq (⟨"ArrowDiagramsModel", "through", "(II)I"⟩, 32) := ⟨⟨by decide +kernel, by decide +kernel⟩, List.mem_of_getElem? (i := 1078) (by decide +kernel), List.mem_of_getElem? (i := 1364) (by decide +kernel), List.mem_of_getElem? (i := 1365) (by decide +kernel)⟩
theorem lw_p71 : lw_okq (⟨"ArrowDiagramsModel", "value", "(II)I"⟩, 32) := ⟨⟨by decide +kernel, by decide +kernel⟩, List.mem_of_getElem? (i := 1078) (by decide +kernel), List.mem_of_getElem? (i := 1368) (by decide +kernel), List.mem_of_getElem? (i := 1369) (by decide +kernel)⟩
theorem lw_p72 : lw_okq (⟨"ArrowDiagramsModel", "counted", "(IIZ)I"⟩, 32) := ⟨⟨by decide +kernel, by decide +kernel⟩, List.mem_of_getElem? (i := 1078) (by decide +kernel), List.mem_of_getElem? (i := 1380) (by decide +kernel), List.mem_of_getElem? (i := 1381) (by decide +kernel)⟩
theorem lw_p73 : lw_okq (⟨"ArrowDiagramsModel", "cellNow", "(II)I"⟩, 32) := ⟨⟨by decide +kernel, by decide +kernel⟩, List.mem_of_getElem? (i := 1078) (by decide +kernel), List.mem_of_getElem? (i := 1388) (by decide +kernel), List.mem_of_getElem? (i := 1389) (by decide +kernel)⟩
theorem lw_p74 : lw_okq (⟨"ArrowDiagramsModel", "sideOf", "(II)I"⟩, 32) := ⟨⟨by decide +kernel, by decide +kernel⟩, List.mem_of_getElem? (i := 1078) (by decide +kernel), List.mem_of_getElem? (i := 1392) (by decide +kernel), List.mem_of_getElem? (i := 1393) (by decide +kernel)⟩
theorem lw_p75 : lw_okq (⟨"ArrowDiagramsModel", "isRedundant", "(II)Z"⟩, 32) := ⟨⟨by decide +kernel, by decide +kernel⟩, List.mem_of_getElem? (i := 1078) (by decide +kernel), List.mem_of_getElem? (i := 1396) (by decide +kernel), List.mem_of_getElem? (i := 1397) (by decide +kernel)⟩
theorem lw_p76 : lw_okq (⟨"ArrowDiagramsModel", "areEqual", "(III)Z"⟩, 32) := ⟨⟨by decide +kernel, by decide +kernel⟩, List.mem_of_getElem? (i := 1078) (by decide +kernel), List.mem_of_getElem? (i := 1400) (by decide +kernel), List.mem_of_getElem? (i := 1401) (by decide +kernel)⟩
theorem lw_p77 : lw_okq (⟨"ArrowDiagramsModel", "core", "()I"⟩, 32) := ⟨⟨by decide +kernel, by decide +kernel⟩, List.mem_of_getElem? (i := 1078) (by decide +kernel), List.mem_of_getElem? (i := 1404) (by decide +kernel), List.mem_of_getElem? (i := 1405) (by decide +kernel)⟩
theorem lw_p78 : lw_okq (⟨"ArrowDiagramsModel", "holds", "(I)Z"⟩, 32) := ⟨⟨by decide +kernel, by decide +kernel⟩, List.mem_of_getElem? (i := 1078) (by decide +kernel), List.mem_of_getElem? (i := 1408) (by decide +kernel), List.mem_of_getElem? (i := 1409) (by decide +kernel)⟩
theorem lw_p79 : lw_okq (⟨"ArrowDiagramsModel", "areAlike", "(II)Z"⟩, 32) := ⟨⟨by decide +kernel, by decide +kernel⟩, List.mem_of_getElem? (i := 1078) (by decide +kernel), List.mem_of_getElem? (i := 1412) (by decide +kernel), List.mem_of_getElem? (i := 1413) (by decide +kernel)⟩
def lw_privs_5 : List (MethodName × Nat) := [(⟨"ArrowDiagramsModel", "stands", "(III)Z"⟩, 32), (⟨"ArrowDiagramsModel", "nearer", "(I)I"⟩, 32), (⟨"ArrowDiagramsModel", "layNames", "(I)I"⟩, 32), (⟨"ArrowDiagramsModel", "pathNow", "(II)I"⟩, 32), (⟨"ArrowDiagramsModel", "classSize", "(I)I"⟩, 32), (⟨"ArrowDiagramsModel", "image", "(I)I"⟩, 32), (⟨"ArrowDiagramsModel", "through", "(II)I"⟩, 32), (⟨"ArrowDiagramsModel", "value", "(II)I"⟩, 32), (⟨"ArrowDiagramsModel", "counted", "(IIZ)I"⟩, 32), (⟨"ArrowDiagramsModel", "cellNow", "(II)I"⟩, 32), (⟨"ArrowDiagramsModel", "sideOf", "(II)I"⟩, 32), (⟨"ArrowDiagramsModel", "isRedundant", "(II)Z"⟩, 32), (⟨"ArrowDiagramsModel", "areEqual", "(III)Z"⟩, 32), (⟨"ArrowDiagramsModel", "core", "()I"⟩, 32), (⟨"ArrowDiagramsModel", "holds", "(I)Z"⟩, 32), (⟨"ArrowDiagramsModel", "areAlike", "(II)Z"⟩, 32)]
theorem lw_r5 : ∀ q ∈ lw_privs_5, lw_okq q := List.forall_mem_cons.mpr ⟨lw_p64, List.forall_mem_cons.mpr ⟨lw_p65, List.forall_mem_cons.mpr ⟨lw_p66, List.forall_mem_cons.mpr ⟨lw_p67, List.forall_mem_cons.mpr ⟨lw_p68, List.forall_mem_cons.mpr ⟨lw_p69, List.forall_mem_cons.mpr ⟨lw_p70, List.forall_mem_cons.mpr ⟨lw_p71, List.forall_mem_cons.mpr ⟨lw_p72, List.forall_mem_cons.mpr ⟨lw_p73, List.forall_mem_cons.mpr ⟨lw_p74, List.forall_mem_cons.mpr ⟨lw_p75, List.forall_mem_cons.mpr ⟨lw_p76, List.forall_mem_cons.mpr ⟨lw_p77, List.forall_mem_cons.mpr ⟨lw_p78, List.forall_mem_cons.mpr ⟨lw_p79, fun _ h => absurd h List.not_mem_nil⟩⟩⟩⟩⟩⟩⟩⟩⟩⟩⟩⟩⟩⟩⟩⟩
theorem lw_p80 : lw_okq (⟨"ArrowDiagramsModel", "number", "(I)I"⟩, 32) := ⟨⟨by decide +kernel, by decide +kernel⟩, List.mem_of_getElem? (i := 1078) (by decide +kernel), List.mem_of_getElem? (i := 1420) (by decide +kernel), List.mem_of_getElem? (i := 1421) (by decide +kernel)⟩
theorem lw_p81 : lw_okq (⟨"ArrowDiagramsModel", "pairs", "(Z)I"⟩, 32) := ⟨⟨by decide +kernel, by decide +kernel⟩, List.mem_of_getElem? (i := 1078) (by decide +kernel), List.mem_of_getElem? (i := 1424) (by decide +kernel), List.mem_of_getElem? (i := 1425) (by decide +kernel)⟩
theorem lw_p82 : lw_okq (⟨"ArrowDiagramsModel", "holding", "()I"⟩, 32) := ⟨⟨by decide +kernel, by decide +kernel⟩, List.mem_of_getElem? (i := 1078) (by decide +kernel), List.mem_of_getElem? (i := 1428) (by decide +kernel), List.mem_of_getElem? (i := 1429) (by decide +kernel)⟩
theorem lw_p83 : lw_okq (⟨"ArrowDiagramsModel", "commutingNow", "()D"⟩, 32) := ⟨⟨by decide +kernel, by decide +kernel⟩, List.mem_of_getElem? (i := 1078) (by decide +kernel), List.mem_of_getElem? (i := 1439) (by decide +kernel), List.mem_of_getElem? (i := 1440) (by decide +kernel)⟩
theorem lw_p84 : lw_okq (⟨"ArrowDiagramsModel", "isCode", "(II)Z"⟩, 32) := ⟨⟨by decide +kernel, by decide +kernel⟩, List.mem_of_getElem? (i := 1078) (by decide +kernel), List.mem_of_getElem? (i := 1451) (by decide +kernel), List.mem_of_getElem? (i := 1452) (by decide +kernel)⟩
theorem lw_p85 : lw_okq (⟨"ArrowDiagramsModel", "separateNow", "(II)I"⟩, 32) := ⟨⟨by decide +kernel, by decide +kernel⟩, List.mem_of_getElem? (i := 1078) (by decide +kernel), List.mem_of_getElem? (i := 1477) (by decide +kernel), List.mem_of_getElem? (i := 1478) (by decide +kernel)⟩
theorem lw_p86 : lw_okq (⟨"ArrowDiagramsModel", "choose", "(I)V"⟩, 32) := ⟨⟨by decide +kernel, by decide +kernel⟩, List.mem_of_getElem? (i := 1078) (by decide +kernel), List.mem_of_getElem? (i := 1481) (by decide +kernel), List.mem_of_getElem? (i := 1482) (by decide +kernel)⟩
theorem lw_p87 : lw_okq (⟨"ArrowDiagramsModel", "hits", "(IIII)I"⟩, 32) := ⟨⟨by decide +kernel, by decide +kernel⟩, List.mem_of_getElem? (i := 1078) (by decide +kernel), List.mem_of_getElem? (i := 1489) (by decide +kernel), List.mem_of_getElem? (i := 1490) (by decide +kernel)⟩
theorem lw_p88 : lw_okq (⟨"ArrowDiagramsModel", "mix", "(J)V"⟩, 32) := ⟨⟨by decide +kernel, by decide +kernel⟩, List.mem_of_getElem? (i := 1078) (by decide +kernel), List.mem_of_getElem? (i := 1506) (by decide +kernel), List.mem_of_getElem? (i := 1507) (by decide +kernel)⟩
theorem lw_p89 : lw_okq (⟨"ArrowDiagramsModel", "mixCells", "()V"⟩, 32) := ⟨⟨by decide +kernel, by decide +kernel⟩, List.mem_of_getElem? (i := 1078) (by decide +kernel), List.mem_of_getElem? (i := 1511) (by decide +kernel), List.mem_of_getElem? (i := 1512) (by decide +kernel)⟩
theorem lw_p90 : lw_okq (⟨"ArrowDiagramsModel", "mixPaths", "()V"⟩, 32) := ⟨⟨by decide +kernel, by decide +kernel⟩, List.mem_of_getElem? (i := 1078) (by decide +kernel), List.mem_of_getElem? (i := 1515) (by decide +kernel), List.mem_of_getElem? (i := 1516) (by decide +kernel)⟩
def lw_privs_6 : List (MethodName × Nat) := [(⟨"ArrowDiagramsModel", "number", "(I)I"⟩, 32), (⟨"ArrowDiagramsModel", "pairs", "(Z)I"⟩, 32), (⟨"ArrowDiagramsModel", "holding", "()I"⟩, 32), (⟨"ArrowDiagramsModel", "commutingNow", "()D"⟩, 32), (⟨"ArrowDiagramsModel", "isCode", "(II)Z"⟩, 32), (⟨"ArrowDiagramsModel", "separateNow", "(II)I"⟩, 32), (⟨"ArrowDiagramsModel", "choose", "(I)V"⟩, 32), (⟨"ArrowDiagramsModel", "hits", "(IIII)I"⟩, 32), (⟨"ArrowDiagramsModel", "mix", "(J)V"⟩, 32), (⟨"ArrowDiagramsModel", "mixCells", "()V"⟩, 32), (⟨"ArrowDiagramsModel", "mixPaths", "()V"⟩, 32)]
theorem lw_r6 : ∀ q ∈ lw_privs_6, lw_okq q := List.forall_mem_cons.mpr ⟨lw_p80, List.forall_mem_cons.mpr ⟨lw_p81, List.forall_mem_cons.mpr ⟨lw_p82, List.forall_mem_cons.mpr ⟨lw_p83, List.forall_mem_cons.mpr ⟨lw_p84, List.forall_mem_cons.mpr ⟨lw_p85, List.forall_mem_cons.mpr ⟨lw_p86, List.forall_mem_cons.mpr ⟨lw_p87, List.forall_mem_cons.mpr ⟨lw_p88, List.forall_mem_cons.mpr ⟨lw_p89, List.forall_mem_cons.mpr ⟨lw_p90, fun _ h => absurd h List.not_mem_nil⟩⟩⟩⟩⟩⟩⟩⟩⟩⟩⟩
def lw_privs : List (MethodName × Nat) := lw_privs_1 ++ (lw_privs_2 ++ (lw_privs_3 ++ (lw_privs_4 ++ (lw_privs_5 ++ (lw_privs_6)))))
def lw_tbl : List Cond := k2_sels lw_privs ++ tables_1
theorem lw_privs_ok : ∀ q ∈ lw_privs, lw_okq q := by
  show ∀ q ∈ lw_privs_1 ++ (lw_privs_2 ++ (lw_privs_3 ++ (lw_privs_4 ++ (lw_privs_5 ++ (lw_privs_6))))), lw_okq q
  exact List.forall_mem_append.mpr ⟨lw_r1, List.forall_mem_append.mpr ⟨lw_r2, List.forall_mem_append.mpr ⟨lw_r3, List.forall_mem_append.mpr ⟨lw_r4, List.forall_mem_append.mpr ⟨lw_r5, lw_r6⟩⟩⟩⟩⟩
/-! ===== BEGIN words of one list among another's, by their places ===== -/
/-! ===== END ===== -/
/-! ===== BEGIN exceptions that leave a method, and their catching by the caller (launches without stack traces) ===== -/
section VXA
/-! The laws vx_back, vx_callV, vx_callS, vx_callSW, vx_throw0, vx_throwS follow proofs of the library, with one case more: JvmDerived/Free/Laws.lean (Back.of_free), Shelf42/LK1.lean (callV, callS), Shelf/KitTraced.lean (throwNew0V, throwNewS). -/
/-- where a method has thrown q: the class by its name, the cell, what was written, the world -/
def vx_T (XC : String → State → State → Prop) (st : State) (q : Addr) (t : State) (mc ms : Nat) (free : Addr → Prop) : Prop :=
  ∃ (E : String) (ce : Cell) (L : List Loc), XC E st t ∧ t.heap[q]? = some ce ∧ ce.vm = .none ∧ st.vm.findClass E = some ce.cls ∧ st.WarmedH t.vm ∧ st.sameButNew ({ t with vm := st.vm } : State) L mc ms ∧ ∀ z ∈ L, free z.base
def vx_Q (Qc : Array Value → State → Outcome → State → Prop) (XC : String → State → State → Prop) (mc ms : Nat) (free : Addr → Prop) : Array Value → State → Outcome → State → Prop := fun a st o t =>
  (Qc a st o t ∧ ∃ L, FrameEnd st o t L mc ms ∧ ∀ q ∈ L, free q.base) ∨ ∃ q, o = .threw q ∧ vx_T XC st q t mc ms free
/-- a callee that returns or throws -/
def vx_Met (l : Launch) (y : MethodName) (ws : List Cond) (rm : Room) (Pc : Array Value → State → Prop) (Qc : Array Value → State → Outcome → State → Prop) (XC : String → State → State → Prop) (mc ms : Nat) (free : Addr → Prop) : Prop :=
  MetFree l y (headSpec ws rm) Pc (fun _ _ _ _ _ => True) (vx_Q Qc XC mc ms free)
def vx_Post (XC : String → State → State → Prop) (mc ms : Nat) (free : Addr → Prop) : Pt → Array Value → Addr → Pt → Prop := fun A a q B =>
  ∃ (g : JFrame) (mk : MethodId) (t : State) (L : List Loc) (E : String) (ce : Cell), B.U.heap = t.heap ∧ B.U.vm = t.vm ∧ XC E (A.U.calling g mk a) t ∧ t.heap[q]? = some ce ∧ ce.vm = .none ∧ A.U.vm.findClass E = some ce.cls ∧ B.locs = A.locs ++ L ∧ (∀ z ∈ L, free z.base) ∧ B.cells = A.cells + mc ∧ B.slots = A.slots + ms
def vx_Back (l : Launch) (R : Room) (p : Program) (e : Env) (below : List Frame) (s : State) (sargs : Array Value) (y : MethodName) (len W9 : Nat)
    (Pre : Pt → Array Value → Prop) (Post : Pt → Array Value → Option Value → Pt → Prop) (PostX : Pt → Array Value → Addr → Pt → Prop) : Prop :=
  ∀ (m : MethodId) (meth : Method) (c : Code) (A : Pt) (g : JFrame) (ig : Instr) (mk : MethodId) (a : Array Value),
    Stand p l e R s m sargs below meth c A.U A.locs A.cells A.slots → g.method = m → g.locals.size = c.maxLocals → decode c.code g.pc = .ok (ig, len) →
    2 * g.monitorRoom + (g.stack.map fun v => v.category).sum ≤ W9 → A.U.methodNamed? y = some mk → Pre A a →
    (∃ (v : Option Value) (B : Pt), Stand p l e R s m sargs below meth c B.U B.locs B.cells B.slots ∧ Post A a v B ∧
      Steps p.tables e below (doInvoke e (A.U.setTop g) [] mk a).1 (B.U.setTop { g with pc := g.pc + len, stack := v.toList ++ g.stack })) ∨
    (∃ (q : Addr) (B : Pt), Stand p l e R s m sargs below meth c B.U B.locs B.cells B.slots ∧ PostX A a q B ∧
      Steps p.tables e below (doInvoke e (A.U.setTop g) [] mk a).1 ((B.U.setTop g).pushFrame (.throwing q)))
section Payer
variable {l : Launch} {R : Room} {p : Program} {e : Env} {below : List Frame} {s : State} {sargs : Array Value} {y : MethodName} {len W9 : Nat}
theorem vx_back {ws : List Cond} {rm : Room} {Pc : Array Value → State → Prop} {Qc : Array Value → State → Outcome → State → Prop} {XC : String → State → State → Prop} {mc ms : Nat} {free : Addr → Prop} {bytes : ByteArray} {maxL : Nat} {ret : Option FieldType}
    (hM : vx_Met l y ws rm Pc Qc XC mc ms free) (hblind : FrameBlind Pc) (hrc : rm.cells = mc) (hrs : rm.slots = ms)
    (hframes : rm.frames + 1 ≤ R.frames) (hlocals : W9 + (maxL + 11) + rm.locals ≤ R.locals)
    (hws : ∀ w ∈ ws, ∀ a' U, s.WarmedH U.vm → w.before a' U = true) (hcode : Cond.code y bytes maxL ret ∈ ws) (hinit : ∀ a' U, s.WarmedH U.vm → (Cond.initialized y.cls).before a' U = true) :
    vx_Back l R p e below s sargs y len W9 (PreOf R mc ms Pc) (PostOf Qc mc ms free) (vx_Post XC mc ms free) := by
  intro m meth c A g ig mk a X hg hsize hdg hW hn hp
  have h1 : (headSpec ws rm).pre.before a A.U = true := atoms_intro fun w hw => hws w hw _ _ X.warmed
  have h2 : (Cond.code y bytes maxL ret).before a A.U = true := hws _ hcode _ _ X.warmed
  have h3 : (Cond.initialized y.cls).before a A.U = true := hinit _ _ X.warmed
  have h4 : A.cells + (headSpec ws rm).room.cells ≤ R.cells := by rw [show (headSpec ws rm).room.cells = mc from hrc]; exact hp.1
  have h5 : A.slots + (headSpec ws rm).room.slots ≤ R.slots := by rw [show (headSpec ws rm).room.slots = ms from hrs]; exact hp.2.1
  have hPc : Pc a (A.U.calling g mk a) := hblind _ _ _ _ hp.2.2
  obtain ⟨U, Ls, c0, s0⟩ := A
  dsimp only [Pt.U, Pt.locs, Pt.cells, Pt.slots] at h1 h2 h3 h4 h5 X hn hPc ⊢
  obtain ⟨methY, cY, hmY, hcY, -, hlY, -, -, -, -⟩ := Cond.code_spec hn h2
  obtain ⟨kY, hkY, -⟩ := className_of_methodNamed hn
  have hinitY : kY.init = .initialized := Cond.initialized_spec (findClass_of_methodNamed hn) hkY h3
  have h : At U g.method c below := by rw [hg]; exact X.here
  have hlocals9 : W9 + (maxL + 11) + (headSpec ws rm).room.locals ≤ R.locals := hlocals
  have happ : (headSpec ws rm).appliesLoose y e.platform (U.calling g mk a) = true :=
    Spec.appliesLoose_calling (g := g) h hdg hn hkY hinitY
      (X.room_calling (g := g) (R' := (headSpec ws rm).room) hsize hmY hcY hframes (by rw [hlY]; omega) h4 h5) h1
  obtain ⟨mid, hmid⟩ := h.above
  have hfr : (U.setTop g).frames = (.java g :: mid) ++ below := by rw [State.frames_setTop' g h.top, hmid]; rfl
  obtain ⟨o, s₂, hsteps, -, hend, hq⟩ := Steps.callFree hM p X.admits X.cas X.clock (acts := []) hfr happ hPc trivial
  have hq' : vx_Q Qc XC mc ms free a (U.calling g mk a) o s₂ := hq
  rw [State.frames_setTop' g h.top] at hend
  obtain ⟨g₀, hg0⟩ := Option.isSome_iff_exists.mp h.top
  obtain ⟨r, hr⟩ := State.topJava?_eq_some.mp hg0
  have hr' : (({ U with heap := s₂.heap, slotsUsed := s₂.slotsUsed } : State).setVm s₂.vm).frames = .java g₀ :: r := hr
  rcases hq' with ⟨hqc, L, hfe, hL⟩ | ⟨q, rfl, E, ce, L, hx, hce, hcv, hcl, hW₂, hsm, hL⟩
  · obtain ⟨⟨v, rfl⟩, hW₂, e2, q2, q3, q4, q5, q6⟩ := id hfe
    have e3 : s₂ = ({ (U.calling g mk a).setFrames s₂.frames with heap := s₂.heap, slotsUsed := s₂.slotsUsed } : State).setVm s₂.vm := by
      have : s₂ = ({ s₂ with vm := (U.calling g mk a).vm } : State).setVm s₂.vm := rfl
      rw [e2] at this
      exact this
    obtain ⟨c₂, i₂, len₂, hc₂, hd₂, hf₂⟩ := hend
    have hW' : U.WarmedH s₂.vm := hW₂
    have hcc : c₂ = c := by
      have h1 : s₂.code? g.method = U.code? g.method := by
        rw [State.code?_eq, State.code?_eq, hW'.alike.method?]
      exact Option.some.inj (hc₂.symm.trans (h1.trans h.code))
    subst hcc
    have hlen : len₂ = len := by rw [hdg] at hd₂; cases hd₂; rfl
    subst hlen
    have hs₂ : s₂ = (({ U with heap := s₂.heap, slotsUsed := s₂.slotsUsed } : State).setVm s₂.vm).setTop { g with pc := g.pc + len₂, stack := v.toList ++ g.stack } := by
      refine e3.trans ?_
      rw [hf₂, State.calling_eq h.top, State.setFrames_setFrames, State.setTop_of_frames _ hr', hr]
      rfl
    have hsame : U.sameButNew ({ U with heap := s₂.heap, slotsUsed := s₂.slotsUsed } : State) L mc ms := by
      refine ⟨?_, q2, q3, q4, q5, q6⟩
      obtain ⟨t, ht, -⟩ := State.frames_cons hr
      show ({ U with heap := s₂.heap, slotsUsed := s₂.slotsUsed } : State) = { U.setFrames U.frames with heap := s₂.heap, slotsUsed := s₂.slotsUsed }
      rw [State.setFrames_self ht]
    subst hg
    refine Or.inl ⟨v, ⟨(({ U with heap := s₂.heap, slotsUsed := s₂.slotsUsed } : State).setVm s₂.vm), Ls ++ L, c0 + mc, s0 + ms⟩,
      ⟨X.admits, X.cas, X.clock, X.frames, X.room, X.hears, X.method, X.code, (X.here.setHeapUsed s₂.heap s₂.slotsUsed).setVm hW'.alike, X.tail, State.WarmedH.trans X.warmed hW', X.limits, X.bytes, X.same.trans (hsame.setVm s.vm)⟩,
      ⟨g, mk, s₂, L, rfl, rfl, hqc, rfl, hL, rfl, rfl⟩, ?_⟩
    show Steps p.tables e below _ ((({ U with heap := s₂.heap, slotsUsed := s₂.slotsUsed } : State).setVm s₂.vm).setTop { g with pc := g.pc + len₂, stack := v.toList ++ g.stack })
    rw [← hs₂]
    exact hsteps
  · obtain ⟨e2, q2, q3, q4, q5, q6⟩ := id hsm
    have e3 : s₂ = ({ (U.calling g mk a).setFrames s₂.frames with heap := s₂.heap, slotsUsed := s₂.slotsUsed } : State).setVm s₂.vm := by
      have : s₂ = ({ s₂ with vm := (U.calling g mk a).vm } : State).setVm s₂.vm := rfl
      rw [e2] at this
      exact this
    have hf₂ : s₂.frames = .throwing q :: .java g :: U.frames.tail := hend
    have hW' : U.WarmedH s₂.vm := hW₂
    have hs₂ : s₂ = ((({ U with heap := s₂.heap, slotsUsed := s₂.slotsUsed } : State).setVm s₂.vm).setTop g).pushFrame (.throwing q) := by
      refine e3.trans ?_
      rw [hf₂, State.calling_eq h.top, State.setFrames_setFrames, State.pushFrame, State.frames_setTop _ hr', State.setTop_of_frames _ hr', State.setFrames_setFrames, hr]
      rfl
    have hsame : U.sameButNew ({ U with heap := s₂.heap, slotsUsed := s₂.slotsUsed } : State) L mc ms := by
      refine ⟨?_, q2, q3, q4, q5, q6⟩
      obtain ⟨t, ht, -⟩ := State.frames_cons hr
      show ({ U with heap := s₂.heap, slotsUsed := s₂.slotsUsed } : State) = { U.setFrames U.frames with heap := s₂.heap, slotsUsed := s₂.slotsUsed }
      rw [State.setFrames_self ht]
    subst hg
    refine Or.inr ⟨q, ⟨(({ U with heap := s₂.heap, slotsUsed := s₂.slotsUsed } : State).setVm s₂.vm), Ls ++ L, c0 + mc, s0 + ms⟩,
      ⟨X.admits, X.cas, X.clock, X.frames, X.room, X.hears, X.method, X.code, (X.here.setHeapUsed s₂.heap s₂.slotsUsed).setVm hW'.alike, X.tail, State.WarmedH.trans X.warmed hW', X.limits, X.bytes, X.same.trans (hsame.setVm s.vm)⟩,
      ⟨g, mk, s₂, L, E, ce, rfl, rfl, hx, hce, hcv, hcl, rfl, hL, rfl, rfl⟩, ?_⟩
    show Steps p.tables e below _ (((({ U with heap := s₂.heap, slotsUsed := s₂.slotsUsed } : State).setVm s₂.vm).setTop g).pushFrame (.throwing q))
    rw [← hs₂]
    exact hsteps
end Payer
section Calls
variable {p : Program} {l : Launch} {e : Env} {R : Room} {s : State} {m : MethodId} {args : Array Value} {below : List Frame} {meth : Method} {c : Code} {T : State} {locs : List Loc} {cells slots : Nat}
theorem vx_callV (X : Stand p l e R s m args below meth c T locs cells slots) (hexec : p.tables.exec = Jvm.exec) {own C : String} {index : Nat} {y : MethodName} {bytes : ByteArray} {maxL : Nat} {ret : Option FieldType}
    (hown : s.vm.findClass own = some m.cls) (hlink : (Cond.methodLink own index y).before args s = true) (hinst : (Cond.instanceMethod y).before args s = true) (hsel : (Cond.selects C y y).before args s = true)
    (hcode : (Cond.code y bytes maxL ret).before args s = true) (hy : y.cls ≠ "java/lang/invoke/MethodHandle" ∧ y.cls ≠ "java/lang/invoke/VarHandle")
    {W9 : Nat} {Pre : Pt → Array Value → Prop} {Post : Pt → Array Value → Option Value → Pt → Prop} {PostX : Pt → Array Value → Addr → Pt → Prop} (hK : vx_Back l R p e below s args y 3 W9 Pre Post PostX)
    {b : Addr} {cellB : Cell} (hcell : T.heap[b]? = some cellB) (hobj : cellB.vm.isStatics = false) (hcls : s.vm.findClass C = some cellB.cls)
    {g : JFrame} (hg : g.method = m) (hsize : g.locals.size = c.maxLocals) {argsL rest : List Value} (hlen : ∀ sig, parseMethodDescriptor y.desc = some sig → argsL.length = sig.parameters.length)
    (hstack : g.stack = argsL.reverse ++ .ref b :: rest) (hW : 2 * g.monitorRoom + (rest.map fun v => v.category).sum ≤ W9) (hdg : decode c.code g.pc = .ok (.invokevirtual index, 3))
    (hpre : ∀ vm₁, s.WarmedH vm₁ → Pre ⟨T.setVm vm₁, locs, cells, slots⟩ (Value.ref b :: argsL).toArray) :
    (∃ (v : Option Value) (vm₁ : Vm) (B : Pt), s.WarmedH vm₁ ∧ Stand p l e R s m args below meth c B.U B.locs B.cells B.slots ∧ Post ⟨T.setVm vm₁, locs, cells, slots⟩ (Value.ref b :: argsL).toArray v B ∧
      ∀ target, Steps p.tables e below (B.U.setTop { g with pc := g.pc + 3, stack := v.toList ++ rest }) target → Steps p.tables e below (T.setTop g) target) ∨
    (∃ (q : Addr) (vm₁ : Vm) (B : Pt), s.WarmedH vm₁ ∧ Stand p l e R s m args below meth c B.U B.locs B.cells B.slots ∧ PostX ⟨T.setVm vm₁, locs, cells, slots⟩ (Value.ref b :: argsL).toArray q B ∧
      Steps p.tables e below (T.setTop g) ((B.U.setTop { g with stack := rest }).pushFrame (.throwing q))) := by
  obtain ⟨mk, methM, hnamed, hmethM, hstM, habM⟩ := Cond.instanceMethod_spec hinst
  obtain ⟨methM', cM, hmethM', -, -, -, -, -, -, hsigM⟩ := Cond.code_spec hnamed hcode
  cases hmethM.symm.trans hmethM'
  obtain ⟨c2, r2, m2, q1, q2, q3, q4, kP, hkP, hkPi⟩ := Cond.selects_spec hsel
  cases hcls.symm.trans q1
  cases (State.methodFound?_of_named hnamed hy).symm.trans q2
  cases hnamed.symm.trans q3
  have hselP : selectMethod e.platform s.vm cellB.cls mk = .method mk := by rw [Launch.admits_selectMethod X.admits]; exact q4
  obtain ⟨vm₁, X₁, hstep₁⟩ := X.invokevirtual hexec hown hlink hnamed hmethM hstM hkP hkPi hy (a := b) (cell := cellB) hcell
    (fun z h => by rw [h] at hobj; cases hobj) hselP hmethM habM hkP hkPi (g := g) hg (argsL := argsL) (rest := rest) (hlen _ hsigM) hstack hdg
  rcases hK m meth c ⟨T.setVm vm₁, locs, cells, slots⟩ { g with stack := rest } (.invokevirtual index) mk (Value.ref b :: argsL).toArray X₁ hg hsize hdg hW (X₁.named hnamed) (hpre vm₁ X₁.warmed) with ⟨v, B, X', hpost, hsteps⟩ | ⟨q, B, X', hpost, hsteps⟩
  · exact Or.inl ⟨v, vm₁, B, X₁.warmed, X', hpost, fun target h => hstep₁ _ fun acts => by rw [doInvoke_state]; exact hsteps.trans h⟩
  · exact Or.inr ⟨q, vm₁, B, X₁.warmed, X', hpost, hstep₁ _ fun acts => by rw [doInvoke_state]; exact hsteps⟩
end Calls
theorem vx_cls {s : State} {T : State} {vm₁ : Vm} {E : String} {k : ClassId} (hW : s.WarmedH vm₁) (h : (T.setVm vm₁).vm.findClass E = some k) : s.vm.findClass E = some k := by
  have h1 : vm₁.findClass E = some k := h
  rw [hW.alike.findClass] at h1
  exact h1
/-- the method's frame g, with q thrown over it -/
def vx_W (p : Program) (l : Launch) (e : Env) (R : Room) (s : State) (m : MethodId) (args : Array Value) (below : List Frame) (meth : Method) (c : Code) (H : Heap) (locs : List Loc) (cells slots : Nat) (Q : State → Prop) (g : JFrame) (q : Addr) : Prop :=
  ∀ T : State, T.heap = H → Stand p l e R s m args below meth c T locs cells slots → ∃ t, Steps p.tables e below ((T.setTop g).pushFrame (.throwing q)) t ∧ Q t
def vx_Run (p : Program) (l : Launch) (e : Env) (R : Room) (s : State) (m : MethodId) (args : Array Value) (below : List Frame) (meth : Method) (c : Code) (H : Heap) (locs : List Loc) (cells slots mc ms : Nat) (g : JFrame) (rest : List Value) (Qa : State → Outcome → State → Prop) (XC : String → State → State → Prop) (free : Addr → Prop) : Prop :=
  ∀ T : State, T.heap = H → Stand p l e R s m args below meth c T locs cells slots →
    (∃ (v : Option Value) (st₀ t T' : State) (L : List Loc), st₀.heap = H ∧ Stand p l e R s m args below meth c T' (locs ++ L) (cells + mc) (slots + ms) ∧ (∀ q ∈ L, free q.base) ∧ T'.heap = t.heap ∧ T'.vm = t.vm ∧ Qa st₀ (.returned v) t ∧
      Goes p e below T g T' { g with pc := g.pc + 3, stack := v.toList ++ rest }) ∨
    (∃ (q : Addr) (st₀ t T' : State) (L : List Loc) (E : String) (ce : Cell), st₀.heap = H ∧ Stand p l e R s m args below meth c T' (locs ++ L) (cells + mc) (slots + ms) ∧ (∀ z ∈ L, free z.base) ∧ T'.heap = t.heap ∧ T'.vm = t.vm ∧ XC E st₀ t ∧ t.heap[q]? = some ce ∧ ce.vm = .none ∧ s.vm.findClass E = some ce.cls ∧
      Steps p.tables e below (T.setTop g) ((T'.setTop { g with stack := rest }).pushFrame (.throwing q)))
section Runs
variable {p : Program} {l : Launch} {e : Env} {R : Room} {s : State} {m : MethodId} {args : Array Value} {below : List Frame} {meth : Method} {c : Code} {H : Heap} {locs : List Loc} {cells slots : Nat}
variable {y : MethodName} {bytes cc : ByteArray} {maxL nL mc ms n index : Nat} {ret : Option FieldType} {ws : List Cond} {rm : Room} {Pc : Array Value → State → Prop} {Qc : Array Value → State → Outcome → State → Prop} {XC : String → State → State → Prop} {free : Addr → Prop} {Ts : List Cond} {own C : String} {b : Addr} {As rest : List Value} {g : JFrame}
theorem vx_callBack (cb : CallB R s args own index y bytes maxL ret ws rm mc ms n) (hM : vx_Met l y ws rm Pc Qc XC mc ms free) (hbl : FrameBlind Pc) : vx_Back l R p e below s args y 3 8 (PreOf R mc ms Pc) (PostOf Qc mc ms free) (vx_Post XC mc ms free) := by
  obtain ⟨hrc, hrs, hfr, hlo, hws, hcw, -, hini, -⟩ := cb
  exact vx_back (bytes := bytes) (maxL := maxL) (ret := ret) hM hbl hrc hrs hfr hlo hws hcw (fun a' U hW => word_at hW (Or.inl (by first | rfl | simp [Cond.onTables, Cond.keeps, Cond.steady])) hini)
theorem vx_runV (S : CallFix p m c cc nL s args Ts own) (hM : vx_Met l y ws rm Pc Qc XC mc ms free) (cw : CallW R s args own C index y bytes maxL ret ws rm mc ms n) (hp : PreV s H C b Pc As)
    (hg : g.method = m) (hn : As.length = n) (hsize : g.locals.size = nL) (hstack : g.stack = As.reverse ++ .ref b :: rest) (hW : 2 * g.monitorRoom + (rest.map fun v => v.category).sum ≤ 8) (hdg : decode cc g.pc = .ok (.invokevirtual index, 3)) (hf : cells + mc ≤ R.cells ∧ slots + ms ≤ R.slots) :
    vx_Run p l e R s m args below meth c H locs cells slots mc ms g rest (Qc (Value.ref b :: As).toArray) XC free := by
  have hK : vx_Back l R p e below s args y 3 8 (PreOf R mc ms Pc) (PostOf Qc mc ms free) (vx_Post XC mc ms free) := vx_callBack cw.1 hM hp.1
  obtain ⟨⟨-, -, -, -, -, -, hcode, -, hy, hlen, hl⟩, hin, hse⟩ := cw
  obtain ⟨hx, hb, hml, ho, -⟩ := S
  obtain ⟨-, ⟨cellB, hcB, hoB, hclB⟩, hPc⟩ := hp
  intro T hT X
  rcases vx_callV X hx (C := C) (bytes := bytes) (maxL := maxL) (ret := ret) ho hl hin hse hcode hy hK (by rw [hT]; exact hcB) hoB hclB hg (hsize.trans hml.symm) (argsL := As) (rest := rest) (fun sig h => hn.trans (hlen sig h)) hstack hW (by rw [hb]; exact hdg)
    (fun vm₁ hW₁ => ⟨hf.1, hf.2, hPc (T.setVm vm₁) hT hW₁⟩) with ⟨v, vm₁, ⟨U', l2, c2, s2⟩, hW₁, X', ⟨g', mk, t, L, e1, e2, hq, h1, hL, h2, h3⟩, st⟩ | ⟨q, vm₁, ⟨U', l2, c2, s2⟩, hW₁, X', ⟨g', mk, t, L, E, ce, e1, e2, hq, hce, hcv, hcl, h1, hL, h2, h3⟩, st⟩
  · dsimp only [Pt.U, Pt.locs, Pt.cells, Pt.slots] at X' e1 e2 h1 h2 h3 st
    subst h1; subst h2; subst h3
    exact Or.inl ⟨v, (T.setVm vm₁).calling g' mk (Value.ref b :: As).toArray, t, U', L, hT, X', hL, e1, e2, hq, st⟩
  · dsimp only [Pt.U, Pt.locs, Pt.cells, Pt.slots] at X' e1 e2 h1 h2 h3 st hcl
    subst h1; subst h2; subst h3
    exact Or.inr ⟨q, (T.setVm vm₁).calling g' mk (Value.ref b :: As).toArray, t, U', L, E, ce, hT, X', hL, e1, e2, hq, hce, hcv, vx_cls hW₁ hcl, st⟩
end Runs
section Rows
variable {p : Program} {l : Launch} {e : Env} {R : Room} {s : State} {m : MethodId} {args : Array Value} {below : List Frame} {meth : Method} {c : Code} {H : Heap} {locs : List Loc} {cells slots : Nat} {Q : State → Prop}
variable {mc ms : Nat} {free : Addr → Prop} {A0 A1 : Nat → Prop} {H0 : Heap} {a : Array Value} {pc : Nat} {ls : Array Slot} {st0 rest : List Value}
theorem vx_keep {st₀ t T' : State} {L : List Loc} (h0 : st₀.heap = H) (e1 : T'.heap = t.heap) (hS : va_S A0 H0 H locs) (hA : ∀ q, q < H.size → A1 q → A0 q) (hf : ∀ q, free q → A0 q) (hL : ∀ q ∈ L, free q.base) (hF : va_F A1 st₀ t) :
    H.size ≤ T'.heap.size ∧ (∀ q : Nat, q < H.size → ¬ A1 q → T'.heap[q]? = H[q]?) ∧ va_S A0 H0 T'.heap (locs ++ L) := by
  obtain ⟨hz, hk⟩ := hF
  rw [h0] at hz hk
  exact ⟨by rw [e1]; exact hz, fun q h1 h2 => by rw [e1]; exact hk q h1 h2,
    ⟨Nat.le_trans hS.1 (by rw [e1]; exact hz), fun q h1 h2 => by rw [e1, hk q (Nat.lt_of_lt_of_le h1 hS.1) (fun z => h2 (hA q (Nat.lt_of_lt_of_le h1 hS.1) z))]; exact hS.2.1 q h1 h2, fun q hq => by
      rcases List.mem_append.mp hq with h | h
      · exact hS.2.2 q h
      · exact hf _ (hL q h)⟩⟩
end Rows
section Ends
variable {p : Program} {l : Launch} {e : Env} {R : Room} {s : State} {m : MethodId} {args : Array Value} {below : List Frame} {meth : Method} {c : Code} {H : Heap} {locs : List Loc} {cells slots : Nat} {Q : State → Prop}
variable {mc ms : Nat} {free : Addr → Prop} {A0 A1 : Nat → Prop} {H0 : Heap} {a : Array Value} {ls : Array Slot} {st0 rest : List Value}
variable {Qc : Array Value → State → Outcome → State → Prop} {XC : String → State → State → Prop}
/-- what a body that may throw owes at its end -/
def vx_MQ (below : List Frame) (Qc : Array Value → State → Outcome → State → Prop) (XC : String → State → State → Prop) (a : Array Value) (s : State) (mc ms : Nat) (free : Addr → Prop) : State → Prop := fun t =>
  ∃ o, t.status = .running ∧ Ended t below o ∧ vx_Q Qc XC mc ms free a s o t
theorem vx_ret {g : JFrame} {mc ms : Nat} (k : W p l e R s m args below meth c H locs cells slots (MQ below Qc args s mc ms free) g) : W p l e R s m args below meth c H locs cells slots (vx_MQ below Qc XC args s mc ms free) g := by
  intro T hT X
  obtain ⟨t, a1, o, b1, b2, b3, b4⟩ := k T hT X
  exact ⟨t, a1, o, b1, b2, Or.inl ⟨b3, b4⟩⟩
/-- where a static field lies, its class's statics cell in H -/
def vx_L (C n d : String) (A : Nat → Prop) (U : State) (H : Heap) : Prop := ∃ (c : ClassId) (k : Class) (i : Nat) (f : Field) (a : Nat) (cell : Cell), U.vm.findClass C = some c ∧ U.fieldFound? C n d = some (c, k, i, f) ∧ f.isStatic = true ∧ k.statics = some a ∧ H[a]? = some cell ∧ cell.vm.isStatics = true ∧ cell.cls = c ∧ f.slot < cell.slots.size ∧ k.staticTypes[f.slot]? = some f.type ∧ ¬ A a
theorem vx_L.moved {C n d : String} {A : Nat → Prop} {u U : State} {H : Heap} (hvm : u.vm.Alike U.vm) (h : vx_L C n d A u H) : vx_L C n d A U H := by
  obtain ⟨c, k, i, f, a, cell, h1, h2, h3, h4, h5, h6, h7, h8, h9, h10⟩ := h
  obtain ⟨k', hi', he⟩ := State.fieldFound?_setVm hvm h2
  exact ⟨c, k', i, f, a, cell, by rw [hvm.findClass]; exact h1, hi', h3, by rw [he]; exact h4, h5, h6, h7, h8, by rw [he]; exact h9, h10⟩
theorem vx_L.kept {C n d : String} {A : Nat → Prop} {U : State} {H H1 : Heap} (h : vx_L C n d A U H) (hq : ∀ a : Nat, a < H.size → ¬ A a → H1[a]? = H[a]?) : vx_L C n d A U H1 := by
  obtain ⟨c, k, i, f, a, cell, h1, h2, h3, h4, h5, h6, h7, h8, h9, h10⟩ := h
  exact ⟨c, k, i, f, a, cell, h1, h2, h3, h4, by rw [hq a (Array.getElem?_eq_some_iff.mp h5).1 h10]; exact h5, h6, h7, h8, h9, h10⟩
theorem vx_L.narrow {C n d : String} {A B : Nat → Prop} {U : State} {H : Heap} (h : vx_L C n d A U H) (hAB : ∀ q, B q → A q) : vx_L C n d B U H := by
  obtain ⟨c, k, i, f, a, cell, h1, h2, h3, h4, h5, h6, h7, h8, h9, h10⟩ := h
  exact ⟨c, k, i, f, a, cell, h1, h2, h3, h4, h5, h6, h7, h8, h9, fun z => h10 (hAB _ z)⟩
/-- .. and what it holds: null or some reference -/
def vx_Zq (C n d : String) (A : Nat → Prop) (U : State) (H : Heap) : Prop := va_Zq C n d A U H ∧ vx_L C n d A U H
theorem vx_Zq.moved {C n d : String} {A : Nat → Prop} {u U : State} {H : Heap} (hvm : u.vm.Alike U.vm) (h : vx_Zq C n d A u H) : vx_Zq C n d A U H := ⟨va_Zq.moved hvm h.1, vx_L.moved hvm h.2⟩
theorem vx_Zq.kept {C n d : String} {A : Nat → Prop} {U : State} {H H1 : Heap} (h : vx_Zq C n d A U H) (hq : ∀ a : Nat, a < H.size → ¬ A a → H1[a]? = H[a]?) : vx_Zq C n d A U H1 := ⟨va_Zq.kept h.1 hq, vx_L.kept h.2 hq⟩
theorem vx_Zq.narrow {C n d : String} {A B : Nat → Prop} {U : State} {H : Heap} (h : vx_Zq C n d A U H) (hAB : ∀ q, B q → A q) : vx_Zq C n d B U H := ⟨va_Zq.narrow h.1 hAB, vx_L.narrow h.2 hAB⟩
theorem vx_Zqof {args : Array Value} {s : State} {C n d : String} {A : Nat → Prop} (hl : (Cond.laysStatic C n d).before args s = true) (hini : (Cond.initialized C).before args s = true) (h : (Cond.isRef (.static C n d)).before args s = true) (hA : ∀ a : Nat, a < s.heap.size → ¬ A a) : vx_Zq C n d A s s.heap := by
  refine ⟨va_Zqof hl hini h hA, ?_⟩
  obtain ⟨c, k, i, f, a, cell, h1, h2, h3, h4, h5, h6, h7, h8, h9⟩ := Cond.laysStatic_spec hl
  exact ⟨c, k, i, f, a, cell, h1, h2, h3, h4, h5, h6, h7, h8, h9, hA a (Array.getElem?_eq_some_iff.mp h5).1⟩
end Ends
section Bodies
variable {l : Launch}
theorem vx_ofW {y : MethodName} {ws ws' : List Cond} {rm : Room} {Pc : Array Value → State → Prop} {Qc : Array Value → State → Outcome → State → Prop} {XC : String → State → State → Prop} {mc ms : Nat} {free : Addr → Prop} {cc : ByteArray} {maxL : Nat} {ret : Option FieldType}
    (hy : plainName y.cls = true) (hw : ws = Cond.code y cc maxL ret :: ws')
    (body : ∀ p e s m args below meth c s₁, BodyLoose p l y (headSpec ws rm) cc maxL ret e s m args below meth c s₁ → c.maxLocals = maxL → (∀ x ∈ c.exceptionTable.toList, False) → Pc args s →
      W p l e (headSpec ws rm).room s m args below meth c s.heap [] 0 0 (vx_MQ below Qc XC args s mc ms free) (entryFrame m args maxL)) : vx_Met l y ws rm Pc Qc XC mc ms free := by
  refine MetFree.of_bodyS (code := cc) (maxLocals := maxL) (ret := ret) hy ?_ ?_
  · intro args s m h hn
    obtain ⟨meth, c, h1, h2, h3, h4, h5, h6, -, -⟩ := Cond.code_spec hn (atoms_spec (ws := ws) h _ (by rw [hw]; exact List.mem_cons_self))
    exact ⟨meth, c, h1, h2, h3, h4, h5, h6⟩
  · intro p e s m args below meth c s₁ B hml hP _
    have hh0 : s₁.heap = s.heap := by rw [B.state]; rfl
    have ht : ∀ x ∈ c.exceptionTable.toList, False := by
      obtain ⟨meth9, c9, h1, h2, -, -, -, -, h7, -⟩ := Cond.code_spec B.named (atoms_spec (ws := ws) B.pre _ (by rw [hw]; exact List.mem_cons_self))
      cases Option.some.inj (h1.symm.trans B.method)
      cases Option.some.inj (h2.symm.trans (Stand.of_body B).code)
      intro x hx
      rw [Array.isEmpty_iff.mp h7] at hx
      cases hx
    obtain ⟨t, a1, o, b1, b2, b3⟩ := body p e s m args below meth c s₁ B hml ht hP s₁ hh0 (Stand.of_body B)
    exact ⟨t, o, a1, b1, b2, b3⟩
end Bodies
end VXA
/-! ===== END ===== -/
/-! ===== BEGIN a static call of a method with an exception table ===== -/
section VXS
variable {p : Program} {l : Launch} {e : Env} {R : Room} {s : State} {m : MethodId} {args : Array Value} {below : List Frame} {meth : Method} {c : Code} {T : State} {H : Heap} {locs : List Loc} {cells slots : Nat}
end VXS
/-! ===== END ===== -/
/-! ===== BEGIN methods with a table of their own: called by a name, returning or throwing ===== -/
section VXH
/-! vx_backW, vx_callVX, vx_callSX, vx_callVW, vx_runVW, vx_runVX, vx_runSX, vx_ofWH follow the same proofs as their sisters above (Free/Laws.lean, Shelf42/LK1.lean); vx_outP calls Shelf42/NT130.lean (outThrough). -/
section
variable {l : Launch} {R : Room} {p : Program} {e : Env} {below : List Frame} {s : State} {sargs : Array Value} {y : MethodName} {len W9 : Nat}
end
variable {p : Program} {l : Launch} {e : Env} {R : Room} {s : State} {m : MethodId} {args : Array Value} {below : List Frame} {meth : Method} {c : Code} {T : State} {H : Heap} {locs : List Loc} {cells slots : Nat}
section
variable {y : MethodName} {bytes cc : ByteArray} {maxL nL mc ms n index : Nat} {ret : Option FieldType} {ws : List Cond} {rm : Room} {Pc : Array Value → State → Prop} {Qc : Array Value → State → Outcome → State → Prop} {XC : String → State → State → Prop} {free : Addr → Prop} {Ts : List Cond} {own C : String} {b : Addr} {As rest : List Value} {g : JFrame}
end
end VXH
/-! ===== END ===== -/
/-! ===== BEGIN printed: names, fields, word lists, decode rows ===== -/
def RX0 : String := "ArrowDiagrams$Cells"
def TX0 : u_T := fun k => match k with
  | 0 => ("ArrowDiagrams$Cells", "total", "I", false)
  | 1 => ("ArrowDiagrams$Cells", "origins", "LArrowDiagrams$Row;", true)
  | 2 => ("ArrowDiagrams$Cells", "lengths", "LArrowDiagrams$Row;", true)
  | 3 => ("ArrowDiagrams$Cells", "letters", "LArrowDiagrams$Grid;", true)
  | _ => ("ArrowDiagrams$Cells", "numbers", "LArrowDiagrams$Row;", true)
def tyX0 : Nat → FieldType := fun k => match k with
  | 0 => .int
  | 1 => .object "ArrowDiagrams$Row"
  | 2 => .object "ArrowDiagrams$Row"
  | 3 => .object "ArrowDiagrams$Grid"
  | _ => .object "ArrowDiagrams$Row"
abbrev wsX00 : List Cond := u_ws RX0 TX0 5
theorem nmX0 : ∀ a, a < 5 → ∀ b, b < 5 → a ≠ b → (TX0 a).2.1 ≠ (TX0 b).2.1 := by decide +kernel
theorem tyX0_ok : ∀ k, k < 5 → parseFieldDescriptor (TX0 k).2.2.1 = some (tyX0 k) := by decide +kernel
abbrev cX0_init : ByteArray := prog_2_method_1_code
def yX0_init : MethodName := ⟨RX0, "<init>", "()V"⟩
abbrev cX0_renumber : ByteArray := prog_2_method_9_code
def yX0_renumber : MethodName := ⟨RX0, "renumber", "(LArrowDiagrams$Paths;)V"⟩
def RX1 : String := "ArrowDiagrams$Functions"
def TX1 : u_T := fun k => match k with
  | 0 => ("ArrowDiagrams$Functions", "sizes", "LArrowDiagrams$Row;", true)
  | _ => ("ArrowDiagrams$Functions", "codes", "LArrowDiagrams$Row;", true)
def tyX1 : Nat → FieldType := fun k => match k with
  | 0 => .object "ArrowDiagrams$Row"
  | _ => .object "ArrowDiagrams$Row"
abbrev wsX10 : List Cond := u_ws RX1 TX1 2
theorem nmX1 : ∀ a, a < 2 → ∀ b, b < 2 → a ≠ b → (TX1 a).2.1 ≠ (TX1 b).2.1 := by decide +kernel
theorem tyX1_ok : ∀ k, k < 2 → parseFieldDescriptor (TX1 k).2.2.1 = some (tyX1 k) := by decide +kernel
abbrev cX1_init : ByteArray := prog_3_method_1_code
def yX1_init : MethodName := ⟨RX1, "<init>", "()V"⟩
abbrev cX1_clear : ByteArray := prog_3_method_2_code
def yX1_clear : MethodName := ⟨RX1, "clear", "()V"⟩
def RX2 : String := "ArrowDiagrams$Graph"
def TX2 : u_T := fun k => match k with
  | 0 => ("ArrowDiagrams$Graph", "objects", "I", false)
  | 1 => ("ArrowDiagrams$Graph", "arrows", "I", false)
  | 2 => ("ArrowDiagrams$Graph", "froms", "LArrowDiagrams$Row;", true)
  | 3 => ("ArrowDiagrams$Graph", "tos", "LArrowDiagrams$Row;", true)
  | _ => ("ArrowDiagrams$Graph", "arriving", "LArrowDiagrams$Row;", true)
def tyX2 : Nat → FieldType := fun k => match k with
  | 0 => .int
  | 1 => .int
  | 2 => .object "ArrowDiagrams$Row"
  | 3 => .object "ArrowDiagrams$Row"
  | _ => .object "ArrowDiagrams$Row"
abbrev wsX20 : List Cond := u_ws RX2 TX2 5
theorem nmX2 : ∀ a, a < 5 → ∀ b, b < 5 → a ≠ b → (TX2 a).2.1 ≠ (TX2 b).2.1 := by decide +kernel
theorem tyX2_ok : ∀ k, k < 5 → parseFieldDescriptor (TX2 k).2.2.1 = some (tyX2 k) := by decide +kernel
abbrev cX2_init : ByteArray := prog_4_method_1_code
def yX2_init : MethodName := ⟨RX2, "<init>", "()V"⟩
abbrev cX2_clear : ByteArray := prog_4_method_2_code
def yX2_clear : MethodName := ⟨RX2, "clear", "(I)V"⟩
abbrev cX2_objectTotal : ByteArray := prog_4_method_4_code
def yX2_objectTotal : MethodName := ⟨RX2, "objectTotal", "()I"⟩
abbrev cX2_arrowTotal : ByteArray := prog_4_method_5_code
def yX2_arrowTotal : MethodName := ⟨RX2, "arrowTotal", "()I"⟩
abbrev cX2_hasArrow : ByteArray := prog_4_method_7_code
def yX2_hasArrow : MethodName := ⟨RX2, "hasArrow", "(I)Z"⟩
abbrev cX2_from : ByteArray := prog_4_method_8_code
def yX2_from : MethodName := ⟨RX2, "from", "(I)I"⟩
abbrev cX2_to : ByteArray := prog_4_method_9_code
def yX2_to : MethodName := ⟨RX2, "to", "(I)I"⟩
def RX3 : String := "ArrowDiagrams$Grid"
def TX3 : u_T := fun k => match k with
  | 0 => ("ArrowDiagrams$Grid", "rows", "I", true)
  | 1 => ("ArrowDiagrams$Grid", "columns", "I", true)
  | _ => ("ArrowDiagrams$Grid", "numbers", "[I", true)
def tyX3 : Nat → FieldType := fun k => match k with
  | 0 => .int
  | 1 => .int
  | _ => .array .int
abbrev wsX30 : List Cond := u_ws RX3 TX3 3
theorem nmX3 : ∀ a, a < 3 → ∀ b, b < 3 → a ≠ b → (TX3 a).2.1 ≠ (TX3 b).2.1 := by decide +kernel
theorem tyX3_ok : ∀ k, k < 3 → parseFieldDescriptor (TX3 k).2.2.1 = some (tyX3 k) := by decide +kernel
abbrev cX3_init : ByteArray := prog_5_method_1_code
def yX3_init : MethodName := ⟨RX3, "<init>", "(II)V"⟩
abbrev cX3_get : ByteArray := prog_5_method_2_code
def yX3_get : MethodName := ⟨RX3, "get", "(II)I"⟩
abbrev cX3_set : ByteArray := prog_5_method_3_code
def yX3_set : MethodName := ⟨RX3, "set", "(III)V"⟩
def RX4 : String := "ArrowDiagrams$Input"
def TX4 : u_T := fun k => match k with
  | 0 => ("ArrowDiagrams$Input", "length", "I", false)
  | _ => ("ArrowDiagrams$Input", "codes", "LArrowDiagrams$Row;", true)
def tyX4 : Nat → FieldType := fun k => match k with
  | 0 => .int
  | _ => .object "ArrowDiagrams$Row"
abbrev wsX40 : List Cond := u_ws RX4 TX4 2
theorem nmX4 : ∀ a, a < 2 → ∀ b, b < 2 → a ≠ b → (TX4 a).2.1 ≠ (TX4 b).2.1 := by decide +kernel
theorem tyX4_ok : ∀ k, k < 2 → parseFieldDescriptor (TX4 k).2.2.1 = some (tyX4 k) := by decide +kernel
abbrev cX4_init : ByteArray := prog_6_method_1_code
def yX4_init : MethodName := ⟨RX4, "<init>", "()V"⟩
def RX5 : String := "ArrowDiagrams$Pasting"
def TX5 : u_T := fun k => match k with
  | 0 => ("ArrowDiagrams$Pasting", "fresh", "Z", false)
  | 1 => ("ArrowDiagrams$Pasting", "coreFresh", "Z", false)
  | 2 => ("ArrowDiagrams$Pasting", "sides", "I", false)
  | 3 => ("ArrowDiagrams$Pasting", "classes", "I", false)
  | 4 => ("ArrowDiagrams$Pasting", "core", "I", false)
  | 5 => ("ArrowDiagrams$Pasting", "reached", "I", false)
  | 6 => ("ArrowDiagrams$Pasting", "steps", "LArrowDiagrams$Grid;", true)
  | 7 => ("ArrowDiagrams$Pasting", "names", "LArrowDiagrams$Row;", true)
  | 8 => ("ArrowDiagrams$Pasting", "classSizes", "LArrowDiagrams$Row;", true)
  | 9 => ("ArrowDiagrams$Pasting", "distances", "LArrowDiagrams$Row;", true)
  | 10 => ("ArrowDiagrams$Pasting", "queue", "LArrowDiagrams$Row;", true)
  | _ => ("ArrowDiagrams$Pasting", "perPair", "LArrowDiagrams$Grid;", true)
def tyX5 : Nat → FieldType := fun k => match k with
  | 0 => .boolean
  | 1 => .boolean
  | 2 => .int
  | 3 => .int
  | 4 => .int
  | 5 => .int
  | 6 => .object "ArrowDiagrams$Grid"
  | 7 => .object "ArrowDiagrams$Row"
  | 8 => .object "ArrowDiagrams$Row"
  | 9 => .object "ArrowDiagrams$Row"
  | 10 => .object "ArrowDiagrams$Row"
  | _ => .object "ArrowDiagrams$Grid"
abbrev wsX50 : List Cond := u_ws RX5 TX5 12
theorem nmX5 : ∀ a, a < 12 → ∀ b, b < 12 → a ≠ b → (TX5 a).2.1 ≠ (TX5 b).2.1 := by decide +kernel
theorem tyX5_ok : ∀ k, k < 12 → parseFieldDescriptor (TX5 k).2.2.1 = some (tyX5 k) := by decide +kernel
abbrev cX5_init : ByteArray := prog_7_method_1_code
def yX5_init : MethodName := ⟨RX5, "<init>", "()V"⟩
abbrev cX5_forget : ByteArray := prog_7_method_2_code
def yX5_forget : MethodName := ⟨RX5, "forget", "()V"⟩
def RX6 : String := "ArrowDiagrams$Paths"
def TX6 : u_T := fun k => match k with
  | 0 => ("ArrowDiagrams$Paths", "total", "I", false)
  | 1 => ("ArrowDiagrams$Paths", "start", "LArrowDiagrams$Row;", true)
  | 2 => ("ArrowDiagrams$Paths", "end", "LArrowDiagrams$Row;", true)
  | 3 => ("ArrowDiagrams$Paths", "length", "LArrowDiagrams$Row;", true)
  | 4 => ("ArrowDiagrams$Paths", "arrow", "LArrowDiagrams$Grid;", true)
  | 5 => ("ArrowDiagrams$Paths", "shorter", "LArrowDiagrams$Row;", true)
  | _ => ("ArrowDiagrams$Paths", "longer", "LArrowDiagrams$Grid;", true)
def tyX6 : Nat → FieldType := fun k => match k with
  | 0 => .int
  | 1 => .object "ArrowDiagrams$Row"
  | 2 => .object "ArrowDiagrams$Row"
  | 3 => .object "ArrowDiagrams$Row"
  | 4 => .object "ArrowDiagrams$Grid"
  | 5 => .object "ArrowDiagrams$Row"
  | _ => .object "ArrowDiagrams$Grid"
abbrev wsX60 : List Cond := u_ws RX6 TX6 7
theorem nmX6 : ∀ a, a < 7 → ∀ b, b < 7 → a ≠ b → (TX6 a).2.1 ≠ (TX6 b).2.1 := by decide +kernel
theorem tyX6_ok : ∀ k, k < 7 → parseFieldDescriptor (TX6 k).2.2.1 = some (tyX6 k) := by decide +kernel
abbrev cX6_init : ByteArray := prog_8_method_1_code
def yX6_init : MethodName := ⟨RX6, "<init>", "()V"⟩
abbrev cX6_rebuild : ByteArray := prog_8_method_2_code
def yX6_rebuild : MethodName := ⟨RX6, "rebuild", "(LArrowDiagrams$Graph;)V"⟩
abbrev cX6_enter : ByteArray := prog_8_method_6_code
def yX6_enter : MethodName := ⟨RX6, "enter", "(IIII)V"⟩
abbrev cX6_enterLonger : ByteArray := prog_8_method_7_code
def yX6_enterLonger : MethodName := ⟨RX6, "enterLonger", "(III)V"⟩
def RX7 : String := "ArrowDiagrams$Reader"
def TX7 : u_T := fun k => match k with
  | 0 => ("ArrowDiagrams$Reader", "graph", "LArrowDiagrams$Graph;", true)
  | 1 => ("ArrowDiagrams$Reader", "cells", "LArrowDiagrams$Cells;", true)
  | 2 => ("ArrowDiagrams$Reader", "place", "I", false)
  | 3 => ("ArrowDiagrams$Reader", "from", "I", false)
  | 4 => ("ArrowDiagrams$Reader", "end", "I", false)
  | _ => ("ArrowDiagrams$Reader", "firstEnd", "I", false)
def tyX7 : Nat → FieldType := fun k => match k with
  | 0 => .object "ArrowDiagrams$Graph"
  | 1 => .object "ArrowDiagrams$Cells"
  | 2 => .int
  | 3 => .int
  | 4 => .int
  | _ => .int
abbrev wsX70 : List Cond := u_ws RX7 TX7 6
theorem nmX7 : ∀ a, a < 6 → ∀ b, b < 6 → a ≠ b → (TX7 a).2.1 ≠ (TX7 b).2.1 := by decide +kernel
theorem tyX7_ok : ∀ k, k < 6 → parseFieldDescriptor (TX7 k).2.2.1 = some (tyX7 k) := by decide +kernel
abbrev cX7_init : ByteArray := prog_9_method_1_code
def yX7_init : MethodName := ⟨RX7, "<init>", "()V"⟩
def RX8 : String := "ArrowDiagrams$Row"
def TX8 : u_T := fun k => match k with
  | _ => ("ArrowDiagrams$Row", "numbers", "[I", true)
def tyX8 : Nat → FieldType := fun k => match k with
  | _ => .array .int
abbrev wsX80 : List Cond := u_ws RX8 TX8 1
theorem nmX8 : ∀ a, a < 1 → ∀ b, b < 1 → a ≠ b → (TX8 a).2.1 ≠ (TX8 b).2.1 := by decide +kernel
theorem tyX8_ok : ∀ k, k < 1 → parseFieldDescriptor (TX8 k).2.2.1 = some (tyX8 k) := by decide +kernel
abbrev cX8_init : ByteArray := prog_10_method_1_code
def yX8_init : MethodName := ⟨RX8, "<init>", "(I)V"⟩
abbrev cX8_get : ByteArray := prog_10_method_2_code
def yX8_get : MethodName := ⟨RX8, "get", "(I)I"⟩
abbrev cX8_set : ByteArray := prog_10_method_3_code
def yX8_set : MethodName := ⟨RX8, "set", "(II)V"⟩
abbrev cX8_fill : ByteArray := prog_10_method_4_code
def yX8_fill : MethodName := ⟨RX8, "fill", "(I)V"⟩
def RX9 : String := "ArrowDiagrams"
def TX9 : u_T := fun k => match k with
  | 0 => ("ArrowDiagrams", "graph", "LArrowDiagrams$Graph;", true)
  | 1 => ("ArrowDiagrams", "cells", "LArrowDiagrams$Cells;", true)
  | 2 => ("ArrowDiagrams", "paths", "LArrowDiagrams$Paths;", true)
  | 3 => ("ArrowDiagrams", "pasting", "LArrowDiagrams$Pasting;", true)
  | 4 => ("ArrowDiagrams", "functions", "LArrowDiagrams$Functions;", true)
  | 5 => ("ArrowDiagrams", "trial", "LArrowDiagrams$Functions;", true)
  | 6 => ("ArrowDiagrams", "input", "LArrowDiagrams$Input;", true)
  | _ => ("ArrowDiagrams", "reader", "LArrowDiagrams$Reader;", true)
def tyX9 : Nat → FieldType := fun k => match k with
  | 0 => .object "ArrowDiagrams$Graph"
  | 1 => .object "ArrowDiagrams$Cells"
  | 2 => .object "ArrowDiagrams$Paths"
  | 3 => .object "ArrowDiagrams$Pasting"
  | 4 => .object "ArrowDiagrams$Functions"
  | 5 => .object "ArrowDiagrams$Functions"
  | 6 => .object "ArrowDiagrams$Input"
  | _ => .object "ArrowDiagrams$Reader"
abbrev wsX90 : List Cond := u_ws RX9 TX9 8
theorem nmX9 : ∀ a, a < 8 → ∀ b, b < 8 → a ≠ b → (TX9 a).2.1 ≠ (TX9 b).2.1 := by decide +kernel
theorem tyX9_ok : ∀ k, k < 8 → parseFieldDescriptor (TX9 k).2.2.1 = some (tyX9 k) := by decide +kernel
abbrev cX9_init : ByteArray := prog_1_method_1_code
def yX9_init : MethodName := ⟨RX9, "<init>", "()V"⟩
abbrev cX9_graphChanged : ByteArray := prog_1_method_29_code
def yX9_graphChanged : MethodName := ⟨RX9, "graphChanged", "()V"⟩
abbrev cX9_cellsChanged : ByteArray := prog_1_method_30_code
def yX9_cellsChanged : MethodName := ⟨RX9, "cellsChanged", "()V"⟩
def RX10 : String := "ArrowDiagramsModel"
def TX10 : u_T := fun k => match k with
  | 0 => ("ArrowDiagramsModel", "thrown", "I", false)
  | 1 => ("ArrowDiagramsModel", "n", "I", false)
  | 2 => ("ArrowDiagramsModel", "m", "I", false)
  | 3 => ("ArrowDiagramsModel", "af", "[I", true)
  | 4 => ("ArrowDiagramsModel", "at", "[I", true)
  | 5 => ("ArrowDiagramsModel", "code", "[I", true)
  | 6 => ("ArrowDiagramsModel", "size", "[I", true)
  | 7 => ("ArrowDiagramsModel", "cells", "I", false)
  | 8 => ("ArrowDiagramsModel", "cFrom", "[I", true)
  | 9 => ("ArrowDiagramsModel", "cLen", "[I", true)
  | 10 => ("ArrowDiagramsModel", "cSeq", "[I", true)
  | 11 => ("ArrowDiagramsModel", "length", "I", false)
  | 12 => ("ArrowDiagramsModel", "buffer", "[I", true)
  | 13 => ("ArrowDiagramsModel", "paths", "I", false)
  | 14 => ("ArrowDiagramsModel", "pFrom", "[I", true)
  | 15 => ("ArrowDiagramsModel", "pTo", "[I", true)
  | 16 => ("ArrowDiagramsModel", "pLen", "[I", true)
  | 17 => ("ArrowDiagramsModel", "pSeq", "[I", true)
  | 18 => ("ArrowDiagramsModel", "on", "[I", true)
  | 19 => ("ArrowDiagramsModel", "place", "I", false)
  | 20 => ("ArrowDiagramsModel", "readArrows", "I", false)
  | 21 => ("ArrowDiagramsModel", "readCells", "I", false)
  | 22 => ("ArrowDiagramsModel", "items", "I", false)
  | 23 => ("ArrowDiagramsModel", "end", "I", false)
  | 24 => ("ArrowDiagramsModel", "firstEnd", "I", false)
  | 25 => ("ArrowDiagramsModel", "far", "[I", true)
  | 26 => ("ArrowDiagramsModel", "names", "[I", true)
  | 27 => ("ArrowDiagramsModel", "line", "[I", true)
  | 28 => ("ArrowDiagramsModel", "stepCell", "I", false)
  | 29 => ("ArrowDiagramsModel", "oldCode", "[I", true)
  | 30 => ("ArrowDiagramsModel", "oldSize", "[I", true)
  | _ => ("ArrowDiagramsModel", "hash", "J", false)
def tyX10 : Nat → FieldType := fun k => match k with
  | 0 => .int
  | 1 => .int
  | 2 => .int
  | 3 => .array .int
  | 4 => .array .int
  | 5 => .array .int
  | 6 => .array .int
  | 7 => .int
  | 8 => .array .int
  | 9 => .array .int
  | 10 => .array .int
  | 11 => .int
  | 12 => .array .int
  | 13 => .int
  | 14 => .array .int
  | 15 => .array .int
  | 16 => .array .int
  | 17 => .array .int
  | 18 => .array .int
  | 19 => .int
  | 20 => .int
  | 21 => .int
  | 22 => .int
  | 23 => .int
  | 24 => .int
  | 25 => .array .int
  | 26 => .array .int
  | 27 => .array .int
  | 28 => .int
  | 29 => .array .int
  | 30 => .array .int
  | _ => .long
abbrev wsX100 : List Cond := u_ws RX10 TX10 32
theorem nmX10 : ∀ a, a < 32 → ∀ b, b < 32 → a ≠ b → (TX10 a).2.1 ≠ (TX10 b).2.1 := by decide +kernel
theorem tyX10_ok : ∀ k, k < 32 → parseFieldDescriptor (TX10 k).2.2.1 = some (tyX10 k) := by decide +kernel
abbrev cX10_init : ByteArray := prog_12_method_1_code
def yX10_init : MethodName := ⟨RX10, "<init>", "()V"⟩
abbrev cX10_fresh : ByteArray := prog_12_method_6_code
def yX10_fresh : MethodName := ⟨RX10, "fresh", "(I)V"⟩
abbrev cX10_putPath : ByteArray := prog_12_method_7_code
def yX10_putPath : MethodName := ⟨RX10, "putPath", "(III)V"⟩
abbrev cX10_goOn : ByteArray := prog_12_method_8_code
def yX10_goOn : MethodName := ⟨RX10, "goOn", "(II)V"⟩
abbrev cX10_layPaths : ByteArray := prog_12_method_9_code
def yX10_layPaths : MethodName := ⟨RX10, "layPaths", "()Z"⟩
def RL : String := "ArrowDiagramsLaw"
abbrev cL_law : ByteArray := code
abbrev vwCl : List vw_C := [(RX0, TX0, 5), (RX1, TX1, 2), (RX2, TX2, 5), (RX3, TX3, 3), (RX4, TX4, 2), (RX5, TX5, 12), (RX6, TX6, 7), (RX7, TX7, 6), (RX8, TX8, 1), (RX9, TX9, 8), (RX10, TX10, 32)]
/-! the words that every method's contract asks for: all of the tables' that hold anywhere -/
def BW : List Cond := lw_tbl.filter goodWord
theorem bw_mem {w : Cond} (i : Nat) (h : lw_tbl[i]? = some w) (hg : goodWord w = true) : w ∈ BW := List.mem_filter.mpr ⟨List.mem_of_getElem? h, hg⟩
theorem bw_in {w : Cond} (h : w ∈ BW) : w ∈ lw_tbl := (List.mem_filter.mp h).1
theorem bw_good {w : Cond} (h : w ∈ BW) : goodWord w = true := (List.mem_filter.mp h).2
theorem bw_all {ws : List Cond} (h : ws.all (fun w => decide (w ∈ lw_tbl) && goodWord w) = true) : ∀ w ∈ ws, w ∈ BW := fun w hw => by
  have h1 := List.all_eq_true.mp h w hw
  rw [Bool.and_eq_true, decide_eq_true_eq] at h1
  exact List.mem_filter.mpr h1
theorem iX0 : ∀ w ∈ wsX00, w ∈ BW := bw_all (by decide +kernel)
theorem iX1 : ∀ w ∈ wsX10, w ∈ BW := bw_all (by decide +kernel)
theorem iX2 : ∀ w ∈ wsX20, w ∈ BW := bw_all (by decide +kernel)
theorem iX3 : ∀ w ∈ wsX30, w ∈ BW := bw_all (by decide +kernel)
theorem iX4 : ∀ w ∈ wsX40, w ∈ BW := bw_all (by decide +kernel)
theorem iX5 : ∀ w ∈ wsX50, w ∈ BW := bw_all (by decide +kernel)
theorem iX6 : ∀ w ∈ wsX60, w ∈ BW := bw_all (by decide +kernel)
theorem iX7 : ∀ w ∈ wsX70, w ∈ BW := bw_all (by decide +kernel)
theorem iX8 : ∀ w ∈ wsX80, w ∈ BW := bw_all (by decide +kernel)
theorem iX9 : ∀ w ∈ wsX90, w ∈ BW := bw_all (by decide +kernel)
theorem iX10 : ∀ w ∈ wsX100, w ∈ BW := bw_all (by decide +kernel)
end
section
/-! p27: the claim is false as printed (its room): made by wip/refute/port.py out of whole's rows -/
theorem dX0_init_0 : decode cX0_init 0 = .ok (.aload_n 0, 1) := by decide +kernel
theorem dX0_init_1 : decode cX0_init 1 = .ok (.invokespecial 3, 3) := by decide +kernel
theorem dX0_init_4 : decode cX0_init 4 = .ok (.aload_n 0, 1) := by decide +kernel
theorem dX0_init_5 : decode cX0_init 5 = .ok (.iconst 0, 1) := by decide +kernel
theorem dX0_init_6 : decode cX0_init 6 = .ok (.putfield 9, 3) := by decide +kernel
theorem dX0_init_9 : decode cX0_init 9 = .ok (.aload_n 0, 1) := by decide +kernel
theorem dX0_init_10 : decode cX0_init 10 = .ok (.new 15, 3) := by decide +kernel
theorem dX0_init_13 : decode cX0_init 13 = .ok (.dup, 1) := by decide +kernel
theorem dX0_init_14 : decode cX0_init 14 = .ok (.bipush 10, 2) := by decide +kernel
theorem dX0_init_16 : decode cX0_init 16 = .ok (.invokespecial 17, 3) := by decide +kernel
theorem dX0_init_19 : decode cX0_init 19 = .ok (.putfield 20, 3) := by decide +kernel
theorem dX0_init_22 : decode cX0_init 22 = .ok (.aload_n 0, 1) := by decide +kernel
theorem dX0_init_23 : decode cX0_init 23 = .ok (.new 15, 3) := by decide +kernel
theorem dX0_init_26 : decode cX0_init 26 = .ok (.dup, 1) := by decide +kernel
theorem dX0_init_27 : decode cX0_init 27 = .ok (.bipush 20, 2) := by decide +kernel
theorem dX0_init_29 : decode cX0_init 29 = .ok (.invokespecial 17, 3) := by decide +kernel
theorem dX0_init_32 : decode cX0_init 32 = .ok (.putfield 24, 3) := by decide +kernel
theorem dX0_init_35 : decode cX0_init 35 = .ok (.aload_n 0, 1) := by decide +kernel
theorem dX0_init_36 : decode cX0_init 36 = .ok (.new 27, 3) := by decide +kernel
theorem dX0_init_39 : decode cX0_init 39 = .ok (.dup, 1) := by decide +kernel
theorem dX0_init_40 : decode cX0_init 40 = .ok (.bipush 20, 2) := by decide +kernel
theorem dX0_init_42 : decode cX0_init 42 = .ok (.bipush 7, 2) := by decide +kernel
theorem dX0_init_44 : decode cX0_init 44 = .ok (.invokespecial 29, 3) := by decide +kernel
theorem dX0_init_47 : decode cX0_init 47 = .ok (.putfield 32, 3) := by decide +kernel
theorem dX0_init_50 : decode cX0_init 50 = .ok (.aload_n 0, 1) := by decide +kernel
theorem dX0_init_51 : decode cX0_init 51 = .ok (.new 15, 3) := by decide +kernel
theorem dX0_init_54 : decode cX0_init 54 = .ok (.dup, 1) := by decide +kernel
theorem dX0_init_55 : decode cX0_init 55 = .ok (.bipush 20, 2) := by decide +kernel
theorem dX0_init_57 : decode cX0_init 57 = .ok (.invokespecial 17, 3) := by decide +kernel
theorem dX0_init_60 : decode cX0_init 60 = .ok (.putfield 36, 3) := by decide +kernel
theorem dX0_init_63 : decode cX0_init 63 = .ok (.return_, 1) := by decide +kernel
theorem dX0_renumber_0 : decode cX0_renumber 0 = .ok (.iconst 0, 1) := by decide +kernel
theorem dX0_renumber_1 : decode cX0_renumber 1 = .ok (.istore_n 2, 1) := by decide +kernel
theorem dX0_renumber_2 : decode cX0_renumber 2 = .ok (.iload_n 2, 1) := by decide +kernel
theorem dX0_renumber_3 : decode cX0_renumber 3 = .ok (.iconst 2, 1) := by decide +kernel
theorem dX0_renumber_4 : decode cX0_renumber 4 = .ok (.aload_n 0, 1) := by decide +kernel
theorem dX0_renumber_5 : decode cX0_renumber 5 = .ok (.getfield 9, 3) := by decide +kernel
theorem dX0_renumber_8 : decode cX0_renumber 8 = .ok (.imul, 1) := by decide +kernel
theorem dX0_renumber_9 : decode cX0_renumber 9 = .ok (.if_icmp .ge 70, 3) := by decide +kernel
theorem dX0_renumber_12 : decode cX0_renumber 12 = .ok (.aload_n 0, 1) := by decide +kernel
theorem dX0_renumber_13 : decode cX0_renumber 13 = .ok (.getfield 20, 3) := by decide +kernel
theorem dX0_renumber_16 : decode cX0_renumber 16 = .ok (.iload_n 2, 1) := by decide +kernel
theorem dX0_renumber_17 : decode cX0_renumber 17 = .ok (.iconst 2, 1) := by decide +kernel
theorem dX0_renumber_18 : decode cX0_renumber 18 = .ok (.idiv, 1) := by decide +kernel
theorem dX0_renumber_19 : decode cX0_renumber 19 = .ok (.invokevirtual 49, 3) := by decide +kernel
theorem dX0_renumber_22 : decode cX0_renumber 22 = .ok (.istore_n 3, 1) := by decide +kernel
theorem dX0_renumber_23 : decode cX0_renumber 23 = .ok (.iconst 0, 1) := by decide +kernel
theorem dX0_renumber_24 : decode cX0_renumber 24 = .ok (.istore 4, 2) := by decide +kernel
theorem dX0_renumber_26 : decode cX0_renumber 26 = .ok (.iload 4, 2) := by decide +kernel
theorem dX0_renumber_28 : decode cX0_renumber 28 = .ok (.aload_n 0, 1) := by decide +kernel
theorem dX0_renumber_29 : decode cX0_renumber 29 = .ok (.getfield 24, 3) := by decide +kernel
theorem dX0_renumber_32 : decode cX0_renumber 32 = .ok (.iload_n 2, 1) := by decide +kernel
theorem dX0_renumber_33 : decode cX0_renumber 33 = .ok (.invokevirtual 49, 3) := by decide +kernel
theorem dX0_renumber_36 : decode cX0_renumber 36 = .ok (.if_icmp .ge 28, 3) := by decide +kernel
theorem dX0_renumber_39 : decode cX0_renumber 39 = .ok (.aload_n 1, 1) := by decide +kernel
theorem dX0_renumber_40 : decode cX0_renumber 40 = .ok (.getfield 63, 3) := by decide +kernel
theorem dX0_renumber_43 : decode cX0_renumber 43 = .ok (.iload_n 3, 1) := by decide +kernel
theorem dX0_renumber_44 : decode cX0_renumber 44 = .ok (.aload_n 0, 1) := by decide +kernel
theorem dX0_renumber_45 : decode cX0_renumber 45 = .ok (.getfield 32, 3) := by decide +kernel
theorem dX0_renumber_48 : decode cX0_renumber 48 = .ok (.iload_n 2, 1) := by decide +kernel
theorem dX0_renumber_49 : decode cX0_renumber 49 = .ok (.iload 4, 2) := by decide +kernel
theorem dX0_renumber_51 : decode cX0_renumber 51 = .ok (.invokevirtual 68, 3) := by decide +kernel
theorem dX0_renumber_54 : decode cX0_renumber 54 = .ok (.invokevirtual 68, 3) := by decide +kernel
theorem dX0_renumber_57 : decode cX0_renumber 57 = .ok (.istore_n 3, 1) := by decide +kernel
theorem dX0_renumber_58 : decode cX0_renumber 58 = .ok (.iinc 4 1, 3) := by decide +kernel
theorem dX0_renumber_61 : decode cX0_renumber 61 = .ok (.goto (-35), 3) := by decide +kernel
theorem dX0_renumber_64 : decode cX0_renumber 64 = .ok (.aload_n 0, 1) := by decide +kernel
theorem dX0_renumber_65 : decode cX0_renumber 65 = .ok (.getfield 36, 3) := by decide +kernel
theorem dX0_renumber_68 : decode cX0_renumber 68 = .ok (.iload_n 2, 1) := by decide +kernel
theorem dX0_renumber_69 : decode cX0_renumber 69 = .ok (.iload_n 3, 1) := by decide +kernel
theorem dX0_renumber_70 : decode cX0_renumber 70 = .ok (.invokevirtual 46, 3) := by decide +kernel
theorem dX0_renumber_73 : decode cX0_renumber 73 = .ok (.iinc 2 1, 3) := by decide +kernel
theorem dX0_renumber_76 : decode cX0_renumber 76 = .ok (.goto (-74), 3) := by decide +kernel
theorem dX0_renumber_79 : decode cX0_renumber 79 = .ok (.return_, 1) := by decide +kernel
theorem dX1_init_0 : decode cX1_init 0 = .ok (.aload_n 0, 1) := by decide +kernel
theorem dX1_init_1 : decode cX1_init 1 = .ok (.invokespecial 3, 3) := by decide +kernel
theorem dX1_init_4 : decode cX1_init 4 = .ok (.aload_n 0, 1) := by decide +kernel
theorem dX1_init_5 : decode cX1_init 5 = .ok (.new 9, 3) := by decide +kernel
theorem dX1_init_8 : decode cX1_init 8 = .ok (.dup, 1) := by decide +kernel
theorem dX1_init_9 : decode cX1_init 9 = .ok (.bipush 8, 2) := by decide +kernel
theorem dX1_init_11 : decode cX1_init 11 = .ok (.invokespecial 11, 3) := by decide +kernel
theorem dX1_init_14 : decode cX1_init 14 = .ok (.putfield 14, 3) := by decide +kernel
theorem dX1_init_17 : decode cX1_init 17 = .ok (.aload_n 0, 1) := by decide +kernel
theorem dX1_init_18 : decode cX1_init 18 = .ok (.new 9, 3) := by decide +kernel
theorem dX1_init_21 : decode cX1_init 21 = .ok (.dup, 1) := by decide +kernel
theorem dX1_init_22 : decode cX1_init 22 = .ok (.bipush 14, 2) := by decide +kernel
theorem dX1_init_24 : decode cX1_init 24 = .ok (.invokespecial 11, 3) := by decide +kernel
theorem dX1_init_27 : decode cX1_init 27 = .ok (.putfield 20, 3) := by decide +kernel
theorem dX1_init_30 : decode cX1_init 30 = .ok (.return_, 1) := by decide +kernel
theorem dX1_clear_0 : decode cX1_clear 0 = .ok (.aload_n 0, 1) := by decide +kernel
theorem dX1_clear_1 : decode cX1_clear 1 = .ok (.getfield 14, 3) := by decide +kernel
theorem dX1_clear_4 : decode cX1_clear 4 = .ok (.iconst 2, 1) := by decide +kernel
theorem dX1_clear_5 : decode cX1_clear 5 = .ok (.invokevirtual 23, 3) := by decide +kernel
theorem dX1_clear_8 : decode cX1_clear 8 = .ok (.return_, 1) := by decide +kernel
theorem dX2_init_0 : decode cX2_init 0 = .ok (.aload_n 0, 1) := by decide +kernel
theorem dX2_init_1 : decode cX2_init 1 = .ok (.invokespecial 3, 3) := by decide +kernel
theorem dX2_init_4 : decode cX2_init 4 = .ok (.aload_n 0, 1) := by decide +kernel
theorem dX2_init_5 : decode cX2_init 5 = .ok (.iconst 0, 1) := by decide +kernel
theorem dX2_init_6 : decode cX2_init 6 = .ok (.putfield 9, 3) := by decide +kernel
theorem dX2_init_9 : decode cX2_init 9 = .ok (.aload_n 0, 1) := by decide +kernel
theorem dX2_init_10 : decode cX2_init 10 = .ok (.iconst 0, 1) := by decide +kernel
theorem dX2_init_11 : decode cX2_init 11 = .ok (.putfield 15, 3) := by decide +kernel
theorem dX2_init_14 : decode cX2_init 14 = .ok (.aload_n 0, 1) := by decide +kernel
theorem dX2_init_15 : decode cX2_init 15 = .ok (.new 18, 3) := by decide +kernel
theorem dX2_init_18 : decode cX2_init 18 = .ok (.dup, 1) := by decide +kernel
theorem dX2_init_19 : decode cX2_init 19 = .ok (.bipush 14, 2) := by decide +kernel
theorem dX2_init_21 : decode cX2_init 21 = .ok (.invokespecial 20, 3) := by decide +kernel
theorem dX2_init_24 : decode cX2_init 24 = .ok (.putfield 23, 3) := by decide +kernel
theorem dX2_init_27 : decode cX2_init 27 = .ok (.aload_n 0, 1) := by decide +kernel
theorem dX2_init_28 : decode cX2_init 28 = .ok (.new 18, 3) := by decide +kernel
theorem dX2_init_31 : decode cX2_init 31 = .ok (.dup, 1) := by decide +kernel
theorem dX2_init_32 : decode cX2_init 32 = .ok (.bipush 14, 2) := by decide +kernel
theorem dX2_init_34 : decode cX2_init 34 = .ok (.invokespecial 20, 3) := by decide +kernel
theorem dX2_init_37 : decode cX2_init 37 = .ok (.putfield 27, 3) := by decide +kernel
theorem dX2_init_40 : decode cX2_init 40 = .ok (.aload_n 0, 1) := by decide +kernel
theorem dX2_init_41 : decode cX2_init 41 = .ok (.new 18, 3) := by decide +kernel
theorem dX2_init_44 : decode cX2_init 44 = .ok (.dup, 1) := by decide +kernel
theorem dX2_init_45 : decode cX2_init 45 = .ok (.bipush 8, 2) := by decide +kernel
theorem dX2_init_47 : decode cX2_init 47 = .ok (.invokespecial 20, 3) := by decide +kernel
theorem dX2_init_50 : decode cX2_init 50 = .ok (.putfield 30, 3) := by decide +kernel
theorem dX2_init_53 : decode cX2_init 53 = .ok (.return_, 1) := by decide +kernel
theorem dX2_clear_0 : decode cX2_clear 0 = .ok (.aload_n 0, 1) := by decide +kernel
theorem dX2_clear_1 : decode cX2_clear 1 = .ok (.iload_n 1, 1) := by decide +kernel
theorem dX2_clear_2 : decode cX2_clear 2 = .ok (.putfield 9, 3) := by decide +kernel
theorem dX2_clear_5 : decode cX2_clear 5 = .ok (.aload_n 0, 1) := by decide +kernel
theorem dX2_clear_6 : decode cX2_clear 6 = .ok (.iconst 0, 1) := by decide +kernel
theorem dX2_clear_7 : decode cX2_clear 7 = .ok (.putfield 15, 3) := by decide +kernel
theorem dX2_clear_10 : decode cX2_clear 10 = .ok (.return_, 1) := by decide +kernel
theorem dX2_objectTotal_0 : decode cX2_objectTotal 0 = .ok (.aload_n 0, 1) := by decide +kernel
theorem dX2_objectTotal_1 : decode cX2_objectTotal 1 = .ok (.getfield 9, 3) := by decide +kernel
theorem dX2_objectTotal_4 : decode cX2_objectTotal 4 = .ok (.ireturn, 1) := by decide +kernel
theorem dX2_arrowTotal_0 : decode cX2_arrowTotal 0 = .ok (.aload_n 0, 1) := by decide +kernel
theorem dX2_arrowTotal_1 : decode cX2_arrowTotal 1 = .ok (.getfield 15, 3) := by decide +kernel
theorem dX2_arrowTotal_4 : decode cX2_arrowTotal 4 = .ok (.ireturn, 1) := by decide +kernel
theorem dX2_hasArrow_0 : decode cX2_hasArrow 0 = .ok (.iload_n 1, 1) := by decide +kernel
theorem dX2_hasArrow_1 : decode cX2_hasArrow 1 = .ok (.ifCond .lt 15, 3) := by decide +kernel
theorem dX2_hasArrow_4 : decode cX2_hasArrow 4 = .ok (.iload_n 1, 1) := by decide +kernel
theorem dX2_hasArrow_5 : decode cX2_hasArrow 5 = .ok (.aload_n 0, 1) := by decide +kernel
theorem dX2_hasArrow_6 : decode cX2_hasArrow 6 = .ok (.getfield 15, 3) := by decide +kernel
theorem dX2_hasArrow_9 : decode cX2_hasArrow 9 = .ok (.if_icmp .ge 7, 3) := by decide +kernel
theorem dX2_hasArrow_12 : decode cX2_hasArrow 12 = .ok (.iconst 1, 1) := by decide +kernel
theorem dX2_hasArrow_13 : decode cX2_hasArrow 13 = .ok (.goto 4, 3) := by decide +kernel
theorem dX2_hasArrow_16 : decode cX2_hasArrow 16 = .ok (.iconst 0, 1) := by decide +kernel
theorem dX2_hasArrow_17 : decode cX2_hasArrow 17 = .ok (.ireturn, 1) := by decide +kernel
theorem dX2_from_0 : decode cX2_from 0 = .ok (.aload_n 0, 1) := by decide +kernel
theorem dX2_from_1 : decode cX2_from 1 = .ok (.iload_n 1, 1) := by decide +kernel
theorem dX2_from_2 : decode cX2_from 2 = .ok (.invokevirtual 37, 3) := by decide +kernel
theorem dX2_from_5 : decode cX2_from 5 = .ok (.ifCond .eq 14, 3) := by decide +kernel
theorem dX2_from_8 : decode cX2_from 8 = .ok (.aload_n 0, 1) := by decide +kernel
theorem dX2_from_9 : decode cX2_from 9 = .ok (.getfield 23, 3) := by decide +kernel
theorem dX2_from_12 : decode cX2_from 12 = .ok (.iload_n 1, 1) := by decide +kernel
theorem dX2_from_13 : decode cX2_from 13 = .ok (.invokevirtual 41, 3) := by decide +kernel
theorem dX2_from_16 : decode cX2_from 16 = .ok (.goto 4, 3) := by decide +kernel
theorem dX2_from_19 : decode cX2_from 19 = .ok (.iconst (-1), 1) := by decide +kernel
theorem dX2_from_20 : decode cX2_from 20 = .ok (.ireturn, 1) := by decide +kernel
theorem dX2_to_0 : decode cX2_to 0 = .ok (.aload_n 0, 1) := by decide +kernel
theorem dX2_to_1 : decode cX2_to 1 = .ok (.iload_n 1, 1) := by decide +kernel
theorem dX2_to_2 : decode cX2_to 2 = .ok (.invokevirtual 37, 3) := by decide +kernel
theorem dX2_to_5 : decode cX2_to 5 = .ok (.ifCond .eq 14, 3) := by decide +kernel
theorem dX2_to_8 : decode cX2_to 8 = .ok (.aload_n 0, 1) := by decide +kernel
theorem dX2_to_9 : decode cX2_to 9 = .ok (.getfield 27, 3) := by decide +kernel
theorem dX2_to_12 : decode cX2_to 12 = .ok (.iload_n 1, 1) := by decide +kernel
theorem dX2_to_13 : decode cX2_to 13 = .ok (.invokevirtual 41, 3) := by decide +kernel
theorem dX2_to_16 : decode cX2_to 16 = .ok (.goto 4, 3) := by decide +kernel
theorem dX2_to_19 : decode cX2_to 19 = .ok (.iconst (-1), 1) := by decide +kernel
theorem dX2_to_20 : decode cX2_to 20 = .ok (.ireturn, 1) := by decide +kernel
theorem dX3_init_0 : decode cX3_init 0 = .ok (.aload_n 0, 1) := by decide +kernel
theorem dX3_init_1 : decode cX3_init 1 = .ok (.invokespecial 3, 3) := by decide +kernel
theorem dX3_init_4 : decode cX3_init 4 = .ok (.aload_n 0, 1) := by decide +kernel
theorem dX3_init_5 : decode cX3_init 5 = .ok (.iload_n 1, 1) := by decide +kernel
theorem dX3_init_6 : decode cX3_init 6 = .ok (.ifCond .le 7, 3) := by decide +kernel
theorem dX3_init_9 : decode cX3_init 9 = .ok (.iload_n 1, 1) := by decide +kernel
theorem dX3_init_10 : decode cX3_init 10 = .ok (.goto 4, 3) := by decide +kernel
theorem dX3_init_14 : decode cX3_init 14 = .ok (.putfield 9, 3) := by decide +kernel
theorem dX3_init_17 : decode cX3_init 17 = .ok (.aload_n 0, 1) := by decide +kernel
theorem dX3_init_18 : decode cX3_init 18 = .ok (.iload_n 2, 1) := by decide +kernel
theorem dX3_init_19 : decode cX3_init 19 = .ok (.ifCond .le 7, 3) := by decide +kernel
theorem dX3_init_22 : decode cX3_init 22 = .ok (.iload_n 2, 1) := by decide +kernel
theorem dX3_init_23 : decode cX3_init 23 = .ok (.goto 4, 3) := by decide +kernel
theorem dX3_init_27 : decode cX3_init 27 = .ok (.putfield 15, 3) := by decide +kernel
theorem dX3_init_30 : decode cX3_init 30 = .ok (.aload_n 0, 1) := by decide +kernel
theorem dX3_init_31 : decode cX3_init 31 = .ok (.getfield 9, 3) := by decide +kernel
theorem dX3_init_34 : decode cX3_init 34 = .ok (.aload_n 0, 1) := by decide +kernel
theorem dX3_init_35 : decode cX3_init 35 = .ok (.getfield 15, 3) := by decide +kernel
theorem dX3_init_38 : decode cX3_init 38 = .ok (.imul, 1) := by decide +kernel
theorem dX3_init_39 : decode cX3_init 39 = .ok (.istore_n 3, 1) := by decide +kernel
theorem dX3_init_40 : decode cX3_init 40 = .ok (.aload_n 0, 1) := by decide +kernel
theorem dX3_init_41 : decode cX3_init 41 = .ok (.iload_n 3, 1) := by decide +kernel
theorem dX3_init_42 : decode cX3_init 42 = .ok (.ifCond .le 7, 3) := by decide +kernel
theorem dX3_init_45 : decode cX3_init 45 = .ok (.iload_n 3, 1) := by decide +kernel
theorem dX3_init_46 : decode cX3_init 46 = .ok (.goto 4, 3) := by decide +kernel
theorem dX3_init_50 : decode cX3_init 50 = .ok (.newarray .int, 2) := by decide +kernel
theorem dX3_init_52 : decode cX3_init 52 = .ok (.putfield 18, 3) := by decide +kernel
theorem dX3_init_55 : decode cX3_init 55 = .ok (.return_, 1) := by decide +kernel
theorem dX3_get_0 : decode cX3_get 0 = .ok (.iload_n 1, 1) := by decide +kernel
theorem dX3_get_1 : decode cX3_get 1 = .ok (.ifCond .lt 23, 3) := by decide +kernel
theorem dX3_get_4 : decode cX3_get 4 = .ok (.iload_n 1, 1) := by decide +kernel
theorem dX3_get_5 : decode cX3_get 5 = .ok (.aload_n 0, 1) := by decide +kernel
theorem dX3_get_6 : decode cX3_get 6 = .ok (.getfield 9, 3) := by decide +kernel
theorem dX3_get_9 : decode cX3_get 9 = .ok (.if_icmp .ge 15, 3) := by decide +kernel
theorem dX3_get_12 : decode cX3_get 12 = .ok (.iload_n 2, 1) := by decide +kernel
theorem dX3_get_13 : decode cX3_get 13 = .ok (.ifCond .lt 11, 3) := by decide +kernel
theorem dX3_get_16 : decode cX3_get 16 = .ok (.iload_n 2, 1) := by decide +kernel
theorem dX3_get_17 : decode cX3_get 17 = .ok (.aload_n 0, 1) := by decide +kernel
theorem dX3_get_18 : decode cX3_get 18 = .ok (.getfield 15, 3) := by decide +kernel
theorem dX3_get_21 : decode cX3_get 21 = .ok (.if_icmp .lt 5, 3) := by decide +kernel
theorem dX3_get_24 : decode cX3_get 24 = .ok (.iconst (-1), 1) := by decide +kernel
theorem dX3_get_25 : decode cX3_get 25 = .ok (.ireturn, 1) := by decide +kernel
theorem dX3_get_26 : decode cX3_get 26 = .ok (.iload_n 1, 1) := by decide +kernel
theorem dX3_get_27 : decode cX3_get 27 = .ok (.aload_n 0, 1) := by decide +kernel
theorem dX3_get_28 : decode cX3_get 28 = .ok (.getfield 15, 3) := by decide +kernel
theorem dX3_get_31 : decode cX3_get 31 = .ok (.imul, 1) := by decide +kernel
theorem dX3_get_32 : decode cX3_get 32 = .ok (.iload_n 2, 1) := by decide +kernel
theorem dX3_get_33 : decode cX3_get 33 = .ok (.iadd, 1) := by decide +kernel
theorem dX3_get_34 : decode cX3_get 34 = .ok (.istore_n 3, 1) := by decide +kernel
theorem dX3_get_35 : decode cX3_get 35 = .ok (.iload_n 3, 1) := by decide +kernel
theorem dX3_get_36 : decode cX3_get 36 = .ok (.ifCond .lt 21, 3) := by decide +kernel
theorem dX3_get_39 : decode cX3_get 39 = .ok (.iload_n 3, 1) := by decide +kernel
theorem dX3_get_40 : decode cX3_get 40 = .ok (.aload_n 0, 1) := by decide +kernel
theorem dX3_get_41 : decode cX3_get 41 = .ok (.getfield 18, 3) := by decide +kernel
theorem dX3_get_44 : decode cX3_get 44 = .ok (.arraylength, 1) := by decide +kernel
theorem dX3_get_45 : decode cX3_get 45 = .ok (.if_icmp .ge 12, 3) := by decide +kernel
theorem dX3_get_48 : decode cX3_get 48 = .ok (.aload_n 0, 1) := by decide +kernel
theorem dX3_get_49 : decode cX3_get 49 = .ok (.getfield 18, 3) := by decide +kernel
theorem dX3_get_52 : decode cX3_get 52 = .ok (.iload_n 3, 1) := by decide +kernel
theorem dX3_get_53 : decode cX3_get 53 = .ok (.iaload, 1) := by decide +kernel
theorem dX3_get_54 : decode cX3_get 54 = .ok (.goto 4, 3) := by decide +kernel
theorem dX3_get_57 : decode cX3_get 57 = .ok (.iconst (-1), 1) := by decide +kernel
theorem dX3_get_58 : decode cX3_get 58 = .ok (.ireturn, 1) := by decide +kernel
theorem dX3_set_0 : decode cX3_set 0 = .ok (.iload_n 1, 1) := by decide +kernel
theorem dX3_set_1 : decode cX3_set 1 = .ok (.ifCond .lt 23, 3) := by decide +kernel
theorem dX3_set_4 : decode cX3_set 4 = .ok (.iload_n 1, 1) := by decide +kernel
theorem dX3_set_5 : decode cX3_set 5 = .ok (.aload_n 0, 1) := by decide +kernel
theorem dX3_set_6 : decode cX3_set 6 = .ok (.getfield 9, 3) := by decide +kernel
theorem dX3_set_9 : decode cX3_set 9 = .ok (.if_icmp .ge 15, 3) := by decide +kernel
theorem dX3_set_12 : decode cX3_set 12 = .ok (.iload_n 2, 1) := by decide +kernel
theorem dX3_set_13 : decode cX3_set 13 = .ok (.ifCond .lt 11, 3) := by decide +kernel
theorem dX3_set_16 : decode cX3_set 16 = .ok (.iload_n 2, 1) := by decide +kernel
theorem dX3_set_17 : decode cX3_set 17 = .ok (.aload_n 0, 1) := by decide +kernel
theorem dX3_set_18 : decode cX3_set 18 = .ok (.getfield 15, 3) := by decide +kernel
theorem dX3_set_21 : decode cX3_set 21 = .ok (.if_icmp .lt 4, 3) := by decide +kernel
theorem dX3_set_24 : decode cX3_set 24 = .ok (.return_, 1) := by decide +kernel
theorem dX3_set_25 : decode cX3_set 25 = .ok (.iload_n 1, 1) := by decide +kernel
theorem dX3_set_26 : decode cX3_set 26 = .ok (.aload_n 0, 1) := by decide +kernel
theorem dX3_set_27 : decode cX3_set 27 = .ok (.getfield 15, 3) := by decide +kernel
theorem dX3_set_30 : decode cX3_set 30 = .ok (.imul, 1) := by decide +kernel
theorem dX3_set_31 : decode cX3_set 31 = .ok (.iload_n 2, 1) := by decide +kernel
theorem dX3_set_32 : decode cX3_set 32 = .ok (.iadd, 1) := by decide +kernel
theorem dX3_set_33 : decode cX3_set 33 = .ok (.istore 4, 2) := by decide +kernel
theorem dX3_set_35 : decode cX3_set 35 = .ok (.iload 4, 2) := by decide +kernel
theorem dX3_set_37 : decode cX3_set 37 = .ok (.ifCond .lt 21, 3) := by decide +kernel
theorem dX3_set_40 : decode cX3_set 40 = .ok (.iload 4, 2) := by decide +kernel
theorem dX3_set_42 : decode cX3_set 42 = .ok (.aload_n 0, 1) := by decide +kernel
theorem dX3_set_43 : decode cX3_set 43 = .ok (.getfield 18, 3) := by decide +kernel
theorem dX3_set_46 : decode cX3_set 46 = .ok (.arraylength, 1) := by decide +kernel
theorem dX3_set_47 : decode cX3_set 47 = .ok (.if_icmp .ge 11, 3) := by decide +kernel
theorem dX3_set_50 : decode cX3_set 50 = .ok (.aload_n 0, 1) := by decide +kernel
theorem dX3_set_51 : decode cX3_set 51 = .ok (.getfield 18, 3) := by decide +kernel
theorem dX3_set_54 : decode cX3_set 54 = .ok (.iload 4, 2) := by decide +kernel
theorem dX3_set_56 : decode cX3_set 56 = .ok (.iload_n 3, 1) := by decide +kernel
theorem dX3_set_57 : decode cX3_set 57 = .ok (.iastore, 1) := by decide +kernel
theorem dX3_set_58 : decode cX3_set 58 = .ok (.return_, 1) := by decide +kernel
theorem dX4_init_0 : decode cX4_init 0 = .ok (.aload_n 0, 1) := by decide +kernel
theorem dX4_init_1 : decode cX4_init 1 = .ok (.invokespecial 3, 3) := by decide +kernel
theorem dX4_init_4 : decode cX4_init 4 = .ok (.aload_n 0, 1) := by decide +kernel
theorem dX4_init_5 : decode cX4_init 5 = .ok (.iconst 0, 1) := by decide +kernel
theorem dX4_init_6 : decode cX4_init 6 = .ok (.putfield 9, 3) := by decide +kernel
theorem dX4_init_9 : decode cX4_init 9 = .ok (.aload_n 0, 1) := by decide +kernel
theorem dX4_init_10 : decode cX4_init 10 = .ok (.new 15, 3) := by decide +kernel
theorem dX4_init_13 : decode cX4_init 13 = .ok (.dup, 1) := by decide +kernel
theorem dX4_init_14 : decode cX4_init 14 = .ok (.bipush 60, 2) := by decide +kernel
theorem dX4_init_16 : decode cX4_init 16 = .ok (.invokespecial 17, 3) := by decide +kernel
theorem dX4_init_19 : decode cX4_init 19 = .ok (.putfield 20, 3) := by decide +kernel
theorem dX4_init_22 : decode cX4_init 22 = .ok (.return_, 1) := by decide +kernel
theorem dX5_init_0 : decode cX5_init 0 = .ok (.aload_n 0, 1) := by decide +kernel
theorem dX5_init_1 : decode cX5_init 1 = .ok (.invokespecial 3, 3) := by decide +kernel
theorem dX5_init_4 : decode cX5_init 4 = .ok (.aload_n 0, 1) := by decide +kernel
theorem dX5_init_5 : decode cX5_init 5 = .ok (.iconst 0, 1) := by decide +kernel
theorem dX5_init_6 : decode cX5_init 6 = .ok (.putfield 9, 3) := by decide +kernel
theorem dX5_init_9 : decode cX5_init 9 = .ok (.aload_n 0, 1) := by decide +kernel
theorem dX5_init_10 : decode cX5_init 10 = .ok (.iconst 0, 1) := by decide +kernel
theorem dX5_init_11 : decode cX5_init 11 = .ok (.putfield 15, 3) := by decide +kernel
theorem dX5_init_14 : decode cX5_init 14 = .ok (.aload_n 0, 1) := by decide +kernel
theorem dX5_init_15 : decode cX5_init 15 = .ok (.iconst 0, 1) := by decide +kernel
theorem dX5_init_16 : decode cX5_init 16 = .ok (.putfield 18, 3) := by decide +kernel
theorem dX5_init_19 : decode cX5_init 19 = .ok (.aload_n 0, 1) := by decide +kernel
theorem dX5_init_20 : decode cX5_init 20 = .ok (.iconst 0, 1) := by decide +kernel
theorem dX5_init_21 : decode cX5_init 21 = .ok (.putfield 22, 3) := by decide +kernel
theorem dX5_init_24 : decode cX5_init 24 = .ok (.aload_n 0, 1) := by decide +kernel
theorem dX5_init_25 : decode cX5_init 25 = .ok (.iconst 0, 1) := by decide +kernel
theorem dX5_init_26 : decode cX5_init 26 = .ok (.putfield 25, 3) := by decide +kernel
theorem dX5_init_29 : decode cX5_init 29 = .ok (.aload_n 0, 1) := by decide +kernel
theorem dX5_init_30 : decode cX5_init 30 = .ok (.iconst 0, 1) := by decide +kernel
theorem dX5_init_31 : decode cX5_init 31 = .ok (.putfield 28, 3) := by decide +kernel
theorem dX5_init_34 : decode cX5_init 34 = .ok (.aload_n 0, 1) := by decide +kernel
theorem dX5_init_35 : decode cX5_init 35 = .ok (.new 31, 3) := by decide +kernel
theorem dX5_init_38 : decode cX5_init 38 = .ok (.dup, 1) := by decide +kernel
theorem dX5_init_39 : decode cX5_init 39 = .ok (.sipush 300, 3) := by decide +kernel
theorem dX5_init_42 : decode cX5_init 42 = .ok (.bipush 20, 2) := by decide +kernel
theorem dX5_init_44 : decode cX5_init 44 = .ok (.invokespecial 33, 3) := by decide +kernel
theorem dX5_init_47 : decode cX5_init 47 = .ok (.putfield 36, 3) := by decide +kernel
theorem dX5_init_50 : decode cX5_init 50 = .ok (.aload_n 0, 1) := by decide +kernel
theorem dX5_init_51 : decode cX5_init 51 = .ok (.new 40, 3) := by decide +kernel
theorem dX5_init_54 : decode cX5_init 54 = .ok (.dup, 1) := by decide +kernel
theorem dX5_init_55 : decode cX5_init 55 = .ok (.sipush 300, 3) := by decide +kernel
theorem dX5_init_58 : decode cX5_init 58 = .ok (.invokespecial 42, 3) := by decide +kernel
theorem dX5_init_61 : decode cX5_init 61 = .ok (.putfield 45, 3) := by decide +kernel
theorem dX5_init_64 : decode cX5_init 64 = .ok (.aload_n 0, 1) := by decide +kernel
theorem dX5_init_65 : decode cX5_init 65 = .ok (.new 40, 3) := by decide +kernel
theorem dX5_init_68 : decode cX5_init 68 = .ok (.dup, 1) := by decide +kernel
theorem dX5_init_69 : decode cX5_init 69 = .ok (.sipush 300, 3) := by decide +kernel
theorem dX5_init_72 : decode cX5_init 72 = .ok (.invokespecial 42, 3) := by decide +kernel
theorem dX5_init_75 : decode cX5_init 75 = .ok (.putfield 49, 3) := by decide +kernel
theorem dX5_init_78 : decode cX5_init 78 = .ok (.aload_n 0, 1) := by decide +kernel
theorem dX5_init_79 : decode cX5_init 79 = .ok (.new 40, 3) := by decide +kernel
theorem dX5_init_82 : decode cX5_init 82 = .ok (.dup, 1) := by decide +kernel
theorem dX5_init_83 : decode cX5_init 83 = .ok (.sipush 300, 3) := by decide +kernel
theorem dX5_init_86 : decode cX5_init 86 = .ok (.invokespecial 42, 3) := by decide +kernel
theorem dX5_init_89 : decode cX5_init 89 = .ok (.putfield 52, 3) := by decide +kernel
theorem dX5_init_92 : decode cX5_init 92 = .ok (.aload_n 0, 1) := by decide +kernel
theorem dX5_init_93 : decode cX5_init 93 = .ok (.new 40, 3) := by decide +kernel
theorem dX5_init_96 : decode cX5_init 96 = .ok (.dup, 1) := by decide +kernel
theorem dX5_init_97 : decode cX5_init 97 = .ok (.sipush 300, 3) := by decide +kernel
theorem dX5_init_100 : decode cX5_init 100 = .ok (.invokespecial 42, 3) := by decide +kernel
theorem dX5_init_103 : decode cX5_init 103 = .ok (.putfield 55, 3) := by decide +kernel
theorem dX5_init_106 : decode cX5_init 106 = .ok (.aload_n 0, 1) := by decide +kernel
theorem dX5_init_107 : decode cX5_init 107 = .ok (.new 31, 3) := by decide +kernel
theorem dX5_init_110 : decode cX5_init 110 = .ok (.dup, 1) := by decide +kernel
theorem dX5_init_111 : decode cX5_init 111 = .ok (.bipush 8, 2) := by decide +kernel
theorem dX5_init_113 : decode cX5_init 113 = .ok (.bipush 8, 2) := by decide +kernel
theorem dX5_init_115 : decode cX5_init 115 = .ok (.invokespecial 33, 3) := by decide +kernel
theorem dX5_init_118 : decode cX5_init 118 = .ok (.putfield 58, 3) := by decide +kernel
theorem dX5_init_121 : decode cX5_init 121 = .ok (.aload_n 0, 1) := by decide +kernel
theorem dX5_init_122 : decode cX5_init 122 = .ok (.getfield 52, 3) := by decide +kernel
theorem dX5_init_125 : decode cX5_init 125 = .ok (.iconst (-1), 1) := by decide +kernel
theorem dX5_init_126 : decode cX5_init 126 = .ok (.invokevirtual 61, 3) := by decide +kernel
theorem dX5_init_129 : decode cX5_init 129 = .ok (.return_, 1) := by decide +kernel
theorem dX5_forget_0 : decode cX5_forget 0 = .ok (.aload_n 0, 1) := by decide +kernel
theorem dX5_forget_1 : decode cX5_forget 1 = .ok (.iconst 0, 1) := by decide +kernel
theorem dX5_forget_2 : decode cX5_forget 2 = .ok (.putfield 9, 3) := by decide +kernel
theorem dX5_forget_5 : decode cX5_forget 5 = .ok (.aload_n 0, 1) := by decide +kernel
theorem dX5_forget_6 : decode cX5_forget 6 = .ok (.iconst 0, 1) := by decide +kernel
theorem dX5_forget_7 : decode cX5_forget 7 = .ok (.putfield 15, 3) := by decide +kernel
theorem dX5_forget_10 : decode cX5_forget 10 = .ok (.return_, 1) := by decide +kernel
theorem dX6_init_0 : decode cX6_init 0 = .ok (.aload_n 0, 1) := by decide +kernel
theorem dX6_init_1 : decode cX6_init 1 = .ok (.invokespecial 3, 3) := by decide +kernel
theorem dX6_init_4 : decode cX6_init 4 = .ok (.aload_n 0, 1) := by decide +kernel
theorem dX6_init_5 : decode cX6_init 5 = .ok (.iconst 0, 1) := by decide +kernel
theorem dX6_init_6 : decode cX6_init 6 = .ok (.putfield 9, 3) := by decide +kernel
theorem dX6_init_9 : decode cX6_init 9 = .ok (.aload_n 0, 1) := by decide +kernel
theorem dX6_init_10 : decode cX6_init 10 = .ok (.new 15, 3) := by decide +kernel
theorem dX6_init_13 : decode cX6_init 13 = .ok (.dup, 1) := by decide +kernel
theorem dX6_init_14 : decode cX6_init 14 = .ok (.sipush 300, 3) := by decide +kernel
theorem dX6_init_17 : decode cX6_init 17 = .ok (.invokespecial 17, 3) := by decide +kernel
theorem dX6_init_20 : decode cX6_init 20 = .ok (.putfield 20, 3) := by decide +kernel
theorem dX6_init_23 : decode cX6_init 23 = .ok (.aload_n 0, 1) := by decide +kernel
theorem dX6_init_24 : decode cX6_init 24 = .ok (.new 15, 3) := by decide +kernel
theorem dX6_init_27 : decode cX6_init 27 = .ok (.dup, 1) := by decide +kernel
theorem dX6_init_28 : decode cX6_init 28 = .ok (.sipush 300, 3) := by decide +kernel
theorem dX6_init_31 : decode cX6_init 31 = .ok (.invokespecial 17, 3) := by decide +kernel
theorem dX6_init_34 : decode cX6_init 34 = .ok (.putfield 24, 3) := by decide +kernel
theorem dX6_init_37 : decode cX6_init 37 = .ok (.aload_n 0, 1) := by decide +kernel
theorem dX6_init_38 : decode cX6_init 38 = .ok (.new 15, 3) := by decide +kernel
theorem dX6_init_41 : decode cX6_init 41 = .ok (.dup, 1) := by decide +kernel
theorem dX6_init_42 : decode cX6_init 42 = .ok (.sipush 300, 3) := by decide +kernel
theorem dX6_init_45 : decode cX6_init 45 = .ok (.invokespecial 17, 3) := by decide +kernel
theorem dX6_init_48 : decode cX6_init 48 = .ok (.putfield 27, 3) := by decide +kernel
theorem dX6_init_51 : decode cX6_init 51 = .ok (.aload_n 0, 1) := by decide +kernel
theorem dX6_init_52 : decode cX6_init 52 = .ok (.new 30, 3) := by decide +kernel
theorem dX6_init_55 : decode cX6_init 55 = .ok (.dup, 1) := by decide +kernel
theorem dX6_init_56 : decode cX6_init 56 = .ok (.sipush 300, 3) := by decide +kernel
theorem dX6_init_59 : decode cX6_init 59 = .ok (.bipush 7, 2) := by decide +kernel
theorem dX6_init_61 : decode cX6_init 61 = .ok (.invokespecial 32, 3) := by decide +kernel
theorem dX6_init_64 : decode cX6_init 64 = .ok (.putfield 35, 3) := by decide +kernel
theorem dX6_init_67 : decode cX6_init 67 = .ok (.aload_n 0, 1) := by decide +kernel
theorem dX6_init_68 : decode cX6_init 68 = .ok (.new 15, 3) := by decide +kernel
theorem dX6_init_71 : decode cX6_init 71 = .ok (.dup, 1) := by decide +kernel
theorem dX6_init_72 : decode cX6_init 72 = .ok (.sipush 300, 3) := by decide +kernel
theorem dX6_init_75 : decode cX6_init 75 = .ok (.invokespecial 17, 3) := by decide +kernel
theorem dX6_init_78 : decode cX6_init 78 = .ok (.putfield 39, 3) := by decide +kernel
theorem dX6_init_81 : decode cX6_init 81 = .ok (.aload_n 0, 1) := by decide +kernel
theorem dX6_init_82 : decode cX6_init 82 = .ok (.new 30, 3) := by decide +kernel
theorem dX6_init_85 : decode cX6_init 85 = .ok (.dup, 1) := by decide +kernel
theorem dX6_init_86 : decode cX6_init 86 = .ok (.sipush 300, 3) := by decide +kernel
theorem dX6_init_89 : decode cX6_init 89 = .ok (.bipush 14, 2) := by decide +kernel
theorem dX6_init_91 : decode cX6_init 91 = .ok (.invokespecial 32, 3) := by decide +kernel
theorem dX6_init_94 : decode cX6_init 94 = .ok (.putfield 42, 3) := by decide +kernel
theorem dX6_init_97 : decode cX6_init 97 = .ok (.return_, 1) := by decide +kernel
theorem dX6_rebuild_0 : decode cX6_rebuild 0 = .ok (.aload_n 0, 1) := by decide +kernel
theorem dX6_rebuild_1 : decode cX6_rebuild 1 = .ok (.iconst 0, 1) := by decide +kernel
theorem dX6_rebuild_2 : decode cX6_rebuild 2 = .ok (.putfield 9, 3) := by decide +kernel
theorem dX6_rebuild_5 : decode cX6_rebuild 5 = .ok (.iconst 0, 1) := by decide +kernel
theorem dX6_rebuild_6 : decode cX6_rebuild 6 = .ok (.istore_n 2, 1) := by decide +kernel
theorem dX6_rebuild_7 : decode cX6_rebuild 7 = .ok (.iload_n 2, 1) := by decide +kernel
theorem dX6_rebuild_8 : decode cX6_rebuild 8 = .ok (.aload_n 1, 1) := by decide +kernel
theorem dX6_rebuild_9 : decode cX6_rebuild 9 = .ok (.invokevirtual 45, 3) := by decide +kernel
theorem dX6_rebuild_12 : decode cX6_rebuild 12 = .ok (.if_icmp .ge 17, 3) := by decide +kernel
theorem dX6_rebuild_15 : decode cX6_rebuild 15 = .ok (.aload_n 0, 1) := by decide +kernel
theorem dX6_rebuild_16 : decode cX6_rebuild 16 = .ok (.iload_n 2, 1) := by decide +kernel
theorem dX6_rebuild_17 : decode cX6_rebuild 17 = .ok (.iload_n 2, 1) := by decide +kernel
theorem dX6_rebuild_18 : decode cX6_rebuild 18 = .ok (.iconst 0, 1) := by decide +kernel
theorem dX6_rebuild_19 : decode cX6_rebuild 19 = .ok (.iconst (-1), 1) := by decide +kernel
theorem dX6_rebuild_20 : decode cX6_rebuild 20 = .ok (.invokevirtual 51, 3) := by decide +kernel
theorem dX6_rebuild_23 : decode cX6_rebuild 23 = .ok (.iinc 2 1, 3) := by decide +kernel
theorem dX6_rebuild_26 : decode cX6_rebuild 26 = .ok (.goto (-19), 3) := by decide +kernel
theorem dX6_rebuild_29 : decode cX6_rebuild 29 = .ok (.iconst 0, 1) := by decide +kernel
theorem dX6_rebuild_30 : decode cX6_rebuild 30 = .ok (.istore_n 2, 1) := by decide +kernel
theorem dX6_rebuild_31 : decode cX6_rebuild 31 = .ok (.iload_n 2, 1) := by decide +kernel
theorem dX6_rebuild_32 : decode cX6_rebuild 32 = .ok (.aload_n 1, 1) := by decide +kernel
theorem dX6_rebuild_33 : decode cX6_rebuild 33 = .ok (.invokevirtual 55, 3) := by decide +kernel
theorem dX6_rebuild_36 : decode cX6_rebuild 36 = .ok (.if_icmp .ge 24, 3) := by decide +kernel
theorem dX6_rebuild_39 : decode cX6_rebuild 39 = .ok (.aload_n 0, 1) := by decide +kernel
theorem dX6_rebuild_40 : decode cX6_rebuild 40 = .ok (.aload_n 1, 1) := by decide +kernel
theorem dX6_rebuild_41 : decode cX6_rebuild 41 = .ok (.iload_n 2, 1) := by decide +kernel
theorem dX6_rebuild_42 : decode cX6_rebuild 42 = .ok (.invokevirtual 58, 3) := by decide +kernel
theorem dX6_rebuild_45 : decode cX6_rebuild 45 = .ok (.iload_n 2, 1) := by decide +kernel
theorem dX6_rebuild_46 : decode cX6_rebuild 46 = .ok (.aload_n 1, 1) := by decide +kernel
theorem dX6_rebuild_47 : decode cX6_rebuild 47 = .ok (.iload_n 2, 1) := by decide +kernel
theorem dX6_rebuild_48 : decode cX6_rebuild 48 = .ok (.invokevirtual 62, 3) := by decide +kernel
theorem dX6_rebuild_51 : decode cX6_rebuild 51 = .ok (.invokevirtual 65, 3) := by decide +kernel
theorem dX6_rebuild_54 : decode cX6_rebuild 54 = .ok (.iinc 2 1, 3) := by decide +kernel
theorem dX6_rebuild_57 : decode cX6_rebuild 57 = .ok (.goto (-26), 3) := by decide +kernel
theorem dX6_rebuild_60 : decode cX6_rebuild 60 = .ok (.aload_n 1, 1) := by decide +kernel
theorem dX6_rebuild_61 : decode cX6_rebuild 61 = .ok (.invokevirtual 45, 3) := by decide +kernel
theorem dX6_rebuild_64 : decode cX6_rebuild 64 = .ok (.istore_n 2, 1) := by decide +kernel
theorem dX6_rebuild_65 : decode cX6_rebuild 65 = .ok (.iload_n 2, 1) := by decide +kernel
theorem dX6_rebuild_66 : decode cX6_rebuild 66 = .ok (.aload_n 0, 1) := by decide +kernel
theorem dX6_rebuild_67 : decode cX6_rebuild 67 = .ok (.getfield 9, 3) := by decide +kernel
theorem dX6_rebuild_70 : decode cX6_rebuild 70 = .ok (.if_icmp .ge 59, 3) := by decide +kernel
theorem dX6_rebuild_73 : decode cX6_rebuild 73 = .ok (.iload_n 2, 1) := by decide +kernel
theorem dX6_rebuild_74 : decode cX6_rebuild 74 = .ok (.sipush 300, 3) := by decide +kernel
theorem dX6_rebuild_77 : decode cX6_rebuild 77 = .ok (.if_icmp .ge 52, 3) := by decide +kernel
theorem dX6_rebuild_80 : decode cX6_rebuild 80 = .ok (.iconst 0, 1) := by decide +kernel
theorem dX6_rebuild_81 : decode cX6_rebuild 81 = .ok (.istore_n 3, 1) := by decide +kernel
theorem dX6_rebuild_82 : decode cX6_rebuild 82 = .ok (.iload_n 3, 1) := by decide +kernel
theorem dX6_rebuild_83 : decode cX6_rebuild 83 = .ok (.aload_n 1, 1) := by decide +kernel
theorem dX6_rebuild_84 : decode cX6_rebuild 84 = .ok (.invokevirtual 55, 3) := by decide +kernel
theorem dX6_rebuild_87 : decode cX6_rebuild 87 = .ok (.if_icmp .ge 36, 3) := by decide +kernel
theorem dX6_rebuild_90 : decode cX6_rebuild 90 = .ok (.aload_n 1, 1) := by decide +kernel
theorem dX6_rebuild_91 : decode cX6_rebuild 91 = .ok (.iload_n 3, 1) := by decide +kernel
theorem dX6_rebuild_92 : decode cX6_rebuild 92 = .ok (.invokevirtual 58, 3) := by decide +kernel
theorem dX6_rebuild_95 : decode cX6_rebuild 95 = .ok (.aload_n 0, 1) := by decide +kernel
theorem dX6_rebuild_96 : decode cX6_rebuild 96 = .ok (.getfield 24, 3) := by decide +kernel
theorem dX6_rebuild_99 : decode cX6_rebuild 99 = .ok (.iload_n 2, 1) := by decide +kernel
theorem dX6_rebuild_100 : decode cX6_rebuild 100 = .ok (.invokevirtual 69, 3) := by decide +kernel
theorem dX6_rebuild_103 : decode cX6_rebuild 103 = .ok (.if_icmp .ne 14, 3) := by decide +kernel
theorem dX6_rebuild_106 : decode cX6_rebuild 106 = .ok (.aload_n 0, 1) := by decide +kernel
theorem dX6_rebuild_107 : decode cX6_rebuild 107 = .ok (.iload_n 2, 1) := by decide +kernel
theorem dX6_rebuild_108 : decode cX6_rebuild 108 = .ok (.iload_n 3, 1) := by decide +kernel
theorem dX6_rebuild_109 : decode cX6_rebuild 109 = .ok (.aload_n 1, 1) := by decide +kernel
theorem dX6_rebuild_110 : decode cX6_rebuild 110 = .ok (.iload_n 3, 1) := by decide +kernel
theorem dX6_rebuild_111 : decode cX6_rebuild 111 = .ok (.invokevirtual 62, 3) := by decide +kernel
theorem dX6_rebuild_114 : decode cX6_rebuild 114 = .ok (.invokevirtual 65, 3) := by decide +kernel
theorem dX6_rebuild_117 : decode cX6_rebuild 117 = .ok (.iinc 3 1, 3) := by decide +kernel
theorem dX6_rebuild_120 : decode cX6_rebuild 120 = .ok (.goto (-38), 3) := by decide +kernel
theorem dX6_rebuild_123 : decode cX6_rebuild 123 = .ok (.iinc 2 1, 3) := by decide +kernel
theorem dX6_rebuild_126 : decode cX6_rebuild 126 = .ok (.goto (-61), 3) := by decide +kernel
theorem dX6_rebuild_129 : decode cX6_rebuild 129 = .ok (.return_, 1) := by decide +kernel
theorem dX6_enter_0 : decode cX6_enter 0 = .ok (.aload_n 0, 1) := by decide +kernel
theorem dX6_enter_1 : decode cX6_enter 1 = .ok (.getfield 20, 3) := by decide +kernel
theorem dX6_enter_4 : decode cX6_enter 4 = .ok (.aload_n 0, 1) := by decide +kernel
theorem dX6_enter_5 : decode cX6_enter 5 = .ok (.getfield 9, 3) := by decide +kernel
theorem dX6_enter_8 : decode cX6_enter 8 = .ok (.iload_n 1, 1) := by decide +kernel
theorem dX6_enter_9 : decode cX6_enter 9 = .ok (.invokevirtual 75, 3) := by decide +kernel
theorem dX6_enter_12 : decode cX6_enter 12 = .ok (.aload_n 0, 1) := by decide +kernel
theorem dX6_enter_13 : decode cX6_enter 13 = .ok (.getfield 24, 3) := by decide +kernel
theorem dX6_enter_16 : decode cX6_enter 16 = .ok (.aload_n 0, 1) := by decide +kernel
theorem dX6_enter_17 : decode cX6_enter 17 = .ok (.getfield 9, 3) := by decide +kernel
theorem dX6_enter_20 : decode cX6_enter 20 = .ok (.iload_n 2, 1) := by decide +kernel
theorem dX6_enter_21 : decode cX6_enter 21 = .ok (.invokevirtual 75, 3) := by decide +kernel
theorem dX6_enter_24 : decode cX6_enter 24 = .ok (.aload_n 0, 1) := by decide +kernel
theorem dX6_enter_25 : decode cX6_enter 25 = .ok (.getfield 27, 3) := by decide +kernel
theorem dX6_enter_28 : decode cX6_enter 28 = .ok (.aload_n 0, 1) := by decide +kernel
theorem dX6_enter_29 : decode cX6_enter 29 = .ok (.getfield 9, 3) := by decide +kernel
theorem dX6_enter_32 : decode cX6_enter 32 = .ok (.iload_n 3, 1) := by decide +kernel
theorem dX6_enter_33 : decode cX6_enter 33 = .ok (.invokevirtual 75, 3) := by decide +kernel
theorem dX6_enter_36 : decode cX6_enter 36 = .ok (.aload_n 0, 1) := by decide +kernel
theorem dX6_enter_37 : decode cX6_enter 37 = .ok (.getfield 39, 3) := by decide +kernel
theorem dX6_enter_40 : decode cX6_enter 40 = .ok (.aload_n 0, 1) := by decide +kernel
theorem dX6_enter_41 : decode cX6_enter 41 = .ok (.getfield 9, 3) := by decide +kernel
theorem dX6_enter_44 : decode cX6_enter 44 = .ok (.iload 4, 2) := by decide +kernel
theorem dX6_enter_46 : decode cX6_enter 46 = .ok (.invokevirtual 75, 3) := by decide +kernel
theorem dX6_enter_49 : decode cX6_enter 49 = .ok (.iconst 0, 1) := by decide +kernel
theorem dX6_enter_50 : decode cX6_enter 50 = .ok (.istore 5, 2) := by decide +kernel
theorem dX6_enter_52 : decode cX6_enter 52 = .ok (.iload 5, 2) := by decide +kernel
theorem dX6_enter_54 : decode cX6_enter 54 = .ok (.bipush 14, 2) := by decide +kernel
theorem dX6_enter_56 : decode cX6_enter 56 = .ok (.if_icmp .ge 23, 3) := by decide +kernel
theorem dX6_enter_59 : decode cX6_enter 59 = .ok (.aload_n 0, 1) := by decide +kernel
theorem dX6_enter_60 : decode cX6_enter 60 = .ok (.getfield 42, 3) := by decide +kernel
theorem dX6_enter_63 : decode cX6_enter 63 = .ok (.aload_n 0, 1) := by decide +kernel
theorem dX6_enter_64 : decode cX6_enter 64 = .ok (.getfield 9, 3) := by decide +kernel
theorem dX6_enter_67 : decode cX6_enter 67 = .ok (.iload 5, 2) := by decide +kernel
theorem dX6_enter_69 : decode cX6_enter 69 = .ok (.iconst (-1), 1) := by decide +kernel
theorem dX6_enter_70 : decode cX6_enter 70 = .ok (.invokevirtual 78, 3) := by decide +kernel
theorem dX6_enter_73 : decode cX6_enter 73 = .ok (.iinc 5 1, 3) := by decide +kernel
theorem dX6_enter_76 : decode cX6_enter 76 = .ok (.goto (-24), 3) := by decide +kernel
theorem dX6_enter_79 : decode cX6_enter 79 = .ok (.aload_n 0, 1) := by decide +kernel
theorem dX6_enter_80 : decode cX6_enter 80 = .ok (.dup, 1) := by decide +kernel
theorem dX6_enter_81 : decode cX6_enter 81 = .ok (.getfield 9, 3) := by decide +kernel
theorem dX6_enter_84 : decode cX6_enter 84 = .ok (.iconst 1, 1) := by decide +kernel
theorem dX6_enter_85 : decode cX6_enter 85 = .ok (.iadd, 1) := by decide +kernel
theorem dX6_enter_86 : decode cX6_enter 86 = .ok (.putfield 9, 3) := by decide +kernel
theorem dX6_enter_89 : decode cX6_enter 89 = .ok (.return_, 1) := by decide +kernel
theorem dX6_enterLonger_0 : decode cX6_enterLonger 0 = .ok (.aload_n 0, 1) := by decide +kernel
theorem dX6_enterLonger_1 : decode cX6_enterLonger 1 = .ok (.getfield 27, 3) := by decide +kernel
theorem dX6_enterLonger_4 : decode cX6_enterLonger 4 = .ok (.iload_n 1, 1) := by decide +kernel
theorem dX6_enterLonger_5 : decode cX6_enterLonger 5 = .ok (.invokevirtual 69, 3) := by decide +kernel
theorem dX6_enterLonger_8 : decode cX6_enterLonger 8 = .ok (.istore 4, 2) := by decide +kernel
theorem dX6_enterLonger_10 : decode cX6_enterLonger 10 = .ok (.iconst 0, 1) := by decide +kernel
theorem dX6_enterLonger_11 : decode cX6_enterLonger 11 = .ok (.istore 5, 2) := by decide +kernel
theorem dX6_enterLonger_13 : decode cX6_enterLonger 13 = .ok (.iload 5, 2) := by decide +kernel
theorem dX6_enterLonger_15 : decode cX6_enterLonger 15 = .ok (.iload 4, 2) := by decide +kernel
theorem dX6_enterLonger_17 : decode cX6_enterLonger 17 = .ok (.if_icmp .ge 32, 3) := by decide +kernel
theorem dX6_enterLonger_20 : decode cX6_enterLonger 20 = .ok (.aload_n 0, 1) := by decide +kernel
theorem dX6_enterLonger_21 : decode cX6_enterLonger 21 = .ok (.getfield 35, 3) := by decide +kernel
theorem dX6_enterLonger_24 : decode cX6_enterLonger 24 = .ok (.aload_n 0, 1) := by decide +kernel
theorem dX6_enterLonger_25 : decode cX6_enterLonger 25 = .ok (.getfield 9, 3) := by decide +kernel
theorem dX6_enterLonger_28 : decode cX6_enterLonger 28 = .ok (.iload 5, 2) := by decide +kernel
theorem dX6_enterLonger_30 : decode cX6_enterLonger 30 = .ok (.aload_n 0, 1) := by decide +kernel
theorem dX6_enterLonger_31 : decode cX6_enterLonger 31 = .ok (.getfield 35, 3) := by decide +kernel
theorem dX6_enterLonger_34 : decode cX6_enterLonger 34 = .ok (.iload_n 1, 1) := by decide +kernel
theorem dX6_enterLonger_35 : decode cX6_enterLonger 35 = .ok (.iload 5, 2) := by decide +kernel
theorem dX6_enterLonger_37 : decode cX6_enterLonger 37 = .ok (.invokevirtual 72, 3) := by decide +kernel
theorem dX6_enterLonger_40 : decode cX6_enterLonger 40 = .ok (.invokevirtual 78, 3) := by decide +kernel
theorem dX6_enterLonger_43 : decode cX6_enterLonger 43 = .ok (.iinc 5 1, 3) := by decide +kernel
theorem dX6_enterLonger_46 : decode cX6_enterLonger 46 = .ok (.goto (-33), 3) := by decide +kernel
theorem dX6_enterLonger_49 : decode cX6_enterLonger 49 = .ok (.aload_n 0, 1) := by decide +kernel
theorem dX6_enterLonger_50 : decode cX6_enterLonger 50 = .ok (.getfield 35, 3) := by decide +kernel
theorem dX6_enterLonger_53 : decode cX6_enterLonger 53 = .ok (.aload_n 0, 1) := by decide +kernel
theorem dX6_enterLonger_54 : decode cX6_enterLonger 54 = .ok (.getfield 9, 3) := by decide +kernel
theorem dX6_enterLonger_57 : decode cX6_enterLonger 57 = .ok (.iload 4, 2) := by decide +kernel
theorem dX6_enterLonger_59 : decode cX6_enterLonger 59 = .ok (.iload_n 2, 1) := by decide +kernel
theorem dX6_enterLonger_60 : decode cX6_enterLonger 60 = .ok (.invokevirtual 78, 3) := by decide +kernel
theorem dX6_enterLonger_63 : decode cX6_enterLonger 63 = .ok (.aload_n 0, 1) := by decide +kernel
theorem dX6_enterLonger_64 : decode cX6_enterLonger 64 = .ok (.getfield 42, 3) := by decide +kernel
theorem dX6_enterLonger_67 : decode cX6_enterLonger 67 = .ok (.iload_n 1, 1) := by decide +kernel
theorem dX6_enterLonger_68 : decode cX6_enterLonger 68 = .ok (.iload_n 2, 1) := by decide +kernel
theorem dX6_enterLonger_69 : decode cX6_enterLonger 69 = .ok (.aload_n 0, 1) := by decide +kernel
theorem dX6_enterLonger_70 : decode cX6_enterLonger 70 = .ok (.getfield 9, 3) := by decide +kernel
theorem dX6_enterLonger_73 : decode cX6_enterLonger 73 = .ok (.invokevirtual 78, 3) := by decide +kernel
theorem dX6_enterLonger_76 : decode cX6_enterLonger 76 = .ok (.aload_n 0, 1) := by decide +kernel
theorem dX6_enterLonger_77 : decode cX6_enterLonger 77 = .ok (.aload_n 0, 1) := by decide +kernel
theorem dX6_enterLonger_78 : decode cX6_enterLonger 78 = .ok (.getfield 20, 3) := by decide +kernel
theorem dX6_enterLonger_81 : decode cX6_enterLonger 81 = .ok (.iload_n 1, 1) := by decide +kernel
theorem dX6_enterLonger_82 : decode cX6_enterLonger 82 = .ok (.invokevirtual 69, 3) := by decide +kernel
theorem dX6_enterLonger_85 : decode cX6_enterLonger 85 = .ok (.iload_n 3, 1) := by decide +kernel
theorem dX6_enterLonger_86 : decode cX6_enterLonger 86 = .ok (.iload 4, 2) := by decide +kernel
theorem dX6_enterLonger_88 : decode cX6_enterLonger 88 = .ok (.iconst 1, 1) := by decide +kernel
theorem dX6_enterLonger_89 : decode cX6_enterLonger 89 = .ok (.iadd, 1) := by decide +kernel
theorem dX6_enterLonger_90 : decode cX6_enterLonger 90 = .ok (.iload_n 1, 1) := by decide +kernel
theorem dX6_enterLonger_91 : decode cX6_enterLonger 91 = .ok (.invokevirtual 51, 3) := by decide +kernel
theorem dX6_enterLonger_94 : decode cX6_enterLonger 94 = .ok (.return_, 1) := by decide +kernel
theorem dX7_init_0 : decode cX7_init 0 = .ok (.aload_n 0, 1) := by decide +kernel
theorem dX7_init_1 : decode cX7_init 1 = .ok (.invokespecial 3, 3) := by decide +kernel
theorem dX7_init_4 : decode cX7_init 4 = .ok (.aload_n 0, 1) := by decide +kernel
theorem dX7_init_5 : decode cX7_init 5 = .ok (.new 9, 3) := by decide +kernel
theorem dX7_init_8 : decode cX7_init 8 = .ok (.dup, 1) := by decide +kernel
theorem dX7_init_9 : decode cX7_init 9 = .ok (.invokespecial 11, 3) := by decide +kernel
theorem dX7_init_12 : decode cX7_init 12 = .ok (.putfield 12, 3) := by decide +kernel
theorem dX7_init_15 : decode cX7_init 15 = .ok (.aload_n 0, 1) := by decide +kernel
theorem dX7_init_16 : decode cX7_init 16 = .ok (.new 18, 3) := by decide +kernel
theorem dX7_init_19 : decode cX7_init 19 = .ok (.dup, 1) := by decide +kernel
theorem dX7_init_20 : decode cX7_init 20 = .ok (.invokespecial 20, 3) := by decide +kernel
theorem dX7_init_23 : decode cX7_init 23 = .ok (.putfield 21, 3) := by decide +kernel
theorem dX7_init_26 : decode cX7_init 26 = .ok (.aload_n 0, 1) := by decide +kernel
theorem dX7_init_27 : decode cX7_init 27 = .ok (.iconst 0, 1) := by decide +kernel
theorem dX7_init_28 : decode cX7_init 28 = .ok (.putfield 25, 3) := by decide +kernel
theorem dX7_init_31 : decode cX7_init 31 = .ok (.aload_n 0, 1) := by decide +kernel
theorem dX7_init_32 : decode cX7_init 32 = .ok (.iconst 0, 1) := by decide +kernel
theorem dX7_init_33 : decode cX7_init 33 = .ok (.putfield 29, 3) := by decide +kernel
theorem dX7_init_36 : decode cX7_init 36 = .ok (.aload_n 0, 1) := by decide +kernel
theorem dX7_init_37 : decode cX7_init 37 = .ok (.iconst 0, 1) := by decide +kernel
theorem dX7_init_38 : decode cX7_init 38 = .ok (.putfield 32, 3) := by decide +kernel
theorem dX7_init_41 : decode cX7_init 41 = .ok (.aload_n 0, 1) := by decide +kernel
theorem dX7_init_42 : decode cX7_init 42 = .ok (.iconst 0, 1) := by decide +kernel
theorem dX7_init_43 : decode cX7_init 43 = .ok (.putfield 35, 3) := by decide +kernel
theorem dX7_init_46 : decode cX7_init 46 = .ok (.return_, 1) := by decide +kernel
theorem dX8_init_0 : decode cX8_init 0 = .ok (.aload_n 0, 1) := by decide +kernel
theorem dX8_init_1 : decode cX8_init 1 = .ok (.invokespecial 3, 3) := by decide +kernel
theorem dX8_init_4 : decode cX8_init 4 = .ok (.aload_n 0, 1) := by decide +kernel
theorem dX8_init_5 : decode cX8_init 5 = .ok (.iload_n 1, 1) := by decide +kernel
theorem dX8_init_6 : decode cX8_init 6 = .ok (.ifCond .le 7, 3) := by decide +kernel
theorem dX8_init_9 : decode cX8_init 9 = .ok (.iload_n 1, 1) := by decide +kernel
theorem dX8_init_10 : decode cX8_init 10 = .ok (.goto 4, 3) := by decide +kernel
theorem dX8_init_14 : decode cX8_init 14 = .ok (.newarray .int, 2) := by decide +kernel
theorem dX8_init_16 : decode cX8_init 16 = .ok (.putfield 9, 3) := by decide +kernel
theorem dX8_init_19 : decode cX8_init 19 = .ok (.return_, 1) := by decide +kernel
theorem dX8_get_0 : decode cX8_get 0 = .ok (.iload_n 1, 1) := by decide +kernel
theorem dX8_get_1 : decode cX8_get 1 = .ok (.ifCond .lt 21, 3) := by decide +kernel
theorem dX8_get_4 : decode cX8_get 4 = .ok (.iload_n 1, 1) := by decide +kernel
theorem dX8_get_5 : decode cX8_get 5 = .ok (.aload_n 0, 1) := by decide +kernel
theorem dX8_get_6 : decode cX8_get 6 = .ok (.getfield 9, 3) := by decide +kernel
theorem dX8_get_9 : decode cX8_get 9 = .ok (.arraylength, 1) := by decide +kernel
theorem dX8_get_10 : decode cX8_get 10 = .ok (.if_icmp .ge 12, 3) := by decide +kernel
theorem dX8_get_13 : decode cX8_get 13 = .ok (.aload_n 0, 1) := by decide +kernel
theorem dX8_get_14 : decode cX8_get 14 = .ok (.getfield 9, 3) := by decide +kernel
theorem dX8_get_17 : decode cX8_get 17 = .ok (.iload_n 1, 1) := by decide +kernel
theorem dX8_get_18 : decode cX8_get 18 = .ok (.iaload, 1) := by decide +kernel
theorem dX8_get_19 : decode cX8_get 19 = .ok (.goto 4, 3) := by decide +kernel
theorem dX8_get_22 : decode cX8_get 22 = .ok (.iconst (-1), 1) := by decide +kernel
theorem dX8_get_23 : decode cX8_get 23 = .ok (.ireturn, 1) := by decide +kernel
theorem dX8_set_0 : decode cX8_set 0 = .ok (.iload_n 1, 1) := by decide +kernel
theorem dX8_set_1 : decode cX8_set 1 = .ok (.ifCond .lt 19, 3) := by decide +kernel
theorem dX8_set_4 : decode cX8_set 4 = .ok (.iload_n 1, 1) := by decide +kernel
theorem dX8_set_5 : decode cX8_set 5 = .ok (.aload_n 0, 1) := by decide +kernel
theorem dX8_set_6 : decode cX8_set 6 = .ok (.getfield 9, 3) := by decide +kernel
theorem dX8_set_9 : decode cX8_set 9 = .ok (.arraylength, 1) := by decide +kernel
theorem dX8_set_10 : decode cX8_set 10 = .ok (.if_icmp .ge 10, 3) := by decide +kernel
theorem dX8_set_13 : decode cX8_set 13 = .ok (.aload_n 0, 1) := by decide +kernel
theorem dX8_set_14 : decode cX8_set 14 = .ok (.getfield 9, 3) := by decide +kernel
theorem dX8_set_17 : decode cX8_set 17 = .ok (.iload_n 1, 1) := by decide +kernel
theorem dX8_set_18 : decode cX8_set 18 = .ok (.iload_n 2, 1) := by decide +kernel
theorem dX8_set_19 : decode cX8_set 19 = .ok (.iastore, 1) := by decide +kernel
theorem dX8_set_20 : decode cX8_set 20 = .ok (.return_, 1) := by decide +kernel
theorem dX8_fill_0 : decode cX8_fill 0 = .ok (.iconst 0, 1) := by decide +kernel
theorem dX8_fill_1 : decode cX8_fill 1 = .ok (.istore_n 2, 1) := by decide +kernel
theorem dX8_fill_2 : decode cX8_fill 2 = .ok (.iload_n 2, 1) := by decide +kernel
theorem dX8_fill_3 : decode cX8_fill 3 = .ok (.aload_n 0, 1) := by decide +kernel
theorem dX8_fill_4 : decode cX8_fill 4 = .ok (.getfield 9, 3) := by decide +kernel
theorem dX8_fill_7 : decode cX8_fill 7 = .ok (.arraylength, 1) := by decide +kernel
theorem dX8_fill_8 : decode cX8_fill 8 = .ok (.if_icmp .ge 16, 3) := by decide +kernel
theorem dX8_fill_11 : decode cX8_fill 11 = .ok (.aload_n 0, 1) := by decide +kernel
theorem dX8_fill_12 : decode cX8_fill 12 = .ok (.getfield 9, 3) := by decide +kernel
theorem dX8_fill_15 : decode cX8_fill 15 = .ok (.iload_n 2, 1) := by decide +kernel
theorem dX8_fill_16 : decode cX8_fill 16 = .ok (.iload_n 1, 1) := by decide +kernel
theorem dX8_fill_17 : decode cX8_fill 17 = .ok (.iastore, 1) := by decide +kernel
theorem dX8_fill_18 : decode cX8_fill 18 = .ok (.iinc 2 1, 3) := by decide +kernel
theorem dX8_fill_21 : decode cX8_fill 21 = .ok (.goto (-19), 3) := by decide +kernel
theorem dX8_fill_24 : decode cX8_fill 24 = .ok (.return_, 1) := by decide +kernel
theorem dX9_init_0 : decode cX9_init 0 = .ok (.aload_n 0, 1) := by decide +kernel
theorem dX9_init_1 : decode cX9_init 1 = .ok (.invokespecial 3, 3) := by decide +kernel
theorem dX9_init_4 : decode cX9_init 4 = .ok (.aload_n 0, 1) := by decide +kernel
theorem dX9_init_5 : decode cX9_init 5 = .ok (.new 9, 3) := by decide +kernel
theorem dX9_init_8 : decode cX9_init 8 = .ok (.dup, 1) := by decide +kernel
theorem dX9_init_9 : decode cX9_init 9 = .ok (.invokespecial 11, 3) := by decide +kernel
theorem dX9_init_12 : decode cX9_init 12 = .ok (.putfield 12, 3) := by decide +kernel
theorem dX9_init_15 : decode cX9_init 15 = .ok (.aload_n 0, 1) := by decide +kernel
theorem dX9_init_16 : decode cX9_init 16 = .ok (.new 16, 3) := by decide +kernel
theorem dX9_init_19 : decode cX9_init 19 = .ok (.dup, 1) := by decide +kernel
theorem dX9_init_20 : decode cX9_init 20 = .ok (.invokespecial 18, 3) := by decide +kernel
theorem dX9_init_23 : decode cX9_init 23 = .ok (.putfield 19, 3) := by decide +kernel
theorem dX9_init_26 : decode cX9_init 26 = .ok (.aload_n 0, 1) := by decide +kernel
theorem dX9_init_27 : decode cX9_init 27 = .ok (.new 23, 3) := by decide +kernel
theorem dX9_init_30 : decode cX9_init 30 = .ok (.dup, 1) := by decide +kernel
theorem dX9_init_31 : decode cX9_init 31 = .ok (.invokespecial 25, 3) := by decide +kernel
theorem dX9_init_34 : decode cX9_init 34 = .ok (.putfield 26, 3) := by decide +kernel
theorem dX9_init_37 : decode cX9_init 37 = .ok (.aload_n 0, 1) := by decide +kernel
theorem dX9_init_38 : decode cX9_init 38 = .ok (.new 30, 3) := by decide +kernel
theorem dX9_init_41 : decode cX9_init 41 = .ok (.dup, 1) := by decide +kernel
theorem dX9_init_42 : decode cX9_init 42 = .ok (.invokespecial 32, 3) := by decide +kernel
theorem dX9_init_45 : decode cX9_init 45 = .ok (.putfield 33, 3) := by decide +kernel
theorem dX9_init_48 : decode cX9_init 48 = .ok (.aload_n 0, 1) := by decide +kernel
theorem dX9_init_49 : decode cX9_init 49 = .ok (.new 37, 3) := by decide +kernel
theorem dX9_init_52 : decode cX9_init 52 = .ok (.dup, 1) := by decide +kernel
theorem dX9_init_53 : decode cX9_init 53 = .ok (.invokespecial 39, 3) := by decide +kernel
theorem dX9_init_56 : decode cX9_init 56 = .ok (.putfield 40, 3) := by decide +kernel
theorem dX9_init_59 : decode cX9_init 59 = .ok (.aload_n 0, 1) := by decide +kernel
theorem dX9_init_60 : decode cX9_init 60 = .ok (.new 37, 3) := by decide +kernel
theorem dX9_init_63 : decode cX9_init 63 = .ok (.dup, 1) := by decide +kernel
theorem dX9_init_64 : decode cX9_init 64 = .ok (.invokespecial 39, 3) := by decide +kernel
theorem dX9_init_67 : decode cX9_init 67 = .ok (.putfield 44, 3) := by decide +kernel
theorem dX9_init_70 : decode cX9_init 70 = .ok (.aload_n 0, 1) := by decide +kernel
theorem dX9_init_71 : decode cX9_init 71 = .ok (.new 47, 3) := by decide +kernel
theorem dX9_init_74 : decode cX9_init 74 = .ok (.dup, 1) := by decide +kernel
theorem dX9_init_75 : decode cX9_init 75 = .ok (.invokespecial 49, 3) := by decide +kernel
theorem dX9_init_78 : decode cX9_init 78 = .ok (.putfield 50, 3) := by decide +kernel
theorem dX9_init_81 : decode cX9_init 81 = .ok (.aload_n 0, 1) := by decide +kernel
theorem dX9_init_82 : decode cX9_init 82 = .ok (.new 54, 3) := by decide +kernel
theorem dX9_init_85 : decode cX9_init 85 = .ok (.dup, 1) := by decide +kernel
theorem dX9_init_86 : decode cX9_init 86 = .ok (.invokespecial 56, 3) := by decide +kernel
theorem dX9_init_89 : decode cX9_init 89 = .ok (.putfield 57, 3) := by decide +kernel
theorem dX9_init_92 : decode cX9_init 92 = .ok (.aload_n 0, 1) := by decide +kernel
theorem dX9_init_93 : decode cX9_init 93 = .ok (.getfield 12, 3) := by decide +kernel
theorem dX9_init_96 : decode cX9_init 96 = .ok (.iconst 2, 1) := by decide +kernel
theorem dX9_init_97 : decode cX9_init 97 = .ok (.invokevirtual 61, 3) := by decide +kernel
theorem dX9_init_100 : decode cX9_init 100 = .ok (.aload_n 0, 1) := by decide +kernel
theorem dX9_init_101 : decode cX9_init 101 = .ok (.getfield 40, 3) := by decide +kernel
theorem dX9_init_104 : decode cX9_init 104 = .ok (.invokevirtual 65, 3) := by decide +kernel
theorem dX9_init_107 : decode cX9_init 107 = .ok (.aload_n 0, 1) := by decide +kernel
theorem dX9_init_108 : decode cX9_init 108 = .ok (.invokevirtual 67, 3) := by decide +kernel
theorem dX9_init_111 : decode cX9_init 111 = .ok (.return_, 1) := by decide +kernel
theorem dX9_graphChanged_0 : decode cX9_graphChanged 0 = .ok (.aload_n 0, 1) := by decide +kernel
theorem dX9_graphChanged_1 : decode cX9_graphChanged 1 = .ok (.getfield 26, 3) := by decide +kernel
theorem dX9_graphChanged_4 : decode cX9_graphChanged 4 = .ok (.aload_n 0, 1) := by decide +kernel
theorem dX9_graphChanged_5 : decode cX9_graphChanged 5 = .ok (.getfield 12, 3) := by decide +kernel
theorem dX9_graphChanged_8 : decode cX9_graphChanged 8 = .ok (.invokevirtual 384, 3) := by decide +kernel
theorem dX9_graphChanged_11 : decode cX9_graphChanged 11 = .ok (.aload_n 0, 1) := by decide +kernel
theorem dX9_graphChanged_12 : decode cX9_graphChanged 12 = .ok (.invokevirtual 143, 3) := by decide +kernel
theorem dX9_graphChanged_15 : decode cX9_graphChanged 15 = .ok (.return_, 1) := by decide +kernel
theorem dX9_cellsChanged_0 : decode cX9_cellsChanged 0 = .ok (.aload_n 0, 1) := by decide +kernel
theorem dX9_cellsChanged_1 : decode cX9_cellsChanged 1 = .ok (.getfield 19, 3) := by decide +kernel
theorem dX9_cellsChanged_4 : decode cX9_cellsChanged 4 = .ok (.aload_n 0, 1) := by decide +kernel
theorem dX9_cellsChanged_5 : decode cX9_cellsChanged 5 = .ok (.getfield 26, 3) := by decide +kernel
theorem dX9_cellsChanged_8 : decode cX9_cellsChanged 8 = .ok (.invokevirtual 387, 3) := by decide +kernel
theorem dX9_cellsChanged_11 : decode cX9_cellsChanged 11 = .ok (.aload_n 0, 1) := by decide +kernel
theorem dX9_cellsChanged_12 : decode cX9_cellsChanged 12 = .ok (.getfield 33, 3) := by decide +kernel
theorem dX9_cellsChanged_15 : decode cX9_cellsChanged 15 = .ok (.invokevirtual 391, 3) := by decide +kernel
theorem dX9_cellsChanged_18 : decode cX9_cellsChanged 18 = .ok (.return_, 1) := by decide +kernel
theorem dX10_init_0 : decode cX10_init 0 = .ok (.aload_n 0, 1) := by decide +kernel
theorem dX10_init_1 : decode cX10_init 1 = .ok (.invokespecial 1, 3) := by decide +kernel
theorem dX10_init_4 : decode cX10_init 4 = .ok (.aload_n 0, 1) := by decide +kernel
theorem dX10_init_5 : decode cX10_init 5 = .ok (.iconst 2, 1) := by decide +kernel
theorem dX10_init_6 : decode cX10_init 6 = .ok (.putfield 7, 3) := by decide +kernel
theorem dX10_init_9 : decode cX10_init 9 = .ok (.aload_n 0, 1) := by decide +kernel
theorem dX10_init_10 : decode cX10_init 10 = .ok (.bipush 14, 2) := by decide +kernel
theorem dX10_init_12 : decode cX10_init 12 = .ok (.newarray .int, 2) := by decide +kernel
theorem dX10_init_14 : decode cX10_init 14 = .ok (.putfield 13, 3) := by decide +kernel
theorem dX10_init_17 : decode cX10_init 17 = .ok (.aload_n 0, 1) := by decide +kernel
theorem dX10_init_18 : decode cX10_init 18 = .ok (.bipush 14, 2) := by decide +kernel
theorem dX10_init_20 : decode cX10_init 20 = .ok (.newarray .int, 2) := by decide +kernel
theorem dX10_init_22 : decode cX10_init 22 = .ok (.putfield 17, 3) := by decide +kernel
theorem dX10_init_25 : decode cX10_init 25 = .ok (.aload_n 0, 1) := by decide +kernel
theorem dX10_init_26 : decode cX10_init 26 = .ok (.bipush 14, 2) := by decide +kernel
theorem dX10_init_28 : decode cX10_init 28 = .ok (.newarray .int, 2) := by decide +kernel
theorem dX10_init_30 : decode cX10_init 30 = .ok (.putfield 20, 3) := by decide +kernel
theorem dX10_init_33 : decode cX10_init 33 = .ok (.aload_n 0, 1) := by decide +kernel
theorem dX10_init_34 : decode cX10_init 34 = .ok (.bipush 8, 2) := by decide +kernel
theorem dX10_init_36 : decode cX10_init 36 = .ok (.newarray .int, 2) := by decide +kernel
theorem dX10_init_38 : decode cX10_init 38 = .ok (.putfield 23, 3) := by decide +kernel
theorem dX10_init_41 : decode cX10_init 41 = .ok (.aload_n 0, 1) := by decide +kernel
theorem dX10_init_42 : decode cX10_init 42 = .ok (.bipush 11, 2) := by decide +kernel
theorem dX10_init_44 : decode cX10_init 44 = .ok (.newarray .int, 2) := by decide +kernel
theorem dX10_init_46 : decode cX10_init 46 = .ok (.putfield 26, 3) := by decide +kernel
theorem dX10_init_49 : decode cX10_init 49 = .ok (.aload_n 0, 1) := by decide +kernel
theorem dX10_init_50 : decode cX10_init 50 = .ok (.bipush 22, 2) := by decide +kernel
theorem dX10_init_52 : decode cX10_init 52 = .ok (.newarray .int, 2) := by decide +kernel
theorem dX10_init_54 : decode cX10_init 54 = .ok (.putfield 29, 3) := by decide +kernel
theorem dX10_init_57 : decode cX10_init 57 = .ok (.aload_n 0, 1) := by decide +kernel
theorem dX10_init_58 : decode cX10_init 58 = .ok (.sipush 154, 3) := by decide +kernel
theorem dX10_init_61 : decode cX10_init 61 = .ok (.newarray .int, 2) := by decide +kernel
theorem dX10_init_63 : decode cX10_init 63 = .ok (.putfield 32, 3) := by decide +kernel
theorem dX10_init_66 : decode cX10_init 66 = .ok (.aload_n 0, 1) := by decide +kernel
theorem dX10_init_67 : decode cX10_init 67 = .ok (.bipush 60, 2) := by decide +kernel
theorem dX10_init_69 : decode cX10_init 69 = .ok (.newarray .int, 2) := by decide +kernel
theorem dX10_init_71 : decode cX10_init 71 = .ok (.putfield 35, 3) := by decide +kernel
theorem dX10_init_74 : decode cX10_init 74 = .ok (.aload_n 0, 1) := by decide +kernel
theorem dX10_init_75 : decode cX10_init 75 = .ok (.sipush 301, 3) := by decide +kernel
theorem dX10_init_78 : decode cX10_init 78 = .ok (.newarray .int, 2) := by decide +kernel
theorem dX10_init_80 : decode cX10_init 80 = .ok (.putfield 38, 3) := by decide +kernel
theorem dX10_init_83 : decode cX10_init 83 = .ok (.aload_n 0, 1) := by decide +kernel
theorem dX10_init_84 : decode cX10_init 84 = .ok (.sipush 301, 3) := by decide +kernel
theorem dX10_init_87 : decode cX10_init 87 = .ok (.newarray .int, 2) := by decide +kernel
theorem dX10_init_89 : decode cX10_init 89 = .ok (.putfield 41, 3) := by decide +kernel
theorem dX10_init_92 : decode cX10_init 92 = .ok (.aload_n 0, 1) := by decide +kernel
theorem dX10_init_93 : decode cX10_init 93 = .ok (.sipush 301, 3) := by decide +kernel
theorem dX10_init_96 : decode cX10_init 96 = .ok (.newarray .int, 2) := by decide +kernel
theorem dX10_init_98 : decode cX10_init 98 = .ok (.putfield 44, 3) := by decide +kernel
theorem dX10_init_101 : decode cX10_init 101 = .ok (.aload_n 0, 1) := by decide +kernel
theorem dX10_init_102 : decode cX10_init 102 = .ok (.sipush 2107, 3) := by decide +kernel
theorem dX10_init_105 : decode cX10_init 105 = .ok (.newarray .int, 2) := by decide +kernel
theorem dX10_init_107 : decode cX10_init 107 = .ok (.putfield 47, 3) := by decide +kernel
theorem dX10_init_110 : decode cX10_init 110 = .ok (.aload_n 0, 1) := by decide +kernel
theorem dX10_init_111 : decode cX10_init 111 = .ok (.sipush 4214, 3) := by decide +kernel
theorem dX10_init_114 : decode cX10_init 114 = .ok (.newarray .int, 2) := by decide +kernel
theorem dX10_init_116 : decode cX10_init 116 = .ok (.putfield 50, 3) := by decide +kernel
theorem dX10_init_119 : decode cX10_init 119 = .ok (.aload_n 0, 1) := by decide +kernel
theorem dX10_init_120 : decode cX10_init 120 = .ok (.sipush 301, 3) := by decide +kernel
theorem dX10_init_123 : decode cX10_init 123 = .ok (.newarray .int, 2) := by decide +kernel
theorem dX10_init_125 : decode cX10_init 125 = .ok (.putfield 53, 3) := by decide +kernel
theorem dX10_init_128 : decode cX10_init 128 = .ok (.aload_n 0, 1) := by decide +kernel
theorem dX10_init_129 : decode cX10_init 129 = .ok (.sipush 301, 3) := by decide +kernel
theorem dX10_init_132 : decode cX10_init 132 = .ok (.newarray .int, 2) := by decide +kernel
theorem dX10_init_134 : decode cX10_init 134 = .ok (.putfield 56, 3) := by decide +kernel
theorem dX10_init_137 : decode cX10_init 137 = .ok (.aload_n 0, 1) := by decide +kernel
theorem dX10_init_138 : decode cX10_init 138 = .ok (.sipush 301, 3) := by decide +kernel
theorem dX10_init_141 : decode cX10_init 141 = .ok (.newarray .int, 2) := by decide +kernel
theorem dX10_init_143 : decode cX10_init 143 = .ok (.putfield 59, 3) := by decide +kernel
theorem dX10_init_146 : decode cX10_init 146 = .ok (.aload_n 0, 1) := by decide +kernel
theorem dX10_init_147 : decode cX10_init 147 = .ok (.bipush 14, 2) := by decide +kernel
theorem dX10_init_149 : decode cX10_init 149 = .ok (.newarray .int, 2) := by decide +kernel
theorem dX10_init_151 : decode cX10_init 151 = .ok (.putfield 62, 3) := by decide +kernel
theorem dX10_init_154 : decode cX10_init 154 = .ok (.aload_n 0, 1) := by decide +kernel
theorem dX10_init_155 : decode cX10_init 155 = .ok (.bipush 8, 2) := by decide +kernel
theorem dX10_init_157 : decode cX10_init 157 = .ok (.newarray .int, 2) := by decide +kernel
theorem dX10_init_159 : decode cX10_init 159 = .ok (.putfield 65, 3) := by decide +kernel
theorem dX10_init_162 : decode cX10_init 162 = .ok (.aload_n 0, 1) := by decide +kernel
theorem dX10_init_163 : decode cX10_init 163 = .ok (.iconst 2, 1) := by decide +kernel
theorem dX10_init_164 : decode cX10_init 164 = .ok (.invokevirtual 68, 3) := by decide +kernel
theorem dX10_init_167 : decode cX10_init 167 = .ok (.return_, 1) := by decide +kernel
theorem dX10_fresh_0 : decode cX10_fresh 0 = .ok (.aload_n 0, 1) := by decide +kernel
theorem dX10_fresh_1 : decode cX10_fresh 1 = .ok (.iload_n 1, 1) := by decide +kernel
theorem dX10_fresh_2 : decode cX10_fresh 2 = .ok (.putfield 7, 3) := by decide +kernel
theorem dX10_fresh_5 : decode cX10_fresh 5 = .ok (.aload_n 0, 1) := by decide +kernel
theorem dX10_fresh_6 : decode cX10_fresh 6 = .ok (.iconst 0, 1) := by decide +kernel
theorem dX10_fresh_7 : decode cX10_fresh 7 = .ok (.putfield 79, 3) := by decide +kernel
theorem dX10_fresh_10 : decode cX10_fresh 10 = .ok (.aload_n 0, 1) := by decide +kernel
theorem dX10_fresh_11 : decode cX10_fresh 11 = .ok (.iconst 0, 1) := by decide +kernel
theorem dX10_fresh_12 : decode cX10_fresh 12 = .ok (.putfield 82, 3) := by decide +kernel
theorem dX10_fresh_15 : decode cX10_fresh 15 = .ok (.iconst 0, 1) := by decide +kernel
theorem dX10_fresh_16 : decode cX10_fresh 16 = .ok (.istore_n 2, 1) := by decide +kernel
theorem dX10_fresh_17 : decode cX10_fresh 17 = .ok (.iload_n 2, 1) := by decide +kernel
theorem dX10_fresh_18 : decode cX10_fresh 18 = .ok (.bipush 8, 2) := by decide +kernel
theorem dX10_fresh_20 : decode cX10_fresh 20 = .ok (.if_icmp .ge 16, 3) := by decide +kernel
theorem dX10_fresh_23 : decode cX10_fresh 23 = .ok (.aload_n 0, 1) := by decide +kernel
theorem dX10_fresh_24 : decode cX10_fresh 24 = .ok (.getfield 23, 3) := by decide +kernel
theorem dX10_fresh_27 : decode cX10_fresh 27 = .ok (.iload_n 2, 1) := by decide +kernel
theorem dX10_fresh_28 : decode cX10_fresh 28 = .ok (.iconst 2, 1) := by decide +kernel
theorem dX10_fresh_29 : decode cX10_fresh 29 = .ok (.iastore, 1) := by decide +kernel
theorem dX10_fresh_30 : decode cX10_fresh 30 = .ok (.iinc 2 1, 3) := by decide +kernel
theorem dX10_fresh_33 : decode cX10_fresh 33 = .ok (.goto (-16), 3) := by decide +kernel
theorem dX10_fresh_36 : decode cX10_fresh 36 = .ok (.aload_n 0, 1) := by decide +kernel
theorem dX10_fresh_37 : decode cX10_fresh 37 = .ok (.invokevirtual 85, 3) := by decide +kernel
theorem dX10_fresh_40 : decode cX10_fresh 40 = .ok (.pop, 1) := by decide +kernel
theorem dX10_fresh_41 : decode cX10_fresh 41 = .ok (.return_, 1) := by decide +kernel
theorem dX10_putPath_0 : decode cX10_putPath 0 = .ok (.aload_n 0, 1) := by decide +kernel
theorem dX10_putPath_1 : decode cX10_putPath 1 = .ok (.getfield 38, 3) := by decide +kernel
theorem dX10_putPath_4 : decode cX10_putPath 4 = .ok (.aload_n 0, 1) := by decide +kernel
theorem dX10_putPath_5 : decode cX10_putPath 5 = .ok (.getfield 89, 3) := by decide +kernel
theorem dX10_putPath_8 : decode cX10_putPath 8 = .ok (.iload_n 1, 1) := by decide +kernel
theorem dX10_putPath_9 : decode cX10_putPath 9 = .ok (.iastore, 1) := by decide +kernel
theorem dX10_putPath_10 : decode cX10_putPath 10 = .ok (.aload_n 0, 1) := by decide +kernel
theorem dX10_putPath_11 : decode cX10_putPath 11 = .ok (.getfield 41, 3) := by decide +kernel
theorem dX10_putPath_14 : decode cX10_putPath 14 = .ok (.aload_n 0, 1) := by decide +kernel
theorem dX10_putPath_15 : decode cX10_putPath 15 = .ok (.getfield 89, 3) := by decide +kernel
theorem dX10_putPath_18 : decode cX10_putPath 18 = .ok (.iload_n 2, 1) := by decide +kernel
theorem dX10_putPath_19 : decode cX10_putPath 19 = .ok (.iastore, 1) := by decide +kernel
theorem dX10_putPath_20 : decode cX10_putPath 20 = .ok (.aload_n 0, 1) := by decide +kernel
theorem dX10_putPath_21 : decode cX10_putPath 21 = .ok (.getfield 44, 3) := by decide +kernel
theorem dX10_putPath_24 : decode cX10_putPath 24 = .ok (.aload_n 0, 1) := by decide +kernel
theorem dX10_putPath_25 : decode cX10_putPath 25 = .ok (.getfield 89, 3) := by decide +kernel
theorem dX10_putPath_28 : decode cX10_putPath 28 = .ok (.iload_n 3, 1) := by decide +kernel
theorem dX10_putPath_29 : decode cX10_putPath 29 = .ok (.iastore, 1) := by decide +kernel
theorem dX10_putPath_30 : decode cX10_putPath 30 = .ok (.iconst 0, 1) := by decide +kernel
theorem dX10_putPath_31 : decode cX10_putPath 31 = .ok (.istore 4, 2) := by decide +kernel
theorem dX10_putPath_33 : decode cX10_putPath 33 = .ok (.iload 4, 2) := by decide +kernel
theorem dX10_putPath_35 : decode cX10_putPath 35 = .ok (.bipush 14, 2) := by decide +kernel
theorem dX10_putPath_37 : decode cX10_putPath 37 = .ok (.if_icmp .ge 25, 3) := by decide +kernel
theorem dX10_putPath_40 : decode cX10_putPath 40 = .ok (.aload_n 0, 1) := by decide +kernel
theorem dX10_putPath_41 : decode cX10_putPath 41 = .ok (.getfield 50, 3) := by decide +kernel
theorem dX10_putPath_44 : decode cX10_putPath 44 = .ok (.bipush 14, 2) := by decide +kernel
theorem dX10_putPath_46 : decode cX10_putPath 46 = .ok (.aload_n 0, 1) := by decide +kernel
theorem dX10_putPath_47 : decode cX10_putPath 47 = .ok (.getfield 89, 3) := by decide +kernel
theorem dX10_putPath_50 : decode cX10_putPath 50 = .ok (.imul, 1) := by decide +kernel
theorem dX10_putPath_51 : decode cX10_putPath 51 = .ok (.iload 4, 2) := by decide +kernel
theorem dX10_putPath_53 : decode cX10_putPath 53 = .ok (.iadd, 1) := by decide +kernel
theorem dX10_putPath_54 : decode cX10_putPath 54 = .ok (.iconst (-1), 1) := by decide +kernel
theorem dX10_putPath_55 : decode cX10_putPath 55 = .ok (.iastore, 1) := by decide +kernel
theorem dX10_putPath_56 : decode cX10_putPath 56 = .ok (.iinc 4 1, 3) := by decide +kernel
theorem dX10_putPath_59 : decode cX10_putPath 59 = .ok (.goto (-26), 3) := by decide +kernel
theorem dX10_putPath_62 : decode cX10_putPath 62 = .ok (.aload_n 0, 1) := by decide +kernel
theorem dX10_putPath_63 : decode cX10_putPath 63 = .ok (.dup, 1) := by decide +kernel
theorem dX10_putPath_64 : decode cX10_putPath 64 = .ok (.getfield 89, 3) := by decide +kernel
theorem dX10_putPath_67 : decode cX10_putPath 67 = .ok (.iconst 1, 1) := by decide +kernel
theorem dX10_putPath_68 : decode cX10_putPath 68 = .ok (.iadd, 1) := by decide +kernel
theorem dX10_putPath_69 : decode cX10_putPath 69 = .ok (.putfield 89, 3) := by decide +kernel
theorem dX10_putPath_72 : decode cX10_putPath 72 = .ok (.return_, 1) := by decide +kernel
theorem dX10_goOn_0 : decode cX10_goOn 0 = .ok (.aload_n 0, 1) := by decide +kernel
theorem dX10_goOn_1 : decode cX10_goOn 1 = .ok (.getfield 89, 3) := by decide +kernel
theorem dX10_goOn_4 : decode cX10_goOn 4 = .ok (.istore_n 3, 1) := by decide +kernel
theorem dX10_goOn_5 : decode cX10_goOn 5 = .ok (.aload_n 0, 1) := by decide +kernel
theorem dX10_goOn_6 : decode cX10_goOn 6 = .ok (.aload_n 0, 1) := by decide +kernel
theorem dX10_goOn_7 : decode cX10_goOn 7 = .ok (.getfield 38, 3) := by decide +kernel
theorem dX10_goOn_10 : decode cX10_goOn 10 = .ok (.iload_n 1, 1) := by decide +kernel
theorem dX10_goOn_11 : decode cX10_goOn 11 = .ok (.iaload, 1) := by decide +kernel
theorem dX10_goOn_12 : decode cX10_goOn 12 = .ok (.aload_n 0, 1) := by decide +kernel
theorem dX10_goOn_13 : decode cX10_goOn 13 = .ok (.getfield 17, 3) := by decide +kernel
theorem dX10_goOn_16 : decode cX10_goOn 16 = .ok (.iload_n 2, 1) := by decide +kernel
theorem dX10_goOn_17 : decode cX10_goOn 17 = .ok (.iaload, 1) := by decide +kernel
theorem dX10_goOn_18 : decode cX10_goOn 18 = .ok (.aload_n 0, 1) := by decide +kernel
theorem dX10_goOn_19 : decode cX10_goOn 19 = .ok (.getfield 44, 3) := by decide +kernel
theorem dX10_goOn_22 : decode cX10_goOn 22 = .ok (.iload_n 1, 1) := by decide +kernel
theorem dX10_goOn_23 : decode cX10_goOn 23 = .ok (.iaload, 1) := by decide +kernel
theorem dX10_goOn_24 : decode cX10_goOn 24 = .ok (.iconst 1, 1) := by decide +kernel
theorem dX10_goOn_25 : decode cX10_goOn 25 = .ok (.iadd, 1) := by decide +kernel
theorem dX10_goOn_26 : decode cX10_goOn 26 = .ok (.invokevirtual 92, 3) := by decide +kernel
theorem dX10_goOn_29 : decode cX10_goOn 29 = .ok (.iconst 0, 1) := by decide +kernel
theorem dX10_goOn_30 : decode cX10_goOn 30 = .ok (.istore 4, 2) := by decide +kernel
theorem dX10_goOn_32 : decode cX10_goOn 32 = .ok (.iload 4, 2) := by decide +kernel
theorem dX10_goOn_34 : decode cX10_goOn 34 = .ok (.aload_n 0, 1) := by decide +kernel
theorem dX10_goOn_35 : decode cX10_goOn 35 = .ok (.getfield 44, 3) := by decide +kernel
theorem dX10_goOn_38 : decode cX10_goOn 38 = .ok (.iload_n 1, 1) := by decide +kernel
theorem dX10_goOn_39 : decode cX10_goOn 39 = .ok (.iaload, 1) := by decide +kernel
theorem dX10_goOn_40 : decode cX10_goOn 40 = .ok (.if_icmp .ge 33, 3) := by decide +kernel
theorem dX10_goOn_43 : decode cX10_goOn 43 = .ok (.aload_n 0, 1) := by decide +kernel
theorem dX10_goOn_44 : decode cX10_goOn 44 = .ok (.getfield 47, 3) := by decide +kernel
theorem dX10_goOn_47 : decode cX10_goOn 47 = .ok (.bipush 7, 2) := by decide +kernel
theorem dX10_goOn_49 : decode cX10_goOn 49 = .ok (.iload_n 3, 1) := by decide +kernel
theorem dX10_goOn_50 : decode cX10_goOn 50 = .ok (.imul, 1) := by decide +kernel
theorem dX10_goOn_51 : decode cX10_goOn 51 = .ok (.iload 4, 2) := by decide +kernel
theorem dX10_goOn_53 : decode cX10_goOn 53 = .ok (.iadd, 1) := by decide +kernel
theorem dX10_goOn_54 : decode cX10_goOn 54 = .ok (.aload_n 0, 1) := by decide +kernel
theorem dX10_goOn_55 : decode cX10_goOn 55 = .ok (.getfield 47, 3) := by decide +kernel
theorem dX10_goOn_58 : decode cX10_goOn 58 = .ok (.bipush 7, 2) := by decide +kernel
theorem dX10_goOn_60 : decode cX10_goOn 60 = .ok (.iload_n 1, 1) := by decide +kernel
theorem dX10_goOn_61 : decode cX10_goOn 61 = .ok (.imul, 1) := by decide +kernel
theorem dX10_goOn_62 : decode cX10_goOn 62 = .ok (.iload 4, 2) := by decide +kernel
theorem dX10_goOn_64 : decode cX10_goOn 64 = .ok (.iadd, 1) := by decide +kernel
theorem dX10_goOn_65 : decode cX10_goOn 65 = .ok (.iaload, 1) := by decide +kernel
theorem dX10_goOn_66 : decode cX10_goOn 66 = .ok (.iastore, 1) := by decide +kernel
theorem dX10_goOn_67 : decode cX10_goOn 67 = .ok (.iinc 4 1, 3) := by decide +kernel
theorem dX10_goOn_70 : decode cX10_goOn 70 = .ok (.goto (-38), 3) := by decide +kernel
theorem dX10_goOn_73 : decode cX10_goOn 73 = .ok (.aload_n 0, 1) := by decide +kernel
theorem dX10_goOn_74 : decode cX10_goOn 74 = .ok (.getfield 47, 3) := by decide +kernel
theorem dX10_goOn_77 : decode cX10_goOn 77 = .ok (.bipush 7, 2) := by decide +kernel
theorem dX10_goOn_79 : decode cX10_goOn 79 = .ok (.iload_n 3, 1) := by decide +kernel
theorem dX10_goOn_80 : decode cX10_goOn 80 = .ok (.imul, 1) := by decide +kernel
theorem dX10_goOn_81 : decode cX10_goOn 81 = .ok (.aload_n 0, 1) := by decide +kernel
theorem dX10_goOn_82 : decode cX10_goOn 82 = .ok (.getfield 44, 3) := by decide +kernel
theorem dX10_goOn_85 : decode cX10_goOn 85 = .ok (.iload_n 1, 1) := by decide +kernel
theorem dX10_goOn_86 : decode cX10_goOn 86 = .ok (.iaload, 1) := by decide +kernel
theorem dX10_goOn_87 : decode cX10_goOn 87 = .ok (.iadd, 1) := by decide +kernel
theorem dX10_goOn_88 : decode cX10_goOn 88 = .ok (.iload_n 2, 1) := by decide +kernel
theorem dX10_goOn_89 : decode cX10_goOn 89 = .ok (.iastore, 1) := by decide +kernel
theorem dX10_goOn_90 : decode cX10_goOn 90 = .ok (.aload_n 0, 1) := by decide +kernel
theorem dX10_goOn_91 : decode cX10_goOn 91 = .ok (.getfield 50, 3) := by decide +kernel
theorem dX10_goOn_94 : decode cX10_goOn 94 = .ok (.bipush 14, 2) := by decide +kernel
theorem dX10_goOn_96 : decode cX10_goOn 96 = .ok (.iload_n 1, 1) := by decide +kernel
theorem dX10_goOn_97 : decode cX10_goOn 97 = .ok (.imul, 1) := by decide +kernel
theorem dX10_goOn_98 : decode cX10_goOn 98 = .ok (.iload_n 2, 1) := by decide +kernel
theorem dX10_goOn_99 : decode cX10_goOn 99 = .ok (.iadd, 1) := by decide +kernel
theorem dX10_goOn_100 : decode cX10_goOn 100 = .ok (.iload_n 3, 1) := by decide +kernel
theorem dX10_goOn_101 : decode cX10_goOn 101 = .ok (.iastore, 1) := by decide +kernel
theorem dX10_goOn_102 : decode cX10_goOn 102 = .ok (.return_, 1) := by decide +kernel
theorem dX10_layPaths_0 : decode cX10_layPaths 0 = .ok (.aload_n 0, 1) := by decide +kernel
theorem dX10_layPaths_1 : decode cX10_layPaths 1 = .ok (.iconst 0, 1) := by decide +kernel
theorem dX10_layPaths_2 : decode cX10_layPaths 2 = .ok (.putfield 89, 3) := by decide +kernel
theorem dX10_layPaths_5 : decode cX10_layPaths 5 = .ok (.iconst 0, 1) := by decide +kernel
theorem dX10_layPaths_6 : decode cX10_layPaths 6 = .ok (.istore_n 1, 1) := by decide +kernel
theorem dX10_layPaths_7 : decode cX10_layPaths 7 = .ok (.iload_n 1, 1) := by decide +kernel
theorem dX10_layPaths_8 : decode cX10_layPaths 8 = .ok (.aload_n 0, 1) := by decide +kernel
theorem dX10_layPaths_9 : decode cX10_layPaths 9 = .ok (.getfield 7, 3) := by decide +kernel
theorem dX10_layPaths_12 : decode cX10_layPaths 12 = .ok (.if_icmp .ge 16, 3) := by decide +kernel
theorem dX10_layPaths_15 : decode cX10_layPaths 15 = .ok (.aload_n 0, 1) := by decide +kernel
theorem dX10_layPaths_16 : decode cX10_layPaths 16 = .ok (.iload_n 1, 1) := by decide +kernel
theorem dX10_layPaths_17 : decode cX10_layPaths 17 = .ok (.iload_n 1, 1) := by decide +kernel
theorem dX10_layPaths_18 : decode cX10_layPaths 18 = .ok (.iconst 0, 1) := by decide +kernel
theorem dX10_layPaths_19 : decode cX10_layPaths 19 = .ok (.invokevirtual 92, 3) := by decide +kernel
theorem dX10_layPaths_22 : decode cX10_layPaths 22 = .ok (.iinc 1 1, 3) := by decide +kernel
theorem dX10_layPaths_25 : decode cX10_layPaths 25 = .ok (.goto (-18), 3) := by decide +kernel
theorem dX10_layPaths_28 : decode cX10_layPaths 28 = .ok (.aload_n 0, 1) := by decide +kernel
theorem dX10_layPaths_29 : decode cX10_layPaths 29 = .ok (.getfield 89, 3) := by decide +kernel
theorem dX10_layPaths_32 : decode cX10_layPaths 32 = .ok (.istore_n 1, 1) := by decide +kernel
theorem dX10_layPaths_33 : decode cX10_layPaths 33 = .ok (.iconst 0, 1) := by decide +kernel
theorem dX10_layPaths_34 : decode cX10_layPaths 34 = .ok (.istore_n 2, 1) := by decide +kernel
theorem dX10_layPaths_35 : decode cX10_layPaths 35 = .ok (.iload_n 2, 1) := by decide +kernel
theorem dX10_layPaths_36 : decode cX10_layPaths 36 = .ok (.aload_n 0, 1) := by decide +kernel
theorem dX10_layPaths_37 : decode cX10_layPaths 37 = .ok (.getfield 79, 3) := by decide +kernel
theorem dX10_layPaths_40 : decode cX10_layPaths 40 = .ok (.if_icmp .ge 20, 3) := by decide +kernel
theorem dX10_layPaths_43 : decode cX10_layPaths 43 = .ok (.aload_n 0, 1) := by decide +kernel
theorem dX10_layPaths_44 : decode cX10_layPaths 44 = .ok (.aload_n 0, 1) := by decide +kernel
theorem dX10_layPaths_45 : decode cX10_layPaths 45 = .ok (.getfield 13, 3) := by decide +kernel
theorem dX10_layPaths_48 : decode cX10_layPaths 48 = .ok (.iload_n 2, 1) := by decide +kernel
theorem dX10_layPaths_49 : decode cX10_layPaths 49 = .ok (.iaload, 1) := by decide +kernel
theorem dX10_layPaths_50 : decode cX10_layPaths 50 = .ok (.iload_n 2, 1) := by decide +kernel
theorem dX10_layPaths_51 : decode cX10_layPaths 51 = .ok (.invokevirtual 96, 3) := by decide +kernel
theorem dX10_layPaths_54 : decode cX10_layPaths 54 = .ok (.iinc 2 1, 3) := by decide +kernel
theorem dX10_layPaths_57 : decode cX10_layPaths 57 = .ok (.goto (-22), 3) := by decide +kernel
theorem dX10_layPaths_60 : decode cX10_layPaths 60 = .ok (.iload_n 1, 1) := by decide +kernel
theorem dX10_layPaths_61 : decode cX10_layPaths 61 = .ok (.istore_n 2, 1) := by decide +kernel
theorem dX10_layPaths_62 : decode cX10_layPaths 62 = .ok (.iload_n 2, 1) := by decide +kernel
theorem dX10_layPaths_63 : decode cX10_layPaths 63 = .ok (.aload_n 0, 1) := by decide +kernel
theorem dX10_layPaths_64 : decode cX10_layPaths 64 = .ok (.getfield 89, 3) := by decide +kernel
theorem dX10_layPaths_67 : decode cX10_layPaths 67 = .ok (.if_icmp .ge 58, 3) := by decide +kernel
theorem dX10_layPaths_70 : decode cX10_layPaths 70 = .ok (.iconst 0, 1) := by decide +kernel
theorem dX10_layPaths_71 : decode cX10_layPaths 71 = .ok (.istore_n 3, 1) := by decide +kernel
theorem dX10_layPaths_72 : decode cX10_layPaths 72 = .ok (.iload_n 3, 1) := by decide +kernel
theorem dX10_layPaths_73 : decode cX10_layPaths 73 = .ok (.aload_n 0, 1) := by decide +kernel
theorem dX10_layPaths_74 : decode cX10_layPaths 74 = .ok (.getfield 79, 3) := by decide +kernel
theorem dX10_layPaths_77 : decode cX10_layPaths 77 = .ok (.if_icmp .ge 42, 3) := by decide +kernel
theorem dX10_layPaths_80 : decode cX10_layPaths 80 = .ok (.aload_n 0, 1) := by decide +kernel
theorem dX10_layPaths_81 : decode cX10_layPaths 81 = .ok (.getfield 13, 3) := by decide +kernel
theorem dX10_layPaths_84 : decode cX10_layPaths 84 = .ok (.iload_n 3, 1) := by decide +kernel
theorem dX10_layPaths_85 : decode cX10_layPaths 85 = .ok (.iaload, 1) := by decide +kernel
theorem dX10_layPaths_86 : decode cX10_layPaths 86 = .ok (.aload_n 0, 1) := by decide +kernel
theorem dX10_layPaths_87 : decode cX10_layPaths 87 = .ok (.getfield 41, 3) := by decide +kernel
theorem dX10_layPaths_90 : decode cX10_layPaths 90 = .ok (.iload_n 2, 1) := by decide +kernel
theorem dX10_layPaths_91 : decode cX10_layPaths 91 = .ok (.iaload, 1) := by decide +kernel
theorem dX10_layPaths_92 : decode cX10_layPaths 92 = .ok (.if_icmp .ne 21, 3) := by decide +kernel
theorem dX10_layPaths_95 : decode cX10_layPaths 95 = .ok (.aload_n 0, 1) := by decide +kernel
theorem dX10_layPaths_96 : decode cX10_layPaths 96 = .ok (.getfield 89, 3) := by decide +kernel
theorem dX10_layPaths_99 : decode cX10_layPaths 99 = .ok (.sipush 300, 3) := by decide +kernel
theorem dX10_layPaths_102 : decode cX10_layPaths 102 = .ok (.if_icmp .ne 5, 3) := by decide +kernel
theorem dX10_layPaths_105 : decode cX10_layPaths 105 = .ok (.iconst 0, 1) := by decide +kernel
theorem dX10_layPaths_106 : decode cX10_layPaths 106 = .ok (.ireturn, 1) := by decide +kernel
theorem dX10_layPaths_107 : decode cX10_layPaths 107 = .ok (.aload_n 0, 1) := by decide +kernel
theorem dX10_layPaths_108 : decode cX10_layPaths 108 = .ok (.iload_n 2, 1) := by decide +kernel
theorem dX10_layPaths_109 : decode cX10_layPaths 109 = .ok (.iload_n 3, 1) := by decide +kernel
theorem dX10_layPaths_110 : decode cX10_layPaths 110 = .ok (.invokevirtual 96, 3) := by decide +kernel
theorem dX10_layPaths_113 : decode cX10_layPaths 113 = .ok (.iinc 3 1, 3) := by decide +kernel
theorem dX10_layPaths_116 : decode cX10_layPaths 116 = .ok (.goto (-44), 3) := by decide +kernel
theorem dX10_layPaths_119 : decode cX10_layPaths 119 = .ok (.iinc 2 1, 3) := by decide +kernel
theorem dX10_layPaths_122 : decode cX10_layPaths 122 = .ok (.goto (-60), 3) := by decide +kernel
theorem dX10_layPaths_125 : decode cX10_layPaths 125 = .ok (.iconst 1, 1) := by decide +kernel
theorem dX10_layPaths_126 : decode cX10_layPaths 126 = .ok (.ireturn, 1) := by decide +kernel
theorem dL_law_0 : decode cL_law 0 = .ok (.new 8, 3) := by decide +kernel
theorem dL_law_3 : decode cL_law 3 = .ok (.dup, 1) := by decide +kernel
theorem dL_law_4 : decode cL_law 4 = .ok (.invokespecial 89, 3) := by decide +kernel
theorem dL_law_7 : decode cL_law 7 = .ok (.astore_n 1, 1) := by decide +kernel
theorem dL_law_8 : decode cL_law 8 = .ok (.new 90, 3) := by decide +kernel
theorem dL_law_11 : decode cL_law 11 = .ok (.dup, 1) := by decide +kernel
theorem dL_law_12 : decode cL_law 12 = .ok (.invokespecial 92, 3) := by decide +kernel
theorem dL_law_15 : decode cL_law 15 = .ok (.astore_n 2, 1) := by decide +kernel
theorem dL_law_16 : decode cL_law 16 = .ok (.iconst 1, 1) := by decide +kernel
theorem dL_law_17 : decode cL_law 17 = .ok (.newarray .long, 2) := by decide +kernel
theorem dL_law_19 : decode cL_law 19 = .ok (.astore_n 3, 1) := by decide +kernel
theorem dL_law_20 : decode cL_law 20 = .ok (.iconst 0, 1) := by decide +kernel
theorem dL_law_21 : decode cL_law 21 = .ok (.istore 4, 2) := by decide +kernel
theorem dL_law_23 : decode cL_law 23 = .ok (.iload 4, 2) := by decide +kernel
theorem dL_law_25 : decode cL_law 25 = .ok (.aload_n 0, 1) := by decide +kernel
theorem dL_law_26 : decode cL_law 26 = .ok (.arraylength, 1) := by decide +kernel
theorem dL_law_27 : decode cL_law 27 = .ok (.iconst 5, 1) := by decide +kernel
theorem dL_law_28 : decode cL_law 28 = .ok (.isub, 1) := by decide +kernel
theorem dL_law_29 : decode cL_law 29 = .ok (.if_icmp .gt 1099, 3) := by decide +kernel
theorem dL_law_1128 : decode cL_law 1128 = .ok (.iconst 1, 1) := by decide +kernel
theorem dL_law_1129 : decode cL_law 1129 = .ok (.ireturn, 1) := by decide +kernel
end
section
/-! p27: the claim is false as printed (its room): made by wip/refute/port.py out of whole's rows -/
/-! A flat memory (class number or array tag, instance, place) and what it says of the heap; one walk predicate over it. -/
section MEM
abbrev AV : Type := Int32 ⊕ Int64 ⊕ UInt32 ⊕ UInt64 ⊕ (Nat × Nat)
abbrev vI (x : Int32) : AV := .inl x
abbrev vR (t k : Nat) : AV := .inr (.inr (.inr (.inr (t, k))))
abbrev Mem : Type := (Nat → Nat → Nat → Int32) × (Nat → Nat → Nat → Int64)
def mI (M : Mem) (t k i : Nat) (v : Int32) : Mem := (fun a b c => if a = t ∧ b = k ∧ c = i then v else M.1 a b c, M.2)
abbrev FK : Type := Nat ⊕ (Nat × Nat × Nat)
def fk (t : Nat) : List FK := match t with
  | 0 => [.inl 0, .inr (8, 6, 3), .inr (8, 7, 3), .inr (3, 0, 1), .inr (8, 8, 3)]
  | 1 => [.inr (8, 12, 2), .inr (8, 13, 2)]
  | 2 => [.inl 0, .inl 0, .inr (8, 0, 3), .inr (8, 1, 3), .inr (8, 2, 3)]
  | 3 => [.inl 0, .inl 0, .inr (21, 0, 1)]
  | 4 => [.inl 0, .inr (8, 24, 0)]
  | 5 => [.inl 0, .inl 0, .inl 0, .inl 0, .inl 0, .inl 0, .inr (3, 4, 0), .inr (8, 20, 0), .inr (8, 21, 0), .inr (8, 22, 0), .inr (8, 23, 0), .inr (3, 5, 0)]
  | 6 => [.inl 0, .inr (8, 16, 0), .inr (8, 17, 0), .inr (8, 18, 0), .inr (3, 2, 0), .inr (8, 19, 0), .inr (3, 3, 0)]
  | 7 => [.inr (2, 1, 0), .inr (0, 1, 0), .inl 0, .inl 0, .inl 0, .inl 0]
  | 8 => [.inr (20, 0, 1)]
  | 9 => [.inr (2, 0, 0), .inr (0, 0, 0), .inr (6, 0, 0), .inr (5, 0, 0), .inr (1, 0, 0), .inr (1, 1, 0), .inr (4, 0, 0), .inr (7, 0, 0)]
  | 10 => [.inl 0, .inl 0, .inl 0, .inr (22, 3, 0), .inr (22, 4, 0), .inr (22, 5, 0), .inr (22, 6, 0), .inl 0, .inr (22, 8, 0), .inr (22, 9, 0), .inr (22, 10, 0), .inl 0, .inr (22, 12, 0), .inl 0, .inr (22, 14, 0), .inr (22, 15, 0), .inr (22, 16, 0), .inr (22, 17, 0), .inr (22, 18, 0), .inl 0, .inl 0, .inl 0, .inl 0, .inl 0, .inl 0, .inr (22, 25, 0), .inr (22, 26, 0), .inr (22, 27, 0), .inl 0, .inr (22, 29, 0), .inr (22, 30, 0), .inl 1]
  | _ => []
/-- the instance that a reference field names -/
def rk (b s k : Nat) : Nat := match s with
  | 0 => b
  | 1 => k + b
  | n + 2 => (n + 2) * k + b
def rlens : List Nat := [14, 14, 8, 14, 14, 8, 10, 20, 20, 10, 20, 20, 8, 14, 8, 14, 300, 300, 300, 300, 300, 300, 300, 300, 60]
def glens : List Nat := [140, 140, 2100, 4200, 6000, 64]
def mlens : List Nat := [0, 0, 0, 14, 14, 14, 8, 0, 11, 22, 154, 0, 60, 0, 301, 301, 301, 2107, 4214, 0, 0, 0, 0, 0, 0, 301, 301, 301, 0, 14, 8, 0]
def alen (t k : Nat) : Nat := match t with
  | 20 => rlens.getD k 0
  | 21 => glens.getD k 0
  | 22 => mlens.getD k 0
  | _ => 1
/-- what is fixed over a run: the classes' numbers, the addresses, which objects there are, which cells are ours, the script -/
abbrev GE : Type := va_G × ClassId × ClassId × (Nat → Nat → Nat) × List (Nat × Nat) × (Nat → Prop) × Option (Nat × (Nat → Int32))
abbrev gD (G : GE) : va_G := G.1
abbrev gI (G : GE) : ClassId := G.2.1
abbrev gL (G : GE) : ClassId := G.2.2.1
abbrev gad (G : GE) : Nat → Nat → Nat := G.2.2.2.1
abbrev gids (G : GE) : List (Nat × Nat) := G.2.2.2.2.1
abbrev gA (G : GE) : Nat → Prop := G.2.2.2.2.2.1
abbrev gscr (G : GE) : Option (Nat × (Nat → Int32)) := G.2.2.2.2.2.2
def cv (G : GE) (v : AV) : Value := match v with
  | .inl x => .int x
  | .inr (.inl x) => .long x
  | .inr (.inr (.inl x)) => .float x
  | .inr (.inr (.inr (.inl x))) => .double x
  | .inr (.inr (.inr (.inr q))) => .ref (gad G q.1 q.2)
def fvs (ad : Nat → Nat → Nat) (f : Nat → Int32) (g : Nat → Int64) (k : Nat) : Nat → List FK → List Value
  | _, [] => []
  | i, .inl 0 :: r => .int (f i) :: fvs ad f g k (i + 1) r
  | i, .inl (_ + 1) :: r => .long (g i) :: fvs ad f g k (i + 1) r
  | i, .inr (t, b, s) :: r => .ref (ad t (rk b s k)) :: fvs ad f g k (i + 1) r
def enc (G : GE) (M : Mem) (t k : Nat) : va_E :=
  if t < 20 then .inr (t, fvs (gad G) (M.1 t k) (M.2 t k) k 0 (fk t)) else if t = 23 then .inl (gL G, alen t k, .inr (.inl (M.2 t k))) else .inl (gI G, alen t k, .inl (M.1 t k))
def wl (G : GE) (M : Mem) : va_W := (gids G).map (fun q => (gad G q.1 q.2, enc G M q.1 q.2))
abbrev gtys (G : GE) : List (ClassId × FieldType) := [(gI G, .int), (gL G, .long)]
/-- the string constants that the class's exceptions name -/
def strs : List (String × Nat × String) := [("ArrowDiagrams", 72, "objects is out of range"), ("ArrowDiagrams", 85, "to is not greater than from"), ("ArrowDiagrams", 92, "there are 14 arrows"), ("ArrowDiagrams", 102, "there would be more than 300 paths"), ("ArrowDiagrams", 111, "there are no arrows"), ("ArrowDiagrams", 126, "there are 10 cells"), ("ArrowDiagrams", 152, "code is not 32 to 126"), ("ArrowDiagrams", 157, "the buffer has 60 characters"), ("ArrowDiagrams", 171, "the buffer is not a complete text"), ("ArrowDiagrams", 227, "what is not 0 to 6"), ("ArrowDiagrams", 231, "there is no such arrow"), ("ArrowDiagrams", 246, "what is not 0 or 1"), ("ArrowDiagrams", 248, "the proof has no such step"), ("ArrowDiagrams", 274, "what is not 0 to 4"), ("ArrowDiagrams", 289, "what is not 0 to 7"), ("ArrowDiagrams", 291, "size is out of range"), ("ArrowDiagrams", 306, "code is the code of no such function"), ("ArrowDiagrams", 311, "there is no such element"), ("ArrowDiagrams", 321, "there are more than 6 arrows"), ("ArrowDiagrams", 337, "they are not two arrows from the same object"), ("ArrowDiagrams", 350, "they do not make such a square"), ("ArrowDiagrams", 358, "they do not lead like that"), ("ArrowDiagrams", 397, "the object does not exist"), ("ArrowDiagrams", 402, "the arrow does not exist"), ("ArrowDiagrams", 404, "the cell does not exist"), ("ArrowDiagrams", 406, "the path does not exist"), ("ArrowDiagrams", 408, "the paths are not parallel")]
/-- words that hold all over a run, but aren't of the kind that the tables keep -/
def XW : List Cond := [.castable "java/lang/IllegalArgumentException" "java/lang/IllegalArgumentException", .castable "java/lang/IllegalStateException" "java/lang/IllegalStateException", .castable "java/lang/IndexOutOfBoundsException" "java/lang/IndexOutOfBoundsException", .declares (Bundle.initS "java/lang/RuntimeException"), .declares (Bundle.initS "java/lang/Exception"), .declares (Bundle.initS Bundle.tN), .fieldLinkNest "ArrowDiagrams" 128 "ArrowDiagrams$Paths" "start" "LArrowDiagrams$Row;" "ArrowDiagrams", .fieldLinkNest "ArrowDiagrams$Functions" 55 "ArrowDiagrams$Paths" "start" "LArrowDiagrams$Row;" "ArrowDiagrams", .fieldLinkNest "ArrowDiagrams$Pasting" 116 "ArrowDiagrams$Paths" "start" "LArrowDiagrams$Row;" "ArrowDiagrams", .fieldLinkNest "ArrowDiagrams" 205 "ArrowDiagrams$Paths" "end" "LArrowDiagrams$Row;" "ArrowDiagrams", .fieldLinkNest "ArrowDiagrams$Pasting" 119 "ArrowDiagrams$Paths" "end" "LArrowDiagrams$Row;" "ArrowDiagrams", .fieldLinkNest "ArrowDiagrams$Functions" 42 "ArrowDiagrams$Paths" "length" "LArrowDiagrams$Row;" "ArrowDiagrams", .fieldLinkNest "ArrowDiagrams" 208 "ArrowDiagrams$Paths" "length" "LArrowDiagrams$Row;" "ArrowDiagrams", .fieldLinkNest "ArrowDiagrams$Pasting" 134 "ArrowDiagrams$Paths" "length" "LArrowDiagrams$Row;" "ArrowDiagrams", .fieldLinkNest "ArrowDiagrams$Functions" 47 "ArrowDiagrams$Paths" "arrow" "LArrowDiagrams$Grid;" "ArrowDiagrams", .fieldLinkNest "ArrowDiagrams" 234 "ArrowDiagrams$Paths" "arrow" "LArrowDiagrams$Grid;" "ArrowDiagrams", .fieldLinkNest "ArrowDiagrams$Pasting" 137 "ArrowDiagrams$Paths" "arrow" "LArrowDiagrams$Grid;" "ArrowDiagrams", .fieldLinkNest "ArrowDiagrams$Pasting" 125 "ArrowDiagrams$Paths" "shorter" "LArrowDiagrams$Row;" "ArrowDiagrams", .fieldLinkNest "ArrowDiagrams$Cells" 63 "ArrowDiagrams$Paths" "longer" "LArrowDiagrams$Grid;" "ArrowDiagrams", .fieldLinkNest "ArrowDiagrams" 194 "ArrowDiagrams$Paths" "longer" "LArrowDiagrams$Grid;" "ArrowDiagrams", .fieldLinkNest "ArrowDiagrams$Pasting" 128 "ArrowDiagrams$Paths" "longer" "LArrowDiagrams$Grid;" "ArrowDiagrams", .methodLinkNest "ArrowDiagrams" 11 ⟨"ArrowDiagrams$Graph", "<init>", "()V"⟩ "ArrowDiagrams", .methodLinkNest "ArrowDiagrams" 18 ⟨"ArrowDiagrams$Cells", "<init>", "()V"⟩ "ArrowDiagrams", .methodLinkNest "ArrowDiagrams" 25 ⟨"ArrowDiagrams$Paths", "<init>", "()V"⟩ "ArrowDiagrams", .methodLinkNest "ArrowDiagrams" 39 ⟨"ArrowDiagrams$Functions", "<init>", "()V"⟩ "ArrowDiagrams", .methodLinkNest "ArrowDiagrams" 49 ⟨"ArrowDiagrams$Input", "<init>", "()V"⟩ "ArrowDiagrams", .methodLinkNest "ArrowDiagrams" 56 ⟨"ArrowDiagrams$Reader", "<init>", "()V"⟩ "ArrowDiagrams", .methodLinkNest "ArrowDiagrams$Reader" 11 ⟨"ArrowDiagrams$Graph", "<init>", "()V"⟩ "ArrowDiagrams", .methodLinkNest "ArrowDiagrams$Reader" 20 ⟨"ArrowDiagrams$Cells", "<init>", "()V"⟩ "ArrowDiagrams"]
theorem XW.warm {s U : State} (hW : s.WarmedH U.vm) (h : ∀ w ∈ XW, va_Nw w s) : ∀ w ∈ XW, va_Nw w U := by
  unfold XW at h ⊢
  simp only [List.forall_mem_cons] at h ⊢
  obtain ⟨h0, h1, h2, h3, h4, h5, h6, h7, h8, h9, h10, h11, h12, h13, h14, h15, h16, h17, h18, h19, h20, h21, h22, h23, h24, h25, h26, h27, h28, -⟩ := h
  exact ⟨va_Nw.warmC hW h0, va_Nw.warmC hW h1, va_Nw.warmC hW h2, va_Nw.warmD hW h3, va_Nw.warmD hW h4, va_Nw.warmD hW h5, va_Nw.warmF hW h6, va_Nw.warmF hW h7, va_Nw.warmF hW h8, va_Nw.warmF hW h9, va_Nw.warmF hW h10, va_Nw.warmF hW h11, va_Nw.warmF hW h12, va_Nw.warmF hW h13, va_Nw.warmF hW h14, va_Nw.warmF hW h15, va_Nw.warmF hW h16, va_Nw.warmF hW h17, va_Nw.warmF hW h18, va_Nw.warmF hW h19, va_Nw.warmF hW h20, va_Nw.warmM hW h21, va_Nw.warmM hW h22, va_Nw.warmM hW h23, va_Nw.warmM hW h24, va_Nw.warmM hW h25, va_Nw.warmM hW h26, va_Nw.warmM hW h27, va_Nw.warmM hW h28, fun _ z => nomatch z⟩
theorem XW.tabs : ∀ w ∈ XW, w.onTables = true := by decide +kernel
/-- the throws that the law's handlers must tell apart -/
def NC : List (String × String) := [("java/lang/IllegalArgumentException", "java/lang/IndexOutOfBoundsException"), ("java/lang/IllegalStateException", "java/lang/IndexOutOfBoundsException"), ("java/lang/IllegalStateException", "java/lang/IllegalArgumentException")]
def Wm (G : GE) (M : Mem) (H : Heap) : Prop := va_P (gD G) vwCl (wl G M) H ∧ va_D (gA G) (wl G M)
/-- what stays all over a run -/
def SF (G : GE) (U : State) (H : Heap) : Prop :=
  va_K (gD G) vwCl (gtys G) U ∧ vx_Zq Bundle.tN "UNASSIGNED_STACK" Bundle.steD (gA G) U H ∧ vx_Zq Bundle.tN "SUPPRESSED_SENTINEL" Bundle.listD (gA G) U H ∧
  (∀ q, H.size ≤ q → gA G q) ∧ (∀ q ∈ strs, ∃ a, vk_R q.1 q.2.1 q.2.2 a U) ∧ ((∀ w ∈ XW, va_Nw w U) ∧ ∀ q ∈ NC, va_Nc q.1 q.2 U) ∧ (∀ L xs, gscr G = some (L, xs) → va_X (gad G 24 0) L xs U H ∧ gad G 24 0 < H.size ∧ ¬ gA G (gad G 24 0))
def Wd (G : GE) (M : Mem) (U : State) (H : Heap) : Prop := Wm G M H ∧ SF G U H
/-- which objects there are: known kinds, and what they name is there too -/
def GOK (G : GE) : Prop := ∀ q ∈ gids G, (q.1 < 11 ∨ q.1 = 20 ∨ q.1 = 21 ∨ q.1 = 22 ∨ q.1 = 23) ∧ ∀ (i t b s : Nat), (fk q.1)[i]? = some (.inr (t, b, s)) → (t, rk b s q.2) ∈ gids G
def okv (G : GE) (v : AV) : Prop := match v with
  | .inr (.inr (.inr (.inr q))) => q ∈ gids G ∨ (q = (24, 0) ∧ ∃ z, gscr G = some z)
  | _ => True
abbrev PX : Type := Program × Launch × Env × Room × State × MethodId × Array Value × List Frame × Method × Code × Nat × Nat
def WX (X : PX) (H : Heap) (locs : List Loc) (Q : State → Prop) (pc : Nat) (la : Array Slot) (st : List Value) : Prop :=
  W X.1 X.2.1 X.2.2.1 X.2.2.2.1 X.2.2.2.2.1 X.2.2.2.2.2.1 X.2.2.2.2.2.2.1 X.2.2.2.2.2.2.2.1 X.2.2.2.2.2.2.2.2.1 X.2.2.2.2.2.2.2.2.2.1 H locs X.2.2.2.2.2.2.2.2.2.2.1 X.2.2.2.2.2.2.2.2.2.2.2 Q (F0 X.2.2.2.2.2.1 pc la st)
abbrev xs_ (X : PX) : State := X.2.2.2.2.1
abbrev xk_ (X : PX) : Nat := X.2.2.2.2.2.2.2.2.2.2.1
abbrev xz_ (X : PX) : Nat := X.2.2.2.2.2.2.2.2.2.2.2
def GW (G : GE) (X : PX) (nL : Nat) (Q : State → Prop) (pc : Nat) (ls : List (Nat × AV)) (st : List AV) (M : Mem) : Prop :=
  (∀ q ∈ ls, okv G q.2) → (∀ v ∈ st, okv G v) → ∀ (H : Heap) (locs : List Loc) (la : Array Slot), Wm G M H → va_S (gA G) (xs_ X).heap H locs → lv_has la nL (ls.map (fun q => (q.1, cv G q.2))) → WX X H locs Q pc la (st.map (cv G))
/-- what holds all over a method's walk -/
def CX (tb : Bool) (G : GE) (own : String) (cc : ByteArray) (nL : Nat) (ret : Option FieldType) (rm : Room) (X : PX) : Prop :=
  X.1.tables.exec = Jvm.exec ∧ X.2.2.2.2.2.2.2.2.2.1.code = cc ∧ X.2.2.2.2.2.2.2.2.2.1.maxLocals = nL ∧ (xs_ X).vm.findClass own = some X.2.2.2.2.2.1.cls ∧ (∀ w ∈ BW, w.before X.2.2.2.2.2.2.1 (xs_ X) = true) ∧ X.2.2.2.2.2.2.2.2.1.locks = false ∧ X.2.2.2.2.2.2.2.2.1.sig.returnType = ret ∧ (tb = true → (∀ z ∈ X.2.2.2.2.2.2.2.2.2.1.exceptionTable.toList, False) ∧ xk_ X = 0 ∧ xz_ X = 0) ∧ X.2.1.stackTraces = false ∧ X.2.2.2.1 = rm ∧ GOK G ∧ SF G (xs_ X) (xs_ X).heap
abbrev Outc : Type := Option AV ⊕ String
def mcx (o : Outc) : Nat := match o with | .inl _ => 0 | .inr _ => 1
def msx (o : Outc) : Nat := match o with | .inl _ => 0 | .inr _ => 6
def rmx (d : Nat) (o : Outc) : Room := { frames := d, cells := mcx o, slots := msx o, locals := 36 * d }
def QR (G : GE) (o : Outc) (M : Mem) : Array Value → State → Outcome → State → Prop := fun _ st oc t => ∃ v, o = .inl v ∧ oc = .returned (v.map (cv G)) ∧ Wm G M t.heap ∧ va_F (gA G) st t
def XR (G : GE) (o : Outc) (M : Mem) : String → State → State → Prop := fun E st t => o = .inr E ∧ Wm G M t.heap ∧ va_F (gA G) st t
def PR (G : GE) (av : List AV) (M : Mem) : Array Value → State → Prop := va_Pc (av.map (cv G)) (fun U => Wd G M U U.heap)
/-- a method's contract: from the memory M, with these arguments, it comes to the outcome o with the memory M' -/
def CT (l : Launch) (G : GE) (y : MethodName) (cc : ByteArray) (nL : Nat) (ret : Option FieldType) (d : Nat) (av : List AV) (M : Mem) (o : Outc) (M' : Mem) : Prop :=
  vx_Met l y (Cond.code y cc nL ret :: BW) (rmx d o) (PR G av M) (QR G o M') (XR G o M') (mcx o) (msx o) (gA G)
def QX (G : GE) (X : PX) (o : Outc) (M' : Mem) : State → Prop := vx_MQ X.2.2.2.2.2.2.2.1 (QR G o M') (XR G o M') X.2.2.2.2.2.2.1 (xs_ X) (mcx o) (msx o) (gA G)
end MEM
/-! One row an instruction, over the flat memory (made by wip/whole/mkrules.py). -/
section RULES
variable {tb : Bool} {G : GE} {own : String} {cc : ByteArray} {nL : Nat} {ret : Option FieldType} {rm : Room} {X : PX} {Q : State → Prop} {pc : Nat} {ls : List (Nat × AV)} {st : List AV} {M : Mem}
def cat2 (v : AV) : Bool := match v with
  | .inr (.inl _) => true
  | .inr (.inr (.inr (.inl _))) => true
  | _ => false
theorem cat2_cv (v : AV) : ((cv G v).category == 2) = cat2 v := by
  rcases v with x | x | x | x | x <;> rfl
theorem okT {v : AV} {l : List AV} (h : okv G v) (o : ∀ v ∈ l, okv G v) : ∀ w ∈ v :: l, okv G w := List.forall_mem_cons.mpr ⟨h, o⟩
theorem okH {v : AV} {l : List AV} (o : ∀ w ∈ v :: l, okv G w) : okv G v := (List.forall_mem_cons.mp o).1
theorem okR {v : AV} {l : List AV} (o : ∀ w ∈ v :: l, okv G w) : ∀ w ∈ l, okv G w := (List.forall_mem_cons.mp o).2
abbrev cq (G : GE) : Nat × AV → Nat × Value := fun q => (q.1, cv G q.2)
def ff1 (i : Nat) : Nat × AV → Bool := fun q => !(q.1 == i) && !(q.1 + 1 == i && cat2 q.2)
def ff2 (i : Nat) : Nat × AV → Bool := fun q => !(q.1 == i) && (!(q.1 == i + 1) && !(q.1 + 1 == i && cat2 q.2))
theorem st1 {la : Array Slot} {i : Nat} {v : AV} {ls' : List (Nat × AV)} (hl : (i, v) :: ls.filter (ff1 i) = ls') (h : lv_has la nL ((i, cv G v) :: (ls.map (cq G)).filter (fun q => !(q.1 == i) && !(q.1 + 1 == i && q.2.category == 2)))) : lv_has la nL (ls'.map (cq G)) := by
  refine ⟨h.1, h.2.1, fun q hq => h.2.2 q ?_⟩
  subst hl
  rw [List.map_cons] at hq
  rcases List.mem_cons.mp hq with e | hq
  · rw [e]; exact List.mem_cons_self
  · refine List.mem_cons_of_mem _ ?_
    obtain ⟨w, hw, rfl⟩ := List.mem_map.mp hq
    obtain ⟨h1, h2⟩ := List.mem_filter.mp hw
    refine List.mem_filter.mpr ⟨List.mem_map.mpr ⟨w, h1, rfl⟩, ?_⟩
    show (!(w.1 == i) && !(w.1 + 1 == i && (cv G w.2).category == 2)) = true
    rw [cat2_cv]
    exact h2
theorem st2 {la : Array Slot} {i : Nat} {v : AV} {ls' : List (Nat × AV)} (hl : (i, v) :: ls.filter (ff2 i) = ls') (h : lv_has la nL ((i, cv G v) :: (ls.map (cq G)).filter (fun q => !(q.1 == i) && (!(q.1 == i + 1) && !(q.1 + 1 == i && q.2.category == 2))))) : lv_has la nL (ls'.map (cq G)) := by
  refine ⟨h.1, h.2.1, fun q hq => h.2.2 q ?_⟩
  subst hl
  rw [List.map_cons] at hq
  rcases List.mem_cons.mp hq with e | hq
  · rw [e]; exact List.mem_cons_self
  · refine List.mem_cons_of_mem _ ?_
    obtain ⟨w, hw, rfl⟩ := List.mem_map.mp hq
    obtain ⟨h1, h2⟩ := List.mem_filter.mp hw
    refine List.mem_filter.mpr ⟨List.mem_map.mpr ⟨w, h1, rfl⟩, ?_⟩
    show (!(w.1 == i) && (!(w.1 == i + 1) && !(w.1 + 1 == i && (cv G w.2).category == 2))) = true
    rw [cat2_cv]
    exact h2
theorem okS {i : Nat} {v : AV} {f : Nat × AV → Bool} {ls' : List (Nat × AV)} (hl : (i, v) :: ls.filter f = ls') (h : okv G v) (o : ∀ q ∈ ls, okv G q.2) : ∀ q ∈ ls', okv G q.2 := by
  subst hl
  intro q hq
  rcases List.mem_cons.mp hq with e | hq
  · rw [e]; exact h
  · exact o q (List.mem_filter.mp hq).1
theorem lget {la : Array Slot} (h : lv_has la nL (ls.map (cq G))) (j : Nat) {i : Nat} {v : AV} (hj : ls[j]? = some (i, v)) : la[i]? = some (.val (cv G v)) := lv_at h j (by rw [List.getElem?_map, hj]; rfl)
theorem okL (o : ∀ q ∈ ls, okv G q.2) (j : Nat) {i : Nat} {v : AV} (hj : ls[j]? = some (i, v)) : okv G v := o (i, v) (List.mem_of_getElem? hj)
/-- fewer locals -/
theorem g_sub {ls' : List (Nat × AV)} (js : List Nat) (hj : js.filterMap (fun j => ls[j]?) = ls') (k : GW G X nL Q pc ls' st M) : GW G X nL Q pc ls st M := by
  have hm : ∀ q ∈ ls', q ∈ ls := by
    intro q hq
    subst hj
    obtain ⟨i, -, hi⟩ := List.mem_filterMap.mp hq
    exact List.mem_of_getElem? hi
  intro o1 o2 H locs la w s h
  refine k (fun q hq => o1 q (hm q hq)) o2 H locs la w s ⟨h.1, h.2.1, fun q hq => h.2.2 q ?_⟩
  obtain ⟨z, hz, rfl⟩ := List.mem_map.mp hq
  exact List.mem_map.mpr ⟨z, hm z hz, rfl⟩
theorem g_pc {pc' : Nat} (h : pc = pc') (k : GW G X nL Q pc' ls st M) : GW G X nL Q pc ls st M := h ▸ k
theorem g_iconst (C : CX tb G own cc nL ret rm X) {n : Int} {v : Int32} (hd : decode cc pc = .ok (.iconst n, 1)) (hv : Int32.ofInt n = v) (k : GW G X nL Q (pc + 1) ls (vI v :: st) M) : GW G X nL Q pc ls st M :=
  fun o1 o2 H locs la w s h => lv_iconst C.1 C.2.1 hd hv (k o1 (okT trivial o2) H locs la w s h)
theorem g_bipush (C : CX tb G own cc nL ret rm X) {n : Int} {v : Int32} (hd : decode cc pc = .ok (.bipush n, 2)) (hv : (Int8.ofInt n).toInt32 = v) (k : GW G X nL Q (pc + 2) ls (vI v :: st) M) : GW G X nL Q pc ls st M :=
  fun o1 o2 H locs la w s h => lv_bipush C.1 C.2.1 hd hv (k o1 (okT trivial o2) H locs la w s h)
theorem g_sipush (C : CX tb G own cc nL ret rm X) {n : Int} {v : Int32} (hd : decode cc pc = .ok (.sipush n, 3)) (hv : (Int16.ofInt n).toInt32 = v) (k : GW G X nL Q (pc + 3) ls (vI v :: st) M) : GW G X nL Q pc ls st M :=
  fun o1 o2 H locs la w s h => lv_sipush C.1 C.2.1 hd hv (k o1 (okT trivial o2) H locs la w s h)
theorem g_iload_n (C : CX tb G own cc nL ret rm X) (j : Nat) {n : Fin 4} {i : Nat} {x : Int32} (hd : decode cc pc = .ok (.iload_n n, 1)) (hi : (n : Nat) = i) (hj : ls[j]? = some (i, vI x)) (k : GW G X nL Q (pc + 1) ls (vI x :: st) M) : GW G X nL Q pc ls st M :=
  fun o1 o2 H locs la w s h => lv_iload_n C.1 C.2.1 hd hi (lget h j hj) (k o1 (okT trivial o2) H locs la w s h)
theorem g_iload (C : CX tb G own cc nL ret rm X) (j : Nat) {i : Nat} {x : Int32} (hd : decode cc pc = .ok (.iload i, 2)) (hj : ls[j]? = some (i, vI x)) (k : GW G X nL Q (pc + 2) ls (vI x :: st) M) : GW G X nL Q pc ls st M :=
  fun o1 o2 H locs la w s h => lv_iload C.1 C.2.1 hd (lget h j hj) (k o1 (okT trivial o2) H locs la w s h)
theorem g_aload_n (C : CX tb G own cc nL ret rm X) (j : Nat) {n : Fin 4} {i t q : Nat} (hd : decode cc pc = .ok (.aload_n n, 1)) (hi : (n : Nat) = i) (hj : ls[j]? = some (i, vR t q)) (k : GW G X nL Q (pc + 1) ls (vR t q :: st) M) : GW G X nL Q pc ls st M :=
  fun o1 o2 H locs la w s h => lv_aload_n C.1 C.2.1 hd hi (lget h j hj) (k o1 (okT (okL o1 j hj) o2) H locs la w s h)
theorem g_istore_n (C : CX tb G own cc nL ret rm X) {ls' : List (Nat × AV)} {n : Fin 4} {i : Nat} {x : Int32} (hd : decode cc pc = .ok (.istore_n n, 1)) (hi : (n : Nat) = i) (hn : i < nL) (hl : (i, vI x) :: ls.filter (ff1 i) = ls') (k : GW G X nL Q (pc + 1) ls' st M) : GW G X nL Q pc ls (vI x :: st) M :=
  fun o1 o2 H locs la w s h => lv_istore_n C.1 C.2.1 hd hi h hn rfl (fun la2 h2 => k (okS hl trivial o1) (okR o2) H locs la2 w s (st1 hl h2))
theorem g_istore (C : CX tb G own cc nL ret rm X) {ls' : List (Nat × AV)} {i : Nat} {x : Int32} (hd : decode cc pc = .ok (.istore i, 2)) (hn : i < nL) (hl : (i, vI x) :: ls.filter (ff1 i) = ls') (k : GW G X nL Q (pc + 2) ls' st M) : GW G X nL Q pc ls (vI x :: st) M :=
  fun o1 o2 H locs la w s h => lv_istore C.1 C.2.1 hd h hn rfl (fun la2 h2 => k (okS hl trivial o1) (okR o2) H locs la2 w s (st1 hl h2))
theorem g_iinc (C : CX tb G own cc nL ret rm X) {ls' : List (Nat × AV)} (j : Nat) {i : Nat} {n : Int} {x v : Int32} (hd : decode cc pc = .ok (.iinc i n, 3)) (hj : ls[j]? = some (i, vI x)) (hv : x + Int32.ofInt n = v) (hn : i < nL) (hl : (i, vI v) :: ls.filter (ff1 i) = ls') (k : GW G X nL Q (pc + 3) ls' st M) : GW G X nL Q pc ls st M :=
  fun o1 o2 H locs la w s h => lv_iinc (k := j) C.1 C.2.1 hd h (by rw [List.getElem?_map, hj]; rfl) hv hn rfl (fun la2 h2 => k (okS hl trivial o1) o2 H locs la2 w s (st1 hl h2))
theorem g_iadd (C : CX tb G own cc nL ret rm X) {x y : Int32} (hd : decode cc pc = .ok (.iadd, 1)) (k : GW G X nL Q (pc + 1) ls (vI (x + y) :: st) M) : GW G X nL Q pc ls (vI y :: vI x :: st) M :=
  fun o1 o2 H locs la w s h => lv_iadd C.1 C.2.1 hd (k o1 (okT trivial (okR (okR o2))) H locs la w s h)
theorem g_imul (C : CX tb G own cc nL ret rm X) {x y : Int32} (hd : decode cc pc = .ok (.imul, 1)) (k : GW G X nL Q (pc + 1) ls (vI (x * y) :: st) M) : GW G X nL Q pc ls (vI y :: vI x :: st) M :=
  fun o1 o2 H locs la w s h => lv_imul C.1 C.2.1 hd (k o1 (okT trivial (okR (okR o2))) H locs la w s h)
theorem g_idiv (C : CX tb G own cc nL ret rm X) {x y : Int32} (hd : decode cc pc = .ok (.idiv, 1)) (hne : ¬ y = 0) (k : GW G X nL Q (pc + 1) ls (vI (x / y) :: st) M) : GW G X nL Q pc ls (vI y :: vI x :: st) M :=
  fun o1 o2 H locs la w s h => lv_idiv C.1 C.2.1 hd hne (k o1 (okT trivial (okR (okR o2))) H locs la w s h)
theorem c1_cv {v : AV} (h : cat2 v = false) : (cv G v).category = 1 := by
  rcases v with x | x | x | x | x <;> first | rfl | cases h
theorem g_dup (C : CX tb G own cc nL ret rm X) {v : AV} (hd : decode cc pc = .ok (.dup, 1)) (hc : cat2 v = false) (k : GW G X nL Q (pc + 1) ls (v :: v :: st) M) : GW G X nL Q pc ls (v :: st) M :=
  fun o1 o2 H locs la w s h => lv_dup C.1 C.2.1 hd (c1_cv hc) (k o1 (okT (okH o2) o2) H locs la w s h)
theorem g_pop (C : CX tb G own cc nL ret rm X) {v : AV} (hd : decode cc pc = .ok (.pop, 1)) (hc : cat2 v = false) (k : GW G X nL Q (pc + 1) ls st M) : GW G X nL Q pc ls (v :: st) M :=
  fun o1 o2 H locs la w s h => lv_pop C.1 C.2.1 hd (c1_cv hc) (k o1 (okR o2) H locs la w s h)
theorem g_if_eq (C : CX tb G own cc nL ret rm X) {x : Int32} {off : Int} {tgt : Nat} (hd : decode cc pc = .ok (.ifCond .eq off, 3)) (ht : (pc : Int) + off = (tgt : Int)) (kt : x = 0 → GW G X nL Q tgt ls st M) (kf : ¬ (x = 0) → GW G X nL Q (pc + 3) ls st M) : GW G X nL Q pc ls (vI x :: st) M :=
  fun o1 o2 H locs la w s h => lv_if_eq C.1 C.2.1 hd ht (fun z => kt z o1 (okR o2) H locs la w s h) (fun z => kf z o1 (okR o2) H locs la w s h)
theorem g_icmp_ne (C : CX tb G own cc nL ret rm X) {x y : Int32} {off : Int} {tgt : Nat} (hd : decode cc pc = .ok (.if_icmp .ne off, 3)) (ht : (pc : Int) + off = (tgt : Int)) (kt : ¬ x = y → GW G X nL Q tgt ls st M) (kf : x = y → GW G X nL Q (pc + 3) ls st M) : GW G X nL Q pc ls (vI y :: vI x :: st) M :=
  fun o1 o2 H locs la w s h => lv_icmp_ne C.1 C.2.1 hd ht (fun z => kt z o1 (okR (okR o2)) H locs la w s h) (fun z => kf z o1 (okR (okR o2)) H locs la w s h)
theorem g_if_lt (C : CX tb G own cc nL ret rm X) {x : Int32} {off : Int} {tgt : Nat} (hd : decode cc pc = .ok (.ifCond .lt off, 3)) (ht : (pc : Int) + off = (tgt : Int)) (kt : x < 0 → GW G X nL Q tgt ls st M) (kf : ¬ (x < 0) → GW G X nL Q (pc + 3) ls st M) : GW G X nL Q pc ls (vI x :: st) M :=
  fun o1 o2 H locs la w s h => lv_if_lt C.1 C.2.1 hd ht (fun z => kt z o1 (okR o2) H locs la w s h) (fun z => kf z o1 (okR o2) H locs la w s h)
theorem g_icmp_lt (C : CX tb G own cc nL ret rm X) {x y : Int32} {off : Int} {tgt : Nat} (hd : decode cc pc = .ok (.if_icmp .lt off, 3)) (ht : (pc : Int) + off = (tgt : Int)) (kt : x < y → GW G X nL Q tgt ls st M) (kf : ¬ (x < y) → GW G X nL Q (pc + 3) ls st M) : GW G X nL Q pc ls (vI y :: vI x :: st) M :=
  fun o1 o2 H locs la w s h => lv_icmp_lt C.1 C.2.1 hd ht (fun z => kt z o1 (okR (okR o2)) H locs la w s h) (fun z => kf z o1 (okR (okR o2)) H locs la w s h)
theorem g_icmp_ge (C : CX tb G own cc nL ret rm X) {x y : Int32} {off : Int} {tgt : Nat} (hd : decode cc pc = .ok (.if_icmp .ge off, 3)) (ht : (pc : Int) + off = (tgt : Int)) (kt : y ≤ x → GW G X nL Q tgt ls st M) (kf : ¬ (y ≤ x) → GW G X nL Q (pc + 3) ls st M) : GW G X nL Q pc ls (vI y :: vI x :: st) M :=
  fun o1 o2 H locs la w s h => lv_icmp_ge C.1 C.2.1 hd ht (fun z => kt z o1 (okR (okR o2)) H locs la w s h) (fun z => kf z o1 (okR (okR o2)) H locs la w s h)
theorem g_goto (C : CX tb G own cc nL ret rm X) {off : Int} {tgt : Nat} (hd : decode cc pc = .ok (.goto off, 3)) (ht : (pc : Int) + off = (tgt : Int)) (k : GW G X nL Q tgt ls st M) : GW G X nL Q pc ls st M :=
  fun o1 o2 H locs la w s h => lv_goto C.1 C.2.1 hd ht (k o1 o2 H locs la w s h)
end RULES
/-! The rows that read and write the flat memory; calls, ends, throws; a method's contract out of its walk. -/
section HEAP
variable {tb : Bool} {G : GE} {own : String} {cc : ByteArray} {nL : Nat} {ret : Option FieldType} {rm : Room} {X : PX} {Q : State → Prop} {pc : Nat} {ls : List (Nat × AV)} {st : List AV} {M : Mem}
theorem wl_at {t k : Nat} (h : (t, k) ∈ gids G) : ∃ q0 : Nat, (gids G)[q0]? = some (t, k) ∧ (wl G M)[q0]? = some (gad G t k, enc G M t k) := by
  obtain ⟨i, hi⟩ := List.getElem?_of_mem h
  exact ⟨i, hi, by unfold wl; rw [List.getElem?_map, hi]; rfl⟩
theorem wl_set {A : Nat → Prop} {M' : Mem} {t k q0 : Nat} {e : va_E} (hD : va_D A (wl G M)) (h0 : (gids G)[q0]? = some (t, k)) (he : enc G M' t k = e) (ho : ∀ a b, ¬ (a = t ∧ b = k) → enc G M' a b = enc G M a b) : (wl G M).set q0 (gad G t k, e) = wl G M' := by
  have hl := (List.getElem?_eq_some_iff.mp h0).1
  have hw : ∀ (N : Mem) (i : Nat) (q : Nat × Nat), (gids G)[i]? = some q → (wl G N)[i]? = some (gad G q.1 q.2, enc G N q.1 q.2) := fun N i q hq => by unfold wl; rw [List.getElem?_map, hq]; rfl
  refine List.ext_getElem? (fun i => ?_)
  by_cases hi : i = q0
  · subst hi
    rw [List.getElem?_set_self (by unfold wl; rw [List.length_map]; exact hl), hw M' i _ h0, he]
  · rw [List.getElem?_set_ne (Ne.symm hi)]
    cases hg : (gids G)[i]? with
    | none => unfold wl; rw [List.getElem?_map, List.getElem?_map, hg]; rfl
    | some q =>
      rw [hw M i q hg, hw M' i q hg]
      by_cases hq : q.1 = t ∧ q.2 = k
      · obtain ⟨a, b⟩ := q
        obtain ⟨rfl, rfl⟩ := hq
        exact absurd (hD.1 i q0 _ _ (hw M i _ hg) (hw M q0 _ h0) rfl) hi
      · rw [ho q.1 q.2 hq]
theorem mI_at (t k i : Nat) (v : Int32) : (mI M t k i v).1 t k = upd (M.1 t k) i v := by
  funext c
  simp [mI, upd]
theorem mI_ne {t k i a b : Nat} {v : Int32} (h : ¬ (a = t ∧ b = k)) : (mI M t k i v).1 a b = M.1 a b := by
  funext c
  show (if a = t ∧ b = k ∧ c = i then v else M.1 a b c) = M.1 a b c
  rw [if_neg (fun z => h ⟨z.1, z.2.1⟩)]
theorem enc_mI {t k i : Nat} {v : Int32} : ∀ a b, ¬ (a = t ∧ b = k) → enc G (mI M t k i v) a b = enc G M a b := fun a b h => by unfold enc; rw [mI_ne h]; rfl
variable {ad : Nat → Nat → Nat} {f : Nat → Int32} {g : Nat → Int64} {k : Nat} {cls : String}
theorem fvs_len : ∀ (l : List FK) (j : Nat), (fvs ad f g k j l).length = l.length
  | [], _ => rfl
  | .inl 0 :: r, j => by show (fvs ad f g k (j + 1) r).length + 1 = _; rw [fvs_len r]; rfl
  | .inl (_ + 1) :: r, j => by show (fvs ad f g k (j + 1) r).length + 1 = _; rw [fvs_len r]; rfl
  | .inr (_, _, _) :: r, j => by show (fvs ad f g k (j + 1) r).length + 1 = _; rw [fvs_len r]; rfl
def fv1 (ad : Nat → Nat → Nat) (f : Nat → Int32) (g : Nat → Int64) (k j : Nat) (x : FK) : Value := match x with
  | .inl 0 => .int (f j)
  | .inl (_ + 1) => .long (g j)
  | .inr (t, b, s) => .ref (ad t (rk b s k))
theorem fvs_cons (x : FK) (r : List FK) (j : Nat) : fvs ad f g k j (x :: r) = fv1 ad f g k j x :: fvs ad f g k (j + 1) r := by
  rcases x with (_ | n) | ⟨a, b, c⟩ <;> rfl
theorem fvs_at : ∀ (l : List FK) (j i : Nat) (x : FK), l[i]? = some x → (fvs ad f g k j l)[i]? = some (fv1 ad f g k (j + i) x)
  | [], _, _, _, h => by simp at h
  | y :: r, j, 0, x, h => by
    rw [List.getElem?_cons_zero] at h
    cases h
    rw [fvs_cons, List.getElem?_cons_zero]
    rfl
  | y :: r, j, i + 1, x, h => by
    rw [List.getElem?_cons_succ] at h
    rw [fvs_cons, List.getElem?_cons_succ, fvs_at r (j + 1) i x h, show j + 1 + i = j + (i + 1) by omega]
theorem fvs_up {i' : Nat} {v : Int32} : ∀ (l : List FK) (j : Nat), i' < j → fvs ad (upd f i' v) g k j l = fvs ad f g k j l
  | [], _, _ => rfl
  | y :: r, j, h => by
    rw [fvs_cons, fvs_cons, fvs_up r (j + 1) (by omega)]
    rcases y with (_ | n) | ⟨a, b, c⟩ <;> first | rfl | (show Value.int (upd f i' v j) :: _ = Value.int (f j) :: _; unfold upd; rw [if_neg (by omega)])
theorem fvs_set {v : Int32} : ∀ (l : List FK) (j i : Nat), l[i]? = some (.inl 0) → (fvs ad f g k j l).set i (.int v) = fvs ad (upd f (j + i) v) g k j l
  | [], _, _, h => by simp at h
  | y :: r, j, 0, h => by
    rw [List.getElem?_cons_zero] at h
    cases h
    rw [fvs_cons, fvs_cons, fvs_up r (j + 1) (by omega)]
    show Value.int v :: _ = Value.int (upd f (j + 0) v j) :: _
    unfold upd
    rw [if_pos (by omega)]
  | y :: r, j, i + 1, h => by
    rw [List.getElem?_cons_succ] at h
    rw [fvs_cons, fvs_cons, List.set_cons_succ, fvs_set r (j + 1) i h, show j + 1 + i = j + (i + 1) by omega]
    rcases y with (_ | n) | ⟨a, b, c⟩ <;> first | rfl | (show Value.int (f j) :: _ = Value.int (upd f (j + (i + 1)) v j) :: _; unfold upd; rw [if_neg (by omega)])
/-! the classes by their numbers -/
def cN (t : Nat) : String := (vwCl.getD t ("", fun _ => ("", "", "", false), 0)).1
def cT (t : Nat) : u_T := (vwCl.getD t ("", fun _ => ("", "", "", false), 0)).2.1
def cn (t : Nat) : Nat := (vwCl.getD t ("", fun _ => ("", "", "", false), 0)).2.2
theorem c11 {P : Nat → Prop} {t : Nat} (h : t < 11) (p0 : P 0) (p1 : P 1) (p2 : P 2) (p3 : P 3) (p4 : P 4) (p5 : P 5) (p6 : P 6) (p7 : P 7) (p8 : P 8) (p9 : P 9) (p10 : P 10) : P t := by
  rcases (show t = 0 ∨ t = 1 ∨ t = 2 ∨ t = 3 ∨ t = 4 ∨ t = 5 ∨ t = 6 ∨ t = 7 ∨ t = 8 ∨ t = 9 ∨ t = 10 by omega) with rfl | rfl | rfl | rfl | rfl | rfl | rfl | rfl | rfl | rfl | rfl <;> assumption
theorem cl_at {t : Nat} (h : t < 11) : vwCl[t]? = some (cN t, cT t, cn t) := c11 (P := fun t => vwCl[t]? = some (cN t, cT t, cn t)) h rfl rfl rfl rfl rfl rfl rfl rfl rfl rfl rfl
theorem cl_ws {t : Nat} (h : t < 11) : ∀ w ∈ u_ws (cN t) (cT t) (cn t), w ∈ BW := c11 (P := fun t => ∀ w ∈ u_ws (cN t) (cT t) (cn t), w ∈ BW) h iX0 iX1 iX2 iX3 iX4 iX5 iX6 iX7 iX8 iX9 iX10
theorem cl_len {t : Nat} (h : t < 11) : (fk t).length = cn t := c11 (P := fun t => (fk t).length = cn t) h rfl rfl rfl rfl rfl rfl rfl rfl rfl rfl rfl
def cty (t : Nat) : Nat → FieldType := match t with
  | 0 => tyX0 | 1 => tyX1 | 2 => tyX2 | 3 => tyX3 | 4 => tyX4 | 5 => tyX5 | 6 => tyX6 | 7 => tyX7 | 8 => tyX8 | 9 => tyX9 | _ => tyX10
theorem cl_ty {t : Nat} (h : t < 11) : ∀ k, k < cn t → parseFieldDescriptor (cT t k).2.2.1 = some (cty t k) := c11 (P := fun t => ∀ k, k < cn t → parseFieldDescriptor (cT t k).2.2.1 = some (cty t k)) h tyX0_ok tyX1_ok tyX2_ok tyX3_ok tyX4_ok tyX5_ok tyX6_ok tyX7_ok tyX8_ok tyX9_ok tyX10_ok
theorem cl_nm {t : Nat} (h : t < 11) : ∀ a, a < cn t → ∀ b, b < cn t → a ≠ b → (cT t a).2.1 ≠ (cT t b).2.1 := c11 (P := fun t => ∀ a, a < cn t → ∀ b, b < cn t → a ≠ b → (cT t a).2.1 ≠ (cT t b).2.1) h nmX0 nmX1 nmX2 nmX3 nmX4 nmX5 nmX6 nmX7 nmX8 nmX9 nmX10
theorem enc_o {t k : Nat} (h : t < 11) : enc G M t k = .inr (t, fvs (gad G) (M.1 t k) (M.2 t k) k 0 (fk t)) := by unfold enc; rw [if_pos (by omega)]
theorem enc_i {t k : Nat} (h : t = 20 ∨ t = 21 ∨ t = 22) : enc G M t k = .inl (gI G, alen t k, .inl (M.1 t k)) := by
  unfold enc
  rw [if_neg (by omega), if_neg (by omega)]
abbrev fLk (own : String) (idx t i : Nat) : Prop := Cond.fieldLink own idx (cT t i).1 (cT t i).2.1 (cT t i).2.2.1 ∈ BW
theorem okI {t k : Nat} (h : okv G (vR t k)) (ht : t < 24) : (t, k) ∈ gids G := by
  rcases (show (t, k) ∈ gids G ∨ ((t, k) = (24, 0) ∧ ∃ z, gscr G = some z) from h) with h | ⟨h, -⟩
  · exact h
  · cases h; omega
theorem fk_lt {t i : Nat} {x : FK} (h : t < 11) (hf : (fk t)[i]? = some x) : i < cn t := by rw [← cl_len h]; exact (List.getElem?_eq_some_iff.mp hf).1
theorem g_get0 (C : CX tb G own cc nL ret rm X) {t k i idx : Nat} {x : FK} {v : AV} (ht : t < 11) (hlk : fLk own idx t i) (hf : (fk t)[i]? = some x) (hv : cv G v = fv1 (gad G) (M.1 t k) (M.2 t k) k (0 + i) x) (hok : (t, k) ∈ gids G → okv G v) (hd : decode cc pc = .ok (.getfield idx, 3)) (kk : GW G X nL Q (pc + 3) ls (v :: st) M) : GW G X nL Q pc ls (vR t k :: st) M := by
  intro o1 o2 H locs la w s h
  have hid := okI (okH o2) (by omega)
  obtain ⟨q0, h0, h1⟩ := wl_at (M := M) hid
  rw [enc_o ht] at h1
  refine va_get (ref := (cT t i).1) C.1 C.2.1 C.2.2.2.2.1 (cl_ws ht) C.2.2.2.1 C.2.2.2.2.2.2.2.2.2.2.2.1 w.1 q0 h1 (cl_at ht) i (fk_lt ht hf) (C.2.2.2.2.1 _ hlk) (fun _ h9 => h9) (v := cv G v) ?_ hd (kk o1 (okT (hok hid) (okR o2)) H locs la w s h)
  rw [hv]
  exact fvs_at _ _ _ _ hf
theorem g_geti (C : CX tb G own cc nL ret rm X) {t k i idx : Nat} (ht : t < 11) (hlk : fLk own idx t i) (hf : (fk t)[i]? = some (.inl 0)) (hd : decode cc pc = .ok (.getfield idx, 3)) (kk : GW G X nL Q (pc + 3) ls (vI (M.1 t k i) :: st) M) : GW G X nL Q pc ls (vR t k :: st) M :=
  g_get0 (v := vI (M.1 t k i)) C ht hlk hf (by rw [Nat.zero_add]; rfl) (fun _ => trivial) hd kk
theorem g_getr (C : CX tb G own cc nL ret rm X) {t k i idx t' b s k' : Nat} (ht : t < 11) (hlk : fLk own idx t i) (hf : (fk t)[i]? = some (.inr (t', b, s))) (hk' : rk b s k = k') (hd : decode cc pc = .ok (.getfield idx, 3)) (kk : GW G X nL Q (pc + 3) ls (vR t' k' :: st) M) : GW G X nL Q pc ls (vR t k :: st) M := by
  subst hk'
  exact g_get0 (v := vR t' (rk b s k)) C ht hlk hf rfl (fun hid => Or.inl ((C.2.2.2.2.2.2.2.2.2.2.1 _ hid).2 _ _ _ _ hf)) hd kk
theorem ca (C : CX tb G own cc nL ret rm X) : SF G (xs_ X) (xs_ X).heap := C.2.2.2.2.2.2.2.2.2.2.2
theorem SF.kept {U : State} {H0 H : Heap} (h : SF G U H0) (s : H0.size ≤ H.size ∧ ∀ q : Nat, q < H0.size → ¬ gA G q → H[q]? = H0[q]?) : SF G U H :=
  ⟨h.1, vx_Zq.kept h.2.1 s.2, vx_Zq.kept h.2.2.1 s.2, fun q z => h.2.2.2.1 q (Nat.le_trans s.1 z), h.2.2.2.2.1, h.2.2.2.2.2.1, fun L xs z => by
    obtain ⟨h1, h2, h3⟩ := h.2.2.2.2.2.2 L xs z
    exact ⟨va_X.kept h1 (s.2 _ h2 h3), Nat.lt_of_lt_of_le h2 s.1, h3⟩⟩
theorem SF.moved {U V : State} {H : Heap} (hW : U.WarmedH V.vm) (h : SF G U H) : SF G V H :=
  ⟨va_K.moved hW.alike h.1, vx_Zq.moved hW.alike h.2.1, vx_Zq.moved hW.alike h.2.2.1, h.2.2.2.1, fun q z => by
    obtain ⟨a, ha⟩ := h.2.2.2.2.1 q z
    exact ⟨a, vk_R.warm hW ha⟩, ⟨XW.warm hW h.2.2.2.2.2.1.1, fun q z => va_Nc.moved hW.alike (h.2.2.2.2.2.1.2 q z)⟩, fun L xs z => by
    obtain ⟨h1, h2, h3⟩ := h.2.2.2.2.2.2 L xs z
    exact ⟨va_X.moved hW.alike h1, h2, h3⟩⟩
theorem SF.vm {U V : State} {H : Heap} (hv : V.vm = U.vm) (h : SF G U H) : SF G V H :=
  ⟨va_K.moved (by rw [hv]; exact Vm.Alike.refl _) h.1, vx_Zq.moved (by rw [hv]; exact Vm.Alike.refl _) h.2.1, vx_Zq.moved (by rw [hv]; exact Vm.Alike.refl _) h.2.2.1, h.2.2.2.1, fun q z => by
    obtain ⟨a, ha⟩ := h.2.2.2.2.1 q z
    exact ⟨a, vk_R.same hv ha⟩, ⟨fun w z => va_Nw.same (XW.tabs w z) hv.symm (h.2.2.2.2.2.1.1 w z), fun q z => va_Nc.moved (by rw [hv]; exact Vm.Alike.refl _) (h.2.2.2.2.2.1.2 q z)⟩, fun L xs z => by
    obtain ⟨h1, h2, h3⟩ := h.2.2.2.2.2.2 L xs z
    exact ⟨va_X.moved (by rw [hv]; exact Vm.Alike.refl _) h1, h2, h3⟩⟩
abbrev fLkN (own : String) (idx t i : Nat) : Prop := Cond.fieldLinkNest own idx (cT t i).1 (cT t i).2.1 (cT t i).2.2.1 "ArrowDiagrams" ∈ XW
theorem g_getrN (C : CX tb G own cc nL ret rm X) {t k i idx t' b s k' : Nat} (ht : t < 11) (hlk : fLkN own idx t i) (hf : (fk t)[i]? = some (.inr (t', b, s))) (hk' : rk b s k = k') (hd : decode cc pc = .ok (.getfield idx, 3)) (kk : GW G X nL Q (pc + 3) ls (vR t' k' :: st) M) : GW G X nL Q pc ls (vR t k :: st) M := by
  subst hk'
  intro o1 o2 H locs la w z h
  have hid := okI (okH o2) (by omega)
  obtain ⟨q0, h0, h1⟩ := wl_at (M := M) hid
  rw [enc_o ht] at h1
  refine va_getN (ref := (cT t i).1) (host := "ArrowDiagrams") C.1 C.2.1 C.2.2.2.2.1 (cl_ws ht) C.2.2.2.1 (ca C).1 w.1 q0 h1 (cl_at ht) i (fk_lt ht hf) (va_Nw.use (XW.tabs _ hlk) ((ca C).2.2.2.2.2.1.1 _ hlk)) (fun _ h9 => h9) (v := cv G (vR t' (rk b s k))) ?_ hd (kk o1 (okT (Or.inl ((C.2.2.2.2.2.2.2.2.2.2.1 _ hid).2 _ _ _ _ hf)) (okR o2)) H locs la w z h)
  exact fvs_at _ _ _ _ hf
theorem g_puti0 (C : CX tb G own cc nL ret rm X) {t k i idx : Nat} {v : Int32} (ht : t < 11) (hlk : fLk own idx t i) (hf : (fk t)[i]? = some (.inl 0)) (hfin : (cT t i).2.2.2 = false) (hn : narrow (cty t i) (.int v) = .int v) (hfit : fits (cty t i) (.int v) = true) (hd : decode cc pc = .ok (.putfield idx, 3)) (kk : GW G X nL Q (pc + 3) ls st (mI M t k i v)) : GW G X nL Q pc ls (vI v :: vR t k :: st) M := by
  intro o1 o2 H locs la w s h
  have hid := okI (okH (okR o2)) (by omega)
  obtain ⟨q0, h0, h1⟩ := wl_at (M := M) hid
  have h1' := h1
  rw [enc_o ht] at h1
  refine va_put (ref := (cT t i).1) (v := .int v) C.1 C.2.1 C.2.2.2.2.1 (cl_ws ht) (cty t) (cl_ty ht) (cl_nm ht) C.2.2.2.1 (ca C).1 w.1 w.2 s q0 h1 (cl_at ht) i (fk_lt ht hf) (C.2.2.2.2.1 _ hlk) (fun _ h9 => h9) hfin (cl_ty ht i (fk_lt ht hf)) hn hfit (by rw [fvs_len, cl_len ht]; exact fk_lt ht hf) hd (fun H1 locs1 hP hD hS => ?_)
  have e : (wl G M).set q0 (gad G t k, .inr (t, (fvs (gad G) (M.1 t k) (M.2 t k) k 0 (fk t)).set i (.int v))) = wl G (mI M t k i v) := by
    refine wl_set w.2 h0 ?_ enc_mI
    rw [enc_o ht, mI_at, fvs_set _ _ _ hf, Nat.zero_add]
    rfl
  rw [e] at hP hD
  exact kk o1 (okR (okR o2)) H1 locs1 la ⟨hP, hD⟩ hS h
theorem g_puti (C : CX tb G own cc nL ret rm X) {t k i idx : Nat} {v : Int32} (ht : t < 11) (hlk : fLk own idx t i) (hf : (fk t)[i]? = some (.inl 0)) (hty : cty t i = .int) (hfin : (cT t i).2.2.2 = false) (hd : decode cc pc = .ok (.putfield idx, 3)) (kk : GW G X nL Q (pc + 3) ls st (mI M t k i v)) : GW G X nL Q pc ls (vI v :: vR t k :: st) M :=
  g_puti0 C ht hlk hf hfin (by rw [hty]; rfl) (by rw [hty]; rfl) hd kk
/-! arrays -/
theorem g_iald (C : CX tb G own cc nL ret rm X) {t k : Nat} {i : Int32} (ht : t = 20 ∨ t = 21 ∨ t = 22) (hin : vp_in i (alen t k)) (hd : decode cc pc = .ok (.iaload, 1)) (kk : GW G X nL Q (pc + 1) ls (vI (M.1 t k i.toNatClampNeg) :: st) M) : GW G X nL Q pc ls (vI i :: vR t k :: st) M := by
  intro o1 o2 H locs la w s h
  have hid := okI (okH (okR o2)) (by omega)
  obtain ⟨q0, h0, h1⟩ := wl_at (M := M) hid
  rw [enc_i ht] at h1
  exact va_iald C.1 C.2.1 (ca C).1 w.1 q0 0 h1 rfl hin hd (kk o1 (okT trivial (okR (okR o2))) H locs la w s h)
theorem g_iast (C : CX tb G own cc nL ret rm X) {t k : Nat} {i x : Int32} (ht : t = 20 ∨ t = 21 ∨ t = 22) (hin : vp_in i (alen t k)) (hd : decode cc pc = .ok (.iastore, 1)) (kk : GW G X nL Q (pc + 1) ls st (mI M t k i.toNatClampNeg x)) : GW G X nL Q pc ls (vI x :: vI i :: vR t k :: st) M := by
  intro o1 o2 H locs la w s h
  have hid := okI (okH (okR (okR o2))) (by omega)
  obtain ⟨q0, h0, h1⟩ := wl_at (M := M) hid
  rw [enc_i ht] at h1
  refine va_iast C.1 C.2.1 (ca C).1 w.1 w.2 s q0 0 h1 rfl hin hd (fun H1 locs1 hP hD hS => ?_)
  have e : (wl G M).set q0 (gad G t k, .inl (gI G, alen t k, .inl (upd (M.1 t k) i.toNatClampNeg x))) = wl G (mI M t k i.toNatClampNeg x) := by
    refine wl_set w.2 h0 ?_ enc_mI
    rw [enc_i ht, mI_at]
  rw [e] at hP hD
  exact kk o1 (okR (okR (okR o2))) H1 locs1 la ⟨hP, hD⟩ hS h
theorem g_alen (C : CX tb G own cc nL ret rm X) {t k : Nat} (ht : t = 20 ∨ t = 21 ∨ t = 22) (hd : decode cc pc = .ok (.arraylength, 1)) (kk : GW G X nL Q (pc + 1) ls (vI (nI (alen t k)) :: st) M) : GW G X nL Q pc ls (vR t k :: st) M := by
  intro o1 o2 H locs la w s h
  have hid := okI (okH o2) (by omega)
  obtain ⟨q0, h0, h1⟩ := wl_at (M := M) hid
  rw [enc_i ht] at h1
  exact va_alen C.1 C.2.1 (ca C).1 w.1 q0 0 h1 rfl rfl hd (kk o1 (okT trivial (okR o2)) H locs la w s h)
/-! a method's end -/
theorem qr_end {v : Option AV} {H : Heap} {locs : List Loc} (w : Wm G M H) (s : va_S (gA G) (xs_ X).heap H locs) : ∀ t : State, t.heap = H → (xs_ X).WarmedH t.vm → QR G (.inl v) M X.2.2.2.2.2.2.1 (xs_ X) (.returned (v.map (cv G))) t := fun t ht _ =>
  ⟨v, rfl, rfl, by rw [ht]; exact w, s.F ht⟩
theorem g_iret (C : CX true G own cc nL (some .int) rm X) {x : Int32} (hd : decode cc pc = .ok (.ireturn, 1)) : GW G X nL (QX G X (.inl (some (vI x))) M) pc ls [vI x] M :=
  fun _ _ _ _ _ w s _ => W.widen (Nat.le_of_eq (C.2.2.2.2.2.2.2.1 rfl).2.1) (Nat.le_of_eq (C.2.2.2.2.2.2.2.1 rfl).2.2) (vx_ret (W.iret (v := x) C.1 C.2.1 C.2.2.2.2.2.2.1 (qr_end w s) s.2.2 hd C.2.2.2.2.2.1))
theorem g_zret (C : CX true G own cc nL (some .boolean) rm X) {x : Int32} (hx : x = 0 ∨ x = 1) (hd : decode cc pc = .ok (.ireturn, 1)) : GW G X nL (QX G X (.inl (some (vI x))) M) pc ls [vI x] M :=
  fun _ _ _ _ _ w s _ => W.widen (Nat.le_of_eq (C.2.2.2.2.2.2.2.1 rfl).2.1) (Nat.le_of_eq (C.2.2.2.2.2.2.2.1 rfl).2.2) (vx_ret (W.zret (v := x) C.1 C.2.1 C.2.2.2.2.2.2.1 (by rcases hx with rfl | rfl <;> rfl) (qr_end w s) s.2.2 hd C.2.2.2.2.2.1))
theorem g_vret (C : CX true G own cc nL none rm X) (hd : decode cc pc = .ok (.return_, 1)) : GW G X nL (QX G X (.inl none) M) pc ls [] M :=
  fun _ _ _ _ _ w s _ => W.widen (Nat.le_of_eq (C.2.2.2.2.2.2.2.1 rfl).2.1) (Nat.le_of_eq (C.2.2.2.2.2.2.2.1 rfl).2.2) (vx_ret (W.vret C.1 C.2.1 C.2.2.2.2.2.2.1 (qr_end w s) s.2.2 hd C.2.2.2.2.2.1))
end HEAP
/-! Calls, throws, and a method's contract out of its walk. -/
section CALLS
variable {tb : Bool} {G : GE} {own : String} {cc : ByteArray} {nL : Nat} {ret : Option FieldType} {rm : Room} {X : PX} {Q : State → Prop} {pc : Nat} {ls : List (Nat × AV)} {st : List AV} {M : Mem}
theorem pr_blind {av : List AV} : FrameBlind (PR G av M) := fun a U g mk h => ⟨h.1, h.2.1, SF.vm (U := U) rfl h.2.2⟩
def csum (l : List AV) : Nat := match l with
  | [] => 0
  | v :: r => (if cat2 v then 2 else 1) + csum r
theorem cat_cv (v : AV) : (cv G v).category = if cat2 v then 2 else 1 := by
  rcases v with x | x | x | x | x <;> rfl
theorem csum_cv : ∀ l : List AV, ((l.map (cv G)).map fun v => v.category).sum = csum l
  | [] => rfl
  | v :: r => by
    show (cv G v).category + ((r.map (cv G)).map fun v => v.category).sum = (if cat2 v then 2 else 1) + csum r
    rw [csum_cv r, cat_cv]
def lkB (own : String) (idx : Nat) (y : MethodName) (zc : ByteArray) (zl : Nat) (zr : Option FieldType) (n : Nat) : Prop :=
  Cond.methodLink own idx y ∈ BW ∧ Cond.initialized y.cls ∈ BW ∧ Cond.code y zc zl zr ∈ BW ∧ (y.cls ≠ "java/lang/invoke/MethodHandle" ∧ y.cls ≠ "java/lang/invoke/VarHandle" ∧ (parseMethodDescriptor y.desc).map (fun d => d.parameters.length) = some n)
def lkV (own : String) (idx : Nat) (y : MethodName) (zc : ByteArray) (zl : Nat) (zr : Option FieldType) (n : Nat) : Prop :=
  lkB own idx y zc zl zr n ∧ Cond.instanceMethod y ∈ BW ∧ Cond.selects y.cls y y ∈ BW
theorem gi_code {y : MethodName} {zc : ByteArray} {zl : Nat} {zr : Option FieldType} (h : Cond.code y zc zl zr ∈ BW) : GoodIn BW (Cond.code y zc zl zr :: BW) := fun w hw => by
  have hb : w ∈ BW := by
    rcases List.mem_cons.mp hw with e | e
    · rw [e]; exact h
    · exact e
  exact ⟨hb, good_of_word (bw_good hb)⟩
theorem cb_of (C : CX tb G own cc nL ret rm X) {idx : Nat} {y : MethodName} {zc : ByteArray} {zl n d : Nat} {zr : Option FieldType} {o : Outc} (lk : lkB own idx y zc zl zr n) (hroom : d + 1 ≤ rm.frames ∧ 8 + (zl + 11) + 36 * d ≤ rm.locals) :
    CallB X.2.2.2.1 (xs_ X) X.2.2.2.2.2.2.1 own idx y zc zl zr (Cond.code y zc zl zr :: BW) (rmx d o) (mcx o) (msx o) n := by
  have hR : X.2.2.2.1 = rm := C.2.2.2.2.2.2.2.2.2.1
  exact callB_of n C.2.2.2.2.1 (gi_code lk.2.2.1) rfl rfl rfl (C.2.2.2.2.1 _ lk.2.1) (C.2.2.2.2.1 _ lk.1) lk.2.2.2 (by rw [hR]; exact hroom)
theorem call_go (C : CX tb G own cc nL ret rm X) {As rest : List AV} {a : Array Value} {o : Outc} {M1 : Mem} {H : Heap} {locs : List Loc} {la : Array Slot} {st0 : List Value}
    (hrun : vx_Run X.1 X.2.1 X.2.2.1 X.2.2.2.1 (xs_ X) X.2.2.2.2.2.1 X.2.2.2.2.2.2.1 X.2.2.2.2.2.2.2.1 X.2.2.2.2.2.2.2.2.1 X.2.2.2.2.2.2.2.2.2.1 H locs (xk_ X) (xz_ X) (mcx o) (msx o) (F0 X.2.2.2.2.2.1 pc la st0) (rest.map (cv G)) (QR G o M1 a) (XR G o M1) (gA G))
    (o1 : ∀ q ∈ ls, okv G q.2) (o2 : ∀ v ∈ rest, okv G v) (s : va_S (gA G) (xs_ X).heap H locs) (h : lv_has la nL (ls.map (cq G)))
    (hok : ∀ v, o = .inl (some v) → okv G v) (kr : ∀ v, o = .inl v → GW G X nL Q (pc + 3) ls (v.toList ++ rest) M1) (kx : ∀ E, o = .inr E → ∀ (H1 : Heap) (locs1 : List Loc) (q : Addr) (ce : Cell), Wm G M1 H1 → va_S (gA G) (xs_ X).heap H1 locs1 → H1[q]? = some ce → ce.vm = .none → (xs_ X).vm.findClass E = some ce.cls →
      vx_W X.1 X.2.1 X.2.2.1 X.2.2.2.1 (xs_ X) X.2.2.2.2.2.1 X.2.2.2.2.2.2.1 X.2.2.2.2.2.2.2.1 X.2.2.2.2.2.2.2.2.1 X.2.2.2.2.2.2.2.2.2.1 H1 locs1 (xk_ X + 1) (xz_ X + 6) Q (F0 X.2.2.2.2.2.1 pc la (rest.map (cv G))) q) : WX X H locs Q pc la st0 := by
  intro T hT XX
  rcases hrun T hT XX with ⟨v, st₀, t, T', L, h0, X', hL, e1, e2, hq, hst⟩ | ⟨q, st₀, t, T', L, E, ce, h0, X', hL, e1, e2, hx, hce, hcv, hcl, hst⟩
  · obtain ⟨v', rfl, hv, hw, hF⟩ := hq
    cases hv
    obtain ⟨z1, z2, hS⟩ := vx_keep h0 e1 s (fun q _ h => h) (fun q h => h) hL hF
    have hw' : Wm G M1 T'.heap := by rw [e1]; exact hw
    have o2' : ∀ w ∈ v'.toList ++ rest, okv G w := by
      cases v' with
      | none => exact o2
      | some x => exact okT (hok x rfl) o2
    obtain ⟨t2, a1, b1⟩ := kr v' rfl o1 o2' T'.heap (locs ++ L) la hw' hS h T' rfl X'
    refine ⟨t2, hst t2 ?_, b1⟩
    have e : (v'.map (cv G)).toList ++ rest.map (cv G) = (v'.toList ++ rest).map (cv G) := by cases v' <;> rfl
    rw [e]
    exact a1
  · obtain ⟨rfl, hw, hF⟩ := hx
    obtain ⟨z1, z2, hS⟩ := vx_keep h0 e1 s (fun q _ h => h) (fun q h => h) hL hF
    have hw' : Wm G M1 T'.heap := by rw [e1]; exact hw
    obtain ⟨t2, a1, b1⟩ := kx E rfl T'.heap (locs ++ L) q ce hw' hS (by rw [e1]; exact hce) hcv hcl T' rfl X'
    exact ⟨t2, hst.trans a1, b1⟩
theorem g_callV (C : CX tb G own cc nL ret rm X) {idx : Nat} {y : MethodName} {zc : ByteArray} {zl n d t k : Nat} {zr : Option FieldType} {o : Outc} {M1 : Mem} {As rest : List AV}
    (lk : lkV own idx y zc zl zr n) (hct : CT X.2.1 G y zc zl zr d (vR t k :: As) M o M1) (ht : t < 11) (hcls : cN t = y.cls) (hn : As.length = n) (hst : As.reverse ++ vR t k :: rest = st) (hW : csum rest ≤ 8)
    (hroom : d + 1 ≤ rm.frames ∧ 8 + (zl + 11) + 36 * d ≤ rm.locals) (hmc : xk_ X + mcx o ≤ rm.cells ∧ xz_ X + msx o ≤ rm.slots) (hd : decode cc pc = .ok (.invokevirtual idx, 3))
    (hok : ∀ v, o = .inl (some v) → okv G v) (kr : ∀ v, o = .inl v → GW G X nL Q (pc + 3) ls (v.toList ++ rest) M1) (kx : ∀ E, o = .inr E → ∀ (H1 : Heap) (locs1 : List Loc) (la : Array Slot) (q : Addr) (ce : Cell), lv_has la nL (ls.map (cq G)) → Wm G M1 H1 → va_S (gA G) (xs_ X).heap H1 locs1 → H1[q]? = some ce → ce.vm = .none → (xs_ X).vm.findClass E = some ce.cls → vx_W X.1 X.2.1 X.2.2.1 X.2.2.2.1 (xs_ X) X.2.2.2.2.2.1 X.2.2.2.2.2.2.1 X.2.2.2.2.2.2.2.1 X.2.2.2.2.2.2.2.2.1 X.2.2.2.2.2.2.2.2.2.1 H1 locs1 (xk_ X + 1) (xz_ X + 6) Q (F0 X.2.2.2.2.2.1 pc la (rest.map (cv G))) q) : GW G X nL Q pc ls st M := by
  subst hst
  intro o1 o2 H locs la w s h
  have hid := okI (o2 (vR t k) (by simp)) (by omega)
  obtain ⟨q0, h0, h1⟩ := wl_at (M := M) hid
  rw [enc_o ht] at h1
  have hR : X.2.2.2.1 = rm := C.2.2.2.2.2.2.2.2.2.1
  have hSF := (ca C).kept ⟨s.1, s.2.1⟩
  have hwm : va_P (gD G) vwCl (wl G M) H := w.1
  refine call_go C (As := As) (rest := rest) (vx_runV (As := As.map (cv G)) (b := gad G t k) (C := y.cls) ⟨C.1, C.2.1, C.2.2.1, C.2.2.2.1, C.2.2.2.2.1⟩ hct ⟨cb_of C lk.1 hroom, C.2.2.2.2.1 _ lk.2.1, C.2.2.2.2.1 _ lk.2.2⟩ ⟨pr_blind, ?_, ?_⟩ rfl (by rw [List.length_map]; exact hn) h.1 ?_ (lv_room (by rw [csum_cv]; exact hW)) hd (by rw [hR]; exact hmc)) o1 (fun v hv => o2 v (by simp [hv])) s h hok kr (fun E hE H1 locs1 q ce => kx E hE H1 locs1 la q ce h)
  · have := va_recv (ca C).1 hwm (cl_at ht) h1
    rw [← hcls]
    exact this
  · intro U hU hWU
    exact ⟨rfl, by rw [hU]; exact w, by rw [hU]; exact hSF.moved hWU⟩
  · show (As.reverse ++ vR t k :: rest).map (cv G) = _
    rw [List.map_append, List.map_cons, List.map_reverse]
    rfl
theorem g_callVi (C : CX true G own cc nL ret rm X) {idx : Nat} {y : MethodName} {zc : ByteArray} {zl n d t k : Nat} {zr : Option FieldType} {x : Int32} {M1 : Mem} {As rest : List AV} (lk : lkV own idx y zc zl zr n) (hct : CT X.2.1 G y zc zl zr d (vR t k :: As) M (.inl (some (vI x))) M1) (ht : t < 11) (hcls : cN t = y.cls) (hn : As.length = n) (hst : As.reverse ++ vR t k :: rest = st) (hW : csum rest ≤ 8) (hroom : d + 1 ≤ rm.frames ∧ 8 + (zl + 11) + 36 * d ≤ rm.locals) (hd : decode cc pc = .ok (.invokevirtual idx, 3)) (kr : GW G X nL Q (pc + 3) ls (vI x :: rest) M1) : GW G X nL Q pc ls st M :=
  g_callV C lk hct ht hcls hn hst hW hroom ⟨by rw [(C.2.2.2.2.2.2.2.1 rfl).2.1]; exact Nat.zero_le _, by rw [(C.2.2.2.2.2.2.2.1 rfl).2.2]; exact Nat.zero_le _⟩ hd (fun v hv => by cases hv; trivial) (fun v hv => by cases hv; exact kr) (fun E hE => by cases hE)
theorem g_callVv (C : CX true G own cc nL ret rm X) {idx : Nat} {y : MethodName} {zc : ByteArray} {zl n d t k : Nat} {zr : Option FieldType} {M1 : Mem} {As rest : List AV} (lk : lkV own idx y zc zl zr n) (hct : CT X.2.1 G y zc zl zr d (vR t k :: As) M (.inl none) M1) (ht : t < 11) (hcls : cN t = y.cls) (hn : As.length = n) (hst : As.reverse ++ vR t k :: rest = st) (hW : csum rest ≤ 8) (hroom : d + 1 ≤ rm.frames ∧ 8 + (zl + 11) + 36 * d ≤ rm.locals) (hd : decode cc pc = .ok (.invokevirtual idx, 3)) (kr : GW G X nL Q (pc + 3) ls (rest) M1) : GW G X nL Q pc ls st M :=
  g_callV C lk hct ht hcls hn hst hW hroom ⟨by rw [(C.2.2.2.2.2.2.2.1 rfl).2.1]; exact Nat.zero_le _, by rw [(C.2.2.2.2.2.2.2.1 rfl).2.2]; exact Nat.zero_le _⟩ hd (fun v hv => by cases hv) (fun v hv => by cases hv; exact kr) (fun E hE => by cases hE)
theorem g_callVv_k (C : CX tb G own cc nL ret rm X) {idx : Nat} {y : MethodName} {zc : ByteArray} {zl n d t k : Nat} {zr : Option FieldType} {M1 : Mem} {As rest : List AV} (lk : lkV own idx y zc zl zr n) (hct : CT X.2.1 G y zc zl zr d (vR t k :: As) M (.inl none) M1) (ht : t < 11) (hcls : cN t = y.cls) (hn : As.length = n) (hst : As.reverse ++ vR t k :: rest = st) (hW : csum rest ≤ 8) (hroom : d + 1 ≤ rm.frames ∧ 8 + (zl + 11) + 36 * d ≤ rm.locals) (hmc : xk_ X ≤ rm.cells ∧ xz_ X ≤ rm.slots) (hd : decode cc pc = .ok (.invokevirtual idx, 3)) (kr : GW G X nL Q (pc + 3) ls (rest) M1) : GW G X nL Q pc ls st M :=
  g_callV C lk hct ht hcls hn hst hW hroom hmc hd (fun v hv => by cases hv) (fun v hv => by cases hv; exact kr) (fun E hE => by cases hE)
/-- a method's contract, out of the walk of its body -/
theorem ct_of {l : Launch} {y : MethodName} {d : Nat} {av : List AV} {o : Outc} {M' : Mem} (ls0 : List (Nat × AV)) (hy : plainName y.cls = true) (hl : l.stackTraces = false) (hG : GOK G) (hlen : csum av ≤ nL) (hls : ls0.map (cq G) = lv_args 0 (av.map (cv G))) (hok : ∀ v ∈ av, okv G v) (hok0 : ∀ q ∈ ls0, okv G q.2)
    (body : ∀ X, X.2.1 = l → CX true G y.cls cc nL ret (rmx d o) X → GW G X nL (QX G X o M') 0 ls0 [] M) : CT l G y cc nL ret d av M o M' := by
  refine vx_ofW hy rfl ?_
  intro p e s m args below meth c s₁ B hml hnt hv
  obtain ⟨rfl, hw⟩ := hv
  have hts := atoms_spec (ws := Cond.code y cc nL ret :: BW) B.pre
  have C : CX true G y.cls cc nL ret (rmx d o) (p, l, e, (headSpec (Cond.code y cc nL ret :: BW) (rmx d o)).room, s, m, (av.map (cv G)).toArray, below, meth, c, 0, 0) :=
    ⟨B.exec, B.bytes, hml, findClass_of_methodNamed B.named, fun w hw => hts w (List.mem_cons_of_mem _ hw), B.notSynchronized, B.returns, fun _ => ⟨hnt, rfl, rfl⟩, hl, rfl, hG, hw.2⟩
  have hsl : ∀ vs : List AV, (lg_sl (vs.map (cv G))).length = csum vs := by
    intro vs
    induction vs with
    | nil => rfl
    | cons v r ih =>
      show (List.flatMap _ (cv G v :: r.map (cv G))).length = _
      rw [List.flatMap_cons, List.length_append]
      show _ + (lg_sl (r.map (cv G))).length = (if cat2 v then 2 else 1) + csum r
      rw [ih]
      rcases v with x | x | x | x | x <;> rfl
  have hlv := lv_entry (av.map (cv G)) (n := nL) (by rw [hsl]; exact hlen)
  rw [lg_entry_eq]
  have k := body _ rfl C hok0 (fun _ h => by cases h) s.heap [] ((lg_sl (av.map (cv G)) ++ List.replicate (nL - (lg_sl (av.map (cv G))).length) Slot.unset).toArray) hw.1 va_S.rf (by rw [show (fun q : Nat × AV => (q.1, cv G q.2)) = cq G from rfl, hls]; exact hlv)
  exact k
end CALLS
/-! A throw of the class's own. -/
section THROW
variable {tb : Bool} {G : GE} {own : String} {cc : ByteArray} {nL : Nat} {ret : Option FieldType} {rm : Room} {X : PX} {Q : State → Prop} {pc : Nat} {ls : List (Nat × AV)} {st : List AV} {M : Mem}
/-! words for the models -/
abbrev inb (i : Int32) (n : Nat) : Prop := ¬ (i < 0 ∨ n ≤ i.toNatClampNeg)
def lp_run {S R : Type} (body : S → Option (S ⊕ R)) : Nat → S → Option R
  | 0, _ => none
  | n + 1, s => match body s with
    | none => none
    | some (.inl s') => lp_run body n s'
    | some (.inr r) => some r
theorem lp_ind {S R : Type} {body : S → Option (S ⊕ R)} {P : S → Prop} {r : R} (step : ∀ s o, body s = some o → ((∀ s', o = .inl s' → P s') ∧ (∀ r', o = .inr r' → r' = r)) → P s) : ∀ n s, lp_run body n s = some r → P s
  | 0, _, h => by cases h
  | n + 1, s, h => by
    unfold lp_run at h
    cases hb : body s with
    | none => rw [hb] at h; cases h
    | some o =>
      rw [hb] at h
      cases o with
      | inl s' => exact step s _ hb ⟨fun s'' e => (by cases e; exact lp_ind step n s' h), fun r' e => (by cases e)⟩
      | inr r' => exact step s _ hb ⟨fun s'' e => (by cases e), fun r'' e => (by cases e; exact Option.some.inj h)⟩
theorem bnd_some {α β : Type} {x : Option α} {k : α → Option β} {r : β} (h : x.bind k = some r) : ∃ a, x = some a ∧ k a = some r := by
  cases x with
  | none => cases h
  | some a => exact ⟨a, rfl, h⟩
theorem ift {α : Sort _} {c : Prop} {_ : Decidable c} {A B r : α} (h : (if c then A else B) = r) (hc : c) : A = r := by rw [if_pos hc] at h; exact h
theorem ife {α : Sort _} {c : Prop} {_ : Decidable c} {A B r : α} (h : (if c then A else B) = r) (hc : ¬ c) : B = r := by rw [if_neg hc] at h; exact h
theorem ifn {α : Type} {c : Prop} {_ : Decidable c} {A : Option α} {r : α} (h : (if c then A else none) = some r) : c ∧ A = some r := by
  by_cases hc : c
  · rw [if_pos hc] at h; exact ⟨hc, h⟩
  · rw [if_neg hc] at h; cases h
theorem iv_p1 (x : Int32) : x + Int32.ofInt 1 = x + (1 : Int32) := by rw [show Int32.ofInt 1 = (1 : Int32) from by decide]
end THROW
end
section
/-! p27: the claim is false as printed (its room): made by wip/refute/port.py out of whole's rows -/
/-! the words that the walks use (made by wip/whole/emit.py) -/
theorem kf_X0_9 : fLk RX0 9 0 0 := bw_mem (w := Cond.fieldLink RX0 9 "ArrowDiagrams$Cells" "total" "I") 177 (by decide +kernel) rfl
theorem kf_X8_9 : fLk RX8 9 8 0 := bw_mem (w := Cond.fieldLink RX8 9 "ArrowDiagrams$Row" "numbers" "[I") 132 (by decide +kernel) rfl
theorem kf_X3_18 : fLk RX3 18 3 2 := bw_mem (w := Cond.fieldLink RX3 18 "ArrowDiagrams$Grid" "numbers" "[I") 169 (by decide +kernel) rfl
theorem kf_X0_20 : fLk RX0 20 0 1 := bw_mem (w := Cond.fieldLink RX0 20 "ArrowDiagrams$Cells" "origins" "LArrowDiagrams$Row;") 178 (by decide +kernel) rfl
theorem kf_X0_24 : fLk RX0 24 0 2 := bw_mem (w := Cond.fieldLink RX0 24 "ArrowDiagrams$Cells" "lengths" "LArrowDiagrams$Row;") 179 (by decide +kernel) rfl
theorem kf_X0_32 : fLk RX0 32 0 3 := bw_mem (w := Cond.fieldLink RX0 32 "ArrowDiagrams$Cells" "letters" "LArrowDiagrams$Grid;") 180 (by decide +kernel) rfl
theorem lk_X0_46 : lkV RX0 46 yX8_set cX8_set 3 none 2 := ⟨⟨bw_mem (w := Cond.methodLink RX0 46 yX8_set) 422 (by decide +kernel) rfl, bw_mem (w := Cond.initialized RX8) 94 (by decide +kernel) rfl, bw_mem (w := Cond.code yX8_set cX8_set 3 none) 378 (by decide +kernel) rfl, by decide +kernel⟩, bw_mem (w := Cond.instanceMethod yX8_set) 376 (by decide +kernel) rfl, bw_mem (w := Cond.selects RX8 yX8_set yX8_set) 377 (by decide +kernel) rfl⟩
theorem kf_X3_9 : fLk RX3 9 3 0 := bw_mem (w := Cond.fieldLink RX3 9 "ArrowDiagrams$Grid" "rows" "I") 167 (by decide +kernel) rfl
theorem kf_X3_15 : fLk RX3 15 3 1 := bw_mem (w := Cond.fieldLink RX3 15 "ArrowDiagrams$Grid" "columns" "I") 168 (by decide +kernel) rfl
theorem lk_X0_49 : lkV RX0 49 yX8_get cX8_get 2 (some .int) 1 := ⟨⟨bw_mem (w := Cond.methodLink RX0 49 yX8_get) 420 (by decide +kernel) rfl, bw_mem (w := Cond.initialized RX8) 94 (by decide +kernel) rfl, bw_mem (w := Cond.code yX8_get cX8_get 2 (some .int)) 398 (by decide +kernel) rfl, by decide +kernel⟩, bw_mem (w := Cond.instanceMethod yX8_get) 396 (by decide +kernel) rfl, bw_mem (w := Cond.selects RX8 yX8_get yX8_get) 397 (by decide +kernel) rfl⟩
theorem lk_X0_68 : lkV RX0 68 yX3_get cX3_get 4 (some .int) 2 := ⟨⟨bw_mem (w := Cond.methodLink RX0 68 yX3_get) 421 (by decide +kernel) rfl, bw_mem (w := Cond.initialized RX3) 96 (by decide +kernel) rfl, bw_mem (w := Cond.code yX3_get cX3_get 4 (some .int)) 411 (by decide +kernel) rfl, by decide +kernel⟩, bw_mem (w := Cond.instanceMethod yX3_get) 409 (by decide +kernel) rfl, bw_mem (w := Cond.selects RX3 yX3_get yX3_get) 410 (by decide +kernel) rfl⟩
theorem kf_X0_63 : fLkN RX0 63 6 6 := (by decide +kernel : Cond.fieldLinkNest RX0 63 "ArrowDiagrams$Paths" "longer" "LArrowDiagrams$Grid;" "ArrowDiagrams" ∈ XW)
theorem kf_X0_36 : fLk RX0 36 0 4 := bw_mem (w := Cond.fieldLink RX0 36 "ArrowDiagrams$Cells" "numbers" "LArrowDiagrams$Row;") 181 (by decide +kernel) rfl
theorem kf_X1_14 : fLk RX1 14 1 0 := bw_mem (w := Cond.fieldLink RX1 14 "ArrowDiagrams$Functions" "sizes" "LArrowDiagrams$Row;") 299 (by decide +kernel) rfl
theorem lk_X1_23 : lkV RX1 23 yX8_fill cX8_fill 3 none 1 := ⟨⟨bw_mem (w := Cond.methodLink RX1 23 yX8_fill) 358 (by decide +kernel) rfl, bw_mem (w := Cond.initialized RX8) 94 (by decide +kernel) rfl, bw_mem (w := Cond.code yX8_fill cX8_fill 3 none) 253 (by decide +kernel) rfl, by decide +kernel⟩, bw_mem (w := Cond.instanceMethod yX8_fill) 251 (by decide +kernel) rfl, bw_mem (w := Cond.selects RX8 yX8_fill yX8_fill) 252 (by decide +kernel) rfl⟩
theorem kf_X2_9 : fLk RX2 9 2 0 := bw_mem (w := Cond.fieldLink RX2 9 "ArrowDiagrams$Graph" "objects" "I") 137 (by decide +kernel) rfl
theorem kf_X2_15 : fLk RX2 15 2 1 := bw_mem (w := Cond.fieldLink RX2 15 "ArrowDiagrams$Graph" "arrows" "I") 138 (by decide +kernel) rfl
theorem kf_X2_23 : fLk RX2 23 2 2 := bw_mem (w := Cond.fieldLink RX2 23 "ArrowDiagrams$Graph" "froms" "LArrowDiagrams$Row;") 139 (by decide +kernel) rfl
theorem kf_X2_27 : fLk RX2 27 2 3 := bw_mem (w := Cond.fieldLink RX2 27 "ArrowDiagrams$Graph" "tos" "LArrowDiagrams$Row;") 140 (by decide +kernel) rfl
theorem lk_X2_37 : lkV RX2 37 yX2_hasArrow cX2_hasArrow 2 (some .boolean) 1 := ⟨⟨bw_mem (w := Cond.methodLink RX2 37 yX2_hasArrow) 391 (by decide +kernel) rfl, bw_mem (w := Cond.initialized RX2) 93 (by decide +kernel) rfl, bw_mem (w := Cond.code yX2_hasArrow cX2_hasArrow 2 (some .boolean)) 394 (by decide +kernel) rfl, by decide +kernel⟩, bw_mem (w := Cond.instanceMethod yX2_hasArrow) 392 (by decide +kernel) rfl, bw_mem (w := Cond.selects RX2 yX2_hasArrow yX2_hasArrow) 393 (by decide +kernel) rfl⟩
theorem lk_X2_41 : lkV RX2 41 yX8_get cX8_get 2 (some .int) 1 := ⟨⟨bw_mem (w := Cond.methodLink RX2 41 yX8_get) 395 (by decide +kernel) rfl, bw_mem (w := Cond.initialized RX8) 94 (by decide +kernel) rfl, bw_mem (w := Cond.code yX8_get cX8_get 2 (some .int)) 398 (by decide +kernel) rfl, by decide +kernel⟩, bw_mem (w := Cond.instanceMethod yX8_get) 396 (by decide +kernel) rfl, bw_mem (w := Cond.selects RX8 yX8_get yX8_get) 397 (by decide +kernel) rfl⟩
theorem kf_X5_9 : fLk RX5 9 5 0 := bw_mem (w := Cond.fieldLink RX5 9 "ArrowDiagrams$Pasting" "fresh" "Z") 254 (by decide +kernel) rfl
theorem kf_X5_15 : fLk RX5 15 5 1 := bw_mem (w := Cond.fieldLink RX5 15 "ArrowDiagrams$Pasting" "coreFresh" "Z") 255 (by decide +kernel) rfl
theorem kf_X6_9 : fLk RX6 9 6 0 := bw_mem (w := Cond.fieldLink RX6 9 "ArrowDiagrams$Paths" "total" "I") 203 (by decide +kernel) rfl
theorem kf_X6_35 : fLk RX6 35 6 4 := bw_mem (w := Cond.fieldLink RX6 35 "ArrowDiagrams$Paths" "arrow" "LArrowDiagrams$Grid;") 215 (by decide +kernel) rfl
theorem kf_X6_27 : fLk RX6 27 6 3 := bw_mem (w := Cond.fieldLink RX6 27 "ArrowDiagrams$Paths" "length" "LArrowDiagrams$Row;") 211 (by decide +kernel) rfl
theorem lk_X6_69 : lkV RX6 69 yX8_get cX8_get 2 (some .int) 1 := ⟨⟨bw_mem (w := Cond.methodLink RX6 69 yX8_get) 407 (by decide +kernel) rfl, bw_mem (w := Cond.initialized RX8) 94 (by decide +kernel) rfl, bw_mem (w := Cond.code yX8_get cX8_get 2 (some .int)) 398 (by decide +kernel) rfl, by decide +kernel⟩, bw_mem (w := Cond.instanceMethod yX8_get) 396 (by decide +kernel) rfl, bw_mem (w := Cond.selects RX8 yX8_get yX8_get) 397 (by decide +kernel) rfl⟩
theorem lk_X6_72 : lkV RX6 72 yX3_get cX3_get 4 (some .int) 2 := ⟨⟨bw_mem (w := Cond.methodLink RX6 72 yX3_get) 408 (by decide +kernel) rfl, bw_mem (w := Cond.initialized RX3) 96 (by decide +kernel) rfl, bw_mem (w := Cond.code yX3_get cX3_get 4 (some .int)) 411 (by decide +kernel) rfl, by decide +kernel⟩, bw_mem (w := Cond.instanceMethod yX3_get) 409 (by decide +kernel) rfl, bw_mem (w := Cond.selects RX3 yX3_get yX3_get) 410 (by decide +kernel) rfl⟩
theorem kf_X6_20 : fLk RX6 20 6 1 := bw_mem (w := Cond.fieldLink RX6 20 "ArrowDiagrams$Paths" "start" "LArrowDiagrams$Row;") 204 (by decide +kernel) rfl
theorem lk_X6_75 : lkV RX6 75 yX8_set cX8_set 3 none 2 := ⟨⟨bw_mem (w := Cond.methodLink RX6 75 yX8_set) 375 (by decide +kernel) rfl, bw_mem (w := Cond.initialized RX8) 94 (by decide +kernel) rfl, bw_mem (w := Cond.code yX8_set cX8_set 3 none) 378 (by decide +kernel) rfl, by decide +kernel⟩, bw_mem (w := Cond.instanceMethod yX8_set) 376 (by decide +kernel) rfl, bw_mem (w := Cond.selects RX8 yX8_set yX8_set) 377 (by decide +kernel) rfl⟩
theorem kf_X6_24 : fLk RX6 24 6 2 := bw_mem (w := Cond.fieldLink RX6 24 "ArrowDiagrams$Paths" "end" "LArrowDiagrams$Row;") 208 (by decide +kernel) rfl
theorem kf_X6_39 : fLk RX6 39 6 5 := bw_mem (w := Cond.fieldLink RX6 39 "ArrowDiagrams$Paths" "shorter" "LArrowDiagrams$Row;") 219 (by decide +kernel) rfl
theorem kf_X6_42 : fLk RX6 42 6 6 := bw_mem (w := Cond.fieldLink RX6 42 "ArrowDiagrams$Paths" "longer" "LArrowDiagrams$Grid;") 221 (by decide +kernel) rfl
theorem lk_X6_78 : lkV RX6 78 yX3_set cX3_set 5 none 3 := ⟨⟨bw_mem (w := Cond.methodLink RX6 78 yX3_set) 379 (by decide +kernel) rfl, bw_mem (w := Cond.initialized RX3) 96 (by decide +kernel) rfl, bw_mem (w := Cond.code yX3_set cX3_set 5 none) 382 (by decide +kernel) rfl, by decide +kernel⟩, bw_mem (w := Cond.instanceMethod yX3_set) 380 (by decide +kernel) rfl, bw_mem (w := Cond.selects RX3 yX3_set yX3_set) 381 (by decide +kernel) rfl⟩
theorem lk_X6_51 : lkV RX6 51 yX6_enter cX6_enter 6 none 4 := ⟨⟨bw_mem (w := Cond.methodLink RX6 51 yX6_enter) 371 (by decide +kernel) rfl, bw_mem (w := Cond.initialized RX6) 97 (by decide +kernel) rfl, bw_mem (w := Cond.code yX6_enter cX6_enter 6 none) 374 (by decide +kernel) rfl, by decide +kernel⟩, bw_mem (w := Cond.instanceMethod yX6_enter) 373 (by decide +kernel) rfl, bw_mem (w := Cond.selects RX6 yX6_enter yX6_enter) 1 (by decide +kernel) rfl⟩
theorem lk_X6_45 : lkV RX6 45 yX2_objectTotal cX2_objectTotal 1 (some .int) 0 := ⟨⟨bw_mem (w := Cond.methodLink RX6 45 yX2_objectTotal) 367 (by decide +kernel) rfl, bw_mem (w := Cond.initialized RX2) 93 (by decide +kernel) rfl, bw_mem (w := Cond.code yX2_objectTotal cX2_objectTotal 1 (some .int)) 370 (by decide +kernel) rfl, by decide +kernel⟩, bw_mem (w := Cond.instanceMethod yX2_objectTotal) 368 (by decide +kernel) rfl, bw_mem (w := Cond.selects RX2 yX2_objectTotal yX2_objectTotal) 369 (by decide +kernel) rfl⟩
theorem lk_X6_55 : lkV RX6 55 yX2_arrowTotal cX2_arrowTotal 1 (some .int) 0 := ⟨⟨bw_mem (w := Cond.methodLink RX6 55 yX2_arrowTotal) 383 (by decide +kernel) rfl, bw_mem (w := Cond.initialized RX2) 93 (by decide +kernel) rfl, bw_mem (w := Cond.code yX2_arrowTotal cX2_arrowTotal 1 (some .int)) 386 (by decide +kernel) rfl, by decide +kernel⟩, bw_mem (w := Cond.instanceMethod yX2_arrowTotal) 384 (by decide +kernel) rfl, bw_mem (w := Cond.selects RX2 yX2_arrowTotal yX2_arrowTotal) 385 (by decide +kernel) rfl⟩
theorem lk_X6_58 : lkV RX6 58 yX2_from cX2_from 2 (some .int) 1 := ⟨⟨bw_mem (w := Cond.methodLink RX6 58 yX2_from) 387 (by decide +kernel) rfl, bw_mem (w := Cond.initialized RX2) 93 (by decide +kernel) rfl, bw_mem (w := Cond.code yX2_from cX2_from 2 (some .int)) 390 (by decide +kernel) rfl, by decide +kernel⟩, bw_mem (w := Cond.instanceMethod yX2_from) 388 (by decide +kernel) rfl, bw_mem (w := Cond.selects RX2 yX2_from yX2_from) 389 (by decide +kernel) rfl⟩
theorem lk_X6_62 : lkV RX6 62 yX2_to cX2_to 2 (some .int) 1 := ⟨⟨bw_mem (w := Cond.methodLink RX6 62 yX2_to) 399 (by decide +kernel) rfl, bw_mem (w := Cond.initialized RX2) 93 (by decide +kernel) rfl, bw_mem (w := Cond.code yX2_to cX2_to 2 (some .int)) 402 (by decide +kernel) rfl, by decide +kernel⟩, bw_mem (w := Cond.instanceMethod yX2_to) 400 (by decide +kernel) rfl, bw_mem (w := Cond.selects RX2 yX2_to yX2_to) 401 (by decide +kernel) rfl⟩
theorem lk_X6_65 : lkV RX6 65 yX6_enterLonger cX6_enterLonger 6 none 3 := ⟨⟨bw_mem (w := Cond.methodLink RX6 65 yX6_enterLonger) 403 (by decide +kernel) rfl, bw_mem (w := Cond.initialized RX6) 97 (by decide +kernel) rfl, bw_mem (w := Cond.code yX6_enterLonger cX6_enterLonger 6 none) 406 (by decide +kernel) rfl, by decide +kernel⟩, bw_mem (w := Cond.instanceMethod yX6_enterLonger) 405 (by decide +kernel) rfl, bw_mem (w := Cond.selects RX6 yX6_enterLonger yX6_enterLonger) 2 (by decide +kernel) rfl⟩
theorem kf_X9_19 : fLk RX9 19 9 1 := bw_mem (w := Cond.fieldLink RX9 19 "ArrowDiagrams" "cells" "LArrowDiagrams$Cells;") 428 (by decide +kernel) rfl
theorem kf_X9_26 : fLk RX9 26 9 2 := bw_mem (w := Cond.fieldLink RX9 26 "ArrowDiagrams" "paths" "LArrowDiagrams$Paths;") 429 (by decide +kernel) rfl
theorem lk_X9_387 : lkV RX9 387 yX0_renumber cX0_renumber 5 none 1 := ⟨⟨bw_mem (w := Cond.methodLink RX9 387 yX0_renumber) 416 (by decide +kernel) rfl, bw_mem (w := Cond.initialized RX0) 95 (by decide +kernel) rfl, bw_mem (w := Cond.code yX0_renumber cX0_renumber 5 none) 419 (by decide +kernel) rfl, by decide +kernel⟩, bw_mem (w := Cond.instanceMethod yX0_renumber) 417 (by decide +kernel) rfl, bw_mem (w := Cond.selects RX0 yX0_renumber yX0_renumber) 418 (by decide +kernel) rfl⟩
theorem kf_X9_33 : fLk RX9 33 9 3 := bw_mem (w := Cond.fieldLink RX9 33 "ArrowDiagrams" "pasting" "LArrowDiagrams$Pasting;") 430 (by decide +kernel) rfl
theorem lk_X9_391 : lkV RX9 391 yX5_forget cX5_forget 1 none 0 := ⟨⟨bw_mem (w := Cond.methodLink RX9 391 yX5_forget) 423 (by decide +kernel) rfl, bw_mem (w := Cond.initialized RX5) 98 (by decide +kernel) rfl, bw_mem (w := Cond.code yX5_forget cX5_forget 1 none) 426 (by decide +kernel) rfl, by decide +kernel⟩, bw_mem (w := Cond.instanceMethod yX5_forget) 424 (by decide +kernel) rfl, bw_mem (w := Cond.selects RX5 yX5_forget yX5_forget) 425 (by decide +kernel) rfl⟩
theorem kf_X9_12 : fLk RX9 12 9 0 := bw_mem (w := Cond.fieldLink RX9 12 "ArrowDiagrams" "graph" "LArrowDiagrams$Graph;") 427 (by decide +kernel) rfl
theorem lk_X9_384 : lkV RX9 384 yX6_rebuild cX6_rebuild 4 none 1 := ⟨⟨bw_mem (w := Cond.methodLink RX9 384 yX6_rebuild) 363 (by decide +kernel) rfl, bw_mem (w := Cond.initialized RX6) 97 (by decide +kernel) rfl, bw_mem (w := Cond.code yX6_rebuild cX6_rebuild 4 none) 366 (by decide +kernel) rfl, by decide +kernel⟩, bw_mem (w := Cond.instanceMethod yX6_rebuild) 364 (by decide +kernel) rfl, bw_mem (w := Cond.selects RX6 yX6_rebuild yX6_rebuild) 365 (by decide +kernel) rfl⟩
theorem lk_X9_143 : lkV RX9 143 yX9_cellsChanged cX9_cellsChanged 1 none 0 := ⟨⟨bw_mem (w := Cond.methodLink RX9 143 yX9_cellsChanged) 412 (by decide +kernel) rfl, bw_mem (w := Cond.initialized RX9) 92 (by decide +kernel) rfl, bw_mem (w := Cond.code yX9_cellsChanged cX9_cellsChanged 1 none) 415 (by decide +kernel) rfl, by decide +kernel⟩, bw_mem (w := Cond.instanceMethod yX9_cellsChanged) 414 (by decide +kernel) rfl, bw_mem (w := Cond.selects RX9 yX9_cellsChanged yX9_cellsChanged) 3 (by decide +kernel) rfl⟩
theorem kf_X10_38 : fLk RX10 38 10 14 := bw_mem (w := Cond.fieldLink RX10 38 "ArrowDiagramsModel" "pFrom" "[I") 1204 (by decide +kernel) rfl
theorem kf_X10_89 : fLk RX10 89 10 13 := bw_mem (w := Cond.fieldLink RX10 89 "ArrowDiagramsModel" "paths" "I") 1203 (by decide +kernel) rfl
theorem kf_X10_41 : fLk RX10 41 10 15 := bw_mem (w := Cond.fieldLink RX10 41 "ArrowDiagramsModel" "pTo" "[I") 1205 (by decide +kernel) rfl
theorem kf_X10_44 : fLk RX10 44 10 16 := bw_mem (w := Cond.fieldLink RX10 44 "ArrowDiagramsModel" "pLen" "[I") 1206 (by decide +kernel) rfl
theorem kf_X10_50 : fLk RX10 50 10 18 := bw_mem (w := Cond.fieldLink RX10 50 "ArrowDiagramsModel" "on" "[I") 1208 (by decide +kernel) rfl
theorem kf_X10_17 : fLk RX10 17 10 4 := bw_mem (w := Cond.fieldLink RX10 17 "ArrowDiagramsModel" "at" "[I") 1194 (by decide +kernel) rfl
theorem lk_X10_92 : lkV RX10 92 yX10_putPath cX10_putPath 5 none 3 := ⟨⟨bw_mem (w := Cond.methodLink RX10 92 yX10_putPath) 1182 (by decide +kernel) rfl, bw_mem (w := Cond.initialized RX10) 102 (by decide +kernel) rfl, bw_mem (w := Cond.code yX10_putPath cX10_putPath 5 none) 1185 (by decide +kernel) rfl, by decide +kernel⟩, bw_mem (w := Cond.instanceMethod yX10_putPath) 1184 (by decide +kernel) rfl, bw_mem (w := Cond.selects RX10 yX10_putPath yX10_putPath) 41 (by decide +kernel) rfl⟩
theorem kf_X10_47 : fLk RX10 47 10 17 := bw_mem (w := Cond.fieldLink RX10 47 "ArrowDiagramsModel" "pSeq" "[I") 1207 (by decide +kernel) rfl
theorem kf_X10_7 : fLk RX10 7 10 1 := bw_mem (w := Cond.fieldLink RX10 7 "ArrowDiagramsModel" "n" "I") 1191 (by decide +kernel) rfl
theorem kf_X10_79 : fLk RX10 79 10 2 := bw_mem (w := Cond.fieldLink RX10 79 "ArrowDiagramsModel" "m" "I") 1192 (by decide +kernel) rfl
theorem kf_X10_13 : fLk RX10 13 10 3 := bw_mem (w := Cond.fieldLink RX10 13 "ArrowDiagramsModel" "af" "[I") 1193 (by decide +kernel) rfl
theorem lk_X10_96 : lkV RX10 96 yX10_goOn cX10_goOn 5 none 2 := ⟨⟨bw_mem (w := Cond.methodLink RX10 96 yX10_goOn) 1186 (by decide +kernel) rfl, bw_mem (w := Cond.initialized RX10) 102 (by decide +kernel) rfl, bw_mem (w := Cond.code yX10_goOn cX10_goOn 5 none) 1189 (by decide +kernel) rfl, by decide +kernel⟩, bw_mem (w := Cond.instanceMethod yX10_goOn) 1188 (by decide +kernel) rfl, bw_mem (w := Cond.selects RX10 yX10_goOn yX10_goOn) 42 (by decide +kernel) rfl⟩
theorem kf_X10_82 : fLk RX10 82 10 7 := bw_mem (w := Cond.fieldLink RX10 82 "ArrowDiagramsModel" "cells" "I") 1197 (by decide +kernel) rfl
theorem kf_X10_23 : fLk RX10 23 10 6 := bw_mem (w := Cond.fieldLink RX10 23 "ArrowDiagramsModel" "size" "[I") 1196 (by decide +kernel) rfl
theorem lk_X10_85 : lkV RX10 85 yX10_layPaths cX10_layPaths 4 (some .boolean) 0 := ⟨⟨bw_mem (w := Cond.methodLink RX10 85 yX10_layPaths) 1178 (by decide +kernel) rfl, bw_mem (w := Cond.initialized RX10) 102 (by decide +kernel) rfl, bw_mem (w := Cond.code yX10_layPaths cX10_layPaths 4 (some .boolean)) 1181 (by decide +kernel) rfl, by decide +kernel⟩, bw_mem (w := Cond.instanceMethod yX10_layPaths) 1180 (by decide +kernel) rfl, bw_mem (w := Cond.selects RX10 yX10_layPaths yX10_layPaths) 40 (by decide +kernel) rfl⟩
section LOOPS
/-! loops of models, by how many values they change -/
theorem lp_ind1 {A0 R : Type} {F : A0 → Mem → Option ((A0 × Mem) ⊕ R)} {P : A0 → Mem → Prop} {r : R} (step : ∀ (a0 : A0) (M : Mem) (o : (A0 × Mem) ⊕ R), F a0 M = some o → ((∀ (b0 : A0) (N : Mem), o = .inl (b0, N) → P b0 N) ∧ (∀ r', o = .inr r' → r' = r)) → P a0 M) : ∀ (n : Nat) (a0 : A0) (M : Mem), lp_run (fun s => F s.1 s.2) n (a0, M) = some r → P a0 M :=
  fun n a0 M h => lp_ind (P := fun s : A0 × Mem => P s.1 s.2) (fun s o hb K => step s.1 s.2 o hb ⟨fun b0 N e => K.1 (b0, N) e, K.2⟩) n (a0, M) h
theorem lp_ind2 {A0 A1 R : Type} {F : A0 → A1 → Mem → Option ((A0 × A1 × Mem) ⊕ R)} {P : A0 → A1 → Mem → Prop} {r : R} (step : ∀ (a0 : A0) (a1 : A1) (M : Mem) (o : (A0 × A1 × Mem) ⊕ R), F a0 a1 M = some o → ((∀ (b0 : A0) (b1 : A1) (N : Mem), o = .inl (b0, b1, N) → P b0 b1 N) ∧ (∀ r', o = .inr r' → r' = r)) → P a0 a1 M) : ∀ (n : Nat) (a0 : A0) (a1 : A1) (M : Mem), lp_run (fun s => F s.1 s.2.1 s.2.2) n (a0, a1, M) = some r → P a0 a1 M :=
  fun n a0 a1 M h => lp_ind (P := fun s : A0 × A1 × Mem => P s.1 s.2.1 s.2.2) (fun s o hb K => step s.1 s.2.1 s.2.2 o hb ⟨fun b0 b1 N e => K.1 (b0, b1, N) e, K.2⟩) n (a0, a1, M) h
end LOOPS
end
section
/-! p27: the claim is false as printed (its room): made by wip/refute/port.py out of whole's rows -/
/-! models and contracts, by program (wip/whole/emit.py): X0_clear, X8_get, X8_copyFrom, X3_copyFrom, X0_become, X0_total, X8_set, X0_open, X3_set, X0_lengthen, X3_get, X0_move, X0_remove, X0_occurs, X0_removeAllWith, X0_renumber, X0_pathOf, X8_fill, X1_clear, X1_become, X1_size, X1_resize, X1_code, X1_setCode, X1_digit, X1_value, X1_valueAlong, J6_bitCount_0f7a4, X1_imageSize, X1_agree, X1_choose, X1_isCode, X2_clear, X2_become, X2_objectTotal, X2_arrowTotal, X2_hasObject, X2_hasArrow, X2_from -/
def f_X8_get (fu : Nat) (k0 : Nat) (l1 : Int32) (M : Mem) : Option (Int32 × Mem) :=
  if l1 < 0 then some ((-1 : Int32), M) else if (nI (alen 20 k0)) ≤ l1 then some ((-1 : Int32), M) else if inb l1 (alen 20 k0) then some (M.1 20 k0 l1.toNatClampNeg, M) else none
set_option maxHeartbeats 4000000 in
set_option maxRecDepth 100000 in
theorem k_X8_get (l : Launch) (G : GE) (hl : l.stackTraces = false) (hG : GOK G) (fu : Nat) (k0 : Nat) (l1 : Int32) (M : Mem) (res : Int32 × Mem) (hk0 : (8, k0) ∈ gids G) (hm : f_X8_get fu k0 l1 M = some res) : CT l G yX8_get cX8_get 2 (some .int) 0 [vR 8 k0, vI l1] M (.inl (some (vI res.1))) res.2 := by
  refine ct_of [(0, vR 8 k0), (1, vI l1)] (by decide +kernel) hl hG (Nat.le_of_ble_eq_true rfl) rfl (List.forall_mem_cons.mpr ⟨Or.inl hk0, List.forall_mem_cons.mpr ⟨trivial, fun _ h => nomatch h⟩⟩) (List.forall_mem_cons.mpr ⟨Or.inl hk0, List.forall_mem_cons.mpr ⟨trivial, fun _ h => nomatch h⟩⟩) (fun X hX C => ?_)
  subst hX
  have Cl := C
  unfold f_X8_get at hm
  refine g_iload_n C 1 dX8_get_0 rfl rfl ?_
  refine g_if_lt (tgt := 22) C dX8_get_1 (by decide) (fun h1 => ?_) (fun h1 => ?_)
  · have hm := ift hm h1
    refine g_iconst (v := -1) C dX8_get_22 rfl ?_
    obtain rfl := Option.some.inj hm
    exact g_iret C dX8_get_23
  · have hm := ife hm h1
    refine g_iload_n C 1 dX8_get_4 rfl rfl ?_
    refine g_aload_n C 0 dX8_get_5 rfl rfl ?_
    refine g_getr (k := k0) (k' := k0) C (by decide) kf_X8_9 rfl rfl dX8_get_6 ?_
    refine g_alen C (by decide) dX8_get_9 ?_
    refine g_icmp_ge (tgt := 22) C dX8_get_10 (by decide) (fun h10 => ?_) (fun h10 => ?_)
    · have hm := ift hm h10
      refine g_iconst (v := -1) C dX8_get_22 rfl ?_
      obtain rfl := Option.some.inj hm
      exact g_iret C dX8_get_23
    · have hm := ife hm h10
      refine g_aload_n C 0 dX8_get_13 rfl rfl ?_
      refine g_getr (k := k0) (k' := k0) C (by decide) kf_X8_9 rfl rfl dX8_get_14 ?_
      refine g_iload_n C 1 dX8_get_17 rfl rfl ?_
      obtain ⟨hi18, hm⟩ := ifn hm
      refine g_iald C (by decide) hi18 dX8_get_18 ?_
      refine g_goto (tgt := 23) C dX8_get_19 (by decide) ?_
      obtain rfl := Option.some.inj hm
      exact g_iret C dX8_get_23
def f_X8_set (fu : Nat) (k0 : Nat) (l1 : Int32) (l2 : Int32) (M : Mem) : Option (Mem) :=
  if l1 < 0 then some M else if (nI (alen 20 k0)) ≤ l1 then some M else if inb l1 (alen 20 k0) then some (mI M 20 k0 l1.toNatClampNeg l2) else none
set_option maxHeartbeats 4000000 in
set_option maxRecDepth 100000 in
theorem k_X8_set (l : Launch) (G : GE) (hl : l.stackTraces = false) (hG : GOK G) (fu : Nat) (k0 : Nat) (l1 : Int32) (l2 : Int32) (M : Mem) (res : Mem) (hk0 : (8, k0) ∈ gids G) (hm : f_X8_set fu k0 l1 l2 M = some res) : CT l G yX8_set cX8_set 3 none 0 [vR 8 k0, vI l1, vI l2] M (.inl none) res := by
  refine ct_of [(0, vR 8 k0), (1, vI l1), (2, vI l2)] (by decide +kernel) hl hG (Nat.le_of_ble_eq_true rfl) rfl (List.forall_mem_cons.mpr ⟨Or.inl hk0, List.forall_mem_cons.mpr ⟨trivial, List.forall_mem_cons.mpr ⟨trivial, fun _ h => nomatch h⟩⟩⟩) (List.forall_mem_cons.mpr ⟨Or.inl hk0, List.forall_mem_cons.mpr ⟨trivial, List.forall_mem_cons.mpr ⟨trivial, fun _ h => nomatch h⟩⟩⟩) (fun X hX C => ?_)
  subst hX
  have Cl := C
  unfold f_X8_set at hm
  refine g_iload_n C 1 dX8_set_0 rfl rfl ?_
  refine g_if_lt (tgt := 20) C dX8_set_1 (by decide) (fun h1 => ?_) (fun h1 => ?_)
  · have hm := ift hm h1
    obtain rfl := Option.some.inj hm
    exact g_vret C dX8_set_20
  · have hm := ife hm h1
    refine g_iload_n C 1 dX8_set_4 rfl rfl ?_
    refine g_aload_n C 0 dX8_set_5 rfl rfl ?_
    refine g_getr (k := k0) (k' := k0) C (by decide) kf_X8_9 rfl rfl dX8_set_6 ?_
    refine g_alen C (by decide) dX8_set_9 ?_
    refine g_icmp_ge (tgt := 20) C dX8_set_10 (by decide) (fun h10 => ?_) (fun h10 => ?_)
    · have hm := ift hm h10
      obtain rfl := Option.some.inj hm
      exact g_vret C dX8_set_20
    · have hm := ife hm h10
      refine g_aload_n C 0 dX8_set_13 rfl rfl ?_
      refine g_getr (k := k0) (k' := k0) C (by decide) kf_X8_9 rfl rfl dX8_set_14 ?_
      refine g_iload_n C 1 dX8_set_17 rfl rfl ?_
      refine g_iload_n C 2 dX8_set_18 rfl rfl ?_
      obtain ⟨hi19, hm⟩ := ifn hm
      refine g_iast C (by decide) hi19 dX8_set_19 ?_
      obtain rfl := Option.some.inj hm
      exact g_vret C dX8_set_20
def f_X3_set (fu : Nat) (k0 : Nat) (l1 : Int32) (l2 : Int32) (l3 : Int32) (M : Mem) : Option (Mem) :=
  if l1 < 0 then some M else if (M.1 3 k0 0) ≤ l1 then some M else if l2 < 0 then some M else if l2 < (M.1 3 k0 1) then if ((l1 * (M.1 3 k0 1)) + l2) < 0 then some M else if (nI (alen 21 k0)) ≤ ((l1 * (M.1 3 k0 1)) + l2) then some M else if inb ((l1 * (M.1 3 k0 1)) + l2) (alen 21 k0) then some (mI M 21 k0 ((l1 * (M.1 3 k0 1)) + l2).toNatClampNeg l3) else none else some M
set_option maxHeartbeats 4000000 in
set_option maxRecDepth 100000 in
theorem k_X3_set (l : Launch) (G : GE) (hl : l.stackTraces = false) (hG : GOK G) (fu : Nat) (k0 : Nat) (l1 : Int32) (l2 : Int32) (l3 : Int32) (M : Mem) (res : Mem) (hk0 : (3, k0) ∈ gids G) (hm : f_X3_set fu k0 l1 l2 l3 M = some res) : CT l G yX3_set cX3_set 5 none 0 [vR 3 k0, vI l1, vI l2, vI l3] M (.inl none) res := by
  refine ct_of [(0, vR 3 k0), (1, vI l1), (2, vI l2), (3, vI l3)] (by decide +kernel) hl hG (Nat.le_of_ble_eq_true rfl) rfl (List.forall_mem_cons.mpr ⟨Or.inl hk0, List.forall_mem_cons.mpr ⟨trivial, List.forall_mem_cons.mpr ⟨trivial, List.forall_mem_cons.mpr ⟨trivial, fun _ h => nomatch h⟩⟩⟩⟩) (List.forall_mem_cons.mpr ⟨Or.inl hk0, List.forall_mem_cons.mpr ⟨trivial, List.forall_mem_cons.mpr ⟨trivial, List.forall_mem_cons.mpr ⟨trivial, fun _ h => nomatch h⟩⟩⟩⟩) (fun X hX C => ?_)
  subst hX
  have Cl := C
  unfold f_X3_set at hm
  refine g_iload_n C 1 dX3_set_0 rfl rfl ?_
  refine g_if_lt (tgt := 24) C dX3_set_1 (by decide) (fun h1 => ?_) (fun h1 => ?_)
  · have hm := ift hm h1
    obtain rfl := Option.some.inj hm
    exact g_vret C dX3_set_24
  · have hm := ife hm h1
    refine g_iload_n C 1 dX3_set_4 rfl rfl ?_
    refine g_aload_n C 0 dX3_set_5 rfl rfl ?_
    refine g_geti (k := k0) C (by decide) kf_X3_9 rfl dX3_set_6 ?_
    refine g_icmp_ge (tgt := 24) C dX3_set_9 (by decide) (fun h9 => ?_) (fun h9 => ?_)
    · have hm := ift hm h9
      obtain rfl := Option.some.inj hm
      exact g_vret C dX3_set_24
    · have hm := ife hm h9
      refine g_iload_n C 2 dX3_set_12 rfl rfl ?_
      refine g_if_lt (tgt := 24) C dX3_set_13 (by decide) (fun h13 => ?_) (fun h13 => ?_)
      · have hm := ift hm h13
        obtain rfl := Option.some.inj hm
        exact g_vret C dX3_set_24
      · have hm := ife hm h13
        refine g_iload_n C 2 dX3_set_16 rfl rfl ?_
        refine g_aload_n C 0 dX3_set_17 rfl rfl ?_
        refine g_geti (k := k0) C (by decide) kf_X3_15 rfl dX3_set_18 ?_
        refine g_icmp_lt (tgt := 25) C dX3_set_21 (by decide) (fun h21 => ?_) (fun h21 => ?_)
        · have hm := ift hm h21
          refine g_iload_n C 1 dX3_set_25 rfl rfl ?_
          refine g_aload_n C 0 dX3_set_26 rfl rfl ?_
          refine g_geti (k := k0) C (by decide) kf_X3_15 rfl dX3_set_27 ?_
          refine g_imul C dX3_set_30 ?_
          refine g_iload_n C 2 dX3_set_31 rfl rfl ?_
          refine g_iadd C dX3_set_32 ?_
          refine g_istore (ls' := [(4, vI ((l1 * (M.1 3 k0 1)) + l2)), (0, vR 3 k0), (1, vI l1), (2, vI l2), (3, vI l3)]) C dX3_set_33 (by decide) rfl ?_
          refine g_iload C 0 dX3_set_35 rfl ?_
          refine g_if_lt (tgt := 58) C dX3_set_37 (by decide) (fun h37 => ?_) (fun h37 => ?_)
          · have hm := ift hm h37
            obtain rfl := Option.some.inj hm
            exact g_vret C dX3_set_58
          · have hm := ife hm h37
            refine g_iload C 0 dX3_set_40 rfl ?_
            refine g_aload_n C 1 dX3_set_42 rfl rfl ?_
            refine g_getr (k := k0) (k' := k0) C (by decide) kf_X3_18 rfl rfl dX3_set_43 ?_
            refine g_alen C (by decide) dX3_set_46 ?_
            refine g_icmp_ge (tgt := 58) C dX3_set_47 (by decide) (fun h47 => ?_) (fun h47 => ?_)
            · have hm := ift hm h47
              obtain rfl := Option.some.inj hm
              exact g_vret C dX3_set_58
            · have hm := ife hm h47
              refine g_aload_n C 1 dX3_set_50 rfl rfl ?_
              refine g_getr (k := k0) (k' := k0) C (by decide) kf_X3_18 rfl rfl dX3_set_51 ?_
              refine g_iload C 0 dX3_set_54 rfl ?_
              refine g_iload_n C 4 dX3_set_56 rfl rfl ?_
              obtain ⟨hi57, hm⟩ := ifn hm
              refine g_iast C (by decide) hi57 dX3_set_57 ?_
              obtain rfl := Option.some.inj hm
              exact g_vret C dX3_set_58
        · have hm := ife hm h21
          obtain rfl := Option.some.inj hm
          exact g_vret C dX3_set_24
def f_X3_get (fu : Nat) (k0 : Nat) (l1 : Int32) (l2 : Int32) (M : Mem) : Option (Int32 × Mem) :=
  if l1 < 0 then some ((-1 : Int32), M) else if (M.1 3 k0 0) ≤ l1 then some ((-1 : Int32), M) else if l2 < 0 then some ((-1 : Int32), M) else if l2 < (M.1 3 k0 1) then if ((l1 * (M.1 3 k0 1)) + l2) < 0 then some ((-1 : Int32), M) else if (nI (alen 21 k0)) ≤ ((l1 * (M.1 3 k0 1)) + l2) then some ((-1 : Int32), M) else if inb ((l1 * (M.1 3 k0 1)) + l2) (alen 21 k0) then some (M.1 21 k0 ((l1 * (M.1 3 k0 1)) + l2).toNatClampNeg, M) else none else some ((-1 : Int32), M)
set_option maxHeartbeats 4000000 in
set_option maxRecDepth 100000 in
theorem k_X3_get (l : Launch) (G : GE) (hl : l.stackTraces = false) (hG : GOK G) (fu : Nat) (k0 : Nat) (l1 : Int32) (l2 : Int32) (M : Mem) (res : Int32 × Mem) (hk0 : (3, k0) ∈ gids G) (hm : f_X3_get fu k0 l1 l2 M = some res) : CT l G yX3_get cX3_get 4 (some .int) 0 [vR 3 k0, vI l1, vI l2] M (.inl (some (vI res.1))) res.2 := by
  refine ct_of [(0, vR 3 k0), (1, vI l1), (2, vI l2)] (by decide +kernel) hl hG (Nat.le_of_ble_eq_true rfl) rfl (List.forall_mem_cons.mpr ⟨Or.inl hk0, List.forall_mem_cons.mpr ⟨trivial, List.forall_mem_cons.mpr ⟨trivial, fun _ h => nomatch h⟩⟩⟩) (List.forall_mem_cons.mpr ⟨Or.inl hk0, List.forall_mem_cons.mpr ⟨trivial, List.forall_mem_cons.mpr ⟨trivial, fun _ h => nomatch h⟩⟩⟩) (fun X hX C => ?_)
  subst hX
  have Cl := C
  unfold f_X3_get at hm
  refine g_iload_n C 1 dX3_get_0 rfl rfl ?_
  refine g_if_lt (tgt := 24) C dX3_get_1 (by decide) (fun h1 => ?_) (fun h1 => ?_)
  · have hm := ift hm h1
    refine g_iconst (v := -1) C dX3_get_24 rfl ?_
    obtain rfl := Option.some.inj hm
    exact g_iret C dX3_get_25
  · have hm := ife hm h1
    refine g_iload_n C 1 dX3_get_4 rfl rfl ?_
    refine g_aload_n C 0 dX3_get_5 rfl rfl ?_
    refine g_geti (k := k0) C (by decide) kf_X3_9 rfl dX3_get_6 ?_
    refine g_icmp_ge (tgt := 24) C dX3_get_9 (by decide) (fun h9 => ?_) (fun h9 => ?_)
    · have hm := ift hm h9
      refine g_iconst (v := -1) C dX3_get_24 rfl ?_
      obtain rfl := Option.some.inj hm
      exact g_iret C dX3_get_25
    · have hm := ife hm h9
      refine g_iload_n C 2 dX3_get_12 rfl rfl ?_
      refine g_if_lt (tgt := 24) C dX3_get_13 (by decide) (fun h13 => ?_) (fun h13 => ?_)
      · have hm := ift hm h13
        refine g_iconst (v := -1) C dX3_get_24 rfl ?_
        obtain rfl := Option.some.inj hm
        exact g_iret C dX3_get_25
      · have hm := ife hm h13
        refine g_iload_n C 2 dX3_get_16 rfl rfl ?_
        refine g_aload_n C 0 dX3_get_17 rfl rfl ?_
        refine g_geti (k := k0) C (by decide) kf_X3_15 rfl dX3_get_18 ?_
        refine g_icmp_lt (tgt := 26) C dX3_get_21 (by decide) (fun h21 => ?_) (fun h21 => ?_)
        · have hm := ift hm h21
          refine g_iload_n C 1 dX3_get_26 rfl rfl ?_
          refine g_aload_n C 0 dX3_get_27 rfl rfl ?_
          refine g_geti (k := k0) C (by decide) kf_X3_15 rfl dX3_get_28 ?_
          refine g_imul C dX3_get_31 ?_
          refine g_iload_n C 2 dX3_get_32 rfl rfl ?_
          refine g_iadd C dX3_get_33 ?_
          refine g_istore_n (ls' := [(3, vI ((l1 * (M.1 3 k0 1)) + l2)), (0, vR 3 k0), (1, vI l1), (2, vI l2)]) C dX3_get_34 rfl (by decide) rfl ?_
          refine g_iload_n C 0 dX3_get_35 rfl rfl ?_
          refine g_if_lt (tgt := 57) C dX3_get_36 (by decide) (fun h36 => ?_) (fun h36 => ?_)
          · have hm := ift hm h36
            refine g_iconst (v := -1) C dX3_get_57 rfl ?_
            obtain rfl := Option.some.inj hm
            exact g_iret C dX3_get_58
          · have hm := ife hm h36
            refine g_iload_n C 0 dX3_get_39 rfl rfl ?_
            refine g_aload_n C 1 dX3_get_40 rfl rfl ?_
            refine g_getr (k := k0) (k' := k0) C (by decide) kf_X3_18 rfl rfl dX3_get_41 ?_
            refine g_alen C (by decide) dX3_get_44 ?_
            refine g_icmp_ge (tgt := 57) C dX3_get_45 (by decide) (fun h45 => ?_) (fun h45 => ?_)
            · have hm := ift hm h45
              refine g_iconst (v := -1) C dX3_get_57 rfl ?_
              obtain rfl := Option.some.inj hm
              exact g_iret C dX3_get_58
            · have hm := ife hm h45
              refine g_aload_n C 1 dX3_get_48 rfl rfl ?_
              refine g_getr (k := k0) (k' := k0) C (by decide) kf_X3_18 rfl rfl dX3_get_49 ?_
              refine g_iload_n C 0 dX3_get_52 rfl rfl ?_
              obtain ⟨hi53, hm⟩ := ifn hm
              refine g_iald C (by decide) hi53 dX3_get_53 ?_
              refine g_goto (tgt := 58) C dX3_get_54 (by decide) ?_
              obtain rfl := Option.some.inj hm
              exact g_iret C dX3_get_58
        · have hm := ife hm h21
          refine g_iconst (v := -1) C dX3_get_24 rfl ?_
          obtain rfl := Option.some.inj hm
          exact g_iret C dX3_get_25
def f_X0_renumber_b26 (fu : Nat) (k0 : Nat) (l2 : Int32) (l3 : Int32) (l4 : Int32) (M : Mem) : Option ((Int32 × Int32 × Mem) ⊕ (Int32 × Mem)) :=
  (f_X8_get fu (3 * k0 + 7) l2 M).bind (fun r33 => if r33.1 ≤ l4 then some (Sum.inr (l3, r33.2)) else (f_X3_get fu k0 l2 l4 r33.2).bind (fun r51 => (f_X3_get fu 3 l3 r51.1 r51.2).bind (fun r54 => some (Sum.inl (r54.1, l4 + (1 : Int32), r54.2)))))
def f_X0_renumber_h26 (fu : Nat) (k0 : Nat)  (l2 : Int32) (l3 : Int32) (l4 : Int32) (M : Mem) : Option ((Int32 × Mem) ⊕ (Mem)) :=
  (lp_run (fun s => f_X0_renumber_b26 fu k0 l2 s.1 s.2.1 s.2.2) fu (l3, l4, M)).bind (fun r26 => match r26 with
    | (l3, M) => (f_X8_set fu (3 * k0 + 8) l2 l3 M).bind (fun r70 => some (Sum.inl (l2 + (1 : Int32), r70))))
def f_X0_renumber_b2 (fu : Nat) (k0 : Nat)  (l2 : Int32) (M : Mem) : Option ((Int32 × Mem) ⊕ (Mem)) :=
  if ((2 : Int32) * (M.1 0 k0 0)) ≤ l2 then some (Sum.inr M) else (f_X8_get fu (3 * k0 + 6) (l2 / (2 : Int32)) M).bind (fun r19 => f_X0_renumber_h26 fu k0 l2 r19.1 (0 : Int32) r19.2)
def f_X0_renumber_h2 (fu : Nat) (k0 : Nat)  (l2 : Int32) (M : Mem) : Option (Mem) :=
  (lp_run (fun s => f_X0_renumber_b2 fu k0  s.1 s.2) fu (l2, M)).bind (fun M => some M)
def f_X0_renumber (fu : Nat) (k0 : Nat) (M : Mem) : Option (Mem) :=
  f_X0_renumber_h2 fu k0 (0 : Int32) M
set_option maxHeartbeats 4000000 in
set_option maxRecDepth 100000 in
theorem k_X0_renumber (l : Launch) (G : GE) (hl : l.stackTraces = false) (hG : GOK G) (fu : Nat) (k0 : Nat) (M : Mem) (res : Mem) (hk0 : (0, k0) ∈ gids G) (hk1 : (6, 0) ∈ gids G) (hm : f_X0_renumber fu k0 M = some res) : CT l G yX0_renumber cX0_renumber 5 none 1 [vR 0 k0, vR 6 0] M (.inl none) res := by
  refine ct_of [(0, vR 0 k0), (1, vR 6 0)] (by decide +kernel) hl hG (Nat.le_of_ble_eq_true rfl) rfl (List.forall_mem_cons.mpr ⟨Or.inl hk0, List.forall_mem_cons.mpr ⟨Or.inl hk1, fun _ h => nomatch h⟩⟩) (List.forall_mem_cons.mpr ⟨Or.inl hk0, List.forall_mem_cons.mpr ⟨Or.inl hk1, fun _ h => nomatch h⟩⟩) (fun X hX C => ?_)
  subst hX
  have Cl := C
  have J2 : ∀ (l2 : Int32) (M : Mem), f_X0_renumber_h2 fu k0  l2 M = some res → GW G X 5 (QX G X (.inl none) res) 2 [(0, vR 0 k0), (1, vR 6 0), (2, vI l2)] [] M := by
    intro l2 M hm
    unfold f_X0_renumber_h2 at hm
    obtain ⟨r2, hL2, hk2⟩ := bnd_some hm
    have hx2 : ∀ (M : Mem), M = r2 → GW G X 5 (QX G X (.inl none) res) 79 [] [] M := by
      intro M he
      subst he
      have hm := hk2
      try dsimp only at hm
      obtain rfl := Option.some.inj hm
      exact g_vret C dX0_renumber_79
    refine lp_ind1 (P := (fun l2 M => GW G X 5 (QX G X (.inl none) res) 2 [(0, vR 0 k0), (1, vR 6 0), (2, vI l2)] [] M)) (r := r2) ?_ fu l2 M hL2
    intro l2 M o2 hm K2
    have J26 : ∀ (l2 : Int32) (l3 : Int32) (l4 : Int32) (M : Mem), f_X0_renumber_h26 fu k0  l2 l3 l4 M = some o2 → GW G X 5 (QX G X (.inl none) res) 26 [(0, vR 0 k0), (1, vR 6 0), (2, vI l2), (3, vI l3), (4, vI l4)] [] M := by
      intro l2 l3 l4 M hm
      unfold f_X0_renumber_h26 at hm
      obtain ⟨r26, hL26, hk26⟩ := bnd_some hm
      have hx26 : ∀ (l3 : Int32) (M : Mem), (l3, M) = r26 → GW G X 5 (QX G X (.inl none) res) 64 [(0, vR 0 k0), (1, vR 6 0), (2, vI l2), (3, vI l3)] [] M := by
        intro l3 M he
        subst he
        have hm := hk26
        try dsimp only at hm
        refine g_aload_n C 0 dX0_renumber_64 rfl rfl ?_
        refine g_getr (k := k0) (k' := (3 * k0 + 8)) C (by decide) kf_X0_36 rfl rfl dX0_renumber_65 ?_
        refine g_iload_n C 2 dX0_renumber_68 rfl rfl ?_
        refine g_iload_n C 3 dX0_renumber_69 rfl rfl ?_
        obtain ⟨r70, hr70, hm⟩ := bnd_some hm
        refine g_callVv (As := [vI l2, vI l3]) (rest := []) C lk_X0_46 (k_X8_set X.2.1 G hl hG fu (3 * k0 + 8) l2 l3 M r70 ((hG _ hk0).2 4 8 8 3 rfl) hr70) (by decide) rfl rfl rfl (Nat.le_of_ble_eq_true rfl) ⟨Nat.le_of_ble_eq_true rfl, Nat.le_of_ble_eq_true rfl⟩ dX0_renumber_70 ?_
        refine g_iinc (ls' := [(2, vI (l2 + (1 : Int32))), (0, vR 0 k0), (1, vR 6 0), (3, vI l3)]) (v := l2 + (1 : Int32)) C 2 dX0_renumber_73 rfl (iv_p1 _) (by decide) rfl ?_
        refine g_goto (tgt := 2) C dX0_renumber_76 (by decide) ?_
        obtain rfl := Option.some.inj hm
        exact g_sub [1, 2, 0] rfl (g_pc rfl (K2.1 (l2 + (1 : Int32)) r70 rfl))
      refine lp_ind2 (P := (fun l3 l4 M => GW G X 5 (QX G X (.inl none) res) 26 [(0, vR 0 k0), (1, vR 6 0), (2, vI l2), (3, vI l3), (4, vI l4)] [] M)) (r := r26) ?_ fu l3 l4 M hL26
      intro l3 l4 M o26 hm K26
      unfold f_X0_renumber_b26 at hm
      refine g_iload C 4 dX0_renumber_26 rfl ?_
      refine g_aload_n C 0 dX0_renumber_28 rfl rfl ?_
      refine g_getr (k := k0) (k' := (3 * k0 + 7)) C (by decide) kf_X0_24 rfl rfl dX0_renumber_29 ?_
      refine g_iload_n C 2 dX0_renumber_32 rfl rfl ?_
      obtain ⟨r33, hr33, hm⟩ := bnd_some hm
      refine g_callVi (As := [vI l2]) (rest := [vI l4]) C lk_X0_49 (k_X8_get X.2.1 G hl hG fu (3 * k0 + 7) l2 M r33 ((hG _ hk0).2 2 8 7 3 rfl) hr33) (by decide) rfl rfl rfl (Nat.le_of_ble_eq_true rfl) ⟨Nat.le_of_ble_eq_true rfl, Nat.le_of_ble_eq_true rfl⟩ dX0_renumber_33 ?_
      refine g_icmp_ge (tgt := 64) C dX0_renumber_36 (by decide) (fun h36 => ?_) (fun h36 => ?_)
      · have hm := ift hm h36
        obtain rfl := Option.some.inj hm
        exact g_sub [0, 1, 2, 3] rfl (g_pc rfl (hx26 l3 r33.2 (K26.2 _ rfl)))
      · have hm := ife hm h36
        refine g_aload_n C 1 dX0_renumber_39 rfl rfl ?_
        refine g_getrN (k := 0) (k' := 3) C (by decide) kf_X0_63 rfl rfl dX0_renumber_40 ?_
        refine g_iload_n C 3 dX0_renumber_43 rfl rfl ?_
        refine g_aload_n C 0 dX0_renumber_44 rfl rfl ?_
        refine g_getr (k := k0) (k' := k0) C (by decide) kf_X0_32 rfl rfl dX0_renumber_45 ?_
        refine g_iload_n C 2 dX0_renumber_48 rfl rfl ?_
        refine g_iload C 4 dX0_renumber_49 rfl ?_
        obtain ⟨r51, hr51, hm⟩ := bnd_some hm
        refine g_callVi (As := [vI l2, vI l4]) (rest := [vI l3, vR 3 3]) C lk_X0_68 (k_X3_get X.2.1 G hl hG fu k0 l2 l4 r33.2 r51 ((hG _ hk0).2 3 3 0 1 rfl) hr51) (by decide) rfl rfl rfl (Nat.le_of_ble_eq_true rfl) ⟨Nat.le_of_ble_eq_true rfl, Nat.le_of_ble_eq_true rfl⟩ dX0_renumber_51 ?_
        obtain ⟨r54, hr54, hm⟩ := bnd_some hm
        refine g_callVi (As := [vI l3, vI r51.1]) (rest := []) C lk_X0_68 (k_X3_get X.2.1 G hl hG fu 3 l3 r51.1 r51.2 r54 ((hG _ hk1).2 6 3 3 0 rfl) hr54) (by decide) rfl rfl rfl (Nat.le_of_ble_eq_true rfl) ⟨Nat.le_of_ble_eq_true rfl, Nat.le_of_ble_eq_true rfl⟩ dX0_renumber_54 ?_
        refine g_istore_n (ls' := [(3, vI r54.1), (0, vR 0 k0), (1, vR 6 0), (2, vI l2), (4, vI l4)]) C dX0_renumber_57 rfl (by decide) rfl ?_
        refine g_iinc (ls' := [(4, vI (l4 + (1 : Int32))), (3, vI r54.1), (0, vR 0 k0), (1, vR 6 0), (2, vI l2)]) (v := l4 + (1 : Int32)) C 4 dX0_renumber_58 rfl (iv_p1 _) (by decide) rfl ?_
        refine g_goto (tgt := 26) C dX0_renumber_61 (by decide) ?_
        obtain rfl := Option.some.inj hm
        exact g_sub [2, 3, 4, 1, 0] rfl (g_pc rfl (K26.1 r54.1 (l4 + (1 : Int32)) r54.2 rfl))
    unfold f_X0_renumber_b2 at hm
    refine g_iload_n C 2 dX0_renumber_2 rfl rfl ?_
    refine g_iconst (v := 2) C dX0_renumber_3 rfl ?_
    refine g_aload_n C 0 dX0_renumber_4 rfl rfl ?_
    refine g_geti (k := k0) C (by decide) kf_X0_9 rfl dX0_renumber_5 ?_
    refine g_imul C dX0_renumber_8 ?_
    refine g_icmp_ge (tgt := 79) C dX0_renumber_9 (by decide) (fun h9 => ?_) (fun h9 => ?_)
    · have hm := ift hm h9
      obtain rfl := Option.some.inj hm
      exact g_sub [] rfl (g_pc rfl (hx2 M (K2.2 _ rfl)))
    · have hm := ife hm h9
      refine g_aload_n C 0 dX0_renumber_12 rfl rfl ?_
      refine g_getr (k := k0) (k' := (3 * k0 + 6)) C (by decide) kf_X0_20 rfl rfl dX0_renumber_13 ?_
      refine g_iload_n C 2 dX0_renumber_16 rfl rfl ?_
      refine g_iconst (v := 2) C dX0_renumber_17 rfl ?_
      refine g_idiv C dX0_renumber_18 (by decide) ?_
      obtain ⟨r19, hr19, hm⟩ := bnd_some hm
      refine g_callVi (As := [vI (l2 / (2 : Int32))]) (rest := []) C lk_X0_49 (k_X8_get X.2.1 G hl hG fu (3 * k0 + 6) (l2 / (2 : Int32)) M r19 ((hG _ hk0).2 1 8 6 3 rfl) hr19) (by decide) rfl rfl rfl (Nat.le_of_ble_eq_true rfl) ⟨Nat.le_of_ble_eq_true rfl, Nat.le_of_ble_eq_true rfl⟩ dX0_renumber_19 ?_
      refine g_istore_n (ls' := [(3, vI r19.1), (0, vR 0 k0), (1, vR 6 0), (2, vI l2)]) C dX0_renumber_22 rfl (by decide) rfl ?_
      refine g_iconst (v := 0) C dX0_renumber_23 rfl ?_
      refine g_istore (ls' := [(4, vI (0 : Int32)), (3, vI r19.1), (0, vR 0 k0), (1, vR 6 0), (2, vI l2)]) C dX0_renumber_24 (by decide) rfl ?_
      exact g_sub [2, 3, 4, 1, 0] rfl (g_pc rfl (J26 l2 r19.1 (0 : Int32) r19.2 hm))
  unfold f_X0_renumber at hm
  refine g_iconst (v := 0) C dX0_renumber_0 rfl ?_
  refine g_istore_n (ls' := [(2, vI (0 : Int32)), (0, vR 0 k0), (1, vR 6 0)]) C dX0_renumber_1 rfl (by decide) rfl ?_
  exact g_sub [1, 2, 0] rfl (g_pc rfl (J2 (0 : Int32) M hm))
def f_X8_fill_b2 (fu : Nat) (k0 : Nat) (l1 : Int32) (l2 : Int32) (M : Mem) : Option ((Int32 × Mem) ⊕ (Mem)) :=
  if (nI (alen 20 k0)) ≤ l2 then some (Sum.inr M) else if inb l2 (alen 20 k0) then some (Sum.inl (l2 + (1 : Int32), (mI M 20 k0 l2.toNatClampNeg l1))) else none
def f_X8_fill_h2 (fu : Nat) (k0 : Nat)  (l1 : Int32) (l2 : Int32) (M : Mem) : Option (Mem) :=
  (lp_run (fun s => f_X8_fill_b2 fu k0 l1 s.1 s.2) fu (l2, M)).bind (fun M => some M)
def f_X8_fill (fu : Nat) (k0 : Nat) (l1 : Int32) (M : Mem) : Option (Mem) :=
  f_X8_fill_h2 fu k0 l1 (0 : Int32) M
set_option maxHeartbeats 4000000 in
set_option maxRecDepth 100000 in
theorem k_X8_fill (l : Launch) (G : GE) (hl : l.stackTraces = false) (hG : GOK G) (fu : Nat) (k0 : Nat) (l1 : Int32) (M : Mem) (res : Mem) (hk0 : (8, k0) ∈ gids G) (hm : f_X8_fill fu k0 l1 M = some res) : CT l G yX8_fill cX8_fill 3 none 0 [vR 8 k0, vI l1] M (.inl none) res := by
  refine ct_of [(0, vR 8 k0), (1, vI l1)] (by decide +kernel) hl hG (Nat.le_of_ble_eq_true rfl) rfl (List.forall_mem_cons.mpr ⟨Or.inl hk0, List.forall_mem_cons.mpr ⟨trivial, fun _ h => nomatch h⟩⟩) (List.forall_mem_cons.mpr ⟨Or.inl hk0, List.forall_mem_cons.mpr ⟨trivial, fun _ h => nomatch h⟩⟩) (fun X hX C => ?_)
  subst hX
  have Cl := C
  have J2 : ∀ (l1 : Int32) (l2 : Int32) (M : Mem), f_X8_fill_h2 fu k0  l1 l2 M = some res → GW G X 3 (QX G X (.inl none) res) 2 [(0, vR 8 k0), (1, vI l1), (2, vI l2)] [] M := by
    intro l1 l2 M hm
    unfold f_X8_fill_h2 at hm
    obtain ⟨r2, hL2, hk2⟩ := bnd_some hm
    have hx2 : ∀ (M : Mem), M = r2 → GW G X 3 (QX G X (.inl none) res) 24 [] [] M := by
      intro M he
      subst he
      have hm := hk2
      try dsimp only at hm
      obtain rfl := Option.some.inj hm
      exact g_vret C dX8_fill_24
    refine lp_ind1 (P := (fun l2 M => GW G X 3 (QX G X (.inl none) res) 2 [(0, vR 8 k0), (1, vI l1), (2, vI l2)] [] M)) (r := r2) ?_ fu l2 M hL2
    intro l2 M o2 hm K2
    unfold f_X8_fill_b2 at hm
    refine g_iload_n C 2 dX8_fill_2 rfl rfl ?_
    refine g_aload_n C 0 dX8_fill_3 rfl rfl ?_
    refine g_getr (k := k0) (k' := k0) C (by decide) kf_X8_9 rfl rfl dX8_fill_4 ?_
    refine g_alen C (by decide) dX8_fill_7 ?_
    refine g_icmp_ge (tgt := 24) C dX8_fill_8 (by decide) (fun h8 => ?_) (fun h8 => ?_)
    · have hm := ift hm h8
      obtain rfl := Option.some.inj hm
      exact g_sub [] rfl (g_pc rfl (hx2 M (K2.2 _ rfl)))
    · have hm := ife hm h8
      refine g_aload_n C 0 dX8_fill_11 rfl rfl ?_
      refine g_getr (k := k0) (k' := k0) C (by decide) kf_X8_9 rfl rfl dX8_fill_12 ?_
      refine g_iload_n C 2 dX8_fill_15 rfl rfl ?_
      refine g_iload_n C 1 dX8_fill_16 rfl rfl ?_
      obtain ⟨hi17, hm⟩ := ifn hm
      refine g_iast C (by decide) hi17 dX8_fill_17 ?_
      refine g_iinc (ls' := [(2, vI (l2 + (1 : Int32))), (0, vR 8 k0), (1, vI l1)]) (v := l2 + (1 : Int32)) C 2 dX8_fill_18 rfl (iv_p1 _) (by decide) rfl ?_
      refine g_goto (tgt := 2) C dX8_fill_21 (by decide) ?_
      obtain rfl := Option.some.inj hm
      exact g_sub [1, 2, 0] rfl (g_pc rfl (K2.1 (l2 + (1 : Int32)) (mI M 20 k0 l2.toNatClampNeg l1) rfl))
  unfold f_X8_fill at hm
  refine g_iconst (v := 0) C dX8_fill_0 rfl ?_
  refine g_istore_n (ls' := [(2, vI (0 : Int32)), (0, vR 8 k0), (1, vI l1)]) C dX8_fill_1 rfl (by decide) rfl ?_
  exact g_sub [1, 2, 0] rfl (g_pc rfl (J2 l1 (0 : Int32) M hm))
def f_X1_clear (fu : Nat) (k0 : Nat) (M : Mem) : Option (Mem) :=
  (f_X8_fill fu (2 * k0 + 12) (2 : Int32) M).bind (fun r5 => some r5)
set_option maxHeartbeats 4000000 in
set_option maxRecDepth 100000 in
theorem k_X1_clear (l : Launch) (G : GE) (hl : l.stackTraces = false) (hG : GOK G) (fu : Nat) (k0 : Nat) (M : Mem) (res : Mem) (hk0 : (1, k0) ∈ gids G) (hm : f_X1_clear fu k0 M = some res) : CT l G yX1_clear cX1_clear 1 none 1 [vR 1 k0] M (.inl none) res := by
  refine ct_of [(0, vR 1 k0)] (by decide +kernel) hl hG (Nat.le_of_ble_eq_true rfl) rfl (List.forall_mem_cons.mpr ⟨Or.inl hk0, fun _ h => nomatch h⟩) (List.forall_mem_cons.mpr ⟨Or.inl hk0, fun _ h => nomatch h⟩) (fun X hX C => ?_)
  subst hX
  have Cl := C
  unfold f_X1_clear at hm
  refine g_aload_n C 0 dX1_clear_0 rfl rfl ?_
  refine g_getr (k := k0) (k' := (2 * k0 + 12)) C (by decide) kf_X1_14 rfl rfl dX1_clear_1 ?_
  refine g_iconst (v := 2) C dX1_clear_4 rfl ?_
  obtain ⟨r5, hr5, hm⟩ := bnd_some hm
  refine g_callVv (As := [vI (2 : Int32)]) (rest := []) C lk_X1_23 (k_X8_fill X.2.1 G hl hG fu (2 * k0 + 12) (2 : Int32) M r5 ((hG _ hk0).2 0 8 12 2 rfl) hr5) (by decide) rfl rfl rfl (Nat.le_of_ble_eq_true rfl) ⟨Nat.le_of_ble_eq_true rfl, Nat.le_of_ble_eq_true rfl⟩ dX1_clear_5 ?_
  obtain rfl := Option.some.inj hm
  exact g_vret C dX1_clear_8
def f_X2_clear (fu : Nat) (k0 : Nat) (l1 : Int32) (M : Mem) : Option (Mem) :=
  some (mI (mI M 2 k0 0 l1) 2 k0 1 (0 : Int32))
set_option maxHeartbeats 4000000 in
set_option maxRecDepth 100000 in
theorem k_X2_clear (l : Launch) (G : GE) (hl : l.stackTraces = false) (hG : GOK G) (fu : Nat) (k0 : Nat) (l1 : Int32) (M : Mem) (res : Mem) (hk0 : (2, k0) ∈ gids G) (hm : f_X2_clear fu k0 l1 M = some res) : CT l G yX2_clear cX2_clear 2 none 0 [vR 2 k0, vI l1] M (.inl none) res := by
  refine ct_of [(0, vR 2 k0), (1, vI l1)] (by decide +kernel) hl hG (Nat.le_of_ble_eq_true rfl) rfl (List.forall_mem_cons.mpr ⟨Or.inl hk0, List.forall_mem_cons.mpr ⟨trivial, fun _ h => nomatch h⟩⟩) (List.forall_mem_cons.mpr ⟨Or.inl hk0, List.forall_mem_cons.mpr ⟨trivial, fun _ h => nomatch h⟩⟩) (fun X hX C => ?_)
  subst hX
  have Cl := C
  unfold f_X2_clear at hm
  refine g_aload_n C 0 dX2_clear_0 rfl rfl ?_
  refine g_iload_n C 1 dX2_clear_1 rfl rfl ?_
  refine g_puti C (by decide) kf_X2_9 rfl rfl rfl dX2_clear_2 ?_
  refine g_aload_n C 0 dX2_clear_5 rfl rfl ?_
  refine g_iconst (v := 0) C dX2_clear_6 rfl ?_
  refine g_puti C (by decide) kf_X2_15 rfl rfl rfl dX2_clear_7 ?_
  obtain rfl := Option.some.inj hm
  exact g_vret C dX2_clear_10
def f_X2_objectTotal (fu : Nat) (k0 : Nat) (M : Mem) : Option (Int32 × Mem) :=
  some (M.1 2 k0 0, M)
set_option maxHeartbeats 4000000 in
set_option maxRecDepth 100000 in
theorem k_X2_objectTotal (l : Launch) (G : GE) (hl : l.stackTraces = false) (hG : GOK G) (fu : Nat) (k0 : Nat) (M : Mem) (res : Int32 × Mem) (hk0 : (2, k0) ∈ gids G) (hm : f_X2_objectTotal fu k0 M = some res) : CT l G yX2_objectTotal cX2_objectTotal 1 (some .int) 0 [vR 2 k0] M (.inl (some (vI res.1))) res.2 := by
  refine ct_of [(0, vR 2 k0)] (by decide +kernel) hl hG (Nat.le_of_ble_eq_true rfl) rfl (List.forall_mem_cons.mpr ⟨Or.inl hk0, fun _ h => nomatch h⟩) (List.forall_mem_cons.mpr ⟨Or.inl hk0, fun _ h => nomatch h⟩) (fun X hX C => ?_)
  subst hX
  have Cl := C
  unfold f_X2_objectTotal at hm
  refine g_aload_n C 0 dX2_objectTotal_0 rfl rfl ?_
  refine g_geti (k := k0) C (by decide) kf_X2_9 rfl dX2_objectTotal_1 ?_
  obtain rfl := Option.some.inj hm
  exact g_iret C dX2_objectTotal_4
def f_X2_arrowTotal (fu : Nat) (k0 : Nat) (M : Mem) : Option (Int32 × Mem) :=
  some (M.1 2 k0 1, M)
set_option maxHeartbeats 4000000 in
set_option maxRecDepth 100000 in
theorem k_X2_arrowTotal (l : Launch) (G : GE) (hl : l.stackTraces = false) (hG : GOK G) (fu : Nat) (k0 : Nat) (M : Mem) (res : Int32 × Mem) (hk0 : (2, k0) ∈ gids G) (hm : f_X2_arrowTotal fu k0 M = some res) : CT l G yX2_arrowTotal cX2_arrowTotal 1 (some .int) 0 [vR 2 k0] M (.inl (some (vI res.1))) res.2 := by
  refine ct_of [(0, vR 2 k0)] (by decide +kernel) hl hG (Nat.le_of_ble_eq_true rfl) rfl (List.forall_mem_cons.mpr ⟨Or.inl hk0, fun _ h => nomatch h⟩) (List.forall_mem_cons.mpr ⟨Or.inl hk0, fun _ h => nomatch h⟩) (fun X hX C => ?_)
  subst hX
  have Cl := C
  unfold f_X2_arrowTotal at hm
  refine g_aload_n C 0 dX2_arrowTotal_0 rfl rfl ?_
  refine g_geti (k := k0) C (by decide) kf_X2_15 rfl dX2_arrowTotal_1 ?_
  obtain rfl := Option.some.inj hm
  exact g_iret C dX2_arrowTotal_4
def f_X2_hasArrow (fu : Nat) (k0 : Nat) (l1 : Int32) (M : Mem) : Option (Int32 × Mem) :=
  if l1 < 0 then some ((0 : Int32), M) else if (M.1 2 k0 1) ≤ l1 then some ((0 : Int32), M) else some ((1 : Int32), M)
set_option maxHeartbeats 4000000 in
set_option maxRecDepth 100000 in
theorem k_X2_hasArrow (l : Launch) (G : GE) (hl : l.stackTraces = false) (hG : GOK G) (fu : Nat) (k0 : Nat) (l1 : Int32) (M : Mem) (res : Int32 × Mem) (hk0 : (2, k0) ∈ gids G) (hm : f_X2_hasArrow fu k0 l1 M = some res) : CT l G yX2_hasArrow cX2_hasArrow 2 (some .boolean) 0 [vR 2 k0, vI l1] M (.inl (some (vI res.1))) res.2 := by
  refine ct_of [(0, vR 2 k0), (1, vI l1)] (by decide +kernel) hl hG (Nat.le_of_ble_eq_true rfl) rfl (List.forall_mem_cons.mpr ⟨Or.inl hk0, List.forall_mem_cons.mpr ⟨trivial, fun _ h => nomatch h⟩⟩) (List.forall_mem_cons.mpr ⟨Or.inl hk0, List.forall_mem_cons.mpr ⟨trivial, fun _ h => nomatch h⟩⟩) (fun X hX C => ?_)
  subst hX
  have Cl := C
  unfold f_X2_hasArrow at hm
  refine g_iload_n C 1 dX2_hasArrow_0 rfl rfl ?_
  refine g_if_lt (tgt := 16) C dX2_hasArrow_1 (by decide) (fun h1 => ?_) (fun h1 => ?_)
  · have hm := ift hm h1
    refine g_iconst (v := 0) C dX2_hasArrow_16 rfl ?_
    obtain rfl := Option.some.inj hm
    exact g_zret C (Or.inl rfl) dX2_hasArrow_17
  · have hm := ife hm h1
    refine g_iload_n C 1 dX2_hasArrow_4 rfl rfl ?_
    refine g_aload_n C 0 dX2_hasArrow_5 rfl rfl ?_
    refine g_geti (k := k0) C (by decide) kf_X2_15 rfl dX2_hasArrow_6 ?_
    refine g_icmp_ge (tgt := 16) C dX2_hasArrow_9 (by decide) (fun h9 => ?_) (fun h9 => ?_)
    · have hm := ift hm h9
      refine g_iconst (v := 0) C dX2_hasArrow_16 rfl ?_
      obtain rfl := Option.some.inj hm
      exact g_zret C (Or.inl rfl) dX2_hasArrow_17
    · have hm := ife hm h9
      refine g_iconst (v := 1) C dX2_hasArrow_12 rfl ?_
      refine g_goto (tgt := 17) C dX2_hasArrow_13 (by decide) ?_
      obtain rfl := Option.some.inj hm
      exact g_zret C (Or.inr rfl) dX2_hasArrow_17
def f_X2_from (fu : Nat) (k0 : Nat) (l1 : Int32) (M : Mem) : Option (Int32 × Mem) :=
  (f_X2_hasArrow fu k0 l1 M).bind (fun r2 => if r2.1 = 0 then some ((-1 : Int32), r2.2) else (f_X8_get fu (3 * k0 + 0) l1 r2.2).bind (fun r13 => some (r13.1, r13.2)))
set_option maxHeartbeats 4000000 in
set_option maxRecDepth 100000 in
theorem k_X2_from (l : Launch) (G : GE) (hl : l.stackTraces = false) (hG : GOK G) (fu : Nat) (k0 : Nat) (l1 : Int32) (M : Mem) (res : Int32 × Mem) (hk0 : (2, k0) ∈ gids G) (hm : f_X2_from fu k0 l1 M = some res) : CT l G yX2_from cX2_from 2 (some .int) 1 [vR 2 k0, vI l1] M (.inl (some (vI res.1))) res.2 := by
  refine ct_of [(0, vR 2 k0), (1, vI l1)] (by decide +kernel) hl hG (Nat.le_of_ble_eq_true rfl) rfl (List.forall_mem_cons.mpr ⟨Or.inl hk0, List.forall_mem_cons.mpr ⟨trivial, fun _ h => nomatch h⟩⟩) (List.forall_mem_cons.mpr ⟨Or.inl hk0, List.forall_mem_cons.mpr ⟨trivial, fun _ h => nomatch h⟩⟩) (fun X hX C => ?_)
  subst hX
  have Cl := C
  unfold f_X2_from at hm
  refine g_aload_n C 0 dX2_from_0 rfl rfl ?_
  refine g_iload_n C 1 dX2_from_1 rfl rfl ?_
  obtain ⟨r2, hr2, hm⟩ := bnd_some hm
  refine g_callVi (As := [vI l1]) (rest := []) C lk_X2_37 (k_X2_hasArrow X.2.1 G hl hG fu k0 l1 M r2 hk0 hr2) (by decide) rfl rfl rfl (Nat.le_of_ble_eq_true rfl) ⟨Nat.le_of_ble_eq_true rfl, Nat.le_of_ble_eq_true rfl⟩ dX2_from_2 ?_
  refine g_if_eq (tgt := 19) C dX2_from_5 (by decide) (fun h5 => ?_) (fun h5 => ?_)
  · have hm := ift hm h5
    refine g_iconst (v := -1) C dX2_from_19 rfl ?_
    obtain rfl := Option.some.inj hm
    exact g_iret C dX2_from_20
  · have hm := ife hm h5
    refine g_aload_n C 0 dX2_from_8 rfl rfl ?_
    refine g_getr (k := k0) (k' := (3 * k0 + 0)) C (by decide) kf_X2_23 rfl rfl dX2_from_9 ?_
    refine g_iload_n C 1 dX2_from_12 rfl rfl ?_
    obtain ⟨r13, hr13, hm⟩ := bnd_some hm
    refine g_callVi (As := [vI l1]) (rest := []) C lk_X2_41 (k_X8_get X.2.1 G hl hG fu (3 * k0 + 0) l1 r2.2 r13 ((hG _ hk0).2 2 8 0 3 rfl) hr13) (by decide) rfl rfl rfl (Nat.le_of_ble_eq_true rfl) ⟨Nat.le_of_ble_eq_true rfl, Nat.le_of_ble_eq_true rfl⟩ dX2_from_13 ?_
    refine g_goto (tgt := 20) C dX2_from_16 (by decide) ?_
    obtain rfl := Option.some.inj hm
    exact g_iret C dX2_from_20
/-! models and contracts, by program (wip/whole/emit.py): X2_to, X2_join, X2_dropLast, X2_countFrom, X2_pathTotal, X2_pathsThrough, X3_fill, X4_length, X4_codeAt, X4_arrowAt, X4_put, X4_clear, X5_forget, X6_total, X6_last, X5_stepFrom, X5_reach, X5_spread, X5_nameReached, X5_countClass, X5_findClasses, X5_refresh, X5_isEqualBy, X5_refreshCore, X5_className, X5_classSize, X5_classTotal, X5_classesBetween, X5_coreSize, X5_isInCore, X5_isRedundant, X5_stepsFrom, X5_nextInProof, X5_cellOfStep -/
def f_X2_to (fu : Nat) (k0 : Nat) (l1 : Int32) (M : Mem) : Option (Int32 × Mem) :=
  (f_X2_hasArrow fu k0 l1 M).bind (fun r2 => if r2.1 = 0 then some ((-1 : Int32), r2.2) else (f_X8_get fu (3 * k0 + 1) l1 r2.2).bind (fun r13 => some (r13.1, r13.2)))
set_option maxHeartbeats 4000000 in
set_option maxRecDepth 100000 in
theorem k_X2_to (l : Launch) (G : GE) (hl : l.stackTraces = false) (hG : GOK G) (fu : Nat) (k0 : Nat) (l1 : Int32) (M : Mem) (res : Int32 × Mem) (hk0 : (2, k0) ∈ gids G) (hm : f_X2_to fu k0 l1 M = some res) : CT l G yX2_to cX2_to 2 (some .int) 1 [vR 2 k0, vI l1] M (.inl (some (vI res.1))) res.2 := by
  refine ct_of [(0, vR 2 k0), (1, vI l1)] (by decide +kernel) hl hG (Nat.le_of_ble_eq_true rfl) rfl (List.forall_mem_cons.mpr ⟨Or.inl hk0, List.forall_mem_cons.mpr ⟨trivial, fun _ h => nomatch h⟩⟩) (List.forall_mem_cons.mpr ⟨Or.inl hk0, List.forall_mem_cons.mpr ⟨trivial, fun _ h => nomatch h⟩⟩) (fun X hX C => ?_)
  subst hX
  have Cl := C
  unfold f_X2_to at hm
  refine g_aload_n C 0 dX2_to_0 rfl rfl ?_
  refine g_iload_n C 1 dX2_to_1 rfl rfl ?_
  obtain ⟨r2, hr2, hm⟩ := bnd_some hm
  refine g_callVi (As := [vI l1]) (rest := []) C lk_X2_37 (k_X2_hasArrow X.2.1 G hl hG fu k0 l1 M r2 hk0 hr2) (by decide) rfl rfl rfl (Nat.le_of_ble_eq_true rfl) ⟨Nat.le_of_ble_eq_true rfl, Nat.le_of_ble_eq_true rfl⟩ dX2_to_2 ?_
  refine g_if_eq (tgt := 19) C dX2_to_5 (by decide) (fun h5 => ?_) (fun h5 => ?_)
  · have hm := ift hm h5
    refine g_iconst (v := -1) C dX2_to_19 rfl ?_
    obtain rfl := Option.some.inj hm
    exact g_iret C dX2_to_20
  · have hm := ife hm h5
    refine g_aload_n C 0 dX2_to_8 rfl rfl ?_
    refine g_getr (k := k0) (k' := (3 * k0 + 1)) C (by decide) kf_X2_27 rfl rfl dX2_to_9 ?_
    refine g_iload_n C 1 dX2_to_12 rfl rfl ?_
    obtain ⟨r13, hr13, hm⟩ := bnd_some hm
    refine g_callVi (As := [vI l1]) (rest := []) C lk_X2_41 (k_X8_get X.2.1 G hl hG fu (3 * k0 + 1) l1 r2.2 r13 ((hG _ hk0).2 3 8 1 3 rfl) hr13) (by decide) rfl rfl rfl (Nat.le_of_ble_eq_true rfl) ⟨Nat.le_of_ble_eq_true rfl, Nat.le_of_ble_eq_true rfl⟩ dX2_to_13 ?_
    refine g_goto (tgt := 20) C dX2_to_16 (by decide) ?_
    obtain rfl := Option.some.inj hm
    exact g_iret C dX2_to_20
def f_X5_forget (fu : Nat) (M : Mem) : Option (Mem) :=
  some (mI (mI M 5 0 0 (0 : Int32)) 5 0 1 (0 : Int32))
set_option maxHeartbeats 4000000 in
set_option maxRecDepth 100000 in
theorem k_X5_forget (l : Launch) (G : GE) (hl : l.stackTraces = false) (hG : GOK G) (fu : Nat)  (M : Mem) (res : Mem) (hk0 : (5, 0) ∈ gids G) (hm : f_X5_forget fu  M = some res) : CT l G yX5_forget cX5_forget 1 none 0 [vR 5 0] M (.inl none) res := by
  refine ct_of [(0, vR 5 0)] (by decide +kernel) hl hG (Nat.le_of_ble_eq_true rfl) rfl (List.forall_mem_cons.mpr ⟨Or.inl hk0, fun _ h => nomatch h⟩) (List.forall_mem_cons.mpr ⟨Or.inl hk0, fun _ h => nomatch h⟩) (fun X hX C => ?_)
  subst hX
  have Cl := C
  unfold f_X5_forget at hm
  refine g_aload_n C 0 dX5_forget_0 rfl rfl ?_
  refine g_iconst (v := 0) C dX5_forget_1 rfl ?_
  refine g_puti0 C (by decide) kf_X5_9 rfl rfl rfl rfl dX5_forget_2 ?_
  refine g_aload_n C 0 dX5_forget_5 rfl rfl ?_
  refine g_iconst (v := 0) C dX5_forget_6 rfl ?_
  refine g_puti0 C (by decide) kf_X5_15 rfl rfl rfl rfl dX5_forget_7 ?_
  obtain rfl := Option.some.inj hm
  exact g_vret C dX5_forget_10
/-! models and contracts, by program (wip/whole/emit.py): X6_enter, X6_enterLonger, X6_rebuild, X6_leads, X7_beginsArrow, X7_goesOn, X7_beginsCell, X7_endsArrow, X7_isComplete, X7_endsItem, X7_endsFirst, X7_beginsSecond, X7_accepts, X7_read, X7_graphRead, X7_cellsRead, X9_cellsChanged, X9_graphChanged, X9_begin, X9_requireObject, X9_addArrow, X9_dropArrow, X9_requirePath, X9_requireParallel, X9_lengthenBy, X9_addCell, X9_requireCell, X9_dropCell, X9_append, X9_clearInput, X9_firstError, X9_load -/
def f_X6_enter_b52 (fu : Nat)   (l5 : Int32) (M : Mem) : Option ((Int32 × Mem) ⊕ (Mem)) :=
  if (14 : Int32) ≤ l5 then some (Sum.inr M) else (f_X3_set fu 3 (M.1 6 0 0) l5 (-1 : Int32) M).bind (fun r70 => some (Sum.inl (l5 + (1 : Int32), r70)))
def f_X6_enter_h52 (fu : Nat)   (l5 : Int32) (M : Mem) : Option (Mem) :=
  (lp_run (fun s => f_X6_enter_b52 fu   s.1 s.2) fu (l5, M)).bind (fun M => some (mI M 6 0 0 ((M.1 6 0 0) + (1 : Int32))))
def f_X6_enter (fu : Nat) (l1 : Int32) (l2 : Int32) (l3 : Int32) (l4 : Int32) (M : Mem) : Option (Mem) :=
  (f_X8_set fu 16 (M.1 6 0 0) l1 M).bind (fun r9 => (f_X8_set fu 17 (r9.1 6 0 0) l2 r9).bind (fun r21 => (f_X8_set fu 18 (r21.1 6 0 0) l3 r21).bind (fun r33 => (f_X8_set fu 19 (r33.1 6 0 0) l4 r33).bind (fun r46 => f_X6_enter_h52 fu (0 : Int32) r46))))
set_option maxHeartbeats 4000000 in
set_option maxRecDepth 100000 in
theorem k_X6_enter (l : Launch) (G : GE) (hl : l.stackTraces = false) (hG : GOK G) (fu : Nat) (l1 : Int32) (l2 : Int32) (l3 : Int32) (l4 : Int32) (M : Mem) (res : Mem) (hk0 : (6, 0) ∈ gids G) (hm : f_X6_enter fu l1 l2 l3 l4 M = some res) : CT l G yX6_enter cX6_enter 6 none 1 [vR 6 0, vI l1, vI l2, vI l3, vI l4] M (.inl none) res := by
  refine ct_of [(0, vR 6 0), (1, vI l1), (2, vI l2), (3, vI l3), (4, vI l4)] (by decide +kernel) hl hG (Nat.le_of_ble_eq_true rfl) rfl (List.forall_mem_cons.mpr ⟨Or.inl hk0, List.forall_mem_cons.mpr ⟨trivial, List.forall_mem_cons.mpr ⟨trivial, List.forall_mem_cons.mpr ⟨trivial, List.forall_mem_cons.mpr ⟨trivial, fun _ h => nomatch h⟩⟩⟩⟩⟩) (List.forall_mem_cons.mpr ⟨Or.inl hk0, List.forall_mem_cons.mpr ⟨trivial, List.forall_mem_cons.mpr ⟨trivial, List.forall_mem_cons.mpr ⟨trivial, List.forall_mem_cons.mpr ⟨trivial, fun _ h => nomatch h⟩⟩⟩⟩⟩) (fun X hX C => ?_)
  subst hX
  have Cl := C
  have J52 : ∀ (l5 : Int32) (M : Mem), f_X6_enter_h52 fu   l5 M = some res → GW G X 6 (QX G X (.inl none) res) 52 [(0, vR 6 0), (5, vI l5)] [] M := by
    intro l5 M hm
    unfold f_X6_enter_h52 at hm
    obtain ⟨r52, hL52, hk52⟩ := bnd_some hm
    have hx52 : ∀ (M : Mem), M = r52 → GW G X 6 (QX G X (.inl none) res) 79 [(0, vR 6 0)] [] M := by
      intro M he
      subst he
      have hm := hk52
      try dsimp only at hm
      refine g_aload_n C 0 dX6_enter_79 rfl rfl ?_
      refine g_dup C dX6_enter_80 rfl ?_
      refine g_geti (k := 0) C (by decide) kf_X6_9 rfl dX6_enter_81 ?_
      refine g_iconst (v := 1) C dX6_enter_84 rfl ?_
      refine g_iadd C dX6_enter_85 ?_
      refine g_puti C (by decide) kf_X6_9 rfl rfl rfl dX6_enter_86 ?_
      obtain rfl := Option.some.inj hm
      exact g_vret C dX6_enter_89
    refine lp_ind1 (P := (fun l5 M => GW G X 6 (QX G X (.inl none) res) 52 [(0, vR 6 0), (5, vI l5)] [] M)) (r := r52) ?_ fu l5 M hL52
    intro l5 M o52 hm K52
    unfold f_X6_enter_b52 at hm
    refine g_iload C 1 dX6_enter_52 rfl ?_
    refine g_bipush (v := 14) C dX6_enter_54 rfl ?_
    refine g_icmp_ge (tgt := 79) C dX6_enter_56 (by decide) (fun h56 => ?_) (fun h56 => ?_)
    · have hm := ift hm h56
      obtain rfl := Option.some.inj hm
      exact g_sub [0] rfl (g_pc rfl (hx52 M (K52.2 _ rfl)))
    · have hm := ife hm h56
      refine g_aload_n C 0 dX6_enter_59 rfl rfl ?_
      refine g_getr (k := 0) (k' := 3) C (by decide) kf_X6_42 rfl rfl dX6_enter_60 ?_
      refine g_aload_n C 0 dX6_enter_63 rfl rfl ?_
      refine g_geti (k := 0) C (by decide) kf_X6_9 rfl dX6_enter_64 ?_
      refine g_iload C 1 dX6_enter_67 rfl ?_
      refine g_iconst (v := -1) C dX6_enter_69 rfl ?_
      obtain ⟨r70, hr70, hm⟩ := bnd_some hm
      refine g_callVv (As := [vI (M.1 6 0 0), vI l5, vI (-1 : Int32)]) (rest := []) C lk_X6_78 (k_X3_set X.2.1 G hl hG fu 3 (M.1 6 0 0) l5 (-1 : Int32) M r70 ((hG _ hk0).2 6 3 3 0 rfl) hr70) (by decide) rfl rfl rfl (Nat.le_of_ble_eq_true rfl) ⟨Nat.le_of_ble_eq_true rfl, Nat.le_of_ble_eq_true rfl⟩ dX6_enter_70 ?_
      refine g_iinc (ls' := [(5, vI (l5 + (1 : Int32))), (0, vR 6 0)]) (v := l5 + (1 : Int32)) C 1 dX6_enter_73 rfl (iv_p1 _) (by decide) rfl ?_
      refine g_goto (tgt := 52) C dX6_enter_76 (by decide) ?_
      obtain rfl := Option.some.inj hm
      exact g_sub [1, 0] rfl (g_pc rfl (K52.1 (l5 + (1 : Int32)) r70 rfl))
  unfold f_X6_enter at hm
  refine g_aload_n C 0 dX6_enter_0 rfl rfl ?_
  refine g_getr (k := 0) (k' := 16) C (by decide) kf_X6_20 rfl rfl dX6_enter_1 ?_
  refine g_aload_n C 0 dX6_enter_4 rfl rfl ?_
  refine g_geti (k := 0) C (by decide) kf_X6_9 rfl dX6_enter_5 ?_
  refine g_iload_n C 1 dX6_enter_8 rfl rfl ?_
  obtain ⟨r9, hr9, hm⟩ := bnd_some hm
  refine g_callVv (As := [vI (M.1 6 0 0), vI l1]) (rest := []) C lk_X6_75 (k_X8_set X.2.1 G hl hG fu 16 (M.1 6 0 0) l1 M r9 ((hG _ hk0).2 1 8 16 0 rfl) hr9) (by decide) rfl rfl rfl (Nat.le_of_ble_eq_true rfl) ⟨Nat.le_of_ble_eq_true rfl, Nat.le_of_ble_eq_true rfl⟩ dX6_enter_9 ?_
  refine g_aload_n C 0 dX6_enter_12 rfl rfl ?_
  refine g_getr (k := 0) (k' := 17) C (by decide) kf_X6_24 rfl rfl dX6_enter_13 ?_
  refine g_aload_n C 0 dX6_enter_16 rfl rfl ?_
  refine g_geti (k := 0) C (by decide) kf_X6_9 rfl dX6_enter_17 ?_
  refine g_iload_n C 2 dX6_enter_20 rfl rfl ?_
  obtain ⟨r21, hr21, hm⟩ := bnd_some hm
  refine g_callVv (As := [vI (r9.1 6 0 0), vI l2]) (rest := []) C lk_X6_75 (k_X8_set X.2.1 G hl hG fu 17 (r9.1 6 0 0) l2 r9 r21 ((hG _ hk0).2 2 8 17 0 rfl) hr21) (by decide) rfl rfl rfl (Nat.le_of_ble_eq_true rfl) ⟨Nat.le_of_ble_eq_true rfl, Nat.le_of_ble_eq_true rfl⟩ dX6_enter_21 ?_
  refine g_aload_n C 0 dX6_enter_24 rfl rfl ?_
  refine g_getr (k := 0) (k' := 18) C (by decide) kf_X6_27 rfl rfl dX6_enter_25 ?_
  refine g_aload_n C 0 dX6_enter_28 rfl rfl ?_
  refine g_geti (k := 0) C (by decide) kf_X6_9 rfl dX6_enter_29 ?_
  refine g_iload_n C 3 dX6_enter_32 rfl rfl ?_
  obtain ⟨r33, hr33, hm⟩ := bnd_some hm
  refine g_callVv (As := [vI (r21.1 6 0 0), vI l3]) (rest := []) C lk_X6_75 (k_X8_set X.2.1 G hl hG fu 18 (r21.1 6 0 0) l3 r21 r33 ((hG _ hk0).2 3 8 18 0 rfl) hr33) (by decide) rfl rfl rfl (Nat.le_of_ble_eq_true rfl) ⟨Nat.le_of_ble_eq_true rfl, Nat.le_of_ble_eq_true rfl⟩ dX6_enter_33 ?_
  refine g_aload_n C 0 dX6_enter_36 rfl rfl ?_
  refine g_getr (k := 0) (k' := 19) C (by decide) kf_X6_39 rfl rfl dX6_enter_37 ?_
  refine g_aload_n C 0 dX6_enter_40 rfl rfl ?_
  refine g_geti (k := 0) C (by decide) kf_X6_9 rfl dX6_enter_41 ?_
  refine g_iload C 4 dX6_enter_44 rfl ?_
  obtain ⟨r46, hr46, hm⟩ := bnd_some hm
  refine g_callVv (As := [vI (r33.1 6 0 0), vI l4]) (rest := []) C lk_X6_75 (k_X8_set X.2.1 G hl hG fu 19 (r33.1 6 0 0) l4 r33 r46 ((hG _ hk0).2 5 8 19 0 rfl) hr46) (by decide) rfl rfl rfl (Nat.le_of_ble_eq_true rfl) ⟨Nat.le_of_ble_eq_true rfl, Nat.le_of_ble_eq_true rfl⟩ dX6_enter_46 ?_
  refine g_iconst (v := 0) C dX6_enter_49 rfl ?_
  refine g_istore (ls' := [(5, vI (0 : Int32)), (0, vR 6 0), (1, vI l1), (2, vI l2), (3, vI l3), (4, vI l4)]) C dX6_enter_50 (by decide) rfl ?_
  exact g_sub [1, 0] rfl (g_pc rfl (J52 (0 : Int32) r46 hm))
def f_X6_enterLonger_b13 (fu : Nat)  (l1 : Int32) (l2 : Int32) (l3 : Int32) (l4 : Int32) (l5 : Int32) (M : Mem) : Option ((Int32 × Mem) ⊕ (Mem)) :=
  if l4 ≤ l5 then some (Sum.inr M) else (f_X3_get fu 2 l1 l5 M).bind (fun r37 => (f_X3_set fu 2 (M.1 6 0 0) l5 r37.1 r37.2).bind (fun r40 => some (Sum.inl (l5 + (1 : Int32), r40))))
def f_X6_enterLonger_h13 (fu : Nat)   (l1 : Int32) (l2 : Int32) (l3 : Int32) (l4 : Int32) (l5 : Int32) (M : Mem) : Option (Mem) :=
  (lp_run (fun s => f_X6_enterLonger_b13 fu  l1 l2 l3 l4 s.1 s.2) fu (l5, M)).bind (fun M => (f_X3_set fu 2 (M.1 6 0 0) l4 l2 M).bind (fun r60 => (f_X3_set fu 3 l1 l2 (r60.1 6 0 0) r60).bind (fun r73 => (f_X8_get fu 16 l1 r73).bind (fun r82 => (f_X6_enter fu r82.1 l3 (l4 + (1 : Int32)) l1 r82.2).bind (fun r91 => some r91)))))
def f_X6_enterLonger (fu : Nat) (l1 : Int32) (l2 : Int32) (l3 : Int32) (M : Mem) : Option (Mem) :=
  (f_X8_get fu 18 l1 M).bind (fun r5 => f_X6_enterLonger_h13 fu l1 l2 l3 r5.1 (0 : Int32) r5.2)
set_option maxHeartbeats 4000000 in
set_option maxRecDepth 100000 in
theorem k_X6_enterLonger (l : Launch) (G : GE) (hl : l.stackTraces = false) (hG : GOK G) (fu : Nat) (l1 : Int32) (l2 : Int32) (l3 : Int32) (M : Mem) (res : Mem) (hk0 : (6, 0) ∈ gids G) (hm : f_X6_enterLonger fu l1 l2 l3 M = some res) : CT l G yX6_enterLonger cX6_enterLonger 6 none 2 [vR 6 0, vI l1, vI l2, vI l3] M (.inl none) res := by
  refine ct_of [(0, vR 6 0), (1, vI l1), (2, vI l2), (3, vI l3)] (by decide +kernel) hl hG (Nat.le_of_ble_eq_true rfl) rfl (List.forall_mem_cons.mpr ⟨Or.inl hk0, List.forall_mem_cons.mpr ⟨trivial, List.forall_mem_cons.mpr ⟨trivial, List.forall_mem_cons.mpr ⟨trivial, fun _ h => nomatch h⟩⟩⟩⟩) (List.forall_mem_cons.mpr ⟨Or.inl hk0, List.forall_mem_cons.mpr ⟨trivial, List.forall_mem_cons.mpr ⟨trivial, List.forall_mem_cons.mpr ⟨trivial, fun _ h => nomatch h⟩⟩⟩⟩) (fun X hX C => ?_)
  subst hX
  have Cl := C
  have J13 : ∀ (l1 : Int32) (l2 : Int32) (l3 : Int32) (l4 : Int32) (l5 : Int32) (M : Mem), f_X6_enterLonger_h13 fu   l1 l2 l3 l4 l5 M = some res → GW G X 6 (QX G X (.inl none) res) 13 [(0, vR 6 0), (1, vI l1), (2, vI l2), (3, vI l3), (4, vI l4), (5, vI l5)] [] M := by
    intro l1 l2 l3 l4 l5 M hm
    unfold f_X6_enterLonger_h13 at hm
    obtain ⟨r13, hL13, hk13⟩ := bnd_some hm
    have hx13 : ∀ (M : Mem), M = r13 → GW G X 6 (QX G X (.inl none) res) 49 [(0, vR 6 0), (1, vI l1), (2, vI l2), (3, vI l3), (4, vI l4)] [] M := by
      intro M he
      subst he
      have hm := hk13
      try dsimp only at hm
      refine g_aload_n C 0 dX6_enterLonger_49 rfl rfl ?_
      refine g_getr (k := 0) (k' := 2) C (by decide) kf_X6_35 rfl rfl dX6_enterLonger_50 ?_
      refine g_aload_n C 0 dX6_enterLonger_53 rfl rfl ?_
      refine g_geti (k := 0) C (by decide) kf_X6_9 rfl dX6_enterLonger_54 ?_
      refine g_iload C 4 dX6_enterLonger_57 rfl ?_
      refine g_iload_n C 2 dX6_enterLonger_59 rfl rfl ?_
      obtain ⟨r60, hr60, hm⟩ := bnd_some hm
      refine g_callVv (As := [vI (M.1 6 0 0), vI l4, vI l2]) (rest := []) C lk_X6_78 (k_X3_set X.2.1 G hl hG fu 2 (M.1 6 0 0) l4 l2 M r60 ((hG _ hk0).2 4 3 2 0 rfl) hr60) (by decide) rfl rfl rfl (Nat.le_of_ble_eq_true rfl) ⟨Nat.le_of_ble_eq_true rfl, Nat.le_of_ble_eq_true rfl⟩ dX6_enterLonger_60 ?_
      refine g_aload_n C 0 dX6_enterLonger_63 rfl rfl ?_
      refine g_getr (k := 0) (k' := 3) C (by decide) kf_X6_42 rfl rfl dX6_enterLonger_64 ?_
      refine g_iload_n C 1 dX6_enterLonger_67 rfl rfl ?_
      refine g_iload_n C 2 dX6_enterLonger_68 rfl rfl ?_
      refine g_aload_n C 0 dX6_enterLonger_69 rfl rfl ?_
      refine g_geti (k := 0) C (by decide) kf_X6_9 rfl dX6_enterLonger_70 ?_
      obtain ⟨r73, hr73, hm⟩ := bnd_some hm
      refine g_callVv (As := [vI l1, vI l2, vI (r60.1 6 0 0)]) (rest := []) C lk_X6_78 (k_X3_set X.2.1 G hl hG fu 3 l1 l2 (r60.1 6 0 0) r60 r73 ((hG _ hk0).2 6 3 3 0 rfl) hr73) (by decide) rfl rfl rfl (Nat.le_of_ble_eq_true rfl) ⟨Nat.le_of_ble_eq_true rfl, Nat.le_of_ble_eq_true rfl⟩ dX6_enterLonger_73 ?_
      refine g_aload_n C 0 dX6_enterLonger_76 rfl rfl ?_
      refine g_aload_n C 0 dX6_enterLonger_77 rfl rfl ?_
      refine g_getr (k := 0) (k' := 16) C (by decide) kf_X6_20 rfl rfl dX6_enterLonger_78 ?_
      refine g_iload_n C 1 dX6_enterLonger_81 rfl rfl ?_
      obtain ⟨r82, hr82, hm⟩ := bnd_some hm
      refine g_callVi (As := [vI l1]) (rest := [vR 6 0]) C lk_X6_69 (k_X8_get X.2.1 G hl hG fu 16 l1 r73 r82 ((hG _ hk0).2 1 8 16 0 rfl) hr82) (by decide) rfl rfl rfl (Nat.le_of_ble_eq_true rfl) ⟨Nat.le_of_ble_eq_true rfl, Nat.le_of_ble_eq_true rfl⟩ dX6_enterLonger_82 ?_
      refine g_iload_n C 3 dX6_enterLonger_85 rfl rfl ?_
      refine g_iload C 4 dX6_enterLonger_86 rfl ?_
      refine g_iconst (v := 1) C dX6_enterLonger_88 rfl ?_
      refine g_iadd C dX6_enterLonger_89 ?_
      refine g_iload_n C 1 dX6_enterLonger_90 rfl rfl ?_
      obtain ⟨r91, hr91, hm⟩ := bnd_some hm
      refine g_callVv (As := [vI r82.1, vI l3, vI (l4 + (1 : Int32)), vI l1]) (rest := []) C lk_X6_51 (k_X6_enter X.2.1 G hl hG fu r82.1 l3 (l4 + (1 : Int32)) l1 r82.2 r91 hk0 hr91) (by decide) rfl rfl rfl (Nat.le_of_ble_eq_true rfl) ⟨Nat.le_of_ble_eq_true rfl, Nat.le_of_ble_eq_true rfl⟩ dX6_enterLonger_91 ?_
      obtain rfl := Option.some.inj hm
      exact g_vret C dX6_enterLonger_94
    refine lp_ind1 (P := (fun l5 M => GW G X 6 (QX G X (.inl none) res) 13 [(0, vR 6 0), (1, vI l1), (2, vI l2), (3, vI l3), (4, vI l4), (5, vI l5)] [] M)) (r := r13) ?_ fu l5 M hL13
    intro l5 M o13 hm K13
    unfold f_X6_enterLonger_b13 at hm
    refine g_iload C 5 dX6_enterLonger_13 rfl ?_
    refine g_iload C 4 dX6_enterLonger_15 rfl ?_
    refine g_icmp_ge (tgt := 49) C dX6_enterLonger_17 (by decide) (fun h17 => ?_) (fun h17 => ?_)
    · have hm := ift hm h17
      obtain rfl := Option.some.inj hm
      exact g_sub [0, 1, 2, 3, 4] rfl (g_pc rfl (hx13 M (K13.2 _ rfl)))
    · have hm := ife hm h17
      refine g_aload_n C 0 dX6_enterLonger_20 rfl rfl ?_
      refine g_getr (k := 0) (k' := 2) C (by decide) kf_X6_35 rfl rfl dX6_enterLonger_21 ?_
      refine g_aload_n C 0 dX6_enterLonger_24 rfl rfl ?_
      refine g_geti (k := 0) C (by decide) kf_X6_9 rfl dX6_enterLonger_25 ?_
      refine g_iload C 5 dX6_enterLonger_28 rfl ?_
      refine g_aload_n C 0 dX6_enterLonger_30 rfl rfl ?_
      refine g_getr (k := 0) (k' := 2) C (by decide) kf_X6_35 rfl rfl dX6_enterLonger_31 ?_
      refine g_iload_n C 1 dX6_enterLonger_34 rfl rfl ?_
      refine g_iload C 5 dX6_enterLonger_35 rfl ?_
      obtain ⟨r37, hr37, hm⟩ := bnd_some hm
      refine g_callVi (As := [vI l1, vI l5]) (rest := [vI l5, vI (M.1 6 0 0), vR 3 2]) C lk_X6_72 (k_X3_get X.2.1 G hl hG fu 2 l1 l5 M r37 ((hG _ hk0).2 4 3 2 0 rfl) hr37) (by decide) rfl rfl rfl (Nat.le_of_ble_eq_true rfl) ⟨Nat.le_of_ble_eq_true rfl, Nat.le_of_ble_eq_true rfl⟩ dX6_enterLonger_37 ?_
      obtain ⟨r40, hr40, hm⟩ := bnd_some hm
      refine g_callVv (As := [vI (M.1 6 0 0), vI l5, vI r37.1]) (rest := []) C lk_X6_78 (k_X3_set X.2.1 G hl hG fu 2 (M.1 6 0 0) l5 r37.1 r37.2 r40 ((hG _ hk0).2 4 3 2 0 rfl) hr40) (by decide) rfl rfl rfl (Nat.le_of_ble_eq_true rfl) ⟨Nat.le_of_ble_eq_true rfl, Nat.le_of_ble_eq_true rfl⟩ dX6_enterLonger_40 ?_
      refine g_iinc (ls' := [(5, vI (l5 + (1 : Int32))), (0, vR 6 0), (1, vI l1), (2, vI l2), (3, vI l3), (4, vI l4)]) (v := l5 + (1 : Int32)) C 5 dX6_enterLonger_43 rfl (iv_p1 _) (by decide) rfl ?_
      refine g_goto (tgt := 13) C dX6_enterLonger_46 (by decide) ?_
      obtain rfl := Option.some.inj hm
      exact g_sub [1, 2, 3, 4, 5, 0] rfl (g_pc rfl (K13.1 (l5 + (1 : Int32)) r40 rfl))
  unfold f_X6_enterLonger at hm
  refine g_aload_n C 0 dX6_enterLonger_0 rfl rfl ?_
  refine g_getr (k := 0) (k' := 18) C (by decide) kf_X6_27 rfl rfl dX6_enterLonger_1 ?_
  refine g_iload_n C 1 dX6_enterLonger_4 rfl rfl ?_
  obtain ⟨r5, hr5, hm⟩ := bnd_some hm
  refine g_callVi (As := [vI l1]) (rest := []) C lk_X6_69 (k_X8_get X.2.1 G hl hG fu 18 l1 M r5 ((hG _ hk0).2 3 8 18 0 rfl) hr5) (by decide) rfl rfl rfl (Nat.le_of_ble_eq_true rfl) ⟨Nat.le_of_ble_eq_true rfl, Nat.le_of_ble_eq_true rfl⟩ dX6_enterLonger_5 ?_
  refine g_istore (ls' := [(4, vI r5.1), (0, vR 6 0), (1, vI l1), (2, vI l2), (3, vI l3)]) C dX6_enterLonger_8 (by decide) rfl ?_
  refine g_iconst (v := 0) C dX6_enterLonger_10 rfl ?_
  refine g_istore (ls' := [(5, vI (0 : Int32)), (4, vI r5.1), (0, vR 6 0), (1, vI l1), (2, vI l2), (3, vI l3)]) C dX6_enterLonger_11 (by decide) rfl ?_
  exact g_sub [2, 3, 4, 5, 1, 0] rfl (g_pc rfl (J13 l1 l2 l3 r5.1 (0 : Int32) r5.2 hm))
def f_X6_rebuild_b7 (fu : Nat) (k1 : Nat)  (l2 : Int32) (M : Mem) : Option ((Int32 × Mem) ⊕ (Mem)) :=
  (f_X2_objectTotal fu k1 M).bind (fun r9 => if r9.1 ≤ l2 then some (Sum.inr r9.2) else (f_X6_enter fu l2 l2 (0 : Int32) (-1 : Int32) r9.2).bind (fun r20 => some (Sum.inl (l2 + (1 : Int32), r20))))
def f_X6_rebuild_b31 (fu : Nat) (k1 : Nat)  (l2 : Int32) (M : Mem) : Option ((Int32 × Mem) ⊕ (Mem)) :=
  (f_X2_arrowTotal fu k1 M).bind (fun r33 => if r33.1 ≤ l2 then some (Sum.inr r33.2) else (f_X2_from fu k1 l2 r33.2).bind (fun r42 => (f_X2_to fu k1 l2 r42.2).bind (fun r48 => (f_X6_enterLonger fu r42.1 l2 r48.1 r48.2).bind (fun r51 => some (Sum.inl (l2 + (1 : Int32), r51))))))
def f_X6_rebuild_j117 (fu : Nat) (k1 : Nat) (l2 : Int32) (l3 : Int32) (M : Mem) : Option ((Int32 × Mem) ⊕ (Mem)) :=
  some (Sum.inl (l3 + (1 : Int32), M))
def f_X6_rebuild_b82 (fu : Nat) (k1 : Nat) (l2 : Int32) (l3 : Int32) (M : Mem) : Option ((Int32 × Mem) ⊕ (Mem)) :=
  (f_X2_arrowTotal fu k1 M).bind (fun r84 => if r84.1 ≤ l3 then some (Sum.inr r84.2) else (f_X2_from fu k1 l3 r84.2).bind (fun r92 => (f_X8_get fu 17 l2 r92.2).bind (fun r100 => if r92.1 = r100.1 then (f_X2_to fu k1 l3 r100.2).bind (fun r111 => (f_X6_enterLonger fu l2 l3 r111.1 r111.2).bind (fun r114 => f_X6_rebuild_j117 fu k1 l2 l3 r114)) else f_X6_rebuild_j117 fu k1 l2 l3 r100.2)))
def f_X6_rebuild_h82 (fu : Nat) (k1 : Nat)  (l2 : Int32) (l3 : Int32) (M : Mem) : Option ((Int32 × Mem) ⊕ (Mem)) :=
  (lp_run (fun s => f_X6_rebuild_b82 fu k1 l2 s.1 s.2) fu (l3, M)).bind (fun M => some (Sum.inl (l2 + (1 : Int32), M)))
def f_X6_rebuild_b65 (fu : Nat) (k1 : Nat)  (l2 : Int32) (M : Mem) : Option ((Int32 × Mem) ⊕ (Mem)) :=
  if (M.1 6 0 0) ≤ l2 then some (Sum.inr M) else if (300 : Int32) ≤ l2 then some (Sum.inr M) else f_X6_rebuild_h82 fu k1 l2 (0 : Int32) M
def f_X6_rebuild_h65 (fu : Nat) (k1 : Nat)  (l2 : Int32) (M : Mem) : Option (Mem) :=
  (lp_run (fun s => f_X6_rebuild_b65 fu k1  s.1 s.2) fu (l2, M)).bind (fun M => some M)
def f_X6_rebuild_h31 (fu : Nat) (k1 : Nat)  (l2 : Int32) (M : Mem) : Option (Mem) :=
  (lp_run (fun s => f_X6_rebuild_b31 fu k1  s.1 s.2) fu (l2, M)).bind (fun M => (f_X2_objectTotal fu k1 M).bind (fun r61 => f_X6_rebuild_h65 fu k1 r61.1 r61.2))
def f_X6_rebuild_h7 (fu : Nat) (k1 : Nat)  (l2 : Int32) (M : Mem) : Option (Mem) :=
  (lp_run (fun s => f_X6_rebuild_b7 fu k1  s.1 s.2) fu (l2, M)).bind (fun M => f_X6_rebuild_h31 fu k1 (0 : Int32) M)
def f_X6_rebuild (fu : Nat) (k1 : Nat) (M : Mem) : Option (Mem) :=
  f_X6_rebuild_h7 fu k1 (0 : Int32) (mI M 6 0 0 (0 : Int32))
set_option maxHeartbeats 4000000 in
set_option maxRecDepth 100000 in
theorem k_X6_rebuild (l : Launch) (G : GE) (hl : l.stackTraces = false) (hG : GOK G) (fu : Nat) (k1 : Nat) (M : Mem) (res : Mem) (hk0 : (6, 0) ∈ gids G) (hk1 : (2, k1) ∈ gids G) (hm : f_X6_rebuild fu k1 M = some res) : CT l G yX6_rebuild cX6_rebuild 4 none 3 [vR 6 0, vR 2 k1] M (.inl none) res := by
  refine ct_of [(0, vR 6 0), (1, vR 2 k1)] (by decide +kernel) hl hG (Nat.le_of_ble_eq_true rfl) rfl (List.forall_mem_cons.mpr ⟨Or.inl hk0, List.forall_mem_cons.mpr ⟨Or.inl hk1, fun _ h => nomatch h⟩⟩) (List.forall_mem_cons.mpr ⟨Or.inl hk0, List.forall_mem_cons.mpr ⟨Or.inl hk1, fun _ h => nomatch h⟩⟩) (fun X hX C => ?_)
  subst hX
  have Cl := C
  have J65 : ∀ (l2 : Int32) (M : Mem), f_X6_rebuild_h65 fu k1  l2 M = some res → GW G X 4 (QX G X (.inl none) res) 65 [(0, vR 6 0), (1, vR 2 k1), (2, vI l2)] [] M := by
    intro l2 M hm
    unfold f_X6_rebuild_h65 at hm
    obtain ⟨r65, hL65, hk65⟩ := bnd_some hm
    have hx65 : ∀ (M : Mem), M = r65 → GW G X 4 (QX G X (.inl none) res) 129 [] [] M := by
      intro M he
      subst he
      have hm := hk65
      try dsimp only at hm
      obtain rfl := Option.some.inj hm
      exact g_vret C dX6_rebuild_129
    refine lp_ind1 (P := (fun l2 M => GW G X 4 (QX G X (.inl none) res) 65 [(0, vR 6 0), (1, vR 2 k1), (2, vI l2)] [] M)) (r := r65) ?_ fu l2 M hL65
    intro l2 M o65 hm K65
    have J82 : ∀ (l2 : Int32) (l3 : Int32) (M : Mem), f_X6_rebuild_h82 fu k1  l2 l3 M = some o65 → GW G X 4 (QX G X (.inl none) res) 82 [(0, vR 6 0), (1, vR 2 k1), (2, vI l2), (3, vI l3)] [] M := by
      intro l2 l3 M hm
      unfold f_X6_rebuild_h82 at hm
      obtain ⟨r82, hL82, hk82⟩ := bnd_some hm
      have hx82 : ∀ (M : Mem), M = r82 → GW G X 4 (QX G X (.inl none) res) 123 [(0, vR 6 0), (1, vR 2 k1), (2, vI l2)] [] M := by
        intro M he
        subst he
        have hm := hk82
        try dsimp only at hm
        refine g_iinc (ls' := [(2, vI (l2 + (1 : Int32))), (0, vR 6 0), (1, vR 2 k1)]) (v := l2 + (1 : Int32)) C 2 dX6_rebuild_123 rfl (iv_p1 _) (by decide) rfl ?_
        refine g_goto (tgt := 65) C dX6_rebuild_126 (by decide) ?_
        obtain rfl := Option.some.inj hm
        exact g_sub [1, 2, 0] rfl (g_pc rfl (K65.1 (l2 + (1 : Int32)) M rfl))
      refine lp_ind1 (P := (fun l3 M => GW G X 4 (QX G X (.inl none) res) 82 [(0, vR 6 0), (1, vR 2 k1), (2, vI l2), (3, vI l3)] [] M)) (r := r82) ?_ fu l3 M hL82
      intro l3 M o82 hm K82
      have J117 : ∀ (l3 : Int32) (M : Mem), f_X6_rebuild_j117 fu k1 l2 l3 M = some o82 → GW G X 4 (QX G X (.inl none) res) 117 [(0, vR 6 0), (1, vR 2 k1), (2, vI l2), (3, vI l3)] [] M := by
        intro l3 M hm
        unfold f_X6_rebuild_j117 at hm
        refine g_iinc (ls' := [(3, vI (l3 + (1 : Int32))), (0, vR 6 0), (1, vR 2 k1), (2, vI l2)]) (v := l3 + (1 : Int32)) C 3 dX6_rebuild_117 rfl (iv_p1 _) (by decide) rfl ?_
        refine g_goto (tgt := 82) C dX6_rebuild_120 (by decide) ?_
        obtain rfl := Option.some.inj hm
        exact g_sub [1, 2, 3, 0] rfl (g_pc rfl (K82.1 (l3 + (1 : Int32)) M rfl))
      unfold f_X6_rebuild_b82 at hm
      refine g_iload_n C 3 dX6_rebuild_82 rfl rfl ?_
      refine g_aload_n C 1 dX6_rebuild_83 rfl rfl ?_
      obtain ⟨r84, hr84, hm⟩ := bnd_some hm
      refine g_callVi (As := []) (rest := [vI l3]) C lk_X6_55 (k_X2_arrowTotal X.2.1 G hl hG fu k1 M r84 hk1 hr84) (by decide) rfl rfl rfl (Nat.le_of_ble_eq_true rfl) ⟨Nat.le_of_ble_eq_true rfl, Nat.le_of_ble_eq_true rfl⟩ dX6_rebuild_84 ?_
      refine g_icmp_ge (tgt := 123) C dX6_rebuild_87 (by decide) (fun h87 => ?_) (fun h87 => ?_)
      · have hm := ift hm h87
        obtain rfl := Option.some.inj hm
        exact g_sub [0, 1, 2] rfl (g_pc rfl (hx82 r84.2 (K82.2 _ rfl)))
      · have hm := ife hm h87
        refine g_aload_n C 1 dX6_rebuild_90 rfl rfl ?_
        refine g_iload_n C 3 dX6_rebuild_91 rfl rfl ?_
        obtain ⟨r92, hr92, hm⟩ := bnd_some hm
        refine g_callVi (As := [vI l3]) (rest := []) C lk_X6_58 (k_X2_from X.2.1 G hl hG fu k1 l3 r84.2 r92 hk1 hr92) (by decide) rfl rfl rfl (Nat.le_of_ble_eq_true rfl) ⟨Nat.le_of_ble_eq_true rfl, Nat.le_of_ble_eq_true rfl⟩ dX6_rebuild_92 ?_
        refine g_aload_n C 0 dX6_rebuild_95 rfl rfl ?_
        refine g_getr (k := 0) (k' := 17) C (by decide) kf_X6_24 rfl rfl dX6_rebuild_96 ?_
        refine g_iload_n C 2 dX6_rebuild_99 rfl rfl ?_
        obtain ⟨r100, hr100, hm⟩ := bnd_some hm
        refine g_callVi (As := [vI l2]) (rest := [vI r92.1]) C lk_X6_69 (k_X8_get X.2.1 G hl hG fu 17 l2 r92.2 r100 ((hG _ hk0).2 2 8 17 0 rfl) hr100) (by decide) rfl rfl rfl (Nat.le_of_ble_eq_true rfl) ⟨Nat.le_of_ble_eq_true rfl, Nat.le_of_ble_eq_true rfl⟩ dX6_rebuild_100 ?_
        refine g_icmp_ne (tgt := 117) C dX6_rebuild_103 (by decide) (fun h103 => ?_) (fun h103 => ?_)
        · have hm := ife hm h103
          exact g_sub [0, 1, 2, 3] rfl (g_pc rfl (J117 l3 r100.2 hm))
        · have hm := ift hm h103
          refine g_aload_n C 0 dX6_rebuild_106 rfl rfl ?_
          refine g_iload_n C 2 dX6_rebuild_107 rfl rfl ?_
          refine g_iload_n C 3 dX6_rebuild_108 rfl rfl ?_
          refine g_aload_n C 1 dX6_rebuild_109 rfl rfl ?_
          refine g_iload_n C 3 dX6_rebuild_110 rfl rfl ?_
          obtain ⟨r111, hr111, hm⟩ := bnd_some hm
          refine g_callVi (As := [vI l3]) (rest := [vI l3, vI l2, vR 6 0]) C lk_X6_62 (k_X2_to X.2.1 G hl hG fu k1 l3 r100.2 r111 hk1 hr111) (by decide) rfl rfl rfl (Nat.le_of_ble_eq_true rfl) ⟨Nat.le_of_ble_eq_true rfl, Nat.le_of_ble_eq_true rfl⟩ dX6_rebuild_111 ?_
          obtain ⟨r114, hr114, hm⟩ := bnd_some hm
          refine g_callVv (As := [vI l2, vI l3, vI r111.1]) (rest := []) C lk_X6_65 (k_X6_enterLonger X.2.1 G hl hG fu l2 l3 r111.1 r111.2 r114 hk0 hr114) (by decide) rfl rfl rfl (Nat.le_of_ble_eq_true rfl) ⟨Nat.le_of_ble_eq_true rfl, Nat.le_of_ble_eq_true rfl⟩ dX6_rebuild_114 ?_
          exact g_sub [0, 1, 2, 3] rfl (g_pc rfl (J117 l3 r114 hm))
    unfold f_X6_rebuild_b65 at hm
    refine g_iload_n C 2 dX6_rebuild_65 rfl rfl ?_
    refine g_aload_n C 0 dX6_rebuild_66 rfl rfl ?_
    refine g_geti (k := 0) C (by decide) kf_X6_9 rfl dX6_rebuild_67 ?_
    refine g_icmp_ge (tgt := 129) C dX6_rebuild_70 (by decide) (fun h70 => ?_) (fun h70 => ?_)
    · have hm := ift hm h70
      obtain rfl := Option.some.inj hm
      exact g_sub [] rfl (g_pc rfl (hx65 M (K65.2 _ rfl)))
    · have hm := ife hm h70
      refine g_iload_n C 2 dX6_rebuild_73 rfl rfl ?_
      refine g_sipush (v := 300) C dX6_rebuild_74 rfl ?_
      refine g_icmp_ge (tgt := 129) C dX6_rebuild_77 (by decide) (fun h77 => ?_) (fun h77 => ?_)
      · have hm := ift hm h77
        obtain rfl := Option.some.inj hm
        exact g_sub [] rfl (g_pc rfl (hx65 M (K65.2 _ rfl)))
      · have hm := ife hm h77
        refine g_iconst (v := 0) C dX6_rebuild_80 rfl ?_
        refine g_istore_n (ls' := [(3, vI (0 : Int32)), (0, vR 6 0), (1, vR 2 k1), (2, vI l2)]) C dX6_rebuild_81 rfl (by decide) rfl ?_
        exact g_sub [1, 2, 3, 0] rfl (g_pc rfl (J82 l2 (0 : Int32) M hm))
  have J31 : ∀ (l2 : Int32) (M : Mem), f_X6_rebuild_h31 fu k1  l2 M = some res → GW G X 4 (QX G X (.inl none) res) 31 [(0, vR 6 0), (1, vR 2 k1), (2, vI l2)] [] M := by
    intro l2 M hm
    unfold f_X6_rebuild_h31 at hm
    obtain ⟨r31, hL31, hk31⟩ := bnd_some hm
    have hx31 : ∀ (M : Mem), M = r31 → GW G X 4 (QX G X (.inl none) res) 60 [(0, vR 6 0), (1, vR 2 k1)] [] M := by
      intro M he
      subst he
      have hm := hk31
      try dsimp only at hm
      refine g_aload_n C 1 dX6_rebuild_60 rfl rfl ?_
      obtain ⟨r61, hr61, hm⟩ := bnd_some hm
      refine g_callVi (As := []) (rest := []) C lk_X6_45 (k_X2_objectTotal X.2.1 G hl hG fu k1 M r61 hk1 hr61) (by decide) rfl rfl rfl (Nat.le_of_ble_eq_true rfl) ⟨Nat.le_of_ble_eq_true rfl, Nat.le_of_ble_eq_true rfl⟩ dX6_rebuild_61 ?_
      refine g_istore_n (ls' := [(2, vI r61.1), (0, vR 6 0), (1, vR 2 k1)]) C dX6_rebuild_64 rfl (by decide) rfl ?_
      exact g_sub [1, 2, 0] rfl (g_pc rfl (J65 r61.1 r61.2 hm))
    refine lp_ind1 (P := (fun l2 M => GW G X 4 (QX G X (.inl none) res) 31 [(0, vR 6 0), (1, vR 2 k1), (2, vI l2)] [] M)) (r := r31) ?_ fu l2 M hL31
    intro l2 M o31 hm K31
    unfold f_X6_rebuild_b31 at hm
    refine g_iload_n C 2 dX6_rebuild_31 rfl rfl ?_
    refine g_aload_n C 1 dX6_rebuild_32 rfl rfl ?_
    obtain ⟨r33, hr33, hm⟩ := bnd_some hm
    refine g_callVi (As := []) (rest := [vI l2]) C lk_X6_55 (k_X2_arrowTotal X.2.1 G hl hG fu k1 M r33 hk1 hr33) (by decide) rfl rfl rfl (Nat.le_of_ble_eq_true rfl) ⟨Nat.le_of_ble_eq_true rfl, Nat.le_of_ble_eq_true rfl⟩ dX6_rebuild_33 ?_
    refine g_icmp_ge (tgt := 60) C dX6_rebuild_36 (by decide) (fun h36 => ?_) (fun h36 => ?_)
    · have hm := ift hm h36
      obtain rfl := Option.some.inj hm
      exact g_sub [0, 1] rfl (g_pc rfl (hx31 r33.2 (K31.2 _ rfl)))
    · have hm := ife hm h36
      refine g_aload_n C 0 dX6_rebuild_39 rfl rfl ?_
      refine g_aload_n C 1 dX6_rebuild_40 rfl rfl ?_
      refine g_iload_n C 2 dX6_rebuild_41 rfl rfl ?_
      obtain ⟨r42, hr42, hm⟩ := bnd_some hm
      refine g_callVi (As := [vI l2]) (rest := [vR 6 0]) C lk_X6_58 (k_X2_from X.2.1 G hl hG fu k1 l2 r33.2 r42 hk1 hr42) (by decide) rfl rfl rfl (Nat.le_of_ble_eq_true rfl) ⟨Nat.le_of_ble_eq_true rfl, Nat.le_of_ble_eq_true rfl⟩ dX6_rebuild_42 ?_
      refine g_iload_n C 2 dX6_rebuild_45 rfl rfl ?_
      refine g_aload_n C 1 dX6_rebuild_46 rfl rfl ?_
      refine g_iload_n C 2 dX6_rebuild_47 rfl rfl ?_
      obtain ⟨r48, hr48, hm⟩ := bnd_some hm
      refine g_callVi (As := [vI l2]) (rest := [vI l2, vI r42.1, vR 6 0]) C lk_X6_62 (k_X2_to X.2.1 G hl hG fu k1 l2 r42.2 r48 hk1 hr48) (by decide) rfl rfl rfl (Nat.le_of_ble_eq_true rfl) ⟨Nat.le_of_ble_eq_true rfl, Nat.le_of_ble_eq_true rfl⟩ dX6_rebuild_48 ?_
      obtain ⟨r51, hr51, hm⟩ := bnd_some hm
      refine g_callVv (As := [vI r42.1, vI l2, vI r48.1]) (rest := []) C lk_X6_65 (k_X6_enterLonger X.2.1 G hl hG fu r42.1 l2 r48.1 r48.2 r51 hk0 hr51) (by decide) rfl rfl rfl (Nat.le_of_ble_eq_true rfl) ⟨Nat.le_of_ble_eq_true rfl, Nat.le_of_ble_eq_true rfl⟩ dX6_rebuild_51 ?_
      refine g_iinc (ls' := [(2, vI (l2 + (1 : Int32))), (0, vR 6 0), (1, vR 2 k1)]) (v := l2 + (1 : Int32)) C 2 dX6_rebuild_54 rfl (iv_p1 _) (by decide) rfl ?_
      refine g_goto (tgt := 31) C dX6_rebuild_57 (by decide) ?_
      obtain rfl := Option.some.inj hm
      exact g_sub [1, 2, 0] rfl (g_pc rfl (K31.1 (l2 + (1 : Int32)) r51 rfl))
  have J7 : ∀ (l2 : Int32) (M : Mem), f_X6_rebuild_h7 fu k1  l2 M = some res → GW G X 4 (QX G X (.inl none) res) 7 [(0, vR 6 0), (1, vR 2 k1), (2, vI l2)] [] M := by
    intro l2 M hm
    unfold f_X6_rebuild_h7 at hm
    obtain ⟨r7, hL7, hk7⟩ := bnd_some hm
    have hx7 : ∀ (M : Mem), M = r7 → GW G X 4 (QX G X (.inl none) res) 29 [(0, vR 6 0), (1, vR 2 k1)] [] M := by
      intro M he
      subst he
      have hm := hk7
      try dsimp only at hm
      refine g_iconst (v := 0) C dX6_rebuild_29 rfl ?_
      refine g_istore_n (ls' := [(2, vI (0 : Int32)), (0, vR 6 0), (1, vR 2 k1)]) C dX6_rebuild_30 rfl (by decide) rfl ?_
      exact g_sub [1, 2, 0] rfl (g_pc rfl (J31 (0 : Int32) M hm))
    refine lp_ind1 (P := (fun l2 M => GW G X 4 (QX G X (.inl none) res) 7 [(0, vR 6 0), (1, vR 2 k1), (2, vI l2)] [] M)) (r := r7) ?_ fu l2 M hL7
    intro l2 M o7 hm K7
    unfold f_X6_rebuild_b7 at hm
    refine g_iload_n C 2 dX6_rebuild_7 rfl rfl ?_
    refine g_aload_n C 1 dX6_rebuild_8 rfl rfl ?_
    obtain ⟨r9, hr9, hm⟩ := bnd_some hm
    refine g_callVi (As := []) (rest := [vI l2]) C lk_X6_45 (k_X2_objectTotal X.2.1 G hl hG fu k1 M r9 hk1 hr9) (by decide) rfl rfl rfl (Nat.le_of_ble_eq_true rfl) ⟨Nat.le_of_ble_eq_true rfl, Nat.le_of_ble_eq_true rfl⟩ dX6_rebuild_9 ?_
    refine g_icmp_ge (tgt := 29) C dX6_rebuild_12 (by decide) (fun h12 => ?_) (fun h12 => ?_)
    · have hm := ift hm h12
      obtain rfl := Option.some.inj hm
      exact g_sub [0, 1] rfl (g_pc rfl (hx7 r9.2 (K7.2 _ rfl)))
    · have hm := ife hm h12
      refine g_aload_n C 0 dX6_rebuild_15 rfl rfl ?_
      refine g_iload_n C 2 dX6_rebuild_16 rfl rfl ?_
      refine g_iload_n C 2 dX6_rebuild_17 rfl rfl ?_
      refine g_iconst (v := 0) C dX6_rebuild_18 rfl ?_
      refine g_iconst (v := -1) C dX6_rebuild_19 rfl ?_
      obtain ⟨r20, hr20, hm⟩ := bnd_some hm
      refine g_callVv (As := [vI l2, vI l2, vI (0 : Int32), vI (-1 : Int32)]) (rest := []) C lk_X6_51 (k_X6_enter X.2.1 G hl hG fu l2 l2 (0 : Int32) (-1 : Int32) r9.2 r20 hk0 hr20) (by decide) rfl rfl rfl (Nat.le_of_ble_eq_true rfl) ⟨Nat.le_of_ble_eq_true rfl, Nat.le_of_ble_eq_true rfl⟩ dX6_rebuild_20 ?_
      refine g_iinc (ls' := [(2, vI (l2 + (1 : Int32))), (0, vR 6 0), (1, vR 2 k1)]) (v := l2 + (1 : Int32)) C 2 dX6_rebuild_23 rfl (iv_p1 _) (by decide) rfl ?_
      refine g_goto (tgt := 7) C dX6_rebuild_26 (by decide) ?_
      obtain rfl := Option.some.inj hm
      exact g_sub [1, 2, 0] rfl (g_pc rfl (K7.1 (l2 + (1 : Int32)) r20 rfl))
  unfold f_X6_rebuild at hm
  refine g_aload_n C 0 dX6_rebuild_0 rfl rfl ?_
  refine g_iconst (v := 0) C dX6_rebuild_1 rfl ?_
  refine g_puti C (by decide) kf_X6_9 rfl rfl rfl dX6_rebuild_2 ?_
  refine g_iconst (v := 0) C dX6_rebuild_5 rfl ?_
  refine g_istore_n (ls' := [(2, vI (0 : Int32)), (0, vR 6 0), (1, vR 2 k1)]) C dX6_rebuild_6 rfl (by decide) rfl ?_
  exact g_sub [1, 2, 0] rfl (g_pc rfl (J7 (0 : Int32) (mI M 6 0 0 (0 : Int32)) hm))
def f_X9_cellsChanged (fu : Nat) (M : Mem) : Option (Mem) :=
  (f_X0_renumber fu 0 M).bind (fun r8 => (f_X5_forget fu  r8).bind (fun r15 => some r15))
set_option maxHeartbeats 4000000 in
set_option maxRecDepth 100000 in
theorem k_X9_cellsChanged (l : Launch) (G : GE) (hl : l.stackTraces = false) (hG : GOK G) (fu : Nat)  (M : Mem) (res : Mem) (hk0 : (9, 0) ∈ gids G) (hm : f_X9_cellsChanged fu  M = some res) : CT l G yX9_cellsChanged cX9_cellsChanged 1 none 2 [vR 9 0] M (.inl none) res := by
  refine ct_of [(0, vR 9 0)] (by decide +kernel) hl hG (Nat.le_of_ble_eq_true rfl) rfl (List.forall_mem_cons.mpr ⟨Or.inl hk0, fun _ h => nomatch h⟩) (List.forall_mem_cons.mpr ⟨Or.inl hk0, fun _ h => nomatch h⟩) (fun X hX C => ?_)
  subst hX
  have Cl := C
  unfold f_X9_cellsChanged at hm
  refine g_aload_n C 0 dX9_cellsChanged_0 rfl rfl ?_
  refine g_getr (k := 0) (k' := 0) C (by decide) kf_X9_19 rfl rfl dX9_cellsChanged_1 ?_
  refine g_aload_n C 0 dX9_cellsChanged_4 rfl rfl ?_
  refine g_getr (k := 0) (k' := 0) C (by decide) kf_X9_26 rfl rfl dX9_cellsChanged_5 ?_
  obtain ⟨r8, hr8, hm⟩ := bnd_some hm
  refine g_callVv (As := [vR 6 0]) (rest := []) C lk_X9_387 (k_X0_renumber X.2.1 G hl hG fu 0 M r8 ((hG _ hk0).2 1 0 0 0 rfl) ((hG _ hk0).2 2 6 0 0 rfl) hr8) (by decide) rfl rfl rfl (Nat.le_of_ble_eq_true rfl) ⟨Nat.le_of_ble_eq_true rfl, Nat.le_of_ble_eq_true rfl⟩ dX9_cellsChanged_8 ?_
  refine g_aload_n C 0 dX9_cellsChanged_11 rfl rfl ?_
  refine g_getr (k := 0) (k' := 0) C (by decide) kf_X9_33 rfl rfl dX9_cellsChanged_12 ?_
  obtain ⟨r15, hr15, hm⟩ := bnd_some hm
  refine g_callVv (As := []) (rest := []) C lk_X9_391 (k_X5_forget X.2.1 G hl hG fu  r8 r15 ((hG _ hk0).2 3 5 0 0 rfl) hr15) (by decide) rfl rfl rfl (Nat.le_of_ble_eq_true rfl) ⟨Nat.le_of_ble_eq_true rfl, Nat.le_of_ble_eq_true rfl⟩ dX9_cellsChanged_15 ?_
  obtain rfl := Option.some.inj hm
  exact g_vret C dX9_cellsChanged_18
def f_X9_graphChanged (fu : Nat) (M : Mem) : Option (Mem) :=
  (f_X6_rebuild fu 0 M).bind (fun r8 => (f_X9_cellsChanged fu  r8).bind (fun r12 => some r12))
set_option maxHeartbeats 4000000 in
set_option maxRecDepth 100000 in
theorem k_X9_graphChanged (l : Launch) (G : GE) (hl : l.stackTraces = false) (hG : GOK G) (fu : Nat)  (M : Mem) (res : Mem) (hk0 : (9, 0) ∈ gids G) (hm : f_X9_graphChanged fu  M = some res) : CT l G yX9_graphChanged cX9_graphChanged 1 none 4 [vR 9 0] M (.inl none) res := by
  refine ct_of [(0, vR 9 0)] (by decide +kernel) hl hG (Nat.le_of_ble_eq_true rfl) rfl (List.forall_mem_cons.mpr ⟨Or.inl hk0, fun _ h => nomatch h⟩) (List.forall_mem_cons.mpr ⟨Or.inl hk0, fun _ h => nomatch h⟩) (fun X hX C => ?_)
  subst hX
  have Cl := C
  unfold f_X9_graphChanged at hm
  refine g_aload_n C 0 dX9_graphChanged_0 rfl rfl ?_
  refine g_getr (k := 0) (k' := 0) C (by decide) kf_X9_26 rfl rfl dX9_graphChanged_1 ?_
  refine g_aload_n C 0 dX9_graphChanged_4 rfl rfl ?_
  refine g_getr (k := 0) (k' := 0) C (by decide) kf_X9_12 rfl rfl dX9_graphChanged_5 ?_
  obtain ⟨r8, hr8, hm⟩ := bnd_some hm
  refine g_callVv (As := [vR 2 0]) (rest := []) C lk_X9_384 (k_X6_rebuild X.2.1 G hl hG fu 0 M r8 ((hG _ hk0).2 2 6 0 0 rfl) ((hG _ hk0).2 0 2 0 0 rfl) hr8) (by decide) rfl rfl rfl (Nat.le_of_ble_eq_true rfl) ⟨Nat.le_of_ble_eq_true rfl, Nat.le_of_ble_eq_true rfl⟩ dX9_graphChanged_8 ?_
  refine g_aload_n C 0 dX9_graphChanged_11 rfl rfl ?_
  obtain ⟨r12, hr12, hm⟩ := bnd_some hm
  refine g_callVv (As := []) (rest := []) C lk_X9_143 (k_X9_cellsChanged X.2.1 G hl hG fu  r8 r12 hk0 hr12) (by decide) rfl rfl rfl (Nat.le_of_ble_eq_true rfl) ⟨Nat.le_of_ble_eq_true rfl, Nat.le_of_ble_eq_true rfl⟩ dX9_graphChanged_12 ?_
  obtain rfl := Option.some.inj hm
  exact g_vret C dX9_graphChanged_15
/-! models and contracts, by program (wip/whole/emit.py): X9_sizeAtEnd, X9_sizeAtStart, X9_sources, X9_isProduct, X9_isSquare, X9_sameBehind, X9_isPullback, X9_isEqualizer, X9_doubleBits, X9_digest, X10_putPath, X10_goOn, X10_layPaths, X10_fresh -/
def f_X10_putPath_b33 (fu : Nat)   (l4 : Int32) (M : Mem) : Option ((Int32 × Mem) ⊕ (Mem)) :=
  if (14 : Int32) ≤ l4 then some (Sum.inr M) else if inb (((14 : Int32) * (M.1 10 0 13)) + l4) (alen 22 18) then some (Sum.inl (l4 + (1 : Int32), (mI M 22 18 (((14 : Int32) * (M.1 10 0 13)) + l4).toNatClampNeg (-1 : Int32)))) else none
def f_X10_putPath_h33 (fu : Nat)   (l4 : Int32) (M : Mem) : Option (Mem) :=
  (lp_run (fun s => f_X10_putPath_b33 fu   s.1 s.2) fu (l4, M)).bind (fun M => some (mI M 10 0 13 ((M.1 10 0 13) + (1 : Int32))))
def f_X10_putPath (fu : Nat) (l1 : Int32) (l2 : Int32) (l3 : Int32) (M : Mem) : Option (Mem) :=
  if inb (M.1 10 0 13) (alen 22 14) then if inb ((mI M 22 14 (M.1 10 0 13).toNatClampNeg l1).1 10 0 13) (alen 22 15) then if inb ((mI (mI M 22 14 (M.1 10 0 13).toNatClampNeg l1) 22 15 ((mI M 22 14 (M.1 10 0 13).toNatClampNeg l1).1 10 0 13).toNatClampNeg l2).1 10 0 13) (alen 22 16) then f_X10_putPath_h33 fu (0 : Int32) (mI (mI (mI M 22 14 (M.1 10 0 13).toNatClampNeg l1) 22 15 ((mI M 22 14 (M.1 10 0 13).toNatClampNeg l1).1 10 0 13).toNatClampNeg l2) 22 16 ((mI (mI M 22 14 (M.1 10 0 13).toNatClampNeg l1) 22 15 ((mI M 22 14 (M.1 10 0 13).toNatClampNeg l1).1 10 0 13).toNatClampNeg l2).1 10 0 13).toNatClampNeg l3) else none else none else none
set_option maxHeartbeats 4000000 in
set_option maxRecDepth 100000 in
theorem k_X10_putPath (l : Launch) (G : GE) (hl : l.stackTraces = false) (hG : GOK G) (fu : Nat) (l1 : Int32) (l2 : Int32) (l3 : Int32) (M : Mem) (res : Mem) (hk0 : (10, 0) ∈ gids G) (hm : f_X10_putPath fu l1 l2 l3 M = some res) : CT l G yX10_putPath cX10_putPath 5 none 0 [vR 10 0, vI l1, vI l2, vI l3] M (.inl none) res := by
  refine ct_of [(0, vR 10 0), (1, vI l1), (2, vI l2), (3, vI l3)] (by decide +kernel) hl hG (Nat.le_of_ble_eq_true rfl) rfl (List.forall_mem_cons.mpr ⟨Or.inl hk0, List.forall_mem_cons.mpr ⟨trivial, List.forall_mem_cons.mpr ⟨trivial, List.forall_mem_cons.mpr ⟨trivial, fun _ h => nomatch h⟩⟩⟩⟩) (List.forall_mem_cons.mpr ⟨Or.inl hk0, List.forall_mem_cons.mpr ⟨trivial, List.forall_mem_cons.mpr ⟨trivial, List.forall_mem_cons.mpr ⟨trivial, fun _ h => nomatch h⟩⟩⟩⟩) (fun X hX C => ?_)
  subst hX
  have Cl := C
  have J33 : ∀ (l4 : Int32) (M : Mem), f_X10_putPath_h33 fu   l4 M = some res → GW G X 5 (QX G X (.inl none) res) 33 [(0, vR 10 0), (4, vI l4)] [] M := by
    intro l4 M hm
    unfold f_X10_putPath_h33 at hm
    obtain ⟨r33, hL33, hk33⟩ := bnd_some hm
    have hx33 : ∀ (M : Mem), M = r33 → GW G X 5 (QX G X (.inl none) res) 62 [(0, vR 10 0)] [] M := by
      intro M he
      subst he
      have hm := hk33
      try dsimp only at hm
      refine g_aload_n C 0 dX10_putPath_62 rfl rfl ?_
      refine g_dup C dX10_putPath_63 rfl ?_
      refine g_geti (k := 0) C (by decide) kf_X10_89 rfl dX10_putPath_64 ?_
      refine g_iconst (v := 1) C dX10_putPath_67 rfl ?_
      refine g_iadd C dX10_putPath_68 ?_
      refine g_puti C (by decide) kf_X10_89 rfl rfl rfl dX10_putPath_69 ?_
      obtain rfl := Option.some.inj hm
      exact g_vret C dX10_putPath_72
    refine lp_ind1 (P := (fun l4 M => GW G X 5 (QX G X (.inl none) res) 33 [(0, vR 10 0), (4, vI l4)] [] M)) (r := r33) ?_ fu l4 M hL33
    intro l4 M o33 hm K33
    unfold f_X10_putPath_b33 at hm
    refine g_iload C 1 dX10_putPath_33 rfl ?_
    refine g_bipush (v := 14) C dX10_putPath_35 rfl ?_
    refine g_icmp_ge (tgt := 62) C dX10_putPath_37 (by decide) (fun h37 => ?_) (fun h37 => ?_)
    · have hm := ift hm h37
      obtain rfl := Option.some.inj hm
      exact g_sub [0] rfl (g_pc rfl (hx33 M (K33.2 _ rfl)))
    · have hm := ife hm h37
      refine g_aload_n C 0 dX10_putPath_40 rfl rfl ?_
      refine g_getr (k := 0) (k' := 18) C (by decide) kf_X10_50 rfl rfl dX10_putPath_41 ?_
      refine g_bipush (v := 14) C dX10_putPath_44 rfl ?_
      refine g_aload_n C 0 dX10_putPath_46 rfl rfl ?_
      refine g_geti (k := 0) C (by decide) kf_X10_89 rfl dX10_putPath_47 ?_
      refine g_imul C dX10_putPath_50 ?_
      refine g_iload C 1 dX10_putPath_51 rfl ?_
      refine g_iadd C dX10_putPath_53 ?_
      refine g_iconst (v := -1) C dX10_putPath_54 rfl ?_
      obtain ⟨hi55, hm⟩ := ifn hm
      refine g_iast C (by decide) hi55 dX10_putPath_55 ?_
      refine g_iinc (ls' := [(4, vI (l4 + (1 : Int32))), (0, vR 10 0)]) (v := l4 + (1 : Int32)) C 1 dX10_putPath_56 rfl (iv_p1 _) (by decide) rfl ?_
      refine g_goto (tgt := 33) C dX10_putPath_59 (by decide) ?_
      obtain rfl := Option.some.inj hm
      exact g_sub [1, 0] rfl (g_pc rfl (K33.1 (l4 + (1 : Int32)) (mI M 22 18 (((14 : Int32) * (M.1 10 0 13)) + l4).toNatClampNeg (-1 : Int32)) rfl))
  unfold f_X10_putPath at hm
  refine g_aload_n C 0 dX10_putPath_0 rfl rfl ?_
  refine g_getr (k := 0) (k' := 14) C (by decide) kf_X10_38 rfl rfl dX10_putPath_1 ?_
  refine g_aload_n C 0 dX10_putPath_4 rfl rfl ?_
  refine g_geti (k := 0) C (by decide) kf_X10_89 rfl dX10_putPath_5 ?_
  refine g_iload_n C 1 dX10_putPath_8 rfl rfl ?_
  obtain ⟨hi9, hm⟩ := ifn hm
  refine g_iast C (by decide) hi9 dX10_putPath_9 ?_
  refine g_aload_n C 0 dX10_putPath_10 rfl rfl ?_
  refine g_getr (k := 0) (k' := 15) C (by decide) kf_X10_41 rfl rfl dX10_putPath_11 ?_
  refine g_aload_n C 0 dX10_putPath_14 rfl rfl ?_
  refine g_geti (k := 0) C (by decide) kf_X10_89 rfl dX10_putPath_15 ?_
  refine g_iload_n C 2 dX10_putPath_18 rfl rfl ?_
  obtain ⟨hi19, hm⟩ := ifn hm
  refine g_iast C (by decide) hi19 dX10_putPath_19 ?_
  refine g_aload_n C 0 dX10_putPath_20 rfl rfl ?_
  refine g_getr (k := 0) (k' := 16) C (by decide) kf_X10_44 rfl rfl dX10_putPath_21 ?_
  refine g_aload_n C 0 dX10_putPath_24 rfl rfl ?_
  refine g_geti (k := 0) C (by decide) kf_X10_89 rfl dX10_putPath_25 ?_
  refine g_iload_n C 3 dX10_putPath_28 rfl rfl ?_
  obtain ⟨hi29, hm⟩ := ifn hm
  refine g_iast C (by decide) hi29 dX10_putPath_29 ?_
  refine g_iconst (v := 0) C dX10_putPath_30 rfl ?_
  refine g_istore (ls' := [(4, vI (0 : Int32)), (0, vR 10 0), (1, vI l1), (2, vI l2), (3, vI l3)]) C dX10_putPath_31 (by decide) rfl ?_
  exact g_sub [1, 0] rfl (g_pc rfl (J33 (0 : Int32) (mI (mI (mI M 22 14 (M.1 10 0 13).toNatClampNeg l1) 22 15 ((mI M 22 14 (M.1 10 0 13).toNatClampNeg l1).1 10 0 13).toNatClampNeg l2) 22 16 ((mI (mI M 22 14 (M.1 10 0 13).toNatClampNeg l1) 22 15 ((mI M 22 14 (M.1 10 0 13).toNatClampNeg l1).1 10 0 13).toNatClampNeg l2).1 10 0 13).toNatClampNeg l3) hm))
def f_X10_goOn_b32 (fu : Nat)  (l1 : Int32) (l2 : Int32) (l3 : Int32) (l4 : Int32) (M : Mem) : Option ((Int32 × Mem) ⊕ (Mem)) :=
  if inb l1 (alen 22 16) then if (M.1 22 16 l1.toNatClampNeg) ≤ l4 then some (Sum.inr M) else if inb (((7 : Int32) * l1) + l4) (alen 22 17) then if inb (((7 : Int32) * l3) + l4) (alen 22 17) then some (Sum.inl (l4 + (1 : Int32), (mI M 22 17 (((7 : Int32) * l3) + l4).toNatClampNeg (M.1 22 17 (((7 : Int32) * l1) + l4).toNatClampNeg)))) else none else none else none
def f_X10_goOn_h32 (fu : Nat)   (l1 : Int32) (l2 : Int32) (l3 : Int32) (l4 : Int32) (M : Mem) : Option (Mem) :=
  (lp_run (fun s => f_X10_goOn_b32 fu  l1 l2 l3 s.1 s.2) fu (l4, M)).bind (fun M => if inb l1 (alen 22 16) then if inb (((7 : Int32) * l3) + (M.1 22 16 l1.toNatClampNeg)) (alen 22 17) then if inb (((14 : Int32) * l1) + l2) (alen 22 18) then some (mI (mI M 22 17 (((7 : Int32) * l3) + (M.1 22 16 l1.toNatClampNeg)).toNatClampNeg l2) 22 18 (((14 : Int32) * l1) + l2).toNatClampNeg l3) else none else none else none)
def f_X10_goOn (fu : Nat) (l1 : Int32) (l2 : Int32) (M : Mem) : Option (Mem) :=
  if inb l1 (alen 22 14) then if inb l2 (alen 22 4) then if inb l1 (alen 22 16) then (f_X10_putPath fu (M.1 22 14 l1.toNatClampNeg) (M.1 22 4 l2.toNatClampNeg) ((M.1 22 16 l1.toNatClampNeg) + (1 : Int32)) M).bind (fun r26 => f_X10_goOn_h32 fu l1 l2 (M.1 10 0 13) (0 : Int32) r26) else none else none else none
set_option maxHeartbeats 4000000 in
set_option maxRecDepth 100000 in
theorem k_X10_goOn (l : Launch) (G : GE) (hl : l.stackTraces = false) (hG : GOK G) (fu : Nat) (l1 : Int32) (l2 : Int32) (M : Mem) (res : Mem) (hk0 : (10, 0) ∈ gids G) (hm : f_X10_goOn fu l1 l2 M = some res) : CT l G yX10_goOn cX10_goOn 5 none 1 [vR 10 0, vI l1, vI l2] M (.inl none) res := by
  refine ct_of [(0, vR 10 0), (1, vI l1), (2, vI l2)] (by decide +kernel) hl hG (Nat.le_of_ble_eq_true rfl) rfl (List.forall_mem_cons.mpr ⟨Or.inl hk0, List.forall_mem_cons.mpr ⟨trivial, List.forall_mem_cons.mpr ⟨trivial, fun _ h => nomatch h⟩⟩⟩) (List.forall_mem_cons.mpr ⟨Or.inl hk0, List.forall_mem_cons.mpr ⟨trivial, List.forall_mem_cons.mpr ⟨trivial, fun _ h => nomatch h⟩⟩⟩) (fun X hX C => ?_)
  subst hX
  have Cl := C
  have J32 : ∀ (l1 : Int32) (l2 : Int32) (l3 : Int32) (l4 : Int32) (M : Mem), f_X10_goOn_h32 fu   l1 l2 l3 l4 M = some res → GW G X 5 (QX G X (.inl none) res) 32 [(0, vR 10 0), (1, vI l1), (2, vI l2), (3, vI l3), (4, vI l4)] [] M := by
    intro l1 l2 l3 l4 M hm
    unfold f_X10_goOn_h32 at hm
    obtain ⟨r32, hL32, hk32⟩ := bnd_some hm
    have hx32 : ∀ (M : Mem), M = r32 → GW G X 5 (QX G X (.inl none) res) 73 [(0, vR 10 0), (1, vI l1), (2, vI l2), (3, vI l3)] [] M := by
      intro M he
      subst he
      have hm := hk32
      try dsimp only at hm
      refine g_aload_n C 0 dX10_goOn_73 rfl rfl ?_
      refine g_getr (k := 0) (k' := 17) C (by decide) kf_X10_47 rfl rfl dX10_goOn_74 ?_
      refine g_bipush (v := 7) C dX10_goOn_77 rfl ?_
      refine g_iload_n C 3 dX10_goOn_79 rfl rfl ?_
      refine g_imul C dX10_goOn_80 ?_
      refine g_aload_n C 0 dX10_goOn_81 rfl rfl ?_
      refine g_getr (k := 0) (k' := 16) C (by decide) kf_X10_44 rfl rfl dX10_goOn_82 ?_
      refine g_iload_n C 1 dX10_goOn_85 rfl rfl ?_
      obtain ⟨hi86, hm⟩ := ifn hm
      refine g_iald C (by decide) hi86 dX10_goOn_86 ?_
      refine g_iadd C dX10_goOn_87 ?_
      refine g_iload_n C 2 dX10_goOn_88 rfl rfl ?_
      obtain ⟨hi89, hm⟩ := ifn hm
      refine g_iast C (by decide) hi89 dX10_goOn_89 ?_
      refine g_aload_n C 0 dX10_goOn_90 rfl rfl ?_
      refine g_getr (k := 0) (k' := 18) C (by decide) kf_X10_50 rfl rfl dX10_goOn_91 ?_
      refine g_bipush (v := 14) C dX10_goOn_94 rfl ?_
      refine g_iload_n C 1 dX10_goOn_96 rfl rfl ?_
      refine g_imul C dX10_goOn_97 ?_
      refine g_iload_n C 2 dX10_goOn_98 rfl rfl ?_
      refine g_iadd C dX10_goOn_99 ?_
      refine g_iload_n C 3 dX10_goOn_100 rfl rfl ?_
      obtain ⟨hi101, hm⟩ := ifn hm
      refine g_iast C (by decide) hi101 dX10_goOn_101 ?_
      obtain rfl := Option.some.inj hm
      exact g_vret C dX10_goOn_102
    refine lp_ind1 (P := (fun l4 M => GW G X 5 (QX G X (.inl none) res) 32 [(0, vR 10 0), (1, vI l1), (2, vI l2), (3, vI l3), (4, vI l4)] [] M)) (r := r32) ?_ fu l4 M hL32
    intro l4 M o32 hm K32
    unfold f_X10_goOn_b32 at hm
    refine g_iload C 4 dX10_goOn_32 rfl ?_
    refine g_aload_n C 0 dX10_goOn_34 rfl rfl ?_
    refine g_getr (k := 0) (k' := 16) C (by decide) kf_X10_44 rfl rfl dX10_goOn_35 ?_
    refine g_iload_n C 1 dX10_goOn_38 rfl rfl ?_
    obtain ⟨hi39, hm⟩ := ifn hm
    refine g_iald C (by decide) hi39 dX10_goOn_39 ?_
    refine g_icmp_ge (tgt := 73) C dX10_goOn_40 (by decide) (fun h40 => ?_) (fun h40 => ?_)
    · have hm := ift hm h40
      obtain rfl := Option.some.inj hm
      exact g_sub [0, 1, 2, 3] rfl (g_pc rfl (hx32 M (K32.2 _ rfl)))
    · have hm := ife hm h40
      refine g_aload_n C 0 dX10_goOn_43 rfl rfl ?_
      refine g_getr (k := 0) (k' := 17) C (by decide) kf_X10_47 rfl rfl dX10_goOn_44 ?_
      refine g_bipush (v := 7) C dX10_goOn_47 rfl ?_
      refine g_iload_n C 3 dX10_goOn_49 rfl rfl ?_
      refine g_imul C dX10_goOn_50 ?_
      refine g_iload C 4 dX10_goOn_51 rfl ?_
      refine g_iadd C dX10_goOn_53 ?_
      refine g_aload_n C 0 dX10_goOn_54 rfl rfl ?_
      refine g_getr (k := 0) (k' := 17) C (by decide) kf_X10_47 rfl rfl dX10_goOn_55 ?_
      refine g_bipush (v := 7) C dX10_goOn_58 rfl ?_
      refine g_iload_n C 1 dX10_goOn_60 rfl rfl ?_
      refine g_imul C dX10_goOn_61 ?_
      refine g_iload C 4 dX10_goOn_62 rfl ?_
      refine g_iadd C dX10_goOn_64 ?_
      obtain ⟨hi65, hm⟩ := ifn hm
      refine g_iald C (by decide) hi65 dX10_goOn_65 ?_
      obtain ⟨hi66, hm⟩ := ifn hm
      refine g_iast C (by decide) hi66 dX10_goOn_66 ?_
      refine g_iinc (ls' := [(4, vI (l4 + (1 : Int32))), (0, vR 10 0), (1, vI l1), (2, vI l2), (3, vI l3)]) (v := l4 + (1 : Int32)) C 4 dX10_goOn_67 rfl (iv_p1 _) (by decide) rfl ?_
      refine g_goto (tgt := 32) C dX10_goOn_70 (by decide) ?_
      obtain rfl := Option.some.inj hm
      exact g_sub [1, 2, 3, 4, 0] rfl (g_pc rfl (K32.1 (l4 + (1 : Int32)) (mI M 22 17 (((7 : Int32) * l3) + l4).toNatClampNeg (M.1 22 17 (((7 : Int32) * l1) + l4).toNatClampNeg)) rfl))
  unfold f_X10_goOn at hm
  refine g_aload_n C 0 dX10_goOn_0 rfl rfl ?_
  refine g_geti (k := 0) C (by decide) kf_X10_89 rfl dX10_goOn_1 ?_
  refine g_istore_n (ls' := [(3, vI (M.1 10 0 13)), (0, vR 10 0), (1, vI l1), (2, vI l2)]) C dX10_goOn_4 rfl (by decide) rfl ?_
  refine g_aload_n C 1 dX10_goOn_5 rfl rfl ?_
  refine g_aload_n C 1 dX10_goOn_6 rfl rfl ?_
  refine g_getr (k := 0) (k' := 14) C (by decide) kf_X10_38 rfl rfl dX10_goOn_7 ?_
  refine g_iload_n C 2 dX10_goOn_10 rfl rfl ?_
  obtain ⟨hi11, hm⟩ := ifn hm
  refine g_iald C (by decide) hi11 dX10_goOn_11 ?_
  refine g_aload_n C 1 dX10_goOn_12 rfl rfl ?_
  refine g_getr (k := 0) (k' := 4) C (by decide) kf_X10_17 rfl rfl dX10_goOn_13 ?_
  refine g_iload_n C 3 dX10_goOn_16 rfl rfl ?_
  obtain ⟨hi17, hm⟩ := ifn hm
  refine g_iald C (by decide) hi17 dX10_goOn_17 ?_
  refine g_aload_n C 1 dX10_goOn_18 rfl rfl ?_
  refine g_getr (k := 0) (k' := 16) C (by decide) kf_X10_44 rfl rfl dX10_goOn_19 ?_
  refine g_iload_n C 2 dX10_goOn_22 rfl rfl ?_
  obtain ⟨hi23, hm⟩ := ifn hm
  refine g_iald C (by decide) hi23 dX10_goOn_23 ?_
  refine g_iconst (v := 1) C dX10_goOn_24 rfl ?_
  refine g_iadd C dX10_goOn_25 ?_
  obtain ⟨r26, hr26, hm⟩ := bnd_some hm
  refine g_callVv (As := [vI (M.1 22 14 l1.toNatClampNeg), vI (M.1 22 4 l2.toNatClampNeg), vI ((M.1 22 16 l1.toNatClampNeg) + (1 : Int32))]) (rest := []) C lk_X10_92 (k_X10_putPath X.2.1 G hl hG fu (M.1 22 14 l1.toNatClampNeg) (M.1 22 4 l2.toNatClampNeg) ((M.1 22 16 l1.toNatClampNeg) + (1 : Int32)) M r26 hk0 hr26) (by decide) rfl rfl rfl (Nat.le_of_ble_eq_true rfl) ⟨Nat.le_of_ble_eq_true rfl, Nat.le_of_ble_eq_true rfl⟩ dX10_goOn_26 ?_
  refine g_iconst (v := 0) C dX10_goOn_29 rfl ?_
  refine g_istore (ls' := [(4, vI (0 : Int32)), (3, vI (M.1 10 0 13)), (0, vR 10 0), (1, vI l1), (2, vI l2)]) C dX10_goOn_30 (by decide) rfl ?_
  exact g_sub [2, 3, 4, 1, 0] rfl (g_pc rfl (J32 l1 l2 (M.1 10 0 13) (0 : Int32) r26 hm))
def f_X10_layPaths_b7 (fu : Nat)   (l1 : Int32) (M : Mem) : Option ((Int32 × Mem) ⊕ (Mem)) :=
  if (M.1 10 0 1) ≤ l1 then some (Sum.inr M) else (f_X10_putPath fu l1 l1 (0 : Int32) M).bind (fun r19 => some (Sum.inl (l1 + (1 : Int32), r19)))
def f_X10_layPaths_b35 (fu : Nat)  (l1 : Int32) (l2 : Int32) (M : Mem) : Option ((Int32 × Mem) ⊕ (Mem)) :=
  if (M.1 10 0 2) ≤ l2 then some (Sum.inr M) else if inb l2 (alen 22 3) then (f_X10_goOn fu (M.1 22 3 l2.toNatClampNeg) l2 M).bind (fun r51 => some (Sum.inl (l2 + (1 : Int32), r51))) else none
def f_X10_layPaths_j113 (fu : Nat)  (l2 : Int32) (l3 : Int32) (M : Mem) : Option ((Int32 × Mem) ⊕ ((Mem) ⊕ (Int32 × Mem))) :=
  some (Sum.inl (l3 + (1 : Int32), M))
def f_X10_layPaths_b72 (fu : Nat)  (l2 : Int32) (l3 : Int32) (M : Mem) : Option ((Int32 × Mem) ⊕ ((Mem) ⊕ (Int32 × Mem))) :=
  if (M.1 10 0 2) ≤ l3 then some (Sum.inr (Sum.inl M)) else if inb l3 (alen 22 3) then if inb l2 (alen 22 15) then if (M.1 22 3 l3.toNatClampNeg) = (M.1 22 15 l2.toNatClampNeg) then if (M.1 10 0 13) = (300 : Int32) then some (Sum.inr (Sum.inr ((0 : Int32), M))) else (f_X10_goOn fu l2 l3 M).bind (fun r110 => f_X10_layPaths_j113 fu l2 l3 r110) else f_X10_layPaths_j113 fu l2 l3 M else none else none
def f_X10_layPaths_h72 (fu : Nat)   (l2 : Int32) (l3 : Int32) (M : Mem) : Option ((Int32 × Mem) ⊕ ((Mem) ⊕ (Int32 × Mem))) :=
  (lp_run (fun s => f_X10_layPaths_b72 fu  l2 s.1 s.2) fu (l3, M)).bind (fun r72 => match r72 with
    | Sum.inl M => some (Sum.inl (l2 + (1 : Int32), M))
    | Sum.inr q72 => some (Sum.inr (Sum.inr q72)))
def f_X10_layPaths_b62 (fu : Nat)   (l2 : Int32) (M : Mem) : Option ((Int32 × Mem) ⊕ ((Mem) ⊕ (Int32 × Mem))) :=
  if (M.1 10 0 13) ≤ l2 then some (Sum.inr (Sum.inl M)) else f_X10_layPaths_h72 fu l2 (0 : Int32) M
def f_X10_layPaths_h62 (fu : Nat)   (l2 : Int32) (M : Mem) : Option (Int32 × Mem) :=
  (lp_run (fun s => f_X10_layPaths_b62 fu   s.1 s.2) fu (l2, M)).bind (fun r62 => match r62 with
    | Sum.inl M => some ((1 : Int32), M)
    | Sum.inr q62 => some q62)
def f_X10_layPaths_h35 (fu : Nat)   (l1 : Int32) (l2 : Int32) (M : Mem) : Option (Int32 × Mem) :=
  (lp_run (fun s => f_X10_layPaths_b35 fu  l1 s.1 s.2) fu (l2, M)).bind (fun M => f_X10_layPaths_h62 fu l1 M)
def f_X10_layPaths_h7 (fu : Nat)   (l1 : Int32) (M : Mem) : Option (Int32 × Mem) :=
  (lp_run (fun s => f_X10_layPaths_b7 fu   s.1 s.2) fu (l1, M)).bind (fun M => f_X10_layPaths_h35 fu (M.1 10 0 13) (0 : Int32) M)
def f_X10_layPaths (fu : Nat) (M : Mem) : Option (Int32 × Mem) :=
  f_X10_layPaths_h7 fu (0 : Int32) (mI M 10 0 13 (0 : Int32))
set_option maxHeartbeats 4000000 in
set_option maxRecDepth 100000 in
theorem k_X10_layPaths (l : Launch) (G : GE) (hl : l.stackTraces = false) (hG : GOK G) (fu : Nat)  (M : Mem) (res : Int32 × Mem) (hk0 : (10, 0) ∈ gids G) (hm : f_X10_layPaths fu  M = some res) : CT l G yX10_layPaths cX10_layPaths 4 (some .boolean) 2 [vR 10 0] M (.inl (some (vI res.1))) res.2 := by
  refine ct_of [(0, vR 10 0)] (by decide +kernel) hl hG (Nat.le_of_ble_eq_true rfl) rfl (List.forall_mem_cons.mpr ⟨Or.inl hk0, fun _ h => nomatch h⟩) (List.forall_mem_cons.mpr ⟨Or.inl hk0, fun _ h => nomatch h⟩) (fun X hX C => ?_)
  subst hX
  have Cl := C
  have J62 : ∀ (l2 : Int32) (M : Mem), f_X10_layPaths_h62 fu   l2 M = some res → GW G X 4 (QX G X (.inl (some (vI res.1))) res.2) 62 [(0, vR 10 0), (2, vI l2)] [] M := by
    intro l2 M hm
    unfold f_X10_layPaths_h62 at hm
    obtain ⟨r62, hL62, hk62⟩ := bnd_some hm
    have hx62 : ∀ (M : Mem), Sum.inl M = r62 → GW G X 4 (QX G X (.inl (some (vI res.1))) res.2) 125 [] [] M := by
      intro M he
      subst he
      have hm := hk62
      try dsimp only at hm
      refine g_iconst (v := 1) C dX10_layPaths_125 rfl ?_
      obtain rfl := Option.some.inj hm
      exact g_zret C (Or.inr rfl) dX10_layPaths_126
    refine lp_ind1 (P := (fun l2 M => GW G X 4 (QX G X (.inl (some (vI res.1))) res.2) 62 [(0, vR 10 0), (2, vI l2)] [] M)) (r := r62) ?_ fu l2 M hL62
    intro l2 M o62 hm K62
    have J72 : ∀ (l2 : Int32) (l3 : Int32) (M : Mem), f_X10_layPaths_h72 fu   l2 l3 M = some o62 → GW G X 4 (QX G X (.inl (some (vI res.1))) res.2) 72 [(0, vR 10 0), (2, vI l2), (3, vI l3)] [] M := by
      intro l2 l3 M hm
      unfold f_X10_layPaths_h72 at hm
      obtain ⟨r72, hL72, hk72⟩ := bnd_some hm
      have hx72 : ∀ (M : Mem), Sum.inl M = r72 → GW G X 4 (QX G X (.inl (some (vI res.1))) res.2) 119 [(0, vR 10 0), (2, vI l2)] [] M := by
        intro M he
        subst he
        have hm := hk72
        try dsimp only at hm
        refine g_iinc (ls' := [(2, vI (l2 + (1 : Int32))), (0, vR 10 0)]) (v := l2 + (1 : Int32)) C 1 dX10_layPaths_119 rfl (iv_p1 _) (by decide) rfl ?_
        refine g_goto (tgt := 62) C dX10_layPaths_122 (by decide) ?_
        obtain rfl := Option.some.inj hm
        exact g_sub [1, 0] rfl (g_pc rfl (K62.1 (l2 + (1 : Int32)) M rfl))
      refine lp_ind1 (P := (fun l3 M => GW G X 4 (QX G X (.inl (some (vI res.1))) res.2) 72 [(0, vR 10 0), (2, vI l2), (3, vI l3)] [] M)) (r := r72) ?_ fu l3 M hL72
      intro l3 M o72 hm K72
      have J113 : ∀ (l3 : Int32) (M : Mem), f_X10_layPaths_j113 fu  l2 l3 M = some o72 → GW G X 4 (QX G X (.inl (some (vI res.1))) res.2) 113 [(0, vR 10 0), (2, vI l2), (3, vI l3)] [] M := by
        intro l3 M hm
        unfold f_X10_layPaths_j113 at hm
        refine g_iinc (ls' := [(3, vI (l3 + (1 : Int32))), (0, vR 10 0), (2, vI l2)]) (v := l3 + (1 : Int32)) C 2 dX10_layPaths_113 rfl (iv_p1 _) (by decide) rfl ?_
        refine g_goto (tgt := 72) C dX10_layPaths_116 (by decide) ?_
        obtain rfl := Option.some.inj hm
        exact g_sub [1, 2, 0] rfl (g_pc rfl (K72.1 (l3 + (1 : Int32)) M rfl))
      unfold f_X10_layPaths_b72 at hm
      refine g_iload_n C 2 dX10_layPaths_72 rfl rfl ?_
      refine g_aload_n C 0 dX10_layPaths_73 rfl rfl ?_
      refine g_geti (k := 0) C (by decide) kf_X10_79 rfl dX10_layPaths_74 ?_
      refine g_icmp_ge (tgt := 119) C dX10_layPaths_77 (by decide) (fun h77 => ?_) (fun h77 => ?_)
      · have hm := ift hm h77
        obtain rfl := Option.some.inj hm
        exact g_sub [0, 1] rfl (g_pc rfl (hx72 M (K72.2 _ rfl)))
      · have hm := ife hm h77
        refine g_aload_n C 0 dX10_layPaths_80 rfl rfl ?_
        refine g_getr (k := 0) (k' := 3) C (by decide) kf_X10_13 rfl rfl dX10_layPaths_81 ?_
        refine g_iload_n C 2 dX10_layPaths_84 rfl rfl ?_
        obtain ⟨hi85, hm⟩ := ifn hm
        refine g_iald C (by decide) hi85 dX10_layPaths_85 ?_
        refine g_aload_n C 0 dX10_layPaths_86 rfl rfl ?_
        refine g_getr (k := 0) (k' := 15) C (by decide) kf_X10_41 rfl rfl dX10_layPaths_87 ?_
        refine g_iload_n C 1 dX10_layPaths_90 rfl rfl ?_
        obtain ⟨hi91, hm⟩ := ifn hm
        refine g_iald C (by decide) hi91 dX10_layPaths_91 ?_
        refine g_icmp_ne (tgt := 113) C dX10_layPaths_92 (by decide) (fun h92 => ?_) (fun h92 => ?_)
        · have hm := ife hm h92
          exact g_sub [0, 1, 2] rfl (g_pc rfl (J113 l3 M hm))
        · have hm := ift hm h92
          refine g_aload_n C 0 dX10_layPaths_95 rfl rfl ?_
          refine g_geti (k := 0) C (by decide) kf_X10_89 rfl dX10_layPaths_96 ?_
          refine g_sipush (v := 300) C dX10_layPaths_99 rfl ?_
          refine g_icmp_ne (tgt := 107) C dX10_layPaths_102 (by decide) (fun h102 => ?_) (fun h102 => ?_)
          · have hm := ife hm h102
            refine g_aload_n C 0 dX10_layPaths_107 rfl rfl ?_
            refine g_iload_n C 1 dX10_layPaths_108 rfl rfl ?_
            refine g_iload_n C 2 dX10_layPaths_109 rfl rfl ?_
            obtain ⟨r110, hr110, hm⟩ := bnd_some hm
            refine g_callVv (As := [vI l2, vI l3]) (rest := []) C lk_X10_96 (k_X10_goOn X.2.1 G hl hG fu l2 l3 M r110 hk0 hr110) (by decide) rfl rfl rfl (Nat.le_of_ble_eq_true rfl) ⟨Nat.le_of_ble_eq_true rfl, Nat.le_of_ble_eq_true rfl⟩ dX10_layPaths_110 ?_
            exact g_sub [0, 1, 2] rfl (g_pc rfl (J113 l3 r110 hm))
          · have hm := ift hm h102
            refine g_iconst (v := 0) C dX10_layPaths_105 rfl ?_
            obtain rfl := Option.some.inj hm
            have e72 := K72.2 _ rfl
            subst e72
            obtain rfl := Option.some.inj hk72
            have e62 := K62.2 _ rfl
            subst e62
            obtain rfl := Option.some.inj hk62
            exact g_zret C (Or.inl rfl) dX10_layPaths_106
    unfold f_X10_layPaths_b62 at hm
    refine g_iload_n C 1 dX10_layPaths_62 rfl rfl ?_
    refine g_aload_n C 0 dX10_layPaths_63 rfl rfl ?_
    refine g_geti (k := 0) C (by decide) kf_X10_89 rfl dX10_layPaths_64 ?_
    refine g_icmp_ge (tgt := 125) C dX10_layPaths_67 (by decide) (fun h67 => ?_) (fun h67 => ?_)
    · have hm := ift hm h67
      obtain rfl := Option.some.inj hm
      exact g_sub [] rfl (g_pc rfl (hx62 M (K62.2 _ rfl)))
    · have hm := ife hm h67
      refine g_iconst (v := 0) C dX10_layPaths_70 rfl ?_
      refine g_istore_n (ls' := [(3, vI (0 : Int32)), (0, vR 10 0), (2, vI l2)]) C dX10_layPaths_71 rfl (by decide) rfl ?_
      exact g_sub [1, 2, 0] rfl (g_pc rfl (J72 l2 (0 : Int32) M hm))
  have J35 : ∀ (l1 : Int32) (l2 : Int32) (M : Mem), f_X10_layPaths_h35 fu   l1 l2 M = some res → GW G X 4 (QX G X (.inl (some (vI res.1))) res.2) 35 [(0, vR 10 0), (1, vI l1), (2, vI l2)] [] M := by
    intro l1 l2 M hm
    unfold f_X10_layPaths_h35 at hm
    obtain ⟨r35, hL35, hk35⟩ := bnd_some hm
    have hx35 : ∀ (M : Mem), M = r35 → GW G X 4 (QX G X (.inl (some (vI res.1))) res.2) 60 [(0, vR 10 0), (1, vI l1)] [] M := by
      intro M he
      subst he
      have hm := hk35
      try dsimp only at hm
      refine g_iload_n C 1 dX10_layPaths_60 rfl rfl ?_
      refine g_istore_n (ls' := [(2, vI l1), (0, vR 10 0), (1, vI l1)]) C dX10_layPaths_61 rfl (by decide) rfl ?_
      exact g_sub [1, 0] rfl (g_pc rfl (J62 l1 M hm))
    refine lp_ind1 (P := (fun l2 M => GW G X 4 (QX G X (.inl (some (vI res.1))) res.2) 35 [(0, vR 10 0), (1, vI l1), (2, vI l2)] [] M)) (r := r35) ?_ fu l2 M hL35
    intro l2 M o35 hm K35
    unfold f_X10_layPaths_b35 at hm
    refine g_iload_n C 2 dX10_layPaths_35 rfl rfl ?_
    refine g_aload_n C 0 dX10_layPaths_36 rfl rfl ?_
    refine g_geti (k := 0) C (by decide) kf_X10_79 rfl dX10_layPaths_37 ?_
    refine g_icmp_ge (tgt := 60) C dX10_layPaths_40 (by decide) (fun h40 => ?_) (fun h40 => ?_)
    · have hm := ift hm h40
      obtain rfl := Option.some.inj hm
      exact g_sub [0, 1] rfl (g_pc rfl (hx35 M (K35.2 _ rfl)))
    · have hm := ife hm h40
      refine g_aload_n C 0 dX10_layPaths_43 rfl rfl ?_
      refine g_aload_n C 0 dX10_layPaths_44 rfl rfl ?_
      refine g_getr (k := 0) (k' := 3) C (by decide) kf_X10_13 rfl rfl dX10_layPaths_45 ?_
      refine g_iload_n C 2 dX10_layPaths_48 rfl rfl ?_
      obtain ⟨hi49, hm⟩ := ifn hm
      refine g_iald C (by decide) hi49 dX10_layPaths_49 ?_
      refine g_iload_n C 2 dX10_layPaths_50 rfl rfl ?_
      obtain ⟨r51, hr51, hm⟩ := bnd_some hm
      refine g_callVv (As := [vI (M.1 22 3 l2.toNatClampNeg), vI l2]) (rest := []) C lk_X10_96 (k_X10_goOn X.2.1 G hl hG fu (M.1 22 3 l2.toNatClampNeg) l2 M r51 hk0 hr51) (by decide) rfl rfl rfl (Nat.le_of_ble_eq_true rfl) ⟨Nat.le_of_ble_eq_true rfl, Nat.le_of_ble_eq_true rfl⟩ dX10_layPaths_51 ?_
      refine g_iinc (ls' := [(2, vI (l2 + (1 : Int32))), (0, vR 10 0), (1, vI l1)]) (v := l2 + (1 : Int32)) C 2 dX10_layPaths_54 rfl (iv_p1 _) (by decide) rfl ?_
      refine g_goto (tgt := 35) C dX10_layPaths_57 (by decide) ?_
      obtain rfl := Option.some.inj hm
      exact g_sub [1, 2, 0] rfl (g_pc rfl (K35.1 (l2 + (1 : Int32)) r51 rfl))
  have J7 : ∀ (l1 : Int32) (M : Mem), f_X10_layPaths_h7 fu   l1 M = some res → GW G X 4 (QX G X (.inl (some (vI res.1))) res.2) 7 [(0, vR 10 0), (1, vI l1)] [] M := by
    intro l1 M hm
    unfold f_X10_layPaths_h7 at hm
    obtain ⟨r7, hL7, hk7⟩ := bnd_some hm
    have hx7 : ∀ (M : Mem), M = r7 → GW G X 4 (QX G X (.inl (some (vI res.1))) res.2) 28 [(0, vR 10 0)] [] M := by
      intro M he
      subst he
      have hm := hk7
      try dsimp only at hm
      refine g_aload_n C 0 dX10_layPaths_28 rfl rfl ?_
      refine g_geti (k := 0) C (by decide) kf_X10_89 rfl dX10_layPaths_29 ?_
      refine g_istore_n (ls' := [(1, vI (M.1 10 0 13)), (0, vR 10 0)]) C dX10_layPaths_32 rfl (by decide) rfl ?_
      refine g_iconst (v := 0) C dX10_layPaths_33 rfl ?_
      refine g_istore_n (ls' := [(2, vI (0 : Int32)), (1, vI (M.1 10 0 13)), (0, vR 10 0)]) C dX10_layPaths_34 rfl (by decide) rfl ?_
      exact g_sub [2, 1, 0] rfl (g_pc rfl (J35 (M.1 10 0 13) (0 : Int32) M hm))
    refine lp_ind1 (P := (fun l1 M => GW G X 4 (QX G X (.inl (some (vI res.1))) res.2) 7 [(0, vR 10 0), (1, vI l1)] [] M)) (r := r7) ?_ fu l1 M hL7
    intro l1 M o7 hm K7
    unfold f_X10_layPaths_b7 at hm
    refine g_iload_n C 1 dX10_layPaths_7 rfl rfl ?_
    refine g_aload_n C 0 dX10_layPaths_8 rfl rfl ?_
    refine g_geti (k := 0) C (by decide) kf_X10_7 rfl dX10_layPaths_9 ?_
    refine g_icmp_ge (tgt := 28) C dX10_layPaths_12 (by decide) (fun h12 => ?_) (fun h12 => ?_)
    · have hm := ift hm h12
      obtain rfl := Option.some.inj hm
      exact g_sub [0] rfl (g_pc rfl (hx7 M (K7.2 _ rfl)))
    · have hm := ife hm h12
      refine g_aload_n C 0 dX10_layPaths_15 rfl rfl ?_
      refine g_iload_n C 1 dX10_layPaths_16 rfl rfl ?_
      refine g_iload_n C 1 dX10_layPaths_17 rfl rfl ?_
      refine g_iconst (v := 0) C dX10_layPaths_18 rfl ?_
      obtain ⟨r19, hr19, hm⟩ := bnd_some hm
      refine g_callVv (As := [vI l1, vI l1, vI (0 : Int32)]) (rest := []) C lk_X10_92 (k_X10_putPath X.2.1 G hl hG fu l1 l1 (0 : Int32) M r19 hk0 hr19) (by decide) rfl rfl rfl (Nat.le_of_ble_eq_true rfl) ⟨Nat.le_of_ble_eq_true rfl, Nat.le_of_ble_eq_true rfl⟩ dX10_layPaths_19 ?_
      refine g_iinc (ls' := [(1, vI (l1 + (1 : Int32))), (0, vR 10 0)]) (v := l1 + (1 : Int32)) C 1 dX10_layPaths_22 rfl (iv_p1 _) (by decide) rfl ?_
      refine g_goto (tgt := 7) C dX10_layPaths_25 (by decide) ?_
      obtain rfl := Option.some.inj hm
      exact g_sub [1, 0] rfl (g_pc rfl (K7.1 (l1 + (1 : Int32)) r19 rfl))
  unfold f_X10_layPaths at hm
  refine g_aload_n C 0 dX10_layPaths_0 rfl rfl ?_
  refine g_iconst (v := 0) C dX10_layPaths_1 rfl ?_
  refine g_puti C (by decide) kf_X10_89 rfl rfl rfl dX10_layPaths_2 ?_
  refine g_iconst (v := 0) C dX10_layPaths_5 rfl ?_
  refine g_istore_n (ls' := [(1, vI (0 : Int32)), (0, vR 10 0)]) C dX10_layPaths_6 rfl (by decide) rfl ?_
  exact g_sub [1, 0] rfl (g_pc rfl (J7 (0 : Int32) (mI M 10 0 13 (0 : Int32)) hm))
def f_X10_fresh_b17 (fu : Nat)   (l2 : Int32) (M : Mem) : Option ((Int32 × Mem) ⊕ (Mem)) :=
  if (8 : Int32) ≤ l2 then some (Sum.inr M) else if inb l2 (alen 22 6) then some (Sum.inl (l2 + (1 : Int32), (mI M 22 6 l2.toNatClampNeg (2 : Int32)))) else none
def f_X10_fresh_h17 (fu : Nat)   (l2 : Int32) (M : Mem) : Option (Mem) :=
  (lp_run (fun s => f_X10_fresh_b17 fu   s.1 s.2) fu (l2, M)).bind (fun M => (f_X10_layPaths fu  M).bind (fun r37 => some r37.2))
def f_X10_fresh (fu : Nat) (l1 : Int32) (M : Mem) : Option (Mem) :=
  f_X10_fresh_h17 fu (0 : Int32) (mI (mI (mI M 10 0 1 l1) 10 0 2 (0 : Int32)) 10 0 7 (0 : Int32))
set_option maxHeartbeats 4000000 in
set_option maxRecDepth 100000 in
theorem k_X10_fresh (l : Launch) (G : GE) (hl : l.stackTraces = false) (hG : GOK G) (fu : Nat) (l1 : Int32) (M : Mem) (res : Mem) (hk0 : (10, 0) ∈ gids G) (hm : f_X10_fresh fu l1 M = some res) : CT l G yX10_fresh cX10_fresh 3 none 3 [vR 10 0, vI l1] M (.inl none) res := by
  refine ct_of [(0, vR 10 0), (1, vI l1)] (by decide +kernel) hl hG (Nat.le_of_ble_eq_true rfl) rfl (List.forall_mem_cons.mpr ⟨Or.inl hk0, List.forall_mem_cons.mpr ⟨trivial, fun _ h => nomatch h⟩⟩) (List.forall_mem_cons.mpr ⟨Or.inl hk0, List.forall_mem_cons.mpr ⟨trivial, fun _ h => nomatch h⟩⟩) (fun X hX C => ?_)
  subst hX
  have Cl := C
  have J17 : ∀ (l2 : Int32) (M : Mem), f_X10_fresh_h17 fu   l2 M = some res → GW G X 3 (QX G X (.inl none) res) 17 [(0, vR 10 0), (2, vI l2)] [] M := by
    intro l2 M hm
    unfold f_X10_fresh_h17 at hm
    obtain ⟨r17, hL17, hk17⟩ := bnd_some hm
    have hx17 : ∀ (M : Mem), M = r17 → GW G X 3 (QX G X (.inl none) res) 36 [(0, vR 10 0)] [] M := by
      intro M he
      subst he
      have hm := hk17
      try dsimp only at hm
      refine g_aload_n C 0 dX10_fresh_36 rfl rfl ?_
      obtain ⟨r37, hr37, hm⟩ := bnd_some hm
      refine g_callVi (As := []) (rest := []) C lk_X10_85 (k_X10_layPaths X.2.1 G hl hG fu  M r37 hk0 hr37) (by decide) rfl rfl rfl (Nat.le_of_ble_eq_true rfl) ⟨Nat.le_of_ble_eq_true rfl, Nat.le_of_ble_eq_true rfl⟩ dX10_fresh_37 ?_
      refine g_pop C dX10_fresh_40 rfl ?_
      obtain rfl := Option.some.inj hm
      exact g_vret C dX10_fresh_41
    refine lp_ind1 (P := (fun l2 M => GW G X 3 (QX G X (.inl none) res) 17 [(0, vR 10 0), (2, vI l2)] [] M)) (r := r17) ?_ fu l2 M hL17
    intro l2 M o17 hm K17
    unfold f_X10_fresh_b17 at hm
    refine g_iload_n C 1 dX10_fresh_17 rfl rfl ?_
    refine g_bipush (v := 8) C dX10_fresh_18 rfl ?_
    refine g_icmp_ge (tgt := 36) C dX10_fresh_20 (by decide) (fun h20 => ?_) (fun h20 => ?_)
    · have hm := ift hm h20
      obtain rfl := Option.some.inj hm
      exact g_sub [0] rfl (g_pc rfl (hx17 M (K17.2 _ rfl)))
    · have hm := ife hm h20
      refine g_aload_n C 0 dX10_fresh_23 rfl rfl ?_
      refine g_getr (k := 0) (k' := 6) C (by decide) kf_X10_23 rfl rfl dX10_fresh_24 ?_
      refine g_iload_n C 1 dX10_fresh_27 rfl rfl ?_
      refine g_iconst (v := 2) C dX10_fresh_28 rfl ?_
      obtain ⟨hi29, hm⟩ := ifn hm
      refine g_iast C (by decide) hi29 dX10_fresh_29 ?_
      refine g_iinc (ls' := [(2, vI (l2 + (1 : Int32))), (0, vR 10 0)]) (v := l2 + (1 : Int32)) C 1 dX10_fresh_30 rfl (iv_p1 _) (by decide) rfl ?_
      refine g_goto (tgt := 17) C dX10_fresh_33 (by decide) ?_
      obtain rfl := Option.some.inj hm
      exact g_sub [1, 0] rfl (g_pc rfl (K17.1 (l2 + (1 : Int32)) (mI M 22 6 l2.toNatClampNeg (2 : Int32)) rfl))
  unfold f_X10_fresh at hm
  refine g_aload_n C 0 dX10_fresh_0 rfl rfl ?_
  refine g_iload_n C 1 dX10_fresh_1 rfl rfl ?_
  refine g_puti C (by decide) kf_X10_7 rfl rfl rfl dX10_fresh_2 ?_
  refine g_aload_n C 0 dX10_fresh_5 rfl rfl ?_
  refine g_iconst (v := 0) C dX10_fresh_6 rfl ?_
  refine g_puti C (by decide) kf_X10_79 rfl rfl rfl dX10_fresh_7 ?_
  refine g_aload_n C 0 dX10_fresh_10 rfl rfl ?_
  refine g_iconst (v := 0) C dX10_fresh_11 rfl ?_
  refine g_puti C (by decide) kf_X10_82 rfl rfl rfl dX10_fresh_12 ?_
  refine g_iconst (v := 0) C dX10_fresh_15 rfl ?_
  refine g_istore_n (ls' := [(2, vI (0 : Int32)), (0, vR 10 0), (1, vI l1)]) C dX10_fresh_16 rfl (by decide) rfl ?_
  exact g_sub [1, 0] rfl (g_pc rfl (J17 (0 : Int32) (mI (mI (mI M 10 0 1 l1) 10 0 2 (0 : Int32)) 10 0 7 (0 : Int32)) hm))
/-! The law's wrappers (methods with handlers), and calls of them. -/
section WRAP
variable {tb : Bool} {G : GE} {own : String} {cc : ByteArray} {nL : Nat} {ret : Option FieldType} {rm : Room} {X : PX} {Q : State → Prop} {pc : Nat} {ls : List (Nat × AV)} {st : List AV} {M : Mem}
/-! the law's own calls -/
def bump (X : PX) (a b : Nat) : PX := (X.1, X.2.1, X.2.2.1, X.2.2.2.1, X.2.2.2.2.1, X.2.2.2.2.2.1, X.2.2.2.2.2.2.1, X.2.2.2.2.2.2.2.1, X.2.2.2.2.2.2.2.2.1, X.2.2.2.2.2.2.2.2.2.1, a, b)
end WRAP
end
section
/-! p27: the claim is false as printed (its room): made by wip/refute/port.py out of whole's rows -/
/-! Constructors: a walk predicate over a growing world, its rows. -/
section CTOR
variable {D : va_G} {cI cL : ClassId} {A : Nat → Prop} {own : String} {cc : ByteArray} {nL : Nat} {rm : Room} {X : PX} {Q : State → Prop} {k z pc : Nat} {ls : List (Nat × Value)} {st st2 : List Value} {ws : va_W}
abbrev G0 (D : va_G) (cI cL : ClassId) (A : Nat → Prop) : GE := (D, cI, cL, fun _ _ => 0, [], A, none)
def KX (D : va_G) (cI cL : ClassId) (A : Nat → Prop) (own : String) (cc : ByteArray) (nL : Nat) (rm : Room) (X : PX) : Prop :=
  X.1.tables.exec = Jvm.exec ∧ X.2.2.2.2.2.2.2.2.2.1.code = cc ∧ X.2.2.2.2.2.2.2.2.2.1.maxLocals = nL ∧ (xs_ X).vm.findClass own = some X.2.2.2.2.2.1.cls ∧ (∀ w ∈ BW, w.before X.2.2.2.2.2.2.1 (xs_ X) = true) ∧ X.2.2.2.2.2.2.2.2.1.locks = false ∧ X.2.2.2.2.2.2.2.2.1.sig.returnType = none ∧ X.2.1.stackTraces = false ∧ X.2.2.2.1 = rm ∧ X.2.2.2.2.2.2.2.2.1.name = "<init>" ∧ SF (G0 D cI cL A) (xs_ X) (xs_ X).heap
def NW (D : va_G) (A : Nat → Prop) (X : PX) (nL : Nat) (Q : State → Prop) (k z pc : Nat) (ls : List (Nat × Value)) (st : List Value) (ws : va_W) : Prop :=
  ∀ (H : Heap) (locs : List Loc) (la : Array Slot), va_P D vwCl ws H → va_D A ws → va_S A (xs_ X).heap H locs → lv_has la nL ls → W X.1 X.2.1 X.2.2.1 X.2.2.2.1 (xs_ X) X.2.2.2.2.2.1 X.2.2.2.2.2.2.1 X.2.2.2.2.2.2.2.1 X.2.2.2.2.2.2.2.2.1 X.2.2.2.2.2.2.2.2.2.1 H locs k z Q (F0 X.2.2.2.2.2.1 pc la st)
theorem kA (K : KX D cI cL A own cc nL rm X) : ∀ q, (xs_ X).heap.size ≤ q → A q := K.2.2.2.2.2.2.2.2.2.2.2.2.2.1
theorem kK (K : KX D cI cL A own cc nL rm X) : va_K D vwCl [(cI, .int), (cL, .long)] (xs_ X) := K.2.2.2.2.2.2.2.2.2.2.1
theorem n_iconst (K : KX D cI cL A own cc nL rm X) {n : Int} {v : Int32} (hd : decode cc pc = .ok (.iconst n, 1)) (hv : Int32.ofInt n = v) (kk : NW D A X nL Q k z (pc + 1) ls (.int v :: st) ws) : NW D A X nL Q k z pc ls st ws := fun H locs la hP hD hS h => lv_iconst K.1 K.2.1 hd hv (kk H locs la hP hD hS h)
theorem n_bipush (K : KX D cI cL A own cc nL rm X) {n : Int} {v : Int32} (hd : decode cc pc = .ok (.bipush n, 2)) (hv : (Int8.ofInt n).toInt32 = v) (kk : NW D A X nL Q k z (pc + 2) ls (.int v :: st) ws) : NW D A X nL Q k z pc ls st ws := fun H locs la hP hD hS h => lv_bipush K.1 K.2.1 hd hv (kk H locs la hP hD hS h)
theorem n_sipush (K : KX D cI cL A own cc nL rm X) {n : Int} {v : Int32} (hd : decode cc pc = .ok (.sipush n, 3)) (hv : (Int16.ofInt n).toInt32 = v) (kk : NW D A X nL Q k z (pc + 3) ls (.int v :: st) ws) : NW D A X nL Q k z pc ls st ws := fun H locs la hP hD hS h => lv_sipush K.1 K.2.1 hd hv (kk H locs la hP hD hS h)
theorem n_aload (K : KX D cI cL A own cc nL rm X) (j : Nat) {n : Fin 4} {i x : Nat} (hd : decode cc pc = .ok (.aload_n n, 1)) (hi : (n : Nat) = i) (hj : ls[j]? = some (i, .ref x)) (kk : NW D A X nL Q k z (pc + 1) ls (.ref x :: st) ws) : NW D A X nL Q k z pc ls st ws := fun H locs la hP hD hS h => lv_aload_n K.1 K.2.1 hd hi (lv_at h j hj) (kk H locs la hP hD hS h)
theorem n_iload (K : KX D cI cL A own cc nL rm X) (j : Nat) {n : Fin 4} {i : Nat} {x : Int32} (hd : decode cc pc = .ok (.iload_n n, 1)) (hi : (n : Nat) = i) (hj : ls[j]? = some (i, .int x)) (kk : NW D A X nL Q k z (pc + 1) ls (.int x :: st) ws) : NW D A X nL Q k z pc ls st ws := fun H locs la hP hD hS h => lv_iload_n K.1 K.2.1 hd hi (lv_at h j hj) (kk H locs la hP hD hS h)
theorem n_istore (K : KX D cI cL A own cc nL rm X) {ls' : List (Nat × Value)} {n : Fin 4} {i : Nat} {x : Int32} (hd : decode cc pc = .ok (.istore_n n, 1)) (hi : (n : Nat) = i) (hn : i < nL) (hl : (i, Value.int x) :: ls.filter (fun q => !(q.1 == i) && !(q.1 + 1 == i && q.2.category == 2)) = ls') (kk : NW D A X nL Q k z (pc + 1) ls' st ws) : NW D A X nL Q k z pc ls (.int x :: st) ws := fun H locs la hP hD hS h => lv_istore_n K.1 K.2.1 hd hi h hn hl (fun la2 h2 => kk H locs la2 hP hD hS h2)
theorem n_imul (K : KX D cI cL A own cc nL rm X) {x y : Int32} (hd : decode cc pc = .ok (.imul, 1)) (kk : NW D A X nL Q k z (pc + 1) ls (.int (x * y) :: st) ws) : NW D A X nL Q k z pc ls (.int y :: .int x :: st) ws := fun H locs la hP hD hS h => lv_imul K.1 K.2.1 hd (kk H locs la hP hD hS h)
theorem n_dup (K : KX D cI cL A own cc nL rm X) {x : Nat} (hd : decode cc pc = .ok (.dup, 1)) (kk : NW D A X nL Q k z (pc + 1) ls (.ref x :: .ref x :: st) ws) : NW D A X nL Q k z pc ls (.ref x :: st) ws := fun H locs la hP hD hS h => lv_dup K.1 K.2.1 hd rfl (kk H locs la hP hD hS h)
theorem n_goto (K : KX D cI cL A own cc nL rm X) {off : Int} {tgt : Nat} (hd : decode cc pc = .ok (.goto off, 3)) (ht : (pc : Int) + off = (tgt : Int)) (kk : NW D A X nL Q k z tgt ls st ws) : NW D A X nL Q k z pc ls st ws := fun H locs la hP hD hS h => lv_goto K.1 K.2.1 hd ht (kk H locs la hP hD hS h)
theorem n_ifle (K : KX D cI cL A own cc nL rm X) {x : Int32} {off : Int} (hx : ¬ x ≤ 0) (hd : decode cc pc = .ok (.ifCond .le off, 3)) {tgt : Nat} (ht : (pc : Int) + off = (tgt : Int)) (kk : NW D A X nL Q k z (pc + 3) ls st ws) : NW D A X nL Q k z pc ls (.int x :: st) ws := fun H locs la hP hD hS h => lv_if_le K.1 K.2.1 hd ht (fun c => absurd c hx) (fun _ => kk H locs la hP hD hS h)
theorem n_obj (K : KX D cI cL A own cc nL rm X) {x idx : Nat} (h1 : Cond.methodLink own idx objectInit ∈ BW) (h2 : Cond.instanceMethod objectInit ∈ BW) (h3 : Cond.code objectInit ⟨#[0xb1]⟩ 1 none ∈ BW) (hf : 1 ≤ rm.frames) (hl : 12 ≤ rm.locals) (hd : decode cc pc = .ok (.invokespecial idx, 3)) (kk : NW D A X nL Q k z (pc + 3) ls [] ws) : NW D A X nL Q k z pc ls [.ref x] ws := fun H locs la hP hD hS h =>
  W.objInit K.1 K.2.1 K.2.2.2.1 (K.2.2.2.2.1 _ h1) (K.2.2.2.2.1 _ h2) (K.2.2.2.2.1 _ h3) rfl (by rw [K.2.2.1]; exact h.1) rfl hd (by rw [K.2.2.2.2.2.2.2.2.1]; exact hf) (by rw [K.2.2.2.2.2.2.2.2.1]; exact hl) (kk H locs la hP hD hS h)
theorem n_new (K : KX D cI cL A own cc nL rm X) {t idx : Nat} {fs : List Value} (ht : t < 11) (h1 : Cond.classLink own idx (cN t) ∈ BW) (h2 : Cond.instantiable (cN t) (cn t) ∈ BW) (h3 : Cond.initialized (cN t) ∈ BW) (hfs : ∀ j, j < cn t → defaultValue (cty t j) = vp_V fs j) (hc : k + 1 ≤ rm.cells) (hz : z + cn t ≤ rm.slots) (hd : decode cc pc = .ok (.new idx, 3)) (kk : ∀ q, NW D A X nL Q (k + 1) (z + cn t) (pc + 3) ls (.ref q :: st) (ws ++ [(q, .inr (t, fs))])) : NW D A X nL Q k z pc ls st ws := fun H locs la hP hD hS h =>
  va_new K.1 K.2.1 K.2.2.2.2.1 (cl_ws ht) (cty t) (cl_ty ht) K.2.2.2.1 (K.2.2.2.2.1 _ h1) (K.2.2.2.2.1 _ h2) (K.2.2.2.2.1 _ h3) (kK K) hP hD hS (kA K) (cl_at ht) hfs (by rw [K.2.2.2.2.2.2.2.2.1]; exact hc) (by rw [K.2.2.2.2.2.2.2.2.1]; exact hz) hd (fun q H1 hP1 hD1 hS1 => kk q H1 locs la hP1 hD1 hS1 h)
theorem n_puti (K : KX D cI cL A own cc nL rm X) {t i idx a : Nat} {fs : List Value} {v : Int32} (q0 : Nat) (ht : t < 11) (he : ws[q0]? = some (a, .inr (t, fs))) (hi : i < cn t) (hlk : fLk own idx t i) (hfin : (cT t i).2.2.2 = false) (hn : narrow (cty t i) (.int v) = .int v) (hfit : fits (cty t i) (.int v) = true) (hl : i < fs.length) (hd : decode cc pc = .ok (.putfield idx, 3)) (kk : NW D A X nL Q k z (pc + 3) ls st (ws.set q0 (a, .inr (t, fs.set i (.int v))))) : NW D A X nL Q k z pc ls (.int v :: .ref a :: st) ws := fun H locs la hP hD hS h =>
  va_put (ref := (cT t i).1) K.1 K.2.1 K.2.2.2.2.1 (cl_ws ht) (cty t) (cl_ty ht) (cl_nm ht) K.2.2.2.1 (kK K) hP hD hS q0 he (cl_at ht) i hi (K.2.2.2.2.1 _ hlk) (fun _ h9 => h9) hfin (cl_ty ht i hi) hn hfit hl hd (fun H1 locs1 hP1 hD1 hS1 => kk H1 locs1 la hP1 hD1 hS1 h)
theorem n_putF (K : KX D cI cL A own cc nL rm X) {t i idx a : Nat} {fs : List Value} {v : Value} (q0 : Nat) (ht : t < 11) (he : ws[q0]? = some (a, .inr (t, fs))) (hi : i < cn t) (hlk : fLk own idx t i) (hfin : (cT t i).2.2.2 = true) (hdecl : (cT t i).1 = own) (hn : narrow (cty t i) v = v) (hfit : fits (cty t i) v = true) (hl : i < fs.length) (hd : decode cc pc = .ok (.putfield idx, 3)) (kk : NW D A X nL Q k z (pc + 3) ls st (ws.set q0 (a, .inr (t, fs.set i v)))) : NW D A X nL Q k z pc ls (v :: .ref a :: st) ws := fun H locs la hP hD hS h =>
  va_putF (ref := (cT t i).1) K.1 K.2.1 K.2.2.2.2.1 (cl_ws ht) (cty t) (cl_ty ht) (cl_nm ht) K.2.2.2.1 (kK K) hP hD hS q0 he (cl_at ht) i hi (K.2.2.2.2.1 _ hlk) (fun _ h9 => h9) hfin K.2.2.2.2.2.2.2.2.2.1 hdecl (cl_ty ht i hi) hn hfit hl hd (fun H1 locs1 hP1 hD1 hS1 => kk H1 locs1 la hP1 hD1 hS1 h)
theorem n_get (K : KX D cI cL A own cc nL rm X) {t i idx a : Nat} {fs : List Value} {v : Value} (q0 : Nat) (ht : t < 11) (he : ws[q0]? = some (a, .inr (t, fs))) (hi : i < cn t) (hlk : fLk own idx t i) (hv : fs[i]? = some v) (hd : decode cc pc = .ok (.getfield idx, 3)) (kk : NW D A X nL Q k z (pc + 3) ls (v :: st) ws) : NW D A X nL Q k z pc ls (.ref a :: st) ws := fun H locs la hP hD hS h =>
  va_get (ref := (cT t i).1) K.1 K.2.1 K.2.2.2.2.1 (cl_ws ht) K.2.2.2.1 (kK K) hP q0 he (cl_at ht) i hi (K.2.2.2.2.1 _ hlk) (fun _ h9 => h9) hv hd (kk H locs la hP hD hS h)
theorem n_newi (K : KX D cI cL A own cc nL rm X) {n : Int32} {N : Nat} (hac : Cond.arrayClass .int ∈ BW) (hn : ¬ n < 0) (hN : n.toNatClampNeg = N) (hb : N * 4 ≤ 536870912) (hc : k + 1 ≤ rm.cells) (hz : z + N ≤ rm.slots) (hd : decode cc pc = .ok (.newarray .int, 2)) (kk : ∀ q, NW D A X nL Q (k + 1) (z + N) (pc + 2) ls (.ref q :: st) (ws ++ [(q, .inl (cI, N, .inl (fun _ => 0)))])) : NW D A X nL Q k z pc ls (.int n :: st) ws := fun H locs la hP hD hS h => by
  refine va_newaK (atype := .int) (N := N) K.1 K.2.1 (K.2.2.2.2.1 _ hac) rfl hd rfl hn hN hb (by rw [K.2.2.2.2.2.2.2.2.1]; exact hc) (by rw [K.2.2.2.2.2.2.2.2.1]; exact hz) rfl (fun H' cA e1 z1 o1 hAr hfc => ?_)
  have hcI : (xs_ X).vm.findClass ("[" ++ (FieldType.int).toString) = some cI := ((kK K).2 0 _ rfl).2
  have hcA : cA = cI := Option.some.inj (hfc.symm.trans hcI)
  subst hcA
  have hk : ∀ (j : Nat) (x : Nat × va_E), ws[j]? = some x → H'[x.1]? = H[x.1]? := fun j x hx => o1 x.1 ((hP j x hx).lt)
  refine kk H.size H' locs la ((hP.kept hk).app (fun j x hx => ?_)) (hD.push hP rfl (kA K _ hS.1)) ⟨Nat.le_trans hS.1 (by omega), fun x h1 h2 => (o1 x (Nat.lt_of_lt_of_le h1 hS.1)).trans (hS.2.1 x h1 h2), hS.2.2⟩ h
  have hz : j < 1 := (List.getElem?_eq_some_iff.mp hx).1
  rw [show j = 0 by omega] at hx
  cases hx
  exact e1
def CTI (l : Launch) (D : va_G) (cI cL : ClassId) (y : MethodName) (zc : ByteArray) (zl d mc ms h0 : Nat) (as : List Value) (e0 : va_E) (w1 : List Nat → va_W) (nu : Nat) : Prop :=
  ∀ (A : Nat → Prop) (sz : Nat), A h0 → Met l y (Cond.code y zc zl none :: BW) { frames := d, cells := mc, slots := ms, locals := 36 * d } (va_Pc (.ref h0 :: as) (fun U => U.heap.size = sz ∧ va_P D vwCl [(h0, e0)] U.heap ∧ va_D (fun _ => True) [(h0, e0)] ∧ SF (G0 D cI cL A) U U.heap))
    (fun _ st oc t => ∃ u : List Nat, u.length = nu ∧ oc = .returned none ∧ va_P D vwCl (w1 u) t.heap ∧ va_D (va_A [(h0, e0)] sz) (w1 u) ∧ va_F (va_A [(h0, e0)] sz) st t) mc ms (va_A [(h0, e0)] sz)
theorem n_join {q : Nat} {e0 : va_E} {w1 : va_W} {H H1 : Heap} (hP : va_P D vwCl (ws ++ [(q, e0)]) H) (hD : va_D A (ws ++ [(q, e0)])) (hk : ∀ x : Nat, x < H.size → ¬ va_A [(q, e0)] H.size x → H1[x]? = H[x]?) (hF : ∀ x, va_A [(q, e0)] H.size x → A x) (hP1 : va_P D vwCl w1 H1) (hD1 : va_D (va_A [(q, e0)] H.size) w1) : va_P D vwCl (ws ++ w1) H1 ∧ va_D A (ws ++ w1) := by
  have hlast : (ws ++ [(q, e0)])[ws.length]? = some (q, e0) := by rw [List.getElem?_append_right (Nat.le_refl _), Nat.sub_self]; rfl
  have apart : ∀ (j : Nat) (x : Nat × va_E), ws[j]? = some x → x.1 < H.size ∧ ¬ va_A [(q, e0)] H.size x.1 := by
    intro j x hx
    have hj := (List.getElem?_eq_some_iff.mp hx).1
    have hx' : (ws ++ [(q, e0)])[j]? = some x := by rw [List.getElem?_append_left hj]; exact hx
    have hl := (hP j x hx').lt
    refine ⟨hl, fun h => ?_⟩
    rcases h with ⟨i, e, h⟩ | h
    · have hi : i < 1 := (List.getElem?_eq_some_iff.mp h).1
      rw [show i = 0 by omega] at h
      have hq : q = x.1 := congrArg Prod.fst (Option.some.inj h)
      have := hD.1 j ws.length x (q, e0) hx' hlast hq.symm
      omega
    · omega
  refine ⟨va_P.app (fun j x hx => ?_) hP1, va_D.app ⟨fun i j x y hx hy hxy => ?_, fun j x hx => ?_⟩ (hD1.weaken (fun _ x _ h => hF x.1 h)) (fun i j x y hx hy hxy => ?_)⟩
  · have hj := (List.getElem?_eq_some_iff.mp hx).1
    obtain ⟨h1, h2⟩ := apart j x hx
    exact (hP j x (by rw [List.getElem?_append_left hj]; exact hx)).kept (hk x.1 h1 h2)
  · exact hD.1 i j x y (by rw [List.getElem?_append_left (List.getElem?_eq_some_iff.mp hx).1]; exact hx) (by rw [List.getElem?_append_left (List.getElem?_eq_some_iff.mp hy).1]; exact hy) hxy
  · exact hD.2 j x (by rw [List.getElem?_append_left (List.getElem?_eq_some_iff.mp hx).1]; exact hx)
  · exact (apart i x hx).2 (by rw [hxy]; exact hD1.2 j y hy)
/-- how the callee's constructor is linked: by the plain word, or as a nest mate's -/
def lkI (own : String) (idx : Nat) (y : MethodName) (zc : ByteArray) (zl n : Nat) (nest : Bool) : Prop :=
  (if nest then Cond.methodLinkNest own idx y "ArrowDiagrams" ∈ XW else Cond.methodLink own idx y ∈ BW) ∧ Cond.initialized y.cls ∈ BW ∧ Cond.code y zc zl none ∈ BW ∧ Cond.instanceMethod y ∈ BW ∧ y.name = "<init>" ∧ (y.cls ≠ "java/lang/invoke/MethodHandle" ∧ y.cls ≠ "java/lang/invoke/VarHandle" ∧ (parseMethodDescriptor y.desc).map (fun d => d.parameters.length) = some n)
theorem n_call (K : KX D cI cL A own cc nL rm X) {idx q d mc ms zl n nu : Nat} {as : List Value} {e0 : va_E} {w1 : List Nat → va_W} {y : MethodName} {zc : ByteArray} (nest : Bool) (lk : lkI own idx y zc zl n nest) (hct : CTI X.2.1 D cI cL y zc zl d mc ms q as e0 w1 nu) (hn : as.length = n) (hW : (st.map fun v => v.category).sum ≤ 8) (hroom : d + 1 ≤ rm.frames ∧ 8 + (zl + 11) + 36 * d ≤ rm.locals) (hmc : k + mc ≤ rm.cells ∧ z + ms ≤ rm.slots) (hst : as.reverse ++ .ref q :: st = st2)
    (hd : decode cc pc = .ok (.invokespecial idx, 3)) (kk : ∀ u : List Nat, u.length = nu → NW D A X nL Q (k + mc) (z + ms) (pc + 3) ls st (ws ++ w1 u)) : NW D A X nL Q k z pc ls st2 (ws ++ [(q, e0)]) := by
  subst hst
  intro H locs la hP hD hS h
  obtain ⟨k1, k2, k3, k4, k5, k6⟩ := lk
  have hR : X.2.2.2.1 = rm := K.2.2.2.2.2.2.2.2.1
  have hSF := K.2.2.2.2.2.2.2.2.2.2.kept ⟨hS.1, hS.2.1⟩
  have hlast : (ws ++ [(q, e0)])[ws.length]? = some (q, e0) := by rw [List.getElem?_append_right (Nat.le_refl _), Nat.sub_self]; rfl
  have hAq : A q := hD.2 _ _ hlast
  have hfree : ∀ x, va_A [(q, e0)] H.size x → A x := by
    intro x hx
    rcases hx with ⟨i, e, hx⟩ | hx
    · have hi : i < 1 := (List.getElem?_eq_some_iff.mp hx).1
      rw [show i = 0 by omega] at hx
      have e9 : q = x := congrArg Prod.fst (Option.some.inj hx)
      rw [← e9]; exact hAq
    · exact kA K x (Nat.le_trans hS.1 hx)
  have one : ∀ {P : Nat × va_E → Prop} (j : Nat) (x : Nat × va_E), [(q, e0)][j]? = some x → P (q, e0) → P x := by
    intro P j x hx hp
    have hi : j < 1 := (List.getElem?_eq_some_iff.mp hx).1
    rw [show j = 0 by omega] at hx
    cases hx
    exact hp
  have hp : PreS (xs_ X) H (va_Pc (.ref q :: as) (fun U => U.heap.size = H.size ∧ va_P D vwCl [(q, e0)] U.heap ∧ va_D (fun _ => True) [(q, e0)] ∧ SF (G0 D cI cL A) U U.heap)) (.ref q :: as) := by
    refine ⟨fun a U g mk hh => ⟨hh.1, hh.2.1, hh.2.2.1, hh.2.2.2.1, SF.vm (U := U) rfl hh.2.2.2.2⟩, fun U hU hWU => ⟨rfl, by rw [hU], ?_, ⟨fun i j x y hx hy _ => ?_, fun _ _ _ => trivial⟩, by rw [hU]; exact hSF.moved hWU⟩⟩
    · rw [hU]
      exact fun j x hx => one (P := fun x => va_at D vwCl x H) j x hx (hP _ _ hlast)
    · have h1 : i < 1 := (List.getElem?_eq_some_iff.mp hx).1
      have h2 : j < 1 := (List.getElem?_eq_some_iff.mp hy).1
      omega
  have hws : ∀ w ∈ (Cond.code y zc zl none :: BW), ∀ (a' : Array Value) (U : State), (xs_ X).WarmedH U.vm → w.before a' U = true := pay_in K.2.2.2.2.1 (gi_code k3)
  have hrun : va_Run X.1 X.2.1 X.2.2.1 X.2.2.2.1 (xs_ X) X.2.2.2.2.2.1 X.2.2.2.2.2.2.1 X.2.2.2.2.2.2.2.1 X.2.2.2.2.2.2.2.2.1 X.2.2.2.2.2.2.2.2.2.1 H locs k z mc ms (F0 X.2.2.2.2.2.1 pc la (as.reverse ++ .ref q :: st)) st (fun st9 oc t => ∃ u : List Nat, u.length = nu ∧ oc = .returned none ∧ va_P D vwCl (w1 u) t.heap ∧ va_D (va_A [(q, e0)] H.size) (w1 u) ∧ va_F (va_A [(q, e0)] H.size) st9 t) (va_A [(q, e0)] H.size) := by
    cases nest with
    | false =>
      exact va_runI (As := as) (rest := st) (b := q) ⟨K.1, K.2.1, K.2.2.1, K.2.2.2.1, K.2.2.2.2.1⟩ (hct A H.size hAq) ⟨callB_of n K.2.2.2.2.1 (gi_code k3) rfl rfl rfl (K.2.2.2.2.1 _ k2) (K.2.2.2.2.1 _ k1) k6 (by rw [hR]; exact hroom), k5, K.2.2.2.2.1 _ k4⟩ hp rfl hn h.1 rfl (lv_room hW) hd (by rw [hR]; exact hmc)
    | true =>
      exact va_runIN (As := as) (rest := st) (b := q) (host := "ArrowDiagrams") ⟨K.1, K.2.1, K.2.2.1, K.2.2.2.1, K.2.2.2.2.1⟩ (hct A H.size hAq) ⟨va_cnB n K.2.2.2.2.1 (gi_code k3) rfl rfl rfl (K.2.2.2.2.2.2.2.2.2.2.2.2.2.2.2.1.1 _ k1) (K.2.2.2.2.1 _ k2) k6 (by rw [hR]; exact hroom), k5, K.2.2.2.2.1 _ k4⟩ hp rfl hn h.1 rfl (lv_room hW) hd (by rw [hR]; exact hmc)
  intro T hT XX
  obtain ⟨v, st₀, t, T', L, h0, X', hL, e1, e2, ⟨u, hu, hv, hP1, hD1, hz, hkq⟩, hst⟩ := hrun T hT XX
  cases hv
  rw [h0] at hz hkq
  rw [← e1] at hP1 hz hkq
  obtain ⟨hP2, hD2⟩ := n_join hP hD hkq hfree hP1 hD1
  obtain ⟨t2, a1, b1⟩ := kk u hu T'.heap (locs ++ L) la hP2 hD2 ⟨Nat.le_trans hS.1 hz, fun x h1 h2 => by rw [hkq x (Nat.lt_of_lt_of_le h1 hS.1) (fun q9 => h2 (hfree x q9))]; exact hS.2.1 x h1 h2, fun x hx => by
    rcases List.mem_append.mp hx with h | h
    · exact hS.2.2 x h
    · exact hfree _ (hL x h)⟩ h T' rfl X'
  exact ⟨t2, hst t2 a1, b1⟩
def QI (D : va_G) (A : Nat → Prop) (X : PX) (w1 : List Nat → va_W) (nu mc ms : Nat) : State → Prop := MQ X.2.2.2.2.2.2.2.1 (fun _ st oc t => ∃ u : List Nat, u.length = nu ∧ oc = .returned none ∧ va_P D vwCl (w1 u) t.heap ∧ va_D A (w1 u) ∧ va_F A st t) X.2.2.2.2.2.2.1 (xs_ X) mc ms A
theorem n_end (K : KX D cI cL A own cc nL rm X) {w1 : List Nat → va_W} {nu mc ms : Nat} (u : List Nat) (hu : u.length = nu) (hw : ws = w1 u) (hk : k ≤ mc) (hz : z ≤ ms) (hd : decode cc pc = .ok (.return_, 1)) : NW D A X nL (QI D A X w1 nu mc ms) k z pc ls [] ws := fun H locs la hP hD hS h => by
  subst hw
  exact W.widen hk hz (W.vret K.1 K.2.1 K.2.2.2.2.2.2.1 (fun t ht _ => ⟨u, hu, rfl, by rw [ht]; exact hP, hD, hS.F ht⟩) hS.2.2 hd K.2.2.2.2.2.1)
theorem cti_of {l : Launch} {y : MethodName} {zc : ByteArray} {zl d mc ms h0 : Nat} {as : List Value} {e0 : va_E} {w1 : List Nat → va_W} {nu : Nat} (ls0 : List (Nat × Value)) (hy : plainName y.cls = true) (hyn : y.name = "<init>") (hl : l.stackTraces = false) (hlen : (lg_sl (.ref h0 :: as)).length ≤ zl) (hls : lv_args 0 (.ref h0 :: as) = ls0)
    (body : ∀ (A : Nat → Prop) X, X.2.1 = l → KX D cI cL A y.cls zc zl { frames := d, cells := mc, slots := ms, locals := 36 * d } X → A h0 → NW D A X zl (QI D A X w1 nu mc ms) 0 0 0 ls0 [] [(h0, e0)]) : CTI l D cI cL y zc zl d mc ms h0 as e0 w1 nu := by
  intro A sz hAh
  refine Met.ofW (cc := zc) (maxL := zl) (ret := none) hy rfl ?_
  intro p e s m args below meth c s₁ B hml hv
  obtain ⟨rfl, hsz, hP, hD0, hF⟩ := hv
  subst hsz
  have hts := atoms_spec (ws := Cond.code y zc zl none :: BW) B.pre
  have hD := hD0.self (sz := s.heap.size)
  have hsub : ∀ x, va_A [(h0, e0)] s.heap.size x → A x := by
    intro x hx
    rcases hx with ⟨i, e, hx⟩ | hx
    · have hi : i < 1 := (List.getElem?_eq_some_iff.mp hx).1
      rw [show i = 0 by omega] at hx
      have e9 : h0 = x := congrArg Prod.fst (Option.some.inj hx)
      rw [← e9]; exact hAh
    · exact hF.2.2.2.1 x hx
  have hF' : SF (G0 D cI cL (va_A [(h0, e0)] s.heap.size)) s s.heap := ⟨hF.1, vx_Zq.narrow hF.2.1 hsub, vx_Zq.narrow hF.2.2.1 hsub, fun q h => Or.inr h, hF.2.2.2.2.1, hF.2.2.2.2.2.1, fun L xs h => nomatch h⟩
  have K : KX D cI cL (va_A [(h0, e0)] s.heap.size) y.cls zc zl { frames := d, cells := mc, slots := ms, locals := 36 * d } (p, l, e, (headSpec (Cond.code y zc zl none :: BW) { frames := d, cells := mc, slots := ms, locals := 36 * d }).room, s, m, (Value.ref h0 :: as).toArray, below, meth, c, 0, 0) :=
    ⟨B.exec, B.bytes, hml, findClass_of_methodNamed B.named, fun w hw => hts w (List.mem_cons_of_mem _ hw), B.notSynchronized, B.returns, hl, rfl, (name_of_methodNamed B.named B.method).1.trans hyn, hF'⟩
  have hlv := lv_entry (.ref h0 :: as) (n := zl) hlen
  rw [hls] at hlv
  rw [lg_entry_eq]
  exact body _ _ rfl K (Or.inl ⟨0, e0, rfl⟩) s.heap [] _ hP hD va_S.rf hlv
end CTOR
/-! constructors (made by wip/whole/mkctor.py) -/
theorem ko_1 : Cond.instanceMethod objectInit ∈ BW := bw_mem (w := Cond.instanceMethod objectInit) 118 (by decide +kernel) rfl
theorem ko_2 : Cond.code objectInit ⟨#[0xb1]⟩ 1 none ∈ BW := bw_mem (w := Cond.code objectInit ⟨#[0xb1]⟩ 1 none) 119 (by decide +kernel) rfl
theorem ko_3 : Cond.arrayClass .int ∈ BW := bw_mem (w := Cond.arrayClass .int) 136 (by decide +kernel) rfl
theorem kp_X8_9 : fLk RX8 9 8 0 := kf_X8_9
theorem kp_X3_9 : fLk RX3 9 3 0 := bw_mem (w := Cond.fieldLink RX3 9 "ArrowDiagrams$Grid" "rows" "I") 167 (by decide +kernel) rfl
theorem kp_X3_15 : fLk RX3 15 3 1 := bw_mem (w := Cond.fieldLink RX3 15 "ArrowDiagrams$Grid" "columns" "I") 168 (by decide +kernel) rfl
theorem kp_X3_18 : fLk RX3 18 3 2 := bw_mem (w := Cond.fieldLink RX3 18 "ArrowDiagrams$Grid" "numbers" "[I") 169 (by decide +kernel) rfl
theorem ko_X8_3 : Cond.methodLink RX8 3 objectInit ∈ BW := bw_mem (w := Cond.methodLink RX8 3 objectInit) 131 (by decide +kernel) rfl
theorem ko_X3_3 : Cond.methodLink RX3 3 objectInit ∈ BW := bw_mem (w := Cond.methodLink RX3 3 objectInit) 166 (by decide +kernel) rfl
theorem ko_X2_3 : Cond.methodLink RX2 3 objectInit ∈ BW := bw_mem (w := Cond.methodLink RX2 3 objectInit) 125 (by decide +kernel) rfl
theorem kp_X2_9 : fLk RX2 9 2 0 := bw_mem (w := Cond.fieldLink RX2 9 "ArrowDiagrams$Graph" "objects" "I") 137 (by decide +kernel) rfl
theorem kp_X2_15 : fLk RX2 15 2 1 := bw_mem (w := Cond.fieldLink RX2 15 "ArrowDiagrams$Graph" "arrows" "I") 138 (by decide +kernel) rfl
theorem ki_8 : Cond.instantiable (cN 8) (cn 8) ∈ BW := bw_mem (w := Cond.instantiable (cN 8) (cn 8)) 127 (by decide +kernel) rfl
theorem kj_8 : Cond.initialized (cN 8) ∈ BW := bw_mem (w := Cond.initialized (cN 8)) 94 (by decide +kernel) rfl
theorem kc_X2_c18 : Cond.classLink RX2 18 (cN 8) ∈ BW := bw_mem (w := Cond.classLink RX2 18 (cN 8)) 126 (by decide +kernel) rfl
theorem li_X2_20 : lkI RX2 20 yX8_init cX8_init 2 1 false := ⟨bw_mem (w := Cond.methodLink RX2 20 yX8_init) 128 (by decide +kernel) rfl, bw_mem (w := Cond.initialized RX8) 94 (by decide +kernel) rfl, bw_mem (w := Cond.code yX8_init cX8_init 2 none) 130 (by decide +kernel) rfl, bw_mem (w := Cond.instanceMethod yX8_init) 129 (by decide +kernel) rfl, rfl, by decide +kernel⟩
theorem kp_X2_23 : fLk RX2 23 2 2 := bw_mem (w := Cond.fieldLink RX2 23 "ArrowDiagrams$Graph" "froms" "LArrowDiagrams$Row;") 139 (by decide +kernel) rfl
theorem kp_X2_27 : fLk RX2 27 2 3 := bw_mem (w := Cond.fieldLink RX2 27 "ArrowDiagrams$Graph" "tos" "LArrowDiagrams$Row;") 140 (by decide +kernel) rfl
theorem kp_X2_30 : fLk RX2 30 2 4 := bw_mem (w := Cond.fieldLink RX2 30 "ArrowDiagrams$Graph" "arriving" "LArrowDiagrams$Row;") 141 (by decide +kernel) rfl
theorem ko_X0_3 : Cond.methodLink RX0 3 objectInit ∈ BW := bw_mem (w := Cond.methodLink RX0 3 objectInit) 158 (by decide +kernel) rfl
theorem kp_X0_9 : fLk RX0 9 0 0 := bw_mem (w := Cond.fieldLink RX0 9 "ArrowDiagrams$Cells" "total" "I") 177 (by decide +kernel) rfl
theorem kc_X0_c15 : Cond.classLink RX0 15 (cN 8) ∈ BW := bw_mem (w := Cond.classLink RX0 15 (cN 8)) 159 (by decide +kernel) rfl
theorem li_X0_17 : lkI RX0 17 yX8_init cX8_init 2 1 false := ⟨bw_mem (w := Cond.methodLink RX0 17 yX8_init) 160 (by decide +kernel) rfl, bw_mem (w := Cond.initialized RX8) 94 (by decide +kernel) rfl, bw_mem (w := Cond.code yX8_init cX8_init 2 none) 130 (by decide +kernel) rfl, bw_mem (w := Cond.instanceMethod yX8_init) 129 (by decide +kernel) rfl, rfl, by decide +kernel⟩
theorem kp_X0_20 : fLk RX0 20 0 1 := bw_mem (w := Cond.fieldLink RX0 20 "ArrowDiagrams$Cells" "origins" "LArrowDiagrams$Row;") 178 (by decide +kernel) rfl
theorem kp_X0_24 : fLk RX0 24 0 2 := bw_mem (w := Cond.fieldLink RX0 24 "ArrowDiagrams$Cells" "lengths" "LArrowDiagrams$Row;") 179 (by decide +kernel) rfl
theorem ki_3 : Cond.instantiable (cN 3) (cn 3) ∈ BW := bw_mem (w := Cond.instantiable (cN 3) (cn 3)) 162 (by decide +kernel) rfl
theorem kj_3 : Cond.initialized (cN 3) ∈ BW := bw_mem (w := Cond.initialized (cN 3)) 96 (by decide +kernel) rfl
theorem kc_X0_c27 : Cond.classLink RX0 27 (cN 3) ∈ BW := bw_mem (w := Cond.classLink RX0 27 (cN 3)) 161 (by decide +kernel) rfl
theorem li_X0_29 : lkI RX0 29 yX3_init cX3_init 4 2 false := ⟨bw_mem (w := Cond.methodLink RX0 29 yX3_init) 163 (by decide +kernel) rfl, bw_mem (w := Cond.initialized RX3) 96 (by decide +kernel) rfl, bw_mem (w := Cond.code yX3_init cX3_init 4 none) 165 (by decide +kernel) rfl, bw_mem (w := Cond.instanceMethod yX3_init) 164 (by decide +kernel) rfl, rfl, by decide +kernel⟩
theorem kp_X0_32 : fLk RX0 32 0 3 := bw_mem (w := Cond.fieldLink RX0 32 "ArrowDiagrams$Cells" "letters" "LArrowDiagrams$Grid;") 180 (by decide +kernel) rfl
theorem kp_X0_36 : fLk RX0 36 0 4 := bw_mem (w := Cond.fieldLink RX0 36 "ArrowDiagrams$Cells" "numbers" "LArrowDiagrams$Row;") 181 (by decide +kernel) rfl
theorem ko_X1_3 : Cond.methodLink RX1 3 objectInit ∈ BW := bw_mem (w := Cond.methodLink RX1 3 objectInit) 296 (by decide +kernel) rfl
theorem kc_X1_c9 : Cond.classLink RX1 9 (cN 8) ∈ BW := bw_mem (w := Cond.classLink RX1 9 (cN 8)) 297 (by decide +kernel) rfl
theorem li_X1_11 : lkI RX1 11 yX8_init cX8_init 2 1 false := ⟨bw_mem (w := Cond.methodLink RX1 11 yX8_init) 298 (by decide +kernel) rfl, bw_mem (w := Cond.initialized RX8) 94 (by decide +kernel) rfl, bw_mem (w := Cond.code yX8_init cX8_init 2 none) 130 (by decide +kernel) rfl, bw_mem (w := Cond.instanceMethod yX8_init) 129 (by decide +kernel) rfl, rfl, by decide +kernel⟩
theorem kp_X1_14 : fLk RX1 14 1 0 := bw_mem (w := Cond.fieldLink RX1 14 "ArrowDiagrams$Functions" "sizes" "LArrowDiagrams$Row;") 299 (by decide +kernel) rfl
theorem kp_X1_20 : fLk RX1 20 1 1 := bw_mem (w := Cond.fieldLink RX1 20 "ArrowDiagrams$Functions" "codes" "LArrowDiagrams$Row;") 300 (by decide +kernel) rfl
theorem ko_X4_3 : Cond.methodLink RX4 3 objectInit ∈ BW := bw_mem (w := Cond.methodLink RX4 3 objectInit) 311 (by decide +kernel) rfl
theorem kp_X4_9 : fLk RX4 9 4 0 := bw_mem (w := Cond.fieldLink RX4 9 "ArrowDiagrams$Input" "length" "I") 314 (by decide +kernel) rfl
theorem kc_X4_c15 : Cond.classLink RX4 15 (cN 8) ∈ BW := bw_mem (w := Cond.classLink RX4 15 (cN 8)) 312 (by decide +kernel) rfl
theorem li_X4_17 : lkI RX4 17 yX8_init cX8_init 2 1 false := ⟨bw_mem (w := Cond.methodLink RX4 17 yX8_init) 313 (by decide +kernel) rfl, bw_mem (w := Cond.initialized RX8) 94 (by decide +kernel) rfl, bw_mem (w := Cond.code yX8_init cX8_init 2 none) 130 (by decide +kernel) rfl, bw_mem (w := Cond.instanceMethod yX8_init) 129 (by decide +kernel) rfl, rfl, by decide +kernel⟩
theorem kp_X4_20 : fLk RX4 20 4 1 := bw_mem (w := Cond.fieldLink RX4 20 "ArrowDiagrams$Input" "codes" "LArrowDiagrams$Row;") 315 (by decide +kernel) rfl
theorem ko_X6_3 : Cond.methodLink RX6 3 objectInit ∈ BW := bw_mem (w := Cond.methodLink RX6 3 objectInit) 198 (by decide +kernel) rfl
theorem kp_X6_9 : fLk RX6 9 6 0 := bw_mem (w := Cond.fieldLink RX6 9 "ArrowDiagrams$Paths" "total" "I") 203 (by decide +kernel) rfl
theorem kc_X6_c15 : Cond.classLink RX6 15 (cN 8) ∈ BW := bw_mem (w := Cond.classLink RX6 15 (cN 8)) 199 (by decide +kernel) rfl
theorem li_X6_17 : lkI RX6 17 yX8_init cX8_init 2 1 false := ⟨bw_mem (w := Cond.methodLink RX6 17 yX8_init) 200 (by decide +kernel) rfl, bw_mem (w := Cond.initialized RX8) 94 (by decide +kernel) rfl, bw_mem (w := Cond.code yX8_init cX8_init 2 none) 130 (by decide +kernel) rfl, bw_mem (w := Cond.instanceMethod yX8_init) 129 (by decide +kernel) rfl, rfl, by decide +kernel⟩
theorem kp_X6_20 : fLk RX6 20 6 1 := bw_mem (w := Cond.fieldLink RX6 20 "ArrowDiagrams$Paths" "start" "LArrowDiagrams$Row;") 204 (by decide +kernel) rfl
theorem kp_X6_24 : fLk RX6 24 6 2 := bw_mem (w := Cond.fieldLink RX6 24 "ArrowDiagrams$Paths" "end" "LArrowDiagrams$Row;") 208 (by decide +kernel) rfl
theorem kp_X6_27 : fLk RX6 27 6 3 := bw_mem (w := Cond.fieldLink RX6 27 "ArrowDiagrams$Paths" "length" "LArrowDiagrams$Row;") 211 (by decide +kernel) rfl
theorem kc_X6_c30 : Cond.classLink RX6 30 (cN 3) ∈ BW := bw_mem (w := Cond.classLink RX6 30 (cN 3)) 201 (by decide +kernel) rfl
theorem li_X6_32 : lkI RX6 32 yX3_init cX3_init 4 2 false := ⟨bw_mem (w := Cond.methodLink RX6 32 yX3_init) 202 (by decide +kernel) rfl, bw_mem (w := Cond.initialized RX3) 96 (by decide +kernel) rfl, bw_mem (w := Cond.code yX3_init cX3_init 4 none) 165 (by decide +kernel) rfl, bw_mem (w := Cond.instanceMethod yX3_init) 164 (by decide +kernel) rfl, rfl, by decide +kernel⟩
theorem kp_X6_35 : fLk RX6 35 6 4 := bw_mem (w := Cond.fieldLink RX6 35 "ArrowDiagrams$Paths" "arrow" "LArrowDiagrams$Grid;") 215 (by decide +kernel) rfl
theorem kp_X6_39 : fLk RX6 39 6 5 := bw_mem (w := Cond.fieldLink RX6 39 "ArrowDiagrams$Paths" "shorter" "LArrowDiagrams$Row;") 219 (by decide +kernel) rfl
theorem kp_X6_42 : fLk RX6 42 6 6 := bw_mem (w := Cond.fieldLink RX6 42 "ArrowDiagrams$Paths" "longer" "LArrowDiagrams$Grid;") 221 (by decide +kernel) rfl
theorem ko_X7_3 : Cond.methodLink RX7 3 objectInit ∈ BW := bw_mem (w := Cond.methodLink RX7 3 objectInit) 326 (by decide +kernel) rfl
theorem ki_2 : Cond.instantiable (cN 2) (cn 2) ∈ BW := bw_mem (w := Cond.instantiable (cN 2) (cn 2)) 121 (by decide +kernel) rfl
theorem kj_2 : Cond.initialized (cN 2) ∈ BW := bw_mem (w := Cond.initialized (cN 2)) 93 (by decide +kernel) rfl
theorem kc_X7_c9 : Cond.classLink RX7 9 (cN 2) ∈ BW := bw_mem (w := Cond.classLink RX7 9 (cN 2)) 327 (by decide +kernel) rfl
theorem li_X7_11 : lkI RX7 11 yX2_init cX2_init 1 0 true := ⟨by show Cond.methodLinkNest RX7 11 yX2_init "ArrowDiagrams" ∈ XW; decide +kernel, bw_mem (w := Cond.initialized RX2) 93 (by decide +kernel) rfl, bw_mem (w := Cond.code yX2_init cX2_init 1 none) 124 (by decide +kernel) rfl, bw_mem (w := Cond.instanceMethod yX2_init) 123 (by decide +kernel) rfl, rfl, by decide +kernel⟩
theorem kp_X7_12 : fLk RX7 12 7 0 := bw_mem (w := Cond.fieldLink RX7 12 "ArrowDiagrams$Reader" "graph" "LArrowDiagrams$Graph;") 331 (by decide +kernel) rfl
theorem ki_0 : Cond.instantiable (cN 0) (cn 0) ∈ BW := bw_mem (w := Cond.instantiable (cN 0) (cn 0)) 154 (by decide +kernel) rfl
theorem kj_0 : Cond.initialized (cN 0) ∈ BW := bw_mem (w := Cond.initialized (cN 0)) 95 (by decide +kernel) rfl
theorem kc_X7_c18 : Cond.classLink RX7 18 (cN 0) ∈ BW := bw_mem (w := Cond.classLink RX7 18 (cN 0)) 329 (by decide +kernel) rfl
theorem li_X7_20 : lkI RX7 20 yX0_init cX0_init 1 0 true := ⟨by show Cond.methodLinkNest RX7 20 yX0_init "ArrowDiagrams" ∈ XW; decide +kernel, bw_mem (w := Cond.initialized RX0) 95 (by decide +kernel) rfl, bw_mem (w := Cond.code yX0_init cX0_init 1 none) 157 (by decide +kernel) rfl, bw_mem (w := Cond.instanceMethod yX0_init) 156 (by decide +kernel) rfl, rfl, by decide +kernel⟩
theorem kp_X7_21 : fLk RX7 21 7 1 := bw_mem (w := Cond.fieldLink RX7 21 "ArrowDiagrams$Reader" "cells" "LArrowDiagrams$Cells;") 332 (by decide +kernel) rfl
theorem kp_X7_25 : fLk RX7 25 7 2 := bw_mem (w := Cond.fieldLink RX7 25 "ArrowDiagrams$Reader" "place" "I") 333 (by decide +kernel) rfl
theorem kp_X7_29 : fLk RX7 29 7 3 := bw_mem (w := Cond.fieldLink RX7 29 "ArrowDiagrams$Reader" "from" "I") 334 (by decide +kernel) rfl
theorem kp_X7_32 : fLk RX7 32 7 4 := bw_mem (w := Cond.fieldLink RX7 32 "ArrowDiagrams$Reader" "end" "I") 335 (by decide +kernel) rfl
theorem kp_X7_35 : fLk RX7 35 7 5 := bw_mem (w := Cond.fieldLink RX7 35 "ArrowDiagrams$Reader" "firstEnd" "I") 336 (by decide +kernel) rfl
theorem ko_X5_3 : Cond.methodLink RX5 3 objectInit ∈ BW := bw_mem (w := Cond.methodLink RX5 3 objectInit) 245 (by decide +kernel) rfl
theorem kp_X5_9 : fLk RX5 9 5 0 := bw_mem (w := Cond.fieldLink RX5 9 "ArrowDiagrams$Pasting" "fresh" "Z") 254 (by decide +kernel) rfl
theorem kp_X5_15 : fLk RX5 15 5 1 := bw_mem (w := Cond.fieldLink RX5 15 "ArrowDiagrams$Pasting" "coreFresh" "Z") 255 (by decide +kernel) rfl
theorem kp_X5_18 : fLk RX5 18 5 2 := bw_mem (w := Cond.fieldLink RX5 18 "ArrowDiagrams$Pasting" "sides" "I") 256 (by decide +kernel) rfl
theorem kp_X5_22 : fLk RX5 22 5 3 := bw_mem (w := Cond.fieldLink RX5 22 "ArrowDiagrams$Pasting" "classes" "I") 257 (by decide +kernel) rfl
theorem kp_X5_25 : fLk RX5 25 5 4 := bw_mem (w := Cond.fieldLink RX5 25 "ArrowDiagrams$Pasting" "core" "I") 258 (by decide +kernel) rfl
theorem kp_X5_28 : fLk RX5 28 5 5 := bw_mem (w := Cond.fieldLink RX5 28 "ArrowDiagrams$Pasting" "reached" "I") 259 (by decide +kernel) rfl
theorem kc_X5_c31 : Cond.classLink RX5 31 (cN 3) ∈ BW := bw_mem (w := Cond.classLink RX5 31 (cN 3)) 246 (by decide +kernel) rfl
theorem li_X5_33 : lkI RX5 33 yX3_init cX3_init 4 2 false := ⟨bw_mem (w := Cond.methodLink RX5 33 yX3_init) 247 (by decide +kernel) rfl, bw_mem (w := Cond.initialized RX3) 96 (by decide +kernel) rfl, bw_mem (w := Cond.code yX3_init cX3_init 4 none) 165 (by decide +kernel) rfl, bw_mem (w := Cond.instanceMethod yX3_init) 164 (by decide +kernel) rfl, rfl, by decide +kernel⟩
theorem kp_X5_36 : fLk RX5 36 5 6 := bw_mem (w := Cond.fieldLink RX5 36 "ArrowDiagrams$Pasting" "steps" "LArrowDiagrams$Grid;") 260 (by decide +kernel) rfl
theorem kc_X5_c40 : Cond.classLink RX5 40 (cN 8) ∈ BW := bw_mem (w := Cond.classLink RX5 40 (cN 8)) 248 (by decide +kernel) rfl
theorem li_X5_42 : lkI RX5 42 yX8_init cX8_init 2 1 false := ⟨bw_mem (w := Cond.methodLink RX5 42 yX8_init) 249 (by decide +kernel) rfl, bw_mem (w := Cond.initialized RX8) 94 (by decide +kernel) rfl, bw_mem (w := Cond.code yX8_init cX8_init 2 none) 130 (by decide +kernel) rfl, bw_mem (w := Cond.instanceMethod yX8_init) 129 (by decide +kernel) rfl, rfl, by decide +kernel⟩
theorem kp_X5_45 : fLk RX5 45 5 7 := bw_mem (w := Cond.fieldLink RX5 45 "ArrowDiagrams$Pasting" "names" "LArrowDiagrams$Row;") 261 (by decide +kernel) rfl
theorem kp_X5_49 : fLk RX5 49 5 8 := bw_mem (w := Cond.fieldLink RX5 49 "ArrowDiagrams$Pasting" "classSizes" "LArrowDiagrams$Row;") 262 (by decide +kernel) rfl
theorem kp_X5_52 : fLk RX5 52 5 9 := bw_mem (w := Cond.fieldLink RX5 52 "ArrowDiagrams$Pasting" "distances" "LArrowDiagrams$Row;") 263 (by decide +kernel) rfl
theorem kp_X5_55 : fLk RX5 55 5 10 := bw_mem (w := Cond.fieldLink RX5 55 "ArrowDiagrams$Pasting" "queue" "LArrowDiagrams$Row;") 264 (by decide +kernel) rfl
theorem kp_X5_58 : fLk RX5 58 5 11 := bw_mem (w := Cond.fieldLink RX5 58 "ArrowDiagrams$Pasting" "perPair" "LArrowDiagrams$Grid;") 265 (by decide +kernel) rfl
theorem li_X5_61 : lkV RX5 61 yX8_fill cX8_fill 3 none 1 := ⟨⟨bw_mem (w := Cond.methodLink RX5 61 yX8_fill) 250 (by decide +kernel) rfl, bw_mem (w := Cond.initialized RX8) 94 (by decide +kernel) rfl, bw_mem (w := Cond.code yX8_fill cX8_fill 3 none) 253 (by decide +kernel) rfl, by decide +kernel⟩, bw_mem (w := Cond.instanceMethod yX8_fill) 251 (by decide +kernel) rfl, bw_mem (w := Cond.selects RX8 yX8_fill yX8_fill) 252 (by decide +kernel) rfl⟩
theorem ko_X9_3 : Cond.methodLink RX9 3 objectInit ∈ BW := bw_mem (w := Cond.methodLink RX9 3 objectInit) 117 (by decide +kernel) rfl
theorem kc_X9_c9 : Cond.classLink RX9 9 (cN 2) ∈ BW := bw_mem (w := Cond.classLink RX9 9 (cN 2)) 120 (by decide +kernel) rfl
theorem li_X9_11 : lkI RX9 11 yX2_init cX2_init 1 0 true := ⟨by show Cond.methodLinkNest RX9 11 yX2_init "ArrowDiagrams" ∈ XW; decide +kernel, bw_mem (w := Cond.initialized RX2) 93 (by decide +kernel) rfl, bw_mem (w := Cond.code yX2_init cX2_init 1 none) 124 (by decide +kernel) rfl, bw_mem (w := Cond.instanceMethod yX2_init) 123 (by decide +kernel) rfl, rfl, by decide +kernel⟩
theorem kp_X9_12 : fLk RX9 12 9 0 := bw_mem (w := Cond.fieldLink RX9 12 "ArrowDiagrams" "graph" "LArrowDiagrams$Graph;") 427 (by decide +kernel) rfl
theorem kc_X9_c16 : Cond.classLink RX9 16 (cN 0) ∈ BW := bw_mem (w := Cond.classLink RX9 16 (cN 0)) 153 (by decide +kernel) rfl
theorem li_X9_18 : lkI RX9 18 yX0_init cX0_init 1 0 true := ⟨by show Cond.methodLinkNest RX9 18 yX0_init "ArrowDiagrams" ∈ XW; decide +kernel, bw_mem (w := Cond.initialized RX0) 95 (by decide +kernel) rfl, bw_mem (w := Cond.code yX0_init cX0_init 1 none) 157 (by decide +kernel) rfl, bw_mem (w := Cond.instanceMethod yX0_init) 156 (by decide +kernel) rfl, rfl, by decide +kernel⟩
theorem kp_X9_19 : fLk RX9 19 9 1 := bw_mem (w := Cond.fieldLink RX9 19 "ArrowDiagrams" "cells" "LArrowDiagrams$Cells;") 428 (by decide +kernel) rfl
theorem ki_6 : Cond.instantiable (cN 6) (cn 6) ∈ BW := bw_mem (w := Cond.instantiable (cN 6) (cn 6)) 194 (by decide +kernel) rfl
theorem kj_6 : Cond.initialized (cN 6) ∈ BW := bw_mem (w := Cond.initialized (cN 6)) 97 (by decide +kernel) rfl
theorem kc_X9_c23 : Cond.classLink RX9 23 (cN 6) ∈ BW := bw_mem (w := Cond.classLink RX9 23 (cN 6)) 193 (by decide +kernel) rfl
theorem li_X9_25 : lkI RX9 25 yX6_init cX6_init 1 0 true := ⟨by show Cond.methodLinkNest RX9 25 yX6_init "ArrowDiagrams" ∈ XW; decide +kernel, bw_mem (w := Cond.initialized RX6) 97 (by decide +kernel) rfl, bw_mem (w := Cond.code yX6_init cX6_init 1 none) 197 (by decide +kernel) rfl, bw_mem (w := Cond.instanceMethod yX6_init) 196 (by decide +kernel) rfl, rfl, by decide +kernel⟩
theorem kp_X9_26 : fLk RX9 26 9 2 := bw_mem (w := Cond.fieldLink RX9 26 "ArrowDiagrams" "paths" "LArrowDiagrams$Paths;") 429 (by decide +kernel) rfl
theorem ki_5 : Cond.instantiable (cN 5) (cn 5) ∈ BW := bw_mem (w := Cond.instantiable (cN 5) (cn 5)) 241 (by decide +kernel) rfl
theorem kj_5 : Cond.initialized (cN 5) ∈ BW := bw_mem (w := Cond.initialized (cN 5)) 98 (by decide +kernel) rfl
theorem kc_X9_c30 : Cond.classLink RX9 30 (cN 5) ∈ BW := bw_mem (w := Cond.classLink RX9 30 (cN 5)) 240 (by decide +kernel) rfl
theorem li_X9_32 : lkI RX9 32 yX5_init cX5_init 1 0 false := ⟨bw_mem (w := Cond.methodLink RX9 32 yX5_init) 242 (by decide +kernel) rfl, bw_mem (w := Cond.initialized RX5) 98 (by decide +kernel) rfl, bw_mem (w := Cond.code yX5_init cX5_init 1 none) 244 (by decide +kernel) rfl, bw_mem (w := Cond.instanceMethod yX5_init) 243 (by decide +kernel) rfl, rfl, by decide +kernel⟩
theorem kp_X9_33 : fLk RX9 33 9 3 := bw_mem (w := Cond.fieldLink RX9 33 "ArrowDiagrams" "pasting" "LArrowDiagrams$Pasting;") 430 (by decide +kernel) rfl
theorem ki_1 : Cond.instantiable (cN 1) (cn 1) ∈ BW := bw_mem (w := Cond.instantiable (cN 1) (cn 1)) 292 (by decide +kernel) rfl
theorem kj_1 : Cond.initialized (cN 1) ∈ BW := bw_mem (w := Cond.initialized (cN 1)) 99 (by decide +kernel) rfl
theorem kc_X9_c37 : Cond.classLink RX9 37 (cN 1) ∈ BW := bw_mem (w := Cond.classLink RX9 37 (cN 1)) 291 (by decide +kernel) rfl
theorem li_X9_39 : lkI RX9 39 yX1_init cX1_init 1 0 true := ⟨by show Cond.methodLinkNest RX9 39 yX1_init "ArrowDiagrams" ∈ XW; decide +kernel, bw_mem (w := Cond.initialized RX1) 99 (by decide +kernel) rfl, bw_mem (w := Cond.code yX1_init cX1_init 1 none) 295 (by decide +kernel) rfl, bw_mem (w := Cond.instanceMethod yX1_init) 294 (by decide +kernel) rfl, rfl, by decide +kernel⟩
theorem kp_X9_40 : fLk RX9 40 9 4 := bw_mem (w := Cond.fieldLink RX9 40 "ArrowDiagrams" "functions" "LArrowDiagrams$Functions;") 431 (by decide +kernel) rfl
theorem kp_X9_44 : fLk RX9 44 9 5 := bw_mem (w := Cond.fieldLink RX9 44 "ArrowDiagrams" "trial" "LArrowDiagrams$Functions;") 432 (by decide +kernel) rfl
theorem ki_4 : Cond.instantiable (cN 4) (cn 4) ∈ BW := bw_mem (w := Cond.instantiable (cN 4) (cn 4)) 307 (by decide +kernel) rfl
theorem kj_4 : Cond.initialized (cN 4) ∈ BW := bw_mem (w := Cond.initialized (cN 4)) 100 (by decide +kernel) rfl
theorem kc_X9_c47 : Cond.classLink RX9 47 (cN 4) ∈ BW := bw_mem (w := Cond.classLink RX9 47 (cN 4)) 306 (by decide +kernel) rfl
theorem li_X9_49 : lkI RX9 49 yX4_init cX4_init 1 0 true := ⟨by show Cond.methodLinkNest RX9 49 yX4_init "ArrowDiagrams" ∈ XW; decide +kernel, bw_mem (w := Cond.initialized RX4) 100 (by decide +kernel) rfl, bw_mem (w := Cond.code yX4_init cX4_init 1 none) 310 (by decide +kernel) rfl, bw_mem (w := Cond.instanceMethod yX4_init) 309 (by decide +kernel) rfl, rfl, by decide +kernel⟩
theorem kp_X9_50 : fLk RX9 50 9 6 := bw_mem (w := Cond.fieldLink RX9 50 "ArrowDiagrams" "input" "LArrowDiagrams$Input;") 433 (by decide +kernel) rfl
theorem ki_7 : Cond.instantiable (cN 7) (cn 7) ∈ BW := bw_mem (w := Cond.instantiable (cN 7) (cn 7)) 322 (by decide +kernel) rfl
theorem kj_7 : Cond.initialized (cN 7) ∈ BW := bw_mem (w := Cond.initialized (cN 7)) 101 (by decide +kernel) rfl
theorem kc_X9_c54 : Cond.classLink RX9 54 (cN 7) ∈ BW := bw_mem (w := Cond.classLink RX9 54 (cN 7)) 321 (by decide +kernel) rfl
theorem li_X9_56 : lkI RX9 56 yX7_init cX7_init 1 0 true := ⟨by show Cond.methodLinkNest RX9 56 yX7_init "ArrowDiagrams" ∈ XW; decide +kernel, bw_mem (w := Cond.initialized RX7) 101 (by decide +kernel) rfl, bw_mem (w := Cond.code yX7_init cX7_init 1 none) 325 (by decide +kernel) rfl, bw_mem (w := Cond.instanceMethod yX7_init) 324 (by decide +kernel) rfl, rfl, by decide +kernel⟩
theorem kp_X9_57 : fLk RX9 57 9 7 := bw_mem (w := Cond.fieldLink RX9 57 "ArrowDiagrams" "reader" "LArrowDiagrams$Reader;") 434 (by decide +kernel) rfl
theorem li_X9_61 : lkV RX9 61 yX2_clear cX2_clear 2 none 1 := ⟨⟨bw_mem (w := Cond.methodLink RX9 61 yX2_clear) 350 (by decide +kernel) rfl, bw_mem (w := Cond.initialized RX2) 93 (by decide +kernel) rfl, bw_mem (w := Cond.code yX2_clear cX2_clear 2 none) 353 (by decide +kernel) rfl, by decide +kernel⟩, bw_mem (w := Cond.instanceMethod yX2_clear) 351 (by decide +kernel) rfl, bw_mem (w := Cond.selects RX2 yX2_clear yX2_clear) 352 (by decide +kernel) rfl⟩
theorem li_X9_65 : lkV RX9 65 yX1_clear cX1_clear 1 none 0 := ⟨⟨bw_mem (w := Cond.methodLink RX9 65 yX1_clear) 354 (by decide +kernel) rfl, bw_mem (w := Cond.initialized RX1) 99 (by decide +kernel) rfl, bw_mem (w := Cond.code yX1_clear cX1_clear 1 none) 357 (by decide +kernel) rfl, by decide +kernel⟩, bw_mem (w := Cond.instanceMethod yX1_clear) 355 (by decide +kernel) rfl, bw_mem (w := Cond.selects RX1 yX1_clear yX1_clear) 356 (by decide +kernel) rfl⟩
theorem li_X9_67 : lkV RX9 67 yX9_graphChanged cX9_graphChanged 1 none 0 := ⟨⟨bw_mem (w := Cond.methodLink RX9 67 yX9_graphChanged) 359 (by decide +kernel) rfl, bw_mem (w := Cond.initialized RX9) 92 (by decide +kernel) rfl, bw_mem (w := Cond.code yX9_graphChanged cX9_graphChanged 1 none) 362 (by decide +kernel) rfl, by decide +kernel⟩, bw_mem (w := Cond.instanceMethod yX9_graphChanged) 361 (by decide +kernel) rfl, bw_mem (w := Cond.selects RX9 yX9_graphChanged yX9_graphChanged) 0 (by decide +kernel) rfl⟩
theorem ko_X10_1 : Cond.methodLink RX10 1 objectInit ∈ BW := bw_mem (w := Cond.methodLink RX10 1 objectInit) 1173 (by decide +kernel) rfl
theorem kp_X10_7 : fLk RX10 7 10 1 := bw_mem (w := Cond.fieldLink RX10 7 "ArrowDiagramsModel" "n" "I") 1191 (by decide +kernel) rfl
theorem kp_X10_13 : fLk RX10 13 10 3 := bw_mem (w := Cond.fieldLink RX10 13 "ArrowDiagramsModel" "af" "[I") 1193 (by decide +kernel) rfl
theorem kp_X10_17 : fLk RX10 17 10 4 := bw_mem (w := Cond.fieldLink RX10 17 "ArrowDiagramsModel" "at" "[I") 1194 (by decide +kernel) rfl
theorem kp_X10_20 : fLk RX10 20 10 5 := bw_mem (w := Cond.fieldLink RX10 20 "ArrowDiagramsModel" "code" "[I") 1195 (by decide +kernel) rfl
theorem kp_X10_23 : fLk RX10 23 10 6 := bw_mem (w := Cond.fieldLink RX10 23 "ArrowDiagramsModel" "size" "[I") 1196 (by decide +kernel) rfl
theorem kp_X10_26 : fLk RX10 26 10 8 := bw_mem (w := Cond.fieldLink RX10 26 "ArrowDiagramsModel" "cFrom" "[I") 1198 (by decide +kernel) rfl
theorem kp_X10_29 : fLk RX10 29 10 9 := bw_mem (w := Cond.fieldLink RX10 29 "ArrowDiagramsModel" "cLen" "[I") 1199 (by decide +kernel) rfl
theorem kp_X10_32 : fLk RX10 32 10 10 := bw_mem (w := Cond.fieldLink RX10 32 "ArrowDiagramsModel" "cSeq" "[I") 1200 (by decide +kernel) rfl
theorem kp_X10_35 : fLk RX10 35 10 12 := bw_mem (w := Cond.fieldLink RX10 35 "ArrowDiagramsModel" "buffer" "[I") 1202 (by decide +kernel) rfl
theorem kp_X10_38 : fLk RX10 38 10 14 := bw_mem (w := Cond.fieldLink RX10 38 "ArrowDiagramsModel" "pFrom" "[I") 1204 (by decide +kernel) rfl
theorem kp_X10_41 : fLk RX10 41 10 15 := bw_mem (w := Cond.fieldLink RX10 41 "ArrowDiagramsModel" "pTo" "[I") 1205 (by decide +kernel) rfl
theorem kp_X10_44 : fLk RX10 44 10 16 := bw_mem (w := Cond.fieldLink RX10 44 "ArrowDiagramsModel" "pLen" "[I") 1206 (by decide +kernel) rfl
theorem kp_X10_47 : fLk RX10 47 10 17 := bw_mem (w := Cond.fieldLink RX10 47 "ArrowDiagramsModel" "pSeq" "[I") 1207 (by decide +kernel) rfl
theorem kp_X10_50 : fLk RX10 50 10 18 := bw_mem (w := Cond.fieldLink RX10 50 "ArrowDiagramsModel" "on" "[I") 1208 (by decide +kernel) rfl
theorem kp_X10_53 : fLk RX10 53 10 25 := bw_mem (w := Cond.fieldLink RX10 53 "ArrowDiagramsModel" "far" "[I") 1215 (by decide +kernel) rfl
theorem kp_X10_56 : fLk RX10 56 10 26 := bw_mem (w := Cond.fieldLink RX10 56 "ArrowDiagramsModel" "names" "[I") 1216 (by decide +kernel) rfl
theorem kp_X10_59 : fLk RX10 59 10 27 := bw_mem (w := Cond.fieldLink RX10 59 "ArrowDiagramsModel" "line" "[I") 1217 (by decide +kernel) rfl
theorem kp_X10_62 : fLk RX10 62 10 29 := bw_mem (w := Cond.fieldLink RX10 62 "ArrowDiagramsModel" "oldCode" "[I") 1219 (by decide +kernel) rfl
theorem kp_X10_65 : fLk RX10 65 10 30 := bw_mem (w := Cond.fieldLink RX10 65 "ArrowDiagramsModel" "oldSize" "[I") 1220 (by decide +kernel) rfl
theorem li_X10_68 : lkV RX10 68 yX10_fresh cX10_fresh 3 none 1 := ⟨⟨bw_mem (w := Cond.methodLink RX10 68 yX10_fresh) 1174 (by decide +kernel) rfl, bw_mem (w := Cond.initialized RX10) 102 (by decide +kernel) rfl, bw_mem (w := Cond.code yX10_fresh cX10_fresh 3 none) 1177 (by decide +kernel) rfl, by decide +kernel⟩, bw_mem (w := Cond.instanceMethod yX10_fresh) 1176 (by decide +kernel) rfl, bw_mem (w := Cond.selects RX10 yX10_fresh yX10_fresh) 39 (by decide +kernel) rfl⟩
section CTORS
variable {D : va_G} {cI cL : ClassId}
def wX8 (cI : ClassId) (n : Nat) (q : Nat) (u : List Nat) : va_W := [(q, .inr (8, [.ref (u.getD 0 0)])), (u.getD 0 0, .inl (cI, n, .inl (fun _ => 0)))]
def wX3 (cI : ClassId) (r c : Nat) (q : Nat) (u : List Nat) : va_W := [(q, .inr (3, [.int (nI r), .int (nI c), .ref (u.getD 0 0)])), (u.getD 0 0, .inl (cI, r * c, .inl (fun _ => 0)))]
set_option maxHeartbeats 4000000 in
set_option maxRecDepth 100000 in
theorem c_X8_init (l : Launch) (hl : l.stackTraces = false) (h0 : Nat) (n : Nat) (hn : 0 < n) (hn2 : n < 100000) : CTI l D cI cL yX8_init cX8_init 2 1 1 n h0 [.int (nI n)] (.inr (8, [.null])) (wX8 cI n h0) 1 := by
  refine cti_of [(0, .ref h0), (1, .int (nI n))] (by decide +kernel) rfl hl (show 2 ≤ 2 by decide) rfl (fun A X hX K hA => ?_)
  subst hX
  refine n_aload K 0 dX8_init_0 rfl rfl ?_
  refine n_obj K ko_X8_3 ko_1 ko_2 (Nat.le_of_ble_eq_true rfl) (Nat.le_of_ble_eq_true rfl) dX8_init_1 ?_
  refine n_aload K 0 dX8_init_4 rfl rfl ?_
  refine n_iload K 1 dX8_init_5 rfl rfl ?_
  refine n_ifle (tgt := 13) K (nI_nle hn (by omega)) dX8_init_6 (by decide) ?_
  refine n_iload K 1 dX8_init_9 rfl rfl ?_
  refine n_goto (tgt := 14) K dX8_init_10 (by decide) ?_
  refine n_newi (N := n) K ko_3 (nI_pos (by omega)) (nI_clamp (by omega)) (by omega) (Nat.le_of_ble_eq_true rfl) (by show 0 + n ≤ n; omega) dX8_init_14 (fun q14 => ?_)
  refine n_putF K 0 (t := 8) (i := 0) (by decide) rfl (by decide) kp_X8_9 rfl rfl rfl rfl (show 0 < 1 by decide) dX8_init_16 ?_
  exact n_end K [q14] rfl rfl (Nat.le_of_ble_eq_true rfl) (by show 0 + n ≤ n; omega) dX8_init_19
set_option maxHeartbeats 4000000 in
set_option maxRecDepth 100000 in
theorem c_X3_init (l : Launch) (hl : l.stackTraces = false) (h0 : Nat) (r c : Nat) (hr : 0 < r ∧ r < 10000) (hc : 0 < c ∧ c < 10000) (hrc : 0 < r * c) : CTI l D cI cL yX3_init cX3_init 4 1 1 (r * c) h0 [.int (nI r), .int (nI c)] (.inr (3, [.int 0, .int 0, .null])) (wX3 cI r c h0) 1 := by
  have hm : r * c < 100000000 := Nat.lt_of_lt_of_le (Nat.mul_lt_mul_of_lt_of_lt hr.2 hc.2) (by decide)
  refine cti_of [(0, .ref h0), (1, .int (nI r)), (2, .int (nI c))] (by decide +kernel) rfl hl (show 3 ≤ 4 by decide) rfl (fun A X hX K hA => ?_)
  subst hX
  refine n_aload K 0 dX3_init_0 rfl rfl ?_
  refine n_obj K ko_X3_3 ko_1 ko_2 (Nat.le_of_ble_eq_true rfl) (Nat.le_of_ble_eq_true rfl) dX3_init_1 ?_
  refine n_aload K 0 dX3_init_4 rfl rfl ?_
  refine n_iload K 1 dX3_init_5 rfl rfl ?_
  refine n_ifle (tgt := 13) K (nI_nle hr.1 (by omega)) dX3_init_6 (by decide) ?_
  refine n_iload K 1 dX3_init_9 rfl rfl ?_
  refine n_goto (tgt := 14) K dX3_init_10 (by decide) ?_
  refine n_putF K 0 (t := 3) (i := 0) (by decide) rfl (by decide) kp_X3_9 rfl rfl rfl rfl (show 0 < 3 by decide) dX3_init_14 ?_
  refine n_aload K 0 dX3_init_17 rfl rfl ?_
  refine n_iload K 2 dX3_init_18 rfl rfl ?_
  refine n_ifle (tgt := 26) K (nI_nle hc.1 (by omega)) dX3_init_19 (by decide) ?_
  refine n_iload K 2 dX3_init_22 rfl rfl ?_
  refine n_goto (tgt := 27) K dX3_init_23 (by decide) ?_
  refine n_putF K 0 (t := 3) (i := 1) (by decide) rfl (by decide) kp_X3_15 rfl rfl rfl rfl (show 1 < 3 by decide) dX3_init_27 ?_
  refine n_aload K 0 dX3_init_30 rfl rfl ?_
  refine n_get K 0 (t := 3) (i := 0) (by decide) rfl (by decide) kp_X3_9 rfl dX3_init_31 ?_
  refine n_aload K 0 dX3_init_34 rfl rfl ?_
  refine n_get K 0 (t := 3) (i := 1) (by decide) rfl (by decide) kp_X3_15 rfl dX3_init_35 ?_
  refine n_imul K dX3_init_38 ?_
  rw [pk_mul]
  refine n_istore (ls' := [(3, .int (nI (r * c))), (0, .ref h0), (1, .int (nI r)), (2, .int (nI c))]) K dX3_init_39 rfl (by decide) rfl ?_
  refine n_aload K 1 dX3_init_40 rfl rfl ?_
  refine n_iload K 0 dX3_init_41 rfl rfl ?_
  refine n_ifle (tgt := 49) K (nI_nle hrc (by omega)) dX3_init_42 (by decide) ?_
  refine n_iload K 0 dX3_init_45 rfl rfl ?_
  refine n_goto (tgt := 50) K dX3_init_46 (by decide) ?_
  refine n_newi (N := r * c) K ko_3 (nI_pos (by omega)) (nI_clamp (by omega)) (by omega) (Nat.le_of_ble_eq_true rfl) (by show 0 + r * c ≤ r * c; omega) dX3_init_50 (fun q50 => ?_)
  refine n_putF K 0 (t := 3) (i := 2) (by decide) rfl (by decide) kp_X3_18 rfl rfl rfl rfl (show 2 < 3 by decide) dX3_init_52 ?_
  exact n_end K [q50] rfl rfl (Nat.le_of_ble_eq_true rfl) (by show 0 + r * c ≤ r * c; omega) dX3_init_55
def wX2 (cI : ClassId) (h0 : Nat) (u : List Nat) : va_W := [(h0, .inr (2, [.int 0, .int 0, .ref (u.getD 0 0), .ref (u.getD 2 0), .ref (u.getD 4 0)]))] ++ wX8 cI 14 (u.getD 0 0) [u.getD 1 0] ++ wX8 cI 14 (u.getD 2 0) [u.getD 3 0] ++ wX8 cI 8 (u.getD 4 0) [u.getD 5 0]
set_option maxHeartbeats 4000000 in
set_option maxRecDepth 100000 in
theorem c_X2_init (l : Launch) (hl : l.stackTraces = false) (h0 : Nat) : CTI l D cI cL yX2_init cX2_init 1 2 6 39 h0 [] (.inr (2, [.int 0, .int 0, .null, .null, .null])) (wX2 cI h0) 6 := by
  refine cti_of [(0, .ref h0)] (by decide +kernel) rfl hl (show 1 ≤ 1 by decide) rfl (fun A X hX K hA => ?_)
  subst hX
  refine n_aload K 0 dX2_init_0 rfl rfl ?_
  refine n_obj K ko_X2_3 ko_1 ko_2 (Nat.le_of_ble_eq_true rfl) (Nat.le_of_ble_eq_true rfl) dX2_init_1 ?_
  refine n_aload K 0 dX2_init_4 rfl rfl ?_
  refine n_iconst (v := 0) K dX2_init_5 rfl ?_
  refine n_puti K 0 (t := 2) (i := 0) (by decide) rfl (by decide) kp_X2_9 rfl rfl rfl (show 0 < 5 by decide) dX2_init_6 ?_
  show NW _ _ _ _ _ _ _ _ _ _ ([(h0, .inr (2, [.int 0, .int 0, .null, .null, .null]))])
  refine n_aload K 0 dX2_init_9 rfl rfl ?_
  refine n_iconst (v := 0) K dX2_init_10 rfl ?_
  refine n_puti K 0 (t := 2) (i := 1) (by decide) rfl (by decide) kp_X2_15 rfl rfl rfl (show 1 < 5 by decide) dX2_init_11 ?_
  show NW _ _ _ _ _ _ _ _ _ _ ([(h0, .inr (2, [.int 0, .int 0, .null, .null, .null]))])
  refine n_aload K 0 dX2_init_14 rfl rfl ?_
  refine n_new (t := 8) (fs := [.null]) K (by decide) kc_X2_c18 ki_8 kj_8 (by decide) (Nat.le_of_ble_eq_true rfl) (Nat.le_of_ble_eq_true rfl) dX2_init_15 (fun q15 => ?_)
  refine n_dup K dX2_init_18 ?_
  refine n_bipush (v := 14) K dX2_init_19 rfl ?_
  refine n_call (as := [.int 14]) K false li_X2_20 (c_X8_init X.2.1 hl q15 14 (by decide) (by decide)) rfl (Nat.le_of_ble_eq_true rfl) ⟨Nat.le_of_ble_eq_true rfl, Nat.le_of_ble_eq_true rfl⟩ ⟨Nat.le_of_ble_eq_true rfl, Nat.le_of_ble_eq_true rfl⟩ rfl dX2_init_21 (fun u21 hu21 => ?_)
  refine n_putF K 0 (t := 2) (i := 2) (by decide) rfl (by decide) kp_X2_23 rfl rfl rfl rfl (show 2 < 5 by decide) dX2_init_24 ?_
  show NW _ _ _ _ _ _ _ _ _ _ ([(h0, .inr (2, [.int 0, .int 0, .ref q15, .null, .null]))] ++ wX8 cI 14 q15 u21)
  refine n_aload K 0 dX2_init_27 rfl rfl ?_
  refine n_new (t := 8) (fs := [.null]) K (by decide) kc_X2_c18 ki_8 kj_8 (by decide) (Nat.le_of_ble_eq_true rfl) (Nat.le_of_ble_eq_true rfl) dX2_init_28 (fun q28 => ?_)
  refine n_dup K dX2_init_31 ?_
  refine n_bipush (v := 14) K dX2_init_32 rfl ?_
  refine n_call (as := [.int 14]) K false li_X2_20 (c_X8_init X.2.1 hl q28 14 (by decide) (by decide)) rfl (Nat.le_of_ble_eq_true rfl) ⟨Nat.le_of_ble_eq_true rfl, Nat.le_of_ble_eq_true rfl⟩ ⟨Nat.le_of_ble_eq_true rfl, Nat.le_of_ble_eq_true rfl⟩ rfl dX2_init_34 (fun u34 hu34 => ?_)
  refine n_putF K 0 (t := 2) (i := 3) (by decide) rfl (by decide) kp_X2_27 rfl rfl rfl rfl (show 3 < 5 by decide) dX2_init_37 ?_
  show NW _ _ _ _ _ _ _ _ _ _ ([(h0, .inr (2, [.int 0, .int 0, .ref q15, .ref q28, .null]))] ++ wX8 cI 14 q15 u21 ++ wX8 cI 14 q28 u34)
  refine n_aload K 0 dX2_init_40 rfl rfl ?_
  refine n_new (t := 8) (fs := [.null]) K (by decide) kc_X2_c18 ki_8 kj_8 (by decide) (Nat.le_of_ble_eq_true rfl) (Nat.le_of_ble_eq_true rfl) dX2_init_41 (fun q41 => ?_)
  refine n_dup K dX2_init_44 ?_
  refine n_bipush (v := 8) K dX2_init_45 rfl ?_
  refine n_call (as := [.int 8]) K false li_X2_20 (c_X8_init X.2.1 hl q41 8 (by decide) (by decide)) rfl (Nat.le_of_ble_eq_true rfl) ⟨Nat.le_of_ble_eq_true rfl, Nat.le_of_ble_eq_true rfl⟩ ⟨Nat.le_of_ble_eq_true rfl, Nat.le_of_ble_eq_true rfl⟩ rfl dX2_init_47 (fun u47 hu47 => ?_)
  refine n_putF K 0 (t := 2) (i := 4) (by decide) rfl (by decide) kp_X2_30 rfl rfl rfl rfl (show 4 < 5 by decide) dX2_init_50 ?_
  show NW _ _ _ _ _ _ _ _ _ _ ([(h0, .inr (2, [.int 0, .int 0, .ref q15, .ref q28, .ref q41]))] ++ wX8 cI 14 q15 u21 ++ wX8 cI 14 q28 u34 ++ wX8 cI 8 q41 u47)
  exact n_end K [q15, u21.getD 0 0, q28, u34.getD 0 0, q41, u47.getD 0 0] rfl rfl (Nat.le_of_ble_eq_true rfl) (Nat.le_of_ble_eq_true rfl) dX2_init_53
def wX0 (cI : ClassId) (h0 : Nat) (u : List Nat) : va_W := [(h0, .inr (0, [.int 0, .ref (u.getD 0 0), .ref (u.getD 2 0), .ref (u.getD 4 0), .ref (u.getD 6 0)]))] ++ wX8 cI 10 (u.getD 0 0) [u.getD 1 0] ++ wX8 cI 20 (u.getD 2 0) [u.getD 3 0] ++ wX3 cI 20 7 (u.getD 4 0) [u.getD 5 0] ++ wX8 cI 20 (u.getD 6 0) [u.getD 7 0]
set_option maxHeartbeats 4000000 in
set_option maxRecDepth 100000 in
theorem c_X0_init (l : Launch) (hl : l.stackTraces = false) (h0 : Nat) : CTI l D cI cL yX0_init cX0_init 1 2 8 196 h0 [] (.inr (0, [.int 0, .null, .null, .null, .null])) (wX0 cI h0) 8 := by
  refine cti_of [(0, .ref h0)] (by decide +kernel) rfl hl (show 1 ≤ 1 by decide) rfl (fun A X hX K hA => ?_)
  subst hX
  refine n_aload K 0 dX0_init_0 rfl rfl ?_
  refine n_obj K ko_X0_3 ko_1 ko_2 (Nat.le_of_ble_eq_true rfl) (Nat.le_of_ble_eq_true rfl) dX0_init_1 ?_
  refine n_aload K 0 dX0_init_4 rfl rfl ?_
  refine n_iconst (v := 0) K dX0_init_5 rfl ?_
  refine n_puti K 0 (t := 0) (i := 0) (by decide) rfl (by decide) kp_X0_9 rfl rfl rfl (show 0 < 5 by decide) dX0_init_6 ?_
  show NW _ _ _ _ _ _ _ _ _ _ ([(h0, .inr (0, [.int 0, .null, .null, .null, .null]))])
  refine n_aload K 0 dX0_init_9 rfl rfl ?_
  refine n_new (t := 8) (fs := [.null]) K (by decide) kc_X0_c15 ki_8 kj_8 (by decide) (Nat.le_of_ble_eq_true rfl) (Nat.le_of_ble_eq_true rfl) dX0_init_10 (fun q10 => ?_)
  refine n_dup K dX0_init_13 ?_
  refine n_bipush (v := 10) K dX0_init_14 rfl ?_
  refine n_call (as := [.int 10]) K false li_X0_17 (c_X8_init X.2.1 hl q10 10 (by decide) (by decide)) rfl (Nat.le_of_ble_eq_true rfl) ⟨Nat.le_of_ble_eq_true rfl, Nat.le_of_ble_eq_true rfl⟩ ⟨Nat.le_of_ble_eq_true rfl, Nat.le_of_ble_eq_true rfl⟩ rfl dX0_init_16 (fun u16 hu16 => ?_)
  refine n_putF K 0 (t := 0) (i := 1) (by decide) rfl (by decide) kp_X0_20 rfl rfl rfl rfl (show 1 < 5 by decide) dX0_init_19 ?_
  show NW _ _ _ _ _ _ _ _ _ _ ([(h0, .inr (0, [.int 0, .ref q10, .null, .null, .null]))] ++ wX8 cI 10 q10 u16)
  refine n_aload K 0 dX0_init_22 rfl rfl ?_
  refine n_new (t := 8) (fs := [.null]) K (by decide) kc_X0_c15 ki_8 kj_8 (by decide) (Nat.le_of_ble_eq_true rfl) (Nat.le_of_ble_eq_true rfl) dX0_init_23 (fun q23 => ?_)
  refine n_dup K dX0_init_26 ?_
  refine n_bipush (v := 20) K dX0_init_27 rfl ?_
  refine n_call (as := [.int 20]) K false li_X0_17 (c_X8_init X.2.1 hl q23 20 (by decide) (by decide)) rfl (Nat.le_of_ble_eq_true rfl) ⟨Nat.le_of_ble_eq_true rfl, Nat.le_of_ble_eq_true rfl⟩ ⟨Nat.le_of_ble_eq_true rfl, Nat.le_of_ble_eq_true rfl⟩ rfl dX0_init_29 (fun u29 hu29 => ?_)
  refine n_putF K 0 (t := 0) (i := 2) (by decide) rfl (by decide) kp_X0_24 rfl rfl rfl rfl (show 2 < 5 by decide) dX0_init_32 ?_
  show NW _ _ _ _ _ _ _ _ _ _ ([(h0, .inr (0, [.int 0, .ref q10, .ref q23, .null, .null]))] ++ wX8 cI 10 q10 u16 ++ wX8 cI 20 q23 u29)
  refine n_aload K 0 dX0_init_35 rfl rfl ?_
  refine n_new (t := 3) (fs := [.int 0, .int 0, .null]) K (by decide) kc_X0_c27 ki_3 kj_3 (by decide) (Nat.le_of_ble_eq_true rfl) (Nat.le_of_ble_eq_true rfl) dX0_init_36 (fun q36 => ?_)
  refine n_dup K dX0_init_39 ?_
  refine n_bipush (v := 20) K dX0_init_40 rfl ?_
  refine n_bipush (v := 7) K dX0_init_42 rfl ?_
  refine n_call (as := [.int 20, .int 7]) K false li_X0_29 (c_X3_init X.2.1 hl q36 20 7 (by decide) (by decide) (by decide)) rfl (Nat.le_of_ble_eq_true rfl) ⟨Nat.le_of_ble_eq_true rfl, Nat.le_of_ble_eq_true rfl⟩ ⟨Nat.le_of_ble_eq_true rfl, Nat.le_of_ble_eq_true rfl⟩ rfl dX0_init_44 (fun u44 hu44 => ?_)
  refine n_putF K 0 (t := 0) (i := 3) (by decide) rfl (by decide) kp_X0_32 rfl rfl rfl rfl (show 3 < 5 by decide) dX0_init_47 ?_
  show NW _ _ _ _ _ _ _ _ _ _ ([(h0, .inr (0, [.int 0, .ref q10, .ref q23, .ref q36, .null]))] ++ wX8 cI 10 q10 u16 ++ wX8 cI 20 q23 u29 ++ wX3 cI 20 7 q36 u44)
  refine n_aload K 0 dX0_init_50 rfl rfl ?_
  refine n_new (t := 8) (fs := [.null]) K (by decide) kc_X0_c15 ki_8 kj_8 (by decide) (Nat.le_of_ble_eq_true rfl) (Nat.le_of_ble_eq_true rfl) dX0_init_51 (fun q51 => ?_)
  refine n_dup K dX0_init_54 ?_
  refine n_bipush (v := 20) K dX0_init_55 rfl ?_
  refine n_call (as := [.int 20]) K false li_X0_17 (c_X8_init X.2.1 hl q51 20 (by decide) (by decide)) rfl (Nat.le_of_ble_eq_true rfl) ⟨Nat.le_of_ble_eq_true rfl, Nat.le_of_ble_eq_true rfl⟩ ⟨Nat.le_of_ble_eq_true rfl, Nat.le_of_ble_eq_true rfl⟩ rfl dX0_init_57 (fun u57 hu57 => ?_)
  refine n_putF K 0 (t := 0) (i := 4) (by decide) rfl (by decide) kp_X0_36 rfl rfl rfl rfl (show 4 < 5 by decide) dX0_init_60 ?_
  show NW _ _ _ _ _ _ _ _ _ _ ([(h0, .inr (0, [.int 0, .ref q10, .ref q23, .ref q36, .ref q51]))] ++ wX8 cI 10 q10 u16 ++ wX8 cI 20 q23 u29 ++ wX3 cI 20 7 q36 u44 ++ wX8 cI 20 q51 u57)
  exact n_end K [q10, u16.getD 0 0, q23, u29.getD 0 0, q36, u44.getD 0 0, q51, u57.getD 0 0] rfl rfl (Nat.le_of_ble_eq_true rfl) (Nat.le_of_ble_eq_true rfl) dX0_init_63
def wX1 (cI : ClassId) (h0 : Nat) (u : List Nat) : va_W := [(h0, .inr (1, [.ref (u.getD 0 0), .ref (u.getD 2 0)]))] ++ wX8 cI 8 (u.getD 0 0) [u.getD 1 0] ++ wX8 cI 14 (u.getD 2 0) [u.getD 3 0]
set_option maxHeartbeats 4000000 in
set_option maxRecDepth 100000 in
theorem c_X1_init (l : Launch) (hl : l.stackTraces = false) (h0 : Nat) : CTI l D cI cL yX1_init cX1_init 1 2 4 24 h0 [] (.inr (1, [.null, .null])) (wX1 cI h0) 4 := by
  refine cti_of [(0, .ref h0)] (by decide +kernel) rfl hl (show 1 ≤ 1 by decide) rfl (fun A X hX K hA => ?_)
  subst hX
  refine n_aload K 0 dX1_init_0 rfl rfl ?_
  refine n_obj K ko_X1_3 ko_1 ko_2 (Nat.le_of_ble_eq_true rfl) (Nat.le_of_ble_eq_true rfl) dX1_init_1 ?_
  refine n_aload K 0 dX1_init_4 rfl rfl ?_
  refine n_new (t := 8) (fs := [.null]) K (by decide) kc_X1_c9 ki_8 kj_8 (by decide) (Nat.le_of_ble_eq_true rfl) (Nat.le_of_ble_eq_true rfl) dX1_init_5 (fun q5 => ?_)
  refine n_dup K dX1_init_8 ?_
  refine n_bipush (v := 8) K dX1_init_9 rfl ?_
  refine n_call (as := [.int 8]) K false li_X1_11 (c_X8_init X.2.1 hl q5 8 (by decide) (by decide)) rfl (Nat.le_of_ble_eq_true rfl) ⟨Nat.le_of_ble_eq_true rfl, Nat.le_of_ble_eq_true rfl⟩ ⟨Nat.le_of_ble_eq_true rfl, Nat.le_of_ble_eq_true rfl⟩ rfl dX1_init_11 (fun u11 hu11 => ?_)
  refine n_putF K 0 (t := 1) (i := 0) (by decide) rfl (by decide) kp_X1_14 rfl rfl rfl rfl (show 0 < 2 by decide) dX1_init_14 ?_
  show NW _ _ _ _ _ _ _ _ _ _ ([(h0, .inr (1, [.ref q5, .null]))] ++ wX8 cI 8 q5 u11)
  refine n_aload K 0 dX1_init_17 rfl rfl ?_
  refine n_new (t := 8) (fs := [.null]) K (by decide) kc_X1_c9 ki_8 kj_8 (by decide) (Nat.le_of_ble_eq_true rfl) (Nat.le_of_ble_eq_true rfl) dX1_init_18 (fun q18 => ?_)
  refine n_dup K dX1_init_21 ?_
  refine n_bipush (v := 14) K dX1_init_22 rfl ?_
  refine n_call (as := [.int 14]) K false li_X1_11 (c_X8_init X.2.1 hl q18 14 (by decide) (by decide)) rfl (Nat.le_of_ble_eq_true rfl) ⟨Nat.le_of_ble_eq_true rfl, Nat.le_of_ble_eq_true rfl⟩ ⟨Nat.le_of_ble_eq_true rfl, Nat.le_of_ble_eq_true rfl⟩ rfl dX1_init_24 (fun u24 hu24 => ?_)
  refine n_putF K 0 (t := 1) (i := 1) (by decide) rfl (by decide) kp_X1_20 rfl rfl rfl rfl (show 1 < 2 by decide) dX1_init_27 ?_
  show NW _ _ _ _ _ _ _ _ _ _ ([(h0, .inr (1, [.ref q5, .ref q18]))] ++ wX8 cI 8 q5 u11 ++ wX8 cI 14 q18 u24)
  exact n_end K [q5, u11.getD 0 0, q18, u24.getD 0 0] rfl rfl (Nat.le_of_ble_eq_true rfl) (Nat.le_of_ble_eq_true rfl) dX1_init_30
def wX4 (cI : ClassId) (h0 : Nat) (u : List Nat) : va_W := [(h0, .inr (4, [.int 0, .ref (u.getD 0 0)]))] ++ wX8 cI 60 (u.getD 0 0) [u.getD 1 0]
set_option maxHeartbeats 4000000 in
set_option maxRecDepth 100000 in
theorem c_X4_init (l : Launch) (hl : l.stackTraces = false) (h0 : Nat) : CTI l D cI cL yX4_init cX4_init 1 2 2 61 h0 [] (.inr (4, [.int 0, .null])) (wX4 cI h0) 2 := by
  refine cti_of [(0, .ref h0)] (by decide +kernel) rfl hl (show 1 ≤ 1 by decide) rfl (fun A X hX K hA => ?_)
  subst hX
  refine n_aload K 0 dX4_init_0 rfl rfl ?_
  refine n_obj K ko_X4_3 ko_1 ko_2 (Nat.le_of_ble_eq_true rfl) (Nat.le_of_ble_eq_true rfl) dX4_init_1 ?_
  refine n_aload K 0 dX4_init_4 rfl rfl ?_
  refine n_iconst (v := 0) K dX4_init_5 rfl ?_
  refine n_puti K 0 (t := 4) (i := 0) (by decide) rfl (by decide) kp_X4_9 rfl rfl rfl (show 0 < 2 by decide) dX4_init_6 ?_
  show NW _ _ _ _ _ _ _ _ _ _ ([(h0, .inr (4, [.int 0, .null]))])
  refine n_aload K 0 dX4_init_9 rfl rfl ?_
  refine n_new (t := 8) (fs := [.null]) K (by decide) kc_X4_c15 ki_8 kj_8 (by decide) (Nat.le_of_ble_eq_true rfl) (Nat.le_of_ble_eq_true rfl) dX4_init_10 (fun q10 => ?_)
  refine n_dup K dX4_init_13 ?_
  refine n_bipush (v := 60) K dX4_init_14 rfl ?_
  refine n_call (as := [.int 60]) K false li_X4_17 (c_X8_init X.2.1 hl q10 60 (by decide) (by decide)) rfl (Nat.le_of_ble_eq_true rfl) ⟨Nat.le_of_ble_eq_true rfl, Nat.le_of_ble_eq_true rfl⟩ ⟨Nat.le_of_ble_eq_true rfl, Nat.le_of_ble_eq_true rfl⟩ rfl dX4_init_16 (fun u16 hu16 => ?_)
  refine n_putF K 0 (t := 4) (i := 1) (by decide) rfl (by decide) kp_X4_20 rfl rfl rfl rfl (show 1 < 2 by decide) dX4_init_19 ?_
  show NW _ _ _ _ _ _ _ _ _ _ ([(h0, .inr (4, [.int 0, .ref q10]))] ++ wX8 cI 60 q10 u16)
  exact n_end K [q10, u16.getD 0 0] rfl rfl (Nat.le_of_ble_eq_true rfl) (Nat.le_of_ble_eq_true rfl) dX4_init_22
def wX6 (cI : ClassId) (h0 : Nat) (u : List Nat) : va_W := [(h0, .inr (6, [.int 0, .ref (u.getD 0 0), .ref (u.getD 2 0), .ref (u.getD 4 0), .ref (u.getD 6 0), .ref (u.getD 8 0), .ref (u.getD 10 0)]))] ++ wX8 cI 300 (u.getD 0 0) [u.getD 1 0] ++ wX8 cI 300 (u.getD 2 0) [u.getD 3 0] ++ wX8 cI 300 (u.getD 4 0) [u.getD 5 0] ++ wX3 cI 300 7 (u.getD 6 0) [u.getD 7 0] ++ wX8 cI 300 (u.getD 8 0) [u.getD 9 0] ++ wX3 cI 300 14 (u.getD 10 0) [u.getD 11 0]
set_option maxHeartbeats 4000000 in
set_option maxRecDepth 100000 in
theorem c_X6_init (l : Launch) (hl : l.stackTraces = false) (h0 : Nat) : CTI l D cI cL yX6_init cX6_init 1 2 12 7510 h0 [] (.inr (6, [.int 0, .null, .null, .null, .null, .null, .null])) (wX6 cI h0) 12 := by
  refine cti_of [(0, .ref h0)] (by decide +kernel) rfl hl (show 1 ≤ 1 by decide) rfl (fun A X hX K hA => ?_)
  subst hX
  refine n_aload K 0 dX6_init_0 rfl rfl ?_
  refine n_obj K ko_X6_3 ko_1 ko_2 (Nat.le_of_ble_eq_true rfl) (Nat.le_of_ble_eq_true rfl) dX6_init_1 ?_
  refine n_aload K 0 dX6_init_4 rfl rfl ?_
  refine n_iconst (v := 0) K dX6_init_5 rfl ?_
  refine n_puti K 0 (t := 6) (i := 0) (by decide) rfl (by decide) kp_X6_9 rfl rfl rfl (show 0 < 7 by decide) dX6_init_6 ?_
  show NW _ _ _ _ _ _ _ _ _ _ ([(h0, .inr (6, [.int 0, .null, .null, .null, .null, .null, .null]))])
  refine n_aload K 0 dX6_init_9 rfl rfl ?_
  refine n_new (t := 8) (fs := [.null]) K (by decide) kc_X6_c15 ki_8 kj_8 (by decide) (Nat.le_of_ble_eq_true rfl) (Nat.le_of_ble_eq_true rfl) dX6_init_10 (fun q10 => ?_)
  refine n_dup K dX6_init_13 ?_
  refine n_sipush (v := 300) K dX6_init_14 rfl ?_
  refine n_call (as := [.int 300]) K false li_X6_17 (c_X8_init X.2.1 hl q10 300 (by decide) (by decide)) rfl (Nat.le_of_ble_eq_true rfl) ⟨Nat.le_of_ble_eq_true rfl, Nat.le_of_ble_eq_true rfl⟩ ⟨Nat.le_of_ble_eq_true rfl, Nat.le_of_ble_eq_true rfl⟩ rfl dX6_init_17 (fun u17 hu17 => ?_)
  refine n_putF K 0 (t := 6) (i := 1) (by decide) rfl (by decide) kp_X6_20 rfl rfl rfl rfl (show 1 < 7 by decide) dX6_init_20 ?_
  show NW _ _ _ _ _ _ _ _ _ _ ([(h0, .inr (6, [.int 0, .ref q10, .null, .null, .null, .null, .null]))] ++ wX8 cI 300 q10 u17)
  refine n_aload K 0 dX6_init_23 rfl rfl ?_
  refine n_new (t := 8) (fs := [.null]) K (by decide) kc_X6_c15 ki_8 kj_8 (by decide) (Nat.le_of_ble_eq_true rfl) (Nat.le_of_ble_eq_true rfl) dX6_init_24 (fun q24 => ?_)
  refine n_dup K dX6_init_27 ?_
  refine n_sipush (v := 300) K dX6_init_28 rfl ?_
  refine n_call (as := [.int 300]) K false li_X6_17 (c_X8_init X.2.1 hl q24 300 (by decide) (by decide)) rfl (Nat.le_of_ble_eq_true rfl) ⟨Nat.le_of_ble_eq_true rfl, Nat.le_of_ble_eq_true rfl⟩ ⟨Nat.le_of_ble_eq_true rfl, Nat.le_of_ble_eq_true rfl⟩ rfl dX6_init_31 (fun u31 hu31 => ?_)
  refine n_putF K 0 (t := 6) (i := 2) (by decide) rfl (by decide) kp_X6_24 rfl rfl rfl rfl (show 2 < 7 by decide) dX6_init_34 ?_
  show NW _ _ _ _ _ _ _ _ _ _ ([(h0, .inr (6, [.int 0, .ref q10, .ref q24, .null, .null, .null, .null]))] ++ wX8 cI 300 q10 u17 ++ wX8 cI 300 q24 u31)
  refine n_aload K 0 dX6_init_37 rfl rfl ?_
  refine n_new (t := 8) (fs := [.null]) K (by decide) kc_X6_c15 ki_8 kj_8 (by decide) (Nat.le_of_ble_eq_true rfl) (Nat.le_of_ble_eq_true rfl) dX6_init_38 (fun q38 => ?_)
  refine n_dup K dX6_init_41 ?_
  refine n_sipush (v := 300) K dX6_init_42 rfl ?_
  refine n_call (as := [.int 300]) K false li_X6_17 (c_X8_init X.2.1 hl q38 300 (by decide) (by decide)) rfl (Nat.le_of_ble_eq_true rfl) ⟨Nat.le_of_ble_eq_true rfl, Nat.le_of_ble_eq_true rfl⟩ ⟨Nat.le_of_ble_eq_true rfl, Nat.le_of_ble_eq_true rfl⟩ rfl dX6_init_45 (fun u45 hu45 => ?_)
  refine n_putF K 0 (t := 6) (i := 3) (by decide) rfl (by decide) kp_X6_27 rfl rfl rfl rfl (show 3 < 7 by decide) dX6_init_48 ?_
  show NW _ _ _ _ _ _ _ _ _ _ ([(h0, .inr (6, [.int 0, .ref q10, .ref q24, .ref q38, .null, .null, .null]))] ++ wX8 cI 300 q10 u17 ++ wX8 cI 300 q24 u31 ++ wX8 cI 300 q38 u45)
  refine n_aload K 0 dX6_init_51 rfl rfl ?_
  refine n_new (t := 3) (fs := [.int 0, .int 0, .null]) K (by decide) kc_X6_c30 ki_3 kj_3 (by decide) (Nat.le_of_ble_eq_true rfl) (Nat.le_of_ble_eq_true rfl) dX6_init_52 (fun q52 => ?_)
  refine n_dup K dX6_init_55 ?_
  refine n_sipush (v := 300) K dX6_init_56 rfl ?_
  refine n_bipush (v := 7) K dX6_init_59 rfl ?_
  refine n_call (as := [.int 300, .int 7]) K false li_X6_32 (c_X3_init X.2.1 hl q52 300 7 (by decide) (by decide) (by decide)) rfl (Nat.le_of_ble_eq_true rfl) ⟨Nat.le_of_ble_eq_true rfl, Nat.le_of_ble_eq_true rfl⟩ ⟨Nat.le_of_ble_eq_true rfl, Nat.le_of_ble_eq_true rfl⟩ rfl dX6_init_61 (fun u61 hu61 => ?_)
  refine n_putF K 0 (t := 6) (i := 4) (by decide) rfl (by decide) kp_X6_35 rfl rfl rfl rfl (show 4 < 7 by decide) dX6_init_64 ?_
  show NW _ _ _ _ _ _ _ _ _ _ ([(h0, .inr (6, [.int 0, .ref q10, .ref q24, .ref q38, .ref q52, .null, .null]))] ++ wX8 cI 300 q10 u17 ++ wX8 cI 300 q24 u31 ++ wX8 cI 300 q38 u45 ++ wX3 cI 300 7 q52 u61)
  refine n_aload K 0 dX6_init_67 rfl rfl ?_
  refine n_new (t := 8) (fs := [.null]) K (by decide) kc_X6_c15 ki_8 kj_8 (by decide) (Nat.le_of_ble_eq_true rfl) (Nat.le_of_ble_eq_true rfl) dX6_init_68 (fun q68 => ?_)
  refine n_dup K dX6_init_71 ?_
  refine n_sipush (v := 300) K dX6_init_72 rfl ?_
  refine n_call (as := [.int 300]) K false li_X6_17 (c_X8_init X.2.1 hl q68 300 (by decide) (by decide)) rfl (Nat.le_of_ble_eq_true rfl) ⟨Nat.le_of_ble_eq_true rfl, Nat.le_of_ble_eq_true rfl⟩ ⟨Nat.le_of_ble_eq_true rfl, Nat.le_of_ble_eq_true rfl⟩ rfl dX6_init_75 (fun u75 hu75 => ?_)
  refine n_putF K 0 (t := 6) (i := 5) (by decide) rfl (by decide) kp_X6_39 rfl rfl rfl rfl (show 5 < 7 by decide) dX6_init_78 ?_
  show NW _ _ _ _ _ _ _ _ _ _ ([(h0, .inr (6, [.int 0, .ref q10, .ref q24, .ref q38, .ref q52, .ref q68, .null]))] ++ wX8 cI 300 q10 u17 ++ wX8 cI 300 q24 u31 ++ wX8 cI 300 q38 u45 ++ wX3 cI 300 7 q52 u61 ++ wX8 cI 300 q68 u75)
  refine n_aload K 0 dX6_init_81 rfl rfl ?_
  refine n_new (t := 3) (fs := [.int 0, .int 0, .null]) K (by decide) kc_X6_c30 ki_3 kj_3 (by decide) (Nat.le_of_ble_eq_true rfl) (Nat.le_of_ble_eq_true rfl) dX6_init_82 (fun q82 => ?_)
  refine n_dup K dX6_init_85 ?_
  refine n_sipush (v := 300) K dX6_init_86 rfl ?_
  refine n_bipush (v := 14) K dX6_init_89 rfl ?_
  refine n_call (as := [.int 300, .int 14]) K false li_X6_32 (c_X3_init X.2.1 hl q82 300 14 (by decide) (by decide) (by decide)) rfl (Nat.le_of_ble_eq_true rfl) ⟨Nat.le_of_ble_eq_true rfl, Nat.le_of_ble_eq_true rfl⟩ ⟨Nat.le_of_ble_eq_true rfl, Nat.le_of_ble_eq_true rfl⟩ rfl dX6_init_91 (fun u91 hu91 => ?_)
  refine n_putF K 0 (t := 6) (i := 6) (by decide) rfl (by decide) kp_X6_42 rfl rfl rfl rfl (show 6 < 7 by decide) dX6_init_94 ?_
  show NW _ _ _ _ _ _ _ _ _ _ ([(h0, .inr (6, [.int 0, .ref q10, .ref q24, .ref q38, .ref q52, .ref q68, .ref q82]))] ++ wX8 cI 300 q10 u17 ++ wX8 cI 300 q24 u31 ++ wX8 cI 300 q38 u45 ++ wX3 cI 300 7 q52 u61 ++ wX8 cI 300 q68 u75 ++ wX3 cI 300 14 q82 u91)
  exact n_end K [q10, u17.getD 0 0, q24, u31.getD 0 0, q38, u45.getD 0 0, q52, u61.getD 0 0, q68, u75.getD 0 0, q82, u91.getD 0 0] rfl rfl (Nat.le_of_ble_eq_true rfl) (Nat.le_of_ble_eq_true rfl) dX6_init_97
def wX7 (cI : ClassId) (h0 : Nat) (u : List Nat) : va_W := [(h0, .inr (7, [.ref (u.getD 0 0), .ref (u.getD 7 0), .int 0, .int 0, .int 0, .int 0]))] ++ wX2 cI (u.getD 0 0) [u.getD 1 0, u.getD 2 0, u.getD 3 0, u.getD 4 0, u.getD 5 0, u.getD 6 0] ++ wX0 cI (u.getD 7 0) [u.getD 8 0, u.getD 9 0, u.getD 10 0, u.getD 11 0, u.getD 12 0, u.getD 13 0, u.getD 14 0, u.getD 15 0]
set_option maxHeartbeats 4000000 in
set_option maxRecDepth 100000 in
theorem c_X7_init (l : Launch) (hl : l.stackTraces = false) (h0 : Nat) : CTI l D cI cL yX7_init cX7_init 1 3 16 245 h0 [] (.inr (7, [.null, .null, .int 0, .int 0, .int 0, .int 0])) (wX7 cI h0) 16 := by
  refine cti_of [(0, .ref h0)] (by decide +kernel) rfl hl (show 1 ≤ 1 by decide) rfl (fun A X hX K hA => ?_)
  subst hX
  refine n_aload K 0 dX7_init_0 rfl rfl ?_
  refine n_obj K ko_X7_3 ko_1 ko_2 (Nat.le_of_ble_eq_true rfl) (Nat.le_of_ble_eq_true rfl) dX7_init_1 ?_
  refine n_aload K 0 dX7_init_4 rfl rfl ?_
  refine n_new (t := 2) (fs := [.int 0, .int 0, .null, .null, .null]) K (by decide) kc_X7_c9 ki_2 kj_2 (by decide) (Nat.le_of_ble_eq_true rfl) (Nat.le_of_ble_eq_true rfl) dX7_init_5 (fun q5 => ?_)
  refine n_dup K dX7_init_8 ?_
  refine n_call (as := []) K true li_X7_11 (c_X2_init X.2.1 hl q5 ) rfl (Nat.le_of_ble_eq_true rfl) ⟨Nat.le_of_ble_eq_true rfl, Nat.le_of_ble_eq_true rfl⟩ ⟨Nat.le_of_ble_eq_true rfl, Nat.le_of_ble_eq_true rfl⟩ rfl dX7_init_9 (fun u9 hu9 => ?_)
  refine n_putF K 0 (t := 7) (i := 0) (by decide) rfl (by decide) kp_X7_12 rfl rfl rfl rfl (show 0 < 6 by decide) dX7_init_12 ?_
  show NW _ _ _ _ _ _ _ _ _ _ ([(h0, .inr (7, [.ref q5, .null, .int 0, .int 0, .int 0, .int 0]))] ++ wX2 cI q5 u9)
  refine n_aload K 0 dX7_init_15 rfl rfl ?_
  refine n_new (t := 0) (fs := [.int 0, .null, .null, .null, .null]) K (by decide) kc_X7_c18 ki_0 kj_0 (by decide) (Nat.le_of_ble_eq_true rfl) (Nat.le_of_ble_eq_true rfl) dX7_init_16 (fun q16 => ?_)
  refine n_dup K dX7_init_19 ?_
  refine n_call (as := []) K true li_X7_20 (c_X0_init X.2.1 hl q16 ) rfl (Nat.le_of_ble_eq_true rfl) ⟨Nat.le_of_ble_eq_true rfl, Nat.le_of_ble_eq_true rfl⟩ ⟨Nat.le_of_ble_eq_true rfl, Nat.le_of_ble_eq_true rfl⟩ rfl dX7_init_20 (fun u20 hu20 => ?_)
  refine n_putF K 0 (t := 7) (i := 1) (by decide) rfl (by decide) kp_X7_21 rfl rfl rfl rfl (show 1 < 6 by decide) dX7_init_23 ?_
  show NW _ _ _ _ _ _ _ _ _ _ ([(h0, .inr (7, [.ref q5, .ref q16, .int 0, .int 0, .int 0, .int 0]))] ++ wX2 cI q5 u9 ++ wX0 cI q16 u20)
  refine n_aload K 0 dX7_init_26 rfl rfl ?_
  refine n_iconst (v := 0) K dX7_init_27 rfl ?_
  refine n_puti K 0 (t := 7) (i := 2) (by decide) rfl (by decide) kp_X7_25 rfl rfl rfl (show 2 < 6 by decide) dX7_init_28 ?_
  show NW _ _ _ _ _ _ _ _ _ _ ([(h0, .inr (7, [.ref q5, .ref q16, .int 0, .int 0, .int 0, .int 0]))] ++ wX2 cI q5 u9 ++ wX0 cI q16 u20)
  refine n_aload K 0 dX7_init_31 rfl rfl ?_
  refine n_iconst (v := 0) K dX7_init_32 rfl ?_
  refine n_puti K 0 (t := 7) (i := 3) (by decide) rfl (by decide) kp_X7_29 rfl rfl rfl (show 3 < 6 by decide) dX7_init_33 ?_
  show NW _ _ _ _ _ _ _ _ _ _ ([(h0, .inr (7, [.ref q5, .ref q16, .int 0, .int 0, .int 0, .int 0]))] ++ wX2 cI q5 u9 ++ wX0 cI q16 u20)
  refine n_aload K 0 dX7_init_36 rfl rfl ?_
  refine n_iconst (v := 0) K dX7_init_37 rfl ?_
  refine n_puti K 0 (t := 7) (i := 4) (by decide) rfl (by decide) kp_X7_32 rfl rfl rfl (show 4 < 6 by decide) dX7_init_38 ?_
  show NW _ _ _ _ _ _ _ _ _ _ ([(h0, .inr (7, [.ref q5, .ref q16, .int 0, .int 0, .int 0, .int 0]))] ++ wX2 cI q5 u9 ++ wX0 cI q16 u20)
  refine n_aload K 0 dX7_init_41 rfl rfl ?_
  refine n_iconst (v := 0) K dX7_init_42 rfl ?_
  refine n_puti K 0 (t := 7) (i := 5) (by decide) rfl (by decide) kp_X7_35 rfl rfl rfl (show 5 < 6 by decide) dX7_init_43 ?_
  show NW _ _ _ _ _ _ _ _ _ _ ([(h0, .inr (7, [.ref q5, .ref q16, .int 0, .int 0, .int 0, .int 0]))] ++ wX2 cI q5 u9 ++ wX0 cI q16 u20)
  exact n_end K [q5, u9.getD 0 0, u9.getD 1 0, u9.getD 2 0, u9.getD 3 0, u9.getD 4 0, u9.getD 5 0, q16, u20.getD 0 0, u20.getD 1 0, u20.getD 2 0, u20.getD 3 0, u20.getD 4 0, u20.getD 5 0, u20.getD 6 0, u20.getD 7 0] rfl rfl (Nat.le_of_ble_eq_true rfl) (Nat.le_of_ble_eq_true rfl) dX7_init_46
end CTORS
end
section
/-! p27: the claim is false as printed (its room): made by wip/refute/port.py out of whole's rows -/
/-! constructors that call methods; made by wip/whole/mkctor2.py -/
section CTORS2
variable {D : va_G} {cI cL : ClassId}
def grw (k : Nat) : Int32 := [nI 20, nI 20, nI 300, nI 300, nI 300, nI 8].getD k 0
def gcl (k : Nat) : Int32 := [nI 7, nI 7, nI 7, nI 14, nI 20, nI 8].getD k 0
/-- the memory behind the bare constructors -/
def MZ : Mem := (fun t k i => if t = 3 then (if i = 0 then grw k else if i = 1 then gcl k else 0) else 0, fun _ _ _ => 0)
/-- the same, the distances filled -/
def MF : Mem := (fun t k i => if t = 3 then (if i = 0 then grw k else if i = 1 then gcl k else 0) else if t = 20 ∧ k = 22 then (if i < 300 then -1 else 0) else 0, fun _ _ _ => 0)
abbrev mkG (D : va_G) (cI cL : ClassId) (A : Nat → Prop) (ad : Nat → Nat → Nat) (ids : List (Nat × Nat)) : GE := (D, cI, cL, ad, ids, A, none)
theorem sf_ad {ad : Nat → Nat → Nat} {ids : List (Nat × Nat)} {A : Nat → Prop} {U : State} {H : Heap} (h : SF (G0 D cI cL A) U H) : SF (mkG D cI cL A ad ids) U H := ⟨h.1, h.2.1, h.2.2.1, h.2.2.2.1, h.2.2.2.2.1, h.2.2.2.2.2.1, fun _ _ z => nomatch z⟩
theorem cx_ofK {A : Nat → Prop} {own : String} {cc : ByteArray} {nL : Nat} {rm : Room} {X : PX} {k z : Nat} {ad : Nat → Nat → Nat} {ids : List (Nat × Nat)} (K : KX D cI cL A own cc nL rm X) (hG : GOK (mkG D cI cL A ad ids)) : CX false (mkG D cI cL A ad ids) own cc nL none rm (bump X k z) :=
  ⟨K.1, K.2.1, K.2.2.1, K.2.2.2.1, K.2.2.2.2.1, K.2.2.2.2.2.1, K.2.2.2.2.2.2.1, (fun h => nomatch h), K.2.2.2.2.2.2.2.1, K.2.2.2.2.2.2.2.2.1, hG, sf_ad K.2.2.2.2.2.2.2.2.2.2⟩
theorem n_toGW {A : Nat → Prop} {nL : Nat} {X : PX} {Q : State → Prop} {k z pc : Nat} {ws : va_W} {ls : List (Nat × Value)} {st : List Value} (ad : Nat → Nat → Nat) (ids : List (Nat × Nat)) (M : Mem) (ls' : List (Nat × AV)) (st' : List AV) (hws : ws = wl (mkG D cI cL A ad ids) M) (hls : ls'.map (cq (mkG D cI cL A ad ids)) = ls) (hst : st'.map (cv (mkG D cI cL A ad ids)) = st) (o1 : ∀ q ∈ ls', okv (mkG D cI cL A ad ids) q.2) (o2 : ∀ v ∈ st', okv (mkG D cI cL A ad ids) v) (kk : GW (mkG D cI cL A ad ids) (bump X k z) nL Q pc ls' st' M) : NW D A X nL Q k z pc ls st ws := fun H locs la hP hD hS h => by
  subst hws
  subst hst
  exact kk o1 o2 H locs la ⟨hP, hD⟩ hS (by rw [show (fun q : Nat × AV => (q.1, cv (mkG D cI cL A ad ids) q.2)) = cq (mkG D cI cL A ad ids) from rfl, hls]; exact h)
theorem g_endI {A : Nat → Prop} {own : String} {cc : ByteArray} {nL : Nat} {rm : Room} {X : PX} {k z pc : Nat} {ls : List (Nat × AV)} {ad : Nat → Nat → Nat} {ids : List (Nat × Nat)} {M : Mem} (C : CX false (mkG D cI cL A ad ids) own cc nL none rm (bump X k z)) {w1 : List Nat → va_W} {nu mc ms : Nat} (u : List Nat) (hu : u.length = nu) (hw : wl (mkG D cI cL A ad ids) M = w1 u) (hk : k ≤ mc) (hz : z ≤ ms) (hd : decode cc pc = .ok (.return_, 1)) : GW (mkG D cI cL A ad ids) (bump X k z) nL (QI D A X w1 nu mc ms) pc ls [] M := fun _ _ H locs la w s _ =>
  W.widen hk hz (W.vret C.1 C.2.1 C.2.2.2.2.2.2.1 (fun t ht _ => ⟨u, hu, rfl, by rw [ht, ← hw]; exact w.1, by rw [← hw]; exact w.2, s.F ht⟩) s.2.2 hd C.2.2.2.2.2.1)
/-- which objects there are, for a world that a program lists -/
def closedB (ids : List (Nat × Nat)) : Bool := ids.all (fun q => (decide (q.1 < 11) || q.1 == 20 || q.1 == 21 || q.1 == 22 || q.1 == 23) && (fk q.1).all (fun f => match f with | .inl _ => true | .inr (t, b, s) => ids.contains (t, rk b s q.2)))
theorem gok_of {G : GE} (h : closedB (gids G) = true) : GOK G := by
  intro q hq
  have h1 := List.all_eq_true.mp h q hq
  rw [Bool.and_eq_true] at h1
  obtain ⟨h1, h2⟩ := h1
  refine ⟨?_, fun i t b s hf => ?_⟩
  · simp only [Bool.or_eq_true, decide_eq_true_eq, beq_iff_eq] at h1
    omega
  · have h3 := List.all_eq_true.mp h2 _ (List.mem_of_getElem? hf)
    exact List.contains_iff_mem.mp h3
def ids5 : List (Nat × Nat) := [(5, 0), (3, 4), (21, 4), (8, 20), (20, 20), (8, 21), (20, 21), (8, 22), (20, 22), (8, 23), (20, 23), (3, 5), (21, 5)]
def ad5 (h0 : Nat) (u : List Nat) : Nat → Nat → Nat := fun t k => match t with | 3 => [0, 0, 0, 0, (u.getD 0 0), (u.getD 10 0)].getD k 0 | 5 => [h0].getD k 0 | 8 => [0, 0, 0, 0, 0, 0, 0, 0, 0, 0, 0, 0, 0, 0, 0, 0, 0, 0, 0, 0, (u.getD 2 0), (u.getD 4 0), (u.getD 6 0), (u.getD 8 0)].getD k 0 | 20 => [0, 0, 0, 0, 0, 0, 0, 0, 0, 0, 0, 0, 0, 0, 0, 0, 0, 0, 0, 0, (u.getD 3 0), (u.getD 5 0), (u.getD 7 0), (u.getD 9 0)].getD k 0 | 21 => [0, 0, 0, 0, (u.getD 1 0), (u.getD 11 0)].getD k 0 | _ => 0
def wX5 (D : va_G) (cI cL : ClassId) (h0 : Nat) (u : List Nat) : va_W := wl (mkG D cI cL (fun _ => True) (ad5 h0 u) ids5) MF
theorem cl5 : closedB ids5 = true := by decide +kernel
set_option maxHeartbeats 4000000 in
set_option maxRecDepth 100000 in
theorem c_X5_init (l : Launch) (hl : l.stackTraces = false) (h0 : Nat) (fu : Nat) (hfill : f_X8_fill fu 22 (-1 : Int32) MZ = some MF) : CTI l D cI cL yX5_init cX5_init 1 2 12 7274 h0 [] (.inr (5, [.int 0, .int 0, .int 0, .int 0, .int 0, .int 0, .null, .null, .null, .null, .null, .null])) (wX5 D cI cL h0) 12 := by
  refine cti_of [(0, .ref h0)] (by decide +kernel) rfl hl (show 1 ≤ 1 by decide) rfl (fun A X hX K hA => ?_)
  subst hX
  refine n_aload K 0 dX5_init_0 rfl rfl ?_
  refine n_obj K ko_X5_3 ko_1 ko_2 (Nat.le_of_ble_eq_true rfl) (Nat.le_of_ble_eq_true rfl) dX5_init_1 ?_
  refine n_aload K 0 dX5_init_4 rfl rfl ?_
  refine n_iconst (v := 0) K dX5_init_5 rfl ?_
  refine n_puti K 0 (t := 5) (i := 0) (by decide) rfl (by decide) kp_X5_9 rfl rfl rfl (show 0 < 12 by decide) dX5_init_6 ?_
  show NW _ _ _ _ _ _ _ _ _ _ ([(h0, .inr (5, [.int 0, .int 0, .int 0, .int 0, .int 0, .int 0, .null, .null, .null, .null, .null, .null]))])
  refine n_aload K 0 dX5_init_9 rfl rfl ?_
  refine n_iconst (v := 0) K dX5_init_10 rfl ?_
  refine n_puti K 0 (t := 5) (i := 1) (by decide) rfl (by decide) kp_X5_15 rfl rfl rfl (show 1 < 12 by decide) dX5_init_11 ?_
  show NW _ _ _ _ _ _ _ _ _ _ ([(h0, .inr (5, [.int 0, .int 0, .int 0, .int 0, .int 0, .int 0, .null, .null, .null, .null, .null, .null]))])
  refine n_aload K 0 dX5_init_14 rfl rfl ?_
  refine n_iconst (v := 0) K dX5_init_15 rfl ?_
  refine n_puti K 0 (t := 5) (i := 2) (by decide) rfl (by decide) kp_X5_18 rfl rfl rfl (show 2 < 12 by decide) dX5_init_16 ?_
  show NW _ _ _ _ _ _ _ _ _ _ ([(h0, .inr (5, [.int 0, .int 0, .int 0, .int 0, .int 0, .int 0, .null, .null, .null, .null, .null, .null]))])
  refine n_aload K 0 dX5_init_19 rfl rfl ?_
  refine n_iconst (v := 0) K dX5_init_20 rfl ?_
  refine n_puti K 0 (t := 5) (i := 3) (by decide) rfl (by decide) kp_X5_22 rfl rfl rfl (show 3 < 12 by decide) dX5_init_21 ?_
  show NW _ _ _ _ _ _ _ _ _ _ ([(h0, .inr (5, [.int 0, .int 0, .int 0, .int 0, .int 0, .int 0, .null, .null, .null, .null, .null, .null]))])
  refine n_aload K 0 dX5_init_24 rfl rfl ?_
  refine n_iconst (v := 0) K dX5_init_25 rfl ?_
  refine n_puti K 0 (t := 5) (i := 4) (by decide) rfl (by decide) kp_X5_25 rfl rfl rfl (show 4 < 12 by decide) dX5_init_26 ?_
  show NW _ _ _ _ _ _ _ _ _ _ ([(h0, .inr (5, [.int 0, .int 0, .int 0, .int 0, .int 0, .int 0, .null, .null, .null, .null, .null, .null]))])
  refine n_aload K 0 dX5_init_29 rfl rfl ?_
  refine n_iconst (v := 0) K dX5_init_30 rfl ?_
  refine n_puti K 0 (t := 5) (i := 5) (by decide) rfl (by decide) kp_X5_28 rfl rfl rfl (show 5 < 12 by decide) dX5_init_31 ?_
  show NW _ _ _ _ _ _ _ _ _ _ ([(h0, .inr (5, [.int 0, .int 0, .int 0, .int 0, .int 0, .int 0, .null, .null, .null, .null, .null, .null]))])
  refine n_aload K 0 dX5_init_34 rfl rfl ?_
  refine n_new (t := 3) (fs := [.int 0, .int 0, .null]) K (by decide) kc_X5_c31 ki_3 kj_3 (by decide) (Nat.le_of_ble_eq_true rfl) (Nat.le_of_ble_eq_true rfl) dX5_init_35 (fun q35 => ?_)
  refine n_dup K dX5_init_38 ?_
  refine n_sipush (v := 300) K dX5_init_39 rfl ?_
  refine n_bipush (v := 20) K dX5_init_42 rfl ?_
  refine n_call (as := [.int 300, .int 20]) K false li_X5_33 (c_X3_init X.2.1 hl q35 300 20 (by decide) (by decide) (by decide)) rfl (Nat.le_of_ble_eq_true rfl) ⟨Nat.le_of_ble_eq_true rfl, Nat.le_of_ble_eq_true rfl⟩ ⟨Nat.le_of_ble_eq_true rfl, Nat.le_of_ble_eq_true rfl⟩ rfl dX5_init_44 (fun u44 hu44 => ?_)
  refine n_putF K 0 (t := 5) (i := 6) (by decide) rfl (by decide) kp_X5_36 rfl rfl rfl rfl (show 6 < 12 by decide) dX5_init_47 ?_
  show NW _ _ _ _ _ _ _ _ _ _ ([(h0, .inr (5, [.int 0, .int 0, .int 0, .int 0, .int 0, .int 0, .ref q35, .null, .null, .null, .null, .null]))] ++ wX3 cI 300 20 q35 u44)
  refine n_aload K 0 dX5_init_50 rfl rfl ?_
  refine n_new (t := 8) (fs := [.null]) K (by decide) kc_X5_c40 ki_8 kj_8 (by decide) (Nat.le_of_ble_eq_true rfl) (Nat.le_of_ble_eq_true rfl) dX5_init_51 (fun q51 => ?_)
  refine n_dup K dX5_init_54 ?_
  refine n_sipush (v := 300) K dX5_init_55 rfl ?_
  refine n_call (as := [.int 300]) K false li_X5_42 (c_X8_init X.2.1 hl q51 300 (by decide) (by decide)) rfl (Nat.le_of_ble_eq_true rfl) ⟨Nat.le_of_ble_eq_true rfl, Nat.le_of_ble_eq_true rfl⟩ ⟨Nat.le_of_ble_eq_true rfl, Nat.le_of_ble_eq_true rfl⟩ rfl dX5_init_58 (fun u58 hu58 => ?_)
  refine n_putF K 0 (t := 5) (i := 7) (by decide) rfl (by decide) kp_X5_45 rfl rfl rfl rfl (show 7 < 12 by decide) dX5_init_61 ?_
  show NW _ _ _ _ _ _ _ _ _ _ ([(h0, .inr (5, [.int 0, .int 0, .int 0, .int 0, .int 0, .int 0, .ref q35, .ref q51, .null, .null, .null, .null]))] ++ wX3 cI 300 20 q35 u44 ++ wX8 cI 300 q51 u58)
  refine n_aload K 0 dX5_init_64 rfl rfl ?_
  refine n_new (t := 8) (fs := [.null]) K (by decide) kc_X5_c40 ki_8 kj_8 (by decide) (Nat.le_of_ble_eq_true rfl) (Nat.le_of_ble_eq_true rfl) dX5_init_65 (fun q65 => ?_)
  refine n_dup K dX5_init_68 ?_
  refine n_sipush (v := 300) K dX5_init_69 rfl ?_
  refine n_call (as := [.int 300]) K false li_X5_42 (c_X8_init X.2.1 hl q65 300 (by decide) (by decide)) rfl (Nat.le_of_ble_eq_true rfl) ⟨Nat.le_of_ble_eq_true rfl, Nat.le_of_ble_eq_true rfl⟩ ⟨Nat.le_of_ble_eq_true rfl, Nat.le_of_ble_eq_true rfl⟩ rfl dX5_init_72 (fun u72 hu72 => ?_)
  refine n_putF K 0 (t := 5) (i := 8) (by decide) rfl (by decide) kp_X5_49 rfl rfl rfl rfl (show 8 < 12 by decide) dX5_init_75 ?_
  show NW _ _ _ _ _ _ _ _ _ _ ([(h0, .inr (5, [.int 0, .int 0, .int 0, .int 0, .int 0, .int 0, .ref q35, .ref q51, .ref q65, .null, .null, .null]))] ++ wX3 cI 300 20 q35 u44 ++ wX8 cI 300 q51 u58 ++ wX8 cI 300 q65 u72)
  refine n_aload K 0 dX5_init_78 rfl rfl ?_
  refine n_new (t := 8) (fs := [.null]) K (by decide) kc_X5_c40 ki_8 kj_8 (by decide) (Nat.le_of_ble_eq_true rfl) (Nat.le_of_ble_eq_true rfl) dX5_init_79 (fun q79 => ?_)
  refine n_dup K dX5_init_82 ?_
  refine n_sipush (v := 300) K dX5_init_83 rfl ?_
  refine n_call (as := [.int 300]) K false li_X5_42 (c_X8_init X.2.1 hl q79 300 (by decide) (by decide)) rfl (Nat.le_of_ble_eq_true rfl) ⟨Nat.le_of_ble_eq_true rfl, Nat.le_of_ble_eq_true rfl⟩ ⟨Nat.le_of_ble_eq_true rfl, Nat.le_of_ble_eq_true rfl⟩ rfl dX5_init_86 (fun u86 hu86 => ?_)
  refine n_putF K 0 (t := 5) (i := 9) (by decide) rfl (by decide) kp_X5_52 rfl rfl rfl rfl (show 9 < 12 by decide) dX5_init_89 ?_
  show NW _ _ _ _ _ _ _ _ _ _ ([(h0, .inr (5, [.int 0, .int 0, .int 0, .int 0, .int 0, .int 0, .ref q35, .ref q51, .ref q65, .ref q79, .null, .null]))] ++ wX3 cI 300 20 q35 u44 ++ wX8 cI 300 q51 u58 ++ wX8 cI 300 q65 u72 ++ wX8 cI 300 q79 u86)
  refine n_aload K 0 dX5_init_92 rfl rfl ?_
  refine n_new (t := 8) (fs := [.null]) K (by decide) kc_X5_c40 ki_8 kj_8 (by decide) (Nat.le_of_ble_eq_true rfl) (Nat.le_of_ble_eq_true rfl) dX5_init_93 (fun q93 => ?_)
  refine n_dup K dX5_init_96 ?_
  refine n_sipush (v := 300) K dX5_init_97 rfl ?_
  refine n_call (as := [.int 300]) K false li_X5_42 (c_X8_init X.2.1 hl q93 300 (by decide) (by decide)) rfl (Nat.le_of_ble_eq_true rfl) ⟨Nat.le_of_ble_eq_true rfl, Nat.le_of_ble_eq_true rfl⟩ ⟨Nat.le_of_ble_eq_true rfl, Nat.le_of_ble_eq_true rfl⟩ rfl dX5_init_100 (fun u100 hu100 => ?_)
  refine n_putF K 0 (t := 5) (i := 10) (by decide) rfl (by decide) kp_X5_55 rfl rfl rfl rfl (show 10 < 12 by decide) dX5_init_103 ?_
  show NW _ _ _ _ _ _ _ _ _ _ ([(h0, .inr (5, [.int 0, .int 0, .int 0, .int 0, .int 0, .int 0, .ref q35, .ref q51, .ref q65, .ref q79, .ref q93, .null]))] ++ wX3 cI 300 20 q35 u44 ++ wX8 cI 300 q51 u58 ++ wX8 cI 300 q65 u72 ++ wX8 cI 300 q79 u86 ++ wX8 cI 300 q93 u100)
  refine n_aload K 0 dX5_init_106 rfl rfl ?_
  refine n_new (t := 3) (fs := [.int 0, .int 0, .null]) K (by decide) kc_X5_c31 ki_3 kj_3 (by decide) (Nat.le_of_ble_eq_true rfl) (Nat.le_of_ble_eq_true rfl) dX5_init_107 (fun q107 => ?_)
  refine n_dup K dX5_init_110 ?_
  refine n_bipush (v := 8) K dX5_init_111 rfl ?_
  refine n_bipush (v := 8) K dX5_init_113 rfl ?_
  refine n_call (as := [.int 8, .int 8]) K false li_X5_33 (c_X3_init X.2.1 hl q107 8 8 (by decide) (by decide) (by decide)) rfl (Nat.le_of_ble_eq_true rfl) ⟨Nat.le_of_ble_eq_true rfl, Nat.le_of_ble_eq_true rfl⟩ ⟨Nat.le_of_ble_eq_true rfl, Nat.le_of_ble_eq_true rfl⟩ rfl dX5_init_115 (fun u115 hu115 => ?_)
  refine n_putF K 0 (t := 5) (i := 11) (by decide) rfl (by decide) kp_X5_58 rfl rfl rfl rfl (show 11 < 12 by decide) dX5_init_118 ?_
  show NW _ _ _ _ _ _ _ _ _ _ ([(h0, .inr (5, [.int 0, .int 0, .int 0, .int 0, .int 0, .int 0, .ref q35, .ref q51, .ref q65, .ref q79, .ref q93, .ref q107]))] ++ wX3 cI 300 20 q35 u44 ++ wX8 cI 300 q51 u58 ++ wX8 cI 300 q65 u72 ++ wX8 cI 300 q79 u86 ++ wX8 cI 300 q93 u100 ++ wX3 cI 8 8 q107 u115)
  refine n_toGW (cI := cI) (cL := cL) (ad5 h0 [q35, u44.getD 0 0, q51, u58.getD 0 0, q65, u72.getD 0 0, q79, u86.getD 0 0, q93, u100.getD 0 0, q107, u115.getD 0 0]) ids5 MZ [(0, vR 5 0)] [] rfl rfl rfl (fun q hq => by cases List.mem_singleton.mp hq; exact Or.inl (by decide +kernel : (5, 0) ∈ ids5)) (fun _ h => nomatch h) ?_
  have hG : GOK (mkG D cI cL A (ad5 h0 [q35, u44.getD 0 0, q51, u58.getD 0 0, q65, u72.getD 0 0, q79, u86.getD 0 0, q93, u100.getD 0 0, q107, u115.getD 0 0]) ids5) := gok_of cl5
  have C := cx_ofK (cL := cL) (k := 12) (z := 7274) K hG
  have hk0 : (5, 0) ∈ gids (mkG D cI cL A (ad5 h0 [q35, u44.getD 0 0, q51, u58.getD 0 0, q65, u72.getD 0 0, q79, u86.getD 0 0, q93, u100.getD 0 0, q107, u115.getD 0 0]) ids5) := (by decide +kernel : (5, 0) ∈ ids5)
  refine g_aload_n C 0 dX5_init_121 rfl rfl ?_
  refine g_getr (k := 0) (k' := 22) C (by decide) kp_X5_52 rfl rfl dX5_init_122 ?_
  refine g_iconst (v := -1) C dX5_init_125 rfl ?_
  refine g_callVv_k (As := [vI (-1 : Int32)]) (rest := []) C li_X5_61 (k_X8_fill X.2.1 _ hl hG fu 22 (-1 : Int32) MZ MF ((hG _ hk0).2 9 8 22 0 rfl) hfill) (by decide) rfl rfl rfl (Nat.le_of_ble_eq_true rfl) ⟨Nat.le_of_ble_eq_true rfl, Nat.le_of_ble_eq_true rfl⟩ ⟨Nat.le_of_ble_eq_true rfl, Nat.le_of_ble_eq_true rfl⟩ dX5_init_126 ?_
  exact g_endI C [q35, u44.getD 0 0, q51, u58.getD 0 0, q65, u72.getD 0 0, q79, u86.getD 0 0, q93, u100.getD 0 0, q107, u115.getD 0 0] rfl rfl (Nat.le_of_ble_eq_true rfl) (Nat.le_of_ble_eq_true rfl) dX5_init_129
def ids9 : List (Nat × Nat) := [(9, 0), (2, 0), (8, 0), (20, 0), (8, 1), (20, 1), (8, 2), (20, 2), (0, 0), (8, 6), (20, 6), (8, 7), (20, 7), (3, 0), (21, 0), (8, 8), (20, 8), (6, 0), (8, 16), (20, 16), (8, 17), (20, 17), (8, 18), (20, 18), (3, 2), (21, 2), (8, 19), (20, 19), (3, 3), (21, 3), (5, 0), (3, 4), (21, 4), (8, 20), (20, 20), (8, 21), (20, 21), (8, 22), (20, 22), (8, 23), (20, 23), (3, 5), (21, 5), (1, 0), (8, 12), (20, 12), (8, 13), (20, 13), (1, 1), (8, 14), (20, 14), (8, 15), (20, 15), (4, 0), (8, 24), (20, 24), (7, 0), (2, 1), (8, 3), (20, 3), (8, 4), (20, 4), (8, 5), (20, 5), (0, 1), (8, 9), (20, 9), (8, 10), (20, 10), (3, 1), (21, 1), (8, 11), (20, 11)]
def ad9 (h0 : Nat) (u : List Nat) : Nat → Nat → Nat := fun t k => match t with | 0 => [(u.getD 7 0), (u.getD 63 0)].getD k 0 | 1 => [(u.getD 42 0), (u.getD 47 0)].getD k 0 | 2 => [(u.getD 0 0), (u.getD 56 0)].getD k 0 | 3 => [(u.getD 12 0), (u.getD 68 0), (u.getD 23 0), (u.getD 27 0), (u.getD 30 0), (u.getD 40 0)].getD k 0 | 4 => [(u.getD 52 0)].getD k 0 | 5 => [(u.getD 29 0)].getD k 0 | 6 => [(u.getD 16 0)].getD k 0 | 7 => [(u.getD 55 0)].getD k 0 | 8 => [(u.getD 1 0), (u.getD 3 0), (u.getD 5 0), (u.getD 57 0), (u.getD 59 0), (u.getD 61 0), (u.getD 8 0), (u.getD 10 0), (u.getD 14 0), (u.getD 64 0), (u.getD 66 0), (u.getD 70 0), (u.getD 43 0), (u.getD 45 0), (u.getD 48 0), (u.getD 50 0), (u.getD 17 0), (u.getD 19 0), (u.getD 21 0), (u.getD 25 0), (u.getD 32 0), (u.getD 34 0), (u.getD 36 0), (u.getD 38 0), (u.getD 53 0)].getD k 0 | 9 => [h0].getD k 0 | 20 => [(u.getD 2 0), (u.getD 4 0), (u.getD 6 0), (u.getD 58 0), (u.getD 60 0), (u.getD 62 0), (u.getD 9 0), (u.getD 11 0), (u.getD 15 0), (u.getD 65 0), (u.getD 67 0), (u.getD 71 0), (u.getD 44 0), (u.getD 46 0), (u.getD 49 0), (u.getD 51 0), (u.getD 18 0), (u.getD 20 0), (u.getD 22 0), (u.getD 26 0), (u.getD 33 0), (u.getD 35 0), (u.getD 37 0), (u.getD 39 0), (u.getD 54 0)].getD k 0 | 21 => [(u.getD 13 0), (u.getD 69 0), (u.getD 24 0), (u.getD 28 0), (u.getD 31 0), (u.getD 41 0)].getD k 0 | _ => 0
def wX9 (D : va_G) (cI cL : ClassId) (Md : Mem) (h0 : Nat) (u : List Nat) : va_W := wl (mkG D cI cL (fun _ => True) (ad9 h0 u) ids9) Md
theorem cl9 : closedB ids9 = true := by decide +kernel
set_option maxHeartbeats 4000000 in
set_option maxRecDepth 100000 in
theorem c_X9_init (l : Launch) (hl : l.stackTraces = false) (h0 : Nat) (fu : Nat) (hfill : f_X8_fill fu 22 (-1 : Int32) MZ = some MF) (Mb Mc Md : Mem) (hb : f_X2_clear fu 0 (2 : Int32) MF = some Mb) (hc : f_X1_clear fu 0 Mb = some Mc) (hd : f_X9_graphChanged fu Mc = some Md) : CTI l D cI cL yX9_init cX9_init 1 5 72 15414 h0 [] (.inr (9, [.null, .null, .null, .null, .null, .null, .null, .null])) (wX9 D cI cL Md h0) 72 := by
  refine cti_of [(0, .ref h0)] (by decide +kernel) rfl hl (show 1 ≤ 1 by decide) rfl (fun A X hX K hA => ?_)
  subst hX
  refine n_aload K 0 dX9_init_0 rfl rfl ?_
  refine n_obj K ko_X9_3 ko_1 ko_2 (Nat.le_of_ble_eq_true rfl) (Nat.le_of_ble_eq_true rfl) dX9_init_1 ?_
  refine n_aload K 0 dX9_init_4 rfl rfl ?_
  refine n_new (t := 2) (fs := [.int 0, .int 0, .null, .null, .null]) K (by decide) kc_X9_c9 ki_2 kj_2 (by decide) (Nat.le_of_ble_eq_true rfl) (Nat.le_of_ble_eq_true rfl) dX9_init_5 (fun q5 => ?_)
  refine n_dup K dX9_init_8 ?_
  refine n_call (as := []) K true li_X9_11 (c_X2_init X.2.1 hl q5 ) rfl (Nat.le_of_ble_eq_true rfl) ⟨Nat.le_of_ble_eq_true rfl, Nat.le_of_ble_eq_true rfl⟩ ⟨Nat.le_of_ble_eq_true rfl, Nat.le_of_ble_eq_true rfl⟩ rfl dX9_init_9 (fun u9 hu9 => ?_)
  refine n_putF K 0 (t := 9) (i := 0) (by decide) rfl (by decide) kp_X9_12 rfl rfl rfl rfl (show 0 < 8 by decide) dX9_init_12 ?_
  show NW _ _ _ _ _ _ _ _ _ _ ([(h0, .inr (9, [.ref q5, .null, .null, .null, .null, .null, .null, .null]))] ++ wX2 cI q5 u9)
  refine n_aload K 0 dX9_init_15 rfl rfl ?_
  refine n_new (t := 0) (fs := [.int 0, .null, .null, .null, .null]) K (by decide) kc_X9_c16 ki_0 kj_0 (by decide) (Nat.le_of_ble_eq_true rfl) (Nat.le_of_ble_eq_true rfl) dX9_init_16 (fun q16 => ?_)
  refine n_dup K dX9_init_19 ?_
  refine n_call (as := []) K true li_X9_18 (c_X0_init X.2.1 hl q16 ) rfl (Nat.le_of_ble_eq_true rfl) ⟨Nat.le_of_ble_eq_true rfl, Nat.le_of_ble_eq_true rfl⟩ ⟨Nat.le_of_ble_eq_true rfl, Nat.le_of_ble_eq_true rfl⟩ rfl dX9_init_20 (fun u20 hu20 => ?_)
  refine n_putF K 0 (t := 9) (i := 1) (by decide) rfl (by decide) kp_X9_19 rfl rfl rfl rfl (show 1 < 8 by decide) dX9_init_23 ?_
  show NW _ _ _ _ _ _ _ _ _ _ ([(h0, .inr (9, [.ref q5, .ref q16, .null, .null, .null, .null, .null, .null]))] ++ wX2 cI q5 u9 ++ wX0 cI q16 u20)
  refine n_aload K 0 dX9_init_26 rfl rfl ?_
  refine n_new (t := 6) (fs := [.int 0, .null, .null, .null, .null, .null, .null]) K (by decide) kc_X9_c23 ki_6 kj_6 (by decide) (Nat.le_of_ble_eq_true rfl) (Nat.le_of_ble_eq_true rfl) dX9_init_27 (fun q27 => ?_)
  refine n_dup K dX9_init_30 ?_
  refine n_call (as := []) K true li_X9_25 (c_X6_init X.2.1 hl q27 ) rfl (Nat.le_of_ble_eq_true rfl) ⟨Nat.le_of_ble_eq_true rfl, Nat.le_of_ble_eq_true rfl⟩ ⟨Nat.le_of_ble_eq_true rfl, Nat.le_of_ble_eq_true rfl⟩ rfl dX9_init_31 (fun u31 hu31 => ?_)
  refine n_putF K 0 (t := 9) (i := 2) (by decide) rfl (by decide) kp_X9_26 rfl rfl rfl rfl (show 2 < 8 by decide) dX9_init_34 ?_
  show NW _ _ _ _ _ _ _ _ _ _ ([(h0, .inr (9, [.ref q5, .ref q16, .ref q27, .null, .null, .null, .null, .null]))] ++ wX2 cI q5 u9 ++ wX0 cI q16 u20 ++ wX6 cI q27 u31)
  refine n_aload K 0 dX9_init_37 rfl rfl ?_
  refine n_new (t := 5) (fs := [.int 0, .int 0, .int 0, .int 0, .int 0, .int 0, .null, .null, .null, .null, .null, .null]) K (by decide) kc_X9_c30 ki_5 kj_5 (by decide) (Nat.le_of_ble_eq_true rfl) (Nat.le_of_ble_eq_true rfl) dX9_init_38 (fun q38 => ?_)
  refine n_dup K dX9_init_41 ?_
  refine n_call (as := []) K false li_X9_32 (c_X5_init X.2.1 hl q38 fu hfill) rfl (Nat.le_of_ble_eq_true rfl) ⟨Nat.le_of_ble_eq_true rfl, Nat.le_of_ble_eq_true rfl⟩ ⟨Nat.le_of_ble_eq_true rfl, Nat.le_of_ble_eq_true rfl⟩ rfl dX9_init_42 (fun u42 hu42 => ?_)
  refine n_putF K 0 (t := 9) (i := 3) (by decide) rfl (by decide) kp_X9_33 rfl rfl rfl rfl (show 3 < 8 by decide) dX9_init_45 ?_
  show NW _ _ _ _ _ _ _ _ _ _ ([(h0, .inr (9, [.ref q5, .ref q16, .ref q27, .ref q38, .null, .null, .null, .null]))] ++ wX2 cI q5 u9 ++ wX0 cI q16 u20 ++ wX6 cI q27 u31 ++ wX5 D cI cL q38 u42)
  refine n_aload K 0 dX9_init_48 rfl rfl ?_
  refine n_new (t := 1) (fs := [.null, .null]) K (by decide) kc_X9_c37 ki_1 kj_1 (by decide) (Nat.le_of_ble_eq_true rfl) (Nat.le_of_ble_eq_true rfl) dX9_init_49 (fun q49 => ?_)
  refine n_dup K dX9_init_52 ?_
  refine n_call (as := []) K true li_X9_39 (c_X1_init X.2.1 hl q49 ) rfl (Nat.le_of_ble_eq_true rfl) ⟨Nat.le_of_ble_eq_true rfl, Nat.le_of_ble_eq_true rfl⟩ ⟨Nat.le_of_ble_eq_true rfl, Nat.le_of_ble_eq_true rfl⟩ rfl dX9_init_53 (fun u53 hu53 => ?_)
  refine n_putF K 0 (t := 9) (i := 4) (by decide) rfl (by decide) kp_X9_40 rfl rfl rfl rfl (show 4 < 8 by decide) dX9_init_56 ?_
  show NW _ _ _ _ _ _ _ _ _ _ ([(h0, .inr (9, [.ref q5, .ref q16, .ref q27, .ref q38, .ref q49, .null, .null, .null]))] ++ wX2 cI q5 u9 ++ wX0 cI q16 u20 ++ wX6 cI q27 u31 ++ wX5 D cI cL q38 u42 ++ wX1 cI q49 u53)
  refine n_aload K 0 dX9_init_59 rfl rfl ?_
  refine n_new (t := 1) (fs := [.null, .null]) K (by decide) kc_X9_c37 ki_1 kj_1 (by decide) (Nat.le_of_ble_eq_true rfl) (Nat.le_of_ble_eq_true rfl) dX9_init_60 (fun q60 => ?_)
  refine n_dup K dX9_init_63 ?_
  refine n_call (as := []) K true li_X9_39 (c_X1_init X.2.1 hl q60 ) rfl (Nat.le_of_ble_eq_true rfl) ⟨Nat.le_of_ble_eq_true rfl, Nat.le_of_ble_eq_true rfl⟩ ⟨Nat.le_of_ble_eq_true rfl, Nat.le_of_ble_eq_true rfl⟩ rfl dX9_init_64 (fun u64 hu64 => ?_)
  refine n_putF K 0 (t := 9) (i := 5) (by decide) rfl (by decide) kp_X9_44 rfl rfl rfl rfl (show 5 < 8 by decide) dX9_init_67 ?_
  show NW _ _ _ _ _ _ _ _ _ _ ([(h0, .inr (9, [.ref q5, .ref q16, .ref q27, .ref q38, .ref q49, .ref q60, .null, .null]))] ++ wX2 cI q5 u9 ++ wX0 cI q16 u20 ++ wX6 cI q27 u31 ++ wX5 D cI cL q38 u42 ++ wX1 cI q49 u53 ++ wX1 cI q60 u64)
  refine n_aload K 0 dX9_init_70 rfl rfl ?_
  refine n_new (t := 4) (fs := [.int 0, .null]) K (by decide) kc_X9_c47 ki_4 kj_4 (by decide) (Nat.le_of_ble_eq_true rfl) (Nat.le_of_ble_eq_true rfl) dX9_init_71 (fun q71 => ?_)
  refine n_dup K dX9_init_74 ?_
  refine n_call (as := []) K true li_X9_49 (c_X4_init X.2.1 hl q71 ) rfl (Nat.le_of_ble_eq_true rfl) ⟨Nat.le_of_ble_eq_true rfl, Nat.le_of_ble_eq_true rfl⟩ ⟨Nat.le_of_ble_eq_true rfl, Nat.le_of_ble_eq_true rfl⟩ rfl dX9_init_75 (fun u75 hu75 => ?_)
  refine n_putF K 0 (t := 9) (i := 6) (by decide) rfl (by decide) kp_X9_50 rfl rfl rfl rfl (show 6 < 8 by decide) dX9_init_78 ?_
  show NW _ _ _ _ _ _ _ _ _ _ ([(h0, .inr (9, [.ref q5, .ref q16, .ref q27, .ref q38, .ref q49, .ref q60, .ref q71, .null]))] ++ wX2 cI q5 u9 ++ wX0 cI q16 u20 ++ wX6 cI q27 u31 ++ wX5 D cI cL q38 u42 ++ wX1 cI q49 u53 ++ wX1 cI q60 u64 ++ wX4 cI q71 u75)
  refine n_aload K 0 dX9_init_81 rfl rfl ?_
  refine n_new (t := 7) (fs := [.null, .null, .int 0, .int 0, .int 0, .int 0]) K (by decide) kc_X9_c54 ki_7 kj_7 (by decide) (Nat.le_of_ble_eq_true rfl) (Nat.le_of_ble_eq_true rfl) dX9_init_82 (fun q82 => ?_)
  refine n_dup K dX9_init_85 ?_
  refine n_call (as := []) K true li_X9_56 (c_X7_init X.2.1 hl q82 ) rfl (Nat.le_of_ble_eq_true rfl) ⟨Nat.le_of_ble_eq_true rfl, Nat.le_of_ble_eq_true rfl⟩ ⟨Nat.le_of_ble_eq_true rfl, Nat.le_of_ble_eq_true rfl⟩ rfl dX9_init_86 (fun u86 hu86 => ?_)
  refine n_putF K 0 (t := 9) (i := 7) (by decide) rfl (by decide) kp_X9_57 rfl rfl rfl rfl (show 7 < 8 by decide) dX9_init_89 ?_
  show NW _ _ _ _ _ _ _ _ _ _ ([(h0, .inr (9, [.ref q5, .ref q16, .ref q27, .ref q38, .ref q49, .ref q60, .ref q71, .ref q82]))] ++ wX2 cI q5 u9 ++ wX0 cI q16 u20 ++ wX6 cI q27 u31 ++ wX5 D cI cL q38 u42 ++ wX1 cI q49 u53 ++ wX1 cI q60 u64 ++ wX4 cI q71 u75 ++ wX7 cI q82 u86)
  obtain ⟨uu, huu⟩ : ∃ uu : List Nat, uu = [q5, u9.getD 0 0, u9.getD 1 0, u9.getD 2 0, u9.getD 3 0, u9.getD 4 0, u9.getD 5 0, q16, u20.getD 0 0, u20.getD 1 0, u20.getD 2 0, u20.getD 3 0, u20.getD 4 0, u20.getD 5 0, u20.getD 6 0, u20.getD 7 0, q27, u31.getD 0 0, u31.getD 1 0, u31.getD 2 0, u31.getD 3 0, u31.getD 4 0, u31.getD 5 0, u31.getD 6 0, u31.getD 7 0, u31.getD 8 0, u31.getD 9 0, u31.getD 10 0, u31.getD 11 0, q38, u42.getD 0 0, u42.getD 1 0, u42.getD 2 0, u42.getD 3 0, u42.getD 4 0, u42.getD 5 0, u42.getD 6 0, u42.getD 7 0, u42.getD 8 0, u42.getD 9 0, u42.getD 10 0, u42.getD 11 0, q49, u53.getD 0 0, u53.getD 1 0, u53.getD 2 0, u53.getD 3 0, q60, u64.getD 0 0, u64.getD 1 0, u64.getD 2 0, u64.getD 3 0, q71, u75.getD 0 0, u75.getD 1 0, q82, u86.getD 0 0, u86.getD 1 0, u86.getD 2 0, u86.getD 3 0, u86.getD 4 0, u86.getD 5 0, u86.getD 6 0, u86.getD 7 0, u86.getD 8 0, u86.getD 9 0, u86.getD 10 0, u86.getD 11 0, u86.getD 12 0, u86.getD 13 0, u86.getD 14 0, u86.getD 15 0] := ⟨_, rfl⟩
  refine n_toGW (cI := cI) (cL := cL) (ad9 h0 uu) ids9 MF [(0, vR 9 0)] [] (by subst huu; rfl) (by subst huu; rfl) rfl (fun q hq => by cases List.mem_singleton.mp hq; exact Or.inl (by decide +kernel : (9, 0) ∈ ids9)) (fun _ h => nomatch h) ?_
  have hG : GOK (mkG D cI cL A (ad9 h0 uu) ids9) := gok_of cl9
  have C := cx_ofK (cL := cL) (k := 72) (z := 15414) K hG
  have hk0 : (9, 0) ∈ gids (mkG D cI cL A (ad9 h0 uu) ids9) := (by decide +kernel : (9, 0) ∈ ids9)
  refine g_aload_n C 0 dX9_init_92 rfl rfl ?_
  refine g_getr (k := 0) (k' := 0) C (by decide) kp_X9_12 rfl rfl dX9_init_93 ?_
  refine g_iconst (v := 2) C dX9_init_96 rfl ?_
  refine g_callVv_k (As := [vI (2 : Int32)]) (rest := []) C li_X9_61 (k_X2_clear X.2.1 _ hl hG fu 0 (2 : Int32) MF Mb ((hG _ hk0).2 0 2 0 0 rfl) hb) (by decide) rfl rfl rfl (Nat.le_of_ble_eq_true rfl) ⟨Nat.le_of_ble_eq_true rfl, Nat.le_of_ble_eq_true rfl⟩ ⟨Nat.le_of_ble_eq_true rfl, Nat.le_of_ble_eq_true rfl⟩ dX9_init_97 ?_
  refine g_aload_n C 0 dX9_init_100 rfl rfl ?_
  refine g_getr (k := 0) (k' := 0) C (by decide) kp_X9_40 rfl rfl dX9_init_101 ?_
  refine g_callVv_k (As := []) (rest := []) C li_X9_65 (k_X1_clear X.2.1 _ hl hG fu 0 Mb Mc ((hG _ hk0).2 4 1 0 0 rfl) hc) (by decide) rfl rfl rfl (Nat.le_of_ble_eq_true rfl) ⟨Nat.le_of_ble_eq_true rfl, Nat.le_of_ble_eq_true rfl⟩ ⟨Nat.le_of_ble_eq_true rfl, Nat.le_of_ble_eq_true rfl⟩ dX9_init_104 ?_
  refine g_aload_n C 0 dX9_init_107 rfl rfl ?_
  refine g_callVv_k (As := []) (rest := []) C li_X9_67 (k_X9_graphChanged X.2.1 _ hl hG fu Mc Md hk0 hd) (by decide) rfl rfl rfl (Nat.le_of_ble_eq_true rfl) ⟨Nat.le_of_ble_eq_true rfl, Nat.le_of_ble_eq_true rfl⟩ ⟨Nat.le_of_ble_eq_true rfl, Nat.le_of_ble_eq_true rfl⟩ dX9_init_108 ?_
  exact g_endI C uu (by subst huu; rfl) rfl (Nat.le_of_ble_eq_true rfl) (Nat.le_of_ble_eq_true rfl) dX9_init_111
end CTORS2
/-! The claim's room is too small: no state that holds an ArrowDiagrams and an ArrowDiagramsModel in new cells keeps the claim's frame. -/
section ROOM
def esz (e : va_E) : Nat := match e with
  | .inl a => a.2.1
  | .inr _ => 0
theorem sum_set0 : ∀ (L : List Nat) (i v : Nat), L[i]? = some v → L.sum = v + (L.set i 0).sum
  | [], i, v, h => by simp at h
  | a :: r, 0, v, h => by
    simp at h
    subst h
    simp
  | a :: r, i + 1, v, h => by
    have h' : r[i]? = some v := by simpa using h
    have := sum_set0 r i v h'
    simp only [List.set_cons_succ, List.sum_cons]
    omega
theorem sizes_sum (base : Nat) : ∀ (ws : va_W) (L : List Nat), (∀ (j : Nat) (q : Nat × va_E), ws[j]? = some q → ∃ i v, q.1 = base + i ∧ L[i]? = some v ∧ esz q.2 ≤ v) → (∀ (i j : Nat) (p q : Nat × va_E), ws[i]? = some p → ws[j]? = some q → p.1 = q.1 → i = j) → (ws.map (fun q => esz q.2)).sum ≤ L.sum
  | [], L, _, _ => by simp
  | q :: r, L, h, hd => by
    obtain ⟨i, v, h1, h2, h3⟩ := h 0 q rfl
    have ih := sizes_sum base r (L.set i 0) (fun j x hx => by
      obtain ⟨i2, v2, g1, g2, g3⟩ := h (j + 1) x hx
      have hne : i2 ≠ i := fun e => by
        have := hd 0 (j + 1) q x rfl hx (by rw [h1, g1, e])
        omega
      exact ⟨i2, v2, g1, by rw [List.getElem?_set_ne (Ne.symm hne)]; exact g2, g3⟩) (fun a b x y hx hy hxy => by
      have := hd (a + 1) (b + 1) x y hx hy hxy
      omega)
    have := sum_set0 L i v h2
    simp only [List.map_cons, List.sum_cons]
    omega
theorem cell_esz {D : va_G} {q : Nat × va_E} {H : Heap} (h : va_at D vwCl q H) : ∃ c : Cell, H[q.1]? = some c ∧ esz q.2 ≤ c.slots.size := by
  obtain ⟨a, e⟩ := q
  cases e with
  | inl x =>
    refine ⟨_, h, ?_⟩
    show x.2.1 ≤ (vp_cell x.1 x.2).slots.size
    obtain ⟨cA, n, f | f | f | f | f⟩ := x <;> (show n ≤ (arrV _ n _).slots.size; rw [arrV_size]; exact Nat.le_refl _)
  | inr o =>
    obtain ⟨r, h1, cell, h2, -⟩ := h
    exact ⟨cell, h2, Nat.zero_le _⟩
def idsm : List (Nat × Nat) := [(10, 0), (22, 3), (22, 4), (22, 5), (22, 6), (22, 8), (22, 9), (22, 10), (22, 12), (22, 14), (22, 15), (22, 16), (22, 17), (22, 18), (22, 25), (22, 26), (22, 27), (22, 29), (22, 30)]
theorem esz_enc (G : GE) (M : Mem) (t k : Nat) : esz (enc G M t k) = if t < 20 then 0 else alen t k := by
  unfold enc
  by_cases h : t < 20
  · rw [if_pos h, if_pos h]; rfl
  · rw [if_neg h, if_neg h]
    by_cases h2 : t = 23
    · rw [if_pos h2]; rfl
    · rw [if_neg h2]; rfl
end ROOM
/-! the reference's constructor; made by wip/whole/mkctor2.py -/
section CTORS3
variable {D : va_G} {cI cL : ClassId}
def adm (h0 : Nat) (u : List Nat) : Nat → Nat → Nat := fun t k => match t with | 10 => h0 | 22 => [0, 0, 0, (u.getD 0 0), (u.getD 1 0), (u.getD 2 0), (u.getD 3 0), 0, (u.getD 4 0), (u.getD 5 0), (u.getD 6 0), 0, (u.getD 7 0), 0, (u.getD 8 0), (u.getD 9 0), (u.getD 10 0), (u.getD 11 0), (u.getD 12 0), 0, 0, 0, 0, 0, 0, (u.getD 13 0), (u.getD 14 0), (u.getD 15 0), 0, (u.getD 16 0), (u.getD 17 0)].getD k 0 | _ => 0
/-- the reference's memory before its first call: n is 2 -/
def MM : Mem := (fun t _ i => if t = 10 ∧ i = 1 then 2 else 0, fun _ _ _ => 0)
def wX10 (D : va_G) (cI cL : ClassId) (Md : Mem) (h0 : Nat) (u : List Nat) : va_W := wl (mkG D cI cL (fun _ => True) (adm h0 u) idsm) Md
theorem clm : closedB idsm = true := by decide +kernel
theorem n_seg {A : Nat → Prop} {own : String} {cc : ByteArray} {nL : Nat} {rm : Room} {X : PX} {Q : State → Prop} {k z pc : Nat} {ls : List (Nat × Value)} (K : KX D cI cL A own cc nL rm X) {pc1 idx i N h0 : Nat} {n : Int32} {fs : List Value} {r : va_W} (hfl : fs.length = 32) (hj : ls[0]? = some (0, .ref h0)) (hd0 : decode cc pc = .ok (.aload_n 0, 1))
    (push : ∀ (st : List Value) (ws : va_W), NW D A X nL Q k z pc1 ls (.int n :: st) ws → NW D A X nL Q k z (pc + 1) ls st ws) (hn : ¬ n < 0) (hN : n.toNatClampNeg = N) (hb : N * 4 ≤ 536870912) (hc : k + 1 ≤ rm.cells) (hz : z + N ≤ rm.slots) (hd2 : decode cc pc1 = .ok (.newarray .int, 2))
    (hi : i < 32) (hi2 : i < cn 10) (hlk : fLk own idx 10 i) (hfin : (cT 10 i).2.2.2 = true) (hdecl : (cT 10 i).1 = own) (hty : ∀ q, narrow (cty 10 i) (.ref q) = .ref q ∧ fits (cty 10 i) (.ref q) = true) (hd3 : decode cc (pc1 + 2) = .ok (.putfield idx, 3))
    (kk : ∀ (q : Nat) (fs' : List Value) (r' : va_W), fs'.length = 32 → fs' = fs.set i (.ref q) → r' = r ++ [(q, .inl (cI, N, .inl (fun _ => 0)))] → NW D A X nL Q (k + 1) (z + N) (pc1 + 2 + 3) ls [] ((h0, .inr (10, fs')) :: r')) : NW D A X nL Q k z pc ls [] ((h0, .inr (10, fs)) :: r) := by
  refine n_aload K 0 hd0 rfl hj ?_
  refine push _ _ ?_
  refine n_newi (N := N) K ko_3 hn hN hb hc hz hd2 (fun q => ?_)
  refine n_putF (t := 10) (i := i) (a := h0) (fs := fs) K 0 (by decide) rfl hi2 hlk hfin hdecl (hty q).1 (hty q).2 (by rw [hfl]; exact hi) hd3 ?_
  exact kk q _ _ (by rw [List.length_set]; exact hfl) rfl rfl
set_option maxHeartbeats 4000000 in
set_option maxRecDepth 100000 in
theorem c_X10_init (l : Launch) (hl : l.stackTraces = false) (h0 : Nat) (fu : Nat) (Md : Mem) (hd : f_X10_fresh fu (2 : Int32) MM = some Md) : CTI l D cI cL yX10_init cX10_init 1 4 18 8446 h0 [] (.inr (10, [.int 0, .int 0, .int 0, .null, .null, .null, .null, .int 0, .null, .null, .null, .int 0, .null, .int 0, .null, .null, .null, .null, .null, .int 0, .int 0, .int 0, .int 0, .int 0, .int 0, .null, .null, .null, .int 0, .null, .null, .long 0])) (wX10 D cI cL Md h0) 18 := by
  refine cti_of [(0, .ref h0)] (by decide +kernel) rfl hl (show 1 ≤ 1 by decide) rfl (fun A X hX K hA => ?_)
  subst hX
  refine n_aload K 0 dX10_init_0 rfl rfl ?_
  refine n_obj K ko_X10_1 ko_1 ko_2 (Nat.le_of_ble_eq_true rfl) (Nat.le_of_ble_eq_true rfl) dX10_init_1 ?_
  refine n_aload K 0 dX10_init_4 rfl rfl ?_
  refine n_iconst (v := 2) K dX10_init_5 rfl ?_
  refine n_puti K 0 (t := 10) (i := 1) (by decide) rfl (by decide) kp_X10_7 rfl rfl rfl (show 1 < 32 by decide) dX10_init_6 ?_
  show NW _ _ _ _ _ _ _ _ _ _ ((h0, .inr (10, [.int 0, .int 2, .int 0, .null, .null, .null, .null, .int 0, .null, .null, .null, .int 0, .null, .int 0, .null, .null, .null, .null, .null, .int 0, .int 0, .int 0, .int 0, .int 0, .int 0, .null, .null, .null, .int 0, .null, .null, .long 0])) :: [])
  obtain ⟨fs0, E0⟩ : ∃ fs0 : List Value, fs0 = [.int 0, .int 2, .int 0, .null, .null, .null, .null, .int 0, .null, .null, .null, .int 0, .null, .int 0, .null, .null, .null, .null, .null, .int 0, .int 0, .int 0, .int 0, .int 0, .int 0, .null, .null, .null, .int 0, .null, .null, .long 0] := ⟨_, rfl⟩
  rw [← E0]
  have l0 : fs0.length = 32 := by rw [E0]; rfl
  refine n_seg (pc1 := 12) (i := 3) (N := 14) (n := 14) K l0 rfl dX10_init_9 (fun st ws h => n_bipush (v := 14) K dX10_init_10 rfl h) (by decide) (by decide) (by decide) (Nat.le_of_ble_eq_true rfl) (Nat.le_of_ble_eq_true rfl) dX10_init_12 (by decide) (by decide) kp_X10_13 rfl rfl (fun _ => ⟨rfl, rfl⟩) dX10_init_14 (fun q12 fs12 r12 l12 e12 g12 => ?_)
  have E12 : fs12 = [.int 0, .int 2, .int 0, .ref q12, .null, .null, .null, .int 0, .null, .null, .null, .int 0, .null, .int 0, .null, .null, .null, .null, .null, .int 0, .int 0, .int 0, .int 0, .int 0, .int 0, .null, .null, .null, .int 0, .null, .null, .long 0] := by rw [e12, E0]; rfl
  have G12 : r12 = [(q12, .inl (cI, 14, .inl (fun _ => 0)))] := g12
  refine n_seg (pc1 := 20) (i := 4) (N := 14) (n := 14) K l12 rfl dX10_init_17 (fun st ws h => n_bipush (v := 14) K dX10_init_18 rfl h) (by decide) (by decide) (by decide) (Nat.le_of_ble_eq_true rfl) (Nat.le_of_ble_eq_true rfl) dX10_init_20 (by decide) (by decide) kp_X10_17 rfl rfl (fun _ => ⟨rfl, rfl⟩) dX10_init_22 (fun q20 fs20 r20 l20 e20 g20 => ?_)
  have E20 : fs20 = [.int 0, .int 2, .int 0, .ref q12, .ref q20, .null, .null, .int 0, .null, .null, .null, .int 0, .null, .int 0, .null, .null, .null, .null, .null, .int 0, .int 0, .int 0, .int 0, .int 0, .int 0, .null, .null, .null, .int 0, .null, .null, .long 0] := by rw [e20, E12]; rfl
  have G20 : r20 = [(q12, .inl (cI, 14, .inl (fun _ => 0))), (q20, .inl (cI, 14, .inl (fun _ => 0)))] := by rw [g20, G12]; rfl
  refine n_seg (pc1 := 28) (i := 5) (N := 14) (n := 14) K l20 rfl dX10_init_25 (fun st ws h => n_bipush (v := 14) K dX10_init_26 rfl h) (by decide) (by decide) (by decide) (Nat.le_of_ble_eq_true rfl) (Nat.le_of_ble_eq_true rfl) dX10_init_28 (by decide) (by decide) kp_X10_20 rfl rfl (fun _ => ⟨rfl, rfl⟩) dX10_init_30 (fun q28 fs28 r28 l28 e28 g28 => ?_)
  have E28 : fs28 = [.int 0, .int 2, .int 0, .ref q12, .ref q20, .ref q28, .null, .int 0, .null, .null, .null, .int 0, .null, .int 0, .null, .null, .null, .null, .null, .int 0, .int 0, .int 0, .int 0, .int 0, .int 0, .null, .null, .null, .int 0, .null, .null, .long 0] := by rw [e28, E20]; rfl
  have G28 : r28 = [(q12, .inl (cI, 14, .inl (fun _ => 0))), (q20, .inl (cI, 14, .inl (fun _ => 0))), (q28, .inl (cI, 14, .inl (fun _ => 0)))] := by rw [g28, G20]; rfl
  refine n_seg (pc1 := 36) (i := 6) (N := 8) (n := 8) K l28 rfl dX10_init_33 (fun st ws h => n_bipush (v := 8) K dX10_init_34 rfl h) (by decide) (by decide) (by decide) (Nat.le_of_ble_eq_true rfl) (Nat.le_of_ble_eq_true rfl) dX10_init_36 (by decide) (by decide) kp_X10_23 rfl rfl (fun _ => ⟨rfl, rfl⟩) dX10_init_38 (fun q36 fs36 r36 l36 e36 g36 => ?_)
  have E36 : fs36 = [.int 0, .int 2, .int 0, .ref q12, .ref q20, .ref q28, .ref q36, .int 0, .null, .null, .null, .int 0, .null, .int 0, .null, .null, .null, .null, .null, .int 0, .int 0, .int 0, .int 0, .int 0, .int 0, .null, .null, .null, .int 0, .null, .null, .long 0] := by rw [e36, E28]; rfl
  have G36 : r36 = [(q12, .inl (cI, 14, .inl (fun _ => 0))), (q20, .inl (cI, 14, .inl (fun _ => 0))), (q28, .inl (cI, 14, .inl (fun _ => 0))), (q36, .inl (cI, 8, .inl (fun _ => 0)))] := by rw [g36, G28]; rfl
  refine n_seg (pc1 := 44) (i := 8) (N := 11) (n := 11) K l36 rfl dX10_init_41 (fun st ws h => n_bipush (v := 11) K dX10_init_42 rfl h) (by decide) (by decide) (by decide) (Nat.le_of_ble_eq_true rfl) (Nat.le_of_ble_eq_true rfl) dX10_init_44 (by decide) (by decide) kp_X10_26 rfl rfl (fun _ => ⟨rfl, rfl⟩) dX10_init_46 (fun q44 fs44 r44 l44 e44 g44 => ?_)
  have E44 : fs44 = [.int 0, .int 2, .int 0, .ref q12, .ref q20, .ref q28, .ref q36, .int 0, .ref q44, .null, .null, .int 0, .null, .int 0, .null, .null, .null, .null, .null, .int 0, .int 0, .int 0, .int 0, .int 0, .int 0, .null, .null, .null, .int 0, .null, .null, .long 0] := by rw [e44, E36]; rfl
  have G44 : r44 = [(q12, .inl (cI, 14, .inl (fun _ => 0))), (q20, .inl (cI, 14, .inl (fun _ => 0))), (q28, .inl (cI, 14, .inl (fun _ => 0))), (q36, .inl (cI, 8, .inl (fun _ => 0))), (q44, .inl (cI, 11, .inl (fun _ => 0)))] := by rw [g44, G36]; rfl
  refine n_seg (pc1 := 52) (i := 9) (N := 22) (n := 22) K l44 rfl dX10_init_49 (fun st ws h => n_bipush (v := 22) K dX10_init_50 rfl h) (by decide) (by decide) (by decide) (Nat.le_of_ble_eq_true rfl) (Nat.le_of_ble_eq_true rfl) dX10_init_52 (by decide) (by decide) kp_X10_29 rfl rfl (fun _ => ⟨rfl, rfl⟩) dX10_init_54 (fun q52 fs52 r52 l52 e52 g52 => ?_)
  have E52 : fs52 = [.int 0, .int 2, .int 0, .ref q12, .ref q20, .ref q28, .ref q36, .int 0, .ref q44, .ref q52, .null, .int 0, .null, .int 0, .null, .null, .null, .null, .null, .int 0, .int 0, .int 0, .int 0, .int 0, .int 0, .null, .null, .null, .int 0, .null, .null, .long 0] := by rw [e52, E44]; rfl
  have G52 : r52 = [(q12, .inl (cI, 14, .inl (fun _ => 0))), (q20, .inl (cI, 14, .inl (fun _ => 0))), (q28, .inl (cI, 14, .inl (fun _ => 0))), (q36, .inl (cI, 8, .inl (fun _ => 0))), (q44, .inl (cI, 11, .inl (fun _ => 0))), (q52, .inl (cI, 22, .inl (fun _ => 0)))] := by rw [g52, G44]; rfl
  refine n_seg (pc1 := 61) (i := 10) (N := 154) (n := 154) K l52 rfl dX10_init_57 (fun st ws h => n_sipush (v := 154) K dX10_init_58 rfl h) (by decide) (by decide) (by decide) (Nat.le_of_ble_eq_true rfl) (Nat.le_of_ble_eq_true rfl) dX10_init_61 (by decide) (by decide) kp_X10_32 rfl rfl (fun _ => ⟨rfl, rfl⟩) dX10_init_63 (fun q61 fs61 r61 l61 e61 g61 => ?_)
  have E61 : fs61 = [.int 0, .int 2, .int 0, .ref q12, .ref q20, .ref q28, .ref q36, .int 0, .ref q44, .ref q52, .ref q61, .int 0, .null, .int 0, .null, .null, .null, .null, .null, .int 0, .int 0, .int 0, .int 0, .int 0, .int 0, .null, .null, .null, .int 0, .null, .null, .long 0] := by rw [e61, E52]; rfl
  have G61 : r61 = [(q12, .inl (cI, 14, .inl (fun _ => 0))), (q20, .inl (cI, 14, .inl (fun _ => 0))), (q28, .inl (cI, 14, .inl (fun _ => 0))), (q36, .inl (cI, 8, .inl (fun _ => 0))), (q44, .inl (cI, 11, .inl (fun _ => 0))), (q52, .inl (cI, 22, .inl (fun _ => 0))), (q61, .inl (cI, 154, .inl (fun _ => 0)))] := by rw [g61, G52]; rfl
  refine n_seg (pc1 := 69) (i := 12) (N := 60) (n := 60) K l61 rfl dX10_init_66 (fun st ws h => n_bipush (v := 60) K dX10_init_67 rfl h) (by decide) (by decide) (by decide) (Nat.le_of_ble_eq_true rfl) (Nat.le_of_ble_eq_true rfl) dX10_init_69 (by decide) (by decide) kp_X10_35 rfl rfl (fun _ => ⟨rfl, rfl⟩) dX10_init_71 (fun q69 fs69 r69 l69 e69 g69 => ?_)
  have E69 : fs69 = [.int 0, .int 2, .int 0, .ref q12, .ref q20, .ref q28, .ref q36, .int 0, .ref q44, .ref q52, .ref q61, .int 0, .ref q69, .int 0, .null, .null, .null, .null, .null, .int 0, .int 0, .int 0, .int 0, .int 0, .int 0, .null, .null, .null, .int 0, .null, .null, .long 0] := by rw [e69, E61]; rfl
  have G69 : r69 = [(q12, .inl (cI, 14, .inl (fun _ => 0))), (q20, .inl (cI, 14, .inl (fun _ => 0))), (q28, .inl (cI, 14, .inl (fun _ => 0))), (q36, .inl (cI, 8, .inl (fun _ => 0))), (q44, .inl (cI, 11, .inl (fun _ => 0))), (q52, .inl (cI, 22, .inl (fun _ => 0))), (q61, .inl (cI, 154, .inl (fun _ => 0))), (q69, .inl (cI, 60, .inl (fun _ => 0)))] := by rw [g69, G61]; rfl
  refine n_seg (pc1 := 78) (i := 14) (N := 301) (n := 301) K l69 rfl dX10_init_74 (fun st ws h => n_sipush (v := 301) K dX10_init_75 rfl h) (by decide) (by decide) (by decide) (Nat.le_of_ble_eq_true rfl) (Nat.le_of_ble_eq_true rfl) dX10_init_78 (by decide) (by decide) kp_X10_38 rfl rfl (fun _ => ⟨rfl, rfl⟩) dX10_init_80 (fun q78 fs78 r78 l78 e78 g78 => ?_)
  have E78 : fs78 = [.int 0, .int 2, .int 0, .ref q12, .ref q20, .ref q28, .ref q36, .int 0, .ref q44, .ref q52, .ref q61, .int 0, .ref q69, .int 0, .ref q78, .null, .null, .null, .null, .int 0, .int 0, .int 0, .int 0, .int 0, .int 0, .null, .null, .null, .int 0, .null, .null, .long 0] := by rw [e78, E69]; rfl
  have G78 : r78 = [(q12, .inl (cI, 14, .inl (fun _ => 0))), (q20, .inl (cI, 14, .inl (fun _ => 0))), (q28, .inl (cI, 14, .inl (fun _ => 0))), (q36, .inl (cI, 8, .inl (fun _ => 0))), (q44, .inl (cI, 11, .inl (fun _ => 0))), (q52, .inl (cI, 22, .inl (fun _ => 0))), (q61, .inl (cI, 154, .inl (fun _ => 0))), (q69, .inl (cI, 60, .inl (fun _ => 0))), (q78, .inl (cI, 301, .inl (fun _ => 0)))] := by rw [g78, G69]; rfl
  refine n_seg (pc1 := 87) (i := 15) (N := 301) (n := 301) K l78 rfl dX10_init_83 (fun st ws h => n_sipush (v := 301) K dX10_init_84 rfl h) (by decide) (by decide) (by decide) (Nat.le_of_ble_eq_true rfl) (Nat.le_of_ble_eq_true rfl) dX10_init_87 (by decide) (by decide) kp_X10_41 rfl rfl (fun _ => ⟨rfl, rfl⟩) dX10_init_89 (fun q87 fs87 r87 l87 e87 g87 => ?_)
  have E87 : fs87 = [.int 0, .int 2, .int 0, .ref q12, .ref q20, .ref q28, .ref q36, .int 0, .ref q44, .ref q52, .ref q61, .int 0, .ref q69, .int 0, .ref q78, .ref q87, .null, .null, .null, .int 0, .int 0, .int 0, .int 0, .int 0, .int 0, .null, .null, .null, .int 0, .null, .null, .long 0] := by rw [e87, E78]; rfl
  have G87 : r87 = [(q12, .inl (cI, 14, .inl (fun _ => 0))), (q20, .inl (cI, 14, .inl (fun _ => 0))), (q28, .inl (cI, 14, .inl (fun _ => 0))), (q36, .inl (cI, 8, .inl (fun _ => 0))), (q44, .inl (cI, 11, .inl (fun _ => 0))), (q52, .inl (cI, 22, .inl (fun _ => 0))), (q61, .inl (cI, 154, .inl (fun _ => 0))), (q69, .inl (cI, 60, .inl (fun _ => 0))), (q78, .inl (cI, 301, .inl (fun _ => 0))), (q87, .inl (cI, 301, .inl (fun _ => 0)))] := by rw [g87, G78]; rfl
  refine n_seg (pc1 := 96) (i := 16) (N := 301) (n := 301) K l87 rfl dX10_init_92 (fun st ws h => n_sipush (v := 301) K dX10_init_93 rfl h) (by decide) (by decide) (by decide) (Nat.le_of_ble_eq_true rfl) (Nat.le_of_ble_eq_true rfl) dX10_init_96 (by decide) (by decide) kp_X10_44 rfl rfl (fun _ => ⟨rfl, rfl⟩) dX10_init_98 (fun q96 fs96 r96 l96 e96 g96 => ?_)
  have E96 : fs96 = [.int 0, .int 2, .int 0, .ref q12, .ref q20, .ref q28, .ref q36, .int 0, .ref q44, .ref q52, .ref q61, .int 0, .ref q69, .int 0, .ref q78, .ref q87, .ref q96, .null, .null, .int 0, .int 0, .int 0, .int 0, .int 0, .int 0, .null, .null, .null, .int 0, .null, .null, .long 0] := by rw [e96, E87]; rfl
  have G96 : r96 = [(q12, .inl (cI, 14, .inl (fun _ => 0))), (q20, .inl (cI, 14, .inl (fun _ => 0))), (q28, .inl (cI, 14, .inl (fun _ => 0))), (q36, .inl (cI, 8, .inl (fun _ => 0))), (q44, .inl (cI, 11, .inl (fun _ => 0))), (q52, .inl (cI, 22, .inl (fun _ => 0))), (q61, .inl (cI, 154, .inl (fun _ => 0))), (q69, .inl (cI, 60, .inl (fun _ => 0))), (q78, .inl (cI, 301, .inl (fun _ => 0))), (q87, .inl (cI, 301, .inl (fun _ => 0))), (q96, .inl (cI, 301, .inl (fun _ => 0)))] := by rw [g96, G87]; rfl
  refine n_seg (pc1 := 105) (i := 17) (N := 2107) (n := 2107) K l96 rfl dX10_init_101 (fun st ws h => n_sipush (v := 2107) K dX10_init_102 rfl h) (by decide) (by decide) (by decide) (Nat.le_of_ble_eq_true rfl) (Nat.le_of_ble_eq_true rfl) dX10_init_105 (by decide) (by decide) kp_X10_47 rfl rfl (fun _ => ⟨rfl, rfl⟩) dX10_init_107 (fun q105 fs105 r105 l105 e105 g105 => ?_)
  have E105 : fs105 = [.int 0, .int 2, .int 0, .ref q12, .ref q20, .ref q28, .ref q36, .int 0, .ref q44, .ref q52, .ref q61, .int 0, .ref q69, .int 0, .ref q78, .ref q87, .ref q96, .ref q105, .null, .int 0, .int 0, .int 0, .int 0, .int 0, .int 0, .null, .null, .null, .int 0, .null, .null, .long 0] := by rw [e105, E96]; rfl
  have G105 : r105 = [(q12, .inl (cI, 14, .inl (fun _ => 0))), (q20, .inl (cI, 14, .inl (fun _ => 0))), (q28, .inl (cI, 14, .inl (fun _ => 0))), (q36, .inl (cI, 8, .inl (fun _ => 0))), (q44, .inl (cI, 11, .inl (fun _ => 0))), (q52, .inl (cI, 22, .inl (fun _ => 0))), (q61, .inl (cI, 154, .inl (fun _ => 0))), (q69, .inl (cI, 60, .inl (fun _ => 0))), (q78, .inl (cI, 301, .inl (fun _ => 0))), (q87, .inl (cI, 301, .inl (fun _ => 0))), (q96, .inl (cI, 301, .inl (fun _ => 0))), (q105, .inl (cI, 2107, .inl (fun _ => 0)))] := by rw [g105, G96]; rfl
  refine n_seg (pc1 := 114) (i := 18) (N := 4214) (n := 4214) K l105 rfl dX10_init_110 (fun st ws h => n_sipush (v := 4214) K dX10_init_111 rfl h) (by decide) (by decide) (by decide) (Nat.le_of_ble_eq_true rfl) (Nat.le_of_ble_eq_true rfl) dX10_init_114 (by decide) (by decide) kp_X10_50 rfl rfl (fun _ => ⟨rfl, rfl⟩) dX10_init_116 (fun q114 fs114 r114 l114 e114 g114 => ?_)
  have E114 : fs114 = [.int 0, .int 2, .int 0, .ref q12, .ref q20, .ref q28, .ref q36, .int 0, .ref q44, .ref q52, .ref q61, .int 0, .ref q69, .int 0, .ref q78, .ref q87, .ref q96, .ref q105, .ref q114, .int 0, .int 0, .int 0, .int 0, .int 0, .int 0, .null, .null, .null, .int 0, .null, .null, .long 0] := by rw [e114, E105]; rfl
  have G114 : r114 = [(q12, .inl (cI, 14, .inl (fun _ => 0))), (q20, .inl (cI, 14, .inl (fun _ => 0))), (q28, .inl (cI, 14, .inl (fun _ => 0))), (q36, .inl (cI, 8, .inl (fun _ => 0))), (q44, .inl (cI, 11, .inl (fun _ => 0))), (q52, .inl (cI, 22, .inl (fun _ => 0))), (q61, .inl (cI, 154, .inl (fun _ => 0))), (q69, .inl (cI, 60, .inl (fun _ => 0))), (q78, .inl (cI, 301, .inl (fun _ => 0))), (q87, .inl (cI, 301, .inl (fun _ => 0))), (q96, .inl (cI, 301, .inl (fun _ => 0))), (q105, .inl (cI, 2107, .inl (fun _ => 0))), (q114, .inl (cI, 4214, .inl (fun _ => 0)))] := by rw [g114, G105]; rfl
  refine n_seg (pc1 := 123) (i := 25) (N := 301) (n := 301) K l114 rfl dX10_init_119 (fun st ws h => n_sipush (v := 301) K dX10_init_120 rfl h) (by decide) (by decide) (by decide) (Nat.le_of_ble_eq_true rfl) (Nat.le_of_ble_eq_true rfl) dX10_init_123 (by decide) (by decide) kp_X10_53 rfl rfl (fun _ => ⟨rfl, rfl⟩) dX10_init_125 (fun q123 fs123 r123 l123 e123 g123 => ?_)
  have E123 : fs123 = [.int 0, .int 2, .int 0, .ref q12, .ref q20, .ref q28, .ref q36, .int 0, .ref q44, .ref q52, .ref q61, .int 0, .ref q69, .int 0, .ref q78, .ref q87, .ref q96, .ref q105, .ref q114, .int 0, .int 0, .int 0, .int 0, .int 0, .int 0, .ref q123, .null, .null, .int 0, .null, .null, .long 0] := by rw [e123, E114]; rfl
  have G123 : r123 = [(q12, .inl (cI, 14, .inl (fun _ => 0))), (q20, .inl (cI, 14, .inl (fun _ => 0))), (q28, .inl (cI, 14, .inl (fun _ => 0))), (q36, .inl (cI, 8, .inl (fun _ => 0))), (q44, .inl (cI, 11, .inl (fun _ => 0))), (q52, .inl (cI, 22, .inl (fun _ => 0))), (q61, .inl (cI, 154, .inl (fun _ => 0))), (q69, .inl (cI, 60, .inl (fun _ => 0))), (q78, .inl (cI, 301, .inl (fun _ => 0))), (q87, .inl (cI, 301, .inl (fun _ => 0))), (q96, .inl (cI, 301, .inl (fun _ => 0))), (q105, .inl (cI, 2107, .inl (fun _ => 0))), (q114, .inl (cI, 4214, .inl (fun _ => 0))), (q123, .inl (cI, 301, .inl (fun _ => 0)))] := by rw [g123, G114]; rfl
  refine n_seg (pc1 := 132) (i := 26) (N := 301) (n := 301) K l123 rfl dX10_init_128 (fun st ws h => n_sipush (v := 301) K dX10_init_129 rfl h) (by decide) (by decide) (by decide) (Nat.le_of_ble_eq_true rfl) (Nat.le_of_ble_eq_true rfl) dX10_init_132 (by decide) (by decide) kp_X10_56 rfl rfl (fun _ => ⟨rfl, rfl⟩) dX10_init_134 (fun q132 fs132 r132 l132 e132 g132 => ?_)
  have E132 : fs132 = [.int 0, .int 2, .int 0, .ref q12, .ref q20, .ref q28, .ref q36, .int 0, .ref q44, .ref q52, .ref q61, .int 0, .ref q69, .int 0, .ref q78, .ref q87, .ref q96, .ref q105, .ref q114, .int 0, .int 0, .int 0, .int 0, .int 0, .int 0, .ref q123, .ref q132, .null, .int 0, .null, .null, .long 0] := by rw [e132, E123]; rfl
  have G132 : r132 = [(q12, .inl (cI, 14, .inl (fun _ => 0))), (q20, .inl (cI, 14, .inl (fun _ => 0))), (q28, .inl (cI, 14, .inl (fun _ => 0))), (q36, .inl (cI, 8, .inl (fun _ => 0))), (q44, .inl (cI, 11, .inl (fun _ => 0))), (q52, .inl (cI, 22, .inl (fun _ => 0))), (q61, .inl (cI, 154, .inl (fun _ => 0))), (q69, .inl (cI, 60, .inl (fun _ => 0))), (q78, .inl (cI, 301, .inl (fun _ => 0))), (q87, .inl (cI, 301, .inl (fun _ => 0))), (q96, .inl (cI, 301, .inl (fun _ => 0))), (q105, .inl (cI, 2107, .inl (fun _ => 0))), (q114, .inl (cI, 4214, .inl (fun _ => 0))), (q123, .inl (cI, 301, .inl (fun _ => 0))), (q132, .inl (cI, 301, .inl (fun _ => 0)))] := by rw [g132, G123]; rfl
  refine n_seg (pc1 := 141) (i := 27) (N := 301) (n := 301) K l132 rfl dX10_init_137 (fun st ws h => n_sipush (v := 301) K dX10_init_138 rfl h) (by decide) (by decide) (by decide) (Nat.le_of_ble_eq_true rfl) (Nat.le_of_ble_eq_true rfl) dX10_init_141 (by decide) (by decide) kp_X10_59 rfl rfl (fun _ => ⟨rfl, rfl⟩) dX10_init_143 (fun q141 fs141 r141 l141 e141 g141 => ?_)
  have E141 : fs141 = [.int 0, .int 2, .int 0, .ref q12, .ref q20, .ref q28, .ref q36, .int 0, .ref q44, .ref q52, .ref q61, .int 0, .ref q69, .int 0, .ref q78, .ref q87, .ref q96, .ref q105, .ref q114, .int 0, .int 0, .int 0, .int 0, .int 0, .int 0, .ref q123, .ref q132, .ref q141, .int 0, .null, .null, .long 0] := by rw [e141, E132]; rfl
  have G141 : r141 = [(q12, .inl (cI, 14, .inl (fun _ => 0))), (q20, .inl (cI, 14, .inl (fun _ => 0))), (q28, .inl (cI, 14, .inl (fun _ => 0))), (q36, .inl (cI, 8, .inl (fun _ => 0))), (q44, .inl (cI, 11, .inl (fun _ => 0))), (q52, .inl (cI, 22, .inl (fun _ => 0))), (q61, .inl (cI, 154, .inl (fun _ => 0))), (q69, .inl (cI, 60, .inl (fun _ => 0))), (q78, .inl (cI, 301, .inl (fun _ => 0))), (q87, .inl (cI, 301, .inl (fun _ => 0))), (q96, .inl (cI, 301, .inl (fun _ => 0))), (q105, .inl (cI, 2107, .inl (fun _ => 0))), (q114, .inl (cI, 4214, .inl (fun _ => 0))), (q123, .inl (cI, 301, .inl (fun _ => 0))), (q132, .inl (cI, 301, .inl (fun _ => 0))), (q141, .inl (cI, 301, .inl (fun _ => 0)))] := by rw [g141, G132]; rfl
  refine n_seg (pc1 := 149) (i := 29) (N := 14) (n := 14) K l141 rfl dX10_init_146 (fun st ws h => n_bipush (v := 14) K dX10_init_147 rfl h) (by decide) (by decide) (by decide) (Nat.le_of_ble_eq_true rfl) (Nat.le_of_ble_eq_true rfl) dX10_init_149 (by decide) (by decide) kp_X10_62 rfl rfl (fun _ => ⟨rfl, rfl⟩) dX10_init_151 (fun q149 fs149 r149 l149 e149 g149 => ?_)
  have E149 : fs149 = [.int 0, .int 2, .int 0, .ref q12, .ref q20, .ref q28, .ref q36, .int 0, .ref q44, .ref q52, .ref q61, .int 0, .ref q69, .int 0, .ref q78, .ref q87, .ref q96, .ref q105, .ref q114, .int 0, .int 0, .int 0, .int 0, .int 0, .int 0, .ref q123, .ref q132, .ref q141, .int 0, .ref q149, .null, .long 0] := by rw [e149, E141]; rfl
  have G149 : r149 = [(q12, .inl (cI, 14, .inl (fun _ => 0))), (q20, .inl (cI, 14, .inl (fun _ => 0))), (q28, .inl (cI, 14, .inl (fun _ => 0))), (q36, .inl (cI, 8, .inl (fun _ => 0))), (q44, .inl (cI, 11, .inl (fun _ => 0))), (q52, .inl (cI, 22, .inl (fun _ => 0))), (q61, .inl (cI, 154, .inl (fun _ => 0))), (q69, .inl (cI, 60, .inl (fun _ => 0))), (q78, .inl (cI, 301, .inl (fun _ => 0))), (q87, .inl (cI, 301, .inl (fun _ => 0))), (q96, .inl (cI, 301, .inl (fun _ => 0))), (q105, .inl (cI, 2107, .inl (fun _ => 0))), (q114, .inl (cI, 4214, .inl (fun _ => 0))), (q123, .inl (cI, 301, .inl (fun _ => 0))), (q132, .inl (cI, 301, .inl (fun _ => 0))), (q141, .inl (cI, 301, .inl (fun _ => 0))), (q149, .inl (cI, 14, .inl (fun _ => 0)))] := by rw [g149, G141]; rfl
  refine n_seg (pc1 := 157) (i := 30) (N := 8) (n := 8) K l149 rfl dX10_init_154 (fun st ws h => n_bipush (v := 8) K dX10_init_155 rfl h) (by decide) (by decide) (by decide) (Nat.le_of_ble_eq_true rfl) (Nat.le_of_ble_eq_true rfl) dX10_init_157 (by decide) (by decide) kp_X10_65 rfl rfl (fun _ => ⟨rfl, rfl⟩) dX10_init_159 (fun q157 fs157 r157 l157 e157 g157 => ?_)
  have E157 : fs157 = [.int 0, .int 2, .int 0, .ref q12, .ref q20, .ref q28, .ref q36, .int 0, .ref q44, .ref q52, .ref q61, .int 0, .ref q69, .int 0, .ref q78, .ref q87, .ref q96, .ref q105, .ref q114, .int 0, .int 0, .int 0, .int 0, .int 0, .int 0, .ref q123, .ref q132, .ref q141, .int 0, .ref q149, .ref q157, .long 0] := by rw [e157, E149]; rfl
  have G157 : r157 = [(q12, .inl (cI, 14, .inl (fun _ => 0))), (q20, .inl (cI, 14, .inl (fun _ => 0))), (q28, .inl (cI, 14, .inl (fun _ => 0))), (q36, .inl (cI, 8, .inl (fun _ => 0))), (q44, .inl (cI, 11, .inl (fun _ => 0))), (q52, .inl (cI, 22, .inl (fun _ => 0))), (q61, .inl (cI, 154, .inl (fun _ => 0))), (q69, .inl (cI, 60, .inl (fun _ => 0))), (q78, .inl (cI, 301, .inl (fun _ => 0))), (q87, .inl (cI, 301, .inl (fun _ => 0))), (q96, .inl (cI, 301, .inl (fun _ => 0))), (q105, .inl (cI, 2107, .inl (fun _ => 0))), (q114, .inl (cI, 4214, .inl (fun _ => 0))), (q123, .inl (cI, 301, .inl (fun _ => 0))), (q132, .inl (cI, 301, .inl (fun _ => 0))), (q141, .inl (cI, 301, .inl (fun _ => 0))), (q149, .inl (cI, 14, .inl (fun _ => 0))), (q157, .inl (cI, 8, .inl (fun _ => 0)))] := by rw [g157, G149]; rfl
  rw [E157, G157]
  obtain ⟨uu, huu⟩ : ∃ uu : List Nat, uu = [q12, q20, q28, q36, q44, q52, q61, q69, q78, q87, q96, q105, q114, q123, q132, q141, q149, q157] := ⟨_, rfl⟩
  refine n_toGW (cI := cI) (cL := cL) (adm h0 uu) idsm MM [(0, vR 10 0)] [] (by subst huu; rfl) (by subst huu; rfl) rfl (fun q hq => by cases List.mem_singleton.mp hq; exact Or.inl (by decide +kernel : (10, 0) ∈ idsm)) (fun _ h => nomatch h) ?_
  have hG : GOK (mkG D cI cL A (adm h0 uu) idsm) := gok_of clm
  have C := cx_ofK (cL := cL) (k := 18) (z := 8446) K hG
  have hk0 : (10, 0) ∈ gids (mkG D cI cL A (adm h0 uu) idsm) := (by decide +kernel : (10, 0) ∈ idsm)
  refine g_aload_n C 0 dX10_init_162 rfl rfl ?_
  refine g_iconst (v := 2) C dX10_init_163 rfl ?_
  refine g_callVv_k (As := [vI (2 : Int32)]) (rest := []) C li_X10_68 (k_X10_fresh X.2.1 _ hl hG fu (2 : Int32) MM Md hk0 hd) (by decide) rfl rfl rfl (Nat.le_of_ble_eq_true rfl) ⟨Nat.le_of_ble_eq_true rfl, Nat.le_of_ble_eq_true rfl⟩ ⟨Nat.le_of_ble_eq_true rfl, Nat.le_of_ble_eq_true rfl⟩ dX10_init_164 ?_
  exact g_endI C uu (by subst huu; rfl) rfl (Nat.le_of_ble_eq_true rfl) (Nat.le_of_ble_eq_true rfl) dX10_init_167
end CTORS3
end
section
/-! p27: the claim is false as printed (its room): made by wip/refute/port.py out of whole's rows -/
/-! The law's start: what its words give, what the constructors' models come to, and the walk up to the second object. -/
section START
/-! ### models of the constructors, run -/
def fillM (M : Mem) (k0 : Nat) (v : Int32) (j N : Nat) : Mem := (fun t k i => if t = 20 ∧ k = k0 ∧ j ≤ i ∧ i < N then v else M.1 t k i, M.2)
theorem lp_inl {S R : Type} {body : S → Option (S ⊕ R)} {n : Nat} {s s' : S} (h : body s = some (.inl s')) : lp_run body (n + 1) s = lp_run body n s' := by
  conv => lhs; unfold lp_run
  rw [h]
theorem lp_inr {S R : Type} {body : S → Option (S ⊕ R)} {n : Nat} {s : S} {r : R} (h : body s = some (.inr r)) : lp_run body (n + 1) s = some r := by
  conv => lhs; unfold lp_run
  rw [h]
theorem fill_run (f0 k0 : Nat) (v : Int32) (N : Nat) (hN : alen 20 k0 = N) (hb : N < 2 ^ 31) : ∀ (d j fu : Nat) (M : Mem), j + d = N → d < fu → lp_run (fun s => f_X8_fill_b2 f0 k0 v s.1 s.2) fu (nI j, M) = some (fillM M k0 v j N)
  | 0, j, fu + 1, M, hj, _ => by
    have hj : j = N := by omega
    subst hj
    have h1 : f_X8_fill_b2 f0 k0 v (nI j) M = some (Sum.inr M) := by
      unfold f_X8_fill_b2
      rw [hN, if_pos (nI_le (Nat.le_refl _) hb)]
    rw [lp_inr (body := fun s : Int32 × Mem => f_X8_fill_b2 f0 k0 v s.1 s.2) (s := (nI j, M)) h1]
    unfold fillM
    congr 1
    obtain ⟨m1, m2⟩ := M
    congr 1
    funext t k i
    rw [if_neg (by omega)]
  | d + 1, j, fu + 1, M, hj, hf => by
    have hlt : j < N := by omega
    have h1 : f_X8_fill_b2 f0 k0 v (nI j) M = some (Sum.inl (nI (j + 1), mI M 20 k0 j v)) := by
      unfold f_X8_fill_b2
      rw [hN, if_neg (nI_ge hlt hb), if_pos (nI_in hlt hb), nI_1, nI_clamp (by omega)]
    rw [lp_inl (body := fun s : Int32 × Mem => f_X8_fill_b2 f0 k0 v s.1 s.2) (s := (nI j, M)) h1, fill_run f0 k0 v N hN hb d (j + 1) fu (mI M 20 k0 j v) (by omega) (by omega)]
    unfold fillM mI
    congr 1
    obtain ⟨m1, m2⟩ := M
    congr 1
    funext t k i
    show (if t = 20 ∧ k = k0 ∧ j + 1 ≤ i ∧ i < N then v else if t = 20 ∧ k = k0 ∧ i = j then v else m1 t k i) = if t = 20 ∧ k = k0 ∧ j ≤ i ∧ i < N then v else m1 t k i
    by_cases h2 : t = 20 ∧ k = k0 ∧ j ≤ i ∧ i < N
    · rw [if_pos h2]
      by_cases h3 : t = 20 ∧ k = k0 ∧ j + 1 ≤ i ∧ i < N
      · rw [if_pos h3]
      · rw [if_neg h3, if_pos (by omega)]
    · rw [if_neg h2, if_neg (by omega), if_neg (by omega)]
theorem fill_all (fu k0 : Nat) (v : Int32) (M : Mem) {N : Nat} (hN : alen 20 k0 = N) (hb : N < 2 ^ 31) (hf : N < fu) : f_X8_fill fu k0 v M = some (fillM M k0 v 0 N) := by
  unfold f_X8_fill f_X8_fill_h2
  rw [← nI_0, fill_run fu k0 v N hN hb N 0 fu M (by omega) hf]
  rfl
theorem fill_MF : f_X8_fill 400 22 (-1 : Int32) MZ = some MF := by
  rw [fill_all 400 22 (-1) MZ (N := 300) rfl (by decide) (by decide)]
  unfold fillM MZ MF
  congr 2
  funext t k i
  show (if t = 20 ∧ k = 22 ∧ 0 ≤ i ∧ i < 300 then (-1 : Int32) else if t = 3 then (if i = 0 then grw k else if i = 1 then gcl k else 0) else 0) = if t = 3 then (if i = 0 then grw k else if i = 1 then gcl k else 0) else if t = 20 ∧ k = 22 then (if i < 300 then -1 else 0) else 0
  by_cases h3 : t = 3
  · rw [if_neg (by omega), if_pos h3, if_pos h3]
  · rw [if_neg h3, if_neg h3]
    by_cases h4 : t = 20 ∧ k = 22
    · rw [if_pos h4]
      by_cases h5 : i < 300
      · rw [if_pos (by omega), if_pos h5]
      · rw [if_neg (by omega), if_neg h5]
    · rw [if_neg (by omega), if_neg h4]
def Mb0 : Mem := mI (mI MF 2 0 0 2) 2 0 1 0
def Mc0 : Mem := fillM Mb0 12 2 0 8
theorem clear_Mb : f_X2_clear 400 0 (2 : Int32) MF = some Mb0 := rfl
theorem clear_Mc : f_X1_clear 400 0 Mb0 = some Mc0 := by
  unfold f_X1_clear
  rw [show (2 * 0 + 12) = 12 from rfl, fill_all 400 12 2 Mb0 (N := 8) rfl (by decide) (by decide)]
  rfl
set_option maxRecDepth 100000 in
theorem changed_some : (f_X9_graphChanged 400 Mc0).isSome = true := by decide +kernel
set_option maxRecDepth 100000 in
theorem fresh_some : (f_X10_fresh 400 (2 : Int32) MM).isSome = true := by decide +kernel
end START
/-! The law's way to its second object, from a start with room enough. -/
section LAWBIG
variable {D : va_G} {cI cL : ClassId} {A : Nat → Prop} {own : String} {cc : ByteArray} {nL : Nat} {rm : Room} {X : PX} {Q : State → Prop} {k z pc : Nat} {ls : List (Nat × Value)} {st st2 : List Value} {ws : va_W}
theorem bw_one {w : Cond} (h : (decide (w ∈ lw_tbl) && goodWord w) = true) : w ∈ BW := bw_all (ws := [w]) (by rw [List.all_cons, h]; rfl) w List.mem_cons_self
theorem inst_all {t : Nat} (h : t < 11) : Cond.instantiable (cN t) (cn t) ∈ BW := c11 (P := fun t => Cond.instantiable (cN t) (cn t) ∈ BW) h (bw_one (by decide +kernel)) (bw_one (by decide +kernel)) (bw_one (by decide +kernel)) (bw_one (by decide +kernel)) (bw_one (by decide +kernel)) (bw_one (by decide +kernel)) (bw_one (by decide +kernel)) (bw_one (by decide +kernel)) (bw_one (by decide +kernel)) (bw_one (by decide +kernel)) (bw_one (by decide +kernel))
theorem arr_int {args : Array Value} {s : State} (h : (Cond.arrayClass .int).before args s = true) : ∃ cA : ClassId, ArrOfT s cA .int ∧ va_RA s cA .int := by
  obtain ⟨c, k, comp, h1, h2, h3⟩ := Cond.arrayClass_spec h
  exact ⟨c, fun N z => ⟨(fun k h => by cases h), k, h2, comp, h3⟩, h1⟩
theorem arr_long {args : Array Value} {s : State} (h : (Cond.arrayClass .long).before args s = true) : ∃ cA : ClassId, ArrOfT s cA .long ∧ va_RA s cA .long := by
  obtain ⟨c, k, comp, h1, h2, h3⟩ := Cond.arrayClass_spec h
  exact ⟨c, fun N z => ⟨(fun k h => by cases h), k, h2, comp, h3⟩, h1⟩
theorem strs_in : ∀ q ∈ strs, Cond.stringRef q.1 q.2.1 q.2.2 ∈ lw_tbl ∧ Cond.exactly (.string q.1 q.2.1) "java/lang/String" ∈ flatC (Cond.and given_1 narrow_1) := by decide +kernel
theorem xw_in : ∀ w ∈ XW, w ∈ lw_tbl := by decide +kernel
theorem nc_in : ∀ q ∈ NC, Cond.not (.castable q.1 q.2) ∈ flatC (Cond.and given_1 narrow_1) := by decide +kernel
theorem sf_start {args : Array Value} {s : State} (hts : ∀ w ∈ lw_tbl, w.before args s = true) (hgv : (Cond.and given_1 narrow_1).before args s = true) : ∃ (D : va_G) (cI cL : ClassId), SF (G0 D cI cL (fun q => s.heap.size ≤ q)) s s.heap := by
  have hf := flat_of_before _ hgv
  have hk : ∀ t, t < 11 → ∃ (cC : ClassId) (iS : Nat → Nat), u_Kn s (cN t) (cT t) (cn t) cC iS := fun t ht => u_known (n := cn t) hts (fun w hw => bw_in (cl_ws ht w hw)) (hts _ (bw_in (inst_all ht)))
  have hch : ∀ t, ∃ cC : ClassId, t < 11 → ∃ iS : Nat → Nat, u_Kn s (cN t) (cT t) (cn t) cC iS := fun t => by
    by_cases h : t < 11
    · obtain ⟨cC, iS, h2⟩ := hk t h
      exact ⟨cC, fun _ => ⟨iS, h2⟩⟩
    · exact ⟨0, fun h3 => absurd h3 h⟩
  have hdC : ∃ dC : Nat → ClassId, ∀ t, t < 11 → ∃ iS : Nat → Nat, u_Kn s (cN t) (cT t) (cn t) (dC t) iS := ⟨fun t => (hch t).choose, fun t => (hch t).choose_spec⟩
  obtain ⟨dC, hdC⟩ := hdC
  have hci : ∀ t, ∃ iS : Nat → Nat, t < 11 → u_Kn s (cN t) (cT t) (cn t) (dC t) iS := fun t => by
    by_cases h : t < 11
    · obtain ⟨iS, h2⟩ := hdC t h
      exact ⟨iS, fun _ => h2⟩
    · exact ⟨fun _ => 0, fun h3 => absurd h3 h⟩
  have hdI : ∃ dI : Nat → Nat → Nat, ∀ t, t < 11 → u_Kn s (cN t) (cT t) (cn t) (dC t) (dI t) := ⟨fun t => (hci t).choose, fun t => (hci t).choose_spec⟩
  obtain ⟨dI, hdI⟩ := hdI
  obtain ⟨cI, hI⟩ := arr_int (hts (.arrayClass .int) (by decide +kernel))
  obtain ⟨cL, hL⟩ := arr_long (hts (.arrayClass .long) (by decide +kernel))
  have hA : ∀ a : Nat, a < s.heap.size → ¬ (fun q => s.heap.size ≤ q) a := fun a h h2 => Nat.not_le.mpr h h2
  refine ⟨(dC, dI), cI, cL, ⟨fun c q hq => ?_, fun j q hq => ?_⟩, vx_Zqof (args := args) (hts _ (by decide +kernel)) (hts _ (by decide +kernel)) (hf _ (by decide +kernel)) hA, vx_Zqof (args := args) (hts _ (by decide +kernel)) (hts _ (by decide +kernel)) (hf _ (by decide +kernel)) hA, fun q h => h, fun q hq => ?_, ⟨fun w hw => va_Nw.of (XW.tabs w hw) (hts w (xw_in w hw)), fun q hq => va_Nc.of (hf _ (nc_in q hq))⟩, fun L xs h => nomatch h⟩
  · have hc : c < 11 := (List.getElem?_eq_some_iff.mp hq).1
    have h2 := cl_at hc
    rw [h2] at hq
    cases hq
    exact hdI c hc
  · match j, hq with
    | 0, hq => cases hq; exact hI
    | 1, hq => cases hq; exact hL
    | j + 2, hq => simp at hq
  · obtain ⟨h1, h2⟩ := strs_in q hq
    obtain ⟨a, _, _, _, h3, -⟩ := Cond.exactly_spec (hf _ h2)
    exact ⟨a, vk_R.of (hts _ h1) h3⟩
/-! ### rows of the law's own frame -/
def LK (D : va_G) (cI cL : ClassId) (A : Nat → Prop) (own : String) (cc : ByteArray) (nL : Nat) (rm : Room) (X : PX) : Prop :=
  X.1.tables.exec = Jvm.exec ∧ X.2.2.2.2.2.2.2.2.2.1.code = cc ∧ X.2.2.2.2.2.2.2.2.2.1.maxLocals = nL ∧ (xs_ X).vm.findClass own = some X.2.2.2.2.2.1.cls ∧ (∀ w ∈ BW, w.before X.2.2.2.2.2.2.1 (xs_ X) = true) ∧ X.2.2.2.1 = rm ∧ SF (G0 D cI cL A) (xs_ X) (xs_ X).heap
theorem l_new (K : LK D cI cL A own cc nL rm X) {t idx : Nat} {fs : List Value} (ht : t < 11) (h1 : Cond.classLink own idx (cN t) ∈ BW) (h2 : Cond.instantiable (cN t) (cn t) ∈ BW) (h3 : Cond.initialized (cN t) ∈ BW) (hfs : ∀ j, j < cn t → defaultValue (cty t j) = vp_V fs j) (hc : k + 1 ≤ rm.cells) (hz : z + cn t ≤ rm.slots) (hd : decode cc pc = .ok (.new idx, 3)) (kk : ∀ q, NW D A X nL Q (k + 1) (z + cn t) (pc + 3) ls (.ref q :: st) (ws ++ [(q, .inr (t, fs))])) : NW D A X nL Q k z pc ls st ws := fun H locs la hP hD hS h =>
  va_new K.1 K.2.1 K.2.2.2.2.1 (cl_ws ht) (cty t) (cl_ty ht) K.2.2.2.1 (K.2.2.2.2.1 _ h1) (K.2.2.2.2.1 _ h2) (K.2.2.2.2.1 _ h3) K.2.2.2.2.2.2.1 hP hD hS K.2.2.2.2.2.2.2.2.2.1 (cl_at ht) hfs (by rw [K.2.2.2.2.2.1]; exact hc) (by rw [K.2.2.2.2.2.1]; exact hz) hd (fun q H1 hP1 hD1 hS1 => kk q H1 locs la hP1 hD1 hS1 h)
theorem l_dup (K : LK D cI cL A own cc nL rm X) {x : Nat} (hd : decode cc pc = .ok (.dup, 1)) (kk : NW D A X nL Q k z (pc + 1) ls (.ref x :: .ref x :: st) ws) : NW D A X nL Q k z pc ls (.ref x :: st) ws := fun H locs la hP hD hS h => lv_dup K.1 K.2.1 hd rfl (kk H locs la hP hD hS h)
theorem l_astore (K : LK D cI cL A own cc nL rm X) {ls' : List (Nat × Value)} {n : Fin 4} {i x : Nat} (hd : decode cc pc = .ok (.astore_n n, 1)) (hi : (n : Nat) = i) (hn : i < nL) (hl : (i, Value.ref x) :: ls.filter (fun q => !(q.1 == i) && !(q.1 + 1 == i && q.2.category == 2)) = ls') (kk : NW D A X nL Q k z (pc + 1) ls' st ws) : NW D A X nL Q k z pc ls (.ref x :: st) ws := fun H locs la hP hD hS h => lv_astore_n K.1 K.2.1 hd hi h hn hl (fun la2 h2 => kk H locs la2 hP hD hS h2)
theorem l_call (K : LK D cI cL A own cc nL rm X) {idx q d mc ms zl n nu : Nat} {as : List Value} {e0 : va_E} {w1 : List Nat → va_W} {y : MethodName} {zc : ByteArray} (lk : lkI own idx y zc zl n false) (hct : CTI X.2.1 D cI cL y zc zl d mc ms q as e0 w1 nu) (hn : as.length = n) (hW : (st.map fun v => v.category).sum ≤ 8) (hroom : d + 1 ≤ rm.frames ∧ 8 + (zl + 11) + 36 * d ≤ rm.locals) (hmc : k + mc ≤ rm.cells ∧ z + ms ≤ rm.slots) (hst : as.reverse ++ .ref q :: st = st2)
    (hd : decode cc pc = .ok (.invokespecial idx, 3)) (kk : ∀ u : List Nat, u.length = nu → NW D A X nL Q (k + mc) (z + ms) (pc + 3) ls st (ws ++ w1 u)) : NW D A X nL Q k z pc ls st2 (ws ++ [(q, e0)]) := by
  subst hst
  intro H locs la hP hD hS h
  obtain ⟨k1, k2, k3, k4, k5, k6⟩ := lk
  have hR : X.2.2.2.1 = rm := K.2.2.2.2.2.1
  have hkA : ∀ q, (xs_ X).heap.size ≤ q → A q := K.2.2.2.2.2.2.2.2.2.1
  have hSF := K.2.2.2.2.2.2.kept ⟨hS.1, hS.2.1⟩
  have hlast : (ws ++ [(q, e0)])[ws.length]? = some (q, e0) := by rw [List.getElem?_append_right (Nat.le_refl _), Nat.sub_self]; rfl
  have hAq : A q := hD.2 _ _ hlast
  have hfree : ∀ x, va_A [(q, e0)] H.size x → A x := by
    intro x hx
    rcases hx with ⟨i, e, hx⟩ | hx
    · have hi : i < 1 := (List.getElem?_eq_some_iff.mp hx).1
      rw [show i = 0 by omega] at hx
      have e9 : q = x := congrArg Prod.fst (Option.some.inj hx)
      rw [← e9]; exact hAq
    · exact hkA x (Nat.le_trans hS.1 hx)
  have one : ∀ {P : Nat × va_E → Prop} (j : Nat) (x : Nat × va_E), [(q, e0)][j]? = some x → P (q, e0) → P x := by
    intro P j x hx hp
    have hi : j < 1 := (List.getElem?_eq_some_iff.mp hx).1
    rw [show j = 0 by omega] at hx
    cases hx
    exact hp
  have hp : PreS (xs_ X) H (va_Pc (.ref q :: as) (fun U => U.heap.size = H.size ∧ va_P D vwCl [(q, e0)] U.heap ∧ va_D (fun _ => True) [(q, e0)] ∧ SF (G0 D cI cL A) U U.heap)) (.ref q :: as) := by
    refine ⟨fun a U g mk hh => ⟨hh.1, hh.2.1, hh.2.2.1, hh.2.2.2.1, SF.vm (U := U) rfl hh.2.2.2.2⟩, fun U hU hWU => ⟨rfl, by rw [hU], ?_, ⟨fun i j x y hx hy _ => ?_, fun _ _ _ => trivial⟩, by rw [hU]; exact hSF.moved hWU⟩⟩
    · rw [hU]
      exact fun j x hx => one (P := fun x => va_at D vwCl x H) j x hx (hP _ _ hlast)
    · have h1 : i < 1 := (List.getElem?_eq_some_iff.mp hx).1
      have h2 : j < 1 := (List.getElem?_eq_some_iff.mp hy).1
      omega
  have hrun : va_Run X.1 X.2.1 X.2.2.1 X.2.2.2.1 (xs_ X) X.2.2.2.2.2.1 X.2.2.2.2.2.2.1 X.2.2.2.2.2.2.2.1 X.2.2.2.2.2.2.2.2.1 X.2.2.2.2.2.2.2.2.2.1 H locs k z mc ms (F0 X.2.2.2.2.2.1 pc la (as.reverse ++ .ref q :: st)) st (fun st9 oc t => ∃ u : List Nat, u.length = nu ∧ oc = .returned none ∧ va_P D vwCl (w1 u) t.heap ∧ va_D (va_A [(q, e0)] H.size) (w1 u) ∧ va_F (va_A [(q, e0)] H.size) st9 t) (va_A [(q, e0)] H.size) :=
    va_runI (As := as) (rest := st) (b := q) ⟨K.1, K.2.1, K.2.2.1, K.2.2.2.1, K.2.2.2.2.1⟩ (hct A H.size hAq) ⟨callB_of n K.2.2.2.2.1 (gi_code k3) rfl rfl rfl (K.2.2.2.2.1 _ k2) (K.2.2.2.2.1 _ k1) k6 (by rw [hR]; exact hroom), k5, K.2.2.2.2.1 _ k4⟩ hp rfl hn h.1 rfl (lv_room hW) hd (by rw [hR]; exact hmc)
  intro T hT XX
  obtain ⟨v, st₀, t, T', L, h0, X', hL, e1, e2, ⟨u, hu, hv, hP1, hD1, hz, hkq⟩, hst⟩ := hrun T hT XX
  cases hv
  rw [h0] at hz hkq
  rw [← e1] at hP1 hz hkq
  obtain ⟨hP2, hD2⟩ := n_join hP hD hkq hfree hP1 hD1
  obtain ⟨t2, a1, b1⟩ := kk u hu T'.heap (locs ++ L) la hP2 hD2 ⟨Nat.le_trans hS.1 hz, fun x h1 h2 => by rw [hkq x (Nat.lt_of_lt_of_le h1 hS.1) (fun q9 => h2 (hfree x q9))]; exact hS.2.1 x h1 h2, fun x hx => by
    rcases List.mem_append.mp hx with h | h
    · exact hS.2.2 x h
    · exact hfree _ (hL x h)⟩ h T' rfl X'
  exact ⟨t2, hst t2 a1, b1⟩
/-- the elements of the arrays that a world lists lie in the book -/
theorem l_done (hbig : 16942 ≤ (ws.map (fun q => esz q.2)).sum) : NW D (fun q => (xs_ X).heap.size ≤ q) X nL (fun t => (xs_ X).slotsUsed + 16942 ≤ t.slotsUsed) k z pc ls st ws := by
  intro H locs la hP hD hS h T hT XX
  subst hT
  refine ⟨_, Steps.refl _, ?_⟩
  have h4 : T.slotsUsed = (xs_ X).slotsUsed + ((T.heap.toList.drop (xs_ X).heap.size).map (·.slots.size)).sum := XX.same.2.2.2.1
  have h2 : (ws.map (fun q => esz q.2)).sum ≤ ((T.heap.toList.drop (xs_ X).heap.size).map (·.slots.size)).sum := by
    refine sizes_sum (xs_ X).heap.size _ _ (fun j q hq => ?_) hD.1
    obtain ⟨c, hc, hz⟩ := cell_esz (hP j q hq)
    have hb := hD.2 j q hq
    have hb : (xs_ X).heap.size ≤ q.1 := hb
    refine ⟨q.1 - (xs_ X).heap.size, c.slots.size, by omega, ?_, hz⟩
    rw [List.getElem?_map, List.getElem?_drop, show (xs_ X).heap.size + (q.1 - (xs_ X).heap.size) = q.1 by omega, Array.getElem?_toList, hc]
    rfl
  show (xs_ X).slotsUsed + 16942 ≤ T.slotsUsed
  omega
theorem sum_wl (G : GE) (M : Mem) : ((wl G M).map (fun q => esz q.2)).sum = ((gids G).map (fun q => if q.1 < 20 then 0 else alen q.1 q.2)).sum := by
  unfold wl
  rw [List.map_map]
  congr 1
  exact List.map_congr_left (fun q _ => esz_enc G M q.1 q.2)
theorem sum_9 : (ids9.map (fun q => if q.1 < 20 then 0 else alen q.1 q.2)).sum = 15320 := by decide +kernel
theorem sum_m : (idsm.map (fun q => if q.1 < 20 then 0 else alen q.1 q.2)).sum = 8446 := by decide +kernel
/-- a room of one's own, large enough for both objects -/
def bigR : Room := { frames := 12, cells := 1145, slots := 30000, locals := 432 }
theorem lL_9 : Cond.classLink RL 8 (cN 9) ∈ BW := bw_one (by decide +kernel)
theorem lL_10 : Cond.classLink RL 90 (cN 10) ∈ BW := bw_one (by decide +kernel)
theorem lJ_9 : Cond.initialized (cN 9) ∈ BW := bw_one (by decide +kernel)
theorem lJ_10 : Cond.initialized (cN 10) ∈ BW := bw_one (by decide +kernel)
theorem lI_9 : lkI RL 89 yX9_init cX9_init 1 0 false := ⟨(bw_one (by decide +kernel) : Cond.methodLink RL 89 yX9_init ∈ BW), bw_one (by decide +kernel), bw_one (by decide +kernel), bw_one (by decide +kernel), rfl, by decide +kernel⟩
theorem lI_10 : lkI RL 92 yX10_init cX10_init 1 0 false := ⟨(bw_one (by decide +kernel) : Cond.methodLink RL 92 yX10_init ∈ BW), bw_one (by decide +kernel), bw_one (by decide +kernel), bw_one (by decide +kernel), rfl, by decide +kernel⟩
set_option maxHeartbeats 4000000 in
theorem law_big {p : Program} {e : Env} {s : State} {m : MethodId} {below : List Frame} {meth : Method} {c : Code} (l : Launch) (hflags : l.flags = flags0) {b : Nat} (hx : p.tables.exec = Jvm.exec) (hb : c.code = code) (hml : c.maxLocals = 9) (hown : s.vm.findClass RL = some m.cls) (hts : ∀ w ∈ lw_tbl, w.before #[Value.ref b] s = true) (hgv : (Cond.and given_1 narrow_1).before #[Value.ref b] s = true) : W p l e bigR s m #[Value.ref b] below meth c s.heap [] 0 0 (fun t => s.slotsUsed + 16942 ≤ t.slotsUsed) (entryFrame m ([Value.ref b] : List Value).toArray 9) := by
  have hl : l.stackTraces = false := by unfold Launch.stackTraces; rw [hflags]; decide
  obtain ⟨D, cI, cL, hSF⟩ := sf_start hts hgv
  obtain ⟨Md, hMd⟩ := Option.isSome_iff_exists.mp changed_some
  obtain ⟨Me, hMe⟩ := Option.isSome_iff_exists.mp fresh_some
  have K : LK D cI cL (fun q => s.heap.size ≤ q) RL cL_law 9 bigR (p, l, e, bigR, s, m, #[Value.ref b], below, meth, c, 0, 0) := ⟨hx, hb, hml, hown, fun w hw => hts w (bw_in hw), rfl, hSF⟩
  have hl9 := lv_entry ([.ref b]) (n := 9) (Nat.le_of_ble_eq_true rfl)
  rw [lg_entry_eq]
  generalize (lg_sl ([.ref b]) ++ List.replicate (9 - (lg_sl ([.ref b])).length) Slot.unset).toArray = la at hl9 ⊢
  have hl9 : lv_has la 9 [(0, .ref b)] := hl9
  have go : NW D (fun q => s.heap.size ≤ q) (p, l, e, bigR, s, m, #[Value.ref b], below, meth, c, 0, 0) 9 (fun t => s.slotsUsed + 16942 ≤ t.slotsUsed) 0 0 0 [(0, .ref b)] [] [] := by
    refine l_new (t := 9) (fs := [.null, .null, .null, .null, .null, .null, .null, .null]) K (by decide) lL_9 (inst_all (by decide)) lJ_9 (by decide) (Nat.le_of_ble_eq_true rfl) (Nat.le_of_ble_eq_true rfl) dL_law_0 (fun q0 => ?_)
    refine l_dup K dL_law_3 ?_
    refine l_call (as := []) K lI_9 (c_X9_init l hl q0 400 fill_MF Mb0 Mc0 Md clear_Mb clear_Mc hMd) rfl (Nat.le_of_ble_eq_true rfl) ⟨Nat.le_of_ble_eq_true rfl, Nat.le_of_ble_eq_true rfl⟩ ⟨Nat.le_of_ble_eq_true rfl, Nat.le_of_ble_eq_true rfl⟩ rfl dL_law_4 (fun u0 hu0 => ?_)
    refine l_astore (ls' := [(1, .ref q0), (0, .ref b)]) K dL_law_7 rfl (by decide) rfl ?_
    refine l_new (t := 10) (fs := [.int 0, .int 0, .int 0, .null, .null, .null, .null, .int 0, .null, .null, .null, .int 0, .null, .int 0, .null, .null, .null, .null, .null, .int 0, .int 0, .int 0, .int 0, .int 0, .int 0, .null, .null, .null, .int 0, .null, .null, .long 0]) K (by decide) lL_10 (inst_all (by decide)) lJ_10 (by decide) (Nat.le_of_ble_eq_true rfl) (Nat.le_of_ble_eq_true rfl) dL_law_8 (fun q8 => ?_)
    refine l_dup K dL_law_11 ?_
    refine l_call (as := []) K lI_10 (c_X10_init l hl q8 400 Me hMe) rfl (Nat.le_of_ble_eq_true rfl) ⟨Nat.le_of_ble_eq_true rfl, Nat.le_of_ble_eq_true rfl⟩ ⟨Nat.le_of_ble_eq_true rfl, Nat.le_of_ble_eq_true rfl⟩ rfl dL_law_12 (fun u8 hu8 => ?_)
    refine l_done (X := (p, l, e, bigR, s, m, #[Value.ref b], below, meth, c, 0, 0)) ?_
    have h9 : ((wX9 D cI cL Md q0 u0).map (fun q => esz q.2)).sum = 15320 := (sum_wl _ _).trans sum_9
    have hm : ((wX10 D cI cL Me q8 u8).map (fun q => esz q.2)).sum = 8446 := (sum_wl _ _).trans sum_m
    rw [List.map_append, List.sum_append, List.map_append, List.sum_append, h9, hm]
    exact Nat.le_of_ble_eq_true rfl
  exact go s.heap [] la (fun k q h => by simp at h) ⟨fun i j p q h => by simp at h, fun k q h => by simp at h⟩ va_S.rf hl9
end LAWBIG
end
section
/-! p27: the claim is false as printed (its room): made by wip/refute/port.py out of whole's rows -/
/-! The claim is false: from the witness's start the run books more slots than the claim's frame allows. -/
section REFUTE
/-- a run that a walk of the body leads through -/
theorem run_to {l : Launch} {x : MethodName} {S : Spec} {code : ByteArray} {maxLocals : Nat} {ret : Option FieldType} {Z : State → Prop} {p : Program} {e : Env} {s : State} {m : MethodId} {args : Array Value} {below : List Frame} (hx : plainName x.cls = true)
    (his : S.pre.before args s = true → s.methodNamed? x = some m → ∃ meth c, s.vm.method? m = some meth ∧ meth.code = some c ∧ c.code = code ∧ c.maxLocals = maxLocals ∧ meth.sig.returnType = ret ∧ meth.locks = false)
    (ha : l.admits e) (hc : FairCas e.choices) (hk : FairClock e.choices) (hf : s.frames = .invoking m args :: below) (happ : S.appliesLoose x e.platform s = true)
    (body : ∀ meth c s₁, BodyLoose p l x S code maxLocals ret e s m args below meth c s₁ → c.maxLocals = maxLocals → ∃ t, Steps p.tables e below (s₁.setTop (entryFrame m args maxLocals)) t ∧ Z t) : ∃ t, Steps p.tables e below s t ∧ Z t := by
  obtain ⟨hrun, hable, halone, hname, hhears, hinit, hroom, hpre⟩ := (Spec.appliesLoose_iff hf).mp happ
  obtain ⟨meth, c, hmeth, hcode, hbytes, hlocals, hret, hlocks⟩ := his hpre hname
  have hcur := State.cur_lt_of_frames hf
  have hf1 : (s.setFrames (.java (entryFrame m args maxLocals) :: below)).frames = .java (entryFrame m args maxLocals) :: below :=
    State.frames_setFrames _ hcur
  have ht1 := State.topJava?_of_frames hf1
  have hplain : (s.setFrames (.java (entryFrame m args maxLocals) :: below)).plainMethod m := State.plainMethod.of_named (s := s) (plainFor_of_name hx) hname hmeth
  have hAt : At (s.setFrames (.java (entryFrame m args maxLocals) :: below)) m c below :=
    ⟨by rw [ht1]; rfl, ⟨[], by rw [hf1]; rfl⟩, hrun, by simpa using hable, by simpa using halone,
      by rw [State.code?_eq]; simp [State.setFrames, hmeth, hcode], hplain⟩
  have hstep : (stepThread p.tables e s).1 = (s.setFrames (.java (entryFrame m args maxLocals) :: below)).setTop (entryFrame m args maxLocals) := by
    have hfull : e.platform.stackFull (s.setFrames below).me (s.setFrames below).frames c.maxLocals = false := by
      obtain ⟨-, h1, -, h2⟩ := State.hasRoom_stack hroom
      rw [hf, List.length_cons] at h1
      rw [State.localsInUse_invoking hf hmeth hcode] at h2
      have hw := stackUse_le_stackWeight below
      rw [State.frames_setFrames _ hcur]
      exact Platform.stackFull_eq_false (by rw [State.stackLimits_setFrames]; omega) (by rw [State.stackLimits_setFrames]; omega)
    rw [stepThread_invoking hf, (doInvoke_java (s := s.setFrames below) (e := e) (meth := meth) (code := c) hmeth hcode hlocks hfull).1, State.setTop_self ht1]
    simp only [State.pushFrame, State.frames_setFrames _ hcur, State.setFrames_setFrames, hlocals, entryFrame]
  obtain ⟨t, hs, hz⟩ := body meth c _
    ⟨ha, hc, hk, by cases p <;> rfl, hf, hname, hhears, hinit, hroom, hpre, hmeth, hret, hlocks, hbytes, rfl, hAt⟩ hlocals
  exact ⟨t, Steps.head (tb := p.tables) (e := e) ⟨hrun, hable, halone⟩ ⟨[.invoking m args], hf, by simp, by simp⟩ (hstep ▸ hs), hz⟩
theorem not_within {s : State} {below : List Frame} {o : Outcome} (he : Ended s below o) (hw : Within s below) : False := by
  obtain ⟨ab, h1, h2, h3⟩ := hw
  have hlen : below.length < s.frames.length := by
    rw [h1, List.length_append]
    have := List.length_pos_iff.mpr h2
    omega
  cases o with
  | threw a =>
    have he : s.frames = .throwing a :: below := he
    rw [he] at h1
    exact h3 a (List.append_cancel_right (as := ab) (bs := below) (cs := [.throwing a]) h1.symm)
  | returned v =>
    cases below with
    | nil =>
      have h : v = none ∧ s.frames = [] := he
      rw [h.2] at hlen
      exact Nat.lt_irrefl _ hlen
    | cons f r =>
      cases f
      case java g =>
        obtain ⟨c, i, len, -, -, h⟩ := he
        rw [h] at hlen
        simp at hlen
      case native g =>
        have h : s.frames = .native { g with awaiting := false, answer := some (.returned v) } :: r := he
        rw [h] at hlen
        simp at hlen
      case proc g =>
        have h : s.frames = .proc { g with awaiting := false, answer := some (.returned v) } :: r := he
        rw [h] at hlen
        simp at hlen
      all_goals
        have h := he.2
        rw [h] at hlen
        exact Nat.lt_irrefl _ hlen
set_option maxHeartbeats 4000000 in
/-- from no start with room for both objects does the run come to an end that keeps the claim's frame -/
theorem no_frame {l : Launch} {p : Program} {e : Env} {s : State} {m : MethodId} {args : Array Value} {below : List Frame} (hflags : l.flags = flags0) (hst : AtStart classFile x code maxLocals ret World_1 tables_1 room_1 Calls_1 rest_1 Pre_1 l p e s m args below) (hroom : s.hasRoom e.platform bigR = true)
    {n : Nat} {o : Outcome} {locs : List Loc} (hend : Ended (stepsAlone p.tables e n s) below o) (hfr : State.butDraws s (stepsAlone p.tables e n s) [Jvm.Choice.named "NaN.bits"] (fun t1 => Framed s o t1 locs 1145 16941)) : False := by
  obtain ⟨hL, hW, ha, hle, hc, hk, hf, hfit, hheap, happ, hcalls, hrest, hPre⟩ := hst
  obtain ⟨-, -, -, h4, h5, -⟩ := hfr.1.2.2
  have hmost : (stepsAlone p.tables e n s).slotsUsed ≤ s.slotsUsed + 16941 := by
    have h4' : (stepsAlone p.tables e n s).slotsUsed = _ := h4
    rw [h4']
    exact Nat.add_le_add_left h5 _
  have hl1 := (Spec.appliesLoose_iff hf).mp ((Spec.applies_iff_loose hf).mp happ).1
  have happB : (headSpec (Jvm.Cond.code x code maxLocals ret :: tables_1) bigR).appliesLoose x e.platform s = true :=
    (Spec.appliesLoose_iff hf).mpr ⟨hl1.1, hl1.2.1, hl1.2.2.1, hl1.2.2.2.1, hl1.2.2.2.2.1, hl1.2.2.2.2.2.1, hroom, hl1.2.2.2.2.2.2.2⟩
  have hgv : (Cond.and given_1 narrow_1).before args s = true := hPre
  have hb : ∃ b : Addr, args = #[.ref b] := by
    have hs := flat_of_before _ hgv
    have hcnt : (Cond.count 1).before args s = true := hs _ (by decide +kernel)
    have harr : (Cond.arrayOf (.arg 0) .int).before args s = true := hs _ (by decide +kernel)
    have hq := flat_of_before _ (show rest_1_c.before args s = true from hrest)
    have hlen : (Cond.isInt (.length (.arg 0))).before args s = true := hq _ (by decide +kernel)
    have hall : (Cond.all (.arg 0) (.isInt (.elem (.arg 0) (.index 0)))).before args s = true := hq _ (by decide +kernel)
    obtain ⟨b, xs, hb, hx⟩ := State.ints_of_pre rfl harr hlen hall
    exact ⟨b, Cond.one_arg hcnt (show args[0]? = some (.ref b) from hb)⟩
  obtain ⟨b, rfl⟩ := hb
  obtain ⟨t, ⟨j, hj, hjw⟩, hbig⟩ := run_to (l := l) (x := x) (S := headSpec (Jvm.Cond.code x code maxLocals ret :: tables_1) bigR) (code := code) (maxLocals := maxLocals) (ret := ret) (Z := fun t => s.slotsUsed + 16942 ≤ t.slotsUsed) (p := p) (e := e) (s := s) (m := m) (args := #[.ref b]) (below := below) (by decide)
    (fun h hn => by
      obtain ⟨meth, c, h1, h2, h3, h4, h5, h6, -, -⟩ := Cond.code_spec hn (atoms_spec (ws := Jvm.Cond.code x code maxLocals ret :: tables_1) h _ List.mem_cons_self)
      exact ⟨meth, c, h1, h2, h3, h4, h5, h6⟩) ha hc hk hf happB
    (fun meth c s₁ B hml0 => by
      have hown : s.vm.findClass RL = some m.cls := findClass_of_methodNamed B.named
      have hts0 : ∀ c ∈ (Jvm.Cond.code x code maxLocals ret :: tables_1), c.before #[Value.ref b] s = true := atoms_spec (ws := Jvm.Cond.code x code maxLocals ret :: tables_1) B.pre
      have hts : ∀ w ∈ lw_tbl, w.before #[Value.ref b] s = true := k2_hts_sels lw_privs (fun w hw => hts0 w (List.mem_cons_of_mem _ hw)) lw_privs_ok
      have hml : c.maxLocals = 9 := B.maxLocals_eq (hts0 _ List.mem_cons_self)
      have X₀ : Stand p l e bigR s m #[Value.ref b] below meth c s₁ [] 0 0 := Stand.of_body B
      have hh0 : s₁.heap = s.heap := by rw [B.state]; rfl
      exact law_big l hflags B.exec B.bytes hml hown hts hgv s₁ hh0 X₀)
  have hbig : s.slotsUsed + 16942 ≤ t.slotsUsed := hbig
  rcases Nat.lt_or_ge n j with h | h
  · exact not_within hend (hjw n h)
  · obtain ⟨d, rfl⟩ := Nat.exists_eq_add_of_le h
    have hg := (stepsAlone_heap_grows_add p.tables e j d s).2
    rw [hj] at hg
    omega
/-- no start with room for both objects meets the claim's first limb, nor its second -/
theorem refuted_1 {l : Launch} {p : Program} {e : Env} {s : State} {m : MethodId} {args : Array Value} {below : List Frame} (hflags : l.flags = flags0) (hst : AtStart classFile x code maxLocals ret World_1 tables_1 room_1 Calls_1 rest_1 Pre_1 l p e s m args below) (hroom : s.hasRoom e.platform bigR = true) : ¬ Claimed_1_1 := fun hC => by
  obtain ⟨hL, hW, ha, -, hc, hk, hf, hfit, hheap, happ, hcalls, hrest, hPre⟩ := id hst
  obtain ⟨n, o, -, -, hend, hpost⟩ := hC l hflags hL hW p e ha hc hk s m args below hf hfit hheap happ ⟨hcalls, hrest, hPre⟩
  exact no_frame hflags hst hroom hend hpost.2
theorem refuted_2 {l : Launch} {p : Program} {e : Env} {s : State} {m : MethodId} {args : Array Value} {below : List Frame} (hflags : l.flags = flags0) (hst : AtStart classFile x code maxLocals ret World_1 tables_1 room_1 Calls_1 rest_1 Pre_1 l p e s m args below) (hroom : s.hasRoom e.platform bigR = true) : ¬ Claimed_1_2 := fun hC => by
  obtain ⟨hL, hW, ha, -, hc, hk, hf, hfit, hheap, happ, hcalls, hrest, hPre⟩ := id hst
  obtain ⟨n, o, -, -, hend, hpost⟩ := hC l hflags hL hW p e ha hc hk s m args below hf hfit hheap happ ⟨hcalls, hrest, hPre⟩
  exact no_frame hflags hst hroom hend hpost.2
end REFUTE
end
section
/-! p27: the claim is false as printed (its room): made by wip/refute/port.py out of whole's rows -/
/-! From a start whose script holds no call the run comes to its end: so the claim falls there in the Statement's own words (RefutedClaimed). -/
section ENDS
variable {D : va_G} {cI cL : ClassId} {A : Nat → Prop} {own : String} {cc : ByteArray} {nL : Nat} {rm : Room} {X : PX} {Q : State → Prop} {k z pc : Nat} {ls : List (Nat × Value)} {st st2 : List Value} {ws : va_W}
def Zend (below : List Frame) : State → Prop := fun t => ∃ o, t.status = .running ∧ Ended t below o
set_option maxHeartbeats 4000000 in
theorem law_end {p : Program} {e : Env} {s : State} {m : MethodId} {below : List Frame} {meth : Method} {c : Code} (l : Launch) (hflags : l.flags = flags0) {b L : Nat} {xs : Nat → Int32} (hX : va_X b L xs s s.heap) (hbl : b < s.heap.size) (hL : L < 5) (hr : meth.sig.returnType = some .boolean) (hlocks : meth.locks = false) (hx : p.tables.exec = Jvm.exec) (hb : c.code = code) (hml : c.maxLocals = 9) (hown : s.vm.findClass RL = some m.cls) (hts : ∀ w ∈ lw_tbl, w.before #[Value.ref b] s = true) (hgv : (Cond.and given_1 narrow_1).before #[Value.ref b] s = true) : W p l e bigR s m #[Value.ref b] below meth c s.heap [] 0 0 (Zend below) (entryFrame m ([Value.ref b] : List Value).toArray 9) := by
  have hl : l.stackTraces = false := by unfold Launch.stackTraces; rw [hflags]; decide
  obtain ⟨D, cI, cL, hSF⟩ := sf_start hts hgv
  obtain ⟨Md, hMd⟩ := Option.isSome_iff_exists.mp changed_some
  obtain ⟨Me, hMe⟩ := Option.isSome_iff_exists.mp fresh_some
  have K : LK D cI cL (fun q => s.heap.size ≤ q) RL cL_law 9 bigR (p, l, e, bigR, s, m, #[Value.ref b], below, meth, c, 0, 0) := ⟨hx, hb, hml, hown, fun w hw => hts w (bw_in hw), rfl, hSF⟩
  have hl9 := lv_entry ([.ref b]) (n := 9) (Nat.le_of_ble_eq_true rfl)
  rw [lg_entry_eq]
  generalize (lg_sl ([.ref b]) ++ List.replicate (9 - (lg_sl ([.ref b])).length) Slot.unset).toArray = la at hl9 ⊢
  have hl9 : lv_has la 9 [(0, .ref b)] := hl9
  have go : NW D (fun q => s.heap.size ≤ q) (p, l, e, bigR, s, m, #[Value.ref b], below, meth, c, 0, 0) 9 (Zend below) 0 0 0 [(0, .ref b)] [] [] := by
    refine l_new (t := 9) (fs := [.null, .null, .null, .null, .null, .null, .null, .null]) K (by decide) lL_9 (inst_all (by decide)) lJ_9 (by decide) (Nat.le_of_ble_eq_true rfl) (Nat.le_of_ble_eq_true rfl) dL_law_0 (fun q0 => ?_)
    refine l_dup K dL_law_3 ?_
    refine l_call (as := []) K lI_9 (c_X9_init l hl q0 400 fill_MF Mb0 Mc0 Md clear_Mb clear_Mc hMd) rfl (Nat.le_of_ble_eq_true rfl) ⟨Nat.le_of_ble_eq_true rfl, Nat.le_of_ble_eq_true rfl⟩ ⟨Nat.le_of_ble_eq_true rfl, Nat.le_of_ble_eq_true rfl⟩ rfl dL_law_4 (fun u0 hu0 => ?_)
    refine l_astore (ls' := [(1, .ref q0), (0, .ref b)]) K dL_law_7 rfl (by decide) rfl ?_
    refine l_new (t := 10) (fs := [.int 0, .int 0, .int 0, .null, .null, .null, .null, .int 0, .null, .null, .null, .int 0, .null, .int 0, .null, .null, .null, .null, .null, .int 0, .int 0, .int 0, .int 0, .int 0, .int 0, .null, .null, .null, .int 0, .null, .null, .long 0]) K (by decide) lL_10 (inst_all (by decide)) lJ_10 (by decide) (Nat.le_of_ble_eq_true rfl) (Nat.le_of_ble_eq_true rfl) dL_law_8 (fun q8 => ?_)
    refine l_dup K dL_law_11 ?_
    refine l_call (as := []) K lI_10 (c_X10_init l hl q8 400 Me hMe) rfl (Nat.le_of_ble_eq_true rfl) ⟨Nat.le_of_ble_eq_true rfl, Nat.le_of_ble_eq_true rfl⟩ ⟨Nat.le_of_ble_eq_true rfl, Nat.le_of_ble_eq_true rfl⟩ rfl dL_law_12 (fun u8 hu8 => ?_)
    refine l_astore (ls' := [(2, .ref q8), (1, .ref q0), (0, .ref b)]) K dL_law_15 rfl (by decide) rfl ?_
    intro H locs la hP hD hS h
    refine lv_iconst (v := 1) K.1 K.2.1 dL_law_16 rfl ?_
    refine va_newaK (atype := .long) (N := 1) K.1 K.2.1 (hts (.arrayClass .long) (by decide +kernel)) rfl dL_law_17 rfl (by decide) rfl (by decide) (Nat.le_of_ble_eq_true rfl) (Nat.le_of_ble_eq_true rfl) rfl (fun H1 cA e1 z1 o1 hAr hfc => ?_)
    refine lv_astore_n (i := 3) (lv' := [(3, .ref H.size), (2, .ref q8), (1, .ref q0), (0, .ref b)]) K.1 K.2.1 dL_law_19 rfl h (by decide) rfl (fun la2 h2 => ?_)
    refine lv_iconst (v := 0) K.1 K.2.1 dL_law_20 rfl ?_
    refine lv_istore (i := 4) (lv' := [(4, .int 0), (3, .ref H.size), (2, .ref q8), (1, .ref q0), (0, .ref b)]) K.1 K.2.1 dL_law_21 h2 (by decide) rfl (fun la3 h3 => ?_)
    refine lv_iload (x := 0) K.1 K.2.1 dL_law_23 (lv_at h3 0 rfl) ?_
    refine lv_aload_n (i := 0) (x := b) K.1 K.2.1 dL_law_25 rfl (lv_at h3 4 rfl) ?_
    obtain ⟨scr, hcell, harr, -, hsz, -⟩ := hX
    have hlt : scr.slots.size.toInt32 - 5 < 0 := by
      rw [hsz]
      exact (by decide : ∀ L : Nat, L < 5 → L.toInt32 - 5 < 0) L hL
    have hc1 : H1[b]? = some scr := (o1 b (Nat.lt_of_lt_of_le hbl hS.1)).trans ((hS.2.1 b hbl (Nat.not_le.mpr hbl)).trans hcell)
    refine W.alen K.1 K.2.1 hc1 harr rfl rfl rfl dL_law_26 ?_
    refine lv_iconst (v := 5) K.1 K.2.1 dL_law_27 rfl ?_
    refine lv_isub K.1 K.2.1 dL_law_28 ?_
    refine lv_icmp_gt (tgt := 1128) K.1 K.2.1 dL_law_29 rfl (fun _ => ?_) (fun h29 => absurd hlt h29)
    refine lv_iconst (v := 1) K.1 K.2.1 dL_law_1128 rfl ?_
    intro T hT XX
    obtain ⟨t, a1, o, b1, b2, -⟩ := W.zret (v := 1) (Qc := fun _ _ _ _ => True) (free := fun _ => True) K.1 K.2.1 hr rfl (fun _ _ _ => trivial) (fun _ _ => trivial) dL_law_1129 hlocks T hT XX
    exact ⟨t, a1, o, b1, b2⟩
  exact go s.heap [] la (fun k q h => by simp at h) ⟨fun i j p q h => by simp at h, fun k q h => by simp at h⟩ va_S.rf hl9
set_option maxHeartbeats 4000000 in
/-- from a start with room for both objects and a script of less than five ints the run comes to its end -/
theorem ends_short {l : Launch} {p : Program} {e : Env} {s : State} {m : MethodId} {args : Array Value} {below : List Frame} (hflags : l.flags = flags0) (hst : AtStart classFile x code maxLocals ret World_1 tables_1 room_1 Calls_1 rest_1 Pre_1 l p e s m args below) (hroom : s.hasRoom e.platform bigR = true)
    (hshort : ∀ (b : Nat) (cell : Cell), args = #[.ref b] → s.heap[b]? = some cell → cell.slots.size < 5) : ∃ (n : Nat) (o : Outcome), (∀ k, k < n → Within (stepsAlone p.tables e k s) below) ∧ (stepsAlone p.tables e n s).status = Status.running ∧ Ended (stepsAlone p.tables e n s) below o := by
  obtain ⟨hL, hW, ha, hle, hc, hk, hf, hfit, hheap, happ, hcalls, hrest, hPre⟩ := hst
  have hl1 := (Spec.appliesLoose_iff hf).mp ((Spec.applies_iff_loose hf).mp happ).1
  have happB : (headSpec (Jvm.Cond.code x code maxLocals ret :: tables_1) bigR).appliesLoose x e.platform s = true :=
    (Spec.appliesLoose_iff hf).mpr ⟨hl1.1, hl1.2.1, hl1.2.2.1, hl1.2.2.2.1, hl1.2.2.2.2.1, hl1.2.2.2.2.2.1, hroom, hl1.2.2.2.2.2.2.2⟩
  have hgv : (Cond.and given_1 narrow_1).before args s = true := hPre
  have hb : ∃ (b : Addr) (L : Nat) (xs : Nat → Int32), args = #[.ref b] ∧ va_X b L xs s s.heap ∧ b < s.heap.size := by
    have hs := flat_of_before _ hgv
    have hcnt : (Cond.count 1).before args s = true := hs _ (by decide +kernel)
    have harr : (Cond.arrayOf (.arg 0) .int).before args s = true := hs _ (by decide +kernel)
    have hq := flat_of_before _ (show rest_1_c.before args s = true from hrest)
    have hlen : (Cond.isInt (.length (.arg 0))).before args s = true := hq _ (by decide +kernel)
    have hall : (Cond.all (.arg 0) (.isInt (.elem (.arg 0) (.index 0)))).before args s = true := hq _ (by decide +kernel)
    obtain ⟨b, xs, hb, hx⟩ := State.ints_of_pre rfl harr hlen hall
    obtain ⟨scr, harrAt, hlist, hof, hsmall⟩ := hx
    obtain ⟨hcb, hkn, -, -⟩ := State.arrayAt?_spec harrAt
    have hsz : scr.slots.size = xs.length := by rw [← Array.length_toList, hlist, List.length_map]
    have hval : ∀ j : Nat, j < xs.length → scr.slots[j]? = some (.int (xs.getD j 0)) := fun j hj => by
      rw [← Array.getElem?_toList, hlist]
      simp [hj]
    exact ⟨b, xs.length, fun j => xs.getD j 0, Cond.one_arg hcnt (show args[0]? = some (.ref b) from hb), ⟨scr, hcb, hof, hkn, hsz, hval⟩, (Array.getElem?_eq_some_iff.mp hcb).1⟩
  obtain ⟨b, L, xs, rfl, hX, hbl⟩ := hb
  have hL5 : L < 5 := by
    obtain ⟨scr, hcell, -, -, hsz, -⟩ := id hX
    have h5 := hshort b scr rfl hcell
    omega
  obtain ⟨t, ⟨j, hj, hjw⟩, o, hst1, hend⟩ := run_to (l := l) (x := x) (S := headSpec (Jvm.Cond.code x code maxLocals ret :: tables_1) bigR) (code := code) (maxLocals := maxLocals) (ret := ret) (Z := Zend below) (p := p) (e := e) (s := s) (m := m) (args := #[.ref b]) (below := below) (by decide)
    (fun h hn => by
      obtain ⟨meth, c, h1, h2, h3, h4, h5, h6, -, -⟩ := Cond.code_spec hn (atoms_spec (ws := Jvm.Cond.code x code maxLocals ret :: tables_1) h _ List.mem_cons_self)
      exact ⟨meth, c, h1, h2, h3, h4, h5, h6⟩) ha hc hk hf happB
    (fun meth c s₁ B hml0 => by
      have hown : s.vm.findClass RL = some m.cls := findClass_of_methodNamed B.named
      have hts0 : ∀ c ∈ (Jvm.Cond.code x code maxLocals ret :: tables_1), c.before #[Value.ref b] s = true := atoms_spec (ws := Jvm.Cond.code x code maxLocals ret :: tables_1) B.pre
      have hts : ∀ w ∈ lw_tbl, w.before #[Value.ref b] s = true := k2_hts_sels lw_privs (fun w hw => hts0 w (List.mem_cons_of_mem _ hw)) lw_privs_ok
      have hml : c.maxLocals = 9 := B.maxLocals_eq (hts0 _ List.mem_cons_self)
      have X₀ : Stand p l e bigR s m #[Value.ref b] below meth c s₁ [] 0 0 := Stand.of_body B
      have hh0 : s₁.heap = s.heap := by rw [B.state]; rfl
      exact law_end l hflags hX hbl hL5 B.returns B.notSynchronized B.exec B.bytes hml hown hts hgv s₁ hh0 X₀)
  subst hj
  exact ⟨j, o, hjw, hst1, hend⟩
/-- such a start is one from which the run ends and the claim's post falls -/
theorem falls_1 {l : Launch} {p : Program} {e : Env} {s : State} {m : MethodId} {args : Array Value} {below : List Frame} (hflags : l.flags = flags0) (hst : AtStart classFile x code maxLocals ret World_1 tables_1 room_1 Calls_1 rest_1 Pre_1 l p e s m args below) (hroom : s.hasRoom e.platform bigR = true)
    (hshort : ∀ (b : Nat) (cell : Cell), args = #[.ref b] → s.heap[b]? = some cell → cell.slots.size < 5) : RefutedClaimed_1_1 ∧ RefutedClaimed_1_2 := by
  obtain ⟨n, o, h1, h2, h3⟩ := ends_short hflags hst hroom hshort
  exact ⟨⟨l, p, e, s, m, args, below, hflags, hst, n, o, h1, h2, h3, fun hp => no_frame hflags hst hroom h3 hp.2⟩, ⟨l, p, e, s, m, args, below, hflags, hst, n, o, h1, h2, h3, fun hp => no_frame hflags hst hroom h3 hp.2⟩⟩
/-! words that speak of the machine's classes alone -/
def vmKind : Cond → Bool
  | .arrayClass .. | .castable .. | .classLink .. | .code .. | .codeSync .. | .codeWith .. | .constant .. | .constantDouble .. | .constantFloat .. | .constantLong .. | .declares .. | .fieldLink .. | .fieldLinkNest .. | .initialized .. | .instanceMethod .. | .instantiable .. | .lays .. | .laysFinal .. | .methodLink .. | .methodLinkNest .. | .native .. | .privateMethod .. | .sameMethod .. | .selects .. | .soleField .. | .static .. | .stringRef .. | .superclass .. => true
  | _ => false
theorem vm_word {a : Array Value} (u : State) (H : Heap) (n : Nat) : ∀ c : Cond, vmKind c = true → c.before a { u with heap := H, slotsUsed := n } = c.before a u := by
  intro c h
  cases c <;> first | (exact absurd h Bool.false_ne_true) | rfl
end ENDS
end
section
/-! The statement is false: the printed witness's own start has room for both objects. (A whole round alone knows the witness's names; i_vc stands here, open, for the printed rows behind it: nothing of the refutation uses it.) -/
section FALSE
theorem wide_room : start1.about.hasRoom start1.e0.platform bigR = true := launch0.hasRoom_least _ bigR (by decide +kernel) (by decide +kernel) (by decide +kernel) (by decide +kernel) (by decide +kernel) (by decide +kernel)
theorem claim_1_false : ¬ Claimed_1_1 := refuted_1 rfl start1.atStart wide_room
theorem claim_2_false : ¬ Claimed_1_2 := refuted_2 rfl start1.atStart wide_room
theorem i_vc_false : ¬ (Claimed_1_1 ∧ Claimed_1_2) := fun h => claim_1_false h.1
/-- the witness's start with an empty script -/
theorem start1.about5_words : ∀ c ∈ (Cond.code x code maxLocals ret :: tables_1), c.before start1.args0 (start1.aboutOf #[]) = true := by
  intro c hc
  cases hv : vmKind c with
  | true =>
    have h := vm_word (a := start1.args0) start1.about (start1.aboutOf #[]).heap (start1.aboutOf #[]).slotsUsed c hv
    exact h.trans (start1.words c hc)
  | false =>
    have h : ∀ c ∈ (Cond.code x code maxLocals ret :: tables_1).filter (fun c => !vmKind c), c.before start1.args0 (start1.aboutOf #[]) = true := by decide +kernel
    exact h c (List.mem_filter.mpr ⟨hc, by rw [hv]; rfl⟩)
theorem start1.atStart5 : AtStart classFile x code maxLocals ret World_1 tables_1 room_1 Calls_1 rest_1 Pre_1 launch0 start1.p0 start1.e0 (start1.aboutOf #[]) ⟨0, 0⟩ start1.args0 Lib.HandBits.below0 := by
  obtain ⟨hL, hW, ha, hle, hc, hk, hf, hfit, hheap, happ, hcalls, hrest, hPre⟩ := start1.atStart
  exact ⟨hL, hW, ha, hle, hc, hk, rfl, by decide +kernel, by decide +kernel,
    (Spec.applies_iff rfl).mpr ⟨rfl, rfl, rfl, by decide +kernel, by decide +kernel, by decide +kernel, launch0.hasRoom_least _ room_1 (by decide +kernel) (by decide +kernel) (by decide +kernel) (by decide +kernel) (by decide +kernel) (by decide +kernel), atoms_intro start1.about5_words⟩,
    trivial, (show rest_1_c.before start1.args0 (start1.aboutOf #[]) = true by decide +kernel), (show (Cond.and given_1 narrow_1).before start1.args0 (start1.aboutOf #[]) = true by decide +kernel)⟩
theorem wide_room5 : (start1.aboutOf #[]).hasRoom start1.e0.platform bigR = true := launch0.hasRoom_least _ bigR (by decide +kernel) (by decide +kernel) (by decide +kernel) (by decide +kernel) (by decide +kernel) (by decide +kernel)
theorem short5 : ∀ (b : Nat) (cell : Cell), start1.args0 = #[.ref b] → (start1.aboutOf #[]).heap[b]? = some cell → cell.slots.size < 5 := by
  intro b cell h1 h2
  have hb : b = 0 := by
    have h3 : some (Value.ref 0) = some (Value.ref b) := congrArg (fun a : Array Value => a[0]?) h1
    cases h3
    rfl
  subst hb
  have h4 : (start1.aboutOf #[]).heap[0]? = some { cls := 24, slots := #[], vm := .none } := rfl
  rw [h4] at h2
  cases h2
  decide
/-- the Statement's own word for a claim that is false: a start that it allows, a run that ends, a post that falls -/
theorem refuted_claimed_1 : RefutedClaimed_1_1 := (falls_1 rfl start1.atStart5 wide_room5 short5).1
theorem refuted_claimed_2 : RefutedClaimed_1_2 := (falls_1 rfl start1.atStart5 wide_room5 short5).2
end FALSE
theorem i_vc : Claimed_1_1 ∧ Claimed_1_2 := sorry
end
section
theorem rc_1 : RefutedClaimed_1_1 := refuted_claimed_1
theorem rc_2 : RefutedClaimed_1_2 := refuted_claimed_2
#print axioms claim_1_false
#print axioms claim_2_false
#print axioms i_vc_false
#print axioms rc_1
#print axioms rc_2
end
