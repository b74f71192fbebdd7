section
-- ===== PART A: goes FIRST, ahead of the names: the tables' words, and 'selects' of the private methods out of them =====
/-- a private method of a class that the tables say can be made, by its rows of tables_1 -/
def lw_okq (q : MethodName × Nat) : Prop := (q.1.cls ≠ "java/lang/invoke/MethodHandle" ∧ q.1.cls ≠ "java/lang/invoke/VarHandle") ∧ Cond.instantiable q.1.cls q.2 ∈ tables_1 ∧ Cond.privateMethod q.1 ∈ tables_1 ∧ Cond.instanceMethod q.1 ∈ tables_1
theorem lw_p0 : lw_okq (⟨"ArrowDiagrams", "graphChanged", "()V"⟩, 8) := ⟨⟨by decide +kernel, by decide +kernel⟩, List.mem_of_getElem? (i := 22) (by decide +kernel), List.mem_of_getElem? (i := 269) (by decide +kernel), List.mem_of_getElem? (i := 270) (by decide +kernel)⟩
theorem lw_p1 : lw_okq (⟨"ArrowDiagrams$Paths", "enter", "(IIII)V"⟩, 7) := ⟨⟨by decide +kernel, by decide +kernel⟩, List.mem_of_getElem? (i := 103) (by decide +kernel), List.mem_of_getElem? (i := 281) (by decide +kernel), List.mem_of_getElem? (i := 282) (by decide +kernel)⟩
theorem lw_p2 : lw_okq (⟨"ArrowDiagrams$Paths", "enterLonger", "(III)V"⟩, 7) := ⟨⟨by decide +kernel, by decide +kernel⟩, List.mem_of_getElem? (i := 103) (by decide +kernel), List.mem_of_getElem? (i := 313) (by decide +kernel), List.mem_of_getElem? (i := 314) (by decide +kernel)⟩
theorem lw_p3 : lw_okq (⟨"ArrowDiagrams", "cellsChanged", "()V"⟩, 8) := ⟨⟨by decide +kernel, by decide +kernel⟩, List.mem_of_getElem? (i := 22) (by decide +kernel), List.mem_of_getElem? (i := 322) (by decide +kernel), List.mem_of_getElem? (i := 323) (by decide +kernel)⟩
theorem lw_p4 : lw_okq (⟨"ArrowDiagrams$Reader", "accepts", "(I)Z"⟩, 6) := ⟨⟨by decide +kernel, by decide +kernel⟩, List.mem_of_getElem? (i := 231) (by decide +kernel), List.mem_of_getElem? (i := 406) (by decide +kernel), List.mem_of_getElem? (i := 407) (by decide +kernel)⟩
theorem lw_p5 : lw_okq (⟨"ArrowDiagrams$Reader", "beginsArrow", "(I)Z"⟩, 6) := ⟨⟨by decide +kernel, by decide +kernel⟩, List.mem_of_getElem? (i := 231) (by decide +kernel), List.mem_of_getElem? (i := 410) (by decide +kernel), List.mem_of_getElem? (i := 411) (by decide +kernel)⟩
theorem lw_p6 : lw_okq (⟨"ArrowDiagrams$Reader", "beginsCell", "(I)Z"⟩, 6) := ⟨⟨by decide +kernel, by decide +kernel⟩, List.mem_of_getElem? (i := 231) (by decide +kernel), List.mem_of_getElem? (i := 416) (by decide +kernel), List.mem_of_getElem? (i := 417) (by decide +kernel)⟩
theorem lw_p7 : lw_okq (⟨"ArrowDiagrams$Reader", "goesOn", "(III)Z"⟩, 6) := ⟨⟨by decide +kernel, by decide +kernel⟩, List.mem_of_getElem? (i := 231) (by decide +kernel), List.mem_of_getElem? (i := 430) (by decide +kernel), List.mem_of_getElem? (i := 431) (by decide +kernel)⟩
theorem lw_p8 : lw_okq (⟨"ArrowDiagrams$Reader", "endsArrow", "(I)Z"⟩, 6) := ⟨⟨by decide +kernel, by decide +kernel⟩, List.mem_of_getElem? (i := 231) (by decide +kernel), List.mem_of_getElem? (i := 440) (by decide +kernel), List.mem_of_getElem? (i := 441) (by decide +kernel)⟩
theorem lw_p9 : lw_okq (⟨"ArrowDiagrams$Reader", "endsItem", "(I)Z"⟩, 6) := ⟨⟨by decide +kernel, by decide +kernel⟩, List.mem_of_getElem? (i := 231) (by decide +kernel), List.mem_of_getElem? (i := 453) (by decide +kernel), List.mem_of_getElem? (i := 454) (by decide +kernel)⟩
theorem lw_p10 : lw_okq (⟨"ArrowDiagrams$Reader", "endsFirst", "(I)Z"⟩, 6) := ⟨⟨by decide +kernel, by decide +kernel⟩, List.mem_of_getElem? (i := 231) (by decide +kernel), List.mem_of_getElem? (i := 461) (by decide +kernel), List.mem_of_getElem? (i := 462) (by decide +kernel)⟩
theorem lw_p11 : lw_okq (⟨"ArrowDiagrams$Reader", "beginsSecond", "(I)Z"⟩, 6) := ⟨⟨by decide +kernel, by decide +kernel⟩, List.mem_of_getElem? (i := 231) (by decide +kernel), List.mem_of_getElem? (i := 465) (by decide +kernel), List.mem_of_getElem? (i := 466) (by decide +kernel)⟩
theorem lw_p12 : lw_okq (⟨"ArrowDiagrams$Pasting", "stepFrom", "(LArrowDiagrams$Paths;IIII)I"⟩, 12) := ⟨⟨by decide +kernel, by decide +kernel⟩, List.mem_of_getElem? (i := 150) (by decide +kernel), List.mem_of_getElem? (i := 497) (by decide +kernel), List.mem_of_getElem? (i := 498) (by decide +kernel)⟩
theorem lw_p13 : lw_okq (⟨"ArrowDiagrams$Pasting", "findClasses", "(LArrowDiagrams$Paths;)V"⟩, 12) := ⟨⟨by decide +kernel, by decide +kernel⟩, List.mem_of_getElem? (i := 150) (by decide +kernel), List.mem_of_getElem? (i := 508) (by decide +kernel), List.mem_of_getElem? (i := 509) (by decide +kernel)⟩
theorem lw_p14 : lw_okq (⟨"ArrowDiagrams$Pasting", "reach", "(II)V"⟩, 12) := ⟨⟨by decide +kernel, by decide +kernel⟩, List.mem_of_getElem? (i := 150) (by decide +kernel), List.mem_of_getElem? (i := 521) (by decide +kernel), List.mem_of_getElem? (i := 522) (by decide +kernel)⟩
theorem lw_p15 : lw_okq (⟨"ArrowDiagrams$Pasting", "nameReached", "(I)V"⟩, 12) := ⟨⟨by decide +kernel, by decide +kernel⟩, List.mem_of_getElem? (i := 150) (by decide +kernel), List.mem_of_getElem? (i := 525) (by decide +kernel), List.mem_of_getElem? (i := 526) (by decide +kernel)⟩
def lw_privs_1 : List (MethodName × Nat) := [(⟨"ArrowDiagrams", "graphChanged", "()V"⟩, 8), (⟨"ArrowDiagrams$Paths", "enter", "(IIII)V"⟩, 7), (⟨"ArrowDiagrams$Paths", "enterLonger", "(III)V"⟩, 7), (⟨"ArrowDiagrams", "cellsChanged", "()V"⟩, 8), (⟨"ArrowDiagrams$Reader", "accepts", "(I)Z"⟩, 6), (⟨"ArrowDiagrams$Reader", "beginsArrow", "(I)Z"⟩, 6), (⟨"ArrowDiagrams$Reader", "beginsCell", "(I)Z"⟩, 6), (⟨"ArrowDiagrams$Reader", "goesOn", "(III)Z"⟩, 6), (⟨"ArrowDiagrams$Reader", "endsArrow", "(I)Z"⟩, 6), (⟨"ArrowDiagrams$Reader", "endsItem", "(I)Z"⟩, 6), (⟨"ArrowDiagrams$Reader", "endsFirst", "(I)Z"⟩, 6), (⟨"ArrowDiagrams$Reader", "beginsSecond", "(I)Z"⟩, 6), (⟨"ArrowDiagrams$Pasting", "stepFrom", "(LArrowDiagrams$Paths;IIII)I"⟩, 12), (⟨"ArrowDiagrams$Pasting", "findClasses", "(LArrowDiagrams$Paths;)V"⟩, 12), (⟨"ArrowDiagrams$Pasting", "reach", "(II)V"⟩, 12), (⟨"ArrowDiagrams$Pasting", "nameReached", "(I)V"⟩, 12)]
theorem lw_r1 : ∀ q ∈ lw_privs_1, lw_okq q := List.forall_mem_cons.mpr ⟨lw_p0, List.forall_mem_cons.mpr ⟨lw_p1, List.forall_mem_cons.mpr ⟨lw_p2, List.forall_mem_cons.mpr ⟨lw_p3, List.forall_mem_cons.mpr ⟨lw_p4, List.forall_mem_cons.mpr ⟨lw_p5, List.forall_mem_cons.mpr ⟨lw_p6, List.forall_mem_cons.mpr ⟨lw_p7, List.forall_mem_cons.mpr ⟨lw_p8, List.forall_mem_cons.mpr ⟨lw_p9, List.forall_mem_cons.mpr ⟨lw_p10, List.forall_mem_cons.mpr ⟨lw_p11, List.forall_mem_cons.mpr ⟨lw_p12, List.forall_mem_cons.mpr ⟨lw_p13, List.forall_mem_cons.mpr ⟨lw_p14, List.forall_mem_cons.mpr ⟨lw_p15, fun _ h => absurd h List.not_mem_nil⟩⟩⟩⟩⟩⟩⟩⟩⟩⟩⟩⟩⟩⟩⟩⟩
theorem lw_p16 : lw_okq (⟨"ArrowDiagrams$Pasting", "countClass", "(II)V"⟩, 12) := ⟨⟨by decide +kernel, by decide +kernel⟩, List.mem_of_getElem? (i := 150) (by decide +kernel), List.mem_of_getElem? (i := 529) (by decide +kernel), List.mem_of_getElem? (i := 530) (by decide +kernel)⟩
theorem lw_p17 : lw_okq (⟨"ArrowDiagrams", "pairsWithAtMost", "(I)I"⟩, 8) := ⟨⟨by decide +kernel, by decide +kernel⟩, List.mem_of_getElem? (i := 22) (by decide +kernel), List.mem_of_getElem? (i := 533) (by decide +kernel), List.mem_of_getElem? (i := 534) (by decide +kernel)⟩
theorem lw_p18 : lw_okq (⟨"ArrowDiagrams", "holdingCells", "()I"⟩, 8) := ⟨⟨by decide +kernel, by decide +kernel⟩, List.mem_of_getElem? (i := 22) (by decide +kernel), List.mem_of_getElem? (i := 559) (by decide +kernel), List.mem_of_getElem? (i := 560) (by decide +kernel)⟩
theorem lw_p19 : lw_okq (⟨"ArrowDiagrams", "holds", "(LArrowDiagrams$Functions;I)Z"⟩, 8) := ⟨⟨by decide +kernel, by decide +kernel⟩, List.mem_of_getElem? (i := 22) (by decide +kernel), List.mem_of_getElem? (i := 563) (by decide +kernel), List.mem_of_getElem? (i := 564) (by decide +kernel)⟩
theorem lw_p20 : lw_okq (⟨"ArrowDiagrams$Pasting", "isEqualBy", "(LArrowDiagrams$Cells;II)Z"⟩, 12) := ⟨⟨by decide +kernel, by decide +kernel⟩, List.mem_of_getElem? (i := 150) (by decide +kernel), List.mem_of_getElem? (i := 585) (by decide +kernel), List.mem_of_getElem? (i := 586) (by decide +kernel)⟩
theorem lw_p21 : lw_okq (⟨"java/lang/Throwable", "fillInStackTrace", "(I)Ljava/lang/Throwable;"⟩, 6) := ⟨⟨by decide +kernel, by decide +kernel⟩, List.mem_of_getElem? (i := 637) (by decide +kernel), List.mem_of_getElem? (i := 635) (by decide +kernel), List.mem_of_getElem? (i := 636) (by decide +kernel)⟩
theorem lw_p22 : lw_okq (⟨"ArrowDiagrams", "requireCell", "(I)V"⟩, 8) := ⟨⟨by decide +kernel, by decide +kernel⟩, List.mem_of_getElem? (i := 22) (by decide +kernel), List.mem_of_getElem? (i := 680) (by decide +kernel), List.mem_of_getElem? (i := 681) (by decide +kernel)⟩
theorem lw_p23 : lw_okq (⟨"ArrowDiagrams", "requirePath", "(I)V"⟩, 8) := ⟨⟨by decide +kernel, by decide +kernel⟩, List.mem_of_getElem? (i := 22) (by decide +kernel), List.mem_of_getElem? (i := 713) (by decide +kernel), List.mem_of_getElem? (i := 714) (by decide +kernel)⟩
theorem lw_p24 : lw_okq (⟨"ArrowDiagrams", "requireObject", "(I)V"⟩, 8) := ⟨⟨by decide +kernel, by decide +kernel⟩, List.mem_of_getElem? (i := 22) (by decide +kernel), List.mem_of_getElem? (i := 763) (by decide +kernel), List.mem_of_getElem? (i := 764) (by decide +kernel)⟩
theorem lw_p25 : lw_okq (⟨"ArrowDiagrams$Graph", "countFrom", "(I)V"⟩, 5) := ⟨⟨by decide +kernel, by decide +kernel⟩, List.mem_of_getElem? (i := 30) (by decide +kernel), List.mem_of_getElem? (i := 790) (by decide +kernel), List.mem_of_getElem? (i := 791) (by decide +kernel)⟩
theorem lw_p26 : lw_okq (⟨"ArrowDiagrams$Cells", "occurs", "(III)Z"⟩, 5) := ⟨⟨by decide +kernel, by decide +kernel⟩, List.mem_of_getElem? (i := 63) (by decide +kernel), List.mem_of_getElem? (i := 817) (by decide +kernel), List.mem_of_getElem? (i := 818) (by decide +kernel)⟩
theorem lw_p27 : lw_okq (⟨"ArrowDiagrams$Cells", "move", "(II)V"⟩, 5) := ⟨⟨by decide +kernel, by decide +kernel⟩, List.mem_of_getElem? (i := 63) (by decide +kernel), List.mem_of_getElem? (i := 821) (by decide +kernel), List.mem_of_getElem? (i := 822) (by decide +kernel)⟩
theorem lw_p28 : lw_okq (⟨"ArrowDiagrams", "requireParallel", "(II)V"⟩, 8) := ⟨⟨by decide +kernel, by decide +kernel⟩, List.mem_of_getElem? (i := 22) (by decide +kernel), List.mem_of_getElem? (i := 836) (by decide +kernel), List.mem_of_getElem? (i := 837) (by decide +kernel)⟩
theorem lw_p29 : lw_okq (⟨"ArrowDiagrams", "lengthenBy", "(II)V"⟩, 8) := ⟨⟨by decide +kernel, by decide +kernel⟩, List.mem_of_getElem? (i := 22) (by decide +kernel), List.mem_of_getElem? (i := 843) (by decide +kernel), List.mem_of_getElem? (i := 844) (by decide +kernel)⟩
theorem lw_p30 : lw_okq (⟨"ArrowDiagrams", "pathsFromTo", "(II)I"⟩, 8) := ⟨⟨by decide +kernel, by decide +kernel⟩, List.mem_of_getElem? (i := 22) (by decide +kernel), List.mem_of_getElem? (i := 911) (by decide +kernel), List.mem_of_getElem? (i := 912) (by decide +kernel)⟩
theorem lw_p31 : lw_okq (⟨"ArrowDiagrams", "stepsTo", "(II)I"⟩, 8) := ⟨⟨by decide +kernel, by decide +kernel⟩, List.mem_of_getElem? (i := 22) (by decide +kernel), List.mem_of_getElem? (i := 926) (by decide +kernel), List.mem_of_getElem? (i := 927) (by decide +kernel)⟩
def lw_privs_2 : List (MethodName × Nat) := [(⟨"ArrowDiagrams$Pasting", "countClass", "(II)V"⟩, 12), (⟨"ArrowDiagrams", "pairsWithAtMost", "(I)I"⟩, 8), (⟨"ArrowDiagrams", "holdingCells", "()I"⟩, 8), (⟨"ArrowDiagrams", "holds", "(LArrowDiagrams$Functions;I)Z"⟩, 8), (⟨"ArrowDiagrams$Pasting", "isEqualBy", "(LArrowDiagrams$Cells;II)Z"⟩, 12), (⟨"java/lang/Throwable", "fillInStackTrace", "(I)Ljava/lang/Throwable;"⟩, 6), (⟨"ArrowDiagrams", "requireCell", "(I)V"⟩, 8), (⟨"ArrowDiagrams", "requirePath", "(I)V"⟩, 8), (⟨"ArrowDiagrams", "requireObject", "(I)V"⟩, 8), (⟨"ArrowDiagrams$Graph", "countFrom", "(I)V"⟩, 5), (⟨"ArrowDiagrams$Cells", "occurs", "(III)Z"⟩, 5), (⟨"ArrowDiagrams$Cells", "move", "(II)V"⟩, 5), (⟨"ArrowDiagrams", "requireParallel", "(II)V"⟩, 8), (⟨"ArrowDiagrams", "lengthenBy", "(II)V"⟩, 8), (⟨"ArrowDiagrams", "pathsFromTo", "(II)I"⟩, 8), (⟨"ArrowDiagrams", "stepsTo", "(II)I"⟩, 8)]
theorem lw_r2 : ∀ q ∈ lw_privs_2, lw_okq q := List.forall_mem_cons.mpr ⟨lw_p16, List.forall_mem_cons.mpr ⟨lw_p17, List.forall_mem_cons.mpr ⟨lw_p18, List.forall_mem_cons.mpr ⟨lw_p19, List.forall_mem_cons.mpr ⟨lw_p20, List.forall_mem_cons.mpr ⟨lw_p21, List.forall_mem_cons.mpr ⟨lw_p22, List.forall_mem_cons.mpr ⟨lw_p23, List.forall_mem_cons.mpr ⟨lw_p24, List.forall_mem_cons.mpr ⟨lw_p25, List.forall_mem_cons.mpr ⟨lw_p26, List.forall_mem_cons.mpr ⟨lw_p27, List.forall_mem_cons.mpr ⟨lw_p28, List.forall_mem_cons.mpr ⟨lw_p29, List.forall_mem_cons.mpr ⟨lw_p30, List.forall_mem_cons.mpr ⟨lw_p31, fun _ h => absurd h List.not_mem_nil⟩⟩⟩⟩⟩⟩⟩⟩⟩⟩⟩⟩⟩⟩⟩⟩
theorem lw_p32 : lw_okq (⟨"ArrowDiagrams", "requireArrow", "(I)V"⟩, 8) := ⟨⟨by decide +kernel, by decide +kernel⟩, List.mem_of_getElem? (i := 22) (by decide +kernel), List.mem_of_getElem? (i := 979) (by decide +kernel), List.mem_of_getElem? (i := 980) (by decide +kernel)⟩
theorem lw_p33 : lw_okq (⟨"ArrowDiagrams", "allHold", "(LArrowDiagrams$Functions;)Z"⟩, 8) := ⟨⟨by decide +kernel, by decide +kernel⟩, List.mem_of_getElem? (i := 22) (by decide +kernel), List.mem_of_getElem? (i := 1021) (by decide +kernel), List.mem_of_getElem? (i := 1022) (by decide +kernel)⟩
theorem lw_p34 : lw_okq (⟨"ArrowDiagrams", "sizeAtEnd", "(I)I"⟩, 8) := ⟨⟨by decide +kernel, by decide +kernel⟩, List.mem_of_getElem? (i := 22) (by decide +kernel), List.mem_of_getElem? (i := 1038) (by decide +kernel), List.mem_of_getElem? (i := 1039) (by decide +kernel)⟩
theorem lw_p35 : lw_okq (⟨"ArrowDiagrams", "sources", "(IIII)I"⟩, 8) := ⟨⟨by decide +kernel, by decide +kernel⟩, List.mem_of_getElem? (i := 22) (by decide +kernel), List.mem_of_getElem? (i := 1042) (by decide +kernel), List.mem_of_getElem? (i := 1043) (by decide +kernel)⟩
theorem lw_p36 : lw_okq (⟨"ArrowDiagrams", "sizeAtStart", "(I)I"⟩, 8) := ⟨⟨by decide +kernel, by decide +kernel⟩, List.mem_of_getElem? (i := 22) (by decide +kernel), List.mem_of_getElem? (i := 1046) (by decide +kernel), List.mem_of_getElem? (i := 1047) (by decide +kernel)⟩
theorem lw_p37 : lw_okq (⟨"ArrowDiagrams", "isSquare", "(IIII)Z"⟩, 8) := ⟨⟨by decide +kernel, by decide +kernel⟩, List.mem_of_getElem? (i := 22) (by decide +kernel), List.mem_of_getElem? (i := 1061) (by decide +kernel), List.mem_of_getElem? (i := 1062) (by decide +kernel)⟩
theorem lw_p38 : lw_okq (⟨"ArrowDiagrams", "sameBehind", "(IIII)Z"⟩, 8) := ⟨⟨by decide +kernel, by decide +kernel⟩, List.mem_of_getElem? (i := 22) (by decide +kernel), List.mem_of_getElem? (i := 1066) (by decide +kernel), List.mem_of_getElem? (i := 1067) (by decide +kernel)⟩
theorem lw_p39 : lw_okq (⟨"ArrowDiagramsModel", "fresh", "(I)V"⟩, 32) := ⟨⟨by decide +kernel, by decide +kernel⟩, List.mem_of_getElem? (i := 1078) (by decide +kernel), List.mem_of_getElem? (i := 1084) (by decide +kernel), List.mem_of_getElem? (i := 1085) (by decide +kernel)⟩
theorem lw_p40 : lw_okq (⟨"ArrowDiagramsModel", "layPaths", "()Z"⟩, 32) := ⟨⟨by decide +kernel, by decide +kernel⟩, List.mem_of_getElem? (i := 1078) (by decide +kernel), List.mem_of_getElem? (i := 1088) (by decide +kernel), List.mem_of_getElem? (i := 1089) (by decide +kernel)⟩
theorem lw_p41 : lw_okq (⟨"ArrowDiagramsModel", "putPath", "(III)V"⟩, 32) := ⟨⟨by decide +kernel, by decide +kernel⟩, List.mem_of_getElem? (i := 1078) (by decide +kernel), List.mem_of_getElem? (i := 1092) (by decide +kernel), List.mem_of_getElem? (i := 1093) (by decide +kernel)⟩
theorem lw_p42 : lw_okq (⟨"ArrowDiagramsModel", "goOn", "(II)V"⟩, 32) := ⟨⟨by decide +kernel, by decide +kernel⟩, List.mem_of_getElem? (i := 1078) (by decide +kernel), List.mem_of_getElem? (i := 1096) (by decide +kernel), List.mem_of_getElem? (i := 1097) (by decide +kernel)⟩
theorem lw_p43 : lw_okq (⟨"ArrowDiagramsModel", "isObject", "(I)Z"⟩, 32) := ⟨⟨by decide +kernel, by decide +kernel⟩, List.mem_of_getElem? (i := 1078) (by decide +kernel), List.mem_of_getElem? (i := 1212) (by decide +kernel), List.mem_of_getElem? (i := 1213) (by decide +kernel)⟩
theorem lw_p44 : lw_okq (⟨"ArrowDiagramsModel", "putArrow", "(II)V"⟩, 32) := ⟨⟨by decide +kernel, by decide +kernel⟩, List.mem_of_getElem? (i := 1078) (by decide +kernel), List.mem_of_getElem? (i := 1216) (by decide +kernel), List.mem_of_getElem? (i := 1217) (by decide +kernel)⟩
theorem lw_p45 : lw_okq (⟨"ArrowDiagramsModel", "hasLetter", "(II)Z"⟩, 32) := ⟨⟨by decide +kernel, by decide +kernel⟩, List.mem_of_getElem? (i := 1078) (by decide +kernel), List.mem_of_getElem? (i := 1224) (by decide +kernel), List.mem_of_getElem? (i := 1225) (by decide +kernel)⟩
theorem lw_p46 : lw_okq (⟨"ArrowDiagramsModel", "removeCell", "(I)V"⟩, 32) := ⟨⟨by decide +kernel, by decide +kernel⟩, List.mem_of_getElem? (i := 1078) (by decide +kernel), List.mem_of_getElem? (i := 1228) (by decide +kernel), List.mem_of_getElem? (i := 1229) (by decide +kernel)⟩
theorem lw_p47 : lw_okq (⟨"ArrowDiagramsModel", "isPath", "(I)Z"⟩, 32) := ⟨⟨by decide +kernel, by decide +kernel⟩, List.mem_of_getElem? (i := 1078) (by decide +kernel), List.mem_of_getElem? (i := 1236) (by decide +kernel), List.mem_of_getElem? (i := 1237) (by decide +kernel)⟩
def lw_privs_3 : List (MethodName × Nat) := [(⟨"ArrowDiagrams", "requireArrow", "(I)V"⟩, 8), (⟨"ArrowDiagrams", "allHold", "(LArrowDiagrams$Functions;)Z"⟩, 8), (⟨"ArrowDiagrams", "sizeAtEnd", "(I)I"⟩, 8), (⟨"ArrowDiagrams", "sources", "(IIII)I"⟩, 8), (⟨"ArrowDiagrams", "sizeAtStart", "(I)I"⟩, 8), (⟨"ArrowDiagrams", "isSquare", "(IIII)Z"⟩, 8), (⟨"ArrowDiagrams", "sameBehind", "(IIII)Z"⟩, 8), (⟨"ArrowDiagramsModel", "fresh", "(I)V"⟩, 32), (⟨"ArrowDiagramsModel", "layPaths", "()Z"⟩, 32), (⟨"ArrowDiagramsModel", "putPath", "(III)V"⟩, 32), (⟨"ArrowDiagramsModel", "goOn", "(II)V"⟩, 32), (⟨"ArrowDiagramsModel", "isObject", "(I)Z"⟩, 32), (⟨"ArrowDiagramsModel", "putArrow", "(II)V"⟩, 32), (⟨"ArrowDiagramsModel", "hasLetter", "(II)Z"⟩, 32), (⟨"ArrowDiagramsModel", "removeCell", "(I)V"⟩, 32), (⟨"ArrowDiagramsModel", "isPath", "(I)Z"⟩, 32)]
theorem lw_r3 : ∀ q ∈ lw_privs_3, lw_okq q := List.forall_mem_cons.mpr ⟨lw_p32, List.forall_mem_cons.mpr ⟨lw_p33, List.forall_mem_cons.mpr ⟨lw_p34, List.forall_mem_cons.mpr ⟨lw_p35, List.forall_mem_cons.mpr ⟨lw_p36, List.forall_mem_cons.mpr ⟨lw_p37, List.forall_mem_cons.mpr ⟨lw_p38, List.forall_mem_cons.mpr ⟨lw_p39, List.forall_mem_cons.mpr ⟨lw_p40, List.forall_mem_cons.mpr ⟨lw_p41, List.forall_mem_cons.mpr ⟨lw_p42, List.forall_mem_cons.mpr ⟨lw_p43, List.forall_mem_cons.mpr ⟨lw_p44, List.forall_mem_cons.mpr ⟨lw_p45, List.forall_mem_cons.mpr ⟨lw_p46, List.forall_mem_cons.mpr ⟨lw_p47, fun _ h => absurd h List.not_mem_nil⟩⟩⟩⟩⟩⟩⟩⟩⟩⟩⟩⟩⟩⟩⟩⟩
theorem lw_p48 : lw_okq (⟨"ArrowDiagramsModel", "areParallel", "(II)Z"⟩, 32) := ⟨⟨by decide +kernel, by decide +kernel⟩, List.mem_of_getElem? (i := 1078) (by decide +kernel), List.mem_of_getElem? (i := 1240) (by decide +kernel), List.mem_of_getElem? (i := 1241) (by decide +kernel)⟩
theorem lw_p49 : lw_okq (⟨"ArrowDiagramsModel", "putSide", "(II)V"⟩, 32) := ⟨⟨by decide +kernel, by decide +kernel⟩, List.mem_of_getElem? (i := 1078) (by decide +kernel), List.mem_of_getElem? (i := 1244) (by decide +kernel), List.mem_of_getElem? (i := 1245) (by decide +kernel)⟩
theorem lw_p50 : lw_okq (⟨"ArrowDiagramsModel", "isCell", "(I)Z"⟩, 32) := ⟨⟨by decide +kernel, by decide +kernel⟩, List.mem_of_getElem? (i := 1078) (by decide +kernel), List.mem_of_getElem? (i := 1252) (by decide +kernel), List.mem_of_getElem? (i := 1253) (by decide +kernel)⟩
theorem lw_p51 : lw_okq (⟨"ArrowDiagramsModel", "rightLength", "()I"⟩, 32) := ⟨⟨by decide +kernel, by decide +kernel⟩, List.mem_of_getElem? (i := 1078) (by decide +kernel), List.mem_of_getElem? (i := 1268) (by decide +kernel), List.mem_of_getElem? (i := 1269) (by decide +kernel)⟩
theorem lw_p52 : lw_okq (⟨"ArrowDiagramsModel", "takes", "(I)Z"⟩, 32) := ⟨⟨by decide +kernel, by decide +kernel⟩, List.mem_of_getElem? (i := 1078) (by decide +kernel), List.mem_of_getElem? (i := 1272) (by decide +kernel), List.mem_of_getElem? (i := 1273) (by decide +kernel)⟩
theorem lw_p53 : lw_okq (⟨"ArrowDiagramsModel", "mayEnd", "()Z"⟩, 32) := ⟨⟨by decide +kernel, by decide +kernel⟩, List.mem_of_getElem? (i := 1078) (by decide +kernel), List.mem_of_getElem? (i := 1276) (by decide +kernel), List.mem_of_getElem? (i := 1277) (by decide +kernel)⟩
theorem lw_p54 : lw_okq (⟨"ArrowDiagramsModel", "endItem", "()V"⟩, 32) := ⟨⟨by decide +kernel, by decide +kernel⟩, List.mem_of_getElem? (i := 1078) (by decide +kernel), List.mem_of_getElem? (i := 1280) (by decide +kernel), List.mem_of_getElem? (i := 1281) (by decide +kernel)⟩
theorem lw_p55 : lw_okq (⟨"ArrowDiagramsModel", "takesDigit", "(I)Z"⟩, 32) := ⟨⟨by decide +kernel, by decide +kernel⟩, List.mem_of_getElem? (i := 1078) (by decide +kernel), List.mem_of_getElem? (i := 1284) (by decide +kernel), List.mem_of_getElem? (i := 1285) (by decide +kernel)⟩
theorem lw_p56 : lw_okq (⟨"ArrowDiagramsModel", "takesLetter", "(I)Z"⟩, 32) := ⟨⟨by decide +kernel, by decide +kernel⟩, List.mem_of_getElem? (i := 1078) (by decide +kernel), List.mem_of_getElem? (i := 1288) (by decide +kernel), List.mem_of_getElem? (i := 1289) (by decide +kernel)⟩
theorem lw_p57 : lw_okq (⟨"ArrowDiagramsModel", "putLetter", "(II)V"⟩, 32) := ⟨⟨by decide +kernel, by decide +kernel⟩, List.mem_of_getElem? (i := 1078) (by decide +kernel), List.mem_of_getElem? (i := 1292) (by decide +kernel), List.mem_of_getElem? (i := 1293) (by decide +kernel)⟩
theorem lw_p58 : lw_okq (⟨"ArrowDiagramsModel", "isArrow", "(I)Z"⟩, 32) := ⟨⟨by decide +kernel, by decide +kernel⟩, List.mem_of_getElem? (i := 1078) (by decide +kernel), List.mem_of_getElem? (i := 1304) (by decide +kernel), List.mem_of_getElem? (i := 1305) (by decide +kernel)⟩
theorem lw_p59 : lw_okq (⟨"ArrowDiagramsModel", "distanceOf", "(II)I"⟩, 32) := ⟨⟨by decide +kernel, by decide +kernel⟩, List.mem_of_getElem? (i := 1078) (by decide +kernel), List.mem_of_getElem? (i := 1312) (by decide +kernel), List.mem_of_getElem? (i := 1313) (by decide +kernel)⟩
theorem lw_p60 : lw_okq (⟨"ArrowDiagramsModel", "clearFar", "()V"⟩, 32) := ⟨⟨by decide +kernel, by decide +kernel⟩, List.mem_of_getElem? (i := 1078) (by decide +kernel), List.mem_of_getElem? (i := 1316) (by decide +kernel), List.mem_of_getElem? (i := 1317) (by decide +kernel)⟩
theorem lw_p61 : lw_okq (⟨"ArrowDiagramsModel", "allCells", "()I"⟩, 32) := ⟨⟨by decide +kernel, by decide +kernel⟩, List.mem_of_getElem? (i := 1078) (by decide +kernel), List.mem_of_getElem? (i := 1320) (by decide +kernel), List.mem_of_getElem? (i := 1321) (by decide +kernel)⟩
theorem lw_p62 : lw_okq (⟨"ArrowDiagramsModel", "spread", "(II)I"⟩, 32) := ⟨⟨by decide +kernel, by decide +kernel⟩, List.mem_of_getElem? (i := 1078) (by decide +kernel), List.mem_of_getElem? (i := 1324) (by decide +kernel), List.mem_of_getElem? (i := 1325) (by decide +kernel)⟩
theorem lw_p63 : lw_okq (⟨"ArrowDiagramsModel", "stepped", "(III)I"⟩, 32) := ⟨⟨by decide +kernel, by decide +kernel⟩, List.mem_of_getElem? (i := 1078) (by decide +kernel), List.mem_of_getElem? (i := 1328) (by decide +kernel), List.mem_of_getElem? (i := 1329) (by decide +kernel)⟩
def lw_privs_4 : List (MethodName × Nat) := [(⟨"ArrowDiagramsModel", "areParallel", "(II)Z"⟩, 32), (⟨"ArrowDiagramsModel", "putSide", "(II)V"⟩, 32), (⟨"ArrowDiagramsModel", "isCell", "(I)Z"⟩, 32), (⟨"ArrowDiagramsModel", "rightLength", "()I"⟩, 32), (⟨"ArrowDiagramsModel", "takes", "(I)Z"⟩, 32), (⟨"ArrowDiagramsModel", "mayEnd", "()Z"⟩, 32), (⟨"ArrowDiagramsModel", "endItem", "()V"⟩, 32), (⟨"ArrowDiagramsModel", "takesDigit", "(I)Z"⟩, 32), (⟨"ArrowDiagramsModel", "takesLetter", "(I)Z"⟩, 32), (⟨"ArrowDiagramsModel", "putLetter", "(II)V"⟩, 32), (⟨"ArrowDiagramsModel", "isArrow", "(I)Z"⟩, 32), (⟨"ArrowDiagramsModel", "distanceOf", "(II)I"⟩, 32), (⟨"ArrowDiagramsModel", "clearFar", "()V"⟩, 32), (⟨"ArrowDiagramsModel", "allCells", "()I"⟩, 32), (⟨"ArrowDiagramsModel", "spread", "(II)I"⟩, 32), (⟨"ArrowDiagramsModel", "stepped", "(III)I"⟩, 32)]
theorem lw_r4 : ∀ q ∈ lw_privs_4, lw_okq q := List.forall_mem_cons.mpr ⟨lw_p48, List.forall_mem_cons.mpr ⟨lw_p49, List.forall_mem_cons.mpr ⟨lw_p50, List.forall_mem_cons.mpr ⟨lw_p51, List.forall_mem_cons.mpr ⟨lw_p52, List.forall_mem_cons.mpr ⟨lw_p53, List.forall_mem_cons.mpr ⟨lw_p54, List.forall_mem_cons.mpr ⟨lw_p55, List.forall_mem_cons.mpr ⟨lw_p56, List.forall_mem_cons.mpr ⟨lw_p57, List.forall_mem_cons.mpr ⟨lw_p58, List.forall_mem_cons.mpr ⟨lw_p59, List.forall_mem_cons.mpr ⟨lw_p60, List.forall_mem_cons.mpr ⟨lw_p61, List.forall_mem_cons.mpr ⟨lw_p62, List.forall_mem_cons.mpr ⟨lw_p63, fun _ h => absurd h List.not_mem_nil⟩⟩⟩⟩⟩⟩⟩⟩⟩⟩⟩⟩⟩⟩⟩⟩
theorem lw_p64 : lw_okq (⟨"ArrowDiagramsModel", "stands", "(III)Z"⟩, 32) := ⟨⟨by decide +kernel, by decide +kernel⟩, List.mem_of_getElem? (i := 1078) (by decide +kernel), List.mem_of_getElem? (i := 1332) (by decide +kernel), List.mem_of_getElem? (i := 1333) (by decide +kernel)⟩
theorem lw_p65 : lw_okq (⟨"ArrowDiagramsModel", "nearer", "(I)I"⟩, 32) := ⟨⟨by decide +kernel, by decide +kernel⟩, List.mem_of_getElem? (i := 1078) (by decide +kernel), List.mem_of_getElem? (i := 1340) (by decide +kernel), List.mem_of_getElem? (i := 1341) (by decide +kernel)⟩
theorem lw_p66 : lw_okq (⟨"ArrowDiagramsModel", "layNames", "(I)I"⟩, 32) := ⟨⟨by decide +kernel, by decide +kernel⟩, List.mem_of_getElem? (i := 1078) (by decide +kernel), List.mem_of_getElem? (i := 1348) (by decide +kernel), List.mem_of_getElem? (i := 1349) (by decide +kernel)⟩
theorem lw_p67 : lw_okq (⟨"ArrowDiagramsModel", "pathNow", "(II)I"⟩, 32) := ⟨⟨by decide +kernel, by decide +kernel⟩, List.mem_of_getElem? (i := 1078) (by decide +kernel), List.mem_of_getElem? (i := 1352) (by decide +kernel), List.mem_of_getElem? (i := 1353) (by decide +kernel)⟩
theorem lw_p68 : lw_okq (⟨"ArrowDiagramsModel", "classSize", "(I)I"⟩, 32) := ⟨⟨by decide +kernel, by decide +kernel⟩, List.mem_of_getElem? (i := 1078) (by decide +kernel), List.mem_of_getElem? (i := 1356) (by decide +kernel), List.mem_of_getElem? (i := 1357) (by decide +kernel)⟩
theorem lw_p69 : lw_okq (⟨"ArrowDiagramsModel", "image", "(I)I"⟩, 32) := ⟨⟨by decide +kernel, by decide +kernel⟩, List.mem_of_getElem? (i := 1078) (by decide +kernel), List.mem_of_getElem? (i := 1360) (by decide +kernel), List.mem_of_getElem? (i := 1361) (by decide +kernel)⟩
theorem lw_p70 : lw_okq (⟨"ArrowDiagramsModel", "through", "(II)I"⟩, 32) := ⟨⟨by decide +kernel, by decide +kernel⟩, List.mem_of_getElem? (i := 1078) (by decide +kernel), List.mem_of_getElem? (i := 1364) (by decide +kernel), List.mem_of_getElem? (i := 1365) (by decide +kernel)⟩
theorem lw_p71 : lw_okq (⟨"ArrowDiagramsModel", "value", "(II)I"⟩, 32) := ⟨⟨by decide +kernel, by decide +kernel⟩, List.mem_of_getElem? (i := 1078) (by decide +kernel), List.mem_of_getElem? (i := 1368) (by decide +kernel), List.mem_of_getElem? (i := 1369) (by decide +kernel)⟩
theorem lw_p72 : lw_okq (⟨"ArrowDiagramsModel", "counted", "(IIZ)I"⟩, 32) := ⟨⟨by decide +kernel, by decide +kernel⟩, List.mem_of_getElem? (i := 1078) (by decide +kernel), List.mem_of_getElem? (i := 1380) (by decide +kernel), List.mem_of_getElem? (i := 1381) (by decide +kernel)⟩
theorem lw_p73 : lw_okq (⟨"ArrowDiagramsModel", "cellNow", "(II)I"⟩, 32) := ⟨⟨by decide +kernel, by decide +kernel⟩, List.mem_of_getElem? (i := 1078) (by decide +kernel), List.mem_of_getElem? (i := 1388) (by decide +kernel), List.mem_of_getElem? (i := 1389) (by decide +kernel)⟩
theorem lw_p74 : lw_okq (⟨"ArrowDiagramsModel", "sideOf", "(II)I"⟩, 32) := ⟨⟨by decide +kernel, by decide +kernel⟩, List.mem_of_getElem? (i := 1078) (by decide +kernel), List.mem_of_getElem? (i := 1392) (by decide +kernel), List.mem_of_getElem? (i := 1393) (by decide +kernel)⟩
theorem lw_p75 : lw_okq (⟨"ArrowDiagramsModel", "isRedundant", "(II)Z"⟩, 32) := ⟨⟨by decide +kernel, by decide +kernel⟩, List.mem_of_getElem? (i := 1078) (by decide +kernel), List.mem_of_getElem? (i := 1396) (by decide +kernel), List.mem_of_getElem? (i := 1397) (by decide +kernel)⟩
theorem lw_p76 : lw_okq (⟨"ArrowDiagramsModel", "areEqual", "(III)Z"⟩, 32) := ⟨⟨by decide +kernel, by decide +kernel⟩, List.mem_of_getElem? (i := 1078) (by decide +kernel), List.mem_of_getElem? (i := 1400) (by decide +kernel), List.mem_of_getElem? (i := 1401) (by decide +kernel)⟩
theorem lw_p77 : lw_okq (⟨"ArrowDiagramsModel", "core", "()I"⟩, 32) := ⟨⟨by decide +kernel, by decide +kernel⟩, List.mem_of_getElem? (i := 1078) (by decide +kernel), List.mem_of_getElem? (i := 1404) (by decide +kernel), List.mem_of_getElem? (i := 1405) (by decide +kernel)⟩
theorem lw_p78 : lw_okq (⟨"ArrowDiagramsModel", "holds", "(I)Z"⟩, 32) := ⟨⟨by decide +kernel, by decide +kernel⟩, List.mem_of_getElem? (i := 1078) (by decide +kernel), List.mem_of_getElem? (i := 1408) (by decide +kernel), List.mem_of_getElem? (i := 1409) (by decide +kernel)⟩
theorem lw_p79 : lw_okq (⟨"ArrowDiagramsModel", "areAlike", "(II)Z"⟩, 32) := ⟨⟨by decide +kernel, by decide +kernel⟩, List.mem_of_getElem? (i := 1078) (by decide +kernel), List.mem_of_getElem? (i := 1412) (by decide +kernel), List.mem_of_getElem? (i := 1413) (by decide +kernel)⟩
def lw_privs_5 : List (MethodName × Nat) := [(⟨"ArrowDiagramsModel", "stands", "(III)Z"⟩, 32), (⟨"ArrowDiagramsModel", "nearer", "(I)I"⟩, 32), (⟨"ArrowDiagramsModel", "layNames", "(I)I"⟩, 32), (⟨"ArrowDiagramsModel", "pathNow", "(II)I"⟩, 32), (⟨"ArrowDiagramsModel", "classSize", "(I)I"⟩, 32), (⟨"ArrowDiagramsModel", "image", "(I)I"⟩, 32), (⟨"ArrowDiagramsModel", "through", "(II)I"⟩, 32), (⟨"ArrowDiagramsModel", "value", "(II)I"⟩, 32), (⟨"ArrowDiagramsModel", "counted", "(IIZ)I"⟩, 32), (⟨"ArrowDiagramsModel", "cellNow", "(II)I"⟩, 32), (⟨"ArrowDiagramsModel", "sideOf", "(II)I"⟩, 32), (⟨"ArrowDiagramsModel", "isRedundant", "(II)Z"⟩, 32), (⟨"ArrowDiagramsModel", "areEqual", "(III)Z"⟩, 32), (⟨"ArrowDiagramsModel", "core", "()I"⟩, 32), (⟨"ArrowDiagramsModel", "holds", "(I)Z"⟩, 32), (⟨"ArrowDiagramsModel", "areAlike", "(II)Z"⟩, 32)]
theorem lw_r5 : ∀ q ∈ lw_privs_5, lw_okq q := List.forall_mem_cons.mpr ⟨lw_p64, List.forall_mem_cons.mpr ⟨lw_p65, List.forall_mem_cons.mpr ⟨lw_p66, List.forall_mem_cons.mpr ⟨lw_p67, List.forall_mem_cons.mpr ⟨lw_p68, List.forall_mem_cons.mpr ⟨lw_p69, List.forall_mem_cons.mpr ⟨lw_p70, List.forall_mem_cons.mpr ⟨lw_p71, List.forall_mem_cons.mpr ⟨lw_p72, List.forall_mem_cons.mpr ⟨lw_p73, List.forall_mem_cons.mpr ⟨lw_p74, List.forall_mem_cons.mpr ⟨lw_p75, List.forall_mem_cons.mpr ⟨lw_p76, List.forall_mem_cons.mpr ⟨lw_p77, List.forall_mem_cons.mpr ⟨lw_p78, List.forall_mem_cons.mpr ⟨lw_p79, fun _ h => absurd h List.not_mem_nil⟩⟩⟩⟩⟩⟩⟩⟩⟩⟩⟩⟩⟩⟩⟩⟩
theorem lw_p80 : lw_okq (⟨"ArrowDiagramsModel", "number", "(I)I"⟩, 32) := ⟨⟨by decide +kernel, by decide +kernel⟩, List.mem_of_getElem? (i := 1078) (by decide +kernel), List.mem_of_getElem? (i := 1420) (by decide +kernel), List.mem_of_getElem? (i := 1421) (by decide +kernel)⟩
theorem lw_p81 : lw_okq (⟨"ArrowDiagramsModel", "pairs", "(Z)I"⟩, 32) := ⟨⟨by decide +kernel, by decide +kernel⟩, List.mem_of_getElem? (i := 1078) (by decide +kernel), List.mem_of_getElem? (i := 1424) (by decide +kernel), List.mem_of_getElem? (i := 1425) (by decide +kernel)⟩
theorem lw_p82 : lw_okq (⟨"ArrowDiagramsModel", "holding", "()I"⟩, 32) := ⟨⟨by decide +kernel, by decide +kernel⟩, List.mem_of_getElem? (i := 1078) (by decide +kernel), List.mem_of_getElem? (i := 1428) (by decide +kernel), List.mem_of_getElem? (i := 1429) (by decide +kernel)⟩
theorem lw_p83 : lw_okq (⟨"ArrowDiagramsModel", "commutingNow", "()D"⟩, 32) := ⟨⟨by decide +kernel, by decide +kernel⟩, List.mem_of_getElem? (i := 1078) (by decide +kernel), List.mem_of_getElem? (i := 1439) (by decide +kernel), List.mem_of_getElem? (i := 1440) (by decide +kernel)⟩
theorem lw_p84 : lw_okq (⟨"ArrowDiagramsModel", "isCode", "(II)Z"⟩, 32) := ⟨⟨by decide +kernel, by decide +kernel⟩, List.mem_of_getElem? (i := 1078) (by decide +kernel), List.mem_of_getElem? (i := 1451) (by decide +kernel), List.mem_of_getElem? (i := 1452) (by decide +kernel)⟩
theorem lw_p85 : lw_okq (⟨"ArrowDiagramsModel", "separateNow", "(II)I"⟩, 32) := ⟨⟨by decide +kernel, by decide +kernel⟩, List.mem_of_getElem? (i := 1078) (by decide +kernel), List.mem_of_getElem? (i := 1477) (by decide +kernel), List.mem_of_getElem? (i := 1478) (by decide +kernel)⟩
theorem lw_p86 : lw_okq (⟨"ArrowDiagramsModel", "choose", "(I)V"⟩, 32) := ⟨⟨by decide +kernel, by decide +kernel⟩, List.mem_of_getElem? (i := 1078) (by decide +kernel), List.mem_of_getElem? (i := 1481) (by decide +kernel), List.mem_of_getElem? (i := 1482) (by decide +kernel)⟩
theorem lw_p87 : lw_okq (⟨"ArrowDiagramsModel", "hits", "(IIII)I"⟩, 32) := ⟨⟨by decide +kernel, by decide +kernel⟩, List.mem_of_getElem? (i := 1078) (by decide +kernel), List.mem_of_getElem? (i := 1489) (by decide +kernel), List.mem_of_getElem? (i := 1490) (by decide +kernel)⟩
theorem lw_p88 : lw_okq (⟨"ArrowDiagramsModel", "mix", "(J)V"⟩, 32) := ⟨⟨by decide +kernel, by decide +kernel⟩, List.mem_of_getElem? (i := 1078) (by decide +kernel), List.mem_of_getElem? (i := 1506) (by decide +kernel), List.mem_of_getElem? (i := 1507) (by decide +kernel)⟩
theorem lw_p89 : lw_okq (⟨"ArrowDiagramsModel", "mixCells", "()V"⟩, 32) := ⟨⟨by decide +kernel, by decide +kernel⟩, List.mem_of_getElem? (i := 1078) (by decide +kernel), List.mem_of_getElem? (i := 1511) (by decide +kernel), List.mem_of_getElem? (i := 1512) (by decide +kernel)⟩
theorem lw_p90 : lw_okq (⟨"ArrowDiagramsModel", "mixPaths", "()V"⟩, 32) := ⟨⟨by decide +kernel, by decide +kernel⟩, List.mem_of_getElem? (i := 1078) (by decide +kernel), List.mem_of_getElem? (i := 1515) (by decide +kernel), List.mem_of_getElem? (i := 1516) (by decide +kernel)⟩
def lw_privs_6 : List (MethodName × Nat) := [(⟨"ArrowDiagramsModel", "number", "(I)I"⟩, 32), (⟨"ArrowDiagramsModel", "pairs", "(Z)I"⟩, 32), (⟨"ArrowDiagramsModel", "holding", "()I"⟩, 32), (⟨"ArrowDiagramsModel", "commutingNow", "()D"⟩, 32), (⟨"ArrowDiagramsModel", "isCode", "(II)Z"⟩, 32), (⟨"ArrowDiagramsModel", "separateNow", "(II)I"⟩, 32), (⟨"ArrowDiagramsModel", "choose", "(I)V"⟩, 32), (⟨"ArrowDiagramsModel", "hits", "(IIII)I"⟩, 32), (⟨"ArrowDiagramsModel", "mix", "(J)V"⟩, 32), (⟨"ArrowDiagramsModel", "mixCells", "()V"⟩, 32), (⟨"ArrowDiagramsModel", "mixPaths", "()V"⟩, 32)]
theorem lw_r6 : ∀ q ∈ lw_privs_6, lw_okq q := List.forall_mem_cons.mpr ⟨lw_p80, List.forall_mem_cons.mpr ⟨lw_p81, List.forall_mem_cons.mpr ⟨lw_p82, List.forall_mem_cons.mpr ⟨lw_p83, List.forall_mem_cons.mpr ⟨lw_p84, List.forall_mem_cons.mpr ⟨lw_p85, List.forall_mem_cons.mpr ⟨lw_p86, List.forall_mem_cons.mpr ⟨lw_p87, List.forall_mem_cons.mpr ⟨lw_p88, List.forall_mem_cons.mpr ⟨lw_p89, List.forall_mem_cons.mpr ⟨lw_p90, fun _ h => absurd h List.not_mem_nil⟩⟩⟩⟩⟩⟩⟩⟩⟩⟩⟩
def lw_privs : List (MethodName × Nat) := lw_privs_1 ++ (lw_privs_2 ++ (lw_privs_3 ++ (lw_privs_4 ++ (lw_privs_5 ++ (lw_privs_6)))))
def lw_tbl : List Cond := k2_sels lw_privs ++ tables_1
theorem lw_privs_ok : ∀ q ∈ lw_privs, lw_okq q := by
  show ∀ q ∈ lw_privs_1 ++ (lw_privs_2 ++ (lw_privs_3 ++ (lw_privs_4 ++ (lw_privs_5 ++ (lw_privs_6))))), lw_okq q
  exact List.forall_mem_append.mpr ⟨lw_r1, List.forall_mem_append.mpr ⟨lw_r2, List.forall_mem_append.mpr ⟨lw_r3, List.forall_mem_append.mpr ⟨lw_r4, List.forall_mem_append.mpr ⟨lw_r5, lw_r6⟩⟩⟩⟩⟩
/-- the streams that the claim lets the run draw from -/
abbrev lw_cs : List Choice := [Jvm.Choice.named "NaN.bits"]
theorem lw_bits : nanBits ∈ lw_cs := by first | decide | exact List.mem_cons_self | simp [lw_cs, nanBits]
end
section
/-! ===== BEGIN words of one list among another's, by their places ===== -/
theorem goodIn_r {big : List Cond} (ws : List Cond) (ps : List Nat) (hp : ws = ps.filterMap (fun i => big[i]?)) (h : ws.all goodWord = true) : GoodIn big ws := by
  intro w hw
  have h1 := List.all_eq_true.mp h w hw
  rw [hp] at hw
  obtain ⟨i, -, hi⟩ := List.mem_filterMap.mp hw
  have hm : w ∈ big := by first | exact List.mem_of_getElem? hi | exact List.getElem?_mem hi
  exact ⟨hm, good_of_word h1⟩
theorem goodIn_app {big a b : List Cond} (ha : GoodIn big a) (hb : GoodIn big b) : GoodIn big (a ++ b) := fun w h => (List.mem_append.mp h).elim (ha w) (hb w)
theorem goodIn_ca {big a b : List Cond} {c : Cond} (ha : GoodIn big (c :: a)) (hb : GoodIn big b) : GoodIn big (c :: (a ++ b)) := fun w h => (List.mem_cons.mp h).elim (fun e => ha w (List.mem_cons.mpr (Or.inl e))) (fun h => (List.mem_append.mp h).elim (fun h => ha w (List.mem_cons.mpr (Or.inr h))) (hb w))
theorem goodIn_sub {big ws : List Cond} (hm : ∀ w ∈ ws, w ∈ big) (h : ws.all goodWord = true) : GoodIn big ws := fun w hw => ⟨hm w hw, good_of_word (List.all_eq_true.mp h w hw)⟩
/-! ===== END ===== -/

/-! ===== BEGIN exceptions that leave a method, and their catching by the caller (launches without stack traces) ===== -/
section VXA
/-! The laws vx_back, vx_callV, vx_callS, vx_callSW, vx_throw0, vx_throwS follow proofs of the library, with one case more: JvmDerived/Free/Laws.lean (Back.of_free), Shelf42/LK1.lean (callV, callS), Shelf/KitTraced.lean (throwNew0V, throwNewS). -/
/-- where a method has thrown q: the class by its name, the cell, what was written, the world -/
def vx_T (XC : String → State → State → Prop) (st : State) (q : Addr) (t : State) (mc ms : Nat) (free : Addr → Prop) : Prop :=
  ∃ (E : String) (ce : Cell) (L : List Loc), XC E st t ∧ t.heap[q]? = some ce ∧ ce.vm = .none ∧ st.vm.findClass E = some ce.cls ∧ st.WarmedH t.vm ∧ st.sameButNew ({ t with vm := st.vm } : State) L mc ms ∧ ∀ z ∈ L, free z.base
def vx_Q (Qc : Array Value → State → Outcome → State → Prop) (XC : String → State → State → Prop) (mc ms : Nat) (free : Addr → Prop) : Array Value → State → Outcome → State → Prop := fun a st o t =>
  (Qc a st o t ∧ ∃ L, FrameEnd st o t L mc ms ∧ ∀ q ∈ L, free q.base) ∨ ∃ q, o = .threw q ∧ vx_T XC st q t mc ms free
/-- a callee that returns or throws -/
def vx_Met (l : Launch) (y : MethodName) (ws : List Cond) (rm : Room) (Pc : Array Value → State → Prop) (Qc : Array Value → State → Outcome → State → Prop) (XC : String → State → State → Prop) (mc ms : Nat) (free : Addr → Prop) : Prop :=
  MetFree l y (headSpec ws rm) Pc (fun _ _ _ _ _ => True) (vx_Q Qc XC mc ms free)
def vx_Post (XC : String → State → State → Prop) (mc ms : Nat) (free : Addr → Prop) : Pt → Array Value → Addr → Pt → Prop := fun A a q B =>
  ∃ (g : JFrame) (mk : MethodId) (t : State) (L : List Loc) (E : String) (ce : Cell), B.U.heap = t.heap ∧ B.U.vm = t.vm ∧ XC E (A.U.calling g mk a) t ∧ t.heap[q]? = some ce ∧ ce.vm = .none ∧ A.U.vm.findClass E = some ce.cls ∧ B.locs = A.locs ++ L ∧ (∀ z ∈ L, free z.base) ∧ B.cells = A.cells + mc ∧ B.slots = A.slots + ms
def vx_Back (l : Launch) (R : Room) (p : Program) (e : Env) (below : List Frame) (s : State) (sargs : Array Value) (y : MethodName) (len W9 : Nat)
    (Pre : Pt → Array Value → Prop) (Post : Pt → Array Value → Option Value → Pt → Prop) (PostX : Pt → Array Value → Addr → Pt → Prop) : Prop :=
  ∀ (m : MethodId) (meth : Method) (c : Code) (A : Pt) (g : JFrame) (ig : Instr) (mk : MethodId) (a : Array Value),
    Stand p l e R s m sargs below meth c A.U A.locs A.cells A.slots → g.method = m → g.locals.size = c.maxLocals → decode c.code g.pc = .ok (ig, len) →
    2 * g.monitorRoom + (g.stack.map fun v => v.category).sum ≤ W9 → A.U.methodNamed? y = some mk → Pre A a →
    (∃ (v : Option Value) (B : Pt), Stand p l e R s m sargs below meth c B.U B.locs B.cells B.slots ∧ Post A a v B ∧
      Steps p.tables e below (doInvoke e (A.U.setTop g) [] mk a).1 (B.U.setTop { g with pc := g.pc + len, stack := v.toList ++ g.stack })) ∨
    (∃ (q : Addr) (B : Pt), Stand p l e R s m sargs below meth c B.U B.locs B.cells B.slots ∧ PostX A a q B ∧
      Steps p.tables e below (doInvoke e (A.U.setTop g) [] mk a).1 ((B.U.setTop g).pushFrame (.throwing q)))
section Payer
variable {l : Launch} {R : Room} {p : Program} {e : Env} {below : List Frame} {s : State} {sargs : Array Value} {y : MethodName} {len W9 : Nat}
theorem vx_back {ws : List Cond} {rm : Room} {Pc : Array Value → State → Prop} {Qc : Array Value → State → Outcome → State → Prop} {XC : String → State → State → Prop} {mc ms : Nat} {free : Addr → Prop} {bytes : ByteArray} {maxL : Nat} {ret : Option FieldType}
    (hM : vx_Met l y ws rm Pc Qc XC mc ms free) (hblind : FrameBlind Pc) (hrc : rm.cells = mc) (hrs : rm.slots = ms)
    (hframes : rm.frames + 1 ≤ R.frames) (hlocals : W9 + (maxL + 11) + rm.locals ≤ R.locals)
    (hws : ∀ w ∈ ws, ∀ a' U, s.WarmedH U.vm → w.before a' U = true) (hcode : Cond.code y bytes maxL ret ∈ ws) (hinit : ∀ a' U, s.WarmedH U.vm → (Cond.initialized y.cls).before a' U = true) :
    vx_Back l R p e below s sargs y len W9 (PreOf R mc ms Pc) (PostOf Qc mc ms free) (vx_Post XC mc ms free) := by
  intro m meth c A g ig mk a X hg hsize hdg hW hn hp
  have h1 : (headSpec ws rm).pre.before a A.U = true := atoms_intro fun w hw => hws w hw _ _ X.warmed
  have h2 : (Cond.code y bytes maxL ret).before a A.U = true := hws _ hcode _ _ X.warmed
  have h3 : (Cond.initialized y.cls).before a A.U = true := hinit _ _ X.warmed
  have h4 : A.cells + (headSpec ws rm).room.cells ≤ R.cells := by rw [show (headSpec ws rm).room.cells = mc from hrc]; exact hp.1
  have h5 : A.slots + (headSpec ws rm).room.slots ≤ R.slots := by rw [show (headSpec ws rm).room.slots = ms from hrs]; exact hp.2.1
  have hPc : Pc a (A.U.calling g mk a) := hblind _ _ _ _ hp.2.2
  obtain ⟨U, Ls, c0, s0⟩ := A
  dsimp only [Pt.U, Pt.locs, Pt.cells, Pt.slots] at h1 h2 h3 h4 h5 X hn hPc ⊢
  obtain ⟨methY, cY, hmY, hcY, -, hlY, -, -, -, -⟩ := Cond.code_spec hn h2
  obtain ⟨kY, hkY, -⟩ := className_of_methodNamed hn
  have hinitY : kY.init = .initialized := Cond.initialized_spec (findClass_of_methodNamed hn) hkY h3
  have h : At U g.method c below := by rw [hg]; exact X.here
  have hlocals9 : W9 + (maxL + 11) + (headSpec ws rm).room.locals ≤ R.locals := hlocals
  have happ : (headSpec ws rm).appliesLoose y e.platform (U.calling g mk a) = true :=
    Spec.appliesLoose_calling (g := g) h hdg hn hkY hinitY
      (X.room_calling (g := g) (R' := (headSpec ws rm).room) hsize hmY hcY hframes (by rw [hlY]; omega) h4 h5) h1
  obtain ⟨mid, hmid⟩ := h.above
  have hfr : (U.setTop g).frames = (.java g :: mid) ++ below := by rw [State.frames_setTop' g h.top, hmid]; rfl
  obtain ⟨o, s₂, hsteps, -, hend, hq⟩ := Steps.callFree hM p X.admits X.cas X.clock (acts := []) hfr happ hPc trivial
  have hq' : vx_Q Qc XC mc ms free a (U.calling g mk a) o s₂ := hq
  rw [State.frames_setTop' g h.top] at hend
  obtain ⟨g₀, hg0⟩ := Option.isSome_iff_exists.mp h.top
  obtain ⟨r, hr⟩ := State.topJava?_eq_some.mp hg0
  have hr' : (({ U with heap := s₂.heap, slotsUsed := s₂.slotsUsed } : State).setVm s₂.vm).frames = .java g₀ :: r := hr
  rcases hq' with ⟨hqc, L, hfe, hL⟩ | ⟨q, rfl, E, ce, L, hx, hce, hcv, hcl, hW₂, hsm, hL⟩
  · obtain ⟨⟨v, rfl⟩, hW₂, e2, q2, q3, q4, q5, q6⟩ := id hfe
    have e3 : s₂ = ({ (U.calling g mk a).setFrames s₂.frames with heap := s₂.heap, slotsUsed := s₂.slotsUsed } : State).setVm s₂.vm := by
      have : s₂ = ({ s₂ with vm := (U.calling g mk a).vm } : State).setVm s₂.vm := rfl
      rw [e2] at this
      exact this
    obtain ⟨c₂, i₂, len₂, hc₂, hd₂, hf₂⟩ := hend
    have hW' : U.WarmedH s₂.vm := hW₂
    have hcc : c₂ = c := by
      have h1 : s₂.code? g.method = U.code? g.method := by
        rw [State.code?_eq, State.code?_eq, hW'.alike.method?]
      exact Option.some.inj (hc₂.symm.trans (h1.trans h.code))
    subst hcc
    have hlen : len₂ = len := by rw [hdg] at hd₂; cases hd₂; rfl
    subst hlen
    have hs₂ : s₂ = (({ U with heap := s₂.heap, slotsUsed := s₂.slotsUsed } : State).setVm s₂.vm).setTop { g with pc := g.pc + len₂, stack := v.toList ++ g.stack } := by
      refine e3.trans ?_
      rw [hf₂, State.calling_eq h.top, State.setFrames_setFrames, State.setTop_of_frames _ hr', hr]
      rfl
    have hsame : U.sameButNew ({ U with heap := s₂.heap, slotsUsed := s₂.slotsUsed } : State) L mc ms := by
      refine ⟨?_, q2, q3, q4, q5, q6⟩
      obtain ⟨t, ht, -⟩ := State.frames_cons hr
      show ({ U with heap := s₂.heap, slotsUsed := s₂.slotsUsed } : State) = { U.setFrames U.frames with heap := s₂.heap, slotsUsed := s₂.slotsUsed }
      rw [State.setFrames_self ht]
    subst hg
    refine Or.inl ⟨v, ⟨(({ U with heap := s₂.heap, slotsUsed := s₂.slotsUsed } : State).setVm s₂.vm), Ls ++ L, c0 + mc, s0 + ms⟩,
      ⟨X.admits, X.cas, X.clock, X.frames, X.room, X.hears, X.method, X.code, (X.here.setHeapUsed s₂.heap s₂.slotsUsed).setVm hW'.alike, X.tail, State.WarmedH.trans X.warmed hW', X.limits, X.bytes, X.same.trans (hsame.setVm s.vm)⟩,
      ⟨g, mk, s₂, L, rfl, rfl, hqc, rfl, hL, rfl, rfl⟩, ?_⟩
    show Steps p.tables e below _ ((({ U with heap := s₂.heap, slotsUsed := s₂.slotsUsed } : State).setVm s₂.vm).setTop { g with pc := g.pc + len₂, stack := v.toList ++ g.stack })
    rw [← hs₂]
    exact hsteps
  · obtain ⟨e2, q2, q3, q4, q5, q6⟩ := id hsm
    have e3 : s₂ = ({ (U.calling g mk a).setFrames s₂.frames with heap := s₂.heap, slotsUsed := s₂.slotsUsed } : State).setVm s₂.vm := by
      have : s₂ = ({ s₂ with vm := (U.calling g mk a).vm } : State).setVm s₂.vm := rfl
      rw [e2] at this
      exact this
    have hf₂ : s₂.frames = .throwing q :: .java g :: U.frames.tail := hend
    have hW' : U.WarmedH s₂.vm := hW₂
    have hs₂ : s₂ = ((({ U with heap := s₂.heap, slotsUsed := s₂.slotsUsed } : State).setVm s₂.vm).setTop g).pushFrame (.throwing q) := by
      refine e3.trans ?_
      rw [hf₂, State.calling_eq h.top, State.setFrames_setFrames, State.pushFrame, State.frames_setTop _ hr', State.setTop_of_frames _ hr', State.setFrames_setFrames, hr]
      rfl
    have hsame : U.sameButNew ({ U with heap := s₂.heap, slotsUsed := s₂.slotsUsed } : State) L mc ms := by
      refine ⟨?_, q2, q3, q4, q5, q6⟩
      obtain ⟨t, ht, -⟩ := State.frames_cons hr
      show ({ U with heap := s₂.heap, slotsUsed := s₂.slotsUsed } : State) = { U.setFrames U.frames with heap := s₂.heap, slotsUsed := s₂.slotsUsed }
      rw [State.setFrames_self ht]
    subst hg
    refine Or.inr ⟨q, ⟨(({ U with heap := s₂.heap, slotsUsed := s₂.slotsUsed } : State).setVm s₂.vm), Ls ++ L, c0 + mc, s0 + ms⟩,
      ⟨X.admits, X.cas, X.clock, X.frames, X.room, X.hears, X.method, X.code, (X.here.setHeapUsed s₂.heap s₂.slotsUsed).setVm hW'.alike, X.tail, State.WarmedH.trans X.warmed hW', X.limits, X.bytes, X.same.trans (hsame.setVm s.vm)⟩,
      ⟨g, mk, s₂, L, E, ce, rfl, rfl, hx, hce, hcv, hcl, rfl, hL, rfl, rfl⟩, ?_⟩
    show Steps p.tables e below _ (((({ U with heap := s₂.heap, slotsUsed := s₂.slotsUsed } : State).setVm s₂.vm).setTop g).pushFrame (.throwing q))
    rw [← hs₂]
    exact hsteps
end Payer
section Calls
variable {p : Program} {l : Launch} {e : Env} {R : Room} {s : State} {m : MethodId} {args : Array Value} {below : List Frame} {meth : Method} {c : Code} {T : State} {locs : List Loc} {cells slots : Nat}
theorem vx_callV (X : Stand p l e R s m args below meth c T locs cells slots) (hexec : p.tables.exec = Jvm.exec) {own C : String} {index : Nat} {y : MethodName} {bytes : ByteArray} {maxL : Nat} {ret : Option FieldType}
    (hown : s.vm.findClass own = some m.cls) (hlink : (Cond.methodLink own index y).before args s = true) (hinst : (Cond.instanceMethod y).before args s = true) (hsel : (Cond.selects C y y).before args s = true)
    (hcode : (Cond.code y bytes maxL ret).before args s = true) (hy : y.cls ≠ "java/lang/invoke/MethodHandle" ∧ y.cls ≠ "java/lang/invoke/VarHandle")
    {W9 : Nat} {Pre : Pt → Array Value → Prop} {Post : Pt → Array Value → Option Value → Pt → Prop} {PostX : Pt → Array Value → Addr → Pt → Prop} (hK : vx_Back l R p e below s args y 3 W9 Pre Post PostX)
    {b : Addr} {cellB : Cell} (hcell : T.heap[b]? = some cellB) (hobj : cellB.vm.isStatics = false) (hcls : s.vm.findClass C = some cellB.cls)
    {g : JFrame} (hg : g.method = m) (hsize : g.locals.size = c.maxLocals) {argsL rest : List Value} (hlen : ∀ sig, parseMethodDescriptor y.desc = some sig → argsL.length = sig.parameters.length)
    (hstack : g.stack = argsL.reverse ++ .ref b :: rest) (hW : 2 * g.monitorRoom + (rest.map fun v => v.category).sum ≤ W9) (hdg : decode c.code g.pc = .ok (.invokevirtual index, 3))
    (hpre : ∀ vm₁, s.WarmedH vm₁ → Pre ⟨T.setVm vm₁, locs, cells, slots⟩ (Value.ref b :: argsL).toArray) :
    (∃ (v : Option Value) (vm₁ : Vm) (B : Pt), s.WarmedH vm₁ ∧ Stand p l e R s m args below meth c B.U B.locs B.cells B.slots ∧ Post ⟨T.setVm vm₁, locs, cells, slots⟩ (Value.ref b :: argsL).toArray v B ∧
      ∀ target, Steps p.tables e below (B.U.setTop { g with pc := g.pc + 3, stack := v.toList ++ rest }) target → Steps p.tables e below (T.setTop g) target) ∨
    (∃ (q : Addr) (vm₁ : Vm) (B : Pt), s.WarmedH vm₁ ∧ Stand p l e R s m args below meth c B.U B.locs B.cells B.slots ∧ PostX ⟨T.setVm vm₁, locs, cells, slots⟩ (Value.ref b :: argsL).toArray q B ∧
      Steps p.tables e below (T.setTop g) ((B.U.setTop { g with stack := rest }).pushFrame (.throwing q))) := by
  obtain ⟨mk, methM, hnamed, hmethM, hstM, habM⟩ := Cond.instanceMethod_spec hinst
  obtain ⟨methM', cM, hmethM', -, -, -, -, -, -, hsigM⟩ := Cond.code_spec hnamed hcode
  cases hmethM.symm.trans hmethM'
  obtain ⟨c2, r2, m2, q1, q2, q3, q4, kP, hkP, hkPi⟩ := Cond.selects_spec hsel
  cases hcls.symm.trans q1
  cases (State.methodFound?_of_named hnamed hy).symm.trans q2
  cases hnamed.symm.trans q3
  have hselP : selectMethod e.platform s.vm cellB.cls mk = .method mk := by rw [Launch.admits_selectMethod X.admits]; exact q4
  obtain ⟨vm₁, X₁, hstep₁⟩ := X.invokevirtual hexec hown hlink hnamed hmethM hstM hkP hkPi hy (a := b) (cell := cellB) hcell
    (fun z h => by rw [h] at hobj; cases hobj) hselP hmethM habM hkP hkPi (g := g) hg (argsL := argsL) (rest := rest) (hlen _ hsigM) hstack hdg
  rcases hK m meth c ⟨T.setVm vm₁, locs, cells, slots⟩ { g with stack := rest } (.invokevirtual index) mk (Value.ref b :: argsL).toArray X₁ hg hsize hdg hW (X₁.named hnamed) (hpre vm₁ X₁.warmed) with ⟨v, B, X', hpost, hsteps⟩ | ⟨q, B, X', hpost, hsteps⟩
  · exact Or.inl ⟨v, vm₁, B, X₁.warmed, X', hpost, fun target h => hstep₁ _ fun acts => by rw [doInvoke_state]; exact hsteps.trans h⟩
  · exact Or.inr ⟨q, vm₁, B, X₁.warmed, X', hpost, hstep₁ _ fun acts => by rw [doInvoke_state]; exact hsteps⟩
theorem vx_callS (X : Stand p l e R s m args below meth c T locs cells slots) (hexec : p.tables.exec = Jvm.exec) {own : String} {index : Nat} {y : MethodName} {bytes : ByteArray} {maxL : Nat} {ret : Option FieldType}
    (hown : s.vm.findClass own = some m.cls) (hlink : (Cond.methodLink own index y).before args s = true) (hstat : (Cond.static y).before args s = true) (hinit : (Cond.initialized y.cls).before args s = true)
    (hcode : (Cond.code y bytes maxL ret).before args s = true) (hy : y.cls ≠ "java/lang/invoke/MethodHandle" ∧ y.cls ≠ "java/lang/invoke/VarHandle")
    {W9 : Nat} {Pre : Pt → Array Value → Prop} {Post : Pt → Array Value → Option Value → Pt → Prop} {PostX : Pt → Array Value → Addr → Pt → Prop} (hK : vx_Back l R p e below s args y 3 W9 Pre Post PostX)
    {g : JFrame} (hg : g.method = m) (hsize : g.locals.size = c.maxLocals) {argsL rest : List Value} (hlen : ∀ sig, parseMethodDescriptor y.desc = some sig → argsL.length = sig.parameters.length)
    (hstack : g.stack = argsL.reverse ++ rest) (hW : 2 * g.monitorRoom + (rest.map fun v => v.category).sum ≤ W9) (hdg : decode c.code g.pc = .ok (.invokestatic index, 3))
    (hpre : ∀ vm₁, s.WarmedH vm₁ → Pre ⟨T.setVm vm₁, locs, cells, slots⟩ argsL.toArray) :
    (∃ (v : Option Value) (vm₁ : Vm) (B : Pt), s.WarmedH vm₁ ∧ Stand p l e R s m args below meth c B.U B.locs B.cells B.slots ∧ Post ⟨T.setVm vm₁, locs, cells, slots⟩ argsL.toArray v B ∧
      ∀ target, Steps p.tables e below (B.U.setTop { g with pc := g.pc + 3, stack := v.toList ++ rest }) target → Steps p.tables e below (T.setTop g) target) ∨
    (∃ (q : Addr) (vm₁ : Vm) (B : Pt), s.WarmedH vm₁ ∧ Stand p l e R s m args below meth c B.U B.locs B.cells B.slots ∧ PostX ⟨T.setVm vm₁, locs, cells, slots⟩ argsL.toArray q B ∧
      Steps p.tables e below (T.setTop g) ((B.U.setTop { g with stack := rest }).pushFrame (.throwing q))) := by
  obtain ⟨mk, hnamed⟩ := Cond.code_named hcode
  obtain ⟨methM, cM, hmethM, -, -, -, -, -, -, hsigM⟩ := Cond.code_spec hnamed hcode
  have hstatic : methM.isStatic = true := Cond.static_spec hnamed hmethM hstat
  obtain ⟨kP, hkP, -⟩ := className_of_methodNamed hnamed
  have hinitP : kP.init = .initialized := Cond.initialized_spec (findClass_of_methodNamed hnamed) hkP hinit
  obtain ⟨vm₁, X₁, hstep₁⟩ := X.invokestatic hexec hown hlink hnamed hmethM hstatic hkP hinitP hy (g := g) hg (argsL := argsL) (rest := rest) (hlen _ hsigM) hstack hdg
  rcases hK m meth c ⟨T.setVm vm₁, locs, cells, slots⟩ { g with stack := rest } (.invokestatic index) mk argsL.toArray X₁ hg hsize hdg hW (X₁.named hnamed) (hpre vm₁ X₁.warmed) with ⟨v, B, X', hpost, hsteps⟩ | ⟨q, B, X', hpost, hsteps⟩
  · exact Or.inl ⟨v, vm₁, B, X₁.warmed, X', hpost, fun target h => hstep₁ _ fun acts => by rw [doInvoke_state]; exact hsteps.trans h⟩
  · exact Or.inr ⟨q, vm₁, B, X₁.warmed, X', hpost, hstep₁ _ fun acts => by rw [doInvoke_state]; exact hsteps⟩
end Calls
theorem vx_cls {s : State} {T : State} {vm₁ : Vm} {E : String} {k : ClassId} (hW : s.WarmedH vm₁) (h : (T.setVm vm₁).vm.findClass E = some k) : s.vm.findClass E = some k := by
  have h1 : vm₁.findClass E = some k := h
  rw [hW.alike.findClass] at h1
  exact h1
/-- the method's frame g, with q thrown over it -/
def vx_W (p : Program) (l : Launch) (e : Env) (R : Room) (s : State) (m : MethodId) (args : Array Value) (below : List Frame) (meth : Method) (c : Code) (H : Heap) (locs : List Loc) (cells slots : Nat) (Q : State → Prop) (g : JFrame) (q : Addr) : Prop :=
  ∀ T : State, T.heap = H → Stand p l e R s m args below meth c T locs cells slots → ∃ t, Steps p.tables e below ((T.setTop g).pushFrame (.throwing q)) t ∧ Q t
def vx_Run (p : Program) (l : Launch) (e : Env) (R : Room) (s : State) (m : MethodId) (args : Array Value) (below : List Frame) (meth : Method) (c : Code) (H : Heap) (locs : List Loc) (cells slots mc ms : Nat) (g : JFrame) (rest : List Value) (Qa : State → Outcome → State → Prop) (XC : String → State → State → Prop) (free : Addr → Prop) : Prop :=
  ∀ T : State, T.heap = H → Stand p l e R s m args below meth c T locs cells slots →
    (∃ (v : Option Value) (st₀ t T' : State) (L : List Loc), st₀.heap = H ∧ Stand p l e R s m args below meth c T' (locs ++ L) (cells + mc) (slots + ms) ∧ (∀ q ∈ L, free q.base) ∧ T'.heap = t.heap ∧ T'.vm = t.vm ∧ Qa st₀ (.returned v) t ∧
      Goes p e below T g T' { g with pc := g.pc + 3, stack := v.toList ++ rest }) ∨
    (∃ (q : Addr) (st₀ t T' : State) (L : List Loc) (E : String) (ce : Cell), st₀.heap = H ∧ Stand p l e R s m args below meth c T' (locs ++ L) (cells + mc) (slots + ms) ∧ (∀ z ∈ L, free z.base) ∧ T'.heap = t.heap ∧ T'.vm = t.vm ∧ XC E st₀ t ∧ t.heap[q]? = some ce ∧ ce.vm = .none ∧ s.vm.findClass E = some ce.cls ∧
      Steps p.tables e below (T.setTop g) ((T'.setTop { g with stack := rest }).pushFrame (.throwing q)))
def vx_X {S : Type} (px : S → Prop) (B : String → S → State → Prop) (A : Nat → Prop) : String → State → State → Prop := fun E st t => ∃ u : S, px u ∧ B E u t ∧ va_F A st t
section Runs
variable {p : Program} {l : Launch} {e : Env} {R : Room} {s : State} {m : MethodId} {args : Array Value} {below : List Frame} {meth : Method} {c : Code} {H : Heap} {locs : List Loc} {cells slots : Nat}
variable {y : MethodName} {bytes cc : ByteArray} {maxL nL mc ms n index : Nat} {ret : Option FieldType} {ws : List Cond} {rm : Room} {Pc : Array Value → State → Prop} {Qc : Array Value → State → Outcome → State → Prop} {XC : String → State → State → Prop} {free : Addr → Prop} {Ts : List Cond} {own C : String} {b : Addr} {As rest : List Value} {g : JFrame}
theorem vx_callBack (cb : CallB R s args own index y bytes maxL ret ws rm mc ms n) (hM : vx_Met l y ws rm Pc Qc XC mc ms free) (hbl : FrameBlind Pc) : vx_Back l R p e below s args y 3 8 (PreOf R mc ms Pc) (PostOf Qc mc ms free) (vx_Post XC mc ms free) := by
  obtain ⟨hrc, hrs, hfr, hlo, hws, hcw, -, hini, -⟩ := cb
  exact vx_back (bytes := bytes) (maxL := maxL) (ret := ret) hM hbl hrc hrs hfr hlo hws hcw (fun a' U hW => word_at hW (Or.inl (by first | rfl | simp [Cond.onTables, Cond.keeps, Cond.steady])) hini)
theorem vx_runV (S : CallFix p m c cc nL s args Ts own) (hM : vx_Met l y ws rm Pc Qc XC mc ms free) (cw : CallW R s args own C index y bytes maxL ret ws rm mc ms n) (hp : PreV s H C b Pc As)
    (hg : g.method = m) (hn : As.length = n) (hsize : g.locals.size = nL) (hstack : g.stack = As.reverse ++ .ref b :: rest) (hW : 2 * g.monitorRoom + (rest.map fun v => v.category).sum ≤ 8) (hdg : decode cc g.pc = .ok (.invokevirtual index, 3)) (hf : cells + mc ≤ R.cells ∧ slots + ms ≤ R.slots) :
    vx_Run p l e R s m args below meth c H locs cells slots mc ms g rest (Qc (Value.ref b :: As).toArray) XC free := by
  have hK : vx_Back l R p e below s args y 3 8 (PreOf R mc ms Pc) (PostOf Qc mc ms free) (vx_Post XC mc ms free) := vx_callBack cw.1 hM hp.1
  obtain ⟨⟨-, -, -, -, -, -, hcode, -, hy, hlen, hl⟩, hin, hse⟩ := cw
  obtain ⟨hx, hb, hml, ho, -⟩ := S
  obtain ⟨-, ⟨cellB, hcB, hoB, hclB⟩, hPc⟩ := hp
  intro T hT X
  rcases vx_callV X hx (C := C) (bytes := bytes) (maxL := maxL) (ret := ret) ho hl hin hse hcode hy hK (by rw [hT]; exact hcB) hoB hclB hg (hsize.trans hml.symm) (argsL := As) (rest := rest) (fun sig h => hn.trans (hlen sig h)) hstack hW (by rw [hb]; exact hdg)
    (fun vm₁ hW₁ => ⟨hf.1, hf.2, hPc (T.setVm vm₁) hT hW₁⟩) with ⟨v, vm₁, ⟨U', l2, c2, s2⟩, hW₁, X', ⟨g', mk, t, L, e1, e2, hq, h1, hL, h2, h3⟩, st⟩ | ⟨q, vm₁, ⟨U', l2, c2, s2⟩, hW₁, X', ⟨g', mk, t, L, E, ce, e1, e2, hq, hce, hcv, hcl, h1, hL, h2, h3⟩, st⟩
  · dsimp only [Pt.U, Pt.locs, Pt.cells, Pt.slots] at X' e1 e2 h1 h2 h3 st
    subst h1; subst h2; subst h3
    exact Or.inl ⟨v, (T.setVm vm₁).calling g' mk (Value.ref b :: As).toArray, t, U', L, hT, X', hL, e1, e2, hq, st⟩
  · dsimp only [Pt.U, Pt.locs, Pt.cells, Pt.slots] at X' e1 e2 h1 h2 h3 st hcl
    subst h1; subst h2; subst h3
    exact Or.inr ⟨q, (T.setVm vm₁).calling g' mk (Value.ref b :: As).toArray, t, U', L, E, ce, hT, X', hL, e1, e2, hq, hce, hcv, vx_cls hW₁ hcl, st⟩
theorem vx_runS (S : CallFix p m c cc nL s args Ts own) (hM : vx_Met l y ws rm Pc Qc XC mc ms free) (cw : CallB R s args own index y bytes maxL ret ws rm mc ms n ∧ (Cond.static y).before args s = true) (hp : PreS s H Pc As)
    (hg : g.method = m) (hn : As.length = n) (hsize : g.locals.size = nL) (hstack : g.stack = As.reverse ++ rest) (hW : 2 * g.monitorRoom + (rest.map fun v => v.category).sum ≤ 8) (hdg : decode cc g.pc = .ok (.invokestatic index, 3)) (hf : cells + mc ≤ R.cells ∧ slots + ms ≤ R.slots) :
    vx_Run p l e R s m args below meth c H locs cells slots mc ms g rest (Qc As.toArray) XC free := by
  have hK : vx_Back l R p e below s args y 3 8 (PreOf R mc ms Pc) (PostOf Qc mc ms free) (vx_Post XC mc ms free) := vx_callBack cw.1 hM hp.1
  obtain ⟨⟨-, -, -, -, -, -, hcode, hini, hy, hlen, hl⟩, hstt⟩ := cw
  obtain ⟨hx, hb, hml, ho, -⟩ := S
  intro T hT X
  rcases vx_callS X hx (bytes := bytes) (maxL := maxL) (ret := ret) ho hl hstt hini hcode hy hK hg (hsize.trans hml.symm) (argsL := As) (rest := rest) (fun sig h => hn.trans (hlen sig h)) hstack hW (by rw [hb]; exact hdg)
    (fun vm₁ hW₁ => ⟨hf.1, hf.2, hp.2 (T.setVm vm₁) hT hW₁⟩) with ⟨v, vm₁, ⟨U', l2, c2, s2⟩, hW₁, X', ⟨g', mk, t, L, e1, e2, hq, h1, hL, h2, h3⟩, st⟩ | ⟨q, vm₁, ⟨U', l2, c2, s2⟩, hW₁, X', ⟨g', mk, t, L, E, ce, e1, e2, hq, hce, hcv, hcl, h1, hL, h2, h3⟩, st⟩
  · dsimp only [Pt.U, Pt.locs, Pt.cells, Pt.slots] at X' e1 e2 h1 h2 h3 st
    subst h1; subst h2; subst h3
    exact Or.inl ⟨v, (T.setVm vm₁).calling g' mk As.toArray, t, U', L, hT, X', hL, e1, e2, hq, st⟩
  · dsimp only [Pt.U, Pt.locs, Pt.cells, Pt.slots] at X' e1 e2 h1 h2 h3 st hcl
    subst h1; subst h2; subst h3
    exact Or.inr ⟨q, (T.setVm vm₁).calling g' mk As.toArray, t, U', L, E, ce, hT, X', hL, e1, e2, hq, hce, hcv, vx_cls hW₁ hcl, st⟩
end Runs
section Rows
variable {p : Program} {l : Launch} {e : Env} {R : Room} {s : State} {m : MethodId} {args : Array Value} {below : List Frame} {meth : Method} {c : Code} {H : Heap} {locs : List Loc} {cells slots : Nat} {Q : State → Prop}
variable {mc ms : Nat} {free : Addr → Prop} {A0 A1 : Nat → Prop} {H0 : Heap} {a : Array Value} {pc : Nat} {ls : Array Slot} {st0 rest : List Value}
theorem vx_keep {st₀ t T' : State} {L : List Loc} (h0 : st₀.heap = H) (e1 : T'.heap = t.heap) (hS : va_S A0 H0 H locs) (hA : ∀ q, q < H.size → A1 q → A0 q) (hf : ∀ q, free q → A0 q) (hL : ∀ q ∈ L, free q.base) (hF : va_F A1 st₀ t) :
    H.size ≤ T'.heap.size ∧ (∀ q : Nat, q < H.size → ¬ A1 q → T'.heap[q]? = H[q]?) ∧ va_S A0 H0 T'.heap (locs ++ L) := by
  obtain ⟨hz, hk⟩ := hF
  rw [h0] at hz hk
  exact ⟨by rw [e1]; exact hz, fun q h1 h2 => by rw [e1]; exact hk q h1 h2,
    ⟨Nat.le_trans hS.1 (by rw [e1]; exact hz), fun q h1 h2 => by rw [e1, hk q (Nat.lt_of_lt_of_le h1 hS.1) (fun z => h2 (hA q (Nat.lt_of_lt_of_le h1 hS.1) z))]; exact hS.2.1 q h1 h2, fun q hq => by
      rcases List.mem_append.mp hq with h | h
      · exact hS.2.2 q h
      · exact hf _ (hL q h)⟩⟩
theorem vx_calli {S SX : Type} {post : Int32 → S → Prop} {px : SX → Prop} {B : S → State → Prop} {BX : String → SX → State → Prop} {AX : Nat → Prop} (hr : vx_Run p l e R s m args below meth c H locs cells slots mc ms (F0 m pc ls st0) rest (va_Qi post B A1 a) (vx_X px BX AX) free) (hS : va_S A0 H0 H locs) (hA : ∀ q, q < H.size → A1 q → A0 q) (hf : ∀ q, free q → A0 q) (hAX : ∀ q, q < H.size → AX q → A0 q)
    (kx : ∀ (E : String) (ce : Cell) (q9 : Addr) (u : SX) (t : State) (H1 : Heap) (locs1 : List Loc), t.heap = H1 → s.vm.Alike t.vm → px u → BX E u t → H.size ≤ H1.size → (∀ q : Nat, q < H.size → ¬ AX q → H1[q]? = H[q]?) → va_S A0 H0 H1 locs1 → H1[q9]? = some ce → ce.vm = .none → s.vm.findClass E = some ce.cls → vx_W p l e R s m args below meth c H1 locs1 (cells + mc) (slots + ms) Q (F0 m pc ls rest) q9)
    (kk : ∀ (r : Int32) (u : S) (t : State) (H1 : Heap) (locs1 : List Loc), t.heap = H1 → s.vm.Alike t.vm → post r u → B u t → H.size ≤ H1.size → (∀ q : Nat, q < H.size → ¬ A1 q → H1[q]? = H[q]?) → va_S A0 H0 H1 locs1 → W p l e R s m args below meth c H1 locs1 (cells + mc) (slots + ms) Q (F0 m (pc + 3) ls (.int r :: rest))) : W p l e R s m args below meth c H locs cells slots Q (F0 m pc ls st0) := by
  intro T hT X
  rcases hr T hT X with ⟨v, st₀, t, T', L, h0, X', hL, e1, e2, ⟨⟨r, u, hv, hp, hb⟩, hF⟩, st⟩ | ⟨q, st₀, t, T', L, E, ce, h0, X', hL, e1, e2, ⟨u, hp, hb, hF⟩, hce, hcv, hcl, st⟩
  · cases hv
    obtain ⟨k1, k2, k3⟩ := vx_keep h0 e1 hS hA hf hL hF
    obtain ⟨t2, a1, b1⟩ := kk r u t T'.heap (locs ++ L) e1.symm (by rw [← e2]; exact X'.warmed.alike) hp hb k1 k2 k3 T' rfl X'
    exact ⟨t2, st t2 a1, b1⟩
  · obtain ⟨k1, k2, k3⟩ := vx_keep h0 e1 hS hAX hf hL hF
    obtain ⟨t2, a1, b1⟩ := kx E ce q u t T'.heap (locs ++ L) e1.symm (by rw [← e2]; exact X'.warmed.alike) hp hb k1 k2 k3 (by rw [e1]; exact hce) hcv hcl T' rfl X'
    exact ⟨t2, st.trans a1, b1⟩
theorem vx_calll {S SX : Type} {post : Int64 → S → Prop} {px : SX → Prop} {B : S → State → Prop} {BX : String → SX → State → Prop} {AX : Nat → Prop} (hr : vx_Run p l e R s m args below meth c H locs cells slots mc ms (F0 m pc ls st0) rest (va_Ql post B A1 a) (vx_X px BX AX) free) (hS : va_S A0 H0 H locs) (hA : ∀ q, q < H.size → A1 q → A0 q) (hf : ∀ q, free q → A0 q) (hAX : ∀ q, q < H.size → AX q → A0 q)
    (kx : ∀ (E : String) (ce : Cell) (q9 : Addr) (u : SX) (t : State) (H1 : Heap) (locs1 : List Loc), t.heap = H1 → s.vm.Alike t.vm → px u → BX E u t → H.size ≤ H1.size → (∀ q : Nat, q < H.size → ¬ AX q → H1[q]? = H[q]?) → va_S A0 H0 H1 locs1 → H1[q9]? = some ce → ce.vm = .none → s.vm.findClass E = some ce.cls → vx_W p l e R s m args below meth c H1 locs1 (cells + mc) (slots + ms) Q (F0 m pc ls rest) q9)
    (kk : ∀ (r : Int64) (u : S) (t : State) (H1 : Heap) (locs1 : List Loc), t.heap = H1 → s.vm.Alike t.vm → post r u → B u t → H.size ≤ H1.size → (∀ q : Nat, q < H.size → ¬ A1 q → H1[q]? = H[q]?) → va_S A0 H0 H1 locs1 → W p l e R s m args below meth c H1 locs1 (cells + mc) (slots + ms) Q (F0 m (pc + 3) ls (.long r :: rest))) : W p l e R s m args below meth c H locs cells slots Q (F0 m pc ls st0) := by
  intro T hT X
  rcases hr T hT X with ⟨v, st₀, t, T', L, h0, X', hL, e1, e2, ⟨⟨r, u, hv, hp, hb⟩, hF⟩, st⟩ | ⟨q, st₀, t, T', L, E, ce, h0, X', hL, e1, e2, ⟨u, hp, hb, hF⟩, hce, hcv, hcl, st⟩
  · cases hv
    obtain ⟨k1, k2, k3⟩ := vx_keep h0 e1 hS hA hf hL hF
    obtain ⟨t2, a1, b1⟩ := kk r u t T'.heap (locs ++ L) e1.symm (by rw [← e2]; exact X'.warmed.alike) hp hb k1 k2 k3 T' rfl X'
    exact ⟨t2, st t2 a1, b1⟩
  · obtain ⟨k1, k2, k3⟩ := vx_keep h0 e1 hS hAX hf hL hF
    obtain ⟨t2, a1, b1⟩ := kx E ce q u t T'.heap (locs ++ L) e1.symm (by rw [← e2]; exact X'.warmed.alike) hp hb k1 k2 k3 (by rw [e1]; exact hce) hcv hcl T' rfl X'
    exact ⟨t2, st.trans a1, b1⟩
theorem vx_callf {S SX : Type} {post : UInt32 → S → Prop} {px : SX → Prop} {B : S → State → Prop} {BX : String → SX → State → Prop} {AX : Nat → Prop} (hr : vx_Run p l e R s m args below meth c H locs cells slots mc ms (F0 m pc ls st0) rest (va_Qf post B A1 a) (vx_X px BX AX) free) (hS : va_S A0 H0 H locs) (hA : ∀ q, q < H.size → A1 q → A0 q) (hf : ∀ q, free q → A0 q) (hAX : ∀ q, q < H.size → AX q → A0 q)
    (kx : ∀ (E : String) (ce : Cell) (q9 : Addr) (u : SX) (t : State) (H1 : Heap) (locs1 : List Loc), t.heap = H1 → s.vm.Alike t.vm → px u → BX E u t → H.size ≤ H1.size → (∀ q : Nat, q < H.size → ¬ AX q → H1[q]? = H[q]?) → va_S A0 H0 H1 locs1 → H1[q9]? = some ce → ce.vm = .none → s.vm.findClass E = some ce.cls → vx_W p l e R s m args below meth c H1 locs1 (cells + mc) (slots + ms) Q (F0 m pc ls rest) q9)
    (kk : ∀ (r : UInt32) (u : S) (t : State) (H1 : Heap) (locs1 : List Loc), t.heap = H1 → s.vm.Alike t.vm → post r u → B u t → H.size ≤ H1.size → (∀ q : Nat, q < H.size → ¬ A1 q → H1[q]? = H[q]?) → va_S A0 H0 H1 locs1 → W p l e R s m args below meth c H1 locs1 (cells + mc) (slots + ms) Q (F0 m (pc + 3) ls (.float r :: rest))) : W p l e R s m args below meth c H locs cells slots Q (F0 m pc ls st0) := by
  intro T hT X
  rcases hr T hT X with ⟨v, st₀, t, T', L, h0, X', hL, e1, e2, ⟨⟨r, u, hv, hp, hb⟩, hF⟩, st⟩ | ⟨q, st₀, t, T', L, E, ce, h0, X', hL, e1, e2, ⟨u, hp, hb, hF⟩, hce, hcv, hcl, st⟩
  · cases hv
    obtain ⟨k1, k2, k3⟩ := vx_keep h0 e1 hS hA hf hL hF
    obtain ⟨t2, a1, b1⟩ := kk r u t T'.heap (locs ++ L) e1.symm (by rw [← e2]; exact X'.warmed.alike) hp hb k1 k2 k3 T' rfl X'
    exact ⟨t2, st t2 a1, b1⟩
  · obtain ⟨k1, k2, k3⟩ := vx_keep h0 e1 hS hAX hf hL hF
    obtain ⟨t2, a1, b1⟩ := kx E ce q u t T'.heap (locs ++ L) e1.symm (by rw [← e2]; exact X'.warmed.alike) hp hb k1 k2 k3 (by rw [e1]; exact hce) hcv hcl T' rfl X'
    exact ⟨t2, st.trans a1, b1⟩
theorem vx_calld {S SX : Type} {post : UInt64 → S → Prop} {px : SX → Prop} {B : S → State → Prop} {BX : String → SX → State → Prop} {AX : Nat → Prop} (hr : vx_Run p l e R s m args below meth c H locs cells slots mc ms (F0 m pc ls st0) rest (va_Qd post B A1 a) (vx_X px BX AX) free) (hS : va_S A0 H0 H locs) (hA : ∀ q, q < H.size → A1 q → A0 q) (hf : ∀ q, free q → A0 q) (hAX : ∀ q, q < H.size → AX q → A0 q)
    (kx : ∀ (E : String) (ce : Cell) (q9 : Addr) (u : SX) (t : State) (H1 : Heap) (locs1 : List Loc), t.heap = H1 → s.vm.Alike t.vm → px u → BX E u t → H.size ≤ H1.size → (∀ q : Nat, q < H.size → ¬ AX q → H1[q]? = H[q]?) → va_S A0 H0 H1 locs1 → H1[q9]? = some ce → ce.vm = .none → s.vm.findClass E = some ce.cls → vx_W p l e R s m args below meth c H1 locs1 (cells + mc) (slots + ms) Q (F0 m pc ls rest) q9)
    (kk : ∀ (r : UInt64) (u : S) (t : State) (H1 : Heap) (locs1 : List Loc), t.heap = H1 → s.vm.Alike t.vm → post r u → B u t → H.size ≤ H1.size → (∀ q : Nat, q < H.size → ¬ A1 q → H1[q]? = H[q]?) → va_S A0 H0 H1 locs1 → W p l e R s m args below meth c H1 locs1 (cells + mc) (slots + ms) Q (F0 m (pc + 3) ls (.double r :: rest))) : W p l e R s m args below meth c H locs cells slots Q (F0 m pc ls st0) := by
  intro T hT X
  rcases hr T hT X with ⟨v, st₀, t, T', L, h0, X', hL, e1, e2, ⟨⟨r, u, hv, hp, hb⟩, hF⟩, st⟩ | ⟨q, st₀, t, T', L, E, ce, h0, X', hL, e1, e2, ⟨u, hp, hb, hF⟩, hce, hcv, hcl, st⟩
  · cases hv
    obtain ⟨k1, k2, k3⟩ := vx_keep h0 e1 hS hA hf hL hF
    obtain ⟨t2, a1, b1⟩ := kk r u t T'.heap (locs ++ L) e1.symm (by rw [← e2]; exact X'.warmed.alike) hp hb k1 k2 k3 T' rfl X'
    exact ⟨t2, st t2 a1, b1⟩
  · obtain ⟨k1, k2, k3⟩ := vx_keep h0 e1 hS hAX hf hL hF
    obtain ⟨t2, a1, b1⟩ := kx E ce q u t T'.heap (locs ++ L) e1.symm (by rw [← e2]; exact X'.warmed.alike) hp hb k1 k2 k3 (by rw [e1]; exact hce) hcv hcl T' rfl X'
    exact ⟨t2, st.trans a1, b1⟩
theorem vx_callv {S SX : Type} {post : S → Prop} {px : SX → Prop} {B : S → State → Prop} {BX : String → SX → State → Prop} {AX : Nat → Prop} (hr : vx_Run p l e R s m args below meth c H locs cells slots mc ms (F0 m pc ls st0) rest (va_Qv post B A1 a) (vx_X px BX AX) free) (hS : va_S A0 H0 H locs) (hA : ∀ q, q < H.size → A1 q → A0 q) (hf : ∀ q, free q → A0 q) (hAX : ∀ q, q < H.size → AX q → A0 q)
    (kx : ∀ (E : String) (ce : Cell) (q9 : Addr) (u : SX) (t : State) (H1 : Heap) (locs1 : List Loc), t.heap = H1 → s.vm.Alike t.vm → px u → BX E u t → H.size ≤ H1.size → (∀ q : Nat, q < H.size → ¬ AX q → H1[q]? = H[q]?) → va_S A0 H0 H1 locs1 → H1[q9]? = some ce → ce.vm = .none → s.vm.findClass E = some ce.cls → vx_W p l e R s m args below meth c H1 locs1 (cells + mc) (slots + ms) Q (F0 m pc ls rest) q9)
    (kk : ∀ (u : S) (t : State) (H1 : Heap) (locs1 : List Loc), t.heap = H1 → s.vm.Alike t.vm → post u → B u t → H.size ≤ H1.size → (∀ q : Nat, q < H.size → ¬ A1 q → H1[q]? = H[q]?) → va_S A0 H0 H1 locs1 → W p l e R s m args below meth c H1 locs1 (cells + mc) (slots + ms) Q (F0 m (pc + 3) ls (rest))) : W p l e R s m args below meth c H locs cells slots Q (F0 m pc ls st0) := by
  intro T hT X
  rcases hr T hT X with ⟨v, st₀, t, T', L, h0, X', hL, e1, e2, ⟨⟨u, hv, hp, hb⟩, hF⟩, st⟩ | ⟨q, st₀, t, T', L, E, ce, h0, X', hL, e1, e2, ⟨u, hp, hb, hF⟩, hce, hcv, hcl, st⟩
  · cases hv
    obtain ⟨k1, k2, k3⟩ := vx_keep h0 e1 hS hA hf hL hF
    obtain ⟨t2, a1, b1⟩ := kk u t T'.heap (locs ++ L) e1.symm (by rw [← e2]; exact X'.warmed.alike) hp hb k1 k2 k3 T' rfl X'
    exact ⟨t2, st t2 a1, b1⟩
  · obtain ⟨k1, k2, k3⟩ := vx_keep h0 e1 hS hAX hf hL hF
    obtain ⟨t2, a1, b1⟩ := kx E ce q u t T'.heap (locs ++ L) e1.symm (by rw [← e2]; exact X'.warmed.alike) hp hb k1 k2 k3 (by rw [e1]; exact hce) hcv hcl T' rfl X'
    exact ⟨t2, st.trans a1, b1⟩
/-- caught by the row x of this method's table; the rows ahead don't take it -/
theorem vx_catch {own name : String} {E : String} {ce : Cell} {q : Addr} (hown : s.vm.findClass own = some m.cls) (pre : List ExceptionTableEntry) (x : ExceptionTableEntry) (suf : List ExceptionTableEntry) (hsplit : c.exceptionTable.toList = pre ++ x :: suf)
    (hpass : ∀ z ∈ pre, covers z pc = false ∨ (z.catchType ≠ 0 ∧ ∃ nm : String, (Cond.classLink own z.catchType nm).before args s = true ∧ va_Nc E nm s)) (hx : covers x pc = true) (h0 : x.catchType ≠ 0)
    (hlink : (Cond.classLink own x.catchType name).before args s = true) (hcast : (Cond.castable E name).before args s = true) (hcell : H[q]? = some ce) (hv : ce.vm = .none) (hcl : s.vm.findClass E = some ce.cls)
    (kk : W p l e R s m args below meth c H locs cells slots Q (F0 m x.handlerPc ls [.ref q])) : vx_W p l e R s m args below meth c H locs cells slots Q (F0 m pc ls rest) q := by
  intro T hT X
  have hpl : e.platform.magicAccessors = ({} : Platform).magicAccessors := by rw [X.admits.platform]
  obtain ⟨c3, c4, hc3, hc4, hasg⟩ := Cond.castable_spec hcast
  cases Option.some.inj (hc3.symm.trans hcl)
  obtain ⟨c5, hc5, hcl5⟩ := Cond.classLink_spec hown hlink e.platform hpl
  cases Option.some.inj (hc4.symm.trans hc5)
  obtain ⟨vm', X', st⟩ := X.thenCaughtThrough q (g := F0 m pc ls rest) rfl (Steps.refl _) (by rw [hT]; exact hcell) (by rw [hv]; rfl) (by obtain ⟨k9, h9, -⟩ := Vm.findClass_spec hcl; exact ⟨k9, h9⟩) pre x suf hsplit
    (fun z hz => by
      rcases hpass z hz with h | ⟨hz0, nm, hl1, hn1⟩
      · exact Or.inl h
      · obtain ⟨c6, hc6, hcl6⟩ := Cond.classLink_spec hown hl1 e.platform hpl
        obtain ⟨a8, b8, h1, h2, h3⟩ := hn1
        cases Option.some.inj (h1.symm.trans hcl)
        cases Option.some.inj (h2.symm.trans hc6)
        exact Or.inr ⟨hz0, _, hcl6, h3⟩) hx (Or.inr ⟨h0, c4, hcl5, hasg⟩)
  obtain ⟨t, a1, b1⟩ := kk (T.setVm vm') hT X'
  exact ⟨t, st.trans a1, b1⟩
end Rows
section Ends
variable {p : Program} {l : Launch} {e : Env} {R : Room} {s : State} {m : MethodId} {args : Array Value} {below : List Frame} {meth : Method} {c : Code} {H : Heap} {locs : List Loc} {cells slots : Nat} {Q : State → Prop}
variable {mc ms : Nat} {free : Addr → Prop} {A0 A1 : Nat → Prop} {H0 : Heap} {a : Array Value} {ls : Array Slot} {st0 rest : List Value}
variable {Qc : Array Value → State → Outcome → State → Prop} {XC : String → State → State → Prop}
/-- what a body that may throw owes at its end -/
def vx_MQ (below : List Frame) (Qc : Array Value → State → Outcome → State → Prop) (XC : String → State → State → Prop) (a : Array Value) (s : State) (mc ms : Nat) (free : Addr → Prop) : State → Prop := fun t =>
  ∃ o, t.status = .running ∧ Ended t below o ∧ vx_Q Qc XC mc ms free a s o t
theorem vx_ret {g : JFrame} {mc ms : Nat} (k : W p l e R s m args below meth c H locs cells slots (MQ below Qc args s mc ms free) g) : W p l e R s m args below meth c H locs cells slots (vx_MQ below Qc XC args s mc ms free) g := by
  intro T hT X
  obtain ⟨t, a1, o, b1, b2, b3, b4⟩ := k T hT X
  exact ⟨t, a1, o, b1, b2, Or.inl ⟨b3, b4⟩⟩
/-- not caught here: it goes on to the caller -/
theorem vx_widen {g : JFrame} {q : Addr} {k n : Nat} (h1 : cells ≤ k) (h2 : slots ≤ n) (kk : vx_W p l e R s m args below meth c H locs k n Q g q) : vx_W p l e R s m args below meth c H locs cells slots Q g q := fun T hT X => kk T hT (stand_widen X h1 h2)
theorem vx_out {pc : Nat} {E : String} {ce : Cell} {q : Addr} {mc ms : Nat} (hout : ∀ x ∈ c.exceptionTable.toList, covers x pc = false) (hlocks : meth.locks = false) (hcell : H[q]? = some ce) (hv : ce.vm = .none) (hcl : s.vm.findClass E = some ce.cls)
    (hx : ∀ t : State, t.heap = H → s.vm.Alike t.vm → XC E s t) (hf : ∀ z ∈ locs, free z.base) (hc : cells ≤ mc) (hs : slots ≤ ms) :
    vx_W p l e R s m args below meth c H locs cells slots (vx_MQ below Qc XC args s mc ms free) (F0 m pc ls rest) q := by
  intro T hT X
  obtain ⟨st1, hrun, hend, hW, hsm⟩ := X.leaveThrown q (g := F0 m pc ls rest) rfl rfl rfl hout hlocks
  have hcell9 : (T.setFrames (.throwing q :: below)).heap[q]? = some ce := by
    show T.heap[q]? = some ce
    rw [hT]; exact hcell
  exact ⟨_, st1, .threw q, hrun, hend, Or.inr ⟨q, rfl, E, ce, locs, hx _ hT hW.alike, hcell9, hv, hcl, hW, hsm.mono hc hs, hf⟩⟩
theorem vx_frame {U : State} {k n : Nat} (h : s.sameButNew ({ U with vm := s.vm } : State) locs k n) : s.heap.size ≤ U.heap.size ∧ ∀ q : Nat, q < s.heap.size → (∀ z ∈ locs, z.base ≠ q) → U.heap[q]? = s.heap[q]? := by
  obtain ⟨-, h2, -, -, -, h6⟩ := h
  refine ⟨h2, fun q hq hz => ?_⟩
  obtain ⟨c9, e1, e2, e3, e4⟩ := h6 q _ (Array.getElem?_eq_getElem hq)
  have hs : c9.slots = (s.heap[q]).slots := Array.ext_getElem? fun i => e4 i fun hm => hz _ hm rfl
  have h9 : c9 = s.heap[q] := by
    rw [hs] at e2
    exact e2
  have e5 : U.heap[q]? = some c9 := e1
  rw [e5, h9, Array.getElem?_eq_getElem hq]
/-- the words of a throw but the four that speak of the heap -/
def vx_no (w : Cond) : Bool := decide (w ≠ .isRef (.static Bundle.tN "UNASSIGNED_STACK" Bundle.steD)) && decide (w ≠ .isRef (.static Bundle.tN "SUPPRESSED_SENTINEL" Bundle.listD)) && decide (w ≠ .laysStatic Bundle.tN "UNASSIGNED_STACK" Bundle.steD) && decide (w ≠ .laysStatic Bundle.tN "SUPPRESSED_SENTINEL" Bundle.listD)
def vx_at0 (own : String) (ic : Nat) (X : String) (names : List String) : List Cond := (Bundle.ownAtoms0 own ic X names).filter vx_no
def vx_atS (own : String) (ic : Nat) (X : String) (names : List String) : List Cond := (Bundle.ownAtoms own ic X names).filter vx_no
/-- a word that the tables alone decide, or a good one -/
def vx_ot (w : Cond) : Bool := w.onTables || goodWord w
theorem vx_ot_at {args a' : Array Value} {s U : State} {w : Cond} (hW : s.WarmedH U.vm) (hvm : s.vm = U.vm) (hg : vx_ot w = true) (h : w.before args s = true) : w.before a' U = true := by
  simp only [vx_ot, Bool.or_eq_true] at hg
  rcases hg with hg | hg
  · exact va_tabs hg hvm h
  · exact word_at hW (good_of_word hg) h
/-- a list's words: the good ones out of the method's own list, the others by premises of their own -/
theorem vx_hat {args : Array Value} {s : State} {L B : List Cond} (h1 : ∀ w ∈ L.filter goodWord, w.before args s = true) (h2 : ∀ w ∈ L.filter (fun w => !goodWord w), w ∈ B) (h3 : ∀ w ∈ B, w.before args s = true) : ∀ w ∈ L, w.before args s = true := by
  intro w hw
  by_cases g : goodWord w = true
  · exact h1 w (List.mem_filter.mpr ⟨hw, g⟩)
  · refine h3 w (h2 w (List.mem_filter.mpr ⟨hw, ?_⟩))
    show (!goodWord w) = true
    cases hgw : goodWord w
    · rfl
    · exact absurd hgw g
theorem vx_c {args : Array Value} {s : State} {w : Cond} {B : List Cond} (h : w.before args s = true) (t : ∀ w ∈ B, w.before args s = true) : ∀ w' ∈ w :: B, w'.before args s = true := fun w' h' => (List.mem_cons.mp h').elim (fun e => by rw [e]; exact h) (t w')
theorem vx_n {args : Array Value} {s : State} : ∀ w ∈ ([] : List Cond), w.before args s = true := fun _ h => nomatch h
theorem vx_own {args : Array Value} {s : State} {L : List Cond} (h1 : ∀ w ∈ L.filter vx_no, w.before args s = true)
    (hU : (Cond.isRef (.static Bundle.tN "UNASSIGNED_STACK" Bundle.steD)).before args s = true) (hN : (Cond.isRef (.static Bundle.tN "SUPPRESSED_SENTINEL" Bundle.listD)).before args s = true)
    (lU : (Cond.laysStatic Bundle.tN "UNASSIGNED_STACK" Bundle.steD).before args s = true) (lN : (Cond.laysStatic Bundle.tN "SUPPRESSED_SENTINEL" Bundle.listD).before args s = true) : ∀ w ∈ L, w.before args s = true := by
  intro w hw
  by_cases e1 : w = .isRef (.static Bundle.tN "UNASSIGNED_STACK" Bundle.steD)
  · rw [e1]; exact hU
  · by_cases e2 : w = .isRef (.static Bundle.tN "SUPPRESSED_SENTINEL" Bundle.listD)
    · rw [e2]; exact hN
    · by_cases e3 : w = .laysStatic Bundle.tN "UNASSIGNED_STACK" Bundle.steD
      · rw [e3]; exact lU
      · by_cases e4 : w = .laysStatic Bundle.tN "SUPPRESSED_SENTINEL" Bundle.listD
        · rw [e4]; exact lN
        · exact h1 w (List.mem_filter.mpr ⟨hw, by unfold vx_no; rw [decide_eq_true e1, decide_eq_true e2, decide_eq_true e3, decide_eq_true e4]; rfl⟩)
/-- where a static field lies, its class's statics cell in H -/
def vx_L (C n d : String) (A : Nat → Prop) (U : State) (H : Heap) : Prop := ∃ (c : ClassId) (k : Class) (i : Nat) (f : Field) (a : Nat) (cell : Cell), U.vm.findClass C = some c ∧ U.fieldFound? C n d = some (c, k, i, f) ∧ f.isStatic = true ∧ k.statics = some a ∧ H[a]? = some cell ∧ cell.vm.isStatics = true ∧ cell.cls = c ∧ f.slot < cell.slots.size ∧ k.staticTypes[f.slot]? = some f.type ∧ ¬ A a
theorem vx_L.moved {C n d : String} {A : Nat → Prop} {u U : State} {H : Heap} (hvm : u.vm.Alike U.vm) (h : vx_L C n d A u H) : vx_L C n d A U H := by
  obtain ⟨c, k, i, f, a, cell, h1, h2, h3, h4, h5, h6, h7, h8, h9, h10⟩ := h
  obtain ⟨k', hi', he⟩ := State.fieldFound?_setVm hvm h2
  exact ⟨c, k', i, f, a, cell, by rw [hvm.findClass]; exact h1, hi', h3, by rw [he]; exact h4, h5, h6, h7, h8, by rw [he]; exact h9, h10⟩
theorem vx_L.kept {C n d : String} {A : Nat → Prop} {U : State} {H H1 : Heap} (h : vx_L C n d A U H) (hq : ∀ a : Nat, a < H.size → ¬ A a → H1[a]? = H[a]?) : vx_L C n d A U H1 := by
  obtain ⟨c, k, i, f, a, cell, h1, h2, h3, h4, h5, h6, h7, h8, h9, h10⟩ := h
  exact ⟨c, k, i, f, a, cell, h1, h2, h3, h4, by rw [hq a (Array.getElem?_eq_some_iff.mp h5).1 h10]; exact h5, h6, h7, h8, h9, h10⟩
theorem vx_L.narrow {C n d : String} {A B : Nat → Prop} {U : State} {H : Heap} (h : vx_L C n d A U H) (hAB : ∀ q, B q → A q) : vx_L C n d B U H := by
  obtain ⟨c, k, i, f, a, cell, h1, h2, h3, h4, h5, h6, h7, h8, h9, h10⟩ := h
  exact ⟨c, k, i, f, a, cell, h1, h2, h3, h4, h5, h6, h7, h8, h9, fun z => h10 (hAB _ z)⟩
theorem vx_L.word {C n d : String} {A : Nat → Prop} {s : State} {args : Array Value} (h : vx_L C n d A s s.heap) : (Cond.laysStatic C n d).before args s = true := by
  obtain ⟨c, k, i, f, a, cell, h1, h2, h3, h4, h5, h6, h7, h8, h9, -⟩ := h
  show (Cond.laysStatic C n d).holds args s none s [] = true
  exact Cond.laysStatic_of h1 h2 h3 h4 h5 h6 h7 h8 h9
/-- .. and what it holds: null or some reference -/
def vx_Zq (C n d : String) (A : Nat → Prop) (U : State) (H : Heap) : Prop := va_Zq C n d A U H ∧ vx_L C n d A U H
theorem vx_Zq.moved {C n d : String} {A : Nat → Prop} {u U : State} {H : Heap} (hvm : u.vm.Alike U.vm) (h : vx_Zq C n d A u H) : vx_Zq C n d A U H := ⟨va_Zq.moved hvm h.1, vx_L.moved hvm h.2⟩
theorem vx_Zq.kept {C n d : String} {A : Nat → Prop} {U : State} {H H1 : Heap} (h : vx_Zq C n d A U H) (hq : ∀ a : Nat, a < H.size → ¬ A a → H1[a]? = H[a]?) : vx_Zq C n d A U H1 := ⟨va_Zq.kept h.1 hq, vx_L.kept h.2 hq⟩
theorem vx_Zq.narrow {C n d : String} {A B : Nat → Prop} {U : State} {H : Heap} (h : vx_Zq C n d A U H) (hAB : ∀ q, B q → A q) : vx_Zq C n d B U H := ⟨va_Zq.narrow h.1 hAB, vx_L.narrow h.2 hAB⟩
theorem vx_Zqof {args : Array Value} {s : State} {C n d : String} {A : Nat → Prop} (hl : (Cond.laysStatic C n d).before args s = true) (hini : (Cond.initialized C).before args s = true) (h : (Cond.isRef (.static C n d)).before args s = true) (hA : ∀ a : Nat, a < s.heap.size → ¬ A a) : vx_Zq C n d A s s.heap := by
  refine ⟨va_Zqof hl hini h hA, ?_⟩
  obtain ⟨c, k, i, f, a, cell, h1, h2, h3, h4, h5, h6, h7, h8, h9⟩ := Cond.laysStatic_spec hl
  exact ⟨c, k, i, f, a, cell, h1, h2, h3, h4, h5, h6, h7, h8, h9, hA a (Array.getElem?_eq_some_iff.mp h5).1⟩
theorem vx_isRef {C n d : String} {v : Value} {A : Nat → Prop} {s : State} {args : Array Value} (h : va_Z C n d v A s s.heap) (hv : v.isRef = true) : (Cond.isRef (.static C n d)).before args s = true := by
  obtain ⟨cf, kf, fi, f, a, cell, h1, h2, h3, h4, h5, h6, h7, -⟩ := h
  have he : (Term.static C n d).eval args s none [] s = some v := by
    simp [Term.eval, State.fieldNamed?, h1, h2, h4, h5, h6, h7]
  simp only [Cond.before, Cond.holds, Cond.value, he]
  cases v <;> simp_all [Value.isRef]
theorem vx_isRefq {C n d : String} {A : Nat → Prop} {s : State} {args : Array Value} (h : va_Zq C n d A s s.heap) : (Cond.isRef (.static C n d)).before args s = true := by
  rcases h with h | ⟨t, h⟩
  · exact vx_isRef h rfl
  · exact vx_isRef h rfl
/-- the same frame, seen from here: as if the method were called anew in this heap -/
theorem vx_rebase {T : State} (X : Stand p l e R s m args below meth c T locs cells slots) {R' : Room} (hf : R'.frames ≤ R.frames) (hl : R'.locals ≤ R.locals) (hc : cells + R'.cells ≤ R.cells) (hs : slots + R'.slots ≤ R.slots) :
    Stand p l e R' ((T.setVm s.vm).setFrames (.invoking m args :: below)) m args below meth c T [] 0 0 := by
  have htop : (T.setVm s.vm).topJava?.isSome := X.here.top
  have hF : ((T.setVm s.vm).setFrames (.invoking m args :: below)).frames = .invoking m args :: below := State.frames_setFrames _ (State.cur_lt_of_top htop)
  obtain ⟨g₀, hg0⟩ := Option.isSome_iff_exists.mp htop
  obtain ⟨r, hr⟩ := State.topJava?_eq_some.mp hg0
  have hl9 : e.platform.stackLimits (T.setVm s.vm).me = e.platform.stackLimits s.me := X.limits
  have hb9 : (T.setVm s.vm).me.stackBytes = s.me.stackBytes := X.bytes
  refine ⟨X.admits, X.cas, X.clock, hF, ?_, X.hears, X.method, X.code, X.here, X.tail, X.warmed, ?_, ?_, ?_⟩
  · have h := X.room
    have hU : ((T.setVm s.vm).setFrames (.invoking m args :: below)).localsInUse = s.localsInUse := by
      rw [State.localsInUse_invoking hF (meth := meth) (c := c) X.method X.code, State.localsInUse_invoking X.frames X.method X.code]
    simp only [State.hasRoom, Bool.and_eq_true, decide_eq_true_eq] at h ⊢
    obtain ⟨⟨⟨⟨h1, h2, h3, h4, h5, h6⟩, h7⟩, h8⟩, h9⟩ := h
    rw [X.frames, List.length_cons] at h2 h3
    have q1 := X.heapSize
    have q2 := X.used
    simp only [hF, hU, List.length_cons, State.stackLimits_setFrames, State.stackBytes_setFrames, hl9, hb9]
    refine ⟨⟨⟨⟨by omega, by omega, by omega, by omega, by omega, h6⟩, ?_⟩, ?_⟩, X.book⟩
    · show T.heap.size + R'.cells ≤ e.platform.maxCells
      omega
    · show T.slotsUsed + R'.slots ≤ e.platform.maxSlots
      omega
  · rw [State.stackLimits_setFrames]; rfl
  · rw [State.stackBytes_setFrames]; rfl
  · refine ⟨?_, Nat.le_refl _, Nat.le_refl _, ?_, ?_, fun a c9 h9 => ⟨c9, h9, rfl, rfl, fun _ _ => rfl⟩⟩
    · obtain ⟨t, ht, -⟩ := State.frames_cons hr
      show T.setVm s.vm = { ((T.setVm s.vm).setFrames (.invoking m args :: below)).setFrames (T.setVm s.vm).frames with heap := T.heap, slotsUsed := T.slotsUsed }
      rw [State.setFrames_setFrames, State.setFrames_self ht]
      rfl
    · show T.slotsUsed = T.slotsUsed + ((T.heap.toList.drop T.heap.size).map (·.slots.size)).sum
      rw [List.drop_eq_nil_of_le (Nat.le_of_eq Array.length_toList)]
      rfl
    · show ((T.heap.toList.drop T.heap.size).map (·.slots.size)).sum ≤ 0
      rw [List.drop_eq_nil_of_le (Nat.le_of_eq Array.length_toList)]
      exact Nat.le_refl _
/-- 'throw new E()': new; dup; invokespecial; athrow -/
theorem vx_throw0 {cc : ByteArray} {pc : Nat} (hexec : p.tables.exec = Jvm.exec) (hb : c.code = cc) (hl : l.stackTraces = false) {own cls : String} {names : List String} {ik ic mc ms : Nat} {A : Nat → Prop}
    (hown : s.vm.findClass own = some m.cls) (hcls : Bundle.fit cls = true) (hnames : ∀ n ∈ names, Bundle.fit n = true)
    (hk : (Cond.classLink own ik cls).before args s = true) (hini : (Cond.initialized cls).before args s = true) (hat : ∀ w ∈ vx_at0 own ic cls names, w.before args s = true)
    (hgood : ∀ w ∈ Cond.classLink own ik cls :: Cond.initialized cls :: vx_at0 own ic cls names, vx_ot w = true)
    (hU : vx_Zq Bundle.tN "UNASSIGNED_STACK" Bundle.steD A s s.heap) (hN : vx_Zq Bundle.tN "SUPPRESSED_SENTINEL" Bundle.listD A s s.heap) (hS : va_S A s.heap H locs) (hsize : ls.size = c.maxLocals)
    (d0 : decode cc pc = .ok (.new ik, 3)) (d3 : decode cc (pc + 3) = .ok (.dup, 1)) (d4 : decode cc (pc + 4) = .ok (.invokespecial ic, 3)) (d7 : decode cc (pc + 7) = .ok (.athrow, 1))
    (hout : ∀ x ∈ c.exceptionTable.toList, covers x (pc + 7) = false)
    (hRframes : names.length + 3 < R.frames) (hRlocals : (rest.map fun v => v.category).sum + (13 * (names.length + 1) + 42) ≤ R.locals) (hRcells : cells + 1 ≤ R.cells) (hRslots : slots + 6 ≤ R.slots) (hlocks : meth.locks = false)
    (hx : ∀ t : State, s.vm.Alike t.vm → H.size ≤ t.heap.size → (∀ q : Nat, q < H.size → t.heap[q]? = H[q]?) → XC cls s t)
    (hf : ∀ z ∈ locs, free z.base) (hc : cells + 1 ≤ mc) (hs : slots + 6 ≤ ms) :
    W p l e R s m args below meth c H locs cells slots (vx_MQ below Qc XC args s mc ms free) (F0 m pc ls rest) := by
  intro T hT X
  have htr : e.platform.stackTraces = false := (show e.platform.stackTraces = l.stackTraces by rw [X.admits.platform]).trans hl
  have Y := vx_rebase X (R' := { frames := R.frames, locals := R.locals, cells := 1, slots := 6 }) (Nat.le_refl _) (Nat.le_refl _) hRcells hRslots
  obtain ⟨s', hA⟩ : ∃ z, z = (T.setVm s.vm).setFrames (.invoking m args :: below) := ⟨_, rfl⟩
  rw [← hA] at Y
  have hvm : s'.vm = s.vm := by rw [hA]; rfl
  have hhp : s'.heap = H := by rw [hA]; exact hT
  have hW0 : s.WarmedH s'.vm := by rw [hvm]; exact State.WarmedH.refl s
  have hat' : ∀ w ∈ vx_at0 own ic cls names, w.before args s' = true := fun w hw => vx_ot_at hW0 hvm.symm (hgood w (List.mem_cons_of_mem _ (List.mem_cons_of_mem _ hw))) (hat w hw)
  have hk' : (Cond.classLink own ik cls).before args s' = true := vx_ot_at hW0 hvm.symm (hgood _ List.mem_cons_self) hk
  have hini' : (Cond.initialized cls).before args s' = true := vx_ot_at hW0 hvm.symm (hgood _ (List.mem_cons_of_mem _ List.mem_cons_self)) hini
  have hU' : vx_Zq Bundle.tN "UNASSIGNED_STACK" Bundle.steD A s' s'.heap := by rw [hhp]; exact vx_Zq.moved hW0.alike (hU.kept hS.2.1)
  have hN' : vx_Zq Bundle.tN "SUPPRESSED_SENTINEL" Bundle.listD A s' s'.heap := by rw [hhp]; exact vx_Zq.moved hW0.alike (hN.kept hS.2.1)
  have h : ∀ w ∈ Bundle.ownAtoms0 own ic cls names, w.before args s' = true := vx_own hat' (vx_isRefq hU'.1) (vx_isRefq hN'.1) hU'.2.word hN'.2.word
  have hown' : s'.vm.findClass own = some m.cls := by rw [hvm]; exact hown
  have hins : (Cond.instantiable cls 6).before args s' = true := h _ (by simp [Bundle.ownAtoms0])
  obtain ⟨vm₁, cX, kX, hfX, hkX, -, -, X₁, st1⟩ := Y.newCold hexec (own := own) (C := cls) (index := ik) (n := 6) hown' hk' hins hini'
    (g := F0 m pc ls rest) rfl (by rw [hb]; exact d0) (Nat.le_refl _) (Nat.le_refl _)
  generalize hT1 : (T.setVm vm₁).pushCell { cls := cX, slots := kX.instanceTypes.map defaultValue, vm := .none } = T1 at X₁ st1
  have hcat : (Value.ref T.heap.size).category = 1 := rfl
  have hcellA : T1.heap[T.heap.size]? = some (freshCell cX kX) := by rw [← hT1]; exact State.heap_pushCell_size _ _
  have d3' : decode c.code (pc + 3) = .ok (.dup, 1) := by rw [hb]; exact d3
  obtain ⟨U, hsteps, hrun, hend, hW, hsame, ce, hce, hO⟩ := X₁.ctorThrow0 hexec htr (own := own) (cls := cls) (names := names) (ic := ic) hown' hcls hnames h (fun x hx => nomatch hx) hfX hkX hcellA (by rw [hhp, hT]; exact Nat.le_refl _)
    (g := { method := m, pc := pc + 4, locals := ls, stack := .ref T.heap.size :: .ref T.heap.size :: rest, locked := none }) rfl hsize rfl rfl (rest := rest) rfl
    (by rw [hb]; exact d4) (by rw [hb]; exact d7) hout hRframes (by simp only [List.map_cons, List.sum_cons, hcat]; omega) hlocks
  obtain ⟨f1, f2⟩ := vx_frame hsame
  rw [hhp] at f1 f2
  have hWs : s.WarmedH U.vm := State.WarmedH.trans hW0 hW
  have hcl : s.vm.findClass cls = some ce.cls := by
    have h9 := hO.cls
    rw [hvm] at h9
    exact h9
  have hall : s.sameButNew ({ U with vm := s.vm } : State) locs mc ms := by
    subst hA
    obtain ⟨e1, e2⟩ := hsame
    rw [State.setFrames_setFrames] at e1
    have h2 : (T.setVm s.vm).sameButNew ({ U with vm := s.vm } : State) [] (0 + 1) (0 + 6) := ⟨e1, e2⟩
    have h3 := X.same.trans h2
    rw [List.append_nil] at h3
    exact h3.mono hc hs
  refine ⟨U, ?_, .threw T.heap.size, hrun, hend, Or.inr ⟨T.heap.size, rfl, cls, ce, locs, hx U hWs.alike f1 (fun q hq => f2 q hq (fun z hz => nomatch hz)), hce, hO.vm, hcl, hWs, hall, hf⟩⟩
  refine st1 _ ?_
  show Steps p.tables e below (T1.setTop { method := m, pc := pc + 3, locals := ls, stack := .ref T.heap.size :: rest, locked := none }) _
  jvm_step X₁.here [X₁.here.top, hexec, d3', Value.category]
  exact hsteps
/-- 'throw new E("text")': new; dup; ldc; invokespecial; athrow -/
theorem vx_throwS {cc : ByteArray} {pc : Nat} (hexec : p.tables.exec = Jvm.exec) (hb : c.code = cc) (hl : l.stackTraces = false) {own cls text : String} {names : List String} {ik is ic mc ms sa : Nat} {A : Nat → Prop}
    (hown : s.vm.findClass own = some m.cls) (hcls : Bundle.fit cls = true) (hnames : ∀ n ∈ names, Bundle.fit n = true)
    (hk : (Cond.classLink own ik cls).before args s = true) (hini : (Cond.initialized cls).before args s = true) (hstr : vk_R own is text sa s) (hat : ∀ w ∈ vx_atS own ic cls names, w.before args s = true)
    (hgood : ∀ w ∈ Cond.classLink own ik cls :: Cond.initialized cls :: vx_atS own ic cls names, vx_ot w = true)
    (hU : vx_Zq Bundle.tN "UNASSIGNED_STACK" Bundle.steD A s s.heap) (hN : vx_Zq Bundle.tN "SUPPRESSED_SENTINEL" Bundle.listD A s s.heap) (hS : va_S A s.heap H locs) (hsize : ls.size = c.maxLocals)
    (d0 : decode cc pc = .ok (.new ik, 3)) (d3 : decode cc (pc + 3) = .ok (.dup, 1)) (d4 : decode cc (pc + 4) = .ok (.ldc is, 2)) (d6 : decode cc (pc + 6) = .ok (.invokespecial ic, 3)) (d9 : decode cc (pc + 9) = .ok (.athrow, 1))
    (hout : ∀ x ∈ c.exceptionTable.toList, covers x (pc + 9) = false)
    (hRframes : names.length + 3 < R.frames) (hRlocals : (rest.map fun v => v.category).sum + (13 * (names.length + 1) + 43) ≤ R.locals) (hRcells : cells + 1 ≤ R.cells) (hRslots : slots + 6 ≤ R.slots) (hlocks : meth.locks = false)
    (hx : ∀ t : State, s.vm.Alike t.vm → H.size ≤ t.heap.size → (∀ q : Nat, q < H.size → t.heap[q]? = H[q]?) → XC cls s t)
    (hf : ∀ z ∈ locs, free z.base) (hc : cells + 1 ≤ mc) (hs : slots + 6 ≤ ms) :
    W p l e R s m args below meth c H locs cells slots (vx_MQ below Qc XC args s mc ms free) (F0 m pc ls rest) := by
  intro T hT X
  have htr : e.platform.stackTraces = false := (show e.platform.stackTraces = l.stackTraces by rw [X.admits.platform]).trans hl
  have Y := vx_rebase X (R' := { frames := R.frames, locals := R.locals, cells := 1, slots := 6 }) (Nat.le_refl _) (Nat.le_refl _) hRcells hRslots
  obtain ⟨s', hA⟩ : ∃ z, z = (T.setVm s.vm).setFrames (.invoking m args :: below) := ⟨_, rfl⟩
  rw [← hA] at Y
  have hvm : s'.vm = s.vm := by rw [hA]; rfl
  have hhp : s'.heap = H := by rw [hA]; exact hT
  have hW0 : s.WarmedH s'.vm := by rw [hvm]; exact State.WarmedH.refl s
  have hat' : ∀ w ∈ vx_atS own ic cls names, w.before args s' = true := fun w hw => vx_ot_at hW0 hvm.symm (hgood w (List.mem_cons_of_mem _ (List.mem_cons_of_mem _ hw))) (hat w hw)
  have hk' : (Cond.classLink own ik cls).before args s' = true := vx_ot_at hW0 hvm.symm (hgood _ List.mem_cons_self) hk
  have hini' : (Cond.initialized cls).before args s' = true := vx_ot_at hW0 hvm.symm (hgood _ (List.mem_cons_of_mem _ List.mem_cons_self)) hini
  have hU' : vx_Zq Bundle.tN "UNASSIGNED_STACK" Bundle.steD A s' s'.heap := by rw [hhp]; exact vx_Zq.moved hW0.alike (hU.kept hS.2.1)
  have hN' : vx_Zq Bundle.tN "SUPPRESSED_SENTINEL" Bundle.listD A s' s'.heap := by rw [hhp]; exact vx_Zq.moved hW0.alike (hN.kept hS.2.1)
  have h : ∀ w ∈ Bundle.ownAtoms own ic cls names, w.before args s' = true := vx_own hat' (vx_isRefq hU'.1) (vx_isRefq hN'.1) hU'.2.word hN'.2.word
  have hown' : s'.vm.findClass own = some m.cls := by rw [hvm]; exact hown
  have hins : (Cond.instantiable cls 6).before args s' = true := h _ (by simp [Bundle.ownAtoms])
  obtain ⟨vm₁, cX, kX, hfX, hkX, -, -, X₁, st1⟩ := Y.newCold hexec (own := own) (C := cls) (index := ik) (n := 6) hown' hk' hins hini'
    (g := F0 m pc ls rest) rfl (by rw [hb]; exact d0) (Nat.le_refl _) (Nat.le_refl _)
  generalize hT1 : (T.setVm vm₁).pushCell { cls := cX, slots := kX.instanceTypes.map defaultValue, vm := .none } = T1 at X₁ st1
  have hcat : (Value.ref T.heap.size).category = 1 := rfl
  have hcellA : T1.heap[T.heap.size]? = some (freshCell cX kX) := by rw [← hT1]; exact State.heap_pushCell_size _ _
  have d3' : decode c.code (pc + 3) = .ok (.dup, 1) := by rw [hb]; exact d3
  have d4' : decode c.code (pc + 4) = .ok (.ldc is, 2) := by rw [hb]; exact d4
  have hstr' : vk_R own is text sa s' := vk_R.warm hW0 hstr
  obtain ⟨U, hsteps, hrun, hend, hW, hsame, ce, hce, hO⟩ := X₁.ctorThrowS hexec htr (own := own) (cls := cls) (names := names) (ic := ic) hown' hcls hnames h (fun x hx => nomatch hx) hfX hkX hcellA (by rw [hhp, hT]; exact Nat.le_refl _) (msg := .ref sa) rfl
    (g := { method := m, pc := pc + 6, locals := ls, stack := .ref sa :: .ref T.heap.size :: .ref T.heap.size :: rest, locked := none }) rfl hsize rfl rfl (rest := rest) rfl
    (by rw [hb]; exact d6) (by rw [hb]; exact d9) hout hRframes (by simp only [List.map_cons, List.sum_cons, hcat]; omega) hlocks
  obtain ⟨f1, f2⟩ := vx_frame hsame
  rw [hhp] at f1 f2
  have hWs : s.WarmedH U.vm := State.WarmedH.trans hW0 hW
  have hcl : s.vm.findClass cls = some ce.cls := by
    have h9 := hO.cls
    rw [hvm] at h9
    exact h9
  have hall : s.sameButNew ({ U with vm := s.vm } : State) locs mc ms := by
    subst hA
    obtain ⟨e1, e2⟩ := hsame
    rw [State.setFrames_setFrames] at e1
    have h2 : (T.setVm s.vm).sameButNew ({ U with vm := s.vm } : State) [] (0 + 1) (0 + 6) := ⟨e1, e2⟩
    have h3 := X.same.trans h2
    rw [List.append_nil] at h3
    exact h3.mono hc hs
  refine ⟨U, ?_, .threw T.heap.size, hrun, hend, Or.inr ⟨T.heap.size, rfl, cls, ce, locs, hx U hWs.alike f1 (fun q hq => f2 q hq (fun z hz => nomatch hz)), hce, hO.vm, hcl, hWs, hall, hf⟩⟩
  refine st1 _ ?_
  show Steps p.tables e below (T1.setTop { method := m, pc := pc + 3, locals := ls, stack := .ref T.heap.size :: rest, locked := none }) _
  jvm_step X₁.here [X₁.here.top, hexec, d3', Value.category]
  exact X₁.ldcString hexec (own := own) (text := text) (index := is) (a := sa) hown' hstr'.1 hstr'.2
    (g := { method := m, pc := pc + 4, locals := ls, stack := .ref T.heap.size :: .ref T.heap.size :: rest, locked := none }) rfl d4' _ hsteps
/-- 'throw new E("text")', the text by a wide index -/
theorem vx_throwSW {cc : ByteArray} {pc : Nat} (hexec : p.tables.exec = Jvm.exec) (hb : c.code = cc) (hl : l.stackTraces = false) {own cls text : String} {names : List String} {ik is ic mc ms sa : Nat} {A : Nat → Prop}
    (hown : s.vm.findClass own = some m.cls) (hcls : Bundle.fit cls = true) (hnames : ∀ n ∈ names, Bundle.fit n = true)
    (hk : (Cond.classLink own ik cls).before args s = true) (hini : (Cond.initialized cls).before args s = true) (hstr : vk_R own is text sa s) (hat : ∀ w ∈ vx_atS own ic cls names, w.before args s = true)
    (hgood : ∀ w ∈ Cond.classLink own ik cls :: Cond.initialized cls :: vx_atS own ic cls names, vx_ot w = true)
    (hU : vx_Zq Bundle.tN "UNASSIGNED_STACK" Bundle.steD A s s.heap) (hN : vx_Zq Bundle.tN "SUPPRESSED_SENTINEL" Bundle.listD A s s.heap) (hS : va_S A s.heap H locs) (hsize : ls.size = c.maxLocals)
    (d0 : decode cc pc = .ok (.new ik, 3)) (d3 : decode cc (pc + 3) = .ok (.dup, 1)) (d4 : decode cc (pc + 4) = .ok (.ldc_w is, 3)) (d7 : decode cc (pc + 7) = .ok (.invokespecial ic, 3)) (d10 : decode cc (pc + 10) = .ok (.athrow, 1))
    (hout : ∀ x ∈ c.exceptionTable.toList, covers x (pc + 10) = false)
    (hRframes : names.length + 3 < R.frames) (hRlocals : (rest.map fun v => v.category).sum + (13 * (names.length + 1) + 43) ≤ R.locals) (hRcells : cells + 1 ≤ R.cells) (hRslots : slots + 6 ≤ R.slots) (hlocks : meth.locks = false)
    (hx : ∀ t : State, s.vm.Alike t.vm → H.size ≤ t.heap.size → (∀ q : Nat, q < H.size → t.heap[q]? = H[q]?) → XC cls s t)
    (hf : ∀ z ∈ locs, free z.base) (hc : cells + 1 ≤ mc) (hs : slots + 6 ≤ ms) :
    W p l e R s m args below meth c H locs cells slots (vx_MQ below Qc XC args s mc ms free) (F0 m pc ls rest) := by
  intro T hT X
  have htr : e.platform.stackTraces = false := (show e.platform.stackTraces = l.stackTraces by rw [X.admits.platform]).trans hl
  have Y := vx_rebase X (R' := { frames := R.frames, locals := R.locals, cells := 1, slots := 6 }) (Nat.le_refl _) (Nat.le_refl _) hRcells hRslots
  obtain ⟨s', hA⟩ : ∃ z, z = (T.setVm s.vm).setFrames (.invoking m args :: below) := ⟨_, rfl⟩
  rw [← hA] at Y
  have hvm : s'.vm = s.vm := by rw [hA]; rfl
  have hhp : s'.heap = H := by rw [hA]; exact hT
  have hW0 : s.WarmedH s'.vm := by rw [hvm]; exact State.WarmedH.refl s
  have hat' : ∀ w ∈ vx_atS own ic cls names, w.before args s' = true := fun w hw => vx_ot_at hW0 hvm.symm (hgood w (List.mem_cons_of_mem _ (List.mem_cons_of_mem _ hw))) (hat w hw)
  have hk' : (Cond.classLink own ik cls).before args s' = true := vx_ot_at hW0 hvm.symm (hgood _ List.mem_cons_self) hk
  have hini' : (Cond.initialized cls).before args s' = true := vx_ot_at hW0 hvm.symm (hgood _ (List.mem_cons_of_mem _ List.mem_cons_self)) hini
  have hU' : vx_Zq Bundle.tN "UNASSIGNED_STACK" Bundle.steD A s' s'.heap := by rw [hhp]; exact vx_Zq.moved hW0.alike (hU.kept hS.2.1)
  have hN' : vx_Zq Bundle.tN "SUPPRESSED_SENTINEL" Bundle.listD A s' s'.heap := by rw [hhp]; exact vx_Zq.moved hW0.alike (hN.kept hS.2.1)
  have h : ∀ w ∈ Bundle.ownAtoms own ic cls names, w.before args s' = true := vx_own hat' (vx_isRefq hU'.1) (vx_isRefq hN'.1) hU'.2.word hN'.2.word
  have hown' : s'.vm.findClass own = some m.cls := by rw [hvm]; exact hown
  have hins : (Cond.instantiable cls 6).before args s' = true := h _ (by simp [Bundle.ownAtoms])
  obtain ⟨vm₁, cX, kX, hfX, hkX, -, -, X₁, st1⟩ := Y.newCold hexec (own := own) (C := cls) (index := ik) (n := 6) hown' hk' hins hini'
    (g := F0 m pc ls rest) rfl (by rw [hb]; exact d0) (Nat.le_refl _) (Nat.le_refl _)
  generalize hT1 : (T.setVm vm₁).pushCell { cls := cX, slots := kX.instanceTypes.map defaultValue, vm := .none } = T1 at X₁ st1
  have hcat : (Value.ref T.heap.size).category = 1 := rfl
  have hcellA : T1.heap[T.heap.size]? = some (freshCell cX kX) := by rw [← hT1]; exact State.heap_pushCell_size _ _
  have d3' : decode c.code (pc + 3) = .ok (.dup, 1) := by rw [hb]; exact d3
  have d4' : decode c.code (pc + 4) = .ok (.ldc_w is, 3) := by rw [hb]; exact d4
  have hstr' : vk_R own is text sa s' := vk_R.warm hW0 hstr
  obtain ⟨U, hsteps, hrun, hend, hW, hsame, ce, hce, hO⟩ := X₁.ctorThrowS hexec htr (own := own) (cls := cls) (names := names) (ic := ic) hown' hcls hnames h (fun x hx => nomatch hx) hfX hkX hcellA (by rw [hhp, hT]; exact Nat.le_refl _) (msg := .ref sa) rfl
    (g := { method := m, pc := pc + 7, locals := ls, stack := .ref sa :: .ref T.heap.size :: .ref T.heap.size :: rest, locked := none }) rfl hsize rfl rfl (rest := rest) rfl
    (by rw [hb]; exact d7) (by rw [hb]; exact d10) hout hRframes (by simp only [List.map_cons, List.sum_cons, hcat]; omega) hlocks
  obtain ⟨f1, f2⟩ := vx_frame hsame
  rw [hhp] at f1 f2
  have hWs : s.WarmedH U.vm := State.WarmedH.trans hW0 hW
  have hcl : s.vm.findClass cls = some ce.cls := by
    have h9 := hO.cls
    rw [hvm] at h9
    exact h9
  have hall : s.sameButNew ({ U with vm := s.vm } : State) locs mc ms := by
    subst hA
    obtain ⟨e1, e2⟩ := hsame
    rw [State.setFrames_setFrames] at e1
    have h2 : (T.setVm s.vm).sameButNew ({ U with vm := s.vm } : State) [] (0 + 1) (0 + 6) := ⟨e1, e2⟩
    have h3 := X.same.trans h2
    rw [List.append_nil] at h3
    exact h3.mono hc hs
  refine ⟨U, ?_, .threw T.heap.size, hrun, hend, Or.inr ⟨T.heap.size, rfl, cls, ce, locs, hx U hWs.alike f1 (fun q hq => f2 q hq (fun z hz => nomatch hz)), hce, hO.vm, hcl, hWs, hall, hf⟩⟩
  refine st1 _ ?_
  show Steps p.tables e below (T1.setTop { method := m, pc := pc + 3, locals := ls, stack := .ref T.heap.size :: rest, locked := none }) _
  jvm_step X₁.here [X₁.here.top, hexec, d3', Value.category]
  exact X₁.ldcStringW hexec (own := own) (text := text) (index := is) (a := sa) hown' hstr'.1 hstr'.2
    (g := { method := m, pc := pc + 4, locals := ls, stack := .ref T.heap.size :: .ref T.heap.size :: rest, locked := none }) rfl d4' _ hsteps
end Ends
section Bodies
variable {l : Launch}
theorem vx_ofW {y : MethodName} {ws ws' : List Cond} {rm : Room} {Pc : Array Value → State → Prop} {Qc : Array Value → State → Outcome → State → Prop} {XC : String → State → State → Prop} {mc ms : Nat} {free : Addr → Prop} {cc : ByteArray} {maxL : Nat} {ret : Option FieldType}
    (hy : plainName y.cls = true) (hw : ws = Cond.code y cc maxL ret :: ws')
    (body : ∀ p e s m args below meth c s₁, BodyLoose p l y (headSpec ws rm) cc maxL ret e s m args below meth c s₁ → c.maxLocals = maxL → (∀ x ∈ c.exceptionTable.toList, False) → Pc args s →
      W p l e (headSpec ws rm).room s m args below meth c s.heap [] 0 0 (vx_MQ below Qc XC args s mc ms free) (entryFrame m args maxL)) : vx_Met l y ws rm Pc Qc XC mc ms free := by
  refine MetFree.of_bodyS (code := cc) (maxLocals := maxL) (ret := ret) hy ?_ ?_
  · intro args s m h hn
    obtain ⟨meth, c, h1, h2, h3, h4, h5, h6, -, -⟩ := Cond.code_spec hn (atoms_spec (ws := ws) h _ (by rw [hw]; exact List.mem_cons_self))
    exact ⟨meth, c, h1, h2, h3, h4, h5, h6⟩
  · intro p e s m args below meth c s₁ B hml hP _
    have hh0 : s₁.heap = s.heap := by rw [B.state]; rfl
    have ht : ∀ x ∈ c.exceptionTable.toList, False := by
      obtain ⟨meth9, c9, h1, h2, -, -, -, -, h7, -⟩ := Cond.code_spec B.named (atoms_spec (ws := ws) B.pre _ (by rw [hw]; exact List.mem_cons_self))
      cases Option.some.inj (h1.symm.trans B.method)
      cases Option.some.inj (h2.symm.trans (Stand.of_body B).code)
      intro x hx
      rw [Array.isEmpty_iff.mp h7] at hx
      cases hx
    obtain ⟨t, a1, o, b1, b2, b3⟩ := body p e s m args below meth c s₁ B hml ht hP s₁ hh0 (Stand.of_body B)
    exact ⟨t, o, a1, b1, b2, b3⟩
/-- the table of a body with handlers -/
theorem vx_table {p : Program} {x y : MethodName} {S : Spec} {cc bytes : ByteArray} {maxL maxL' : Nat} {ret ret' : Option FieldType} {e : Env} {s s₁ : State} {m : MethodId} {args : Array Value} {below : List Frame} {meth : Method} {c : Code} {hh : List (Nat × Nat × Nat × Nat)}
    (B : BodyLoose p l y S cc maxL ret e s m args below meth c s₁) (h : (Cond.codeWith y bytes maxL' ret' hh).before args s = true) : c.exceptionTable.toList = tableOf hh := by
  obtain ⟨m9, meth9, c9, hn9, h1, h2, -, -, h6, -⟩ := Cond.codeWith_spec h
  cases Option.some.inj (hn9.symm.trans B.named)
  cases Option.some.inj (h1.symm.trans B.method)
  cases Option.some.inj (h2.symm.trans (Stand.of_body B).code)
  rw [← h6, table_eq]
end Bodies
end VXA
/-! ===== END ===== -/
/-! ===== BEGIN a static call of a method with an exception table ===== -/
section VXS
variable {p : Program} {l : Launch} {e : Env} {R : Room} {s : State} {m : MethodId} {args : Array Value} {below : List Frame} {meth : Method} {c : Code} {T : State} {H : Heap} {locs : List Loc} {cells slots : Nat}
abbrev vx_CSW (R : Room) (s : State) (args : Array Value) (own : String) (index : Nat) (y : MethodName) (bytes : ByteArray) (maxL : Nat) (ret : Option FieldType) (hh : List (Nat × Nat × Nat × Nat)) (ws : List Cond) (rm : Room) (mc ms n : Nat) : Prop :=
  (rm.cells = mc ∧ rm.slots = ms ∧ rm.frames + 1 ≤ R.frames ∧ 8 + (maxL + 11) + rm.locals ≤ R.locals ∧ (∀ w ∈ ws, ∀ (a' : Array Value) (U : State), s.WarmedH U.vm → w.before a' U = true) ∧ Cond.codeWith y bytes maxL ret hh ∈ ws) ∧
  (Cond.codeWith y bytes maxL ret hh).before args s = true ∧ (Cond.initialized y.cls).before args s = true ∧ (y.cls ≠ "java/lang/invoke/MethodHandle" ∧ y.cls ≠ "java/lang/invoke/VarHandle") ∧
  (∀ sig, parseMethodDescriptor y.desc = some sig → n = sig.parameters.length) ∧ (Cond.methodLink own index y).before args s = true ∧ (Cond.static y).before args s = true
theorem vx_cwSW {own : String} {index maxL mc ms : Nat} {y : MethodName} {bytes : ByteArray} {ret : Option FieldType} {hh : List (Nat × Nat × Nat × Nat)} {Ts ws ws' : List Cond} {rm : Room} (n : Nat) (ht : ∀ w ∈ Ts, w.before args s = true) (hT : GoodIn Ts (va_wsS own index y ws)) (hw : ws = Cond.codeWith y bytes maxL ret hh :: ws') (hrc : rm.cells = mc) (hrs : rm.slots = ms)
    (hd : y.cls ≠ "java/lang/invoke/MethodHandle" ∧ y.cls ≠ "java/lang/invoke/VarHandle" ∧ (parseMethodDescriptor y.desc).map (fun d => d.parameters.length) = some n) (hR : rm.frames + 1 ≤ R.frames ∧ 8 + (maxL + 11) + rm.locals ≤ R.locals) :
    vx_CSW R s args own index y bytes maxL ret hh ws rm mc ms n := by
  have ok : ∀ w ∈ va_wsS own index y ws, w.before args s = true := fun w h => ht w (hT w h).1
  have hG : GoodIn Ts ws := fun w h => hT w (by unfold va_wsS; exact List.mem_append_right _ h)
  have hc : Cond.codeWith y bytes maxL ret hh ∈ ws := by rw [hw]; exact List.mem_cons_self
  refine ⟨⟨hrc, hrs, hR.1, hR.2, pay_in ht hG, hc⟩, ht _ (hG _ hc).1, ok _ (by simp [va_wsS]), ⟨hd.1, hd.2.1⟩, fun sig h => ?_, ok _ (by simp [va_wsS]), ok _ (by simp [va_wsS])⟩
  have h2 := hd.2.2
  rw [h] at h2
  exact (Option.some.inj h2).symm
theorem vx_callSW (X : Stand p l e R s m args below meth c T locs cells slots) (hexec : p.tables.exec = Jvm.exec) {own : String} {index : Nat} {y : MethodName} {bytes : ByteArray} {maxL : Nat} {ret : Option FieldType} {hh : List (Nat × Nat × Nat × Nat)}
    (hown : s.vm.findClass own = some m.cls) (hlink : (Cond.methodLink own index y).before args s = true) (hstat : (Cond.static y).before args s = true) (hinit : (Cond.initialized y.cls).before args s = true)
    (hcode : (Cond.codeWith y bytes maxL ret hh).before args s = true) (hy : y.cls ≠ "java/lang/invoke/MethodHandle" ∧ y.cls ≠ "java/lang/invoke/VarHandle")
    {W9 : Nat} {Pre : Pt → Array Value → Prop} {Post : Pt → Array Value → Option Value → Pt → Prop} (hK : Back l R p e below s args y 3 W9 Pre Post)
    {g : JFrame} (hg : g.method = m) (hsize : g.locals.size = c.maxLocals) {argsL rest : List Value} (hlen : ∀ sig, parseMethodDescriptor y.desc = some sig → argsL.length = sig.parameters.length)
    (hstack : g.stack = argsL.reverse ++ rest) (hW : 2 * g.monitorRoom + (rest.map fun v => v.category).sum ≤ W9) (hdg : decode c.code g.pc = .ok (.invokestatic index, 3))
    (hpre : ∀ vm₁, s.WarmedH vm₁ → Pre ⟨T.setVm vm₁, locs, cells, slots⟩ argsL.toArray) :
    ∃ (v : Option Value) (vm₁ : Vm) (B : Pt), s.WarmedH vm₁ ∧ Stand p l e R s m args below meth c B.U B.locs B.cells B.slots ∧ Post ⟨T.setVm vm₁, locs, cells, slots⟩ argsL.toArray v B ∧
      ∀ target, Steps p.tables e below (B.U.setTop { g with pc := g.pc + 3, stack := v.toList ++ rest }) target → Steps p.tables e below (T.setTop g) target := by
  obtain ⟨mk, methM, cM, hnamed, hmethM, -, -, -, -, -, -, hsigM⟩ := Cond.codeWith_spec hcode
  have hstatic : methM.isStatic = true := Cond.static_spec hnamed hmethM hstat
  obtain ⟨kP, hkP, -⟩ := className_of_methodNamed hnamed
  have hinitP : kP.init = .initialized := Cond.initialized_spec (findClass_of_methodNamed hnamed) hkP hinit
  obtain ⟨vm₁, X₁, hstep₁⟩ := X.invokestatic hexec hown hlink hnamed hmethM hstatic hkP hinitP hy (g := g) hg (argsL := argsL) (rest := rest) (hlen _ hsigM) hstack hdg
  obtain ⟨v, B, X', hpost, hsteps⟩ := hK m meth c ⟨T.setVm vm₁, locs, cells, slots⟩ { g with stack := rest } (.invokestatic index) mk argsL.toArray X₁ hg hsize hdg hW (X₁.named hnamed) (hpre vm₁ X₁.warmed)
  exact ⟨v, vm₁, B, X₁.warmed, X', hpost, fun target h => hstep₁ _ fun acts => by rw [doInvoke_state]; exact hsteps.trans h⟩
theorem vx_runSW {y : MethodName} {bytes cc : ByteArray} {maxL nL mc ms n index : Nat} {ret : Option FieldType} {hh : List (Nat × Nat × Nat × Nat)} {ws : List Cond} {rm : Room} {Pc : Array Value → State → Prop} {Qc : Array Value → State → Outcome → State → Prop} {free : Addr → Prop} {Ts : List Cond} {own : String} {As rest : List Value} {g : JFrame}
    (S : CallFix p m c cc nL s args Ts own) (hM : Met l y ws rm Pc Qc mc ms free) (cw : vx_CSW R s args own index y bytes maxL ret hh ws rm mc ms n) (hp : PreS s H Pc As)
    (hg : g.method = m) (hn : As.length = n) (hsize : g.locals.size = nL) (hstack : g.stack = As.reverse ++ rest) (hW : 2 * g.monitorRoom + (rest.map fun v => v.category).sum ≤ 8) (hdg : decode cc g.pc = .ok (.invokestatic index, 3)) (hf : cells + mc ≤ R.cells ∧ slots + ms ≤ R.slots) :
    va_Run p l e R s m args below meth c H locs cells slots mc ms g rest (Qc As.toArray) (free) := by
  obtain ⟨⟨hrc, hrs, hfr, hlo, hws, hcw⟩, hcode, hini, hy, hlen, hl, hstt⟩ := cw
  have hK : Back l R p e below s args y 3 8 (PreOf R mc ms Pc) (PostOf Qc mc ms free) := va_backW (hh := hh) (bytes := bytes) (maxL := maxL) (ret := ret) hM hp.1 hrc hrs hfr hlo hws hcw (fun a' U hW => word_at hW (Or.inl (by first | rfl | simp [Cond.onTables, Cond.keeps, Cond.steady])) hini)
  obtain ⟨hx, hb, hml, ho, -⟩ := S
  intro T hT X
  obtain ⟨v, vm₁, ⟨U', l2, c2, s2⟩, hW₁, X', ⟨g', mk, t, L, e1, e2, hq, h1, hL, h2, h3⟩, st⟩ := vx_callSW X hx (hh := hh) (bytes := bytes) (maxL := maxL) (ret := ret) ho hl hstt hini hcode hy hK hg (hsize.trans hml.symm) (argsL := As) (rest := rest) (fun sig h => hn.trans (hlen sig h)) hstack hW (by rw [hb]; exact hdg)
    (fun vm₁ hW₁ => ⟨hf.1, hf.2, hp.2 (T.setVm vm₁) hT hW₁⟩)
  dsimp only [Pt.U, Pt.locs, Pt.cells, Pt.slots] at X' e1 e2 h1 h2 h3 st
  subst h1; subst h2; subst h3
  exact ⟨v, (T.setVm vm₁).calling g' mk As.toArray, t, U', L, hT, X', hL, e1, e2, hq, st⟩
/-- not caught here, past rows that name other classes: it goes on to the caller -/
theorem vx_outP {p : Program} {l : Launch} {e : Env} {R : Room} {s : State} {m : MethodId} {args : Array Value} {below : List Frame} {meth : Method} {c : Code} {H : Heap} {locs : List Loc} {cells slots : Nat} {free : Addr → Prop} {ls : Array Slot} {rest : List Value} {Qc : Array Value → State → Outcome → State → Prop} {XC : String → State → State → Prop}
    {pc : Nat} {own E : String} {ce : Cell} {q : Addr} {mc ms : Nat} (hown : s.vm.findClass own = some m.cls) (hlocks : meth.locks = false)
    (hpass : ∀ z ∈ c.exceptionTable.toList, covers z pc = false ∨ (z.catchType ≠ 0 ∧ ∃ nm : String, (Cond.classLink own z.catchType nm).before args s = true ∧ va_Nc E nm s)) (hcell : H[q]? = some ce) (hv : ce.vm = .none) (hcl : s.vm.findClass E = some ce.cls)
    (hx : ∀ t : State, t.heap = H → s.vm.Alike t.vm → XC E s t) (hf : ∀ z ∈ locs, free z.base) (hc : cells ≤ mc) (hs : slots ≤ ms) :
    vx_W p l e R s m args below meth c H locs cells slots (vx_MQ below Qc XC args s mc ms free) (F0 m pc ls rest) q := by
  intro T hT X
  have hpl : e.platform.magicAccessors = ({} : Platform).magicAccessors := by rw [X.admits.platform]
  obtain ⟨vm', hW', X', st⟩ := X.outThrough hlocks q (g := F0 m pc ls rest) rfl rfl rfl (cell := ce) (by rw [hT]; exact hcell) (by rw [hv]; rfl)
    (by obtain ⟨k9, h9, -⟩ := Vm.findClass_spec hcl; exact ⟨k9, h9⟩) (fun z hz => by
      rcases hpass z hz with h | ⟨hz0, nm, hl1, hn1⟩
      · exact Or.inl h
      · obtain ⟨c6, hc6, hcl6⟩ := Cond.classLink_spec hown hl1 e.platform hpl
        obtain ⟨a8, b8, h1, h2, h3⟩ := hn1
        cases Option.some.inj (h1.symm.trans hcl)
        cases Option.some.inj (h2.symm.trans hc6)
        exact Or.inr ⟨hz0, _, hcl6, h3⟩)
  obtain ⟨g₀, hfr⟩ := X'.frames_eq
  have hcell9 : ((T.setVm vm').setFrames (.throwing q :: below)).heap[q]? = some ce := by
    show T.heap[q]? = some ce
    rw [hT]; exact hcell
  have hend : Ended ((T.setVm vm').setFrames (.throwing q :: below)) below (.threw q) := State.frames_setFrames _ (State.cur_lt_of_frames hfr)
  refine ⟨(T.setVm vm').setFrames (.throwing q :: below), ?_, .threw q, X'.here.running, hend, Or.inr ⟨q, rfl, E, ce, locs, hx _ hT (X'.ends _).1.alike, hcell9, hv, hcl, (X'.ends _).1, (X'.ends _).2.mono hc hs, hf⟩⟩
  rw [X.pushThrowing_eq]
  exact st
/-- a thing of a world lies in the heap -/
theorem vx_lt {D : va_G} {cl : List vw_C} {ws : va_W} {H1 : Heap} (h : va_P D cl ws H1) {k : Nat} {q : Nat × va_E} (hk : ws[k]? = some q) : q.1 < H1.size := (h k q hk).lt
end VXS
/-! ===== END ===== -/
/-! ===== BEGIN methods with a table of their own: called by a name, returning or throwing ===== -/
section VXH
/-! vx_backW, vx_callVX, vx_callSX, vx_callVW, vx_runVW, vx_runVX, vx_runSX, vx_ofWH follow the same proofs as their sisters above (Free/Laws.lean, Shelf42/LK1.lean); vx_outP calls Shelf42/NT130.lean (outThrough). -/
section
variable {l : Launch} {R : Room} {p : Program} {e : Env} {below : List Frame} {s : State} {sargs : Array Value} {y : MethodName} {len W9 : Nat}
theorem vx_backW {ws : List Cond} {rm : Room} {Pc : Array Value → State → Prop} {Qc : Array Value → State → Outcome → State → Prop} {XC : String → State → State → Prop} {mc ms : Nat} {free : Addr → Prop} {bytes : ByteArray} {maxL : Nat} {ret : Option FieldType} {hh : List (Nat × Nat × Nat × Nat)}
    (hM : vx_Met l y ws rm Pc Qc XC mc ms free) (hblind : FrameBlind Pc) (hrc : rm.cells = mc) (hrs : rm.slots = ms)
    (hframes : rm.frames + 1 ≤ R.frames) (hlocals : W9 + (maxL + 11) + rm.locals ≤ R.locals)
    (hws : ∀ w ∈ ws, ∀ a' U, s.WarmedH U.vm → w.before a' U = true) (hcode : Cond.codeWith y bytes maxL ret hh ∈ ws) (hinit : ∀ a' U, s.WarmedH U.vm → (Cond.initialized y.cls).before a' U = true) :
    vx_Back l R p e below s sargs y len W9 (PreOf R mc ms Pc) (PostOf Qc mc ms free) (vx_Post XC mc ms free) := by
  intro m meth c A g ig mk a X hg hsize hdg hW hn hp
  have h1 : (headSpec ws rm).pre.before a A.U = true := atoms_intro fun w hw => hws w hw _ _ X.warmed
  have h2 : (Cond.codeWith y bytes maxL ret hh).before a A.U = true := hws _ hcode _ _ X.warmed
  have h3 : (Cond.initialized y.cls).before a A.U = true := hinit _ _ X.warmed
  have h4 : A.cells + (headSpec ws rm).room.cells ≤ R.cells := by rw [show (headSpec ws rm).room.cells = mc from hrc]; exact hp.1
  have h5 : A.slots + (headSpec ws rm).room.slots ≤ R.slots := by rw [show (headSpec ws rm).room.slots = ms from hrs]; exact hp.2.1
  have hPc : Pc a (A.U.calling g mk a) := hblind _ _ _ _ hp.2.2
  obtain ⟨U, Ls, c0, s0⟩ := A
  dsimp only [Pt.U, Pt.locs, Pt.cells, Pt.slots] at h1 h2 h3 h4 h5 X hn hPc ⊢
  obtain ⟨m9, methY, cY, hn9, hmY, hcY, -, hlY, -⟩ := Cond.codeWith_spec h2
  cases Option.some.inj (hn9.symm.trans hn)
  obtain ⟨kY, hkY, -⟩ := className_of_methodNamed hn
  have hinitY : kY.init = .initialized := Cond.initialized_spec (findClass_of_methodNamed hn) hkY h3
  have h : At U g.method c below := by rw [hg]; exact X.here
  have hlocals9 : W9 + (maxL + 11) + (headSpec ws rm).room.locals ≤ R.locals := hlocals
  have happ : (headSpec ws rm).appliesLoose y e.platform (U.calling g mk a) = true :=
    Spec.appliesLoose_calling (g := g) h hdg hn hkY hinitY
      (X.room_calling (g := g) (R' := (headSpec ws rm).room) hsize hmY hcY hframes (by rw [hlY]; omega) h4 h5) h1
  obtain ⟨mid, hmid⟩ := h.above
  have hfr : (U.setTop g).frames = (.java g :: mid) ++ below := by rw [State.frames_setTop' g h.top, hmid]; rfl
  obtain ⟨o, s₂, hsteps, -, hend, hq⟩ := Steps.callFree hM p X.admits X.cas X.clock (acts := []) hfr happ hPc trivial
  have hq' : vx_Q Qc XC mc ms free a (U.calling g mk a) o s₂ := hq
  rw [State.frames_setTop' g h.top] at hend
  obtain ⟨g₀, hg0⟩ := Option.isSome_iff_exists.mp h.top
  obtain ⟨r, hr⟩ := State.topJava?_eq_some.mp hg0
  have hr' : (({ U with heap := s₂.heap, slotsUsed := s₂.slotsUsed } : State).setVm s₂.vm).frames = .java g₀ :: r := hr
  rcases hq' with ⟨hqc, L, hfe, hL⟩ | ⟨q, rfl, E, ce, L, hx, hce, hcv, hcl, hW₂, hsm, hL⟩
  · obtain ⟨⟨v, rfl⟩, hW₂, e2, q2, q3, q4, q5, q6⟩ := id hfe
    have e3 : s₂ = ({ (U.calling g mk a).setFrames s₂.frames with heap := s₂.heap, slotsUsed := s₂.slotsUsed } : State).setVm s₂.vm := by
      have : s₂ = ({ s₂ with vm := (U.calling g mk a).vm } : State).setVm s₂.vm := rfl
      rw [e2] at this
      exact this
    obtain ⟨c₂, i₂, len₂, hc₂, hd₂, hf₂⟩ := hend
    have hW' : U.WarmedH s₂.vm := hW₂
    have hcc : c₂ = c := by
      have h1 : s₂.code? g.method = U.code? g.method := by
        rw [State.code?_eq, State.code?_eq, hW'.alike.method?]
      exact Option.some.inj (hc₂.symm.trans (h1.trans h.code))
    subst hcc
    have hlen : len₂ = len := by rw [hdg] at hd₂; cases hd₂; rfl
    subst hlen
    have hs₂ : s₂ = (({ U with heap := s₂.heap, slotsUsed := s₂.slotsUsed } : State).setVm s₂.vm).setTop { g with pc := g.pc + len₂, stack := v.toList ++ g.stack } := by
      refine e3.trans ?_
      rw [hf₂, State.calling_eq h.top, State.setFrames_setFrames, State.setTop_of_frames _ hr', hr]
      rfl
    have hsame : U.sameButNew ({ U with heap := s₂.heap, slotsUsed := s₂.slotsUsed } : State) L mc ms := by
      refine ⟨?_, q2, q3, q4, q5, q6⟩
      obtain ⟨t, ht, -⟩ := State.frames_cons hr
      show ({ U with heap := s₂.heap, slotsUsed := s₂.slotsUsed } : State) = { U.setFrames U.frames with heap := s₂.heap, slotsUsed := s₂.slotsUsed }
      rw [State.setFrames_self ht]
    subst hg
    refine Or.inl ⟨v, ⟨(({ U with heap := s₂.heap, slotsUsed := s₂.slotsUsed } : State).setVm s₂.vm), Ls ++ L, c0 + mc, s0 + ms⟩,
      ⟨X.admits, X.cas, X.clock, X.frames, X.room, X.hears, X.method, X.code, (X.here.setHeapUsed s₂.heap s₂.slotsUsed).setVm hW'.alike, X.tail, State.WarmedH.trans X.warmed hW', X.limits, X.bytes, X.same.trans (hsame.setVm s.vm)⟩,
      ⟨g, mk, s₂, L, rfl, rfl, hqc, rfl, hL, rfl, rfl⟩, ?_⟩
    show Steps p.tables e below _ ((({ U with heap := s₂.heap, slotsUsed := s₂.slotsUsed } : State).setVm s₂.vm).setTop { g with pc := g.pc + len₂, stack := v.toList ++ g.stack })
    rw [← hs₂]
    exact hsteps
  · obtain ⟨e2, q2, q3, q4, q5, q6⟩ := id hsm
    have e3 : s₂ = ({ (U.calling g mk a).setFrames s₂.frames with heap := s₂.heap, slotsUsed := s₂.slotsUsed } : State).setVm s₂.vm := by
      have : s₂ = ({ s₂ with vm := (U.calling g mk a).vm } : State).setVm s₂.vm := rfl
      rw [e2] at this
      exact this
    have hf₂ : s₂.frames = .throwing q :: .java g :: U.frames.tail := hend
    have hW' : U.WarmedH s₂.vm := hW₂
    have hs₂ : s₂ = ((({ U with heap := s₂.heap, slotsUsed := s₂.slotsUsed } : State).setVm s₂.vm).setTop g).pushFrame (.throwing q) := by
      refine e3.trans ?_
      rw [hf₂, State.calling_eq h.top, State.setFrames_setFrames, State.pushFrame, State.frames_setTop _ hr', State.setTop_of_frames _ hr', State.setFrames_setFrames, hr]
      rfl
    have hsame : U.sameButNew ({ U with heap := s₂.heap, slotsUsed := s₂.slotsUsed } : State) L mc ms := by
      refine ⟨?_, q2, q3, q4, q5, q6⟩
      obtain ⟨t, ht, -⟩ := State.frames_cons hr
      show ({ U with heap := s₂.heap, slotsUsed := s₂.slotsUsed } : State) = { U.setFrames U.frames with heap := s₂.heap, slotsUsed := s₂.slotsUsed }
      rw [State.setFrames_self ht]
    subst hg
    refine Or.inr ⟨q, ⟨(({ U with heap := s₂.heap, slotsUsed := s₂.slotsUsed } : State).setVm s₂.vm), Ls ++ L, c0 + mc, s0 + ms⟩,
      ⟨X.admits, X.cas, X.clock, X.frames, X.room, X.hears, X.method, X.code, (X.here.setHeapUsed s₂.heap s₂.slotsUsed).setVm hW'.alike, X.tail, State.WarmedH.trans X.warmed hW', X.limits, X.bytes, X.same.trans (hsame.setVm s.vm)⟩,
      ⟨g, mk, s₂, L, E, ce, rfl, rfl, hx, hce, hcv, hcl, rfl, hL, rfl, rfl⟩, ?_⟩
    show Steps p.tables e below _ (((({ U with heap := s₂.heap, slotsUsed := s₂.slotsUsed } : State).setVm s₂.vm).setTop g).pushFrame (.throwing q))
    rw [← hs₂]
    exact hsteps
end
variable {p : Program} {l : Launch} {e : Env} {R : Room} {s : State} {m : MethodId} {args : Array Value} {below : List Frame} {meth : Method} {c : Code} {T : State} {H : Heap} {locs : List Loc} {cells slots : Nat}
theorem vx_callVX (X : Stand p l e R s m args below meth c T locs cells slots) (hexec : p.tables.exec = Jvm.exec) {own C : String} {index : Nat} {y : MethodName} {bytes : ByteArray} {maxL : Nat} {ret : Option FieldType} {hh : List (Nat × Nat × Nat × Nat)}
    (hown : s.vm.findClass own = some m.cls) (hlink : (Cond.methodLink own index y).before args s = true) (hinst : (Cond.instanceMethod y).before args s = true) (hsel : (Cond.selects C y y).before args s = true)
    (hcode : (Cond.codeWith y bytes maxL ret hh).before args s = true) (hy : y.cls ≠ "java/lang/invoke/MethodHandle" ∧ y.cls ≠ "java/lang/invoke/VarHandle")
    {W9 : Nat} {Pre : Pt → Array Value → Prop} {Post : Pt → Array Value → Option Value → Pt → Prop} {PostX : Pt → Array Value → Addr → Pt → Prop} (hK : vx_Back l R p e below s args y 3 W9 Pre Post PostX)
    {b : Addr} {cellB : Cell} (hcell : T.heap[b]? = some cellB) (hobj : cellB.vm.isStatics = false) (hcls : s.vm.findClass C = some cellB.cls)
    {g : JFrame} (hg : g.method = m) (hsize : g.locals.size = c.maxLocals) {argsL rest : List Value} (hlen : ∀ sig, parseMethodDescriptor y.desc = some sig → argsL.length = sig.parameters.length)
    (hstack : g.stack = argsL.reverse ++ .ref b :: rest) (hW : 2 * g.monitorRoom + (rest.map fun v => v.category).sum ≤ W9) (hdg : decode c.code g.pc = .ok (.invokevirtual index, 3))
    (hpre : ∀ vm₁, s.WarmedH vm₁ → Pre ⟨T.setVm vm₁, locs, cells, slots⟩ (Value.ref b :: argsL).toArray) :
    (∃ (v : Option Value) (vm₁ : Vm) (B : Pt), s.WarmedH vm₁ ∧ Stand p l e R s m args below meth c B.U B.locs B.cells B.slots ∧ Post ⟨T.setVm vm₁, locs, cells, slots⟩ (Value.ref b :: argsL).toArray v B ∧
      ∀ target, Steps p.tables e below (B.U.setTop { g with pc := g.pc + 3, stack := v.toList ++ rest }) target → Steps p.tables e below (T.setTop g) target) ∨
    (∃ (q : Addr) (vm₁ : Vm) (B : Pt), s.WarmedH vm₁ ∧ Stand p l e R s m args below meth c B.U B.locs B.cells B.slots ∧ PostX ⟨T.setVm vm₁, locs, cells, slots⟩ (Value.ref b :: argsL).toArray q B ∧
      Steps p.tables e below (T.setTop g) ((B.U.setTop { g with stack := rest }).pushFrame (.throwing q))) := by
  obtain ⟨mk, methM, hnamed, hmethM, hstM, habM⟩ := Cond.instanceMethod_spec hinst
  obtain ⟨m8, methM', cM, hn8, hmethM', -, -, -, -, -, -, hsigM⟩ := Cond.codeWith_spec hcode
  cases Option.some.inj (hn8.symm.trans hnamed)
  cases hmethM.symm.trans hmethM'
  obtain ⟨c2, r2, m2, q1, q2, q3, q4, kP, hkP, hkPi⟩ := Cond.selects_spec hsel
  cases hcls.symm.trans q1
  cases (State.methodFound?_of_named hnamed hy).symm.trans q2
  cases hnamed.symm.trans q3
  have hselP : selectMethod e.platform s.vm cellB.cls mk = .method mk := by rw [Launch.admits_selectMethod X.admits]; exact q4
  obtain ⟨vm₁, X₁, hstep₁⟩ := X.invokevirtual hexec hown hlink hnamed hmethM hstM hkP hkPi hy (a := b) (cell := cellB) hcell
    (fun z h => by rw [h] at hobj; cases hobj) hselP hmethM habM hkP hkPi (g := g) hg (argsL := argsL) (rest := rest) (hlen _ hsigM) hstack hdg
  rcases hK m meth c ⟨T.setVm vm₁, locs, cells, slots⟩ { g with stack := rest } (.invokevirtual index) mk (Value.ref b :: argsL).toArray X₁ hg hsize hdg hW (X₁.named hnamed) (hpre vm₁ X₁.warmed) with ⟨v, B, X', hpost, hsteps⟩ | ⟨q, B, X', hpost, hsteps⟩
  · exact Or.inl ⟨v, vm₁, B, X₁.warmed, X', hpost, fun target h => hstep₁ _ fun acts => by rw [doInvoke_state]; exact hsteps.trans h⟩
  · exact Or.inr ⟨q, vm₁, B, X₁.warmed, X', hpost, hstep₁ _ fun acts => by rw [doInvoke_state]; exact hsteps⟩
theorem vx_callSX (X : Stand p l e R s m args below meth c T locs cells slots) (hexec : p.tables.exec = Jvm.exec) {own : String} {index : Nat} {y : MethodName} {bytes : ByteArray} {maxL : Nat} {ret : Option FieldType} {hh : List (Nat × Nat × Nat × Nat)}
    (hown : s.vm.findClass own = some m.cls) (hlink : (Cond.methodLink own index y).before args s = true) (hstat : (Cond.static y).before args s = true) (hinit : (Cond.initialized y.cls).before args s = true)
    (hcode : (Cond.codeWith y bytes maxL ret hh).before args s = true) (hy : y.cls ≠ "java/lang/invoke/MethodHandle" ∧ y.cls ≠ "java/lang/invoke/VarHandle")
    {W9 : Nat} {Pre : Pt → Array Value → Prop} {Post : Pt → Array Value → Option Value → Pt → Prop} {PostX : Pt → Array Value → Addr → Pt → Prop} (hK : vx_Back l R p e below s args y 3 W9 Pre Post PostX)
    {g : JFrame} (hg : g.method = m) (hsize : g.locals.size = c.maxLocals) {argsL rest : List Value} (hlen : ∀ sig, parseMethodDescriptor y.desc = some sig → argsL.length = sig.parameters.length)
    (hstack : g.stack = argsL.reverse ++ rest) (hW : 2 * g.monitorRoom + (rest.map fun v => v.category).sum ≤ W9) (hdg : decode c.code g.pc = .ok (.invokestatic index, 3))
    (hpre : ∀ vm₁, s.WarmedH vm₁ → Pre ⟨T.setVm vm₁, locs, cells, slots⟩ argsL.toArray) :
    (∃ (v : Option Value) (vm₁ : Vm) (B : Pt), s.WarmedH vm₁ ∧ Stand p l e R s m args below meth c B.U B.locs B.cells B.slots ∧ Post ⟨T.setVm vm₁, locs, cells, slots⟩ argsL.toArray v B ∧
      ∀ target, Steps p.tables e below (B.U.setTop { g with pc := g.pc + 3, stack := v.toList ++ rest }) target → Steps p.tables e below (T.setTop g) target) ∨
    (∃ (q : Addr) (vm₁ : Vm) (B : Pt), s.WarmedH vm₁ ∧ Stand p l e R s m args below meth c B.U B.locs B.cells B.slots ∧ PostX ⟨T.setVm vm₁, locs, cells, slots⟩ argsL.toArray q B ∧
      Steps p.tables e below (T.setTop g) ((B.U.setTop { g with stack := rest }).pushFrame (.throwing q))) := by
  obtain ⟨mk, methM, cM, hnamed, hmethM, -, -, -, -, -, -, hsigM⟩ := Cond.codeWith_spec hcode
  have hstatic : methM.isStatic = true := Cond.static_spec hnamed hmethM hstat
  obtain ⟨kP, hkP, -⟩ := className_of_methodNamed hnamed
  have hinitP : kP.init = .initialized := Cond.initialized_spec (findClass_of_methodNamed hnamed) hkP hinit
  obtain ⟨vm₁, X₁, hstep₁⟩ := X.invokestatic hexec hown hlink hnamed hmethM hstatic hkP hinitP hy (g := g) hg (argsL := argsL) (rest := rest) (hlen _ hsigM) hstack hdg
  rcases hK m meth c ⟨T.setVm vm₁, locs, cells, slots⟩ { g with stack := rest } (.invokestatic index) mk argsL.toArray X₁ hg hsize hdg hW (X₁.named hnamed) (hpre vm₁ X₁.warmed) with ⟨v, B, X', hpost, hsteps⟩ | ⟨q, B, X', hpost, hsteps⟩
  · exact Or.inl ⟨v, vm₁, B, X₁.warmed, X', hpost, fun target h => hstep₁ _ fun acts => by rw [doInvoke_state]; exact hsteps.trans h⟩
  · exact Or.inr ⟨q, vm₁, B, X₁.warmed, X', hpost, hstep₁ _ fun acts => by rw [doInvoke_state]; exact hsteps⟩
theorem vx_callVW (X : Stand p l e R s m args below meth c T locs cells slots) (hexec : p.tables.exec = Jvm.exec) {own C : String} {index : Nat} {y : MethodName} {bytes : ByteArray} {maxL : Nat} {ret : Option FieldType} {hh : List (Nat × Nat × Nat × Nat)}
    (hown : s.vm.findClass own = some m.cls) (hlink : (Cond.methodLink own index y).before args s = true) (hinst : (Cond.instanceMethod y).before args s = true) (hsel : (Cond.selects C y y).before args s = true)
    (hcode : (Cond.codeWith y bytes maxL ret hh).before args s = true) (hy : y.cls ≠ "java/lang/invoke/MethodHandle" ∧ y.cls ≠ "java/lang/invoke/VarHandle")
    {W9 : Nat} {Pre : Pt → Array Value → Prop} {Post : Pt → Array Value → Option Value → Pt → Prop} (hK : Back l R p e below s args y 3 W9 Pre Post)
    {b : Addr} {cellB : Cell} (hcell : T.heap[b]? = some cellB) (hobj : cellB.vm.isStatics = false) (hcls : s.vm.findClass C = some cellB.cls)
    {g : JFrame} (hg : g.method = m) (hsize : g.locals.size = c.maxLocals) {argsL rest : List Value} (hlen : ∀ sig, parseMethodDescriptor y.desc = some sig → argsL.length = sig.parameters.length)
    (hstack : g.stack = argsL.reverse ++ .ref b :: rest) (hW : 2 * g.monitorRoom + (rest.map fun v => v.category).sum ≤ W9) (hdg : decode c.code g.pc = .ok (.invokevirtual index, 3))
    (hpre : ∀ vm₁, s.WarmedH vm₁ → Pre ⟨T.setVm vm₁, locs, cells, slots⟩ (Value.ref b :: argsL).toArray) :
    ∃ (v : Option Value) (vm₁ : Vm) (B : Pt), s.WarmedH vm₁ ∧ Stand p l e R s m args below meth c B.U B.locs B.cells B.slots ∧ Post ⟨T.setVm vm₁, locs, cells, slots⟩ (Value.ref b :: argsL).toArray v B ∧
      ∀ target, Steps p.tables e below (B.U.setTop { g with pc := g.pc + 3, stack := v.toList ++ rest }) target → Steps p.tables e below (T.setTop g) target := by
  obtain ⟨mk, methM, hnamed, hmethM, hstM, habM⟩ := Cond.instanceMethod_spec hinst
  obtain ⟨m8, methM', cM, hn8, hmethM', -, -, -, -, -, -, hsigM⟩ := Cond.codeWith_spec hcode
  cases Option.some.inj (hn8.symm.trans hnamed)
  cases hmethM.symm.trans hmethM'
  obtain ⟨c2, r2, m2, q1, q2, q3, q4, kP, hkP, hkPi⟩ := Cond.selects_spec hsel
  cases hcls.symm.trans q1
  cases (State.methodFound?_of_named hnamed hy).symm.trans q2
  cases hnamed.symm.trans q3
  have hselP : selectMethod e.platform s.vm cellB.cls mk = .method mk := by rw [Launch.admits_selectMethod X.admits]; exact q4
  obtain ⟨vm₁, X₁, hstep₁⟩ := X.invokevirtual hexec hown hlink hnamed hmethM hstM hkP hkPi hy (a := b) (cell := cellB) hcell
    (fun z h => by rw [h] at hobj; cases hobj) hselP hmethM habM hkP hkPi (g := g) hg (argsL := argsL) (rest := rest) (hlen _ hsigM) hstack hdg
  obtain ⟨v, B, X', hpost, hsteps⟩ := hK m meth c ⟨T.setVm vm₁, locs, cells, slots⟩ { g with stack := rest } (.invokevirtual index) mk (Value.ref b :: argsL).toArray X₁ hg hsize hdg hW (X₁.named hnamed) (hpre vm₁ X₁.warmed)
  exact ⟨v, vm₁, B, X₁.warmed, X', hpost, fun target h => hstep₁ _ fun acts => by rw [doInvoke_state]; exact hsteps.trans h⟩
abbrev vx_CVW (R : Room) (s : State) (args : Array Value) (own C : String) (index : Nat) (y : MethodName) (bytes : ByteArray) (maxL : Nat) (ret : Option FieldType) (hh : List (Nat × Nat × Nat × Nat)) (ws : List Cond) (rm : Room) (mc ms n : Nat) : Prop :=
  (rm.cells = mc ∧ rm.slots = ms ∧ rm.frames + 1 ≤ R.frames ∧ 8 + (maxL + 11) + rm.locals ≤ R.locals ∧ (∀ w ∈ ws, ∀ (a' : Array Value) (U : State), s.WarmedH U.vm → w.before a' U = true) ∧ Cond.codeWith y bytes maxL ret hh ∈ ws) ∧
  (Cond.codeWith y bytes maxL ret hh).before args s = true ∧ (Cond.initialized y.cls).before args s = true ∧ (y.cls ≠ "java/lang/invoke/MethodHandle" ∧ y.cls ≠ "java/lang/invoke/VarHandle") ∧
  (∀ sig, parseMethodDescriptor y.desc = some sig → n = sig.parameters.length) ∧ (Cond.methodLink own index y).before args s = true ∧ (Cond.instanceMethod y).before args s = true ∧ (Cond.selects C y y).before args s = true
theorem vx_cwVW {own C : String} {index maxL mc ms : Nat} {y : MethodName} {bytes : ByteArray} {ret : Option FieldType} {hh : List (Nat × Nat × Nat × Nat)} {Ts ws ws' : List Cond} {rm : Room} (n : Nat) (ht : ∀ w ∈ Ts, w.before args s = true) (hT : GoodIn Ts (wsV own index C y ws)) (hw : ws = Cond.codeWith y bytes maxL ret hh :: ws') (hrc : rm.cells = mc) (hrs : rm.slots = ms)
    (hd : y.cls = C ∧ y.cls ≠ "java/lang/invoke/MethodHandle" ∧ y.cls ≠ "java/lang/invoke/VarHandle" ∧ (parseMethodDescriptor y.desc).map (fun d => d.parameters.length) = some n) (hR : rm.frames + 1 ≤ R.frames ∧ 8 + (maxL + 11) + rm.locals ≤ R.locals) :
    vx_CVW R s args own C index y bytes maxL ret hh ws rm mc ms n := by
  obtain ⟨hC, hd⟩ := hd
  subst hC
  have ok : ∀ w ∈ wsV own index y.cls y ws, w.before args s = true := fun w h => ht w (hT w h).1
  have hG : GoodIn Ts ws := fun w h => hT w (by unfold wsV; exact List.mem_append_right _ h)
  have hc : Cond.codeWith y bytes maxL ret hh ∈ ws := by rw [hw]; exact List.mem_cons_self
  refine ⟨⟨hrc, hrs, hR.1, hR.2, pay_in ht hG, hc⟩, ht _ (hG _ hc).1, ok _ (by simp [wsV]), ⟨hd.1, hd.2.1⟩, fun sig h => ?_, ok _ (by simp [wsV]), ok _ (by simp [wsV]), ok _ (by simp [wsV])⟩
  have h2 := hd.2.2
  rw [h] at h2
  exact (Option.some.inj h2).symm
theorem vx_runVW {y : MethodName} {bytes cc : ByteArray} {maxL nL mc ms n index : Nat} {ret : Option FieldType} {hh : List (Nat × Nat × Nat × Nat)} {ws : List Cond} {rm : Room} {Pc : Array Value → State → Prop} {Qc : Array Value → State → Outcome → State → Prop} {free : Addr → Prop} {Ts : List Cond} {own C : String} {b : Addr} {As rest : List Value} {g : JFrame}
    (S : CallFix p m c cc nL s args Ts own) (hM : Met l y ws rm Pc Qc mc ms free) (cw : vx_CVW R s args own C index y bytes maxL ret hh ws rm mc ms n) (hp : PreV s H C b Pc As)
    (hg : g.method = m) (hn : As.length = n) (hsize : g.locals.size = nL) (hstack : g.stack = As.reverse ++ .ref b :: rest) (hW : 2 * g.monitorRoom + (rest.map fun v => v.category).sum ≤ 8) (hdg : decode cc g.pc = .ok (.invokevirtual index, 3)) (hf : cells + mc ≤ R.cells ∧ slots + ms ≤ R.slots) :
    va_Run p l e R s m args below meth c H locs cells slots mc ms g rest (Qc (Value.ref b :: As).toArray) free := by
  obtain ⟨⟨hrc, hrs, hfr, hlo, hws, hcw⟩, hcode, hini, hy, hlen, hl, hin, hse⟩ := cw
  have hK : Back l R p e below s args y 3 8 (PreOf R mc ms Pc) (PostOf Qc mc ms free) := va_backW (hh := hh) (bytes := bytes) (maxL := maxL) (ret := ret) hM hp.1 hrc hrs hfr hlo hws hcw (fun a' U hW => word_at hW (Or.inl (by first | rfl | simp [Cond.onTables, Cond.keeps, Cond.steady])) hini)
  obtain ⟨hx, hb, hml, ho, -⟩ := S
  obtain ⟨-, ⟨cellB, hcB, hoB, hclB⟩, hPc⟩ := hp
  intro T hT X
  obtain ⟨v, vm₁, ⟨U', l2, c2, s2⟩, hW₁, X', ⟨g', mk, t, L, e1, e2, hq, h1, hL, h2, h3⟩, st⟩ := vx_callVW X hx (C := C) (hh := hh) (bytes := bytes) (maxL := maxL) (ret := ret) ho hl hin hse hcode hy hK (by rw [hT]; exact hcB) hoB hclB hg (hsize.trans hml.symm) (argsL := As) (rest := rest) (fun sig h => hn.trans (hlen sig h)) hstack hW (by rw [hb]; exact hdg)
    (fun vm₁ hW₁ => ⟨hf.1, hf.2, hPc (T.setVm vm₁) hT hW₁⟩)
  dsimp only [Pt.U, Pt.locs, Pt.cells, Pt.slots] at X' e1 e2 h1 h2 h3 st
  subst h1; subst h2; subst h3
  exact ⟨v, (T.setVm vm₁).calling g' mk (Value.ref b :: As).toArray, t, U', L, hT, X', hL, e1, e2, hq, st⟩
section
variable {y : MethodName} {bytes cc : ByteArray} {maxL nL mc ms n index : Nat} {ret : Option FieldType} {ws : List Cond} {rm : Room} {Pc : Array Value → State → Prop} {Qc : Array Value → State → Outcome → State → Prop} {XC : String → State → State → Prop} {free : Addr → Prop} {Ts : List Cond} {own C : String} {b : Addr} {As rest : List Value} {g : JFrame}
theorem vx_runVX {hh : List (Nat × Nat × Nat × Nat)} (S : CallFix p m c cc nL s args Ts own) (hM : vx_Met l y ws rm Pc Qc XC mc ms free) (cw : vx_CVW R s args own C index y bytes maxL ret hh ws rm mc ms n) (hp : PreV s H C b Pc As)
    (hg : g.method = m) (hn : As.length = n) (hsize : g.locals.size = nL) (hstack : g.stack = As.reverse ++ .ref b :: rest) (hW : 2 * g.monitorRoom + (rest.map fun v => v.category).sum ≤ 8) (hdg : decode cc g.pc = .ok (.invokevirtual index, 3)) (hf : cells + mc ≤ R.cells ∧ slots + ms ≤ R.slots) :
    vx_Run p l e R s m args below meth c H locs cells slots mc ms g rest (Qc (Value.ref b :: As).toArray) XC free := by
  obtain ⟨⟨hrc, hrs, hfr, hlo, hws, hcw⟩, hcode, hini, hy, hlen, hl, hin, hse⟩ := cw
  have hK : vx_Back l R p e below s args y 3 8 (PreOf R mc ms Pc) (PostOf Qc mc ms free) (vx_Post XC mc ms free) := vx_backW (hh := hh) (bytes := bytes) (maxL := maxL) (ret := ret) hM hp.1 hrc hrs hfr hlo hws hcw (fun a' U hW => word_at hW (Or.inl (by first | rfl | simp [Cond.onTables, Cond.keeps, Cond.steady])) hini)
  obtain ⟨hx, hb, hml, ho, -⟩ := S
  obtain ⟨-, ⟨cellB, hcB, hoB, hclB⟩, hPc⟩ := hp
  intro T hT X
  rcases vx_callVX X hx (C := C) (hh := hh) (bytes := bytes) (maxL := maxL) (ret := ret) ho hl hin hse hcode hy hK (by rw [hT]; exact hcB) hoB hclB hg (hsize.trans hml.symm) (argsL := As) (rest := rest) (fun sig h => hn.trans (hlen sig h)) hstack hW (by rw [hb]; exact hdg)
    (fun vm₁ hW₁ => ⟨hf.1, hf.2, hPc (T.setVm vm₁) hT hW₁⟩) with ⟨v, vm₁, ⟨U', l2, c2, s2⟩, hW₁, X', ⟨g', mk, t, L, e1, e2, hq, h1, hL, h2, h3⟩, st⟩ | ⟨q, vm₁, ⟨U', l2, c2, s2⟩, hW₁, X', ⟨g', mk, t, L, E, ce, e1, e2, hq, hce, hcv, hcl, h1, hL, h2, h3⟩, st⟩
  · dsimp only [Pt.U, Pt.locs, Pt.cells, Pt.slots] at X' e1 e2 h1 h2 h3 st
    subst h1; subst h2; subst h3
    exact Or.inl ⟨v, (T.setVm vm₁).calling g' mk (Value.ref b :: As).toArray, t, U', L, hT, X', hL, e1, e2, hq, st⟩
  · dsimp only [Pt.U, Pt.locs, Pt.cells, Pt.slots] at X' e1 e2 h1 h2 h3 st hcl
    subst h1; subst h2; subst h3
    exact Or.inr ⟨q, (T.setVm vm₁).calling g' mk (Value.ref b :: As).toArray, t, U', L, E, ce, hT, X', hL, e1, e2, hq, hce, hcv, vx_cls hW₁ hcl, st⟩
theorem vx_runSX {hh : List (Nat × Nat × Nat × Nat)} (S : CallFix p m c cc nL s args Ts own) (hM : vx_Met l y ws rm Pc Qc XC mc ms free) (cw : vx_CSW R s args own index y bytes maxL ret hh ws rm mc ms n) (hp : PreS s H Pc As)
    (hg : g.method = m) (hn : As.length = n) (hsize : g.locals.size = nL) (hstack : g.stack = As.reverse ++ rest) (hW : 2 * g.monitorRoom + (rest.map fun v => v.category).sum ≤ 8) (hdg : decode cc g.pc = .ok (.invokestatic index, 3)) (hf : cells + mc ≤ R.cells ∧ slots + ms ≤ R.slots) :
    vx_Run p l e R s m args below meth c H locs cells slots mc ms g rest (Qc As.toArray) XC free := by
  obtain ⟨⟨hrc, hrs, hfr, hlo, hws, hcw⟩, hcode, hini, hy, hlen, hl, hstt⟩ := cw
  have hK : vx_Back l R p e below s args y 3 8 (PreOf R mc ms Pc) (PostOf Qc mc ms free) (vx_Post XC mc ms free) := vx_backW (hh := hh) (bytes := bytes) (maxL := maxL) (ret := ret) hM hp.1 hrc hrs hfr hlo hws hcw (fun a' U hW => word_at hW (Or.inl (by first | rfl | simp [Cond.onTables, Cond.keeps, Cond.steady])) hini)
  obtain ⟨hx, hb, hml, ho, -⟩ := S
  intro T hT X
  rcases vx_callSX X hx (hh := hh) (bytes := bytes) (maxL := maxL) (ret := ret) ho hl hstt hini hcode hy hK hg (hsize.trans hml.symm) (argsL := As) (rest := rest) (fun sig h => hn.trans (hlen sig h)) hstack hW (by rw [hb]; exact hdg)
    (fun vm₁ hW₁ => ⟨hf.1, hf.2, hp.2 (T.setVm vm₁) hT hW₁⟩) with ⟨v, vm₁, ⟨U', l2, c2, s2⟩, hW₁, X', ⟨g', mk, t, L, e1, e2, hq, h1, hL, h2, h3⟩, st⟩ | ⟨q, vm₁, ⟨U', l2, c2, s2⟩, hW₁, X', ⟨g', mk, t, L, E, ce, e1, e2, hq, hce, hcv, hcl, h1, hL, h2, h3⟩, st⟩
  · dsimp only [Pt.U, Pt.locs, Pt.cells, Pt.slots] at X' e1 e2 h1 h2 h3 st
    subst h1; subst h2; subst h3
    exact Or.inl ⟨v, (T.setVm vm₁).calling g' mk As.toArray, t, U', L, hT, X', hL, e1, e2, hq, st⟩
  · dsimp only [Pt.U, Pt.locs, Pt.cells, Pt.slots] at X' e1 e2 h1 h2 h3 st hcl
    subst h1; subst h2; subst h3
    exact Or.inr ⟨q, (T.setVm vm₁).calling g' mk As.toArray, t, U', L, E, ce, hT, X', hL, e1, e2, hq, hce, hcv, vx_cls hW₁ hcl, st⟩
end
end VXH
theorem vx_ofWH {l : Launch} {y : MethodName} {ws ws' : List Cond} {rm : Room} {Pc : Array Value → State → Prop} {Qc : Array Value → State → Outcome → State → Prop} {XC : String → State → State → Prop} {mc ms : Nat} {free : Addr → Prop} {cc : ByteArray} {maxL : Nat} {ret : Option FieldType} {hh : List (Nat × Nat × Nat × Nat)}
    (hy : plainName y.cls = true) (hw : ws = Cond.codeWith y cc maxL ret hh :: ws')
    (body : ∀ p e s m args below meth c s₁, BodyLoose p l y (headSpec ws rm) cc maxL ret e s m args below meth c s₁ → c.maxLocals = maxL → Pc args s →
      W p l e (headSpec ws rm).room s m args below meth c s.heap [] 0 0 (vx_MQ below Qc XC args s mc ms free) (entryFrame m args maxL)) : vx_Met l y ws rm Pc Qc XC mc ms free := by
  refine MetFree.of_bodyS (code := cc) (maxLocals := maxL) (ret := ret) hy ?_ ?_
  · intro args s m h hn
    obtain ⟨m9, meth, c, hn9, h1, h2, h3, h4, -, h5, h6, -⟩ := Cond.codeWith_spec (atoms_spec (ws := ws) h _ (by rw [hw]; exact List.mem_cons_self))
    cases hn.symm.trans hn9
    exact ⟨meth, c, h1, h2, h3, h4, h5, h6⟩
  · intro p e s m args below meth c s₁ B hml hP _
    have hh0 : s₁.heap = s.heap := by rw [B.state]; rfl
    obtain ⟨t, a1, o, b1, b2, b3⟩ := body p e s m args below meth c s₁ B hml hP s₁ hh0 (Stand.of_body B)
    exact ⟨t, o, a1, b1, b2, b3⟩
/-! ===== END ===== -/
end
section
/-! ===== BEGIN printed: names, fields, word lists, decode rows ===== -/
def RX0 : String := "ArrowDiagrams$Cells"
def TX0 : u_T := fun k => match k with
  | 0 => ("ArrowDiagrams$Cells", "total", "I", false)
  | 1 => ("ArrowDiagrams$Cells", "origins", "LArrowDiagrams$Row;", true)
  | 2 => ("ArrowDiagrams$Cells", "lengths", "LArrowDiagrams$Row;", true)
  | 3 => ("ArrowDiagrams$Cells", "letters", "LArrowDiagrams$Grid;", true)
  | _ => ("ArrowDiagrams$Cells", "numbers", "LArrowDiagrams$Row;", true)
def tyX0 : Nat → FieldType := fun k => match k with
  | 0 => .int
  | 1 => .object "ArrowDiagrams$Row"
  | 2 => .object "ArrowDiagrams$Row"
  | 3 => .object "ArrowDiagrams$Grid"
  | _ => .object "ArrowDiagrams$Row"
abbrev wsX00 : List Cond := u_ws RX0 TX0 5
theorem nmX0 : ∀ a, a < 5 → ∀ b, b < 5 → a ≠ b → (TX0 a).2.1 ≠ (TX0 b).2.1 := by decide +kernel
theorem tyX0_ok : ∀ k, k < 5 → parseFieldDescriptor (TX0 k).2.2.1 = some (tyX0 k) := by decide +kernel
abbrev cX0_init : ByteArray := prog_2_method_1_code
def yX0_init : MethodName := ⟨RX0, "<init>", "()V"⟩
abbrev cX0_clear : ByteArray := prog_2_method_2_code
def yX0_clear : MethodName := ⟨RX0, "clear", "()V"⟩
abbrev cX0_become : ByteArray := prog_2_method_3_code
def yX0_become : MethodName := ⟨RX0, "become", "(LArrowDiagrams$Cells;)V"⟩
abbrev cX0_total : ByteArray := prog_2_method_4_code
def yX0_total : MethodName := ⟨RX0, "total", "()I"⟩
abbrev cX0_open : ByteArray := prog_2_method_5_code
def yX0_open : MethodName := ⟨RX0, "open", "(I)I"⟩
abbrev cX0_lengthen : ByteArray := prog_2_method_6_code
def yX0_lengthen : MethodName := ⟨RX0, "lengthen", "(II)V"⟩
abbrev cX0_remove : ByteArray := prog_2_method_7_code
def yX0_remove : MethodName := ⟨RX0, "remove", "(I)V"⟩
abbrev cX0_removeAllWith : ByteArray := prog_2_method_8_code
def yX0_removeAllWith : MethodName := ⟨RX0, "removeAllWith", "(I)I"⟩
abbrev cX0_renumber : ByteArray := prog_2_method_9_code
def yX0_renumber : MethodName := ⟨RX0, "renumber", "(LArrowDiagrams$Paths;)V"⟩
abbrev cX0_pathOf : ByteArray := prog_2_method_10_code
def yX0_pathOf : MethodName := ⟨RX0, "pathOf", "(II)I"⟩
abbrev cX0_occurs : ByteArray := prog_2_method_11_code
def yX0_occurs : MethodName := ⟨RX0, "occurs", "(III)Z"⟩
abbrev cX0_move : ByteArray := prog_2_method_12_code
def yX0_move : MethodName := ⟨RX0, "move", "(II)V"⟩
def RX1 : String := "ArrowDiagrams$Functions"
def TX1 : u_T := fun k => match k with
  | 0 => ("ArrowDiagrams$Functions", "sizes", "LArrowDiagrams$Row;", true)
  | _ => ("ArrowDiagrams$Functions", "codes", "LArrowDiagrams$Row;", true)
def tyX1 : Nat → FieldType := fun k => match k with
  | 0 => .object "ArrowDiagrams$Row"
  | _ => .object "ArrowDiagrams$Row"
abbrev wsX10 : List Cond := u_ws RX1 TX1 2
theorem nmX1 : ∀ a, a < 2 → ∀ b, b < 2 → a ≠ b → (TX1 a).2.1 ≠ (TX1 b).2.1 := by decide +kernel
theorem tyX1_ok : ∀ k, k < 2 → parseFieldDescriptor (TX1 k).2.2.1 = some (tyX1 k) := by decide +kernel
abbrev cX1_init : ByteArray := prog_3_method_1_code
def yX1_init : MethodName := ⟨RX1, "<init>", "()V"⟩
abbrev cX1_clear : ByteArray := prog_3_method_2_code
def yX1_clear : MethodName := ⟨RX1, "clear", "()V"⟩
abbrev cX1_become : ByteArray := prog_3_method_3_code
def yX1_become : MethodName := ⟨RX1, "become", "(LArrowDiagrams$Functions;)V"⟩
abbrev cX1_size : ByteArray := prog_3_method_4_code
def yX1_size : MethodName := ⟨RX1, "size", "(I)I"⟩
abbrev cX1_resize : ByteArray := prog_3_method_5_code
def yX1_resize : MethodName := ⟨RX1, "resize", "(II)V"⟩
abbrev cX1_code : ByteArray := prog_3_method_6_code
def yX1_code : MethodName := ⟨RX1, "code", "(I)I"⟩
abbrev cX1_setCode : ByteArray := prog_3_method_7_code
def yX1_setCode : MethodName := ⟨RX1, "setCode", "(II)V"⟩
abbrev cX1_value : ByteArray := prog_3_method_8_code
def yX1_value : MethodName := ⟨RX1, "value", "(II)I"⟩
abbrev cX1_valueAlong : ByteArray := prog_3_method_9_code
def yX1_valueAlong : MethodName := ⟨RX1, "valueAlong", "(LArrowDiagrams$Paths;II)I"⟩
abbrev cX1_imageSize : ByteArray := prog_3_method_10_code
def yX1_imageSize : MethodName := ⟨RX1, "imageSize", "(LArrowDiagrams$Paths;I)I"⟩
abbrev cX1_agree : ByteArray := prog_3_method_11_code
def yX1_agree : MethodName := ⟨RX1, "agree", "(LArrowDiagrams$Paths;II)Z"⟩
abbrev cX1_choose : ByteArray := prog_3_method_12_code
def yX1_choose : MethodName := ⟨RX1, "choose", "(II)V"⟩
abbrev cX1_isCode : ByteArray := prog_3_method_13_code
def yX1_isCode : MethodName := ⟨RX1, "isCode", "(III)Z"⟩
abbrev cX1_digit : ByteArray := prog_3_method_14_code
def yX1_digit : MethodName := ⟨RX1, "digit", "(II)I"⟩
def RX2 : String := "ArrowDiagrams$Graph"
def TX2 : u_T := fun k => match k with
  | 0 => ("ArrowDiagrams$Graph", "objects", "I", false)
  | 1 => ("ArrowDiagrams$Graph", "arrows", "I", false)
  | 2 => ("ArrowDiagrams$Graph", "froms", "LArrowDiagrams$Row;", true)
  | 3 => ("ArrowDiagrams$Graph", "tos", "LArrowDiagrams$Row;", true)
  | _ => ("ArrowDiagrams$Graph", "arriving", "LArrowDiagrams$Row;", true)
def tyX2 : Nat → FieldType := fun k => match k with
  | 0 => .int
  | 1 => .int
  | 2 => .object "ArrowDiagrams$Row"
  | 3 => .object "ArrowDiagrams$Row"
  | _ => .object "ArrowDiagrams$Row"
abbrev wsX20 : List Cond := u_ws RX2 TX2 5
theorem nmX2 : ∀ a, a < 5 → ∀ b, b < 5 → a ≠ b → (TX2 a).2.1 ≠ (TX2 b).2.1 := by decide +kernel
theorem tyX2_ok : ∀ k, k < 5 → parseFieldDescriptor (TX2 k).2.2.1 = some (tyX2 k) := by decide +kernel
abbrev cX2_init : ByteArray := prog_4_method_1_code
def yX2_init : MethodName := ⟨RX2, "<init>", "()V"⟩
abbrev cX2_clear : ByteArray := prog_4_method_2_code
def yX2_clear : MethodName := ⟨RX2, "clear", "(I)V"⟩
abbrev cX2_become : ByteArray := prog_4_method_3_code
def yX2_become : MethodName := ⟨RX2, "become", "(LArrowDiagrams$Graph;)V"⟩
abbrev cX2_objectTotal : ByteArray := prog_4_method_4_code
def yX2_objectTotal : MethodName := ⟨RX2, "objectTotal", "()I"⟩
abbrev cX2_arrowTotal : ByteArray := prog_4_method_5_code
def yX2_arrowTotal : MethodName := ⟨RX2, "arrowTotal", "()I"⟩
abbrev cX2_hasObject : ByteArray := prog_4_method_6_code
def yX2_hasObject : MethodName := ⟨RX2, "hasObject", "(I)Z"⟩
abbrev cX2_hasArrow : ByteArray := prog_4_method_7_code
def yX2_hasArrow : MethodName := ⟨RX2, "hasArrow", "(I)Z"⟩
abbrev cX2_from : ByteArray := prog_4_method_8_code
def yX2_from : MethodName := ⟨RX2, "from", "(I)I"⟩
abbrev cX2_to : ByteArray := prog_4_method_9_code
def yX2_to : MethodName := ⟨RX2, "to", "(I)I"⟩
abbrev cX2_join : ByteArray := prog_4_method_10_code
def yX2_join : MethodName := ⟨RX2, "join", "(II)I"⟩
abbrev cX2_dropLast : ByteArray := prog_4_method_11_code
def yX2_dropLast : MethodName := ⟨RX2, "dropLast", "()V"⟩
abbrev cX2_pathTotal : ByteArray := prog_4_method_12_code
def yX2_pathTotal : MethodName := ⟨RX2, "pathTotal", "()I"⟩
abbrev cX2_pathsThrough : ByteArray := prog_4_method_13_code
def yX2_pathsThrough : MethodName := ⟨RX2, "pathsThrough", "(II)I"⟩
abbrev cX2_countFrom : ByteArray := prog_4_method_14_code
def yX2_countFrom : MethodName := ⟨RX2, "countFrom", "(I)V"⟩
def RX3 : String := "ArrowDiagrams$Grid"
def TX3 : u_T := fun k => match k with
  | 0 => ("ArrowDiagrams$Grid", "rows", "I", true)
  | 1 => ("ArrowDiagrams$Grid", "columns", "I", true)
  | _ => ("ArrowDiagrams$Grid", "numbers", "[I", true)
def tyX3 : Nat → FieldType := fun k => match k with
  | 0 => .int
  | 1 => .int
  | _ => .array .int
abbrev wsX30 : List Cond := u_ws RX3 TX3 3
theorem nmX3 : ∀ a, a < 3 → ∀ b, b < 3 → a ≠ b → (TX3 a).2.1 ≠ (TX3 b).2.1 := by decide +kernel
theorem tyX3_ok : ∀ k, k < 3 → parseFieldDescriptor (TX3 k).2.2.1 = some (tyX3 k) := by decide +kernel
abbrev cX3_init : ByteArray := prog_5_method_1_code
def yX3_init : MethodName := ⟨RX3, "<init>", "(II)V"⟩
abbrev cX3_get : ByteArray := prog_5_method_2_code
def yX3_get : MethodName := ⟨RX3, "get", "(II)I"⟩
abbrev cX3_set : ByteArray := prog_5_method_3_code
def yX3_set : MethodName := ⟨RX3, "set", "(III)V"⟩
abbrev cX3_fill : ByteArray := prog_5_method_4_code
def yX3_fill : MethodName := ⟨RX3, "fill", "(I)V"⟩
abbrev cX3_copyFrom : ByteArray := prog_5_method_5_code
def yX3_copyFrom : MethodName := ⟨RX3, "copyFrom", "(LArrowDiagrams$Grid;)V"⟩
def RX4 : String := "ArrowDiagrams$Input"
def TX4 : u_T := fun k => match k with
  | 0 => ("ArrowDiagrams$Input", "length", "I", false)
  | _ => ("ArrowDiagrams$Input", "codes", "LArrowDiagrams$Row;", true)
def tyX4 : Nat → FieldType := fun k => match k with
  | 0 => .int
  | _ => .object "ArrowDiagrams$Row"
abbrev wsX40 : List Cond := u_ws RX4 TX4 2
theorem nmX4 : ∀ a, a < 2 → ∀ b, b < 2 → a ≠ b → (TX4 a).2.1 ≠ (TX4 b).2.1 := by decide +kernel
theorem tyX4_ok : ∀ k, k < 2 → parseFieldDescriptor (TX4 k).2.2.1 = some (tyX4 k) := by decide +kernel
abbrev cX4_init : ByteArray := prog_6_method_1_code
def yX4_init : MethodName := ⟨RX4, "<init>", "()V"⟩
abbrev cX4_length : ByteArray := prog_6_method_2_code
def yX4_length : MethodName := ⟨RX4, "length", "()I"⟩
abbrev cX4_codeAt : ByteArray := prog_6_method_3_code
def yX4_codeAt : MethodName := ⟨RX4, "codeAt", "(I)I"⟩
abbrev cX4_arrowAt : ByteArray := prog_6_method_4_code
def yX4_arrowAt : MethodName := ⟨RX4, "arrowAt", "(I)I"⟩
abbrev cX4_put : ByteArray := prog_6_method_5_code
def yX4_put : MethodName := ⟨RX4, "put", "(I)V"⟩
abbrev cX4_clear : ByteArray := prog_6_method_6_code
def yX4_clear : MethodName := ⟨RX4, "clear", "()V"⟩
def RX5 : String := "ArrowDiagrams$Pasting"
def TX5 : u_T := fun k => match k with
  | 0 => ("ArrowDiagrams$Pasting", "fresh", "Z", false)
  | 1 => ("ArrowDiagrams$Pasting", "coreFresh", "Z", false)
  | 2 => ("ArrowDiagrams$Pasting", "sides", "I", false)
  | 3 => ("ArrowDiagrams$Pasting", "classes", "I", false)
  | 4 => ("ArrowDiagrams$Pasting", "core", "I", false)
  | 5 => ("ArrowDiagrams$Pasting", "reached", "I", false)
  | 6 => ("ArrowDiagrams$Pasting", "steps", "LArrowDiagrams$Grid;", true)
  | 7 => ("ArrowDiagrams$Pasting", "names", "LArrowDiagrams$Row;", true)
  | 8 => ("ArrowDiagrams$Pasting", "classSizes", "LArrowDiagrams$Row;", true)
  | 9 => ("ArrowDiagrams$Pasting", "distances", "LArrowDiagrams$Row;", true)
  | 10 => ("ArrowDiagrams$Pasting", "queue", "LArrowDiagrams$Row;", true)
  | _ => ("ArrowDiagrams$Pasting", "perPair", "LArrowDiagrams$Grid;", true)
def tyX5 : Nat → FieldType := fun k => match k with
  | 0 => .boolean
  | 1 => .boolean
  | 2 => .int
  | 3 => .int
  | 4 => .int
  | 5 => .int
  | 6 => .object "ArrowDiagrams$Grid"
  | 7 => .object "ArrowDiagrams$Row"
  | 8 => .object "ArrowDiagrams$Row"
  | 9 => .object "ArrowDiagrams$Row"
  | 10 => .object "ArrowDiagrams$Row"
  | _ => .object "ArrowDiagrams$Grid"
abbrev wsX50 : List Cond := u_ws RX5 TX5 12
theorem nmX5 : ∀ a, a < 12 → ∀ b, b < 12 → a ≠ b → (TX5 a).2.1 ≠ (TX5 b).2.1 := by decide +kernel
theorem tyX5_ok : ∀ k, k < 12 → parseFieldDescriptor (TX5 k).2.2.1 = some (tyX5 k) := by decide +kernel
abbrev cX5_init : ByteArray := prog_7_method_1_code
def yX5_init : MethodName := ⟨RX5, "<init>", "()V"⟩
abbrev cX5_forget : ByteArray := prog_7_method_2_code
def yX5_forget : MethodName := ⟨RX5, "forget", "()V"⟩
abbrev cX5_refresh : ByteArray := prog_7_method_3_code
def yX5_refresh : MethodName := ⟨RX5, "refresh", "(LArrowDiagrams$Paths;LArrowDiagrams$Cells;)V"⟩
abbrev cX5_refreshCore : ByteArray := prog_7_method_4_code
def yX5_refreshCore : MethodName := ⟨RX5, "refreshCore", "(LArrowDiagrams$Cells;)V"⟩
abbrev cX5_className : ByteArray := prog_7_method_5_code
def yX5_className : MethodName := ⟨RX5, "className", "(I)I"⟩
abbrev cX5_classSize : ByteArray := prog_7_method_6_code
def yX5_classSize : MethodName := ⟨RX5, "classSize", "(I)I"⟩
abbrev cX5_classTotal : ByteArray := prog_7_method_7_code
def yX5_classTotal : MethodName := ⟨RX5, "classTotal", "()I"⟩
abbrev cX5_classesBetween : ByteArray := prog_7_method_8_code
def yX5_classesBetween : MethodName := ⟨RX5, "classesBetween", "(II)I"⟩
abbrev cX5_coreSize : ByteArray := prog_7_method_9_code
def yX5_coreSize : MethodName := ⟨RX5, "coreSize", "()I"⟩
abbrev cX5_isInCore : ByteArray := prog_7_method_10_code
def yX5_isInCore : MethodName := ⟨RX5, "isInCore", "(I)Z"⟩
abbrev cX5_isRedundant : ByteArray := prog_7_method_11_code
def yX5_isRedundant : MethodName := ⟨RX5, "isRedundant", "(LArrowDiagrams$Cells;I)Z"⟩
abbrev cX5_spread : ByteArray := prog_7_method_12_code
def yX5_spread : MethodName := ⟨RX5, "spread", "(II)V"⟩
abbrev cX5_stepsFrom : ByteArray := prog_7_method_13_code
def yX5_stepsFrom : MethodName := ⟨RX5, "stepsFrom", "(I)I"⟩
abbrev cX5_nextInProof : ByteArray := prog_7_method_14_code
def yX5_nextInProof : MethodName := ⟨RX5, "nextInProof", "(I)I"⟩
abbrev cX5_cellOfStep : ByteArray := prog_7_method_15_code
def yX5_cellOfStep : MethodName := ⟨RX5, "cellOfStep", "(II)I"⟩
abbrev cX5_reach : ByteArray := prog_7_method_16_code
def yX5_reach : MethodName := ⟨RX5, "reach", "(II)V"⟩
abbrev cX5_isEqualBy : ByteArray := prog_7_method_17_code
def yX5_isEqualBy : MethodName := ⟨RX5, "isEqualBy", "(LArrowDiagrams$Cells;II)Z"⟩
abbrev cX5_findClasses : ByteArray := prog_7_method_18_code
def yX5_findClasses : MethodName := ⟨RX5, "findClasses", "(LArrowDiagrams$Paths;)V"⟩
abbrev cX5_countClass : ByteArray := prog_7_method_19_code
def yX5_countClass : MethodName := ⟨RX5, "countClass", "(II)V"⟩
abbrev cX5_nameReached : ByteArray := prog_7_method_20_code
def yX5_nameReached : MethodName := ⟨RX5, "nameReached", "(I)V"⟩
abbrev cX5_stepFrom : ByteArray := prog_7_method_21_code
def yX5_stepFrom : MethodName := ⟨RX5, "stepFrom", "(LArrowDiagrams$Paths;IIII)I"⟩
def RX6 : String := "ArrowDiagrams$Paths"
def TX6 : u_T := fun k => match k with
  | 0 => ("ArrowDiagrams$Paths", "total", "I", false)
  | 1 => ("ArrowDiagrams$Paths", "start", "LArrowDiagrams$Row;", true)
  | 2 => ("ArrowDiagrams$Paths", "end", "LArrowDiagrams$Row;", true)
  | 3 => ("ArrowDiagrams$Paths", "length", "LArrowDiagrams$Row;", true)
  | 4 => ("ArrowDiagrams$Paths", "arrow", "LArrowDiagrams$Grid;", true)
  | 5 => ("ArrowDiagrams$Paths", "shorter", "LArrowDiagrams$Row;", true)
  | _ => ("ArrowDiagrams$Paths", "longer", "LArrowDiagrams$Grid;", true)
def tyX6 : Nat → FieldType := fun k => match k with
  | 0 => .int
  | 1 => .object "ArrowDiagrams$Row"
  | 2 => .object "ArrowDiagrams$Row"
  | 3 => .object "ArrowDiagrams$Row"
  | 4 => .object "ArrowDiagrams$Grid"
  | 5 => .object "ArrowDiagrams$Row"
  | _ => .object "ArrowDiagrams$Grid"
abbrev wsX60 : List Cond := u_ws RX6 TX6 7
theorem nmX6 : ∀ a, a < 7 → ∀ b, b < 7 → a ≠ b → (TX6 a).2.1 ≠ (TX6 b).2.1 := by decide +kernel
theorem tyX6_ok : ∀ k, k < 7 → parseFieldDescriptor (TX6 k).2.2.1 = some (tyX6 k) := by decide +kernel
abbrev cX6_init : ByteArray := prog_8_method_1_code
def yX6_init : MethodName := ⟨RX6, "<init>", "()V"⟩
abbrev cX6_rebuild : ByteArray := prog_8_method_2_code
def yX6_rebuild : MethodName := ⟨RX6, "rebuild", "(LArrowDiagrams$Graph;)V"⟩
abbrev cX6_total : ByteArray := prog_8_method_3_code
def yX6_total : MethodName := ⟨RX6, "total", "()I"⟩
abbrev cX6_last : ByteArray := prog_8_method_4_code
def yX6_last : MethodName := ⟨RX6, "last", "(I)I"⟩
abbrev cX6_leads : ByteArray := prog_8_method_5_code
def yX6_leads : MethodName := ⟨RX6, "leads", "(III)Z"⟩
abbrev cX6_enter : ByteArray := prog_8_method_6_code
def yX6_enter : MethodName := ⟨RX6, "enter", "(IIII)V"⟩
abbrev cX6_enterLonger : ByteArray := prog_8_method_7_code
def yX6_enterLonger : MethodName := ⟨RX6, "enterLonger", "(III)V"⟩
def RX7 : String := "ArrowDiagrams$Reader"
def TX7 : u_T := fun k => match k with
  | 0 => ("ArrowDiagrams$Reader", "graph", "LArrowDiagrams$Graph;", true)
  | 1 => ("ArrowDiagrams$Reader", "cells", "LArrowDiagrams$Cells;", true)
  | 2 => ("ArrowDiagrams$Reader", "place", "I", false)
  | 3 => ("ArrowDiagrams$Reader", "from", "I", false)
  | 4 => ("ArrowDiagrams$Reader", "end", "I", false)
  | _ => ("ArrowDiagrams$Reader", "firstEnd", "I", false)
def tyX7 : Nat → FieldType := fun k => match k with
  | 0 => .object "ArrowDiagrams$Graph"
  | 1 => .object "ArrowDiagrams$Cells"
  | 2 => .int
  | 3 => .int
  | 4 => .int
  | _ => .int
abbrev wsX70 : List Cond := u_ws RX7 TX7 6
theorem nmX7 : ∀ a, a < 6 → ∀ b, b < 6 → a ≠ b → (TX7 a).2.1 ≠ (TX7 b).2.1 := by decide +kernel
theorem tyX7_ok : ∀ k, k < 6 → parseFieldDescriptor (TX7 k).2.2.1 = some (tyX7 k) := by decide +kernel
abbrev cX7_init : ByteArray := prog_9_method_1_code
def yX7_init : MethodName := ⟨RX7, "<init>", "()V"⟩
abbrev cX7_read : ByteArray := prog_9_method_2_code
def yX7_read : MethodName := ⟨RX7, "read", "(LArrowDiagrams$Input;LArrowDiagrams$Graph;LArrowDiagrams$Cells;)I"⟩
abbrev cX7_isComplete : ByteArray := prog_9_method_3_code
def yX7_isComplete : MethodName := ⟨RX7, "isComplete", "()Z"⟩
abbrev cX7_graphRead : ByteArray := prog_9_method_4_code
def yX7_graphRead : MethodName := ⟨RX7, "graphRead", "()LArrowDiagrams$Graph;"⟩
abbrev cX7_cellsRead : ByteArray := prog_9_method_5_code
def yX7_cellsRead : MethodName := ⟨RX7, "cellsRead", "()LArrowDiagrams$Cells;"⟩
abbrev cX7_accepts : ByteArray := prog_9_method_6_code
def yX7_accepts : MethodName := ⟨RX7, "accepts", "(I)Z"⟩
abbrev cX7_beginsArrow : ByteArray := prog_9_method_7_code
def yX7_beginsArrow : MethodName := ⟨RX7, "beginsArrow", "(I)Z"⟩
abbrev cX7_endsArrow : ByteArray := prog_9_method_8_code
def yX7_endsArrow : MethodName := ⟨RX7, "endsArrow", "(I)Z"⟩
abbrev cX7_beginsCell : ByteArray := prog_9_method_9_code
def yX7_beginsCell : MethodName := ⟨RX7, "beginsCell", "(I)Z"⟩
abbrev cX7_beginsSecond : ByteArray := prog_9_method_10_code
def yX7_beginsSecond : MethodName := ⟨RX7, "beginsSecond", "(I)Z"⟩
abbrev cX7_goesOn : ByteArray := prog_9_method_11_code
def yX7_goesOn : MethodName := ⟨RX7, "goesOn", "(III)Z"⟩
abbrev cX7_endsFirst : ByteArray := prog_9_method_12_code
def yX7_endsFirst : MethodName := ⟨RX7, "endsFirst", "(I)Z"⟩
abbrev cX7_endsItem : ByteArray := prog_9_method_13_code
def yX7_endsItem : MethodName := ⟨RX7, "endsItem", "(I)Z"⟩
def RX8 : String := "ArrowDiagrams$Row"
def TX8 : u_T := fun k => match k with
  | _ => ("ArrowDiagrams$Row", "numbers", "[I", true)
def tyX8 : Nat → FieldType := fun k => match k with
  | _ => .array .int
abbrev wsX80 : List Cond := u_ws RX8 TX8 1
theorem nmX8 : ∀ a, a < 1 → ∀ b, b < 1 → a ≠ b → (TX8 a).2.1 ≠ (TX8 b).2.1 := by decide +kernel
theorem tyX8_ok : ∀ k, k < 1 → parseFieldDescriptor (TX8 k).2.2.1 = some (tyX8 k) := by decide +kernel
abbrev cX8_init : ByteArray := prog_10_method_1_code
def yX8_init : MethodName := ⟨RX8, "<init>", "(I)V"⟩
abbrev cX8_get : ByteArray := prog_10_method_2_code
def yX8_get : MethodName := ⟨RX8, "get", "(I)I"⟩
abbrev cX8_set : ByteArray := prog_10_method_3_code
def yX8_set : MethodName := ⟨RX8, "set", "(II)V"⟩
abbrev cX8_fill : ByteArray := prog_10_method_4_code
def yX8_fill : MethodName := ⟨RX8, "fill", "(I)V"⟩
abbrev cX8_copyFrom : ByteArray := prog_10_method_5_code
def yX8_copyFrom : MethodName := ⟨RX8, "copyFrom", "(LArrowDiagrams$Row;)V"⟩
def RX9 : String := "ArrowDiagrams"
def TX9 : u_T := fun k => match k with
  | 0 => ("ArrowDiagrams", "graph", "LArrowDiagrams$Graph;", true)
  | 1 => ("ArrowDiagrams", "cells", "LArrowDiagrams$Cells;", true)
  | 2 => ("ArrowDiagrams", "paths", "LArrowDiagrams$Paths;", true)
  | 3 => ("ArrowDiagrams", "pasting", "LArrowDiagrams$Pasting;", true)
  | 4 => ("ArrowDiagrams", "functions", "LArrowDiagrams$Functions;", true)
  | 5 => ("ArrowDiagrams", "trial", "LArrowDiagrams$Functions;", true)
  | 6 => ("ArrowDiagrams", "input", "LArrowDiagrams$Input;", true)
  | _ => ("ArrowDiagrams", "reader", "LArrowDiagrams$Reader;", true)
def tyX9 : Nat → FieldType := fun k => match k with
  | 0 => .object "ArrowDiagrams$Graph"
  | 1 => .object "ArrowDiagrams$Cells"
  | 2 => .object "ArrowDiagrams$Paths"
  | 3 => .object "ArrowDiagrams$Pasting"
  | 4 => .object "ArrowDiagrams$Functions"
  | 5 => .object "ArrowDiagrams$Functions"
  | 6 => .object "ArrowDiagrams$Input"
  | _ => .object "ArrowDiagrams$Reader"
abbrev wsX90 : List Cond := u_ws RX9 TX9 8
theorem nmX9 : ∀ a, a < 8 → ∀ b, b < 8 → a ≠ b → (TX9 a).2.1 ≠ (TX9 b).2.1 := by decide +kernel
theorem tyX9_ok : ∀ k, k < 8 → parseFieldDescriptor (TX9 k).2.2.1 = some (tyX9 k) := by decide +kernel
abbrev cX9_init : ByteArray := prog_1_method_1_code
def yX9_init : MethodName := ⟨RX9, "<init>", "()V"⟩
abbrev cX9_begin : ByteArray := prog_1_method_2_code
def yX9_begin : MethodName := ⟨RX9, "begin", "(I)I"⟩
abbrev cX9_addArrow : ByteArray := prog_1_method_3_code
def yX9_addArrow : MethodName := ⟨RX9, "addArrow", "(II)I"⟩
abbrev cX9_dropArrow : ByteArray := prog_1_method_4_code
def yX9_dropArrow : MethodName := ⟨RX9, "dropArrow", "()I"⟩
abbrev cX9_addCell : ByteArray := prog_1_method_5_code
def yX9_addCell : MethodName := ⟨RX9, "addCell", "(II)I"⟩
abbrev cX9_dropCell : ByteArray := prog_1_method_6_code
def yX9_dropCell : MethodName := ⟨RX9, "dropCell", "(I)I"⟩
abbrev cX9_append : ByteArray := prog_1_method_7_code
def yX9_append : MethodName := ⟨RX9, "append", "(I)I"⟩
abbrev cX9_clearInput : ByteArray := prog_1_method_8_code
def yX9_clearInput : MethodName := ⟨RX9, "clearInput", "()I"⟩
abbrev cX9_firstError : ByteArray := prog_1_method_9_code
def yX9_firstError : MethodName := ⟨RX9, "firstError", "()I"⟩
abbrev cX9_load : ByteArray := prog_1_method_10_code
def yX9_load : MethodName := ⟨RX9, "load", "()I"⟩
abbrev cX9_find : ByteArray := prog_1_method_11_code
def yX9_find : MethodName := ⟨RX9, "find", "()I"⟩
abbrev cX9_path : ByteArray := prog_1_method_12_code
def yX9_path : MethodName := ⟨RX9, "path", "(II)I"⟩
abbrev cX9_arrowOf : ByteArray := prog_1_method_13_code
def yX9_arrowOf : MethodName := ⟨RX9, "arrowOf", "(II)I"⟩
abbrev cX9_between : ByteArray := prog_1_method_14_code
def yX9_between : MethodName := ⟨RX9, "between", "(IIZ)I"⟩
abbrev cX9_distance : ByteArray := prog_1_method_15_code
def yX9_distance : MethodName := ⟨RX9, "distance", "(II)I"⟩
abbrev cX9_proof : ByteArray := prog_1_method_16_code
def yX9_proof : MethodName := ⟨RX9, "proof", "(IIII)I"⟩
abbrev cX9_cell : ByteArray := prog_1_method_17_code
def yX9_cell : MethodName := ⟨RX9, "cell", "(II)I"⟩
abbrev cX9_count : ByteArray := prog_1_method_18_code
def yX9_count : MethodName := ⟨RX9, "count", "(I)I"⟩
abbrev cX9_commuting : ByteArray := prog_1_method_19_code
def yX9_commuting : MethodName := ⟨RX9, "commuting", "()D"⟩
abbrev cX9_setSize : ByteArray := prog_1_method_20_code
def yX9_setSize : MethodName := ⟨RX9, "setSize", "(II)I"⟩
abbrev cX9_setFunction : ByteArray := prog_1_method_21_code
def yX9_setFunction : MethodName := ⟨RX9, "setFunction", "(II)I"⟩
abbrev cX9_apply : ByteArray := prog_1_method_22_code
def yX9_apply : MethodName := ⟨RX9, "apply", "(II)I"⟩
abbrev cX9_imageShare : ByteArray := prog_1_method_23_code
def yX9_imageShare : MethodName := ⟨RX9, "imageShare", "(I)I"⟩
abbrev cX9_separate : ByteArray := prog_1_method_24_code
def yX9_separate : MethodName := ⟨RX9, "separate", "(II)I"⟩
abbrev cX9_isProduct : ByteArray := prog_1_method_25_code
def yX9_isProduct : MethodName := ⟨RX9, "isProduct", "(II)Z"⟩
abbrev cX9_isPullback : ByteArray := prog_1_method_26_code
def yX9_isPullback : MethodName := ⟨RX9, "isPullback", "(IIII)Z"⟩
abbrev cX9_isEqualizer : ByteArray := prog_1_method_27_code
def yX9_isEqualizer : MethodName := ⟨RX9, "isEqualizer", "(III)Z"⟩
abbrev cX9_digest : ByteArray := prog_1_method_28_code
def yX9_digest : MethodName := ⟨RX9, "digest", "()J"⟩
abbrev cX9_graphChanged : ByteArray := prog_1_method_29_code
def yX9_graphChanged : MethodName := ⟨RX9, "graphChanged", "()V"⟩
abbrev cX9_cellsChanged : ByteArray := prog_1_method_30_code
def yX9_cellsChanged : MethodName := ⟨RX9, "cellsChanged", "()V"⟩
abbrev cX9_requireObject : ByteArray := prog_1_method_31_code
def yX9_requireObject : MethodName := ⟨RX9, "requireObject", "(I)V"⟩
abbrev cX9_requireArrow : ByteArray := prog_1_method_32_code
def yX9_requireArrow : MethodName := ⟨RX9, "requireArrow", "(I)V"⟩
abbrev cX9_requireCell : ByteArray := prog_1_method_33_code
def yX9_requireCell : MethodName := ⟨RX9, "requireCell", "(I)V"⟩
abbrev cX9_requirePath : ByteArray := prog_1_method_34_code
def yX9_requirePath : MethodName := ⟨RX9, "requirePath", "(I)V"⟩
abbrev cX9_requireParallel : ByteArray := prog_1_method_35_code
def yX9_requireParallel : MethodName := ⟨RX9, "requireParallel", "(II)V"⟩
abbrev cX9_lengthenBy : ByteArray := prog_1_method_36_code
def yX9_lengthenBy : MethodName := ⟨RX9, "lengthenBy", "(II)V"⟩
abbrev cX9_pathsFromTo : ByteArray := prog_1_method_37_code
def yX9_pathsFromTo : MethodName := ⟨RX9, "pathsFromTo", "(II)I"⟩
abbrev cX9_pairsWithAtMost : ByteArray := prog_1_method_38_code
def yX9_pairsWithAtMost : MethodName := ⟨RX9, "pairsWithAtMost", "(I)I"⟩
abbrev cX9_stepsTo : ByteArray := prog_1_method_39_code
def yX9_stepsTo : MethodName := ⟨RX9, "stepsTo", "(II)I"⟩
abbrev cX9_holds : ByteArray := prog_1_method_40_code
def yX9_holds : MethodName := ⟨RX9, "holds", "(LArrowDiagrams$Functions;I)Z"⟩
abbrev cX9_allHold : ByteArray := prog_1_method_41_code
def yX9_allHold : MethodName := ⟨RX9, "allHold", "(LArrowDiagrams$Functions;)Z"⟩
abbrev cX9_holdingCells : ByteArray := prog_1_method_42_code
def yX9_holdingCells : MethodName := ⟨RX9, "holdingCells", "()I"⟩
abbrev cX9_sizeAtStart : ByteArray := prog_1_method_43_code
def yX9_sizeAtStart : MethodName := ⟨RX9, "sizeAtStart", "(I)I"⟩
abbrev cX9_sizeAtEnd : ByteArray := prog_1_method_44_code
def yX9_sizeAtEnd : MethodName := ⟨RX9, "sizeAtEnd", "(I)I"⟩
abbrev cX9_isSquare : ByteArray := prog_1_method_45_code
def yX9_isSquare : MethodName := ⟨RX9, "isSquare", "(IIII)Z"⟩
abbrev cX9_sameBehind : ByteArray := prog_1_method_46_code
def yX9_sameBehind : MethodName := ⟨RX9, "sameBehind", "(IIII)Z"⟩
abbrev cX9_sources : ByteArray := prog_1_method_47_code
def yX9_sources : MethodName := ⟨RX9, "sources", "(IIII)I"⟩
abbrev cX9_floatBits : ByteArray := prog_1_method_48_code
def yX9_floatBits : MethodName := ⟨RX9, "floatBits", "(F)I"⟩
abbrev cX9_doubleBits : ByteArray := prog_1_method_49_code
def yX9_doubleBits : MethodName := ⟨RX9, "doubleBits", "(D)J"⟩
def RX10 : String := "ArrowDiagramsModel"
def TX10 : u_T := fun k => match k with
  | 0 => ("ArrowDiagramsModel", "thrown", "I", false)
  | 1 => ("ArrowDiagramsModel", "n", "I", false)
  | 2 => ("ArrowDiagramsModel", "m", "I", false)
  | 3 => ("ArrowDiagramsModel", "af", "[I", true)
  | 4 => ("ArrowDiagramsModel", "at", "[I", true)
  | 5 => ("ArrowDiagramsModel", "code", "[I", true)
  | 6 => ("ArrowDiagramsModel", "size", "[I", true)
  | 7 => ("ArrowDiagramsModel", "cells", "I", false)
  | 8 => ("ArrowDiagramsModel", "cFrom", "[I", true)
  | 9 => ("ArrowDiagramsModel", "cLen", "[I", true)
  | 10 => ("ArrowDiagramsModel", "cSeq", "[I", true)
  | 11 => ("ArrowDiagramsModel", "length", "I", false)
  | 12 => ("ArrowDiagramsModel", "buffer", "[I", true)
  | 13 => ("ArrowDiagramsModel", "paths", "I", false)
  | 14 => ("ArrowDiagramsModel", "pFrom", "[I", true)
  | 15 => ("ArrowDiagramsModel", "pTo", "[I", true)
  | 16 => ("ArrowDiagramsModel", "pLen", "[I", true)
  | 17 => ("ArrowDiagramsModel", "pSeq", "[I", true)
  | 18 => ("ArrowDiagramsModel", "on", "[I", true)
  | 19 => ("ArrowDiagramsModel", "place", "I", false)
  | 20 => ("ArrowDiagramsModel", "readArrows", "I", false)
  | 21 => ("ArrowDiagramsModel", "readCells", "I", false)
  | 22 => ("ArrowDiagramsModel", "items", "I", false)
  | 23 => ("ArrowDiagramsModel", "end", "I", false)
  | 24 => ("ArrowDiagramsModel", "firstEnd", "I", false)
  | 25 => ("ArrowDiagramsModel", "far", "[I", true)
  | 26 => ("ArrowDiagramsModel", "names", "[I", true)
  | 27 => ("ArrowDiagramsModel", "line", "[I", true)
  | 28 => ("ArrowDiagramsModel", "stepCell", "I", false)
  | 29 => ("ArrowDiagramsModel", "oldCode", "[I", true)
  | 30 => ("ArrowDiagramsModel", "oldSize", "[I", true)
  | _ => ("ArrowDiagramsModel", "hash", "J", false)
def tyX10 : Nat → FieldType := fun k => match k with
  | 0 => .int
  | 1 => .int
  | 2 => .int
  | 3 => .array .int
  | 4 => .array .int
  | 5 => .array .int
  | 6 => .array .int
  | 7 => .int
  | 8 => .array .int
  | 9 => .array .int
  | 10 => .array .int
  | 11 => .int
  | 12 => .array .int
  | 13 => .int
  | 14 => .array .int
  | 15 => .array .int
  | 16 => .array .int
  | 17 => .array .int
  | 18 => .array .int
  | 19 => .int
  | 20 => .int
  | 21 => .int
  | 22 => .int
  | 23 => .int
  | 24 => .int
  | 25 => .array .int
  | 26 => .array .int
  | 27 => .array .int
  | 28 => .int
  | 29 => .array .int
  | 30 => .array .int
  | _ => .long
abbrev wsX100 : List Cond := u_ws RX10 TX10 32
theorem nmX10 : ∀ a, a < 32 → ∀ b, b < 32 → a ≠ b → (TX10 a).2.1 ≠ (TX10 b).2.1 := by decide +kernel
theorem tyX10_ok : ∀ k, k < 32 → parseFieldDescriptor (TX10 k).2.2.1 = some (tyX10 k) := by decide +kernel
abbrev cX10_init : ByteArray := prog_12_method_1_code
def yX10_init : MethodName := ⟨RX10, "<init>", "()V"⟩
abbrev cX10_thrown : ByteArray := prog_12_method_2_code
def yX10_thrown : MethodName := ⟨RX10, "thrown", "()I"⟩
abbrev cX10_within : ByteArray := prog_12_method_3_code
def yX10_within : MethodName := ⟨RX10, "within", "(III)Z"⟩
abbrev cX10_isObject : ByteArray := prog_12_method_4_code
def yX10_isObject : MethodName := ⟨RX10, "isObject", "(I)Z"⟩
abbrev cX10_isArrow : ByteArray := prog_12_method_5_code
def yX10_isArrow : MethodName := ⟨RX10, "isArrow", "(I)Z"⟩
abbrev cX10_fresh : ByteArray := prog_12_method_6_code
def yX10_fresh : MethodName := ⟨RX10, "fresh", "(I)V"⟩
abbrev cX10_putPath : ByteArray := prog_12_method_7_code
def yX10_putPath : MethodName := ⟨RX10, "putPath", "(III)V"⟩
abbrev cX10_goOn : ByteArray := prog_12_method_8_code
def yX10_goOn : MethodName := ⟨RX10, "goOn", "(II)V"⟩
abbrev cX10_layPaths : ByteArray := prog_12_method_9_code
def yX10_layPaths : MethodName := ⟨RX10, "layPaths", "()Z"⟩
abbrev cX10_isPath : ByteArray := prog_12_method_10_code
def yX10_isPath : MethodName := ⟨RX10, "isPath", "(I)Z"⟩
abbrev cX10_areParallel : ByteArray := prog_12_method_11_code
def yX10_areParallel : MethodName := ⟨RX10, "areParallel", "(II)Z"⟩
abbrev cX10_sideOf : ByteArray := prog_12_method_12_code
def yX10_sideOf : MethodName := ⟨RX10, "sideOf", "(II)I"⟩
abbrev cX10_begin : ByteArray := prog_12_method_13_code
def yX10_begin : MethodName := ⟨RX10, "begin", "(I)I"⟩
abbrev cX10_putArrow : ByteArray := prog_12_method_14_code
def yX10_putArrow : MethodName := ⟨RX10, "putArrow", "(II)V"⟩
abbrev cX10_addArrow : ByteArray := prog_12_method_15_code
def yX10_addArrow : MethodName := ⟨RX10, "addArrow", "(II)I"⟩
abbrev cX10_removeCell : ByteArray := prog_12_method_16_code
def yX10_removeCell : MethodName := ⟨RX10, "removeCell", "(I)V"⟩
abbrev cX10_hasLetter : ByteArray := prog_12_method_17_code
def yX10_hasLetter : MethodName := ⟨RX10, "hasLetter", "(II)Z"⟩
abbrev cX10_dropArrow : ByteArray := prog_12_method_18_code
def yX10_dropArrow : MethodName := ⟨RX10, "dropArrow", "()I"⟩
abbrev cX10_putSide : ByteArray := prog_12_method_19_code
def yX10_putSide : MethodName := ⟨RX10, "putSide", "(II)V"⟩
abbrev cX10_addCell : ByteArray := prog_12_method_20_code
def yX10_addCell : MethodName := ⟨RX10, "addCell", "(II)I"⟩
abbrev cX10_isCell : ByteArray := prog_12_method_21_code
def yX10_isCell : MethodName := ⟨RX10, "isCell", "(I)Z"⟩
abbrev cX10_dropCell : ByteArray := prog_12_method_22_code
def yX10_dropCell : MethodName := ⟨RX10, "dropCell", "(I)I"⟩
abbrev cX10_append : ByteArray := prog_12_method_23_code
def yX10_append : MethodName := ⟨RX10, "append", "(I)I"⟩
abbrev cX10_clearInput : ByteArray := prog_12_method_24_code
def yX10_clearInput : MethodName := ⟨RX10, "clearInput", "()I"⟩
abbrev cX10_takesDigit : ByteArray := prog_12_method_25_code
def yX10_takesDigit : MethodName := ⟨RX10, "takesDigit", "(I)Z"⟩
abbrev cX10_putLetter : ByteArray := prog_12_method_26_code
def yX10_putLetter : MethodName := ⟨RX10, "putLetter", "(II)V"⟩
abbrev cX10_takesLetter : ByteArray := prog_12_method_27_code
def yX10_takesLetter : MethodName := ⟨RX10, "takesLetter", "(I)Z"⟩
abbrev cX10_mayEnd : ByteArray := prog_12_method_28_code
def yX10_mayEnd : MethodName := ⟨RX10, "mayEnd", "()Z"⟩
abbrev cX10_endItem : ByteArray := prog_12_method_29_code
def yX10_endItem : MethodName := ⟨RX10, "endItem", "()V"⟩
abbrev cX10_takes : ByteArray := prog_12_method_30_code
def yX10_takes : MethodName := ⟨RX10, "takes", "(I)Z"⟩
abbrev cX10_rightLength : ByteArray := prog_12_method_31_code
def yX10_rightLength : MethodName := ⟨RX10, "rightLength", "()I"⟩
abbrev cX10_firstError : ByteArray := prog_12_method_32_code
def yX10_firstError : MethodName := ⟨RX10, "firstError", "()I"⟩
abbrev cX10_load : ByteArray := prog_12_method_33_code
def yX10_load : MethodName := ⟨RX10, "load", "()I"⟩
abbrev cX10_find : ByteArray := prog_12_method_34_code
def yX10_find : MethodName := ⟨RX10, "find", "()I"⟩
abbrev cX10_stands : ByteArray := prog_12_method_35_code
def yX10_stands : MethodName := ⟨RX10, "stands", "(III)Z"⟩
abbrev cX10_stepped : ByteArray := prog_12_method_36_code
def yX10_stepped : MethodName := ⟨RX10, "stepped", "(III)I"⟩
abbrev cX10_spread : ByteArray := prog_12_method_37_code
def yX10_spread : MethodName := ⟨RX10, "spread", "(II)I"⟩
abbrev cX10_clearFar : ByteArray := prog_12_method_38_code
def yX10_clearFar : MethodName := ⟨RX10, "clearFar", "()V"⟩
abbrev cX10_layNames : ByteArray := prog_12_method_39_code
def yX10_layNames : MethodName := ⟨RX10, "layNames", "(I)I"⟩
abbrev cX10_allCells : ByteArray := prog_12_method_40_code
def yX10_allCells : MethodName := ⟨RX10, "allCells", "()I"⟩
abbrev cX10_areEqual : ByteArray := prog_12_method_41_code
def yX10_areEqual : MethodName := ⟨RX10, "areEqual", "(III)Z"⟩
abbrev cX10_isRedundant : ByteArray := prog_12_method_42_code
def yX10_isRedundant : MethodName := ⟨RX10, "isRedundant", "(II)Z"⟩
abbrev cX10_core : ByteArray := prog_12_method_43_code
def yX10_core : MethodName := ⟨RX10, "core", "()I"⟩
abbrev cX10_distanceOf : ByteArray := prog_12_method_44_code
def yX10_distanceOf : MethodName := ⟨RX10, "distanceOf", "(II)I"⟩
abbrev cX10_distance : ByteArray := prog_12_method_45_code
def yX10_distance : MethodName := ⟨RX10, "distance", "(II)I"⟩
abbrev cX10_nearer : ByteArray := prog_12_method_46_code
def yX10_nearer : MethodName := ⟨RX10, "nearer", "(I)I"⟩
abbrev cX10_proof : ByteArray := prog_12_method_47_code
def yX10_proof : MethodName := ⟨RX10, "proof", "(IIII)I"⟩
abbrev cX10_value : ByteArray := prog_12_method_48_code
def yX10_value : MethodName := ⟨RX10, "value", "(II)I"⟩
abbrev cX10_through : ByteArray := prog_12_method_49_code
def yX10_through : MethodName := ⟨RX10, "through", "(II)I"⟩
abbrev cX10_image : ByteArray := prog_12_method_50_code
def yX10_image : MethodName := ⟨RX10, "image", "(I)I"⟩
abbrev cX10_areAlike : ByteArray := prog_12_method_51_code
def yX10_areAlike : MethodName := ⟨RX10, "areAlike", "(II)Z"⟩
abbrev cX10_holds : ByteArray := prog_12_method_52_code
def yX10_holds : MethodName := ⟨RX10, "holds", "(I)Z"⟩
abbrev cX10_classSize : ByteArray := prog_12_method_53_code
def yX10_classSize : MethodName := ⟨RX10, "classSize", "(I)I"⟩
abbrev cX10_pathNow : ByteArray := prog_12_method_54_code
def yX10_pathNow : MethodName := ⟨RX10, "pathNow", "(II)I"⟩
abbrev cX10_path : ByteArray := prog_12_method_55_code
def yX10_path : MethodName := ⟨RX10, "path", "(II)I"⟩
abbrev cX10_arrowOf : ByteArray := prog_12_method_56_code
def yX10_arrowOf : MethodName := ⟨RX10, "arrowOf", "(II)I"⟩
abbrev cX10_counted : ByteArray := prog_12_method_57_code
def yX10_counted : MethodName := ⟨RX10, "counted", "(IIZ)I"⟩
abbrev cX10_between : ByteArray := prog_12_method_58_code
def yX10_between : MethodName := ⟨RX10, "between", "(IIZ)I"⟩
abbrev cX10_cellNow : ByteArray := prog_12_method_59_code
def yX10_cellNow : MethodName := ⟨RX10, "cellNow", "(II)I"⟩
abbrev cX10_cell : ByteArray := prog_12_method_60_code
def yX10_cell : MethodName := ⟨RX10, "cell", "(II)I"⟩
abbrev cX10_pairs : ByteArray := prog_12_method_61_code
def yX10_pairs : MethodName := ⟨RX10, "pairs", "(Z)I"⟩
abbrev cX10_holding : ByteArray := prog_12_method_62_code
def yX10_holding : MethodName := ⟨RX10, "holding", "()I"⟩
abbrev cX10_bits : ByteArray := prog_12_method_63_code
def yX10_bits : MethodName := ⟨RX10, "bits", "(I)I"⟩
abbrev cX10_number : ByteArray := prog_12_method_64_code
def yX10_number : MethodName := ⟨RX10, "number", "(I)I"⟩
abbrev cX10_count : ByteArray := prog_12_method_65_code
def yX10_count : MethodName := ⟨RX10, "count", "(I)I"⟩
abbrev cX10_commutingNow : ByteArray := prog_12_method_66_code
def yX10_commutingNow : MethodName := ⟨RX10, "commutingNow", "()D"⟩
abbrev cX10_commuting : ByteArray := prog_12_method_67_code
def yX10_commuting : MethodName := ⟨RX10, "commuting", "()D"⟩
abbrev cX10_setSize : ByteArray := prog_12_method_68_code
def yX10_setSize : MethodName := ⟨RX10, "setSize", "(II)I"⟩
abbrev cX10_isCode : ByteArray := prog_12_method_69_code
def yX10_isCode : MethodName := ⟨RX10, "isCode", "(II)Z"⟩
abbrev cX10_setFunction : ByteArray := prog_12_method_70_code
def yX10_setFunction : MethodName := ⟨RX10, "setFunction", "(II)I"⟩
abbrev cX10_apply : ByteArray := prog_12_method_71_code
def yX10_apply : MethodName := ⟨RX10, "apply", "(II)I"⟩
abbrev cX10_imageShare : ByteArray := prog_12_method_72_code
def yX10_imageShare : MethodName := ⟨RX10, "imageShare", "(I)I"⟩
abbrev cX10_choose : ByteArray := prog_12_method_73_code
def yX10_choose : MethodName := ⟨RX10, "choose", "(I)V"⟩
abbrev cX10_separateNow : ByteArray := prog_12_method_74_code
def yX10_separateNow : MethodName := ⟨RX10, "separateNow", "(II)I"⟩
abbrev cX10_separate : ByteArray := prog_12_method_75_code
def yX10_separate : MethodName := ⟨RX10, "separate", "(II)I"⟩
abbrev cX10_hits : ByteArray := prog_12_method_76_code
def yX10_hits : MethodName := ⟨RX10, "hits", "(IIII)I"⟩
abbrev cX10_isProduct : ByteArray := prog_12_method_77_code
def yX10_isProduct : MethodName := ⟨RX10, "isProduct", "(II)Z"⟩
abbrev cX10_isPullback : ByteArray := prog_12_method_78_code
def yX10_isPullback : MethodName := ⟨RX10, "isPullback", "(IIII)Z"⟩
abbrev cX10_isEqualizer : ByteArray := prog_12_method_79_code
def yX10_isEqualizer : MethodName := ⟨RX10, "isEqualizer", "(III)Z"⟩
abbrev cX10_mix : ByteArray := prog_12_method_80_code
def yX10_mix : MethodName := ⟨RX10, "mix", "(J)V"⟩
abbrev cX10_mixCells : ByteArray := prog_12_method_81_code
def yX10_mixCells : MethodName := ⟨RX10, "mixCells", "()V"⟩
abbrev cX10_mixPaths : ByteArray := prog_12_method_82_code
def yX10_mixPaths : MethodName := ⟨RX10, "mixPaths", "()V"⟩
abbrev cX10_digest : ByteArray := prog_12_method_83_code
def yX10_digest : MethodName := ⟨RX10, "digest", "()J"⟩
def RJxe99ae : String := "java/lang/Double"
def TJxe99ae : u_T := fun k => match k with
  | _ => ("", "", "", false)
def tyJxe99ae : Nat → FieldType := fun k => match k with
  | _ => .int
abbrev wsJxe99ae0 : List Cond := u_ws RJxe99ae TJxe99ae 0
theorem nmJxe99ae : ∀ a, a < 0 → ∀ b, b < 0 → a ≠ b → (TJxe99ae a).2.1 ≠ (TJxe99ae b).2.1 := by decide +kernel
theorem tyJxe99ae_ok : ∀ k, k < 0 → parseFieldDescriptor (TJxe99ae k).2.2.1 = some (tyJxe99ae k) := by decide +kernel
abbrev cJxe99ae_isNaN_b9ae7 : ByteArray := prog_13_method_6_code
def yJxe99ae_isNaN_b9ae7 : MethodName := ⟨RJxe99ae, "isNaN", "(D)Z"⟩
abbrev cJxe99ae_doubleToLongBits_ccdee : ByteArray := prog_13_method_23_code
def yJxe99ae_doubleToLongBits_ccdee : MethodName := ⟨RJxe99ae, "doubleToLongBits", "(D)J"⟩
def RJxf58ca : String := "java/lang/Float"
def TJxf58ca : u_T := fun k => match k with
  | _ => ("", "", "", false)
def tyJxf58ca : Nat → FieldType := fun k => match k with
  | _ => .int
abbrev wsJxf58ca0 : List Cond := u_ws RJxf58ca TJxf58ca 0
theorem nmJxf58ca : ∀ a, a < 0 → ∀ b, b < 0 → a ≠ b → (TJxf58ca a).2.1 ≠ (TJxf58ca b).2.1 := by decide +kernel
theorem tyJxf58ca_ok : ∀ k, k < 0 → parseFieldDescriptor (TJxf58ca k).2.2.1 = some (tyJxf58ca k) := by decide +kernel
abbrev cJxf58ca_isNaN_12338 : ByteArray := prog_15_method_6_code
def yJxf58ca_isNaN_12338 : MethodName := ⟨RJxf58ca, "isNaN", "(F)Z"⟩
abbrev cJxf58ca_floatToIntBits_5c35a : ByteArray := prog_15_method_24_code
def yJxf58ca_floatToIntBits_5c35a : MethodName := ⟨RJxf58ca, "floatToIntBits", "(F)I"⟩
def RJ6 : String := "java/lang/Integer"
def TJ6 : u_T := fun k => match k with
  | _ => ("", "", "", false)
def tyJ6 : Nat → FieldType := fun k => match k with
  | _ => .int
abbrev wsJ60 : List Cond := u_ws RJ6 TJ6 0
theorem nmJ6 : ∀ a, a < 0 → ∀ b, b < 0 → a ≠ b → (TJ6 a).2.1 ≠ (TJ6 b).2.1 := by decide +kernel
theorem tyJ6_ok : ∀ k, k < 0 → parseFieldDescriptor (TJ6 k).2.2.1 = some (tyJ6 k) := by decide +kernel
abbrev cJ6_bitCount_0f7a4 : ByteArray := prog_19_method_49_code
def yJ6_bitCount_0f7a4 : MethodName := ⟨RJ6, "bitCount", "(I)I"⟩
def RJ0 : String := "java/lang/String"
def TJ0 : u_T := fun k => match k with
  | _ => ("", "", "", false)
def tyJ0 : Nat → FieldType := fun k => match k with
  | _ => .int
abbrev wsJ00 : List Cond := u_ws RJ0 TJ0 0
theorem nmJ0 : ∀ a, a < 0 → ∀ b, b < 0 → a ≠ b → (TJ0 a).2.1 ≠ (TJ0 b).2.1 := by decide +kernel
theorem tyJ0_ok : ∀ k, k < 0 → parseFieldDescriptor (TJ0 k).2.2.1 = some (tyJ0 k) := by decide +kernel
def RL : String := "ArrowDiagramsLaw"
abbrev cL_begin : ByteArray := method_3_code
def yL_begin : MethodName := ⟨RL, "begin", "(LArrowDiagrams;I[J)I"⟩
abbrev cL_addArrow : ByteArray := method_4_code
def yL_addArrow : MethodName := ⟨RL, "addArrow", "(LArrowDiagrams;II[J)I"⟩
abbrev cL_dropArrow : ByteArray := method_5_code
def yL_dropArrow : MethodName := ⟨RL, "dropArrow", "(LArrowDiagrams;[J)I"⟩
abbrev cL_addCell : ByteArray := method_6_code
def yL_addCell : MethodName := ⟨RL, "addCell", "(LArrowDiagrams;II[J)I"⟩
abbrev cL_dropCell : ByteArray := method_7_code
def yL_dropCell : MethodName := ⟨RL, "dropCell", "(LArrowDiagrams;I[J)I"⟩
abbrev cL_append : ByteArray := method_8_code
def yL_append : MethodName := ⟨RL, "append", "(LArrowDiagrams;I[J)I"⟩
abbrev cL_load : ByteArray := method_9_code
def yL_load : MethodName := ⟨RL, "load", "(LArrowDiagrams;[J)I"⟩
abbrev cL_path : ByteArray := method_10_code
def yL_path : MethodName := ⟨RL, "path", "(LArrowDiagrams;II[J)I"⟩
abbrev cL_arrowOf : ByteArray := method_11_code
def yL_arrowOf : MethodName := ⟨RL, "arrowOf", "(LArrowDiagrams;II[J)I"⟩
abbrev cL_between : ByteArray := method_12_code
def yL_between : MethodName := ⟨RL, "between", "(LArrowDiagrams;IIZ[J)I"⟩
abbrev cL_distance : ByteArray := method_13_code
def yL_distance : MethodName := ⟨RL, "distance", "(LArrowDiagrams;II[J)I"⟩
abbrev cL_proof : ByteArray := method_14_code
def yL_proof : MethodName := ⟨RL, "proof", "(LArrowDiagrams;IIII[J)I"⟩
abbrev cL_cell : ByteArray := method_15_code
def yL_cell : MethodName := ⟨RL, "cell", "(LArrowDiagrams;II[J)I"⟩
abbrev cL_count : ByteArray := method_16_code
def yL_count : MethodName := ⟨RL, "count", "(LArrowDiagrams;I[J)I"⟩
abbrev cL_setSize : ByteArray := method_17_code
def yL_setSize : MethodName := ⟨RL, "setSize", "(LArrowDiagrams;II[J)I"⟩
abbrev cL_setFunction : ByteArray := method_18_code
def yL_setFunction : MethodName := ⟨RL, "setFunction", "(LArrowDiagrams;II[J)I"⟩
abbrev cL_apply : ByteArray := method_19_code
def yL_apply : MethodName := ⟨RL, "apply", "(LArrowDiagrams;II[J)I"⟩
abbrev cL_imageShare : ByteArray := method_20_code
def yL_imageShare : MethodName := ⟨RL, "imageShare", "(LArrowDiagrams;I[J)I"⟩
abbrev cL_separate : ByteArray := method_21_code
def yL_separate : MethodName := ⟨RL, "separate", "(LArrowDiagrams;II[J)I"⟩
abbrev cL_isProduct : ByteArray := method_22_code
def yL_isProduct : MethodName := ⟨RL, "isProduct", "(LArrowDiagrams;II[J)I"⟩
abbrev cL_isPullback : ByteArray := method_23_code
def yL_isPullback : MethodName := ⟨RL, "isPullback", "(LArrowDiagrams;IIII[J)I"⟩
abbrev cL_isEqualizer : ByteArray := method_24_code
def yL_isEqualizer : MethodName := ⟨RL, "isEqualizer", "(LArrowDiagrams;III[J)I"⟩
abbrev cL_law : ByteArray := code
def yL_law : MethodName := ⟨RL, "law", "([I)Z"⟩
abbrev vwCl : List vw_C := [(RX0, TX0, 5), (RX1, TX1, 2), (RX2, TX2, 5), (RX3, TX3, 3), (RX4, TX4, 2), (RX5, TX5, 12), (RX6, TX6, 7), (RX7, TX7, 6), (RX8, TX8, 1), (RX9, TX9, 8), (RX10, TX10, 32)]
/-! the words that every method's contract asks for: all of the tables' that hold anywhere -/
def BW : List Cond := lw_tbl.filter goodWord
theorem bw_mem {w : Cond} (i : Nat) (h : lw_tbl[i]? = some w) (hg : goodWord w = true) : w ∈ BW := List.mem_filter.mpr ⟨List.mem_of_getElem? h, hg⟩
theorem bw_in {w : Cond} (h : w ∈ BW) : w ∈ lw_tbl := (List.mem_filter.mp h).1
theorem bw_good {w : Cond} (h : w ∈ BW) : goodWord w = true := (List.mem_filter.mp h).2
theorem bw_all {ws : List Cond} (h : ws.all (fun w => decide (w ∈ lw_tbl) && goodWord w) = true) : ∀ w ∈ ws, w ∈ BW := fun w hw => by
  have h1 := List.all_eq_true.mp h w hw
  rw [Bool.and_eq_true, decide_eq_true_eq] at h1
  exact List.mem_filter.mpr h1
theorem iX0 : ∀ w ∈ wsX00, w ∈ BW := bw_all (by decide +kernel)
theorem iX1 : ∀ w ∈ wsX10, w ∈ BW := bw_all (by decide +kernel)
theorem iX2 : ∀ w ∈ wsX20, w ∈ BW := bw_all (by decide +kernel)
theorem iX3 : ∀ w ∈ wsX30, w ∈ BW := bw_all (by decide +kernel)
theorem iX4 : ∀ w ∈ wsX40, w ∈ BW := bw_all (by decide +kernel)
theorem iX5 : ∀ w ∈ wsX50, w ∈ BW := bw_all (by decide +kernel)
theorem iX6 : ∀ w ∈ wsX60, w ∈ BW := bw_all (by decide +kernel)
theorem iX7 : ∀ w ∈ wsX70, w ∈ BW := bw_all (by decide +kernel)
theorem iX8 : ∀ w ∈ wsX80, w ∈ BW := bw_all (by decide +kernel)
theorem iX9 : ∀ w ∈ wsX90, w ∈ BW := bw_all (by decide +kernel)
theorem iX10 : ∀ w ∈ wsX100, w ∈ BW := bw_all (by decide +kernel)
end
section
/-! A flat memory (class number or array tag, instance, place) and what it says of the heap; one walk predicate over it. -/
section MEM
abbrev AV : Type := Int32 ⊕ Int64 ⊕ UInt32 ⊕ UInt64 ⊕ (Nat × Nat)
abbrev vI (x : Int32) : AV := .inl x
abbrev vL (x : Int64) : AV := .inr (.inl x)
abbrev vF (x : UInt32) : AV := .inr (.inr (.inl x))
abbrev vD (x : UInt64) : AV := .inr (.inr (.inr (.inl x)))
abbrev vR (t k : Nat) : AV := .inr (.inr (.inr (.inr (t, k))))
abbrev Mem : Type := (Nat → Nat → Nat → Int32) × (Nat → Nat → Nat → Int64)
def mI (M : Mem) (t k i : Nat) (v : Int32) : Mem := (fun a b c => if a = t ∧ b = k ∧ c = i then v else M.1 a b c, M.2)
def mL (M : Mem) (t k i : Nat) (v : Int64) : Mem := (M.1, fun a b c => if a = t ∧ b = k ∧ c = i then v else M.2 a b c)
abbrev FK : Type := Nat ⊕ (Nat × Nat × Nat)
def fk (t : Nat) : List FK := match t with
  | 0 => [.inl 0, .inr (8, 6, 3), .inr (8, 7, 3), .inr (3, 0, 1), .inr (8, 8, 3)]
  | 1 => [.inr (8, 12, 2), .inr (8, 13, 2)]
  | 2 => [.inl 0, .inl 0, .inr (8, 0, 3), .inr (8, 1, 3), .inr (8, 2, 3)]
  | 3 => [.inl 0, .inl 0, .inr (21, 0, 1)]
  | 4 => [.inl 0, .inr (8, 24, 0)]
  | 5 => [.inl 0, .inl 0, .inl 0, .inl 0, .inl 0, .inl 0, .inr (3, 4, 0), .inr (8, 20, 0), .inr (8, 21, 0), .inr (8, 22, 0), .inr (8, 23, 0), .inr (3, 5, 0)]
  | 6 => [.inl 0, .inr (8, 16, 0), .inr (8, 17, 0), .inr (8, 18, 0), .inr (3, 2, 0), .inr (8, 19, 0), .inr (3, 3, 0)]
  | 7 => [.inr (2, 1, 0), .inr (0, 1, 0), .inl 0, .inl 0, .inl 0, .inl 0]
  | 8 => [.inr (20, 0, 1)]
  | 9 => [.inr (2, 0, 0), .inr (0, 0, 0), .inr (6, 0, 0), .inr (5, 0, 0), .inr (1, 0, 0), .inr (1, 1, 0), .inr (4, 0, 0), .inr (7, 0, 0)]
  | 10 => [.inl 0, .inl 0, .inl 0, .inr (22, 3, 0), .inr (22, 4, 0), .inr (22, 5, 0), .inr (22, 6, 0), .inl 0, .inr (22, 8, 0), .inr (22, 9, 0), .inr (22, 10, 0), .inl 0, .inr (22, 12, 0), .inl 0, .inr (22, 14, 0), .inr (22, 15, 0), .inr (22, 16, 0), .inr (22, 17, 0), .inr (22, 18, 0), .inl 0, .inl 0, .inl 0, .inl 0, .inl 0, .inl 0, .inr (22, 25, 0), .inr (22, 26, 0), .inr (22, 27, 0), .inl 0, .inr (22, 29, 0), .inr (22, 30, 0), .inl 1]
  | _ => []
/-- the instance that a reference field names -/
def rk (b s k : Nat) : Nat := match s with
  | 0 => b
  | 1 => k + b
  | n + 2 => (n + 2) * k + b
def rlens : List Nat := [14, 14, 8, 14, 14, 8, 10, 20, 20, 10, 20, 20, 8, 14, 8, 14, 300, 300, 300, 300, 300, 300, 300, 300, 60]
def glens : List Nat := [140, 140, 2100, 4200, 6000, 64]
def mlens : List Nat := [0, 0, 0, 14, 14, 14, 8, 0, 11, 22, 154, 0, 60, 0, 301, 301, 301, 2107, 4214, 0, 0, 0, 0, 0, 0, 301, 301, 301, 0, 14, 8, 0]
def alen (t k : Nat) : Nat := match t with
  | 20 => rlens.getD k 0
  | 21 => glens.getD k 0
  | 22 => mlens.getD k 0
  | _ => 1
/-- what is fixed over a run: the classes' numbers, the addresses, which objects there are, which cells are ours, the script -/
abbrev GE : Type := va_G × ClassId × ClassId × (Nat → Nat → Nat) × List (Nat × Nat) × (Nat → Prop) × Option (Nat × (Nat → Int32))
abbrev gD (G : GE) : va_G := G.1
abbrev gI (G : GE) : ClassId := G.2.1
abbrev gL (G : GE) : ClassId := G.2.2.1
abbrev gad (G : GE) : Nat → Nat → Nat := G.2.2.2.1
abbrev gids (G : GE) : List (Nat × Nat) := G.2.2.2.2.1
abbrev gA (G : GE) : Nat → Prop := G.2.2.2.2.2.1
abbrev gscr (G : GE) : Option (Nat × (Nat → Int32)) := G.2.2.2.2.2.2
def cv (G : GE) (v : AV) : Value := match v with
  | .inl x => .int x
  | .inr (.inl x) => .long x
  | .inr (.inr (.inl x)) => .float x
  | .inr (.inr (.inr (.inl x))) => .double x
  | .inr (.inr (.inr (.inr q))) => .ref (gad G q.1 q.2)
def fvs (ad : Nat → Nat → Nat) (f : Nat → Int32) (g : Nat → Int64) (k : Nat) : Nat → List FK → List Value
  | _, [] => []
  | i, .inl 0 :: r => .int (f i) :: fvs ad f g k (i + 1) r
  | i, .inl (_ + 1) :: r => .long (g i) :: fvs ad f g k (i + 1) r
  | i, .inr (t, b, s) :: r => .ref (ad t (rk b s k)) :: fvs ad f g k (i + 1) r
def enc (G : GE) (M : Mem) (t k : Nat) : va_E :=
  if t < 20 then .inr (t, fvs (gad G) (M.1 t k) (M.2 t k) k 0 (fk t)) else if t = 23 then .inl (gL G, alen t k, .inr (.inl (M.2 t k))) else .inl (gI G, alen t k, .inl (M.1 t k))
def wl (G : GE) (M : Mem) : va_W := (gids G).map (fun q => (gad G q.1 q.2, enc G M q.1 q.2))
abbrev gtys (G : GE) : List (ClassId × FieldType) := [(gI G, .int), (gL G, .long)]
/-- the string constants that the class's exceptions name -/
def strs : List (String × Nat × String) := [("ArrowDiagrams", 72, "objects is out of range"), ("ArrowDiagrams", 85, "to is not greater than from"), ("ArrowDiagrams", 92, "there are 14 arrows"), ("ArrowDiagrams", 102, "there would be more than 300 paths"), ("ArrowDiagrams", 111, "there are no arrows"), ("ArrowDiagrams", 126, "there are 10 cells"), ("ArrowDiagrams", 152, "code is not 32 to 126"), ("ArrowDiagrams", 157, "the buffer has 60 characters"), ("ArrowDiagrams", 171, "the buffer is not a complete text"), ("ArrowDiagrams", 227, "what is not 0 to 6"), ("ArrowDiagrams", 231, "there is no such arrow"), ("ArrowDiagrams", 246, "what is not 0 or 1"), ("ArrowDiagrams", 248, "the proof has no such step"), ("ArrowDiagrams", 274, "what is not 0 to 4"), ("ArrowDiagrams", 289, "what is not 0 to 7"), ("ArrowDiagrams", 291, "size is out of range"), ("ArrowDiagrams", 306, "code is the code of no such function"), ("ArrowDiagrams", 311, "there is no such element"), ("ArrowDiagrams", 321, "there are more than 6 arrows"), ("ArrowDiagrams", 337, "they are not two arrows from the same object"), ("ArrowDiagrams", 350, "they do not make such a square"), ("ArrowDiagrams", 358, "they do not lead like that"), ("ArrowDiagrams", 397, "the object does not exist"), ("ArrowDiagrams", 402, "the arrow does not exist"), ("ArrowDiagrams", 404, "the cell does not exist"), ("ArrowDiagrams", 406, "the path does not exist"), ("ArrowDiagrams", 408, "the paths are not parallel")]
abbrev exP : List String := ["java/lang/RuntimeException", "java/lang/Exception"]
/-- words that hold all over a run, but aren't of the kind that the tables keep -/
def XW : List Cond := [.castable "java/lang/IllegalArgumentException" "java/lang/IllegalArgumentException", .castable "java/lang/IllegalStateException" "java/lang/IllegalStateException", .castable "java/lang/IndexOutOfBoundsException" "java/lang/IndexOutOfBoundsException", .declares (Bundle.initS "java/lang/RuntimeException"), .declares (Bundle.initS "java/lang/Exception"), .declares (Bundle.initS Bundle.tN)]
theorem XW.warm {s U : State} (hW : s.WarmedH U.vm) (h : ∀ w ∈ XW, va_Nw w s) : ∀ w ∈ XW, va_Nw w U := by
  have h' := h
  unfold XW at h ⊢
  simp only [List.forall_mem_cons] at h ⊢
  obtain ⟨h1, h2, h3, h4, h5, h6, -⟩ := h
  exact ⟨va_Nw.warmC hW h1, va_Nw.warmC hW h2, va_Nw.warmC hW h3, va_Nw.warmD hW h4, va_Nw.warmD hW h5, va_Nw.warmD hW h6, fun _ z => nomatch z⟩
theorem XW.tabs : ∀ w ∈ XW, w.onTables = true := by decide +kernel
def Wm (G : GE) (M : Mem) (H : Heap) : Prop := va_P (gD G) vwCl (wl G M) H ∧ va_D (gA G) (wl G M)
/-- what stays all over a run -/
def SF (G : GE) (U : State) (H : Heap) : Prop :=
  va_K (gD G) vwCl (gtys G) U ∧ vx_Zq Bundle.tN "UNASSIGNED_STACK" Bundle.steD (gA G) U H ∧ vx_Zq Bundle.tN "SUPPRESSED_SENTINEL" Bundle.listD (gA G) U H ∧
  (∀ q, H.size ≤ q → gA G q) ∧ (∀ q ∈ strs, ∃ a, vk_R q.1 q.2.1 q.2.2 a U) ∧ (∀ w ∈ XW, va_Nw w U) ∧ (∀ L xs, gscr G = some (L, xs) → va_X (gad G 24 0) L xs U H ∧ gad G 24 0 < H.size ∧ ¬ gA G (gad G 24 0))
def Wd (G : GE) (M : Mem) (U : State) (H : Heap) : Prop := Wm G M H ∧ SF G U H
/-- which objects there are: known kinds, and what they name is there too -/
def GOK (G : GE) : Prop := ∀ q ∈ gids G, (q.1 < 11 ∨ q.1 = 20 ∨ q.1 = 21 ∨ q.1 = 22 ∨ q.1 = 23) ∧ ∀ (i t b s : Nat), (fk q.1)[i]? = some (.inr (t, b, s)) → (t, rk b s q.2) ∈ gids G
def okv (G : GE) (v : AV) : Prop := match v with
  | .inr (.inr (.inr (.inr q))) => q ∈ gids G ∨ (q = (24, 0) ∧ ∃ z, gscr G = some z)
  | _ => True
abbrev PX : Type := Program × Launch × Env × Room × State × MethodId × Array Value × List Frame × Method × Code
def WX (X : PX) (H : Heap) (locs : List Loc) (Q : State → Prop) (pc : Nat) (la : Array Slot) (st : List Value) : Prop :=
  W X.1 X.2.1 X.2.2.1 X.2.2.2.1 X.2.2.2.2.1 X.2.2.2.2.2.1 X.2.2.2.2.2.2.1 X.2.2.2.2.2.2.2.1 X.2.2.2.2.2.2.2.2.1 X.2.2.2.2.2.2.2.2.2 H locs 0 0 Q (F0 X.2.2.2.2.2.1 pc la st)
abbrev xs_ (X : PX) : State := X.2.2.2.2.1
def GW (G : GE) (X : PX) (nL : Nat) (Q : State → Prop) (pc : Nat) (ls : List (Nat × AV)) (st : List AV) (M : Mem) : Prop :=
  (∀ q ∈ ls, okv G q.2) → (∀ v ∈ st, okv G v) → ∀ (H : Heap) (locs : List Loc) (la : Array Slot), Wm G M H → va_S (gA G) (xs_ X).heap H locs → lv_has la nL (ls.map (fun q => (q.1, cv G q.2))) → WX X H locs Q pc la (st.map (cv G))
/-- what holds all over a method's walk -/
def CX (G : GE) (own : String) (cc : ByteArray) (nL : Nat) (ret : Option FieldType) (rm : Room) (X : PX) : Prop :=
  X.1.tables.exec = Jvm.exec ∧ X.2.2.2.2.2.2.2.2.2.code = cc ∧ X.2.2.2.2.2.2.2.2.2.maxLocals = nL ∧ (xs_ X).vm.findClass own = some X.2.2.2.2.2.1.cls ∧ (∀ w ∈ BW, w.before X.2.2.2.2.2.2.1 (xs_ X) = true) ∧ X.2.2.2.2.2.2.2.2.1.locks = false ∧ X.2.2.2.2.2.2.2.2.1.sig.returnType = ret ∧ (∀ z ∈ X.2.2.2.2.2.2.2.2.2.exceptionTable.toList, False) ∧ X.2.1.stackTraces = false ∧ X.2.2.2.1 = rm ∧ GOK G ∧ SF G (xs_ X) (xs_ X).heap
abbrev Outc : Type := Option AV ⊕ String
def mcx (o : Outc) : Nat := match o with | .inl _ => 0 | .inr _ => 1
def msx (o : Outc) : Nat := match o with | .inl _ => 0 | .inr _ => 6
def rmx (d : Nat) (o : Outc) : Room := { frames := d, cells := mcx o, slots := msx o, locals := 36 * d }
def QR (G : GE) (o : Outc) (M : Mem) : Array Value → State → Outcome → State → Prop := fun _ st oc t => ∃ v, o = .inl v ∧ oc = .returned (v.map (cv G)) ∧ Wm G M t.heap ∧ va_F (gA G) st t
def XR (G : GE) (o : Outc) (M : Mem) : String → State → State → Prop := fun E st t => o = .inr E ∧ Wm G M t.heap ∧ va_F (gA G) st t
def PR (G : GE) (av : List AV) (M : Mem) : Array Value → State → Prop := va_Pc (av.map (cv G)) (fun U => Wd G M U U.heap)
/-- a method's contract: from the memory M, with these arguments, it comes to the outcome o with the memory M' -/
def CT (l : Launch) (G : GE) (y : MethodName) (cc : ByteArray) (nL : Nat) (ret : Option FieldType) (d : Nat) (av : List AV) (M : Mem) (o : Outc) (M' : Mem) : Prop :=
  vx_Met l y (Cond.code y cc nL ret :: BW) (rmx d o) (PR G av M) (QR G o M') (XR G o M') (mcx o) (msx o) (gA G)
def QX (G : GE) (X : PX) (o : Outc) (M' : Mem) : State → Prop := vx_MQ X.2.2.2.2.2.2.2.1 (QR G o M') (XR G o M') X.2.2.2.2.2.2.1 (xs_ X) (mcx o) (msx o) (gA G)
end MEM
end
section
/-! One row an instruction, over the flat memory (made by wip/whole/mkrules.py). -/
section RULES
variable {G : GE} {own : String} {cc : ByteArray} {nL : Nat} {ret : Option FieldType} {rm : Room} {X : PX} {Q : State → Prop} {pc : Nat} {ls : List (Nat × AV)} {st : List AV} {M : Mem}
def cat2 (v : AV) : Bool := match v with
  | .inr (.inl _) => true
  | .inr (.inr (.inr (.inl _))) => true
  | _ => false
theorem cat2_cv (v : AV) : ((cv G v).category == 2) = cat2 v := by
  rcases v with x | x | x | x | x <;> rfl
theorem okT {v : AV} {l : List AV} (h : okv G v) (o : ∀ v ∈ l, okv G v) : ∀ w ∈ v :: l, okv G w := List.forall_mem_cons.mpr ⟨h, o⟩
theorem okH {v : AV} {l : List AV} (o : ∀ w ∈ v :: l, okv G w) : okv G v := (List.forall_mem_cons.mp o).1
theorem okR {v : AV} {l : List AV} (o : ∀ w ∈ v :: l, okv G w) : ∀ w ∈ l, okv G w := (List.forall_mem_cons.mp o).2
abbrev cq (G : GE) : Nat × AV → Nat × Value := fun q => (q.1, cv G q.2)
def ff1 (i : Nat) : Nat × AV → Bool := fun q => !(q.1 == i) && !(q.1 + 1 == i && cat2 q.2)
def ff2 (i : Nat) : Nat × AV → Bool := fun q => !(q.1 == i) && (!(q.1 == i + 1) && !(q.1 + 1 == i && cat2 q.2))
theorem st1 {la : Array Slot} {i : Nat} {v : AV} {ls' : List (Nat × AV)} (hl : (i, v) :: ls.filter (ff1 i) = ls') (h : lv_has la nL ((i, cv G v) :: (ls.map (cq G)).filter (fun q => !(q.1 == i) && !(q.1 + 1 == i && q.2.category == 2)))) : lv_has la nL (ls'.map (cq G)) := by
  refine ⟨h.1, h.2.1, fun q hq => h.2.2 q ?_⟩
  subst hl
  rw [List.map_cons] at hq
  rcases List.mem_cons.mp hq with e | hq
  · rw [e]; exact List.mem_cons_self
  · refine List.mem_cons_of_mem _ ?_
    obtain ⟨w, hw, rfl⟩ := List.mem_map.mp hq
    obtain ⟨h1, h2⟩ := List.mem_filter.mp hw
    refine List.mem_filter.mpr ⟨List.mem_map.mpr ⟨w, h1, rfl⟩, ?_⟩
    show (!(w.1 == i) && !(w.1 + 1 == i && (cv G w.2).category == 2)) = true
    rw [cat2_cv]
    exact h2
theorem st2 {la : Array Slot} {i : Nat} {v : AV} {ls' : List (Nat × AV)} (hl : (i, v) :: ls.filter (ff2 i) = ls') (h : lv_has la nL ((i, cv G v) :: (ls.map (cq G)).filter (fun q => !(q.1 == i) && (!(q.1 == i + 1) && !(q.1 + 1 == i && q.2.category == 2))))) : lv_has la nL (ls'.map (cq G)) := by
  refine ⟨h.1, h.2.1, fun q hq => h.2.2 q ?_⟩
  subst hl
  rw [List.map_cons] at hq
  rcases List.mem_cons.mp hq with e | hq
  · rw [e]; exact List.mem_cons_self
  · refine List.mem_cons_of_mem _ ?_
    obtain ⟨w, hw, rfl⟩ := List.mem_map.mp hq
    obtain ⟨h1, h2⟩ := List.mem_filter.mp hw
    refine List.mem_filter.mpr ⟨List.mem_map.mpr ⟨w, h1, rfl⟩, ?_⟩
    show (!(w.1 == i) && (!(w.1 == i + 1) && !(w.1 + 1 == i && (cv G w.2).category == 2))) = true
    rw [cat2_cv]
    exact h2
theorem okS {i : Nat} {v : AV} {f : Nat × AV → Bool} {ls' : List (Nat × AV)} (hl : (i, v) :: ls.filter f = ls') (h : okv G v) (o : ∀ q ∈ ls, okv G q.2) : ∀ q ∈ ls', okv G q.2 := by
  subst hl
  intro q hq
  rcases List.mem_cons.mp hq with e | hq
  · rw [e]; exact h
  · exact o q (List.mem_filter.mp hq).1
theorem lget {la : Array Slot} (h : lv_has la nL (ls.map (cq G))) (j : Nat) {i : Nat} {v : AV} (hj : ls[j]? = some (i, v)) : la[i]? = some (.val (cv G v)) := lv_at h j (by rw [List.getElem?_map, hj]; rfl)
theorem okL (o : ∀ q ∈ ls, okv G q.2) (j : Nat) {i : Nat} {v : AV} (hj : ls[j]? = some (i, v)) : okv G v := o (i, v) (List.mem_of_getElem? hj)
/-- fewer locals -/
theorem g_sub {ls' : List (Nat × AV)} (js : List Nat) (hj : js.filterMap (fun j => ls[j]?) = ls') (k : GW G X nL Q pc ls' st M) : GW G X nL Q pc ls st M := by
  have hm : ∀ q ∈ ls', q ∈ ls := by
    intro q hq
    subst hj
    obtain ⟨i, -, hi⟩ := List.mem_filterMap.mp hq
    exact List.mem_of_getElem? hi
  intro o1 o2 H locs la w s h
  refine k (fun q hq => o1 q (hm q hq)) o2 H locs la w s ⟨h.1, h.2.1, fun q hq => h.2.2 q ?_⟩
  obtain ⟨z, hz, rfl⟩ := List.mem_map.mp hq
  exact List.mem_map.mpr ⟨z, hm z hz, rfl⟩
theorem g_pc {pc' : Nat} (h : pc = pc') (k : GW G X nL Q pc' ls st M) : GW G X nL Q pc ls st M := h ▸ k
theorem g_cfg {pc' : Nat} {ls' : List (Nat × AV)} {st' : List AV} {M' : Mem} (h1 : pc = pc') (h2 : ls = ls') (h3 : st = st') (h4 : M = M') (k : GW G X nL Q pc' ls' st' M') : GW G X nL Q pc ls st M := by subst h1; subst h2; subst h3; subst h4; exact k
theorem g_iconst (C : CX G own cc nL ret rm X) {n : Int} {v : Int32} (hd : decode cc pc = .ok (.iconst n, 1)) (hv : Int32.ofInt n = v) (k : GW G X nL Q (pc + 1) ls (vI v :: st) M) : GW G X nL Q pc ls st M :=
  fun o1 o2 H locs la w s h => lv_iconst C.1 C.2.1 hd hv (k o1 (okT trivial o2) H locs la w s h)
theorem g_bipush (C : CX G own cc nL ret rm X) {n : Int} {v : Int32} (hd : decode cc pc = .ok (.bipush n, 2)) (hv : (Int8.ofInt n).toInt32 = v) (k : GW G X nL Q (pc + 2) ls (vI v :: st) M) : GW G X nL Q pc ls st M :=
  fun o1 o2 H locs la w s h => lv_bipush C.1 C.2.1 hd hv (k o1 (okT trivial o2) H locs la w s h)
theorem g_sipush (C : CX G own cc nL ret rm X) {n : Int} {v : Int32} (hd : decode cc pc = .ok (.sipush n, 3)) (hv : (Int16.ofInt n).toInt32 = v) (k : GW G X nL Q (pc + 3) ls (vI v :: st) M) : GW G X nL Q pc ls st M :=
  fun o1 o2 H locs la w s h => lv_sipush C.1 C.2.1 hd hv (k o1 (okT trivial o2) H locs la w s h)
theorem g_lconst (C : CX G own cc nL ret rm X) {n : Fin 2} {v : Int64} (hd : decode cc pc = .ok (.lconst n, 1)) (hv : Int64.ofNat (n : Nat) = v) (k : GW G X nL Q (pc + 1) ls (vL v :: st) M) : GW G X nL Q pc ls st M :=
  fun o1 o2 H locs la w s h => lv_lconst C.1 C.2.1 hd hv (k o1 (okT trivial o2) H locs la w s h)
theorem g_fconst0 (C : CX G own cc nL ret rm X) (hd : decode cc pc = .ok (.fconst 0, 1)) (k : GW G X nL Q (pc + 1) ls (vF FP.fconst0 :: st) M) : GW G X nL Q pc ls st M :=
  fun o1 o2 H locs la w s h => lv_fconst0 C.1 C.2.1 hd (k o1 (okT trivial o2) H locs la w s h)
theorem g_fconst1 (C : CX G own cc nL ret rm X) (hd : decode cc pc = .ok (.fconst 1, 1)) (k : GW G X nL Q (pc + 1) ls (vF FP.fconst1 :: st) M) : GW G X nL Q pc ls st M :=
  fun o1 o2 H locs la w s h => lv_fconst1 C.1 C.2.1 hd (k o1 (okT trivial o2) H locs la w s h)
theorem g_fconst2 (C : CX G own cc nL ret rm X) (hd : decode cc pc = .ok (.fconst 2, 1)) (k : GW G X nL Q (pc + 1) ls (vF FP.fconst2 :: st) M) : GW G X nL Q pc ls st M :=
  fun o1 o2 H locs la w s h => lv_fconst2 C.1 C.2.1 hd (k o1 (okT trivial o2) H locs la w s h)
theorem g_dconst0 (C : CX G own cc nL ret rm X) (hd : decode cc pc = .ok (.dconst 0, 1)) (k : GW G X nL Q (pc + 1) ls (vD FP.dconst0 :: st) M) : GW G X nL Q pc ls st M :=
  fun o1 o2 H locs la w s h => lv_dconst0 C.1 C.2.1 hd (k o1 (okT trivial o2) H locs la w s h)
theorem g_dconst1 (C : CX G own cc nL ret rm X) (hd : decode cc pc = .ok (.dconst 1, 1)) (k : GW G X nL Q (pc + 1) ls (vD FP.dconst1 :: st) M) : GW G X nL Q pc ls st M :=
  fun o1 o2 H locs la w s h => lv_dconst1 C.1 C.2.1 hd (k o1 (okT trivial o2) H locs la w s h)
theorem g_ldc (C : CX G own cc nL ret rm X) {index : Nat} {v : Int32} (hc : Cond.constant own index v ∈ BW) (hd : decode cc pc = .ok (.ldc index, 2)) (k : GW G X nL Q (pc + 2) ls (vI v :: st) M) : GW G X nL Q pc ls st M :=
  fun o1 o2 H locs la w s h => lv_ldc C.1 C.2.1 C.2.2.2.1 (C.2.2.2.2.1 _ hc) hd (k o1 (okT trivial o2) H locs la w s h)
theorem g_ldcf (C : CX G own cc nL ret rm X) {index : Nat} {v : UInt32} (hc : Cond.constantFloat own index v ∈ BW) (hd : decode cc pc = .ok (.ldc index, 2)) (k : GW G X nL Q (pc + 2) ls (vF v :: st) M) : GW G X nL Q pc ls st M :=
  fun o1 o2 H locs la w s h => lv_ldcf C.1 C.2.1 C.2.2.2.1 (C.2.2.2.2.1 _ hc) hd (k o1 (okT trivial o2) H locs la w s h)
theorem g_ldc2 (C : CX G own cc nL ret rm X) {index : Nat} {v : Int64} (hc : Cond.constantLong own index v ∈ BW) (hd : decode cc pc = .ok (.ldc2_w index, 3)) (k : GW G X nL Q (pc + 3) ls (vL v :: st) M) : GW G X nL Q pc ls st M :=
  fun o1 o2 H locs la w s h => lv_ldc2 C.1 C.2.1 C.2.2.2.1 (C.2.2.2.2.1 _ hc) hd (k o1 (okT trivial o2) H locs la w s h)
theorem g_ldc2d (C : CX G own cc nL ret rm X) {index : Nat} {v : UInt64} (hc : Cond.constantDouble own index v ∈ BW) (hd : decode cc pc = .ok (.ldc2_w index, 3)) (k : GW G X nL Q (pc + 3) ls (vD v :: st) M) : GW G X nL Q pc ls st M :=
  fun o1 o2 H locs la w s h => lv_ldc2d C.1 C.2.1 C.2.2.2.1 (C.2.2.2.2.1 _ hc) hd (k o1 (okT trivial o2) H locs la w s h)
theorem g_iload_n (C : CX G own cc nL ret rm X) (j : Nat) {n : Fin 4} {i : Nat} {x : Int32} (hd : decode cc pc = .ok (.iload_n n, 1)) (hi : (n : Nat) = i) (hj : ls[j]? = some (i, vI x)) (k : GW G X nL Q (pc + 1) ls (vI x :: st) M) : GW G X nL Q pc ls st M :=
  fun o1 o2 H locs la w s h => lv_iload_n C.1 C.2.1 hd hi (lget h j hj) (k o1 (okT trivial o2) H locs la w s h)
theorem g_iload (C : CX G own cc nL ret rm X) (j : Nat) {i : Nat} {x : Int32} (hd : decode cc pc = .ok (.iload i, 2)) (hj : ls[j]? = some (i, vI x)) (k : GW G X nL Q (pc + 2) ls (vI x :: st) M) : GW G X nL Q pc ls st M :=
  fun o1 o2 H locs la w s h => lv_iload C.1 C.2.1 hd (lget h j hj) (k o1 (okT trivial o2) H locs la w s h)
theorem g_lload_n (C : CX G own cc nL ret rm X) (j : Nat) {n : Fin 4} {i : Nat} {x : Int64} (hd : decode cc pc = .ok (.lload_n n, 1)) (hi : (n : Nat) = i) (hj : ls[j]? = some (i, vL x)) (k : GW G X nL Q (pc + 1) ls (vL x :: st) M) : GW G X nL Q pc ls st M :=
  fun o1 o2 H locs la w s h => lv_lload_n C.1 C.2.1 hd hi (lget h j hj) (k o1 (okT trivial o2) H locs la w s h)
theorem g_lload (C : CX G own cc nL ret rm X) (j : Nat) {i : Nat} {x : Int64} (hd : decode cc pc = .ok (.lload i, 2)) (hj : ls[j]? = some (i, vL x)) (k : GW G X nL Q (pc + 2) ls (vL x :: st) M) : GW G X nL Q pc ls st M :=
  fun o1 o2 H locs la w s h => lv_lload C.1 C.2.1 hd (lget h j hj) (k o1 (okT trivial o2) H locs la w s h)
theorem g_fload_n (C : CX G own cc nL ret rm X) (j : Nat) {n : Fin 4} {i : Nat} {x : UInt32} (hd : decode cc pc = .ok (.fload_n n, 1)) (hi : (n : Nat) = i) (hj : ls[j]? = some (i, vF x)) (k : GW G X nL Q (pc + 1) ls (vF x :: st) M) : GW G X nL Q pc ls st M :=
  fun o1 o2 H locs la w s h => lv_fload_n C.1 C.2.1 hd hi (lget h j hj) (k o1 (okT trivial o2) H locs la w s h)
theorem g_fload (C : CX G own cc nL ret rm X) (j : Nat) {i : Nat} {x : UInt32} (hd : decode cc pc = .ok (.fload i, 2)) (hj : ls[j]? = some (i, vF x)) (k : GW G X nL Q (pc + 2) ls (vF x :: st) M) : GW G X nL Q pc ls st M :=
  fun o1 o2 H locs la w s h => lv_fload C.1 C.2.1 hd (lget h j hj) (k o1 (okT trivial o2) H locs la w s h)
theorem g_dload_n (C : CX G own cc nL ret rm X) (j : Nat) {n : Fin 4} {i : Nat} {x : UInt64} (hd : decode cc pc = .ok (.dload_n n, 1)) (hi : (n : Nat) = i) (hj : ls[j]? = some (i, vD x)) (k : GW G X nL Q (pc + 1) ls (vD x :: st) M) : GW G X nL Q pc ls st M :=
  fun o1 o2 H locs la w s h => lv_dload_n C.1 C.2.1 hd hi (lget h j hj) (k o1 (okT trivial o2) H locs la w s h)
theorem g_dload (C : CX G own cc nL ret rm X) (j : Nat) {i : Nat} {x : UInt64} (hd : decode cc pc = .ok (.dload i, 2)) (hj : ls[j]? = some (i, vD x)) (k : GW G X nL Q (pc + 2) ls (vD x :: st) M) : GW G X nL Q pc ls st M :=
  fun o1 o2 H locs la w s h => lv_dload C.1 C.2.1 hd (lget h j hj) (k o1 (okT trivial o2) H locs la w s h)
theorem g_aload_n (C : CX G own cc nL ret rm X) (j : Nat) {n : Fin 4} {i t q : Nat} (hd : decode cc pc = .ok (.aload_n n, 1)) (hi : (n : Nat) = i) (hj : ls[j]? = some (i, vR t q)) (k : GW G X nL Q (pc + 1) ls (vR t q :: st) M) : GW G X nL Q pc ls st M :=
  fun o1 o2 H locs la w s h => lv_aload_n C.1 C.2.1 hd hi (lget h j hj) (k o1 (okT (okL o1 j hj) o2) H locs la w s h)
theorem g_aload (C : CX G own cc nL ret rm X) (j : Nat) {i t q : Nat} (hd : decode cc pc = .ok (.aload i, 2)) (hj : ls[j]? = some (i, vR t q)) (k : GW G X nL Q (pc + 2) ls (vR t q :: st) M) : GW G X nL Q pc ls st M :=
  fun o1 o2 H locs la w s h => lv_aload C.1 C.2.1 hd (lget h j hj) (k o1 (okT (okL o1 j hj) o2) H locs la w s h)
theorem g_istore_n (C : CX G own cc nL ret rm X) {ls' : List (Nat × AV)} {n : Fin 4} {i : Nat} {x : Int32} (hd : decode cc pc = .ok (.istore_n n, 1)) (hi : (n : Nat) = i) (hn : i < nL) (hl : (i, vI x) :: ls.filter (ff1 i) = ls') (k : GW G X nL Q (pc + 1) ls' st M) : GW G X nL Q pc ls (vI x :: st) M :=
  fun o1 o2 H locs la w s h => lv_istore_n C.1 C.2.1 hd hi h hn rfl (fun la2 h2 => k (okS hl trivial o1) (okR o2) H locs la2 w s (st1 hl h2))
theorem g_istore (C : CX G own cc nL ret rm X) {ls' : List (Nat × AV)} {i : Nat} {x : Int32} (hd : decode cc pc = .ok (.istore i, 2)) (hn : i < nL) (hl : (i, vI x) :: ls.filter (ff1 i) = ls') (k : GW G X nL Q (pc + 2) ls' st M) : GW G X nL Q pc ls (vI x :: st) M :=
  fun o1 o2 H locs la w s h => lv_istore C.1 C.2.1 hd h hn rfl (fun la2 h2 => k (okS hl trivial o1) (okR o2) H locs la2 w s (st1 hl h2))
theorem g_lstore_n (C : CX G own cc nL ret rm X) {ls' : List (Nat × AV)} {n : Fin 4} {i : Nat} {x : Int64} (hd : decode cc pc = .ok (.lstore_n n, 1)) (hi : (n : Nat) = i) (hn : i + 1 < nL) (hl : (i, vL x) :: ls.filter (ff2 i) = ls') (k : GW G X nL Q (pc + 1) ls' st M) : GW G X nL Q pc ls (vL x :: st) M :=
  fun o1 o2 H locs la w s h => lv_lstore_n C.1 C.2.1 hd hi h hn rfl (fun la2 h2 => k (okS hl trivial o1) (okR o2) H locs la2 w s (st2 hl h2))
theorem g_lstore (C : CX G own cc nL ret rm X) {ls' : List (Nat × AV)} {i : Nat} {x : Int64} (hd : decode cc pc = .ok (.lstore i, 2)) (hn : i + 1 < nL) (hl : (i, vL x) :: ls.filter (ff2 i) = ls') (k : GW G X nL Q (pc + 2) ls' st M) : GW G X nL Q pc ls (vL x :: st) M :=
  fun o1 o2 H locs la w s h => lv_lstore C.1 C.2.1 hd h hn rfl (fun la2 h2 => k (okS hl trivial o1) (okR o2) H locs la2 w s (st2 hl h2))
theorem g_fstore_n (C : CX G own cc nL ret rm X) {ls' : List (Nat × AV)} {n : Fin 4} {i : Nat} {x : UInt32} (hd : decode cc pc = .ok (.fstore_n n, 1)) (hi : (n : Nat) = i) (hn : i < nL) (hl : (i, vF x) :: ls.filter (ff1 i) = ls') (k : GW G X nL Q (pc + 1) ls' st M) : GW G X nL Q pc ls (vF x :: st) M :=
  fun o1 o2 H locs la w s h => lv_fstore_n C.1 C.2.1 hd hi h hn rfl (fun la2 h2 => k (okS hl trivial o1) (okR o2) H locs la2 w s (st1 hl h2))
theorem g_fstore (C : CX G own cc nL ret rm X) {ls' : List (Nat × AV)} {i : Nat} {x : UInt32} (hd : decode cc pc = .ok (.fstore i, 2)) (hn : i < nL) (hl : (i, vF x) :: ls.filter (ff1 i) = ls') (k : GW G X nL Q (pc + 2) ls' st M) : GW G X nL Q pc ls (vF x :: st) M :=
  fun o1 o2 H locs la w s h => lv_fstore C.1 C.2.1 hd h hn rfl (fun la2 h2 => k (okS hl trivial o1) (okR o2) H locs la2 w s (st1 hl h2))
theorem g_dstore_n (C : CX G own cc nL ret rm X) {ls' : List (Nat × AV)} {n : Fin 4} {i : Nat} {x : UInt64} (hd : decode cc pc = .ok (.dstore_n n, 1)) (hi : (n : Nat) = i) (hn : i + 1 < nL) (hl : (i, vD x) :: ls.filter (ff2 i) = ls') (k : GW G X nL Q (pc + 1) ls' st M) : GW G X nL Q pc ls (vD x :: st) M :=
  fun o1 o2 H locs la w s h => lv_dstore_n C.1 C.2.1 hd hi h hn rfl (fun la2 h2 => k (okS hl trivial o1) (okR o2) H locs la2 w s (st2 hl h2))
theorem g_dstore (C : CX G own cc nL ret rm X) {ls' : List (Nat × AV)} {i : Nat} {x : UInt64} (hd : decode cc pc = .ok (.dstore i, 2)) (hn : i + 1 < nL) (hl : (i, vD x) :: ls.filter (ff2 i) = ls') (k : GW G X nL Q (pc + 2) ls' st M) : GW G X nL Q pc ls (vD x :: st) M :=
  fun o1 o2 H locs la w s h => lv_dstore C.1 C.2.1 hd h hn rfl (fun la2 h2 => k (okS hl trivial o1) (okR o2) H locs la2 w s (st2 hl h2))
theorem g_astore_n (C : CX G own cc nL ret rm X) {ls' : List (Nat × AV)} {n : Fin 4} {i t q : Nat} (hd : decode cc pc = .ok (.astore_n n, 1)) (hi : (n : Nat) = i) (hn : i < nL) (hl : (i, vR t q) :: ls.filter (ff1 i) = ls') (k : GW G X nL Q (pc + 1) ls' st M) : GW G X nL Q pc ls (vR t q :: st) M :=
  fun o1 o2 H locs la w s h => lv_astore_n C.1 C.2.1 hd hi h hn rfl (fun la2 h2 => k (okS hl (okH o2) o1) (okR o2) H locs la2 w s (st1 hl h2))
theorem g_astore (C : CX G own cc nL ret rm X) {ls' : List (Nat × AV)} {i t q : Nat} (hd : decode cc pc = .ok (.astore i, 2)) (hn : i < nL) (hl : (i, vR t q) :: ls.filter (ff1 i) = ls') (k : GW G X nL Q (pc + 2) ls' st M) : GW G X nL Q pc ls (vR t q :: st) M :=
  fun o1 o2 H locs la w s h => lv_astore C.1 C.2.1 hd h hn rfl (fun la2 h2 => k (okS hl (okH o2) o1) (okR o2) H locs la2 w s (st1 hl h2))
theorem g_iinc (C : CX G own cc nL ret rm X) {ls' : List (Nat × AV)} (j : Nat) {i : Nat} {n : Int} {x v : Int32} (hd : decode cc pc = .ok (.iinc i n, 3)) (hj : ls[j]? = some (i, vI x)) (hv : x + Int32.ofInt n = v) (hn : i < nL) (hl : (i, vI v) :: ls.filter (ff1 i) = ls') (k : GW G X nL Q (pc + 3) ls' st M) : GW G X nL Q pc ls st M :=
  fun o1 o2 H locs la w s h => lv_iinc (k := j) C.1 C.2.1 hd h (by rw [List.getElem?_map, hj]; rfl) hv hn rfl (fun la2 h2 => k (okS hl trivial o1) o2 H locs la2 w s (st1 hl h2))
theorem g_iadd (C : CX G own cc nL ret rm X) {x y : Int32} (hd : decode cc pc = .ok (.iadd, 1)) (k : GW G X nL Q (pc + 1) ls (vI (x + y) :: st) M) : GW G X nL Q pc ls (vI y :: vI x :: st) M :=
  fun o1 o2 H locs la w s h => lv_iadd C.1 C.2.1 hd (k o1 (okT trivial (okR (okR o2))) H locs la w s h)
theorem g_isub (C : CX G own cc nL ret rm X) {x y : Int32} (hd : decode cc pc = .ok (.isub, 1)) (k : GW G X nL Q (pc + 1) ls (vI (x - y) :: st) M) : GW G X nL Q pc ls (vI y :: vI x :: st) M :=
  fun o1 o2 H locs la w s h => lv_isub C.1 C.2.1 hd (k o1 (okT trivial (okR (okR o2))) H locs la w s h)
theorem g_imul (C : CX G own cc nL ret rm X) {x y : Int32} (hd : decode cc pc = .ok (.imul, 1)) (k : GW G X nL Q (pc + 1) ls (vI (x * y) :: st) M) : GW G X nL Q pc ls (vI y :: vI x :: st) M :=
  fun o1 o2 H locs la w s h => lv_imul C.1 C.2.1 hd (k o1 (okT trivial (okR (okR o2))) H locs la w s h)
theorem g_iand (C : CX G own cc nL ret rm X) {x y : Int32} (hd : decode cc pc = .ok (.iand, 1)) (k : GW G X nL Q (pc + 1) ls (vI (x &&& y) :: st) M) : GW G X nL Q pc ls (vI y :: vI x :: st) M :=
  fun o1 o2 H locs la w s h => lv_iand C.1 C.2.1 hd (k o1 (okT trivial (okR (okR o2))) H locs la w s h)
theorem g_ior (C : CX G own cc nL ret rm X) {x y : Int32} (hd : decode cc pc = .ok (.ior, 1)) (k : GW G X nL Q (pc + 1) ls (vI (x ||| y) :: st) M) : GW G X nL Q pc ls (vI y :: vI x :: st) M :=
  fun o1 o2 H locs la w s h => lv_ior C.1 C.2.1 hd (k o1 (okT trivial (okR (okR o2))) H locs la w s h)
theorem g_ixor (C : CX G own cc nL ret rm X) {x y : Int32} (hd : decode cc pc = .ok (.ixor, 1)) (k : GW G X nL Q (pc + 1) ls (vI (x ^^^ y) :: st) M) : GW G X nL Q pc ls (vI y :: vI x :: st) M :=
  fun o1 o2 H locs la w s h => lv_ixor C.1 C.2.1 hd (k o1 (okT trivial (okR (okR o2))) H locs la w s h)
theorem g_ishl (C : CX G own cc nL ret rm X) {x y : Int32} (hd : decode cc pc = .ok (.ishl, 1)) (k : GW G X nL Q (pc + 1) ls (vI (x <<< (y &&& 31)) :: st) M) : GW G X nL Q pc ls (vI y :: vI x :: st) M :=
  fun o1 o2 H locs la w s h => lv_ishl C.1 C.2.1 hd (k o1 (okT trivial (okR (okR o2))) H locs la w s h)
theorem g_ishr (C : CX G own cc nL ret rm X) {x y : Int32} (hd : decode cc pc = .ok (.ishr, 1)) (k : GW G X nL Q (pc + 1) ls (vI (x >>> (y &&& 31)) :: st) M) : GW G X nL Q pc ls (vI y :: vI x :: st) M :=
  fun o1 o2 H locs la w s h => lv_ishr C.1 C.2.1 hd (k o1 (okT trivial (okR (okR o2))) H locs la w s h)
theorem g_idiv (C : CX G own cc nL ret rm X) {x y : Int32} (hd : decode cc pc = .ok (.idiv, 1)) (hne : ¬ y = 0) (k : GW G X nL Q (pc + 1) ls (vI (x / y) :: st) M) : GW G X nL Q pc ls (vI y :: vI x :: st) M :=
  fun o1 o2 H locs la w s h => lv_idiv C.1 C.2.1 hd hne (k o1 (okT trivial (okR (okR o2))) H locs la w s h)
theorem g_irem (C : CX G own cc nL ret rm X) {x y : Int32} (hd : decode cc pc = .ok (.irem, 1)) (hne : ¬ y = 0) (k : GW G X nL Q (pc + 1) ls (vI (x - x / y * y) :: st) M) : GW G X nL Q pc ls (vI y :: vI x :: st) M :=
  fun o1 o2 H locs la w s h => lv_irem C.1 C.2.1 hd hne (k o1 (okT trivial (okR (okR o2))) H locs la w s h)
theorem g_ladd (C : CX G own cc nL ret rm X) {x y : Int64} (hd : decode cc pc = .ok (.ladd, 1)) (k : GW G X nL Q (pc + 1) ls (vL (x + y) :: st) M) : GW G X nL Q pc ls (vL y :: vL x :: st) M :=
  fun o1 o2 H locs la w s h => lv_ladd C.1 C.2.1 hd (k o1 (okT trivial (okR (okR o2))) H locs la w s h)
theorem g_lsub (C : CX G own cc nL ret rm X) {x y : Int64} (hd : decode cc pc = .ok (.lsub, 1)) (k : GW G X nL Q (pc + 1) ls (vL (x - y) :: st) M) : GW G X nL Q pc ls (vL y :: vL x :: st) M :=
  fun o1 o2 H locs la w s h => lv_lsub C.1 C.2.1 hd (k o1 (okT trivial (okR (okR o2))) H locs la w s h)
theorem g_lmul (C : CX G own cc nL ret rm X) {x y : Int64} (hd : decode cc pc = .ok (.lmul, 1)) (k : GW G X nL Q (pc + 1) ls (vL (x * y) :: st) M) : GW G X nL Q pc ls (vL y :: vL x :: st) M :=
  fun o1 o2 H locs la w s h => lv_lmul C.1 C.2.1 hd (k o1 (okT trivial (okR (okR o2))) H locs la w s h)
theorem g_lor (C : CX G own cc nL ret rm X) {x y : Int64} (hd : decode cc pc = .ok (.lor, 1)) (k : GW G X nL Q (pc + 1) ls (vL (x ||| y) :: st) M) : GW G X nL Q pc ls (vL y :: vL x :: st) M :=
  fun o1 o2 H locs la w s h => lv_lor C.1 C.2.1 hd (k o1 (okT trivial (okR (okR o2))) H locs la w s h)
theorem g_lcmp (C : CX G own cc nL ret rm X) {x y : Int64} (hd : decode cc pc = .ok (.lcmp, 1)) (k : GW G X nL Q (pc + 1) ls (vI (lg_cmp x y) :: st) M) : GW G X nL Q pc ls (vL y :: vL x :: st) M :=
  fun o1 o2 H locs la w s h => W.lcmp C.1 C.2.1 hd (k o1 (okT trivial (okR (okR o2))) H locs la w s h)
theorem g_fsub (C : CX G own cc nL ret rm X) {x y : UInt32} (hd : decode cc pc = .ok (.fsub, 1)) (hne : vf_n32 (FP.fsub x y)) (k : GW G X nL Q (pc + 1) ls (vF (FP.fsub x y) :: st) M) : GW G X nL Q pc ls (vF y :: vF x :: st) M :=
  fun o1 o2 H locs la w s h => lv_fsub C.1 C.2.1 hd hne (k o1 (okT trivial (okR (okR o2))) H locs la w s h)
theorem g_fmul (C : CX G own cc nL ret rm X) {x y : UInt32} (hd : decode cc pc = .ok (.fmul, 1)) (hne : vf_n32 (FP.fmul x y)) (k : GW G X nL Q (pc + 1) ls (vF (FP.fmul x y) :: st) M) : GW G X nL Q pc ls (vF y :: vF x :: st) M :=
  fun o1 o2 H locs la w s h => lv_fmul C.1 C.2.1 hd hne (k o1 (okT trivial (okR (okR o2))) H locs la w s h)
theorem g_fdiv (C : CX G own cc nL ret rm X) {x y : UInt32} (hd : decode cc pc = .ok (.fdiv, 1)) (hne : vf_n32 (FP.fdiv x y)) (k : GW G X nL Q (pc + 1) ls (vF (FP.fdiv x y) :: st) M) : GW G X nL Q pc ls (vF y :: vF x :: st) M :=
  fun o1 o2 H locs la w s h => lv_fdiv C.1 C.2.1 hd hne (k o1 (okT trivial (okR (okR o2))) H locs la w s h)
theorem g_dsub (C : CX G own cc nL ret rm X) {x y : UInt64} (hd : decode cc pc = .ok (.dsub, 1)) (hne : vf_n64 (FP.dsub x y)) (k : GW G X nL Q (pc + 1) ls (vD (FP.dsub x y) :: st) M) : GW G X nL Q pc ls (vD y :: vD x :: st) M :=
  fun o1 o2 H locs la w s h => lv_dsub C.1 C.2.1 hd hne (k o1 (okT trivial (okR (okR o2))) H locs la w s h)
theorem g_dmul (C : CX G own cc nL ret rm X) {x y : UInt64} (hd : decode cc pc = .ok (.dmul, 1)) (hne : vf_n64 (FP.dmul x y)) (k : GW G X nL Q (pc + 1) ls (vD (FP.dmul x y) :: st) M) : GW G X nL Q pc ls (vD y :: vD x :: st) M :=
  fun o1 o2 H locs la w s h => lv_dmul C.1 C.2.1 hd hne (k o1 (okT trivial (okR (okR o2))) H locs la w s h)
theorem g_ddiv (C : CX G own cc nL ret rm X) {x y : UInt64} (hd : decode cc pc = .ok (.ddiv, 1)) (hne : vf_n64 (FP.ddiv x y)) (k : GW G X nL Q (pc + 1) ls (vD (FP.ddiv x y) :: st) M) : GW G X nL Q pc ls (vD y :: vD x :: st) M :=
  fun o1 o2 H locs la w s h => lv_ddiv C.1 C.2.1 hd hne (k o1 (okT trivial (okR (okR o2))) H locs la w s h)
theorem g_fcmp (C : CX G own cc nL ret rm X) {x y : UInt32} {op : CmpOp} (hd : decode cc pc = .ok (.fcmp op, 1)) (k : GW G X nL Q (pc + 1) ls (vI (Op.cmpValue (FP.fcmp x y) op) :: st) M) : GW G X nL Q pc ls (vF y :: vF x :: st) M :=
  fun o1 o2 H locs la w s h => lv_fcmp C.1 C.2.1 hd (k o1 (okT trivial (okR (okR o2))) H locs la w s h)
theorem g_dcmp (C : CX G own cc nL ret rm X) {x y : UInt64} {op : CmpOp} (hd : decode cc pc = .ok (.dcmp op, 1)) (k : GW G X nL Q (pc + 1) ls (vI (Op.cmpValue (FP.dcmp x y) op) :: st) M) : GW G X nL Q pc ls (vD y :: vD x :: st) M :=
  fun o1 o2 H locs la w s h => lv_dcmp C.1 C.2.1 hd (k o1 (okT trivial (okR (okR o2))) H locs la w s h)
theorem g_lshl (C : CX G own cc nL ret rm X) {x : Int64} {y : Int32} (hd : decode cc pc = .ok (.lshl, 1)) (k : GW G X nL Q (pc + 1) ls (vL (x <<< (y.toInt64 &&& 63)) :: st) M) : GW G X nL Q pc ls (vI y :: vL x :: st) M :=
  fun o1 o2 H locs la w s h => lv_lshl C.1 C.2.1 hd rfl (k o1 (okT trivial (okR (okR o2))) H locs la w s h)
theorem g_iushr (C : CX G own cc nL ret rm X) {x y : Int32} (hd : decode cc pc = .ok (.iushr, 1)) (k : GW G X nL Q (pc + 1) ls (vI ((x.toUInt32 >>> (y.toUInt32 &&& Int32.toUInt32 31)).toInt32) :: st) M) : GW G X nL Q pc ls (vI y :: vI x :: st) M :=
  fun o1 o2 H locs la w s h => lv_iushr C.1 C.2.1 hd rfl (k o1 (okT trivial (okR (okR o2))) H locs la w s h)
theorem g_i2l (C : CX G own cc nL ret rm X) {x : Int32} (hd : decode cc pc = .ok (.i2l, 1)) (k : GW G X nL Q (pc + 1) ls (vL (x.toInt64) :: st) M) : GW G X nL Q pc ls (vI x :: st) M :=
  fun o1 o2 H locs la w s h => lv_i2l C.1 C.2.1 hd rfl (k o1 (okT trivial (okR o2)) H locs la w s h)
theorem g_i2f (C : CX G own cc nL ret rm X) {x : Int32} (hd : decode cc pc = .ok (.i2f, 1)) (k : GW G X nL Q (pc + 1) ls (vF (FP.i2f x) :: st) M) : GW G X nL Q pc ls (vI x :: st) M :=
  fun o1 o2 H locs la w s h => lv_i2f C.1 C.2.1 hd (k o1 (okT trivial (okR o2)) H locs la w s h)
theorem g_i2d (C : CX G own cc nL ret rm X) {x : Int32} (hd : decode cc pc = .ok (.i2d, 1)) (k : GW G X nL Q (pc + 1) ls (vD (FP.i2d x) :: st) M) : GW G X nL Q pc ls (vI x :: st) M :=
  fun o1 o2 H locs la w s h => lv_i2d C.1 C.2.1 hd (k o1 (okT trivial (okR o2)) H locs la w s h)
theorem g_f2i (C : CX G own cc nL ret rm X) {x : UInt32} (hd : decode cc pc = .ok (.f2i, 1)) (k : GW G X nL Q (pc + 1) ls (vI (FP.f2i x) :: st) M) : GW G X nL Q pc ls (vF x :: st) M :=
  fun o1 o2 H locs la w s h => lv_f2i C.1 C.2.1 hd (k o1 (okT trivial (okR o2)) H locs la w s h)
theorem g_d2l (C : CX G own cc nL ret rm X) {x : UInt64} (hd : decode cc pc = .ok (.d2l, 1)) (k : GW G X nL Q (pc + 1) ls (vL (FP.d2l x) :: st) M) : GW G X nL Q pc ls (vD x :: st) M :=
  fun o1 o2 H locs la w s h => lv_d2l C.1 C.2.1 hd (k o1 (okT trivial (okR o2)) H locs la w s h)
theorem c1_cv {v : AV} (h : cat2 v = false) : (cv G v).category = 1 := by
  rcases v with x | x | x | x | x <;> first | rfl | cases h
theorem g_dup (C : CX G own cc nL ret rm X) {v : AV} (hd : decode cc pc = .ok (.dup, 1)) (hc : cat2 v = false) (k : GW G X nL Q (pc + 1) ls (v :: v :: st) M) : GW G X nL Q pc ls (v :: st) M :=
  fun o1 o2 H locs la w s h => lv_dup C.1 C.2.1 hd (c1_cv hc) (k o1 (okT (okH o2) o2) H locs la w s h)
theorem g_pop (C : CX G own cc nL ret rm X) {v : AV} (hd : decode cc pc = .ok (.pop, 1)) (hc : cat2 v = false) (k : GW G X nL Q (pc + 1) ls st M) : GW G X nL Q pc ls (v :: st) M :=
  fun o1 o2 H locs la w s h => lv_pop C.1 C.2.1 hd (c1_cv hc) (k o1 (okR o2) H locs la w s h)
theorem g_dup2 (C : CX G own cc nL ret rm X) {v u : AV} (hd : decode cc pc = .ok (.dup2, 1)) (hc : cat2 v = false) (hu : cat2 u = false) (k : GW G X nL Q (pc + 1) ls (v :: u :: v :: u :: st) M) : GW G X nL Q pc ls (v :: u :: st) M :=
  fun o1 o2 H locs la w s h => lv_dup2_11 C.1 C.2.1 hd (c1_cv hc) (c1_cv hu) (k o1 (okT (okH o2) (okT (okH (okR o2)) o2)) H locs la w s h)
theorem g_if_eq (C : CX G own cc nL ret rm X) {x : Int32} {off : Int} {tgt : Nat} (hd : decode cc pc = .ok (.ifCond .eq off, 3)) (ht : (pc : Int) + off = (tgt : Int)) (kt : x = 0 → GW G X nL Q tgt ls st M) (kf : ¬ (x = 0) → GW G X nL Q (pc + 3) ls st M) : GW G X nL Q pc ls (vI x :: st) M :=
  fun o1 o2 H locs la w s h => lv_if_eq C.1 C.2.1 hd ht (fun z => kt z o1 (okR o2) H locs la w s h) (fun z => kf z o1 (okR o2) H locs la w s h)
theorem g_icmp_eq (C : CX G own cc nL ret rm X) {x y : Int32} {off : Int} {tgt : Nat} (hd : decode cc pc = .ok (.if_icmp .eq off, 3)) (ht : (pc : Int) + off = (tgt : Int)) (kt : x = y → GW G X nL Q tgt ls st M) (kf : ¬ (x = y) → GW G X nL Q (pc + 3) ls st M) : GW G X nL Q pc ls (vI y :: vI x :: st) M :=
  fun o1 o2 H locs la w s h => lv_icmp_eq C.1 C.2.1 hd ht (fun z => kt z o1 (okR (okR o2)) H locs la w s h) (fun z => kf z o1 (okR (okR o2)) H locs la w s h)
theorem g_if_ne (C : CX G own cc nL ret rm X) {x : Int32} {off : Int} {tgt : Nat} (hd : decode cc pc = .ok (.ifCond .ne off, 3)) (ht : (pc : Int) + off = (tgt : Int)) (kt : ¬ x = 0 → GW G X nL Q tgt ls st M) (kf : x = 0 → GW G X nL Q (pc + 3) ls st M) : GW G X nL Q pc ls (vI x :: st) M :=
  fun o1 o2 H locs la w s h => lv_if_ne C.1 C.2.1 hd ht (fun z => kt z o1 (okR o2) H locs la w s h) (fun z => kf z o1 (okR o2) H locs la w s h)
theorem g_icmp_ne (C : CX G own cc nL ret rm X) {x y : Int32} {off : Int} {tgt : Nat} (hd : decode cc pc = .ok (.if_icmp .ne off, 3)) (ht : (pc : Int) + off = (tgt : Int)) (kt : ¬ x = y → GW G X nL Q tgt ls st M) (kf : x = y → GW G X nL Q (pc + 3) ls st M) : GW G X nL Q pc ls (vI y :: vI x :: st) M :=
  fun o1 o2 H locs la w s h => lv_icmp_ne C.1 C.2.1 hd ht (fun z => kt z o1 (okR (okR o2)) H locs la w s h) (fun z => kf z o1 (okR (okR o2)) H locs la w s h)
theorem g_if_lt (C : CX G own cc nL ret rm X) {x : Int32} {off : Int} {tgt : Nat} (hd : decode cc pc = .ok (.ifCond .lt off, 3)) (ht : (pc : Int) + off = (tgt : Int)) (kt : x < 0 → GW G X nL Q tgt ls st M) (kf : ¬ (x < 0) → GW G X nL Q (pc + 3) ls st M) : GW G X nL Q pc ls (vI x :: st) M :=
  fun o1 o2 H locs la w s h => lv_if_lt C.1 C.2.1 hd ht (fun z => kt z o1 (okR o2) H locs la w s h) (fun z => kf z o1 (okR o2) H locs la w s h)
theorem g_icmp_lt (C : CX G own cc nL ret rm X) {x y : Int32} {off : Int} {tgt : Nat} (hd : decode cc pc = .ok (.if_icmp .lt off, 3)) (ht : (pc : Int) + off = (tgt : Int)) (kt : x < y → GW G X nL Q tgt ls st M) (kf : ¬ (x < y) → GW G X nL Q (pc + 3) ls st M) : GW G X nL Q pc ls (vI y :: vI x :: st) M :=
  fun o1 o2 H locs la w s h => lv_icmp_lt C.1 C.2.1 hd ht (fun z => kt z o1 (okR (okR o2)) H locs la w s h) (fun z => kf z o1 (okR (okR o2)) H locs la w s h)
theorem g_if_ge (C : CX G own cc nL ret rm X) {x : Int32} {off : Int} {tgt : Nat} (hd : decode cc pc = .ok (.ifCond .ge off, 3)) (ht : (pc : Int) + off = (tgt : Int)) (kt : 0 ≤ x → GW G X nL Q tgt ls st M) (kf : ¬ (0 ≤ x) → GW G X nL Q (pc + 3) ls st M) : GW G X nL Q pc ls (vI x :: st) M :=
  fun o1 o2 H locs la w s h => lv_if_ge C.1 C.2.1 hd ht (fun z => kt z o1 (okR o2) H locs la w s h) (fun z => kf z o1 (okR o2) H locs la w s h)
theorem g_icmp_ge (C : CX G own cc nL ret rm X) {x y : Int32} {off : Int} {tgt : Nat} (hd : decode cc pc = .ok (.if_icmp .ge off, 3)) (ht : (pc : Int) + off = (tgt : Int)) (kt : y ≤ x → GW G X nL Q tgt ls st M) (kf : ¬ (y ≤ x) → GW G X nL Q (pc + 3) ls st M) : GW G X nL Q pc ls (vI y :: vI x :: st) M :=
  fun o1 o2 H locs la w s h => lv_icmp_ge C.1 C.2.1 hd ht (fun z => kt z o1 (okR (okR o2)) H locs la w s h) (fun z => kf z o1 (okR (okR o2)) H locs la w s h)
theorem g_if_gt (C : CX G own cc nL ret rm X) {x : Int32} {off : Int} {tgt : Nat} (hd : decode cc pc = .ok (.ifCond .gt off, 3)) (ht : (pc : Int) + off = (tgt : Int)) (kt : 0 < x → GW G X nL Q tgt ls st M) (kf : ¬ (0 < x) → GW G X nL Q (pc + 3) ls st M) : GW G X nL Q pc ls (vI x :: st) M :=
  fun o1 o2 H locs la w s h => lv_if_gt C.1 C.2.1 hd ht (fun z => kt z o1 (okR o2) H locs la w s h) (fun z => kf z o1 (okR o2) H locs la w s h)
theorem g_icmp_gt (C : CX G own cc nL ret rm X) {x y : Int32} {off : Int} {tgt : Nat} (hd : decode cc pc = .ok (.if_icmp .gt off, 3)) (ht : (pc : Int) + off = (tgt : Int)) (kt : y < x → GW G X nL Q tgt ls st M) (kf : ¬ (y < x) → GW G X nL Q (pc + 3) ls st M) : GW G X nL Q pc ls (vI y :: vI x :: st) M :=
  fun o1 o2 H locs la w s h => lv_icmp_gt C.1 C.2.1 hd ht (fun z => kt z o1 (okR (okR o2)) H locs la w s h) (fun z => kf z o1 (okR (okR o2)) H locs la w s h)
theorem g_if_le (C : CX G own cc nL ret rm X) {x : Int32} {off : Int} {tgt : Nat} (hd : decode cc pc = .ok (.ifCond .le off, 3)) (ht : (pc : Int) + off = (tgt : Int)) (kt : x ≤ 0 → GW G X nL Q tgt ls st M) (kf : ¬ (x ≤ 0) → GW G X nL Q (pc + 3) ls st M) : GW G X nL Q pc ls (vI x :: st) M :=
  fun o1 o2 H locs la w s h => lv_if_le C.1 C.2.1 hd ht (fun z => kt z o1 (okR o2) H locs la w s h) (fun z => kf z o1 (okR o2) H locs la w s h)
theorem g_icmp_le (C : CX G own cc nL ret rm X) {x y : Int32} {off : Int} {tgt : Nat} (hd : decode cc pc = .ok (.if_icmp .le off, 3)) (ht : (pc : Int) + off = (tgt : Int)) (kt : x ≤ y → GW G X nL Q tgt ls st M) (kf : ¬ (x ≤ y) → GW G X nL Q (pc + 3) ls st M) : GW G X nL Q pc ls (vI y :: vI x :: st) M :=
  fun o1 o2 H locs la w s h => lv_icmp_le C.1 C.2.1 hd ht (fun z => kt z o1 (okR (okR o2)) H locs la w s h) (fun z => kf z o1 (okR (okR o2)) H locs la w s h)
theorem g_goto (C : CX G own cc nL ret rm X) {off : Int} {tgt : Nat} (hd : decode cc pc = .ok (.goto off, 3)) (ht : (pc : Int) + off = (tgt : Int)) (k : GW G X nL Q tgt ls st M) : GW G X nL Q pc ls st M :=
  fun o1 o2 H locs la w s h => lv_goto C.1 C.2.1 hd ht (k o1 o2 H locs la w s h)
theorem g_tabOut (C : CX G own cc nL ret rm X) {dflt lo hi : Int} {offs : Array Int} {len : Nat} {x : Int32} {tgt : Nat} (hd : decode cc pc = .ok (.tableswitch dflt lo hi offs, len)) (hx : x.toInt < lo ∨ hi < x.toInt) (ht : (pc : Int) + dflt = (tgt : Int)) (k : GW G X nL Q tgt ls st M) : GW G X nL Q pc ls (vI x :: st) M :=
  fun o1 o2 H locs la w s h => lv_tableOut C.1 C.2.1 hd hx ht (k o1 (okR o2) H locs la w s h)
theorem g_tabIn (C : CX G own cc nL ret rm X) {dflt lo hi : Int} {offs : Array Int} {len : Nat} {x : Int32} {off : Int} {tgt : Nat} (hd : decode cc pc = .ok (.tableswitch dflt lo hi offs, len)) (h1 : ¬ x.toInt < lo) (h2 : ¬ hi < x.toInt) (ho : offs[(x.toInt - lo).toNat]? = some off) (ht : (pc : Int) + off = (tgt : Int)) (k : GW G X nL Q tgt ls st M) : GW G X nL Q pc ls (vI x :: st) M :=
  fun o1 o2 H locs la w s h => lv_tableIn C.1 C.2.1 hd h1 h2 ho ht (k o1 (okR o2) H locs la w s h)
end RULES
end
section
/-! The rows that read and write the flat memory; calls, ends, throws; a method's contract out of its walk. -/
section HEAP
variable {G : GE} {own : String} {cc : ByteArray} {nL : Nat} {ret : Option FieldType} {rm : Room} {X : PX} {Q : State → Prop} {pc : Nat} {ls : List (Nat × AV)} {st : List AV} {M : Mem}
theorem wl_at {t k : Nat} (h : (t, k) ∈ gids G) : ∃ q0 : Nat, (gids G)[q0]? = some (t, k) ∧ (wl G M)[q0]? = some (gad G t k, enc G M t k) := by
  obtain ⟨i, hi⟩ := List.getElem?_of_mem h
  exact ⟨i, hi, by unfold wl; rw [List.getElem?_map, hi]; rfl⟩
theorem wl_set {A : Nat → Prop} {M' : Mem} {t k q0 : Nat} {e : va_E} (hD : va_D A (wl G M)) (h0 : (gids G)[q0]? = some (t, k)) (he : enc G M' t k = e) (ho : ∀ a b, ¬ (a = t ∧ b = k) → enc G M' a b = enc G M a b) : (wl G M).set q0 (gad G t k, e) = wl G M' := by
  have hl := (List.getElem?_eq_some_iff.mp h0).1
  have hw : ∀ (N : Mem) (i : Nat) (q : Nat × Nat), (gids G)[i]? = some q → (wl G N)[i]? = some (gad G q.1 q.2, enc G N q.1 q.2) := fun N i q hq => by unfold wl; rw [List.getElem?_map, hq]; rfl
  refine List.ext_getElem? (fun i => ?_)
  by_cases hi : i = q0
  · subst hi
    rw [List.getElem?_set_self (by unfold wl; rw [List.length_map]; exact hl), hw M' i _ h0, he]
  · rw [List.getElem?_set_ne (Ne.symm hi)]
    cases hg : (gids G)[i]? with
    | none => unfold wl; rw [List.getElem?_map, List.getElem?_map, hg]; rfl
    | some q =>
      rw [hw M i q hg, hw M' i q hg]
      by_cases hq : q.1 = t ∧ q.2 = k
      · obtain ⟨a, b⟩ := q
        obtain ⟨rfl, rfl⟩ := hq
        exact absurd (hD.1 i q0 _ _ (hw M i _ hg) (hw M q0 _ h0) rfl) hi
      · rw [ho q.1 q.2 hq]
theorem mI_at (t k i : Nat) (v : Int32) : (mI M t k i v).1 t k = upd (M.1 t k) i v := by
  funext c
  simp [mI, upd]
theorem mI_ne {t k i a b : Nat} {v : Int32} (h : ¬ (a = t ∧ b = k)) : (mI M t k i v).1 a b = M.1 a b := by
  funext c
  show (if a = t ∧ b = k ∧ c = i then v else M.1 a b c) = M.1 a b c
  rw [if_neg (fun z => h ⟨z.1, z.2.1⟩)]
theorem mL_at (t k i : Nat) (v : Int64) : (mL M t k i v).2 t k = vp_updL (M.2 t k) i v := by
  funext c
  simp [mL, vp_updL]
theorem mL_ne {t k i a b : Nat} {v : Int64} (h : ¬ (a = t ∧ b = k)) : (mL M t k i v).2 a b = M.2 a b := by
  funext c
  show (if a = t ∧ b = k ∧ c = i then v else M.2 a b c) = M.2 a b c
  rw [if_neg (fun z => h ⟨z.1, z.2.1⟩)]
theorem enc_mI {t k i : Nat} {v : Int32} : ∀ a b, ¬ (a = t ∧ b = k) → enc G (mI M t k i v) a b = enc G M a b := fun a b h => by unfold enc; rw [mI_ne h]; rfl
theorem enc_mL {t k i : Nat} {v : Int64} : ∀ a b, ¬ (a = t ∧ b = k) → enc G (mL M t k i v) a b = enc G M a b := fun a b h => by unfold enc; rw [mL_ne h]; rfl
variable {ad : Nat → Nat → Nat} {f : Nat → Int32} {g : Nat → Int64} {k : Nat} {cls : String}
theorem fvs_len : ∀ (l : List FK) (j : Nat), (fvs ad f g k j l).length = l.length
  | [], _ => rfl
  | .inl 0 :: r, j => by show (fvs ad f g k (j + 1) r).length + 1 = _; rw [fvs_len r]; rfl
  | .inl (_ + 1) :: r, j => by show (fvs ad f g k (j + 1) r).length + 1 = _; rw [fvs_len r]; rfl
  | .inr (_, _, _) :: r, j => by show (fvs ad f g k (j + 1) r).length + 1 = _; rw [fvs_len r]; rfl
def fv1 (ad : Nat → Nat → Nat) (f : Nat → Int32) (g : Nat → Int64) (k j : Nat) (x : FK) : Value := match x with
  | .inl 0 => .int (f j)
  | .inl (_ + 1) => .long (g j)
  | .inr (t, b, s) => .ref (ad t (rk b s k))
theorem fvs_cons (x : FK) (r : List FK) (j : Nat) : fvs ad f g k j (x :: r) = fv1 ad f g k j x :: fvs ad f g k (j + 1) r := by
  rcases x with (_ | n) | ⟨a, b, c⟩ <;> rfl
theorem fvs_at : ∀ (l : List FK) (j i : Nat) (x : FK), l[i]? = some x → (fvs ad f g k j l)[i]? = some (fv1 ad f g k (j + i) x)
  | [], _, _, _, h => by simp at h
  | y :: r, j, 0, x, h => by
    rw [List.getElem?_cons_zero] at h
    cases h
    rw [fvs_cons, List.getElem?_cons_zero]
    rfl
  | y :: r, j, i + 1, x, h => by
    rw [List.getElem?_cons_succ] at h
    rw [fvs_cons, List.getElem?_cons_succ, fvs_at r (j + 1) i x h, show j + 1 + i = j + (i + 1) by omega]
theorem fvs_up {i' : Nat} {v : Int32} : ∀ (l : List FK) (j : Nat), i' < j → fvs ad (upd f i' v) g k j l = fvs ad f g k j l
  | [], _, _ => rfl
  | y :: r, j, h => by
    rw [fvs_cons, fvs_cons, fvs_up r (j + 1) (by omega)]
    rcases y with (_ | n) | ⟨a, b, c⟩ <;> first | rfl | (show Value.int (upd f i' v j) :: _ = Value.int (f j) :: _; unfold upd; rw [if_neg (by omega)])
theorem fvs_upL {i' : Nat} {v : Int64} : ∀ (l : List FK) (j : Nat), i' < j → fvs ad f (vp_updL g i' v) k j l = fvs ad f g k j l
  | [], _, _ => rfl
  | y :: r, j, h => by
    rw [fvs_cons, fvs_cons, fvs_upL r (j + 1) (by omega)]
    rcases y with (_ | n) | ⟨a, b, c⟩ <;> first | rfl | (show Value.long (vp_updL g i' v j) :: _ = Value.long (g j) :: _; unfold vp_updL; rw [if_neg (by omega)])
theorem fvs_set {v : Int32} : ∀ (l : List FK) (j i : Nat), l[i]? = some (.inl 0) → (fvs ad f g k j l).set i (.int v) = fvs ad (upd f (j + i) v) g k j l
  | [], _, _, h => by simp at h
  | y :: r, j, 0, h => by
    rw [List.getElem?_cons_zero] at h
    cases h
    rw [fvs_cons, fvs_cons, fvs_up r (j + 1) (by omega)]
    show Value.int v :: _ = Value.int (upd f (j + 0) v j) :: _
    unfold upd
    rw [if_pos (by omega)]
  | y :: r, j, i + 1, h => by
    rw [List.getElem?_cons_succ] at h
    rw [fvs_cons, fvs_cons, List.set_cons_succ, fvs_set r (j + 1) i h, show j + 1 + i = j + (i + 1) by omega]
    rcases y with (_ | n) | ⟨a, b, c⟩ <;> first | rfl | (show Value.int (f j) :: _ = Value.int (upd f (j + (i + 1)) v j) :: _; unfold upd; rw [if_neg (by omega)])
theorem fvs_setL {v : Int64} : ∀ (l : List FK) (j i : Nat), l[i]? = some (.inl 1) → (fvs ad f g k j l).set i (.long v) = fvs ad f (vp_updL g (j + i) v) k j l
  | [], _, _, h => by simp at h
  | y :: r, j, 0, h => by
    rw [List.getElem?_cons_zero] at h
    cases h
    rw [fvs_cons, fvs_cons, fvs_upL r (j + 1) (by omega)]
    show Value.long v :: _ = Value.long (vp_updL g (j + 0) v j) :: _
    unfold vp_updL
    rw [if_pos (by omega)]
  | y :: r, j, i + 1, h => by
    rw [List.getElem?_cons_succ] at h
    rw [fvs_cons, fvs_cons, List.set_cons_succ, fvs_setL r (j + 1) i h, show j + 1 + i = j + (i + 1) by omega]
    rcases y with (_ | n) | ⟨a, b, c⟩ <;> first | rfl | (show Value.long (g j) :: _ = Value.long (vp_updL g (j + (i + 1)) v j) :: _; unfold vp_updL; rw [if_neg (by omega)])
/-! the classes by their numbers -/
def cN (t : Nat) : String := (vwCl.getD t ("", fun _ => ("", "", "", false), 0)).1
def cT (t : Nat) : u_T := (vwCl.getD t ("", fun _ => ("", "", "", false), 0)).2.1
def cn (t : Nat) : Nat := (vwCl.getD t ("", fun _ => ("", "", "", false), 0)).2.2
theorem c11 {P : Nat → Prop} {t : Nat} (h : t < 11) (p0 : P 0) (p1 : P 1) (p2 : P 2) (p3 : P 3) (p4 : P 4) (p5 : P 5) (p6 : P 6) (p7 : P 7) (p8 : P 8) (p9 : P 9) (p10 : P 10) : P t := by
  rcases (show t = 0 ∨ t = 1 ∨ t = 2 ∨ t = 3 ∨ t = 4 ∨ t = 5 ∨ t = 6 ∨ t = 7 ∨ t = 8 ∨ t = 9 ∨ t = 10 by omega) with rfl | rfl | rfl | rfl | rfl | rfl | rfl | rfl | rfl | rfl | rfl <;> assumption
theorem cl_at {t : Nat} (h : t < 11) : vwCl[t]? = some (cN t, cT t, cn t) := c11 (P := fun t => vwCl[t]? = some (cN t, cT t, cn t)) h rfl rfl rfl rfl rfl rfl rfl rfl rfl rfl rfl
theorem cl_ws {t : Nat} (h : t < 11) : ∀ w ∈ u_ws (cN t) (cT t) (cn t), w ∈ BW := c11 (P := fun t => ∀ w ∈ u_ws (cN t) (cT t) (cn t), w ∈ BW) h iX0 iX1 iX2 iX3 iX4 iX5 iX6 iX7 iX8 iX9 iX10
theorem cl_len {t : Nat} (h : t < 11) : (fk t).length = cn t := c11 (P := fun t => (fk t).length = cn t) h rfl rfl rfl rfl rfl rfl rfl rfl rfl rfl rfl
def cty (t : Nat) : Nat → FieldType := match t with
  | 0 => tyX0 | 1 => tyX1 | 2 => tyX2 | 3 => tyX3 | 4 => tyX4 | 5 => tyX5 | 6 => tyX6 | 7 => tyX7 | 8 => tyX8 | 9 => tyX9 | _ => tyX10
theorem cl_ty {t : Nat} (h : t < 11) : ∀ k, k < cn t → parseFieldDescriptor (cT t k).2.2.1 = some (cty t k) := c11 (P := fun t => ∀ k, k < cn t → parseFieldDescriptor (cT t k).2.2.1 = some (cty t k)) h tyX0_ok tyX1_ok tyX2_ok tyX3_ok tyX4_ok tyX5_ok tyX6_ok tyX7_ok tyX8_ok tyX9_ok tyX10_ok
theorem cl_nm {t : Nat} (h : t < 11) : ∀ a, a < cn t → ∀ b, b < cn t → a ≠ b → (cT t a).2.1 ≠ (cT t b).2.1 := c11 (P := fun t => ∀ a, a < cn t → ∀ b, b < cn t → a ≠ b → (cT t a).2.1 ≠ (cT t b).2.1) h nmX0 nmX1 nmX2 nmX3 nmX4 nmX5 nmX6 nmX7 nmX8 nmX9 nmX10
theorem enc_o {t k : Nat} (h : t < 11) : enc G M t k = .inr (t, fvs (gad G) (M.1 t k) (M.2 t k) k 0 (fk t)) := by unfold enc; rw [if_pos (by omega)]
theorem enc_i {t k : Nat} (h : t = 20 ∨ t = 21 ∨ t = 22) : enc G M t k = .inl (gI G, alen t k, .inl (M.1 t k)) := by
  unfold enc
  rw [if_neg (by omega), if_neg (by omega)]
theorem enc_l {t k : Nat} (h : t = 23) : enc G M t k = .inl (gL G, alen t k, .inr (.inl (M.2 t k))) := by
  unfold enc
  rw [if_neg (by omega), if_pos h]
abbrev fLk (own : String) (idx t i : Nat) : Prop := Cond.fieldLink own idx (cT t i).1 (cT t i).2.1 (cT t i).2.2.1 ∈ BW
theorem okI {t k : Nat} (h : okv G (vR t k)) (ht : t < 24) : (t, k) ∈ gids G := by
  rcases (show (t, k) ∈ gids G ∨ ((t, k) = (24, 0) ∧ ∃ z, gscr G = some z) from h) with h | ⟨h, -⟩
  · exact h
  · cases h; omega
theorem fk_lt {t i : Nat} {x : FK} (h : t < 11) (hf : (fk t)[i]? = some x) : i < cn t := by rw [← cl_len h]; exact (List.getElem?_eq_some_iff.mp hf).1
theorem g_get0 (C : CX G own cc nL ret rm X) {t k i idx : Nat} {x : FK} {v : AV} (ht : t < 11) (hlk : fLk own idx t i) (hf : (fk t)[i]? = some x) (hv : cv G v = fv1 (gad G) (M.1 t k) (M.2 t k) k (0 + i) x) (hok : (t, k) ∈ gids G → okv G v) (hd : decode cc pc = .ok (.getfield idx, 3)) (kk : GW G X nL Q (pc + 3) ls (v :: st) M) : GW G X nL Q pc ls (vR t k :: st) M := by
  intro o1 o2 H locs la w s h
  have hid := okI (okH o2) (by omega)
  obtain ⟨q0, h0, h1⟩ := wl_at (M := M) hid
  rw [enc_o ht] at h1
  refine va_get (ref := (cT t i).1) C.1 C.2.1 C.2.2.2.2.1 (cl_ws ht) C.2.2.2.1 C.2.2.2.2.2.2.2.2.2.2.2.1 w.1 q0 h1 (cl_at ht) i (fk_lt ht hf) (C.2.2.2.2.1 _ hlk) (fun _ h9 => h9) (v := cv G v) ?_ hd (kk o1 (okT (hok hid) (okR o2)) H locs la w s h)
  rw [hv]
  exact fvs_at _ _ _ _ hf
theorem g_geti (C : CX G own cc nL ret rm X) {t k i idx : Nat} (ht : t < 11) (hlk : fLk own idx t i) (hf : (fk t)[i]? = some (.inl 0)) (hd : decode cc pc = .ok (.getfield idx, 3)) (kk : GW G X nL Q (pc + 3) ls (vI (M.1 t k i) :: st) M) : GW G X nL Q pc ls (vR t k :: st) M :=
  g_get0 (v := vI (M.1 t k i)) C ht hlk hf (by rw [Nat.zero_add]; rfl) (fun _ => trivial) hd kk
theorem g_getl (C : CX G own cc nL ret rm X) {t k i idx : Nat} (ht : t < 11) (hlk : fLk own idx t i) (hf : (fk t)[i]? = some (.inl 1)) (hd : decode cc pc = .ok (.getfield idx, 3)) (kk : GW G X nL Q (pc + 3) ls (vL (M.2 t k i) :: st) M) : GW G X nL Q pc ls (vR t k :: st) M :=
  g_get0 (v := vL (M.2 t k i)) C ht hlk hf (by rw [Nat.zero_add]; rfl) (fun _ => trivial) hd kk
theorem g_getr (C : CX G own cc nL ret rm X) {t k i idx t' b s k' : Nat} (ht : t < 11) (hlk : fLk own idx t i) (hf : (fk t)[i]? = some (.inr (t', b, s))) (hk' : rk b s k = k') (hd : decode cc pc = .ok (.getfield idx, 3)) (kk : GW G X nL Q (pc + 3) ls (vR t' k' :: st) M) : GW G X nL Q pc ls (vR t k :: st) M := by
  subst hk'
  exact g_get0 (v := vR t' (rk b s k)) C ht hlk hf rfl (fun hid => Or.inl ((C.2.2.2.2.2.2.2.2.2.2.1 _ hid).2 _ _ _ _ hf)) hd kk
theorem ca (C : CX G own cc nL ret rm X) : SF G (xs_ X) (xs_ X).heap := C.2.2.2.2.2.2.2.2.2.2.2
theorem SF.kept {U : State} {H0 H : Heap} (h : SF G U H0) (s : H0.size ≤ H.size ∧ ∀ q : Nat, q < H0.size → ¬ gA G q → H[q]? = H0[q]?) : SF G U H :=
  ⟨h.1, vx_Zq.kept h.2.1 s.2, vx_Zq.kept h.2.2.1 s.2, fun q z => h.2.2.2.1 q (Nat.le_trans s.1 z), h.2.2.2.2.1, h.2.2.2.2.2.1, fun L xs z => by
    obtain ⟨h1, h2, h3⟩ := h.2.2.2.2.2.2 L xs z
    exact ⟨va_X.kept h1 (s.2 _ h2 h3), Nat.lt_of_lt_of_le h2 s.1, h3⟩⟩
theorem SF.moved {U V : State} {H : Heap} (hW : U.WarmedH V.vm) (h : SF G U H) : SF G V H :=
  ⟨va_K.moved hW.alike h.1, vx_Zq.moved hW.alike h.2.1, vx_Zq.moved hW.alike h.2.2.1, h.2.2.2.1, fun q z => by
    obtain ⟨a, ha⟩ := h.2.2.2.2.1 q z
    exact ⟨a, vk_R.warm hW ha⟩, XW.warm hW h.2.2.2.2.2.1, fun L xs z => by
    obtain ⟨h1, h2, h3⟩ := h.2.2.2.2.2.2 L xs z
    exact ⟨va_X.moved hW.alike h1, h2, h3⟩⟩
theorem SF.vm {U V : State} {H : Heap} (hv : V.vm = U.vm) (h : SF G U H) : SF G V H :=
  ⟨va_K.moved (by rw [hv]; exact Vm.Alike.refl _) h.1, vx_Zq.moved (by rw [hv]; exact Vm.Alike.refl _) h.2.1, vx_Zq.moved (by rw [hv]; exact Vm.Alike.refl _) h.2.2.1, h.2.2.2.1, fun q z => by
    obtain ⟨a, ha⟩ := h.2.2.2.2.1 q z
    exact ⟨a, vk_R.same hv ha⟩, fun w z => va_Nw.same (XW.tabs w z) hv.symm (h.2.2.2.2.2.1 w z), fun L xs z => by
    obtain ⟨h1, h2, h3⟩ := h.2.2.2.2.2.2 L xs z
    exact ⟨va_X.moved (by rw [hv]; exact Vm.Alike.refl _) h1, h2, h3⟩⟩
theorem g_puti0 (C : CX G own cc nL ret rm X) {t k i idx : Nat} {v : Int32} (ht : t < 11) (hlk : fLk own idx t i) (hf : (fk t)[i]? = some (.inl 0)) (hfin : (cT t i).2.2.2 = false) (hn : narrow (cty t i) (.int v) = .int v) (hfit : fits (cty t i) (.int v) = true) (hd : decode cc pc = .ok (.putfield idx, 3)) (kk : GW G X nL Q (pc + 3) ls st (mI M t k i v)) : GW G X nL Q pc ls (vI v :: vR t k :: st) M := by
  intro o1 o2 H locs la w s h
  have hid := okI (okH (okR o2)) (by omega)
  obtain ⟨q0, h0, h1⟩ := wl_at (M := M) hid
  have h1' := h1
  rw [enc_o ht] at h1
  refine va_put (ref := (cT t i).1) (v := .int v) C.1 C.2.1 C.2.2.2.2.1 (cl_ws ht) (cty t) (cl_ty ht) (cl_nm ht) C.2.2.2.1 (ca C).1 w.1 w.2 s q0 h1 (cl_at ht) i (fk_lt ht hf) (C.2.2.2.2.1 _ hlk) (fun _ h9 => h9) hfin (cl_ty ht i (fk_lt ht hf)) hn hfit (by rw [fvs_len, cl_len ht]; exact fk_lt ht hf) hd (fun H1 locs1 hP hD hS => ?_)
  have e : (wl G M).set q0 (gad G t k, .inr (t, (fvs (gad G) (M.1 t k) (M.2 t k) k 0 (fk t)).set i (.int v))) = wl G (mI M t k i v) := by
    refine wl_set w.2 h0 ?_ enc_mI
    rw [enc_o ht, mI_at, fvs_set _ _ _ hf, Nat.zero_add]
    rfl
  rw [e] at hP hD
  exact kk o1 (okR (okR o2)) H1 locs1 la ⟨hP, hD⟩ hS h
theorem g_puti (C : CX G own cc nL ret rm X) {t k i idx : Nat} {v : Int32} (ht : t < 11) (hlk : fLk own idx t i) (hf : (fk t)[i]? = some (.inl 0)) (hty : cty t i = .int) (hfin : (cT t i).2.2.2 = false) (hd : decode cc pc = .ok (.putfield idx, 3)) (kk : GW G X nL Q (pc + 3) ls st (mI M t k i v)) : GW G X nL Q pc ls (vI v :: vR t k :: st) M :=
  g_puti0 C ht hlk hf hfin (by rw [hty]; rfl) (by rw [hty]; rfl) hd kk
theorem g_putl (C : CX G own cc nL ret rm X) {t k i idx : Nat} {v : Int64} (ht : t < 11) (hlk : fLk own idx t i) (hf : (fk t)[i]? = some (.inl 1)) (hty : cty t i = .long) (hfin : (cT t i).2.2.2 = false) (hd : decode cc pc = .ok (.putfield idx, 3)) (kk : GW G X nL Q (pc + 3) ls st (mL M t k i v)) : GW G X nL Q pc ls (vL v :: vR t k :: st) M := by
  intro o1 o2 H locs la w s h
  have hid := okI (okH (okR o2)) (by omega)
  obtain ⟨q0, h0, h1⟩ := wl_at (M := M) hid
  rw [enc_o ht] at h1
  refine va_put (ref := (cT t i).1) (v := .long v) C.1 C.2.1 C.2.2.2.2.1 (cl_ws ht) (cty t) (cl_ty ht) (cl_nm ht) C.2.2.2.1 (ca C).1 w.1 w.2 s q0 h1 (cl_at ht) i (fk_lt ht hf) (C.2.2.2.2.1 _ hlk) (fun _ h9 => h9) hfin (cl_ty ht i (fk_lt ht hf)) (by rw [hty]; rfl) (by rw [hty]; rfl) (by rw [fvs_len, cl_len ht]; exact fk_lt ht hf) hd (fun H1 locs1 hP hD hS => ?_)
  have e : (wl G M).set q0 (gad G t k, .inr (t, (fvs (gad G) (M.1 t k) (M.2 t k) k 0 (fk t)).set i (.long v))) = wl G (mL M t k i v) := by
    refine wl_set w.2 h0 ?_ enc_mL
    rw [enc_o ht, mL_at, fvs_setL _ _ _ hf, Nat.zero_add]
    rfl
  rw [e] at hP hD
  exact kk o1 (okR (okR o2)) H1 locs1 la ⟨hP, hD⟩ hS h
/-! arrays -/
theorem g_iald (C : CX G own cc nL ret rm X) {t k : Nat} {i : Int32} (ht : t = 20 ∨ t = 21 ∨ t = 22) (hin : vp_in i (alen t k)) (hd : decode cc pc = .ok (.iaload, 1)) (kk : GW G X nL Q (pc + 1) ls (vI (M.1 t k i.toNatClampNeg) :: st) M) : GW G X nL Q pc ls (vI i :: vR t k :: st) M := by
  intro o1 o2 H locs la w s h
  have hid := okI (okH (okR o2)) (by omega)
  obtain ⟨q0, h0, h1⟩ := wl_at (M := M) hid
  rw [enc_i ht] at h1
  exact va_iald C.1 C.2.1 (ca C).1 w.1 q0 0 h1 rfl hin hd (kk o1 (okT trivial (okR (okR o2))) H locs la w s h)
theorem g_iast (C : CX G own cc nL ret rm X) {t k : Nat} {i x : Int32} (ht : t = 20 ∨ t = 21 ∨ t = 22) (hin : vp_in i (alen t k)) (hd : decode cc pc = .ok (.iastore, 1)) (kk : GW G X nL Q (pc + 1) ls st (mI M t k i.toNatClampNeg x)) : GW G X nL Q pc ls (vI x :: vI i :: vR t k :: st) M := by
  intro o1 o2 H locs la w s h
  have hid := okI (okH (okR (okR o2))) (by omega)
  obtain ⟨q0, h0, h1⟩ := wl_at (M := M) hid
  rw [enc_i ht] at h1
  refine va_iast C.1 C.2.1 (ca C).1 w.1 w.2 s q0 0 h1 rfl hin hd (fun H1 locs1 hP hD hS => ?_)
  have e : (wl G M).set q0 (gad G t k, .inl (gI G, alen t k, .inl (upd (M.1 t k) i.toNatClampNeg x))) = wl G (mI M t k i.toNatClampNeg x) := by
    refine wl_set w.2 h0 ?_ enc_mI
    rw [enc_i ht, mI_at]
  rw [e] at hP hD
  exact kk o1 (okR (okR (okR o2))) H1 locs1 la ⟨hP, hD⟩ hS h
theorem g_lald (C : CX G own cc nL ret rm X) {t k : Nat} {i : Int32} (ht : t = 23) (hin : vp_in i (alen t k)) (hd : decode cc pc = .ok (.laload, 1)) (kk : GW G X nL Q (pc + 1) ls (vL (M.2 t k i.toNatClampNeg) :: st) M) : GW G X nL Q pc ls (vI i :: vR t k :: st) M := by
  intro o1 o2 H locs la w s h
  have hid := okI (okH (okR o2)) (by omega)
  obtain ⟨q0, h0, h1⟩ := wl_at (M := M) hid
  rw [enc_l ht] at h1
  exact va_lald C.1 C.2.1 (ca C).1 w.1 q0 1 h1 rfl hin hd (kk o1 (okT trivial (okR (okR o2))) H locs la w s h)
theorem g_last (C : CX G own cc nL ret rm X) {t k : Nat} {i : Int32} {x : Int64} (ht : t = 23) (hin : vp_in i (alen t k)) (hd : decode cc pc = .ok (.lastore, 1)) (kk : GW G X nL Q (pc + 1) ls st (mL M t k i.toNatClampNeg x)) : GW G X nL Q pc ls (vL x :: vI i :: vR t k :: st) M := by
  intro o1 o2 H locs la w s h
  have hid := okI (okH (okR (okR o2))) (by omega)
  obtain ⟨q0, h0, h1⟩ := wl_at (M := M) hid
  rw [enc_l ht] at h1
  refine va_last C.1 C.2.1 (ca C).1 w.1 w.2 s q0 1 h1 rfl hin hd (fun H1 locs1 hP hD hS => ?_)
  have e : (wl G M).set q0 (gad G t k, .inl (gL G, alen t k, .inr (.inl (vp_updL (M.2 t k) i.toNatClampNeg x)))) = wl G (mL M t k i.toNatClampNeg x) := by
    refine wl_set w.2 h0 ?_ enc_mL
    rw [enc_l ht, mL_at]
  rw [e] at hP hD
  exact kk o1 (okR (okR (okR o2))) H1 locs1 la ⟨hP, hD⟩ hS h
theorem g_alen (C : CX G own cc nL ret rm X) {t k : Nat} (ht : t = 20 ∨ t = 21 ∨ t = 22) (hd : decode cc pc = .ok (.arraylength, 1)) (kk : GW G X nL Q (pc + 1) ls (vI (nI (alen t k)) :: st) M) : GW G X nL Q pc ls (vR t k :: st) M := by
  intro o1 o2 H locs la w s h
  have hid := okI (okH o2) (by omega)
  obtain ⟨q0, h0, h1⟩ := wl_at (M := M) hid
  rw [enc_i ht] at h1
  exact va_alen C.1 C.2.1 (ca C).1 w.1 q0 0 h1 rfl rfl hd (kk o1 (okT trivial (okR o2)) H locs la w s h)
theorem g_sald (C : CX G own cc nL ret rm X) {i : Int32} {L : Nat} {xs : Nat → Int32} (hs : gscr G = some (L, xs)) (hin : vp_in i L) (hd : decode cc pc = .ok (.iaload, 1)) (kk : GW G X nL Q (pc + 1) ls (vI (xs i.toNatClampNeg) :: st) M) : GW G X nL Q pc ls (vI i :: vR 24 0 :: st) M := by
  intro o1 o2 H locs la w s h
  obtain ⟨h1, h2, h3⟩ := (ca C).2.2.2.2.2.2 L xs hs
  exact va_sld C.1 C.2.1 h1 h2 h3 s hin hd (kk o1 (okT trivial (okR (okR o2))) H locs la w s h)
theorem g_slen (C : CX G own cc nL ret rm X) {L : Nat} {xs : Nat → Int32} (hs : gscr G = some (L, xs)) (hd : decode cc pc = .ok (.arraylength, 1)) (kk : GW G X nL Q (pc + 1) ls (vI (nI L) :: st) M) : GW G X nL Q pc ls (vR 24 0 :: st) M := by
  intro o1 o2 H locs la w s h
  obtain ⟨h1, h2, h3⟩ := (ca C).2.2.2.2.2.2 L xs hs
  exact va_slen C.1 C.2.1 h1 h2 h3 s hd (kk o1 (okT trivial (okR o2)) H locs la w s h)
/-! a method's end -/
theorem qr_end {v : Option AV} {H : Heap} {locs : List Loc} (w : Wm G M H) (s : va_S (gA G) (xs_ X).heap H locs) : ∀ t : State, t.heap = H → (xs_ X).WarmedH t.vm → QR G (.inl v) M X.2.2.2.2.2.2.1 (xs_ X) (.returned (v.map (cv G))) t := fun t ht _ =>
  ⟨v, rfl, rfl, by rw [ht]; exact w, s.F ht⟩
theorem g_iret (C : CX G own cc nL (some .int) rm X) {x : Int32} (hd : decode cc pc = .ok (.ireturn, 1)) : GW G X nL (QX G X (.inl (some (vI x))) M) pc ls [vI x] M :=
  fun _ _ _ _ _ w s _ => vx_ret (W.iret (v := x) C.1 C.2.1 C.2.2.2.2.2.2.1 (qr_end w s) s.2.2 hd C.2.2.2.2.2.1)
theorem g_zret (C : CX G own cc nL (some .boolean) rm X) {x : Int32} (hx : x = 0 ∨ x = 1) (hd : decode cc pc = .ok (.ireturn, 1)) : GW G X nL (QX G X (.inl (some (vI x))) M) pc ls [vI x] M :=
  fun _ _ _ _ _ w s _ => vx_ret (W.zret (v := x) C.1 C.2.1 C.2.2.2.2.2.2.1 (by rcases hx with rfl | rfl <;> rfl) (qr_end w s) s.2.2 hd C.2.2.2.2.2.1)
theorem g_vret (C : CX G own cc nL none rm X) (hd : decode cc pc = .ok (.return_, 1)) : GW G X nL (QX G X (.inl none) M) pc ls [] M :=
  fun _ _ _ _ _ w s _ => vx_ret (W.vret C.1 C.2.1 C.2.2.2.2.2.2.1 (qr_end w s) s.2.2 hd C.2.2.2.2.2.1)
theorem g_lret (C : CX G own cc nL (some .long) rm X) {x : Int64} (hd : decode cc pc = .ok (.lreturn, 1)) : GW G X nL (QX G X (.inl (some (vL x))) M) pc ls [vL x] M :=
  fun _ _ _ _ _ w s _ => vx_ret (W.lret (v := x) C.1 C.2.1 C.2.2.2.2.2.2.1 (qr_end w s) s.2.2 hd C.2.2.2.2.2.1)
theorem g_dret (C : CX G own cc nL (some .double) rm X) {x : UInt64} (hd : decode cc pc = .ok (.dreturn, 1)) : GW G X nL (QX G X (.inl (some (vD x))) M) pc ls [vD x] M :=
  fun _ _ _ _ _ w s _ => vx_ret (W.dret (v := x) C.1 C.2.1 C.2.2.2.2.2.2.1 (qr_end w s) s.2.2 hd C.2.2.2.2.2.1)
theorem g_aret (C : CX G own cc nL (some (.object cls)) rm X) {t k : Nat} (hd : decode cc pc = .ok (.areturn, 1)) : GW G X nL (QX G X (.inl (some (vR t k))) M) pc ls [vR t k] M :=
  fun _ _ _ _ _ w s _ => vx_ret (W.aret (v := .ref (gad G t k)) C.1 C.2.1 C.2.2.2.2.2.2.1 (Or.inl ⟨_, rfl⟩) (Or.inr ⟨_, rfl⟩) (qr_end w s) s.2.2 hd C.2.2.2.2.2.1)
end HEAP
end
section
/-! Calls, throws, and a method's contract out of its walk. -/
section CALLS
variable {G : GE} {own : String} {cc : ByteArray} {nL : Nat} {ret : Option FieldType} {rm : Room} {X : PX} {Q : State → Prop} {pc : Nat} {ls : List (Nat × AV)} {st : List AV} {M : Mem}
theorem pr_blind {av : List AV} : FrameBlind (PR G av M) := fun a U g mk h => ⟨h.1, h.2.1, SF.vm (U := U) rfl h.2.2⟩
def csum (l : List AV) : Nat := match l with
  | [] => 0
  | v :: r => (if cat2 v then 2 else 1) + csum r
theorem cat_cv (v : AV) : (cv G v).category = if cat2 v then 2 else 1 := by
  rcases v with x | x | x | x | x <;> rfl
theorem csum_cv : ∀ l : List AV, ((l.map (cv G)).map fun v => v.category).sum = csum l
  | [] => rfl
  | v :: r => by
    show (cv G v).category + ((r.map (cv G)).map fun v => v.category).sum = (if cat2 v then 2 else 1) + csum r
    rw [csum_cv r, cat_cv]
def lkB (own : String) (idx : Nat) (y : MethodName) (zc : ByteArray) (zl : Nat) (zr : Option FieldType) (n : Nat) : Prop :=
  Cond.methodLink own idx y ∈ BW ∧ Cond.initialized y.cls ∈ BW ∧ Cond.code y zc zl zr ∈ BW ∧ (y.cls ≠ "java/lang/invoke/MethodHandle" ∧ y.cls ≠ "java/lang/invoke/VarHandle" ∧ (parseMethodDescriptor y.desc).map (fun d => d.parameters.length) = some n)
def lkV (own : String) (idx : Nat) (y : MethodName) (zc : ByteArray) (zl : Nat) (zr : Option FieldType) (n : Nat) : Prop :=
  lkB own idx y zc zl zr n ∧ Cond.instanceMethod y ∈ BW ∧ Cond.selects y.cls y y ∈ BW
def lkS (own : String) (idx : Nat) (y : MethodName) (zc : ByteArray) (zl : Nat) (zr : Option FieldType) (n : Nat) : Prop :=
  lkB own idx y zc zl zr n ∧ Cond.static y ∈ BW
theorem gi_code {y : MethodName} {zc : ByteArray} {zl : Nat} {zr : Option FieldType} (h : Cond.code y zc zl zr ∈ BW) : GoodIn BW (Cond.code y zc zl zr :: BW) := fun w hw => by
  have hb : w ∈ BW := by
    rcases List.mem_cons.mp hw with e | e
    · rw [e]; exact h
    · exact e
  exact ⟨hb, good_of_word (bw_good hb)⟩
theorem cb_of (C : CX G own cc nL ret rm X) {idx : Nat} {y : MethodName} {zc : ByteArray} {zl n d : Nat} {zr : Option FieldType} {o : Outc} (lk : lkB own idx y zc zl zr n) (hroom : d + 1 ≤ rm.frames ∧ 8 + (zl + 11) + 36 * d ≤ rm.locals) :
    CallB X.2.2.2.1 (xs_ X) X.2.2.2.2.2.2.1 own idx y zc zl zr (Cond.code y zc zl zr :: BW) (rmx d o) (mcx o) (msx o) n := by
  have hR : X.2.2.2.1 = rm := C.2.2.2.2.2.2.2.2.2.1
  exact callB_of n C.2.2.2.2.1 (gi_code lk.2.2.1) rfl rfl rfl (C.2.2.2.2.1 _ lk.2.1) (C.2.2.2.2.1 _ lk.1) lk.2.2.2 (by rw [hR]; exact hroom)
theorem call_go (C : CX G own cc nL ret rm X) {As rest : List AV} {a : Array Value} {o : Outc} {M1 : Mem} {H : Heap} {locs : List Loc} {la : Array Slot} {st0 : List Value}
    (hrun : vx_Run X.1 X.2.1 X.2.2.1 X.2.2.2.1 (xs_ X) X.2.2.2.2.2.1 X.2.2.2.2.2.2.1 X.2.2.2.2.2.2.2.1 X.2.2.2.2.2.2.2.2.1 X.2.2.2.2.2.2.2.2.2 H locs 0 0 (mcx o) (msx o) (F0 X.2.2.2.2.2.1 pc la st0) (rest.map (cv G)) (QR G o M1 a) (XR G o M1) (gA G))
    (o1 : ∀ q ∈ ls, okv G q.2) (o2 : ∀ v ∈ rest, okv G v) (s : va_S (gA G) (xs_ X).heap H locs) (h : lv_has la nL (ls.map (cq G)))
    (hok : ∀ v, o = .inl (some v) → okv G v) (kr : ∀ v, o = .inl v → GW G X nL Q (pc + 3) ls (v.toList ++ rest) M1) (kx : ∀ E, o = .inr E → Q = QX G X (.inr E) M1) : WX X H locs Q pc la st0 := by
  intro T hT XX
  rcases hrun T hT XX with ⟨v, st₀, t, T', L, h0, X', hL, e1, e2, hq, hst⟩ | ⟨q, st₀, t, T', L, E, ce, h0, X', hL, e1, e2, hx, hce, hcv, hcl, hst⟩
  · obtain ⟨v', rfl, hv, hw, hF⟩ := hq
    cases hv
    obtain ⟨z1, z2, hS⟩ := vx_keep h0 e1 s (fun q _ h => h) (fun q h => h) hL hF
    have hw' : Wm G M1 T'.heap := by rw [e1]; exact hw
    have o2' : ∀ w ∈ v'.toList ++ rest, okv G w := by
      cases v' with
      | none => exact o2
      | some x => exact okT (hok x rfl) o2
    obtain ⟨t2, a1, b1⟩ := kr v' rfl o1 o2' T'.heap (locs ++ L) la hw' hS h T' rfl X'
    refine ⟨t2, hst t2 ?_, b1⟩
    have e : (v'.map (cv G)).toList ++ rest.map (cv G) = (v'.toList ++ rest).map (cv G) := by cases v' <;> rfl
    rw [e]
    exact a1
  · obtain ⟨rfl, hw, hF⟩ := hx
    obtain ⟨z1, z2, hS⟩ := vx_keep h0 e1 s (fun q _ h => h) (fun q h => h) hL hF
    have hw' : Wm G M1 T'.heap := by rw [e1]; exact hw
    have hQ := kx E rfl
    subst hQ
    have k := vx_out (p := X.1) (l := X.2.1) (e := X.2.2.1) (R := X.2.2.2.1) (s := xs_ X) (m := X.2.2.2.2.2.1) (args := X.2.2.2.2.2.2.1) (below := X.2.2.2.2.2.2.2.1) (meth := X.2.2.2.2.2.2.2.2.1) (c := X.2.2.2.2.2.2.2.2.2) (H := T'.heap) (locs := locs ++ L) (cells := 0 + 1) (slots := 0 + 6) (Qc := QR G (.inr E) M1) (XC := XR G (.inr E) M1) (free := gA G) (rest := rest.map (cv G)) (ls := la) (pc := pc) (mc := 1) (ms := 6) (q := q) (ce := ce) (E := E)
      (fun x hx => (C.2.2.2.2.2.2.2.1 x hx).elim) C.2.2.2.2.2.1 (by rw [e1]; exact hce) hcv hcl (fun t9 ht9 _ => ⟨rfl, by rw [ht9]; exact hw', hS.F ht9⟩) hS.2.2 (Nat.le_refl _) (Nat.le_refl _)
    obtain ⟨t2, a1, b1⟩ := k T' rfl X'
    exact ⟨t2, hst.trans a1, b1⟩
theorem g_callV (C : CX G own cc nL ret rm X) {idx : Nat} {y : MethodName} {zc : ByteArray} {zl n d t k : Nat} {zr : Option FieldType} {o : Outc} {M1 : Mem} {As rest : List AV}
    (lk : lkV own idx y zc zl zr n) (hct : CT X.2.1 G y zc zl zr d (vR t k :: As) M o M1) (ht : t < 11) (hcls : cN t = y.cls) (hn : As.length = n) (hst : As.reverse ++ vR t k :: rest = st) (hW : csum rest ≤ 8)
    (hroom : d + 1 ≤ rm.frames ∧ 8 + (zl + 11) + 36 * d ≤ rm.locals) (hmc : mcx o ≤ rm.cells ∧ msx o ≤ rm.slots) (hd : decode cc pc = .ok (.invokevirtual idx, 3))
    (hok : ∀ v, o = .inl (some v) → okv G v) (kr : ∀ v, o = .inl v → GW G X nL Q (pc + 3) ls (v.toList ++ rest) M1) (kx : ∀ E, o = .inr E → Q = QX G X (.inr E) M1) : GW G X nL Q pc ls st M := by
  subst hst
  intro o1 o2 H locs la w s h
  have hid := okI (o2 (vR t k) (by simp)) (by omega)
  obtain ⟨q0, h0, h1⟩ := wl_at (M := M) hid
  rw [enc_o ht] at h1
  have hR : X.2.2.2.1 = rm := C.2.2.2.2.2.2.2.2.2.1
  have hSF := (ca C).kept ⟨s.1, s.2.1⟩
  have hwm : va_P (gD G) vwCl (wl G M) H := w.1
  refine call_go C (As := As) (rest := rest) (vx_runV (As := As.map (cv G)) (b := gad G t k) (C := y.cls) ⟨C.1, C.2.1, C.2.2.1, C.2.2.2.1, C.2.2.2.2.1⟩ hct ⟨cb_of C lk.1 hroom, C.2.2.2.2.1 _ lk.2.1, C.2.2.2.2.1 _ lk.2.2⟩ ⟨pr_blind, ?_, ?_⟩ rfl (by rw [List.length_map]; exact hn) h.1 ?_ (lv_room (by rw [csum_cv]; exact hW)) hd (by rw [hR]; exact ⟨by rw [Nat.zero_add]; exact hmc.1, by rw [Nat.zero_add]; exact hmc.2⟩)) o1 (fun v hv => o2 v (by simp [hv])) s h hok kr kx
  · have := va_recv (ca C).1 hwm (cl_at ht) h1
    rw [← hcls]
    exact this
  · intro U hU hWU
    exact ⟨rfl, by rw [hU]; exact w, by rw [hU]; exact hSF.moved hWU⟩
  · show (As.reverse ++ vR t k :: rest).map (cv G) = _
    rw [List.map_append, List.map_cons, List.map_reverse]
    rfl
theorem g_callS (C : CX G own cc nL ret rm X) {idx : Nat} {y : MethodName} {zc : ByteArray} {zl n d : Nat} {zr : Option FieldType} {o : Outc} {M1 : Mem} {As rest : List AV}
    (lk : lkS own idx y zc zl zr n) (hct : CT X.2.1 G y zc zl zr d As M o M1) (hn : As.length = n) (hst : As.reverse ++ rest = st) (hW : csum rest ≤ 8)
    (hroom : d + 1 ≤ rm.frames ∧ 8 + (zl + 11) + 36 * d ≤ rm.locals) (hmc : mcx o ≤ rm.cells ∧ msx o ≤ rm.slots) (hd : decode cc pc = .ok (.invokestatic idx, 3))
    (hok : ∀ v, o = .inl (some v) → okv G v) (kr : ∀ v, o = .inl v → GW G X nL Q (pc + 3) ls (v.toList ++ rest) M1) (kx : ∀ E, o = .inr E → Q = QX G X (.inr E) M1) : GW G X nL Q pc ls st M := by
  subst hst
  intro o1 o2 H locs la w s h
  have hR : X.2.2.2.1 = rm := C.2.2.2.2.2.2.2.2.2.1
  have hSF := (ca C).kept ⟨s.1, s.2.1⟩
  refine call_go C (As := As) (rest := rest) (vx_runS (As := As.map (cv G)) ⟨C.1, C.2.1, C.2.2.1, C.2.2.2.1, C.2.2.2.2.1⟩ hct ⟨cb_of C lk.1 hroom, C.2.2.2.2.1 _ lk.2⟩ ⟨pr_blind, ?_⟩ rfl (by rw [List.length_map]; exact hn) h.1 ?_ (lv_room (by rw [csum_cv]; exact hW)) hd (by rw [hR]; exact ⟨by rw [Nat.zero_add]; exact hmc.1, by rw [Nat.zero_add]; exact hmc.2⟩)) o1 (fun v hv => o2 v (by simp [hv])) s h hok kr kx
  · intro U hU hWU
    exact ⟨rfl, by rw [hU]; exact w, by rw [hU]; exact hSF.moved hWU⟩
  · show (As.reverse ++ rest).map (cv G) = _
    rw [List.map_append, List.map_reverse]
/-- a method's contract, out of the walk of its body -/
theorem ct_of {l : Launch} {y : MethodName} {d : Nat} {av : List AV} {o : Outc} {M' : Mem} (ls0 : List (Nat × AV)) (hy : plainName y.cls = true) (hl : l.stackTraces = false) (hG : GOK G) (hlen : csum av ≤ nL) (hls : ls0.map (cq G) = lv_args 0 (av.map (cv G))) (hok : ∀ v ∈ av, okv G v) (hok0 : ∀ q ∈ ls0, okv G q.2)
    (body : ∀ X, X.2.1 = l → CX G y.cls cc nL ret (rmx d o) X → GW G X nL (QX G X o M') 0 ls0 [] M) : CT l G y cc nL ret d av M o M' := by
  refine vx_ofW hy rfl ?_
  intro p e s m args below meth c s₁ B hml hnt hv
  obtain ⟨rfl, hw⟩ := hv
  have hts := atoms_spec (ws := Cond.code y cc nL ret :: BW) B.pre
  have C : CX G y.cls cc nL ret (rmx d o) (p, l, e, (headSpec (Cond.code y cc nL ret :: BW) (rmx d o)).room, s, m, (av.map (cv G)).toArray, below, meth, c) :=
    ⟨B.exec, B.bytes, hml, findClass_of_methodNamed B.named, fun w hw => hts w (List.mem_cons_of_mem _ hw), B.notSynchronized, B.returns, hnt, hl, rfl, hG, hw.2⟩
  have hsl : ∀ vs : List AV, (lg_sl (vs.map (cv G))).length = csum vs := by
    intro vs
    induction vs with
    | nil => rfl
    | cons v r ih =>
      show (List.flatMap _ (cv G v :: r.map (cv G))).length = _
      rw [List.flatMap_cons, List.length_append]
      show _ + (lg_sl (r.map (cv G))).length = (if cat2 v then 2 else 1) + csum r
      rw [ih]
      rcases v with x | x | x | x | x <;> rfl
  have hlv := lv_entry (av.map (cv G)) (n := nL) (by rw [hsl]; exact hlen)
  rw [lg_entry_eq]
  have k := body _ rfl C hok0 (fun _ h => by cases h) s.heap [] ((lg_sl (av.map (cv G)) ++ List.replicate (nL - (lg_sl (av.map (cv G))).length) Slot.unset).toArray) hw.1 va_S.rf (by rw [show (fun q : Nat × AV => (q.1, cv G q.2)) = cq G from rfl, hls]; exact hlv)
  exact k
end CALLS
end
section
/-! A throw of the class's own. -/
section THROW
variable {G : GE} {own : String} {cc : ByteArray} {nL : Nat} {ret : Option FieldType} {rm : Room} {X : PX} {Q : State → Prop} {pc : Nat} {ls : List (Nat × AV)} {st : List AV} {M : Mem}
def tkB (own : String) (ik ic : Nat) (E : String) : Prop :=
  Bundle.fit E = true ∧ Cond.classLink own ik E ∈ BW ∧ Cond.initialized E ∈ BW ∧ (∀ w ∈ (vx_atS own ic E exP).filter goodWord, w ∈ BW) ∧ (∀ w ∈ (vx_atS own ic E exP).filter (fun w => !goodWord w), w ∈ XW) ∧ (∀ w ∈ Cond.classLink own ik E :: Cond.initialized E :: vx_atS own ic E exP, vx_ot w = true)
theorem g_throw {o : Outc} {ik is ic d : Nat} {E text : String} (C : CX G own cc nL ret (rmx d (.inr E)) X) (tk : tkB own ik ic E) (hs : (own, is, text) ∈ strs) (hd6 : 6 ≤ d) (hW : csum st = 0)
    (d0 : decode cc pc = .ok (.new ik, 3)) (d3 : decode cc (pc + 3) = .ok (.dup, 1)) (d4 : decode cc (pc + 4) = .ok (.ldc is, 2)) (d6 : decode cc (pc + 6) = .ok (.invokespecial ic, 3)) (d9 : decode cc (pc + 9) = .ok (.athrow, 1)) : GW G X nL (QX G X (.inr E) M) pc ls st M := by
  intro o1 o2 H locs la w s h
  obtain ⟨t1, t2, t3, t4, t5, t6⟩ := tk
  obtain ⟨a, ha⟩ := (ca C).2.2.2.2.1 _ hs
  have hR : X.2.2.2.1 = rmx d (.inr E) := C.2.2.2.2.2.2.2.2.2.1
  have hsum : ((st.map (cv G)).map fun v => v.category).sum = 0 := by rw [csum_cv]; exact hW
  refine vx_throwS (p := X.1) (l := X.2.1) (e := X.2.2.1) (R := X.2.2.2.1) (s := xs_ X) (m := X.2.2.2.2.2.1) (args := X.2.2.2.2.2.2.1) (below := X.2.2.2.2.2.2.2.1) (meth := X.2.2.2.2.2.2.2.2.1) (c := X.2.2.2.2.2.2.2.2.2) (mc := 1) (ms := 6) (names := exP) (text := text) (A := gA G) C.1 C.2.1 C.2.2.2.2.2.2.2.2.1 C.2.2.2.1 t1 (by decide +kernel) (C.2.2.2.2.1 _ t2) (C.2.2.2.2.1 _ t3) ha (vx_hat (B := XW) (fun w hw => C.2.2.2.2.1 _ (t4 w hw)) t5 (fun w hw => va_Nw.use (XW.tabs w hw) ((ca C).2.2.2.2.2.1 w hw))) t6 (ca C).2.1 (ca C).2.2.1 s (by rw [h.1]; exact C.2.2.1.symm) d0 d3 d4 d6 d9 (fun x hx => (C.2.2.2.2.2.2.2.1 x hx).elim) ?_ ?_ ?_ ?_ C.2.2.2.2.2.1 ?_ s.2.2 (Nat.le_refl _) (Nat.le_refl _)
  · rw [hR]
    show 2 + 3 < d
    omega
  · rw [hsum, hR]
    show 0 + (13 * (2 + 1) + 43) ≤ 36 * d
    omega
  · rw [hR]
    exact Nat.le_refl _
  · rw [hR]
    exact Nat.le_refl _
  · intro t ht hz hk
    refine ⟨rfl, ⟨w.1.kept (fun j q hq => hk _ (w.1 j q hq).lt), w.2⟩, Nat.le_trans s.1 hz, fun q h1 h2 => ?_⟩
    rw [hk q (Nat.lt_of_lt_of_le h1 s.1)]
    exact s.2.1 q h1 h2
end THROW
end
