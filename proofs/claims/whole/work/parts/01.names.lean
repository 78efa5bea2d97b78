-- ===== PART A: goes FIRST, ahead of the names: the tables' words, and 'selects' of the private methods out of them =====
/-- a private method of a class that the tables say can be made, by its rows of tables_1 -/
def lw_okq (q : MethodName × Nat) : Prop := (q.1.cls ≠ "java/lang/invoke/MethodHandle" ∧ q.1.cls ≠ "java/lang/invoke/VarHandle") ∧ Cond.instantiable q.1.cls q.2 ∈ tables_1 ∧ Cond.privateMethod q.1 ∈ tables_1 ∧ Cond.instanceMethod q.1 ∈ tables_1
theorem lw_p0 : lw_okq (⟨"LaneOrder$Text", "fitsBoxes", "(I)Z"⟩, 2) := ⟨⟨by decide +kernel, by decide +kernel⟩, List.mem_of_getElem? (i := 27) (by decide +kernel), List.mem_of_getElem? (i := 284) (by decide +kernel), List.mem_of_getElem? (i := 285) (by decide +kernel)⟩
theorem lw_p1 : lw_okq (⟨"LaneOrder$Text", "fitsRules", "(II)Z"⟩, 2) := ⟨⟨by decide +kernel, by decide +kernel⟩, List.mem_of_getElem? (i := 27) (by decide +kernel), List.mem_of_getElem? (i := 378) (by decide +kernel), List.mem_of_getElem? (i := 379) (by decide +kernel)⟩
theorem lw_p2 : lw_okq (⟨"LaneOrder$Text", "rulesPlace", "()I"⟩, 2) := ⟨⟨by decide +kernel, by decide +kernel⟩, List.mem_of_getElem? (i := 27) (by decide +kernel), List.mem_of_getElem? (i := 391) (by decide +kernel), List.mem_of_getElem? (i := 392) (by decide +kernel)⟩
theorem lw_p3 : lw_okq (⟨"LaneOrder$Text", "digitAt", "(I)I"⟩, 2) := ⟨⟨by decide +kernel, by decide +kernel⟩, List.mem_of_getElem? (i := 27) (by decide +kernel), List.mem_of_getElem? (i := 404) (by decide +kernel), List.mem_of_getElem? (i := 405) (by decide +kernel)⟩
theorem lw_p4 : lw_okq (⟨"LaneOrder$Reading", "nearestFigure", "(I)I"⟩, 13) := ⟨⟨by decide +kernel, by decide +kernel⟩, List.mem_of_getElem? (i := 43) (by decide +kernel), List.mem_of_getElem? (i := 425) (by decide +kernel), List.mem_of_getElem? (i := 426) (by decide +kernel)⟩
theorem lw_p5 : lw_okq (⟨"LaneOrder$Reading", "readPart", "(III)V"⟩, 13) := ⟨⟨by decide +kernel, by decide +kernel⟩, List.mem_of_getElem? (i := 43) (by decide +kernel), List.mem_of_getElem? (i := 437) (by decide +kernel), List.mem_of_getElem? (i := 438) (by decide +kernel)⟩
theorem lw_p6 : lw_okq (⟨"LaneOrder$Reading", "gatherLanesOf", "(I[I[III)V"⟩, 13) := ⟨⟨by decide +kernel, by decide +kernel⟩, List.mem_of_getElem? (i := 43) (by decide +kernel), List.mem_of_getElem? (i := 449) (by decide +kernel), List.mem_of_getElem? (i := 450) (by decide +kernel)⟩
theorem lw_p7 : lw_okq (⟨"LaneOrder$Reading", "nextBegin", "([I[IIII)I"⟩, 13) := ⟨⟨by decide +kernel, by decide +kernel⟩, List.mem_of_getElem? (i := 43) (by decide +kernel), List.mem_of_getElem? (i := 453) (by decide +kernel), List.mem_of_getElem? (i := 454) (by decide +kernel)⟩
theorem lw_p8 : lw_okq (⟨"LaneOrder$Lanes", "isBehind", "(IIII)Z"⟩, 4) := ⟨⟨by decide +kernel, by decide +kernel⟩, List.mem_of_getElem? (i := 125) (by decide +kernel), List.mem_of_getElem? (i := 465) (by decide +kernel), List.mem_of_getElem? (i := 466) (by decide +kernel)⟩
theorem lw_p9 : lw_okq (⟨"LaneOrder$Reading", "readLeaf", "(III)V"⟩, 13) := ⟨⟨by decide +kernel, by decide +kernel⟩, List.mem_of_getElem? (i := 43) (by decide +kernel), List.mem_of_getElem? (i := 469) (by decide +kernel), List.mem_of_getElem? (i := 470) (by decide +kernel)⟩
theorem lw_p10 : lw_okq (⟨"LaneOrder$Reading", "divide", "(II)I"⟩, 13) := ⟨⟨by decide +kernel, by decide +kernel⟩, List.mem_of_getElem? (i := 43) (by decide +kernel), List.mem_of_getElem? (i := 485) (by decide +kernel), List.mem_of_getElem? (i := 486) (by decide +kernel)⟩
theorem lw_p11 : lw_okq (⟨"LaneOrder$Reading", "putInOrder", "()V"⟩, 13) := ⟨⟨by decide +kernel, by decide +kernel⟩, List.mem_of_getElem? (i := 43) (by decide +kernel), List.mem_of_getElem? (i := 496) (by decide +kernel), List.mem_of_getElem? (i := 497) (by decide +kernel)⟩
theorem lw_p12 : lw_okq (⟨"LaneOrder$Reading", "putNext", "(I)V"⟩, 13) := ⟨⟨by decide +kernel, by decide +kernel⟩, List.mem_of_getElem? (i := 43) (by decide +kernel), List.mem_of_getElem? (i := 500) (by decide +kernel), List.mem_of_getElem? (i := 501) (by decide +kernel)⟩
theorem lw_p13 : lw_okq (⟨"LaneOrder", "hasNoPage", "()Z"⟩, 9) := ⟨⟨by decide +kernel, by decide +kernel⟩, List.mem_of_getElem? (i := 19) (by decide +kernel), List.mem_of_getElem? (i := 572) (by decide +kernel), List.mem_of_getElem? (i := 573) (by decide +kernel)⟩
theorem lw_p14 : lw_okq (⟨"LaneOrder$Draws", "ofEight", "()I"⟩, 1) := ⟨⟨by decide +kernel, by decide +kernel⟩, List.mem_of_getElem? (i := 221) (by decide +kernel), List.mem_of_getElem? (i := 689) (by decide +kernel), List.mem_of_getElem? (i := 690) (by decide +kernel)⟩
theorem lw_p15 : lw_okq (⟨"LaneOrder$Draws", "step", "()V"⟩, 1) := ⟨⟨by decide +kernel, by decide +kernel⟩, List.mem_of_getElem? (i := 221) (by decide +kernel), List.mem_of_getElem? (i := 693) (by decide +kernel), List.mem_of_getElem? (i := 694) (by decide +kernel)⟩
def lw_privs_1 : List (MethodName × Nat) := [(⟨"LaneOrder$Text", "fitsBoxes", "(I)Z"⟩, 2), (⟨"LaneOrder$Text", "fitsRules", "(II)Z"⟩, 2), (⟨"LaneOrder$Text", "rulesPlace", "()I"⟩, 2), (⟨"LaneOrder$Text", "digitAt", "(I)I"⟩, 2), (⟨"LaneOrder$Reading", "nearestFigure", "(I)I"⟩, 13), (⟨"LaneOrder$Reading", "readPart", "(III)V"⟩, 13), (⟨"LaneOrder$Reading", "gatherLanesOf", "(I[I[III)V"⟩, 13), (⟨"LaneOrder$Reading", "nextBegin", "([I[IIII)I"⟩, 13), (⟨"LaneOrder$Lanes", "isBehind", "(IIII)Z"⟩, 4), (⟨"LaneOrder$Reading", "readLeaf", "(III)V"⟩, 13), (⟨"LaneOrder$Reading", "divide", "(II)I"⟩, 13), (⟨"LaneOrder$Reading", "putInOrder", "()V"⟩, 13), (⟨"LaneOrder$Reading", "putNext", "(I)V"⟩, 13), (⟨"LaneOrder", "hasNoPage", "()Z"⟩, 9), (⟨"LaneOrder$Draws", "ofEight", "()I"⟩, 1), (⟨"LaneOrder$Draws", "step", "()V"⟩, 1)]
theorem lw_r1 : ∀ q ∈ lw_privs_1, lw_okq q := List.forall_mem_cons.mpr ⟨lw_p0, List.forall_mem_cons.mpr ⟨lw_p1, List.forall_mem_cons.mpr ⟨lw_p2, List.forall_mem_cons.mpr ⟨lw_p3, List.forall_mem_cons.mpr ⟨lw_p4, List.forall_mem_cons.mpr ⟨lw_p5, List.forall_mem_cons.mpr ⟨lw_p6, List.forall_mem_cons.mpr ⟨lw_p7, List.forall_mem_cons.mpr ⟨lw_p8, List.forall_mem_cons.mpr ⟨lw_p9, List.forall_mem_cons.mpr ⟨lw_p10, List.forall_mem_cons.mpr ⟨lw_p11, List.forall_mem_cons.mpr ⟨lw_p12, List.forall_mem_cons.mpr ⟨lw_p13, List.forall_mem_cons.mpr ⟨lw_p14, List.forall_mem_cons.mpr ⟨lw_p15, fun _ h => absurd h List.not_mem_nil⟩⟩⟩⟩⟩⟩⟩⟩⟩⟩⟩⟩⟩⟩⟩⟩
theorem lw_p16 : lw_okq (⟨"LaneOrder$Draws", "ofThree", "()I"⟩, 1) := ⟨⟨by decide +kernel, by decide +kernel⟩, List.mem_of_getElem? (i := 221) (by decide +kernel), List.mem_of_getElem? (i := 700) (by decide +kernel), List.mem_of_getElem? (i := 701) (by decide +kernel)⟩
theorem lw_p17 : lw_okq (⟨"LaneOrderModel", "faultOf", "()I"⟩, 40) := ⟨⟨by decide +kernel, by decide +kernel⟩, List.mem_of_getElem? (i := 739) (by decide +kernel), List.mem_of_getElem? (i := 882) (by decide +kernel), List.mem_of_getElem? (i := 883) (by decide +kernel)⟩
theorem lw_p18 : lw_okq (⟨"LaneOrderModel", "isBoxSign", "(I)Z"⟩, 40) := ⟨⟨by decide +kernel, by decide +kernel⟩, List.mem_of_getElem? (i := 739) (by decide +kernel), List.mem_of_getElem? (i := 886) (by decide +kernel), List.mem_of_getElem? (i := 887) (by decide +kernel)⟩
theorem lw_p19 : lw_okq (⟨"LaneOrderModel", "isRuleSign", "(I)Z"⟩, 40) := ⟨⟨by decide +kernel, by decide +kernel⟩, List.mem_of_getElem? (i := 739) (by decide +kernel), List.mem_of_getElem? (i := 896) (by decide +kernel), List.mem_of_getElem? (i := 897) (by decide +kernel)⟩
theorem lw_p20 : lw_okq (⟨"LaneOrderModel", "isBox", "(I)Z"⟩, 40) := ⟨⟨by decide +kernel, by decide +kernel⟩, List.mem_of_getElem? (i := 739) (by decide +kernel), List.mem_of_getElem? (i := 912) (by decide +kernel), List.mem_of_getElem? (i := 913) (by decide +kernel)⟩
theorem lw_p21 : lw_okq (⟨"LaneOrderModel", "tellBox", "(II)I"⟩, 40) := ⟨⟨by decide +kernel, by decide +kernel⟩, List.mem_of_getElem? (i := 739) (by decide +kernel), List.mem_of_getElem? (i := 916) (by decide +kernel), List.mem_of_getElem? (i := 917) (by decide +kernel)⟩
theorem lw_p22 : lw_okq (⟨"LaneOrderModel", "layAll", "()V"⟩, 40) := ⟨⟨by decide +kernel, by decide +kernel⟩, List.mem_of_getElem? (i := 739) (by decide +kernel), List.mem_of_getElem? (i := 920) (by decide +kernel), List.mem_of_getElem? (i := 921) (by decide +kernel)⟩
theorem lw_p23 : lw_okq (⟨"LaneOrderModel", "layOrder", "(I)V"⟩, 40) := ⟨⟨by decide +kernel, by decide +kernel⟩, List.mem_of_getElem? (i := 739) (by decide +kernel), List.mem_of_getElem? (i := 924) (by decide +kernel), List.mem_of_getElem? (i := 925) (by decide +kernel)⟩
theorem lw_p24 : lw_okq (⟨"LaneOrderModel", "layBound", "(I)I"⟩, 40) := ⟨⟨by decide +kernel, by decide +kernel⟩, List.mem_of_getElem? (i := 739) (by decide +kernel), List.mem_of_getElem? (i := 928) (by decide +kernel), List.mem_of_getElem? (i := 929) (by decide +kernel)⟩
theorem lw_p25 : lw_okq (⟨"LaneOrderModel", "apart", "(II)I"⟩, 40) := ⟨⟨by decide +kernel, by decide +kernel⟩, List.mem_of_getElem? (i := 739) (by decide +kernel), List.mem_of_getElem? (i := 932) (by decide +kernel), List.mem_of_getElem? (i := 933) (by decide +kernel)⟩
theorem lw_p26 : lw_okq (⟨"LaneOrderModel", "layLane", "(I)V"⟩, 40) := ⟨⟨by decide +kernel, by decide +kernel⟩, List.mem_of_getElem? (i := 739) (by decide +kernel), List.mem_of_getElem? (i := 939) (by decide +kernel), List.mem_of_getElem? (i := 940) (by decide +kernel)⟩
theorem lw_p27 : lw_okq (⟨"LaneOrderModel", "tryLane", "(IIII)V"⟩, 40) := ⟨⟨by decide +kernel, by decide +kernel⟩, List.mem_of_getElem? (i := 739) (by decide +kernel), List.mem_of_getElem? (i := 943) (by decide +kernel), List.mem_of_getElem? (i := 944) (by decide +kernel)⟩
theorem lw_p28 : lw_okq (⟨"LaneOrderModel", "isLane", "(IIII)Z"⟩, 40) := ⟨⟨by decide +kernel, by decide +kernel⟩, List.mem_of_getElem? (i := 739) (by decide +kernel), List.mem_of_getElem? (i := 947) (by decide +kernel), List.mem_of_getElem? (i := 948) (by decide +kernel)⟩
theorem lw_p29 : lw_okq (⟨"LaneOrderModel", "layLeaf", "(II)V"⟩, 40) := ⟨⟨by decide +kernel, by decide +kernel⟩, List.mem_of_getElem? (i := 739) (by decide +kernel), List.mem_of_getElem? (i := 951) (by decide +kernel), List.mem_of_getElem? (i := 952) (by decide +kernel)⟩
theorem lw_p30 : lw_okq (⟨"LaneOrderModel", "isAhead", "(II)Z"⟩, 40) := ⟨⟨by decide +kernel, by decide +kernel⟩, List.mem_of_getElem? (i := 739) (by decide +kernel), List.mem_of_getElem? (i := 955) (by decide +kernel), List.mem_of_getElem? (i := 956) (by decide +kernel)⟩
theorem lw_p31 : lw_okq (⟨"LaneOrderModel", "ruleOf", "(II)I"⟩, 40) := ⟨⟨by decide +kernel, by decide +kernel⟩, List.mem_of_getElem? (i := 739) (by decide +kernel), List.mem_of_getElem? (i := 959) (by decide +kernel), List.mem_of_getElem? (i := 960) (by decide +kernel)⟩
def lw_privs_2 : List (MethodName × Nat) := [(⟨"LaneOrder$Draws", "ofThree", "()I"⟩, 1), (⟨"LaneOrderModel", "faultOf", "()I"⟩, 40), (⟨"LaneOrderModel", "isBoxSign", "(I)Z"⟩, 40), (⟨"LaneOrderModel", "isRuleSign", "(I)Z"⟩, 40), (⟨"LaneOrderModel", "isBox", "(I)Z"⟩, 40), (⟨"LaneOrderModel", "tellBox", "(II)I"⟩, 40), (⟨"LaneOrderModel", "layAll", "()V"⟩, 40), (⟨"LaneOrderModel", "layOrder", "(I)V"⟩, 40), (⟨"LaneOrderModel", "layBound", "(I)I"⟩, 40), (⟨"LaneOrderModel", "apart", "(II)I"⟩, 40), (⟨"LaneOrderModel", "layLane", "(I)V"⟩, 40), (⟨"LaneOrderModel", "tryLane", "(IIII)V"⟩, 40), (⟨"LaneOrderModel", "isLane", "(IIII)Z"⟩, 40), (⟨"LaneOrderModel", "layLeaf", "(II)V"⟩, 40), (⟨"LaneOrderModel", "isAhead", "(II)Z"⟩, 40), (⟨"LaneOrderModel", "ruleOf", "(II)I"⟩, 40)]
theorem lw_r2 : ∀ q ∈ lw_privs_2, lw_okq q := List.forall_mem_cons.mpr ⟨lw_p16, List.forall_mem_cons.mpr ⟨lw_p17, List.forall_mem_cons.mpr ⟨lw_p18, List.forall_mem_cons.mpr ⟨lw_p19, List.forall_mem_cons.mpr ⟨lw_p20, List.forall_mem_cons.mpr ⟨lw_p21, List.forall_mem_cons.mpr ⟨lw_p22, List.forall_mem_cons.mpr ⟨lw_p23, List.forall_mem_cons.mpr ⟨lw_p24, List.forall_mem_cons.mpr ⟨lw_p25, List.forall_mem_cons.mpr ⟨lw_p26, List.forall_mem_cons.mpr ⟨lw_p27, List.forall_mem_cons.mpr ⟨lw_p28, List.forall_mem_cons.mpr ⟨lw_p29, List.forall_mem_cons.mpr ⟨lw_p30, List.forall_mem_cons.mpr ⟨lw_p31, fun _ h => absurd h List.not_mem_nil⟩⟩⟩⟩⟩⟩⟩⟩⟩⟩⟩⟩⟩⟩⟩⟩
theorem lw_p32 : lw_okq (⟨"LaneOrderModel", "byRule", "(III)I"⟩, 40) := ⟨⟨by decide +kernel, by decide +kernel⟩, List.mem_of_getElem? (i := 739) (by decide +kernel), List.mem_of_getElem? (i := 963) (by decide +kernel), List.mem_of_getElem? (i := 964) (by decide +kernel)⟩
theorem lw_p33 : lw_okq (⟨"LaneOrderModel", "isSort", "(II)Z"⟩, 40) := ⟨⟨by decide +kernel, by decide +kernel⟩, List.mem_of_getElem? (i := 739) (by decide +kernel), List.mem_of_getElem? (i := 967) (by decide +kernel), List.mem_of_getElem? (i := 968) (by decide +kernel)⟩
theorem lw_p34 : lw_okq (⟨"LaneOrderModel", "append", "(I)V"⟩, 40) := ⟨⟨by decide +kernel, by decide +kernel⟩, List.mem_of_getElem? (i := 739) (by decide +kernel), List.mem_of_getElem? (i := 971) (by decide +kernel), List.mem_of_getElem? (i := 972) (by decide +kernel)⟩
theorem lw_p35 : lw_okq (⟨"LaneOrderModel", "firstSide", "(I)I"⟩, 40) := ⟨⟨by decide +kernel, by decide +kernel⟩, List.mem_of_getElem? (i := 739) (by decide +kernel), List.mem_of_getElem? (i := 975) (by decide +kernel), List.mem_of_getElem? (i := 976) (by decide +kernel)⟩
theorem lw_p36 : lw_okq (⟨"LaneOrderModel", "placeOf", "(I)I"⟩, 40) := ⟨⟨by decide +kernel, by decide +kernel⟩, List.mem_of_getElem? (i := 739) (by decide +kernel), List.mem_of_getElem? (i := 982) (by decide +kernel), List.mem_of_getElem? (i := 983) (by decide +kernel)⟩
theorem lw_p37 : lw_okq (⟨"LaneOrderModel", "sortsOf", "(I)I"⟩, 40) := ⟨⟨by decide +kernel, by decide +kernel⟩, List.mem_of_getElem? (i := 739) (by decide +kernel), List.mem_of_getElem? (i := 986) (by decide +kernel), List.mem_of_getElem? (i := 987) (by decide +kernel)⟩
theorem lw_p38 : lw_okq (⟨"LaneOrderModel", "askOf", "(I)I"⟩, 40) := ⟨⟨by decide +kernel, by decide +kernel⟩, List.mem_of_getElem? (i := 739) (by decide +kernel), List.mem_of_getElem? (i := 993) (by decide +kernel), List.mem_of_getElem? (i := 994) (by decide +kernel)⟩
theorem lw_p39 : lw_okq (⟨"LaneOrderModel", "laneOf", "(I)I"⟩, 40) := ⟨⟨by decide +kernel, by decide +kernel⟩, List.mem_of_getElem? (i := 739) (by decide +kernel), List.mem_of_getElem? (i := 1018) (by decide +kernel), List.mem_of_getElem? (i := 1019) (by decide +kernel)⟩
theorem lw_p40 : lw_okq (⟨"LaneOrderModel", "nextLane", "(II)I"⟩, 40) := ⟨⟨by decide +kernel, by decide +kernel⟩, List.mem_of_getElem? (i := 739) (by decide +kernel), List.mem_of_getElem? (i := 1022) (by decide +kernel), List.mem_of_getElem? (i := 1023) (by decide +kernel)⟩
theorem lw_p41 : lw_okq (⟨"LaneOrderModel", "lacks", "()Z"⟩, 40) := ⟨⟨by decide +kernel, by decide +kernel⟩, List.mem_of_getElem? (i := 739) (by decide +kernel), List.mem_of_getElem? (i := 1034) (by decide +kernel), List.mem_of_getElem? (i := 1035) (by decide +kernel)⟩
theorem lw_p42 : lw_okq (⟨"LaneOrderModel", "shift", "(III)V"⟩, 40) := ⟨⟨by decide +kernel, by decide +kernel⟩, List.mem_of_getElem? (i := 739) (by decide +kernel), List.mem_of_getElem? (i := 1048) (by decide +kernel), List.mem_of_getElem? (i := 1049) (by decide +kernel)⟩
theorem lw_p43 : lw_okq (⟨"LaneOrderModel", "greatest", "()I"⟩, 40) := ⟨⟨by decide +kernel, by decide +kernel⟩, List.mem_of_getElem? (i := 739) (by decide +kernel), List.mem_of_getElem? (i := 1068) (by decide +kernel), List.mem_of_getElem? (i := 1069) (by decide +kernel)⟩
theorem lw_p44 : lw_okq (⟨"LaneOrderModel", "keepOrder", "()V"⟩, 40) := ⟨⟨by decide +kernel, by decide +kernel⟩, List.mem_of_getElem? (i := 739) (by decide +kernel), List.mem_of_getElem? (i := 1076) (by decide +kernel), List.mem_of_getElem? (i := 1077) (by decide +kernel)⟩
theorem lw_p45 : lw_okq (⟨"LaneOrderModel", "isSameOrder", "()Z"⟩, 40) := ⟨⟨by decide +kernel, by decide +kernel⟩, List.mem_of_getElem? (i := 739) (by decide +kernel), List.mem_of_getElem? (i := 1087) (by decide +kernel), List.mem_of_getElem? (i := 1088) (by decide +kernel)⟩
theorem lw_p46 : lw_okq (⟨"LaneOrderModel", "idleOf", "()I"⟩, 40) := ⟨⟨by decide +kernel, by decide +kernel⟩, List.mem_of_getElem? (i := 739) (by decide +kernel), List.mem_of_getElem? (i := 1095) (by decide +kernel), List.mem_of_getElem? (i := 1096) (by decide +kernel)⟩
theorem lw_p47 : lw_okq (⟨"LaneOrderModel", "freeOf", "()I"⟩, 40) := ⟨⟨by decide +kernel, by decide +kernel⟩, List.mem_of_getElem? (i := 739) (by decide +kernel), List.mem_of_getElem? (i := 1103) (by decide +kernel), List.mem_of_getElem? (i := 1104) (by decide +kernel)⟩
def lw_privs_3 : List (MethodName × Nat) := [(⟨"LaneOrderModel", "byRule", "(III)I"⟩, 40), (⟨"LaneOrderModel", "isSort", "(II)Z"⟩, 40), (⟨"LaneOrderModel", "append", "(I)V"⟩, 40), (⟨"LaneOrderModel", "firstSide", "(I)I"⟩, 40), (⟨"LaneOrderModel", "placeOf", "(I)I"⟩, 40), (⟨"LaneOrderModel", "sortsOf", "(I)I"⟩, 40), (⟨"LaneOrderModel", "askOf", "(I)I"⟩, 40), (⟨"LaneOrderModel", "laneOf", "(I)I"⟩, 40), (⟨"LaneOrderModel", "nextLane", "(II)I"⟩, 40), (⟨"LaneOrderModel", "lacks", "()Z"⟩, 40), (⟨"LaneOrderModel", "shift", "(III)V"⟩, 40), (⟨"LaneOrderModel", "greatest", "()I"⟩, 40), (⟨"LaneOrderModel", "keepOrder", "()V"⟩, 40), (⟨"LaneOrderModel", "isSameOrder", "()Z"⟩, 40), (⟨"LaneOrderModel", "idleOf", "()I"⟩, 40), (⟨"LaneOrderModel", "freeOf", "()I"⟩, 40)]
theorem lw_r3 : ∀ q ∈ lw_privs_3, lw_okq q := List.forall_mem_cons.mpr ⟨lw_p32, List.forall_mem_cons.mpr ⟨lw_p33, List.forall_mem_cons.mpr ⟨lw_p34, List.forall_mem_cons.mpr ⟨lw_p35, List.forall_mem_cons.mpr ⟨lw_p36, List.forall_mem_cons.mpr ⟨lw_p37, List.forall_mem_cons.mpr ⟨lw_p38, List.forall_mem_cons.mpr ⟨lw_p39, List.forall_mem_cons.mpr ⟨lw_p40, List.forall_mem_cons.mpr ⟨lw_p41, List.forall_mem_cons.mpr ⟨lw_p42, List.forall_mem_cons.mpr ⟨lw_p43, List.forall_mem_cons.mpr ⟨lw_p44, List.forall_mem_cons.mpr ⟨lw_p45, List.forall_mem_cons.mpr ⟨lw_p46, List.forall_mem_cons.mpr ⟨lw_p47, fun _ h => absurd h List.not_mem_nil⟩⟩⟩⟩⟩⟩⟩⟩⟩⟩⟩⟩⟩⟩⟩⟩
theorem lw_p48 : lw_okq (⟨"LaneOrderModel", "drawBox", "(I)V"⟩, 40) := ⟨⟨by decide +kernel, by decide +kernel⟩, List.mem_of_getElem? (i := 739) (by decide +kernel), List.mem_of_getElem? (i := 1122) (by decide +kernel), List.mem_of_getElem? (i := 1123) (by decide +kernel)⟩
theorem lw_p49 : lw_okq (⟨"LaneOrderModel", "draw", "(I)I"⟩, 40) := ⟨⟨by decide +kernel, by decide +kernel⟩, List.mem_of_getElem? (i := 739) (by decide +kernel), List.mem_of_getElem? (i := 1126) (by decide +kernel), List.mem_of_getElem? (i := 1127) (by decide +kernel)⟩
theorem lw_p50 : lw_okq (⟨"LaneOrderModel", "countOf", "(I)I"⟩, 40) := ⟨⟨by decide +kernel, by decide +kernel⟩, List.mem_of_getElem? (i := 739) (by decide +kernel), List.mem_of_getElem? (i := 1146) (by decide +kernel), List.mem_of_getElem? (i := 1147) (by decide +kernel)⟩
theorem lw_p51 : lw_okq (⟨"LaneOrderModel", "boundMany", "()I"⟩, 40) := ⟨⟨by decide +kernel, by decide +kernel⟩, List.mem_of_getElem? (i := 739) (by decide +kernel), List.mem_of_getElem? (i := 1150) (by decide +kernel), List.mem_of_getElem? (i := 1151) (by decide +kernel)⟩
theorem lw_p52 : lw_okq (⟨"LaneOrderModel", "sayPage", "()V"⟩, 40) := ⟨⟨by decide +kernel, by decide +kernel⟩, List.mem_of_getElem? (i := 739) (by decide +kernel), List.mem_of_getElem? (i := 1159) (by decide +kernel), List.mem_of_getElem? (i := 1160) (by decide +kernel)⟩
theorem lw_p53 : lw_okq (⟨"LaneOrderModel", "say", "(J)V"⟩, 40) := ⟨⟨by decide +kernel, by decide +kernel⟩, List.mem_of_getElem? (i := 739) (by decide +kernel), List.mem_of_getElem? (i := 1163) (by decide +kernel), List.mem_of_getElem? (i := 1164) (by decide +kernel)⟩
def lw_privs_4 : List (MethodName × Nat) := [(⟨"LaneOrderModel", "drawBox", "(I)V"⟩, 40), (⟨"LaneOrderModel", "draw", "(I)I"⟩, 40), (⟨"LaneOrderModel", "countOf", "(I)I"⟩, 40), (⟨"LaneOrderModel", "boundMany", "()I"⟩, 40), (⟨"LaneOrderModel", "sayPage", "()V"⟩, 40), (⟨"LaneOrderModel", "say", "(J)V"⟩, 40)]
theorem lw_r4 : ∀ q ∈ lw_privs_4, lw_okq q := List.forall_mem_cons.mpr ⟨lw_p48, List.forall_mem_cons.mpr ⟨lw_p49, List.forall_mem_cons.mpr ⟨lw_p50, List.forall_mem_cons.mpr ⟨lw_p51, List.forall_mem_cons.mpr ⟨lw_p52, List.forall_mem_cons.mpr ⟨lw_p53, fun _ h => absurd h List.not_mem_nil⟩⟩⟩⟩⟩⟩
def lw_privs : List (MethodName × Nat) := lw_privs_1 ++ (lw_privs_2 ++ (lw_privs_3 ++ (lw_privs_4)))
def lw_tbl : List Cond := k2_sels lw_privs ++ tables_1
theorem lw_privs_ok : ∀ q ∈ lw_privs, lw_okq q := by
  show ∀ q ∈ lw_privs_1 ++ (lw_privs_2 ++ (lw_privs_3 ++ (lw_privs_4))), lw_okq q
  exact List.forall_mem_append.mpr ⟨lw_r1, List.forall_mem_append.mpr ⟨lw_r2, List.forall_mem_append.mpr ⟨lw_r3, lw_r4⟩⟩⟩

def RX0 : String := "LaneOrder$Cuts"
def TX0 : u_T := fun k => match k with
  | 0 => ("LaneOrder$Cuts", "axis", "[I", true)
  | 1 => ("LaneOrder$Cuts", "at", "[I", true)
  | 2 => ("LaneOrder$Cuts", "width", "[I", true)
  | 3 => ("LaneOrder$Cuts", "first", "[I", true)
  | 4 => ("LaneOrder$Cuts", "second", "[I", true)
  | _ => ("LaneOrder$Cuts", "size", "I", false)
def tyX0 : Nat → FieldType := fun k => match k with
  | 0 => .array .int
  | 1 => .array .int
  | 2 => .array .int
  | 3 => .array .int
  | 4 => .array .int
  | _ => .int
theorem nmX0 : ∀ a, a < 6 → ∀ b, b < 6 → a ≠ b → (TX0 a).2.1 ≠ (TX0 b).2.1 := by decide +kernel
theorem tyX0_ok : ∀ k, k < 6 → parseFieldDescriptor (TX0 k).2.2.1 = some (tyX0 k) := by decide +kernel
abbrev cX0_init : ByteArray := prog_2_method_1_code
def yX0_init : MethodName := ⟨RX0, "<init>", "()V"⟩
abbrev cX0_clear : ByteArray := prog_2_method_2_code
def yX0_clear : MethodName := ⟨RX0, "clear", "()V"⟩
abbrev cX0_add : ByteArray := prog_2_method_3_code
def yX0_add : MethodName := ⟨RX0, "add", "(IIIII)V"⟩
def RX1 : String := "LaneOrder$Draws"
def TX1 : u_T := fun k => match k with
  | _ => ("LaneOrder$Draws", "seed", "I", false)
def tyX1 : Nat → FieldType := fun k => match k with
  | _ => .int
theorem nmX1 : ∀ a, a < 1 → ∀ b, b < 1 → a ≠ b → (TX1 a).2.1 ≠ (TX1 b).2.1 := by decide +kernel
theorem tyX1_ok : ∀ k, k < 1 → parseFieldDescriptor (TX1 k).2.2.1 = some (tyX1 k) := by decide +kernel
abbrev cX1_init : ByteArray := prog_3_method_1_code
def yX1_init : MethodName := ⟨RX1, "<init>", "()V"⟩
abbrev cX1_drawTo : ByteArray := prog_3_method_2_code
def yX1_drawTo : MethodName := ⟨RX1, "drawTo", "(LLaneOrder$Sheet;)V"⟩
abbrev cX1_ofEight : ByteArray := prog_3_method_3_code
def yX1_ofEight : MethodName := ⟨RX1, "ofEight", "()I"⟩
abbrev cX1_ofThree : ByteArray := prog_3_method_4_code
def yX1_ofThree : MethodName := ⟨RX1, "ofThree", "()I"⟩
abbrev cX1_step : ByteArray := prog_3_method_5_code
def yX1_step : MethodName := ⟨RX1, "step", "()V"⟩
def RX2 : String := "LaneOrder$Lanes"
def TX2 : u_T := fun k => match k with
  | 0 => ("LaneOrder$Lanes", "axis", "[I", true)
  | 1 => ("LaneOrder$Lanes", "at", "[I", true)
  | 2 => ("LaneOrder$Lanes", "width", "[I", true)
  | _ => ("LaneOrder$Lanes", "size", "I", false)
def tyX2 : Nat → FieldType := fun k => match k with
  | 0 => .array .int
  | 1 => .array .int
  | 2 => .array .int
  | _ => .int
theorem nmX2 : ∀ a, a < 4 → ∀ b, b < 4 → a ≠ b → (TX2 a).2.1 ≠ (TX2 b).2.1 := by decide +kernel
theorem tyX2_ok : ∀ k, k < 4 → parseFieldDescriptor (TX2 k).2.2.1 = some (tyX2 k) := by decide +kernel
abbrev cX2_init : ByteArray := prog_4_method_1_code
def yX2_init : MethodName := ⟨RX2, "<init>", "()V"⟩
abbrev cX2_clear : ByteArray := prog_4_method_2_code
def yX2_clear : MethodName := ⟨RX2, "clear", "()V"⟩
abbrev cX2_has : ByteArray := prog_4_method_3_code
def yX2_has : MethodName := ⟨RX2, "has", "(II)Z"⟩
abbrev cX2_add : ByteArray := prog_4_method_4_code
def yX2_add : MethodName := ⟨RX2, "add", "(III)V"⟩
abbrev cX2_isBehind : ByteArray := prog_4_method_5_code
def yX2_isBehind : MethodName := ⟨RX2, "isBehind", "(IIII)Z"⟩
def RX3 : String := "LaneOrder$Reading"
def TX3 : u_T := fun k => match k with
  | 0 => ("LaneOrder$Reading", "sheet", "LLaneOrder$Sheet;", true)
  | 1 => ("LaneOrder$Reading", "order", "[I", true)
  | 2 => ("LaneOrder$Reading", "orderSize", "I", false)
  | 3 => ("LaneOrder$Reading", "place", "[I", true)
  | 4 => ("LaneOrder$Reading", "figure", "[I", true)
  | 5 => ("LaneOrder$Reading", "depth", "[I", true)
  | 6 => ("LaneOrder$Reading", "leaf", "[I", true)
  | 7 => ("LaneOrder$Reading", "leafCount", "I", false)
  | 8 => ("LaneOrder$Reading", "cuts", "LLaneOrder$Cuts;", true)
  | 9 => ("LaneOrder$Reading", "lanes", "LLaneOrder$Lanes;", true)
  | 10 => ("LaneOrder$Reading", "row", "[I", true)
  | 11 => ("LaneOrder$Reading", "rowSize", "I", false)
  | _ => ("LaneOrder$Reading", "secondSide", "[I", true)
def tyX3 : Nat → FieldType := fun k => match k with
  | 0 => .object "LaneOrder$Sheet"
  | 1 => .array .int
  | 2 => .int
  | 3 => .array .int
  | 4 => .array .int
  | 5 => .array .int
  | 6 => .array .int
  | 7 => .int
  | 8 => .object "LaneOrder$Cuts"
  | 9 => .object "LaneOrder$Lanes"
  | 10 => .array .int
  | 11 => .int
  | _ => .array .int
theorem nmX3 : ∀ a, a < 13 → ∀ b, b < 13 → a ≠ b → (TX3 a).2.1 ≠ (TX3 b).2.1 := by decide +kernel
theorem tyX3_ok : ∀ k, k < 13 → parseFieldDescriptor (TX3 k).2.2.1 = some (tyX3 k) := by decide +kernel
abbrev cX3_init : ByteArray := prog_5_method_1_code
def yX3_init : MethodName := ⟨RX3, "<init>", "()V"⟩
abbrev cX3_renew : ByteArray := prog_5_method_2_code
def yX3_renew : MethodName := ⟨RX3, "renew", "()V"⟩
abbrev cX3_reason : ByteArray := prog_5_method_3_code
def yX3_reason : MethodName := ⟨RX3, "reason", "(II)I"⟩
abbrev cX3_isOrderedLike : ByteArray := prog_5_method_4_code
def yX3_isOrderedLike : MethodName := ⟨RX3, "isOrderedLike", "(LLaneOrder$Reading;)Z"⟩
abbrev cX3_isByNumber : ByteArray := prog_5_method_5_code
def yX3_isByNumber : MethodName := ⟨RX3, "isByNumber", "()Z"⟩
abbrev cX3_gatherLanes : ByteArray := prog_5_method_6_code
def yX3_gatherLanes : MethodName := ⟨RX3, "gatherLanes", "(II)V"⟩
abbrev cX3_gatherLanesOf : ByteArray := prog_5_method_7_code
def yX3_gatherLanesOf : MethodName := ⟨RX3, "gatherLanesOf", "(I[I[III)V"⟩
abbrev cX3_nextBegin : ByteArray := prog_5_method_8_code
def yX3_nextBegin : MethodName := ⟨RX3, "nextBegin", "([I[IIII)I"⟩
abbrev cX3_readPart : ByteArray := prog_5_method_9_code
def yX3_readPart : MethodName := ⟨RX3, "readPart", "(III)V"⟩
abbrev cX3_divide : ByteArray := prog_5_method_10_code
def yX3_divide : MethodName := ⟨RX3, "divide", "(II)I"⟩
abbrev cX3_readLeaf : ByteArray := prog_5_method_11_code
def yX3_readLeaf : MethodName := ⟨RX3, "readLeaf", "(III)V"⟩
abbrev cX3_nearestFigure : ByteArray := prog_5_method_12_code
def yX3_nearestFigure : MethodName := ⟨RX3, "nearestFigure", "(I)I"⟩
abbrev cX3_putInOrder : ByteArray := prog_5_method_13_code
def yX3_putInOrder : MethodName := ⟨RX3, "putInOrder", "()V"⟩
abbrev cX3_putNext : ByteArray := prog_5_method_14_code
def yX3_putNext : MethodName := ⟨RX3, "putNext", "(I)V"⟩
def RX4 : String := "LaneOrder$Seen"
def TX4 : u_T := fun k => match k with
  | 0 => ("LaneOrder$Seen", "box", "[I", true)
  | 1 => ("LaneOrder$Seen", "kinds", "[I", true)
  | _ => ("LaneOrder$Seen", "size", "I", false)
def tyX4 : Nat → FieldType := fun k => match k with
  | 0 => .array .int
  | 1 => .array .int
  | _ => .int
theorem nmX4 : ∀ a, a < 3 → ∀ b, b < 3 → a ≠ b → (TX4 a).2.1 ≠ (TX4 b).2.1 := by decide +kernel
theorem tyX4_ok : ∀ k, k < 3 → parseFieldDescriptor (TX4 k).2.2.1 = some (tyX4 k) := by decide +kernel
abbrev cX4_init : ByteArray := prog_6_method_1_code
def yX4_init : MethodName := ⟨RX4, "<init>", "()V"⟩
abbrev cX4_clear : ByteArray := prog_6_method_2_code
def yX4_clear : MethodName := ⟨RX4, "clear", "()V"⟩
abbrev cX4_copy : ByteArray := prog_6_method_3_code
def yX4_copy : MethodName := ⟨RX4, "copy", "(LLaneOrder$Seen;)V"⟩
abbrev cX4_add : ByteArray := prog_6_method_4_code
def yX4_add : MethodName := ⟨RX4, "add", "(IIZ)V"⟩
abbrev cX4_sortsOf : ByteArray := prog_6_method_5_code
def yX4_sortsOf : MethodName := ⟨RX4, "sortsOf", "(I)I"⟩
abbrev cX4_nextQuestionFor : ByteArray := prog_6_method_6_code
def yX4_nextQuestionFor : MethodName := ⟨RX4, "nextQuestionFor", "(I)I"⟩
abbrev cX4_kindsSo : ByteArray := prog_6_method_7_code
def yX4_kindsSo : MethodName := ⟨RX4, "kindsSo", "(I)I"⟩
def RX5 : String := "LaneOrder$Sheet"
def TX5 : u_T := fun k => match k with
  | 0 => ("LaneOrder$Sheet", "kind", "[I", true)
  | 1 => ("LaneOrder$Sheet", "left", "[I", true)
  | 2 => ("LaneOrder$Sheet", "top", "[I", true)
  | 3 => ("LaneOrder$Sheet", "right", "[I", true)
  | 4 => ("LaneOrder$Sheet", "bottom", "[I", true)
  | 5 => ("LaneOrder$Sheet", "size", "I", false)
  | 6 => ("LaneOrder$Sheet", "rule", "[I", true)
  | _ => ("LaneOrder$Sheet", "ruleCount", "I", false)
def tyX5 : Nat → FieldType := fun k => match k with
  | 0 => .array .int
  | 1 => .array .int
  | 2 => .array .int
  | 3 => .array .int
  | 4 => .array .int
  | 5 => .int
  | 6 => .array .int
  | _ => .int
theorem nmX5 : ∀ a, a < 8 → ∀ b, b < 8 → a ≠ b → (TX5 a).2.1 ≠ (TX5 b).2.1 := by decide +kernel
theorem tyX5_ok : ∀ k, k < 8 → parseFieldDescriptor (TX5 k).2.2.1 = some (tyX5 k) := by decide +kernel
abbrev cX5_init : ByteArray := prog_7_method_1_code
def yX5_init : MethodName := ⟨RX5, "<init>", "()V"⟩
abbrev cX5_clear : ByteArray := prog_7_method_2_code
def yX5_clear : MethodName := ⟨RX5, "clear", "()V"⟩
abbrev cX5_has : ByteArray := prog_7_method_3_code
def yX5_has : MethodName := ⟨RX5, "has", "(I)Z"⟩
abbrev cX5_copy : ByteArray := prog_7_method_4_code
def yX5_copy : MethodName := ⟨RX5, "copy", "(LLaneOrder$Sheet;)V"⟩
abbrev cX5_copyWithout : ByteArray := prog_7_method_5_code
def yX5_copyWithout : MethodName := ⟨RX5, "copyWithout", "(LLaneOrder$Sheet;I)V"⟩
abbrev cX5_add : ByteArray := prog_7_method_6_code
def yX5_add : MethodName := ⟨RX5, "add", "(IIIII)V"⟩
abbrev cX5_remove : ByteArray := prog_7_method_7_code
def yX5_remove : MethodName := ⟨RX5, "remove", "(I)V"⟩
abbrev cX5_shift : ByteArray := prog_7_method_8_code
def yX5_shift : MethodName := ⟨RX5, "shift", "(III)V"⟩
abbrev cX5_staysInside : ByteArray := prog_7_method_9_code
def yX5_staysInside : MethodName := ⟨RX5, "staysInside", "(III)Z"⟩
abbrev cX5_greatestNumber : ByteArray := prog_7_method_10_code
def yX5_greatestNumber : MethodName := ⟨RX5, "greatestNumber", "()I"⟩
abbrev cX5_stretch : ByteArray := prog_7_method_11_code
def yX5_stretch : MethodName := ⟨RX5, "stretch", "(I)V"⟩
abbrev cX5_addRule : ByteArray := prog_7_method_12_code
def yX5_addRule : MethodName := ⟨RX5, "addRule", "(I)V"⟩
abbrev cX5_dropRule : ByteArray := prog_7_method_13_code
def yX5_dropRule : MethodName := ⟨RX5, "dropRule", "(I)V"⟩
abbrev cX5_takeRules : ByteArray := prog_7_method_14_code
def yX5_takeRules : MethodName := ⟨RX5, "takeRules", "(I)V"⟩
abbrev cX5_isOfKind : ByteArray := prog_7_method_15_code
def yX5_isOfKind : MethodName := ⟨RX5, "isOfKind", "(II)Z"⟩
abbrev cX5_rank : ByteArray := prog_7_method_16_code
def yX5_rank : MethodName := ⟨RX5, "rank", "(II)I"⟩
abbrev cX5_ruleThatTells : ByteArray := prog_7_method_17_code
def yX5_ruleThatTells : MethodName := ⟨RX5, "ruleThatTells", "(II)I"⟩
abbrev cX5_isAhead : ByteArray := prog_7_method_18_code
def yX5_isAhead : MethodName := ⟨RX5, "isAhead", "(II)Z"⟩
abbrev cX5_distance : ByteArray := prog_7_method_19_code
def yX5_distance : MethodName := ⟨RX5, "distance", "(II)I"⟩
abbrev cX5_gap : ByteArray := prog_7_method_20_code
def yX5_gap : MethodName := ⟨RX5, "gap", "(IIII)I"⟩
def RX6 : String := "LaneOrder$Text"
def TX6 : u_T := fun k => match k with
  | 0 => ("LaneOrder$Text", "codes", "[I", true)
  | _ => ("LaneOrder$Text", "length", "I", false)
def tyX6 : Nat → FieldType := fun k => match k with
  | 0 => .array .int
  | _ => .int
theorem nmX6 : ∀ a, a < 2 → ∀ b, b < 2 → a ≠ b → (TX6 a).2.1 ≠ (TX6 b).2.1 := by decide +kernel
theorem tyX6_ok : ∀ k, k < 2 → parseFieldDescriptor (TX6 k).2.2.1 = some (tyX6 k) := by decide +kernel
abbrev cX6_init : ByteArray := prog_8_method_1_code
def yX6_init : MethodName := ⟨RX6, "<init>", "()V"⟩
abbrev cX6_add : ByteArray := prog_8_method_2_code
def yX6_add : MethodName := ⟨RX6, "add", "(I)V"⟩
abbrev cX6_clear : ByteArray := prog_8_method_3_code
def yX6_clear : MethodName := ⟨RX6, "clear", "()V"⟩
abbrev cX6_firstFault : ByteArray := prog_8_method_4_code
def yX6_firstFault : MethodName := ⟨RX6, "firstFault", "()I"⟩
abbrev cX6_isPage : ByteArray := prog_8_method_5_code
def yX6_isPage : MethodName := ⟨RX6, "isPage", "()Z"⟩
abbrev cX6_writeTo : ByteArray := prog_8_method_6_code
def yX6_writeTo : MethodName := ⟨RX6, "writeTo", "(LLaneOrder$Sheet;)V"⟩
abbrev cX6_rulesPlace : ByteArray := prog_8_method_7_code
def yX6_rulesPlace : MethodName := ⟨RX6, "rulesPlace", "()I"⟩
abbrev cX6_fitsBoxes : ByteArray := prog_8_method_8_code
def yX6_fitsBoxes : MethodName := ⟨RX6, "fitsBoxes", "(I)Z"⟩
abbrev cX6_fitsRules : ByteArray := prog_8_method_9_code
def yX6_fitsRules : MethodName := ⟨RX6, "fitsRules", "(II)Z"⟩
abbrev cX6_digitAt : ByteArray := prog_8_method_10_code
def yX6_digitAt : MethodName := ⟨RX6, "digitAt", "(I)I"⟩
abbrev cX6_kindOf : ByteArray := prog_8_method_11_code
def yX6_kindOf : MethodName := ⟨RX6, "kindOf", "(I)I"⟩
def RX7 : String := "LaneOrder"
def TX7 : u_T := fun k => match k with
  | 0 => ("LaneOrder", "text", "LLaneOrder$Text;", true)
  | 1 => ("LaneOrder", "current", "LLaneOrder$Reading;", true)
  | 2 => ("LaneOrder", "seen", "LLaneOrder$Seen;", true)
  | 3 => ("LaneOrder", "keptSheet", "LLaneOrder$Sheet;", true)
  | 4 => ("LaneOrder", "keptSeen", "LLaneOrder$Seen;", true)
  | 5 => ("LaneOrder", "imageKept", "Z", false)
  | 6 => ("LaneOrder", "pagesRead", "I", false)
  | 7 => ("LaneOrder", "trial", "LLaneOrder$Reading;", true)
  | _ => ("LaneOrder", "draws", "LLaneOrder$Draws;", true)
def tyX7 : Nat → FieldType := fun k => match k with
  | 0 => .object "LaneOrder$Text"
  | 1 => .object "LaneOrder$Reading"
  | 2 => .object "LaneOrder$Seen"
  | 3 => .object "LaneOrder$Sheet"
  | 4 => .object "LaneOrder$Seen"
  | 5 => .boolean
  | 6 => .int
  | 7 => .object "LaneOrder$Reading"
  | _ => .object "LaneOrder$Draws"
theorem nmX7 : ∀ a, a < 9 → ∀ b, b < 9 → a ≠ b → (TX7 a).2.1 ≠ (TX7 b).2.1 := by decide +kernel
theorem tyX7_ok : ∀ k, k < 9 → parseFieldDescriptor (TX7 k).2.2.1 = some (tyX7 k) := by decide +kernel
abbrev cX7_init : ByteArray := prog_1_method_1_code
def yX7_init : MethodName := ⟨RX7, "<init>", "()V"⟩
abbrev cX7_letter : ByteArray := prog_1_method_2_code
def yX7_letter : MethodName := ⟨RX7, "letter", "(I)I"⟩
abbrev cX7_blank : ByteArray := prog_1_method_3_code
def yX7_blank : MethodName := ⟨RX7, "blank", "()I"⟩
abbrev cX7_fault : ByteArray := prog_1_method_4_code
def yX7_fault : MethodName := ⟨RX7, "fault", "()I"⟩
abbrev cX7_page : ByteArray := prog_1_method_5_code
def yX7_page : MethodName := ⟨RX7, "page", "()I"⟩
abbrev cX7_box : ByteArray := prog_1_method_6_code
def yX7_box : MethodName := ⟨RX7, "box", "(II)I"⟩
abbrev cX7_as : ByteArray := prog_1_method_7_code
def yX7_as : MethodName := ⟨RX7, "as", "(II)I"⟩
abbrev cX7_order : ByteArray := prog_1_method_8_code
def yX7_order : MethodName := ⟨RX7, "order", "(I)I"⟩
abbrev cX7_cut : ByteArray := prog_1_method_9_code
def yX7_cut : MethodName := ⟨RX7, "cut", "(II)I"⟩
abbrev cX7_lane : ByteArray := prog_1_method_10_code
def yX7_lane : MethodName := ⟨RX7, "lane", "(II)I"⟩
abbrev cX7_why : ByteArray := prog_1_method_11_code
def yX7_why : MethodName := ⟨RX7, "why", "(II)I"⟩
abbrev cX7_put : ByteArray := prog_1_method_12_code
def yX7_put : MethodName := ⟨RX7, "put", "(II)I"⟩
abbrev cX7_take : ByteArray := prog_1_method_13_code
def yX7_take : MethodName := ⟨RX7, "take", "(I)I"⟩
abbrev cX7_move : ByteArray := prog_1_method_14_code
def yX7_move : MethodName := ⟨RX7, "move", "(III)I"⟩
abbrev cX7_change : ByteArray := prog_1_method_15_code
def yX7_change : MethodName := ⟨RX7, "change", "(II)I"⟩
abbrev cX7_rules : ByteArray := prog_1_method_16_code
def yX7_rules : MethodName := ⟨RX7, "rules", "(I)I"⟩
abbrev cX7_scale : ByteArray := prog_1_method_17_code
def yX7_scale : MethodName := ⟨RX7, "scale", "(I)I"⟩
abbrev cX7_without : ByteArray := prog_1_method_18_code
def yX7_without : MethodName := ⟨RX7, "without", "(I)I"⟩
abbrev cX7_calm : ByteArray := prog_1_method_19_code
def yX7_calm : MethodName := ⟨RX7, "calm", "()I"⟩
abbrev cX7_idle : ByteArray := prog_1_method_20_code
def yX7_idle : MethodName := ⟨RX7, "idle", "()I"⟩
abbrev cX7_free : ByteArray := prog_1_method_21_code
def yX7_free : MethodName := ⟨RX7, "free", "()I"⟩
abbrev cX7_see : ByteArray := prog_1_method_22_code
def yX7_see : MethodName := ⟨RX7, "see", "(IIZ)I"⟩
abbrev cX7_forget : ByteArray := prog_1_method_23_code
def yX7_forget : MethodName := ⟨RX7, "forget", "()I"⟩
abbrev cX7_drawn : ByteArray := prog_1_method_24_code
def yX7_drawn : MethodName := ⟨RX7, "drawn", "(III)I"⟩
abbrev cX7_image : ByteArray := prog_1_method_25_code
def yX7_image : MethodName := ⟨RX7, "image", "()I"⟩
abbrev cX7_restore : ByteArray := prog_1_method_26_code
def yX7_restore : MethodName := ⟨RX7, "restore", "()I"⟩
abbrev cX7_count : ByteArray := prog_1_method_27_code
def yX7_count : MethodName := ⟨RX7, "count", "(I)I"⟩
abbrev cX7_digest : ByteArray := prog_1_method_28_code
def yX7_digest : MethodName := ⟨RX7, "digest", "()J"⟩
abbrev cX7_hasNoPage : ByteArray := prog_1_method_29_code
def yX7_hasNoPage : MethodName := ⟨RX7, "hasNoPage", "()Z"⟩
abbrev cX7_isKind : ByteArray := prog_1_method_30_code
def yX7_isKind : MethodName := ⟨RX7, "isKind", "(I)Z"⟩
abbrev cX7_isStep : ByteArray := prog_1_method_31_code
def yX7_isStep : MethodName := ⟨RX7, "isStep", "(I)Z"⟩
abbrev cX7_areRules : ByteArray := prog_1_method_32_code
def yX7_areRules : MethodName := ⟨RX7, "areRules", "(I)Z"⟩
def RX8 : String := "LaneOrderModel"
def TX8 : u_T := fun k => match k with
  | 0 => ("LaneOrderModel", "signs", "[I", true)
  | 1 => ("LaneOrderModel", "signMany", "I", false)
  | 2 => ("LaneOrderModel", "end", "I", false)
  | 3 => ("LaneOrderModel", "readRules", "I", false)
  | 4 => ("LaneOrderModel", "readMany", "I", false)
  | 5 => ("LaneOrderModel", "boxes", "I", false)
  | 6 => ("LaneOrderModel", "pagesRead", "I", false)
  | 7 => ("LaneOrderModel", "kinds", "[I", true)
  | 8 => ("LaneOrderModel", "sides", "[I", true)
  | 9 => ("LaneOrderModel", "rules", "[I", true)
  | 10 => ("LaneOrderModel", "ruleMany", "I", false)
  | 11 => ("LaneOrderModel", "bound", "[I", true)
  | 12 => ("LaneOrderModel", "laneLevel", "I", false)
  | 13 => ("LaneOrderModel", "laneAt", "I", false)
  | 14 => ("LaneOrderModel", "laneWidth", "I", false)
  | 15 => ("LaneOrderModel", "order", "[I", true)
  | 16 => ("LaneOrderModel", "orderMany", "I", false)
  | 17 => ("LaneOrderModel", "cuts", "[I", true)
  | 18 => ("LaneOrderModel", "cutMany", "I", false)
  | 19 => ("LaneOrderModel", "leafMany", "I", false)
  | 20 => ("LaneOrderModel", "leafOf", "[I", true)
  | 21 => ("LaneOrderModel", "deep", "[I", true)
  | 22 => ("LaneOrderModel", "parts", "[I", true)
  | 23 => ("LaneOrderModel", "partDeep", "[I", true)
  | 24 => ("LaneOrderModel", "orderThen", "[I", true)
  | 25 => ("LaneOrderModel", "rulesThen", "[I", true)
  | 26 => ("LaneOrderModel", "seenMany", "I", false)
  | 27 => ("LaneOrderModel", "sights", "[I", true)
  | 28 => ("LaneOrderModel", "seedNow", "I", false)
  | 29 => ("LaneOrderModel", "kindsThen", "[I", true)
  | 30 => ("LaneOrderModel", "sidesThen", "[I", true)
  | 31 => ("LaneOrderModel", "keptPage", "I", false)
  | 32 => ("LaneOrderModel", "keptBoxes", "I", false)
  | 33 => ("LaneOrderModel", "keptRuleMany", "I", false)
  | 34 => ("LaneOrderModel", "keptSeen", "I", false)
  | 35 => ("LaneOrderModel", "keptKinds", "[I", true)
  | 36 => ("LaneOrderModel", "keptSides", "[I", true)
  | 37 => ("LaneOrderModel", "keptRules", "[I", true)
  | 38 => ("LaneOrderModel", "keptSights", "[I", true)
  | _ => ("LaneOrderModel", "hash", "J", false)
def tyX8 : Nat → FieldType := fun k => match k with
  | 0 => .array .int
  | 1 => .int
  | 2 => .int
  | 3 => .int
  | 4 => .int
  | 5 => .int
  | 6 => .int
  | 7 => .array .int
  | 8 => .array .int
  | 9 => .array .int
  | 10 => .int
  | 11 => .array .int
  | 12 => .int
  | 13 => .int
  | 14 => .int
  | 15 => .array .int
  | 16 => .int
  | 17 => .array .int
  | 18 => .int
  | 19 => .int
  | 20 => .array .int
  | 21 => .array .int
  | 22 => .array .int
  | 23 => .array .int
  | 24 => .array .int
  | 25 => .array .int
  | 26 => .int
  | 27 => .array .int
  | 28 => .int
  | 29 => .array .int
  | 30 => .array .int
  | 31 => .int
  | 32 => .int
  | 33 => .int
  | 34 => .int
  | 35 => .array .int
  | 36 => .array .int
  | 37 => .array .int
  | 38 => .array .int
  | _ => .long
theorem nmX8 : ∀ a, a < 40 → ∀ b, b < 40 → a ≠ b → (TX8 a).2.1 ≠ (TX8 b).2.1 := by decide +kernel
theorem tyX8_ok : ∀ k, k < 40 → parseFieldDescriptor (TX8 k).2.2.1 = some (tyX8 k) := by decide +kernel
abbrev cX8_init : ByteArray := prog_10_method_1_code
def yX8_init : MethodName := ⟨RX8, "<init>", "()V"⟩
abbrev cX8_in : ByteArray := prog_10_method_2_code
def yX8_in : MethodName := ⟨RX8, "in", "(JJJ)Z"⟩
abbrev cX8_has : ByteArray := prog_10_method_3_code
def yX8_has : MethodName := ⟨RX8, "has", "(II)Z"⟩
abbrev cX8_ones : ByteArray := prog_10_method_4_code
def yX8_ones : MethodName := ⟨RX8, "ones", "(I)I"⟩
abbrev cX8_copy : ByteArray := prog_10_method_5_code
def yX8_copy : MethodName := ⟨RX8, "copy", "([I[I)V"⟩
abbrev cX8_letter : ByteArray := prog_10_method_6_code
def yX8_letter : MethodName := ⟨RX8, "letter", "(I)I"⟩
abbrev cX8_blank : ByteArray := prog_10_method_7_code
def yX8_blank : MethodName := ⟨RX8, "blank", "()I"⟩
abbrev cX8_kindBy : ByteArray := prog_10_method_8_code
def yX8_kindBy : MethodName := ⟨RX8, "kindBy", "(I)I"⟩
abbrev cX8_isBoxSign : ByteArray := prog_10_method_9_code
def yX8_isBoxSign : MethodName := ⟨RX8, "isBoxSign", "(I)Z"⟩
abbrev cX8_isRuleSign : ByteArray := prog_10_method_10_code
def yX8_isRuleSign : MethodName := ⟨RX8, "isRuleSign", "(I)Z"⟩
abbrev cX8_faultOf : ByteArray := prog_10_method_11_code
def yX8_faultOf : MethodName := ⟨RX8, "faultOf", "()I"⟩
abbrev cX8_fault : ByteArray := prog_10_method_12_code
def yX8_fault : MethodName := ⟨RX8, "fault", "()I"⟩
abbrev cX8_page : ByteArray := prog_10_method_13_code
def yX8_page : MethodName := ⟨RX8, "page", "()I"⟩
abbrev cX8_lacks : ByteArray := prog_10_method_14_code
def yX8_lacks : MethodName := ⟨RX8, "lacks", "()Z"⟩
abbrev cX8_isBox : ByteArray := prog_10_method_15_code
def yX8_isBox : MethodName := ⟨RX8, "isBox", "(I)Z"⟩
abbrev cX8_gap : ByteArray := prog_10_method_16_code
def yX8_gap : MethodName := ⟨RX8, "gap", "(IIII)I"⟩
abbrev cX8_apart : ByteArray := prog_10_method_17_code
def yX8_apart : MethodName := ⟨RX8, "apart", "(II)I"⟩
abbrev cX8_layBound : ByteArray := prog_10_method_18_code
def yX8_layBound : MethodName := ⟨RX8, "layBound", "(I)I"⟩
abbrev cX8_isLane : ByteArray := prog_10_method_19_code
def yX8_isLane : MethodName := ⟨RX8, "isLane", "(IIII)Z"⟩
abbrev cX8_tryLane : ByteArray := prog_10_method_20_code
def yX8_tryLane : MethodName := ⟨RX8, "tryLane", "(IIII)V"⟩
abbrev cX8_layLane : ByteArray := prog_10_method_21_code
def yX8_layLane : MethodName := ⟨RX8, "layLane", "(I)V"⟩
abbrev cX8_firstSide : ByteArray := prog_10_method_22_code
def yX8_firstSide : MethodName := ⟨RX8, "firstSide", "(I)I"⟩
abbrev cX8_isSort : ByteArray := prog_10_method_23_code
def yX8_isSort : MethodName := ⟨RX8, "isSort", "(II)Z"⟩
abbrev cX8_byRule : ByteArray := prog_10_method_24_code
def yX8_byRule : MethodName := ⟨RX8, "byRule", "(III)I"⟩
abbrev cX8_ruleOf : ByteArray := prog_10_method_25_code
def yX8_ruleOf : MethodName := ⟨RX8, "ruleOf", "(II)I"⟩
abbrev cX8_isAhead : ByteArray := prog_10_method_26_code
def yX8_isAhead : MethodName := ⟨RX8, "isAhead", "(II)Z"⟩
abbrev cX8_append : ByteArray := prog_10_method_27_code
def yX8_append : MethodName := ⟨RX8, "append", "(I)V"⟩
abbrev cX8_layLeaf : ByteArray := prog_10_method_28_code
def yX8_layLeaf : MethodName := ⟨RX8, "layLeaf", "(II)V"⟩
abbrev cX8_layOrder : ByteArray := prog_10_method_29_code
def yX8_layOrder : MethodName := ⟨RX8, "layOrder", "(I)V"⟩
abbrev cX8_layAll : ByteArray := prog_10_method_30_code
def yX8_layAll : MethodName := ⟨RX8, "layAll", "()V"⟩
abbrev cX8_placeOf : ByteArray := prog_10_method_31_code
def yX8_placeOf : MethodName := ⟨RX8, "placeOf", "(I)I"⟩
abbrev cX8_tellBox : ByteArray := prog_10_method_32_code
def yX8_tellBox : MethodName := ⟨RX8, "tellBox", "(II)I"⟩
abbrev cX8_box : ByteArray := prog_10_method_33_code
def yX8_box : MethodName := ⟨RX8, "box", "(II)I"⟩
abbrev cX8_as : ByteArray := prog_10_method_34_code
def yX8_as : MethodName := ⟨RX8, "as", "(II)I"⟩
abbrev cX8_order : ByteArray := prog_10_method_35_code
def yX8_order : MethodName := ⟨RX8, "order", "(I)I"⟩
abbrev cX8_cut : ByteArray := prog_10_method_36_code
def yX8_cut : MethodName := ⟨RX8, "cut", "(II)I"⟩
abbrev cX8_why : ByteArray := prog_10_method_37_code
def yX8_why : MethodName := ⟨RX8, "why", "(II)I"⟩
abbrev cX8_rankOf : ByteArray := prog_10_method_38_code
def yX8_rankOf : MethodName := ⟨RX8, "rankOf", "(III)I"⟩
abbrev cX8_nextLane : ByteArray := prog_10_method_39_code
def yX8_nextLane : MethodName := ⟨RX8, "nextLane", "(II)I"⟩
abbrev cX8_laneOf : ByteArray := prog_10_method_40_code
def yX8_laneOf : MethodName := ⟨RX8, "laneOf", "(I)I"⟩
abbrev cX8_lane : ByteArray := prog_10_method_41_code
def yX8_lane : MethodName := ⟨RX8, "lane", "(II)I"⟩
abbrev cX8_put : ByteArray := prog_10_method_42_code
def yX8_put : MethodName := ⟨RX8, "put", "(II)I"⟩
abbrev cX8_take : ByteArray := prog_10_method_43_code
def yX8_take : MethodName := ⟨RX8, "take", "(I)I"⟩
abbrev cX8_shift : ByteArray := prog_10_method_44_code
def yX8_shift : MethodName := ⟨RX8, "shift", "(III)V"⟩
abbrev cX8_move : ByteArray := prog_10_method_45_code
def yX8_move : MethodName := ⟨RX8, "move", "(III)I"⟩
abbrev cX8_change : ByteArray := prog_10_method_46_code
def yX8_change : MethodName := ⟨RX8, "change", "(II)I"⟩
abbrev cX8_isRules : ByteArray := prog_10_method_47_code
def yX8_isRules : MethodName := ⟨RX8, "isRules", "(I)Z"⟩
abbrev cX8_rules : ByteArray := prog_10_method_48_code
def yX8_rules : MethodName := ⟨RX8, "rules", "(I)I"⟩
abbrev cX8_greatest : ByteArray := prog_10_method_49_code
def yX8_greatest : MethodName := ⟨RX8, "greatest", "()I"⟩
abbrev cX8_scale : ByteArray := prog_10_method_50_code
def yX8_scale : MethodName := ⟨RX8, "scale", "(I)I"⟩
abbrev cX8_keepOrder : ByteArray := prog_10_method_51_code
def yX8_keepOrder : MethodName := ⟨RX8, "keepOrder", "()V"⟩
abbrev cX8_isSameOrder : ByteArray := prog_10_method_52_code
def yX8_isSameOrder : MethodName := ⟨RX8, "isSameOrder", "()Z"⟩
abbrev cX8_without : ByteArray := prog_10_method_53_code
def yX8_without : MethodName := ⟨RX8, "without", "(I)I"⟩
abbrev cX8_calm : ByteArray := prog_10_method_54_code
def yX8_calm : MethodName := ⟨RX8, "calm", "()I"⟩
abbrev cX8_idleOf : ByteArray := prog_10_method_55_code
def yX8_idleOf : MethodName := ⟨RX8, "idleOf", "()I"⟩
abbrev cX8_idle : ByteArray := prog_10_method_56_code
def yX8_idle : MethodName := ⟨RX8, "idle", "()I"⟩
abbrev cX8_freeOf : ByteArray := prog_10_method_57_code
def yX8_freeOf : MethodName := ⟨RX8, "freeOf", "()I"⟩
abbrev cX8_free : ByteArray := prog_10_method_58_code
def yX8_free : MethodName := ⟨RX8, "free", "()I"⟩
abbrev cX8_see : ByteArray := prog_10_method_59_code
def yX8_see : MethodName := ⟨RX8, "see", "(IIZ)I"⟩
abbrev cX8_forget : ByteArray := prog_10_method_60_code
def yX8_forget : MethodName := ⟨RX8, "forget", "()I"⟩
abbrev cX8_sortsBy : ByteArray := prog_10_method_61_code
def yX8_sortsBy : MethodName := ⟨RX8, "sortsBy", "(I)I"⟩
abbrev cX8_sortsOf : ByteArray := prog_10_method_62_code
def yX8_sortsOf : MethodName := ⟨RX8, "sortsOf", "(I)I"⟩
abbrev cX8_askOf : ByteArray := prog_10_method_63_code
def yX8_askOf : MethodName := ⟨RX8, "askOf", "(I)I"⟩
abbrev cX8_draw : ByteArray := prog_10_method_64_code
def yX8_draw : MethodName := ⟨RX8, "draw", "(I)I"⟩
abbrev cX8_drawBox : ByteArray := prog_10_method_65_code
def yX8_drawBox : MethodName := ⟨RX8, "drawBox", "(I)V"⟩
abbrev cX8_drawn : ByteArray := prog_10_method_66_code
def yX8_drawn : MethodName := ⟨RX8, "drawn", "(III)I"⟩
abbrev cX8_image : ByteArray := prog_10_method_67_code
def yX8_image : MethodName := ⟨RX8, "image", "()I"⟩
abbrev cX8_restore : ByteArray := prog_10_method_68_code
def yX8_restore : MethodName := ⟨RX8, "restore", "()I"⟩
abbrev cX8_boundMany : ByteArray := prog_10_method_69_code
def yX8_boundMany : MethodName := ⟨RX8, "boundMany", "()I"⟩
abbrev cX8_countOf : ByteArray := prog_10_method_70_code
def yX8_countOf : MethodName := ⟨RX8, "countOf", "(I)I"⟩
abbrev cX8_count : ByteArray := prog_10_method_71_code
def yX8_count : MethodName := ⟨RX8, "count", "(I)I"⟩
abbrev cX8_say : ByteArray := prog_10_method_72_code
def yX8_say : MethodName := ⟨RX8, "say", "(J)V"⟩
abbrev cX8_sayPage : ByteArray := prog_10_method_73_code
def yX8_sayPage : MethodName := ⟨RX8, "sayPage", "()V"⟩
abbrev cX8_digest : ByteArray := prog_10_method_74_code
def yX8_digest : MethodName := ⟨RX8, "digest", "()J"⟩
def RJ11 : String := "java/lang/Character"
abbrev cJ11_isValidCodePoint_9a6ad : ByteArray := prog_11_method_11_code
def yJ11_isValidCodePoint_9a6ad : MethodName := ⟨RJ11, "isValidCodePoint", "(I)Z"⟩
abbrev cJ11_highSurrogate_5068e : ByteArray := prog_11_method_28_code
def yJ11_highSurrogate_5068e : MethodName := ⟨RJ11, "highSurrogate", "(I)C"⟩
abbrev cJ11_lowSurrogate_5068e : ByteArray := prog_11_method_29_code
def yJ11_lowSurrogate_5068e : MethodName := ⟨RJ11, "lowSurrogate", "(I)C"⟩
def RJ6 : String := "java/lang/Integer"
abbrev cJ6_bitCount_0f7a4 : ByteArray := prog_12_method_49_code
def yJ6_bitCount_0f7a4 : MethodName := ⟨RJ6, "bitCount", "(I)I"⟩
def RJ9 : String := "java/lang/Math"
abbrev cJ9_max_7cf53 : ByteArray := prog_13_method_65_code
def yJ9_max_7cf53 : MethodName := ⟨RJ9, "max", "(II)I"⟩
abbrev cJ9_min_7cf53 : ByteArray := prog_13_method_69_code
def yJ9_min_7cf53 : MethodName := ⟨RJ9, "min", "(II)I"⟩
def RJ0 : String := "java/lang/String"
abbrev cJ0_length_8abf5 : ByteArray := prog_14_method_54_code
def yJ0_length_8abf5 : MethodName := ⟨RJ0, "length", "()I"⟩
abbrev cJ0_indexOf_0f7a4 : ByteArray := prog_14_method_79_code
def yJ0_indexOf_0f7a4 : MethodName := ⟨RJ0, "indexOf", "(I)I"⟩
abbrev cJ0_indexOf_7cf53 : ByteArray := prog_14_method_80_code
def yJ0_indexOf_7cf53 : MethodName := ⟨RJ0, "indexOf", "(II)I"⟩
abbrev cJ0_coder_7d493 : ByteArray := prog_14_method_152_code
def yJ0_coder_7d493 : MethodName := ⟨RJ0, "coder", "()B"⟩
abbrev cJ0_isLatin1_aae02 : ByteArray := prog_14_method_154_code
def yJ0_isLatin1_aae02 : MethodName := ⟨RJ0, "isLatin1", "()Z"⟩
abbrev cJ0_checkBoundsBeginEnd_23922 : ByteArray := prog_14_method_158_code
def yJ0_checkBoundsBeginEnd_23922 : MethodName := ⟨RJ0, "checkBoundsBeginEnd", "(III)V"⟩
def RJ1 : String := "java/lang/StringLatin1"
abbrev cJ1_canEncode_9a6ad : ByteArray := prog_15_method_4_code
def yJ1_canEncode_9a6ad : MethodName := ⟨RJ1, "canEncode", "(I)Z"⟩
abbrev cJ1_indexOf_4cfef : ByteArray := prog_15_method_22_code
def yJ1_indexOf_4cfef : MethodName := ⟨RJ1, "indexOf", "([BIII)I"⟩
abbrev cJ1_indexOfChar_4cfef : ByteArray := prog_15_method_23_code
def yJ1_indexOfChar_4cfef : MethodName := ⟨RJ1, "indexOfChar", "([BIII)I"⟩
def RJ2 : String := "java/lang/StringUTF16"
abbrev cJ2_getChar_3b067 : ByteArray := prog_16_method_5_code
def yJ2_getChar_3b067 : MethodName := ⟨RJ2, "getChar", "([BI)C"⟩
abbrev cJ2_length_9d52b : ByteArray := prog_16_method_6_code
def yJ2_length_9d52b : MethodName := ⟨RJ2, "length", "([B)I"⟩
abbrev cJ2_indexOf_4cfef : ByteArray := prog_16_method_40_code
def yJ2_indexOf_4cfef : MethodName := ⟨RJ2, "indexOf", "([BIII)I"⟩
abbrev cJ2_indexOfChar_4cfef : ByteArray := prog_16_method_47_code
def yJ2_indexOfChar_4cfef : MethodName := ⟨RJ2, "indexOfChar", "([BIII)I"⟩
abbrev cJ2_indexOfCharUnsafe_4cfef : ByteArray := prog_16_method_48_code
def yJ2_indexOfCharUnsafe_4cfef : MethodName := ⟨RJ2, "indexOfCharUnsafe", "([BIII)I"⟩
abbrev cJ2_indexOfSupplementary_4cfef : ByteArray := prog_16_method_49_code
def yJ2_indexOfSupplementary_4cfef : MethodName := ⟨RJ2, "indexOfSupplementary", "([BIII)I"⟩
abbrev cJ2_checkBoundsBeginEnd_d044e : ByteArray := prog_16_method_93_code
def yJ2_checkBoundsBeginEnd_d044e : MethodName := ⟨RJ2, "checkBoundsBeginEnd", "(II[B)V"⟩
def RJ10 : String := "java/lang/System"
def RJ3 : String := "jdk/internal/util/Preconditions"
abbrev cJ3_checkFromToIndex_8c36e : ByteArray := prog_18_method_12_code
def yJ3_checkFromToIndex_8c36e : MethodName := ⟨RJ3, "checkFromToIndex", "(IIILjava/util/function/BiFunction;)I"⟩
def RL : String := "LaneOrderLaw"
abbrev cL_law : ByteArray := code
def yL_law : MethodName := ⟨RL, "law", "([I)Z"⟩
abbrev vwCl : List vw_C := [(RX0, TX0, 6), (RX1, TX1, 1), (RX2, TX2, 4), (RX3, TX3, 13), (RX4, TX4, 3), (RX5, TX5, 8), (RX6, TX6, 2), (RX7, TX7, 9), (RX8, TX8, 40)]
