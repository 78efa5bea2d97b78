section
-- ===== PART A: goes FIRST, ahead of the names: the tables' words, and 'selects' of the private methods out of them =====
/-- a private method of a class that the tables say can be made, by its rows of tables_1 -/
def lw_okq (q : MethodName × Nat) : Prop := (q.1.cls ≠ "java/lang/invoke/MethodHandle" ∧ q.1.cls ≠ "java/lang/invoke/VarHandle") ∧ Cond.instantiable q.1.cls q.2 ∈ tables_1 ∧ Cond.privateMethod q.1 ∈ tables_1 ∧ Cond.instanceMethod q.1 ∈ tables_1
theorem lw_p0 : lw_okq (⟨"LaneOrder$Text", "fitsBoxes", "(I)Z"⟩, 2) := ⟨⟨by decide +kernel, by decide +kernel⟩, List.mem_of_getElem? (i := 27) (by decide +kernel), List.mem_of_getElem? (i := 284) (by decide +kernel), List.mem_of_getElem? (i := 285) (by decide +kernel)⟩
theorem lw_p1 : lw_okq (⟨"LaneOrder$Text", "fitsRules", "(II)Z"⟩, 2) := ⟨⟨by decide +kernel, by decide +kernel⟩, List.mem_of_getElem? (i := 27) (by decide +kernel), List.mem_of_getElem? (i := 378) (by decide +kernel), List.mem_of_getElem? (i := 379) (by decide +kernel)⟩
theorem lw_p2 : lw_okq (⟨"LaneOrder$Text", "rulesPlace", "()I"⟩, 2) := ⟨⟨by decide +kernel, by decide +kernel⟩, List.mem_of_getElem? (i := 27) (by decide +kernel), List.mem_of_getElem? (i := 391) (by decide +kernel), List.mem_of_getElem? (i := 392) (by decide +kernel)⟩
theorem lw_p3 : lw_okq (⟨"LaneOrder$Text", "digitAt", "(I)I"⟩, 2) := ⟨⟨by decide +kernel, by decide +kernel⟩, List.mem_of_getElem? (i := 27) (by decide +kernel), List.mem_of_getElem? (i := 404) (by decide +kernel), List.mem_of_getElem? (i := 405) (by decide +kernel)⟩
theorem lw_p4 : lw_okq (⟨"LaneOrder$Reading", "nearestFigure", "(I)I"⟩, 13) := ⟨⟨by decide +kernel, by decide +kernel⟩, List.mem_of_getElem? (i := 43) (by decide +kernel), List.mem_of_getElem? (i := 425) (by decide +kernel), List.mem_of_getElem? (i := 426) (by decide +kernel)⟩
theorem lw_p5 : lw_okq (⟨"LaneOrder$Reading", "readPart", "(III)V"⟩, 13) := ⟨⟨by decide +kernel, by decide +kernel⟩, List.mem_of_getElem? (i := 43) (by decide +kernel), List.mem_of_getElem? (i := 437) (by decide +kernel), List.mem_of_getElem? (i := 438) (by decide +kernel)⟩
theorem lw_p6 : lw_okq (⟨"LaneOrder$Reading", "gatherLanesOf", "(I[I[III)V"⟩, 13) := ⟨⟨by decide +kernel, by decide +kernel⟩, List.mem_of_getElem? (i := 43) (by decide +kernel), List.mem_of_getElem? (i := 449) (by decide +kernel), List.mem_of_getElem? (i := 450) (by decide +kernel)⟩
theorem lw_p7 : lw_okq (⟨"LaneOrder$Reading", "nextBegin", "([I[IIII)I"⟩, 13) := ⟨⟨by decide +kernel, by decide +kernel⟩, List.mem_of_getElem? (i := 43) (by decide +kernel), List.mem_of_getElem? (i := 453) (by decide +kernel), List.mem_of_getElem? (i := 454) (by decide +kernel)⟩
theorem lw_p8 : lw_okq (⟨"LaneOrder$Lanes", "isBehind", "(IIII)Z"⟩, 4) := ⟨⟨by decide +kernel, by decide +kernel⟩, List.mem_of_getElem? (i := 125) (by decide +kernel), List.mem_of_getElem? (i := 465) (by decide +kernel), List.mem_of_getElem? (i := 466) (by decide +kernel)⟩
theorem lw_p9 : lw_okq (⟨"LaneOrder$Reading", "readLeaf", "(III)V"⟩, 13) := ⟨⟨by decide +kernel, by decide +kernel⟩, List.mem_of_getElem? (i := 43) (by decide +kernel), List.mem_of_getElem? (i := 469) (by decide +kernel), List.mem_of_getElem? (i := 470) (by decide +kernel)⟩
theorem lw_p10 : lw_okq (⟨"LaneOrder$Reading", "divide", "(II)I"⟩, 13) := ⟨⟨by decide +kernel, by decide +kernel⟩, List.mem_of_getElem? (i := 43) (by decide +kernel), List.mem_of_getElem? (i := 485) (by decide +kernel), List.mem_of_getElem? (i := 486) (by decide +kernel)⟩
theorem lw_p11 : lw_okq (⟨"LaneOrder$Reading", "putInOrder", "()V"⟩, 13) := ⟨⟨by decide +kernel, by decide +kernel⟩, List.mem_of_getElem? (i := 43) (by decide +kernel), List.mem_of_getElem? (i := 496) (by decide +kernel), List.mem_of_getElem? (i := 497) (by decide +kernel)⟩
theorem lw_p12 : lw_okq (⟨"LaneOrder$Reading", "putNext", "(I)V"⟩, 13) := ⟨⟨by decide +kernel, by decide +kernel⟩, List.mem_of_getElem? (i := 43) (by decide +kernel), List.mem_of_getElem? (i := 500) (by decide +kernel), List.mem_of_getElem? (i := 501) (by decide +kernel)⟩
theorem lw_p13 : lw_okq (⟨"LaneOrder", "hasNoPage", "()Z"⟩, 9) := ⟨⟨by decide +kernel, by decide +kernel⟩, List.mem_of_getElem? (i := 19) (by decide +kernel), List.mem_of_getElem? (i := 572) (by decide +kernel), List.mem_of_getElem? (i := 573) (by decide +kernel)⟩
theorem lw_p14 : lw_okq (⟨"LaneOrder$Draws", "ofEight", "()I"⟩, 1) := ⟨⟨by decide +kernel, by decide +kernel⟩, List.mem_of_getElem? (i := 221) (by decide +kernel), List.mem_of_getElem? (i := 689) (by decide +kernel), List.mem_of_getElem? (i := 690) (by decide +kernel)⟩
theorem lw_p15 : lw_okq (⟨"LaneOrder$Draws", "step", "()V"⟩, 1) := ⟨⟨by decide +kernel, by decide +kernel⟩, List.mem_of_getElem? (i := 221) (by decide +kernel), List.mem_of_getElem? (i := 693) (by decide +kernel), List.mem_of_getElem? (i := 694) (by decide +kernel)⟩
def lw_privs_1 : List (MethodName × Nat) := [(⟨"LaneOrder$Text", "fitsBoxes", "(I)Z"⟩, 2), (⟨"LaneOrder$Text", "fitsRules", "(II)Z"⟩, 2), (⟨"LaneOrder$Text", "rulesPlace", "()I"⟩, 2), (⟨"LaneOrder$Text", "digitAt", "(I)I"⟩, 2), (⟨"LaneOrder$Reading", "nearestFigure", "(I)I"⟩, 13), (⟨"LaneOrder$Reading", "readPart", "(III)V"⟩, 13), (⟨"LaneOrder$Reading", "gatherLanesOf", "(I[I[III)V"⟩, 13), (⟨"LaneOrder$Reading", "nextBegin", "([I[IIII)I"⟩, 13), (⟨"LaneOrder$Lanes", "isBehind", "(IIII)Z"⟩, 4), (⟨"LaneOrder$Reading", "readLeaf", "(III)V"⟩, 13), (⟨"LaneOrder$Reading", "divide", "(II)I"⟩, 13), (⟨"LaneOrder$Reading", "putInOrder", "()V"⟩, 13), (⟨"LaneOrder$Reading", "putNext", "(I)V"⟩, 13), (⟨"LaneOrder", "hasNoPage", "()Z"⟩, 9), (⟨"LaneOrder$Draws", "ofEight", "()I"⟩, 1), (⟨"LaneOrder$Draws", "step", "()V"⟩, 1)]
theorem lw_r1 : ∀ q ∈ lw_privs_1, lw_okq q := List.forall_mem_cons.mpr ⟨lw_p0, List.forall_mem_cons.mpr ⟨lw_p1, List.forall_mem_cons.mpr ⟨lw_p2, List.forall_mem_cons.mpr ⟨lw_p3, List.forall_mem_cons.mpr ⟨lw_p4, List.forall_mem_cons.mpr ⟨lw_p5, List.forall_mem_cons.mpr ⟨lw_p6, List.forall_mem_cons.mpr ⟨lw_p7, List.forall_mem_cons.mpr ⟨lw_p8, List.forall_mem_cons.mpr ⟨lw_p9, List.forall_mem_cons.mpr ⟨lw_p10, List.forall_mem_cons.mpr ⟨lw_p11, List.forall_mem_cons.mpr ⟨lw_p12, List.forall_mem_cons.mpr ⟨lw_p13, List.forall_mem_cons.mpr ⟨lw_p14, List.forall_mem_cons.mpr ⟨lw_p15, fun _ h => absurd h List.not_mem_nil⟩⟩⟩⟩⟩⟩⟩⟩⟩⟩⟩⟩⟩⟩⟩⟩
theorem lw_p16 : lw_okq (⟨"LaneOrder$Draws", "ofThree", "()I"⟩, 1) := ⟨⟨by decide +kernel, by decide +kernel⟩, List.mem_of_getElem? (i := 221) (by decide +kernel), List.mem_of_getElem? (i := 700) (by decide +kernel), List.mem_of_getElem? (i := 701) (by decide +kernel)⟩
theorem lw_p17 : lw_okq (⟨"LaneOrderModel", "faultOf", "()I"⟩, 40) := ⟨⟨by decide +kernel, by decide +kernel⟩, List.mem_of_getElem? (i := 739) (by decide +kernel), List.mem_of_getElem? (i := 882) (by decide +kernel), List.mem_of_getElem? (i := 883) (by decide +kernel)⟩
theorem lw_p18 : lw_okq (⟨"LaneOrderModel", "isBoxSign", "(I)Z"⟩, 40) := ⟨⟨by decide +kernel, by decide +kernel⟩, List.mem_of_getElem? (i := 739) (by decide +kernel), List.mem_of_getElem? (i := 886) (by decide +kernel), List.mem_of_getElem? (i := 887) (by decide +kernel)⟩
theorem lw_p19 : lw_okq (⟨"LaneOrderModel", "isRuleSign", "(I)Z"⟩, 40) := ⟨⟨by decide +kernel, by decide +kernel⟩, List.mem_of_getElem? (i := 739) (by decide +kernel), List.mem_of_getElem? (i := 896) (by decide +kernel), List.mem_of_getElem? (i := 897) (by decide +kernel)⟩
theorem lw_p20 : lw_okq (⟨"LaneOrderModel", "isBox", "(I)Z"⟩, 40) := ⟨⟨by decide +kernel, by decide +kernel⟩, List.mem_of_getElem? (i := 739) (by decide +kernel), List.mem_of_getElem? (i := 912) (by decide +kernel), List.mem_of_getElem? (i := 913) (by decide +kernel)⟩
theorem lw_p21 : lw_okq (⟨"LaneOrderModel", "tellBox", "(II)I"⟩, 40) := ⟨⟨by decide +kernel, by decide +kernel⟩, List.mem_of_getElem? (i := 739) (by decide +kernel), List.mem_of_getElem? (i := 916) (by decide +kernel), List.mem_of_getElem? (i := 917) (by decide +kernel)⟩
theorem lw_p22 : lw_okq (⟨"LaneOrderModel", "layAll", "()V"⟩, 40) := ⟨⟨by decide +kernel, by decide +kernel⟩, List.mem_of_getElem? (i := 739) (by decide +kernel), List.mem_of_getElem? (i := 920) (by decide +kernel), List.mem_of_getElem? (i := 921) (by decide +kernel)⟩
theorem lw_p23 : lw_okq (⟨"LaneOrderModel", "layOrder", "(I)V"⟩, 40) := ⟨⟨by decide +kernel, by decide +kernel⟩, List.mem_of_getElem? (i := 739) (by decide +kernel), List.mem_of_getElem? (i := 924) (by decide +kernel), List.mem_of_getElem? (i := 925) (by decide +kernel)⟩
theorem lw_p24 : lw_okq (⟨"LaneOrderModel", "layBound", "(I)I"⟩, 40) := ⟨⟨by decide +kernel, by decide +kernel⟩, List.mem_of_getElem? (i := 739) (by decide +kernel), List.mem_of_getElem? (i := 928) (by decide +kernel), List.mem_of_getElem? (i := 929) (by decide +kernel)⟩
theorem lw_p25 : lw_okq (⟨"LaneOrderModel", "apart", "(II)I"⟩, 40) := ⟨⟨by decide +kernel, by decide +kernel⟩, List.mem_of_getElem? (i := 739) (by decide +kernel), List.mem_of_getElem? (i := 932) (by decide +kernel), List.mem_of_getElem? (i := 933) (by decide +kernel)⟩
theorem lw_p26 : lw_okq (⟨"LaneOrderModel", "layLane", "(I)V"⟩, 40) := ⟨⟨by decide +kernel, by decide +kernel⟩, List.mem_of_getElem? (i := 739) (by decide +kernel), List.mem_of_getElem? (i := 939) (by decide +kernel), List.mem_of_getElem? (i := 940) (by decide +kernel)⟩
theorem lw_p27 : lw_okq (⟨"LaneOrderModel", "tryLane", "(IIII)V"⟩, 40) := ⟨⟨by decide +kernel, by decide +kernel⟩, List.mem_of_getElem? (i := 739) (by decide +kernel), List.mem_of_getElem? (i := 943) (by decide +kernel), List.mem_of_getElem? (i := 944) (by decide +kernel)⟩
theorem lw_p28 : lw_okq (⟨"LaneOrderModel", "isLane", "(IIII)Z"⟩, 40) := ⟨⟨by decide +kernel, by decide +kernel⟩, List.mem_of_getElem? (i := 739) (by decide +kernel), List.mem_of_getElem? (i := 947) (by decide +kernel), List.mem_of_getElem? (i := 948) (by decide +kernel)⟩
theorem lw_p29 : lw_okq (⟨"LaneOrderModel", "layLeaf", "(II)V"⟩, 40) := ⟨⟨by decide +kernel, by decide +kernel⟩, List.mem_of_getElem? (i := 739) (by decide +kernel), List.mem_of_getElem? (i := 951) (by decide +kernel), List.mem_of_getElem? (i := 952) (by decide +kernel)⟩
theorem lw_p30 : lw_okq (⟨"LaneOrderModel", "isAhead", "(II)Z"⟩, 40) := ⟨⟨by decide +kernel, by decide +kernel⟩, List.mem_of_getElem? (i := 739) (by decide +kernel), List.mem_of_getElem? (i := 955) (by decide +kernel), List.mem_of_getElem? (i := 956) (by decide +kernel)⟩
theorem lw_p31 : lw_okq (⟨"LaneOrderModel", "ruleOf", "(II)I"⟩, 40) := ⟨⟨by decide +kernel, by decide +kernel⟩, List.mem_of_getElem? (i := 739) (by decide +kernel), List.mem_of_getElem? (i := 959) (by decide +kernel), List.mem_of_getElem? (i := 960) (by decide +kernel)⟩
def lw_privs_2 : List (MethodName × Nat) := [(⟨"LaneOrder$Draws", "ofThree", "()I"⟩, 1), (⟨"LaneOrderModel", "faultOf", "()I"⟩, 40), (⟨"LaneOrderModel", "isBoxSign", "(I)Z"⟩, 40), (⟨"LaneOrderModel", "isRuleSign", "(I)Z"⟩, 40), (⟨"LaneOrderModel", "isBox", "(I)Z"⟩, 40), (⟨"LaneOrderModel", "tellBox", "(II)I"⟩, 40), (⟨"LaneOrderModel", "layAll", "()V"⟩, 40), (⟨"LaneOrderModel", "layOrder", "(I)V"⟩, 40), (⟨"LaneOrderModel", "layBound", "(I)I"⟩, 40), (⟨"LaneOrderModel", "apart", "(II)I"⟩, 40), (⟨"LaneOrderModel", "layLane", "(I)V"⟩, 40), (⟨"LaneOrderModel", "tryLane", "(IIII)V"⟩, 40), (⟨"LaneOrderModel", "isLane", "(IIII)Z"⟩, 40), (⟨"LaneOrderModel", "layLeaf", "(II)V"⟩, 40), (⟨"LaneOrderModel", "isAhead", "(II)Z"⟩, 40), (⟨"LaneOrderModel", "ruleOf", "(II)I"⟩, 40)]
theorem lw_r2 : ∀ q ∈ lw_privs_2, lw_okq q := List.forall_mem_cons.mpr ⟨lw_p16, List.forall_mem_cons.mpr ⟨lw_p17, List.forall_mem_cons.mpr ⟨lw_p18, List.forall_mem_cons.mpr ⟨lw_p19, List.forall_mem_cons.mpr ⟨lw_p20, List.forall_mem_cons.mpr ⟨lw_p21, List.forall_mem_cons.mpr ⟨lw_p22, List.forall_mem_cons.mpr ⟨lw_p23, List.forall_mem_cons.mpr ⟨lw_p24, List.forall_mem_cons.mpr ⟨lw_p25, List.forall_mem_cons.mpr ⟨lw_p26, List.forall_mem_cons.mpr ⟨lw_p27, List.forall_mem_cons.mpr ⟨lw_p28, List.forall_mem_cons.mpr ⟨lw_p29, List.forall_mem_cons.mpr ⟨lw_p30, List.forall_mem_cons.mpr ⟨lw_p31, fun _ h => absurd h List.not_mem_nil⟩⟩⟩⟩⟩⟩⟩⟩⟩⟩⟩⟩⟩⟩⟩⟩
theorem lw_p32 : lw_okq (⟨"LaneOrderModel", "byRule", "(III)I"⟩, 40) := ⟨⟨by decide +kernel, by decide +kernel⟩, List.mem_of_getElem? (i := 739) (by decide +kernel), List.mem_of_getElem? (i := 963) (by decide +kernel), List.mem_of_getElem? (i := 964) (by decide +kernel)⟩
theorem lw_p33 : lw_okq (⟨"LaneOrderModel", "isSort", "(II)Z"⟩, 40) := ⟨⟨by decide +kernel, by decide +kernel⟩, List.mem_of_getElem? (i := 739) (by decide +kernel), List.mem_of_getElem? (i := 967) (by decide +kernel), List.mem_of_getElem? (i := 968) (by decide +kernel)⟩
theorem lw_p34 : lw_okq (⟨"LaneOrderModel", "append", "(I)V"⟩, 40) := ⟨⟨by decide +kernel, by decide +kernel⟩, List.mem_of_getElem? (i := 739) (by decide +kernel), List.mem_of_getElem? (i := 971) (by decide +kernel), List.mem_of_getElem? (i := 972) (by decide +kernel)⟩
theorem lw_p35 : lw_okq (⟨"LaneOrderModel", "firstSide", "(I)I"⟩, 40) := ⟨⟨by decide +kernel, by decide +kernel⟩, List.mem_of_getElem? (i := 739) (by decide +kernel), List.mem_of_getElem? (i := 975) (by decide +kernel), List.mem_of_getElem? (i := 976) (by decide +kernel)⟩
theorem lw_p36 : lw_okq (⟨"LaneOrderModel", "placeOf", "(I)I"⟩, 40) := ⟨⟨by decide +kernel, by decide +kernel⟩, List.mem_of_getElem? (i := 739) (by decide +kernel), List.mem_of_getElem? (i := 982) (by decide +kernel), List.mem_of_getElem? (i := 983) (by decide +kernel)⟩
theorem lw_p37 : lw_okq (⟨"LaneOrderModel", "sortsOf", "(I)I"⟩, 40) := ⟨⟨by decide +kernel, by decide +kernel⟩, List.mem_of_getElem? (i := 739) (by decide +kernel), List.mem_of_getElem? (i := 986) (by decide +kernel), List.mem_of_getElem? (i := 987) (by decide +kernel)⟩
theorem lw_p38 : lw_okq (⟨"LaneOrderModel", "askOf", "(I)I"⟩, 40) := ⟨⟨by decide +kernel, by decide +kernel⟩, List.mem_of_getElem? (i := 739) (by decide +kernel), List.mem_of_getElem? (i := 993) (by decide +kernel), List.mem_of_getElem? (i := 994) (by decide +kernel)⟩
theorem lw_p39 : lw_okq (⟨"LaneOrderModel", "laneOf", "(I)I"⟩, 40) := ⟨⟨by decide +kernel, by decide +kernel⟩, List.mem_of_getElem? (i := 739) (by decide +kernel), List.mem_of_getElem? (i := 1018) (by decide +kernel), List.mem_of_getElem? (i := 1019) (by decide +kernel)⟩
theorem lw_p40 : lw_okq (⟨"LaneOrderModel", "nextLane", "(II)I"⟩, 40) := ⟨⟨by decide +kernel, by decide +kernel⟩, List.mem_of_getElem? (i := 739) (by decide +kernel), List.mem_of_getElem? (i := 1022) (by decide +kernel), List.mem_of_getElem? (i := 1023) (by decide +kernel)⟩
theorem lw_p41 : lw_okq (⟨"LaneOrderModel", "lacks", "()Z"⟩, 40) := ⟨⟨by decide +kernel, by decide +kernel⟩, List.mem_of_getElem? (i := 739) (by decide +kernel), List.mem_of_getElem? (i := 1034) (by decide +kernel), List.mem_of_getElem? (i := 1035) (by decide +kernel)⟩
theorem lw_p42 : lw_okq (⟨"LaneOrderModel", "shift", "(III)V"⟩, 40) := ⟨⟨by decide +kernel, by decide +kernel⟩, List.mem_of_getElem? (i := 739) (by decide +kernel), List.mem_of_getElem? (i := 1048) (by decide +kernel), List.mem_of_getElem? (i := 1049) (by decide +kernel)⟩
theorem lw_p43 : lw_okq (⟨"LaneOrderModel", "greatest", "()I"⟩, 40) := ⟨⟨by decide +kernel, by decide +kernel⟩, List.mem_of_getElem? (i := 739) (by decide +kernel), List.mem_of_getElem? (i := 1068) (by decide +kernel), List.mem_of_getElem? (i := 1069) (by decide +kernel)⟩
theorem lw_p44 : lw_okq (⟨"LaneOrderModel", "keepOrder", "()V"⟩, 40) := ⟨⟨by decide +kernel, by decide +kernel⟩, List.mem_of_getElem? (i := 739) (by decide +kernel), List.mem_of_getElem? (i := 1076) (by decide +kernel), List.mem_of_getElem? (i := 1077) (by decide +kernel)⟩
theorem lw_p45 : lw_okq (⟨"LaneOrderModel", "isSameOrder", "()Z"⟩, 40) := ⟨⟨by decide +kernel, by decide +kernel⟩, List.mem_of_getElem? (i := 739) (by decide +kernel), List.mem_of_getElem? (i := 1087) (by decide +kernel), List.mem_of_getElem? (i := 1088) (by decide +kernel)⟩
theorem lw_p46 : lw_okq (⟨"LaneOrderModel", "idleOf", "()I"⟩, 40) := ⟨⟨by decide +kernel, by decide +kernel⟩, List.mem_of_getElem? (i := 739) (by decide +kernel), List.mem_of_getElem? (i := 1095) (by decide +kernel), List.mem_of_getElem? (i := 1096) (by decide +kernel)⟩
theorem lw_p47 : lw_okq (⟨"LaneOrderModel", "freeOf", "()I"⟩, 40) := ⟨⟨by decide +kernel, by decide +kernel⟩, List.mem_of_getElem? (i := 739) (by decide +kernel), List.mem_of_getElem? (i := 1103) (by decide +kernel), List.mem_of_getElem? (i := 1104) (by decide +kernel)⟩
def lw_privs_3 : List (MethodName × Nat) := [(⟨"LaneOrderModel", "byRule", "(III)I"⟩, 40), (⟨"LaneOrderModel", "isSort", "(II)Z"⟩, 40), (⟨"LaneOrderModel", "append", "(I)V"⟩, 40), (⟨"LaneOrderModel", "firstSide", "(I)I"⟩, 40), (⟨"LaneOrderModel", "placeOf", "(I)I"⟩, 40), (⟨"LaneOrderModel", "sortsOf", "(I)I"⟩, 40), (⟨"LaneOrderModel", "askOf", "(I)I"⟩, 40), (⟨"LaneOrderModel", "laneOf", "(I)I"⟩, 40), (⟨"LaneOrderModel", "nextLane", "(II)I"⟩, 40), (⟨"LaneOrderModel", "lacks", "()Z"⟩, 40), (⟨"LaneOrderModel", "shift", "(III)V"⟩, 40), (⟨"LaneOrderModel", "greatest", "()I"⟩, 40), (⟨"LaneOrderModel", "keepOrder", "()V"⟩, 40), (⟨"LaneOrderModel", "isSameOrder", "()Z"⟩, 40), (⟨"LaneOrderModel", "idleOf", "()I"⟩, 40), (⟨"LaneOrderModel", "freeOf", "()I"⟩, 40)]
theorem lw_r3 : ∀ q ∈ lw_privs_3, lw_okq q := List.forall_mem_cons.mpr ⟨lw_p32, List.forall_mem_cons.mpr ⟨lw_p33, List.forall_mem_cons.mpr ⟨lw_p34, List.forall_mem_cons.mpr ⟨lw_p35, List.forall_mem_cons.mpr ⟨lw_p36, List.forall_mem_cons.mpr ⟨lw_p37, List.forall_mem_cons.mpr ⟨lw_p38, List.forall_mem_cons.mpr ⟨lw_p39, List.forall_mem_cons.mpr ⟨lw_p40, List.forall_mem_cons.mpr ⟨lw_p41, List.forall_mem_cons.mpr ⟨lw_p42, List.forall_mem_cons.mpr ⟨lw_p43, List.forall_mem_cons.mpr ⟨lw_p44, List.forall_mem_cons.mpr ⟨lw_p45, List.forall_mem_cons.mpr ⟨lw_p46, List.forall_mem_cons.mpr ⟨lw_p47, fun _ h => absurd h List.not_mem_nil⟩⟩⟩⟩⟩⟩⟩⟩⟩⟩⟩⟩⟩⟩⟩⟩
theorem lw_p48 : lw_okq (⟨"LaneOrderModel", "drawBox", "(I)V"⟩, 40) := ⟨⟨by decide +kernel, by decide +kernel⟩, List.mem_of_getElem? (i := 739) (by decide +kernel), List.mem_of_getElem? (i := 1122) (by decide +kernel), List.mem_of_getElem? (i := 1123) (by decide +kernel)⟩
theorem lw_p49 : lw_okq (⟨"LaneOrderModel", "draw", "(I)I"⟩, 40) := ⟨⟨by decide +kernel, by decide +kernel⟩, List.mem_of_getElem? (i := 739) (by decide +kernel), List.mem_of_getElem? (i := 1126) (by decide +kernel), List.mem_of_getElem? (i := 1127) (by decide +kernel)⟩
theorem lw_p50 : lw_okq (⟨"LaneOrderModel", "countOf", "(I)I"⟩, 40) := ⟨⟨by decide +kernel, by decide +kernel⟩, List.mem_of_getElem? (i := 739) (by decide +kernel), List.mem_of_getElem? (i := 1146) (by decide +kernel), List.mem_of_getElem? (i := 1147) (by decide +kernel)⟩
theorem lw_p51 : lw_okq (⟨"LaneOrderModel", "boundMany", "()I"⟩, 40) := ⟨⟨by decide +kernel, by decide +kernel⟩, List.mem_of_getElem? (i := 739) (by decide +kernel), List.mem_of_getElem? (i := 1150) (by decide +kernel), List.mem_of_getElem? (i := 1151) (by decide +kernel)⟩
theorem lw_p52 : lw_okq (⟨"LaneOrderModel", "sayPage", "()V"⟩, 40) := ⟨⟨by decide +kernel, by decide +kernel⟩, List.mem_of_getElem? (i := 739) (by decide +kernel), List.mem_of_getElem? (i := 1159) (by decide +kernel), List.mem_of_getElem? (i := 1160) (by decide +kernel)⟩
theorem lw_p53 : lw_okq (⟨"LaneOrderModel", "say", "(J)V"⟩, 40) := ⟨⟨by decide +kernel, by decide +kernel⟩, List.mem_of_getElem? (i := 739) (by decide +kernel), List.mem_of_getElem? (i := 1163) (by decide +kernel), List.mem_of_getElem? (i := 1164) (by decide +kernel)⟩
def lw_privs_4 : List (MethodName × Nat) := [(⟨"LaneOrderModel", "drawBox", "(I)V"⟩, 40), (⟨"LaneOrderModel", "draw", "(I)I"⟩, 40), (⟨"LaneOrderModel", "countOf", "(I)I"⟩, 40), (⟨"LaneOrderModel", "boundMany", "()I"⟩, 40), (⟨"LaneOrderModel", "sayPage", "()V"⟩, 40), (⟨"LaneOrderModel", "say", "(J)V"⟩, 40)]
theorem lw_r4 : ∀ q ∈ lw_privs_4, lw_okq q := List.forall_mem_cons.mpr ⟨lw_p48, List.forall_mem_cons.mpr ⟨lw_p49, List.forall_mem_cons.mpr ⟨lw_p50, List.forall_mem_cons.mpr ⟨lw_p51, List.forall_mem_cons.mpr ⟨lw_p52, List.forall_mem_cons.mpr ⟨lw_p53, fun _ h => absurd h List.not_mem_nil⟩⟩⟩⟩⟩⟩
def lw_privs : List (MethodName × Nat) := lw_privs_1 ++ (lw_privs_2 ++ (lw_privs_3 ++ (lw_privs_4)))
def lw_tbl : List Cond := k2_sels lw_privs ++ tables_1
theorem lw_privs_ok : ∀ q ∈ lw_privs, lw_okq q := by
  show ∀ q ∈ lw_privs_1 ++ (lw_privs_2 ++ (lw_privs_3 ++ (lw_privs_4))), lw_okq q
  exact List.forall_mem_append.mpr ⟨lw_r1, List.forall_mem_append.mpr ⟨lw_r2, List.forall_mem_append.mpr ⟨lw_r3, lw_r4⟩⟩⟩

def RX0 : String := "LaneOrder$Cuts"
def TX0 : u_T := fun k => match k with
  | 0 => ("LaneOrder$Cuts", "axis", "[I", true)
  | 1 => ("LaneOrder$Cuts", "at", "[I", true)
  | 2 => ("LaneOrder$Cuts", "width", "[I", true)
  | 3 => ("LaneOrder$Cuts", "first", "[I", true)
  | 4 => ("LaneOrder$Cuts", "second", "[I", true)
  | _ => ("LaneOrder$Cuts", "size", "I", false)
def tyX0 : Nat → FieldType := fun k => match k with
  | 0 => .array .int
  | 1 => .array .int
  | 2 => .array .int
  | 3 => .array .int
  | 4 => .array .int
  | _ => .int
theorem nmX0 : ∀ a, a < 6 → ∀ b, b < 6 → a ≠ b → (TX0 a).2.1 ≠ (TX0 b).2.1 := by decide +kernel
theorem tyX0_ok : ∀ k, k < 6 → parseFieldDescriptor (TX0 k).2.2.1 = some (tyX0 k) := by decide +kernel
abbrev cX0_init : ByteArray := prog_2_method_1_code
def yX0_init : MethodName := ⟨RX0, "<init>", "()V"⟩
abbrev cX0_clear : ByteArray := prog_2_method_2_code
def yX0_clear : MethodName := ⟨RX0, "clear", "()V"⟩
abbrev cX0_add : ByteArray := prog_2_method_3_code
def yX0_add : MethodName := ⟨RX0, "add", "(IIIII)V"⟩
def RX1 : String := "LaneOrder$Draws"
def TX1 : u_T := fun k => match k with
  | _ => ("LaneOrder$Draws", "seed", "I", false)
def tyX1 : Nat → FieldType := fun k => match k with
  | _ => .int
theorem nmX1 : ∀ a, a < 1 → ∀ b, b < 1 → a ≠ b → (TX1 a).2.1 ≠ (TX1 b).2.1 := by decide +kernel
theorem tyX1_ok : ∀ k, k < 1 → parseFieldDescriptor (TX1 k).2.2.1 = some (tyX1 k) := by decide +kernel
abbrev cX1_init : ByteArray := prog_3_method_1_code
def yX1_init : MethodName := ⟨RX1, "<init>", "()V"⟩
abbrev cX1_drawTo : ByteArray := prog_3_method_2_code
def yX1_drawTo : MethodName := ⟨RX1, "drawTo", "(LLaneOrder$Sheet;)V"⟩
abbrev cX1_ofEight : ByteArray := prog_3_method_3_code
def yX1_ofEight : MethodName := ⟨RX1, "ofEight", "()I"⟩
abbrev cX1_ofThree : ByteArray := prog_3_method_4_code
def yX1_ofThree : MethodName := ⟨RX1, "ofThree", "()I"⟩
abbrev cX1_step : ByteArray := prog_3_method_5_code
def yX1_step : MethodName := ⟨RX1, "step", "()V"⟩
def RX2 : String := "LaneOrder$Lanes"
def TX2 : u_T := fun k => match k with
  | 0 => ("LaneOrder$Lanes", "axis", "[I", true)
  | 1 => ("LaneOrder$Lanes", "at", "[I", true)
  | 2 => ("LaneOrder$Lanes", "width", "[I", true)
  | _ => ("LaneOrder$Lanes", "size", "I", false)
def tyX2 : Nat → FieldType := fun k => match k with
  | 0 => .array .int
  | 1 => .array .int
  | 2 => .array .int
  | _ => .int
theorem nmX2 : ∀ a, a < 4 → ∀ b, b < 4 → a ≠ b → (TX2 a).2.1 ≠ (TX2 b).2.1 := by decide +kernel
theorem tyX2_ok : ∀ k, k < 4 → parseFieldDescriptor (TX2 k).2.2.1 = some (tyX2 k) := by decide +kernel
abbrev cX2_init : ByteArray := prog_4_method_1_code
def yX2_init : MethodName := ⟨RX2, "<init>", "()V"⟩
abbrev cX2_clear : ByteArray := prog_4_method_2_code
def yX2_clear : MethodName := ⟨RX2, "clear", "()V"⟩
abbrev cX2_has : ByteArray := prog_4_method_3_code
def yX2_has : MethodName := ⟨RX2, "has", "(II)Z"⟩
abbrev cX2_add : ByteArray := prog_4_method_4_code
def yX2_add : MethodName := ⟨RX2, "add", "(III)V"⟩
abbrev cX2_isBehind : ByteArray := prog_4_method_5_code
def yX2_isBehind : MethodName := ⟨RX2, "isBehind", "(IIII)Z"⟩
def RX3 : String := "LaneOrder$Reading"
def TX3 : u_T := fun k => match k with
  | 0 => ("LaneOrder$Reading", "sheet", "LLaneOrder$Sheet;", true)
  | 1 => ("LaneOrder$Reading", "order", "[I", true)
  | 2 => ("LaneOrder$Reading", "orderSize", "I", false)
  | 3 => ("LaneOrder$Reading", "place", "[I", true)
  | 4 => ("LaneOrder$Reading", "figure", "[I", true)
  | 5 => ("LaneOrder$Reading", "depth", "[I", true)
  | 6 => ("LaneOrder$Reading", "leaf", "[I", true)
  | 7 => ("LaneOrder$Reading", "leafCount", "I", false)
  | 8 => ("LaneOrder$Reading", "cuts", "LLaneOrder$Cuts;", true)
  | 9 => ("LaneOrder$Reading", "lanes", "LLaneOrder$Lanes;", true)
  | 10 => ("LaneOrder$Reading", "row", "[I", true)
  | 11 => ("LaneOrder$Reading", "rowSize", "I", false)
  | _ => ("LaneOrder$Reading", "secondSide", "[I", true)
def tyX3 : Nat → FieldType := fun k => match k with
  | 0 => .object "LaneOrder$Sheet"
  | 1 => .array .int
  | 2 => .int
  | 3 => .array .int
  | 4 => .array .int
  | 5 => .array .int
  | 6 => .array .int
  | 7 => .int
  | 8 => .object "LaneOrder$Cuts"
  | 9 => .object "LaneOrder$Lanes"
  | 10 => .array .int
  | 11 => .int
  | _ => .array .int
theorem nmX3 : ∀ a, a < 13 → ∀ b, b < 13 → a ≠ b → (TX3 a).2.1 ≠ (TX3 b).2.1 := by decide +kernel
theorem tyX3_ok : ∀ k, k < 13 → parseFieldDescriptor (TX3 k).2.2.1 = some (tyX3 k) := by decide +kernel
abbrev cX3_init : ByteArray := prog_5_method_1_code
def yX3_init : MethodName := ⟨RX3, "<init>", "()V"⟩
abbrev cX3_renew : ByteArray := prog_5_method_2_code
def yX3_renew : MethodName := ⟨RX3, "renew", "()V"⟩
abbrev cX3_reason : ByteArray := prog_5_method_3_code
def yX3_reason : MethodName := ⟨RX3, "reason", "(II)I"⟩
abbrev cX3_isOrderedLike : ByteArray := prog_5_method_4_code
def yX3_isOrderedLike : MethodName := ⟨RX3, "isOrderedLike", "(LLaneOrder$Reading;)Z"⟩
abbrev cX3_isByNumber : ByteArray := prog_5_method_5_code
def yX3_isByNumber : MethodName := ⟨RX3, "isByNumber", "()Z"⟩
abbrev cX3_gatherLanes : ByteArray := prog_5_method_6_code
def yX3_gatherLanes : MethodName := ⟨RX3, "gatherLanes", "(II)V"⟩
abbrev cX3_gatherLanesOf : ByteArray := prog_5_method_7_code
def yX3_gatherLanesOf : MethodName := ⟨RX3, "gatherLanesOf", "(I[I[III)V"⟩
abbrev cX3_nextBegin : ByteArray := prog_5_method_8_code
def yX3_nextBegin : MethodName := ⟨RX3, "nextBegin", "([I[IIII)I"⟩
abbrev cX3_readPart : ByteArray := prog_5_method_9_code
def yX3_readPart : MethodName := ⟨RX3, "readPart", "(III)V"⟩
abbrev cX3_divide : ByteArray := prog_5_method_10_code
def yX3_divide : MethodName := ⟨RX3, "divide", "(II)I"⟩
abbrev cX3_readLeaf : ByteArray := prog_5_method_11_code
def yX3_readLeaf : MethodName := ⟨RX3, "readLeaf", "(III)V"⟩
abbrev cX3_nearestFigure : ByteArray := prog_5_method_12_code
def yX3_nearestFigure : MethodName := ⟨RX3, "nearestFigure", "(I)I"⟩
abbrev cX3_putInOrder : ByteArray := prog_5_method_13_code
def yX3_putInOrder : MethodName := ⟨RX3, "putInOrder", "()V"⟩
abbrev cX3_putNext : ByteArray := prog_5_method_14_code
def yX3_putNext : MethodName := ⟨RX3, "putNext", "(I)V"⟩
def RX4 : String := "LaneOrder$Seen"
def TX4 : u_T := fun k => match k with
  | 0 => ("LaneOrder$Seen", "box", "[I", true)
  | 1 => ("LaneOrder$Seen", "kinds", "[I", true)
  | _ => ("LaneOrder$Seen", "size", "I", false)
def tyX4 : Nat → FieldType := fun k => match k with
  | 0 => .array .int
  | 1 => .array .int
  | _ => .int
theorem nmX4 : ∀ a, a < 3 → ∀ b, b < 3 → a ≠ b → (TX4 a).2.1 ≠ (TX4 b).2.1 := by decide +kernel
theorem tyX4_ok : ∀ k, k < 3 → parseFieldDescriptor (TX4 k).2.2.1 = some (tyX4 k) := by decide +kernel
abbrev cX4_init : ByteArray := prog_6_method_1_code
def yX4_init : MethodName := ⟨RX4, "<init>", "()V"⟩
abbrev cX4_clear : ByteArray := prog_6_method_2_code
def yX4_clear : MethodName := ⟨RX4, "clear", "()V"⟩
abbrev cX4_copy : ByteArray := prog_6_method_3_code
def yX4_copy : MethodName := ⟨RX4, "copy", "(LLaneOrder$Seen;)V"⟩
abbrev cX4_add : ByteArray := prog_6_method_4_code
def yX4_add : MethodName := ⟨RX4, "add", "(IIZ)V"⟩
abbrev cX4_sortsOf : ByteArray := prog_6_method_5_code
def yX4_sortsOf : MethodName := ⟨RX4, "sortsOf", "(I)I"⟩
abbrev cX4_nextQuestionFor : ByteArray := prog_6_method_6_code
def yX4_nextQuestionFor : MethodName := ⟨RX4, "nextQuestionFor", "(I)I"⟩
abbrev cX4_kindsSo : ByteArray := prog_6_method_7_code
def yX4_kindsSo : MethodName := ⟨RX4, "kindsSo", "(I)I"⟩
def RX5 : String := "LaneOrder$Sheet"
def TX5 : u_T := fun k => match k with
  | 0 => ("LaneOrder$Sheet", "kind", "[I", true)
  | 1 => ("LaneOrder$Sheet", "left", "[I", true)
  | 2 => ("LaneOrder$Sheet", "top", "[I", true)
  | 3 => ("LaneOrder$Sheet", "right", "[I", true)
  | 4 => ("LaneOrder$Sheet", "bottom", "[I", true)
  | 5 => ("LaneOrder$Sheet", "size", "I", false)
  | 6 => ("LaneOrder$Sheet", "rule", "[I", true)
  | _ => ("LaneOrder$Sheet", "ruleCount", "I", false)
def tyX5 : Nat → FieldType := fun k => match k with
  | 0 => .array .int
  | 1 => .array .int
  | 2 => .array .int
  | 3 => .array .int
  | 4 => .array .int
  | 5 => .int
  | 6 => .array .int
  | _ => .int
theorem nmX5 : ∀ a, a < 8 → ∀ b, b < 8 → a ≠ b → (TX5 a).2.1 ≠ (TX5 b).2.1 := by decide +kernel
theorem tyX5_ok : ∀ k, k < 8 → parseFieldDescriptor (TX5 k).2.2.1 = some (tyX5 k) := by decide +kernel
abbrev cX5_init : ByteArray := prog_7_method_1_code
def yX5_init : MethodName := ⟨RX5, "<init>", "()V"⟩
abbrev cX5_clear : ByteArray := prog_7_method_2_code
def yX5_clear : MethodName := ⟨RX5, "clear", "()V"⟩
abbrev cX5_has : ByteArray := prog_7_method_3_code
def yX5_has : MethodName := ⟨RX5, "has", "(I)Z"⟩
abbrev cX5_copy : ByteArray := prog_7_method_4_code
def yX5_copy : MethodName := ⟨RX5, "copy", "(LLaneOrder$Sheet;)V"⟩
abbrev cX5_copyWithout : ByteArray := prog_7_method_5_code
def yX5_copyWithout : MethodName := ⟨RX5, "copyWithout", "(LLaneOrder$Sheet;I)V"⟩
abbrev cX5_add : ByteArray := prog_7_method_6_code
def yX5_add : MethodName := ⟨RX5, "add", "(IIIII)V"⟩
abbrev cX5_remove : ByteArray := prog_7_method_7_code
def yX5_remove : MethodName := ⟨RX5, "remove", "(I)V"⟩
abbrev cX5_shift : ByteArray := prog_7_method_8_code
def yX5_shift : MethodName := ⟨RX5, "shift", "(III)V"⟩
abbrev cX5_staysInside : ByteArray := prog_7_method_9_code
def yX5_staysInside : MethodName := ⟨RX5, "staysInside", "(III)Z"⟩
abbrev cX5_greatestNumber : ByteArray := prog_7_method_10_code
def yX5_greatestNumber : MethodName := ⟨RX5, "greatestNumber", "()I"⟩
abbrev cX5_stretch : ByteArray := prog_7_method_11_code
def yX5_stretch : MethodName := ⟨RX5, "stretch", "(I)V"⟩
abbrev cX5_addRule : ByteArray := prog_7_method_12_code
def yX5_addRule : MethodName := ⟨RX5, "addRule", "(I)V"⟩
abbrev cX5_dropRule : ByteArray := prog_7_method_13_code
def yX5_dropRule : MethodName := ⟨RX5, "dropRule", "(I)V"⟩
abbrev cX5_takeRules : ByteArray := prog_7_method_14_code
def yX5_takeRules : MethodName := ⟨RX5, "takeRules", "(I)V"⟩
abbrev cX5_isOfKind : ByteArray := prog_7_method_15_code
def yX5_isOfKind : MethodName := ⟨RX5, "isOfKind", "(II)Z"⟩
abbrev cX5_rank : ByteArray := prog_7_method_16_code
def yX5_rank : MethodName := ⟨RX5, "rank", "(II)I"⟩
abbrev cX5_ruleThatTells : ByteArray := prog_7_method_17_code
def yX5_ruleThatTells : MethodName := ⟨RX5, "ruleThatTells", "(II)I"⟩
abbrev cX5_isAhead : ByteArray := prog_7_method_18_code
def yX5_isAhead : MethodName := ⟨RX5, "isAhead", "(II)Z"⟩
abbrev cX5_distance : ByteArray := prog_7_method_19_code
def yX5_distance : MethodName := ⟨RX5, "distance", "(II)I"⟩
abbrev cX5_gap : ByteArray := prog_7_method_20_code
def yX5_gap : MethodName := ⟨RX5, "gap", "(IIII)I"⟩
def RX6 : String := "LaneOrder$Text"
def TX6 : u_T := fun k => match k with
  | 0 => ("LaneOrder$Text", "codes", "[I", true)
  | _ => ("LaneOrder$Text", "length", "I", false)
def tyX6 : Nat → FieldType := fun k => match k with
  | 0 => .array .int
  | _ => .int
theorem nmX6 : ∀ a, a < 2 → ∀ b, b < 2 → a ≠ b → (TX6 a).2.1 ≠ (TX6 b).2.1 := by decide +kernel
theorem tyX6_ok : ∀ k, k < 2 → parseFieldDescriptor (TX6 k).2.2.1 = some (tyX6 k) := by decide +kernel
abbrev cX6_init : ByteArray := prog_8_method_1_code
def yX6_init : MethodName := ⟨RX6, "<init>", "()V"⟩
abbrev cX6_add : ByteArray := prog_8_method_2_code
def yX6_add : MethodName := ⟨RX6, "add", "(I)V"⟩
abbrev cX6_clear : ByteArray := prog_8_method_3_code
def yX6_clear : MethodName := ⟨RX6, "clear", "()V"⟩
abbrev cX6_firstFault : ByteArray := prog_8_method_4_code
def yX6_firstFault : MethodName := ⟨RX6, "firstFault", "()I"⟩
abbrev cX6_isPage : ByteArray := prog_8_method_5_code
def yX6_isPage : MethodName := ⟨RX6, "isPage", "()Z"⟩
abbrev cX6_writeTo : ByteArray := prog_8_method_6_code
def yX6_writeTo : MethodName := ⟨RX6, "writeTo", "(LLaneOrder$Sheet;)V"⟩
abbrev cX6_rulesPlace : ByteArray := prog_8_method_7_code
def yX6_rulesPlace : MethodName := ⟨RX6, "rulesPlace", "()I"⟩
abbrev cX6_fitsBoxes : ByteArray := prog_8_method_8_code
def yX6_fitsBoxes : MethodName := ⟨RX6, "fitsBoxes", "(I)Z"⟩
abbrev cX6_fitsRules : ByteArray := prog_8_method_9_code
def yX6_fitsRules : MethodName := ⟨RX6, "fitsRules", "(II)Z"⟩
abbrev cX6_digitAt : ByteArray := prog_8_method_10_code
def yX6_digitAt : MethodName := ⟨RX6, "digitAt", "(I)I"⟩
abbrev cX6_kindOf : ByteArray := prog_8_method_11_code
def yX6_kindOf : MethodName := ⟨RX6, "kindOf", "(I)I"⟩
def RX7 : String := "LaneOrder"
def TX7 : u_T := fun k => match k with
  | 0 => ("LaneOrder", "text", "LLaneOrder$Text;", true)
  | 1 => ("LaneOrder", "current", "LLaneOrder$Reading;", true)
  | 2 => ("LaneOrder", "seen", "LLaneOrder$Seen;", true)
  | 3 => ("LaneOrder", "keptSheet", "LLaneOrder$Sheet;", true)
  | 4 => ("LaneOrder", "keptSeen", "LLaneOrder$Seen;", true)
  | 5 => ("LaneOrder", "imageKept", "Z", false)
  | 6 => ("LaneOrder", "pagesRead", "I", false)
  | 7 => ("LaneOrder", "trial", "LLaneOrder$Reading;", true)
  | _ => ("LaneOrder", "draws", "LLaneOrder$Draws;", true)
def tyX7 : Nat → FieldType := fun k => match k with
  | 0 => .object "LaneOrder$Text"
  | 1 => .object "LaneOrder$Reading"
  | 2 => .object "LaneOrder$Seen"
  | 3 => .object "LaneOrder$Sheet"
  | 4 => .object "LaneOrder$Seen"
  | 5 => .boolean
  | 6 => .int
  | 7 => .object "LaneOrder$Reading"
  | _ => .object "LaneOrder$Draws"
theorem nmX7 : ∀ a, a < 9 → ∀ b, b < 9 → a ≠ b → (TX7 a).2.1 ≠ (TX7 b).2.1 := by decide +kernel
theorem tyX7_ok : ∀ k, k < 9 → parseFieldDescriptor (TX7 k).2.2.1 = some (tyX7 k) := by decide +kernel
abbrev cX7_init : ByteArray := prog_1_method_1_code
def yX7_init : MethodName := ⟨RX7, "<init>", "()V"⟩
abbrev cX7_letter : ByteArray := prog_1_method_2_code
def yX7_letter : MethodName := ⟨RX7, "letter", "(I)I"⟩
abbrev cX7_blank : ByteArray := prog_1_method_3_code
def yX7_blank : MethodName := ⟨RX7, "blank", "()I"⟩
abbrev cX7_fault : ByteArray := prog_1_method_4_code
def yX7_fault : MethodName := ⟨RX7, "fault", "()I"⟩
abbrev cX7_page : ByteArray := prog_1_method_5_code
def yX7_page : MethodName := ⟨RX7, "page", "()I"⟩
abbrev cX7_box : ByteArray := prog_1_method_6_code
def yX7_box : MethodName := ⟨RX7, "box", "(II)I"⟩
abbrev cX7_as : ByteArray := prog_1_method_7_code
def yX7_as : MethodName := ⟨RX7, "as", "(II)I"⟩
abbrev cX7_order : ByteArray := prog_1_method_8_code
def yX7_order : MethodName := ⟨RX7, "order", "(I)I"⟩
abbrev cX7_cut : ByteArray := prog_1_method_9_code
def yX7_cut : MethodName := ⟨RX7, "cut", "(II)I"⟩
abbrev cX7_lane : ByteArray := prog_1_method_10_code
def yX7_lane : MethodName := ⟨RX7, "lane", "(II)I"⟩
abbrev cX7_why : ByteArray := prog_1_method_11_code
def yX7_why : MethodName := ⟨RX7, "why", "(II)I"⟩
abbrev cX7_put : ByteArray := prog_1_method_12_code
def yX7_put : MethodName := ⟨RX7, "put", "(II)I"⟩
abbrev cX7_take : ByteArray := prog_1_method_13_code
def yX7_take : MethodName := ⟨RX7, "take", "(I)I"⟩
abbrev cX7_move : ByteArray := prog_1_method_14_code
def yX7_move : MethodName := ⟨RX7, "move", "(III)I"⟩
abbrev cX7_change : ByteArray := prog_1_method_15_code
def yX7_change : MethodName := ⟨RX7, "change", "(II)I"⟩
abbrev cX7_rules : ByteArray := prog_1_method_16_code
def yX7_rules : MethodName := ⟨RX7, "rules", "(I)I"⟩
abbrev cX7_scale : ByteArray := prog_1_method_17_code
def yX7_scale : MethodName := ⟨RX7, "scale", "(I)I"⟩
abbrev cX7_without : ByteArray := prog_1_method_18_code
def yX7_without : MethodName := ⟨RX7, "without", "(I)I"⟩
abbrev cX7_calm : ByteArray := prog_1_method_19_code
def yX7_calm : MethodName := ⟨RX7, "calm", "()I"⟩
abbrev cX7_idle : ByteArray := prog_1_method_20_code
def yX7_idle : MethodName := ⟨RX7, "idle", "()I"⟩
abbrev cX7_free : ByteArray := prog_1_method_21_code
def yX7_free : MethodName := ⟨RX7, "free", "()I"⟩
abbrev cX7_see : ByteArray := prog_1_method_22_code
def yX7_see : MethodName := ⟨RX7, "see", "(IIZ)I"⟩
abbrev cX7_forget : ByteArray := prog_1_method_23_code
def yX7_forget : MethodName := ⟨RX7, "forget", "()I"⟩
abbrev cX7_drawn : ByteArray := prog_1_method_24_code
def yX7_drawn : MethodName := ⟨RX7, "drawn", "(III)I"⟩
abbrev cX7_image : ByteArray := prog_1_method_25_code
def yX7_image : MethodName := ⟨RX7, "image", "()I"⟩
abbrev cX7_restore : ByteArray := prog_1_method_26_code
def yX7_restore : MethodName := ⟨RX7, "restore", "()I"⟩
abbrev cX7_count : ByteArray := prog_1_method_27_code
def yX7_count : MethodName := ⟨RX7, "count", "(I)I"⟩
abbrev cX7_digest : ByteArray := prog_1_method_28_code
def yX7_digest : MethodName := ⟨RX7, "digest", "()J"⟩
abbrev cX7_hasNoPage : ByteArray := prog_1_method_29_code
def yX7_hasNoPage : MethodName := ⟨RX7, "hasNoPage", "()Z"⟩
abbrev cX7_isKind : ByteArray := prog_1_method_30_code
def yX7_isKind : MethodName := ⟨RX7, "isKind", "(I)Z"⟩
abbrev cX7_isStep : ByteArray := prog_1_method_31_code
def yX7_isStep : MethodName := ⟨RX7, "isStep", "(I)Z"⟩
abbrev cX7_areRules : ByteArray := prog_1_method_32_code
def yX7_areRules : MethodName := ⟨RX7, "areRules", "(I)Z"⟩
def RX8 : String := "LaneOrderModel"
def TX8 : u_T := fun k => match k with
  | 0 => ("LaneOrderModel", "signs", "[I", true)
  | 1 => ("LaneOrderModel", "signMany", "I", false)
  | 2 => ("LaneOrderModel", "end", "I", false)
  | 3 => ("LaneOrderModel", "readRules", "I", false)
  | 4 => ("LaneOrderModel", "readMany", "I", false)
  | 5 => ("LaneOrderModel", "boxes", "I", false)
  | 6 => ("LaneOrderModel", "pagesRead", "I", false)
  | 7 => ("LaneOrderModel", "kinds", "[I", true)
  | 8 => ("LaneOrderModel", "sides", "[I", true)
  | 9 => ("LaneOrderModel", "rules", "[I", true)
  | 10 => ("LaneOrderModel", "ruleMany", "I", false)
  | 11 => ("LaneOrderModel", "bound", "[I", true)
  | 12 => ("LaneOrderModel", "laneLevel", "I", false)
  | 13 => ("LaneOrderModel", "laneAt", "I", false)
  | 14 => ("LaneOrderModel", "laneWidth", "I", false)
  | 15 => ("LaneOrderModel", "order", "[I", true)
  | 16 => ("LaneOrderModel", "orderMany", "I", false)
  | 17 => ("LaneOrderModel", "cuts", "[I", true)
  | 18 => ("LaneOrderModel", "cutMany", "I", false)
  | 19 => ("LaneOrderModel", "leafMany", "I", false)
  | 20 => ("LaneOrderModel", "leafOf", "[I", true)
  | 21 => ("LaneOrderModel", "deep", "[I", true)
  | 22 => ("LaneOrderModel", "parts", "[I", true)
  | 23 => ("LaneOrderModel", "partDeep", "[I", true)
  | 24 => ("LaneOrderModel", "orderThen", "[I", true)
  | 25 => ("LaneOrderModel", "rulesThen", "[I", true)
  | 26 => ("LaneOrderModel", "seenMany", "I", false)
  | 27 => ("LaneOrderModel", "sights", "[I", true)
  | 28 => ("LaneOrderModel", "seedNow", "I", false)
  | 29 => ("LaneOrderModel", "kindsThen", "[I", true)
  | 30 => ("LaneOrderModel", "sidesThen", "[I", true)
  | 31 => ("LaneOrderModel", "keptPage", "I", false)
  | 32 => ("LaneOrderModel", "keptBoxes", "I", false)
  | 33 => ("LaneOrderModel", "keptRuleMany", "I", false)
  | 34 => ("LaneOrderModel", "keptSeen", "I", false)
  | 35 => ("LaneOrderModel", "keptKinds", "[I", true)
  | 36 => ("LaneOrderModel", "keptSides", "[I", true)
  | 37 => ("LaneOrderModel", "keptRules", "[I", true)
  | 38 => ("LaneOrderModel", "keptSights", "[I", true)
  | _ => ("LaneOrderModel", "hash", "J", false)
def tyX8 : Nat → FieldType := fun k => match k with
  | 0 => .array .int
  | 1 => .int
  | 2 => .int
  | 3 => .int
  | 4 => .int
  | 5 => .int
  | 6 => .int
  | 7 => .array .int
  | 8 => .array .int
  | 9 => .array .int
  | 10 => .int
  | 11 => .array .int
  | 12 => .int
  | 13 => .int
  | 14 => .int
  | 15 => .array .int
  | 16 => .int
  | 17 => .array .int
  | 18 => .int
  | 19 => .int
  | 20 => .array .int
  | 21 => .array .int
  | 22 => .array .int
  | 23 => .array .int
  | 24 => .array .int
  | 25 => .array .int
  | 26 => .int
  | 27 => .array .int
  | 28 => .int
  | 29 => .array .int
  | 30 => .array .int
  | 31 => .int
  | 32 => .int
  | 33 => .int
  | 34 => .int
  | 35 => .array .int
  | 36 => .array .int
  | 37 => .array .int
  | 38 => .array .int
  | _ => .long
theorem nmX8 : ∀ a, a < 40 → ∀ b, b < 40 → a ≠ b → (TX8 a).2.1 ≠ (TX8 b).2.1 := by decide +kernel
theorem tyX8_ok : ∀ k, k < 40 → parseFieldDescriptor (TX8 k).2.2.1 = some (tyX8 k) := by decide +kernel
abbrev cX8_init : ByteArray := prog_10_method_1_code
def yX8_init : MethodName := ⟨RX8, "<init>", "()V"⟩
abbrev cX8_in : ByteArray := prog_10_method_2_code
def yX8_in : MethodName := ⟨RX8, "in", "(JJJ)Z"⟩
abbrev cX8_has : ByteArray := prog_10_method_3_code
def yX8_has : MethodName := ⟨RX8, "has", "(II)Z"⟩
abbrev cX8_ones : ByteArray := prog_10_method_4_code
def yX8_ones : MethodName := ⟨RX8, "ones", "(I)I"⟩
abbrev cX8_copy : ByteArray := prog_10_method_5_code
def yX8_copy : MethodName := ⟨RX8, "copy", "([I[I)V"⟩
abbrev cX8_letter : ByteArray := prog_10_method_6_code
def yX8_letter : MethodName := ⟨RX8, "letter", "(I)I"⟩
abbrev cX8_blank : ByteArray := prog_10_method_7_code
def yX8_blank : MethodName := ⟨RX8, "blank", "()I"⟩
abbrev cX8_kindBy : ByteArray := prog_10_method_8_code
def yX8_kindBy : MethodName := ⟨RX8, "kindBy", "(I)I"⟩
abbrev cX8_isBoxSign : ByteArray := prog_10_method_9_code
def yX8_isBoxSign : MethodName := ⟨RX8, "isBoxSign", "(I)Z"⟩
abbrev cX8_isRuleSign : ByteArray := prog_10_method_10_code
def yX8_isRuleSign : MethodName := ⟨RX8, "isRuleSign", "(I)Z"⟩
abbrev cX8_faultOf : ByteArray := prog_10_method_11_code
def yX8_faultOf : MethodName := ⟨RX8, "faultOf", "()I"⟩
abbrev cX8_fault : ByteArray := prog_10_method_12_code
def yX8_fault : MethodName := ⟨RX8, "fault", "()I"⟩
abbrev cX8_page : ByteArray := prog_10_method_13_code
def yX8_page : MethodName := ⟨RX8, "page", "()I"⟩
abbrev cX8_lacks : ByteArray := prog_10_method_14_code
def yX8_lacks : MethodName := ⟨RX8, "lacks", "()Z"⟩
abbrev cX8_isBox : ByteArray := prog_10_method_15_code
def yX8_isBox : MethodName := ⟨RX8, "isBox", "(I)Z"⟩
abbrev cX8_gap : ByteArray := prog_10_method_16_code
def yX8_gap : MethodName := ⟨RX8, "gap", "(IIII)I"⟩
abbrev cX8_apart : ByteArray := prog_10_method_17_code
def yX8_apart : MethodName := ⟨RX8, "apart", "(II)I"⟩
abbrev cX8_layBound : ByteArray := prog_10_method_18_code
def yX8_layBound : MethodName := ⟨RX8, "layBound", "(I)I"⟩
abbrev cX8_isLane : ByteArray := prog_10_method_19_code
def yX8_isLane : MethodName := ⟨RX8, "isLane", "(IIII)Z"⟩
abbrev cX8_tryLane : ByteArray := prog_10_method_20_code
def yX8_tryLane : MethodName := ⟨RX8, "tryLane", "(IIII)V"⟩
abbrev cX8_layLane : ByteArray := prog_10_method_21_code
def yX8_layLane : MethodName := ⟨RX8, "layLane", "(I)V"⟩
abbrev cX8_firstSide : ByteArray := prog_10_method_22_code
def yX8_firstSide : MethodName := ⟨RX8, "firstSide", "(I)I"⟩
abbrev cX8_isSort : ByteArray := prog_10_method_23_code
def yX8_isSort : MethodName := ⟨RX8, "isSort", "(II)Z"⟩
abbrev cX8_byRule : ByteArray := prog_10_method_24_code
def yX8_byRule : MethodName := ⟨RX8, "byRule", "(III)I"⟩
abbrev cX8_ruleOf : ByteArray := prog_10_method_25_code
def yX8_ruleOf : MethodName := ⟨RX8, "ruleOf", "(II)I"⟩
abbrev cX8_isAhead : ByteArray := prog_10_method_26_code
def yX8_isAhead : MethodName := ⟨RX8, "isAhead", "(II)Z"⟩
abbrev cX8_append : ByteArray := prog_10_method_27_code
def yX8_append : MethodName := ⟨RX8, "append", "(I)V"⟩
abbrev cX8_layLeaf : ByteArray := prog_10_method_28_code
def yX8_layLeaf : MethodName := ⟨RX8, "layLeaf", "(II)V"⟩
abbrev cX8_layOrder : ByteArray := prog_10_method_29_code
def yX8_layOrder : MethodName := ⟨RX8, "layOrder", "(I)V"⟩
abbrev cX8_layAll : ByteArray := prog_10_method_30_code
def yX8_layAll : MethodName := ⟨RX8, "layAll", "()V"⟩
abbrev cX8_placeOf : ByteArray := prog_10_method_31_code
def yX8_placeOf : MethodName := ⟨RX8, "placeOf", "(I)I"⟩
abbrev cX8_tellBox : ByteArray := prog_10_method_32_code
def yX8_tellBox : MethodName := ⟨RX8, "tellBox", "(II)I"⟩
abbrev cX8_box : ByteArray := prog_10_method_33_code
def yX8_box : MethodName := ⟨RX8, "box", "(II)I"⟩
abbrev cX8_as : ByteArray := prog_10_method_34_code
def yX8_as : MethodName := ⟨RX8, "as", "(II)I"⟩
abbrev cX8_order : ByteArray := prog_10_method_35_code
def yX8_order : MethodName := ⟨RX8, "order", "(I)I"⟩
abbrev cX8_cut : ByteArray := prog_10_method_36_code
def yX8_cut : MethodName := ⟨RX8, "cut", "(II)I"⟩
abbrev cX8_why : ByteArray := prog_10_method_37_code
def yX8_why : MethodName := ⟨RX8, "why", "(II)I"⟩
abbrev cX8_rankOf : ByteArray := prog_10_method_38_code
def yX8_rankOf : MethodName := ⟨RX8, "rankOf", "(III)I"⟩
abbrev cX8_nextLane : ByteArray := prog_10_method_39_code
def yX8_nextLane : MethodName := ⟨RX8, "nextLane", "(II)I"⟩
abbrev cX8_laneOf : ByteArray := prog_10_method_40_code
def yX8_laneOf : MethodName := ⟨RX8, "laneOf", "(I)I"⟩
abbrev cX8_lane : ByteArray := prog_10_method_41_code
def yX8_lane : MethodName := ⟨RX8, "lane", "(II)I"⟩
abbrev cX8_put : ByteArray := prog_10_method_42_code
def yX8_put : MethodName := ⟨RX8, "put", "(II)I"⟩
abbrev cX8_take : ByteArray := prog_10_method_43_code
def yX8_take : MethodName := ⟨RX8, "take", "(I)I"⟩
abbrev cX8_shift : ByteArray := prog_10_method_44_code
def yX8_shift : MethodName := ⟨RX8, "shift", "(III)V"⟩
abbrev cX8_move : ByteArray := prog_10_method_45_code
def yX8_move : MethodName := ⟨RX8, "move", "(III)I"⟩
abbrev cX8_change : ByteArray := prog_10_method_46_code
def yX8_change : MethodName := ⟨RX8, "change", "(II)I"⟩
abbrev cX8_isRules : ByteArray := prog_10_method_47_code
def yX8_isRules : MethodName := ⟨RX8, "isRules", "(I)Z"⟩
abbrev cX8_rules : ByteArray := prog_10_method_48_code
def yX8_rules : MethodName := ⟨RX8, "rules", "(I)I"⟩
abbrev cX8_greatest : ByteArray := prog_10_method_49_code
def yX8_greatest : MethodName := ⟨RX8, "greatest", "()I"⟩
abbrev cX8_scale : ByteArray := prog_10_method_50_code
def yX8_scale : MethodName := ⟨RX8, "scale", "(I)I"⟩
abbrev cX8_keepOrder : ByteArray := prog_10_method_51_code
def yX8_keepOrder : MethodName := ⟨RX8, "keepOrder", "()V"⟩
abbrev cX8_isSameOrder : ByteArray := prog_10_method_52_code
def yX8_isSameOrder : MethodName := ⟨RX8, "isSameOrder", "()Z"⟩
abbrev cX8_without : ByteArray := prog_10_method_53_code
def yX8_without : MethodName := ⟨RX8, "without", "(I)I"⟩
abbrev cX8_calm : ByteArray := prog_10_method_54_code
def yX8_calm : MethodName := ⟨RX8, "calm", "()I"⟩
abbrev cX8_idleOf : ByteArray := prog_10_method_55_code
def yX8_idleOf : MethodName := ⟨RX8, "idleOf", "()I"⟩
abbrev cX8_idle : ByteArray := prog_10_method_56_code
def yX8_idle : MethodName := ⟨RX8, "idle", "()I"⟩
abbrev cX8_freeOf : ByteArray := prog_10_method_57_code
def yX8_freeOf : MethodName := ⟨RX8, "freeOf", "()I"⟩
abbrev cX8_free : ByteArray := prog_10_method_58_code
def yX8_free : MethodName := ⟨RX8, "free", "()I"⟩
abbrev cX8_see : ByteArray := prog_10_method_59_code
def yX8_see : MethodName := ⟨RX8, "see", "(IIZ)I"⟩
abbrev cX8_forget : ByteArray := prog_10_method_60_code
def yX8_forget : MethodName := ⟨RX8, "forget", "()I"⟩
abbrev cX8_sortsBy : ByteArray := prog_10_method_61_code
def yX8_sortsBy : MethodName := ⟨RX8, "sortsBy", "(I)I"⟩
abbrev cX8_sortsOf : ByteArray := prog_10_method_62_code
def yX8_sortsOf : MethodName := ⟨RX8, "sortsOf", "(I)I"⟩
abbrev cX8_askOf : ByteArray := prog_10_method_63_code
def yX8_askOf : MethodName := ⟨RX8, "askOf", "(I)I"⟩
abbrev cX8_draw : ByteArray := prog_10_method_64_code
def yX8_draw : MethodName := ⟨RX8, "draw", "(I)I"⟩
abbrev cX8_drawBox : ByteArray := prog_10_method_65_code
def yX8_drawBox : MethodName := ⟨RX8, "drawBox", "(I)V"⟩
abbrev cX8_drawn : ByteArray := prog_10_method_66_code
def yX8_drawn : MethodName := ⟨RX8, "drawn", "(III)I"⟩
abbrev cX8_image : ByteArray := prog_10_method_67_code
def yX8_image : MethodName := ⟨RX8, "image", "()I"⟩
abbrev cX8_restore : ByteArray := prog_10_method_68_code
def yX8_restore : MethodName := ⟨RX8, "restore", "()I"⟩
abbrev cX8_boundMany : ByteArray := prog_10_method_69_code
def yX8_boundMany : MethodName := ⟨RX8, "boundMany", "()I"⟩
abbrev cX8_countOf : ByteArray := prog_10_method_70_code
def yX8_countOf : MethodName := ⟨RX8, "countOf", "(I)I"⟩
abbrev cX8_count : ByteArray := prog_10_method_71_code
def yX8_count : MethodName := ⟨RX8, "count", "(I)I"⟩
abbrev cX8_say : ByteArray := prog_10_method_72_code
def yX8_say : MethodName := ⟨RX8, "say", "(J)V"⟩
abbrev cX8_sayPage : ByteArray := prog_10_method_73_code
def yX8_sayPage : MethodName := ⟨RX8, "sayPage", "()V"⟩
abbrev cX8_digest : ByteArray := prog_10_method_74_code
def yX8_digest : MethodName := ⟨RX8, "digest", "()J"⟩
def RJ11 : String := "java/lang/Character"
abbrev cJ11_isValidCodePoint_9a6ad : ByteArray := prog_11_method_11_code
def yJ11_isValidCodePoint_9a6ad : MethodName := ⟨RJ11, "isValidCodePoint", "(I)Z"⟩
abbrev cJ11_highSurrogate_5068e : ByteArray := prog_11_method_28_code
def yJ11_highSurrogate_5068e : MethodName := ⟨RJ11, "highSurrogate", "(I)C"⟩
abbrev cJ11_lowSurrogate_5068e : ByteArray := prog_11_method_29_code
def yJ11_lowSurrogate_5068e : MethodName := ⟨RJ11, "lowSurrogate", "(I)C"⟩
def RJ6 : String := "java/lang/Integer"
abbrev cJ6_bitCount_0f7a4 : ByteArray := prog_12_method_49_code
def yJ6_bitCount_0f7a4 : MethodName := ⟨RJ6, "bitCount", "(I)I"⟩
def RJ9 : String := "java/lang/Math"
abbrev cJ9_max_7cf53 : ByteArray := prog_13_method_65_code
def yJ9_max_7cf53 : MethodName := ⟨RJ9, "max", "(II)I"⟩
abbrev cJ9_min_7cf53 : ByteArray := prog_13_method_69_code
def yJ9_min_7cf53 : MethodName := ⟨RJ9, "min", "(II)I"⟩
def RJ0 : String := "java/lang/String"
abbrev cJ0_length_8abf5 : ByteArray := prog_14_method_54_code
def yJ0_length_8abf5 : MethodName := ⟨RJ0, "length", "()I"⟩
abbrev cJ0_indexOf_0f7a4 : ByteArray := prog_14_method_79_code
def yJ0_indexOf_0f7a4 : MethodName := ⟨RJ0, "indexOf", "(I)I"⟩
abbrev cJ0_indexOf_7cf53 : ByteArray := prog_14_method_80_code
def yJ0_indexOf_7cf53 : MethodName := ⟨RJ0, "indexOf", "(II)I"⟩
abbrev cJ0_coder_7d493 : ByteArray := prog_14_method_152_code
def yJ0_coder_7d493 : MethodName := ⟨RJ0, "coder", "()B"⟩
abbrev cJ0_isLatin1_aae02 : ByteArray := prog_14_method_154_code
def yJ0_isLatin1_aae02 : MethodName := ⟨RJ0, "isLatin1", "()Z"⟩
abbrev cJ0_checkBoundsBeginEnd_23922 : ByteArray := prog_14_method_158_code
def yJ0_checkBoundsBeginEnd_23922 : MethodName := ⟨RJ0, "checkBoundsBeginEnd", "(III)V"⟩
def RJ1 : String := "java/lang/StringLatin1"
abbrev cJ1_canEncode_9a6ad : ByteArray := prog_15_method_4_code
def yJ1_canEncode_9a6ad : MethodName := ⟨RJ1, "canEncode", "(I)Z"⟩
abbrev cJ1_indexOf_4cfef : ByteArray := prog_15_method_22_code
def yJ1_indexOf_4cfef : MethodName := ⟨RJ1, "indexOf", "([BIII)I"⟩
abbrev cJ1_indexOfChar_4cfef : ByteArray := prog_15_method_23_code
def yJ1_indexOfChar_4cfef : MethodName := ⟨RJ1, "indexOfChar", "([BIII)I"⟩
def RJ2 : String := "java/lang/StringUTF16"
abbrev cJ2_getChar_3b067 : ByteArray := prog_16_method_5_code
def yJ2_getChar_3b067 : MethodName := ⟨RJ2, "getChar", "([BI)C"⟩
abbrev cJ2_length_9d52b : ByteArray := prog_16_method_6_code
def yJ2_length_9d52b : MethodName := ⟨RJ2, "length", "([B)I"⟩
abbrev cJ2_indexOf_4cfef : ByteArray := prog_16_method_40_code
def yJ2_indexOf_4cfef : MethodName := ⟨RJ2, "indexOf", "([BIII)I"⟩
abbrev cJ2_indexOfChar_4cfef : ByteArray := prog_16_method_47_code
def yJ2_indexOfChar_4cfef : MethodName := ⟨RJ2, "indexOfChar", "([BIII)I"⟩
abbrev cJ2_indexOfCharUnsafe_4cfef : ByteArray := prog_16_method_48_code
def yJ2_indexOfCharUnsafe_4cfef : MethodName := ⟨RJ2, "indexOfCharUnsafe", "([BIII)I"⟩
abbrev cJ2_indexOfSupplementary_4cfef : ByteArray := prog_16_method_49_code
def yJ2_indexOfSupplementary_4cfef : MethodName := ⟨RJ2, "indexOfSupplementary", "([BIII)I"⟩
abbrev cJ2_checkBoundsBeginEnd_d044e : ByteArray := prog_16_method_93_code
def yJ2_checkBoundsBeginEnd_d044e : MethodName := ⟨RJ2, "checkBoundsBeginEnd", "(II[B)V"⟩
def RJ10 : String := "java/lang/System"
def RJ3 : String := "jdk/internal/util/Preconditions"
abbrev cJ3_checkFromToIndex_8c36e : ByteArray := prog_18_method_12_code
def yJ3_checkFromToIndex_8c36e : MethodName := ⟨RJ3, "checkFromToIndex", "(IIILjava/util/function/BiFunction;)I"⟩
def RL : String := "LaneOrderLaw"
abbrev cL_law : ByteArray := code
def yL_law : MethodName := ⟨RL, "law", "([I)Z"⟩
abbrev vwCl : List vw_C := [(RX0, TX0, 6), (RX1, TX1, 1), (RX2, TX2, 4), (RX3, TX3, 13), (RX4, TX4, 3), (RX5, TX5, 8), (RX6, TX6, 2), (RX7, TX7, 9), (RX8, TX8, 40)]
end
section
theorem dX0_init_0 : decode cX0_init 0 = .ok (.aload_n 0, 1) := by decide +kernel
theorem dX0_init_1 : decode cX0_init 1 = .ok (.invokespecial 3, 3) := by decide +kernel
theorem dX0_init_4 : decode cX0_init 4 = .ok (.aload_n 0, 1) := by decide +kernel
theorem dX0_init_5 : decode cX0_init 5 = .ok (.bipush 7, 2) := by decide +kernel
theorem dX0_init_7 : decode cX0_init 7 = .ok (.newarray .int, 2) := by decide +kernel
theorem dX0_init_9 : decode cX0_init 9 = .ok (.putfield 9, 3) := by decide +kernel
theorem dX0_init_12 : decode cX0_init 12 = .ok (.aload_n 0, 1) := by decide +kernel
theorem dX0_init_13 : decode cX0_init 13 = .ok (.bipush 7, 2) := by decide +kernel
theorem dX0_init_15 : decode cX0_init 15 = .ok (.newarray .int, 2) := by decide +kernel
theorem dX0_init_17 : decode cX0_init 17 = .ok (.putfield 15, 3) := by decide +kernel
theorem dX0_init_20 : decode cX0_init 20 = .ok (.aload_n 0, 1) := by decide +kernel
theorem dX0_init_21 : decode cX0_init 21 = .ok (.bipush 7, 2) := by decide +kernel
theorem dX0_init_23 : decode cX0_init 23 = .ok (.newarray .int, 2) := by decide +kernel
theorem dX0_init_25 : decode cX0_init 25 = .ok (.putfield 18, 3) := by decide +kernel
theorem dX0_init_28 : decode cX0_init 28 = .ok (.aload_n 0, 1) := by decide +kernel
theorem dX0_init_29 : decode cX0_init 29 = .ok (.bipush 7, 2) := by decide +kernel
theorem dX0_init_31 : decode cX0_init 31 = .ok (.newarray .int, 2) := by decide +kernel
theorem dX0_init_33 : decode cX0_init 33 = .ok (.putfield 21, 3) := by decide +kernel
theorem dX0_init_36 : decode cX0_init 36 = .ok (.aload_n 0, 1) := by decide +kernel
theorem dX0_init_37 : decode cX0_init 37 = .ok (.bipush 7, 2) := by decide +kernel
theorem dX0_init_39 : decode cX0_init 39 = .ok (.newarray .int, 2) := by decide +kernel
theorem dX0_init_41 : decode cX0_init 41 = .ok (.putfield 24, 3) := by decide +kernel
theorem dX0_init_44 : decode cX0_init 44 = .ok (.return_, 1) := by decide +kernel
theorem dX0_clear_0 : decode cX0_clear 0 = .ok (.aload_n 0, 1) := by decide +kernel
theorem dX0_clear_1 : decode cX0_clear 1 = .ok (.iconst 0, 1) := by decide +kernel
theorem dX0_clear_2 : decode cX0_clear 2 = .ok (.putfield 27, 3) := by decide +kernel
theorem dX0_clear_5 : decode cX0_clear 5 = .ok (.return_, 1) := by decide +kernel
theorem dX0_add_0 : decode cX0_add 0 = .ok (.aload_n 0, 1) := by decide +kernel
theorem dX0_add_1 : decode cX0_add 1 = .ok (.getfield 27, 3) := by decide +kernel
theorem dX0_add_4 : decode cX0_add 4 = .ok (.bipush 7, 2) := by decide +kernel
theorem dX0_add_6 : decode cX0_add 6 = .ok (.if_icmp .ge 65, 3) := by decide +kernel
theorem dX0_add_9 : decode cX0_add 9 = .ok (.aload_n 0, 1) := by decide +kernel
theorem dX0_add_10 : decode cX0_add 10 = .ok (.getfield 9, 3) := by decide +kernel
theorem dX0_add_13 : decode cX0_add 13 = .ok (.aload_n 0, 1) := by decide +kernel
theorem dX0_add_14 : decode cX0_add 14 = .ok (.getfield 27, 3) := by decide +kernel
theorem dX0_add_17 : decode cX0_add 17 = .ok (.iload_n 1, 1) := by decide +kernel
theorem dX0_add_18 : decode cX0_add 18 = .ok (.iastore, 1) := by decide +kernel
theorem dX0_add_19 : decode cX0_add 19 = .ok (.aload_n 0, 1) := by decide +kernel
theorem dX0_add_20 : decode cX0_add 20 = .ok (.getfield 15, 3) := by decide +kernel
theorem dX0_add_23 : decode cX0_add 23 = .ok (.aload_n 0, 1) := by decide +kernel
theorem dX0_add_24 : decode cX0_add 24 = .ok (.getfield 27, 3) := by decide +kernel
theorem dX0_add_27 : decode cX0_add 27 = .ok (.iload_n 2, 1) := by decide +kernel
theorem dX0_add_28 : decode cX0_add 28 = .ok (.iastore, 1) := by decide +kernel
theorem dX0_add_29 : decode cX0_add 29 = .ok (.aload_n 0, 1) := by decide +kernel
theorem dX0_add_30 : decode cX0_add 30 = .ok (.getfield 18, 3) := by decide +kernel
theorem dX0_add_33 : decode cX0_add 33 = .ok (.aload_n 0, 1) := by decide +kernel
theorem dX0_add_34 : decode cX0_add 34 = .ok (.getfield 27, 3) := by decide +kernel
theorem dX0_add_37 : decode cX0_add 37 = .ok (.iload_n 3, 1) := by decide +kernel
theorem dX0_add_38 : decode cX0_add 38 = .ok (.iastore, 1) := by decide +kernel
theorem dX0_add_39 : decode cX0_add 39 = .ok (.aload_n 0, 1) := by decide +kernel
theorem dX0_add_40 : decode cX0_add 40 = .ok (.getfield 21, 3) := by decide +kernel
theorem dX0_add_43 : decode cX0_add 43 = .ok (.aload_n 0, 1) := by decide +kernel
theorem dX0_add_44 : decode cX0_add 44 = .ok (.getfield 27, 3) := by decide +kernel
theorem dX0_add_47 : decode cX0_add 47 = .ok (.iload 4, 2) := by decide +kernel
theorem dX0_add_49 : decode cX0_add 49 = .ok (.iastore, 1) := by decide +kernel
theorem dX0_add_50 : decode cX0_add 50 = .ok (.aload_n 0, 1) := by decide +kernel
theorem dX0_add_51 : decode cX0_add 51 = .ok (.getfield 24, 3) := by decide +kernel
theorem dX0_add_54 : decode cX0_add 54 = .ok (.aload_n 0, 1) := by decide +kernel
theorem dX0_add_55 : decode cX0_add 55 = .ok (.getfield 27, 3) := by decide +kernel
theorem dX0_add_58 : decode cX0_add 58 = .ok (.iload 5, 2) := by decide +kernel
theorem dX0_add_60 : decode cX0_add 60 = .ok (.iastore, 1) := by decide +kernel
theorem dX0_add_61 : decode cX0_add 61 = .ok (.aload_n 0, 1) := by decide +kernel
theorem dX0_add_62 : decode cX0_add 62 = .ok (.dup, 1) := by decide +kernel
theorem dX0_add_63 : decode cX0_add 63 = .ok (.getfield 27, 3) := by decide +kernel
theorem dX0_add_66 : decode cX0_add 66 = .ok (.iconst 1, 1) := by decide +kernel
theorem dX0_add_67 : decode cX0_add 67 = .ok (.iadd, 1) := by decide +kernel
theorem dX0_add_68 : decode cX0_add 68 = .ok (.putfield 27, 3) := by decide +kernel
theorem dX0_add_71 : decode cX0_add 71 = .ok (.return_, 1) := by decide +kernel
theorem dX1_init_0 : decode cX1_init 0 = .ok (.aload_n 0, 1) := by decide +kernel
theorem dX1_init_1 : decode cX1_init 1 = .ok (.invokespecial 3, 3) := by decide +kernel
theorem dX1_init_4 : decode cX1_init 4 = .ok (.return_, 1) := by decide +kernel
theorem dX1_drawTo_0 : decode cX1_drawTo 0 = .ok (.aload_n 1, 1) := by decide +kernel
theorem dX1_drawTo_1 : decode cX1_drawTo 1 = .ok (.invokevirtual 9, 3) := by decide +kernel
theorem dX1_drawTo_4 : decode cX1_drawTo 4 = .ok (.iconst 0, 1) := by decide +kernel
theorem dX1_drawTo_5 : decode cX1_drawTo 5 = .ok (.istore_n 2, 1) := by decide +kernel
theorem dX1_drawTo_6 : decode cX1_drawTo 6 = .ok (.iload_n 2, 1) := by decide +kernel
theorem dX1_drawTo_7 : decode cX1_drawTo 7 = .ok (.iconst 5, 1) := by decide +kernel
theorem dX1_drawTo_8 : decode cX1_drawTo 8 = .ok (.if_icmp .ge 53, 3) := by decide +kernel
theorem dX1_drawTo_11 : decode cX1_drawTo 11 = .ok (.aload_n 0, 1) := by decide +kernel
theorem dX1_drawTo_12 : decode cX1_drawTo 12 = .ok (.invokevirtual 16, 3) := by decide +kernel
theorem dX1_drawTo_15 : decode cX1_drawTo 15 = .ok (.istore_n 3, 1) := by decide +kernel
theorem dX1_drawTo_16 : decode cX1_drawTo 16 = .ok (.aload_n 0, 1) := by decide +kernel
theorem dX1_drawTo_17 : decode cX1_drawTo 17 = .ok (.invokevirtual 16, 3) := by decide +kernel
theorem dX1_drawTo_20 : decode cX1_drawTo 20 = .ok (.istore 4, 2) := by decide +kernel
theorem dX1_drawTo_22 : decode cX1_drawTo 22 = .ok (.iload_n 3, 1) := by decide +kernel
theorem dX1_drawTo_23 : decode cX1_drawTo 23 = .ok (.iconst 1, 1) := by decide +kernel
theorem dX1_drawTo_24 : decode cX1_drawTo 24 = .ok (.iadd, 1) := by decide +kernel
theorem dX1_drawTo_25 : decode cX1_drawTo 25 = .ok (.aload_n 0, 1) := by decide +kernel
theorem dX1_drawTo_26 : decode cX1_drawTo 26 = .ok (.invokevirtual 20, 3) := by decide +kernel
theorem dX1_drawTo_29 : decode cX1_drawTo 29 = .ok (.iadd, 1) := by decide +kernel
theorem dX1_drawTo_30 : decode cX1_drawTo 30 = .ok (.istore 5, 2) := by decide +kernel
theorem dX1_drawTo_32 : decode cX1_drawTo 32 = .ok (.iload 4, 2) := by decide +kernel
theorem dX1_drawTo_34 : decode cX1_drawTo 34 = .ok (.iconst 1, 1) := by decide +kernel
theorem dX1_drawTo_35 : decode cX1_drawTo 35 = .ok (.iadd, 1) := by decide +kernel
theorem dX1_drawTo_36 : decode cX1_drawTo 36 = .ok (.aload_n 0, 1) := by decide +kernel
theorem dX1_drawTo_37 : decode cX1_drawTo 37 = .ok (.invokevirtual 20, 3) := by decide +kernel
theorem dX1_drawTo_40 : decode cX1_drawTo 40 = .ok (.iadd, 1) := by decide +kernel
theorem dX1_drawTo_41 : decode cX1_drawTo 41 = .ok (.istore 6, 2) := by decide +kernel
theorem dX1_drawTo_43 : decode cX1_drawTo 43 = .ok (.aload_n 1, 1) := by decide +kernel
theorem dX1_drawTo_44 : decode cX1_drawTo 44 = .ok (.iconst 0, 1) := by decide +kernel
theorem dX1_drawTo_45 : decode cX1_drawTo 45 = .ok (.iload_n 3, 1) := by decide +kernel
theorem dX1_drawTo_46 : decode cX1_drawTo 46 = .ok (.iload 4, 2) := by decide +kernel
theorem dX1_drawTo_48 : decode cX1_drawTo 48 = .ok (.iload 5, 2) := by decide +kernel
theorem dX1_drawTo_50 : decode cX1_drawTo 50 = .ok (.iload 6, 2) := by decide +kernel
theorem dX1_drawTo_52 : decode cX1_drawTo 52 = .ok (.invokevirtual 23, 3) := by decide +kernel
theorem dX1_drawTo_55 : decode cX1_drawTo 55 = .ok (.iinc 2 1, 3) := by decide +kernel
theorem dX1_drawTo_58 : decode cX1_drawTo 58 = .ok (.goto (-52), 3) := by decide +kernel
theorem dX1_drawTo_61 : decode cX1_drawTo 61 = .ok (.aload_n 1, 1) := by decide +kernel
theorem dX1_drawTo_62 : decode cX1_drawTo 62 = .ok (.iconst 2, 1) := by decide +kernel
theorem dX1_drawTo_63 : decode cX1_drawTo 63 = .ok (.invokevirtual 27, 3) := by decide +kernel
theorem dX1_drawTo_66 : decode cX1_drawTo 66 = .ok (.aload_n 1, 1) := by decide +kernel
theorem dX1_drawTo_67 : decode cX1_drawTo 67 = .ok (.iconst 3, 1) := by decide +kernel
theorem dX1_drawTo_68 : decode cX1_drawTo 68 = .ok (.invokevirtual 27, 3) := by decide +kernel
theorem dX1_drawTo_71 : decode cX1_drawTo 71 = .ok (.return_, 1) := by decide +kernel
theorem dX1_ofEight_0 : decode cX1_ofEight 0 = .ok (.aload_n 0, 1) := by decide +kernel
theorem dX1_ofEight_1 : decode cX1_ofEight 1 = .ok (.invokevirtual 31, 3) := by decide +kernel
theorem dX1_ofEight_4 : decode cX1_ofEight 4 = .ok (.aload_n 0, 1) := by decide +kernel
theorem dX1_ofEight_5 : decode cX1_ofEight 5 = .ok (.getfield 34, 3) := by decide +kernel
theorem dX1_ofEight_8 : decode cX1_ofEight 8 = .ok (.ldc 38, 2) := by decide +kernel
theorem dX1_ofEight_10 : decode cX1_ofEight 10 = .ok (.idiv, 1) := by decide +kernel
theorem dX1_ofEight_11 : decode cX1_ofEight 11 = .ok (.bipush 8, 2) := by decide +kernel
theorem dX1_ofEight_13 : decode cX1_ofEight 13 = .ok (.irem, 1) := by decide +kernel
theorem dX1_ofEight_14 : decode cX1_ofEight 14 = .ok (.ireturn, 1) := by decide +kernel
theorem dX1_ofThree_0 : decode cX1_ofThree 0 = .ok (.aload_n 0, 1) := by decide +kernel
theorem dX1_ofThree_1 : decode cX1_ofThree 1 = .ok (.invokevirtual 31, 3) := by decide +kernel
theorem dX1_ofThree_4 : decode cX1_ofThree 4 = .ok (.aload_n 0, 1) := by decide +kernel
theorem dX1_ofThree_5 : decode cX1_ofThree 5 = .ok (.getfield 34, 3) := by decide +kernel
theorem dX1_ofThree_8 : decode cX1_ofThree 8 = .ok (.ldc 38, 2) := by decide +kernel
theorem dX1_ofThree_10 : decode cX1_ofThree 10 = .ok (.idiv, 1) := by decide +kernel
theorem dX1_ofThree_11 : decode cX1_ofThree 11 = .ok (.iconst 3, 1) := by decide +kernel
theorem dX1_ofThree_12 : decode cX1_ofThree 12 = .ok (.irem, 1) := by decide +kernel
theorem dX1_ofThree_13 : decode cX1_ofThree 13 = .ok (.ireturn, 1) := by decide +kernel
theorem dX1_step_0 : decode cX1_step 0 = .ok (.aload_n 0, 1) := by decide +kernel
theorem dX1_step_1 : decode cX1_step 1 = .ok (.ldc 39, 2) := by decide +kernel
theorem dX1_step_3 : decode cX1_step 3 = .ok (.aload_n 0, 1) := by decide +kernel
theorem dX1_step_4 : decode cX1_step 4 = .ok (.getfield 34, 3) := by decide +kernel
theorem dX1_step_7 : decode cX1_step 7 = .ok (.imul, 1) := by decide +kernel
theorem dX1_step_8 : decode cX1_step 8 = .ok (.sipush 12345, 3) := by decide +kernel
theorem dX1_step_11 : decode cX1_step 11 = .ok (.iadd, 1) := by decide +kernel
theorem dX1_step_12 : decode cX1_step 12 = .ok (.ldc 40, 2) := by decide +kernel
theorem dX1_step_14 : decode cX1_step 14 = .ok (.iand, 1) := by decide +kernel
theorem dX1_step_15 : decode cX1_step 15 = .ok (.putfield 34, 3) := by decide +kernel
theorem dX1_step_18 : decode cX1_step 18 = .ok (.return_, 1) := by decide +kernel
theorem dX2_init_0 : decode cX2_init 0 = .ok (.aload_n 0, 1) := by decide +kernel
theorem dX2_init_1 : decode cX2_init 1 = .ok (.invokespecial 3, 3) := by decide +kernel
theorem dX2_init_4 : decode cX2_init 4 = .ok (.aload_n 0, 1) := by decide +kernel
theorem dX2_init_5 : decode cX2_init 5 = .ok (.bipush 14, 2) := by decide +kernel
theorem dX2_init_7 : decode cX2_init 7 = .ok (.newarray .int, 2) := by decide +kernel
theorem dX2_init_9 : decode cX2_init 9 = .ok (.putfield 9, 3) := by decide +kernel
theorem dX2_init_12 : decode cX2_init 12 = .ok (.aload_n 0, 1) := by decide +kernel
theorem dX2_init_13 : decode cX2_init 13 = .ok (.bipush 14, 2) := by decide +kernel
theorem dX2_init_15 : decode cX2_init 15 = .ok (.newarray .int, 2) := by decide +kernel
theorem dX2_init_17 : decode cX2_init 17 = .ok (.putfield 15, 3) := by decide +kernel
theorem dX2_init_20 : decode cX2_init 20 = .ok (.aload_n 0, 1) := by decide +kernel
theorem dX2_init_21 : decode cX2_init 21 = .ok (.bipush 14, 2) := by decide +kernel
theorem dX2_init_23 : decode cX2_init 23 = .ok (.newarray .int, 2) := by decide +kernel
theorem dX2_init_25 : decode cX2_init 25 = .ok (.putfield 18, 3) := by decide +kernel
theorem dX2_init_28 : decode cX2_init 28 = .ok (.return_, 1) := by decide +kernel
theorem dX2_clear_0 : decode cX2_clear 0 = .ok (.aload_n 0, 1) := by decide +kernel
theorem dX2_clear_1 : decode cX2_clear 1 = .ok (.iconst 0, 1) := by decide +kernel
theorem dX2_clear_2 : decode cX2_clear 2 = .ok (.putfield 21, 3) := by decide +kernel
theorem dX2_clear_5 : decode cX2_clear 5 = .ok (.return_, 1) := by decide +kernel
theorem dX2_has_0 : decode cX2_has 0 = .ok (.iconst 0, 1) := by decide +kernel
theorem dX2_has_1 : decode cX2_has 1 = .ok (.istore_n 3, 1) := by decide +kernel
theorem dX2_has_2 : decode cX2_has 2 = .ok (.iload_n 3, 1) := by decide +kernel
theorem dX2_has_3 : decode cX2_has 3 = .ok (.aload_n 0, 1) := by decide +kernel
theorem dX2_has_4 : decode cX2_has 4 = .ok (.getfield 21, 3) := by decide +kernel
theorem dX2_has_7 : decode cX2_has 7 = .ok (.if_icmp .ge 31, 3) := by decide +kernel
theorem dX2_has_10 : decode cX2_has 10 = .ok (.aload_n 0, 1) := by decide +kernel
theorem dX2_has_11 : decode cX2_has 11 = .ok (.getfield 9, 3) := by decide +kernel
theorem dX2_has_14 : decode cX2_has 14 = .ok (.iload_n 3, 1) := by decide +kernel
theorem dX2_has_15 : decode cX2_has 15 = .ok (.iaload, 1) := by decide +kernel
theorem dX2_has_16 : decode cX2_has 16 = .ok (.iload_n 1, 1) := by decide +kernel
theorem dX2_has_17 : decode cX2_has 17 = .ok (.if_icmp .ne 15, 3) := by decide +kernel
theorem dX2_has_20 : decode cX2_has 20 = .ok (.aload_n 0, 1) := by decide +kernel
theorem dX2_has_21 : decode cX2_has 21 = .ok (.getfield 15, 3) := by decide +kernel
theorem dX2_has_24 : decode cX2_has 24 = .ok (.iload_n 3, 1) := by decide +kernel
theorem dX2_has_25 : decode cX2_has 25 = .ok (.iaload, 1) := by decide +kernel
theorem dX2_has_26 : decode cX2_has 26 = .ok (.iload_n 2, 1) := by decide +kernel
theorem dX2_has_27 : decode cX2_has 27 = .ok (.if_icmp .ne 5, 3) := by decide +kernel
theorem dX2_has_30 : decode cX2_has 30 = .ok (.iconst 1, 1) := by decide +kernel
theorem dX2_has_31 : decode cX2_has 31 = .ok (.ireturn, 1) := by decide +kernel
theorem dX2_has_32 : decode cX2_has 32 = .ok (.iinc 3 1, 3) := by decide +kernel
theorem dX2_has_35 : decode cX2_has 35 = .ok (.goto (-33), 3) := by decide +kernel
theorem dX2_has_38 : decode cX2_has 38 = .ok (.iconst 0, 1) := by decide +kernel
theorem dX2_has_39 : decode cX2_has 39 = .ok (.ireturn, 1) := by decide +kernel
theorem dX2_add_0 : decode cX2_add 0 = .ok (.aload_n 0, 1) := by decide +kernel
theorem dX2_add_1 : decode cX2_add 1 = .ok (.getfield 21, 3) := by decide +kernel
theorem dX2_add_4 : decode cX2_add 4 = .ok (.bipush 14, 2) := by decide +kernel
theorem dX2_add_6 : decode cX2_add 6 = .ok (.if_icmp .lt 4, 3) := by decide +kernel
theorem dX2_add_9 : decode cX2_add 9 = .ok (.return_, 1) := by decide +kernel
theorem dX2_add_10 : decode cX2_add 10 = .ok (.aload_n 0, 1) := by decide +kernel
theorem dX2_add_11 : decode cX2_add 11 = .ok (.getfield 21, 3) := by decide +kernel
theorem dX2_add_14 : decode cX2_add 14 = .ok (.istore 4, 2) := by decide +kernel
theorem dX2_add_16 : decode cX2_add 16 = .ok (.iload 4, 2) := by decide +kernel
theorem dX2_add_18 : decode cX2_add 18 = .ok (.ifCond .le 71, 3) := by decide +kernel
theorem dX2_add_21 : decode cX2_add 21 = .ok (.aload_n 0, 1) := by decide +kernel
theorem dX2_add_22 : decode cX2_add 22 = .ok (.iload 4, 2) := by decide +kernel
theorem dX2_add_24 : decode cX2_add 24 = .ok (.iconst 1, 1) := by decide +kernel
theorem dX2_add_25 : decode cX2_add 25 = .ok (.isub, 1) := by decide +kernel
theorem dX2_add_26 : decode cX2_add 26 = .ok (.iload_n 1, 1) := by decide +kernel
theorem dX2_add_27 : decode cX2_add 27 = .ok (.iload_n 2, 1) := by decide +kernel
theorem dX2_add_28 : decode cX2_add 28 = .ok (.iload_n 3, 1) := by decide +kernel
theorem dX2_add_29 : decode cX2_add 29 = .ok (.invokevirtual 25, 3) := by decide +kernel
theorem dX2_add_32 : decode cX2_add 32 = .ok (.ifCond .eq 57, 3) := by decide +kernel
theorem dX2_add_35 : decode cX2_add 35 = .ok (.aload_n 0, 1) := by decide +kernel
theorem dX2_add_36 : decode cX2_add 36 = .ok (.getfield 9, 3) := by decide +kernel
theorem dX2_add_39 : decode cX2_add 39 = .ok (.iload 4, 2) := by decide +kernel
theorem dX2_add_41 : decode cX2_add 41 = .ok (.aload_n 0, 1) := by decide +kernel
theorem dX2_add_42 : decode cX2_add 42 = .ok (.getfield 9, 3) := by decide +kernel
theorem dX2_add_45 : decode cX2_add 45 = .ok (.iload 4, 2) := by decide +kernel
theorem dX2_add_47 : decode cX2_add 47 = .ok (.iconst 1, 1) := by decide +kernel
theorem dX2_add_48 : decode cX2_add 48 = .ok (.isub, 1) := by decide +kernel
theorem dX2_add_49 : decode cX2_add 49 = .ok (.iaload, 1) := by decide +kernel
theorem dX2_add_50 : decode cX2_add 50 = .ok (.iastore, 1) := by decide +kernel
theorem dX2_add_51 : decode cX2_add 51 = .ok (.aload_n 0, 1) := by decide +kernel
theorem dX2_add_52 : decode cX2_add 52 = .ok (.getfield 15, 3) := by decide +kernel
theorem dX2_add_55 : decode cX2_add 55 = .ok (.iload 4, 2) := by decide +kernel
theorem dX2_add_57 : decode cX2_add 57 = .ok (.aload_n 0, 1) := by decide +kernel
theorem dX2_add_58 : decode cX2_add 58 = .ok (.getfield 15, 3) := by decide +kernel
theorem dX2_add_61 : decode cX2_add 61 = .ok (.iload 4, 2) := by decide +kernel
theorem dX2_add_63 : decode cX2_add 63 = .ok (.iconst 1, 1) := by decide +kernel
theorem dX2_add_64 : decode cX2_add 64 = .ok (.isub, 1) := by decide +kernel
theorem dX2_add_65 : decode cX2_add 65 = .ok (.iaload, 1) := by decide +kernel
theorem dX2_add_66 : decode cX2_add 66 = .ok (.iastore, 1) := by decide +kernel
theorem dX2_add_67 : decode cX2_add 67 = .ok (.aload_n 0, 1) := by decide +kernel
theorem dX2_add_68 : decode cX2_add 68 = .ok (.getfield 18, 3) := by decide +kernel
theorem dX2_add_71 : decode cX2_add 71 = .ok (.iload 4, 2) := by decide +kernel
theorem dX2_add_73 : decode cX2_add 73 = .ok (.aload_n 0, 1) := by decide +kernel
theorem dX2_add_74 : decode cX2_add 74 = .ok (.getfield 18, 3) := by decide +kernel
theorem dX2_add_77 : decode cX2_add 77 = .ok (.iload 4, 2) := by decide +kernel
theorem dX2_add_79 : decode cX2_add 79 = .ok (.iconst 1, 1) := by decide +kernel
theorem dX2_add_80 : decode cX2_add 80 = .ok (.isub, 1) := by decide +kernel
theorem dX2_add_81 : decode cX2_add 81 = .ok (.iaload, 1) := by decide +kernel
theorem dX2_add_82 : decode cX2_add 82 = .ok (.iastore, 1) := by decide +kernel
theorem dX2_add_83 : decode cX2_add 83 = .ok (.iinc 4 (-1), 3) := by decide +kernel
theorem dX2_add_86 : decode cX2_add 86 = .ok (.goto (-70), 3) := by decide +kernel
theorem dX2_add_89 : decode cX2_add 89 = .ok (.aload_n 0, 1) := by decide +kernel
theorem dX2_add_90 : decode cX2_add 90 = .ok (.getfield 9, 3) := by decide +kernel
theorem dX2_add_93 : decode cX2_add 93 = .ok (.iload 4, 2) := by decide +kernel
theorem dX2_add_95 : decode cX2_add 95 = .ok (.iload_n 1, 1) := by decide +kernel
theorem dX2_add_96 : decode cX2_add 96 = .ok (.iastore, 1) := by decide +kernel
theorem dX2_add_97 : decode cX2_add 97 = .ok (.aload_n 0, 1) := by decide +kernel
theorem dX2_add_98 : decode cX2_add 98 = .ok (.getfield 15, 3) := by decide +kernel
theorem dX2_add_101 : decode cX2_add 101 = .ok (.iload 4, 2) := by decide +kernel
theorem dX2_add_103 : decode cX2_add 103 = .ok (.iload_n 2, 1) := by decide +kernel
theorem dX2_add_104 : decode cX2_add 104 = .ok (.iastore, 1) := by decide +kernel
theorem dX2_add_105 : decode cX2_add 105 = .ok (.aload_n 0, 1) := by decide +kernel
theorem dX2_add_106 : decode cX2_add 106 = .ok (.getfield 18, 3) := by decide +kernel
theorem dX2_add_109 : decode cX2_add 109 = .ok (.iload 4, 2) := by decide +kernel
theorem dX2_add_111 : decode cX2_add 111 = .ok (.iload_n 3, 1) := by decide +kernel
theorem dX2_add_112 : decode cX2_add 112 = .ok (.iastore, 1) := by decide +kernel
theorem dX2_add_113 : decode cX2_add 113 = .ok (.aload_n 0, 1) := by decide +kernel
theorem dX2_add_114 : decode cX2_add 114 = .ok (.dup, 1) := by decide +kernel
theorem dX2_add_115 : decode cX2_add 115 = .ok (.getfield 21, 3) := by decide +kernel
theorem dX2_add_118 : decode cX2_add 118 = .ok (.iconst 1, 1) := by decide +kernel
theorem dX2_add_119 : decode cX2_add 119 = .ok (.iadd, 1) := by decide +kernel
theorem dX2_add_120 : decode cX2_add 120 = .ok (.putfield 21, 3) := by decide +kernel
theorem dX2_add_123 : decode cX2_add 123 = .ok (.return_, 1) := by decide +kernel
theorem dX2_isBehind_0 : decode cX2_isBehind 0 = .ok (.aload_n 0, 1) := by decide +kernel
theorem dX2_isBehind_1 : decode cX2_isBehind 1 = .ok (.getfield 18, 3) := by decide +kernel
theorem dX2_isBehind_4 : decode cX2_isBehind 4 = .ok (.iload_n 1, 1) := by decide +kernel
theorem dX2_isBehind_5 : decode cX2_isBehind 5 = .ok (.iaload, 1) := by decide +kernel
theorem dX2_isBehind_6 : decode cX2_isBehind 6 = .ok (.iload 4, 2) := by decide +kernel
theorem dX2_isBehind_8 : decode cX2_isBehind 8 = .ok (.if_icmp .eq 20, 3) := by decide +kernel
theorem dX2_isBehind_11 : decode cX2_isBehind 11 = .ok (.aload_n 0, 1) := by decide +kernel
theorem dX2_isBehind_12 : decode cX2_isBehind 12 = .ok (.getfield 18, 3) := by decide +kernel
theorem dX2_isBehind_15 : decode cX2_isBehind 15 = .ok (.iload_n 1, 1) := by decide +kernel
theorem dX2_isBehind_16 : decode cX2_isBehind 16 = .ok (.iaload, 1) := by decide +kernel
theorem dX2_isBehind_17 : decode cX2_isBehind 17 = .ok (.iload 4, 2) := by decide +kernel
theorem dX2_isBehind_19 : decode cX2_isBehind 19 = .ok (.if_icmp .ge 7, 3) := by decide +kernel
theorem dX2_isBehind_22 : decode cX2_isBehind 22 = .ok (.iconst 1, 1) := by decide +kernel
theorem dX2_isBehind_23 : decode cX2_isBehind 23 = .ok (.goto 4, 3) := by decide +kernel
theorem dX2_isBehind_26 : decode cX2_isBehind 26 = .ok (.iconst 0, 1) := by decide +kernel
theorem dX2_isBehind_27 : decode cX2_isBehind 27 = .ok (.ireturn, 1) := by decide +kernel
theorem dX2_isBehind_28 : decode cX2_isBehind 28 = .ok (.aload_n 0, 1) := by decide +kernel
theorem dX2_isBehind_29 : decode cX2_isBehind 29 = .ok (.getfield 9, 3) := by decide +kernel
theorem dX2_isBehind_32 : decode cX2_isBehind 32 = .ok (.iload_n 1, 1) := by decide +kernel
theorem dX2_isBehind_33 : decode cX2_isBehind 33 = .ok (.iaload, 1) := by decide +kernel
theorem dX2_isBehind_34 : decode cX2_isBehind 34 = .ok (.iload_n 2, 1) := by decide +kernel
theorem dX2_isBehind_35 : decode cX2_isBehind 35 = .ok (.if_icmp .eq 16, 3) := by decide +kernel
theorem dX2_isBehind_38 : decode cX2_isBehind 38 = .ok (.iload_n 2, 1) := by decide +kernel
theorem dX2_isBehind_39 : decode cX2_isBehind 39 = .ok (.iconst 1, 1) := by decide +kernel
theorem dX2_isBehind_40 : decode cX2_isBehind 40 = .ok (.if_icmp .ne 7, 3) := by decide +kernel
theorem dX2_isBehind_43 : decode cX2_isBehind 43 = .ok (.iconst 1, 1) := by decide +kernel
theorem dX2_isBehind_44 : decode cX2_isBehind 44 = .ok (.goto 22, 3) := by decide +kernel
theorem dX2_isBehind_47 : decode cX2_isBehind 47 = .ok (.iconst 0, 1) := by decide +kernel
theorem dX2_isBehind_48 : decode cX2_isBehind 48 = .ok (.goto 18, 3) := by decide +kernel
theorem dX2_isBehind_51 : decode cX2_isBehind 51 = .ok (.aload_n 0, 1) := by decide +kernel
theorem dX2_isBehind_52 : decode cX2_isBehind 52 = .ok (.getfield 15, 3) := by decide +kernel
theorem dX2_isBehind_55 : decode cX2_isBehind 55 = .ok (.iload_n 1, 1) := by decide +kernel
theorem dX2_isBehind_56 : decode cX2_isBehind 56 = .ok (.iaload, 1) := by decide +kernel
theorem dX2_isBehind_57 : decode cX2_isBehind 57 = .ok (.iload_n 3, 1) := by decide +kernel
theorem dX2_isBehind_58 : decode cX2_isBehind 58 = .ok (.if_icmp .le 7, 3) := by decide +kernel
theorem dX2_isBehind_61 : decode cX2_isBehind 61 = .ok (.iconst 1, 1) := by decide +kernel
theorem dX2_isBehind_62 : decode cX2_isBehind 62 = .ok (.goto 4, 3) := by decide +kernel
theorem dX2_isBehind_65 : decode cX2_isBehind 65 = .ok (.iconst 0, 1) := by decide +kernel
theorem dX2_isBehind_66 : decode cX2_isBehind 66 = .ok (.ireturn, 1) := by decide +kernel
theorem dX3_init_0 : decode cX3_init 0 = .ok (.aload_n 0, 1) := by decide +kernel
theorem dX3_init_1 : decode cX3_init 1 = .ok (.invokespecial 3, 3) := by decide +kernel
theorem dX3_init_4 : decode cX3_init 4 = .ok (.aload_n 0, 1) := by decide +kernel
theorem dX3_init_5 : decode cX3_init 5 = .ok (.new 9, 3) := by decide +kernel
theorem dX3_init_8 : decode cX3_init 8 = .ok (.dup, 1) := by decide +kernel
theorem dX3_init_9 : decode cX3_init 9 = .ok (.invokespecial 11, 3) := by decide +kernel
theorem dX3_init_12 : decode cX3_init 12 = .ok (.putfield 12, 3) := by decide +kernel
theorem dX3_init_15 : decode cX3_init 15 = .ok (.aload_n 0, 1) := by decide +kernel
theorem dX3_init_16 : decode cX3_init 16 = .ok (.bipush 8, 2) := by decide +kernel
theorem dX3_init_18 : decode cX3_init 18 = .ok (.newarray .int, 2) := by decide +kernel
theorem dX3_init_20 : decode cX3_init 20 = .ok (.putfield 18, 3) := by decide +kernel
theorem dX3_init_23 : decode cX3_init 23 = .ok (.aload_n 0, 1) := by decide +kernel
theorem dX3_init_24 : decode cX3_init 24 = .ok (.bipush 8, 2) := by decide +kernel
theorem dX3_init_26 : decode cX3_init 26 = .ok (.newarray .int, 2) := by decide +kernel
theorem dX3_init_28 : decode cX3_init 28 = .ok (.putfield 22, 3) := by decide +kernel
theorem dX3_init_31 : decode cX3_init 31 = .ok (.aload_n 0, 1) := by decide +kernel
theorem dX3_init_32 : decode cX3_init 32 = .ok (.bipush 8, 2) := by decide +kernel
theorem dX3_init_34 : decode cX3_init 34 = .ok (.newarray .int, 2) := by decide +kernel
theorem dX3_init_36 : decode cX3_init 36 = .ok (.putfield 25, 3) := by decide +kernel
theorem dX3_init_39 : decode cX3_init 39 = .ok (.aload_n 0, 1) := by decide +kernel
theorem dX3_init_40 : decode cX3_init 40 = .ok (.bipush 8, 2) := by decide +kernel
theorem dX3_init_42 : decode cX3_init 42 = .ok (.newarray .int, 2) := by decide +kernel
theorem dX3_init_44 : decode cX3_init 44 = .ok (.putfield 28, 3) := by decide +kernel
theorem dX3_init_47 : decode cX3_init 47 = .ok (.aload_n 0, 1) := by decide +kernel
theorem dX3_init_48 : decode cX3_init 48 = .ok (.bipush 8, 2) := by decide +kernel
theorem dX3_init_50 : decode cX3_init 50 = .ok (.newarray .int, 2) := by decide +kernel
theorem dX3_init_52 : decode cX3_init 52 = .ok (.putfield 31, 3) := by decide +kernel
theorem dX3_init_55 : decode cX3_init 55 = .ok (.aload_n 0, 1) := by decide +kernel
theorem dX3_init_56 : decode cX3_init 56 = .ok (.new 34, 3) := by decide +kernel
theorem dX3_init_59 : decode cX3_init 59 = .ok (.dup, 1) := by decide +kernel
theorem dX3_init_60 : decode cX3_init 60 = .ok (.invokespecial 36, 3) := by decide +kernel
theorem dX3_init_63 : decode cX3_init 63 = .ok (.putfield 37, 3) := by decide +kernel
theorem dX3_init_66 : decode cX3_init 66 = .ok (.aload_n 0, 1) := by decide +kernel
theorem dX3_init_67 : decode cX3_init 67 = .ok (.new 41, 3) := by decide +kernel
theorem dX3_init_70 : decode cX3_init 70 = .ok (.dup, 1) := by decide +kernel
theorem dX3_init_71 : decode cX3_init 71 = .ok (.invokespecial 43, 3) := by decide +kernel
theorem dX3_init_74 : decode cX3_init 74 = .ok (.putfield 44, 3) := by decide +kernel
theorem dX3_init_77 : decode cX3_init 77 = .ok (.aload_n 0, 1) := by decide +kernel
theorem dX3_init_78 : decode cX3_init 78 = .ok (.bipush 8, 2) := by decide +kernel
theorem dX3_init_80 : decode cX3_init 80 = .ok (.newarray .int, 2) := by decide +kernel
theorem dX3_init_82 : decode cX3_init 82 = .ok (.putfield 48, 3) := by decide +kernel
theorem dX3_init_85 : decode cX3_init 85 = .ok (.aload_n 0, 1) := by decide +kernel
theorem dX3_init_86 : decode cX3_init 86 = .ok (.bipush 8, 2) := by decide +kernel
theorem dX3_init_88 : decode cX3_init 88 = .ok (.newarray .int, 2) := by decide +kernel
theorem dX3_init_90 : decode cX3_init 90 = .ok (.putfield 51, 3) := by decide +kernel
theorem dX3_init_93 : decode cX3_init 93 = .ok (.return_, 1) := by decide +kernel
theorem dX3_renew_0 : decode cX3_renew 0 = .ok (.aload_n 0, 1) := by decide +kernel
theorem dX3_renew_1 : decode cX3_renew 1 = .ok (.getfield 37, 3) := by decide +kernel
theorem dX3_renew_4 : decode cX3_renew 4 = .ok (.invokevirtual 54, 3) := by decide +kernel
theorem dX3_renew_7 : decode cX3_renew 7 = .ok (.aload_n 0, 1) := by decide +kernel
theorem dX3_renew_8 : decode cX3_renew 8 = .ok (.iconst 0, 1) := by decide +kernel
theorem dX3_renew_9 : decode cX3_renew 9 = .ok (.putfield 57, 3) := by decide +kernel
theorem dX3_renew_12 : decode cX3_renew 12 = .ok (.aload_n 0, 1) := by decide +kernel
theorem dX3_renew_13 : decode cX3_renew 13 = .ok (.iconst 0, 1) := by decide +kernel
theorem dX3_renew_14 : decode cX3_renew 14 = .ok (.putfield 61, 3) := by decide +kernel
theorem dX3_renew_17 : decode cX3_renew 17 = .ok (.iconst 0, 1) := by decide +kernel
theorem dX3_renew_18 : decode cX3_renew 18 = .ok (.istore_n 1, 1) := by decide +kernel
theorem dX3_renew_19 : decode cX3_renew 19 = .ok (.iload_n 1, 1) := by decide +kernel
theorem dX3_renew_20 : decode cX3_renew 20 = .ok (.aload_n 0, 1) := by decide +kernel
theorem dX3_renew_21 : decode cX3_renew 21 = .ok (.getfield 12, 3) := by decide +kernel
theorem dX3_renew_24 : decode cX3_renew 24 = .ok (.getfield 64, 3) := by decide +kernel
theorem dX3_renew_27 : decode cX3_renew 27 = .ok (.if_icmp .ge 74, 3) := by decide +kernel
theorem dX3_renew_30 : decode cX3_renew 30 = .ok (.aload_n 0, 1) := by decide +kernel
theorem dX3_renew_31 : decode cX3_renew 31 = .ok (.getfield 25, 3) := by decide +kernel
theorem dX3_renew_34 : decode cX3_renew 34 = .ok (.iload_n 1, 1) := by decide +kernel
theorem dX3_renew_35 : decode cX3_renew 35 = .ok (.aload_n 0, 1) := by decide +kernel
theorem dX3_renew_36 : decode cX3_renew 36 = .ok (.getfield 12, 3) := by decide +kernel
theorem dX3_renew_39 : decode cX3_renew 39 = .ok (.getfield 67, 3) := by decide +kernel
theorem dX3_renew_42 : decode cX3_renew 42 = .ok (.iload_n 1, 1) := by decide +kernel
theorem dX3_renew_43 : decode cX3_renew 43 = .ok (.iaload, 1) := by decide +kernel
theorem dX3_renew_44 : decode cX3_renew 44 = .ok (.iconst 4, 1) := by decide +kernel
theorem dX3_renew_45 : decode cX3_renew 45 = .ok (.if_icmp .ne 11, 3) := by decide +kernel
theorem dX3_renew_48 : decode cX3_renew 48 = .ok (.aload_n 0, 1) := by decide +kernel
theorem dX3_renew_49 : decode cX3_renew 49 = .ok (.iload_n 1, 1) := by decide +kernel
theorem dX3_renew_50 : decode cX3_renew 50 = .ok (.invokevirtual 70, 3) := by decide +kernel
theorem dX3_renew_53 : decode cX3_renew 53 = .ok (.goto 4, 3) := by decide +kernel
theorem dX3_renew_56 : decode cX3_renew 56 = .ok (.iconst (-1), 1) := by decide +kernel
theorem dX3_renew_57 : decode cX3_renew 57 = .ok (.iastore, 1) := by decide +kernel
theorem dX3_renew_58 : decode cX3_renew 58 = .ok (.aload_n 0, 1) := by decide +kernel
theorem dX3_renew_59 : decode cX3_renew 59 = .ok (.getfield 28, 3) := by decide +kernel
theorem dX3_renew_62 : decode cX3_renew 62 = .ok (.iload_n 1, 1) := by decide +kernel
theorem dX3_renew_63 : decode cX3_renew 63 = .ok (.iconst (-1), 1) := by decide +kernel
theorem dX3_renew_64 : decode cX3_renew 64 = .ok (.iastore, 1) := by decide +kernel
theorem dX3_renew_65 : decode cX3_renew 65 = .ok (.aload_n 0, 1) := by decide +kernel
theorem dX3_renew_66 : decode cX3_renew 66 = .ok (.getfield 25, 3) := by decide +kernel
theorem dX3_renew_69 : decode cX3_renew 69 = .ok (.iload_n 1, 1) := by decide +kernel
theorem dX3_renew_70 : decode cX3_renew 70 = .ok (.iaload, 1) := by decide +kernel
theorem dX3_renew_71 : decode cX3_renew 71 = .ok (.iconst (-1), 1) := by decide +kernel
theorem dX3_renew_72 : decode cX3_renew 72 = .ok (.if_icmp .ne 23, 3) := by decide +kernel
theorem dX3_renew_75 : decode cX3_renew 75 = .ok (.aload_n 0, 1) := by decide +kernel
theorem dX3_renew_76 : decode cX3_renew 76 = .ok (.getfield 48, 3) := by decide +kernel
theorem dX3_renew_79 : decode cX3_renew 79 = .ok (.aload_n 0, 1) := by decide +kernel
theorem dX3_renew_80 : decode cX3_renew 80 = .ok (.getfield 61, 3) := by decide +kernel
theorem dX3_renew_83 : decode cX3_renew 83 = .ok (.iload_n 1, 1) := by decide +kernel
theorem dX3_renew_84 : decode cX3_renew 84 = .ok (.iastore, 1) := by decide +kernel
theorem dX3_renew_85 : decode cX3_renew 85 = .ok (.aload_n 0, 1) := by decide +kernel
theorem dX3_renew_86 : decode cX3_renew 86 = .ok (.dup, 1) := by decide +kernel
theorem dX3_renew_87 : decode cX3_renew 87 = .ok (.getfield 61, 3) := by decide +kernel
theorem dX3_renew_90 : decode cX3_renew 90 = .ok (.iconst 1, 1) := by decide +kernel
theorem dX3_renew_91 : decode cX3_renew 91 = .ok (.iadd, 1) := by decide +kernel
theorem dX3_renew_92 : decode cX3_renew 92 = .ok (.putfield 61, 3) := by decide +kernel
theorem dX3_renew_95 : decode cX3_renew 95 = .ok (.iinc 1 1, 3) := by decide +kernel
theorem dX3_renew_98 : decode cX3_renew 98 = .ok (.goto (-79), 3) := by decide +kernel
theorem dX3_renew_101 : decode cX3_renew 101 = .ok (.aload_n 0, 1) := by decide +kernel
theorem dX3_renew_102 : decode cX3_renew 102 = .ok (.getfield 61, 3) := by decide +kernel
theorem dX3_renew_105 : decode cX3_renew 105 = .ok (.ifCond .le 13, 3) := by decide +kernel
theorem dX3_renew_108 : decode cX3_renew 108 = .ok (.aload_n 0, 1) := by decide +kernel
theorem dX3_renew_109 : decode cX3_renew 109 = .ok (.iconst 0, 1) := by decide +kernel
theorem dX3_renew_110 : decode cX3_renew 110 = .ok (.aload_n 0, 1) := by decide +kernel
theorem dX3_renew_111 : decode cX3_renew 111 = .ok (.getfield 61, 3) := by decide +kernel
theorem dX3_renew_114 : decode cX3_renew 114 = .ok (.iconst 0, 1) := by decide +kernel
theorem dX3_renew_115 : decode cX3_renew 115 = .ok (.invokevirtual 74, 3) := by decide +kernel
theorem dX3_renew_118 : decode cX3_renew 118 = .ok (.aload_n 0, 1) := by decide +kernel
theorem dX3_renew_119 : decode cX3_renew 119 = .ok (.invokevirtual 78, 3) := by decide +kernel
theorem dX3_renew_122 : decode cX3_renew 122 = .ok (.return_, 1) := by decide +kernel
theorem dX3_reason_0 : decode cX3_reason 0 = .ok (.aload_n 0, 1) := by decide +kernel
theorem dX3_reason_1 : decode cX3_reason 1 = .ok (.getfield 25, 3) := by decide +kernel
theorem dX3_reason_4 : decode cX3_reason 4 = .ok (.iload_n 1, 1) := by decide +kernel
theorem dX3_reason_5 : decode cX3_reason 5 = .ok (.iaload, 1) := by decide +kernel
theorem dX3_reason_6 : decode cX3_reason 6 = .ok (.iconst (-1), 1) := by decide +kernel
theorem dX3_reason_7 : decode cX3_reason 7 = .ok (.if_icmp .ne 13, 3) := by decide +kernel
theorem dX3_reason_10 : decode cX3_reason 10 = .ok (.aload_n 0, 1) := by decide +kernel
theorem dX3_reason_11 : decode cX3_reason 11 = .ok (.getfield 25, 3) := by decide +kernel
theorem dX3_reason_14 : decode cX3_reason 14 = .ok (.iload_n 2, 1) := by decide +kernel
theorem dX3_reason_15 : decode cX3_reason 15 = .ok (.iaload, 1) := by decide +kernel
theorem dX3_reason_16 : decode cX3_reason 16 = .ok (.iconst (-1), 1) := by decide +kernel
theorem dX3_reason_17 : decode cX3_reason 17 = .ok (.if_icmp .eq 6, 3) := by decide +kernel
theorem dX3_reason_20 : decode cX3_reason 20 = .ok (.bipush 6, 2) := by decide +kernel
theorem dX3_reason_22 : decode cX3_reason 22 = .ok (.ireturn, 1) := by decide +kernel
theorem dX3_reason_23 : decode cX3_reason 23 = .ok (.aload_n 0, 1) := by decide +kernel
theorem dX3_reason_24 : decode cX3_reason 24 = .ok (.getfield 31, 3) := by decide +kernel
theorem dX3_reason_27 : decode cX3_reason 27 = .ok (.iload_n 1, 1) := by decide +kernel
theorem dX3_reason_28 : decode cX3_reason 28 = .ok (.iaload, 1) := by decide +kernel
theorem dX3_reason_29 : decode cX3_reason 29 = .ok (.aload_n 0, 1) := by decide +kernel
theorem dX3_reason_30 : decode cX3_reason 30 = .ok (.getfield 31, 3) := by decide +kernel
theorem dX3_reason_33 : decode cX3_reason 33 = .ok (.iload_n 2, 1) := by decide +kernel
theorem dX3_reason_34 : decode cX3_reason 34 = .ok (.iaload, 1) := by decide +kernel
theorem dX3_reason_35 : decode cX3_reason 35 = .ok (.if_icmp .eq 5, 3) := by decide +kernel
theorem dX3_reason_38 : decode cX3_reason 38 = .ok (.iconst 5, 1) := by decide +kernel
theorem dX3_reason_39 : decode cX3_reason 39 = .ok (.ireturn, 1) := by decide +kernel
theorem dX3_reason_40 : decode cX3_reason 40 = .ok (.aload_n 0, 1) := by decide +kernel
theorem dX3_reason_41 : decode cX3_reason 41 = .ok (.getfield 12, 3) := by decide +kernel
theorem dX3_reason_44 : decode cX3_reason 44 = .ok (.iload_n 1, 1) := by decide +kernel
theorem dX3_reason_45 : decode cX3_reason 45 = .ok (.iload_n 2, 1) := by decide +kernel
theorem dX3_reason_46 : decode cX3_reason 46 = .ok (.invokevirtual 81, 3) := by decide +kernel
theorem dX3_reason_49 : decode cX3_reason 49 = .ok (.istore_n 3, 1) := by decide +kernel
theorem dX3_reason_50 : decode cX3_reason 50 = .ok (.iload_n 3, 1) := by decide +kernel
theorem dX3_reason_51 : decode cX3_reason 51 = .ok (.iconst (-1), 1) := by decide +kernel
theorem dX3_reason_52 : decode cX3_reason 52 = .ok (.if_icmp .ne 7, 3) := by decide +kernel
theorem dX3_reason_55 : decode cX3_reason 55 = .ok (.iconst 4, 1) := by decide +kernel
theorem dX3_reason_56 : decode cX3_reason 56 = .ok (.goto 4, 3) := by decide +kernel
theorem dX3_reason_59 : decode cX3_reason 59 = .ok (.iload_n 3, 1) := by decide +kernel
theorem dX3_reason_60 : decode cX3_reason 60 = .ok (.ireturn, 1) := by decide +kernel
theorem dX3_isOrderedLike_0 : decode cX3_isOrderedLike 0 = .ok (.aload_n 0, 1) := by decide +kernel
theorem dX3_isOrderedLike_1 : decode cX3_isOrderedLike 1 = .ok (.getfield 85, 3) := by decide +kernel
theorem dX3_isOrderedLike_4 : decode cX3_isOrderedLike 4 = .ok (.aload_n 1, 1) := by decide +kernel
theorem dX3_isOrderedLike_5 : decode cX3_isOrderedLike 5 = .ok (.getfield 85, 3) := by decide +kernel
theorem dX3_isOrderedLike_8 : decode cX3_isOrderedLike 8 = .ok (.if_icmp .eq 5, 3) := by decide +kernel
theorem dX3_isOrderedLike_11 : decode cX3_isOrderedLike 11 = .ok (.iconst 0, 1) := by decide +kernel
theorem dX3_isOrderedLike_12 : decode cX3_isOrderedLike 12 = .ok (.ireturn, 1) := by decide +kernel
theorem dX3_isOrderedLike_13 : decode cX3_isOrderedLike 13 = .ok (.iconst 0, 1) := by decide +kernel
theorem dX3_isOrderedLike_14 : decode cX3_isOrderedLike 14 = .ok (.istore_n 2, 1) := by decide +kernel
theorem dX3_isOrderedLike_15 : decode cX3_isOrderedLike 15 = .ok (.iload_n 2, 1) := by decide +kernel
theorem dX3_isOrderedLike_16 : decode cX3_isOrderedLike 16 = .ok (.aload_n 0, 1) := by decide +kernel
theorem dX3_isOrderedLike_17 : decode cX3_isOrderedLike 17 = .ok (.getfield 85, 3) := by decide +kernel
theorem dX3_isOrderedLike_20 : decode cX3_isOrderedLike 20 = .ok (.if_icmp .ge 26, 3) := by decide +kernel
theorem dX3_isOrderedLike_23 : decode cX3_isOrderedLike 23 = .ok (.aload_n 0, 1) := by decide +kernel
theorem dX3_isOrderedLike_24 : decode cX3_isOrderedLike 24 = .ok (.getfield 18, 3) := by decide +kernel
theorem dX3_isOrderedLike_27 : decode cX3_isOrderedLike 27 = .ok (.iload_n 2, 1) := by decide +kernel
theorem dX3_isOrderedLike_28 : decode cX3_isOrderedLike 28 = .ok (.iaload, 1) := by decide +kernel
theorem dX3_isOrderedLike_29 : decode cX3_isOrderedLike 29 = .ok (.aload_n 1, 1) := by decide +kernel
theorem dX3_isOrderedLike_30 : decode cX3_isOrderedLike 30 = .ok (.getfield 18, 3) := by decide +kernel
theorem dX3_isOrderedLike_33 : decode cX3_isOrderedLike 33 = .ok (.iload_n 2, 1) := by decide +kernel
theorem dX3_isOrderedLike_34 : decode cX3_isOrderedLike 34 = .ok (.iaload, 1) := by decide +kernel
theorem dX3_isOrderedLike_35 : decode cX3_isOrderedLike 35 = .ok (.if_icmp .eq 5, 3) := by decide +kernel
theorem dX3_isOrderedLike_38 : decode cX3_isOrderedLike 38 = .ok (.iconst 0, 1) := by decide +kernel
theorem dX3_isOrderedLike_39 : decode cX3_isOrderedLike 39 = .ok (.ireturn, 1) := by decide +kernel
theorem dX3_isOrderedLike_40 : decode cX3_isOrderedLike 40 = .ok (.iinc 2 1, 3) := by decide +kernel
theorem dX3_isOrderedLike_43 : decode cX3_isOrderedLike 43 = .ok (.goto (-28), 3) := by decide +kernel
theorem dX3_isOrderedLike_46 : decode cX3_isOrderedLike 46 = .ok (.iconst 1, 1) := by decide +kernel
theorem dX3_isOrderedLike_47 : decode cX3_isOrderedLike 47 = .ok (.ireturn, 1) := by decide +kernel
theorem dX3_isByNumber_0 : decode cX3_isByNumber 0 = .ok (.iconst 0, 1) := by decide +kernel
theorem dX3_isByNumber_1 : decode cX3_isByNumber 1 = .ok (.istore_n 1, 1) := by decide +kernel
theorem dX3_isByNumber_2 : decode cX3_isByNumber 2 = .ok (.iload_n 1, 1) := by decide +kernel
theorem dX3_isByNumber_3 : decode cX3_isByNumber 3 = .ok (.aload_n 0, 1) := by decide +kernel
theorem dX3_isByNumber_4 : decode cX3_isByNumber 4 = .ok (.getfield 85, 3) := by decide +kernel
theorem dX3_isByNumber_7 : decode cX3_isByNumber 7 = .ok (.if_icmp .ge 21, 3) := by decide +kernel
theorem dX3_isByNumber_10 : decode cX3_isByNumber 10 = .ok (.aload_n 0, 1) := by decide +kernel
theorem dX3_isByNumber_11 : decode cX3_isByNumber 11 = .ok (.getfield 18, 3) := by decide +kernel
theorem dX3_isByNumber_14 : decode cX3_isByNumber 14 = .ok (.iload_n 1, 1) := by decide +kernel
theorem dX3_isByNumber_15 : decode cX3_isByNumber 15 = .ok (.iaload, 1) := by decide +kernel
theorem dX3_isByNumber_16 : decode cX3_isByNumber 16 = .ok (.iload_n 1, 1) := by decide +kernel
theorem dX3_isByNumber_17 : decode cX3_isByNumber 17 = .ok (.if_icmp .eq 5, 3) := by decide +kernel
theorem dX3_isByNumber_20 : decode cX3_isByNumber 20 = .ok (.iconst 0, 1) := by decide +kernel
theorem dX3_isByNumber_21 : decode cX3_isByNumber 21 = .ok (.ireturn, 1) := by decide +kernel
theorem dX3_isByNumber_22 : decode cX3_isByNumber 22 = .ok (.iinc 1 1, 3) := by decide +kernel
theorem dX3_isByNumber_25 : decode cX3_isByNumber 25 = .ok (.goto (-23), 3) := by decide +kernel
theorem dX3_isByNumber_28 : decode cX3_isByNumber 28 = .ok (.iconst 1, 1) := by decide +kernel
theorem dX3_isByNumber_29 : decode cX3_isByNumber 29 = .ok (.ireturn, 1) := by decide +kernel
theorem dX3_gatherLanes_0 : decode cX3_gatherLanes 0 = .ok (.aload_n 0, 1) := by decide +kernel
theorem dX3_gatherLanes_1 : decode cX3_gatherLanes 1 = .ok (.getfield 44, 3) := by decide +kernel
theorem dX3_gatherLanes_4 : decode cX3_gatherLanes 4 = .ok (.invokevirtual 88, 3) := by decide +kernel
theorem dX3_gatherLanes_7 : decode cX3_gatherLanes 7 = .ok (.aload_n 0, 1) := by decide +kernel
theorem dX3_gatherLanes_8 : decode cX3_gatherLanes 8 = .ok (.iconst 1, 1) := by decide +kernel
theorem dX3_gatherLanes_9 : decode cX3_gatherLanes 9 = .ok (.aload_n 0, 1) := by decide +kernel
theorem dX3_gatherLanes_10 : decode cX3_gatherLanes 10 = .ok (.getfield 12, 3) := by decide +kernel
theorem dX3_gatherLanes_13 : decode cX3_gatherLanes 13 = .ok (.getfield 89, 3) := by decide +kernel
theorem dX3_gatherLanes_16 : decode cX3_gatherLanes 16 = .ok (.aload_n 0, 1) := by decide +kernel
theorem dX3_gatherLanes_17 : decode cX3_gatherLanes 17 = .ok (.getfield 12, 3) := by decide +kernel
theorem dX3_gatherLanes_20 : decode cX3_gatherLanes 20 = .ok (.getfield 92, 3) := by decide +kernel
theorem dX3_gatherLanes_23 : decode cX3_gatherLanes 23 = .ok (.iload_n 1, 1) := by decide +kernel
theorem dX3_gatherLanes_24 : decode cX3_gatherLanes 24 = .ok (.iload_n 2, 1) := by decide +kernel
theorem dX3_gatherLanes_25 : decode cX3_gatherLanes 25 = .ok (.invokevirtual 95, 3) := by decide +kernel
theorem dX3_gatherLanes_28 : decode cX3_gatherLanes 28 = .ok (.aload_n 0, 1) := by decide +kernel
theorem dX3_gatherLanes_29 : decode cX3_gatherLanes 29 = .ok (.iconst 0, 1) := by decide +kernel
theorem dX3_gatherLanes_30 : decode cX3_gatherLanes 30 = .ok (.aload_n 0, 1) := by decide +kernel
theorem dX3_gatherLanes_31 : decode cX3_gatherLanes 31 = .ok (.getfield 12, 3) := by decide +kernel
theorem dX3_gatherLanes_34 : decode cX3_gatherLanes 34 = .ok (.getfield 99, 3) := by decide +kernel
theorem dX3_gatherLanes_37 : decode cX3_gatherLanes 37 = .ok (.aload_n 0, 1) := by decide +kernel
theorem dX3_gatherLanes_38 : decode cX3_gatherLanes 38 = .ok (.getfield 12, 3) := by decide +kernel
theorem dX3_gatherLanes_41 : decode cX3_gatherLanes 41 = .ok (.getfield 102, 3) := by decide +kernel
theorem dX3_gatherLanes_44 : decode cX3_gatherLanes 44 = .ok (.iload_n 1, 1) := by decide +kernel
theorem dX3_gatherLanes_45 : decode cX3_gatherLanes 45 = .ok (.iload_n 2, 1) := by decide +kernel
theorem dX3_gatherLanes_46 : decode cX3_gatherLanes 46 = .ok (.invokevirtual 95, 3) := by decide +kernel
theorem dX3_gatherLanes_49 : decode cX3_gatherLanes 49 = .ok (.return_, 1) := by decide +kernel
theorem dX3_gatherLanesOf_0 : decode cX3_gatherLanesOf 0 = .ok (.iload 4, 2) := by decide +kernel
theorem dX3_gatherLanesOf_2 : decode cX3_gatherLanesOf 2 = .ok (.istore 6, 2) := by decide +kernel
theorem dX3_gatherLanesOf_4 : decode cX3_gatherLanesOf 4 = .ok (.iload 6, 2) := by decide +kernel
theorem dX3_gatherLanesOf_6 : decode cX3_gatherLanesOf 6 = .ok (.iload 5, 2) := by decide +kernel
theorem dX3_gatherLanesOf_8 : decode cX3_gatherLanesOf 8 = .ok (.if_icmp .ge 69, 3) := by decide +kernel
theorem dX3_gatherLanesOf_11 : decode cX3_gatherLanesOf 11 = .ok (.aload_n 3, 1) := by decide +kernel
theorem dX3_gatherLanesOf_12 : decode cX3_gatherLanesOf 12 = .ok (.aload_n 0, 1) := by decide +kernel
theorem dX3_gatherLanesOf_13 : decode cX3_gatherLanesOf 13 = .ok (.getfield 48, 3) := by decide +kernel
theorem dX3_gatherLanesOf_16 : decode cX3_gatherLanesOf 16 = .ok (.iload 6, 2) := by decide +kernel
theorem dX3_gatherLanesOf_18 : decode cX3_gatherLanesOf 18 = .ok (.iaload, 1) := by decide +kernel
theorem dX3_gatherLanesOf_19 : decode cX3_gatherLanesOf 19 = .ok (.iaload, 1) := by decide +kernel
theorem dX3_gatherLanesOf_20 : decode cX3_gatherLanesOf 20 = .ok (.istore 7, 2) := by decide +kernel
theorem dX3_gatherLanesOf_22 : decode cX3_gatherLanesOf 22 = .ok (.aload_n 0, 1) := by decide +kernel
theorem dX3_gatherLanesOf_23 : decode cX3_gatherLanesOf 23 = .ok (.aload_n 2, 1) := by decide +kernel
theorem dX3_gatherLanesOf_24 : decode cX3_gatherLanesOf 24 = .ok (.aload_n 3, 1) := by decide +kernel
theorem dX3_gatherLanesOf_25 : decode cX3_gatherLanesOf 25 = .ok (.iload 7, 2) := by decide +kernel
theorem dX3_gatherLanesOf_27 : decode cX3_gatherLanesOf 27 = .ok (.iload 4, 2) := by decide +kernel
theorem dX3_gatherLanesOf_29 : decode cX3_gatherLanesOf 29 = .ok (.iload 5, 2) := by decide +kernel
theorem dX3_gatherLanesOf_31 : decode cX3_gatherLanesOf 31 = .ok (.invokevirtual 105, 3) := by decide +kernel
theorem dX3_gatherLanesOf_34 : decode cX3_gatherLanesOf 34 = .ok (.istore 8, 2) := by decide +kernel
theorem dX3_gatherLanesOf_36 : decode cX3_gatherLanesOf 36 = .ok (.iload 8, 2) := by decide +kernel
theorem dX3_gatherLanesOf_38 : decode cX3_gatherLanesOf 38 = .ok (.iload 7, 2) := by decide +kernel
theorem dX3_gatherLanesOf_40 : decode cX3_gatherLanesOf 40 = .ok (.if_icmp .le 31, 3) := by decide +kernel
theorem dX3_gatherLanesOf_43 : decode cX3_gatherLanesOf 43 = .ok (.aload_n 0, 1) := by decide +kernel
theorem dX3_gatherLanesOf_44 : decode cX3_gatherLanesOf 44 = .ok (.getfield 44, 3) := by decide +kernel
theorem dX3_gatherLanesOf_47 : decode cX3_gatherLanesOf 47 = .ok (.iload_n 1, 1) := by decide +kernel
theorem dX3_gatherLanesOf_48 : decode cX3_gatherLanesOf 48 = .ok (.iload 7, 2) := by decide +kernel
theorem dX3_gatherLanesOf_50 : decode cX3_gatherLanesOf 50 = .ok (.invokevirtual 109, 3) := by decide +kernel
theorem dX3_gatherLanesOf_53 : decode cX3_gatherLanesOf 53 = .ok (.ifCond .ne 18, 3) := by decide +kernel
theorem dX3_gatherLanesOf_56 : decode cX3_gatherLanesOf 56 = .ok (.aload_n 0, 1) := by decide +kernel
theorem dX3_gatherLanesOf_57 : decode cX3_gatherLanesOf 57 = .ok (.getfield 44, 3) := by decide +kernel
theorem dX3_gatherLanesOf_60 : decode cX3_gatherLanesOf 60 = .ok (.iload_n 1, 1) := by decide +kernel
theorem dX3_gatherLanesOf_61 : decode cX3_gatherLanesOf 61 = .ok (.iload 7, 2) := by decide +kernel
theorem dX3_gatherLanesOf_63 : decode cX3_gatherLanesOf 63 = .ok (.iload 8, 2) := by decide +kernel
theorem dX3_gatherLanesOf_65 : decode cX3_gatherLanesOf 65 = .ok (.iload 7, 2) := by decide +kernel
theorem dX3_gatherLanesOf_67 : decode cX3_gatherLanesOf 67 = .ok (.isub, 1) := by decide +kernel
theorem dX3_gatherLanesOf_68 : decode cX3_gatherLanesOf 68 = .ok (.invokevirtual 113, 3) := by decide +kernel
theorem dX3_gatherLanesOf_71 : decode cX3_gatherLanesOf 71 = .ok (.iinc 6 1, 3) := by decide +kernel
theorem dX3_gatherLanesOf_74 : decode cX3_gatherLanesOf 74 = .ok (.goto (-70), 3) := by decide +kernel
theorem dX3_gatherLanesOf_77 : decode cX3_gatherLanesOf 77 = .ok (.return_, 1) := by decide +kernel
theorem dX3_nextBegin_0 : decode cX3_nextBegin 0 = .ok (.iconst 0, 1) := by decide +kernel
theorem dX3_nextBegin_1 : decode cX3_nextBegin 1 = .ok (.istore 6, 2) := by decide +kernel
theorem dX3_nextBegin_3 : decode cX3_nextBegin 3 = .ok (.iload_n 3, 1) := by decide +kernel
theorem dX3_nextBegin_4 : decode cX3_nextBegin 4 = .ok (.istore 7, 2) := by decide +kernel
theorem dX3_nextBegin_6 : decode cX3_nextBegin 6 = .ok (.iload 4, 2) := by decide +kernel
theorem dX3_nextBegin_8 : decode cX3_nextBegin 8 = .ok (.istore 8, 2) := by decide +kernel
theorem dX3_nextBegin_10 : decode cX3_nextBegin 10 = .ok (.iload 8, 2) := by decide +kernel
theorem dX3_nextBegin_12 : decode cX3_nextBegin 12 = .ok (.iload 5, 2) := by decide +kernel
theorem dX3_nextBegin_14 : decode cX3_nextBegin 14 = .ok (.if_icmp .ge 49, 3) := by decide +kernel
theorem dX3_nextBegin_17 : decode cX3_nextBegin 17 = .ok (.aload_n 0, 1) := by decide +kernel
theorem dX3_nextBegin_18 : decode cX3_nextBegin 18 = .ok (.getfield 48, 3) := by decide +kernel
theorem dX3_nextBegin_21 : decode cX3_nextBegin 21 = .ok (.iload 8, 2) := by decide +kernel
theorem dX3_nextBegin_23 : decode cX3_nextBegin 23 = .ok (.iaload, 1) := by decide +kernel
theorem dX3_nextBegin_24 : decode cX3_nextBegin 24 = .ok (.istore 9, 2) := by decide +kernel
theorem dX3_nextBegin_26 : decode cX3_nextBegin 26 = .ok (.aload_n 2, 1) := by decide +kernel
theorem dX3_nextBegin_27 : decode cX3_nextBegin 27 = .ok (.iload 9, 2) := by decide +kernel
theorem dX3_nextBegin_29 : decode cX3_nextBegin 29 = .ok (.iaload, 1) := by decide +kernel
theorem dX3_nextBegin_30 : decode cX3_nextBegin 30 = .ok (.iload_n 3, 1) := by decide +kernel
theorem dX3_nextBegin_31 : decode cX3_nextBegin 31 = .ok (.if_icmp .le 26, 3) := by decide +kernel
theorem dX3_nextBegin_34 : decode cX3_nextBegin 34 = .ok (.iload 6, 2) := by decide +kernel
theorem dX3_nextBegin_36 : decode cX3_nextBegin 36 = .ok (.ifCond .eq 12, 3) := by decide +kernel
theorem dX3_nextBegin_39 : decode cX3_nextBegin 39 = .ok (.aload_n 1, 1) := by decide +kernel
theorem dX3_nextBegin_40 : decode cX3_nextBegin 40 = .ok (.iload 9, 2) := by decide +kernel
theorem dX3_nextBegin_42 : decode cX3_nextBegin 42 = .ok (.iaload, 1) := by decide +kernel
theorem dX3_nextBegin_43 : decode cX3_nextBegin 43 = .ok (.iload 7, 2) := by decide +kernel
theorem dX3_nextBegin_45 : decode cX3_nextBegin 45 = .ok (.if_icmp .ge 12, 3) := by decide +kernel
theorem dX3_nextBegin_48 : decode cX3_nextBegin 48 = .ok (.iconst 1, 1) := by decide +kernel
theorem dX3_nextBegin_49 : decode cX3_nextBegin 49 = .ok (.istore 6, 2) := by decide +kernel
theorem dX3_nextBegin_51 : decode cX3_nextBegin 51 = .ok (.aload_n 1, 1) := by decide +kernel
theorem dX3_nextBegin_52 : decode cX3_nextBegin 52 = .ok (.iload 9, 2) := by decide +kernel
theorem dX3_nextBegin_54 : decode cX3_nextBegin 54 = .ok (.iaload, 1) := by decide +kernel
theorem dX3_nextBegin_55 : decode cX3_nextBegin 55 = .ok (.istore 7, 2) := by decide +kernel
theorem dX3_nextBegin_57 : decode cX3_nextBegin 57 = .ok (.iinc 8 1, 3) := by decide +kernel
theorem dX3_nextBegin_60 : decode cX3_nextBegin 60 = .ok (.goto (-50), 3) := by decide +kernel
theorem dX3_nextBegin_63 : decode cX3_nextBegin 63 = .ok (.iload 7, 2) := by decide +kernel
theorem dX3_nextBegin_65 : decode cX3_nextBegin 65 = .ok (.ireturn, 1) := by decide +kernel
theorem dX3_readPart_0 : decode cX3_readPart 0 = .ok (.aload_n 0, 1) := by decide +kernel
theorem dX3_readPart_1 : decode cX3_readPart 1 = .ok (.iload_n 1, 1) := by decide +kernel
theorem dX3_readPart_2 : decode cX3_readPart 2 = .ok (.iload_n 2, 1) := by decide +kernel
theorem dX3_readPart_3 : decode cX3_readPart 3 = .ok (.invokevirtual 116, 3) := by decide +kernel
theorem dX3_readPart_6 : decode cX3_readPart 6 = .ok (.aload_n 0, 1) := by decide +kernel
theorem dX3_readPart_7 : decode cX3_readPart 7 = .ok (.getfield 44, 3) := by decide +kernel
theorem dX3_readPart_10 : decode cX3_readPart 10 = .ok (.getfield 120, 3) := by decide +kernel
theorem dX3_readPart_13 : decode cX3_readPart 13 = .ok (.ifCond .eq 9, 3) := by decide +kernel
theorem dX3_readPart_16 : decode cX3_readPart 16 = .ok (.iload_n 3, 1) := by decide +kernel
theorem dX3_readPart_17 : decode cX3_readPart 17 = .ok (.bipush 7, 2) := by decide +kernel
theorem dX3_readPart_19 : decode cX3_readPart 19 = .ok (.if_icmp .lt 11, 3) := by decide +kernel
theorem dX3_readPart_22 : decode cX3_readPart 22 = .ok (.aload_n 0, 1) := by decide +kernel
theorem dX3_readPart_23 : decode cX3_readPart 23 = .ok (.iload_n 1, 1) := by decide +kernel
theorem dX3_readPart_24 : decode cX3_readPart 24 = .ok (.iload_n 2, 1) := by decide +kernel
theorem dX3_readPart_25 : decode cX3_readPart 25 = .ok (.iload_n 3, 1) := by decide +kernel
theorem dX3_readPart_26 : decode cX3_readPart 26 = .ok (.invokevirtual 121, 3) := by decide +kernel
theorem dX3_readPart_29 : decode cX3_readPart 29 = .ok (.return_, 1) := by decide +kernel
theorem dX3_readPart_30 : decode cX3_readPart 30 = .ok (.aload_n 0, 1) := by decide +kernel
theorem dX3_readPart_31 : decode cX3_readPart 31 = .ok (.iload_n 1, 1) := by decide +kernel
theorem dX3_readPart_32 : decode cX3_readPart 32 = .ok (.iload_n 2, 1) := by decide +kernel
theorem dX3_readPart_33 : decode cX3_readPart 33 = .ok (.invokevirtual 124, 3) := by decide +kernel
theorem dX3_readPart_36 : decode cX3_readPart 36 = .ok (.istore 4, 2) := by decide +kernel
theorem dX3_readPart_38 : decode cX3_readPart 38 = .ok (.aload_n 0, 1) := by decide +kernel
theorem dX3_readPart_39 : decode cX3_readPart 39 = .ok (.getfield 37, 3) := by decide +kernel
theorem dX3_readPart_42 : decode cX3_readPart 42 = .ok (.aload_n 0, 1) := by decide +kernel
theorem dX3_readPart_43 : decode cX3_readPart 43 = .ok (.getfield 44, 3) := by decide +kernel
theorem dX3_readPart_46 : decode cX3_readPart 46 = .ok (.getfield 127, 3) := by decide +kernel
theorem dX3_readPart_49 : decode cX3_readPart 49 = .ok (.iconst 0, 1) := by decide +kernel
theorem dX3_readPart_50 : decode cX3_readPart 50 = .ok (.iaload, 1) := by decide +kernel
theorem dX3_readPart_51 : decode cX3_readPart 51 = .ok (.aload_n 0, 1) := by decide +kernel
theorem dX3_readPart_52 : decode cX3_readPart 52 = .ok (.getfield 44, 3) := by decide +kernel
theorem dX3_readPart_55 : decode cX3_readPart 55 = .ok (.getfield 130, 3) := by decide +kernel
theorem dX3_readPart_58 : decode cX3_readPart 58 = .ok (.iconst 0, 1) := by decide +kernel
theorem dX3_readPart_59 : decode cX3_readPart 59 = .ok (.iaload, 1) := by decide +kernel
theorem dX3_readPart_60 : decode cX3_readPart 60 = .ok (.aload_n 0, 1) := by decide +kernel
theorem dX3_readPart_61 : decode cX3_readPart 61 = .ok (.getfield 44, 3) := by decide +kernel
theorem dX3_readPart_64 : decode cX3_readPart 64 = .ok (.getfield 133, 3) := by decide +kernel
theorem dX3_readPart_67 : decode cX3_readPart 67 = .ok (.iconst 0, 1) := by decide +kernel
theorem dX3_readPart_68 : decode cX3_readPart 68 = .ok (.iaload, 1) := by decide +kernel
theorem dX3_readPart_69 : decode cX3_readPart 69 = .ok (.iload 4, 2) := by decide +kernel
theorem dX3_readPart_71 : decode cX3_readPart 71 = .ok (.iload_n 1, 1) := by decide +kernel
theorem dX3_readPart_72 : decode cX3_readPart 72 = .ok (.isub, 1) := by decide +kernel
theorem dX3_readPart_73 : decode cX3_readPart 73 = .ok (.iload_n 2, 1) := by decide +kernel
theorem dX3_readPart_74 : decode cX3_readPart 74 = .ok (.iload 4, 2) := by decide +kernel
theorem dX3_readPart_76 : decode cX3_readPart 76 = .ok (.isub, 1) := by decide +kernel
theorem dX3_readPart_77 : decode cX3_readPart 77 = .ok (.invokevirtual 136, 3) := by decide +kernel
theorem dX3_readPart_80 : decode cX3_readPart 80 = .ok (.aload_n 0, 1) := by decide +kernel
theorem dX3_readPart_81 : decode cX3_readPart 81 = .ok (.iload_n 1, 1) := by decide +kernel
theorem dX3_readPart_82 : decode cX3_readPart 82 = .ok (.iload 4, 2) := by decide +kernel
theorem dX3_readPart_84 : decode cX3_readPart 84 = .ok (.iload_n 3, 1) := by decide +kernel
theorem dX3_readPart_85 : decode cX3_readPart 85 = .ok (.iconst 1, 1) := by decide +kernel
theorem dX3_readPart_86 : decode cX3_readPart 86 = .ok (.iadd, 1) := by decide +kernel
theorem dX3_readPart_87 : decode cX3_readPart 87 = .ok (.invokevirtual 74, 3) := by decide +kernel
theorem dX3_readPart_90 : decode cX3_readPart 90 = .ok (.aload_n 0, 1) := by decide +kernel
theorem dX3_readPart_91 : decode cX3_readPart 91 = .ok (.iload 4, 2) := by decide +kernel
theorem dX3_readPart_93 : decode cX3_readPart 93 = .ok (.iload_n 2, 1) := by decide +kernel
theorem dX3_readPart_94 : decode cX3_readPart 94 = .ok (.iload_n 3, 1) := by decide +kernel
theorem dX3_readPart_95 : decode cX3_readPart 95 = .ok (.iconst 1, 1) := by decide +kernel
theorem dX3_readPart_96 : decode cX3_readPart 96 = .ok (.iadd, 1) := by decide +kernel
theorem dX3_readPart_97 : decode cX3_readPart 97 = .ok (.invokevirtual 74, 3) := by decide +kernel
theorem dX3_readPart_100 : decode cX3_readPart 100 = .ok (.return_, 1) := by decide +kernel
theorem dX3_divide_0 : decode cX3_divide 0 = .ok (.aload_n 0, 1) := by decide +kernel
theorem dX3_divide_1 : decode cX3_divide 1 = .ok (.getfield 44, 3) := by decide +kernel
theorem dX3_divide_4 : decode cX3_divide 4 = .ok (.getfield 127, 3) := by decide +kernel
theorem dX3_divide_7 : decode cX3_divide 7 = .ok (.iconst 0, 1) := by decide +kernel
theorem dX3_divide_8 : decode cX3_divide 8 = .ok (.iaload, 1) := by decide +kernel
theorem dX3_divide_9 : decode cX3_divide 9 = .ok (.iconst 1, 1) := by decide +kernel
theorem dX3_divide_10 : decode cX3_divide 10 = .ok (.if_icmp .ne 13, 3) := by decide +kernel
theorem dX3_divide_13 : decode cX3_divide 13 = .ok (.aload_n 0, 1) := by decide +kernel
theorem dX3_divide_14 : decode cX3_divide 14 = .ok (.getfield 12, 3) := by decide +kernel
theorem dX3_divide_17 : decode cX3_divide 17 = .ok (.getfield 92, 3) := by decide +kernel
theorem dX3_divide_20 : decode cX3_divide 20 = .ok (.goto 10, 3) := by decide +kernel
theorem dX3_divide_23 : decode cX3_divide 23 = .ok (.aload_n 0, 1) := by decide +kernel
theorem dX3_divide_24 : decode cX3_divide 24 = .ok (.getfield 12, 3) := by decide +kernel
theorem dX3_divide_27 : decode cX3_divide 27 = .ok (.getfield 102, 3) := by decide +kernel
theorem dX3_divide_30 : decode cX3_divide 30 = .ok (.astore_n 3, 1) := by decide +kernel
theorem dX3_divide_31 : decode cX3_divide 31 = .ok (.iload_n 1, 1) := by decide +kernel
theorem dX3_divide_32 : decode cX3_divide 32 = .ok (.istore 4, 2) := by decide +kernel
theorem dX3_divide_34 : decode cX3_divide 34 = .ok (.iconst 0, 1) := by decide +kernel
theorem dX3_divide_35 : decode cX3_divide 35 = .ok (.istore 5, 2) := by decide +kernel
theorem dX3_divide_37 : decode cX3_divide 37 = .ok (.iload_n 1, 1) := by decide +kernel
theorem dX3_divide_38 : decode cX3_divide 38 = .ok (.istore 6, 2) := by decide +kernel
theorem dX3_divide_40 : decode cX3_divide 40 = .ok (.iload 6, 2) := by decide +kernel
theorem dX3_divide_42 : decode cX3_divide 42 = .ok (.iload_n 2, 1) := by decide +kernel
theorem dX3_divide_43 : decode cX3_divide 43 = .ok (.if_icmp .ge 61, 3) := by decide +kernel
theorem dX3_divide_46 : decode cX3_divide 46 = .ok (.aload_n 0, 1) := by decide +kernel
theorem dX3_divide_47 : decode cX3_divide 47 = .ok (.getfield 48, 3) := by decide +kernel
theorem dX3_divide_50 : decode cX3_divide 50 = .ok (.iload 6, 2) := by decide +kernel
theorem dX3_divide_52 : decode cX3_divide 52 = .ok (.iaload, 1) := by decide +kernel
theorem dX3_divide_53 : decode cX3_divide 53 = .ok (.istore 7, 2) := by decide +kernel
theorem dX3_divide_55 : decode cX3_divide 55 = .ok (.aload_n 3, 1) := by decide +kernel
theorem dX3_divide_56 : decode cX3_divide 56 = .ok (.iload 7, 2) := by decide +kernel
theorem dX3_divide_58 : decode cX3_divide 58 = .ok (.iaload, 1) := by decide +kernel
theorem dX3_divide_59 : decode cX3_divide 59 = .ok (.aload_n 0, 1) := by decide +kernel
theorem dX3_divide_60 : decode cX3_divide 60 = .ok (.getfield 44, 3) := by decide +kernel
theorem dX3_divide_63 : decode cX3_divide 63 = .ok (.getfield 130, 3) := by decide +kernel
theorem dX3_divide_66 : decode cX3_divide 66 = .ok (.iconst 0, 1) := by decide +kernel
theorem dX3_divide_67 : decode cX3_divide 67 = .ok (.iaload, 1) := by decide +kernel
theorem dX3_divide_68 : decode cX3_divide 68 = .ok (.if_icmp .gt 18, 3) := by decide +kernel
theorem dX3_divide_71 : decode cX3_divide 71 = .ok (.aload_n 0, 1) := by decide +kernel
theorem dX3_divide_72 : decode cX3_divide 72 = .ok (.getfield 48, 3) := by decide +kernel
theorem dX3_divide_75 : decode cX3_divide 75 = .ok (.iload 4, 2) := by decide +kernel
theorem dX3_divide_77 : decode cX3_divide 77 = .ok (.iload 7, 2) := by decide +kernel
theorem dX3_divide_79 : decode cX3_divide 79 = .ok (.iastore, 1) := by decide +kernel
theorem dX3_divide_80 : decode cX3_divide 80 = .ok (.iinc 4 1, 3) := by decide +kernel
theorem dX3_divide_83 : decode cX3_divide 83 = .ok (.goto 15, 3) := by decide +kernel
theorem dX3_divide_86 : decode cX3_divide 86 = .ok (.aload_n 0, 1) := by decide +kernel
theorem dX3_divide_87 : decode cX3_divide 87 = .ok (.getfield 51, 3) := by decide +kernel
theorem dX3_divide_90 : decode cX3_divide 90 = .ok (.iload 5, 2) := by decide +kernel
theorem dX3_divide_92 : decode cX3_divide 92 = .ok (.iload 7, 2) := by decide +kernel
theorem dX3_divide_94 : decode cX3_divide 94 = .ok (.iastore, 1) := by decide +kernel
theorem dX3_divide_95 : decode cX3_divide 95 = .ok (.iinc 5 1, 3) := by decide +kernel
theorem dX3_divide_98 : decode cX3_divide 98 = .ok (.iinc 6 1, 3) := by decide +kernel
theorem dX3_divide_101 : decode cX3_divide 101 = .ok (.goto (-61), 3) := by decide +kernel
theorem dX3_divide_104 : decode cX3_divide 104 = .ok (.aload_n 0, 1) := by decide +kernel
theorem dX3_divide_105 : decode cX3_divide 105 = .ok (.getfield 51, 3) := by decide +kernel
theorem dX3_divide_108 : decode cX3_divide 108 = .ok (.iconst 0, 1) := by decide +kernel
theorem dX3_divide_109 : decode cX3_divide 109 = .ok (.aload_n 0, 1) := by decide +kernel
theorem dX3_divide_110 : decode cX3_divide 110 = .ok (.getfield 48, 3) := by decide +kernel
theorem dX3_divide_113 : decode cX3_divide 113 = .ok (.iload 4, 2) := by decide +kernel
theorem dX3_divide_115 : decode cX3_divide 115 = .ok (.iload 5, 2) := by decide +kernel
theorem dX3_divide_117 : decode cX3_divide 117 = .ok (.invokestatic 139, 3) := by decide +kernel
theorem dX3_divide_120 : decode cX3_divide 120 = .ok (.iload 4, 2) := by decide +kernel
theorem dX3_divide_122 : decode cX3_divide 122 = .ok (.ireturn, 1) := by decide +kernel
theorem dX3_readLeaf_0 : decode cX3_readLeaf 0 = .ok (.iload_n 1, 1) := by decide +kernel
theorem dX3_readLeaf_1 : decode cX3_readLeaf 1 = .ok (.istore 4, 2) := by decide +kernel
theorem dX3_readLeaf_3 : decode cX3_readLeaf 3 = .ok (.iload 4, 2) := by decide +kernel
theorem dX3_readLeaf_5 : decode cX3_readLeaf 5 = .ok (.iload_n 2, 1) := by decide +kernel
theorem dX3_readLeaf_6 : decode cX3_readLeaf 6 = .ok (.if_icmp .ge 99, 3) := by decide +kernel
theorem dX3_readLeaf_9 : decode cX3_readLeaf 9 = .ok (.aload_n 0, 1) := by decide +kernel
theorem dX3_readLeaf_10 : decode cX3_readLeaf 10 = .ok (.getfield 48, 3) := by decide +kernel
theorem dX3_readLeaf_13 : decode cX3_readLeaf 13 = .ok (.iload 4, 2) := by decide +kernel
theorem dX3_readLeaf_15 : decode cX3_readLeaf 15 = .ok (.iaload, 1) := by decide +kernel
theorem dX3_readLeaf_16 : decode cX3_readLeaf 16 = .ok (.istore 5, 2) := by decide +kernel
theorem dX3_readLeaf_18 : decode cX3_readLeaf 18 = .ok (.aload_n 0, 1) := by decide +kernel
theorem dX3_readLeaf_19 : decode cX3_readLeaf 19 = .ok (.getfield 28, 3) := by decide +kernel
theorem dX3_readLeaf_22 : decode cX3_readLeaf 22 = .ok (.iload 5, 2) := by decide +kernel
theorem dX3_readLeaf_24 : decode cX3_readLeaf 24 = .ok (.iload_n 3, 1) := by decide +kernel
theorem dX3_readLeaf_25 : decode cX3_readLeaf 25 = .ok (.iastore, 1) := by decide +kernel
theorem dX3_readLeaf_26 : decode cX3_readLeaf 26 = .ok (.aload_n 0, 1) := by decide +kernel
theorem dX3_readLeaf_27 : decode cX3_readLeaf 27 = .ok (.getfield 31, 3) := by decide +kernel
theorem dX3_readLeaf_30 : decode cX3_readLeaf 30 = .ok (.iload 5, 2) := by decide +kernel
theorem dX3_readLeaf_32 : decode cX3_readLeaf 32 = .ok (.aload_n 0, 1) := by decide +kernel
theorem dX3_readLeaf_33 : decode cX3_readLeaf 33 = .ok (.getfield 57, 3) := by decide +kernel
theorem dX3_readLeaf_36 : decode cX3_readLeaf 36 = .ok (.iastore, 1) := by decide +kernel
theorem dX3_readLeaf_37 : decode cX3_readLeaf 37 = .ok (.iload 4, 2) := by decide +kernel
theorem dX3_readLeaf_39 : decode cX3_readLeaf 39 = .ok (.istore 6, 2) := by decide +kernel
theorem dX3_readLeaf_41 : decode cX3_readLeaf 41 = .ok (.iload 6, 2) := by decide +kernel
theorem dX3_readLeaf_43 : decode cX3_readLeaf 43 = .ok (.iload_n 1, 1) := by decide +kernel
theorem dX3_readLeaf_44 : decode cX3_readLeaf 44 = .ok (.if_icmp .le 46, 3) := by decide +kernel
theorem dX3_readLeaf_47 : decode cX3_readLeaf 47 = .ok (.aload_n 0, 1) := by decide +kernel
theorem dX3_readLeaf_48 : decode cX3_readLeaf 48 = .ok (.getfield 12, 3) := by decide +kernel
theorem dX3_readLeaf_51 : decode cX3_readLeaf 51 = .ok (.iload 5, 2) := by decide +kernel
theorem dX3_readLeaf_53 : decode cX3_readLeaf 53 = .ok (.aload_n 0, 1) := by decide +kernel
theorem dX3_readLeaf_54 : decode cX3_readLeaf 54 = .ok (.getfield 48, 3) := by decide +kernel
theorem dX3_readLeaf_57 : decode cX3_readLeaf 57 = .ok (.iload 6, 2) := by decide +kernel
theorem dX3_readLeaf_59 : decode cX3_readLeaf 59 = .ok (.iconst 1, 1) := by decide +kernel
theorem dX3_readLeaf_60 : decode cX3_readLeaf 60 = .ok (.isub, 1) := by decide +kernel
theorem dX3_readLeaf_61 : decode cX3_readLeaf 61 = .ok (.iaload, 1) := by decide +kernel
theorem dX3_readLeaf_62 : decode cX3_readLeaf 62 = .ok (.invokevirtual 145, 3) := by decide +kernel
theorem dX3_readLeaf_65 : decode cX3_readLeaf 65 = .ok (.ifCond .eq 25, 3) := by decide +kernel
theorem dX3_readLeaf_68 : decode cX3_readLeaf 68 = .ok (.aload_n 0, 1) := by decide +kernel
theorem dX3_readLeaf_69 : decode cX3_readLeaf 69 = .ok (.getfield 48, 3) := by decide +kernel
theorem dX3_readLeaf_72 : decode cX3_readLeaf 72 = .ok (.iload 6, 2) := by decide +kernel
theorem dX3_readLeaf_74 : decode cX3_readLeaf 74 = .ok (.aload_n 0, 1) := by decide +kernel
theorem dX3_readLeaf_75 : decode cX3_readLeaf 75 = .ok (.getfield 48, 3) := by decide +kernel
theorem dX3_readLeaf_78 : decode cX3_readLeaf 78 = .ok (.iload 6, 2) := by decide +kernel
theorem dX3_readLeaf_80 : decode cX3_readLeaf 80 = .ok (.iconst 1, 1) := by decide +kernel
theorem dX3_readLeaf_81 : decode cX3_readLeaf 81 = .ok (.isub, 1) := by decide +kernel
theorem dX3_readLeaf_82 : decode cX3_readLeaf 82 = .ok (.iaload, 1) := by decide +kernel
theorem dX3_readLeaf_83 : decode cX3_readLeaf 83 = .ok (.iastore, 1) := by decide +kernel
theorem dX3_readLeaf_84 : decode cX3_readLeaf 84 = .ok (.iinc 6 (-1), 3) := by decide +kernel
theorem dX3_readLeaf_87 : decode cX3_readLeaf 87 = .ok (.goto (-46), 3) := by decide +kernel
theorem dX3_readLeaf_90 : decode cX3_readLeaf 90 = .ok (.aload_n 0, 1) := by decide +kernel
theorem dX3_readLeaf_91 : decode cX3_readLeaf 91 = .ok (.getfield 48, 3) := by decide +kernel
theorem dX3_readLeaf_94 : decode cX3_readLeaf 94 = .ok (.iload 6, 2) := by decide +kernel
theorem dX3_readLeaf_96 : decode cX3_readLeaf 96 = .ok (.iload 5, 2) := by decide +kernel
theorem dX3_readLeaf_98 : decode cX3_readLeaf 98 = .ok (.iastore, 1) := by decide +kernel
theorem dX3_readLeaf_99 : decode cX3_readLeaf 99 = .ok (.iinc 4 1, 3) := by decide +kernel
theorem dX3_readLeaf_102 : decode cX3_readLeaf 102 = .ok (.goto (-99), 3) := by decide +kernel
theorem dX3_readLeaf_105 : decode cX3_readLeaf 105 = .ok (.aload_n 0, 1) := by decide +kernel
theorem dX3_readLeaf_106 : decode cX3_readLeaf 106 = .ok (.dup, 1) := by decide +kernel
theorem dX3_readLeaf_107 : decode cX3_readLeaf 107 = .ok (.getfield 57, 3) := by decide +kernel
theorem dX3_readLeaf_110 : decode cX3_readLeaf 110 = .ok (.iconst 1, 1) := by decide +kernel
theorem dX3_readLeaf_111 : decode cX3_readLeaf 111 = .ok (.iadd, 1) := by decide +kernel
theorem dX3_readLeaf_112 : decode cX3_readLeaf 112 = .ok (.putfield 57, 3) := by decide +kernel
theorem dX3_readLeaf_115 : decode cX3_readLeaf 115 = .ok (.return_, 1) := by decide +kernel
theorem dX3_nearestFigure_0 : decode cX3_nearestFigure 0 = .ok (.iconst (-1), 1) := by decide +kernel
theorem dX3_nearestFigure_1 : decode cX3_nearestFigure 1 = .ok (.istore_n 2, 1) := by decide +kernel
theorem dX3_nearestFigure_2 : decode cX3_nearestFigure 2 = .ok (.iconst 0, 1) := by decide +kernel
theorem dX3_nearestFigure_3 : decode cX3_nearestFigure 3 = .ok (.istore_n 3, 1) := by decide +kernel
theorem dX3_nearestFigure_4 : decode cX3_nearestFigure 4 = .ok (.iconst 0, 1) := by decide +kernel
theorem dX3_nearestFigure_5 : decode cX3_nearestFigure 5 = .ok (.istore 4, 2) := by decide +kernel
theorem dX3_nearestFigure_7 : decode cX3_nearestFigure 7 = .ok (.iload 4, 2) := by decide +kernel
theorem dX3_nearestFigure_9 : decode cX3_nearestFigure 9 = .ok (.aload_n 0, 1) := by decide +kernel
theorem dX3_nearestFigure_10 : decode cX3_nearestFigure 10 = .ok (.getfield 12, 3) := by decide +kernel
theorem dX3_nearestFigure_13 : decode cX3_nearestFigure 13 = .ok (.getfield 64, 3) := by decide +kernel
theorem dX3_nearestFigure_16 : decode cX3_nearestFigure 16 = .ok (.if_icmp .ge 52, 3) := by decide +kernel
theorem dX3_nearestFigure_19 : decode cX3_nearestFigure 19 = .ok (.aload_n 0, 1) := by decide +kernel
theorem dX3_nearestFigure_20 : decode cX3_nearestFigure 20 = .ok (.getfield 12, 3) := by decide +kernel
theorem dX3_nearestFigure_23 : decode cX3_nearestFigure 23 = .ok (.getfield 67, 3) := by decide +kernel
theorem dX3_nearestFigure_26 : decode cX3_nearestFigure 26 = .ok (.iload 4, 2) := by decide +kernel
theorem dX3_nearestFigure_28 : decode cX3_nearestFigure 28 = .ok (.iaload, 1) := by decide +kernel
theorem dX3_nearestFigure_29 : decode cX3_nearestFigure 29 = .ok (.iconst 3, 1) := by decide +kernel
theorem dX3_nearestFigure_30 : decode cX3_nearestFigure 30 = .ok (.if_icmp .ne 32, 3) := by decide +kernel
theorem dX3_nearestFigure_33 : decode cX3_nearestFigure 33 = .ok (.aload_n 0, 1) := by decide +kernel
theorem dX3_nearestFigure_34 : decode cX3_nearestFigure 34 = .ok (.getfield 12, 3) := by decide +kernel
theorem dX3_nearestFigure_37 : decode cX3_nearestFigure 37 = .ok (.iload_n 1, 1) := by decide +kernel
theorem dX3_nearestFigure_38 : decode cX3_nearestFigure 38 = .ok (.iload 4, 2) := by decide +kernel
theorem dX3_nearestFigure_40 : decode cX3_nearestFigure 40 = .ok (.invokevirtual 148, 3) := by decide +kernel
theorem dX3_nearestFigure_43 : decode cX3_nearestFigure 43 = .ok (.istore 5, 2) := by decide +kernel
theorem dX3_nearestFigure_45 : decode cX3_nearestFigure 45 = .ok (.iload_n 2, 1) := by decide +kernel
theorem dX3_nearestFigure_46 : decode cX3_nearestFigure 46 = .ok (.iconst (-1), 1) := by decide +kernel
theorem dX3_nearestFigure_47 : decode cX3_nearestFigure 47 = .ok (.if_icmp .eq 9, 3) := by decide +kernel
theorem dX3_nearestFigure_50 : decode cX3_nearestFigure 50 = .ok (.iload 5, 2) := by decide +kernel
theorem dX3_nearestFigure_52 : decode cX3_nearestFigure 52 = .ok (.iload_n 3, 1) := by decide +kernel
theorem dX3_nearestFigure_53 : decode cX3_nearestFigure 53 = .ok (.if_icmp .ge 9, 3) := by decide +kernel
theorem dX3_nearestFigure_56 : decode cX3_nearestFigure 56 = .ok (.iload 4, 2) := by decide +kernel
theorem dX3_nearestFigure_58 : decode cX3_nearestFigure 58 = .ok (.istore_n 2, 1) := by decide +kernel
theorem dX3_nearestFigure_59 : decode cX3_nearestFigure 59 = .ok (.iload 5, 2) := by decide +kernel
theorem dX3_nearestFigure_61 : decode cX3_nearestFigure 61 = .ok (.istore_n 3, 1) := by decide +kernel
theorem dX3_nearestFigure_62 : decode cX3_nearestFigure 62 = .ok (.iinc 4 1, 3) := by decide +kernel
theorem dX3_nearestFigure_65 : decode cX3_nearestFigure 65 = .ok (.goto (-58), 3) := by decide +kernel
theorem dX3_nearestFigure_68 : decode cX3_nearestFigure 68 = .ok (.iload_n 2, 1) := by decide +kernel
theorem dX3_nearestFigure_69 : decode cX3_nearestFigure 69 = .ok (.ireturn, 1) := by decide +kernel
theorem dX3_putInOrder_0 : decode cX3_putInOrder 0 = .ok (.aload_n 0, 1) := by decide +kernel
theorem dX3_putInOrder_1 : decode cX3_putInOrder 1 = .ok (.iconst 0, 1) := by decide +kernel
theorem dX3_putInOrder_2 : decode cX3_putInOrder 2 = .ok (.putfield 85, 3) := by decide +kernel
theorem dX3_putInOrder_5 : decode cX3_putInOrder 5 = .ok (.iconst 0, 1) := by decide +kernel
theorem dX3_putInOrder_6 : decode cX3_putInOrder 6 = .ok (.istore_n 1, 1) := by decide +kernel
theorem dX3_putInOrder_7 : decode cX3_putInOrder 7 = .ok (.iload_n 1, 1) := by decide +kernel
theorem dX3_putInOrder_8 : decode cX3_putInOrder 8 = .ok (.aload_n 0, 1) := by decide +kernel
theorem dX3_putInOrder_9 : decode cX3_putInOrder 9 = .ok (.getfield 61, 3) := by decide +kernel
theorem dX3_putInOrder_12 : decode cX3_putInOrder 12 = .ok (.if_icmp .ge 58, 3) := by decide +kernel
theorem dX3_putInOrder_15 : decode cX3_putInOrder 15 = .ok (.aload_n 0, 1) := by decide +kernel
theorem dX3_putInOrder_16 : decode cX3_putInOrder 16 = .ok (.aload_n 0, 1) := by decide +kernel
theorem dX3_putInOrder_17 : decode cX3_putInOrder 17 = .ok (.getfield 48, 3) := by decide +kernel
theorem dX3_putInOrder_20 : decode cX3_putInOrder 20 = .ok (.iload_n 1, 1) := by decide +kernel
theorem dX3_putInOrder_21 : decode cX3_putInOrder 21 = .ok (.iaload, 1) := by decide +kernel
theorem dX3_putInOrder_22 : decode cX3_putInOrder 22 = .ok (.invokevirtual 151, 3) := by decide +kernel
theorem dX3_putInOrder_25 : decode cX3_putInOrder 25 = .ok (.iconst 0, 1) := by decide +kernel
theorem dX3_putInOrder_26 : decode cX3_putInOrder 26 = .ok (.istore_n 2, 1) := by decide +kernel
theorem dX3_putInOrder_27 : decode cX3_putInOrder 27 = .ok (.iload_n 2, 1) := by decide +kernel
theorem dX3_putInOrder_28 : decode cX3_putInOrder 28 = .ok (.aload_n 0, 1) := by decide +kernel
theorem dX3_putInOrder_29 : decode cX3_putInOrder 29 = .ok (.getfield 12, 3) := by decide +kernel
theorem dX3_putInOrder_32 : decode cX3_putInOrder 32 = .ok (.getfield 64, 3) := by decide +kernel
theorem dX3_putInOrder_35 : decode cX3_putInOrder 35 = .ok (.if_icmp .ge 29, 3) := by decide +kernel
theorem dX3_putInOrder_38 : decode cX3_putInOrder 38 = .ok (.aload_n 0, 1) := by decide +kernel
theorem dX3_putInOrder_39 : decode cX3_putInOrder 39 = .ok (.getfield 25, 3) := by decide +kernel
theorem dX3_putInOrder_42 : decode cX3_putInOrder 42 = .ok (.iload_n 2, 1) := by decide +kernel
theorem dX3_putInOrder_43 : decode cX3_putInOrder 43 = .ok (.iaload, 1) := by decide +kernel
theorem dX3_putInOrder_44 : decode cX3_putInOrder 44 = .ok (.aload_n 0, 1) := by decide +kernel
theorem dX3_putInOrder_45 : decode cX3_putInOrder 45 = .ok (.getfield 48, 3) := by decide +kernel
theorem dX3_putInOrder_48 : decode cX3_putInOrder 48 = .ok (.iload_n 1, 1) := by decide +kernel
theorem dX3_putInOrder_49 : decode cX3_putInOrder 49 = .ok (.iaload, 1) := by decide +kernel
theorem dX3_putInOrder_50 : decode cX3_putInOrder 50 = .ok (.if_icmp .ne 8, 3) := by decide +kernel
theorem dX3_putInOrder_53 : decode cX3_putInOrder 53 = .ok (.aload_n 0, 1) := by decide +kernel
theorem dX3_putInOrder_54 : decode cX3_putInOrder 54 = .ok (.iload_n 2, 1) := by decide +kernel
theorem dX3_putInOrder_55 : decode cX3_putInOrder 55 = .ok (.invokevirtual 151, 3) := by decide +kernel
theorem dX3_putInOrder_58 : decode cX3_putInOrder 58 = .ok (.iinc 2 1, 3) := by decide +kernel
theorem dX3_putInOrder_61 : decode cX3_putInOrder 61 = .ok (.goto (-34), 3) := by decide +kernel
theorem dX3_putInOrder_64 : decode cX3_putInOrder 64 = .ok (.iinc 1 1, 3) := by decide +kernel
theorem dX3_putInOrder_67 : decode cX3_putInOrder 67 = .ok (.goto (-60), 3) := by decide +kernel
theorem dX3_putInOrder_70 : decode cX3_putInOrder 70 = .ok (.return_, 1) := by decide +kernel
theorem dX3_putNext_0 : decode cX3_putNext 0 = .ok (.aload_n 0, 1) := by decide +kernel
theorem dX3_putNext_1 : decode cX3_putNext 1 = .ok (.getfield 85, 3) := by decide +kernel
theorem dX3_putNext_4 : decode cX3_putNext 4 = .ok (.bipush 8, 2) := by decide +kernel
theorem dX3_putNext_6 : decode cX3_putNext 6 = .ok (.if_icmp .ge 33, 3) := by decide +kernel
theorem dX3_putNext_9 : decode cX3_putNext 9 = .ok (.aload_n 0, 1) := by decide +kernel
theorem dX3_putNext_10 : decode cX3_putNext 10 = .ok (.getfield 18, 3) := by decide +kernel
theorem dX3_putNext_13 : decode cX3_putNext 13 = .ok (.aload_n 0, 1) := by decide +kernel
theorem dX3_putNext_14 : decode cX3_putNext 14 = .ok (.getfield 85, 3) := by decide +kernel
theorem dX3_putNext_17 : decode cX3_putNext 17 = .ok (.iload_n 1, 1) := by decide +kernel
theorem dX3_putNext_18 : decode cX3_putNext 18 = .ok (.iastore, 1) := by decide +kernel
theorem dX3_putNext_19 : decode cX3_putNext 19 = .ok (.aload_n 0, 1) := by decide +kernel
theorem dX3_putNext_20 : decode cX3_putNext 20 = .ok (.getfield 22, 3) := by decide +kernel
theorem dX3_putNext_23 : decode cX3_putNext 23 = .ok (.iload_n 1, 1) := by decide +kernel
theorem dX3_putNext_24 : decode cX3_putNext 24 = .ok (.aload_n 0, 1) := by decide +kernel
theorem dX3_putNext_25 : decode cX3_putNext 25 = .ok (.getfield 85, 3) := by decide +kernel
theorem dX3_putNext_28 : decode cX3_putNext 28 = .ok (.iastore, 1) := by decide +kernel
theorem dX3_putNext_29 : decode cX3_putNext 29 = .ok (.aload_n 0, 1) := by decide +kernel
theorem dX3_putNext_30 : decode cX3_putNext 30 = .ok (.dup, 1) := by decide +kernel
theorem dX3_putNext_31 : decode cX3_putNext 31 = .ok (.getfield 85, 3) := by decide +kernel
theorem dX3_putNext_34 : decode cX3_putNext 34 = .ok (.iconst 1, 1) := by decide +kernel
theorem dX3_putNext_35 : decode cX3_putNext 35 = .ok (.iadd, 1) := by decide +kernel
theorem dX3_putNext_36 : decode cX3_putNext 36 = .ok (.putfield 85, 3) := by decide +kernel
theorem dX3_putNext_39 : decode cX3_putNext 39 = .ok (.return_, 1) := by decide +kernel
theorem dX4_init_0 : decode cX4_init 0 = .ok (.aload_n 0, 1) := by decide +kernel
theorem dX4_init_1 : decode cX4_init 1 = .ok (.invokespecial 3, 3) := by decide +kernel
theorem dX4_init_4 : decode cX4_init 4 = .ok (.aload_n 0, 1) := by decide +kernel
theorem dX4_init_5 : decode cX4_init 5 = .ok (.bipush 6, 2) := by decide +kernel
theorem dX4_init_7 : decode cX4_init 7 = .ok (.newarray .int, 2) := by decide +kernel
theorem dX4_init_9 : decode cX4_init 9 = .ok (.putfield 9, 3) := by decide +kernel
theorem dX4_init_12 : decode cX4_init 12 = .ok (.aload_n 0, 1) := by decide +kernel
theorem dX4_init_13 : decode cX4_init 13 = .ok (.bipush 6, 2) := by decide +kernel
theorem dX4_init_15 : decode cX4_init 15 = .ok (.newarray .int, 2) := by decide +kernel
theorem dX4_init_17 : decode cX4_init 17 = .ok (.putfield 15, 3) := by decide +kernel
theorem dX4_init_20 : decode cX4_init 20 = .ok (.return_, 1) := by decide +kernel
theorem dX4_clear_0 : decode cX4_clear 0 = .ok (.aload_n 0, 1) := by decide +kernel
theorem dX4_clear_1 : decode cX4_clear 1 = .ok (.iconst 0, 1) := by decide +kernel
theorem dX4_clear_2 : decode cX4_clear 2 = .ok (.putfield 18, 3) := by decide +kernel
theorem dX4_clear_5 : decode cX4_clear 5 = .ok (.return_, 1) := by decide +kernel
theorem dX4_copy_0 : decode cX4_copy 0 = .ok (.aload_n 1, 1) := by decide +kernel
theorem dX4_copy_1 : decode cX4_copy 1 = .ok (.getfield 9, 3) := by decide +kernel
theorem dX4_copy_4 : decode cX4_copy 4 = .ok (.iconst 0, 1) := by decide +kernel
theorem dX4_copy_5 : decode cX4_copy 5 = .ok (.aload_n 0, 1) := by decide +kernel
theorem dX4_copy_6 : decode cX4_copy 6 = .ok (.getfield 9, 3) := by decide +kernel
theorem dX4_copy_9 : decode cX4_copy 9 = .ok (.iconst 0, 1) := by decide +kernel
theorem dX4_copy_10 : decode cX4_copy 10 = .ok (.bipush 6, 2) := by decide +kernel
theorem dX4_copy_12 : decode cX4_copy 12 = .ok (.invokestatic 22, 3) := by decide +kernel
theorem dX4_copy_15 : decode cX4_copy 15 = .ok (.aload_n 1, 1) := by decide +kernel
theorem dX4_copy_16 : decode cX4_copy 16 = .ok (.getfield 15, 3) := by decide +kernel
theorem dX4_copy_19 : decode cX4_copy 19 = .ok (.iconst 0, 1) := by decide +kernel
theorem dX4_copy_20 : decode cX4_copy 20 = .ok (.aload_n 0, 1) := by decide +kernel
theorem dX4_copy_21 : decode cX4_copy 21 = .ok (.getfield 15, 3) := by decide +kernel
theorem dX4_copy_24 : decode cX4_copy 24 = .ok (.iconst 0, 1) := by decide +kernel
theorem dX4_copy_25 : decode cX4_copy 25 = .ok (.bipush 6, 2) := by decide +kernel
theorem dX4_copy_27 : decode cX4_copy 27 = .ok (.invokestatic 22, 3) := by decide +kernel
theorem dX4_copy_30 : decode cX4_copy 30 = .ok (.aload_n 0, 1) := by decide +kernel
theorem dX4_copy_31 : decode cX4_copy 31 = .ok (.aload_n 1, 1) := by decide +kernel
theorem dX4_copy_32 : decode cX4_copy 32 = .ok (.getfield 18, 3) := by decide +kernel
theorem dX4_copy_35 : decode cX4_copy 35 = .ok (.putfield 18, 3) := by decide +kernel
theorem dX4_copy_38 : decode cX4_copy 38 = .ok (.return_, 1) := by decide +kernel
theorem dX4_add_0 : decode cX4_add 0 = .ok (.aload_n 0, 1) := by decide +kernel
theorem dX4_add_1 : decode cX4_add 1 = .ok (.getfield 18, 3) := by decide +kernel
theorem dX4_add_4 : decode cX4_add 4 = .ok (.bipush 6, 2) := by decide +kernel
theorem dX4_add_6 : decode cX4_add 6 = .ok (.if_icmp .ge 52, 3) := by decide +kernel
theorem dX4_add_9 : decode cX4_add 9 = .ok (.aload_n 0, 1) := by decide +kernel
theorem dX4_add_10 : decode cX4_add 10 = .ok (.getfield 9, 3) := by decide +kernel
theorem dX4_add_13 : decode cX4_add 13 = .ok (.aload_n 0, 1) := by decide +kernel
theorem dX4_add_14 : decode cX4_add 14 = .ok (.getfield 18, 3) := by decide +kernel
theorem dX4_add_17 : decode cX4_add 17 = .ok (.iload_n 1, 1) := by decide +kernel
theorem dX4_add_18 : decode cX4_add 18 = .ok (.iastore, 1) := by decide +kernel
theorem dX4_add_19 : decode cX4_add 19 = .ok (.aload_n 0, 1) := by decide +kernel
theorem dX4_add_20 : decode cX4_add 20 = .ok (.getfield 15, 3) := by decide +kernel
theorem dX4_add_23 : decode cX4_add 23 = .ok (.aload_n 0, 1) := by decide +kernel
theorem dX4_add_24 : decode cX4_add 24 = .ok (.getfield 18, 3) := by decide +kernel
theorem dX4_add_27 : decode cX4_add 27 = .ok (.iload_n 3, 1) := by decide +kernel
theorem dX4_add_28 : decode cX4_add 28 = .ok (.ifCond .eq 10, 3) := by decide +kernel
theorem dX4_add_31 : decode cX4_add 31 = .ok (.iload_n 2, 1) := by decide +kernel
theorem dX4_add_32 : decode cX4_add 32 = .ok (.invokestatic 28, 3) := by decide +kernel
theorem dX4_add_35 : decode cX4_add 35 = .ok (.goto 12, 3) := by decide +kernel
theorem dX4_add_38 : decode cX4_add 38 = .ok (.bipush 31, 2) := by decide +kernel
theorem dX4_add_40 : decode cX4_add 40 = .ok (.iload_n 2, 1) := by decide +kernel
theorem dX4_add_41 : decode cX4_add 41 = .ok (.invokestatic 28, 3) := by decide +kernel
theorem dX4_add_44 : decode cX4_add 44 = .ok (.iconst (-1), 1) := by decide +kernel
theorem dX4_add_45 : decode cX4_add 45 = .ok (.ixor, 1) := by decide +kernel
theorem dX4_add_46 : decode cX4_add 46 = .ok (.iand, 1) := by decide +kernel
theorem dX4_add_47 : decode cX4_add 47 = .ok (.iastore, 1) := by decide +kernel
theorem dX4_add_48 : decode cX4_add 48 = .ok (.aload_n 0, 1) := by decide +kernel
theorem dX4_add_49 : decode cX4_add 49 = .ok (.dup, 1) := by decide +kernel
theorem dX4_add_50 : decode cX4_add 50 = .ok (.getfield 18, 3) := by decide +kernel
theorem dX4_add_53 : decode cX4_add 53 = .ok (.iconst 1, 1) := by decide +kernel
theorem dX4_add_54 : decode cX4_add 54 = .ok (.iadd, 1) := by decide +kernel
theorem dX4_add_55 : decode cX4_add 55 = .ok (.putfield 18, 3) := by decide +kernel
theorem dX4_add_58 : decode cX4_add 58 = .ok (.return_, 1) := by decide +kernel
theorem dX4_sortsOf_0 : decode cX4_sortsOf 0 = .ok (.bipush 31, 2) := by decide +kernel
theorem dX4_sortsOf_2 : decode cX4_sortsOf 2 = .ok (.istore_n 2, 1) := by decide +kernel
theorem dX4_sortsOf_3 : decode cX4_sortsOf 3 = .ok (.iconst 0, 1) := by decide +kernel
theorem dX4_sortsOf_4 : decode cX4_sortsOf 4 = .ok (.istore_n 3, 1) := by decide +kernel
theorem dX4_sortsOf_5 : decode cX4_sortsOf 5 = .ok (.iload_n 3, 1) := by decide +kernel
theorem dX4_sortsOf_6 : decode cX4_sortsOf 6 = .ok (.aload_n 0, 1) := by decide +kernel
theorem dX4_sortsOf_7 : decode cX4_sortsOf 7 = .ok (.getfield 18, 3) := by decide +kernel
theorem dX4_sortsOf_10 : decode cX4_sortsOf 10 = .ok (.if_icmp .ge 28, 3) := by decide +kernel
theorem dX4_sortsOf_13 : decode cX4_sortsOf 13 = .ok (.aload_n 0, 1) := by decide +kernel
theorem dX4_sortsOf_14 : decode cX4_sortsOf 14 = .ok (.getfield 9, 3) := by decide +kernel
theorem dX4_sortsOf_17 : decode cX4_sortsOf 17 = .ok (.iload_n 3, 1) := by decide +kernel
theorem dX4_sortsOf_18 : decode cX4_sortsOf 18 = .ok (.iaload, 1) := by decide +kernel
theorem dX4_sortsOf_19 : decode cX4_sortsOf 19 = .ok (.iload_n 1, 1) := by decide +kernel
theorem dX4_sortsOf_20 : decode cX4_sortsOf 20 = .ok (.if_icmp .ne 12, 3) := by decide +kernel
theorem dX4_sortsOf_23 : decode cX4_sortsOf 23 = .ok (.iload_n 2, 1) := by decide +kernel
theorem dX4_sortsOf_24 : decode cX4_sortsOf 24 = .ok (.aload_n 0, 1) := by decide +kernel
theorem dX4_sortsOf_25 : decode cX4_sortsOf 25 = .ok (.getfield 15, 3) := by decide +kernel
theorem dX4_sortsOf_28 : decode cX4_sortsOf 28 = .ok (.iload_n 3, 1) := by decide +kernel
theorem dX4_sortsOf_29 : decode cX4_sortsOf 29 = .ok (.iaload, 1) := by decide +kernel
theorem dX4_sortsOf_30 : decode cX4_sortsOf 30 = .ok (.iand, 1) := by decide +kernel
theorem dX4_sortsOf_31 : decode cX4_sortsOf 31 = .ok (.istore_n 2, 1) := by decide +kernel
theorem dX4_sortsOf_32 : decode cX4_sortsOf 32 = .ok (.iinc 3 1, 3) := by decide +kernel
theorem dX4_sortsOf_35 : decode cX4_sortsOf 35 = .ok (.goto (-30), 3) := by decide +kernel
theorem dX4_sortsOf_38 : decode cX4_sortsOf 38 = .ok (.iload_n 2, 1) := by decide +kernel
theorem dX4_sortsOf_39 : decode cX4_sortsOf 39 = .ok (.ireturn, 1) := by decide +kernel
theorem dX4_nextQuestionFor_0 : decode cX4_nextQuestionFor 0 = .ok (.aload_n 0, 1) := by decide +kernel
theorem dX4_nextQuestionFor_1 : decode cX4_nextQuestionFor 1 = .ok (.iload_n 1, 1) := by decide +kernel
theorem dX4_nextQuestionFor_2 : decode cX4_nextQuestionFor 2 = .ok (.invokevirtual 32, 3) := by decide +kernel
theorem dX4_nextQuestionFor_5 : decode cX4_nextQuestionFor 5 = .ok (.istore_n 2, 1) := by decide +kernel
theorem dX4_nextQuestionFor_6 : decode cX4_nextQuestionFor 6 = .ok (.iload_n 2, 1) := by decide +kernel
theorem dX4_nextQuestionFor_7 : decode cX4_nextQuestionFor 7 = .ok (.ifCond .ne 5, 3) := by decide +kernel
theorem dX4_nextQuestionFor_10 : decode cX4_nextQuestionFor 10 = .ok (.iconst (-1), 1) := by decide +kernel
theorem dX4_nextQuestionFor_11 : decode cX4_nextQuestionFor 11 = .ok (.ireturn, 1) := by decide +kernel
theorem dX4_nextQuestionFor_12 : decode cX4_nextQuestionFor 12 = .ok (.iconst (-1), 1) := by decide +kernel
theorem dX4_nextQuestionFor_13 : decode cX4_nextQuestionFor 13 = .ok (.istore_n 3, 1) := by decide +kernel
theorem dX4_nextQuestionFor_14 : decode cX4_nextQuestionFor 14 = .ok (.bipush 6, 2) := by decide +kernel
theorem dX4_nextQuestionFor_16 : decode cX4_nextQuestionFor 16 = .ok (.istore 4, 2) := by decide +kernel
theorem dX4_nextQuestionFor_18 : decode cX4_nextQuestionFor 18 = .ok (.iconst 0, 1) := by decide +kernel
theorem dX4_nextQuestionFor_19 : decode cX4_nextQuestionFor 19 = .ok (.istore 5, 2) := by decide +kernel
theorem dX4_nextQuestionFor_21 : decode cX4_nextQuestionFor 21 = .ok (.iload 5, 2) := by decide +kernel
theorem dX4_nextQuestionFor_23 : decode cX4_nextQuestionFor 23 = .ok (.iconst 4, 1) := by decide +kernel
theorem dX4_nextQuestionFor_24 : decode cX4_nextQuestionFor 24 = .ok (.if_icmp .ge 58, 3) := by decide +kernel
theorem dX4_nextQuestionFor_27 : decode cX4_nextQuestionFor 27 = .ok (.iload_n 2, 1) := by decide +kernel
theorem dX4_nextQuestionFor_28 : decode cX4_nextQuestionFor 28 = .ok (.iload 5, 2) := by decide +kernel
theorem dX4_nextQuestionFor_30 : decode cX4_nextQuestionFor 30 = .ok (.invokestatic 28, 3) := by decide +kernel
theorem dX4_nextQuestionFor_33 : decode cX4_nextQuestionFor 33 = .ok (.iand, 1) := by decide +kernel
theorem dX4_nextQuestionFor_34 : decode cX4_nextQuestionFor 34 = .ok (.invokestatic 35, 3) := by decide +kernel
theorem dX4_nextQuestionFor_37 : decode cX4_nextQuestionFor 37 = .ok (.istore 6, 2) := by decide +kernel
theorem dX4_nextQuestionFor_39 : decode cX4_nextQuestionFor 39 = .ok (.iload_n 2, 1) := by decide +kernel
theorem dX4_nextQuestionFor_40 : decode cX4_nextQuestionFor 40 = .ok (.iload 5, 2) := by decide +kernel
theorem dX4_nextQuestionFor_42 : decode cX4_nextQuestionFor 42 = .ok (.invokestatic 28, 3) := by decide +kernel
theorem dX4_nextQuestionFor_45 : decode cX4_nextQuestionFor 45 = .ok (.iconst (-1), 1) := by decide +kernel
theorem dX4_nextQuestionFor_46 : decode cX4_nextQuestionFor 46 = .ok (.ixor, 1) := by decide +kernel
theorem dX4_nextQuestionFor_47 : decode cX4_nextQuestionFor 47 = .ok (.iand, 1) := by decide +kernel
theorem dX4_nextQuestionFor_48 : decode cX4_nextQuestionFor 48 = .ok (.invokestatic 35, 3) := by decide +kernel
theorem dX4_nextQuestionFor_51 : decode cX4_nextQuestionFor 51 = .ok (.istore 7, 2) := by decide +kernel
theorem dX4_nextQuestionFor_53 : decode cX4_nextQuestionFor 53 = .ok (.iload 6, 2) := by decide +kernel
theorem dX4_nextQuestionFor_55 : decode cX4_nextQuestionFor 55 = .ok (.iload 7, 2) := by decide +kernel
theorem dX4_nextQuestionFor_57 : decode cX4_nextQuestionFor 57 = .ok (.invokestatic 40, 3) := by decide +kernel
theorem dX4_nextQuestionFor_60 : decode cX4_nextQuestionFor 60 = .ok (.istore 8, 2) := by decide +kernel
theorem dX4_nextQuestionFor_62 : decode cX4_nextQuestionFor 62 = .ok (.iload 8, 2) := by decide +kernel
theorem dX4_nextQuestionFor_64 : decode cX4_nextQuestionFor 64 = .ok (.iload 4, 2) := by decide +kernel
theorem dX4_nextQuestionFor_66 : decode cX4_nextQuestionFor 66 = .ok (.if_icmp .ge 10, 3) := by decide +kernel
theorem dX4_nextQuestionFor_69 : decode cX4_nextQuestionFor 69 = .ok (.iload 8, 2) := by decide +kernel
theorem dX4_nextQuestionFor_71 : decode cX4_nextQuestionFor 71 = .ok (.istore 4, 2) := by decide +kernel
theorem dX4_nextQuestionFor_73 : decode cX4_nextQuestionFor 73 = .ok (.iload 5, 2) := by decide +kernel
theorem dX4_nextQuestionFor_75 : decode cX4_nextQuestionFor 75 = .ok (.istore_n 3, 1) := by decide +kernel
theorem dX4_nextQuestionFor_76 : decode cX4_nextQuestionFor 76 = .ok (.iinc 5 1, 3) := by decide +kernel
theorem dX4_nextQuestionFor_79 : decode cX4_nextQuestionFor 79 = .ok (.goto (-58), 3) := by decide +kernel
theorem dX4_nextQuestionFor_82 : decode cX4_nextQuestionFor 82 = .ok (.iload_n 3, 1) := by decide +kernel
theorem dX4_nextQuestionFor_83 : decode cX4_nextQuestionFor 83 = .ok (.ireturn, 1) := by decide +kernel
theorem dX4_kindsSo_0 : decode cX4_kindsSo 0 = .ok (.iload_n 0, 1) := by decide +kernel
theorem dX4_kindsSo_1 : decode cX4_kindsSo 1 = .ok (.tableswitch 35 0 2 #[27, 29, 32], 27) := by decide +kernel
theorem dX4_kindsSo_28 : decode cX4_kindsSo 28 = .ok (.iconst 2, 1) := by decide +kernel
theorem dX4_kindsSo_29 : decode cX4_kindsSo 29 = .ok (.ireturn, 1) := by decide +kernel
theorem dX4_kindsSo_30 : decode cX4_kindsSo 30 = .ok (.bipush 20, 2) := by decide +kernel
theorem dX4_kindsSo_32 : decode cX4_kindsSo 32 = .ok (.ireturn, 1) := by decide +kernel
theorem dX4_kindsSo_33 : decode cX4_kindsSo 33 = .ok (.bipush 16, 2) := by decide +kernel
theorem dX4_kindsSo_35 : decode cX4_kindsSo 35 = .ok (.ireturn, 1) := by decide +kernel
theorem dX4_kindsSo_36 : decode cX4_kindsSo 36 = .ok (.bipush 8, 2) := by decide +kernel
theorem dX4_kindsSo_38 : decode cX4_kindsSo 38 = .ok (.ireturn, 1) := by decide +kernel
theorem dX5_init_0 : decode cX5_init 0 = .ok (.aload_n 0, 1) := by decide +kernel
theorem dX5_init_1 : decode cX5_init 1 = .ok (.invokespecial 3, 3) := by decide +kernel
theorem dX5_init_4 : decode cX5_init 4 = .ok (.aload_n 0, 1) := by decide +kernel
theorem dX5_init_5 : decode cX5_init 5 = .ok (.bipush 8, 2) := by decide +kernel
theorem dX5_init_7 : decode cX5_init 7 = .ok (.newarray .int, 2) := by decide +kernel
theorem dX5_init_9 : decode cX5_init 9 = .ok (.putfield 9, 3) := by decide +kernel
theorem dX5_init_12 : decode cX5_init 12 = .ok (.aload_n 0, 1) := by decide +kernel
theorem dX5_init_13 : decode cX5_init 13 = .ok (.bipush 8, 2) := by decide +kernel
theorem dX5_init_15 : decode cX5_init 15 = .ok (.newarray .int, 2) := by decide +kernel
theorem dX5_init_17 : decode cX5_init 17 = .ok (.putfield 15, 3) := by decide +kernel
theorem dX5_init_20 : decode cX5_init 20 = .ok (.aload_n 0, 1) := by decide +kernel
theorem dX5_init_21 : decode cX5_init 21 = .ok (.bipush 8, 2) := by decide +kernel
theorem dX5_init_23 : decode cX5_init 23 = .ok (.newarray .int, 2) := by decide +kernel
theorem dX5_init_25 : decode cX5_init 25 = .ok (.putfield 18, 3) := by decide +kernel
theorem dX5_init_28 : decode cX5_init 28 = .ok (.aload_n 0, 1) := by decide +kernel
theorem dX5_init_29 : decode cX5_init 29 = .ok (.bipush 8, 2) := by decide +kernel
theorem dX5_init_31 : decode cX5_init 31 = .ok (.newarray .int, 2) := by decide +kernel
theorem dX5_init_33 : decode cX5_init 33 = .ok (.putfield 21, 3) := by decide +kernel
theorem dX5_init_36 : decode cX5_init 36 = .ok (.aload_n 0, 1) := by decide +kernel
theorem dX5_init_37 : decode cX5_init 37 = .ok (.bipush 8, 2) := by decide +kernel
theorem dX5_init_39 : decode cX5_init 39 = .ok (.newarray .int, 2) := by decide +kernel
theorem dX5_init_41 : decode cX5_init 41 = .ok (.putfield 24, 3) := by decide +kernel
theorem dX5_init_44 : decode cX5_init 44 = .ok (.aload_n 0, 1) := by decide +kernel
theorem dX5_init_45 : decode cX5_init 45 = .ok (.iconst 4, 1) := by decide +kernel
theorem dX5_init_46 : decode cX5_init 46 = .ok (.newarray .int, 2) := by decide +kernel
theorem dX5_init_48 : decode cX5_init 48 = .ok (.putfield 27, 3) := by decide +kernel
theorem dX5_init_51 : decode cX5_init 51 = .ok (.return_, 1) := by decide +kernel
theorem dX5_clear_0 : decode cX5_clear 0 = .ok (.aload_n 0, 1) := by decide +kernel
theorem dX5_clear_1 : decode cX5_clear 1 = .ok (.iconst 0, 1) := by decide +kernel
theorem dX5_clear_2 : decode cX5_clear 2 = .ok (.putfield 30, 3) := by decide +kernel
theorem dX5_clear_5 : decode cX5_clear 5 = .ok (.aload_n 0, 1) := by decide +kernel
theorem dX5_clear_6 : decode cX5_clear 6 = .ok (.iconst 0, 1) := by decide +kernel
theorem dX5_clear_7 : decode cX5_clear 7 = .ok (.putfield 34, 3) := by decide +kernel
theorem dX5_clear_10 : decode cX5_clear 10 = .ok (.return_, 1) := by decide +kernel
theorem dX5_has_0 : decode cX5_has 0 = .ok (.iload_n 1, 1) := by decide +kernel
theorem dX5_has_1 : decode cX5_has 1 = .ok (.ifCond .lt 15, 3) := by decide +kernel
theorem dX5_has_4 : decode cX5_has 4 = .ok (.iload_n 1, 1) := by decide +kernel
theorem dX5_has_5 : decode cX5_has 5 = .ok (.aload_n 0, 1) := by decide +kernel
theorem dX5_has_6 : decode cX5_has 6 = .ok (.getfield 30, 3) := by decide +kernel
theorem dX5_has_9 : decode cX5_has 9 = .ok (.if_icmp .ge 7, 3) := by decide +kernel
theorem dX5_has_12 : decode cX5_has 12 = .ok (.iconst 1, 1) := by decide +kernel
theorem dX5_has_13 : decode cX5_has 13 = .ok (.goto 4, 3) := by decide +kernel
theorem dX5_has_16 : decode cX5_has 16 = .ok (.iconst 0, 1) := by decide +kernel
theorem dX5_has_17 : decode cX5_has 17 = .ok (.ireturn, 1) := by decide +kernel
theorem dX5_copy_0 : decode cX5_copy 0 = .ok (.aload_n 1, 1) := by decide +kernel
theorem dX5_copy_1 : decode cX5_copy 1 = .ok (.getfield 9, 3) := by decide +kernel
theorem dX5_copy_4 : decode cX5_copy 4 = .ok (.iconst 0, 1) := by decide +kernel
theorem dX5_copy_5 : decode cX5_copy 5 = .ok (.aload_n 0, 1) := by decide +kernel
theorem dX5_copy_6 : decode cX5_copy 6 = .ok (.getfield 9, 3) := by decide +kernel
theorem dX5_copy_9 : decode cX5_copy 9 = .ok (.iconst 0, 1) := by decide +kernel
theorem dX5_copy_10 : decode cX5_copy 10 = .ok (.bipush 8, 2) := by decide +kernel
theorem dX5_copy_12 : decode cX5_copy 12 = .ok (.invokestatic 37, 3) := by decide +kernel
theorem dX5_copy_15 : decode cX5_copy 15 = .ok (.aload_n 1, 1) := by decide +kernel
theorem dX5_copy_16 : decode cX5_copy 16 = .ok (.getfield 15, 3) := by decide +kernel
theorem dX5_copy_19 : decode cX5_copy 19 = .ok (.iconst 0, 1) := by decide +kernel
theorem dX5_copy_20 : decode cX5_copy 20 = .ok (.aload_n 0, 1) := by decide +kernel
theorem dX5_copy_21 : decode cX5_copy 21 = .ok (.getfield 15, 3) := by decide +kernel
theorem dX5_copy_24 : decode cX5_copy 24 = .ok (.iconst 0, 1) := by decide +kernel
theorem dX5_copy_25 : decode cX5_copy 25 = .ok (.bipush 8, 2) := by decide +kernel
theorem dX5_copy_27 : decode cX5_copy 27 = .ok (.invokestatic 37, 3) := by decide +kernel
theorem dX5_copy_30 : decode cX5_copy 30 = .ok (.aload_n 1, 1) := by decide +kernel
theorem dX5_copy_31 : decode cX5_copy 31 = .ok (.getfield 18, 3) := by decide +kernel
theorem dX5_copy_34 : decode cX5_copy 34 = .ok (.iconst 0, 1) := by decide +kernel
theorem dX5_copy_35 : decode cX5_copy 35 = .ok (.aload_n 0, 1) := by decide +kernel
theorem dX5_copy_36 : decode cX5_copy 36 = .ok (.getfield 18, 3) := by decide +kernel
theorem dX5_copy_39 : decode cX5_copy 39 = .ok (.iconst 0, 1) := by decide +kernel
theorem dX5_copy_40 : decode cX5_copy 40 = .ok (.bipush 8, 2) := by decide +kernel
theorem dX5_copy_42 : decode cX5_copy 42 = .ok (.invokestatic 37, 3) := by decide +kernel
theorem dX5_copy_45 : decode cX5_copy 45 = .ok (.aload_n 1, 1) := by decide +kernel
theorem dX5_copy_46 : decode cX5_copy 46 = .ok (.getfield 21, 3) := by decide +kernel
theorem dX5_copy_49 : decode cX5_copy 49 = .ok (.iconst 0, 1) := by decide +kernel
theorem dX5_copy_50 : decode cX5_copy 50 = .ok (.aload_n 0, 1) := by decide +kernel
theorem dX5_copy_51 : decode cX5_copy 51 = .ok (.getfield 21, 3) := by decide +kernel
theorem dX5_copy_54 : decode cX5_copy 54 = .ok (.iconst 0, 1) := by decide +kernel
theorem dX5_copy_55 : decode cX5_copy 55 = .ok (.bipush 8, 2) := by decide +kernel
theorem dX5_copy_57 : decode cX5_copy 57 = .ok (.invokestatic 37, 3) := by decide +kernel
theorem dX5_copy_60 : decode cX5_copy 60 = .ok (.aload_n 1, 1) := by decide +kernel
theorem dX5_copy_61 : decode cX5_copy 61 = .ok (.getfield 24, 3) := by decide +kernel
theorem dX5_copy_64 : decode cX5_copy 64 = .ok (.iconst 0, 1) := by decide +kernel
theorem dX5_copy_65 : decode cX5_copy 65 = .ok (.aload_n 0, 1) := by decide +kernel
theorem dX5_copy_66 : decode cX5_copy 66 = .ok (.getfield 24, 3) := by decide +kernel
theorem dX5_copy_69 : decode cX5_copy 69 = .ok (.iconst 0, 1) := by decide +kernel
theorem dX5_copy_70 : decode cX5_copy 70 = .ok (.bipush 8, 2) := by decide +kernel
theorem dX5_copy_72 : decode cX5_copy 72 = .ok (.invokestatic 37, 3) := by decide +kernel
theorem dX5_copy_75 : decode cX5_copy 75 = .ok (.aload_n 1, 1) := by decide +kernel
theorem dX5_copy_76 : decode cX5_copy 76 = .ok (.getfield 27, 3) := by decide +kernel
theorem dX5_copy_79 : decode cX5_copy 79 = .ok (.iconst 0, 1) := by decide +kernel
theorem dX5_copy_80 : decode cX5_copy 80 = .ok (.aload_n 0, 1) := by decide +kernel
theorem dX5_copy_81 : decode cX5_copy 81 = .ok (.getfield 27, 3) := by decide +kernel
theorem dX5_copy_84 : decode cX5_copy 84 = .ok (.iconst 0, 1) := by decide +kernel
theorem dX5_copy_85 : decode cX5_copy 85 = .ok (.iconst 4, 1) := by decide +kernel
theorem dX5_copy_86 : decode cX5_copy 86 = .ok (.invokestatic 37, 3) := by decide +kernel
theorem dX5_copy_89 : decode cX5_copy 89 = .ok (.aload_n 0, 1) := by decide +kernel
theorem dX5_copy_90 : decode cX5_copy 90 = .ok (.aload_n 1, 1) := by decide +kernel
theorem dX5_copy_91 : decode cX5_copy 91 = .ok (.getfield 30, 3) := by decide +kernel
theorem dX5_copy_94 : decode cX5_copy 94 = .ok (.putfield 30, 3) := by decide +kernel
theorem dX5_copy_97 : decode cX5_copy 97 = .ok (.aload_n 0, 1) := by decide +kernel
theorem dX5_copy_98 : decode cX5_copy 98 = .ok (.aload_n 1, 1) := by decide +kernel
theorem dX5_copy_99 : decode cX5_copy 99 = .ok (.getfield 34, 3) := by decide +kernel
theorem dX5_copy_102 : decode cX5_copy 102 = .ok (.putfield 34, 3) := by decide +kernel
theorem dX5_copy_105 : decode cX5_copy 105 = .ok (.return_, 1) := by decide +kernel
theorem dX5_copyWithout_0 : decode cX5_copyWithout 0 = .ok (.aload_n 0, 1) := by decide +kernel
theorem dX5_copyWithout_1 : decode cX5_copyWithout 1 = .ok (.aload_n 1, 1) := by decide +kernel
theorem dX5_copyWithout_2 : decode cX5_copyWithout 2 = .ok (.invokevirtual 43, 3) := by decide +kernel
theorem dX5_copyWithout_5 : decode cX5_copyWithout 5 = .ok (.aload_n 0, 1) := by decide +kernel
theorem dX5_copyWithout_6 : decode cX5_copyWithout 6 = .ok (.iload_n 2, 1) := by decide +kernel
theorem dX5_copyWithout_7 : decode cX5_copyWithout 7 = .ok (.invokevirtual 47, 3) := by decide +kernel
theorem dX5_copyWithout_10 : decode cX5_copyWithout 10 = .ok (.return_, 1) := by decide +kernel
theorem dX5_add_0 : decode cX5_add 0 = .ok (.aload_n 0, 1) := by decide +kernel
theorem dX5_add_1 : decode cX5_add 1 = .ok (.getfield 30, 3) := by decide +kernel
theorem dX5_add_4 : decode cX5_add 4 = .ok (.bipush 8, 2) := by decide +kernel
theorem dX5_add_6 : decode cX5_add 6 = .ok (.if_icmp .ge 65, 3) := by decide +kernel
theorem dX5_add_9 : decode cX5_add 9 = .ok (.aload_n 0, 1) := by decide +kernel
theorem dX5_add_10 : decode cX5_add 10 = .ok (.getfield 9, 3) := by decide +kernel
theorem dX5_add_13 : decode cX5_add 13 = .ok (.aload_n 0, 1) := by decide +kernel
theorem dX5_add_14 : decode cX5_add 14 = .ok (.getfield 30, 3) := by decide +kernel
theorem dX5_add_17 : decode cX5_add 17 = .ok (.iload_n 1, 1) := by decide +kernel
theorem dX5_add_18 : decode cX5_add 18 = .ok (.iastore, 1) := by decide +kernel
theorem dX5_add_19 : decode cX5_add 19 = .ok (.aload_n 0, 1) := by decide +kernel
theorem dX5_add_20 : decode cX5_add 20 = .ok (.getfield 15, 3) := by decide +kernel
theorem dX5_add_23 : decode cX5_add 23 = .ok (.aload_n 0, 1) := by decide +kernel
theorem dX5_add_24 : decode cX5_add 24 = .ok (.getfield 30, 3) := by decide +kernel
theorem dX5_add_27 : decode cX5_add 27 = .ok (.iload_n 2, 1) := by decide +kernel
theorem dX5_add_28 : decode cX5_add 28 = .ok (.iastore, 1) := by decide +kernel
theorem dX5_add_29 : decode cX5_add 29 = .ok (.aload_n 0, 1) := by decide +kernel
theorem dX5_add_30 : decode cX5_add 30 = .ok (.getfield 18, 3) := by decide +kernel
theorem dX5_add_33 : decode cX5_add 33 = .ok (.aload_n 0, 1) := by decide +kernel
theorem dX5_add_34 : decode cX5_add 34 = .ok (.getfield 30, 3) := by decide +kernel
theorem dX5_add_37 : decode cX5_add 37 = .ok (.iload_n 3, 1) := by decide +kernel
theorem dX5_add_38 : decode cX5_add 38 = .ok (.iastore, 1) := by decide +kernel
theorem dX5_add_39 : decode cX5_add 39 = .ok (.aload_n 0, 1) := by decide +kernel
theorem dX5_add_40 : decode cX5_add 40 = .ok (.getfield 21, 3) := by decide +kernel
theorem dX5_add_43 : decode cX5_add 43 = .ok (.aload_n 0, 1) := by decide +kernel
theorem dX5_add_44 : decode cX5_add 44 = .ok (.getfield 30, 3) := by decide +kernel
theorem dX5_add_47 : decode cX5_add 47 = .ok (.iload 4, 2) := by decide +kernel
theorem dX5_add_49 : decode cX5_add 49 = .ok (.iastore, 1) := by decide +kernel
theorem dX5_add_50 : decode cX5_add 50 = .ok (.aload_n 0, 1) := by decide +kernel
theorem dX5_add_51 : decode cX5_add 51 = .ok (.getfield 24, 3) := by decide +kernel
theorem dX5_add_54 : decode cX5_add 54 = .ok (.aload_n 0, 1) := by decide +kernel
theorem dX5_add_55 : decode cX5_add 55 = .ok (.getfield 30, 3) := by decide +kernel
theorem dX5_add_58 : decode cX5_add 58 = .ok (.iload 5, 2) := by decide +kernel
theorem dX5_add_60 : decode cX5_add 60 = .ok (.iastore, 1) := by decide +kernel
theorem dX5_add_61 : decode cX5_add 61 = .ok (.aload_n 0, 1) := by decide +kernel
theorem dX5_add_62 : decode cX5_add 62 = .ok (.dup, 1) := by decide +kernel
theorem dX5_add_63 : decode cX5_add 63 = .ok (.getfield 30, 3) := by decide +kernel
theorem dX5_add_66 : decode cX5_add 66 = .ok (.iconst 1, 1) := by decide +kernel
theorem dX5_add_67 : decode cX5_add 67 = .ok (.iadd, 1) := by decide +kernel
theorem dX5_add_68 : decode cX5_add 68 = .ok (.putfield 30, 3) := by decide +kernel
theorem dX5_add_71 : decode cX5_add 71 = .ok (.return_, 1) := by decide +kernel
theorem dX5_remove_0 : decode cX5_remove 0 = .ok (.aload_n 0, 1) := by decide +kernel
theorem dX5_remove_1 : decode cX5_remove 1 = .ok (.iload_n 1, 1) := by decide +kernel
theorem dX5_remove_2 : decode cX5_remove 2 = .ok (.invokevirtual 51, 3) := by decide +kernel
theorem dX5_remove_5 : decode cX5_remove 5 = .ok (.ifCond .ne 4, 3) := by decide +kernel
theorem dX5_remove_8 : decode cX5_remove 8 = .ok (.return_, 1) := by decide +kernel
theorem dX5_remove_9 : decode cX5_remove 9 = .ok (.iload_n 1, 1) := by decide +kernel
theorem dX5_remove_10 : decode cX5_remove 10 = .ok (.istore_n 2, 1) := by decide +kernel
theorem dX5_remove_11 : decode cX5_remove 11 = .ok (.iload_n 2, 1) := by decide +kernel
theorem dX5_remove_12 : decode cX5_remove 12 = .ok (.iconst 1, 1) := by decide +kernel
theorem dX5_remove_13 : decode cX5_remove 13 = .ok (.iadd, 1) := by decide +kernel
theorem dX5_remove_14 : decode cX5_remove 14 = .ok (.aload_n 0, 1) := by decide +kernel
theorem dX5_remove_15 : decode cX5_remove 15 = .ok (.getfield 30, 3) := by decide +kernel
theorem dX5_remove_18 : decode cX5_remove 18 = .ok (.if_icmp .ge 79, 3) := by decide +kernel
theorem dX5_remove_21 : decode cX5_remove 21 = .ok (.aload_n 0, 1) := by decide +kernel
theorem dX5_remove_22 : decode cX5_remove 22 = .ok (.getfield 9, 3) := by decide +kernel
theorem dX5_remove_25 : decode cX5_remove 25 = .ok (.iload_n 2, 1) := by decide +kernel
theorem dX5_remove_26 : decode cX5_remove 26 = .ok (.aload_n 0, 1) := by decide +kernel
theorem dX5_remove_27 : decode cX5_remove 27 = .ok (.getfield 9, 3) := by decide +kernel
theorem dX5_remove_30 : decode cX5_remove 30 = .ok (.iload_n 2, 1) := by decide +kernel
theorem dX5_remove_31 : decode cX5_remove 31 = .ok (.iconst 1, 1) := by decide +kernel
theorem dX5_remove_32 : decode cX5_remove 32 = .ok (.iadd, 1) := by decide +kernel
theorem dX5_remove_33 : decode cX5_remove 33 = .ok (.iaload, 1) := by decide +kernel
theorem dX5_remove_34 : decode cX5_remove 34 = .ok (.iastore, 1) := by decide +kernel
theorem dX5_remove_35 : decode cX5_remove 35 = .ok (.aload_n 0, 1) := by decide +kernel
theorem dX5_remove_36 : decode cX5_remove 36 = .ok (.getfield 15, 3) := by decide +kernel
theorem dX5_remove_39 : decode cX5_remove 39 = .ok (.iload_n 2, 1) := by decide +kernel
theorem dX5_remove_40 : decode cX5_remove 40 = .ok (.aload_n 0, 1) := by decide +kernel
theorem dX5_remove_41 : decode cX5_remove 41 = .ok (.getfield 15, 3) := by decide +kernel
theorem dX5_remove_44 : decode cX5_remove 44 = .ok (.iload_n 2, 1) := by decide +kernel
theorem dX5_remove_45 : decode cX5_remove 45 = .ok (.iconst 1, 1) := by decide +kernel
theorem dX5_remove_46 : decode cX5_remove 46 = .ok (.iadd, 1) := by decide +kernel
theorem dX5_remove_47 : decode cX5_remove 47 = .ok (.iaload, 1) := by decide +kernel
theorem dX5_remove_48 : decode cX5_remove 48 = .ok (.iastore, 1) := by decide +kernel
theorem dX5_remove_49 : decode cX5_remove 49 = .ok (.aload_n 0, 1) := by decide +kernel
theorem dX5_remove_50 : decode cX5_remove 50 = .ok (.getfield 18, 3) := by decide +kernel
theorem dX5_remove_53 : decode cX5_remove 53 = .ok (.iload_n 2, 1) := by decide +kernel
theorem dX5_remove_54 : decode cX5_remove 54 = .ok (.aload_n 0, 1) := by decide +kernel
theorem dX5_remove_55 : decode cX5_remove 55 = .ok (.getfield 18, 3) := by decide +kernel
theorem dX5_remove_58 : decode cX5_remove 58 = .ok (.iload_n 2, 1) := by decide +kernel
theorem dX5_remove_59 : decode cX5_remove 59 = .ok (.iconst 1, 1) := by decide +kernel
theorem dX5_remove_60 : decode cX5_remove 60 = .ok (.iadd, 1) := by decide +kernel
theorem dX5_remove_61 : decode cX5_remove 61 = .ok (.iaload, 1) := by decide +kernel
theorem dX5_remove_62 : decode cX5_remove 62 = .ok (.iastore, 1) := by decide +kernel
theorem dX5_remove_63 : decode cX5_remove 63 = .ok (.aload_n 0, 1) := by decide +kernel
theorem dX5_remove_64 : decode cX5_remove 64 = .ok (.getfield 21, 3) := by decide +kernel
theorem dX5_remove_67 : decode cX5_remove 67 = .ok (.iload_n 2, 1) := by decide +kernel
theorem dX5_remove_68 : decode cX5_remove 68 = .ok (.aload_n 0, 1) := by decide +kernel
theorem dX5_remove_69 : decode cX5_remove 69 = .ok (.getfield 21, 3) := by decide +kernel
theorem dX5_remove_72 : decode cX5_remove 72 = .ok (.iload_n 2, 1) := by decide +kernel
theorem dX5_remove_73 : decode cX5_remove 73 = .ok (.iconst 1, 1) := by decide +kernel
theorem dX5_remove_74 : decode cX5_remove 74 = .ok (.iadd, 1) := by decide +kernel
theorem dX5_remove_75 : decode cX5_remove 75 = .ok (.iaload, 1) := by decide +kernel
theorem dX5_remove_76 : decode cX5_remove 76 = .ok (.iastore, 1) := by decide +kernel
theorem dX5_remove_77 : decode cX5_remove 77 = .ok (.aload_n 0, 1) := by decide +kernel
theorem dX5_remove_78 : decode cX5_remove 78 = .ok (.getfield 24, 3) := by decide +kernel
theorem dX5_remove_81 : decode cX5_remove 81 = .ok (.iload_n 2, 1) := by decide +kernel
theorem dX5_remove_82 : decode cX5_remove 82 = .ok (.aload_n 0, 1) := by decide +kernel
theorem dX5_remove_83 : decode cX5_remove 83 = .ok (.getfield 24, 3) := by decide +kernel
theorem dX5_remove_86 : decode cX5_remove 86 = .ok (.iload_n 2, 1) := by decide +kernel
theorem dX5_remove_87 : decode cX5_remove 87 = .ok (.iconst 1, 1) := by decide +kernel
theorem dX5_remove_88 : decode cX5_remove 88 = .ok (.iadd, 1) := by decide +kernel
theorem dX5_remove_89 : decode cX5_remove 89 = .ok (.iaload, 1) := by decide +kernel
theorem dX5_remove_90 : decode cX5_remove 90 = .ok (.iastore, 1) := by decide +kernel
theorem dX5_remove_91 : decode cX5_remove 91 = .ok (.iinc 2 1, 3) := by decide +kernel
theorem dX5_remove_94 : decode cX5_remove 94 = .ok (.goto (-83), 3) := by decide +kernel
theorem dX5_remove_97 : decode cX5_remove 97 = .ok (.aload_n 0, 1) := by decide +kernel
theorem dX5_remove_98 : decode cX5_remove 98 = .ok (.dup, 1) := by decide +kernel
theorem dX5_remove_99 : decode cX5_remove 99 = .ok (.getfield 30, 3) := by decide +kernel
theorem dX5_remove_102 : decode cX5_remove 102 = .ok (.iconst 1, 1) := by decide +kernel
theorem dX5_remove_103 : decode cX5_remove 103 = .ok (.isub, 1) := by decide +kernel
theorem dX5_remove_104 : decode cX5_remove 104 = .ok (.putfield 30, 3) := by decide +kernel
theorem dX5_remove_107 : decode cX5_remove 107 = .ok (.return_, 1) := by decide +kernel
theorem dX5_shift_0 : decode cX5_shift 0 = .ok (.aload_n 0, 1) := by decide +kernel
theorem dX5_shift_1 : decode cX5_shift 1 = .ok (.iload_n 1, 1) := by decide +kernel
theorem dX5_shift_2 : decode cX5_shift 2 = .ok (.invokevirtual 51, 3) := by decide +kernel
theorem dX5_shift_5 : decode cX5_shift 5 = .ok (.ifCond .ne 4, 3) := by decide +kernel
theorem dX5_shift_8 : decode cX5_shift 8 = .ok (.return_, 1) := by decide +kernel
theorem dX5_shift_9 : decode cX5_shift 9 = .ok (.aload_n 0, 1) := by decide +kernel
theorem dX5_shift_10 : decode cX5_shift 10 = .ok (.getfield 15, 3) := by decide +kernel
theorem dX5_shift_13 : decode cX5_shift 13 = .ok (.iload_n 1, 1) := by decide +kernel
theorem dX5_shift_14 : decode cX5_shift 14 = .ok (.dup2, 1) := by decide +kernel
theorem dX5_shift_15 : decode cX5_shift 15 = .ok (.iaload, 1) := by decide +kernel
theorem dX5_shift_16 : decode cX5_shift 16 = .ok (.iload_n 2, 1) := by decide +kernel
theorem dX5_shift_17 : decode cX5_shift 17 = .ok (.iadd, 1) := by decide +kernel
theorem dX5_shift_18 : decode cX5_shift 18 = .ok (.iastore, 1) := by decide +kernel
theorem dX5_shift_19 : decode cX5_shift 19 = .ok (.aload_n 0, 1) := by decide +kernel
theorem dX5_shift_20 : decode cX5_shift 20 = .ok (.getfield 21, 3) := by decide +kernel
theorem dX5_shift_23 : decode cX5_shift 23 = .ok (.iload_n 1, 1) := by decide +kernel
theorem dX5_shift_24 : decode cX5_shift 24 = .ok (.dup2, 1) := by decide +kernel
theorem dX5_shift_25 : decode cX5_shift 25 = .ok (.iaload, 1) := by decide +kernel
theorem dX5_shift_26 : decode cX5_shift 26 = .ok (.iload_n 2, 1) := by decide +kernel
theorem dX5_shift_27 : decode cX5_shift 27 = .ok (.iadd, 1) := by decide +kernel
theorem dX5_shift_28 : decode cX5_shift 28 = .ok (.iastore, 1) := by decide +kernel
theorem dX5_shift_29 : decode cX5_shift 29 = .ok (.aload_n 0, 1) := by decide +kernel
theorem dX5_shift_30 : decode cX5_shift 30 = .ok (.getfield 18, 3) := by decide +kernel
theorem dX5_shift_33 : decode cX5_shift 33 = .ok (.iload_n 1, 1) := by decide +kernel
theorem dX5_shift_34 : decode cX5_shift 34 = .ok (.dup2, 1) := by decide +kernel
theorem dX5_shift_35 : decode cX5_shift 35 = .ok (.iaload, 1) := by decide +kernel
theorem dX5_shift_36 : decode cX5_shift 36 = .ok (.iload_n 3, 1) := by decide +kernel
theorem dX5_shift_37 : decode cX5_shift 37 = .ok (.iadd, 1) := by decide +kernel
theorem dX5_shift_38 : decode cX5_shift 38 = .ok (.iastore, 1) := by decide +kernel
theorem dX5_shift_39 : decode cX5_shift 39 = .ok (.aload_n 0, 1) := by decide +kernel
theorem dX5_shift_40 : decode cX5_shift 40 = .ok (.getfield 24, 3) := by decide +kernel
theorem dX5_shift_43 : decode cX5_shift 43 = .ok (.iload_n 1, 1) := by decide +kernel
theorem dX5_shift_44 : decode cX5_shift 44 = .ok (.dup2, 1) := by decide +kernel
theorem dX5_shift_45 : decode cX5_shift 45 = .ok (.iaload, 1) := by decide +kernel
theorem dX5_shift_46 : decode cX5_shift 46 = .ok (.iload_n 3, 1) := by decide +kernel
theorem dX5_shift_47 : decode cX5_shift 47 = .ok (.iadd, 1) := by decide +kernel
theorem dX5_shift_48 : decode cX5_shift 48 = .ok (.iastore, 1) := by decide +kernel
theorem dX5_shift_49 : decode cX5_shift 49 = .ok (.return_, 1) := by decide +kernel
theorem dX5_staysInside_0 : decode cX5_staysInside 0 = .ok (.aload_n 0, 1) := by decide +kernel
theorem dX5_staysInside_1 : decode cX5_staysInside 1 = .ok (.getfield 15, 3) := by decide +kernel
theorem dX5_staysInside_4 : decode cX5_staysInside 4 = .ok (.iload_n 1, 1) := by decide +kernel
theorem dX5_staysInside_5 : decode cX5_staysInside 5 = .ok (.iaload, 1) := by decide +kernel
theorem dX5_staysInside_6 : decode cX5_staysInside 6 = .ok (.iload_n 2, 1) := by decide +kernel
theorem dX5_staysInside_7 : decode cX5_staysInside 7 = .ok (.iadd, 1) := by decide +kernel
theorem dX5_staysInside_8 : decode cX5_staysInside 8 = .ok (.ifCond .lt 46, 3) := by decide +kernel
theorem dX5_staysInside_11 : decode cX5_staysInside 11 = .ok (.aload_n 0, 1) := by decide +kernel
theorem dX5_staysInside_12 : decode cX5_staysInside 12 = .ok (.getfield 21, 3) := by decide +kernel
theorem dX5_staysInside_15 : decode cX5_staysInside 15 = .ok (.iload_n 1, 1) := by decide +kernel
theorem dX5_staysInside_16 : decode cX5_staysInside 16 = .ok (.iaload, 1) := by decide +kernel
theorem dX5_staysInside_17 : decode cX5_staysInside 17 = .ok (.iload_n 2, 1) := by decide +kernel
theorem dX5_staysInside_18 : decode cX5_staysInside 18 = .ok (.iadd, 1) := by decide +kernel
theorem dX5_staysInside_19 : decode cX5_staysInside 19 = .ok (.sipush 999, 3) := by decide +kernel
theorem dX5_staysInside_22 : decode cX5_staysInside 22 = .ok (.if_icmp .gt 32, 3) := by decide +kernel
theorem dX5_staysInside_25 : decode cX5_staysInside 25 = .ok (.aload_n 0, 1) := by decide +kernel
theorem dX5_staysInside_26 : decode cX5_staysInside 26 = .ok (.getfield 18, 3) := by decide +kernel
theorem dX5_staysInside_29 : decode cX5_staysInside 29 = .ok (.iload_n 1, 1) := by decide +kernel
theorem dX5_staysInside_30 : decode cX5_staysInside 30 = .ok (.iaload, 1) := by decide +kernel
theorem dX5_staysInside_31 : decode cX5_staysInside 31 = .ok (.iload_n 3, 1) := by decide +kernel
theorem dX5_staysInside_32 : decode cX5_staysInside 32 = .ok (.iadd, 1) := by decide +kernel
theorem dX5_staysInside_33 : decode cX5_staysInside 33 = .ok (.ifCond .lt 21, 3) := by decide +kernel
theorem dX5_staysInside_36 : decode cX5_staysInside 36 = .ok (.aload_n 0, 1) := by decide +kernel
theorem dX5_staysInside_37 : decode cX5_staysInside 37 = .ok (.getfield 24, 3) := by decide +kernel
theorem dX5_staysInside_40 : decode cX5_staysInside 40 = .ok (.iload_n 1, 1) := by decide +kernel
theorem dX5_staysInside_41 : decode cX5_staysInside 41 = .ok (.iaload, 1) := by decide +kernel
theorem dX5_staysInside_42 : decode cX5_staysInside 42 = .ok (.iload_n 3, 1) := by decide +kernel
theorem dX5_staysInside_43 : decode cX5_staysInside 43 = .ok (.iadd, 1) := by decide +kernel
theorem dX5_staysInside_44 : decode cX5_staysInside 44 = .ok (.sipush 999, 3) := by decide +kernel
theorem dX5_staysInside_47 : decode cX5_staysInside 47 = .ok (.if_icmp .gt 7, 3) := by decide +kernel
theorem dX5_staysInside_50 : decode cX5_staysInside 50 = .ok (.iconst 1, 1) := by decide +kernel
theorem dX5_staysInside_51 : decode cX5_staysInside 51 = .ok (.goto 4, 3) := by decide +kernel
theorem dX5_staysInside_54 : decode cX5_staysInside 54 = .ok (.iconst 0, 1) := by decide +kernel
theorem dX5_staysInside_55 : decode cX5_staysInside 55 = .ok (.ireturn, 1) := by decide +kernel
theorem dX5_greatestNumber_0 : decode cX5_greatestNumber 0 = .ok (.iconst 0, 1) := by decide +kernel
theorem dX5_greatestNumber_1 : decode cX5_greatestNumber 1 = .ok (.istore_n 1, 1) := by decide +kernel
theorem dX5_greatestNumber_2 : decode cX5_greatestNumber 2 = .ok (.iconst 0, 1) := by decide +kernel
theorem dX5_greatestNumber_3 : decode cX5_greatestNumber 3 = .ok (.istore_n 2, 1) := by decide +kernel
theorem dX5_greatestNumber_4 : decode cX5_greatestNumber 4 = .ok (.iload_n 2, 1) := by decide +kernel
theorem dX5_greatestNumber_5 : decode cX5_greatestNumber 5 = .ok (.aload_n 0, 1) := by decide +kernel
theorem dX5_greatestNumber_6 : decode cX5_greatestNumber 6 = .ok (.getfield 30, 3) := by decide +kernel
theorem dX5_greatestNumber_9 : decode cX5_greatestNumber 9 = .ok (.if_icmp .ge 29, 3) := by decide +kernel
theorem dX5_greatestNumber_12 : decode cX5_greatestNumber 12 = .ok (.iload_n 1, 1) := by decide +kernel
theorem dX5_greatestNumber_13 : decode cX5_greatestNumber 13 = .ok (.aload_n 0, 1) := by decide +kernel
theorem dX5_greatestNumber_14 : decode cX5_greatestNumber 14 = .ok (.getfield 21, 3) := by decide +kernel
theorem dX5_greatestNumber_17 : decode cX5_greatestNumber 17 = .ok (.iload_n 2, 1) := by decide +kernel
theorem dX5_greatestNumber_18 : decode cX5_greatestNumber 18 = .ok (.iaload, 1) := by decide +kernel
theorem dX5_greatestNumber_19 : decode cX5_greatestNumber 19 = .ok (.aload_n 0, 1) := by decide +kernel
theorem dX5_greatestNumber_20 : decode cX5_greatestNumber 20 = .ok (.getfield 24, 3) := by decide +kernel
theorem dX5_greatestNumber_23 : decode cX5_greatestNumber 23 = .ok (.iload_n 2, 1) := by decide +kernel
theorem dX5_greatestNumber_24 : decode cX5_greatestNumber 24 = .ok (.iaload, 1) := by decide +kernel
theorem dX5_greatestNumber_25 : decode cX5_greatestNumber 25 = .ok (.invokestatic 55, 3) := by decide +kernel
theorem dX5_greatestNumber_28 : decode cX5_greatestNumber 28 = .ok (.invokestatic 55, 3) := by decide +kernel
theorem dX5_greatestNumber_31 : decode cX5_greatestNumber 31 = .ok (.istore_n 1, 1) := by decide +kernel
theorem dX5_greatestNumber_32 : decode cX5_greatestNumber 32 = .ok (.iinc 2 1, 3) := by decide +kernel
theorem dX5_greatestNumber_35 : decode cX5_greatestNumber 35 = .ok (.goto (-31), 3) := by decide +kernel
theorem dX5_greatestNumber_38 : decode cX5_greatestNumber 38 = .ok (.iload_n 1, 1) := by decide +kernel
theorem dX5_greatestNumber_39 : decode cX5_greatestNumber 39 = .ok (.ireturn, 1) := by decide +kernel
theorem dX5_stretch_0 : decode cX5_stretch 0 = .ok (.iconst 0, 1) := by decide +kernel
theorem dX5_stretch_1 : decode cX5_stretch 1 = .ok (.istore_n 2, 1) := by decide +kernel
theorem dX5_stretch_2 : decode cX5_stretch 2 = .ok (.iload_n 2, 1) := by decide +kernel
theorem dX5_stretch_3 : decode cX5_stretch 3 = .ok (.aload_n 0, 1) := by decide +kernel
theorem dX5_stretch_4 : decode cX5_stretch 4 = .ok (.getfield 30, 3) := by decide +kernel
theorem dX5_stretch_7 : decode cX5_stretch 7 = .ok (.if_icmp .ge 49, 3) := by decide +kernel
theorem dX5_stretch_10 : decode cX5_stretch 10 = .ok (.aload_n 0, 1) := by decide +kernel
theorem dX5_stretch_11 : decode cX5_stretch 11 = .ok (.getfield 15, 3) := by decide +kernel
theorem dX5_stretch_14 : decode cX5_stretch 14 = .ok (.iload_n 2, 1) := by decide +kernel
theorem dX5_stretch_15 : decode cX5_stretch 15 = .ok (.dup2, 1) := by decide +kernel
theorem dX5_stretch_16 : decode cX5_stretch 16 = .ok (.iaload, 1) := by decide +kernel
theorem dX5_stretch_17 : decode cX5_stretch 17 = .ok (.iload_n 1, 1) := by decide +kernel
theorem dX5_stretch_18 : decode cX5_stretch 18 = .ok (.imul, 1) := by decide +kernel
theorem dX5_stretch_19 : decode cX5_stretch 19 = .ok (.iastore, 1) := by decide +kernel
theorem dX5_stretch_20 : decode cX5_stretch 20 = .ok (.aload_n 0, 1) := by decide +kernel
theorem dX5_stretch_21 : decode cX5_stretch 21 = .ok (.getfield 18, 3) := by decide +kernel
theorem dX5_stretch_24 : decode cX5_stretch 24 = .ok (.iload_n 2, 1) := by decide +kernel
theorem dX5_stretch_25 : decode cX5_stretch 25 = .ok (.dup2, 1) := by decide +kernel
theorem dX5_stretch_26 : decode cX5_stretch 26 = .ok (.iaload, 1) := by decide +kernel
theorem dX5_stretch_27 : decode cX5_stretch 27 = .ok (.iload_n 1, 1) := by decide +kernel
theorem dX5_stretch_28 : decode cX5_stretch 28 = .ok (.imul, 1) := by decide +kernel
theorem dX5_stretch_29 : decode cX5_stretch 29 = .ok (.iastore, 1) := by decide +kernel
theorem dX5_stretch_30 : decode cX5_stretch 30 = .ok (.aload_n 0, 1) := by decide +kernel
theorem dX5_stretch_31 : decode cX5_stretch 31 = .ok (.getfield 21, 3) := by decide +kernel
theorem dX5_stretch_34 : decode cX5_stretch 34 = .ok (.iload_n 2, 1) := by decide +kernel
theorem dX5_stretch_35 : decode cX5_stretch 35 = .ok (.dup2, 1) := by decide +kernel
theorem dX5_stretch_36 : decode cX5_stretch 36 = .ok (.iaload, 1) := by decide +kernel
theorem dX5_stretch_37 : decode cX5_stretch 37 = .ok (.iload_n 1, 1) := by decide +kernel
theorem dX5_stretch_38 : decode cX5_stretch 38 = .ok (.imul, 1) := by decide +kernel
theorem dX5_stretch_39 : decode cX5_stretch 39 = .ok (.iastore, 1) := by decide +kernel
theorem dX5_stretch_40 : decode cX5_stretch 40 = .ok (.aload_n 0, 1) := by decide +kernel
theorem dX5_stretch_41 : decode cX5_stretch 41 = .ok (.getfield 24, 3) := by decide +kernel
theorem dX5_stretch_44 : decode cX5_stretch 44 = .ok (.iload_n 2, 1) := by decide +kernel
theorem dX5_stretch_45 : decode cX5_stretch 45 = .ok (.dup2, 1) := by decide +kernel
theorem dX5_stretch_46 : decode cX5_stretch 46 = .ok (.iaload, 1) := by decide +kernel
theorem dX5_stretch_47 : decode cX5_stretch 47 = .ok (.iload_n 1, 1) := by decide +kernel
theorem dX5_stretch_48 : decode cX5_stretch 48 = .ok (.imul, 1) := by decide +kernel
theorem dX5_stretch_49 : decode cX5_stretch 49 = .ok (.iastore, 1) := by decide +kernel
theorem dX5_stretch_50 : decode cX5_stretch 50 = .ok (.iinc 2 1, 3) := by decide +kernel
theorem dX5_stretch_53 : decode cX5_stretch 53 = .ok (.goto (-51), 3) := by decide +kernel
theorem dX5_stretch_56 : decode cX5_stretch 56 = .ok (.return_, 1) := by decide +kernel
theorem dX5_addRule_0 : decode cX5_addRule 0 = .ok (.aload_n 0, 1) := by decide +kernel
theorem dX5_addRule_1 : decode cX5_addRule 1 = .ok (.getfield 34, 3) := by decide +kernel
theorem dX5_addRule_4 : decode cX5_addRule 4 = .ok (.iconst 4, 1) := by decide +kernel
theorem dX5_addRule_5 : decode cX5_addRule 5 = .ok (.if_icmp .ge 23, 3) := by decide +kernel
theorem dX5_addRule_8 : decode cX5_addRule 8 = .ok (.aload_n 0, 1) := by decide +kernel
theorem dX5_addRule_9 : decode cX5_addRule 9 = .ok (.getfield 27, 3) := by decide +kernel
theorem dX5_addRule_12 : decode cX5_addRule 12 = .ok (.aload_n 0, 1) := by decide +kernel
theorem dX5_addRule_13 : decode cX5_addRule 13 = .ok (.getfield 34, 3) := by decide +kernel
theorem dX5_addRule_16 : decode cX5_addRule 16 = .ok (.iload_n 1, 1) := by decide +kernel
theorem dX5_addRule_17 : decode cX5_addRule 17 = .ok (.iastore, 1) := by decide +kernel
theorem dX5_addRule_18 : decode cX5_addRule 18 = .ok (.aload_n 0, 1) := by decide +kernel
theorem dX5_addRule_19 : decode cX5_addRule 19 = .ok (.dup, 1) := by decide +kernel
theorem dX5_addRule_20 : decode cX5_addRule 20 = .ok (.getfield 34, 3) := by decide +kernel
theorem dX5_addRule_23 : decode cX5_addRule 23 = .ok (.iconst 1, 1) := by decide +kernel
theorem dX5_addRule_24 : decode cX5_addRule 24 = .ok (.iadd, 1) := by decide +kernel
theorem dX5_addRule_25 : decode cX5_addRule 25 = .ok (.putfield 34, 3) := by decide +kernel
theorem dX5_addRule_28 : decode cX5_addRule 28 = .ok (.return_, 1) := by decide +kernel
theorem dX5_dropRule_0 : decode cX5_dropRule 0 = .ok (.iload_n 1, 1) := by decide +kernel
theorem dX5_dropRule_1 : decode cX5_dropRule 1 = .ok (.ifCond .lt 11, 3) := by decide +kernel
theorem dX5_dropRule_4 : decode cX5_dropRule 4 = .ok (.iload_n 1, 1) := by decide +kernel
theorem dX5_dropRule_5 : decode cX5_dropRule 5 = .ok (.aload_n 0, 1) := by decide +kernel
theorem dX5_dropRule_6 : decode cX5_dropRule 6 = .ok (.getfield 34, 3) := by decide +kernel
theorem dX5_dropRule_9 : decode cX5_dropRule 9 = .ok (.if_icmp .lt 4, 3) := by decide +kernel
theorem dX5_dropRule_12 : decode cX5_dropRule 12 = .ok (.return_, 1) := by decide +kernel
theorem dX5_dropRule_13 : decode cX5_dropRule 13 = .ok (.iload_n 1, 1) := by decide +kernel
theorem dX5_dropRule_14 : decode cX5_dropRule 14 = .ok (.istore_n 2, 1) := by decide +kernel
theorem dX5_dropRule_15 : decode cX5_dropRule 15 = .ok (.iload_n 2, 1) := by decide +kernel
theorem dX5_dropRule_16 : decode cX5_dropRule 16 = .ok (.iconst 1, 1) := by decide +kernel
theorem dX5_dropRule_17 : decode cX5_dropRule 17 = .ok (.iadd, 1) := by decide +kernel
theorem dX5_dropRule_18 : decode cX5_dropRule 18 = .ok (.aload_n 0, 1) := by decide +kernel
theorem dX5_dropRule_19 : decode cX5_dropRule 19 = .ok (.getfield 34, 3) := by decide +kernel
theorem dX5_dropRule_22 : decode cX5_dropRule 22 = .ok (.if_icmp .ge 23, 3) := by decide +kernel
theorem dX5_dropRule_25 : decode cX5_dropRule 25 = .ok (.aload_n 0, 1) := by decide +kernel
theorem dX5_dropRule_26 : decode cX5_dropRule 26 = .ok (.getfield 27, 3) := by decide +kernel
theorem dX5_dropRule_29 : decode cX5_dropRule 29 = .ok (.iload_n 2, 1) := by decide +kernel
theorem dX5_dropRule_30 : decode cX5_dropRule 30 = .ok (.aload_n 0, 1) := by decide +kernel
theorem dX5_dropRule_31 : decode cX5_dropRule 31 = .ok (.getfield 27, 3) := by decide +kernel
theorem dX5_dropRule_34 : decode cX5_dropRule 34 = .ok (.iload_n 2, 1) := by decide +kernel
theorem dX5_dropRule_35 : decode cX5_dropRule 35 = .ok (.iconst 1, 1) := by decide +kernel
theorem dX5_dropRule_36 : decode cX5_dropRule 36 = .ok (.iadd, 1) := by decide +kernel
theorem dX5_dropRule_37 : decode cX5_dropRule 37 = .ok (.iaload, 1) := by decide +kernel
theorem dX5_dropRule_38 : decode cX5_dropRule 38 = .ok (.iastore, 1) := by decide +kernel
theorem dX5_dropRule_39 : decode cX5_dropRule 39 = .ok (.iinc 2 1, 3) := by decide +kernel
theorem dX5_dropRule_42 : decode cX5_dropRule 42 = .ok (.goto (-27), 3) := by decide +kernel
theorem dX5_dropRule_45 : decode cX5_dropRule 45 = .ok (.aload_n 0, 1) := by decide +kernel
theorem dX5_dropRule_46 : decode cX5_dropRule 46 = .ok (.dup, 1) := by decide +kernel
theorem dX5_dropRule_47 : decode cX5_dropRule 47 = .ok (.getfield 34, 3) := by decide +kernel
theorem dX5_dropRule_50 : decode cX5_dropRule 50 = .ok (.iconst 1, 1) := by decide +kernel
theorem dX5_dropRule_51 : decode cX5_dropRule 51 = .ok (.isub, 1) := by decide +kernel
theorem dX5_dropRule_52 : decode cX5_dropRule 52 = .ok (.putfield 34, 3) := by decide +kernel
theorem dX5_dropRule_55 : decode cX5_dropRule 55 = .ok (.return_, 1) := by decide +kernel
theorem dX5_takeRules_0 : decode cX5_takeRules 0 = .ok (.aload_n 0, 1) := by decide +kernel
theorem dX5_takeRules_1 : decode cX5_takeRules 1 = .ok (.iconst 0, 1) := by decide +kernel
theorem dX5_takeRules_2 : decode cX5_takeRules 2 = .ok (.putfield 34, 3) := by decide +kernel
theorem dX5_takeRules_5 : decode cX5_takeRules 5 = .ok (.sipush 1000, 3) := by decide +kernel
theorem dX5_takeRules_8 : decode cX5_takeRules 8 = .ok (.istore_n 2, 1) := by decide +kernel
theorem dX5_takeRules_9 : decode cX5_takeRules 9 = .ok (.iload_n 2, 1) := by decide +kernel
theorem dX5_takeRules_10 : decode cX5_takeRules 10 = .ok (.ifCond .le 29, 3) := by decide +kernel
theorem dX5_takeRules_13 : decode cX5_takeRules 13 = .ok (.iload_n 1, 1) := by decide +kernel
theorem dX5_takeRules_14 : decode cX5_takeRules 14 = .ok (.iload_n 2, 1) := by decide +kernel
theorem dX5_takeRules_15 : decode cX5_takeRules 15 = .ok (.idiv, 1) := by decide +kernel
theorem dX5_takeRules_16 : decode cX5_takeRules 16 = .ok (.bipush 10, 2) := by decide +kernel
theorem dX5_takeRules_18 : decode cX5_takeRules 18 = .ok (.irem, 1) := by decide +kernel
theorem dX5_takeRules_19 : decode cX5_takeRules 19 = .ok (.istore_n 3, 1) := by decide +kernel
theorem dX5_takeRules_20 : decode cX5_takeRules 20 = .ok (.iload_n 3, 1) := by decide +kernel
theorem dX5_takeRules_21 : decode cX5_takeRules 21 = .ok (.ifCond .eq 10, 3) := by decide +kernel
theorem dX5_takeRules_24 : decode cX5_takeRules 24 = .ok (.aload_n 0, 1) := by decide +kernel
theorem dX5_takeRules_25 : decode cX5_takeRules 25 = .ok (.iload_n 3, 1) := by decide +kernel
theorem dX5_takeRules_26 : decode cX5_takeRules 26 = .ok (.iconst 4, 1) := by decide +kernel
theorem dX5_takeRules_27 : decode cX5_takeRules 27 = .ok (.irem, 1) := by decide +kernel
theorem dX5_takeRules_28 : decode cX5_takeRules 28 = .ok (.invokevirtual 61, 3) := by decide +kernel
theorem dX5_takeRules_31 : decode cX5_takeRules 31 = .ok (.iload_n 2, 1) := by decide +kernel
theorem dX5_takeRules_32 : decode cX5_takeRules 32 = .ok (.bipush 10, 2) := by decide +kernel
theorem dX5_takeRules_34 : decode cX5_takeRules 34 = .ok (.idiv, 1) := by decide +kernel
theorem dX5_takeRules_35 : decode cX5_takeRules 35 = .ok (.istore_n 2, 1) := by decide +kernel
theorem dX5_takeRules_36 : decode cX5_takeRules 36 = .ok (.goto (-27), 3) := by decide +kernel
theorem dX5_takeRules_39 : decode cX5_takeRules 39 = .ok (.return_, 1) := by decide +kernel
theorem dX5_isOfKind_0 : decode cX5_isOfKind 0 = .ok (.iload_n 2, 1) := by decide +kernel
theorem dX5_isOfKind_1 : decode cX5_isOfKind 1 = .ok (.ifCond .eq 28, 3) := by decide +kernel
theorem dX5_isOfKind_4 : decode cX5_isOfKind 4 = .ok (.aload_n 0, 1) := by decide +kernel
theorem dX5_isOfKind_5 : decode cX5_isOfKind 5 = .ok (.getfield 9, 3) := by decide +kernel
theorem dX5_isOfKind_8 : decode cX5_isOfKind 8 = .ok (.iload_n 1, 1) := by decide +kernel
theorem dX5_isOfKind_9 : decode cX5_isOfKind 9 = .ok (.iaload, 1) := by decide +kernel
theorem dX5_isOfKind_10 : decode cX5_isOfKind 10 = .ok (.iload_n 2, 1) := by decide +kernel
theorem dX5_isOfKind_11 : decode cX5_isOfKind 11 = .ok (.if_icmp .eq 18, 3) := by decide +kernel
theorem dX5_isOfKind_14 : decode cX5_isOfKind 14 = .ok (.iload_n 2, 1) := by decide +kernel
theorem dX5_isOfKind_15 : decode cX5_isOfKind 15 = .ok (.iconst 2, 1) := by decide +kernel
theorem dX5_isOfKind_16 : decode cX5_isOfKind 16 = .ok (.if_icmp .ne 17, 3) := by decide +kernel
theorem dX5_isOfKind_19 : decode cX5_isOfKind 19 = .ok (.aload_n 0, 1) := by decide +kernel
theorem dX5_isOfKind_20 : decode cX5_isOfKind 20 = .ok (.getfield 9, 3) := by decide +kernel
theorem dX5_isOfKind_23 : decode cX5_isOfKind 23 = .ok (.iload_n 1, 1) := by decide +kernel
theorem dX5_isOfKind_24 : decode cX5_isOfKind 24 = .ok (.iaload, 1) := by decide +kernel
theorem dX5_isOfKind_25 : decode cX5_isOfKind 25 = .ok (.iconst 4, 1) := by decide +kernel
theorem dX5_isOfKind_26 : decode cX5_isOfKind 26 = .ok (.if_icmp .ne 7, 3) := by decide +kernel
theorem dX5_isOfKind_29 : decode cX5_isOfKind 29 = .ok (.iconst 1, 1) := by decide +kernel
theorem dX5_isOfKind_30 : decode cX5_isOfKind 30 = .ok (.goto 4, 3) := by decide +kernel
theorem dX5_isOfKind_33 : decode cX5_isOfKind 33 = .ok (.iconst 0, 1) := by decide +kernel
theorem dX5_isOfKind_34 : decode cX5_isOfKind 34 = .ok (.ireturn, 1) := by decide +kernel
theorem dX5_rank_0 : decode cX5_rank 0 = .ok (.iload_n 1, 1) := by decide +kernel
theorem dX5_rank_1 : decode cX5_rank 1 = .ok (.tableswitch 64 0 2 #[27, 42, 57], 27) := by decide +kernel
theorem dX5_rank_28 : decode cX5_rank 28 = .ok (.aload_n 0, 1) := by decide +kernel
theorem dX5_rank_29 : decode cX5_rank 29 = .ok (.iload_n 2, 1) := by decide +kernel
theorem dX5_rank_30 : decode cX5_rank 30 = .ok (.iconst 1, 1) := by decide +kernel
theorem dX5_rank_31 : decode cX5_rank 31 = .ok (.invokevirtual 64, 3) := by decide +kernel
theorem dX5_rank_34 : decode cX5_rank 34 = .ok (.ifCond .eq 7, 3) := by decide +kernel
theorem dX5_rank_37 : decode cX5_rank 37 = .ok (.iconst 0, 1) := by decide +kernel
theorem dX5_rank_38 : decode cX5_rank 38 = .ok (.goto 4, 3) := by decide +kernel
theorem dX5_rank_41 : decode cX5_rank 41 = .ok (.iconst 1, 1) := by decide +kernel
theorem dX5_rank_42 : decode cX5_rank 42 = .ok (.ireturn, 1) := by decide +kernel
theorem dX5_rank_43 : decode cX5_rank 43 = .ok (.aload_n 0, 1) := by decide +kernel
theorem dX5_rank_44 : decode cX5_rank 44 = .ok (.iload_n 2, 1) := by decide +kernel
theorem dX5_rank_45 : decode cX5_rank 45 = .ok (.iconst 2, 1) := by decide +kernel
theorem dX5_rank_46 : decode cX5_rank 46 = .ok (.invokevirtual 64, 3) := by decide +kernel
theorem dX5_rank_49 : decode cX5_rank 49 = .ok (.ifCond .eq 7, 3) := by decide +kernel
theorem dX5_rank_52 : decode cX5_rank 52 = .ok (.iconst 1, 1) := by decide +kernel
theorem dX5_rank_53 : decode cX5_rank 53 = .ok (.goto 4, 3) := by decide +kernel
theorem dX5_rank_56 : decode cX5_rank 56 = .ok (.iconst 0, 1) := by decide +kernel
theorem dX5_rank_57 : decode cX5_rank 57 = .ok (.ireturn, 1) := by decide +kernel
theorem dX5_rank_58 : decode cX5_rank 58 = .ok (.aload_n 0, 1) := by decide +kernel
theorem dX5_rank_59 : decode cX5_rank 59 = .ok (.getfield 18, 3) := by decide +kernel
theorem dX5_rank_62 : decode cX5_rank 62 = .ok (.iload_n 2, 1) := by decide +kernel
theorem dX5_rank_63 : decode cX5_rank 63 = .ok (.iaload, 1) := by decide +kernel
theorem dX5_rank_64 : decode cX5_rank 64 = .ok (.ireturn, 1) := by decide +kernel
theorem dX5_rank_65 : decode cX5_rank 65 = .ok (.aload_n 0, 1) := by decide +kernel
theorem dX5_rank_66 : decode cX5_rank 66 = .ok (.getfield 15, 3) := by decide +kernel
theorem dX5_rank_69 : decode cX5_rank 69 = .ok (.iload_n 2, 1) := by decide +kernel
theorem dX5_rank_70 : decode cX5_rank 70 = .ok (.iaload, 1) := by decide +kernel
theorem dX5_rank_71 : decode cX5_rank 71 = .ok (.ireturn, 1) := by decide +kernel
theorem dX5_ruleThatTells_0 : decode cX5_ruleThatTells 0 = .ok (.iconst 0, 1) := by decide +kernel
theorem dX5_ruleThatTells_1 : decode cX5_ruleThatTells 1 = .ok (.istore_n 3, 1) := by decide +kernel
theorem dX5_ruleThatTells_2 : decode cX5_ruleThatTells 2 = .ok (.iload_n 3, 1) := by decide +kernel
theorem dX5_ruleThatTells_3 : decode cX5_ruleThatTells 3 = .ok (.aload_n 0, 1) := by decide +kernel
theorem dX5_ruleThatTells_4 : decode cX5_ruleThatTells 4 = .ok (.getfield 34, 3) := by decide +kernel
theorem dX5_ruleThatTells_7 : decode cX5_ruleThatTells 7 = .ok (.if_icmp .ge 41, 3) := by decide +kernel
theorem dX5_ruleThatTells_10 : decode cX5_ruleThatTells 10 = .ok (.aload_n 0, 1) := by decide +kernel
theorem dX5_ruleThatTells_11 : decode cX5_ruleThatTells 11 = .ok (.aload_n 0, 1) := by decide +kernel
theorem dX5_ruleThatTells_12 : decode cX5_ruleThatTells 12 = .ok (.getfield 27, 3) := by decide +kernel
theorem dX5_ruleThatTells_15 : decode cX5_ruleThatTells 15 = .ok (.iload_n 3, 1) := by decide +kernel
theorem dX5_ruleThatTells_16 : decode cX5_ruleThatTells 16 = .ok (.iaload, 1) := by decide +kernel
theorem dX5_ruleThatTells_17 : decode cX5_ruleThatTells 17 = .ok (.iload_n 1, 1) := by decide +kernel
theorem dX5_ruleThatTells_18 : decode cX5_ruleThatTells 18 = .ok (.invokevirtual 68, 3) := by decide +kernel
theorem dX5_ruleThatTells_21 : decode cX5_ruleThatTells 21 = .ok (.aload_n 0, 1) := by decide +kernel
theorem dX5_ruleThatTells_22 : decode cX5_ruleThatTells 22 = .ok (.aload_n 0, 1) := by decide +kernel
theorem dX5_ruleThatTells_23 : decode cX5_ruleThatTells 23 = .ok (.getfield 27, 3) := by decide +kernel
theorem dX5_ruleThatTells_26 : decode cX5_ruleThatTells 26 = .ok (.iload_n 3, 1) := by decide +kernel
theorem dX5_ruleThatTells_27 : decode cX5_ruleThatTells 27 = .ok (.iaload, 1) := by decide +kernel
theorem dX5_ruleThatTells_28 : decode cX5_ruleThatTells 28 = .ok (.iload_n 2, 1) := by decide +kernel
theorem dX5_ruleThatTells_29 : decode cX5_ruleThatTells 29 = .ok (.invokevirtual 68, 3) := by decide +kernel
theorem dX5_ruleThatTells_32 : decode cX5_ruleThatTells 32 = .ok (.if_icmp .eq 10, 3) := by decide +kernel
theorem dX5_ruleThatTells_35 : decode cX5_ruleThatTells 35 = .ok (.aload_n 0, 1) := by decide +kernel
theorem dX5_ruleThatTells_36 : decode cX5_ruleThatTells 36 = .ok (.getfield 27, 3) := by decide +kernel
theorem dX5_ruleThatTells_39 : decode cX5_ruleThatTells 39 = .ok (.iload_n 3, 1) := by decide +kernel
theorem dX5_ruleThatTells_40 : decode cX5_ruleThatTells 40 = .ok (.iaload, 1) := by decide +kernel
theorem dX5_ruleThatTells_41 : decode cX5_ruleThatTells 41 = .ok (.ireturn, 1) := by decide +kernel
theorem dX5_ruleThatTells_42 : decode cX5_ruleThatTells 42 = .ok (.iinc 3 1, 3) := by decide +kernel
theorem dX5_ruleThatTells_45 : decode cX5_ruleThatTells 45 = .ok (.goto (-43), 3) := by decide +kernel
theorem dX5_ruleThatTells_48 : decode cX5_ruleThatTells 48 = .ok (.iconst (-1), 1) := by decide +kernel
theorem dX5_ruleThatTells_49 : decode cX5_ruleThatTells 49 = .ok (.ireturn, 1) := by decide +kernel
theorem dX5_isAhead_0 : decode cX5_isAhead 0 = .ok (.iconst 0, 1) := by decide +kernel
theorem dX5_isAhead_1 : decode cX5_isAhead 1 = .ok (.istore_n 3, 1) := by decide +kernel
theorem dX5_isAhead_2 : decode cX5_isAhead 2 = .ok (.iload_n 3, 1) := by decide +kernel
theorem dX5_isAhead_3 : decode cX5_isAhead 3 = .ok (.aload_n 0, 1) := by decide +kernel
theorem dX5_isAhead_4 : decode cX5_isAhead 4 = .ok (.getfield 34, 3) := by decide +kernel
theorem dX5_isAhead_7 : decode cX5_isAhead 7 = .ok (.if_icmp .ge 50, 3) := by decide +kernel
theorem dX5_isAhead_10 : decode cX5_isAhead 10 = .ok (.aload_n 0, 1) := by decide +kernel
theorem dX5_isAhead_11 : decode cX5_isAhead 11 = .ok (.aload_n 0, 1) := by decide +kernel
theorem dX5_isAhead_12 : decode cX5_isAhead 12 = .ok (.getfield 27, 3) := by decide +kernel
theorem dX5_isAhead_15 : decode cX5_isAhead 15 = .ok (.iload_n 3, 1) := by decide +kernel
theorem dX5_isAhead_16 : decode cX5_isAhead 16 = .ok (.iaload, 1) := by decide +kernel
theorem dX5_isAhead_17 : decode cX5_isAhead 17 = .ok (.iload_n 2, 1) := by decide +kernel
theorem dX5_isAhead_18 : decode cX5_isAhead 18 = .ok (.invokevirtual 68, 3) := by decide +kernel
theorem dX5_isAhead_21 : decode cX5_isAhead 21 = .ok (.aload_n 0, 1) := by decide +kernel
theorem dX5_isAhead_22 : decode cX5_isAhead 22 = .ok (.aload_n 0, 1) := by decide +kernel
theorem dX5_isAhead_23 : decode cX5_isAhead 23 = .ok (.getfield 27, 3) := by decide +kernel
theorem dX5_isAhead_26 : decode cX5_isAhead 26 = .ok (.iload_n 3, 1) := by decide +kernel
theorem dX5_isAhead_27 : decode cX5_isAhead 27 = .ok (.iaload, 1) := by decide +kernel
theorem dX5_isAhead_28 : decode cX5_isAhead 28 = .ok (.iload_n 1, 1) := by decide +kernel
theorem dX5_isAhead_29 : decode cX5_isAhead 29 = .ok (.invokevirtual 68, 3) := by decide +kernel
theorem dX5_isAhead_32 : decode cX5_isAhead 32 = .ok (.isub, 1) := by decide +kernel
theorem dX5_isAhead_33 : decode cX5_isAhead 33 = .ok (.istore 4, 2) := by decide +kernel
theorem dX5_isAhead_35 : decode cX5_isAhead 35 = .ok (.iload 4, 2) := by decide +kernel
theorem dX5_isAhead_37 : decode cX5_isAhead 37 = .ok (.ifCond .eq 14, 3) := by decide +kernel
theorem dX5_isAhead_40 : decode cX5_isAhead 40 = .ok (.iload 4, 2) := by decide +kernel
theorem dX5_isAhead_42 : decode cX5_isAhead 42 = .ok (.ifCond .le 7, 3) := by decide +kernel
theorem dX5_isAhead_45 : decode cX5_isAhead 45 = .ok (.iconst 1, 1) := by decide +kernel
theorem dX5_isAhead_46 : decode cX5_isAhead 46 = .ok (.goto 4, 3) := by decide +kernel
theorem dX5_isAhead_49 : decode cX5_isAhead 49 = .ok (.iconst 0, 1) := by decide +kernel
theorem dX5_isAhead_50 : decode cX5_isAhead 50 = .ok (.ireturn, 1) := by decide +kernel
theorem dX5_isAhead_51 : decode cX5_isAhead 51 = .ok (.iinc 3 1, 3) := by decide +kernel
theorem dX5_isAhead_54 : decode cX5_isAhead 54 = .ok (.goto (-52), 3) := by decide +kernel
theorem dX5_isAhead_57 : decode cX5_isAhead 57 = .ok (.iload_n 1, 1) := by decide +kernel
theorem dX5_isAhead_58 : decode cX5_isAhead 58 = .ok (.iload_n 2, 1) := by decide +kernel
theorem dX5_isAhead_59 : decode cX5_isAhead 59 = .ok (.if_icmp .ge 7, 3) := by decide +kernel
theorem dX5_isAhead_62 : decode cX5_isAhead 62 = .ok (.iconst 1, 1) := by decide +kernel
theorem dX5_isAhead_63 : decode cX5_isAhead 63 = .ok (.goto 4, 3) := by decide +kernel
theorem dX5_isAhead_66 : decode cX5_isAhead 66 = .ok (.iconst 0, 1) := by decide +kernel
theorem dX5_isAhead_67 : decode cX5_isAhead 67 = .ok (.ireturn, 1) := by decide +kernel
theorem dX5_distance_0 : decode cX5_distance 0 = .ok (.aload_n 0, 1) := by decide +kernel
theorem dX5_distance_1 : decode cX5_distance 1 = .ok (.getfield 15, 3) := by decide +kernel
theorem dX5_distance_4 : decode cX5_distance 4 = .ok (.iload_n 1, 1) := by decide +kernel
theorem dX5_distance_5 : decode cX5_distance 5 = .ok (.iaload, 1) := by decide +kernel
theorem dX5_distance_6 : decode cX5_distance 6 = .ok (.aload_n 0, 1) := by decide +kernel
theorem dX5_distance_7 : decode cX5_distance 7 = .ok (.getfield 21, 3) := by decide +kernel
theorem dX5_distance_10 : decode cX5_distance 10 = .ok (.iload_n 1, 1) := by decide +kernel
theorem dX5_distance_11 : decode cX5_distance 11 = .ok (.iaload, 1) := by decide +kernel
theorem dX5_distance_12 : decode cX5_distance 12 = .ok (.aload_n 0, 1) := by decide +kernel
theorem dX5_distance_13 : decode cX5_distance 13 = .ok (.getfield 15, 3) := by decide +kernel
theorem dX5_distance_16 : decode cX5_distance 16 = .ok (.iload_n 2, 1) := by decide +kernel
theorem dX5_distance_17 : decode cX5_distance 17 = .ok (.iaload, 1) := by decide +kernel
theorem dX5_distance_18 : decode cX5_distance 18 = .ok (.aload_n 0, 1) := by decide +kernel
theorem dX5_distance_19 : decode cX5_distance 19 = .ok (.getfield 21, 3) := by decide +kernel
theorem dX5_distance_22 : decode cX5_distance 22 = .ok (.iload_n 2, 1) := by decide +kernel
theorem dX5_distance_23 : decode cX5_distance 23 = .ok (.iaload, 1) := by decide +kernel
theorem dX5_distance_24 : decode cX5_distance 24 = .ok (.invokestatic 71, 3) := by decide +kernel
theorem dX5_distance_27 : decode cX5_distance 27 = .ok (.aload_n 0, 1) := by decide +kernel
theorem dX5_distance_28 : decode cX5_distance 28 = .ok (.getfield 18, 3) := by decide +kernel
theorem dX5_distance_31 : decode cX5_distance 31 = .ok (.iload_n 1, 1) := by decide +kernel
theorem dX5_distance_32 : decode cX5_distance 32 = .ok (.iaload, 1) := by decide +kernel
theorem dX5_distance_33 : decode cX5_distance 33 = .ok (.aload_n 0, 1) := by decide +kernel
theorem dX5_distance_34 : decode cX5_distance 34 = .ok (.getfield 24, 3) := by decide +kernel
theorem dX5_distance_37 : decode cX5_distance 37 = .ok (.iload_n 1, 1) := by decide +kernel
theorem dX5_distance_38 : decode cX5_distance 38 = .ok (.iaload, 1) := by decide +kernel
theorem dX5_distance_39 : decode cX5_distance 39 = .ok (.aload_n 0, 1) := by decide +kernel
theorem dX5_distance_40 : decode cX5_distance 40 = .ok (.getfield 18, 3) := by decide +kernel
theorem dX5_distance_43 : decode cX5_distance 43 = .ok (.iload_n 2, 1) := by decide +kernel
theorem dX5_distance_44 : decode cX5_distance 44 = .ok (.iaload, 1) := by decide +kernel
theorem dX5_distance_45 : decode cX5_distance 45 = .ok (.aload_n 0, 1) := by decide +kernel
theorem dX5_distance_46 : decode cX5_distance 46 = .ok (.getfield 24, 3) := by decide +kernel
theorem dX5_distance_49 : decode cX5_distance 49 = .ok (.iload_n 2, 1) := by decide +kernel
theorem dX5_distance_50 : decode cX5_distance 50 = .ok (.iaload, 1) := by decide +kernel
theorem dX5_distance_51 : decode cX5_distance 51 = .ok (.invokestatic 71, 3) := by decide +kernel
theorem dX5_distance_54 : decode cX5_distance 54 = .ok (.iadd, 1) := by decide +kernel
theorem dX5_distance_55 : decode cX5_distance 55 = .ok (.ireturn, 1) := by decide +kernel
theorem dX5_gap_0 : decode cX5_gap 0 = .ok (.iconst 0, 1) := by decide +kernel
theorem dX5_gap_1 : decode cX5_gap 1 = .ok (.iload_n 2, 1) := by decide +kernel
theorem dX5_gap_2 : decode cX5_gap 2 = .ok (.iload_n 1, 1) := by decide +kernel
theorem dX5_gap_3 : decode cX5_gap 3 = .ok (.isub, 1) := by decide +kernel
theorem dX5_gap_4 : decode cX5_gap 4 = .ok (.iload_n 0, 1) := by decide +kernel
theorem dX5_gap_5 : decode cX5_gap 5 = .ok (.iload_n 3, 1) := by decide +kernel
theorem dX5_gap_6 : decode cX5_gap 6 = .ok (.isub, 1) := by decide +kernel
theorem dX5_gap_7 : decode cX5_gap 7 = .ok (.invokestatic 55, 3) := by decide +kernel
theorem dX5_gap_10 : decode cX5_gap 10 = .ok (.invokestatic 55, 3) := by decide +kernel
theorem dX5_gap_13 : decode cX5_gap 13 = .ok (.ireturn, 1) := by decide +kernel
theorem dX6_init_0 : decode cX6_init 0 = .ok (.aload_n 0, 1) := by decide +kernel
theorem dX6_init_1 : decode cX6_init 1 = .ok (.invokespecial 3, 3) := by decide +kernel
theorem dX6_init_4 : decode cX6_init 4 = .ok (.aload_n 0, 1) := by decide +kernel
theorem dX6_init_5 : decode cX6_init 5 = .ok (.bipush 54, 2) := by decide +kernel
theorem dX6_init_7 : decode cX6_init 7 = .ok (.newarray .int, 2) := by decide +kernel
theorem dX6_init_9 : decode cX6_init 9 = .ok (.putfield 9, 3) := by decide +kernel
theorem dX6_init_12 : decode cX6_init 12 = .ok (.return_, 1) := by decide +kernel
theorem dX6_add_0 : decode cX6_add 0 = .ok (.aload_n 0, 1) := by decide +kernel
theorem dX6_add_1 : decode cX6_add 1 = .ok (.getfield 15, 3) := by decide +kernel
theorem dX6_add_4 : decode cX6_add 4 = .ok (.bipush 54, 2) := by decide +kernel
theorem dX6_add_6 : decode cX6_add 6 = .ok (.if_icmp .ge 23, 3) := by decide +kernel
theorem dX6_add_9 : decode cX6_add 9 = .ok (.aload_n 0, 1) := by decide +kernel
theorem dX6_add_10 : decode cX6_add 10 = .ok (.getfield 9, 3) := by decide +kernel
theorem dX6_add_13 : decode cX6_add 13 = .ok (.aload_n 0, 1) := by decide +kernel
theorem dX6_add_14 : decode cX6_add 14 = .ok (.getfield 15, 3) := by decide +kernel
theorem dX6_add_17 : decode cX6_add 17 = .ok (.iload_n 1, 1) := by decide +kernel
theorem dX6_add_18 : decode cX6_add 18 = .ok (.iastore, 1) := by decide +kernel
theorem dX6_add_19 : decode cX6_add 19 = .ok (.aload_n 0, 1) := by decide +kernel
theorem dX6_add_20 : decode cX6_add 20 = .ok (.dup, 1) := by decide +kernel
theorem dX6_add_21 : decode cX6_add 21 = .ok (.getfield 15, 3) := by decide +kernel
theorem dX6_add_24 : decode cX6_add 24 = .ok (.iconst 1, 1) := by decide +kernel
theorem dX6_add_25 : decode cX6_add 25 = .ok (.iadd, 1) := by decide +kernel
theorem dX6_add_26 : decode cX6_add 26 = .ok (.putfield 15, 3) := by decide +kernel
theorem dX6_add_29 : decode cX6_add 29 = .ok (.return_, 1) := by decide +kernel
theorem dX6_clear_0 : decode cX6_clear 0 = .ok (.aload_n 0, 1) := by decide +kernel
theorem dX6_clear_1 : decode cX6_clear 1 = .ok (.iconst 0, 1) := by decide +kernel
theorem dX6_clear_2 : decode cX6_clear 2 = .ok (.putfield 15, 3) := by decide +kernel
theorem dX6_clear_5 : decode cX6_clear 5 = .ok (.return_, 1) := by decide +kernel
theorem dX6_firstFault_0 : decode cX6_firstFault 0 = .ok (.iconst (-1), 1) := by decide +kernel
theorem dX6_firstFault_1 : decode cX6_firstFault 1 = .ok (.istore_n 1, 1) := by decide +kernel
theorem dX6_firstFault_2 : decode cX6_firstFault 2 = .ok (.iconst 0, 1) := by decide +kernel
theorem dX6_firstFault_3 : decode cX6_firstFault 3 = .ok (.istore_n 2, 1) := by decide +kernel
theorem dX6_firstFault_4 : decode cX6_firstFault 4 = .ok (.iload_n 2, 1) := by decide +kernel
theorem dX6_firstFault_5 : decode cX6_firstFault 5 = .ok (.aload_n 0, 1) := by decide +kernel
theorem dX6_firstFault_6 : decode cX6_firstFault 6 = .ok (.getfield 15, 3) := by decide +kernel
theorem dX6_firstFault_9 : decode cX6_firstFault 9 = .ok (.if_icmp .ge 50, 3) := by decide +kernel
theorem dX6_firstFault_12 : decode cX6_firstFault 12 = .ok (.iload_n 1, 1) := by decide +kernel
theorem dX6_firstFault_13 : decode cX6_firstFault 13 = .ok (.iconst (-1), 1) := by decide +kernel
theorem dX6_firstFault_14 : decode cX6_firstFault 14 = .ok (.if_icmp .ne 11, 3) := by decide +kernel
theorem dX6_firstFault_17 : decode cX6_firstFault 17 = .ok (.aload_n 0, 1) := by decide +kernel
theorem dX6_firstFault_18 : decode cX6_firstFault 18 = .ok (.iload_n 2, 1) := by decide +kernel
theorem dX6_firstFault_19 : decode cX6_firstFault 19 = .ok (.invokevirtual 19, 3) := by decide +kernel
theorem dX6_firstFault_22 : decode cX6_firstFault 22 = .ok (.goto 9, 3) := by decide +kernel
theorem dX6_firstFault_25 : decode cX6_firstFault 25 = .ok (.aload_n 0, 1) := by decide +kernel
theorem dX6_firstFault_26 : decode cX6_firstFault 26 = .ok (.iload_n 2, 1) := by decide +kernel
theorem dX6_firstFault_27 : decode cX6_firstFault 27 = .ok (.iload_n 1, 1) := by decide +kernel
theorem dX6_firstFault_28 : decode cX6_firstFault 28 = .ok (.invokevirtual 23, 3) := by decide +kernel
theorem dX6_firstFault_31 : decode cX6_firstFault 31 = .ok (.istore_n 3, 1) := by decide +kernel
theorem dX6_firstFault_32 : decode cX6_firstFault 32 = .ok (.iload_n 3, 1) := by decide +kernel
theorem dX6_firstFault_33 : decode cX6_firstFault 33 = .ok (.ifCond .ne 5, 3) := by decide +kernel
theorem dX6_firstFault_36 : decode cX6_firstFault 36 = .ok (.iload_n 2, 1) := by decide +kernel
theorem dX6_firstFault_37 : decode cX6_firstFault 37 = .ok (.ireturn, 1) := by decide +kernel
theorem dX6_firstFault_38 : decode cX6_firstFault 38 = .ok (.aload_n 0, 1) := by decide +kernel
theorem dX6_firstFault_39 : decode cX6_firstFault 39 = .ok (.getfield 9, 3) := by decide +kernel
theorem dX6_firstFault_42 : decode cX6_firstFault 42 = .ok (.iload_n 2, 1) := by decide +kernel
theorem dX6_firstFault_43 : decode cX6_firstFault 43 = .ok (.iaload, 1) := by decide +kernel
theorem dX6_firstFault_44 : decode cX6_firstFault 44 = .ok (.bipush 59, 2) := by decide +kernel
theorem dX6_firstFault_46 : decode cX6_firstFault 46 = .ok (.if_icmp .ne 7, 3) := by decide +kernel
theorem dX6_firstFault_49 : decode cX6_firstFault 49 = .ok (.iload_n 2, 1) := by decide +kernel
theorem dX6_firstFault_50 : decode cX6_firstFault 50 = .ok (.iconst 1, 1) := by decide +kernel
theorem dX6_firstFault_51 : decode cX6_firstFault 51 = .ok (.iadd, 1) := by decide +kernel
theorem dX6_firstFault_52 : decode cX6_firstFault 52 = .ok (.istore_n 1, 1) := by decide +kernel
theorem dX6_firstFault_53 : decode cX6_firstFault 53 = .ok (.iinc 2 1, 3) := by decide +kernel
theorem dX6_firstFault_56 : decode cX6_firstFault 56 = .ok (.goto (-52), 3) := by decide +kernel
theorem dX6_firstFault_59 : decode cX6_firstFault 59 = .ok (.aload_n 0, 1) := by decide +kernel
theorem dX6_firstFault_60 : decode cX6_firstFault 60 = .ok (.getfield 15, 3) := by decide +kernel
theorem dX6_firstFault_63 : decode cX6_firstFault 63 = .ok (.ireturn, 1) := by decide +kernel
theorem dX6_isPage_0 : decode cX6_isPage 0 = .ok (.aload_n 0, 1) := by decide +kernel
theorem dX6_isPage_1 : decode cX6_isPage 1 = .ok (.invokevirtual 27, 3) := by decide +kernel
theorem dX6_isPage_4 : decode cX6_isPage 4 = .ok (.istore_n 1, 1) := by decide +kernel
theorem dX6_isPage_5 : decode cX6_isPage 5 = .ok (.iload_n 1, 1) := by decide +kernel
theorem dX6_isPage_6 : decode cX6_isPage 6 = .ok (.iconst (-1), 1) := by decide +kernel
theorem dX6_isPage_7 : decode cX6_isPage 7 = .ok (.if_icmp .eq 26, 3) := by decide +kernel
theorem dX6_isPage_10 : decode cX6_isPage 10 = .ok (.iload_n 1, 1) := by decide +kernel
theorem dX6_isPage_11 : decode cX6_isPage 11 = .ok (.aload_n 0, 1) := by decide +kernel
theorem dX6_isPage_12 : decode cX6_isPage 12 = .ok (.getfield 15, 3) := by decide +kernel
theorem dX6_isPage_15 : decode cX6_isPage 15 = .ok (.if_icmp .ge 18, 3) := by decide +kernel
theorem dX6_isPage_18 : decode cX6_isPage 18 = .ok (.aload_n 0, 1) := by decide +kernel
theorem dX6_isPage_19 : decode cX6_isPage 19 = .ok (.invokevirtual 31, 3) := by decide +kernel
theorem dX6_isPage_22 : decode cX6_isPage 22 = .ok (.aload_n 0, 1) := by decide +kernel
theorem dX6_isPage_23 : decode cX6_isPage 23 = .ok (.getfield 15, 3) := by decide +kernel
theorem dX6_isPage_26 : decode cX6_isPage 26 = .ok (.if_icmp .ne 7, 3) := by decide +kernel
theorem dX6_isPage_29 : decode cX6_isPage 29 = .ok (.iconst 1, 1) := by decide +kernel
theorem dX6_isPage_30 : decode cX6_isPage 30 = .ok (.goto 4, 3) := by decide +kernel
theorem dX6_isPage_33 : decode cX6_isPage 33 = .ok (.iconst 0, 1) := by decide +kernel
theorem dX6_isPage_34 : decode cX6_isPage 34 = .ok (.ireturn, 1) := by decide +kernel
theorem dX6_writeTo_0 : decode cX6_writeTo 0 = .ok (.aload_n 0, 1) := by decide +kernel
theorem dX6_writeTo_1 : decode cX6_writeTo 1 = .ok (.invokevirtual 27, 3) := by decide +kernel
theorem dX6_writeTo_4 : decode cX6_writeTo 4 = .ok (.istore_n 2, 1) := by decide +kernel
theorem dX6_writeTo_5 : decode cX6_writeTo 5 = .ok (.aload_n 1, 1) := by decide +kernel
theorem dX6_writeTo_6 : decode cX6_writeTo 6 = .ok (.invokevirtual 34, 3) := by decide +kernel
theorem dX6_writeTo_9 : decode cX6_writeTo 9 = .ok (.iconst 0, 1) := by decide +kernel
theorem dX6_writeTo_10 : decode cX6_writeTo 10 = .ok (.istore_n 3, 1) := by decide +kernel
theorem dX6_writeTo_11 : decode cX6_writeTo 11 = .ok (.iload_n 3, 1) := by decide +kernel
theorem dX6_writeTo_12 : decode cX6_writeTo 12 = .ok (.bipush 6, 2) := by decide +kernel
theorem dX6_writeTo_14 : decode cX6_writeTo 14 = .ok (.iadd, 1) := by decide +kernel
theorem dX6_writeTo_15 : decode cX6_writeTo 15 = .ok (.iload_n 2, 1) := by decide +kernel
theorem dX6_writeTo_16 : decode cX6_writeTo 16 = .ok (.if_icmp .gt 50, 3) := by decide +kernel
theorem dX6_writeTo_19 : decode cX6_writeTo 19 = .ok (.aload_n 1, 1) := by decide +kernel
theorem dX6_writeTo_20 : decode cX6_writeTo 20 = .ok (.aload_n 0, 1) := by decide +kernel
theorem dX6_writeTo_21 : decode cX6_writeTo 21 = .ok (.getfield 9, 3) := by decide +kernel
theorem dX6_writeTo_24 : decode cX6_writeTo 24 = .ok (.iload_n 3, 1) := by decide +kernel
theorem dX6_writeTo_25 : decode cX6_writeTo 25 = .ok (.iaload, 1) := by decide +kernel
theorem dX6_writeTo_26 : decode cX6_writeTo 26 = .ok (.invokestatic 39, 3) := by decide +kernel
theorem dX6_writeTo_29 : decode cX6_writeTo 29 = .ok (.aload_n 0, 1) := by decide +kernel
theorem dX6_writeTo_30 : decode cX6_writeTo 30 = .ok (.iload_n 3, 1) := by decide +kernel
theorem dX6_writeTo_31 : decode cX6_writeTo 31 = .ok (.iconst 1, 1) := by decide +kernel
theorem dX6_writeTo_32 : decode cX6_writeTo 32 = .ok (.iadd, 1) := by decide +kernel
theorem dX6_writeTo_33 : decode cX6_writeTo 33 = .ok (.invokevirtual 43, 3) := by decide +kernel
theorem dX6_writeTo_36 : decode cX6_writeTo 36 = .ok (.aload_n 0, 1) := by decide +kernel
theorem dX6_writeTo_37 : decode cX6_writeTo 37 = .ok (.iload_n 3, 1) := by decide +kernel
theorem dX6_writeTo_38 : decode cX6_writeTo 38 = .ok (.iconst 2, 1) := by decide +kernel
theorem dX6_writeTo_39 : decode cX6_writeTo 39 = .ok (.iadd, 1) := by decide +kernel
theorem dX6_writeTo_40 : decode cX6_writeTo 40 = .ok (.invokevirtual 43, 3) := by decide +kernel
theorem dX6_writeTo_43 : decode cX6_writeTo 43 = .ok (.aload_n 0, 1) := by decide +kernel
theorem dX6_writeTo_44 : decode cX6_writeTo 44 = .ok (.iload_n 3, 1) := by decide +kernel
theorem dX6_writeTo_45 : decode cX6_writeTo 45 = .ok (.iconst 3, 1) := by decide +kernel
theorem dX6_writeTo_46 : decode cX6_writeTo 46 = .ok (.iadd, 1) := by decide +kernel
theorem dX6_writeTo_47 : decode cX6_writeTo 47 = .ok (.invokevirtual 43, 3) := by decide +kernel
theorem dX6_writeTo_50 : decode cX6_writeTo 50 = .ok (.aload_n 0, 1) := by decide +kernel
theorem dX6_writeTo_51 : decode cX6_writeTo 51 = .ok (.iload_n 3, 1) := by decide +kernel
theorem dX6_writeTo_52 : decode cX6_writeTo 52 = .ok (.iconst 4, 1) := by decide +kernel
theorem dX6_writeTo_53 : decode cX6_writeTo 53 = .ok (.iadd, 1) := by decide +kernel
theorem dX6_writeTo_54 : decode cX6_writeTo 54 = .ok (.invokevirtual 43, 3) := by decide +kernel
theorem dX6_writeTo_57 : decode cX6_writeTo 57 = .ok (.invokevirtual 46, 3) := by decide +kernel
theorem dX6_writeTo_60 : decode cX6_writeTo 60 = .ok (.iinc 3 6, 3) := by decide +kernel
theorem dX6_writeTo_63 : decode cX6_writeTo 63 = .ok (.goto (-52), 3) := by decide +kernel
theorem dX6_writeTo_66 : decode cX6_writeTo 66 = .ok (.iload_n 2, 1) := by decide +kernel
theorem dX6_writeTo_67 : decode cX6_writeTo 67 = .ok (.iconst 0, 1) := by decide +kernel
theorem dX6_writeTo_68 : decode cX6_writeTo 68 = .ok (.invokestatic 50, 3) := by decide +kernel
theorem dX6_writeTo_71 : decode cX6_writeTo 71 = .ok (.istore_n 3, 1) := by decide +kernel
theorem dX6_writeTo_72 : decode cX6_writeTo 72 = .ok (.iload_n 3, 1) := by decide +kernel
theorem dX6_writeTo_73 : decode cX6_writeTo 73 = .ok (.aload_n 0, 1) := by decide +kernel
theorem dX6_writeTo_74 : decode cX6_writeTo 74 = .ok (.getfield 15, 3) := by decide +kernel
theorem dX6_writeTo_77 : decode cX6_writeTo 77 = .ok (.if_icmp .ge 18, 3) := by decide +kernel
theorem dX6_writeTo_80 : decode cX6_writeTo 80 = .ok (.aload_n 1, 1) := by decide +kernel
theorem dX6_writeTo_81 : decode cX6_writeTo 81 = .ok (.aload_n 0, 1) := by decide +kernel
theorem dX6_writeTo_82 : decode cX6_writeTo 82 = .ok (.iload_n 3, 1) := by decide +kernel
theorem dX6_writeTo_83 : decode cX6_writeTo 83 = .ok (.invokevirtual 43, 3) := by decide +kernel
theorem dX6_writeTo_86 : decode cX6_writeTo 86 = .ok (.invokevirtual 56, 3) := by decide +kernel
theorem dX6_writeTo_89 : decode cX6_writeTo 89 = .ok (.iinc 3 1, 3) := by decide +kernel
theorem dX6_writeTo_92 : decode cX6_writeTo 92 = .ok (.goto (-20), 3) := by decide +kernel
theorem dX6_writeTo_95 : decode cX6_writeTo 95 = .ok (.return_, 1) := by decide +kernel
theorem dX6_rulesPlace_0 : decode cX6_rulesPlace 0 = .ok (.iconst 0, 1) := by decide +kernel
theorem dX6_rulesPlace_1 : decode cX6_rulesPlace 1 = .ok (.istore_n 1, 1) := by decide +kernel
theorem dX6_rulesPlace_2 : decode cX6_rulesPlace 2 = .ok (.iload_n 1, 1) := by decide +kernel
theorem dX6_rulesPlace_3 : decode cX6_rulesPlace 3 = .ok (.aload_n 0, 1) := by decide +kernel
theorem dX6_rulesPlace_4 : decode cX6_rulesPlace 4 = .ok (.getfield 15, 3) := by decide +kernel
theorem dX6_rulesPlace_7 : decode cX6_rulesPlace 7 = .ok (.if_icmp .ge 24, 3) := by decide +kernel
theorem dX6_rulesPlace_10 : decode cX6_rulesPlace 10 = .ok (.aload_n 0, 1) := by decide +kernel
theorem dX6_rulesPlace_11 : decode cX6_rulesPlace 11 = .ok (.getfield 9, 3) := by decide +kernel
theorem dX6_rulesPlace_14 : decode cX6_rulesPlace 14 = .ok (.iload_n 1, 1) := by decide +kernel
theorem dX6_rulesPlace_15 : decode cX6_rulesPlace 15 = .ok (.iaload, 1) := by decide +kernel
theorem dX6_rulesPlace_16 : decode cX6_rulesPlace 16 = .ok (.bipush 59, 2) := by decide +kernel
theorem dX6_rulesPlace_18 : decode cX6_rulesPlace 18 = .ok (.if_icmp .ne 7, 3) := by decide +kernel
theorem dX6_rulesPlace_21 : decode cX6_rulesPlace 21 = .ok (.iload_n 1, 1) := by decide +kernel
theorem dX6_rulesPlace_22 : decode cX6_rulesPlace 22 = .ok (.iconst 1, 1) := by decide +kernel
theorem dX6_rulesPlace_23 : decode cX6_rulesPlace 23 = .ok (.iadd, 1) := by decide +kernel
theorem dX6_rulesPlace_24 : decode cX6_rulesPlace 24 = .ok (.ireturn, 1) := by decide +kernel
theorem dX6_rulesPlace_25 : decode cX6_rulesPlace 25 = .ok (.iinc 1 1, 3) := by decide +kernel
theorem dX6_rulesPlace_28 : decode cX6_rulesPlace 28 = .ok (.goto (-26), 3) := by decide +kernel
theorem dX6_rulesPlace_31 : decode cX6_rulesPlace 31 = .ok (.iconst (-1), 1) := by decide +kernel
theorem dX6_rulesPlace_32 : decode cX6_rulesPlace 32 = .ok (.ireturn, 1) := by decide +kernel
theorem dX6_fitsBoxes_0 : decode cX6_fitsBoxes 0 = .ok (.aload_n 0, 1) := by decide +kernel
theorem dX6_fitsBoxes_1 : decode cX6_fitsBoxes 1 = .ok (.getfield 9, 3) := by decide +kernel
theorem dX6_fitsBoxes_4 : decode cX6_fitsBoxes 4 = .ok (.iload_n 1, 1) := by decide +kernel
theorem dX6_fitsBoxes_5 : decode cX6_fitsBoxes 5 = .ok (.iaload, 1) := by decide +kernel
theorem dX6_fitsBoxes_6 : decode cX6_fitsBoxes 6 = .ok (.istore_n 2, 1) := by decide +kernel
theorem dX6_fitsBoxes_7 : decode cX6_fitsBoxes 7 = .ok (.iload_n 1, 1) := by decide +kernel
theorem dX6_fitsBoxes_8 : decode cX6_fitsBoxes 8 = .ok (.bipush 6, 2) := by decide +kernel
theorem dX6_fitsBoxes_10 : decode cX6_fitsBoxes 10 = .ok (.irem, 1) := by decide +kernel
theorem dX6_fitsBoxes_11 : decode cX6_fitsBoxes 11 = .ok (.tableswitch 89 0 4 #[33, 47, 47, 65, 65], 33) := by decide +kernel
theorem dX6_fitsBoxes_44 : decode cX6_fitsBoxes 44 = .ok (.iload_n 2, 1) := by decide +kernel
theorem dX6_fitsBoxes_45 : decode cX6_fitsBoxes 45 = .ok (.invokestatic 39, 3) := by decide +kernel
theorem dX6_fitsBoxes_48 : decode cX6_fitsBoxes 48 = .ok (.iconst (-1), 1) := by decide +kernel
theorem dX6_fitsBoxes_49 : decode cX6_fitsBoxes 49 = .ok (.if_icmp .eq 7, 3) := by decide +kernel
theorem dX6_fitsBoxes_52 : decode cX6_fitsBoxes 52 = .ok (.iconst 1, 1) := by decide +kernel
theorem dX6_fitsBoxes_53 : decode cX6_fitsBoxes 53 = .ok (.goto 4, 3) := by decide +kernel
theorem dX6_fitsBoxes_56 : decode cX6_fitsBoxes 56 = .ok (.iconst 0, 1) := by decide +kernel
theorem dX6_fitsBoxes_57 : decode cX6_fitsBoxes 57 = .ok (.ireturn, 1) := by decide +kernel
theorem dX6_fitsBoxes_58 : decode cX6_fitsBoxes 58 = .ok (.iload_n 2, 1) := by decide +kernel
theorem dX6_fitsBoxes_59 : decode cX6_fitsBoxes 59 = .ok (.bipush 48, 2) := by decide +kernel
theorem dX6_fitsBoxes_61 : decode cX6_fitsBoxes 61 = .ok (.if_icmp .lt 13, 3) := by decide +kernel
theorem dX6_fitsBoxes_64 : decode cX6_fitsBoxes 64 = .ok (.iload_n 2, 1) := by decide +kernel
theorem dX6_fitsBoxes_65 : decode cX6_fitsBoxes 65 = .ok (.bipush 56, 2) := by decide +kernel
theorem dX6_fitsBoxes_67 : decode cX6_fitsBoxes 67 = .ok (.if_icmp .gt 7, 3) := by decide +kernel
theorem dX6_fitsBoxes_70 : decode cX6_fitsBoxes 70 = .ok (.iconst 1, 1) := by decide +kernel
theorem dX6_fitsBoxes_71 : decode cX6_fitsBoxes 71 = .ok (.goto 4, 3) := by decide +kernel
theorem dX6_fitsBoxes_74 : decode cX6_fitsBoxes 74 = .ok (.iconst 0, 1) := by decide +kernel
theorem dX6_fitsBoxes_75 : decode cX6_fitsBoxes 75 = .ok (.ireturn, 1) := by decide +kernel
theorem dX6_fitsBoxes_76 : decode cX6_fitsBoxes 76 = .ok (.iload_n 2, 1) := by decide +kernel
theorem dX6_fitsBoxes_77 : decode cX6_fitsBoxes 77 = .ok (.bipush 57, 2) := by decide +kernel
theorem dX6_fitsBoxes_79 : decode cX6_fitsBoxes 79 = .ok (.if_icmp .gt 19, 3) := by decide +kernel
theorem dX6_fitsBoxes_82 : decode cX6_fitsBoxes 82 = .ok (.iload_n 2, 1) := by decide +kernel
theorem dX6_fitsBoxes_83 : decode cX6_fitsBoxes 83 = .ok (.aload_n 0, 1) := by decide +kernel
theorem dX6_fitsBoxes_84 : decode cX6_fitsBoxes 84 = .ok (.getfield 9, 3) := by decide +kernel
theorem dX6_fitsBoxes_87 : decode cX6_fitsBoxes 87 = .ok (.iload_n 1, 1) := by decide +kernel
theorem dX6_fitsBoxes_88 : decode cX6_fitsBoxes 88 = .ok (.iconst 2, 1) := by decide +kernel
theorem dX6_fitsBoxes_89 : decode cX6_fitsBoxes 89 = .ok (.isub, 1) := by decide +kernel
theorem dX6_fitsBoxes_90 : decode cX6_fitsBoxes 90 = .ok (.iaload, 1) := by decide +kernel
theorem dX6_fitsBoxes_91 : decode cX6_fitsBoxes 91 = .ok (.if_icmp .le 7, 3) := by decide +kernel
theorem dX6_fitsBoxes_94 : decode cX6_fitsBoxes 94 = .ok (.iconst 1, 1) := by decide +kernel
theorem dX6_fitsBoxes_95 : decode cX6_fitsBoxes 95 = .ok (.goto 4, 3) := by decide +kernel
theorem dX6_fitsBoxes_98 : decode cX6_fitsBoxes 98 = .ok (.iconst 0, 1) := by decide +kernel
theorem dX6_fitsBoxes_99 : decode cX6_fitsBoxes 99 = .ok (.ireturn, 1) := by decide +kernel
theorem dX6_fitsBoxes_100 : decode cX6_fitsBoxes 100 = .ok (.iload_n 2, 1) := by decide +kernel
theorem dX6_fitsBoxes_101 : decode cX6_fitsBoxes 101 = .ok (.bipush 59, 2) := by decide +kernel
theorem dX6_fitsBoxes_103 : decode cX6_fitsBoxes 103 = .ok (.if_icmp .eq 20, 3) := by decide +kernel
theorem dX6_fitsBoxes_106 : decode cX6_fitsBoxes 106 = .ok (.iload_n 2, 1) := by decide +kernel
theorem dX6_fitsBoxes_107 : decode cX6_fitsBoxes 107 = .ok (.bipush 44, 2) := by decide +kernel
theorem dX6_fitsBoxes_109 : decode cX6_fitsBoxes 109 = .ok (.if_icmp .ne 18, 3) := by decide +kernel
theorem dX6_fitsBoxes_112 : decode cX6_fitsBoxes 112 = .ok (.iload_n 1, 1) := by decide +kernel
theorem dX6_fitsBoxes_113 : decode cX6_fitsBoxes 113 = .ok (.bipush 6, 2) := by decide +kernel
theorem dX6_fitsBoxes_115 : decode cX6_fitsBoxes 115 = .ok (.idiv, 1) := by decide +kernel
theorem dX6_fitsBoxes_116 : decode cX6_fitsBoxes 116 = .ok (.iconst 1, 1) := by decide +kernel
theorem dX6_fitsBoxes_117 : decode cX6_fitsBoxes 117 = .ok (.iadd, 1) := by decide +kernel
theorem dX6_fitsBoxes_118 : decode cX6_fitsBoxes 118 = .ok (.bipush 8, 2) := by decide +kernel
theorem dX6_fitsBoxes_120 : decode cX6_fitsBoxes 120 = .ok (.if_icmp .ge 7, 3) := by decide +kernel
theorem dX6_fitsBoxes_123 : decode cX6_fitsBoxes 123 = .ok (.iconst 1, 1) := by decide +kernel
theorem dX6_fitsBoxes_124 : decode cX6_fitsBoxes 124 = .ok (.goto 4, 3) := by decide +kernel
theorem dX6_fitsBoxes_127 : decode cX6_fitsBoxes 127 = .ok (.iconst 0, 1) := by decide +kernel
theorem dX6_fitsBoxes_128 : decode cX6_fitsBoxes 128 = .ok (.ireturn, 1) := by decide +kernel
theorem dX6_fitsRules_0 : decode cX6_fitsRules 0 = .ok (.aload_n 0, 1) := by decide +kernel
theorem dX6_fitsRules_1 : decode cX6_fitsRules 1 = .ok (.getfield 9, 3) := by decide +kernel
theorem dX6_fitsRules_4 : decode cX6_fitsRules 4 = .ok (.iload_n 1, 1) := by decide +kernel
theorem dX6_fitsRules_5 : decode cX6_fitsRules 5 = .ok (.iaload, 1) := by decide +kernel
theorem dX6_fitsRules_6 : decode cX6_fitsRules 6 = .ok (.bipush 48, 2) := by decide +kernel
theorem dX6_fitsRules_8 : decode cX6_fitsRules 8 = .ok (.if_icmp .lt 14, 3) := by decide +kernel
theorem dX6_fitsRules_11 : decode cX6_fitsRules 11 = .ok (.aload_n 0, 1) := by decide +kernel
theorem dX6_fitsRules_12 : decode cX6_fitsRules 12 = .ok (.getfield 9, 3) := by decide +kernel
theorem dX6_fitsRules_15 : decode cX6_fitsRules 15 = .ok (.iload_n 1, 1) := by decide +kernel
theorem dX6_fitsRules_16 : decode cX6_fitsRules 16 = .ok (.iaload, 1) := by decide +kernel
theorem dX6_fitsRules_17 : decode cX6_fitsRules 17 = .ok (.bipush 51, 2) := by decide +kernel
theorem dX6_fitsRules_19 : decode cX6_fitsRules 19 = .ok (.if_icmp .le 5, 3) := by decide +kernel
theorem dX6_fitsRules_22 : decode cX6_fitsRules 22 = .ok (.iconst 0, 1) := by decide +kernel
theorem dX6_fitsRules_23 : decode cX6_fitsRules 23 = .ok (.ireturn, 1) := by decide +kernel
theorem dX6_fitsRules_24 : decode cX6_fitsRules 24 = .ok (.iload_n 2, 1) := by decide +kernel
theorem dX6_fitsRules_25 : decode cX6_fitsRules 25 = .ok (.istore_n 3, 1) := by decide +kernel
theorem dX6_fitsRules_26 : decode cX6_fitsRules 26 = .ok (.iload_n 3, 1) := by decide +kernel
theorem dX6_fitsRules_27 : decode cX6_fitsRules 27 = .ok (.iload_n 1, 1) := by decide +kernel
theorem dX6_fitsRules_28 : decode cX6_fitsRules 28 = .ok (.if_icmp .ge 26, 3) := by decide +kernel
theorem dX6_fitsRules_31 : decode cX6_fitsRules 31 = .ok (.aload_n 0, 1) := by decide +kernel
theorem dX6_fitsRules_32 : decode cX6_fitsRules 32 = .ok (.getfield 9, 3) := by decide +kernel
theorem dX6_fitsRules_35 : decode cX6_fitsRules 35 = .ok (.iload_n 3, 1) := by decide +kernel
theorem dX6_fitsRules_36 : decode cX6_fitsRules 36 = .ok (.iaload, 1) := by decide +kernel
theorem dX6_fitsRules_37 : decode cX6_fitsRules 37 = .ok (.aload_n 0, 1) := by decide +kernel
theorem dX6_fitsRules_38 : decode cX6_fitsRules 38 = .ok (.getfield 9, 3) := by decide +kernel
theorem dX6_fitsRules_41 : decode cX6_fitsRules 41 = .ok (.iload_n 1, 1) := by decide +kernel
theorem dX6_fitsRules_42 : decode cX6_fitsRules 42 = .ok (.iaload, 1) := by decide +kernel
theorem dX6_fitsRules_43 : decode cX6_fitsRules 43 = .ok (.if_icmp .ne 5, 3) := by decide +kernel
theorem dX6_fitsRules_46 : decode cX6_fitsRules 46 = .ok (.iconst 0, 1) := by decide +kernel
theorem dX6_fitsRules_47 : decode cX6_fitsRules 47 = .ok (.ireturn, 1) := by decide +kernel
theorem dX6_fitsRules_48 : decode cX6_fitsRules 48 = .ok (.iinc 3 1, 3) := by decide +kernel
theorem dX6_fitsRules_51 : decode cX6_fitsRules 51 = .ok (.goto (-25), 3) := by decide +kernel
theorem dX6_fitsRules_54 : decode cX6_fitsRules 54 = .ok (.iconst 1, 1) := by decide +kernel
theorem dX6_fitsRules_55 : decode cX6_fitsRules 55 = .ok (.ireturn, 1) := by decide +kernel
theorem dX6_digitAt_0 : decode cX6_digitAt 0 = .ok (.iload_n 1, 1) := by decide +kernel
theorem dX6_digitAt_1 : decode cX6_digitAt 1 = .ok (.aload_n 0, 1) := by decide +kernel
theorem dX6_digitAt_2 : decode cX6_digitAt 2 = .ok (.getfield 15, 3) := by decide +kernel
theorem dX6_digitAt_5 : decode cX6_digitAt 5 = .ok (.if_icmp .ge 15, 3) := by decide +kernel
theorem dX6_digitAt_8 : decode cX6_digitAt 8 = .ok (.aload_n 0, 1) := by decide +kernel
theorem dX6_digitAt_9 : decode cX6_digitAt 9 = .ok (.getfield 9, 3) := by decide +kernel
theorem dX6_digitAt_12 : decode cX6_digitAt 12 = .ok (.iload_n 1, 1) := by decide +kernel
theorem dX6_digitAt_13 : decode cX6_digitAt 13 = .ok (.iaload, 1) := by decide +kernel
theorem dX6_digitAt_14 : decode cX6_digitAt 14 = .ok (.bipush 48, 2) := by decide +kernel
theorem dX6_digitAt_16 : decode cX6_digitAt 16 = .ok (.isub, 1) := by decide +kernel
theorem dX6_digitAt_17 : decode cX6_digitAt 17 = .ok (.goto 4, 3) := by decide +kernel
theorem dX6_digitAt_20 : decode cX6_digitAt 20 = .ok (.iconst 0, 1) := by decide +kernel
theorem dX6_digitAt_21 : decode cX6_digitAt 21 = .ok (.ireturn, 1) := by decide +kernel
theorem dX6_kindOf_0 : decode cX6_kindOf 0 = .ok (.ldc 60, 2) := by decide +kernel
theorem dX6_kindOf_2 : decode cX6_kindOf 2 = .ok (.iload_n 0, 1) := by decide +kernel
theorem dX6_kindOf_3 : decode cX6_kindOf 3 = .ok (.i2c, 1) := by decide +kernel
theorem dX6_kindOf_4 : decode cX6_kindOf 4 = .ok (.invokevirtual 62, 3) := by decide +kernel
theorem dX6_kindOf_7 : decode cX6_kindOf 7 = .ok (.ireturn, 1) := by decide +kernel
end
section
theorem dX7_init_0 : decode cX7_init 0 = .ok (.aload_n 0, 1) := by decide +kernel
theorem dX7_init_1 : decode cX7_init 1 = .ok (.invokespecial 3, 3) := by decide +kernel
theorem dX7_init_4 : decode cX7_init 4 = .ok (.aload_n 0, 1) := by decide +kernel
theorem dX7_init_5 : decode cX7_init 5 = .ok (.new 9, 3) := by decide +kernel
theorem dX7_init_8 : decode cX7_init 8 = .ok (.dup, 1) := by decide +kernel
theorem dX7_init_9 : decode cX7_init 9 = .ok (.invokespecial 11, 3) := by decide +kernel
theorem dX7_init_12 : decode cX7_init 12 = .ok (.putfield 12, 3) := by decide +kernel
theorem dX7_init_15 : decode cX7_init 15 = .ok (.aload_n 0, 1) := by decide +kernel
theorem dX7_init_16 : decode cX7_init 16 = .ok (.new 16, 3) := by decide +kernel
theorem dX7_init_19 : decode cX7_init 19 = .ok (.dup, 1) := by decide +kernel
theorem dX7_init_20 : decode cX7_init 20 = .ok (.invokespecial 18, 3) := by decide +kernel
theorem dX7_init_23 : decode cX7_init 23 = .ok (.putfield 19, 3) := by decide +kernel
theorem dX7_init_26 : decode cX7_init 26 = .ok (.aload_n 0, 1) := by decide +kernel
theorem dX7_init_27 : decode cX7_init 27 = .ok (.new 23, 3) := by decide +kernel
theorem dX7_init_30 : decode cX7_init 30 = .ok (.dup, 1) := by decide +kernel
theorem dX7_init_31 : decode cX7_init 31 = .ok (.invokespecial 25, 3) := by decide +kernel
theorem dX7_init_34 : decode cX7_init 34 = .ok (.putfield 26, 3) := by decide +kernel
theorem dX7_init_37 : decode cX7_init 37 = .ok (.aload_n 0, 1) := by decide +kernel
theorem dX7_init_38 : decode cX7_init 38 = .ok (.new 30, 3) := by decide +kernel
theorem dX7_init_41 : decode cX7_init 41 = .ok (.dup, 1) := by decide +kernel
theorem dX7_init_42 : decode cX7_init 42 = .ok (.invokespecial 32, 3) := by decide +kernel
theorem dX7_init_45 : decode cX7_init 45 = .ok (.putfield 33, 3) := by decide +kernel
theorem dX7_init_48 : decode cX7_init 48 = .ok (.aload_n 0, 1) := by decide +kernel
theorem dX7_init_49 : decode cX7_init 49 = .ok (.new 23, 3) := by decide +kernel
theorem dX7_init_52 : decode cX7_init 52 = .ok (.dup, 1) := by decide +kernel
theorem dX7_init_53 : decode cX7_init 53 = .ok (.invokespecial 25, 3) := by decide +kernel
theorem dX7_init_56 : decode cX7_init 56 = .ok (.putfield 37, 3) := by decide +kernel
theorem dX7_init_59 : decode cX7_init 59 = .ok (.aload_n 0, 1) := by decide +kernel
theorem dX7_init_60 : decode cX7_init 60 = .ok (.new 16, 3) := by decide +kernel
theorem dX7_init_63 : decode cX7_init 63 = .ok (.dup, 1) := by decide +kernel
theorem dX7_init_64 : decode cX7_init 64 = .ok (.invokespecial 18, 3) := by decide +kernel
theorem dX7_init_67 : decode cX7_init 67 = .ok (.putfield 40, 3) := by decide +kernel
theorem dX7_init_70 : decode cX7_init 70 = .ok (.aload_n 0, 1) := by decide +kernel
theorem dX7_init_71 : decode cX7_init 71 = .ok (.new 43, 3) := by decide +kernel
theorem dX7_init_74 : decode cX7_init 74 = .ok (.dup, 1) := by decide +kernel
theorem dX7_init_75 : decode cX7_init 75 = .ok (.invokespecial 45, 3) := by decide +kernel
theorem dX7_init_78 : decode cX7_init 78 = .ok (.putfield 46, 3) := by decide +kernel
theorem dX7_init_81 : decode cX7_init 81 = .ok (.return_, 1) := by decide +kernel
theorem dX7_letter_0 : decode cX7_letter 0 = .ok (.iload_n 1, 1) := by decide +kernel
theorem dX7_letter_1 : decode cX7_letter 1 = .ok (.iconst 1, 1) := by decide +kernel
theorem dX7_letter_2 : decode cX7_letter 2 = .ok (.if_icmp .lt 9, 3) := by decide +kernel
theorem dX7_letter_5 : decode cX7_letter 5 = .ok (.iload_n 1, 1) := by decide +kernel
theorem dX7_letter_6 : decode cX7_letter 6 = .ok (.bipush 126, 2) := by decide +kernel
theorem dX7_letter_8 : decode cX7_letter 8 = .ok (.if_icmp .le 6, 3) := by decide +kernel
theorem dX7_letter_11 : decode cX7_letter 11 = .ok (.bipush (-102), 2) := by decide +kernel
theorem dX7_letter_13 : decode cX7_letter 13 = .ok (.ireturn, 1) := by decide +kernel
theorem dX7_letter_14 : decode cX7_letter 14 = .ok (.aload_n 0, 1) := by decide +kernel
theorem dX7_letter_15 : decode cX7_letter 15 = .ok (.getfield 12, 3) := by decide +kernel
theorem dX7_letter_18 : decode cX7_letter 18 = .ok (.getfield 50, 3) := by decide +kernel
theorem dX7_letter_21 : decode cX7_letter 21 = .ok (.bipush 54, 2) := by decide +kernel
theorem dX7_letter_23 : decode cX7_letter 23 = .ok (.if_icmp .lt 6, 3) := by decide +kernel
theorem dX7_letter_26 : decode cX7_letter 26 = .ok (.bipush (-104), 2) := by decide +kernel
theorem dX7_letter_28 : decode cX7_letter 28 = .ok (.ireturn, 1) := by decide +kernel
theorem dX7_letter_29 : decode cX7_letter 29 = .ok (.aload_n 0, 1) := by decide +kernel
theorem dX7_letter_30 : decode cX7_letter 30 = .ok (.getfield 12, 3) := by decide +kernel
theorem dX7_letter_33 : decode cX7_letter 33 = .ok (.iload_n 1, 1) := by decide +kernel
theorem dX7_letter_34 : decode cX7_letter 34 = .ok (.invokevirtual 54, 3) := by decide +kernel
theorem dX7_letter_37 : decode cX7_letter 37 = .ok (.aload_n 0, 1) := by decide +kernel
theorem dX7_letter_38 : decode cX7_letter 38 = .ok (.getfield 12, 3) := by decide +kernel
theorem dX7_letter_41 : decode cX7_letter 41 = .ok (.getfield 50, 3) := by decide +kernel
theorem dX7_letter_44 : decode cX7_letter 44 = .ok (.ireturn, 1) := by decide +kernel
theorem dX7_blank_0 : decode cX7_blank 0 = .ok (.aload_n 0, 1) := by decide +kernel
theorem dX7_blank_1 : decode cX7_blank 1 = .ok (.getfield 12, 3) := by decide +kernel
theorem dX7_blank_4 : decode cX7_blank 4 = .ok (.getfield 50, 3) := by decide +kernel
theorem dX7_blank_7 : decode cX7_blank 7 = .ok (.istore_n 1, 1) := by decide +kernel
theorem dX7_blank_8 : decode cX7_blank 8 = .ok (.aload_n 0, 1) := by decide +kernel
theorem dX7_blank_9 : decode cX7_blank 9 = .ok (.getfield 12, 3) := by decide +kernel
theorem dX7_blank_12 : decode cX7_blank 12 = .ok (.invokevirtual 58, 3) := by decide +kernel
theorem dX7_blank_15 : decode cX7_blank 15 = .ok (.iload_n 1, 1) := by decide +kernel
theorem dX7_blank_16 : decode cX7_blank 16 = .ok (.ireturn, 1) := by decide +kernel
theorem dX7_fault_0 : decode cX7_fault 0 = .ok (.aload_n 0, 1) := by decide +kernel
theorem dX7_fault_1 : decode cX7_fault 1 = .ok (.getfield 12, 3) := by decide +kernel
theorem dX7_fault_4 : decode cX7_fault 4 = .ok (.invokevirtual 61, 3) := by decide +kernel
theorem dX7_fault_7 : decode cX7_fault 7 = .ok (.ireturn, 1) := by decide +kernel
theorem dX7_page_0 : decode cX7_page 0 = .ok (.aload_n 0, 1) := by decide +kernel
theorem dX7_page_1 : decode cX7_page 1 = .ok (.getfield 12, 3) := by decide +kernel
theorem dX7_page_4 : decode cX7_page 4 = .ok (.invokevirtual 65, 3) := by decide +kernel
theorem dX7_page_7 : decode cX7_page 7 = .ok (.ifCond .ne 6, 3) := by decide +kernel
theorem dX7_page_10 : decode cX7_page 10 = .ok (.bipush (-103), 2) := by decide +kernel
theorem dX7_page_12 : decode cX7_page 12 = .ok (.ireturn, 1) := by decide +kernel
theorem dX7_page_13 : decode cX7_page 13 = .ok (.aload_n 0, 1) := by decide +kernel
theorem dX7_page_14 : decode cX7_page 14 = .ok (.getfield 12, 3) := by decide +kernel
theorem dX7_page_17 : decode cX7_page 17 = .ok (.aload_n 0, 1) := by decide +kernel
theorem dX7_page_18 : decode cX7_page 18 = .ok (.getfield 19, 3) := by decide +kernel
theorem dX7_page_21 : decode cX7_page 21 = .ok (.getfield 69, 3) := by decide +kernel
theorem dX7_page_24 : decode cX7_page 24 = .ok (.invokevirtual 72, 3) := by decide +kernel
theorem dX7_page_27 : decode cX7_page 27 = .ok (.aload_n 0, 1) := by decide +kernel
theorem dX7_page_28 : decode cX7_page 28 = .ok (.getfield 19, 3) := by decide +kernel
theorem dX7_page_31 : decode cX7_page 31 = .ok (.invokevirtual 76, 3) := by decide +kernel
theorem dX7_page_34 : decode cX7_page 34 = .ok (.aload_n 0, 1) := by decide +kernel
theorem dX7_page_35 : decode cX7_page 35 = .ok (.getfield 12, 3) := by decide +kernel
theorem dX7_page_38 : decode cX7_page 38 = .ok (.invokevirtual 58, 3) := by decide +kernel
theorem dX7_page_41 : decode cX7_page 41 = .ok (.aload_n 0, 1) := by decide +kernel
theorem dX7_page_42 : decode cX7_page 42 = .ok (.getfield 26, 3) := by decide +kernel
theorem dX7_page_45 : decode cX7_page 45 = .ok (.invokevirtual 79, 3) := by decide +kernel
theorem dX7_page_48 : decode cX7_page 48 = .ok (.aload_n 0, 1) := by decide +kernel
theorem dX7_page_49 : decode cX7_page 49 = .ok (.iconst 0, 1) := by decide +kernel
theorem dX7_page_50 : decode cX7_page 50 = .ok (.putfield 80, 3) := by decide +kernel
theorem dX7_page_53 : decode cX7_page 53 = .ok (.aload_n 0, 1) := by decide +kernel
theorem dX7_page_54 : decode cX7_page 54 = .ok (.dup, 1) := by decide +kernel
theorem dX7_page_55 : decode cX7_page 55 = .ok (.getfield 84, 3) := by decide +kernel
theorem dX7_page_58 : decode cX7_page 58 = .ok (.iconst 1, 1) := by decide +kernel
theorem dX7_page_59 : decode cX7_page 59 = .ok (.iadd, 1) := by decide +kernel
theorem dX7_page_60 : decode cX7_page 60 = .ok (.putfield 84, 3) := by decide +kernel
theorem dX7_page_63 : decode cX7_page 63 = .ok (.aload_n 0, 1) := by decide +kernel
theorem dX7_page_64 : decode cX7_page 64 = .ok (.getfield 19, 3) := by decide +kernel
theorem dX7_page_67 : decode cX7_page 67 = .ok (.getfield 69, 3) := by decide +kernel
theorem dX7_page_70 : decode cX7_page 70 = .ok (.getfield 87, 3) := by decide +kernel
theorem dX7_page_73 : decode cX7_page 73 = .ok (.ireturn, 1) := by decide +kernel
theorem dX7_box_0 : decode cX7_box 0 = .ok (.aload_n 0, 1) := by decide +kernel
theorem dX7_box_1 : decode cX7_box 1 = .ok (.getfield 19, 3) := by decide +kernel
theorem dX7_box_4 : decode cX7_box 4 = .ok (.getfield 69, 3) := by decide +kernel
theorem dX7_box_7 : decode cX7_box 7 = .ok (.astore_n 3, 1) := by decide +kernel
theorem dX7_box_8 : decode cX7_box 8 = .ok (.aload_n 3, 1) := by decide +kernel
theorem dX7_box_9 : decode cX7_box 9 = .ok (.iload_n 1, 1) := by decide +kernel
theorem dX7_box_10 : decode cX7_box 10 = .ok (.invokevirtual 90, 3) := by decide +kernel
theorem dX7_box_13 : decode cX7_box 13 = .ok (.ifCond .ne 6, 3) := by decide +kernel
theorem dX7_box_16 : decode cX7_box 16 = .ok (.bipush (-101), 2) := by decide +kernel
theorem dX7_box_18 : decode cX7_box 18 = .ok (.ireturn, 1) := by decide +kernel
theorem dX7_box_19 : decode cX7_box 19 = .ok (.iload_n 2, 1) := by decide +kernel
theorem dX7_box_20 : decode cX7_box 20 = .ok (.tableswitch 139 0 9 #[56, 63, 70, 77, 84, 91, 101, 111, 121, 130], 56) := by decide +kernel
theorem dX7_box_76 : decode cX7_box 76 = .ok (.aload_n 3, 1) := by decide +kernel
theorem dX7_box_77 : decode cX7_box 77 = .ok (.getfield 94, 3) := by decide +kernel
theorem dX7_box_80 : decode cX7_box 80 = .ok (.iload_n 1, 1) := by decide +kernel
theorem dX7_box_81 : decode cX7_box 81 = .ok (.iaload, 1) := by decide +kernel
theorem dX7_box_82 : decode cX7_box 82 = .ok (.ireturn, 1) := by decide +kernel
theorem dX7_box_83 : decode cX7_box 83 = .ok (.aload_n 3, 1) := by decide +kernel
theorem dX7_box_84 : decode cX7_box 84 = .ok (.getfield 98, 3) := by decide +kernel
theorem dX7_box_87 : decode cX7_box 87 = .ok (.iload_n 1, 1) := by decide +kernel
theorem dX7_box_88 : decode cX7_box 88 = .ok (.iaload, 1) := by decide +kernel
theorem dX7_box_89 : decode cX7_box 89 = .ok (.ireturn, 1) := by decide +kernel
theorem dX7_box_90 : decode cX7_box 90 = .ok (.aload_n 3, 1) := by decide +kernel
theorem dX7_box_91 : decode cX7_box 91 = .ok (.getfield 101, 3) := by decide +kernel
theorem dX7_box_94 : decode cX7_box 94 = .ok (.iload_n 1, 1) := by decide +kernel
theorem dX7_box_95 : decode cX7_box 95 = .ok (.iaload, 1) := by decide +kernel
theorem dX7_box_96 : decode cX7_box 96 = .ok (.ireturn, 1) := by decide +kernel
theorem dX7_box_97 : decode cX7_box 97 = .ok (.aload_n 3, 1) := by decide +kernel
theorem dX7_box_98 : decode cX7_box 98 = .ok (.getfield 104, 3) := by decide +kernel
theorem dX7_box_101 : decode cX7_box 101 = .ok (.iload_n 1, 1) := by decide +kernel
theorem dX7_box_102 : decode cX7_box 102 = .ok (.iaload, 1) := by decide +kernel
theorem dX7_box_103 : decode cX7_box 103 = .ok (.ireturn, 1) := by decide +kernel
theorem dX7_box_104 : decode cX7_box 104 = .ok (.aload_n 3, 1) := by decide +kernel
theorem dX7_box_105 : decode cX7_box 105 = .ok (.getfield 107, 3) := by decide +kernel
theorem dX7_box_108 : decode cX7_box 108 = .ok (.iload_n 1, 1) := by decide +kernel
theorem dX7_box_109 : decode cX7_box 109 = .ok (.iaload, 1) := by decide +kernel
theorem dX7_box_110 : decode cX7_box 110 = .ok (.ireturn, 1) := by decide +kernel
theorem dX7_box_111 : decode cX7_box 111 = .ok (.aload_n 0, 1) := by decide +kernel
theorem dX7_box_112 : decode cX7_box 112 = .ok (.getfield 19, 3) := by decide +kernel
theorem dX7_box_115 : decode cX7_box 115 = .ok (.getfield 110, 3) := by decide +kernel
theorem dX7_box_118 : decode cX7_box 118 = .ok (.iload_n 1, 1) := by decide +kernel
theorem dX7_box_119 : decode cX7_box 119 = .ok (.iaload, 1) := by decide +kernel
theorem dX7_box_120 : decode cX7_box 120 = .ok (.ireturn, 1) := by decide +kernel
theorem dX7_box_121 : decode cX7_box 121 = .ok (.aload_n 0, 1) := by decide +kernel
theorem dX7_box_122 : decode cX7_box 122 = .ok (.getfield 19, 3) := by decide +kernel
theorem dX7_box_125 : decode cX7_box 125 = .ok (.getfield 113, 3) := by decide +kernel
theorem dX7_box_128 : decode cX7_box 128 = .ok (.iload_n 1, 1) := by decide +kernel
theorem dX7_box_129 : decode cX7_box 129 = .ok (.iaload, 1) := by decide +kernel
theorem dX7_box_130 : decode cX7_box 130 = .ok (.ireturn, 1) := by decide +kernel
theorem dX7_box_131 : decode cX7_box 131 = .ok (.aload_n 0, 1) := by decide +kernel
theorem dX7_box_132 : decode cX7_box 132 = .ok (.getfield 19, 3) := by decide +kernel
theorem dX7_box_135 : decode cX7_box 135 = .ok (.getfield 116, 3) := by decide +kernel
theorem dX7_box_138 : decode cX7_box 138 = .ok (.iload_n 1, 1) := by decide +kernel
theorem dX7_box_139 : decode cX7_box 139 = .ok (.iaload, 1) := by decide +kernel
theorem dX7_box_140 : decode cX7_box 140 = .ok (.ireturn, 1) := by decide +kernel
theorem dX7_box_141 : decode cX7_box 141 = .ok (.aload_n 0, 1) := by decide +kernel
theorem dX7_box_142 : decode cX7_box 142 = .ok (.getfield 26, 3) := by decide +kernel
theorem dX7_box_145 : decode cX7_box 145 = .ok (.iload_n 1, 1) := by decide +kernel
theorem dX7_box_146 : decode cX7_box 146 = .ok (.invokevirtual 119, 3) := by decide +kernel
theorem dX7_box_149 : decode cX7_box 149 = .ok (.ireturn, 1) := by decide +kernel
theorem dX7_box_150 : decode cX7_box 150 = .ok (.aload_n 0, 1) := by decide +kernel
theorem dX7_box_151 : decode cX7_box 151 = .ok (.getfield 26, 3) := by decide +kernel
theorem dX7_box_154 : decode cX7_box 154 = .ok (.iload_n 1, 1) := by decide +kernel
theorem dX7_box_155 : decode cX7_box 155 = .ok (.invokevirtual 123, 3) := by decide +kernel
theorem dX7_box_158 : decode cX7_box 158 = .ok (.ireturn, 1) := by decide +kernel
theorem dX7_box_159 : decode cX7_box 159 = .ok (.bipush (-102), 2) := by decide +kernel
theorem dX7_box_161 : decode cX7_box 161 = .ok (.ireturn, 1) := by decide +kernel
theorem dX7_as_0 : decode cX7_as 0 = .ok (.aload_n 0, 1) := by decide +kernel
theorem dX7_as_1 : decode cX7_as 1 = .ok (.getfield 19, 3) := by decide +kernel
theorem dX7_as_4 : decode cX7_as 4 = .ok (.getfield 69, 3) := by decide +kernel
theorem dX7_as_7 : decode cX7_as 7 = .ok (.iload_n 1, 1) := by decide +kernel
theorem dX7_as_8 : decode cX7_as 8 = .ok (.invokevirtual 90, 3) := by decide +kernel
theorem dX7_as_11 : decode cX7_as 11 = .ok (.ifCond .ne 6, 3) := by decide +kernel
theorem dX7_as_14 : decode cX7_as 14 = .ok (.bipush (-101), 2) := by decide +kernel
theorem dX7_as_16 : decode cX7_as 16 = .ok (.ireturn, 1) := by decide +kernel
theorem dX7_as_17 : decode cX7_as 17 = .ok (.iload_n 2, 1) := by decide +kernel
theorem dX7_as_18 : decode cX7_as 18 = .ok (.invokestatic 126, 3) := by decide +kernel
theorem dX7_as_21 : decode cX7_as 21 = .ok (.ifCond .ne 6, 3) := by decide +kernel
theorem dX7_as_24 : decode cX7_as 24 = .ok (.bipush (-102), 2) := by decide +kernel
theorem dX7_as_26 : decode cX7_as 26 = .ok (.ireturn, 1) := by decide +kernel
theorem dX7_as_27 : decode cX7_as 27 = .ok (.aload_n 0, 1) := by decide +kernel
theorem dX7_as_28 : decode cX7_as 28 = .ok (.getfield 19, 3) := by decide +kernel
theorem dX7_as_31 : decode cX7_as 31 = .ok (.getfield 69, 3) := by decide +kernel
theorem dX7_as_34 : decode cX7_as 34 = .ok (.iload_n 1, 1) := by decide +kernel
theorem dX7_as_35 : decode cX7_as 35 = .ok (.iload_n 2, 1) := by decide +kernel
theorem dX7_as_36 : decode cX7_as 36 = .ok (.invokevirtual 129, 3) := by decide +kernel
theorem dX7_as_39 : decode cX7_as 39 = .ok (.ifCond .eq 7, 3) := by decide +kernel
theorem dX7_as_42 : decode cX7_as 42 = .ok (.iload_n 1, 1) := by decide +kernel
theorem dX7_as_43 : decode cX7_as 43 = .ok (.goto 4, 3) := by decide +kernel
theorem dX7_as_46 : decode cX7_as 46 = .ok (.iconst (-1), 1) := by decide +kernel
theorem dX7_as_47 : decode cX7_as 47 = .ok (.ireturn, 1) := by decide +kernel
theorem dX7_order_0 : decode cX7_order 0 = .ok (.iload_n 1, 1) := by decide +kernel
theorem dX7_order_1 : decode cX7_order 1 = .ok (.ifCond .lt 26, 3) := by decide +kernel
theorem dX7_order_4 : decode cX7_order 4 = .ok (.iload_n 1, 1) := by decide +kernel
theorem dX7_order_5 : decode cX7_order 5 = .ok (.aload_n 0, 1) := by decide +kernel
theorem dX7_order_6 : decode cX7_order 6 = .ok (.getfield 19, 3) := by decide +kernel
theorem dX7_order_9 : decode cX7_order 9 = .ok (.getfield 133, 3) := by decide +kernel
theorem dX7_order_12 : decode cX7_order 12 = .ok (.if_icmp .ge 15, 3) := by decide +kernel
theorem dX7_order_15 : decode cX7_order 15 = .ok (.aload_n 0, 1) := by decide +kernel
theorem dX7_order_16 : decode cX7_order 16 = .ok (.getfield 19, 3) := by decide +kernel
theorem dX7_order_19 : decode cX7_order 19 = .ok (.getfield 136, 3) := by decide +kernel
theorem dX7_order_22 : decode cX7_order 22 = .ok (.iload_n 1, 1) := by decide +kernel
theorem dX7_order_23 : decode cX7_order 23 = .ok (.iaload, 1) := by decide +kernel
theorem dX7_order_24 : decode cX7_order 24 = .ok (.goto 5, 3) := by decide +kernel
theorem dX7_order_27 : decode cX7_order 27 = .ok (.bipush (-101), 2) := by decide +kernel
theorem dX7_order_29 : decode cX7_order 29 = .ok (.ireturn, 1) := by decide +kernel
theorem dX7_cut_0 : decode cX7_cut 0 = .ok (.aload_n 0, 1) := by decide +kernel
theorem dX7_cut_1 : decode cX7_cut 1 = .ok (.getfield 19, 3) := by decide +kernel
theorem dX7_cut_4 : decode cX7_cut 4 = .ok (.getfield 139, 3) := by decide +kernel
theorem dX7_cut_7 : decode cX7_cut 7 = .ok (.astore_n 3, 1) := by decide +kernel
theorem dX7_cut_8 : decode cX7_cut 8 = .ok (.iload_n 1, 1) := by decide +kernel
theorem dX7_cut_9 : decode cX7_cut 9 = .ok (.ifCond .lt 11, 3) := by decide +kernel
theorem dX7_cut_12 : decode cX7_cut 12 = .ok (.iload_n 1, 1) := by decide +kernel
theorem dX7_cut_13 : decode cX7_cut 13 = .ok (.aload_n 3, 1) := by decide +kernel
theorem dX7_cut_14 : decode cX7_cut 14 = .ok (.getfield 143, 3) := by decide +kernel
theorem dX7_cut_17 : decode cX7_cut 17 = .ok (.if_icmp .lt 6, 3) := by decide +kernel
theorem dX7_cut_20 : decode cX7_cut 20 = .ok (.bipush (-101), 2) := by decide +kernel
theorem dX7_cut_22 : decode cX7_cut 22 = .ok (.ireturn, 1) := by decide +kernel
theorem dX7_cut_23 : decode cX7_cut 23 = .ok (.iload_n 2, 1) := by decide +kernel
theorem dX7_cut_24 : decode cX7_cut 24 = .ok (.tableswitch 71 0 4 #[36, 43, 50, 57, 64], 36) := by decide +kernel
theorem dX7_cut_60 : decode cX7_cut 60 = .ok (.aload_n 3, 1) := by decide +kernel
theorem dX7_cut_61 : decode cX7_cut 61 = .ok (.getfield 146, 3) := by decide +kernel
theorem dX7_cut_64 : decode cX7_cut 64 = .ok (.iload_n 1, 1) := by decide +kernel
theorem dX7_cut_65 : decode cX7_cut 65 = .ok (.iaload, 1) := by decide +kernel
theorem dX7_cut_66 : decode cX7_cut 66 = .ok (.ireturn, 1) := by decide +kernel
theorem dX7_cut_67 : decode cX7_cut 67 = .ok (.aload_n 3, 1) := by decide +kernel
theorem dX7_cut_68 : decode cX7_cut 68 = .ok (.getfield 149, 3) := by decide +kernel
theorem dX7_cut_71 : decode cX7_cut 71 = .ok (.iload_n 1, 1) := by decide +kernel
theorem dX7_cut_72 : decode cX7_cut 72 = .ok (.iaload, 1) := by decide +kernel
theorem dX7_cut_73 : decode cX7_cut 73 = .ok (.ireturn, 1) := by decide +kernel
theorem dX7_cut_74 : decode cX7_cut 74 = .ok (.aload_n 3, 1) := by decide +kernel
theorem dX7_cut_75 : decode cX7_cut 75 = .ok (.getfield 152, 3) := by decide +kernel
theorem dX7_cut_78 : decode cX7_cut 78 = .ok (.iload_n 1, 1) := by decide +kernel
theorem dX7_cut_79 : decode cX7_cut 79 = .ok (.iaload, 1) := by decide +kernel
theorem dX7_cut_80 : decode cX7_cut 80 = .ok (.ireturn, 1) := by decide +kernel
theorem dX7_cut_81 : decode cX7_cut 81 = .ok (.aload_n 3, 1) := by decide +kernel
theorem dX7_cut_82 : decode cX7_cut 82 = .ok (.getfield 155, 3) := by decide +kernel
theorem dX7_cut_85 : decode cX7_cut 85 = .ok (.iload_n 1, 1) := by decide +kernel
theorem dX7_cut_86 : decode cX7_cut 86 = .ok (.iaload, 1) := by decide +kernel
theorem dX7_cut_87 : decode cX7_cut 87 = .ok (.ireturn, 1) := by decide +kernel
theorem dX7_cut_88 : decode cX7_cut 88 = .ok (.aload_n 3, 1) := by decide +kernel
theorem dX7_cut_89 : decode cX7_cut 89 = .ok (.getfield 158, 3) := by decide +kernel
theorem dX7_cut_92 : decode cX7_cut 92 = .ok (.iload_n 1, 1) := by decide +kernel
theorem dX7_cut_93 : decode cX7_cut 93 = .ok (.iaload, 1) := by decide +kernel
theorem dX7_cut_94 : decode cX7_cut 94 = .ok (.ireturn, 1) := by decide +kernel
theorem dX7_cut_95 : decode cX7_cut 95 = .ok (.bipush (-102), 2) := by decide +kernel
theorem dX7_cut_97 : decode cX7_cut 97 = .ok (.ireturn, 1) := by decide +kernel
theorem dX7_lane_0 : decode cX7_lane 0 = .ok (.aload_n 0, 1) := by decide +kernel
theorem dX7_lane_1 : decode cX7_lane 1 = .ok (.getfield 19, 3) := by decide +kernel
theorem dX7_lane_4 : decode cX7_lane 4 = .ok (.iconst 0, 1) := by decide +kernel
theorem dX7_lane_5 : decode cX7_lane 5 = .ok (.aload_n 0, 1) := by decide +kernel
theorem dX7_lane_6 : decode cX7_lane 6 = .ok (.getfield 19, 3) := by decide +kernel
theorem dX7_lane_9 : decode cX7_lane 9 = .ok (.getfield 161, 3) := by decide +kernel
theorem dX7_lane_12 : decode cX7_lane 12 = .ok (.invokevirtual 164, 3) := by decide +kernel
theorem dX7_lane_15 : decode cX7_lane 15 = .ok (.aload_n 0, 1) := by decide +kernel
theorem dX7_lane_16 : decode cX7_lane 16 = .ok (.getfield 19, 3) := by decide +kernel
theorem dX7_lane_19 : decode cX7_lane 19 = .ok (.getfield 168, 3) := by decide +kernel
theorem dX7_lane_22 : decode cX7_lane 22 = .ok (.astore_n 3, 1) := by decide +kernel
theorem dX7_lane_23 : decode cX7_lane 23 = .ok (.iload_n 1, 1) := by decide +kernel
theorem dX7_lane_24 : decode cX7_lane 24 = .ok (.ifCond .lt 11, 3) := by decide +kernel
theorem dX7_lane_27 : decode cX7_lane 27 = .ok (.iload_n 1, 1) := by decide +kernel
theorem dX7_lane_28 : decode cX7_lane 28 = .ok (.aload_n 3, 1) := by decide +kernel
theorem dX7_lane_29 : decode cX7_lane 29 = .ok (.getfield 172, 3) := by decide +kernel
theorem dX7_lane_32 : decode cX7_lane 32 = .ok (.if_icmp .lt 6, 3) := by decide +kernel
theorem dX7_lane_35 : decode cX7_lane 35 = .ok (.bipush (-101), 2) := by decide +kernel
theorem dX7_lane_37 : decode cX7_lane 37 = .ok (.ireturn, 1) := by decide +kernel
theorem dX7_lane_38 : decode cX7_lane 38 = .ok (.iload_n 2, 1) := by decide +kernel
theorem dX7_lane_39 : decode cX7_lane 39 = .ok (.tableswitch 46 0 2 #[25, 32, 39], 25) := by decide +kernel
theorem dX7_lane_64 : decode cX7_lane 64 = .ok (.aload_n 3, 1) := by decide +kernel
theorem dX7_lane_65 : decode cX7_lane 65 = .ok (.getfield 175, 3) := by decide +kernel
theorem dX7_lane_68 : decode cX7_lane 68 = .ok (.iload_n 1, 1) := by decide +kernel
theorem dX7_lane_69 : decode cX7_lane 69 = .ok (.iaload, 1) := by decide +kernel
theorem dX7_lane_70 : decode cX7_lane 70 = .ok (.ireturn, 1) := by decide +kernel
theorem dX7_lane_71 : decode cX7_lane 71 = .ok (.aload_n 3, 1) := by decide +kernel
theorem dX7_lane_72 : decode cX7_lane 72 = .ok (.getfield 176, 3) := by decide +kernel
theorem dX7_lane_75 : decode cX7_lane 75 = .ok (.iload_n 1, 1) := by decide +kernel
theorem dX7_lane_76 : decode cX7_lane 76 = .ok (.iaload, 1) := by decide +kernel
theorem dX7_lane_77 : decode cX7_lane 77 = .ok (.ireturn, 1) := by decide +kernel
theorem dX7_lane_78 : decode cX7_lane 78 = .ok (.aload_n 3, 1) := by decide +kernel
theorem dX7_lane_79 : decode cX7_lane 79 = .ok (.getfield 177, 3) := by decide +kernel
theorem dX7_lane_82 : decode cX7_lane 82 = .ok (.iload_n 1, 1) := by decide +kernel
theorem dX7_lane_83 : decode cX7_lane 83 = .ok (.iaload, 1) := by decide +kernel
theorem dX7_lane_84 : decode cX7_lane 84 = .ok (.ireturn, 1) := by decide +kernel
theorem dX7_lane_85 : decode cX7_lane 85 = .ok (.bipush (-102), 2) := by decide +kernel
theorem dX7_lane_87 : decode cX7_lane 87 = .ok (.ireturn, 1) := by decide +kernel
theorem dX7_why_0 : decode cX7_why 0 = .ok (.aload_n 0, 1) := by decide +kernel
theorem dX7_why_1 : decode cX7_why 1 = .ok (.getfield 19, 3) := by decide +kernel
theorem dX7_why_4 : decode cX7_why 4 = .ok (.getfield 69, 3) := by decide +kernel
theorem dX7_why_7 : decode cX7_why 7 = .ok (.iload_n 1, 1) := by decide +kernel
theorem dX7_why_8 : decode cX7_why 8 = .ok (.invokevirtual 90, 3) := by decide +kernel
theorem dX7_why_11 : decode cX7_why 11 = .ok (.ifCond .eq 22, 3) := by decide +kernel
theorem dX7_why_14 : decode cX7_why 14 = .ok (.aload_n 0, 1) := by decide +kernel
theorem dX7_why_15 : decode cX7_why 15 = .ok (.getfield 19, 3) := by decide +kernel
theorem dX7_why_18 : decode cX7_why 18 = .ok (.getfield 69, 3) := by decide +kernel
theorem dX7_why_21 : decode cX7_why 21 = .ok (.iload_n 2, 1) := by decide +kernel
theorem dX7_why_22 : decode cX7_why 22 = .ok (.invokevirtual 90, 3) := by decide +kernel
theorem dX7_why_25 : decode cX7_why 25 = .ok (.ifCond .eq 8, 3) := by decide +kernel
theorem dX7_why_28 : decode cX7_why 28 = .ok (.iload_n 1, 1) := by decide +kernel
theorem dX7_why_29 : decode cX7_why 29 = .ok (.iload_n 2, 1) := by decide +kernel
theorem dX7_why_30 : decode cX7_why 30 = .ok (.if_icmp .ne 6, 3) := by decide +kernel
theorem dX7_why_33 : decode cX7_why 33 = .ok (.bipush (-101), 2) := by decide +kernel
theorem dX7_why_35 : decode cX7_why 35 = .ok (.ireturn, 1) := by decide +kernel
theorem dX7_why_36 : decode cX7_why 36 = .ok (.aload_n 0, 1) := by decide +kernel
theorem dX7_why_37 : decode cX7_why 37 = .ok (.getfield 19, 3) := by decide +kernel
theorem dX7_why_40 : decode cX7_why 40 = .ok (.getfield 110, 3) := by decide +kernel
theorem dX7_why_43 : decode cX7_why 43 = .ok (.iload_n 1, 1) := by decide +kernel
theorem dX7_why_44 : decode cX7_why 44 = .ok (.iaload, 1) := by decide +kernel
theorem dX7_why_45 : decode cX7_why 45 = .ok (.aload_n 0, 1) := by decide +kernel
theorem dX7_why_46 : decode cX7_why 46 = .ok (.getfield 19, 3) := by decide +kernel
theorem dX7_why_49 : decode cX7_why 49 = .ok (.getfield 110, 3) := by decide +kernel
theorem dX7_why_52 : decode cX7_why 52 = .ok (.iload_n 2, 1) := by decide +kernel
theorem dX7_why_53 : decode cX7_why 53 = .ok (.iaload, 1) := by decide +kernel
theorem dX7_why_54 : decode cX7_why 54 = .ok (.if_icmp .ge 7, 3) := by decide +kernel
theorem dX7_why_57 : decode cX7_why 57 = .ok (.iload_n 1, 1) := by decide +kernel
theorem dX7_why_58 : decode cX7_why 58 = .ok (.goto 4, 3) := by decide +kernel
theorem dX7_why_61 : decode cX7_why 61 = .ok (.iload_n 2, 1) := by decide +kernel
theorem dX7_why_62 : decode cX7_why 62 = .ok (.istore_n 3, 1) := by decide +kernel
theorem dX7_why_63 : decode cX7_why 63 = .ok (.bipush 10, 2) := by decide +kernel
theorem dX7_why_65 : decode cX7_why 65 = .ok (.iload_n 3, 1) := by decide +kernel
theorem dX7_why_66 : decode cX7_why 66 = .ok (.imul, 1) := by decide +kernel
theorem dX7_why_67 : decode cX7_why 67 = .ok (.aload_n 0, 1) := by decide +kernel
theorem dX7_why_68 : decode cX7_why 68 = .ok (.getfield 19, 3) := by decide +kernel
theorem dX7_why_71 : decode cX7_why 71 = .ok (.iload_n 1, 1) := by decide +kernel
theorem dX7_why_72 : decode cX7_why 72 = .ok (.iload_n 2, 1) := by decide +kernel
theorem dX7_why_73 : decode cX7_why 73 = .ok (.invokevirtual 178, 3) := by decide +kernel
theorem dX7_why_76 : decode cX7_why 76 = .ok (.iadd, 1) := by decide +kernel
theorem dX7_why_77 : decode cX7_why 77 = .ok (.ireturn, 1) := by decide +kernel
theorem dX7_put_0 : decode cX7_put 0 = .ok (.iload_n 1, 1) := by decide +kernel
theorem dX7_put_1 : decode cX7_put 1 = .ok (.ifCond .lt 21, 3) := by decide +kernel
theorem dX7_put_4 : decode cX7_put 4 = .ok (.iload_n 1, 1) := by decide +kernel
theorem dX7_put_5 : decode cX7_put 5 = .ok (.sipush 900, 3) := by decide +kernel
theorem dX7_put_8 : decode cX7_put 8 = .ok (.if_icmp .gt 14, 3) := by decide +kernel
theorem dX7_put_11 : decode cX7_put 11 = .ok (.iload_n 2, 1) := by decide +kernel
theorem dX7_put_12 : decode cX7_put 12 = .ok (.ifCond .lt 10, 3) := by decide +kernel
theorem dX7_put_15 : decode cX7_put 15 = .ok (.iload_n 2, 1) := by decide +kernel
theorem dX7_put_16 : decode cX7_put 16 = .ok (.sipush 900, 3) := by decide +kernel
theorem dX7_put_19 : decode cX7_put 19 = .ok (.if_icmp .le 6, 3) := by decide +kernel
theorem dX7_put_22 : decode cX7_put 22 = .ok (.bipush (-102), 2) := by decide +kernel
theorem dX7_put_24 : decode cX7_put 24 = .ok (.ireturn, 1) := by decide +kernel
theorem dX7_put_25 : decode cX7_put 25 = .ok (.aload_n 0, 1) := by decide +kernel
theorem dX7_put_26 : decode cX7_put 26 = .ok (.invokevirtual 182, 3) := by decide +kernel
theorem dX7_put_29 : decode cX7_put 29 = .ok (.ifCond .eq 6, 3) := by decide +kernel
theorem dX7_put_32 : decode cX7_put 32 = .ok (.bipush (-103), 2) := by decide +kernel
theorem dX7_put_34 : decode cX7_put 34 = .ok (.ireturn, 1) := by decide +kernel
theorem dX7_put_35 : decode cX7_put 35 = .ok (.aload_n 0, 1) := by decide +kernel
theorem dX7_put_36 : decode cX7_put 36 = .ok (.getfield 19, 3) := by decide +kernel
theorem dX7_put_39 : decode cX7_put 39 = .ok (.getfield 69, 3) := by decide +kernel
theorem dX7_put_42 : decode cX7_put 42 = .ok (.getfield 87, 3) := by decide +kernel
theorem dX7_put_45 : decode cX7_put 45 = .ok (.bipush 8, 2) := by decide +kernel
theorem dX7_put_47 : decode cX7_put 47 = .ok (.if_icmp .lt 6, 3) := by decide +kernel
theorem dX7_put_50 : decode cX7_put 50 = .ok (.bipush (-104), 2) := by decide +kernel
theorem dX7_put_52 : decode cX7_put 52 = .ok (.ireturn, 1) := by decide +kernel
theorem dX7_put_53 : decode cX7_put 53 = .ok (.aload_n 0, 1) := by decide +kernel
theorem dX7_put_54 : decode cX7_put 54 = .ok (.getfield 19, 3) := by decide +kernel
theorem dX7_put_57 : decode cX7_put 57 = .ok (.getfield 69, 3) := by decide +kernel
theorem dX7_put_60 : decode cX7_put 60 = .ok (.iconst 0, 1) := by decide +kernel
theorem dX7_put_61 : decode cX7_put 61 = .ok (.iload_n 1, 1) := by decide +kernel
theorem dX7_put_62 : decode cX7_put 62 = .ok (.iload_n 2, 1) := by decide +kernel
theorem dX7_put_63 : decode cX7_put 63 = .ok (.iload_n 1, 1) := by decide +kernel
theorem dX7_put_64 : decode cX7_put 64 = .ok (.iconst 2, 1) := by decide +kernel
theorem dX7_put_65 : decode cX7_put 65 = .ok (.iadd, 1) := by decide +kernel
theorem dX7_put_66 : decode cX7_put 66 = .ok (.iload_n 2, 1) := by decide +kernel
theorem dX7_put_67 : decode cX7_put 67 = .ok (.iconst 2, 1) := by decide +kernel
theorem dX7_put_68 : decode cX7_put 68 = .ok (.iadd, 1) := by decide +kernel
theorem dX7_put_69 : decode cX7_put 69 = .ok (.invokevirtual 185, 3) := by decide +kernel
theorem dX7_put_72 : decode cX7_put 72 = .ok (.aload_n 0, 1) := by decide +kernel
theorem dX7_put_73 : decode cX7_put 73 = .ok (.getfield 19, 3) := by decide +kernel
theorem dX7_put_76 : decode cX7_put 76 = .ok (.invokevirtual 76, 3) := by decide +kernel
theorem dX7_put_79 : decode cX7_put 79 = .ok (.aload_n 0, 1) := by decide +kernel
theorem dX7_put_80 : decode cX7_put 80 = .ok (.getfield 19, 3) := by decide +kernel
theorem dX7_put_83 : decode cX7_put 83 = .ok (.getfield 69, 3) := by decide +kernel
theorem dX7_put_86 : decode cX7_put 86 = .ok (.getfield 87, 3) := by decide +kernel
theorem dX7_put_89 : decode cX7_put 89 = .ok (.ireturn, 1) := by decide +kernel
theorem dX7_take_0 : decode cX7_take 0 = .ok (.aload_n 0, 1) := by decide +kernel
theorem dX7_take_1 : decode cX7_take 1 = .ok (.getfield 19, 3) := by decide +kernel
theorem dX7_take_4 : decode cX7_take 4 = .ok (.getfield 69, 3) := by decide +kernel
theorem dX7_take_7 : decode cX7_take 7 = .ok (.iload_n 1, 1) := by decide +kernel
theorem dX7_take_8 : decode cX7_take 8 = .ok (.invokevirtual 90, 3) := by decide +kernel
theorem dX7_take_11 : decode cX7_take 11 = .ok (.ifCond .ne 6, 3) := by decide +kernel
theorem dX7_take_14 : decode cX7_take 14 = .ok (.bipush (-101), 2) := by decide +kernel
theorem dX7_take_16 : decode cX7_take 16 = .ok (.ireturn, 1) := by decide +kernel
theorem dX7_take_17 : decode cX7_take 17 = .ok (.aload_n 0, 1) := by decide +kernel
theorem dX7_take_18 : decode cX7_take 18 = .ok (.getfield 19, 3) := by decide +kernel
theorem dX7_take_21 : decode cX7_take 21 = .ok (.getfield 69, 3) := by decide +kernel
theorem dX7_take_24 : decode cX7_take 24 = .ok (.getfield 87, 3) := by decide +kernel
theorem dX7_take_27 : decode cX7_take 27 = .ok (.iconst 1, 1) := by decide +kernel
theorem dX7_take_28 : decode cX7_take 28 = .ok (.if_icmp .ne 6, 3) := by decide +kernel
theorem dX7_take_31 : decode cX7_take 31 = .ok (.bipush (-103), 2) := by decide +kernel
theorem dX7_take_33 : decode cX7_take 33 = .ok (.ireturn, 1) := by decide +kernel
theorem dX7_take_34 : decode cX7_take 34 = .ok (.aload_n 0, 1) := by decide +kernel
theorem dX7_take_35 : decode cX7_take 35 = .ok (.getfield 19, 3) := by decide +kernel
theorem dX7_take_38 : decode cX7_take 38 = .ok (.getfield 69, 3) := by decide +kernel
theorem dX7_take_41 : decode cX7_take 41 = .ok (.iload_n 1, 1) := by decide +kernel
theorem dX7_take_42 : decode cX7_take 42 = .ok (.invokevirtual 188, 3) := by decide +kernel
theorem dX7_take_45 : decode cX7_take 45 = .ok (.aload_n 0, 1) := by decide +kernel
theorem dX7_take_46 : decode cX7_take 46 = .ok (.getfield 19, 3) := by decide +kernel
theorem dX7_take_49 : decode cX7_take 49 = .ok (.invokevirtual 76, 3) := by decide +kernel
theorem dX7_take_52 : decode cX7_take 52 = .ok (.aload_n 0, 1) := by decide +kernel
theorem dX7_take_53 : decode cX7_take 53 = .ok (.getfield 19, 3) := by decide +kernel
theorem dX7_take_56 : decode cX7_take 56 = .ok (.getfield 69, 3) := by decide +kernel
theorem dX7_take_59 : decode cX7_take 59 = .ok (.getfield 87, 3) := by decide +kernel
theorem dX7_take_62 : decode cX7_take 62 = .ok (.ireturn, 1) := by decide +kernel
theorem dX7_move_0 : decode cX7_move 0 = .ok (.aload_n 0, 1) := by decide +kernel
theorem dX7_move_1 : decode cX7_move 1 = .ok (.getfield 19, 3) := by decide +kernel
theorem dX7_move_4 : decode cX7_move 4 = .ok (.getfield 69, 3) := by decide +kernel
theorem dX7_move_7 : decode cX7_move 7 = .ok (.iload_n 1, 1) := by decide +kernel
theorem dX7_move_8 : decode cX7_move 8 = .ok (.invokevirtual 90, 3) := by decide +kernel
theorem dX7_move_11 : decode cX7_move 11 = .ok (.ifCond .ne 6, 3) := by decide +kernel
theorem dX7_move_14 : decode cX7_move 14 = .ok (.bipush (-101), 2) := by decide +kernel
theorem dX7_move_16 : decode cX7_move 16 = .ok (.ireturn, 1) := by decide +kernel
theorem dX7_move_17 : decode cX7_move 17 = .ok (.iload_n 2, 1) := by decide +kernel
theorem dX7_move_18 : decode cX7_move 18 = .ok (.invokestatic 191, 3) := by decide +kernel
theorem dX7_move_21 : decode cX7_move 21 = .ok (.ifCond .eq 26, 3) := by decide +kernel
theorem dX7_move_24 : decode cX7_move 24 = .ok (.iload_n 3, 1) := by decide +kernel
theorem dX7_move_25 : decode cX7_move 25 = .ok (.invokestatic 191, 3) := by decide +kernel
theorem dX7_move_28 : decode cX7_move 28 = .ok (.ifCond .eq 19, 3) := by decide +kernel
theorem dX7_move_31 : decode cX7_move 31 = .ok (.aload_n 0, 1) := by decide +kernel
theorem dX7_move_32 : decode cX7_move 32 = .ok (.getfield 19, 3) := by decide +kernel
theorem dX7_move_35 : decode cX7_move 35 = .ok (.getfield 69, 3) := by decide +kernel
theorem dX7_move_38 : decode cX7_move 38 = .ok (.iload_n 1, 1) := by decide +kernel
theorem dX7_move_39 : decode cX7_move 39 = .ok (.iload_n 2, 1) := by decide +kernel
theorem dX7_move_40 : decode cX7_move 40 = .ok (.iload_n 3, 1) := by decide +kernel
theorem dX7_move_41 : decode cX7_move 41 = .ok (.invokevirtual 194, 3) := by decide +kernel
theorem dX7_move_44 : decode cX7_move 44 = .ok (.ifCond .ne 6, 3) := by decide +kernel
theorem dX7_move_47 : decode cX7_move 47 = .ok (.bipush (-102), 2) := by decide +kernel
theorem dX7_move_49 : decode cX7_move 49 = .ok (.ireturn, 1) := by decide +kernel
theorem dX7_move_50 : decode cX7_move 50 = .ok (.aload_n 0, 1) := by decide +kernel
theorem dX7_move_51 : decode cX7_move 51 = .ok (.getfield 19, 3) := by decide +kernel
theorem dX7_move_54 : decode cX7_move 54 = .ok (.getfield 69, 3) := by decide +kernel
theorem dX7_move_57 : decode cX7_move 57 = .ok (.iload_n 1, 1) := by decide +kernel
theorem dX7_move_58 : decode cX7_move 58 = .ok (.iload_n 2, 1) := by decide +kernel
theorem dX7_move_59 : decode cX7_move 59 = .ok (.iload_n 3, 1) := by decide +kernel
theorem dX7_move_60 : decode cX7_move 60 = .ok (.invokevirtual 198, 3) := by decide +kernel
theorem dX7_move_63 : decode cX7_move 63 = .ok (.aload_n 0, 1) := by decide +kernel
theorem dX7_move_64 : decode cX7_move 64 = .ok (.getfield 19, 3) := by decide +kernel
theorem dX7_move_67 : decode cX7_move 67 = .ok (.invokevirtual 76, 3) := by decide +kernel
theorem dX7_move_70 : decode cX7_move 70 = .ok (.aload_n 0, 1) := by decide +kernel
theorem dX7_move_71 : decode cX7_move 71 = .ok (.getfield 19, 3) := by decide +kernel
theorem dX7_move_74 : decode cX7_move 74 = .ok (.getfield 139, 3) := by decide +kernel
theorem dX7_move_77 : decode cX7_move 77 = .ok (.getfield 143, 3) := by decide +kernel
theorem dX7_move_80 : decode cX7_move 80 = .ok (.ireturn, 1) := by decide +kernel
theorem dX7_change_0 : decode cX7_change 0 = .ok (.aload_n 0, 1) := by decide +kernel
theorem dX7_change_1 : decode cX7_change 1 = .ok (.getfield 19, 3) := by decide +kernel
theorem dX7_change_4 : decode cX7_change 4 = .ok (.getfield 69, 3) := by decide +kernel
theorem dX7_change_7 : decode cX7_change 7 = .ok (.iload_n 1, 1) := by decide +kernel
theorem dX7_change_8 : decode cX7_change 8 = .ok (.invokevirtual 90, 3) := by decide +kernel
theorem dX7_change_11 : decode cX7_change 11 = .ok (.ifCond .ne 6, 3) := by decide +kernel
theorem dX7_change_14 : decode cX7_change 14 = .ok (.bipush (-101), 2) := by decide +kernel
theorem dX7_change_16 : decode cX7_change 16 = .ok (.ireturn, 1) := by decide +kernel
theorem dX7_change_17 : decode cX7_change 17 = .ok (.iload_n 2, 1) := by decide +kernel
theorem dX7_change_18 : decode cX7_change 18 = .ok (.invokestatic 126, 3) := by decide +kernel
theorem dX7_change_21 : decode cX7_change 21 = .ok (.ifCond .ne 6, 3) := by decide +kernel
theorem dX7_change_24 : decode cX7_change 24 = .ok (.bipush (-102), 2) := by decide +kernel
theorem dX7_change_26 : decode cX7_change 26 = .ok (.ireturn, 1) := by decide +kernel
theorem dX7_change_27 : decode cX7_change 27 = .ok (.aload_n 0, 1) := by decide +kernel
theorem dX7_change_28 : decode cX7_change 28 = .ok (.getfield 19, 3) := by decide +kernel
theorem dX7_change_31 : decode cX7_change 31 = .ok (.getfield 69, 3) := by decide +kernel
theorem dX7_change_34 : decode cX7_change 34 = .ok (.getfield 94, 3) := by decide +kernel
theorem dX7_change_37 : decode cX7_change 37 = .ok (.iload_n 1, 1) := by decide +kernel
theorem dX7_change_38 : decode cX7_change 38 = .ok (.iaload, 1) := by decide +kernel
theorem dX7_change_39 : decode cX7_change 39 = .ok (.istore_n 3, 1) := by decide +kernel
theorem dX7_change_40 : decode cX7_change 40 = .ok (.aload_n 0, 1) := by decide +kernel
theorem dX7_change_41 : decode cX7_change 41 = .ok (.getfield 19, 3) := by decide +kernel
theorem dX7_change_44 : decode cX7_change 44 = .ok (.getfield 69, 3) := by decide +kernel
theorem dX7_change_47 : decode cX7_change 47 = .ok (.getfield 94, 3) := by decide +kernel
theorem dX7_change_50 : decode cX7_change 50 = .ok (.iload_n 1, 1) := by decide +kernel
theorem dX7_change_51 : decode cX7_change 51 = .ok (.iload_n 2, 1) := by decide +kernel
theorem dX7_change_52 : decode cX7_change 52 = .ok (.iastore, 1) := by decide +kernel
theorem dX7_change_53 : decode cX7_change 53 = .ok (.aload_n 0, 1) := by decide +kernel
theorem dX7_change_54 : decode cX7_change 54 = .ok (.getfield 19, 3) := by decide +kernel
theorem dX7_change_57 : decode cX7_change 57 = .ok (.invokevirtual 76, 3) := by decide +kernel
theorem dX7_change_60 : decode cX7_change 60 = .ok (.iload_n 3, 1) := by decide +kernel
theorem dX7_change_61 : decode cX7_change 61 = .ok (.ireturn, 1) := by decide +kernel
theorem dX7_rules_0 : decode cX7_rules 0 = .ok (.iload_n 1, 1) := by decide +kernel
theorem dX7_rules_1 : decode cX7_rules 1 = .ok (.invokestatic 202, 3) := by decide +kernel
theorem dX7_rules_4 : decode cX7_rules 4 = .ok (.ifCond .ne 6, 3) := by decide +kernel
theorem dX7_rules_7 : decode cX7_rules 7 = .ok (.bipush (-102), 2) := by decide +kernel
theorem dX7_rules_9 : decode cX7_rules 9 = .ok (.ireturn, 1) := by decide +kernel
theorem dX7_rules_10 : decode cX7_rules 10 = .ok (.aload_n 0, 1) := by decide +kernel
theorem dX7_rules_11 : decode cX7_rules 11 = .ok (.invokevirtual 182, 3) := by decide +kernel
theorem dX7_rules_14 : decode cX7_rules 14 = .ok (.ifCond .eq 6, 3) := by decide +kernel
theorem dX7_rules_17 : decode cX7_rules 17 = .ok (.bipush (-103), 2) := by decide +kernel
theorem dX7_rules_19 : decode cX7_rules 19 = .ok (.ireturn, 1) := by decide +kernel
theorem dX7_rules_20 : decode cX7_rules 20 = .ok (.aload_n 0, 1) := by decide +kernel
theorem dX7_rules_21 : decode cX7_rules 21 = .ok (.getfield 19, 3) := by decide +kernel
theorem dX7_rules_24 : decode cX7_rules 24 = .ok (.getfield 69, 3) := by decide +kernel
theorem dX7_rules_27 : decode cX7_rules 27 = .ok (.iload_n 1, 1) := by decide +kernel
theorem dX7_rules_28 : decode cX7_rules 28 = .ok (.invokevirtual 205, 3) := by decide +kernel
theorem dX7_rules_31 : decode cX7_rules 31 = .ok (.aload_n 0, 1) := by decide +kernel
theorem dX7_rules_32 : decode cX7_rules 32 = .ok (.getfield 19, 3) := by decide +kernel
theorem dX7_rules_35 : decode cX7_rules 35 = .ok (.invokevirtual 76, 3) := by decide +kernel
theorem dX7_rules_38 : decode cX7_rules 38 = .ok (.aload_n 0, 1) := by decide +kernel
theorem dX7_rules_39 : decode cX7_rules 39 = .ok (.getfield 19, 3) := by decide +kernel
theorem dX7_rules_42 : decode cX7_rules 42 = .ok (.getfield 69, 3) := by decide +kernel
theorem dX7_rules_45 : decode cX7_rules 45 = .ok (.getfield 208, 3) := by decide +kernel
theorem dX7_rules_48 : decode cX7_rules 48 = .ok (.ireturn, 1) := by decide +kernel
theorem dX7_scale_0 : decode cX7_scale 0 = .ok (.iload_n 1, 1) := by decide +kernel
theorem dX7_scale_1 : decode cX7_scale 1 = .ok (.iconst 1, 1) := by decide +kernel
theorem dX7_scale_2 : decode cX7_scale 2 = .ok (.if_icmp .lt 26, 3) := by decide +kernel
theorem dX7_scale_5 : decode cX7_scale 5 = .ok (.iload_n 1, 1) := by decide +kernel
theorem dX7_scale_6 : decode cX7_scale 6 = .ok (.iconst 5, 1) := by decide +kernel
theorem dX7_scale_7 : decode cX7_scale 7 = .ok (.if_icmp .gt 21, 3) := by decide +kernel
theorem dX7_scale_10 : decode cX7_scale 10 = .ok (.iload_n 1, 1) := by decide +kernel
theorem dX7_scale_11 : decode cX7_scale 11 = .ok (.aload_n 0, 1) := by decide +kernel
theorem dX7_scale_12 : decode cX7_scale 12 = .ok (.getfield 19, 3) := by decide +kernel
theorem dX7_scale_15 : decode cX7_scale 15 = .ok (.getfield 69, 3) := by decide +kernel
theorem dX7_scale_18 : decode cX7_scale 18 = .ok (.invokevirtual 211, 3) := by decide +kernel
theorem dX7_scale_21 : decode cX7_scale 21 = .ok (.imul, 1) := by decide +kernel
theorem dX7_scale_22 : decode cX7_scale 22 = .ok (.sipush 999, 3) := by decide +kernel
theorem dX7_scale_25 : decode cX7_scale 25 = .ok (.if_icmp .le 6, 3) := by decide +kernel
theorem dX7_scale_28 : decode cX7_scale 28 = .ok (.bipush (-102), 2) := by decide +kernel
theorem dX7_scale_30 : decode cX7_scale 30 = .ok (.ireturn, 1) := by decide +kernel
theorem dX7_scale_31 : decode cX7_scale 31 = .ok (.aload_n 0, 1) := by decide +kernel
theorem dX7_scale_32 : decode cX7_scale 32 = .ok (.invokevirtual 182, 3) := by decide +kernel
theorem dX7_scale_35 : decode cX7_scale 35 = .ok (.ifCond .eq 6, 3) := by decide +kernel
theorem dX7_scale_38 : decode cX7_scale 38 = .ok (.bipush (-103), 2) := by decide +kernel
theorem dX7_scale_40 : decode cX7_scale 40 = .ok (.ireturn, 1) := by decide +kernel
theorem dX7_scale_41 : decode cX7_scale 41 = .ok (.aload_n 0, 1) := by decide +kernel
theorem dX7_scale_42 : decode cX7_scale 42 = .ok (.getfield 19, 3) := by decide +kernel
theorem dX7_scale_45 : decode cX7_scale 45 = .ok (.getfield 69, 3) := by decide +kernel
theorem dX7_scale_48 : decode cX7_scale 48 = .ok (.iload_n 1, 1) := by decide +kernel
theorem dX7_scale_49 : decode cX7_scale 49 = .ok (.invokevirtual 214, 3) := by decide +kernel
theorem dX7_scale_52 : decode cX7_scale 52 = .ok (.aload_n 0, 1) := by decide +kernel
theorem dX7_scale_53 : decode cX7_scale 53 = .ok (.getfield 19, 3) := by decide +kernel
theorem dX7_scale_56 : decode cX7_scale 56 = .ok (.invokevirtual 76, 3) := by decide +kernel
theorem dX7_scale_59 : decode cX7_scale 59 = .ok (.aload_n 0, 1) := by decide +kernel
theorem dX7_scale_60 : decode cX7_scale 60 = .ok (.getfield 19, 3) := by decide +kernel
theorem dX7_scale_63 : decode cX7_scale 63 = .ok (.getfield 69, 3) := by decide +kernel
theorem dX7_scale_66 : decode cX7_scale 66 = .ok (.invokevirtual 211, 3) := by decide +kernel
theorem dX7_scale_69 : decode cX7_scale 69 = .ok (.ireturn, 1) := by decide +kernel
theorem dX7_without_0 : decode cX7_without 0 = .ok (.aload_n 0, 1) := by decide +kernel
theorem dX7_without_1 : decode cX7_without 1 = .ok (.getfield 19, 3) := by decide +kernel
theorem dX7_without_4 : decode cX7_without 4 = .ok (.getfield 69, 3) := by decide +kernel
theorem dX7_without_7 : decode cX7_without 7 = .ok (.iload_n 1, 1) := by decide +kernel
theorem dX7_without_8 : decode cX7_without 8 = .ok (.invokevirtual 90, 3) := by decide +kernel
theorem dX7_without_11 : decode cX7_without 11 = .ok (.ifCond .ne 6, 3) := by decide +kernel
theorem dX7_without_14 : decode cX7_without 14 = .ok (.bipush (-101), 2) := by decide +kernel
theorem dX7_without_16 : decode cX7_without 16 = .ok (.ireturn, 1) := by decide +kernel
theorem dX7_without_17 : decode cX7_without 17 = .ok (.aload_n 0, 1) := by decide +kernel
theorem dX7_without_18 : decode cX7_without 18 = .ok (.getfield 40, 3) := by decide +kernel
theorem dX7_without_21 : decode cX7_without 21 = .ok (.getfield 69, 3) := by decide +kernel
theorem dX7_without_24 : decode cX7_without 24 = .ok (.aload_n 0, 1) := by decide +kernel
theorem dX7_without_25 : decode cX7_without 25 = .ok (.getfield 19, 3) := by decide +kernel
theorem dX7_without_28 : decode cX7_without 28 = .ok (.getfield 69, 3) := by decide +kernel
theorem dX7_without_31 : decode cX7_without 31 = .ok (.iload_n 1, 1) := by decide +kernel
theorem dX7_without_32 : decode cX7_without 32 = .ok (.invokevirtual 217, 3) := by decide +kernel
theorem dX7_without_35 : decode cX7_without 35 = .ok (.aload_n 0, 1) := by decide +kernel
theorem dX7_without_36 : decode cX7_without 36 = .ok (.getfield 40, 3) := by decide +kernel
theorem dX7_without_39 : decode cX7_without 39 = .ok (.invokevirtual 76, 3) := by decide +kernel
theorem dX7_without_42 : decode cX7_without 42 = .ok (.iconst 0, 1) := by decide +kernel
theorem dX7_without_43 : decode cX7_without 43 = .ok (.istore_n 2, 1) := by decide +kernel
theorem dX7_without_44 : decode cX7_without 44 = .ok (.iconst 0, 1) := by decide +kernel
theorem dX7_without_45 : decode cX7_without 45 = .ok (.istore_n 3, 1) := by decide +kernel
theorem dX7_without_46 : decode cX7_without 46 = .ok (.iload_n 3, 1) := by decide +kernel
theorem dX7_without_47 : decode cX7_without 47 = .ok (.aload_n 0, 1) := by decide +kernel
theorem dX7_without_48 : decode cX7_without 48 = .ok (.getfield 40, 3) := by decide +kernel
theorem dX7_without_51 : decode cX7_without 51 = .ok (.getfield 133, 3) := by decide +kernel
theorem dX7_without_54 : decode cX7_without 54 = .ok (.if_icmp .ge 108, 3) := by decide +kernel
theorem dX7_without_57 : decode cX7_without 57 = .ok (.iload_n 3, 1) := by decide +kernel
theorem dX7_without_58 : decode cX7_without 58 = .ok (.iconst 1, 1) := by decide +kernel
theorem dX7_without_59 : decode cX7_without 59 = .ok (.iadd, 1) := by decide +kernel
theorem dX7_without_60 : decode cX7_without 60 = .ok (.aload_n 0, 1) := by decide +kernel
theorem dX7_without_61 : decode cX7_without 61 = .ok (.getfield 19, 3) := by decide +kernel
theorem dX7_without_64 : decode cX7_without 64 = .ok (.getfield 133, 3) := by decide +kernel
theorem dX7_without_67 : decode cX7_without 67 = .ok (.if_icmp .ge 95, 3) := by decide +kernel
theorem dX7_without_70 : decode cX7_without 70 = .ok (.aload_n 0, 1) := by decide +kernel
theorem dX7_without_71 : decode cX7_without 71 = .ok (.getfield 40, 3) := by decide +kernel
theorem dX7_without_74 : decode cX7_without 74 = .ok (.getfield 136, 3) := by decide +kernel
theorem dX7_without_77 : decode cX7_without 77 = .ok (.iload_n 3, 1) := by decide +kernel
theorem dX7_without_78 : decode cX7_without 78 = .ok (.iaload, 1) := by decide +kernel
theorem dX7_without_79 : decode cX7_without 79 = .ok (.iload_n 1, 1) := by decide +kernel
theorem dX7_without_80 : decode cX7_without 80 = .ok (.if_icmp .ge 15, 3) := by decide +kernel
theorem dX7_without_83 : decode cX7_without 83 = .ok (.aload_n 0, 1) := by decide +kernel
theorem dX7_without_84 : decode cX7_without 84 = .ok (.getfield 40, 3) := by decide +kernel
theorem dX7_without_87 : decode cX7_without 87 = .ok (.getfield 136, 3) := by decide +kernel
theorem dX7_without_90 : decode cX7_without 90 = .ok (.iload_n 3, 1) := by decide +kernel
theorem dX7_without_91 : decode cX7_without 91 = .ok (.iaload, 1) := by decide +kernel
theorem dX7_without_92 : decode cX7_without 92 = .ok (.goto 14, 3) := by decide +kernel
theorem dX7_without_95 : decode cX7_without 95 = .ok (.aload_n 0, 1) := by decide +kernel
theorem dX7_without_96 : decode cX7_without 96 = .ok (.getfield 40, 3) := by decide +kernel
theorem dX7_without_99 : decode cX7_without 99 = .ok (.getfield 136, 3) := by decide +kernel
theorem dX7_without_102 : decode cX7_without 102 = .ok (.iload_n 3, 1) := by decide +kernel
theorem dX7_without_103 : decode cX7_without 103 = .ok (.iaload, 1) := by decide +kernel
theorem dX7_without_104 : decode cX7_without 104 = .ok (.iconst 1, 1) := by decide +kernel
theorem dX7_without_105 : decode cX7_without 105 = .ok (.iadd, 1) := by decide +kernel
theorem dX7_without_106 : decode cX7_without 106 = .ok (.istore 4, 2) := by decide +kernel
theorem dX7_without_108 : decode cX7_without 108 = .ok (.iload_n 3, 1) := by decide +kernel
theorem dX7_without_109 : decode cX7_without 109 = .ok (.aload_n 0, 1) := by decide +kernel
theorem dX7_without_110 : decode cX7_without 110 = .ok (.getfield 19, 3) := by decide +kernel
theorem dX7_without_113 : decode cX7_without 113 = .ok (.getfield 110, 3) := by decide +kernel
theorem dX7_without_116 : decode cX7_without 116 = .ok (.iload_n 1, 1) := by decide +kernel
theorem dX7_without_117 : decode cX7_without 117 = .ok (.iaload, 1) := by decide +kernel
theorem dX7_without_118 : decode cX7_without 118 = .ok (.if_icmp .ge 15, 3) := by decide +kernel
theorem dX7_without_121 : decode cX7_without 121 = .ok (.aload_n 0, 1) := by decide +kernel
theorem dX7_without_122 : decode cX7_without 122 = .ok (.getfield 19, 3) := by decide +kernel
theorem dX7_without_125 : decode cX7_without 125 = .ok (.getfield 136, 3) := by decide +kernel
theorem dX7_without_128 : decode cX7_without 128 = .ok (.iload_n 3, 1) := by decide +kernel
theorem dX7_without_129 : decode cX7_without 129 = .ok (.iaload, 1) := by decide +kernel
theorem dX7_without_130 : decode cX7_without 130 = .ok (.goto 14, 3) := by decide +kernel
theorem dX7_without_133 : decode cX7_without 133 = .ok (.aload_n 0, 1) := by decide +kernel
theorem dX7_without_134 : decode cX7_without 134 = .ok (.getfield 19, 3) := by decide +kernel
theorem dX7_without_137 : decode cX7_without 137 = .ok (.getfield 136, 3) := by decide +kernel
theorem dX7_without_140 : decode cX7_without 140 = .ok (.iload_n 3, 1) := by decide +kernel
theorem dX7_without_141 : decode cX7_without 141 = .ok (.iconst 1, 1) := by decide +kernel
theorem dX7_without_142 : decode cX7_without 142 = .ok (.iadd, 1) := by decide +kernel
theorem dX7_without_143 : decode cX7_without 143 = .ok (.iaload, 1) := by decide +kernel
theorem dX7_without_144 : decode cX7_without 144 = .ok (.istore 5, 2) := by decide +kernel
theorem dX7_without_146 : decode cX7_without 146 = .ok (.iload 4, 2) := by decide +kernel
theorem dX7_without_148 : decode cX7_without 148 = .ok (.iload 5, 2) := by decide +kernel
theorem dX7_without_150 : decode cX7_without 150 = .ok (.if_icmp .eq 6, 3) := by decide +kernel
theorem dX7_without_153 : decode cX7_without 153 = .ok (.iinc 2 1, 3) := by decide +kernel
theorem dX7_without_156 : decode cX7_without 156 = .ok (.iinc 3 1, 3) := by decide +kernel
theorem dX7_without_159 : decode cX7_without 159 = .ok (.goto (-113), 3) := by decide +kernel
theorem dX7_without_162 : decode cX7_without 162 = .ok (.iload_n 2, 1) := by decide +kernel
theorem dX7_without_163 : decode cX7_without 163 = .ok (.ireturn, 1) := by decide +kernel
theorem dX7_calm_0 : decode cX7_calm 0 = .ok (.aload_n 0, 1) := by decide +kernel
theorem dX7_calm_1 : decode cX7_calm 1 = .ok (.invokevirtual 182, 3) := by decide +kernel
theorem dX7_calm_4 : decode cX7_calm 4 = .ok (.ifCond .eq 6, 3) := by decide +kernel
theorem dX7_calm_7 : decode cX7_calm 7 = .ok (.bipush (-103), 2) := by decide +kernel
theorem dX7_calm_9 : decode cX7_calm 9 = .ok (.ireturn, 1) := by decide +kernel
theorem dX7_calm_10 : decode cX7_calm 10 = .ok (.iconst 0, 1) := by decide +kernel
theorem dX7_calm_11 : decode cX7_calm 11 = .ok (.istore_n 1, 1) := by decide +kernel
theorem dX7_calm_12 : decode cX7_calm 12 = .ok (.iconst 0, 1) := by decide +kernel
theorem dX7_calm_13 : decode cX7_calm 13 = .ok (.istore_n 2, 1) := by decide +kernel
theorem dX7_calm_14 : decode cX7_calm 14 = .ok (.iload_n 2, 1) := by decide +kernel
theorem dX7_calm_15 : decode cX7_calm 15 = .ok (.aload_n 0, 1) := by decide +kernel
theorem dX7_calm_16 : decode cX7_calm 16 = .ok (.getfield 19, 3) := by decide +kernel
theorem dX7_calm_19 : decode cX7_calm 19 = .ok (.getfield 69, 3) := by decide +kernel
theorem dX7_calm_22 : decode cX7_calm 22 = .ok (.getfield 87, 3) := by decide +kernel
theorem dX7_calm_25 : decode cX7_calm 25 = .ok (.if_icmp .ge 87, 3) := by decide +kernel
theorem dX7_calm_28 : decode cX7_calm 28 = .ok (.iconst 0, 1) := by decide +kernel
theorem dX7_calm_29 : decode cX7_calm 29 = .ok (.istore_n 3, 1) := by decide +kernel
theorem dX7_calm_30 : decode cX7_calm 30 = .ok (.iload_n 3, 1) := by decide +kernel
theorem dX7_calm_31 : decode cX7_calm 31 = .ok (.getstatic 221, 3) := by decide +kernel
theorem dX7_calm_34 : decode cX7_calm 34 = .ok (.arraylength, 1) := by decide +kernel
theorem dX7_calm_35 : decode cX7_calm 35 = .ok (.if_icmp .ge 71, 3) := by decide +kernel
theorem dX7_calm_38 : decode cX7_calm 38 = .ok (.aload_n 0, 1) := by decide +kernel
theorem dX7_calm_39 : decode cX7_calm 39 = .ok (.getfield 40, 3) := by decide +kernel
theorem dX7_calm_42 : decode cX7_calm 42 = .ok (.getfield 69, 3) := by decide +kernel
theorem dX7_calm_45 : decode cX7_calm 45 = .ok (.aload_n 0, 1) := by decide +kernel
theorem dX7_calm_46 : decode cX7_calm 46 = .ok (.getfield 19, 3) := by decide +kernel
theorem dX7_calm_49 : decode cX7_calm 49 = .ok (.getfield 69, 3) := by decide +kernel
theorem dX7_calm_52 : decode cX7_calm 52 = .ok (.invokevirtual 224, 3) := by decide +kernel
theorem dX7_calm_55 : decode cX7_calm 55 = .ok (.aload_n 0, 1) := by decide +kernel
theorem dX7_calm_56 : decode cX7_calm 56 = .ok (.getfield 40, 3) := by decide +kernel
theorem dX7_calm_59 : decode cX7_calm 59 = .ok (.getfield 69, 3) := by decide +kernel
theorem dX7_calm_62 : decode cX7_calm 62 = .ok (.iload_n 2, 1) := by decide +kernel
theorem dX7_calm_63 : decode cX7_calm 63 = .ok (.getstatic 221, 3) := by decide +kernel
theorem dX7_calm_66 : decode cX7_calm 66 = .ok (.iload_n 3, 1) := by decide +kernel
theorem dX7_calm_67 : decode cX7_calm 67 = .ok (.iaload, 1) := by decide +kernel
theorem dX7_calm_68 : decode cX7_calm 68 = .ok (.getstatic 227, 3) := by decide +kernel
theorem dX7_calm_71 : decode cX7_calm 71 = .ok (.iload_n 3, 1) := by decide +kernel
theorem dX7_calm_72 : decode cX7_calm 72 = .ok (.iaload, 1) := by decide +kernel
theorem dX7_calm_73 : decode cX7_calm 73 = .ok (.invokevirtual 198, 3) := by decide +kernel
theorem dX7_calm_76 : decode cX7_calm 76 = .ok (.aload_n 0, 1) := by decide +kernel
theorem dX7_calm_77 : decode cX7_calm 77 = .ok (.getfield 40, 3) := by decide +kernel
theorem dX7_calm_80 : decode cX7_calm 80 = .ok (.invokevirtual 76, 3) := by decide +kernel
theorem dX7_calm_83 : decode cX7_calm 83 = .ok (.aload_n 0, 1) := by decide +kernel
theorem dX7_calm_84 : decode cX7_calm 84 = .ok (.getfield 40, 3) := by decide +kernel
theorem dX7_calm_87 : decode cX7_calm 87 = .ok (.aload_n 0, 1) := by decide +kernel
theorem dX7_calm_88 : decode cX7_calm 88 = .ok (.getfield 19, 3) := by decide +kernel
theorem dX7_calm_91 : decode cX7_calm 91 = .ok (.invokevirtual 230, 3) := by decide +kernel
theorem dX7_calm_94 : decode cX7_calm 94 = .ok (.ifCond .eq 6, 3) := by decide +kernel
theorem dX7_calm_97 : decode cX7_calm 97 = .ok (.iinc 1 1, 3) := by decide +kernel
theorem dX7_calm_100 : decode cX7_calm 100 = .ok (.iinc 3 1, 3) := by decide +kernel
theorem dX7_calm_103 : decode cX7_calm 103 = .ok (.goto (-73), 3) := by decide +kernel
theorem dX7_calm_106 : decode cX7_calm 106 = .ok (.iinc 2 1, 3) := by decide +kernel
theorem dX7_calm_109 : decode cX7_calm 109 = .ok (.goto (-95), 3) := by decide +kernel
theorem dX7_calm_112 : decode cX7_calm 112 = .ok (.iload_n 1, 1) := by decide +kernel
theorem dX7_calm_113 : decode cX7_calm 113 = .ok (.ireturn, 1) := by decide +kernel
theorem dX7_idle_0 : decode cX7_idle 0 = .ok (.aload_n 0, 1) := by decide +kernel
theorem dX7_idle_1 : decode cX7_idle 1 = .ok (.invokevirtual 182, 3) := by decide +kernel
theorem dX7_idle_4 : decode cX7_idle 4 = .ok (.ifCond .eq 6, 3) := by decide +kernel
theorem dX7_idle_7 : decode cX7_idle 7 = .ok (.bipush (-103), 2) := by decide +kernel
theorem dX7_idle_9 : decode cX7_idle 9 = .ok (.ireturn, 1) := by decide +kernel
theorem dX7_idle_10 : decode cX7_idle 10 = .ok (.aload_n 0, 1) := by decide +kernel
theorem dX7_idle_11 : decode cX7_idle 11 = .ok (.getfield 19, 3) := by decide +kernel
theorem dX7_idle_14 : decode cX7_idle 14 = .ok (.getfield 69, 3) := by decide +kernel
theorem dX7_idle_17 : decode cX7_idle 17 = .ok (.astore_n 1, 1) := by decide +kernel
theorem dX7_idle_18 : decode cX7_idle 18 = .ok (.aload_n 1, 1) := by decide +kernel
theorem dX7_idle_19 : decode cX7_idle 19 = .ok (.getfield 208, 3) := by decide +kernel
theorem dX7_idle_22 : decode cX7_idle 22 = .ok (.iconst 1, 1) := by decide +kernel
theorem dX7_idle_23 : decode cX7_idle 23 = .ok (.if_icmp .ne 5, 3) := by decide +kernel
theorem dX7_idle_26 : decode cX7_idle 26 = .ok (.iconst 0, 1) := by decide +kernel
theorem dX7_idle_27 : decode cX7_idle 27 = .ok (.ireturn, 1) := by decide +kernel
theorem dX7_idle_28 : decode cX7_idle 28 = .ok (.iconst 0, 1) := by decide +kernel
theorem dX7_idle_29 : decode cX7_idle 29 = .ok (.istore_n 2, 1) := by decide +kernel
theorem dX7_idle_30 : decode cX7_idle 30 = .ok (.iconst 0, 1) := by decide +kernel
theorem dX7_idle_31 : decode cX7_idle 31 = .ok (.istore_n 3, 1) := by decide +kernel
theorem dX7_idle_32 : decode cX7_idle 32 = .ok (.iload_n 3, 1) := by decide +kernel
theorem dX7_idle_33 : decode cX7_idle 33 = .ok (.aload_n 1, 1) := by decide +kernel
theorem dX7_idle_34 : decode cX7_idle 34 = .ok (.getfield 208, 3) := by decide +kernel
theorem dX7_idle_37 : decode cX7_idle 37 = .ok (.if_icmp .ge 63, 3) := by decide +kernel
theorem dX7_idle_40 : decode cX7_idle 40 = .ok (.aload_n 0, 1) := by decide +kernel
theorem dX7_idle_41 : decode cX7_idle 41 = .ok (.getfield 40, 3) := by decide +kernel
theorem dX7_idle_44 : decode cX7_idle 44 = .ok (.getfield 69, 3) := by decide +kernel
theorem dX7_idle_47 : decode cX7_idle 47 = .ok (.aload_n 1, 1) := by decide +kernel
theorem dX7_idle_48 : decode cX7_idle 48 = .ok (.invokevirtual 224, 3) := by decide +kernel
theorem dX7_idle_51 : decode cX7_idle 51 = .ok (.aload_n 0, 1) := by decide +kernel
theorem dX7_idle_52 : decode cX7_idle 52 = .ok (.getfield 40, 3) := by decide +kernel
theorem dX7_idle_55 : decode cX7_idle 55 = .ok (.getfield 69, 3) := by decide +kernel
theorem dX7_idle_58 : decode cX7_idle 58 = .ok (.iload_n 3, 1) := by decide +kernel
theorem dX7_idle_59 : decode cX7_idle 59 = .ok (.invokevirtual 234, 3) := by decide +kernel
theorem dX7_idle_62 : decode cX7_idle 62 = .ok (.aload_n 0, 1) := by decide +kernel
theorem dX7_idle_63 : decode cX7_idle 63 = .ok (.getfield 40, 3) := by decide +kernel
theorem dX7_idle_66 : decode cX7_idle 66 = .ok (.invokevirtual 76, 3) := by decide +kernel
theorem dX7_idle_69 : decode cX7_idle 69 = .ok (.aload_n 0, 1) := by decide +kernel
theorem dX7_idle_70 : decode cX7_idle 70 = .ok (.getfield 40, 3) := by decide +kernel
theorem dX7_idle_73 : decode cX7_idle 73 = .ok (.aload_n 0, 1) := by decide +kernel
theorem dX7_idle_74 : decode cX7_idle 74 = .ok (.getfield 19, 3) := by decide +kernel
theorem dX7_idle_77 : decode cX7_idle 77 = .ok (.invokevirtual 230, 3) := by decide +kernel
theorem dX7_idle_80 : decode cX7_idle 80 = .ok (.ifCond .eq 14, 3) := by decide +kernel
theorem dX7_idle_83 : decode cX7_idle 83 = .ok (.iload_n 2, 1) := by decide +kernel
theorem dX7_idle_84 : decode cX7_idle 84 = .ok (.iconst 1, 1) := by decide +kernel
theorem dX7_idle_85 : decode cX7_idle 85 = .ok (.aload_n 1, 1) := by decide +kernel
theorem dX7_idle_86 : decode cX7_idle 86 = .ok (.getfield 237, 3) := by decide +kernel
theorem dX7_idle_89 : decode cX7_idle 89 = .ok (.iload_n 3, 1) := by decide +kernel
theorem dX7_idle_90 : decode cX7_idle 90 = .ok (.iaload, 1) := by decide +kernel
theorem dX7_idle_91 : decode cX7_idle 91 = .ok (.ishl, 1) := by decide +kernel
theorem dX7_idle_92 : decode cX7_idle 92 = .ok (.ior, 1) := by decide +kernel
theorem dX7_idle_93 : decode cX7_idle 93 = .ok (.istore_n 2, 1) := by decide +kernel
theorem dX7_idle_94 : decode cX7_idle 94 = .ok (.iinc 3 1, 3) := by decide +kernel
theorem dX7_idle_97 : decode cX7_idle 97 = .ok (.goto (-65), 3) := by decide +kernel
theorem dX7_idle_100 : decode cX7_idle 100 = .ok (.iload_n 2, 1) := by decide +kernel
theorem dX7_idle_101 : decode cX7_idle 101 = .ok (.ireturn, 1) := by decide +kernel
theorem dX7_free_0 : decode cX7_free 0 = .ok (.aload_n 0, 1) := by decide +kernel
theorem dX7_free_1 : decode cX7_free 1 = .ok (.invokevirtual 182, 3) := by decide +kernel
theorem dX7_free_4 : decode cX7_free 4 = .ok (.ifCond .eq 6, 3) := by decide +kernel
theorem dX7_free_7 : decode cX7_free 7 = .ok (.bipush (-103), 2) := by decide +kernel
theorem dX7_free_9 : decode cX7_free 9 = .ok (.ireturn, 1) := by decide +kernel
theorem dX7_free_10 : decode cX7_free 10 = .ok (.aload_n 0, 1) := by decide +kernel
theorem dX7_free_11 : decode cX7_free 11 = .ok (.getfield 19, 3) := by decide +kernel
theorem dX7_free_14 : decode cX7_free 14 = .ok (.getfield 69, 3) := by decide +kernel
theorem dX7_free_17 : decode cX7_free 17 = .ok (.getfield 87, 3) := by decide +kernel
theorem dX7_free_20 : decode cX7_free 20 = .ok (.iconst 1, 1) := by decide +kernel
theorem dX7_free_21 : decode cX7_free 21 = .ok (.if_icmp .ne 5, 3) := by decide +kernel
theorem dX7_free_24 : decode cX7_free 24 = .ok (.iconst (-1), 1) := by decide +kernel
theorem dX7_free_25 : decode cX7_free 25 = .ok (.ireturn, 1) := by decide +kernel
theorem dX7_free_26 : decode cX7_free 26 = .ok (.iconst (-1), 1) := by decide +kernel
theorem dX7_free_27 : decode cX7_free 27 = .ok (.istore_n 1, 1) := by decide +kernel
theorem dX7_free_28 : decode cX7_free 28 = .ok (.iconst (-1), 1) := by decide +kernel
theorem dX7_free_29 : decode cX7_free 29 = .ok (.istore_n 2, 1) := by decide +kernel
theorem dX7_free_30 : decode cX7_free 30 = .ok (.iconst 0, 1) := by decide +kernel
theorem dX7_free_31 : decode cX7_free 31 = .ok (.istore_n 3, 1) := by decide +kernel
theorem dX7_free_32 : decode cX7_free 32 = .ok (.iload_n 3, 1) := by decide +kernel
theorem dX7_free_33 : decode cX7_free 33 = .ok (.aload_n 0, 1) := by decide +kernel
theorem dX7_free_34 : decode cX7_free 34 = .ok (.getfield 19, 3) := by decide +kernel
theorem dX7_free_37 : decode cX7_free 37 = .ok (.getfield 69, 3) := by decide +kernel
theorem dX7_free_40 : decode cX7_free 40 = .ok (.getfield 87, 3) := by decide +kernel
theorem dX7_free_43 : decode cX7_free 43 = .ok (.if_icmp .ge 61, 3) := by decide +kernel
theorem dX7_free_46 : decode cX7_free 46 = .ok (.aload_n 0, 1) := by decide +kernel
theorem dX7_free_47 : decode cX7_free 47 = .ok (.getfield 40, 3) := by decide +kernel
theorem dX7_free_50 : decode cX7_free 50 = .ok (.getfield 69, 3) := by decide +kernel
theorem dX7_free_53 : decode cX7_free 53 = .ok (.aload_n 0, 1) := by decide +kernel
theorem dX7_free_54 : decode cX7_free 54 = .ok (.getfield 19, 3) := by decide +kernel
theorem dX7_free_57 : decode cX7_free 57 = .ok (.getfield 69, 3) := by decide +kernel
theorem dX7_free_60 : decode cX7_free 60 = .ok (.iload_n 3, 1) := by decide +kernel
theorem dX7_free_61 : decode cX7_free 61 = .ok (.invokevirtual 217, 3) := by decide +kernel
theorem dX7_free_64 : decode cX7_free 64 = .ok (.aload_n 0, 1) := by decide +kernel
theorem dX7_free_65 : decode cX7_free 65 = .ok (.getfield 40, 3) := by decide +kernel
theorem dX7_free_68 : decode cX7_free 68 = .ok (.invokevirtual 76, 3) := by decide +kernel
theorem dX7_free_71 : decode cX7_free 71 = .ok (.aload_n 0, 1) := by decide +kernel
theorem dX7_free_72 : decode cX7_free 72 = .ok (.getfield 40, 3) := by decide +kernel
theorem dX7_free_75 : decode cX7_free 75 = .ok (.getfield 139, 3) := by decide +kernel
theorem dX7_free_78 : decode cX7_free 78 = .ok (.getfield 143, 3) := by decide +kernel
theorem dX7_free_81 : decode cX7_free 81 = .ok (.iload_n 2, 1) := by decide +kernel
theorem dX7_free_82 : decode cX7_free 82 = .ok (.if_icmp .le 16, 3) := by decide +kernel
theorem dX7_free_85 : decode cX7_free 85 = .ok (.aload_n 0, 1) := by decide +kernel
theorem dX7_free_86 : decode cX7_free 86 = .ok (.getfield 40, 3) := by decide +kernel
theorem dX7_free_89 : decode cX7_free 89 = .ok (.getfield 139, 3) := by decide +kernel
theorem dX7_free_92 : decode cX7_free 92 = .ok (.getfield 143, 3) := by decide +kernel
theorem dX7_free_95 : decode cX7_free 95 = .ok (.istore_n 2, 1) := by decide +kernel
theorem dX7_free_96 : decode cX7_free 96 = .ok (.iload_n 3, 1) := by decide +kernel
theorem dX7_free_97 : decode cX7_free 97 = .ok (.istore_n 1, 1) := by decide +kernel
theorem dX7_free_98 : decode cX7_free 98 = .ok (.iinc 3 1, 3) := by decide +kernel
theorem dX7_free_101 : decode cX7_free 101 = .ok (.goto (-69), 3) := by decide +kernel
theorem dX7_free_104 : decode cX7_free 104 = .ok (.iload_n 1, 1) := by decide +kernel
theorem dX7_free_105 : decode cX7_free 105 = .ok (.ireturn, 1) := by decide +kernel
theorem dX7_see_0 : decode cX7_see 0 = .ok (.aload_n 0, 1) := by decide +kernel
theorem dX7_see_1 : decode cX7_see 1 = .ok (.getfield 19, 3) := by decide +kernel
theorem dX7_see_4 : decode cX7_see 4 = .ok (.getfield 69, 3) := by decide +kernel
theorem dX7_see_7 : decode cX7_see 7 = .ok (.iload_n 1, 1) := by decide +kernel
theorem dX7_see_8 : decode cX7_see 8 = .ok (.invokevirtual 90, 3) := by decide +kernel
theorem dX7_see_11 : decode cX7_see 11 = .ok (.ifCond .ne 6, 3) := by decide +kernel
theorem dX7_see_14 : decode cX7_see 14 = .ok (.bipush (-101), 2) := by decide +kernel
theorem dX7_see_16 : decode cX7_see 16 = .ok (.ireturn, 1) := by decide +kernel
theorem dX7_see_17 : decode cX7_see 17 = .ok (.iload_n 2, 1) := by decide +kernel
theorem dX7_see_18 : decode cX7_see 18 = .ok (.ifCond .lt 8, 3) := by decide +kernel
theorem dX7_see_21 : decode cX7_see 21 = .ok (.iload_n 2, 1) := by decide +kernel
theorem dX7_see_22 : decode cX7_see 22 = .ok (.iconst 4, 1) := by decide +kernel
theorem dX7_see_23 : decode cX7_see 23 = .ok (.if_icmp .lt 6, 3) := by decide +kernel
theorem dX7_see_26 : decode cX7_see 26 = .ok (.bipush (-102), 2) := by decide +kernel
theorem dX7_see_28 : decode cX7_see 28 = .ok (.ireturn, 1) := by decide +kernel
theorem dX7_see_29 : decode cX7_see 29 = .ok (.aload_n 0, 1) := by decide +kernel
theorem dX7_see_30 : decode cX7_see 30 = .ok (.getfield 26, 3) := by decide +kernel
theorem dX7_see_33 : decode cX7_see 33 = .ok (.getfield 240, 3) := by decide +kernel
theorem dX7_see_36 : decode cX7_see 36 = .ok (.bipush 6, 2) := by decide +kernel
theorem dX7_see_38 : decode cX7_see 38 = .ok (.if_icmp .lt 6, 3) := by decide +kernel
theorem dX7_see_41 : decode cX7_see 41 = .ok (.bipush (-104), 2) := by decide +kernel
theorem dX7_see_43 : decode cX7_see 43 = .ok (.ireturn, 1) := by decide +kernel
theorem dX7_see_44 : decode cX7_see 44 = .ok (.aload_n 0, 1) := by decide +kernel
theorem dX7_see_45 : decode cX7_see 45 = .ok (.getfield 26, 3) := by decide +kernel
theorem dX7_see_48 : decode cX7_see 48 = .ok (.iload_n 1, 1) := by decide +kernel
theorem dX7_see_49 : decode cX7_see 49 = .ok (.iload_n 2, 1) := by decide +kernel
theorem dX7_see_50 : decode cX7_see 50 = .ok (.iload_n 3, 1) := by decide +kernel
theorem dX7_see_51 : decode cX7_see 51 = .ok (.invokevirtual 241, 3) := by decide +kernel
theorem dX7_see_54 : decode cX7_see 54 = .ok (.aload_n 0, 1) := by decide +kernel
theorem dX7_see_55 : decode cX7_see 55 = .ok (.getfield 26, 3) := by decide +kernel
theorem dX7_see_58 : decode cX7_see 58 = .ok (.getfield 240, 3) := by decide +kernel
theorem dX7_see_61 : decode cX7_see 61 = .ok (.ireturn, 1) := by decide +kernel
theorem dX7_forget_0 : decode cX7_forget 0 = .ok (.aload_n 0, 1) := by decide +kernel
theorem dX7_forget_1 : decode cX7_forget 1 = .ok (.getfield 26, 3) := by decide +kernel
theorem dX7_forget_4 : decode cX7_forget 4 = .ok (.getfield 240, 3) := by decide +kernel
theorem dX7_forget_7 : decode cX7_forget 7 = .ok (.istore_n 1, 1) := by decide +kernel
theorem dX7_forget_8 : decode cX7_forget 8 = .ok (.aload_n 0, 1) := by decide +kernel
theorem dX7_forget_9 : decode cX7_forget 9 = .ok (.getfield 26, 3) := by decide +kernel
theorem dX7_forget_12 : decode cX7_forget 12 = .ok (.invokevirtual 79, 3) := by decide +kernel
theorem dX7_forget_15 : decode cX7_forget 15 = .ok (.iload_n 1, 1) := by decide +kernel
theorem dX7_forget_16 : decode cX7_forget 16 = .ok (.ireturn, 1) := by decide +kernel
theorem dX7_drawn_0 : decode cX7_drawn 0 = .ok (.iload_n 1, 1) := by decide +kernel
theorem dX7_drawn_1 : decode cX7_drawn 1 = .ok (.iconst 1, 1) := by decide +kernel
theorem dX7_drawn_2 : decode cX7_drawn 2 = .ok (.if_icmp .lt 22, 3) := by decide +kernel
theorem dX7_drawn_5 : decode cX7_drawn 5 = .ok (.iload_n 1, 1) := by decide +kernel
theorem dX7_drawn_6 : decode cX7_drawn 6 = .ok (.bipush 20, 2) := by decide +kernel
theorem dX7_drawn_8 : decode cX7_drawn 8 = .ok (.if_icmp .gt 16, 3) := by decide +kernel
theorem dX7_drawn_11 : decode cX7_drawn 11 = .ok (.iload_n 2, 1) := by decide +kernel
theorem dX7_drawn_12 : decode cX7_drawn 12 = .ok (.ifCond .lt 12, 3) := by decide +kernel
theorem dX7_drawn_15 : decode cX7_drawn 15 = .ok (.iload_n 3, 1) := by decide +kernel
theorem dX7_drawn_16 : decode cX7_drawn 16 = .ok (.ifCond .lt 8, 3) := by decide +kernel
theorem dX7_drawn_19 : decode cX7_drawn 19 = .ok (.iload_n 3, 1) := by decide +kernel
theorem dX7_drawn_20 : decode cX7_drawn 20 = .ok (.iconst 2, 1) := by decide +kernel
theorem dX7_drawn_21 : decode cX7_drawn 21 = .ok (.if_icmp .le 6, 3) := by decide +kernel
theorem dX7_drawn_24 : decode cX7_drawn 24 = .ok (.bipush (-102), 2) := by decide +kernel
theorem dX7_drawn_26 : decode cX7_drawn 26 = .ok (.ireturn, 1) := by decide +kernel
theorem dX7_drawn_27 : decode cX7_drawn 27 = .ok (.aload_n 0, 1) := by decide +kernel
theorem dX7_drawn_28 : decode cX7_drawn 28 = .ok (.getfield 46, 3) := by decide +kernel
theorem dX7_drawn_31 : decode cX7_drawn 31 = .ok (.iload_n 2, 1) := by decide +kernel
theorem dX7_drawn_32 : decode cX7_drawn 32 = .ok (.putfield 244, 3) := by decide +kernel
theorem dX7_drawn_35 : decode cX7_drawn 35 = .ok (.iconst 0, 1) := by decide +kernel
theorem dX7_drawn_36 : decode cX7_drawn 36 = .ok (.istore 4, 2) := by decide +kernel
theorem dX7_drawn_38 : decode cX7_drawn 38 = .ok (.iconst 0, 1) := by decide +kernel
theorem dX7_drawn_39 : decode cX7_drawn 39 = .ok (.istore 5, 2) := by decide +kernel
theorem dX7_drawn_41 : decode cX7_drawn 41 = .ok (.iconst 0, 1) := by decide +kernel
theorem dX7_drawn_42 : decode cX7_drawn 42 = .ok (.istore 6, 2) := by decide +kernel
theorem dX7_drawn_44 : decode cX7_drawn 44 = .ok (.iload 6, 2) := by decide +kernel
theorem dX7_drawn_46 : decode cX7_drawn 46 = .ok (.iload_n 1, 1) := by decide +kernel
theorem dX7_drawn_47 : decode cX7_drawn 47 = .ok (.if_icmp .ge 58, 3) := by decide +kernel
theorem dX7_drawn_50 : decode cX7_drawn 50 = .ok (.aload_n 0, 1) := by decide +kernel
theorem dX7_drawn_51 : decode cX7_drawn 51 = .ok (.getfield 46, 3) := by decide +kernel
theorem dX7_drawn_54 : decode cX7_drawn 54 = .ok (.aload_n 0, 1) := by decide +kernel
theorem dX7_drawn_55 : decode cX7_drawn 55 = .ok (.getfield 40, 3) := by decide +kernel
theorem dX7_drawn_58 : decode cX7_drawn 58 = .ok (.getfield 69, 3) := by decide +kernel
theorem dX7_drawn_61 : decode cX7_drawn 61 = .ok (.invokevirtual 247, 3) := by decide +kernel
theorem dX7_drawn_64 : decode cX7_drawn 64 = .ok (.aload_n 0, 1) := by decide +kernel
theorem dX7_drawn_65 : decode cX7_drawn 65 = .ok (.getfield 40, 3) := by decide +kernel
theorem dX7_drawn_68 : decode cX7_drawn 68 = .ok (.invokevirtual 76, 3) := by decide +kernel
theorem dX7_drawn_71 : decode cX7_drawn 71 = .ok (.iload 4, 2) := by decide +kernel
theorem dX7_drawn_73 : decode cX7_drawn 73 = .ok (.aload_n 0, 1) := by decide +kernel
theorem dX7_drawn_74 : decode cX7_drawn 74 = .ok (.getfield 40, 3) := by decide +kernel
theorem dX7_drawn_77 : decode cX7_drawn 77 = .ok (.getfield 139, 3) := by decide +kernel
theorem dX7_drawn_80 : decode cX7_drawn 80 = .ok (.getfield 143, 3) := by decide +kernel
theorem dX7_drawn_83 : decode cX7_drawn 83 = .ok (.iadd, 1) := by decide +kernel
theorem dX7_drawn_84 : decode cX7_drawn 84 = .ok (.istore 4, 2) := by decide +kernel
theorem dX7_drawn_86 : decode cX7_drawn 86 = .ok (.aload_n 0, 1) := by decide +kernel
theorem dX7_drawn_87 : decode cX7_drawn 87 = .ok (.getfield 40, 3) := by decide +kernel
theorem dX7_drawn_90 : decode cX7_drawn 90 = .ok (.invokevirtual 250, 3) := by decide +kernel
theorem dX7_drawn_93 : decode cX7_drawn 93 = .ok (.ifCond .eq 6, 3) := by decide +kernel
theorem dX7_drawn_96 : decode cX7_drawn 96 = .ok (.iinc 5 1, 3) := by decide +kernel
theorem dX7_drawn_99 : decode cX7_drawn 99 = .ok (.iinc 6 1, 3) := by decide +kernel
theorem dX7_drawn_102 : decode cX7_drawn 102 = .ok (.goto (-58), 3) := by decide +kernel
theorem dX7_drawn_105 : decode cX7_drawn 105 = .ok (.iload_n 3, 1) := by decide +kernel
theorem dX7_drawn_106 : decode cX7_drawn 106 = .ok (.lookupswitch 32 #[(0, 26), (1, 29)], 26) := by decide +kernel
theorem dX7_drawn_132 : decode cX7_drawn 132 = .ok (.iload 4, 2) := by decide +kernel
theorem dX7_drawn_134 : decode cX7_drawn 134 = .ok (.ireturn, 1) := by decide +kernel
theorem dX7_drawn_135 : decode cX7_drawn 135 = .ok (.iload 5, 2) := by decide +kernel
theorem dX7_drawn_137 : decode cX7_drawn 137 = .ok (.ireturn, 1) := by decide +kernel
theorem dX7_drawn_138 : decode cX7_drawn 138 = .ok (.aload_n 0, 1) := by decide +kernel
theorem dX7_drawn_139 : decode cX7_drawn 139 = .ok (.getfield 46, 3) := by decide +kernel
theorem dX7_drawn_142 : decode cX7_drawn 142 = .ok (.getfield 244, 3) := by decide +kernel
theorem dX7_drawn_145 : decode cX7_drawn 145 = .ok (.ireturn, 1) := by decide +kernel
theorem dX7_image_0 : decode cX7_image 0 = .ok (.aload_n 0, 1) := by decide +kernel
theorem dX7_image_1 : decode cX7_image 1 = .ok (.invokevirtual 182, 3) := by decide +kernel
theorem dX7_image_4 : decode cX7_image 4 = .ok (.ifCond .eq 6, 3) := by decide +kernel
theorem dX7_image_7 : decode cX7_image 7 = .ok (.bipush (-103), 2) := by decide +kernel
theorem dX7_image_9 : decode cX7_image 9 = .ok (.ireturn, 1) := by decide +kernel
theorem dX7_image_10 : decode cX7_image 10 = .ok (.aload_n 0, 1) := by decide +kernel
theorem dX7_image_11 : decode cX7_image 11 = .ok (.getfield 33, 3) := by decide +kernel
theorem dX7_image_14 : decode cX7_image 14 = .ok (.aload_n 0, 1) := by decide +kernel
theorem dX7_image_15 : decode cX7_image 15 = .ok (.getfield 19, 3) := by decide +kernel
theorem dX7_image_18 : decode cX7_image 18 = .ok (.getfield 69, 3) := by decide +kernel
theorem dX7_image_21 : decode cX7_image 21 = .ok (.invokevirtual 224, 3) := by decide +kernel
theorem dX7_image_24 : decode cX7_image 24 = .ok (.aload_n 0, 1) := by decide +kernel
theorem dX7_image_25 : decode cX7_image 25 = .ok (.getfield 37, 3) := by decide +kernel
theorem dX7_image_28 : decode cX7_image 28 = .ok (.aload_n 0, 1) := by decide +kernel
theorem dX7_image_29 : decode cX7_image 29 = .ok (.getfield 26, 3) := by decide +kernel
theorem dX7_image_32 : decode cX7_image 32 = .ok (.invokevirtual 253, 3) := by decide +kernel
theorem dX7_image_35 : decode cX7_image 35 = .ok (.aload_n 0, 1) := by decide +kernel
theorem dX7_image_36 : decode cX7_image 36 = .ok (.iconst 1, 1) := by decide +kernel
theorem dX7_image_37 : decode cX7_image 37 = .ok (.putfield 80, 3) := by decide +kernel
theorem dX7_image_40 : decode cX7_image 40 = .ok (.aload_n 0, 1) := by decide +kernel
theorem dX7_image_41 : decode cX7_image 41 = .ok (.getfield 33, 3) := by decide +kernel
theorem dX7_image_44 : decode cX7_image 44 = .ok (.getfield 87, 3) := by decide +kernel
theorem dX7_image_47 : decode cX7_image 47 = .ok (.ireturn, 1) := by decide +kernel
theorem dX7_restore_0 : decode cX7_restore 0 = .ok (.aload_n 0, 1) := by decide +kernel
theorem dX7_restore_1 : decode cX7_restore 1 = .ok (.getfield 80, 3) := by decide +kernel
theorem dX7_restore_4 : decode cX7_restore 4 = .ok (.ifCond .ne 6, 3) := by decide +kernel
theorem dX7_restore_7 : decode cX7_restore 7 = .ok (.bipush (-103), 2) := by decide +kernel
theorem dX7_restore_9 : decode cX7_restore 9 = .ok (.ireturn, 1) := by decide +kernel
theorem dX7_restore_10 : decode cX7_restore 10 = .ok (.aload_n 0, 1) := by decide +kernel
theorem dX7_restore_11 : decode cX7_restore 11 = .ok (.getfield 19, 3) := by decide +kernel
theorem dX7_restore_14 : decode cX7_restore 14 = .ok (.getfield 69, 3) := by decide +kernel
theorem dX7_restore_17 : decode cX7_restore 17 = .ok (.aload_n 0, 1) := by decide +kernel
theorem dX7_restore_18 : decode cX7_restore 18 = .ok (.getfield 33, 3) := by decide +kernel
theorem dX7_restore_21 : decode cX7_restore 21 = .ok (.invokevirtual 224, 3) := by decide +kernel
theorem dX7_restore_24 : decode cX7_restore 24 = .ok (.aload_n 0, 1) := by decide +kernel
theorem dX7_restore_25 : decode cX7_restore 25 = .ok (.getfield 19, 3) := by decide +kernel
theorem dX7_restore_28 : decode cX7_restore 28 = .ok (.invokevirtual 76, 3) := by decide +kernel
theorem dX7_restore_31 : decode cX7_restore 31 = .ok (.aload_n 0, 1) := by decide +kernel
theorem dX7_restore_32 : decode cX7_restore 32 = .ok (.getfield 26, 3) := by decide +kernel
theorem dX7_restore_35 : decode cX7_restore 35 = .ok (.aload_n 0, 1) := by decide +kernel
theorem dX7_restore_36 : decode cX7_restore 36 = .ok (.getfield 37, 3) := by decide +kernel
theorem dX7_restore_39 : decode cX7_restore 39 = .ok (.invokevirtual 253, 3) := by decide +kernel
theorem dX7_restore_42 : decode cX7_restore 42 = .ok (.aload_n 0, 1) := by decide +kernel
theorem dX7_restore_43 : decode cX7_restore 43 = .ok (.getfield 19, 3) := by decide +kernel
theorem dX7_restore_46 : decode cX7_restore 46 = .ok (.getfield 69, 3) := by decide +kernel
theorem dX7_restore_49 : decode cX7_restore 49 = .ok (.getfield 87, 3) := by decide +kernel
theorem dX7_restore_52 : decode cX7_restore 52 = .ok (.ireturn, 1) := by decide +kernel
theorem dX7_count_0 : decode cX7_count 0 = .ok (.iload_n 1, 1) := by decide +kernel
theorem dX7_count_1 : decode cX7_count 1 = .ok (.tableswitch 128 0 7 #[47, 58, 69, 77, 88, 107, 115, 123], 47) := by decide +kernel
theorem dX7_count_48 : decode cX7_count 48 = .ok (.aload_n 0, 1) := by decide +kernel
theorem dX7_count_49 : decode cX7_count 49 = .ok (.getfield 19, 3) := by decide +kernel
theorem dX7_count_52 : decode cX7_count 52 = .ok (.getfield 69, 3) := by decide +kernel
theorem dX7_count_55 : decode cX7_count 55 = .ok (.getfield 87, 3) := by decide +kernel
theorem dX7_count_58 : decode cX7_count 58 = .ok (.ireturn, 1) := by decide +kernel
theorem dX7_count_59 : decode cX7_count 59 = .ok (.aload_n 0, 1) := by decide +kernel
theorem dX7_count_60 : decode cX7_count 60 = .ok (.getfield 19, 3) := by decide +kernel
theorem dX7_count_63 : decode cX7_count 63 = .ok (.getfield 139, 3) := by decide +kernel
theorem dX7_count_66 : decode cX7_count 66 = .ok (.getfield 143, 3) := by decide +kernel
theorem dX7_count_69 : decode cX7_count 69 = .ok (.ireturn, 1) := by decide +kernel
theorem dX7_count_70 : decode cX7_count 70 = .ok (.aload_n 0, 1) := by decide +kernel
theorem dX7_count_71 : decode cX7_count 71 = .ok (.getfield 19, 3) := by decide +kernel
theorem dX7_count_74 : decode cX7_count 74 = .ok (.getfield 256, 3) := by decide +kernel
theorem dX7_count_77 : decode cX7_count 77 = .ok (.ireturn, 1) := by decide +kernel
theorem dX7_count_78 : decode cX7_count 78 = .ok (.aload_n 0, 1) := by decide +kernel
theorem dX7_count_79 : decode cX7_count 79 = .ok (.getfield 19, 3) := by decide +kernel
theorem dX7_count_82 : decode cX7_count 82 = .ok (.getfield 69, 3) := by decide +kernel
theorem dX7_count_85 : decode cX7_count 85 = .ok (.getfield 208, 3) := by decide +kernel
theorem dX7_count_88 : decode cX7_count 88 = .ok (.ireturn, 1) := by decide +kernel
theorem dX7_count_89 : decode cX7_count 89 = .ok (.aload_n 0, 1) := by decide +kernel
theorem dX7_count_90 : decode cX7_count 90 = .ok (.getfield 19, 3) := by decide +kernel
theorem dX7_count_93 : decode cX7_count 93 = .ok (.getfield 69, 3) := by decide +kernel
theorem dX7_count_96 : decode cX7_count 96 = .ok (.getfield 87, 3) := by decide +kernel
theorem dX7_count_99 : decode cX7_count 99 = .ok (.aload_n 0, 1) := by decide +kernel
theorem dX7_count_100 : decode cX7_count 100 = .ok (.getfield 19, 3) := by decide +kernel
theorem dX7_count_103 : decode cX7_count 103 = .ok (.getfield 161, 3) := by decide +kernel
theorem dX7_count_106 : decode cX7_count 106 = .ok (.isub, 1) := by decide +kernel
theorem dX7_count_107 : decode cX7_count 107 = .ok (.ireturn, 1) := by decide +kernel
theorem dX7_count_108 : decode cX7_count 108 = .ok (.aload_n 0, 1) := by decide +kernel
theorem dX7_count_109 : decode cX7_count 109 = .ok (.getfield 26, 3) := by decide +kernel
theorem dX7_count_112 : decode cX7_count 112 = .ok (.getfield 240, 3) := by decide +kernel
theorem dX7_count_115 : decode cX7_count 115 = .ok (.ireturn, 1) := by decide +kernel
theorem dX7_count_116 : decode cX7_count 116 = .ok (.aload_n 0, 1) := by decide +kernel
theorem dX7_count_117 : decode cX7_count 117 = .ok (.getfield 12, 3) := by decide +kernel
theorem dX7_count_120 : decode cX7_count 120 = .ok (.getfield 50, 3) := by decide +kernel
theorem dX7_count_123 : decode cX7_count 123 = .ok (.ireturn, 1) := by decide +kernel
theorem dX7_count_124 : decode cX7_count 124 = .ok (.aload_n 0, 1) := by decide +kernel
theorem dX7_count_125 : decode cX7_count 125 = .ok (.getfield 84, 3) := by decide +kernel
theorem dX7_count_128 : decode cX7_count 128 = .ok (.ireturn, 1) := by decide +kernel
theorem dX7_count_129 : decode cX7_count 129 = .ok (.bipush (-102), 2) := by decide +kernel
theorem dX7_count_131 : decode cX7_count 131 = .ok (.ireturn, 1) := by decide +kernel
theorem dX7_digest_0 : decode cX7_digest 0 = .ok (.ldc2_w 259, 3) := by decide +kernel
theorem dX7_digest_3 : decode cX7_digest 3 = .ok (.lstore_n 1, 1) := by decide +kernel
theorem dX7_digest_4 : decode cX7_digest 4 = .ok (.iconst 0, 1) := by decide +kernel
theorem dX7_digest_5 : decode cX7_digest 5 = .ok (.istore_n 3, 1) := by decide +kernel
theorem dX7_digest_6 : decode cX7_digest 6 = .ok (.iload_n 3, 1) := by decide +kernel
theorem dX7_digest_7 : decode cX7_digest 7 = .ok (.aload_n 0, 1) := by decide +kernel
theorem dX7_digest_8 : decode cX7_digest 8 = .ok (.getfield 19, 3) := by decide +kernel
theorem dX7_digest_11 : decode cX7_digest 11 = .ok (.getfield 69, 3) := by decide +kernel
theorem dX7_digest_14 : decode cX7_digest 14 = .ok (.getfield 87, 3) := by decide +kernel
theorem dX7_digest_17 : decode cX7_digest 17 = .ok (.if_icmp .ge 40, 3) := by decide +kernel
theorem dX7_digest_20 : decode cX7_digest 20 = .ok (.iconst 0, 1) := by decide +kernel
theorem dX7_digest_21 : decode cX7_digest 21 = .ok (.istore 4, 2) := by decide +kernel
theorem dX7_digest_23 : decode cX7_digest 23 = .ok (.iload 4, 2) := by decide +kernel
theorem dX7_digest_25 : decode cX7_digest 25 = .ok (.bipush 9, 2) := by decide +kernel
theorem dX7_digest_27 : decode cX7_digest 27 = .ok (.if_icmp .gt 24, 3) := by decide +kernel
theorem dX7_digest_30 : decode cX7_digest 30 = .ok (.ldc2_w 261, 3) := by decide +kernel
theorem dX7_digest_33 : decode cX7_digest 33 = .ok (.lload_n 1, 1) := by decide +kernel
theorem dX7_digest_34 : decode cX7_digest 34 = .ok (.lmul, 1) := by decide +kernel
theorem dX7_digest_35 : decode cX7_digest 35 = .ok (.aload_n 0, 1) := by decide +kernel
theorem dX7_digest_36 : decode cX7_digest 36 = .ok (.iload_n 3, 1) := by decide +kernel
theorem dX7_digest_37 : decode cX7_digest 37 = .ok (.iload 4, 2) := by decide +kernel
theorem dX7_digest_39 : decode cX7_digest 39 = .ok (.invokevirtual 263, 3) := by decide +kernel
theorem dX7_digest_42 : decode cX7_digest 42 = .ok (.i2l, 1) := by decide +kernel
theorem dX7_digest_43 : decode cX7_digest 43 = .ok (.ladd, 1) := by decide +kernel
theorem dX7_digest_44 : decode cX7_digest 44 = .ok (.lstore_n 1, 1) := by decide +kernel
theorem dX7_digest_45 : decode cX7_digest 45 = .ok (.iinc 4 1, 3) := by decide +kernel
theorem dX7_digest_48 : decode cX7_digest 48 = .ok (.goto (-25), 3) := by decide +kernel
theorem dX7_digest_51 : decode cX7_digest 51 = .ok (.iinc 3 1, 3) := by decide +kernel
theorem dX7_digest_54 : decode cX7_digest 54 = .ok (.goto (-48), 3) := by decide +kernel
theorem dX7_digest_57 : decode cX7_digest 57 = .ok (.iconst 0, 1) := by decide +kernel
theorem dX7_digest_58 : decode cX7_digest 58 = .ok (.istore_n 3, 1) := by decide +kernel
theorem dX7_digest_59 : decode cX7_digest 59 = .ok (.iload_n 3, 1) := by decide +kernel
theorem dX7_digest_60 : decode cX7_digest 60 = .ok (.aload_n 0, 1) := by decide +kernel
theorem dX7_digest_61 : decode cX7_digest 61 = .ok (.getfield 19, 3) := by decide +kernel
theorem dX7_digest_64 : decode cX7_digest 64 = .ok (.getfield 133, 3) := by decide +kernel
theorem dX7_digest_67 : decode cX7_digest 67 = .ok (.if_icmp .ge 22, 3) := by decide +kernel
theorem dX7_digest_70 : decode cX7_digest 70 = .ok (.ldc2_w 261, 3) := by decide +kernel
theorem dX7_digest_73 : decode cX7_digest 73 = .ok (.lload_n 1, 1) := by decide +kernel
theorem dX7_digest_74 : decode cX7_digest 74 = .ok (.lmul, 1) := by decide +kernel
theorem dX7_digest_75 : decode cX7_digest 75 = .ok (.aload_n 0, 1) := by decide +kernel
theorem dX7_digest_76 : decode cX7_digest 76 = .ok (.iload_n 3, 1) := by decide +kernel
theorem dX7_digest_77 : decode cX7_digest 77 = .ok (.invokevirtual 266, 3) := by decide +kernel
theorem dX7_digest_80 : decode cX7_digest 80 = .ok (.i2l, 1) := by decide +kernel
theorem dX7_digest_81 : decode cX7_digest 81 = .ok (.ladd, 1) := by decide +kernel
theorem dX7_digest_82 : decode cX7_digest 82 = .ok (.lstore_n 1, 1) := by decide +kernel
theorem dX7_digest_83 : decode cX7_digest 83 = .ok (.iinc 3 1, 3) := by decide +kernel
theorem dX7_digest_86 : decode cX7_digest 86 = .ok (.goto (-27), 3) := by decide +kernel
theorem dX7_digest_89 : decode cX7_digest 89 = .ok (.iconst 0, 1) := by decide +kernel
theorem dX7_digest_90 : decode cX7_digest 90 = .ok (.istore_n 3, 1) := by decide +kernel
theorem dX7_digest_91 : decode cX7_digest 91 = .ok (.iload_n 3, 1) := by decide +kernel
theorem dX7_digest_92 : decode cX7_digest 92 = .ok (.aload_n 0, 1) := by decide +kernel
theorem dX7_digest_93 : decode cX7_digest 93 = .ok (.getfield 19, 3) := by decide +kernel
theorem dX7_digest_96 : decode cX7_digest 96 = .ok (.getfield 139, 3) := by decide +kernel
theorem dX7_digest_99 : decode cX7_digest 99 = .ok (.getfield 143, 3) := by decide +kernel
theorem dX7_digest_102 : decode cX7_digest 102 = .ok (.if_icmp .ge 39, 3) := by decide +kernel
theorem dX7_digest_105 : decode cX7_digest 105 = .ok (.iconst 0, 1) := by decide +kernel
theorem dX7_digest_106 : decode cX7_digest 106 = .ok (.istore 4, 2) := by decide +kernel
theorem dX7_digest_108 : decode cX7_digest 108 = .ok (.iload 4, 2) := by decide +kernel
theorem dX7_digest_110 : decode cX7_digest 110 = .ok (.iconst 4, 1) := by decide +kernel
theorem dX7_digest_111 : decode cX7_digest 111 = .ok (.if_icmp .gt 24, 3) := by decide +kernel
theorem dX7_digest_114 : decode cX7_digest 114 = .ok (.ldc2_w 261, 3) := by decide +kernel
theorem dX7_digest_117 : decode cX7_digest 117 = .ok (.lload_n 1, 1) := by decide +kernel
theorem dX7_digest_118 : decode cX7_digest 118 = .ok (.lmul, 1) := by decide +kernel
theorem dX7_digest_119 : decode cX7_digest 119 = .ok (.aload_n 0, 1) := by decide +kernel
theorem dX7_digest_120 : decode cX7_digest 120 = .ok (.iload_n 3, 1) := by decide +kernel
theorem dX7_digest_121 : decode cX7_digest 121 = .ok (.iload 4, 2) := by decide +kernel
theorem dX7_digest_123 : decode cX7_digest 123 = .ok (.invokevirtual 268, 3) := by decide +kernel
theorem dX7_digest_126 : decode cX7_digest 126 = .ok (.i2l, 1) := by decide +kernel
theorem dX7_digest_127 : decode cX7_digest 127 = .ok (.ladd, 1) := by decide +kernel
theorem dX7_digest_128 : decode cX7_digest 128 = .ok (.lstore_n 1, 1) := by decide +kernel
theorem dX7_digest_129 : decode cX7_digest 129 = .ok (.iinc 4 1, 3) := by decide +kernel
theorem dX7_digest_132 : decode cX7_digest 132 = .ok (.goto (-24), 3) := by decide +kernel
theorem dX7_digest_135 : decode cX7_digest 135 = .ok (.iinc 3 1, 3) := by decide +kernel
theorem dX7_digest_138 : decode cX7_digest 138 = .ok (.goto (-47), 3) := by decide +kernel
theorem dX7_digest_141 : decode cX7_digest 141 = .ok (.aload_n 0, 1) := by decide +kernel
theorem dX7_digest_142 : decode cX7_digest 142 = .ok (.invokevirtual 182, 3) := by decide +kernel
theorem dX7_digest_145 : decode cX7_digest 145 = .ok (.ifCond .ne 27, 3) := by decide +kernel
theorem dX7_digest_148 : decode cX7_digest 148 = .ok (.ldc2_w 261, 3) := by decide +kernel
theorem dX7_digest_151 : decode cX7_digest 151 = .ok (.lload_n 1, 1) := by decide +kernel
theorem dX7_digest_152 : decode cX7_digest 152 = .ok (.lmul, 1) := by decide +kernel
theorem dX7_digest_153 : decode cX7_digest 153 = .ok (.aload_n 0, 1) := by decide +kernel
theorem dX7_digest_154 : decode cX7_digest 154 = .ok (.invokevirtual 271, 3) := by decide +kernel
theorem dX7_digest_157 : decode cX7_digest 157 = .ok (.i2l, 1) := by decide +kernel
theorem dX7_digest_158 : decode cX7_digest 158 = .ok (.ladd, 1) := by decide +kernel
theorem dX7_digest_159 : decode cX7_digest 159 = .ok (.lstore_n 1, 1) := by decide +kernel
theorem dX7_digest_160 : decode cX7_digest 160 = .ok (.ldc2_w 261, 3) := by decide +kernel
theorem dX7_digest_163 : decode cX7_digest 163 = .ok (.lload_n 1, 1) := by decide +kernel
theorem dX7_digest_164 : decode cX7_digest 164 = .ok (.lmul, 1) := by decide +kernel
theorem dX7_digest_165 : decode cX7_digest 165 = .ok (.aload_n 0, 1) := by decide +kernel
theorem dX7_digest_166 : decode cX7_digest 166 = .ok (.invokevirtual 274, 3) := by decide +kernel
theorem dX7_digest_169 : decode cX7_digest 169 = .ok (.i2l, 1) := by decide +kernel
theorem dX7_digest_170 : decode cX7_digest 170 = .ok (.ladd, 1) := by decide +kernel
theorem dX7_digest_171 : decode cX7_digest 171 = .ok (.lstore_n 1, 1) := by decide +kernel
theorem dX7_digest_172 : decode cX7_digest 172 = .ok (.iconst 0, 1) := by decide +kernel
theorem dX7_digest_173 : decode cX7_digest 173 = .ok (.istore_n 3, 1) := by decide +kernel
theorem dX7_digest_174 : decode cX7_digest 174 = .ok (.iload_n 3, 1) := by decide +kernel
theorem dX7_digest_175 : decode cX7_digest 175 = .ok (.aload_n 0, 1) := by decide +kernel
theorem dX7_digest_176 : decode cX7_digest 176 = .ok (.getfield 12, 3) := by decide +kernel
theorem dX7_digest_179 : decode cX7_digest 179 = .ok (.getfield 50, 3) := by decide +kernel
theorem dX7_digest_182 : decode cX7_digest 182 = .ok (.if_icmp .ge 26, 3) := by decide +kernel
theorem dX7_digest_185 : decode cX7_digest 185 = .ok (.ldc2_w 261, 3) := by decide +kernel
theorem dX7_digest_188 : decode cX7_digest 188 = .ok (.lload_n 1, 1) := by decide +kernel
theorem dX7_digest_189 : decode cX7_digest 189 = .ok (.lmul, 1) := by decide +kernel
theorem dX7_digest_190 : decode cX7_digest 190 = .ok (.aload_n 0, 1) := by decide +kernel
theorem dX7_digest_191 : decode cX7_digest 191 = .ok (.getfield 12, 3) := by decide +kernel
theorem dX7_digest_194 : decode cX7_digest 194 = .ok (.getfield 277, 3) := by decide +kernel
theorem dX7_digest_197 : decode cX7_digest 197 = .ok (.iload_n 3, 1) := by decide +kernel
theorem dX7_digest_198 : decode cX7_digest 198 = .ok (.iaload, 1) := by decide +kernel
theorem dX7_digest_199 : decode cX7_digest 199 = .ok (.i2l, 1) := by decide +kernel
theorem dX7_digest_200 : decode cX7_digest 200 = .ok (.ladd, 1) := by decide +kernel
theorem dX7_digest_201 : decode cX7_digest 201 = .ok (.lstore_n 1, 1) := by decide +kernel
theorem dX7_digest_202 : decode cX7_digest 202 = .ok (.iinc 3 1, 3) := by decide +kernel
theorem dX7_digest_205 : decode cX7_digest 205 = .ok (.goto (-31), 3) := by decide +kernel
theorem dX7_digest_208 : decode cX7_digest 208 = .ok (.iconst 0, 1) := by decide +kernel
theorem dX7_digest_209 : decode cX7_digest 209 = .ok (.istore_n 3, 1) := by decide +kernel
theorem dX7_digest_210 : decode cX7_digest 210 = .ok (.iload_n 3, 1) := by decide +kernel
theorem dX7_digest_211 : decode cX7_digest 211 = .ok (.bipush 7, 2) := by decide +kernel
theorem dX7_digest_213 : decode cX7_digest 213 = .ok (.if_icmp .gt 22, 3) := by decide +kernel
theorem dX7_digest_216 : decode cX7_digest 216 = .ok (.ldc2_w 261, 3) := by decide +kernel
theorem dX7_digest_219 : decode cX7_digest 219 = .ok (.lload_n 1, 1) := by decide +kernel
theorem dX7_digest_220 : decode cX7_digest 220 = .ok (.lmul, 1) := by decide +kernel
theorem dX7_digest_221 : decode cX7_digest 221 = .ok (.aload_n 0, 1) := by decide +kernel
theorem dX7_digest_222 : decode cX7_digest 222 = .ok (.iload_n 3, 1) := by decide +kernel
theorem dX7_digest_223 : decode cX7_digest 223 = .ok (.invokevirtual 280, 3) := by decide +kernel
theorem dX7_digest_226 : decode cX7_digest 226 = .ok (.i2l, 1) := by decide +kernel
theorem dX7_digest_227 : decode cX7_digest 227 = .ok (.ladd, 1) := by decide +kernel
theorem dX7_digest_228 : decode cX7_digest 228 = .ok (.lstore_n 1, 1) := by decide +kernel
theorem dX7_digest_229 : decode cX7_digest 229 = .ok (.iinc 3 1, 3) := by decide +kernel
theorem dX7_digest_232 : decode cX7_digest 232 = .ok (.goto (-22), 3) := by decide +kernel
theorem dX7_digest_235 : decode cX7_digest 235 = .ok (.lload_n 1, 1) := by decide +kernel
theorem dX7_digest_236 : decode cX7_digest 236 = .ok (.lreturn, 1) := by decide +kernel
theorem dX7_hasNoPage_0 : decode cX7_hasNoPage 0 = .ok (.aload_n 0, 1) := by decide +kernel
theorem dX7_hasNoPage_1 : decode cX7_hasNoPage 1 = .ok (.getfield 19, 3) := by decide +kernel
theorem dX7_hasNoPage_4 : decode cX7_hasNoPage 4 = .ok (.getfield 69, 3) := by decide +kernel
theorem dX7_hasNoPage_7 : decode cX7_hasNoPage 7 = .ok (.getfield 87, 3) := by decide +kernel
theorem dX7_hasNoPage_10 : decode cX7_hasNoPage 10 = .ok (.ifCond .ne 7, 3) := by decide +kernel
theorem dX7_hasNoPage_13 : decode cX7_hasNoPage 13 = .ok (.iconst 1, 1) := by decide +kernel
theorem dX7_hasNoPage_14 : decode cX7_hasNoPage 14 = .ok (.goto 4, 3) := by decide +kernel
theorem dX7_hasNoPage_17 : decode cX7_hasNoPage 17 = .ok (.iconst 0, 1) := by decide +kernel
theorem dX7_hasNoPage_18 : decode cX7_hasNoPage 18 = .ok (.ireturn, 1) := by decide +kernel
theorem dX7_isKind_0 : decode cX7_isKind 0 = .ok (.iload_n 0, 1) := by decide +kernel
theorem dX7_isKind_1 : decode cX7_isKind 1 = .ok (.ifCond .lt 12, 3) := by decide +kernel
theorem dX7_isKind_4 : decode cX7_isKind 4 = .ok (.iload_n 0, 1) := by decide +kernel
theorem dX7_isKind_5 : decode cX7_isKind 5 = .ok (.iconst 5, 1) := by decide +kernel
theorem dX7_isKind_6 : decode cX7_isKind 6 = .ok (.if_icmp .ge 7, 3) := by decide +kernel
theorem dX7_isKind_9 : decode cX7_isKind 9 = .ok (.iconst 1, 1) := by decide +kernel
theorem dX7_isKind_10 : decode cX7_isKind 10 = .ok (.goto 4, 3) := by decide +kernel
theorem dX7_isKind_13 : decode cX7_isKind 13 = .ok (.iconst 0, 1) := by decide +kernel
theorem dX7_isKind_14 : decode cX7_isKind 14 = .ok (.ireturn, 1) := by decide +kernel
theorem dX7_isStep_0 : decode cX7_isStep 0 = .ok (.iload_n 0, 1) := by decide +kernel
theorem dX7_isStep_1 : decode cX7_isStep 1 = .ok (.bipush (-9), 2) := by decide +kernel
theorem dX7_isStep_3 : decode cX7_isStep 3 = .ok (.if_icmp .lt 13, 3) := by decide +kernel
theorem dX7_isStep_6 : decode cX7_isStep 6 = .ok (.iload_n 0, 1) := by decide +kernel
theorem dX7_isStep_7 : decode cX7_isStep 7 = .ok (.bipush 9, 2) := by decide +kernel
theorem dX7_isStep_9 : decode cX7_isStep 9 = .ok (.if_icmp .gt 7, 3) := by decide +kernel
theorem dX7_isStep_12 : decode cX7_isStep 12 = .ok (.iconst 1, 1) := by decide +kernel
theorem dX7_isStep_13 : decode cX7_isStep 13 = .ok (.goto 4, 3) := by decide +kernel
theorem dX7_isStep_16 : decode cX7_isStep 16 = .ok (.iconst 0, 1) := by decide +kernel
theorem dX7_isStep_17 : decode cX7_isStep 17 = .ok (.ireturn, 1) := by decide +kernel
theorem dX7_areRules_0 : decode cX7_areRules 0 = .ok (.iload_n 0, 1) := by decide +kernel
theorem dX7_areRules_1 : decode cX7_areRules 1 = .ok (.iconst 1, 1) := by decide +kernel
theorem dX7_areRules_2 : decode cX7_areRules 2 = .ok (.if_icmp .lt 10, 3) := by decide +kernel
theorem dX7_areRules_5 : decode cX7_areRules 5 = .ok (.iload_n 0, 1) := by decide +kernel
theorem dX7_areRules_6 : decode cX7_areRules 6 = .ok (.sipush 9999, 3) := by decide +kernel
theorem dX7_areRules_9 : decode cX7_areRules 9 = .ok (.if_icmp .le 5, 3) := by decide +kernel
theorem dX7_areRules_12 : decode cX7_areRules 12 = .ok (.iconst 0, 1) := by decide +kernel
theorem dX7_areRules_13 : decode cX7_areRules 13 = .ok (.ireturn, 1) := by decide +kernel
theorem dX7_areRules_14 : decode cX7_areRules 14 = .ok (.iconst 0, 1) := by decide +kernel
theorem dX7_areRules_15 : decode cX7_areRules 15 = .ok (.istore_n 1, 1) := by decide +kernel
theorem dX7_areRules_16 : decode cX7_areRules 16 = .ok (.iload_n 0, 1) := by decide +kernel
theorem dX7_areRules_17 : decode cX7_areRules 17 = .ok (.istore_n 2, 1) := by decide +kernel
theorem dX7_areRules_18 : decode cX7_areRules 18 = .ok (.iload_n 2, 1) := by decide +kernel
theorem dX7_areRules_19 : decode cX7_areRules 19 = .ok (.ifCond .le 45, 3) := by decide +kernel
theorem dX7_areRules_22 : decode cX7_areRules 22 = .ok (.iload_n 2, 1) := by decide +kernel
theorem dX7_areRules_23 : decode cX7_areRules 23 = .ok (.bipush 10, 2) := by decide +kernel
theorem dX7_areRules_25 : decode cX7_areRules 25 = .ok (.irem, 1) := by decide +kernel
theorem dX7_areRules_26 : decode cX7_areRules 26 = .ok (.istore_n 3, 1) := by decide +kernel
theorem dX7_areRules_27 : decode cX7_areRules 27 = .ok (.iconst 1, 1) := by decide +kernel
theorem dX7_areRules_28 : decode cX7_areRules 28 = .ok (.iload_n 3, 1) := by decide +kernel
theorem dX7_areRules_29 : decode cX7_areRules 29 = .ok (.ishl, 1) := by decide +kernel
theorem dX7_areRules_30 : decode cX7_areRules 30 = .ok (.istore 4, 2) := by decide +kernel
theorem dX7_areRules_32 : decode cX7_areRules 32 = .ok (.iload_n 3, 1) := by decide +kernel
theorem dX7_areRules_33 : decode cX7_areRules 33 = .ok (.iconst 1, 1) := by decide +kernel
theorem dX7_areRules_34 : decode cX7_areRules 34 = .ok (.if_icmp .lt 15, 3) := by decide +kernel
theorem dX7_areRules_37 : decode cX7_areRules 37 = .ok (.iload_n 3, 1) := by decide +kernel
theorem dX7_areRules_38 : decode cX7_areRules 38 = .ok (.iconst 4, 1) := by decide +kernel
theorem dX7_areRules_39 : decode cX7_areRules 39 = .ok (.if_icmp .gt 10, 3) := by decide +kernel
theorem dX7_areRules_42 : decode cX7_areRules 42 = .ok (.iload_n 1, 1) := by decide +kernel
theorem dX7_areRules_43 : decode cX7_areRules 43 = .ok (.iload 4, 2) := by decide +kernel
theorem dX7_areRules_45 : decode cX7_areRules 45 = .ok (.iand, 1) := by decide +kernel
theorem dX7_areRules_46 : decode cX7_areRules 46 = .ok (.ifCond .eq 5, 3) := by decide +kernel
theorem dX7_areRules_49 : decode cX7_areRules 49 = .ok (.iconst 0, 1) := by decide +kernel
theorem dX7_areRules_50 : decode cX7_areRules 50 = .ok (.ireturn, 1) := by decide +kernel
theorem dX7_areRules_51 : decode cX7_areRules 51 = .ok (.iload_n 1, 1) := by decide +kernel
theorem dX7_areRules_52 : decode cX7_areRules 52 = .ok (.iload 4, 2) := by decide +kernel
theorem dX7_areRules_54 : decode cX7_areRules 54 = .ok (.ior, 1) := by decide +kernel
theorem dX7_areRules_55 : decode cX7_areRules 55 = .ok (.istore_n 1, 1) := by decide +kernel
theorem dX7_areRules_56 : decode cX7_areRules 56 = .ok (.iload_n 2, 1) := by decide +kernel
theorem dX7_areRules_57 : decode cX7_areRules 57 = .ok (.bipush 10, 2) := by decide +kernel
theorem dX7_areRules_59 : decode cX7_areRules 59 = .ok (.idiv, 1) := by decide +kernel
theorem dX7_areRules_60 : decode cX7_areRules 60 = .ok (.istore_n 2, 1) := by decide +kernel
theorem dX7_areRules_61 : decode cX7_areRules 61 = .ok (.goto (-43), 3) := by decide +kernel
theorem dX7_areRules_64 : decode cX7_areRules 64 = .ok (.iconst 1, 1) := by decide +kernel
theorem dX7_areRules_65 : decode cX7_areRules 65 = .ok (.ireturn, 1) := by decide +kernel
end
section
theorem dX8_init_0 : decode cX8_init 0 = .ok (.aload_n 0, 1) := by decide +kernel
theorem dX8_init_1 : decode cX8_init 1 = .ok (.invokespecial 1, 3) := by decide +kernel
theorem dX8_init_4 : decode cX8_init 4 = .ok (.aload_n 0, 1) := by decide +kernel
theorem dX8_init_5 : decode cX8_init 5 = .ok (.bipush 54, 2) := by decide +kernel
theorem dX8_init_7 : decode cX8_init 7 = .ok (.newarray .int, 2) := by decide +kernel
theorem dX8_init_9 : decode cX8_init 9 = .ok (.putfield 7, 3) := by decide +kernel
theorem dX8_init_12 : decode cX8_init 12 = .ok (.aload_n 0, 1) := by decide +kernel
theorem dX8_init_13 : decode cX8_init 13 = .ok (.bipush 8, 2) := by decide +kernel
theorem dX8_init_15 : decode cX8_init 15 = .ok (.newarray .int, 2) := by decide +kernel
theorem dX8_init_17 : decode cX8_init 17 = .ok (.putfield 13, 3) := by decide +kernel
theorem dX8_init_20 : decode cX8_init 20 = .ok (.aload_n 0, 1) := by decide +kernel
theorem dX8_init_21 : decode cX8_init 21 = .ok (.bipush 32, 2) := by decide +kernel
theorem dX8_init_23 : decode cX8_init 23 = .ok (.newarray .int, 2) := by decide +kernel
theorem dX8_init_25 : decode cX8_init 25 = .ok (.putfield 16, 3) := by decide +kernel
theorem dX8_init_28 : decode cX8_init 28 = .ok (.aload_n 0, 1) := by decide +kernel
theorem dX8_init_29 : decode cX8_init 29 = .ok (.iconst 4, 1) := by decide +kernel
theorem dX8_init_30 : decode cX8_init 30 = .ok (.newarray .int, 2) := by decide +kernel
theorem dX8_init_32 : decode cX8_init 32 = .ok (.putfield 19, 3) := by decide +kernel
theorem dX8_init_35 : decode cX8_init 35 = .ok (.aload_n 0, 1) := by decide +kernel
theorem dX8_init_36 : decode cX8_init 36 = .ok (.bipush 8, 2) := by decide +kernel
theorem dX8_init_38 : decode cX8_init 38 = .ok (.newarray .int, 2) := by decide +kernel
theorem dX8_init_40 : decode cX8_init 40 = .ok (.putfield 22, 3) := by decide +kernel
theorem dX8_init_43 : decode cX8_init 43 = .ok (.aload_n 0, 1) := by decide +kernel
theorem dX8_init_44 : decode cX8_init 44 = .ok (.bipush 8, 2) := by decide +kernel
theorem dX8_init_46 : decode cX8_init 46 = .ok (.newarray .int, 2) := by decide +kernel
theorem dX8_init_48 : decode cX8_init 48 = .ok (.putfield 25, 3) := by decide +kernel
theorem dX8_init_51 : decode cX8_init 51 = .ok (.aload_n 0, 1) := by decide +kernel
theorem dX8_init_52 : decode cX8_init 52 = .ok (.bipush 40, 2) := by decide +kernel
theorem dX8_init_54 : decode cX8_init 54 = .ok (.newarray .int, 2) := by decide +kernel
theorem dX8_init_56 : decode cX8_init 56 = .ok (.putfield 28, 3) := by decide +kernel
theorem dX8_init_59 : decode cX8_init 59 = .ok (.aload_n 0, 1) := by decide +kernel
theorem dX8_init_60 : decode cX8_init 60 = .ok (.bipush 8, 2) := by decide +kernel
theorem dX8_init_62 : decode cX8_init 62 = .ok (.newarray .int, 2) := by decide +kernel
theorem dX8_init_64 : decode cX8_init 64 = .ok (.putfield 31, 3) := by decide +kernel
theorem dX8_init_67 : decode cX8_init 67 = .ok (.aload_n 0, 1) := by decide +kernel
theorem dX8_init_68 : decode cX8_init 68 = .ok (.bipush 8, 2) := by decide +kernel
theorem dX8_init_70 : decode cX8_init 70 = .ok (.newarray .int, 2) := by decide +kernel
theorem dX8_init_72 : decode cX8_init 72 = .ok (.putfield 34, 3) := by decide +kernel
theorem dX8_init_75 : decode cX8_init 75 = .ok (.aload_n 0, 1) := by decide +kernel
theorem dX8_init_76 : decode cX8_init 76 = .ok (.bipush 16, 2) := by decide +kernel
theorem dX8_init_78 : decode cX8_init 78 = .ok (.newarray .int, 2) := by decide +kernel
theorem dX8_init_80 : decode cX8_init 80 = .ok (.putfield 37, 3) := by decide +kernel
theorem dX8_init_83 : decode cX8_init 83 = .ok (.aload_n 0, 1) := by decide +kernel
theorem dX8_init_84 : decode cX8_init 84 = .ok (.bipush 16, 2) := by decide +kernel
theorem dX8_init_86 : decode cX8_init 86 = .ok (.newarray .int, 2) := by decide +kernel
theorem dX8_init_88 : decode cX8_init 88 = .ok (.putfield 40, 3) := by decide +kernel
theorem dX8_init_91 : decode cX8_init 91 = .ok (.aload_n 0, 1) := by decide +kernel
theorem dX8_init_92 : decode cX8_init 92 = .ok (.bipush 8, 2) := by decide +kernel
theorem dX8_init_94 : decode cX8_init 94 = .ok (.newarray .int, 2) := by decide +kernel
theorem dX8_init_96 : decode cX8_init 96 = .ok (.putfield 43, 3) := by decide +kernel
theorem dX8_init_99 : decode cX8_init 99 = .ok (.aload_n 0, 1) := by decide +kernel
theorem dX8_init_100 : decode cX8_init 100 = .ok (.iconst 4, 1) := by decide +kernel
theorem dX8_init_101 : decode cX8_init 101 = .ok (.newarray .int, 2) := by decide +kernel
theorem dX8_init_103 : decode cX8_init 103 = .ok (.putfield 46, 3) := by decide +kernel
theorem dX8_init_106 : decode cX8_init 106 = .ok (.aload_n 0, 1) := by decide +kernel
theorem dX8_init_107 : decode cX8_init 107 = .ok (.bipush 18, 2) := by decide +kernel
theorem dX8_init_109 : decode cX8_init 109 = .ok (.newarray .int, 2) := by decide +kernel
theorem dX8_init_111 : decode cX8_init 111 = .ok (.putfield 49, 3) := by decide +kernel
theorem dX8_init_114 : decode cX8_init 114 = .ok (.aload_n 0, 1) := by decide +kernel
theorem dX8_init_115 : decode cX8_init 115 = .ok (.bipush 8, 2) := by decide +kernel
theorem dX8_init_117 : decode cX8_init 117 = .ok (.newarray .int, 2) := by decide +kernel
theorem dX8_init_119 : decode cX8_init 119 = .ok (.putfield 52, 3) := by decide +kernel
theorem dX8_init_122 : decode cX8_init 122 = .ok (.aload_n 0, 1) := by decide +kernel
theorem dX8_init_123 : decode cX8_init 123 = .ok (.bipush 32, 2) := by decide +kernel
theorem dX8_init_125 : decode cX8_init 125 = .ok (.newarray .int, 2) := by decide +kernel
theorem dX8_init_127 : decode cX8_init 127 = .ok (.putfield 55, 3) := by decide +kernel
theorem dX8_init_130 : decode cX8_init 130 = .ok (.aload_n 0, 1) := by decide +kernel
theorem dX8_init_131 : decode cX8_init 131 = .ok (.bipush 8, 2) := by decide +kernel
theorem dX8_init_133 : decode cX8_init 133 = .ok (.newarray .int, 2) := by decide +kernel
theorem dX8_init_135 : decode cX8_init 135 = .ok (.putfield 58, 3) := by decide +kernel
theorem dX8_init_138 : decode cX8_init 138 = .ok (.aload_n 0, 1) := by decide +kernel
theorem dX8_init_139 : decode cX8_init 139 = .ok (.bipush 32, 2) := by decide +kernel
theorem dX8_init_141 : decode cX8_init 141 = .ok (.newarray .int, 2) := by decide +kernel
theorem dX8_init_143 : decode cX8_init 143 = .ok (.putfield 61, 3) := by decide +kernel
theorem dX8_init_146 : decode cX8_init 146 = .ok (.aload_n 0, 1) := by decide +kernel
theorem dX8_init_147 : decode cX8_init 147 = .ok (.iconst 4, 1) := by decide +kernel
theorem dX8_init_148 : decode cX8_init 148 = .ok (.newarray .int, 2) := by decide +kernel
theorem dX8_init_150 : decode cX8_init 150 = .ok (.putfield 64, 3) := by decide +kernel
theorem dX8_init_153 : decode cX8_init 153 = .ok (.aload_n 0, 1) := by decide +kernel
theorem dX8_init_154 : decode cX8_init 154 = .ok (.bipush 18, 2) := by decide +kernel
theorem dX8_init_156 : decode cX8_init 156 = .ok (.newarray .int, 2) := by decide +kernel
theorem dX8_init_158 : decode cX8_init 158 = .ok (.putfield 67, 3) := by decide +kernel
theorem dX8_init_161 : decode cX8_init 161 = .ok (.aload_n 0, 1) := by decide +kernel
theorem dX8_init_162 : decode cX8_init 162 = .ok (.iconst (-1), 1) := by decide +kernel
theorem dX8_init_163 : decode cX8_init 163 = .ok (.putfield 70, 3) := by decide +kernel
theorem dX8_init_166 : decode cX8_init 166 = .ok (.return_, 1) := by decide +kernel
theorem dX8_in_0 : decode cX8_in 0 = .ok (.lload_n 0, 1) := by decide +kernel
theorem dX8_in_1 : decode cX8_in 1 = .ok (.lload_n 2, 1) := by decide +kernel
theorem dX8_in_2 : decode cX8_in 2 = .ok (.lcmp, 1) := by decide +kernel
theorem dX8_in_3 : decode cX8_in 3 = .ok (.ifCond .lt 14, 3) := by decide +kernel
theorem dX8_in_6 : decode cX8_in 6 = .ok (.lload_n 0, 1) := by decide +kernel
theorem dX8_in_7 : decode cX8_in 7 = .ok (.lload 4, 2) := by decide +kernel
theorem dX8_in_9 : decode cX8_in 9 = .ok (.lcmp, 1) := by decide +kernel
theorem dX8_in_10 : decode cX8_in 10 = .ok (.ifCond .gt 7, 3) := by decide +kernel
theorem dX8_in_13 : decode cX8_in 13 = .ok (.iconst 1, 1) := by decide +kernel
theorem dX8_in_14 : decode cX8_in 14 = .ok (.goto 4, 3) := by decide +kernel
theorem dX8_in_17 : decode cX8_in 17 = .ok (.iconst 0, 1) := by decide +kernel
theorem dX8_in_18 : decode cX8_in 18 = .ok (.ireturn, 1) := by decide +kernel
theorem dX8_has_0 : decode cX8_has 0 = .ok (.iload_n 0, 1) := by decide +kernel
theorem dX8_has_1 : decode cX8_has 1 = .ok (.iload_n 1, 1) := by decide +kernel
theorem dX8_has_2 : decode cX8_has 2 = .ok (.ishr, 1) := by decide +kernel
theorem dX8_has_3 : decode cX8_has 3 = .ok (.iconst 1, 1) := by decide +kernel
theorem dX8_has_4 : decode cX8_has 4 = .ok (.iand, 1) := by decide +kernel
theorem dX8_has_5 : decode cX8_has 5 = .ok (.iconst 1, 1) := by decide +kernel
theorem dX8_has_6 : decode cX8_has 6 = .ok (.if_icmp .ne 7, 3) := by decide +kernel
theorem dX8_has_9 : decode cX8_has 9 = .ok (.iconst 1, 1) := by decide +kernel
theorem dX8_has_10 : decode cX8_has 10 = .ok (.goto 4, 3) := by decide +kernel
theorem dX8_has_13 : decode cX8_has 13 = .ok (.iconst 0, 1) := by decide +kernel
theorem dX8_has_14 : decode cX8_has 14 = .ok (.ireturn, 1) := by decide +kernel
theorem dX8_copy_0 : decode cX8_copy 0 = .ok (.iconst 0, 1) := by decide +kernel
theorem dX8_copy_1 : decode cX8_copy 1 = .ok (.istore_n 2, 1) := by decide +kernel
theorem dX8_copy_2 : decode cX8_copy 2 = .ok (.iload_n 2, 1) := by decide +kernel
theorem dX8_copy_3 : decode cX8_copy 3 = .ok (.aload_n 0, 1) := by decide +kernel
theorem dX8_copy_4 : decode cX8_copy 4 = .ok (.arraylength, 1) := by decide +kernel
theorem dX8_copy_5 : decode cX8_copy 5 = .ok (.if_icmp .ge 15, 3) := by decide +kernel
theorem dX8_copy_8 : decode cX8_copy 8 = .ok (.aload_n 1, 1) := by decide +kernel
theorem dX8_copy_9 : decode cX8_copy 9 = .ok (.iload_n 2, 1) := by decide +kernel
theorem dX8_copy_10 : decode cX8_copy 10 = .ok (.aload_n 0, 1) := by decide +kernel
theorem dX8_copy_11 : decode cX8_copy 11 = .ok (.iload_n 2, 1) := by decide +kernel
theorem dX8_copy_12 : decode cX8_copy 12 = .ok (.iaload, 1) := by decide +kernel
theorem dX8_copy_13 : decode cX8_copy 13 = .ok (.iastore, 1) := by decide +kernel
theorem dX8_copy_14 : decode cX8_copy 14 = .ok (.iinc 2 1, 3) := by decide +kernel
theorem dX8_copy_17 : decode cX8_copy 17 = .ok (.goto (-15), 3) := by decide +kernel
theorem dX8_copy_20 : decode cX8_copy 20 = .ok (.return_, 1) := by decide +kernel
theorem dX8_letter_0 : decode cX8_letter 0 = .ok (.iload_n 1, 1) := by decide +kernel
theorem dX8_letter_1 : decode cX8_letter 1 = .ok (.i2l, 1) := by decide +kernel
theorem dX8_letter_2 : decode cX8_letter 2 = .ok (.lconst 1, 1) := by decide +kernel
theorem dX8_letter_3 : decode cX8_letter 3 = .ok (.ldc2_w 74, 3) := by decide +kernel
theorem dX8_letter_6 : decode cX8_letter 6 = .ok (.invokestatic 76, 3) := by decide +kernel
theorem dX8_letter_9 : decode cX8_letter 9 = .ok (.ifCond .ne 6, 3) := by decide +kernel
theorem dX8_letter_12 : decode cX8_letter 12 = .ok (.bipush (-102), 2) := by decide +kernel
theorem dX8_letter_14 : decode cX8_letter 14 = .ok (.ireturn, 1) := by decide +kernel
theorem dX8_letter_15 : decode cX8_letter 15 = .ok (.aload_n 0, 1) := by decide +kernel
theorem dX8_letter_16 : decode cX8_letter 16 = .ok (.getfield 80, 3) := by decide +kernel
theorem dX8_letter_19 : decode cX8_letter 19 = .ok (.bipush 54, 2) := by decide +kernel
theorem dX8_letter_21 : decode cX8_letter 21 = .ok (.if_icmp .ne 6, 3) := by decide +kernel
theorem dX8_letter_24 : decode cX8_letter 24 = .ok (.bipush (-104), 2) := by decide +kernel
theorem dX8_letter_26 : decode cX8_letter 26 = .ok (.ireturn, 1) := by decide +kernel
theorem dX8_letter_27 : decode cX8_letter 27 = .ok (.aload_n 0, 1) := by decide +kernel
theorem dX8_letter_28 : decode cX8_letter 28 = .ok (.getfield 7, 3) := by decide +kernel
theorem dX8_letter_31 : decode cX8_letter 31 = .ok (.aload_n 0, 1) := by decide +kernel
theorem dX8_letter_32 : decode cX8_letter 32 = .ok (.getfield 80, 3) := by decide +kernel
theorem dX8_letter_35 : decode cX8_letter 35 = .ok (.iload_n 1, 1) := by decide +kernel
theorem dX8_letter_36 : decode cX8_letter 36 = .ok (.iastore, 1) := by decide +kernel
theorem dX8_letter_37 : decode cX8_letter 37 = .ok (.aload_n 0, 1) := by decide +kernel
theorem dX8_letter_38 : decode cX8_letter 38 = .ok (.dup, 1) := by decide +kernel
theorem dX8_letter_39 : decode cX8_letter 39 = .ok (.getfield 80, 3) := by decide +kernel
theorem dX8_letter_42 : decode cX8_letter 42 = .ok (.iconst 1, 1) := by decide +kernel
theorem dX8_letter_43 : decode cX8_letter 43 = .ok (.iadd, 1) := by decide +kernel
theorem dX8_letter_44 : decode cX8_letter 44 = .ok (.putfield 80, 3) := by decide +kernel
theorem dX8_letter_47 : decode cX8_letter 47 = .ok (.aload_n 0, 1) := by decide +kernel
theorem dX8_letter_48 : decode cX8_letter 48 = .ok (.getfield 80, 3) := by decide +kernel
theorem dX8_letter_51 : decode cX8_letter 51 = .ok (.ireturn, 1) := by decide +kernel
theorem dX8_blank_0 : decode cX8_blank 0 = .ok (.aload_n 0, 1) := by decide +kernel
theorem dX8_blank_1 : decode cX8_blank 1 = .ok (.getfield 80, 3) := by decide +kernel
theorem dX8_blank_4 : decode cX8_blank 4 = .ok (.istore_n 1, 1) := by decide +kernel
theorem dX8_blank_5 : decode cX8_blank 5 = .ok (.aload_n 0, 1) := by decide +kernel
theorem dX8_blank_6 : decode cX8_blank 6 = .ok (.iconst 0, 1) := by decide +kernel
theorem dX8_blank_7 : decode cX8_blank 7 = .ok (.putfield 80, 3) := by decide +kernel
theorem dX8_blank_10 : decode cX8_blank 10 = .ok (.iload_n 1, 1) := by decide +kernel
theorem dX8_blank_11 : decode cX8_blank 11 = .ok (.ireturn, 1) := by decide +kernel
theorem dX8_kindBy_0 : decode cX8_kindBy 0 = .ok (.iload_n 0, 1) := by decide +kernel
theorem dX8_kindBy_1 : decode cX8_kindBy 1 = .ok (.lookupswitch 61 #[(98, 51), (99, 59), (102, 57), (110, 55), (116, 53)], 51) := by decide +kernel
theorem dX8_kindBy_52 : decode cX8_kindBy 52 = .ok (.iconst 0, 1) := by decide +kernel
theorem dX8_kindBy_53 : decode cX8_kindBy 53 = .ok (.ireturn, 1) := by decide +kernel
theorem dX8_kindBy_54 : decode cX8_kindBy 54 = .ok (.iconst 1, 1) := by decide +kernel
theorem dX8_kindBy_55 : decode cX8_kindBy 55 = .ok (.ireturn, 1) := by decide +kernel
theorem dX8_kindBy_56 : decode cX8_kindBy 56 = .ok (.iconst 2, 1) := by decide +kernel
theorem dX8_kindBy_57 : decode cX8_kindBy 57 = .ok (.ireturn, 1) := by decide +kernel
theorem dX8_kindBy_58 : decode cX8_kindBy 58 = .ok (.iconst 3, 1) := by decide +kernel
theorem dX8_kindBy_59 : decode cX8_kindBy 59 = .ok (.ireturn, 1) := by decide +kernel
theorem dX8_kindBy_60 : decode cX8_kindBy 60 = .ok (.iconst 4, 1) := by decide +kernel
theorem dX8_kindBy_61 : decode cX8_kindBy 61 = .ok (.ireturn, 1) := by decide +kernel
theorem dX8_kindBy_62 : decode cX8_kindBy 62 = .ok (.iconst (-1), 1) := by decide +kernel
theorem dX8_kindBy_63 : decode cX8_kindBy 63 = .ok (.ireturn, 1) := by decide +kernel
theorem dX8_isBoxSign_0 : decode cX8_isBoxSign 0 = .ok (.aload_n 0, 1) := by decide +kernel
theorem dX8_isBoxSign_1 : decode cX8_isBoxSign 1 = .ok (.getfield 7, 3) := by decide +kernel
theorem dX8_isBoxSign_4 : decode cX8_isBoxSign 4 = .ok (.iload_n 1, 1) := by decide +kernel
theorem dX8_isBoxSign_5 : decode cX8_isBoxSign 5 = .ok (.iaload, 1) := by decide +kernel
theorem dX8_isBoxSign_6 : decode cX8_isBoxSign 6 = .ok (.istore_n 2, 1) := by decide +kernel
theorem dX8_isBoxSign_7 : decode cX8_isBoxSign 7 = .ok (.iload_n 1, 1) := by decide +kernel
theorem dX8_isBoxSign_8 : decode cX8_isBoxSign 8 = .ok (.bipush 6, 2) := by decide +kernel
theorem dX8_isBoxSign_10 : decode cX8_isBoxSign 10 = .ok (.irem, 1) := by decide +kernel
theorem dX8_isBoxSign_11 : decode cX8_isBoxSign 11 = .ok (.tableswitch 79 0 4 #[33, 47, 47, 59, 59], 33) := by decide +kernel
theorem dX8_isBoxSign_44 : decode cX8_isBoxSign 44 = .ok (.iload_n 2, 1) := by decide +kernel
theorem dX8_isBoxSign_45 : decode cX8_isBoxSign 45 = .ok (.invokestatic 83, 3) := by decide +kernel
theorem dX8_isBoxSign_48 : decode cX8_isBoxSign 48 = .ok (.iconst (-1), 1) := by decide +kernel
theorem dX8_isBoxSign_49 : decode cX8_isBoxSign 49 = .ok (.if_icmp .eq 7, 3) := by decide +kernel
theorem dX8_isBoxSign_52 : decode cX8_isBoxSign 52 = .ok (.iconst 1, 1) := by decide +kernel
theorem dX8_isBoxSign_53 : decode cX8_isBoxSign 53 = .ok (.goto 4, 3) := by decide +kernel
theorem dX8_isBoxSign_56 : decode cX8_isBoxSign 56 = .ok (.iconst 0, 1) := by decide +kernel
theorem dX8_isBoxSign_57 : decode cX8_isBoxSign 57 = .ok (.ireturn, 1) := by decide +kernel
theorem dX8_isBoxSign_58 : decode cX8_isBoxSign 58 = .ok (.iload_n 2, 1) := by decide +kernel
theorem dX8_isBoxSign_59 : decode cX8_isBoxSign 59 = .ok (.i2l, 1) := by decide +kernel
theorem dX8_isBoxSign_60 : decode cX8_isBoxSign 60 = .ok (.ldc2_w 87, 3) := by decide +kernel
theorem dX8_isBoxSign_63 : decode cX8_isBoxSign 63 = .ok (.ldc2_w 89, 3) := by decide +kernel
theorem dX8_isBoxSign_66 : decode cX8_isBoxSign 66 = .ok (.invokestatic 76, 3) := by decide +kernel
theorem dX8_isBoxSign_69 : decode cX8_isBoxSign 69 = .ok (.ireturn, 1) := by decide +kernel
theorem dX8_isBoxSign_70 : decode cX8_isBoxSign 70 = .ok (.iload_n 2, 1) := by decide +kernel
theorem dX8_isBoxSign_71 : decode cX8_isBoxSign 71 = .ok (.i2l, 1) := by decide +kernel
theorem dX8_isBoxSign_72 : decode cX8_isBoxSign 72 = .ok (.aload_n 0, 1) := by decide +kernel
theorem dX8_isBoxSign_73 : decode cX8_isBoxSign 73 = .ok (.getfield 7, 3) := by decide +kernel
theorem dX8_isBoxSign_76 : decode cX8_isBoxSign 76 = .ok (.iload_n 1, 1) := by decide +kernel
theorem dX8_isBoxSign_77 : decode cX8_isBoxSign 77 = .ok (.iconst 2, 1) := by decide +kernel
theorem dX8_isBoxSign_78 : decode cX8_isBoxSign 78 = .ok (.isub, 1) := by decide +kernel
theorem dX8_isBoxSign_79 : decode cX8_isBoxSign 79 = .ok (.iaload, 1) := by decide +kernel
theorem dX8_isBoxSign_80 : decode cX8_isBoxSign 80 = .ok (.iconst 1, 1) := by decide +kernel
theorem dX8_isBoxSign_81 : decode cX8_isBoxSign 81 = .ok (.iadd, 1) := by decide +kernel
theorem dX8_isBoxSign_82 : decode cX8_isBoxSign 82 = .ok (.i2l, 1) := by decide +kernel
theorem dX8_isBoxSign_83 : decode cX8_isBoxSign 83 = .ok (.ldc2_w 91, 3) := by decide +kernel
theorem dX8_isBoxSign_86 : decode cX8_isBoxSign 86 = .ok (.invokestatic 76, 3) := by decide +kernel
theorem dX8_isBoxSign_89 : decode cX8_isBoxSign 89 = .ok (.ireturn, 1) := by decide +kernel
theorem dX8_isBoxSign_90 : decode cX8_isBoxSign 90 = .ok (.aload_n 0, 1) := by decide +kernel
theorem dX8_isBoxSign_91 : decode cX8_isBoxSign 91 = .ok (.iload_n 2, 1) := by decide +kernel
theorem dX8_isBoxSign_92 : decode cX8_isBoxSign 92 = .ok (.bipush 59, 2) := by decide +kernel
theorem dX8_isBoxSign_94 : decode cX8_isBoxSign 94 = .ok (.if_icmp .ne 7, 3) := by decide +kernel
theorem dX8_isBoxSign_97 : decode cX8_isBoxSign 97 = .ok (.iload_n 1, 1) := by decide +kernel
theorem dX8_isBoxSign_98 : decode cX8_isBoxSign 98 = .ok (.goto 4, 3) := by decide +kernel
theorem dX8_isBoxSign_101 : decode cX8_isBoxSign 101 = .ok (.iconst 0, 1) := by decide +kernel
theorem dX8_isBoxSign_102 : decode cX8_isBoxSign 102 = .ok (.putfield 93, 3) := by decide +kernel
theorem dX8_isBoxSign_105 : decode cX8_isBoxSign 105 = .ok (.iload_n 2, 1) := by decide +kernel
theorem dX8_isBoxSign_106 : decode cX8_isBoxSign 106 = .ok (.bipush 59, 2) := by decide +kernel
theorem dX8_isBoxSign_108 : decode cX8_isBoxSign 108 = .ok (.if_icmp .eq 15, 3) := by decide +kernel
theorem dX8_isBoxSign_111 : decode cX8_isBoxSign 111 = .ok (.iload_n 2, 1) := by decide +kernel
theorem dX8_isBoxSign_112 : decode cX8_isBoxSign 112 = .ok (.bipush 44, 2) := by decide +kernel
theorem dX8_isBoxSign_114 : decode cX8_isBoxSign 114 = .ok (.if_icmp .ne 13, 3) := by decide +kernel
theorem dX8_isBoxSign_117 : decode cX8_isBoxSign 117 = .ok (.iload_n 1, 1) := by decide +kernel
theorem dX8_isBoxSign_118 : decode cX8_isBoxSign 118 = .ok (.bipush 47, 2) := by decide +kernel
theorem dX8_isBoxSign_120 : decode cX8_isBoxSign 120 = .ok (.if_icmp .ge 7, 3) := by decide +kernel
theorem dX8_isBoxSign_123 : decode cX8_isBoxSign 123 = .ok (.iconst 1, 1) := by decide +kernel
theorem dX8_isBoxSign_124 : decode cX8_isBoxSign 124 = .ok (.goto 4, 3) := by decide +kernel
theorem dX8_isBoxSign_127 : decode cX8_isBoxSign 127 = .ok (.iconst 0, 1) := by decide +kernel
theorem dX8_isBoxSign_128 : decode cX8_isBoxSign 128 = .ok (.ireturn, 1) := by decide +kernel
theorem dX8_isRuleSign_0 : decode cX8_isRuleSign 0 = .ok (.iload_n 1, 1) := by decide +kernel
theorem dX8_isRuleSign_1 : decode cX8_isRuleSign 1 = .ok (.i2l, 1) := by decide +kernel
theorem dX8_isRuleSign_2 : decode cX8_isRuleSign 2 = .ok (.ldc2_w 87, 3) := by decide +kernel
theorem dX8_isRuleSign_5 : decode cX8_isRuleSign 5 = .ok (.ldc2_w 96, 3) := by decide +kernel
theorem dX8_isRuleSign_8 : decode cX8_isRuleSign 8 = .ok (.invokestatic 76, 3) := by decide +kernel
theorem dX8_isRuleSign_11 : decode cX8_isRuleSign 11 = .ok (.ifCond .eq 17, 3) := by decide +kernel
theorem dX8_isRuleSign_14 : decode cX8_isRuleSign 14 = .ok (.aload_n 0, 1) := by decide +kernel
theorem dX8_isRuleSign_15 : decode cX8_isRuleSign 15 = .ok (.getfield 98, 3) := by decide +kernel
theorem dX8_isRuleSign_18 : decode cX8_isRuleSign 18 = .ok (.iload_n 1, 1) := by decide +kernel
theorem dX8_isRuleSign_19 : decode cX8_isRuleSign 19 = .ok (.bipush 48, 2) := by decide +kernel
theorem dX8_isRuleSign_21 : decode cX8_isRuleSign 21 = .ok (.isub, 1) := by decide +kernel
theorem dX8_isRuleSign_22 : decode cX8_isRuleSign 22 = .ok (.invokestatic 101, 3) := by decide +kernel
theorem dX8_isRuleSign_25 : decode cX8_isRuleSign 25 = .ok (.ifCond .eq 5, 3) := by decide +kernel
theorem dX8_isRuleSign_28 : decode cX8_isRuleSign 28 = .ok (.iconst 0, 1) := by decide +kernel
theorem dX8_isRuleSign_29 : decode cX8_isRuleSign 29 = .ok (.ireturn, 1) := by decide +kernel
theorem dX8_isRuleSign_30 : decode cX8_isRuleSign 30 = .ok (.aload_n 0, 1) := by decide +kernel
theorem dX8_isRuleSign_31 : decode cX8_isRuleSign 31 = .ok (.dup, 1) := by decide +kernel
theorem dX8_isRuleSign_32 : decode cX8_isRuleSign 32 = .ok (.getfield 98, 3) := by decide +kernel
theorem dX8_isRuleSign_35 : decode cX8_isRuleSign 35 = .ok (.iconst 1, 1) := by decide +kernel
theorem dX8_isRuleSign_36 : decode cX8_isRuleSign 36 = .ok (.iload_n 1, 1) := by decide +kernel
theorem dX8_isRuleSign_37 : decode cX8_isRuleSign 37 = .ok (.bipush 48, 2) := by decide +kernel
theorem dX8_isRuleSign_39 : decode cX8_isRuleSign 39 = .ok (.isub, 1) := by decide +kernel
theorem dX8_isRuleSign_40 : decode cX8_isRuleSign 40 = .ok (.ishl, 1) := by decide +kernel
theorem dX8_isRuleSign_41 : decode cX8_isRuleSign 41 = .ok (.ior, 1) := by decide +kernel
theorem dX8_isRuleSign_42 : decode cX8_isRuleSign 42 = .ok (.putfield 98, 3) := by decide +kernel
theorem dX8_isRuleSign_45 : decode cX8_isRuleSign 45 = .ok (.aload_n 0, 1) := by decide +kernel
theorem dX8_isRuleSign_46 : decode cX8_isRuleSign 46 = .ok (.dup, 1) := by decide +kernel
theorem dX8_isRuleSign_47 : decode cX8_isRuleSign 47 = .ok (.getfield 105, 3) := by decide +kernel
theorem dX8_isRuleSign_50 : decode cX8_isRuleSign 50 = .ok (.iconst 1, 1) := by decide +kernel
theorem dX8_isRuleSign_51 : decode cX8_isRuleSign 51 = .ok (.iadd, 1) := by decide +kernel
theorem dX8_isRuleSign_52 : decode cX8_isRuleSign 52 = .ok (.putfield 105, 3) := by decide +kernel
theorem dX8_isRuleSign_55 : decode cX8_isRuleSign 55 = .ok (.iconst 1, 1) := by decide +kernel
theorem dX8_isRuleSign_56 : decode cX8_isRuleSign 56 = .ok (.ireturn, 1) := by decide +kernel
theorem dX8_faultOf_0 : decode cX8_faultOf 0 = .ok (.aload_n 0, 1) := by decide +kernel
theorem dX8_faultOf_1 : decode cX8_faultOf 1 = .ok (.iconst 0, 1) := by decide +kernel
theorem dX8_faultOf_2 : decode cX8_faultOf 2 = .ok (.putfield 93, 3) := by decide +kernel
theorem dX8_faultOf_5 : decode cX8_faultOf 5 = .ok (.aload_n 0, 1) := by decide +kernel
theorem dX8_faultOf_6 : decode cX8_faultOf 6 = .ok (.iconst 0, 1) := by decide +kernel
theorem dX8_faultOf_7 : decode cX8_faultOf 7 = .ok (.putfield 98, 3) := by decide +kernel
theorem dX8_faultOf_10 : decode cX8_faultOf 10 = .ok (.aload_n 0, 1) := by decide +kernel
theorem dX8_faultOf_11 : decode cX8_faultOf 11 = .ok (.iconst 0, 1) := by decide +kernel
theorem dX8_faultOf_12 : decode cX8_faultOf 12 = .ok (.putfield 105, 3) := by decide +kernel
theorem dX8_faultOf_15 : decode cX8_faultOf 15 = .ok (.iconst 0, 1) := by decide +kernel
theorem dX8_faultOf_16 : decode cX8_faultOf 16 = .ok (.istore_n 1, 1) := by decide +kernel
theorem dX8_faultOf_17 : decode cX8_faultOf 17 = .ok (.iload_n 1, 1) := by decide +kernel
theorem dX8_faultOf_18 : decode cX8_faultOf 18 = .ok (.aload_n 0, 1) := by decide +kernel
theorem dX8_faultOf_19 : decode cX8_faultOf 19 = .ok (.getfield 80, 3) := by decide +kernel
theorem dX8_faultOf_22 : decode cX8_faultOf 22 = .ok (.if_icmp .ge 40, 3) := by decide +kernel
theorem dX8_faultOf_25 : decode cX8_faultOf 25 = .ok (.aload_n 0, 1) := by decide +kernel
theorem dX8_faultOf_26 : decode cX8_faultOf 26 = .ok (.getfield 93, 3) := by decide +kernel
theorem dX8_faultOf_29 : decode cX8_faultOf 29 = .ok (.ifCond .ne 14, 3) := by decide +kernel
theorem dX8_faultOf_32 : decode cX8_faultOf 32 = .ok (.aload_n 0, 1) := by decide +kernel
theorem dX8_faultOf_33 : decode cX8_faultOf 33 = .ok (.iload_n 1, 1) := by decide +kernel
theorem dX8_faultOf_34 : decode cX8_faultOf 34 = .ok (.invokevirtual 108, 3) := by decide +kernel
theorem dX8_faultOf_37 : decode cX8_faultOf 37 = .ok (.ifCond .eq 25, 3) := by decide +kernel
theorem dX8_faultOf_40 : decode cX8_faultOf 40 = .ok (.goto 16, 3) := by decide +kernel
theorem dX8_faultOf_43 : decode cX8_faultOf 43 = .ok (.aload_n 0, 1) := by decide +kernel
theorem dX8_faultOf_44 : decode cX8_faultOf 44 = .ok (.aload_n 0, 1) := by decide +kernel
theorem dX8_faultOf_45 : decode cX8_faultOf 45 = .ok (.getfield 7, 3) := by decide +kernel
theorem dX8_faultOf_48 : decode cX8_faultOf 48 = .ok (.iload_n 1, 1) := by decide +kernel
theorem dX8_faultOf_49 : decode cX8_faultOf 49 = .ok (.iaload, 1) := by decide +kernel
theorem dX8_faultOf_50 : decode cX8_faultOf 50 = .ok (.invokevirtual 112, 3) := by decide +kernel
theorem dX8_faultOf_53 : decode cX8_faultOf 53 = .ok (.ifCond .eq 9, 3) := by decide +kernel
theorem dX8_faultOf_56 : decode cX8_faultOf 56 = .ok (.iinc 1 1, 3) := by decide +kernel
theorem dX8_faultOf_59 : decode cX8_faultOf 59 = .ok (.goto (-42), 3) := by decide +kernel
theorem dX8_faultOf_62 : decode cX8_faultOf 62 = .ok (.iload_n 1, 1) := by decide +kernel
theorem dX8_faultOf_63 : decode cX8_faultOf 63 = .ok (.ireturn, 1) := by decide +kernel
theorem dX8_fault_0 : decode cX8_fault 0 = .ok (.aload_n 0, 1) := by decide +kernel
theorem dX8_fault_1 : decode cX8_fault 1 = .ok (.invokevirtual 115, 3) := by decide +kernel
theorem dX8_fault_4 : decode cX8_fault 4 = .ok (.ireturn, 1) := by decide +kernel
theorem dX8_lacks_0 : decode cX8_lacks 0 = .ok (.aload_n 0, 1) := by decide +kernel
theorem dX8_lacks_1 : decode cX8_lacks 1 = .ok (.getfield 119, 3) := by decide +kernel
theorem dX8_lacks_4 : decode cX8_lacks 4 = .ok (.ifCond .ne 7, 3) := by decide +kernel
theorem dX8_lacks_7 : decode cX8_lacks 7 = .ok (.iconst 1, 1) := by decide +kernel
theorem dX8_lacks_8 : decode cX8_lacks 8 = .ok (.goto 4, 3) := by decide +kernel
theorem dX8_lacks_11 : decode cX8_lacks 11 = .ok (.iconst 0, 1) := by decide +kernel
theorem dX8_lacks_12 : decode cX8_lacks 12 = .ok (.ireturn, 1) := by decide +kernel
theorem dX8_isBox_0 : decode cX8_isBox 0 = .ok (.iload_n 1, 1) := by decide +kernel
theorem dX8_isBox_1 : decode cX8_isBox 1 = .ok (.i2l, 1) := by decide +kernel
theorem dX8_isBox_2 : decode cX8_isBox 2 = .ok (.lconst 0, 1) := by decide +kernel
theorem dX8_isBox_3 : decode cX8_isBox 3 = .ok (.aload_n 0, 1) := by decide +kernel
theorem dX8_isBox_4 : decode cX8_isBox 4 = .ok (.getfield 119, 3) := by decide +kernel
theorem dX8_isBox_7 : decode cX8_isBox 7 = .ok (.iconst 1, 1) := by decide +kernel
theorem dX8_isBox_8 : decode cX8_isBox 8 = .ok (.isub, 1) := by decide +kernel
theorem dX8_isBox_9 : decode cX8_isBox 9 = .ok (.i2l, 1) := by decide +kernel
theorem dX8_isBox_10 : decode cX8_isBox 10 = .ok (.invokestatic 76, 3) := by decide +kernel
theorem dX8_isBox_13 : decode cX8_isBox 13 = .ok (.ireturn, 1) := by decide +kernel
theorem dX8_gap_0 : decode cX8_gap 0 = .ok (.iload_n 2, 1) := by decide +kernel
theorem dX8_gap_1 : decode cX8_gap 1 = .ok (.iload_n 1, 1) := by decide +kernel
theorem dX8_gap_2 : decode cX8_gap 2 = .ok (.if_icmp .le 9, 3) := by decide +kernel
theorem dX8_gap_5 : decode cX8_gap 5 = .ok (.iload_n 2, 1) := by decide +kernel
theorem dX8_gap_6 : decode cX8_gap 6 = .ok (.iload_n 1, 1) := by decide +kernel
theorem dX8_gap_7 : decode cX8_gap 7 = .ok (.isub, 1) := by decide +kernel
theorem dX8_gap_8 : decode cX8_gap 8 = .ok (.goto 15, 3) := by decide +kernel
theorem dX8_gap_11 : decode cX8_gap 11 = .ok (.iload_n 0, 1) := by decide +kernel
theorem dX8_gap_12 : decode cX8_gap 12 = .ok (.iload_n 3, 1) := by decide +kernel
theorem dX8_gap_13 : decode cX8_gap 13 = .ok (.if_icmp .le 9, 3) := by decide +kernel
theorem dX8_gap_16 : decode cX8_gap 16 = .ok (.iload_n 0, 1) := by decide +kernel
theorem dX8_gap_17 : decode cX8_gap 17 = .ok (.iload_n 3, 1) := by decide +kernel
theorem dX8_gap_18 : decode cX8_gap 18 = .ok (.isub, 1) := by decide +kernel
theorem dX8_gap_19 : decode cX8_gap 19 = .ok (.goto 4, 3) := by decide +kernel
theorem dX8_gap_22 : decode cX8_gap 22 = .ok (.iconst 0, 1) := by decide +kernel
theorem dX8_gap_23 : decode cX8_gap 23 = .ok (.ireturn, 1) := by decide +kernel
theorem dX8_apart_0 : decode cX8_apart 0 = .ok (.aload_n 0, 1) := by decide +kernel
theorem dX8_apart_1 : decode cX8_apart 1 = .ok (.getfield 16, 3) := by decide +kernel
theorem dX8_apart_4 : decode cX8_apart 4 = .ok (.iconst 4, 1) := by decide +kernel
theorem dX8_apart_5 : decode cX8_apart 5 = .ok (.iload_n 1, 1) := by decide +kernel
theorem dX8_apart_6 : decode cX8_apart 6 = .ok (.imul, 1) := by decide +kernel
theorem dX8_apart_7 : decode cX8_apart 7 = .ok (.iaload, 1) := by decide +kernel
theorem dX8_apart_8 : decode cX8_apart 8 = .ok (.aload_n 0, 1) := by decide +kernel
theorem dX8_apart_9 : decode cX8_apart 9 = .ok (.getfield 16, 3) := by decide +kernel
theorem dX8_apart_12 : decode cX8_apart 12 = .ok (.iconst 4, 1) := by decide +kernel
theorem dX8_apart_13 : decode cX8_apart 13 = .ok (.iload_n 1, 1) := by decide +kernel
theorem dX8_apart_14 : decode cX8_apart 14 = .ok (.imul, 1) := by decide +kernel
theorem dX8_apart_15 : decode cX8_apart 15 = .ok (.iconst 2, 1) := by decide +kernel
theorem dX8_apart_16 : decode cX8_apart 16 = .ok (.iadd, 1) := by decide +kernel
theorem dX8_apart_17 : decode cX8_apart 17 = .ok (.iaload, 1) := by decide +kernel
theorem dX8_apart_18 : decode cX8_apart 18 = .ok (.aload_n 0, 1) := by decide +kernel
theorem dX8_apart_19 : decode cX8_apart 19 = .ok (.getfield 16, 3) := by decide +kernel
theorem dX8_apart_22 : decode cX8_apart 22 = .ok (.iconst 4, 1) := by decide +kernel
theorem dX8_apart_23 : decode cX8_apart 23 = .ok (.iload_n 2, 1) := by decide +kernel
theorem dX8_apart_24 : decode cX8_apart 24 = .ok (.imul, 1) := by decide +kernel
theorem dX8_apart_25 : decode cX8_apart 25 = .ok (.iaload, 1) := by decide +kernel
theorem dX8_apart_26 : decode cX8_apart 26 = .ok (.aload_n 0, 1) := by decide +kernel
theorem dX8_apart_27 : decode cX8_apart 27 = .ok (.getfield 16, 3) := by decide +kernel
theorem dX8_apart_30 : decode cX8_apart 30 = .ok (.iconst 4, 1) := by decide +kernel
theorem dX8_apart_31 : decode cX8_apart 31 = .ok (.iload_n 2, 1) := by decide +kernel
theorem dX8_apart_32 : decode cX8_apart 32 = .ok (.imul, 1) := by decide +kernel
theorem dX8_apart_33 : decode cX8_apart 33 = .ok (.iconst 2, 1) := by decide +kernel
theorem dX8_apart_34 : decode cX8_apart 34 = .ok (.iadd, 1) := by decide +kernel
theorem dX8_apart_35 : decode cX8_apart 35 = .ok (.iaload, 1) := by decide +kernel
theorem dX8_apart_36 : decode cX8_apart 36 = .ok (.invokestatic 131, 3) := by decide +kernel
theorem dX8_apart_39 : decode cX8_apart 39 = .ok (.istore_n 3, 1) := by decide +kernel
theorem dX8_apart_40 : decode cX8_apart 40 = .ok (.iload_n 3, 1) := by decide +kernel
theorem dX8_apart_41 : decode cX8_apart 41 = .ok (.aload_n 0, 1) := by decide +kernel
theorem dX8_apart_42 : decode cX8_apart 42 = .ok (.getfield 16, 3) := by decide +kernel
theorem dX8_apart_45 : decode cX8_apart 45 = .ok (.iconst 4, 1) := by decide +kernel
theorem dX8_apart_46 : decode cX8_apart 46 = .ok (.iload_n 1, 1) := by decide +kernel
theorem dX8_apart_47 : decode cX8_apart 47 = .ok (.imul, 1) := by decide +kernel
theorem dX8_apart_48 : decode cX8_apart 48 = .ok (.iconst 1, 1) := by decide +kernel
theorem dX8_apart_49 : decode cX8_apart 49 = .ok (.iadd, 1) := by decide +kernel
theorem dX8_apart_50 : decode cX8_apart 50 = .ok (.iaload, 1) := by decide +kernel
theorem dX8_apart_51 : decode cX8_apart 51 = .ok (.aload_n 0, 1) := by decide +kernel
theorem dX8_apart_52 : decode cX8_apart 52 = .ok (.getfield 16, 3) := by decide +kernel
theorem dX8_apart_55 : decode cX8_apart 55 = .ok (.iconst 4, 1) := by decide +kernel
theorem dX8_apart_56 : decode cX8_apart 56 = .ok (.iload_n 1, 1) := by decide +kernel
theorem dX8_apart_57 : decode cX8_apart 57 = .ok (.imul, 1) := by decide +kernel
theorem dX8_apart_58 : decode cX8_apart 58 = .ok (.iconst 3, 1) := by decide +kernel
theorem dX8_apart_59 : decode cX8_apart 59 = .ok (.iadd, 1) := by decide +kernel
theorem dX8_apart_60 : decode cX8_apart 60 = .ok (.iaload, 1) := by decide +kernel
theorem dX8_apart_61 : decode cX8_apart 61 = .ok (.aload_n 0, 1) := by decide +kernel
theorem dX8_apart_62 : decode cX8_apart 62 = .ok (.getfield 16, 3) := by decide +kernel
theorem dX8_apart_65 : decode cX8_apart 65 = .ok (.iconst 4, 1) := by decide +kernel
theorem dX8_apart_66 : decode cX8_apart 66 = .ok (.iload_n 2, 1) := by decide +kernel
theorem dX8_apart_67 : decode cX8_apart 67 = .ok (.imul, 1) := by decide +kernel
theorem dX8_apart_68 : decode cX8_apart 68 = .ok (.iconst 1, 1) := by decide +kernel
theorem dX8_apart_69 : decode cX8_apart 69 = .ok (.iadd, 1) := by decide +kernel
theorem dX8_apart_70 : decode cX8_apart 70 = .ok (.iaload, 1) := by decide +kernel
theorem dX8_apart_71 : decode cX8_apart 71 = .ok (.aload_n 0, 1) := by decide +kernel
theorem dX8_apart_72 : decode cX8_apart 72 = .ok (.getfield 16, 3) := by decide +kernel
theorem dX8_apart_75 : decode cX8_apart 75 = .ok (.iconst 4, 1) := by decide +kernel
theorem dX8_apart_76 : decode cX8_apart 76 = .ok (.iload_n 2, 1) := by decide +kernel
theorem dX8_apart_77 : decode cX8_apart 77 = .ok (.imul, 1) := by decide +kernel
theorem dX8_apart_78 : decode cX8_apart 78 = .ok (.iconst 3, 1) := by decide +kernel
theorem dX8_apart_79 : decode cX8_apart 79 = .ok (.iadd, 1) := by decide +kernel
theorem dX8_apart_80 : decode cX8_apart 80 = .ok (.iaload, 1) := by decide +kernel
theorem dX8_apart_81 : decode cX8_apart 81 = .ok (.invokestatic 131, 3) := by decide +kernel
theorem dX8_apart_84 : decode cX8_apart 84 = .ok (.iadd, 1) := by decide +kernel
theorem dX8_apart_85 : decode cX8_apart 85 = .ok (.ireturn, 1) := by decide +kernel
theorem dX8_layBound_0 : decode cX8_layBound 0 = .ok (.iload_n 1, 1) := by decide +kernel
theorem dX8_layBound_1 : decode cX8_layBound 1 = .ok (.istore_n 2, 1) := by decide +kernel
theorem dX8_layBound_2 : decode cX8_layBound 2 = .ok (.iconst 0, 1) := by decide +kernel
theorem dX8_layBound_3 : decode cX8_layBound 3 = .ok (.istore_n 3, 1) := by decide +kernel
theorem dX8_layBound_4 : decode cX8_layBound 4 = .ok (.iload_n 3, 1) := by decide +kernel
theorem dX8_layBound_5 : decode cX8_layBound 5 = .ok (.aload_n 0, 1) := by decide +kernel
theorem dX8_layBound_6 : decode cX8_layBound 6 = .ok (.getfield 119, 3) := by decide +kernel
theorem dX8_layBound_9 : decode cX8_layBound 9 = .ok (.if_icmp .ge 148, 3) := by decide +kernel
theorem dX8_layBound_12 : decode cX8_layBound 12 = .ok (.aload_n 0, 1) := by decide +kernel
theorem dX8_layBound_13 : decode cX8_layBound 13 = .ok (.getfield 22, 3) := by decide +kernel
theorem dX8_layBound_16 : decode cX8_layBound 16 = .ok (.iload_n 3, 1) := by decide +kernel
theorem dX8_layBound_17 : decode cX8_layBound 17 = .ok (.iconst (-1), 1) := by decide +kernel
theorem dX8_layBound_18 : decode cX8_layBound 18 = .ok (.iastore, 1) := by decide +kernel
theorem dX8_layBound_19 : decode cX8_layBound 19 = .ok (.iconst 0, 1) := by decide +kernel
theorem dX8_layBound_20 : decode cX8_layBound 20 = .ok (.istore 4, 2) := by decide +kernel
theorem dX8_layBound_22 : decode cX8_layBound 22 = .ok (.iconst 0, 1) := by decide +kernel
theorem dX8_layBound_23 : decode cX8_layBound 23 = .ok (.istore 5, 2) := by decide +kernel
theorem dX8_layBound_25 : decode cX8_layBound 25 = .ok (.iload 5, 2) := by decide +kernel
theorem dX8_layBound_27 : decode cX8_layBound 27 = .ok (.aload_n 0, 1) := by decide +kernel
theorem dX8_layBound_28 : decode cX8_layBound 28 = .ok (.getfield 119, 3) := by decide +kernel
theorem dX8_layBound_31 : decode cX8_layBound 31 = .ok (.if_icmp .ge 98, 3) := by decide +kernel
theorem dX8_layBound_34 : decode cX8_layBound 34 = .ok (.iload_n 1, 1) := by decide +kernel
theorem dX8_layBound_35 : decode cX8_layBound 35 = .ok (.iload_n 3, 1) := by decide +kernel
theorem dX8_layBound_36 : decode cX8_layBound 36 = .ok (.invokestatic 101, 3) := by decide +kernel
theorem dX8_layBound_39 : decode cX8_layBound 39 = .ok (.ifCond .eq 90, 3) := by decide +kernel
theorem dX8_layBound_42 : decode cX8_layBound 42 = .ok (.aload_n 0, 1) := by decide +kernel
theorem dX8_layBound_43 : decode cX8_layBound 43 = .ok (.getfield 13, 3) := by decide +kernel
theorem dX8_layBound_46 : decode cX8_layBound 46 = .ok (.iload_n 3, 1) := by decide +kernel
theorem dX8_layBound_47 : decode cX8_layBound 47 = .ok (.iaload, 1) := by decide +kernel
theorem dX8_layBound_48 : decode cX8_layBound 48 = .ok (.iconst 4, 1) := by decide +kernel
theorem dX8_layBound_49 : decode cX8_layBound 49 = .ok (.if_icmp .ne 80, 3) := by decide +kernel
theorem dX8_layBound_52 : decode cX8_layBound 52 = .ok (.iload_n 1, 1) := by decide +kernel
theorem dX8_layBound_53 : decode cX8_layBound 53 = .ok (.iload 5, 2) := by decide +kernel
theorem dX8_layBound_55 : decode cX8_layBound 55 = .ok (.invokestatic 101, 3) := by decide +kernel
theorem dX8_layBound_58 : decode cX8_layBound 58 = .ok (.ifCond .eq 18, 3) := by decide +kernel
theorem dX8_layBound_61 : decode cX8_layBound 61 = .ok (.aload_n 0, 1) := by decide +kernel
theorem dX8_layBound_62 : decode cX8_layBound 62 = .ok (.getfield 13, 3) := by decide +kernel
theorem dX8_layBound_65 : decode cX8_layBound 65 = .ok (.iload 5, 2) := by decide +kernel
theorem dX8_layBound_67 : decode cX8_layBound 67 = .ok (.iaload, 1) := by decide +kernel
theorem dX8_layBound_68 : decode cX8_layBound 68 = .ok (.iconst 3, 1) := by decide +kernel
theorem dX8_layBound_69 : decode cX8_layBound 69 = .ok (.if_icmp .ne 7, 3) := by decide +kernel
theorem dX8_layBound_72 : decode cX8_layBound 72 = .ok (.iconst 1, 1) := by decide +kernel
theorem dX8_layBound_73 : decode cX8_layBound 73 = .ok (.goto 4, 3) := by decide +kernel
theorem dX8_layBound_76 : decode cX8_layBound 76 = .ok (.iconst 0, 1) := by decide +kernel
theorem dX8_layBound_77 : decode cX8_layBound 77 = .ok (.istore 6, 2) := by decide +kernel
theorem dX8_layBound_79 : decode cX8_layBound 79 = .ok (.iload 6, 2) := by decide +kernel
theorem dX8_layBound_81 : decode cX8_layBound 81 = .ok (.ifCond .eq 42, 3) := by decide +kernel
theorem dX8_layBound_84 : decode cX8_layBound 84 = .ok (.aload_n 0, 1) := by decide +kernel
theorem dX8_layBound_85 : decode cX8_layBound 85 = .ok (.getfield 22, 3) := by decide +kernel
theorem dX8_layBound_88 : decode cX8_layBound 88 = .ok (.iload_n 3, 1) := by decide +kernel
theorem dX8_layBound_89 : decode cX8_layBound 89 = .ok (.iaload, 1) := by decide +kernel
theorem dX8_layBound_90 : decode cX8_layBound 90 = .ok (.iconst (-1), 1) := by decide +kernel
theorem dX8_layBound_91 : decode cX8_layBound 91 = .ok (.if_icmp .eq 15, 3) := by decide +kernel
theorem dX8_layBound_94 : decode cX8_layBound 94 = .ok (.aload_n 0, 1) := by decide +kernel
theorem dX8_layBound_95 : decode cX8_layBound 95 = .ok (.iload_n 3, 1) := by decide +kernel
theorem dX8_layBound_96 : decode cX8_layBound 96 = .ok (.iload 5, 2) := by decide +kernel
theorem dX8_layBound_98 : decode cX8_layBound 98 = .ok (.invokevirtual 135, 3) := by decide +kernel
theorem dX8_layBound_101 : decode cX8_layBound 101 = .ok (.iload 4, 2) := by decide +kernel
theorem dX8_layBound_103 : decode cX8_layBound 103 = .ok (.if_icmp .ge 20, 3) := by decide +kernel
theorem dX8_layBound_106 : decode cX8_layBound 106 = .ok (.aload_n 0, 1) := by decide +kernel
theorem dX8_layBound_107 : decode cX8_layBound 107 = .ok (.getfield 22, 3) := by decide +kernel
theorem dX8_layBound_110 : decode cX8_layBound 110 = .ok (.iload_n 3, 1) := by decide +kernel
theorem dX8_layBound_111 : decode cX8_layBound 111 = .ok (.iload 5, 2) := by decide +kernel
theorem dX8_layBound_113 : decode cX8_layBound 113 = .ok (.iastore, 1) := by decide +kernel
theorem dX8_layBound_114 : decode cX8_layBound 114 = .ok (.aload_n 0, 1) := by decide +kernel
theorem dX8_layBound_115 : decode cX8_layBound 115 = .ok (.iload_n 3, 1) := by decide +kernel
theorem dX8_layBound_116 : decode cX8_layBound 116 = .ok (.iload 5, 2) := by decide +kernel
theorem dX8_layBound_118 : decode cX8_layBound 118 = .ok (.invokevirtual 135, 3) := by decide +kernel
theorem dX8_layBound_121 : decode cX8_layBound 121 = .ok (.istore 4, 2) := by decide +kernel
theorem dX8_layBound_123 : decode cX8_layBound 123 = .ok (.iinc 5 1, 3) := by decide +kernel
theorem dX8_layBound_126 : decode cX8_layBound 126 = .ok (.goto (-101), 3) := by decide +kernel
theorem dX8_layBound_129 : decode cX8_layBound 129 = .ok (.iload_n 2, 1) := by decide +kernel
theorem dX8_layBound_130 : decode cX8_layBound 130 = .ok (.aload_n 0, 1) := by decide +kernel
theorem dX8_layBound_131 : decode cX8_layBound 131 = .ok (.getfield 22, 3) := by decide +kernel
theorem dX8_layBound_134 : decode cX8_layBound 134 = .ok (.iload_n 3, 1) := by decide +kernel
theorem dX8_layBound_135 : decode cX8_layBound 135 = .ok (.iaload, 1) := by decide +kernel
theorem dX8_layBound_136 : decode cX8_layBound 136 = .ok (.iconst (-1), 1) := by decide +kernel
theorem dX8_layBound_137 : decode cX8_layBound 137 = .ok (.if_icmp .ne 7, 3) := by decide +kernel
theorem dX8_layBound_140 : decode cX8_layBound 140 = .ok (.iconst (-1), 1) := by decide +kernel
theorem dX8_layBound_141 : decode cX8_layBound 141 = .ok (.goto 8, 3) := by decide +kernel
theorem dX8_layBound_144 : decode cX8_layBound 144 = .ok (.iconst 1, 1) := by decide +kernel
theorem dX8_layBound_145 : decode cX8_layBound 145 = .ok (.iload_n 3, 1) := by decide +kernel
theorem dX8_layBound_146 : decode cX8_layBound 146 = .ok (.ishl, 1) := by decide +kernel
theorem dX8_layBound_147 : decode cX8_layBound 147 = .ok (.iconst (-1), 1) := by decide +kernel
theorem dX8_layBound_148 : decode cX8_layBound 148 = .ok (.ixor, 1) := by decide +kernel
theorem dX8_layBound_149 : decode cX8_layBound 149 = .ok (.iand, 1) := by decide +kernel
theorem dX8_layBound_150 : decode cX8_layBound 150 = .ok (.istore_n 2, 1) := by decide +kernel
theorem dX8_layBound_151 : decode cX8_layBound 151 = .ok (.iinc 3 1, 3) := by decide +kernel
theorem dX8_layBound_154 : decode cX8_layBound 154 = .ok (.goto (-150), 3) := by decide +kernel
theorem dX8_layBound_157 : decode cX8_layBound 157 = .ok (.iload_n 2, 1) := by decide +kernel
theorem dX8_layBound_158 : decode cX8_layBound 158 = .ok (.ireturn, 1) := by decide +kernel
theorem dX8_isLane_0 : decode cX8_isLane 0 = .ok (.iconst 0, 1) := by decide +kernel
theorem dX8_isLane_1 : decode cX8_isLane 1 = .ok (.istore 5, 2) := by decide +kernel
theorem dX8_isLane_3 : decode cX8_isLane 3 = .ok (.iload 5, 2) := by decide +kernel
theorem dX8_isLane_5 : decode cX8_isLane 5 = .ok (.aload_n 0, 1) := by decide +kernel
theorem dX8_isLane_6 : decode cX8_isLane 6 = .ok (.getfield 119, 3) := by decide +kernel
theorem dX8_isLane_9 : decode cX8_isLane 9 = .ok (.if_icmp .ge 53, 3) := by decide +kernel
theorem dX8_isLane_12 : decode cX8_isLane 12 = .ok (.iload_n 1, 1) := by decide +kernel
theorem dX8_isLane_13 : decode cX8_isLane 13 = .ok (.iload 5, 2) := by decide +kernel
theorem dX8_isLane_15 : decode cX8_isLane 15 = .ok (.invokestatic 101, 3) := by decide +kernel
theorem dX8_isLane_18 : decode cX8_isLane 18 = .ok (.ifCond .eq 38, 3) := by decide +kernel
theorem dX8_isLane_21 : decode cX8_isLane 21 = .ok (.aload_n 0, 1) := by decide +kernel
theorem dX8_isLane_22 : decode cX8_isLane 22 = .ok (.getfield 16, 3) := by decide +kernel
theorem dX8_isLane_25 : decode cX8_isLane 25 = .ok (.iconst 4, 1) := by decide +kernel
theorem dX8_isLane_26 : decode cX8_isLane 26 = .ok (.iload 5, 2) := by decide +kernel
theorem dX8_isLane_28 : decode cX8_isLane 28 = .ok (.imul, 1) := by decide +kernel
theorem dX8_isLane_29 : decode cX8_isLane 29 = .ok (.iload_n 2, 1) := by decide +kernel
theorem dX8_isLane_30 : decode cX8_isLane 30 = .ok (.iadd, 1) := by decide +kernel
theorem dX8_isLane_31 : decode cX8_isLane 31 = .ok (.iaload, 1) := by decide +kernel
theorem dX8_isLane_32 : decode cX8_isLane 32 = .ok (.iload 4, 2) := by decide +kernel
theorem dX8_isLane_34 : decode cX8_isLane 34 = .ok (.if_icmp .ge 22, 3) := by decide +kernel
theorem dX8_isLane_37 : decode cX8_isLane 37 = .ok (.aload_n 0, 1) := by decide +kernel
theorem dX8_isLane_38 : decode cX8_isLane 38 = .ok (.getfield 16, 3) := by decide +kernel
theorem dX8_isLane_41 : decode cX8_isLane 41 = .ok (.iconst 4, 1) := by decide +kernel
theorem dX8_isLane_42 : decode cX8_isLane 42 = .ok (.iload 5, 2) := by decide +kernel
theorem dX8_isLane_44 : decode cX8_isLane 44 = .ok (.imul, 1) := by decide +kernel
theorem dX8_isLane_45 : decode cX8_isLane 45 = .ok (.iconst 2, 1) := by decide +kernel
theorem dX8_isLane_46 : decode cX8_isLane 46 = .ok (.iadd, 1) := by decide +kernel
theorem dX8_isLane_47 : decode cX8_isLane 47 = .ok (.iload_n 2, 1) := by decide +kernel
theorem dX8_isLane_48 : decode cX8_isLane 48 = .ok (.iadd, 1) := by decide +kernel
theorem dX8_isLane_49 : decode cX8_isLane 49 = .ok (.iaload, 1) := by decide +kernel
theorem dX8_isLane_50 : decode cX8_isLane 50 = .ok (.iload_n 3, 1) := by decide +kernel
theorem dX8_isLane_51 : decode cX8_isLane 51 = .ok (.if_icmp .le 5, 3) := by decide +kernel
theorem dX8_isLane_54 : decode cX8_isLane 54 = .ok (.iconst 0, 1) := by decide +kernel
theorem dX8_isLane_55 : decode cX8_isLane 55 = .ok (.ireturn, 1) := by decide +kernel
theorem dX8_isLane_56 : decode cX8_isLane 56 = .ok (.iinc 5 1, 3) := by decide +kernel
theorem dX8_isLane_59 : decode cX8_isLane 59 = .ok (.goto (-56), 3) := by decide +kernel
theorem dX8_isLane_62 : decode cX8_isLane 62 = .ok (.iconst 1, 1) := by decide +kernel
theorem dX8_isLane_63 : decode cX8_isLane 63 = .ok (.ireturn, 1) := by decide +kernel
theorem dX8_layLane_0 : decode cX8_layLane 0 = .ok (.aload_n 0, 1) := by decide +kernel
theorem dX8_layLane_1 : decode cX8_layLane 1 = .ok (.iconst (-1), 1) := by decide +kernel
theorem dX8_layLane_2 : decode cX8_layLane 2 = .ok (.putfield 142, 3) := by decide +kernel
theorem dX8_layLane_5 : decode cX8_layLane 5 = .ok (.aload_n 0, 1) := by decide +kernel
theorem dX8_layLane_6 : decode cX8_layLane 6 = .ok (.iconst (-1), 1) := by decide +kernel
theorem dX8_layLane_7 : decode cX8_layLane 7 = .ok (.putfield 145, 3) := by decide +kernel
theorem dX8_layLane_10 : decode cX8_layLane 10 = .ok (.aload_n 0, 1) := by decide +kernel
theorem dX8_layLane_11 : decode cX8_layLane 11 = .ok (.iconst 0, 1) := by decide +kernel
theorem dX8_layLane_12 : decode cX8_layLane 12 = .ok (.putfield 139, 3) := by decide +kernel
theorem dX8_layLane_15 : decode cX8_layLane 15 = .ok (.iconst 1, 1) := by decide +kernel
theorem dX8_layLane_16 : decode cX8_layLane 16 = .ok (.istore_n 2, 1) := by decide +kernel
theorem dX8_layLane_17 : decode cX8_layLane 17 = .ok (.iload_n 2, 1) := by decide +kernel
theorem dX8_layLane_18 : decode cX8_layLane 18 = .ok (.ifCond .lt 83, 3) := by decide +kernel
theorem dX8_layLane_21 : decode cX8_layLane 21 = .ok (.iconst 0, 1) := by decide +kernel
theorem dX8_layLane_22 : decode cX8_layLane 22 = .ok (.istore_n 3, 1) := by decide +kernel
theorem dX8_layLane_23 : decode cX8_layLane 23 = .ok (.iload_n 3, 1) := by decide +kernel
theorem dX8_layLane_24 : decode cX8_layLane 24 = .ok (.bipush 64, 2) := by decide +kernel
theorem dX8_layLane_26 : decode cX8_layLane 26 = .ok (.if_icmp .ge 69, 3) := by decide +kernel
theorem dX8_layLane_29 : decode cX8_layLane 29 = .ok (.iload_n 3, 1) := by decide +kernel
theorem dX8_layLane_30 : decode cX8_layLane 30 = .ok (.bipush 8, 2) := by decide +kernel
theorem dX8_layLane_32 : decode cX8_layLane 32 = .ok (.idiv, 1) := by decide +kernel
theorem dX8_layLane_33 : decode cX8_layLane 33 = .ok (.istore 4, 2) := by decide +kernel
theorem dX8_layLane_35 : decode cX8_layLane 35 = .ok (.iload_n 3, 1) := by decide +kernel
theorem dX8_layLane_36 : decode cX8_layLane 36 = .ok (.bipush 8, 2) := by decide +kernel
theorem dX8_layLane_38 : decode cX8_layLane 38 = .ok (.irem, 1) := by decide +kernel
theorem dX8_layLane_39 : decode cX8_layLane 39 = .ok (.istore 5, 2) := by decide +kernel
theorem dX8_layLane_41 : decode cX8_layLane 41 = .ok (.iload_n 1, 1) := by decide +kernel
theorem dX8_layLane_42 : decode cX8_layLane 42 = .ok (.iload 4, 2) := by decide +kernel
theorem dX8_layLane_44 : decode cX8_layLane 44 = .ok (.invokestatic 101, 3) := by decide +kernel
theorem dX8_layLane_47 : decode cX8_layLane 47 = .ok (.ifCond .eq 42, 3) := by decide +kernel
theorem dX8_layLane_50 : decode cX8_layLane 50 = .ok (.iload_n 1, 1) := by decide +kernel
theorem dX8_layLane_51 : decode cX8_layLane 51 = .ok (.iload 5, 2) := by decide +kernel
theorem dX8_layLane_53 : decode cX8_layLane 53 = .ok (.invokestatic 101, 3) := by decide +kernel
theorem dX8_layLane_56 : decode cX8_layLane 56 = .ok (.ifCond .eq 33, 3) := by decide +kernel
theorem dX8_layLane_59 : decode cX8_layLane 59 = .ok (.aload_n 0, 1) := by decide +kernel
theorem dX8_layLane_60 : decode cX8_layLane 60 = .ok (.iload_n 1, 1) := by decide +kernel
theorem dX8_layLane_61 : decode cX8_layLane 61 = .ok (.iload_n 2, 1) := by decide +kernel
theorem dX8_layLane_62 : decode cX8_layLane 62 = .ok (.aload_n 0, 1) := by decide +kernel
theorem dX8_layLane_63 : decode cX8_layLane 63 = .ok (.getfield 16, 3) := by decide +kernel
theorem dX8_layLane_66 : decode cX8_layLane 66 = .ok (.iconst 4, 1) := by decide +kernel
theorem dX8_layLane_67 : decode cX8_layLane 67 = .ok (.iload 4, 2) := by decide +kernel
theorem dX8_layLane_69 : decode cX8_layLane 69 = .ok (.imul, 1) := by decide +kernel
theorem dX8_layLane_70 : decode cX8_layLane 70 = .ok (.iconst 2, 1) := by decide +kernel
theorem dX8_layLane_71 : decode cX8_layLane 71 = .ok (.iadd, 1) := by decide +kernel
theorem dX8_layLane_72 : decode cX8_layLane 72 = .ok (.iload_n 2, 1) := by decide +kernel
theorem dX8_layLane_73 : decode cX8_layLane 73 = .ok (.iadd, 1) := by decide +kernel
theorem dX8_layLane_74 : decode cX8_layLane 74 = .ok (.iaload, 1) := by decide +kernel
theorem dX8_layLane_75 : decode cX8_layLane 75 = .ok (.aload_n 0, 1) := by decide +kernel
theorem dX8_layLane_76 : decode cX8_layLane 76 = .ok (.getfield 16, 3) := by decide +kernel
theorem dX8_layLane_79 : decode cX8_layLane 79 = .ok (.iconst 4, 1) := by decide +kernel
theorem dX8_layLane_80 : decode cX8_layLane 80 = .ok (.iload 5, 2) := by decide +kernel
theorem dX8_layLane_82 : decode cX8_layLane 82 = .ok (.imul, 1) := by decide +kernel
theorem dX8_layLane_83 : decode cX8_layLane 83 = .ok (.iload_n 2, 1) := by decide +kernel
theorem dX8_layLane_84 : decode cX8_layLane 84 = .ok (.iadd, 1) := by decide +kernel
theorem dX8_layLane_85 : decode cX8_layLane 85 = .ok (.iaload, 1) := by decide +kernel
theorem dX8_layLane_86 : decode cX8_layLane 86 = .ok (.invokevirtual 152, 3) := by decide +kernel
theorem dX8_layLane_89 : decode cX8_layLane 89 = .ok (.iinc 3 1, 3) := by decide +kernel
theorem dX8_layLane_92 : decode cX8_layLane 92 = .ok (.goto (-69), 3) := by decide +kernel
theorem dX8_layLane_95 : decode cX8_layLane 95 = .ok (.iinc 2 (-1), 3) := by decide +kernel
theorem dX8_layLane_98 : decode cX8_layLane 98 = .ok (.goto (-81), 3) := by decide +kernel
theorem dX8_layLane_101 : decode cX8_layLane 101 = .ok (.return_, 1) := by decide +kernel
theorem dX8_firstSide_0 : decode cX8_firstSide 0 = .ok (.iconst 0, 1) := by decide +kernel
theorem dX8_firstSide_1 : decode cX8_firstSide 1 = .ok (.istore_n 2, 1) := by decide +kernel
theorem dX8_firstSide_2 : decode cX8_firstSide 2 = .ok (.iconst 0, 1) := by decide +kernel
theorem dX8_firstSide_3 : decode cX8_firstSide 3 = .ok (.istore_n 3, 1) := by decide +kernel
theorem dX8_firstSide_4 : decode cX8_firstSide 4 = .ok (.iload_n 3, 1) := by decide +kernel
theorem dX8_firstSide_5 : decode cX8_firstSide 5 = .ok (.aload_n 0, 1) := by decide +kernel
theorem dX8_firstSide_6 : decode cX8_firstSide 6 = .ok (.getfield 119, 3) := by decide +kernel
theorem dX8_firstSide_9 : decode cX8_firstSide 9 = .ok (.if_icmp .ge 49, 3) := by decide +kernel
theorem dX8_firstSide_12 : decode cX8_firstSide 12 = .ok (.iload_n 2, 1) := by decide +kernel
theorem dX8_firstSide_13 : decode cX8_firstSide 13 = .ok (.iload_n 1, 1) := by decide +kernel
theorem dX8_firstSide_14 : decode cX8_firstSide 14 = .ok (.iload_n 3, 1) := by decide +kernel
theorem dX8_firstSide_15 : decode cX8_firstSide 15 = .ok (.invokestatic 101, 3) := by decide +kernel
theorem dX8_firstSide_18 : decode cX8_firstSide 18 = .ok (.ifCond .eq 31, 3) := by decide +kernel
theorem dX8_firstSide_21 : decode cX8_firstSide 21 = .ok (.aload_n 0, 1) := by decide +kernel
theorem dX8_firstSide_22 : decode cX8_firstSide 22 = .ok (.getfield 16, 3) := by decide +kernel
theorem dX8_firstSide_25 : decode cX8_firstSide 25 = .ok (.iconst 4, 1) := by decide +kernel
theorem dX8_firstSide_26 : decode cX8_firstSide 26 = .ok (.iload_n 3, 1) := by decide +kernel
theorem dX8_firstSide_27 : decode cX8_firstSide 27 = .ok (.imul, 1) := by decide +kernel
theorem dX8_firstSide_28 : decode cX8_firstSide 28 = .ok (.iconst 2, 1) := by decide +kernel
theorem dX8_firstSide_29 : decode cX8_firstSide 29 = .ok (.iadd, 1) := by decide +kernel
theorem dX8_firstSide_30 : decode cX8_firstSide 30 = .ok (.aload_n 0, 1) := by decide +kernel
theorem dX8_firstSide_31 : decode cX8_firstSide 31 = .ok (.getfield 142, 3) := by decide +kernel
theorem dX8_firstSide_34 : decode cX8_firstSide 34 = .ok (.iadd, 1) := by decide +kernel
theorem dX8_firstSide_35 : decode cX8_firstSide 35 = .ok (.iaload, 1) := by decide +kernel
theorem dX8_firstSide_36 : decode cX8_firstSide 36 = .ok (.aload_n 0, 1) := by decide +kernel
theorem dX8_firstSide_37 : decode cX8_firstSide 37 = .ok (.getfield 145, 3) := by decide +kernel
theorem dX8_firstSide_40 : decode cX8_firstSide 40 = .ok (.if_icmp .gt 9, 3) := by decide +kernel
theorem dX8_firstSide_43 : decode cX8_firstSide 43 = .ok (.iconst 1, 1) := by decide +kernel
theorem dX8_firstSide_44 : decode cX8_firstSide 44 = .ok (.iload_n 3, 1) := by decide +kernel
theorem dX8_firstSide_45 : decode cX8_firstSide 45 = .ok (.ishl, 1) := by decide +kernel
theorem dX8_firstSide_46 : decode cX8_firstSide 46 = .ok (.goto 4, 3) := by decide +kernel
theorem dX8_firstSide_49 : decode cX8_firstSide 49 = .ok (.iconst 0, 1) := by decide +kernel
theorem dX8_firstSide_50 : decode cX8_firstSide 50 = .ok (.ior, 1) := by decide +kernel
theorem dX8_firstSide_51 : decode cX8_firstSide 51 = .ok (.istore_n 2, 1) := by decide +kernel
theorem dX8_firstSide_52 : decode cX8_firstSide 52 = .ok (.iinc 3 1, 3) := by decide +kernel
theorem dX8_firstSide_55 : decode cX8_firstSide 55 = .ok (.goto (-51), 3) := by decide +kernel
theorem dX8_firstSide_58 : decode cX8_firstSide 58 = .ok (.iload_n 2, 1) := by decide +kernel
theorem dX8_firstSide_59 : decode cX8_firstSide 59 = .ok (.ireturn, 1) := by decide +kernel
theorem dX8_isSort_0 : decode cX8_isSort 0 = .ok (.iload_n 2, 1) := by decide +kernel
theorem dX8_isSort_1 : decode cX8_isSort 1 = .ok (.ifCond .ne 21, 3) := by decide +kernel
theorem dX8_isSort_4 : decode cX8_isSort 4 = .ok (.aload_n 0, 1) := by decide +kernel
theorem dX8_isSort_5 : decode cX8_isSort 5 = .ok (.getfield 13, 3) := by decide +kernel
theorem dX8_isSort_8 : decode cX8_isSort 8 = .ok (.iload_n 1, 1) := by decide +kernel
theorem dX8_isSort_9 : decode cX8_isSort 9 = .ok (.iaload, 1) := by decide +kernel
theorem dX8_isSort_10 : decode cX8_isSort 10 = .ok (.iconst 1, 1) := by decide +kernel
theorem dX8_isSort_11 : decode cX8_isSort 11 = .ok (.if_icmp .ne 7, 3) := by decide +kernel
theorem dX8_isSort_14 : decode cX8_isSort 14 = .ok (.iconst 1, 1) := by decide +kernel
theorem dX8_isSort_15 : decode cX8_isSort 15 = .ok (.goto 32, 3) := by decide +kernel
theorem dX8_isSort_18 : decode cX8_isSort 18 = .ok (.iconst 0, 1) := by decide +kernel
theorem dX8_isSort_19 : decode cX8_isSort 19 = .ok (.goto 28, 3) := by decide +kernel
theorem dX8_isSort_22 : decode cX8_isSort 22 = .ok (.aload_n 0, 1) := by decide +kernel
theorem dX8_isSort_23 : decode cX8_isSort 23 = .ok (.getfield 13, 3) := by decide +kernel
theorem dX8_isSort_26 : decode cX8_isSort 26 = .ok (.iload_n 1, 1) := by decide +kernel
theorem dX8_isSort_27 : decode cX8_isSort 27 = .ok (.iaload, 1) := by decide +kernel
theorem dX8_isSort_28 : decode cX8_isSort 28 = .ok (.iconst 2, 1) := by decide +kernel
theorem dX8_isSort_29 : decode cX8_isSort 29 = .ok (.if_icmp .eq 13, 3) := by decide +kernel
theorem dX8_isSort_32 : decode cX8_isSort 32 = .ok (.aload_n 0, 1) := by decide +kernel
theorem dX8_isSort_33 : decode cX8_isSort 33 = .ok (.getfield 13, 3) := by decide +kernel
theorem dX8_isSort_36 : decode cX8_isSort 36 = .ok (.iload_n 1, 1) := by decide +kernel
theorem dX8_isSort_37 : decode cX8_isSort 37 = .ok (.iaload, 1) := by decide +kernel
theorem dX8_isSort_38 : decode cX8_isSort 38 = .ok (.iconst 4, 1) := by decide +kernel
theorem dX8_isSort_39 : decode cX8_isSort 39 = .ok (.if_icmp .ne 7, 3) := by decide +kernel
theorem dX8_isSort_42 : decode cX8_isSort 42 = .ok (.iconst 1, 1) := by decide +kernel
theorem dX8_isSort_43 : decode cX8_isSort 43 = .ok (.goto 4, 3) := by decide +kernel
theorem dX8_isSort_46 : decode cX8_isSort 46 = .ok (.iconst 0, 1) := by decide +kernel
theorem dX8_isSort_47 : decode cX8_isSort 47 = .ok (.ireturn, 1) := by decide +kernel
theorem dX8_byRule_0 : decode cX8_byRule 0 = .ok (.iload_n 1, 1) := by decide +kernel
theorem dX8_byRule_1 : decode cX8_byRule 1 = .ok (.tableswitch 109 0 2 #[27, 57, 87], 27) := by decide +kernel
theorem dX8_byRule_28 : decode cX8_byRule 28 = .ok (.aload_n 0, 1) := by decide +kernel
theorem dX8_byRule_29 : decode cX8_byRule 29 = .ok (.iload_n 3, 1) := by decide +kernel
theorem dX8_byRule_30 : decode cX8_byRule 30 = .ok (.iconst 0, 1) := by decide +kernel
theorem dX8_byRule_31 : decode cX8_byRule 31 = .ok (.invokevirtual 156, 3) := by decide +kernel
theorem dX8_byRule_34 : decode cX8_byRule 34 = .ok (.ifCond .eq 7, 3) := by decide +kernel
theorem dX8_byRule_37 : decode cX8_byRule 37 = .ok (.iconst 1, 1) := by decide +kernel
theorem dX8_byRule_38 : decode cX8_byRule 38 = .ok (.goto 4, 3) := by decide +kernel
theorem dX8_byRule_41 : decode cX8_byRule 41 = .ok (.iconst 0, 1) := by decide +kernel
theorem dX8_byRule_42 : decode cX8_byRule 42 = .ok (.aload_n 0, 1) := by decide +kernel
theorem dX8_byRule_43 : decode cX8_byRule 43 = .ok (.iload_n 2, 1) := by decide +kernel
theorem dX8_byRule_44 : decode cX8_byRule 44 = .ok (.iconst 0, 1) := by decide +kernel
theorem dX8_byRule_45 : decode cX8_byRule 45 = .ok (.invokevirtual 156, 3) := by decide +kernel
theorem dX8_byRule_48 : decode cX8_byRule 48 = .ok (.ifCond .eq 7, 3) := by decide +kernel
theorem dX8_byRule_51 : decode cX8_byRule 51 = .ok (.iconst 1, 1) := by decide +kernel
theorem dX8_byRule_52 : decode cX8_byRule 52 = .ok (.goto 4, 3) := by decide +kernel
theorem dX8_byRule_55 : decode cX8_byRule 55 = .ok (.iconst 0, 1) := by decide +kernel
theorem dX8_byRule_56 : decode cX8_byRule 56 = .ok (.isub, 1) := by decide +kernel
theorem dX8_byRule_57 : decode cX8_byRule 57 = .ok (.ireturn, 1) := by decide +kernel
theorem dX8_byRule_58 : decode cX8_byRule 58 = .ok (.aload_n 0, 1) := by decide +kernel
theorem dX8_byRule_59 : decode cX8_byRule 59 = .ok (.iload_n 2, 1) := by decide +kernel
theorem dX8_byRule_60 : decode cX8_byRule 60 = .ok (.iconst 1, 1) := by decide +kernel
theorem dX8_byRule_61 : decode cX8_byRule 61 = .ok (.invokevirtual 156, 3) := by decide +kernel
theorem dX8_byRule_64 : decode cX8_byRule 64 = .ok (.ifCond .eq 7, 3) := by decide +kernel
theorem dX8_byRule_67 : decode cX8_byRule 67 = .ok (.iconst 1, 1) := by decide +kernel
theorem dX8_byRule_68 : decode cX8_byRule 68 = .ok (.goto 4, 3) := by decide +kernel
theorem dX8_byRule_71 : decode cX8_byRule 71 = .ok (.iconst 0, 1) := by decide +kernel
theorem dX8_byRule_72 : decode cX8_byRule 72 = .ok (.aload_n 0, 1) := by decide +kernel
theorem dX8_byRule_73 : decode cX8_byRule 73 = .ok (.iload_n 3, 1) := by decide +kernel
theorem dX8_byRule_74 : decode cX8_byRule 74 = .ok (.iconst 1, 1) := by decide +kernel
theorem dX8_byRule_75 : decode cX8_byRule 75 = .ok (.invokevirtual 156, 3) := by decide +kernel
theorem dX8_byRule_78 : decode cX8_byRule 78 = .ok (.ifCond .eq 7, 3) := by decide +kernel
theorem dX8_byRule_81 : decode cX8_byRule 81 = .ok (.iconst 1, 1) := by decide +kernel
theorem dX8_byRule_82 : decode cX8_byRule 82 = .ok (.goto 4, 3) := by decide +kernel
theorem dX8_byRule_85 : decode cX8_byRule 85 = .ok (.iconst 0, 1) := by decide +kernel
theorem dX8_byRule_86 : decode cX8_byRule 86 = .ok (.isub, 1) := by decide +kernel
theorem dX8_byRule_87 : decode cX8_byRule 87 = .ok (.ireturn, 1) := by decide +kernel
theorem dX8_byRule_88 : decode cX8_byRule 88 = .ok (.aload_n 0, 1) := by decide +kernel
theorem dX8_byRule_89 : decode cX8_byRule 89 = .ok (.getfield 16, 3) := by decide +kernel
theorem dX8_byRule_92 : decode cX8_byRule 92 = .ok (.iconst 4, 1) := by decide +kernel
theorem dX8_byRule_93 : decode cX8_byRule 93 = .ok (.iload_n 2, 1) := by decide +kernel
theorem dX8_byRule_94 : decode cX8_byRule 94 = .ok (.imul, 1) := by decide +kernel
theorem dX8_byRule_95 : decode cX8_byRule 95 = .ok (.iconst 1, 1) := by decide +kernel
theorem dX8_byRule_96 : decode cX8_byRule 96 = .ok (.iadd, 1) := by decide +kernel
theorem dX8_byRule_97 : decode cX8_byRule 97 = .ok (.iaload, 1) := by decide +kernel
theorem dX8_byRule_98 : decode cX8_byRule 98 = .ok (.aload_n 0, 1) := by decide +kernel
theorem dX8_byRule_99 : decode cX8_byRule 99 = .ok (.getfield 16, 3) := by decide +kernel
theorem dX8_byRule_102 : decode cX8_byRule 102 = .ok (.iconst 4, 1) := by decide +kernel
theorem dX8_byRule_103 : decode cX8_byRule 103 = .ok (.iload_n 3, 1) := by decide +kernel
theorem dX8_byRule_104 : decode cX8_byRule 104 = .ok (.imul, 1) := by decide +kernel
theorem dX8_byRule_105 : decode cX8_byRule 105 = .ok (.iconst 1, 1) := by decide +kernel
theorem dX8_byRule_106 : decode cX8_byRule 106 = .ok (.iadd, 1) := by decide +kernel
theorem dX8_byRule_107 : decode cX8_byRule 107 = .ok (.iaload, 1) := by decide +kernel
theorem dX8_byRule_108 : decode cX8_byRule 108 = .ok (.isub, 1) := by decide +kernel
theorem dX8_byRule_109 : decode cX8_byRule 109 = .ok (.ireturn, 1) := by decide +kernel
theorem dX8_byRule_110 : decode cX8_byRule 110 = .ok (.aload_n 0, 1) := by decide +kernel
theorem dX8_byRule_111 : decode cX8_byRule 111 = .ok (.getfield 16, 3) := by decide +kernel
theorem dX8_byRule_114 : decode cX8_byRule 114 = .ok (.iconst 4, 1) := by decide +kernel
theorem dX8_byRule_115 : decode cX8_byRule 115 = .ok (.iload_n 2, 1) := by decide +kernel
theorem dX8_byRule_116 : decode cX8_byRule 116 = .ok (.imul, 1) := by decide +kernel
theorem dX8_byRule_117 : decode cX8_byRule 117 = .ok (.iaload, 1) := by decide +kernel
theorem dX8_byRule_118 : decode cX8_byRule 118 = .ok (.aload_n 0, 1) := by decide +kernel
theorem dX8_byRule_119 : decode cX8_byRule 119 = .ok (.getfield 16, 3) := by decide +kernel
theorem dX8_byRule_122 : decode cX8_byRule 122 = .ok (.iconst 4, 1) := by decide +kernel
theorem dX8_byRule_123 : decode cX8_byRule 123 = .ok (.iload_n 3, 1) := by decide +kernel
theorem dX8_byRule_124 : decode cX8_byRule 124 = .ok (.imul, 1) := by decide +kernel
theorem dX8_byRule_125 : decode cX8_byRule 125 = .ok (.iaload, 1) := by decide +kernel
theorem dX8_byRule_126 : decode cX8_byRule 126 = .ok (.isub, 1) := by decide +kernel
theorem dX8_byRule_127 : decode cX8_byRule 127 = .ok (.ireturn, 1) := by decide +kernel
theorem dX8_isAhead_0 : decode cX8_isAhead 0 = .ok (.aload_n 0, 1) := by decide +kernel
theorem dX8_isAhead_1 : decode cX8_isAhead 1 = .ok (.iload_n 1, 1) := by decide +kernel
theorem dX8_isAhead_2 : decode cX8_isAhead 2 = .ok (.iload_n 2, 1) := by decide +kernel
theorem dX8_isAhead_3 : decode cX8_isAhead 3 = .ok (.invokevirtual 163, 3) := by decide +kernel
theorem dX8_isAhead_6 : decode cX8_isAhead 6 = .ok (.istore_n 3, 1) := by decide +kernel
theorem dX8_isAhead_7 : decode cX8_isAhead 7 = .ok (.iload_n 3, 1) := by decide +kernel
theorem dX8_isAhead_8 : decode cX8_isAhead 8 = .ok (.iconst 4, 1) := by decide +kernel
theorem dX8_isAhead_9 : decode cX8_isAhead 9 = .ok (.if_icmp .ne 16, 3) := by decide +kernel
theorem dX8_isAhead_12 : decode cX8_isAhead 12 = .ok (.iload_n 1, 1) := by decide +kernel
theorem dX8_isAhead_13 : decode cX8_isAhead 13 = .ok (.iload_n 2, 1) := by decide +kernel
theorem dX8_isAhead_14 : decode cX8_isAhead 14 = .ok (.if_icmp .ge 7, 3) := by decide +kernel
theorem dX8_isAhead_17 : decode cX8_isAhead 17 = .ok (.iconst 1, 1) := by decide +kernel
theorem dX8_isAhead_18 : decode cX8_isAhead 18 = .ok (.goto 22, 3) := by decide +kernel
theorem dX8_isAhead_21 : decode cX8_isAhead 21 = .ok (.iconst 0, 1) := by decide +kernel
theorem dX8_isAhead_22 : decode cX8_isAhead 22 = .ok (.goto 18, 3) := by decide +kernel
theorem dX8_isAhead_25 : decode cX8_isAhead 25 = .ok (.aload_n 0, 1) := by decide +kernel
theorem dX8_isAhead_26 : decode cX8_isAhead 26 = .ok (.iload_n 3, 1) := by decide +kernel
theorem dX8_isAhead_27 : decode cX8_isAhead 27 = .ok (.iload_n 1, 1) := by decide +kernel
theorem dX8_isAhead_28 : decode cX8_isAhead 28 = .ok (.iload_n 2, 1) := by decide +kernel
theorem dX8_isAhead_29 : decode cX8_isAhead 29 = .ok (.invokevirtual 159, 3) := by decide +kernel
theorem dX8_isAhead_32 : decode cX8_isAhead 32 = .ok (.ifCond .ge 7, 3) := by decide +kernel
theorem dX8_isAhead_35 : decode cX8_isAhead 35 = .ok (.iconst 1, 1) := by decide +kernel
theorem dX8_isAhead_36 : decode cX8_isAhead 36 = .ok (.goto 4, 3) := by decide +kernel
theorem dX8_isAhead_39 : decode cX8_isAhead 39 = .ok (.iconst 0, 1) := by decide +kernel
theorem dX8_isAhead_40 : decode cX8_isAhead 40 = .ok (.ireturn, 1) := by decide +kernel
theorem dX8_append_0 : decode cX8_append 0 = .ok (.aload_n 0, 1) := by decide +kernel
theorem dX8_append_1 : decode cX8_append 1 = .ok (.getfield 25, 3) := by decide +kernel
theorem dX8_append_4 : decode cX8_append 4 = .ok (.aload_n 0, 1) := by decide +kernel
theorem dX8_append_5 : decode cX8_append 5 = .ok (.getfield 166, 3) := by decide +kernel
theorem dX8_append_8 : decode cX8_append 8 = .ok (.iload_n 1, 1) := by decide +kernel
theorem dX8_append_9 : decode cX8_append 9 = .ok (.iastore, 1) := by decide +kernel
theorem dX8_append_10 : decode cX8_append 10 = .ok (.aload_n 0, 1) := by decide +kernel
theorem dX8_append_11 : decode cX8_append 11 = .ok (.dup, 1) := by decide +kernel
theorem dX8_append_12 : decode cX8_append 12 = .ok (.getfield 166, 3) := by decide +kernel
theorem dX8_append_15 : decode cX8_append 15 = .ok (.iconst 1, 1) := by decide +kernel
theorem dX8_append_16 : decode cX8_append 16 = .ok (.iadd, 1) := by decide +kernel
theorem dX8_append_17 : decode cX8_append 17 = .ok (.putfield 166, 3) := by decide +kernel
theorem dX8_append_20 : decode cX8_append 20 = .ok (.iconst 0, 1) := by decide +kernel
theorem dX8_append_21 : decode cX8_append 21 = .ok (.istore_n 2, 1) := by decide +kernel
theorem dX8_append_22 : decode cX8_append 22 = .ok (.iload_n 2, 1) := by decide +kernel
theorem dX8_append_23 : decode cX8_append 23 = .ok (.aload_n 0, 1) := by decide +kernel
theorem dX8_append_24 : decode cX8_append 24 = .ok (.getfield 119, 3) := by decide +kernel
theorem dX8_append_27 : decode cX8_append 27 = .ok (.if_icmp .ge 39, 3) := by decide +kernel
theorem dX8_append_30 : decode cX8_append 30 = .ok (.aload_n 0, 1) := by decide +kernel
theorem dX8_append_31 : decode cX8_append 31 = .ok (.getfield 22, 3) := by decide +kernel
theorem dX8_append_34 : decode cX8_append 34 = .ok (.iload_n 2, 1) := by decide +kernel
theorem dX8_append_35 : decode cX8_append 35 = .ok (.iaload, 1) := by decide +kernel
theorem dX8_append_36 : decode cX8_append 36 = .ok (.iload_n 1, 1) := by decide +kernel
theorem dX8_append_37 : decode cX8_append 37 = .ok (.if_icmp .ne 23, 3) := by decide +kernel
theorem dX8_append_40 : decode cX8_append 40 = .ok (.aload_n 0, 1) := by decide +kernel
theorem dX8_append_41 : decode cX8_append 41 = .ok (.getfield 25, 3) := by decide +kernel
theorem dX8_append_44 : decode cX8_append 44 = .ok (.aload_n 0, 1) := by decide +kernel
theorem dX8_append_45 : decode cX8_append 45 = .ok (.getfield 166, 3) := by decide +kernel
theorem dX8_append_48 : decode cX8_append 48 = .ok (.iload_n 2, 1) := by decide +kernel
theorem dX8_append_49 : decode cX8_append 49 = .ok (.iastore, 1) := by decide +kernel
theorem dX8_append_50 : decode cX8_append 50 = .ok (.aload_n 0, 1) := by decide +kernel
theorem dX8_append_51 : decode cX8_append 51 = .ok (.dup, 1) := by decide +kernel
theorem dX8_append_52 : decode cX8_append 52 = .ok (.getfield 166, 3) := by decide +kernel
theorem dX8_append_55 : decode cX8_append 55 = .ok (.iconst 1, 1) := by decide +kernel
theorem dX8_append_56 : decode cX8_append 56 = .ok (.iadd, 1) := by decide +kernel
theorem dX8_append_57 : decode cX8_append 57 = .ok (.putfield 166, 3) := by decide +kernel
theorem dX8_append_60 : decode cX8_append 60 = .ok (.iinc 2 1, 3) := by decide +kernel
theorem dX8_append_63 : decode cX8_append 63 = .ok (.goto (-41), 3) := by decide +kernel
theorem dX8_append_66 : decode cX8_append 66 = .ok (.return_, 1) := by decide +kernel
theorem dX8_layLeaf_0 : decode cX8_layLeaf 0 = .ok (.iload_n 1, 1) := by decide +kernel
theorem dX8_layLeaf_1 : decode cX8_layLeaf 1 = .ok (.istore_n 3, 1) := by decide +kernel
theorem dX8_layLeaf_2 : decode cX8_layLeaf 2 = .ok (.iload_n 3, 1) := by decide +kernel
theorem dX8_layLeaf_3 : decode cX8_layLeaf 3 = .ok (.ifCond .eq 96, 3) := by decide +kernel
theorem dX8_layLeaf_6 : decode cX8_layLeaf 6 = .ok (.iconst (-1), 1) := by decide +kernel
theorem dX8_layLeaf_7 : decode cX8_layLeaf 7 = .ok (.istore 4, 2) := by decide +kernel
theorem dX8_layLeaf_9 : decode cX8_layLeaf 9 = .ok (.iconst 0, 1) := by decide +kernel
theorem dX8_layLeaf_10 : decode cX8_layLeaf 10 = .ok (.istore 5, 2) := by decide +kernel
theorem dX8_layLeaf_12 : decode cX8_layLeaf 12 = .ok (.iload 5, 2) := by decide +kernel
theorem dX8_layLeaf_14 : decode cX8_layLeaf 14 = .ok (.aload_n 0, 1) := by decide +kernel
theorem dX8_layLeaf_15 : decode cX8_layLeaf 15 = .ok (.getfield 119, 3) := by decide +kernel
theorem dX8_layLeaf_18 : decode cX8_layLeaf 18 = .ok (.if_icmp .ge 44, 3) := by decide +kernel
theorem dX8_layLeaf_21 : decode cX8_layLeaf 21 = .ok (.iload_n 3, 1) := by decide +kernel
theorem dX8_layLeaf_22 : decode cX8_layLeaf 22 = .ok (.iload 5, 2) := by decide +kernel
theorem dX8_layLeaf_24 : decode cX8_layLeaf 24 = .ok (.invokestatic 101, 3) := by decide +kernel
theorem dX8_layLeaf_27 : decode cX8_layLeaf 27 = .ok (.ifCond .eq 25, 3) := by decide +kernel
theorem dX8_layLeaf_30 : decode cX8_layLeaf 30 = .ok (.iload 4, 2) := by decide +kernel
theorem dX8_layLeaf_32 : decode cX8_layLeaf 32 = .ok (.iconst (-1), 1) := by decide +kernel
theorem dX8_layLeaf_33 : decode cX8_layLeaf 33 = .ok (.if_icmp .eq 14, 3) := by decide +kernel
theorem dX8_layLeaf_36 : decode cX8_layLeaf 36 = .ok (.aload_n 0, 1) := by decide +kernel
theorem dX8_layLeaf_37 : decode cX8_layLeaf 37 = .ok (.iload 5, 2) := by decide +kernel
theorem dX8_layLeaf_39 : decode cX8_layLeaf 39 = .ok (.iload 4, 2) := by decide +kernel
theorem dX8_layLeaf_41 : decode cX8_layLeaf 41 = .ok (.invokevirtual 169, 3) := by decide +kernel
theorem dX8_layLeaf_44 : decode cX8_layLeaf 44 = .ok (.ifCond .eq 8, 3) := by decide +kernel
theorem dX8_layLeaf_47 : decode cX8_layLeaf 47 = .ok (.iload 5, 2) := by decide +kernel
theorem dX8_layLeaf_49 : decode cX8_layLeaf 49 = .ok (.goto 5, 3) := by decide +kernel
theorem dX8_layLeaf_52 : decode cX8_layLeaf 52 = .ok (.iload 4, 2) := by decide +kernel
theorem dX8_layLeaf_54 : decode cX8_layLeaf 54 = .ok (.istore 4, 2) := by decide +kernel
theorem dX8_layLeaf_56 : decode cX8_layLeaf 56 = .ok (.iinc 5 1, 3) := by decide +kernel
theorem dX8_layLeaf_59 : decode cX8_layLeaf 59 = .ok (.goto (-47), 3) := by decide +kernel
theorem dX8_layLeaf_62 : decode cX8_layLeaf 62 = .ok (.iload_n 3, 1) := by decide +kernel
theorem dX8_layLeaf_63 : decode cX8_layLeaf 63 = .ok (.iconst 1, 1) := by decide +kernel
theorem dX8_layLeaf_64 : decode cX8_layLeaf 64 = .ok (.iload 4, 2) := by decide +kernel
theorem dX8_layLeaf_66 : decode cX8_layLeaf 66 = .ok (.ishl, 1) := by decide +kernel
theorem dX8_layLeaf_67 : decode cX8_layLeaf 67 = .ok (.iconst (-1), 1) := by decide +kernel
theorem dX8_layLeaf_68 : decode cX8_layLeaf 68 = .ok (.ixor, 1) := by decide +kernel
theorem dX8_layLeaf_69 : decode cX8_layLeaf 69 = .ok (.iand, 1) := by decide +kernel
theorem dX8_layLeaf_70 : decode cX8_layLeaf 70 = .ok (.istore_n 3, 1) := by decide +kernel
theorem dX8_layLeaf_71 : decode cX8_layLeaf 71 = .ok (.aload_n 0, 1) := by decide +kernel
theorem dX8_layLeaf_72 : decode cX8_layLeaf 72 = .ok (.getfield 31, 3) := by decide +kernel
theorem dX8_layLeaf_75 : decode cX8_layLeaf 75 = .ok (.iload 4, 2) := by decide +kernel
theorem dX8_layLeaf_77 : decode cX8_layLeaf 77 = .ok (.aload_n 0, 1) := by decide +kernel
theorem dX8_layLeaf_78 : decode cX8_layLeaf 78 = .ok (.getfield 172, 3) := by decide +kernel
theorem dX8_layLeaf_81 : decode cX8_layLeaf 81 = .ok (.iastore, 1) := by decide +kernel
theorem dX8_layLeaf_82 : decode cX8_layLeaf 82 = .ok (.aload_n 0, 1) := by decide +kernel
theorem dX8_layLeaf_83 : decode cX8_layLeaf 83 = .ok (.getfield 34, 3) := by decide +kernel
theorem dX8_layLeaf_86 : decode cX8_layLeaf 86 = .ok (.iload 4, 2) := by decide +kernel
theorem dX8_layLeaf_88 : decode cX8_layLeaf 88 = .ok (.iload_n 2, 1) := by decide +kernel
theorem dX8_layLeaf_89 : decode cX8_layLeaf 89 = .ok (.iastore, 1) := by decide +kernel
theorem dX8_layLeaf_90 : decode cX8_layLeaf 90 = .ok (.aload_n 0, 1) := by decide +kernel
theorem dX8_layLeaf_91 : decode cX8_layLeaf 91 = .ok (.iload 4, 2) := by decide +kernel
theorem dX8_layLeaf_93 : decode cX8_layLeaf 93 = .ok (.invokevirtual 175, 3) := by decide +kernel
theorem dX8_layLeaf_96 : decode cX8_layLeaf 96 = .ok (.goto (-94), 3) := by decide +kernel
theorem dX8_layLeaf_99 : decode cX8_layLeaf 99 = .ok (.aload_n 0, 1) := by decide +kernel
theorem dX8_layLeaf_100 : decode cX8_layLeaf 100 = .ok (.dup, 1) := by decide +kernel
theorem dX8_layLeaf_101 : decode cX8_layLeaf 101 = .ok (.getfield 172, 3) := by decide +kernel
theorem dX8_layLeaf_104 : decode cX8_layLeaf 104 = .ok (.iconst 1, 1) := by decide +kernel
theorem dX8_layLeaf_105 : decode cX8_layLeaf 105 = .ok (.iadd, 1) := by decide +kernel
theorem dX8_layLeaf_106 : decode cX8_layLeaf 106 = .ok (.putfield 172, 3) := by decide +kernel
theorem dX8_layLeaf_109 : decode cX8_layLeaf 109 = .ok (.return_, 1) := by decide +kernel
theorem dX8_layOrder_0 : decode cX8_layOrder 0 = .ok (.aload_n 0, 1) := by decide +kernel
theorem dX8_layOrder_1 : decode cX8_layOrder 1 = .ok (.iload_n 1, 1) := by decide +kernel
theorem dX8_layOrder_2 : decode cX8_layOrder 2 = .ok (.invokevirtual 179, 3) := by decide +kernel
theorem dX8_layOrder_5 : decode cX8_layOrder 5 = .ok (.istore_n 2, 1) := by decide +kernel
theorem dX8_layOrder_6 : decode cX8_layOrder 6 = .ok (.aload_n 0, 1) := by decide +kernel
theorem dX8_layOrder_7 : decode cX8_layOrder 7 = .ok (.iconst 0, 1) := by decide +kernel
theorem dX8_layOrder_8 : decode cX8_layOrder 8 = .ok (.putfield 166, 3) := by decide +kernel
theorem dX8_layOrder_11 : decode cX8_layOrder 11 = .ok (.aload_n 0, 1) := by decide +kernel
theorem dX8_layOrder_12 : decode cX8_layOrder 12 = .ok (.iconst 0, 1) := by decide +kernel
theorem dX8_layOrder_13 : decode cX8_layOrder 13 = .ok (.putfield 182, 3) := by decide +kernel
theorem dX8_layOrder_16 : decode cX8_layOrder 16 = .ok (.aload_n 0, 1) := by decide +kernel
theorem dX8_layOrder_17 : decode cX8_layOrder 17 = .ok (.iconst 0, 1) := by decide +kernel
theorem dX8_layOrder_18 : decode cX8_layOrder 18 = .ok (.putfield 172, 3) := by decide +kernel
theorem dX8_layOrder_21 : decode cX8_layOrder 21 = .ok (.iconst 0, 1) := by decide +kernel
theorem dX8_layOrder_22 : decode cX8_layOrder 22 = .ok (.istore_n 3, 1) := by decide +kernel
theorem dX8_layOrder_23 : decode cX8_layOrder 23 = .ok (.iload_n 3, 1) := by decide +kernel
theorem dX8_layOrder_24 : decode cX8_layOrder 24 = .ok (.bipush 8, 2) := by decide +kernel
theorem dX8_layOrder_26 : decode cX8_layOrder 26 = .ok (.if_icmp .ge 23, 3) := by decide +kernel
theorem dX8_layOrder_29 : decode cX8_layOrder 29 = .ok (.aload_n 0, 1) := by decide +kernel
theorem dX8_layOrder_30 : decode cX8_layOrder 30 = .ok (.getfield 31, 3) := by decide +kernel
theorem dX8_layOrder_33 : decode cX8_layOrder 33 = .ok (.iload_n 3, 1) := by decide +kernel
theorem dX8_layOrder_34 : decode cX8_layOrder 34 = .ok (.iconst (-1), 1) := by decide +kernel
theorem dX8_layOrder_35 : decode cX8_layOrder 35 = .ok (.iastore, 1) := by decide +kernel
theorem dX8_layOrder_36 : decode cX8_layOrder 36 = .ok (.aload_n 0, 1) := by decide +kernel
theorem dX8_layOrder_37 : decode cX8_layOrder 37 = .ok (.getfield 34, 3) := by decide +kernel
theorem dX8_layOrder_40 : decode cX8_layOrder 40 = .ok (.iload_n 3, 1) := by decide +kernel
theorem dX8_layOrder_41 : decode cX8_layOrder 41 = .ok (.iconst (-1), 1) := by decide +kernel
theorem dX8_layOrder_42 : decode cX8_layOrder 42 = .ok (.iastore, 1) := by decide +kernel
theorem dX8_layOrder_43 : decode cX8_layOrder 43 = .ok (.iinc 3 1, 3) := by decide +kernel
theorem dX8_layOrder_46 : decode cX8_layOrder 46 = .ok (.goto (-23), 3) := by decide +kernel
theorem dX8_layOrder_49 : decode cX8_layOrder 49 = .ok (.iload_n 2, 1) := by decide +kernel
theorem dX8_layOrder_50 : decode cX8_layOrder 50 = .ok (.ifCond .ne 7, 3) := by decide +kernel
theorem dX8_layOrder_53 : decode cX8_layOrder 53 = .ok (.iconst 0, 1) := by decide +kernel
theorem dX8_layOrder_54 : decode cX8_layOrder 54 = .ok (.goto 4, 3) := by decide +kernel
theorem dX8_layOrder_57 : decode cX8_layOrder 57 = .ok (.iconst 1, 1) := by decide +kernel
theorem dX8_layOrder_58 : decode cX8_layOrder 58 = .ok (.istore_n 3, 1) := by decide +kernel
theorem dX8_layOrder_59 : decode cX8_layOrder 59 = .ok (.aload_n 0, 1) := by decide +kernel
theorem dX8_layOrder_60 : decode cX8_layOrder 60 = .ok (.getfield 37, 3) := by decide +kernel
theorem dX8_layOrder_63 : decode cX8_layOrder 63 = .ok (.iconst 0, 1) := by decide +kernel
theorem dX8_layOrder_64 : decode cX8_layOrder 64 = .ok (.iload_n 2, 1) := by decide +kernel
theorem dX8_layOrder_65 : decode cX8_layOrder 65 = .ok (.iastore, 1) := by decide +kernel
theorem dX8_layOrder_66 : decode cX8_layOrder 66 = .ok (.aload_n 0, 1) := by decide +kernel
theorem dX8_layOrder_67 : decode cX8_layOrder 67 = .ok (.getfield 40, 3) := by decide +kernel
theorem dX8_layOrder_70 : decode cX8_layOrder 70 = .ok (.iconst 0, 1) := by decide +kernel
theorem dX8_layOrder_71 : decode cX8_layOrder 71 = .ok (.iconst 0, 1) := by decide +kernel
theorem dX8_layOrder_72 : decode cX8_layOrder 72 = .ok (.iastore, 1) := by decide +kernel
theorem dX8_layOrder_73 : decode cX8_layOrder 73 = .ok (.iload_n 3, 1) := by decide +kernel
theorem dX8_layOrder_74 : decode cX8_layOrder 74 = .ok (.ifCond .le 205, 3) := by decide +kernel
theorem dX8_layOrder_77 : decode cX8_layOrder 77 = .ok (.iinc 3 (-1), 3) := by decide +kernel
theorem dX8_layOrder_80 : decode cX8_layOrder 80 = .ok (.aload_n 0, 1) := by decide +kernel
theorem dX8_layOrder_81 : decode cX8_layOrder 81 = .ok (.getfield 37, 3) := by decide +kernel
theorem dX8_layOrder_84 : decode cX8_layOrder 84 = .ok (.iload_n 3, 1) := by decide +kernel
theorem dX8_layOrder_85 : decode cX8_layOrder 85 = .ok (.iaload, 1) := by decide +kernel
theorem dX8_layOrder_86 : decode cX8_layOrder 86 = .ok (.istore 4, 2) := by decide +kernel
theorem dX8_layOrder_88 : decode cX8_layOrder 88 = .ok (.aload_n 0, 1) := by decide +kernel
theorem dX8_layOrder_89 : decode cX8_layOrder 89 = .ok (.getfield 40, 3) := by decide +kernel
theorem dX8_layOrder_92 : decode cX8_layOrder 92 = .ok (.iload_n 3, 1) := by decide +kernel
theorem dX8_layOrder_93 : decode cX8_layOrder 93 = .ok (.iaload, 1) := by decide +kernel
theorem dX8_layOrder_94 : decode cX8_layOrder 94 = .ok (.istore 5, 2) := by decide +kernel
theorem dX8_layOrder_96 : decode cX8_layOrder 96 = .ok (.aload_n 0, 1) := by decide +kernel
theorem dX8_layOrder_97 : decode cX8_layOrder 97 = .ok (.iload 4, 2) := by decide +kernel
theorem dX8_layOrder_99 : decode cX8_layOrder 99 = .ok (.invokevirtual 185, 3) := by decide +kernel
theorem dX8_layOrder_102 : decode cX8_layOrder 102 = .ok (.aload_n 0, 1) := by decide +kernel
theorem dX8_layOrder_103 : decode cX8_layOrder 103 = .ok (.getfield 139, 3) := by decide +kernel
theorem dX8_layOrder_106 : decode cX8_layOrder 106 = .ok (.ifCond .ne 14, 3) := by decide +kernel
theorem dX8_layOrder_109 : decode cX8_layOrder 109 = .ok (.aload_n 0, 1) := by decide +kernel
theorem dX8_layOrder_110 : decode cX8_layOrder 110 = .ok (.iload 4, 2) := by decide +kernel
theorem dX8_layOrder_112 : decode cX8_layOrder 112 = .ok (.iload 5, 2) := by decide +kernel
theorem dX8_layOrder_114 : decode cX8_layOrder 114 = .ok (.invokevirtual 188, 3) := by decide +kernel
theorem dX8_layOrder_117 : decode cX8_layOrder 117 = .ok (.goto 159, 3) := by decide +kernel
theorem dX8_layOrder_120 : decode cX8_layOrder 120 = .ok (.aload_n 0, 1) := by decide +kernel
theorem dX8_layOrder_121 : decode cX8_layOrder 121 = .ok (.iload 4, 2) := by decide +kernel
theorem dX8_layOrder_123 : decode cX8_layOrder 123 = .ok (.invokevirtual 192, 3) := by decide +kernel
theorem dX8_layOrder_126 : decode cX8_layOrder 126 = .ok (.istore 6, 2) := by decide +kernel
theorem dX8_layOrder_128 : decode cX8_layOrder 128 = .ok (.aload_n 0, 1) := by decide +kernel
theorem dX8_layOrder_129 : decode cX8_layOrder 129 = .ok (.getfield 28, 3) := by decide +kernel
theorem dX8_layOrder_132 : decode cX8_layOrder 132 = .ok (.iconst 5, 1) := by decide +kernel
theorem dX8_layOrder_133 : decode cX8_layOrder 133 = .ok (.aload_n 0, 1) := by decide +kernel
theorem dX8_layOrder_134 : decode cX8_layOrder 134 = .ok (.getfield 182, 3) := by decide +kernel
theorem dX8_layOrder_137 : decode cX8_layOrder 137 = .ok (.imul, 1) := by decide +kernel
theorem dX8_layOrder_138 : decode cX8_layOrder 138 = .ok (.aload_n 0, 1) := by decide +kernel
theorem dX8_layOrder_139 : decode cX8_layOrder 139 = .ok (.getfield 142, 3) := by decide +kernel
theorem dX8_layOrder_142 : decode cX8_layOrder 142 = .ok (.iastore, 1) := by decide +kernel
theorem dX8_layOrder_143 : decode cX8_layOrder 143 = .ok (.aload_n 0, 1) := by decide +kernel
theorem dX8_layOrder_144 : decode cX8_layOrder 144 = .ok (.getfield 28, 3) := by decide +kernel
theorem dX8_layOrder_147 : decode cX8_layOrder 147 = .ok (.iconst 5, 1) := by decide +kernel
theorem dX8_layOrder_148 : decode cX8_layOrder 148 = .ok (.aload_n 0, 1) := by decide +kernel
theorem dX8_layOrder_149 : decode cX8_layOrder 149 = .ok (.getfield 182, 3) := by decide +kernel
theorem dX8_layOrder_152 : decode cX8_layOrder 152 = .ok (.imul, 1) := by decide +kernel
theorem dX8_layOrder_153 : decode cX8_layOrder 153 = .ok (.iconst 1, 1) := by decide +kernel
theorem dX8_layOrder_154 : decode cX8_layOrder 154 = .ok (.iadd, 1) := by decide +kernel
theorem dX8_layOrder_155 : decode cX8_layOrder 155 = .ok (.aload_n 0, 1) := by decide +kernel
theorem dX8_layOrder_156 : decode cX8_layOrder 156 = .ok (.getfield 145, 3) := by decide +kernel
theorem dX8_layOrder_159 : decode cX8_layOrder 159 = .ok (.iastore, 1) := by decide +kernel
theorem dX8_layOrder_160 : decode cX8_layOrder 160 = .ok (.aload_n 0, 1) := by decide +kernel
theorem dX8_layOrder_161 : decode cX8_layOrder 161 = .ok (.getfield 28, 3) := by decide +kernel
theorem dX8_layOrder_164 : decode cX8_layOrder 164 = .ok (.iconst 5, 1) := by decide +kernel
theorem dX8_layOrder_165 : decode cX8_layOrder 165 = .ok (.aload_n 0, 1) := by decide +kernel
theorem dX8_layOrder_166 : decode cX8_layOrder 166 = .ok (.getfield 182, 3) := by decide +kernel
theorem dX8_layOrder_169 : decode cX8_layOrder 169 = .ok (.imul, 1) := by decide +kernel
theorem dX8_layOrder_170 : decode cX8_layOrder 170 = .ok (.iconst 2, 1) := by decide +kernel
theorem dX8_layOrder_171 : decode cX8_layOrder 171 = .ok (.iadd, 1) := by decide +kernel
theorem dX8_layOrder_172 : decode cX8_layOrder 172 = .ok (.aload_n 0, 1) := by decide +kernel
theorem dX8_layOrder_173 : decode cX8_layOrder 173 = .ok (.getfield 139, 3) := by decide +kernel
theorem dX8_layOrder_176 : decode cX8_layOrder 176 = .ok (.iastore, 1) := by decide +kernel
theorem dX8_layOrder_177 : decode cX8_layOrder 177 = .ok (.aload_n 0, 1) := by decide +kernel
theorem dX8_layOrder_178 : decode cX8_layOrder 178 = .ok (.getfield 28, 3) := by decide +kernel
theorem dX8_layOrder_181 : decode cX8_layOrder 181 = .ok (.iconst 5, 1) := by decide +kernel
theorem dX8_layOrder_182 : decode cX8_layOrder 182 = .ok (.aload_n 0, 1) := by decide +kernel
theorem dX8_layOrder_183 : decode cX8_layOrder 183 = .ok (.getfield 182, 3) := by decide +kernel
theorem dX8_layOrder_186 : decode cX8_layOrder 186 = .ok (.imul, 1) := by decide +kernel
theorem dX8_layOrder_187 : decode cX8_layOrder 187 = .ok (.iconst 3, 1) := by decide +kernel
theorem dX8_layOrder_188 : decode cX8_layOrder 188 = .ok (.iadd, 1) := by decide +kernel
theorem dX8_layOrder_189 : decode cX8_layOrder 189 = .ok (.iload 6, 2) := by decide +kernel
theorem dX8_layOrder_191 : decode cX8_layOrder 191 = .ok (.invokestatic 195, 3) := by decide +kernel
theorem dX8_layOrder_194 : decode cX8_layOrder 194 = .ok (.iastore, 1) := by decide +kernel
theorem dX8_layOrder_195 : decode cX8_layOrder 195 = .ok (.aload_n 0, 1) := by decide +kernel
theorem dX8_layOrder_196 : decode cX8_layOrder 196 = .ok (.getfield 28, 3) := by decide +kernel
theorem dX8_layOrder_199 : decode cX8_layOrder 199 = .ok (.iconst 5, 1) := by decide +kernel
theorem dX8_layOrder_200 : decode cX8_layOrder 200 = .ok (.aload_n 0, 1) := by decide +kernel
theorem dX8_layOrder_201 : decode cX8_layOrder 201 = .ok (.getfield 182, 3) := by decide +kernel
theorem dX8_layOrder_204 : decode cX8_layOrder 204 = .ok (.imul, 1) := by decide +kernel
theorem dX8_layOrder_205 : decode cX8_layOrder 205 = .ok (.iconst 4, 1) := by decide +kernel
theorem dX8_layOrder_206 : decode cX8_layOrder 206 = .ok (.iadd, 1) := by decide +kernel
theorem dX8_layOrder_207 : decode cX8_layOrder 207 = .ok (.iload 4, 2) := by decide +kernel
theorem dX8_layOrder_209 : decode cX8_layOrder 209 = .ok (.iload 6, 2) := by decide +kernel
theorem dX8_layOrder_211 : decode cX8_layOrder 211 = .ok (.iconst (-1), 1) := by decide +kernel
theorem dX8_layOrder_212 : decode cX8_layOrder 212 = .ok (.ixor, 1) := by decide +kernel
theorem dX8_layOrder_213 : decode cX8_layOrder 213 = .ok (.iand, 1) := by decide +kernel
theorem dX8_layOrder_214 : decode cX8_layOrder 214 = .ok (.invokestatic 195, 3) := by decide +kernel
theorem dX8_layOrder_217 : decode cX8_layOrder 217 = .ok (.iastore, 1) := by decide +kernel
theorem dX8_layOrder_218 : decode cX8_layOrder 218 = .ok (.aload_n 0, 1) := by decide +kernel
theorem dX8_layOrder_219 : decode cX8_layOrder 219 = .ok (.dup, 1) := by decide +kernel
theorem dX8_layOrder_220 : decode cX8_layOrder 220 = .ok (.getfield 182, 3) := by decide +kernel
theorem dX8_layOrder_223 : decode cX8_layOrder 223 = .ok (.iconst 1, 1) := by decide +kernel
theorem dX8_layOrder_224 : decode cX8_layOrder 224 = .ok (.iadd, 1) := by decide +kernel
theorem dX8_layOrder_225 : decode cX8_layOrder 225 = .ok (.putfield 182, 3) := by decide +kernel
theorem dX8_layOrder_228 : decode cX8_layOrder 228 = .ok (.aload_n 0, 1) := by decide +kernel
theorem dX8_layOrder_229 : decode cX8_layOrder 229 = .ok (.getfield 37, 3) := by decide +kernel
theorem dX8_layOrder_232 : decode cX8_layOrder 232 = .ok (.iload_n 3, 1) := by decide +kernel
theorem dX8_layOrder_233 : decode cX8_layOrder 233 = .ok (.iload 4, 2) := by decide +kernel
theorem dX8_layOrder_235 : decode cX8_layOrder 235 = .ok (.iload 6, 2) := by decide +kernel
theorem dX8_layOrder_237 : decode cX8_layOrder 237 = .ok (.iconst (-1), 1) := by decide +kernel
theorem dX8_layOrder_238 : decode cX8_layOrder 238 = .ok (.ixor, 1) := by decide +kernel
theorem dX8_layOrder_239 : decode cX8_layOrder 239 = .ok (.iand, 1) := by decide +kernel
theorem dX8_layOrder_240 : decode cX8_layOrder 240 = .ok (.iastore, 1) := by decide +kernel
theorem dX8_layOrder_241 : decode cX8_layOrder 241 = .ok (.aload_n 0, 1) := by decide +kernel
theorem dX8_layOrder_242 : decode cX8_layOrder 242 = .ok (.getfield 40, 3) := by decide +kernel
theorem dX8_layOrder_245 : decode cX8_layOrder 245 = .ok (.iload_n 3, 1) := by decide +kernel
theorem dX8_layOrder_246 : decode cX8_layOrder 246 = .ok (.iload 5, 2) := by decide +kernel
theorem dX8_layOrder_248 : decode cX8_layOrder 248 = .ok (.iconst 1, 1) := by decide +kernel
theorem dX8_layOrder_249 : decode cX8_layOrder 249 = .ok (.iadd, 1) := by decide +kernel
theorem dX8_layOrder_250 : decode cX8_layOrder 250 = .ok (.iastore, 1) := by decide +kernel
theorem dX8_layOrder_251 : decode cX8_layOrder 251 = .ok (.aload_n 0, 1) := by decide +kernel
theorem dX8_layOrder_252 : decode cX8_layOrder 252 = .ok (.getfield 37, 3) := by decide +kernel
theorem dX8_layOrder_255 : decode cX8_layOrder 255 = .ok (.iload_n 3, 1) := by decide +kernel
theorem dX8_layOrder_256 : decode cX8_layOrder 256 = .ok (.iconst 1, 1) := by decide +kernel
theorem dX8_layOrder_257 : decode cX8_layOrder 257 = .ok (.iadd, 1) := by decide +kernel
theorem dX8_layOrder_258 : decode cX8_layOrder 258 = .ok (.iload 6, 2) := by decide +kernel
theorem dX8_layOrder_260 : decode cX8_layOrder 260 = .ok (.iastore, 1) := by decide +kernel
theorem dX8_layOrder_261 : decode cX8_layOrder 261 = .ok (.aload_n 0, 1) := by decide +kernel
theorem dX8_layOrder_262 : decode cX8_layOrder 262 = .ok (.getfield 40, 3) := by decide +kernel
theorem dX8_layOrder_265 : decode cX8_layOrder 265 = .ok (.iload_n 3, 1) := by decide +kernel
theorem dX8_layOrder_266 : decode cX8_layOrder 266 = .ok (.iconst 1, 1) := by decide +kernel
theorem dX8_layOrder_267 : decode cX8_layOrder 267 = .ok (.iadd, 1) := by decide +kernel
theorem dX8_layOrder_268 : decode cX8_layOrder 268 = .ok (.iload 5, 2) := by decide +kernel
theorem dX8_layOrder_270 : decode cX8_layOrder 270 = .ok (.iconst 1, 1) := by decide +kernel
theorem dX8_layOrder_271 : decode cX8_layOrder 271 = .ok (.iadd, 1) := by decide +kernel
theorem dX8_layOrder_272 : decode cX8_layOrder 272 = .ok (.iastore, 1) := by decide +kernel
theorem dX8_layOrder_273 : decode cX8_layOrder 273 = .ok (.iinc 3 2, 3) := by decide +kernel
theorem dX8_layOrder_276 : decode cX8_layOrder 276 = .ok (.goto (-203), 3) := by decide +kernel
theorem dX8_layOrder_279 : decode cX8_layOrder 279 = .ok (.return_, 1) := by decide +kernel
theorem dX8_layAll_0 : decode cX8_layAll 0 = .ok (.aload_n 0, 1) := by decide +kernel
theorem dX8_layAll_1 : decode cX8_layAll 1 = .ok (.iconst 1, 1) := by decide +kernel
theorem dX8_layAll_2 : decode cX8_layAll 2 = .ok (.aload_n 0, 1) := by decide +kernel
theorem dX8_layAll_3 : decode cX8_layAll 3 = .ok (.getfield 119, 3) := by decide +kernel
theorem dX8_layAll_6 : decode cX8_layAll 6 = .ok (.ishl, 1) := by decide +kernel
theorem dX8_layAll_7 : decode cX8_layAll 7 = .ok (.iconst 1, 1) := by decide +kernel
theorem dX8_layAll_8 : decode cX8_layAll 8 = .ok (.isub, 1) := by decide +kernel
theorem dX8_layAll_9 : decode cX8_layAll 9 = .ok (.invokevirtual 198, 3) := by decide +kernel
theorem dX8_layAll_12 : decode cX8_layAll 12 = .ok (.return_, 1) := by decide +kernel
theorem dX8_box_0 : decode cX8_box 0 = .ok (.aload_n 0, 1) := by decide +kernel
theorem dX8_box_1 : decode cX8_box 1 = .ok (.iload_n 1, 1) := by decide +kernel
theorem dX8_box_2 : decode cX8_box 2 = .ok (.invokevirtual 213, 3) := by decide +kernel
theorem dX8_box_5 : decode cX8_box 5 = .ok (.ifCond .eq 12, 3) := by decide +kernel
theorem dX8_box_8 : decode cX8_box 8 = .ok (.aload_n 0, 1) := by decide +kernel
theorem dX8_box_9 : decode cX8_box 9 = .ok (.iload_n 1, 1) := by decide +kernel
theorem dX8_box_10 : decode cX8_box 10 = .ok (.iload_n 2, 1) := by decide +kernel
theorem dX8_box_11 : decode cX8_box 11 = .ok (.invokevirtual 216, 3) := by decide +kernel
theorem dX8_box_14 : decode cX8_box 14 = .ok (.goto 5, 3) := by decide +kernel
theorem dX8_box_17 : decode cX8_box 17 = .ok (.bipush (-101), 2) := by decide +kernel
theorem dX8_box_19 : decode cX8_box 19 = .ok (.ireturn, 1) := by decide +kernel
theorem dX8_as_0 : decode cX8_as 0 = .ok (.aload_n 0, 1) := by decide +kernel
theorem dX8_as_1 : decode cX8_as 1 = .ok (.iload_n 1, 1) := by decide +kernel
theorem dX8_as_2 : decode cX8_as 2 = .ok (.invokevirtual 213, 3) := by decide +kernel
theorem dX8_as_5 : decode cX8_as 5 = .ok (.ifCond .ne 6, 3) := by decide +kernel
theorem dX8_as_8 : decode cX8_as 8 = .ok (.bipush (-101), 2) := by decide +kernel
theorem dX8_as_10 : decode cX8_as 10 = .ok (.ireturn, 1) := by decide +kernel
theorem dX8_as_11 : decode cX8_as 11 = .ok (.iload_n 2, 1) := by decide +kernel
theorem dX8_as_12 : decode cX8_as 12 = .ok (.i2l, 1) := by decide +kernel
theorem dX8_as_13 : decode cX8_as 13 = .ok (.lconst 0, 1) := by decide +kernel
theorem dX8_as_14 : decode cX8_as 14 = .ok (.ldc2_w 219, 3) := by decide +kernel
theorem dX8_as_17 : decode cX8_as 17 = .ok (.invokestatic 76, 3) := by decide +kernel
theorem dX8_as_20 : decode cX8_as 20 = .ok (.ifCond .ne 6, 3) := by decide +kernel
theorem dX8_as_23 : decode cX8_as 23 = .ok (.bipush (-102), 2) := by decide +kernel
theorem dX8_as_25 : decode cX8_as 25 = .ok (.ireturn, 1) := by decide +kernel
theorem dX8_as_26 : decode cX8_as 26 = .ok (.iload_n 2, 1) := by decide +kernel
theorem dX8_as_27 : decode cX8_as 27 = .ok (.ifCond .eq 28, 3) := by decide +kernel
theorem dX8_as_30 : decode cX8_as 30 = .ok (.iload_n 2, 1) := by decide +kernel
theorem dX8_as_31 : decode cX8_as 31 = .ok (.aload_n 0, 1) := by decide +kernel
theorem dX8_as_32 : decode cX8_as 32 = .ok (.getfield 13, 3) := by decide +kernel
theorem dX8_as_35 : decode cX8_as 35 = .ok (.iload_n 1, 1) := by decide +kernel
theorem dX8_as_36 : decode cX8_as 36 = .ok (.iaload, 1) := by decide +kernel
theorem dX8_as_37 : decode cX8_as 37 = .ok (.if_icmp .eq 18, 3) := by decide +kernel
theorem dX8_as_40 : decode cX8_as 40 = .ok (.iload_n 2, 1) := by decide +kernel
theorem dX8_as_41 : decode cX8_as 41 = .ok (.iconst 2, 1) := by decide +kernel
theorem dX8_as_42 : decode cX8_as 42 = .ok (.if_icmp .ne 17, 3) := by decide +kernel
theorem dX8_as_45 : decode cX8_as 45 = .ok (.aload_n 0, 1) := by decide +kernel
theorem dX8_as_46 : decode cX8_as 46 = .ok (.getfield 13, 3) := by decide +kernel
theorem dX8_as_49 : decode cX8_as 49 = .ok (.iload_n 1, 1) := by decide +kernel
theorem dX8_as_50 : decode cX8_as 50 = .ok (.iaload, 1) := by decide +kernel
theorem dX8_as_51 : decode cX8_as 51 = .ok (.iconst 4, 1) := by decide +kernel
theorem dX8_as_52 : decode cX8_as 52 = .ok (.if_icmp .ne 7, 3) := by decide +kernel
theorem dX8_as_55 : decode cX8_as 55 = .ok (.iconst 1, 1) := by decide +kernel
theorem dX8_as_56 : decode cX8_as 56 = .ok (.goto 4, 3) := by decide +kernel
theorem dX8_as_59 : decode cX8_as 59 = .ok (.iconst 0, 1) := by decide +kernel
theorem dX8_as_60 : decode cX8_as 60 = .ok (.istore_n 3, 1) := by decide +kernel
theorem dX8_as_61 : decode cX8_as 61 = .ok (.iload_n 3, 1) := by decide +kernel
theorem dX8_as_62 : decode cX8_as 62 = .ok (.ifCond .eq 7, 3) := by decide +kernel
theorem dX8_as_65 : decode cX8_as 65 = .ok (.iload_n 1, 1) := by decide +kernel
theorem dX8_as_66 : decode cX8_as 66 = .ok (.goto 4, 3) := by decide +kernel
theorem dX8_as_69 : decode cX8_as 69 = .ok (.iconst (-1), 1) := by decide +kernel
theorem dX8_as_70 : decode cX8_as 70 = .ok (.ireturn, 1) := by decide +kernel
theorem dX8_cut_0 : decode cX8_cut 0 = .ok (.aload_n 0, 1) := by decide +kernel
theorem dX8_cut_1 : decode cX8_cut 1 = .ok (.invokevirtual 201, 3) := by decide +kernel
theorem dX8_cut_4 : decode cX8_cut 4 = .ok (.iload_n 1, 1) := by decide +kernel
theorem dX8_cut_5 : decode cX8_cut 5 = .ok (.i2l, 1) := by decide +kernel
theorem dX8_cut_6 : decode cX8_cut 6 = .ok (.lconst 0, 1) := by decide +kernel
theorem dX8_cut_7 : decode cX8_cut 7 = .ok (.aload_n 0, 1) := by decide +kernel
theorem dX8_cut_8 : decode cX8_cut 8 = .ok (.getfield 182, 3) := by decide +kernel
theorem dX8_cut_11 : decode cX8_cut 11 = .ok (.iconst 1, 1) := by decide +kernel
theorem dX8_cut_12 : decode cX8_cut 12 = .ok (.isub, 1) := by decide +kernel
theorem dX8_cut_13 : decode cX8_cut 13 = .ok (.i2l, 1) := by decide +kernel
theorem dX8_cut_14 : decode cX8_cut 14 = .ok (.invokestatic 76, 3) := by decide +kernel
theorem dX8_cut_17 : decode cX8_cut 17 = .ok (.ifCond .ne 6, 3) := by decide +kernel
theorem dX8_cut_20 : decode cX8_cut 20 = .ok (.bipush (-101), 2) := by decide +kernel
theorem dX8_cut_22 : decode cX8_cut 22 = .ok (.ireturn, 1) := by decide +kernel
theorem dX8_cut_23 : decode cX8_cut 23 = .ok (.iload_n 2, 1) := by decide +kernel
theorem dX8_cut_24 : decode cX8_cut 24 = .ok (.i2l, 1) := by decide +kernel
theorem dX8_cut_25 : decode cX8_cut 25 = .ok (.lconst 0, 1) := by decide +kernel
theorem dX8_cut_26 : decode cX8_cut 26 = .ok (.ldc2_w 219, 3) := by decide +kernel
theorem dX8_cut_29 : decode cX8_cut 29 = .ok (.invokestatic 76, 3) := by decide +kernel
theorem dX8_cut_32 : decode cX8_cut 32 = .ok (.ifCond .eq 16, 3) := by decide +kernel
theorem dX8_cut_35 : decode cX8_cut 35 = .ok (.aload_n 0, 1) := by decide +kernel
theorem dX8_cut_36 : decode cX8_cut 36 = .ok (.getfield 28, 3) := by decide +kernel
theorem dX8_cut_39 : decode cX8_cut 39 = .ok (.iconst 5, 1) := by decide +kernel
theorem dX8_cut_40 : decode cX8_cut 40 = .ok (.iload_n 1, 1) := by decide +kernel
theorem dX8_cut_41 : decode cX8_cut 41 = .ok (.imul, 1) := by decide +kernel
theorem dX8_cut_42 : decode cX8_cut 42 = .ok (.iload_n 2, 1) := by decide +kernel
theorem dX8_cut_43 : decode cX8_cut 43 = .ok (.iadd, 1) := by decide +kernel
theorem dX8_cut_44 : decode cX8_cut 44 = .ok (.iaload, 1) := by decide +kernel
theorem dX8_cut_45 : decode cX8_cut 45 = .ok (.goto 5, 3) := by decide +kernel
theorem dX8_cut_48 : decode cX8_cut 48 = .ok (.bipush (-102), 2) := by decide +kernel
theorem dX8_cut_50 : decode cX8_cut 50 = .ok (.ireturn, 1) := by decide +kernel
theorem dX8_laneOf_0 : decode cX8_laneOf 0 = .ok (.aload_n 0, 1) := by decide +kernel
theorem dX8_laneOf_1 : decode cX8_laneOf 1 = .ok (.iconst 1, 1) := by decide +kernel
theorem dX8_laneOf_2 : decode cX8_laneOf 2 = .ok (.aload_n 0, 1) := by decide +kernel
theorem dX8_laneOf_3 : decode cX8_laneOf 3 = .ok (.getfield 119, 3) := by decide +kernel
theorem dX8_laneOf_6 : decode cX8_laneOf 6 = .ok (.ishl, 1) := by decide +kernel
theorem dX8_laneOf_7 : decode cX8_laneOf 7 = .ok (.iconst 1, 1) := by decide +kernel
theorem dX8_laneOf_8 : decode cX8_laneOf 8 = .ok (.isub, 1) := by decide +kernel
theorem dX8_laneOf_9 : decode cX8_laneOf 9 = .ok (.invokevirtual 179, 3) := by decide +kernel
theorem dX8_laneOf_12 : decode cX8_laneOf 12 = .ok (.istore_n 2, 1) := by decide +kernel
theorem dX8_laneOf_13 : decode cX8_laneOf 13 = .ok (.iconst (-1), 1) := by decide +kernel
theorem dX8_laneOf_14 : decode cX8_laneOf 14 = .ok (.istore_n 3, 1) := by decide +kernel
theorem dX8_laneOf_15 : decode cX8_laneOf 15 = .ok (.iconst 0, 1) := by decide +kernel
theorem dX8_laneOf_16 : decode cX8_laneOf 16 = .ok (.istore 4, 2) := by decide +kernel
theorem dX8_laneOf_18 : decode cX8_laneOf 18 = .ok (.iload 4, 2) := by decide +kernel
theorem dX8_laneOf_20 : decode cX8_laneOf 20 = .ok (.iload_n 1, 1) := by decide +kernel
theorem dX8_laneOf_21 : decode cX8_laneOf 21 = .ok (.if_icmp .gt 30, 3) := by decide +kernel
theorem dX8_laneOf_24 : decode cX8_laneOf 24 = .ok (.iload 4, 2) := by decide +kernel
theorem dX8_laneOf_26 : decode cX8_laneOf 26 = .ok (.ifCond .le 12, 3) := by decide +kernel
theorem dX8_laneOf_29 : decode cX8_laneOf 29 = .ok (.iload_n 3, 1) := by decide +kernel
theorem dX8_laneOf_30 : decode cX8_laneOf 30 = .ok (.iconst (-1), 1) := by decide +kernel
theorem dX8_laneOf_31 : decode cX8_laneOf 31 = .ok (.if_icmp .ne 7, 3) := by decide +kernel
theorem dX8_laneOf_34 : decode cX8_laneOf 34 = .ok (.iconst (-1), 1) := by decide +kernel
theorem dX8_laneOf_35 : decode cX8_laneOf 35 = .ok (.goto 9, 3) := by decide +kernel
theorem dX8_laneOf_38 : decode cX8_laneOf 38 = .ok (.aload_n 0, 1) := by decide +kernel
theorem dX8_laneOf_39 : decode cX8_laneOf 39 = .ok (.iload_n 2, 1) := by decide +kernel
theorem dX8_laneOf_40 : decode cX8_laneOf 40 = .ok (.iload_n 3, 1) := by decide +kernel
theorem dX8_laneOf_41 : decode cX8_laneOf 41 = .ok (.invokevirtual 224, 3) := by decide +kernel
theorem dX8_laneOf_44 : decode cX8_laneOf 44 = .ok (.istore_n 3, 1) := by decide +kernel
theorem dX8_laneOf_45 : decode cX8_laneOf 45 = .ok (.iinc 4 1, 3) := by decide +kernel
theorem dX8_laneOf_48 : decode cX8_laneOf 48 = .ok (.goto (-30), 3) := by decide +kernel
theorem dX8_laneOf_51 : decode cX8_laneOf 51 = .ok (.iload_n 3, 1) := by decide +kernel
theorem dX8_laneOf_52 : decode cX8_laneOf 52 = .ok (.ireturn, 1) := by decide +kernel
theorem dX8_lane_0 : decode cX8_lane 0 = .ok (.iload_n 1, 1) := by decide +kernel
theorem dX8_lane_1 : decode cX8_lane 1 = .ok (.ifCond .lt 9, 3) := by decide +kernel
theorem dX8_lane_4 : decode cX8_lane 4 = .ok (.iload_n 1, 1) := by decide +kernel
theorem dX8_lane_5 : decode cX8_lane 5 = .ok (.bipush 127, 2) := by decide +kernel
theorem dX8_lane_7 : decode cX8_lane 7 = .ok (.if_icmp .le 7, 3) := by decide +kernel
theorem dX8_lane_10 : decode cX8_lane 10 = .ok (.iconst (-1), 1) := by decide +kernel
theorem dX8_lane_11 : decode cX8_lane 11 = .ok (.goto 8, 3) := by decide +kernel
theorem dX8_lane_14 : decode cX8_lane 14 = .ok (.aload_n 0, 1) := by decide +kernel
theorem dX8_lane_15 : decode cX8_lane 15 = .ok (.iload_n 1, 1) := by decide +kernel
theorem dX8_lane_16 : decode cX8_lane 16 = .ok (.invokevirtual 227, 3) := by decide +kernel
theorem dX8_lane_19 : decode cX8_lane 19 = .ok (.istore_n 3, 1) := by decide +kernel
theorem dX8_lane_20 : decode cX8_lane 20 = .ok (.iload_n 3, 1) := by decide +kernel
theorem dX8_lane_21 : decode cX8_lane 21 = .ok (.iconst (-1), 1) := by decide +kernel
theorem dX8_lane_22 : decode cX8_lane 22 = .ok (.if_icmp .ne 6, 3) := by decide +kernel
theorem dX8_lane_25 : decode cX8_lane 25 = .ok (.bipush (-101), 2) := by decide +kernel
theorem dX8_lane_27 : decode cX8_lane 27 = .ok (.ireturn, 1) := by decide +kernel
theorem dX8_lane_28 : decode cX8_lane 28 = .ok (.iload_n 2, 1) := by decide +kernel
theorem dX8_lane_29 : decode cX8_lane 29 = .ok (.tableswitch 53 0 2 #[27, 37, 43], 27) := by decide +kernel
theorem dX8_lane_56 : decode cX8_lane 56 = .ok (.iconst 1, 1) := by decide +kernel
theorem dX8_lane_57 : decode cX8_lane 57 = .ok (.iload_n 3, 1) := by decide +kernel
theorem dX8_lane_58 : decode cX8_lane 58 = .ok (.sipush 1000, 3) := by decide +kernel
theorem dX8_lane_61 : decode cX8_lane 61 = .ok (.idiv, 1) := by decide +kernel
theorem dX8_lane_62 : decode cX8_lane 62 = .ok (.iconst 2, 1) := by decide +kernel
theorem dX8_lane_63 : decode cX8_lane 63 = .ok (.irem, 1) := by decide +kernel
theorem dX8_lane_64 : decode cX8_lane 64 = .ok (.isub, 1) := by decide +kernel
theorem dX8_lane_65 : decode cX8_lane 65 = .ok (.ireturn, 1) := by decide +kernel
theorem dX8_lane_66 : decode cX8_lane 66 = .ok (.iload_n 3, 1) := by decide +kernel
theorem dX8_lane_67 : decode cX8_lane 67 = .ok (.sipush 1000, 3) := by decide +kernel
theorem dX8_lane_70 : decode cX8_lane 70 = .ok (.irem, 1) := by decide +kernel
theorem dX8_lane_71 : decode cX8_lane 71 = .ok (.ireturn, 1) := by decide +kernel
theorem dX8_lane_72 : decode cX8_lane 72 = .ok (.sipush 1000, 3) := by decide +kernel
theorem dX8_lane_75 : decode cX8_lane 75 = .ok (.iload_n 3, 1) := by decide +kernel
theorem dX8_lane_76 : decode cX8_lane 76 = .ok (.sipush 2000, 3) := by decide +kernel
theorem dX8_lane_79 : decode cX8_lane 79 = .ok (.idiv, 1) := by decide +kernel
theorem dX8_lane_80 : decode cX8_lane 80 = .ok (.isub, 1) := by decide +kernel
theorem dX8_lane_81 : decode cX8_lane 81 = .ok (.ireturn, 1) := by decide +kernel
theorem dX8_lane_82 : decode cX8_lane 82 = .ok (.bipush (-102), 2) := by decide +kernel
theorem dX8_lane_84 : decode cX8_lane 84 = .ok (.ireturn, 1) := by decide +kernel
theorem dX8_change_0 : decode cX8_change 0 = .ok (.aload_n 0, 1) := by decide +kernel
theorem dX8_change_1 : decode cX8_change 1 = .ok (.iload_n 1, 1) := by decide +kernel
theorem dX8_change_2 : decode cX8_change 2 = .ok (.invokevirtual 213, 3) := by decide +kernel
theorem dX8_change_5 : decode cX8_change 5 = .ok (.ifCond .ne 6, 3) := by decide +kernel
theorem dX8_change_8 : decode cX8_change 8 = .ok (.bipush (-101), 2) := by decide +kernel
theorem dX8_change_10 : decode cX8_change 10 = .ok (.ireturn, 1) := by decide +kernel
theorem dX8_change_11 : decode cX8_change 11 = .ok (.iload_n 2, 1) := by decide +kernel
theorem dX8_change_12 : decode cX8_change 12 = .ok (.i2l, 1) := by decide +kernel
theorem dX8_change_13 : decode cX8_change 13 = .ok (.lconst 0, 1) := by decide +kernel
theorem dX8_change_14 : decode cX8_change 14 = .ok (.ldc2_w 219, 3) := by decide +kernel
theorem dX8_change_17 : decode cX8_change 17 = .ok (.invokestatic 76, 3) := by decide +kernel
theorem dX8_change_20 : decode cX8_change 20 = .ok (.ifCond .ne 6, 3) := by decide +kernel
theorem dX8_change_23 : decode cX8_change 23 = .ok (.bipush (-102), 2) := by decide +kernel
theorem dX8_change_25 : decode cX8_change 25 = .ok (.ireturn, 1) := by decide +kernel
theorem dX8_change_26 : decode cX8_change 26 = .ok (.aload_n 0, 1) := by decide +kernel
theorem dX8_change_27 : decode cX8_change 27 = .ok (.getfield 13, 3) := by decide +kernel
theorem dX8_change_30 : decode cX8_change 30 = .ok (.iload_n 1, 1) := by decide +kernel
theorem dX8_change_31 : decode cX8_change 31 = .ok (.iaload, 1) := by decide +kernel
theorem dX8_change_32 : decode cX8_change 32 = .ok (.istore_n 3, 1) := by decide +kernel
theorem dX8_change_33 : decode cX8_change 33 = .ok (.aload_n 0, 1) := by decide +kernel
theorem dX8_change_34 : decode cX8_change 34 = .ok (.getfield 13, 3) := by decide +kernel
theorem dX8_change_37 : decode cX8_change 37 = .ok (.iload_n 1, 1) := by decide +kernel
theorem dX8_change_38 : decode cX8_change 38 = .ok (.iload_n 2, 1) := by decide +kernel
theorem dX8_change_39 : decode cX8_change 39 = .ok (.iastore, 1) := by decide +kernel
theorem dX8_change_40 : decode cX8_change 40 = .ok (.iload_n 3, 1) := by decide +kernel
theorem dX8_change_41 : decode cX8_change 41 = .ok (.ireturn, 1) := by decide +kernel
theorem dX8_isRules_0 : decode cX8_isRules 0 = .ok (.iconst 0, 1) := by decide +kernel
theorem dX8_isRules_1 : decode cX8_isRules 1 = .ok (.istore_n 1, 1) := by decide +kernel
theorem dX8_isRules_2 : decode cX8_isRules 2 = .ok (.iload_n 0, 1) := by decide +kernel
theorem dX8_isRules_3 : decode cX8_isRules 3 = .ok (.istore_n 2, 1) := by decide +kernel
theorem dX8_isRules_4 : decode cX8_isRules 4 = .ok (.iload_n 0, 1) := by decide +kernel
theorem dX8_isRules_5 : decode cX8_isRules 5 = .ok (.ifCond .le 14, 3) := by decide +kernel
theorem dX8_isRules_8 : decode cX8_isRules 8 = .ok (.iload_n 0, 1) := by decide +kernel
theorem dX8_isRules_9 : decode cX8_isRules 9 = .ok (.sipush 10000, 3) := by decide +kernel
theorem dX8_isRules_12 : decode cX8_isRules 12 = .ok (.if_icmp .ge 7, 3) := by decide +kernel
theorem dX8_isRules_15 : decode cX8_isRules 15 = .ok (.iconst 1, 1) := by decide +kernel
theorem dX8_isRules_16 : decode cX8_isRules 16 = .ok (.goto 4, 3) := by decide +kernel
theorem dX8_isRules_19 : decode cX8_isRules 19 = .ok (.iconst 0, 1) := by decide +kernel
theorem dX8_isRules_20 : decode cX8_isRules 20 = .ok (.istore_n 3, 1) := by decide +kernel
theorem dX8_isRules_21 : decode cX8_isRules 21 = .ok (.iload_n 3, 1) := by decide +kernel
theorem dX8_isRules_22 : decode cX8_isRules 22 = .ok (.ifCond .eq 56, 3) := by decide +kernel
theorem dX8_isRules_25 : decode cX8_isRules 25 = .ok (.iload_n 2, 1) := by decide +kernel
theorem dX8_isRules_26 : decode cX8_isRules 26 = .ok (.ifCond .le 52, 3) := by decide +kernel
theorem dX8_isRules_29 : decode cX8_isRules 29 = .ok (.iload_n 2, 1) := by decide +kernel
theorem dX8_isRules_30 : decode cX8_isRules 30 = .ok (.bipush 10, 2) := by decide +kernel
theorem dX8_isRules_32 : decode cX8_isRules 32 = .ok (.irem, 1) := by decide +kernel
theorem dX8_isRules_33 : decode cX8_isRules 33 = .ok (.i2l, 1) := by decide +kernel
theorem dX8_isRules_34 : decode cX8_isRules 34 = .ok (.lconst 1, 1) := by decide +kernel
theorem dX8_isRules_35 : decode cX8_isRules 35 = .ok (.ldc2_w 219, 3) := by decide +kernel
theorem dX8_isRules_38 : decode cX8_isRules 38 = .ok (.invokestatic 76, 3) := by decide +kernel
theorem dX8_isRules_41 : decode cX8_isRules 41 = .ok (.ifCond .eq 18, 3) := by decide +kernel
theorem dX8_isRules_44 : decode cX8_isRules 44 = .ok (.iload_n 1, 1) := by decide +kernel
theorem dX8_isRules_45 : decode cX8_isRules 45 = .ok (.iload_n 2, 1) := by decide +kernel
theorem dX8_isRules_46 : decode cX8_isRules 46 = .ok (.bipush 10, 2) := by decide +kernel
theorem dX8_isRules_48 : decode cX8_isRules 48 = .ok (.irem, 1) := by decide +kernel
theorem dX8_isRules_49 : decode cX8_isRules 49 = .ok (.invokestatic 101, 3) := by decide +kernel
theorem dX8_isRules_52 : decode cX8_isRules 52 = .ok (.ifCond .ne 7, 3) := by decide +kernel
theorem dX8_isRules_55 : decode cX8_isRules 55 = .ok (.iconst 1, 1) := by decide +kernel
theorem dX8_isRules_56 : decode cX8_isRules 56 = .ok (.goto 4, 3) := by decide +kernel
theorem dX8_isRules_59 : decode cX8_isRules 59 = .ok (.iconst 0, 1) := by decide +kernel
theorem dX8_isRules_60 : decode cX8_isRules 60 = .ok (.istore_n 3, 1) := by decide +kernel
theorem dX8_isRules_61 : decode cX8_isRules 61 = .ok (.iload_n 1, 1) := by decide +kernel
theorem dX8_isRules_62 : decode cX8_isRules 62 = .ok (.iconst 1, 1) := by decide +kernel
theorem dX8_isRules_63 : decode cX8_isRules 63 = .ok (.iload_n 2, 1) := by decide +kernel
theorem dX8_isRules_64 : decode cX8_isRules 64 = .ok (.bipush 10, 2) := by decide +kernel
theorem dX8_isRules_66 : decode cX8_isRules 66 = .ok (.irem, 1) := by decide +kernel
theorem dX8_isRules_67 : decode cX8_isRules 67 = .ok (.ishl, 1) := by decide +kernel
theorem dX8_isRules_68 : decode cX8_isRules 68 = .ok (.ior, 1) := by decide +kernel
theorem dX8_isRules_69 : decode cX8_isRules 69 = .ok (.istore_n 1, 1) := by decide +kernel
theorem dX8_isRules_70 : decode cX8_isRules 70 = .ok (.iload_n 2, 1) := by decide +kernel
theorem dX8_isRules_71 : decode cX8_isRules 71 = .ok (.bipush 10, 2) := by decide +kernel
theorem dX8_isRules_73 : decode cX8_isRules 73 = .ok (.idiv, 1) := by decide +kernel
theorem dX8_isRules_74 : decode cX8_isRules 74 = .ok (.istore_n 2, 1) := by decide +kernel
theorem dX8_isRules_75 : decode cX8_isRules 75 = .ok (.goto (-54), 3) := by decide +kernel
theorem dX8_isRules_78 : decode cX8_isRules 78 = .ok (.iload_n 3, 1) := by decide +kernel
theorem dX8_isRules_79 : decode cX8_isRules 79 = .ok (.ireturn, 1) := by decide +kernel
theorem dX8_greatest_0 : decode cX8_greatest 0 = .ok (.iconst 0, 1) := by decide +kernel
theorem dX8_greatest_1 : decode cX8_greatest 1 = .ok (.istore_n 1, 1) := by decide +kernel
theorem dX8_greatest_2 : decode cX8_greatest 2 = .ok (.iconst 0, 1) := by decide +kernel
theorem dX8_greatest_3 : decode cX8_greatest 3 = .ok (.istore_n 2, 1) := by decide +kernel
theorem dX8_greatest_4 : decode cX8_greatest 4 = .ok (.iload_n 2, 1) := by decide +kernel
theorem dX8_greatest_5 : decode cX8_greatest 5 = .ok (.iconst 4, 1) := by decide +kernel
theorem dX8_greatest_6 : decode cX8_greatest 6 = .ok (.aload_n 0, 1) := by decide +kernel
theorem dX8_greatest_7 : decode cX8_greatest 7 = .ok (.getfield 119, 3) := by decide +kernel
theorem dX8_greatest_10 : decode cX8_greatest 10 = .ok (.imul, 1) := by decide +kernel
theorem dX8_greatest_11 : decode cX8_greatest 11 = .ok (.if_icmp .ge 30, 3) := by decide +kernel
theorem dX8_greatest_14 : decode cX8_greatest 14 = .ok (.aload_n 0, 1) := by decide +kernel
theorem dX8_greatest_15 : decode cX8_greatest 15 = .ok (.getfield 16, 3) := by decide +kernel
theorem dX8_greatest_18 : decode cX8_greatest 18 = .ok (.iload_n 2, 1) := by decide +kernel
theorem dX8_greatest_19 : decode cX8_greatest 19 = .ok (.iaload, 1) := by decide +kernel
theorem dX8_greatest_20 : decode cX8_greatest 20 = .ok (.iload_n 1, 1) := by decide +kernel
theorem dX8_greatest_21 : decode cX8_greatest 21 = .ok (.if_icmp .le 12, 3) := by decide +kernel
theorem dX8_greatest_24 : decode cX8_greatest 24 = .ok (.aload_n 0, 1) := by decide +kernel
theorem dX8_greatest_25 : decode cX8_greatest 25 = .ok (.getfield 16, 3) := by decide +kernel
theorem dX8_greatest_28 : decode cX8_greatest 28 = .ok (.iload_n 2, 1) := by decide +kernel
theorem dX8_greatest_29 : decode cX8_greatest 29 = .ok (.iaload, 1) := by decide +kernel
theorem dX8_greatest_30 : decode cX8_greatest 30 = .ok (.goto 4, 3) := by decide +kernel
theorem dX8_greatest_33 : decode cX8_greatest 33 = .ok (.iload_n 1, 1) := by decide +kernel
theorem dX8_greatest_34 : decode cX8_greatest 34 = .ok (.istore_n 1, 1) := by decide +kernel
theorem dX8_greatest_35 : decode cX8_greatest 35 = .ok (.iinc 2 1, 3) := by decide +kernel
theorem dX8_greatest_38 : decode cX8_greatest 38 = .ok (.goto (-34), 3) := by decide +kernel
theorem dX8_greatest_41 : decode cX8_greatest 41 = .ok (.iload_n 1, 1) := by decide +kernel
theorem dX8_greatest_42 : decode cX8_greatest 42 = .ok (.ireturn, 1) := by decide +kernel
theorem dX8_keepOrder_0 : decode cX8_keepOrder 0 = .ok (.aload_n 0, 1) := by decide +kernel
theorem dX8_keepOrder_1 : decode cX8_keepOrder 1 = .ok (.invokevirtual 201, 3) := by decide +kernel
theorem dX8_keepOrder_4 : decode cX8_keepOrder 4 = .ok (.aload_n 0, 1) := by decide +kernel
theorem dX8_keepOrder_5 : decode cX8_keepOrder 5 = .ok (.getfield 25, 3) := by decide +kernel
theorem dX8_keepOrder_8 : decode cX8_keepOrder 8 = .ok (.aload_n 0, 1) := by decide +kernel
theorem dX8_keepOrder_9 : decode cX8_keepOrder 9 = .ok (.getfield 43, 3) := by decide +kernel
theorem dX8_keepOrder_12 : decode cX8_keepOrder 12 = .ok (.invokestatic 252, 3) := by decide +kernel
theorem dX8_keepOrder_15 : decode cX8_keepOrder 15 = .ok (.return_, 1) := by decide +kernel
theorem dX8_isSameOrder_0 : decode cX8_isSameOrder 0 = .ok (.iconst 0, 1) := by decide +kernel
theorem dX8_isSameOrder_1 : decode cX8_isSameOrder 1 = .ok (.istore_n 1, 1) := by decide +kernel
theorem dX8_isSameOrder_2 : decode cX8_isSameOrder 2 = .ok (.iload_n 1, 1) := by decide +kernel
theorem dX8_isSameOrder_3 : decode cX8_isSameOrder 3 = .ok (.aload_n 0, 1) := by decide +kernel
theorem dX8_isSameOrder_4 : decode cX8_isSameOrder 4 = .ok (.getfield 119, 3) := by decide +kernel
theorem dX8_isSameOrder_7 : decode cX8_isSameOrder 7 = .ok (.if_icmp .ge 26, 3) := by decide +kernel
theorem dX8_isSameOrder_10 : decode cX8_isSameOrder 10 = .ok (.aload_n 0, 1) := by decide +kernel
theorem dX8_isSameOrder_11 : decode cX8_isSameOrder 11 = .ok (.getfield 25, 3) := by decide +kernel
theorem dX8_isSameOrder_14 : decode cX8_isSameOrder 14 = .ok (.iload_n 1, 1) := by decide +kernel
theorem dX8_isSameOrder_15 : decode cX8_isSameOrder 15 = .ok (.iaload, 1) := by decide +kernel
theorem dX8_isSameOrder_16 : decode cX8_isSameOrder 16 = .ok (.aload_n 0, 1) := by decide +kernel
theorem dX8_isSameOrder_17 : decode cX8_isSameOrder 17 = .ok (.getfield 43, 3) := by decide +kernel
theorem dX8_isSameOrder_20 : decode cX8_isSameOrder 20 = .ok (.iload_n 1, 1) := by decide +kernel
theorem dX8_isSameOrder_21 : decode cX8_isSameOrder 21 = .ok (.iaload, 1) := by decide +kernel
theorem dX8_isSameOrder_22 : decode cX8_isSameOrder 22 = .ok (.if_icmp .eq 5, 3) := by decide +kernel
theorem dX8_isSameOrder_25 : decode cX8_isSameOrder 25 = .ok (.iconst 0, 1) := by decide +kernel
theorem dX8_isSameOrder_26 : decode cX8_isSameOrder 26 = .ok (.ireturn, 1) := by decide +kernel
theorem dX8_isSameOrder_27 : decode cX8_isSameOrder 27 = .ok (.iinc 1 1, 3) := by decide +kernel
theorem dX8_isSameOrder_30 : decode cX8_isSameOrder 30 = .ok (.goto (-28), 3) := by decide +kernel
theorem dX8_isSameOrder_33 : decode cX8_isSameOrder 33 = .ok (.iconst 1, 1) := by decide +kernel
theorem dX8_isSameOrder_34 : decode cX8_isSameOrder 34 = .ok (.ireturn, 1) := by decide +kernel
theorem dX8_calm_0 : decode cX8_calm 0 = .ok (.aload_n 0, 1) := by decide +kernel
theorem dX8_calm_1 : decode cX8_calm 1 = .ok (.invokevirtual 232, 3) := by decide +kernel
theorem dX8_calm_4 : decode cX8_calm 4 = .ok (.ifCond .eq 6, 3) := by decide +kernel
theorem dX8_calm_7 : decode cX8_calm 7 = .ok (.bipush (-103), 2) := by decide +kernel
theorem dX8_calm_9 : decode cX8_calm 9 = .ok (.ireturn, 1) := by decide +kernel
theorem dX8_calm_10 : decode cX8_calm 10 = .ok (.aload_n 0, 1) := by decide +kernel
theorem dX8_calm_11 : decode cX8_calm 11 = .ok (.invokevirtual 256, 3) := by decide +kernel
theorem dX8_calm_14 : decode cX8_calm 14 = .ok (.iconst 0, 1) := by decide +kernel
theorem dX8_calm_15 : decode cX8_calm 15 = .ok (.istore_n 1, 1) := by decide +kernel
theorem dX8_calm_16 : decode cX8_calm 16 = .ok (.iconst 0, 1) := by decide +kernel
theorem dX8_calm_17 : decode cX8_calm 17 = .ok (.istore_n 2, 1) := by decide +kernel
theorem dX8_calm_18 : decode cX8_calm 18 = .ok (.iload_n 2, 1) := by decide +kernel
theorem dX8_calm_19 : decode cX8_calm 19 = .ok (.iconst 4, 1) := by decide +kernel
theorem dX8_calm_20 : decode cX8_calm 20 = .ok (.aload_n 0, 1) := by decide +kernel
theorem dX8_calm_21 : decode cX8_calm 21 = .ok (.getfield 119, 3) := by decide +kernel
theorem dX8_calm_24 : decode cX8_calm 24 = .ok (.imul, 1) := by decide +kernel
theorem dX8_calm_25 : decode cX8_calm 25 = .ok (.if_icmp .ge 100, 3) := by decide +kernel
theorem dX8_calm_28 : decode cX8_calm 28 = .ok (.iload_n 2, 1) := by decide +kernel
theorem dX8_calm_29 : decode cX8_calm 29 = .ok (.iconst 4, 1) := by decide +kernel
theorem dX8_calm_30 : decode cX8_calm 30 = .ok (.irem, 1) := by decide +kernel
theorem dX8_calm_31 : decode cX8_calm 31 = .ok (.ifCond .ne 7, 3) := by decide +kernel
theorem dX8_calm_34 : decode cX8_calm 34 = .ok (.iconst (-1), 1) := by decide +kernel
theorem dX8_calm_35 : decode cX8_calm 35 = .ok (.goto 15, 3) := by decide +kernel
theorem dX8_calm_38 : decode cX8_calm 38 = .ok (.iload_n 2, 1) := by decide +kernel
theorem dX8_calm_39 : decode cX8_calm 39 = .ok (.iconst 4, 1) := by decide +kernel
theorem dX8_calm_40 : decode cX8_calm 40 = .ok (.irem, 1) := by decide +kernel
theorem dX8_calm_41 : decode cX8_calm 41 = .ok (.iconst 2, 1) := by decide +kernel
theorem dX8_calm_42 : decode cX8_calm 42 = .ok (.if_icmp .ne 7, 3) := by decide +kernel
theorem dX8_calm_45 : decode cX8_calm 45 = .ok (.iconst 1, 1) := by decide +kernel
theorem dX8_calm_46 : decode cX8_calm 46 = .ok (.goto 4, 3) := by decide +kernel
theorem dX8_calm_49 : decode cX8_calm 49 = .ok (.iconst 0, 1) := by decide +kernel
theorem dX8_calm_50 : decode cX8_calm 50 = .ok (.istore_n 3, 1) := by decide +kernel
theorem dX8_calm_51 : decode cX8_calm 51 = .ok (.iload_n 2, 1) := by decide +kernel
theorem dX8_calm_52 : decode cX8_calm 52 = .ok (.iconst 4, 1) := by decide +kernel
theorem dX8_calm_53 : decode cX8_calm 53 = .ok (.irem, 1) := by decide +kernel
theorem dX8_calm_54 : decode cX8_calm 54 = .ok (.iconst 1, 1) := by decide +kernel
theorem dX8_calm_55 : decode cX8_calm 55 = .ok (.if_icmp .ne 7, 3) := by decide +kernel
theorem dX8_calm_58 : decode cX8_calm 58 = .ok (.iconst (-1), 1) := by decide +kernel
theorem dX8_calm_59 : decode cX8_calm 59 = .ok (.goto 15, 3) := by decide +kernel
theorem dX8_calm_62 : decode cX8_calm 62 = .ok (.iload_n 2, 1) := by decide +kernel
theorem dX8_calm_63 : decode cX8_calm 63 = .ok (.iconst 4, 1) := by decide +kernel
theorem dX8_calm_64 : decode cX8_calm 64 = .ok (.irem, 1) := by decide +kernel
theorem dX8_calm_65 : decode cX8_calm 65 = .ok (.iconst 3, 1) := by decide +kernel
theorem dX8_calm_66 : decode cX8_calm 66 = .ok (.if_icmp .ne 7, 3) := by decide +kernel
theorem dX8_calm_69 : decode cX8_calm 69 = .ok (.iconst 1, 1) := by decide +kernel
theorem dX8_calm_70 : decode cX8_calm 70 = .ok (.goto 4, 3) := by decide +kernel
theorem dX8_calm_73 : decode cX8_calm 73 = .ok (.iconst 0, 1) := by decide +kernel
theorem dX8_calm_74 : decode cX8_calm 74 = .ok (.istore 4, 2) := by decide +kernel
theorem dX8_calm_76 : decode cX8_calm 76 = .ok (.aload_n 0, 1) := by decide +kernel
theorem dX8_calm_77 : decode cX8_calm 77 = .ok (.iload_n 2, 1) := by decide +kernel
theorem dX8_calm_78 : decode cX8_calm 78 = .ok (.iconst 4, 1) := by decide +kernel
theorem dX8_calm_79 : decode cX8_calm 79 = .ok (.idiv, 1) := by decide +kernel
theorem dX8_calm_80 : decode cX8_calm 80 = .ok (.iload_n 3, 1) := by decide +kernel
theorem dX8_calm_81 : decode cX8_calm 81 = .ok (.iload 4, 2) := by decide +kernel
theorem dX8_calm_83 : decode cX8_calm 83 = .ok (.invokevirtual 240, 3) := by decide +kernel
theorem dX8_calm_86 : decode cX8_calm 86 = .ok (.aload_n 0, 1) := by decide +kernel
theorem dX8_calm_87 : decode cX8_calm 87 = .ok (.invokevirtual 201, 3) := by decide +kernel
theorem dX8_calm_90 : decode cX8_calm 90 = .ok (.iload_n 1, 1) := by decide +kernel
theorem dX8_calm_91 : decode cX8_calm 91 = .ok (.aload_n 0, 1) := by decide +kernel
theorem dX8_calm_92 : decode cX8_calm 92 = .ok (.invokevirtual 259, 3) := by decide +kernel
theorem dX8_calm_95 : decode cX8_calm 95 = .ok (.ifCond .eq 7, 3) := by decide +kernel
theorem dX8_calm_98 : decode cX8_calm 98 = .ok (.iconst 1, 1) := by decide +kernel
theorem dX8_calm_99 : decode cX8_calm 99 = .ok (.goto 4, 3) := by decide +kernel
theorem dX8_calm_102 : decode cX8_calm 102 = .ok (.iconst 0, 1) := by decide +kernel
theorem dX8_calm_103 : decode cX8_calm 103 = .ok (.iadd, 1) := by decide +kernel
theorem dX8_calm_104 : decode cX8_calm 104 = .ok (.istore_n 1, 1) := by decide +kernel
theorem dX8_calm_105 : decode cX8_calm 105 = .ok (.aload_n 0, 1) := by decide +kernel
theorem dX8_calm_106 : decode cX8_calm 106 = .ok (.iload_n 2, 1) := by decide +kernel
theorem dX8_calm_107 : decode cX8_calm 107 = .ok (.iconst 4, 1) := by decide +kernel
theorem dX8_calm_108 : decode cX8_calm 108 = .ok (.idiv, 1) := by decide +kernel
theorem dX8_calm_109 : decode cX8_calm 109 = .ok (.iconst 0, 1) := by decide +kernel
theorem dX8_calm_110 : decode cX8_calm 110 = .ok (.iload_n 3, 1) := by decide +kernel
theorem dX8_calm_111 : decode cX8_calm 111 = .ok (.isub, 1) := by decide +kernel
theorem dX8_calm_112 : decode cX8_calm 112 = .ok (.iconst 0, 1) := by decide +kernel
theorem dX8_calm_113 : decode cX8_calm 113 = .ok (.iload 4, 2) := by decide +kernel
theorem dX8_calm_115 : decode cX8_calm 115 = .ok (.isub, 1) := by decide +kernel
theorem dX8_calm_116 : decode cX8_calm 116 = .ok (.invokevirtual 240, 3) := by decide +kernel
theorem dX8_calm_119 : decode cX8_calm 119 = .ok (.iinc 2 1, 3) := by decide +kernel
theorem dX8_calm_122 : decode cX8_calm 122 = .ok (.goto (-104), 3) := by decide +kernel
theorem dX8_calm_125 : decode cX8_calm 125 = .ok (.iload_n 1, 1) := by decide +kernel
theorem dX8_calm_126 : decode cX8_calm 126 = .ok (.ireturn, 1) := by decide +kernel
theorem dX8_idleOf_0 : decode cX8_idleOf 0 = .ok (.aload_n 0, 1) := by decide +kernel
theorem dX8_idleOf_1 : decode cX8_idleOf 1 = .ok (.invokevirtual 256, 3) := by decide +kernel
theorem dX8_idleOf_4 : decode cX8_idleOf 4 = .ok (.aload_n 0, 1) := by decide +kernel
theorem dX8_idleOf_5 : decode cX8_idleOf 5 = .ok (.getfield 19, 3) := by decide +kernel
theorem dX8_idleOf_8 : decode cX8_idleOf 8 = .ok (.aload_n 0, 1) := by decide +kernel
theorem dX8_idleOf_9 : decode cX8_idleOf 9 = .ok (.getfield 46, 3) := by decide +kernel
theorem dX8_idleOf_12 : decode cX8_idleOf 12 = .ok (.invokestatic 252, 3) := by decide +kernel
theorem dX8_idleOf_15 : decode cX8_idleOf 15 = .ok (.aload_n 0, 1) := by decide +kernel
theorem dX8_idleOf_16 : decode cX8_idleOf 16 = .ok (.getfield 122, 3) := by decide +kernel
theorem dX8_idleOf_19 : decode cX8_idleOf 19 = .ok (.istore_n 1, 1) := by decide +kernel
theorem dX8_idleOf_20 : decode cX8_idleOf 20 = .ok (.iconst 0, 1) := by decide +kernel
theorem dX8_idleOf_21 : decode cX8_idleOf 21 = .ok (.istore_n 2, 1) := by decide +kernel
theorem dX8_idleOf_22 : decode cX8_idleOf 22 = .ok (.iconst 0, 1) := by decide +kernel
theorem dX8_idleOf_23 : decode cX8_idleOf 23 = .ok (.istore_n 3, 1) := by decide +kernel
theorem dX8_idleOf_24 : decode cX8_idleOf 24 = .ok (.iload_n 3, 1) := by decide +kernel
theorem dX8_idleOf_25 : decode cX8_idleOf 25 = .ok (.iload_n 1, 1) := by decide +kernel
theorem dX8_idleOf_26 : decode cX8_idleOf 26 = .ok (.if_icmp .ge 92, 3) := by decide +kernel
theorem dX8_idleOf_29 : decode cX8_idleOf 29 = .ok (.iload_n 1, 1) := by decide +kernel
theorem dX8_idleOf_30 : decode cX8_idleOf 30 = .ok (.iconst 1, 1) := by decide +kernel
theorem dX8_idleOf_31 : decode cX8_idleOf 31 = .ok (.if_icmp .le 87, 3) := by decide +kernel
theorem dX8_idleOf_34 : decode cX8_idleOf 34 = .ok (.aload_n 0, 1) := by decide +kernel
theorem dX8_idleOf_35 : decode cX8_idleOf 35 = .ok (.iconst 0, 1) := by decide +kernel
theorem dX8_idleOf_36 : decode cX8_idleOf 36 = .ok (.putfield 122, 3) := by decide +kernel
theorem dX8_idleOf_39 : decode cX8_idleOf 39 = .ok (.iconst 0, 1) := by decide +kernel
theorem dX8_idleOf_40 : decode cX8_idleOf 40 = .ok (.istore 4, 2) := by decide +kernel
theorem dX8_idleOf_42 : decode cX8_idleOf 42 = .ok (.iload 4, 2) := by decide +kernel
theorem dX8_idleOf_44 : decode cX8_idleOf 44 = .ok (.iload_n 1, 1) := by decide +kernel
theorem dX8_idleOf_45 : decode cX8_idleOf 45 = .ok (.if_icmp .ge 41, 3) := by decide +kernel
theorem dX8_idleOf_48 : decode cX8_idleOf 48 = .ok (.iload 4, 2) := by decide +kernel
theorem dX8_idleOf_50 : decode cX8_idleOf 50 = .ok (.iload_n 3, 1) := by decide +kernel
theorem dX8_idleOf_51 : decode cX8_idleOf 51 = .ok (.if_icmp .eq 29, 3) := by decide +kernel
theorem dX8_idleOf_54 : decode cX8_idleOf 54 = .ok (.aload_n 0, 1) := by decide +kernel
theorem dX8_idleOf_55 : decode cX8_idleOf 55 = .ok (.getfield 19, 3) := by decide +kernel
theorem dX8_idleOf_58 : decode cX8_idleOf 58 = .ok (.aload_n 0, 1) := by decide +kernel
theorem dX8_idleOf_59 : decode cX8_idleOf 59 = .ok (.getfield 122, 3) := by decide +kernel
theorem dX8_idleOf_62 : decode cX8_idleOf 62 = .ok (.aload_n 0, 1) := by decide +kernel
theorem dX8_idleOf_63 : decode cX8_idleOf 63 = .ok (.getfield 46, 3) := by decide +kernel
theorem dX8_idleOf_66 : decode cX8_idleOf 66 = .ok (.iload 4, 2) := by decide +kernel
theorem dX8_idleOf_68 : decode cX8_idleOf 68 = .ok (.iaload, 1) := by decide +kernel
theorem dX8_idleOf_69 : decode cX8_idleOf 69 = .ok (.iastore, 1) := by decide +kernel
theorem dX8_idleOf_70 : decode cX8_idleOf 70 = .ok (.aload_n 0, 1) := by decide +kernel
theorem dX8_idleOf_71 : decode cX8_idleOf 71 = .ok (.dup, 1) := by decide +kernel
theorem dX8_idleOf_72 : decode cX8_idleOf 72 = .ok (.getfield 122, 3) := by decide +kernel
theorem dX8_idleOf_75 : decode cX8_idleOf 75 = .ok (.iconst 1, 1) := by decide +kernel
theorem dX8_idleOf_76 : decode cX8_idleOf 76 = .ok (.iadd, 1) := by decide +kernel
theorem dX8_idleOf_77 : decode cX8_idleOf 77 = .ok (.putfield 122, 3) := by decide +kernel
theorem dX8_idleOf_80 : decode cX8_idleOf 80 = .ok (.iinc 4 1, 3) := by decide +kernel
theorem dX8_idleOf_83 : decode cX8_idleOf 83 = .ok (.goto (-41), 3) := by decide +kernel
theorem dX8_idleOf_86 : decode cX8_idleOf 86 = .ok (.aload_n 0, 1) := by decide +kernel
theorem dX8_idleOf_87 : decode cX8_idleOf 87 = .ok (.invokevirtual 201, 3) := by decide +kernel
theorem dX8_idleOf_90 : decode cX8_idleOf 90 = .ok (.iload_n 2, 1) := by decide +kernel
theorem dX8_idleOf_91 : decode cX8_idleOf 91 = .ok (.aload_n 0, 1) := by decide +kernel
theorem dX8_idleOf_92 : decode cX8_idleOf 92 = .ok (.invokevirtual 259, 3) := by decide +kernel
theorem dX8_idleOf_95 : decode cX8_idleOf 95 = .ok (.ifCond .eq 14, 3) := by decide +kernel
theorem dX8_idleOf_98 : decode cX8_idleOf 98 = .ok (.iconst 1, 1) := by decide +kernel
theorem dX8_idleOf_99 : decode cX8_idleOf 99 = .ok (.aload_n 0, 1) := by decide +kernel
theorem dX8_idleOf_100 : decode cX8_idleOf 100 = .ok (.getfield 46, 3) := by decide +kernel
theorem dX8_idleOf_103 : decode cX8_idleOf 103 = .ok (.iload_n 3, 1) := by decide +kernel
theorem dX8_idleOf_104 : decode cX8_idleOf 104 = .ok (.iaload, 1) := by decide +kernel
theorem dX8_idleOf_105 : decode cX8_idleOf 105 = .ok (.ishl, 1) := by decide +kernel
theorem dX8_idleOf_106 : decode cX8_idleOf 106 = .ok (.goto 4, 3) := by decide +kernel
theorem dX8_idleOf_109 : decode cX8_idleOf 109 = .ok (.iconst 0, 1) := by decide +kernel
theorem dX8_idleOf_110 : decode cX8_idleOf 110 = .ok (.ior, 1) := by decide +kernel
theorem dX8_idleOf_111 : decode cX8_idleOf 111 = .ok (.istore_n 2, 1) := by decide +kernel
theorem dX8_idleOf_112 : decode cX8_idleOf 112 = .ok (.iinc 3 1, 3) := by decide +kernel
theorem dX8_idleOf_115 : decode cX8_idleOf 115 = .ok (.goto (-91), 3) := by decide +kernel
theorem dX8_idleOf_118 : decode cX8_idleOf 118 = .ok (.aload_n 0, 1) := by decide +kernel
theorem dX8_idleOf_119 : decode cX8_idleOf 119 = .ok (.getfield 46, 3) := by decide +kernel
theorem dX8_idleOf_122 : decode cX8_idleOf 122 = .ok (.aload_n 0, 1) := by decide +kernel
theorem dX8_idleOf_123 : decode cX8_idleOf 123 = .ok (.getfield 19, 3) := by decide +kernel
theorem dX8_idleOf_126 : decode cX8_idleOf 126 = .ok (.invokestatic 252, 3) := by decide +kernel
theorem dX8_idleOf_129 : decode cX8_idleOf 129 = .ok (.aload_n 0, 1) := by decide +kernel
theorem dX8_idleOf_130 : decode cX8_idleOf 130 = .ok (.iload_n 1, 1) := by decide +kernel
theorem dX8_idleOf_131 : decode cX8_idleOf 131 = .ok (.putfield 122, 3) := by decide +kernel
theorem dX8_idleOf_134 : decode cX8_idleOf 134 = .ok (.iload_n 2, 1) := by decide +kernel
theorem dX8_idleOf_135 : decode cX8_idleOf 135 = .ok (.ireturn, 1) := by decide +kernel
theorem dX8_idle_0 : decode cX8_idle 0 = .ok (.aload_n 0, 1) := by decide +kernel
theorem dX8_idle_1 : decode cX8_idle 1 = .ok (.invokevirtual 232, 3) := by decide +kernel
theorem dX8_idle_4 : decode cX8_idle 4 = .ok (.ifCond .eq 8, 3) := by decide +kernel
theorem dX8_idle_7 : decode cX8_idle 7 = .ok (.bipush (-103), 2) := by decide +kernel
theorem dX8_idle_9 : decode cX8_idle 9 = .ok (.goto 7, 3) := by decide +kernel
theorem dX8_idle_12 : decode cX8_idle 12 = .ok (.aload_n 0, 1) := by decide +kernel
theorem dX8_idle_13 : decode cX8_idle 13 = .ok (.invokevirtual 262, 3) := by decide +kernel
theorem dX8_idle_16 : decode cX8_idle 16 = .ok (.ireturn, 1) := by decide +kernel
theorem dX8_freeOf_0 : decode cX8_freeOf 0 = .ok (.iconst (-1), 1) := by decide +kernel
theorem dX8_freeOf_1 : decode cX8_freeOf 1 = .ok (.istore_n 1, 1) := by decide +kernel
theorem dX8_freeOf_2 : decode cX8_freeOf 2 = .ok (.iconst (-1), 1) := by decide +kernel
theorem dX8_freeOf_3 : decode cX8_freeOf 3 = .ok (.istore_n 2, 1) := by decide +kernel
theorem dX8_freeOf_4 : decode cX8_freeOf 4 = .ok (.iconst 0, 1) := by decide +kernel
theorem dX8_freeOf_5 : decode cX8_freeOf 5 = .ok (.istore_n 3, 1) := by decide +kernel
theorem dX8_freeOf_6 : decode cX8_freeOf 6 = .ok (.iload_n 3, 1) := by decide +kernel
theorem dX8_freeOf_7 : decode cX8_freeOf 7 = .ok (.aload_n 0, 1) := by decide +kernel
theorem dX8_freeOf_8 : decode cX8_freeOf 8 = .ok (.getfield 119, 3) := by decide +kernel
theorem dX8_freeOf_11 : decode cX8_freeOf 11 = .ok (.if_icmp .ge 66, 3) := by decide +kernel
theorem dX8_freeOf_14 : decode cX8_freeOf 14 = .ok (.aload_n 0, 1) := by decide +kernel
theorem dX8_freeOf_15 : decode cX8_freeOf 15 = .ok (.getfield 119, 3) := by decide +kernel
theorem dX8_freeOf_18 : decode cX8_freeOf 18 = .ok (.iconst 1, 1) := by decide +kernel
theorem dX8_freeOf_19 : decode cX8_freeOf 19 = .ok (.if_icmp .le 58, 3) := by decide +kernel
theorem dX8_freeOf_22 : decode cX8_freeOf 22 = .ok (.aload_n 0, 1) := by decide +kernel
theorem dX8_freeOf_23 : decode cX8_freeOf 23 = .ok (.iconst 1, 1) := by decide +kernel
theorem dX8_freeOf_24 : decode cX8_freeOf 24 = .ok (.aload_n 0, 1) := by decide +kernel
theorem dX8_freeOf_25 : decode cX8_freeOf 25 = .ok (.getfield 119, 3) := by decide +kernel
theorem dX8_freeOf_28 : decode cX8_freeOf 28 = .ok (.ishl, 1) := by decide +kernel
theorem dX8_freeOf_29 : decode cX8_freeOf 29 = .ok (.iconst 1, 1) := by decide +kernel
theorem dX8_freeOf_30 : decode cX8_freeOf 30 = .ok (.isub, 1) := by decide +kernel
theorem dX8_freeOf_31 : decode cX8_freeOf 31 = .ok (.iconst 1, 1) := by decide +kernel
theorem dX8_freeOf_32 : decode cX8_freeOf 32 = .ok (.iload_n 3, 1) := by decide +kernel
theorem dX8_freeOf_33 : decode cX8_freeOf 33 = .ok (.ishl, 1) := by decide +kernel
theorem dX8_freeOf_34 : decode cX8_freeOf 34 = .ok (.iconst (-1), 1) := by decide +kernel
theorem dX8_freeOf_35 : decode cX8_freeOf 35 = .ok (.ixor, 1) := by decide +kernel
theorem dX8_freeOf_36 : decode cX8_freeOf 36 = .ok (.iand, 1) := by decide +kernel
theorem dX8_freeOf_37 : decode cX8_freeOf 37 = .ok (.invokevirtual 198, 3) := by decide +kernel
theorem dX8_freeOf_40 : decode cX8_freeOf 40 = .ok (.aload_n 0, 1) := by decide +kernel
theorem dX8_freeOf_41 : decode cX8_freeOf 41 = .ok (.getfield 182, 3) := by decide +kernel
theorem dX8_freeOf_44 : decode cX8_freeOf 44 = .ok (.iload_n 2, 1) := by decide +kernel
theorem dX8_freeOf_45 : decode cX8_freeOf 45 = .ok (.if_icmp .le 7, 3) := by decide +kernel
theorem dX8_freeOf_48 : decode cX8_freeOf 48 = .ok (.iload_n 3, 1) := by decide +kernel
theorem dX8_freeOf_49 : decode cX8_freeOf 49 = .ok (.goto 4, 3) := by decide +kernel
theorem dX8_freeOf_52 : decode cX8_freeOf 52 = .ok (.iload_n 1, 1) := by decide +kernel
theorem dX8_freeOf_53 : decode cX8_freeOf 53 = .ok (.istore_n 1, 1) := by decide +kernel
theorem dX8_freeOf_54 : decode cX8_freeOf 54 = .ok (.aload_n 0, 1) := by decide +kernel
theorem dX8_freeOf_55 : decode cX8_freeOf 55 = .ok (.getfield 182, 3) := by decide +kernel
theorem dX8_freeOf_58 : decode cX8_freeOf 58 = .ok (.iload_n 2, 1) := by decide +kernel
theorem dX8_freeOf_59 : decode cX8_freeOf 59 = .ok (.if_icmp .le 10, 3) := by decide +kernel
theorem dX8_freeOf_62 : decode cX8_freeOf 62 = .ok (.aload_n 0, 1) := by decide +kernel
theorem dX8_freeOf_63 : decode cX8_freeOf 63 = .ok (.getfield 182, 3) := by decide +kernel
theorem dX8_freeOf_66 : decode cX8_freeOf 66 = .ok (.goto 4, 3) := by decide +kernel
theorem dX8_freeOf_69 : decode cX8_freeOf 69 = .ok (.iload_n 2, 1) := by decide +kernel
theorem dX8_freeOf_70 : decode cX8_freeOf 70 = .ok (.istore_n 2, 1) := by decide +kernel
theorem dX8_freeOf_71 : decode cX8_freeOf 71 = .ok (.iinc 3 1, 3) := by decide +kernel
theorem dX8_freeOf_74 : decode cX8_freeOf 74 = .ok (.goto (-68), 3) := by decide +kernel
theorem dX8_freeOf_77 : decode cX8_freeOf 77 = .ok (.iload_n 1, 1) := by decide +kernel
theorem dX8_freeOf_78 : decode cX8_freeOf 78 = .ok (.ireturn, 1) := by decide +kernel
theorem dX8_free_0 : decode cX8_free 0 = .ok (.aload_n 0, 1) := by decide +kernel
theorem dX8_free_1 : decode cX8_free 1 = .ok (.invokevirtual 232, 3) := by decide +kernel
theorem dX8_free_4 : decode cX8_free 4 = .ok (.ifCond .eq 8, 3) := by decide +kernel
theorem dX8_free_7 : decode cX8_free 7 = .ok (.bipush (-103), 2) := by decide +kernel
theorem dX8_free_9 : decode cX8_free 9 = .ok (.goto 7, 3) := by decide +kernel
theorem dX8_free_12 : decode cX8_free 12 = .ok (.aload_n 0, 1) := by decide +kernel
theorem dX8_free_13 : decode cX8_free 13 = .ok (.invokevirtual 265, 3) := by decide +kernel
theorem dX8_free_16 : decode cX8_free 16 = .ok (.ireturn, 1) := by decide +kernel
theorem dX8_forget_0 : decode cX8_forget 0 = .ok (.aload_n 0, 1) := by decide +kernel
theorem dX8_forget_1 : decode cX8_forget 1 = .ok (.getfield 125, 3) := by decide +kernel
theorem dX8_forget_4 : decode cX8_forget 4 = .ok (.istore_n 1, 1) := by decide +kernel
theorem dX8_forget_5 : decode cX8_forget 5 = .ok (.aload_n 0, 1) := by decide +kernel
theorem dX8_forget_6 : decode cX8_forget 6 = .ok (.iconst 0, 1) := by decide +kernel
theorem dX8_forget_7 : decode cX8_forget 7 = .ok (.putfield 125, 3) := by decide +kernel
theorem dX8_forget_10 : decode cX8_forget 10 = .ok (.iload_n 1, 1) := by decide +kernel
theorem dX8_forget_11 : decode cX8_forget 11 = .ok (.ireturn, 1) := by decide +kernel
theorem dX8_askOf_0 : decode cX8_askOf 0 = .ok (.aload_n 0, 1) := by decide +kernel
theorem dX8_askOf_1 : decode cX8_askOf 1 = .ok (.iload_n 1, 1) := by decide +kernel
theorem dX8_askOf_2 : decode cX8_askOf 2 = .ok (.invokevirtual 207, 3) := by decide +kernel
theorem dX8_askOf_5 : decode cX8_askOf 5 = .ok (.istore_n 2, 1) := by decide +kernel
theorem dX8_askOf_6 : decode cX8_askOf 6 = .ok (.iconst (-1), 1) := by decide +kernel
theorem dX8_askOf_7 : decode cX8_askOf 7 = .ok (.istore_n 3, 1) := by decide +kernel
theorem dX8_askOf_8 : decode cX8_askOf 8 = .ok (.bipush 6, 2) := by decide +kernel
theorem dX8_askOf_10 : decode cX8_askOf 10 = .ok (.istore 4, 2) := by decide +kernel
theorem dX8_askOf_12 : decode cX8_askOf 12 = .ok (.iconst 0, 1) := by decide +kernel
theorem dX8_askOf_13 : decode cX8_askOf 13 = .ok (.istore 5, 2) := by decide +kernel
theorem dX8_askOf_15 : decode cX8_askOf 15 = .ok (.iload 5, 2) := by decide +kernel
theorem dX8_askOf_17 : decode cX8_askOf 17 = .ok (.iconst 4, 1) := by decide +kernel
theorem dX8_askOf_18 : decode cX8_askOf 18 = .ok (.if_icmp .ge 80, 3) := by decide +kernel
theorem dX8_askOf_21 : decode cX8_askOf 21 = .ok (.iload_n 2, 1) := by decide +kernel
theorem dX8_askOf_22 : decode cX8_askOf 22 = .ok (.ifCond .eq 76, 3) := by decide +kernel
theorem dX8_askOf_25 : decode cX8_askOf 25 = .ok (.iload_n 2, 1) := by decide +kernel
theorem dX8_askOf_26 : decode cX8_askOf 26 = .ok (.iload 5, 2) := by decide +kernel
theorem dX8_askOf_28 : decode cX8_askOf 28 = .ok (.invokestatic 270, 3) := by decide +kernel
theorem dX8_askOf_31 : decode cX8_askOf 31 = .ok (.iand, 1) := by decide +kernel
theorem dX8_askOf_32 : decode cX8_askOf 32 = .ok (.invokestatic 195, 3) := by decide +kernel
theorem dX8_askOf_35 : decode cX8_askOf 35 = .ok (.istore 6, 2) := by decide +kernel
theorem dX8_askOf_37 : decode cX8_askOf 37 = .ok (.iload_n 2, 1) := by decide +kernel
theorem dX8_askOf_38 : decode cX8_askOf 38 = .ok (.invokestatic 195, 3) := by decide +kernel
theorem dX8_askOf_41 : decode cX8_askOf 41 = .ok (.iload 6, 2) := by decide +kernel
theorem dX8_askOf_43 : decode cX8_askOf 43 = .ok (.isub, 1) := by decide +kernel
theorem dX8_askOf_44 : decode cX8_askOf 44 = .ok (.istore 7, 2) := by decide +kernel
theorem dX8_askOf_46 : decode cX8_askOf 46 = .ok (.iload 6, 2) := by decide +kernel
theorem dX8_askOf_48 : decode cX8_askOf 48 = .ok (.iload 7, 2) := by decide +kernel
theorem dX8_askOf_50 : decode cX8_askOf 50 = .ok (.if_icmp .le 8, 3) := by decide +kernel
theorem dX8_askOf_53 : decode cX8_askOf 53 = .ok (.iload 6, 2) := by decide +kernel
theorem dX8_askOf_55 : decode cX8_askOf 55 = .ok (.goto 5, 3) := by decide +kernel
theorem dX8_askOf_58 : decode cX8_askOf 58 = .ok (.iload 7, 2) := by decide +kernel
theorem dX8_askOf_60 : decode cX8_askOf 60 = .ok (.istore 8, 2) := by decide +kernel
theorem dX8_askOf_62 : decode cX8_askOf 62 = .ok (.iload 8, 2) := by decide +kernel
theorem dX8_askOf_64 : decode cX8_askOf 64 = .ok (.iload 4, 2) := by decide +kernel
theorem dX8_askOf_66 : decode cX8_askOf 66 = .ok (.if_icmp .ge 8, 3) := by decide +kernel
theorem dX8_askOf_69 : decode cX8_askOf 69 = .ok (.iload 5, 2) := by decide +kernel
theorem dX8_askOf_71 : decode cX8_askOf 71 = .ok (.goto 4, 3) := by decide +kernel
theorem dX8_askOf_74 : decode cX8_askOf 74 = .ok (.iload_n 3, 1) := by decide +kernel
theorem dX8_askOf_75 : decode cX8_askOf 75 = .ok (.istore_n 3, 1) := by decide +kernel
theorem dX8_askOf_76 : decode cX8_askOf 76 = .ok (.iload 8, 2) := by decide +kernel
theorem dX8_askOf_78 : decode cX8_askOf 78 = .ok (.iload 4, 2) := by decide +kernel
theorem dX8_askOf_80 : decode cX8_askOf 80 = .ok (.if_icmp .ge 8, 3) := by decide +kernel
theorem dX8_askOf_83 : decode cX8_askOf 83 = .ok (.iload 8, 2) := by decide +kernel
theorem dX8_askOf_85 : decode cX8_askOf 85 = .ok (.goto 5, 3) := by decide +kernel
theorem dX8_askOf_88 : decode cX8_askOf 88 = .ok (.iload 4, 2) := by decide +kernel
theorem dX8_askOf_90 : decode cX8_askOf 90 = .ok (.istore 4, 2) := by decide +kernel
theorem dX8_askOf_92 : decode cX8_askOf 92 = .ok (.iinc 5 1, 3) := by decide +kernel
theorem dX8_askOf_95 : decode cX8_askOf 95 = .ok (.goto (-80), 3) := by decide +kernel
theorem dX8_askOf_98 : decode cX8_askOf 98 = .ok (.iload_n 3, 1) := by decide +kernel
theorem dX8_askOf_99 : decode cX8_askOf 99 = .ok (.ireturn, 1) := by decide +kernel
theorem dX8_draw_0 : decode cX8_draw 0 = .ok (.aload_n 0, 1) := by decide +kernel
theorem dX8_draw_1 : decode cX8_draw 1 = .ok (.ldc2_w 273, 3) := by decide +kernel
theorem dX8_draw_4 : decode cX8_draw 4 = .ok (.aload_n 0, 1) := by decide +kernel
theorem dX8_draw_5 : decode cX8_draw 5 = .ok (.getfield 275, 3) := by decide +kernel
theorem dX8_draw_8 : decode cX8_draw 8 = .ok (.i2l, 1) := by decide +kernel
theorem dX8_draw_9 : decode cX8_draw 9 = .ok (.lmul, 1) := by decide +kernel
theorem dX8_draw_10 : decode cX8_draw 10 = .ok (.ldc2_w 278, 3) := by decide +kernel
theorem dX8_draw_13 : decode cX8_draw 13 = .ok (.ladd, 1) := by decide +kernel
theorem dX8_draw_14 : decode cX8_draw 14 = .ok (.ldc2_w 280, 3) := by decide +kernel
theorem dX8_draw_17 : decode cX8_draw 17 = .ok (.land, 1) := by decide +kernel
theorem dX8_draw_18 : decode cX8_draw 18 = .ok (.l2i, 1) := by decide +kernel
theorem dX8_draw_19 : decode cX8_draw 19 = .ok (.putfield 275, 3) := by decide +kernel
theorem dX8_draw_22 : decode cX8_draw 22 = .ok (.aload_n 0, 1) := by decide +kernel
theorem dX8_draw_23 : decode cX8_draw 23 = .ok (.getfield 275, 3) := by decide +kernel
theorem dX8_draw_26 : decode cX8_draw 26 = .ok (.ldc_w 282, 3) := by decide +kernel
theorem dX8_draw_29 : decode cX8_draw 29 = .ok (.idiv, 1) := by decide +kernel
theorem dX8_draw_30 : decode cX8_draw 30 = .ok (.iload_n 1, 1) := by decide +kernel
theorem dX8_draw_31 : decode cX8_draw 31 = .ok (.irem, 1) := by decide +kernel
theorem dX8_draw_32 : decode cX8_draw 32 = .ok (.ireturn, 1) := by decide +kernel
theorem dX8_drawBox_0 : decode cX8_drawBox 0 = .ok (.aload_n 0, 1) := by decide +kernel
theorem dX8_drawBox_1 : decode cX8_drawBox 1 = .ok (.getfield 13, 3) := by decide +kernel
theorem dX8_drawBox_4 : decode cX8_drawBox 4 = .ok (.iload_n 1, 1) := by decide +kernel
theorem dX8_drawBox_5 : decode cX8_drawBox 5 = .ok (.iconst 0, 1) := by decide +kernel
theorem dX8_drawBox_6 : decode cX8_drawBox 6 = .ok (.iastore, 1) := by decide +kernel
theorem dX8_drawBox_7 : decode cX8_drawBox 7 = .ok (.aload_n 0, 1) := by decide +kernel
theorem dX8_drawBox_8 : decode cX8_drawBox 8 = .ok (.getfield 16, 3) := by decide +kernel
theorem dX8_drawBox_11 : decode cX8_drawBox 11 = .ok (.iconst 4, 1) := by decide +kernel
theorem dX8_drawBox_12 : decode cX8_drawBox 12 = .ok (.iload_n 1, 1) := by decide +kernel
theorem dX8_drawBox_13 : decode cX8_drawBox 13 = .ok (.imul, 1) := by decide +kernel
theorem dX8_drawBox_14 : decode cX8_drawBox 14 = .ok (.aload_n 0, 1) := by decide +kernel
theorem dX8_drawBox_15 : decode cX8_drawBox 15 = .ok (.bipush 8, 2) := by decide +kernel
theorem dX8_drawBox_17 : decode cX8_drawBox 17 = .ok (.invokevirtual 283, 3) := by decide +kernel
theorem dX8_drawBox_20 : decode cX8_drawBox 20 = .ok (.iastore, 1) := by decide +kernel
theorem dX8_drawBox_21 : decode cX8_drawBox 21 = .ok (.aload_n 0, 1) := by decide +kernel
theorem dX8_drawBox_22 : decode cX8_drawBox 22 = .ok (.getfield 16, 3) := by decide +kernel
theorem dX8_drawBox_25 : decode cX8_drawBox 25 = .ok (.iconst 4, 1) := by decide +kernel
theorem dX8_drawBox_26 : decode cX8_drawBox 26 = .ok (.iload_n 1, 1) := by decide +kernel
theorem dX8_drawBox_27 : decode cX8_drawBox 27 = .ok (.imul, 1) := by decide +kernel
theorem dX8_drawBox_28 : decode cX8_drawBox 28 = .ok (.iconst 1, 1) := by decide +kernel
theorem dX8_drawBox_29 : decode cX8_drawBox 29 = .ok (.iadd, 1) := by decide +kernel
theorem dX8_drawBox_30 : decode cX8_drawBox 30 = .ok (.aload_n 0, 1) := by decide +kernel
theorem dX8_drawBox_31 : decode cX8_drawBox 31 = .ok (.bipush 8, 2) := by decide +kernel
theorem dX8_drawBox_33 : decode cX8_drawBox 33 = .ok (.invokevirtual 283, 3) := by decide +kernel
theorem dX8_drawBox_36 : decode cX8_drawBox 36 = .ok (.iastore, 1) := by decide +kernel
theorem dX8_drawBox_37 : decode cX8_drawBox 37 = .ok (.aload_n 0, 1) := by decide +kernel
theorem dX8_drawBox_38 : decode cX8_drawBox 38 = .ok (.getfield 16, 3) := by decide +kernel
theorem dX8_drawBox_41 : decode cX8_drawBox 41 = .ok (.iconst 4, 1) := by decide +kernel
theorem dX8_drawBox_42 : decode cX8_drawBox 42 = .ok (.iload_n 1, 1) := by decide +kernel
theorem dX8_drawBox_43 : decode cX8_drawBox 43 = .ok (.imul, 1) := by decide +kernel
theorem dX8_drawBox_44 : decode cX8_drawBox 44 = .ok (.iconst 2, 1) := by decide +kernel
theorem dX8_drawBox_45 : decode cX8_drawBox 45 = .ok (.iadd, 1) := by decide +kernel
theorem dX8_drawBox_46 : decode cX8_drawBox 46 = .ok (.aload_n 0, 1) := by decide +kernel
theorem dX8_drawBox_47 : decode cX8_drawBox 47 = .ok (.getfield 16, 3) := by decide +kernel
theorem dX8_drawBox_50 : decode cX8_drawBox 50 = .ok (.iconst 4, 1) := by decide +kernel
theorem dX8_drawBox_51 : decode cX8_drawBox 51 = .ok (.iload_n 1, 1) := by decide +kernel
theorem dX8_drawBox_52 : decode cX8_drawBox 52 = .ok (.imul, 1) := by decide +kernel
theorem dX8_drawBox_53 : decode cX8_drawBox 53 = .ok (.iaload, 1) := by decide +kernel
theorem dX8_drawBox_54 : decode cX8_drawBox 54 = .ok (.iconst 1, 1) := by decide +kernel
theorem dX8_drawBox_55 : decode cX8_drawBox 55 = .ok (.iadd, 1) := by decide +kernel
theorem dX8_drawBox_56 : decode cX8_drawBox 56 = .ok (.aload_n 0, 1) := by decide +kernel
theorem dX8_drawBox_57 : decode cX8_drawBox 57 = .ok (.iconst 3, 1) := by decide +kernel
theorem dX8_drawBox_58 : decode cX8_drawBox 58 = .ok (.invokevirtual 283, 3) := by decide +kernel
theorem dX8_drawBox_61 : decode cX8_drawBox 61 = .ok (.iadd, 1) := by decide +kernel
theorem dX8_drawBox_62 : decode cX8_drawBox 62 = .ok (.iastore, 1) := by decide +kernel
theorem dX8_drawBox_63 : decode cX8_drawBox 63 = .ok (.aload_n 0, 1) := by decide +kernel
theorem dX8_drawBox_64 : decode cX8_drawBox 64 = .ok (.getfield 16, 3) := by decide +kernel
theorem dX8_drawBox_67 : decode cX8_drawBox 67 = .ok (.iconst 4, 1) := by decide +kernel
theorem dX8_drawBox_68 : decode cX8_drawBox 68 = .ok (.iload_n 1, 1) := by decide +kernel
theorem dX8_drawBox_69 : decode cX8_drawBox 69 = .ok (.imul, 1) := by decide +kernel
theorem dX8_drawBox_70 : decode cX8_drawBox 70 = .ok (.iconst 3, 1) := by decide +kernel
theorem dX8_drawBox_71 : decode cX8_drawBox 71 = .ok (.iadd, 1) := by decide +kernel
theorem dX8_drawBox_72 : decode cX8_drawBox 72 = .ok (.aload_n 0, 1) := by decide +kernel
theorem dX8_drawBox_73 : decode cX8_drawBox 73 = .ok (.getfield 16, 3) := by decide +kernel
theorem dX8_drawBox_76 : decode cX8_drawBox 76 = .ok (.iconst 4, 1) := by decide +kernel
theorem dX8_drawBox_77 : decode cX8_drawBox 77 = .ok (.iload_n 1, 1) := by decide +kernel
theorem dX8_drawBox_78 : decode cX8_drawBox 78 = .ok (.imul, 1) := by decide +kernel
theorem dX8_drawBox_79 : decode cX8_drawBox 79 = .ok (.iconst 1, 1) := by decide +kernel
theorem dX8_drawBox_80 : decode cX8_drawBox 80 = .ok (.iadd, 1) := by decide +kernel
theorem dX8_drawBox_81 : decode cX8_drawBox 81 = .ok (.iaload, 1) := by decide +kernel
theorem dX8_drawBox_82 : decode cX8_drawBox 82 = .ok (.iconst 1, 1) := by decide +kernel
theorem dX8_drawBox_83 : decode cX8_drawBox 83 = .ok (.iadd, 1) := by decide +kernel
theorem dX8_drawBox_84 : decode cX8_drawBox 84 = .ok (.aload_n 0, 1) := by decide +kernel
theorem dX8_drawBox_85 : decode cX8_drawBox 85 = .ok (.iconst 3, 1) := by decide +kernel
theorem dX8_drawBox_86 : decode cX8_drawBox 86 = .ok (.invokevirtual 283, 3) := by decide +kernel
theorem dX8_drawBox_89 : decode cX8_drawBox 89 = .ok (.iadd, 1) := by decide +kernel
theorem dX8_drawBox_90 : decode cX8_drawBox 90 = .ok (.iastore, 1) := by decide +kernel
theorem dX8_drawBox_91 : decode cX8_drawBox 91 = .ok (.return_, 1) := by decide +kernel
theorem dX8_drawn_0 : decode cX8_drawn 0 = .ok (.iload_n 1, 1) := by decide +kernel
theorem dX8_drawn_1 : decode cX8_drawn 1 = .ok (.i2l, 1) := by decide +kernel
theorem dX8_drawn_2 : decode cX8_drawn 2 = .ok (.lconst 1, 1) := by decide +kernel
theorem dX8_drawn_3 : decode cX8_drawn 3 = .ok (.ldc2_w 286, 3) := by decide +kernel
theorem dX8_drawn_6 : decode cX8_drawn 6 = .ok (.invokestatic 76, 3) := by decide +kernel
theorem dX8_drawn_9 : decode cX8_drawn 9 = .ok (.ifCond .eq 19, 3) := by decide +kernel
theorem dX8_drawn_12 : decode cX8_drawn 12 = .ok (.iload_n 2, 1) := by decide +kernel
theorem dX8_drawn_13 : decode cX8_drawn 13 = .ok (.ifCond .lt 15, 3) := by decide +kernel
theorem dX8_drawn_16 : decode cX8_drawn 16 = .ok (.iload_n 3, 1) := by decide +kernel
theorem dX8_drawn_17 : decode cX8_drawn 17 = .ok (.i2l, 1) := by decide +kernel
theorem dX8_drawn_18 : decode cX8_drawn 18 = .ok (.lconst 0, 1) := by decide +kernel
theorem dX8_drawn_19 : decode cX8_drawn 19 = .ok (.ldc2_w 288, 3) := by decide +kernel
theorem dX8_drawn_22 : decode cX8_drawn 22 = .ok (.invokestatic 76, 3) := by decide +kernel
theorem dX8_drawn_25 : decode cX8_drawn 25 = .ok (.ifCond .ne 6, 3) := by decide +kernel
theorem dX8_drawn_28 : decode cX8_drawn 28 = .ok (.bipush (-102), 2) := by decide +kernel
theorem dX8_drawn_30 : decode cX8_drawn 30 = .ok (.ireturn, 1) := by decide +kernel
theorem dX8_drawn_31 : decode cX8_drawn 31 = .ok (.aload_n 0, 1) := by decide +kernel
theorem dX8_drawn_32 : decode cX8_drawn 32 = .ok (.getfield 13, 3) := by decide +kernel
theorem dX8_drawn_35 : decode cX8_drawn 35 = .ok (.aload_n 0, 1) := by decide +kernel
theorem dX8_drawn_36 : decode cX8_drawn 36 = .ok (.getfield 52, 3) := by decide +kernel
theorem dX8_drawn_39 : decode cX8_drawn 39 = .ok (.invokestatic 252, 3) := by decide +kernel
theorem dX8_drawn_42 : decode cX8_drawn 42 = .ok (.aload_n 0, 1) := by decide +kernel
theorem dX8_drawn_43 : decode cX8_drawn 43 = .ok (.getfield 16, 3) := by decide +kernel
theorem dX8_drawn_46 : decode cX8_drawn 46 = .ok (.aload_n 0, 1) := by decide +kernel
theorem dX8_drawn_47 : decode cX8_drawn 47 = .ok (.getfield 55, 3) := by decide +kernel
theorem dX8_drawn_50 : decode cX8_drawn 50 = .ok (.invokestatic 252, 3) := by decide +kernel
theorem dX8_drawn_53 : decode cX8_drawn 53 = .ok (.aload_n 0, 1) := by decide +kernel
theorem dX8_drawn_54 : decode cX8_drawn 54 = .ok (.getfield 19, 3) := by decide +kernel
theorem dX8_drawn_57 : decode cX8_drawn 57 = .ok (.aload_n 0, 1) := by decide +kernel
theorem dX8_drawn_58 : decode cX8_drawn 58 = .ok (.getfield 46, 3) := by decide +kernel
theorem dX8_drawn_61 : decode cX8_drawn 61 = .ok (.invokestatic 252, 3) := by decide +kernel
theorem dX8_drawn_64 : decode cX8_drawn 64 = .ok (.aload_n 0, 1) := by decide +kernel
theorem dX8_drawn_65 : decode cX8_drawn 65 = .ok (.getfield 119, 3) := by decide +kernel
theorem dX8_drawn_68 : decode cX8_drawn 68 = .ok (.istore 4, 2) := by decide +kernel
theorem dX8_drawn_70 : decode cX8_drawn 70 = .ok (.aload_n 0, 1) := by decide +kernel
theorem dX8_drawn_71 : decode cX8_drawn 71 = .ok (.getfield 122, 3) := by decide +kernel
theorem dX8_drawn_74 : decode cX8_drawn 74 = .ok (.istore 5, 2) := by decide +kernel
theorem dX8_drawn_76 : decode cX8_drawn 76 = .ok (.aload_n 0, 1) := by decide +kernel
theorem dX8_drawn_77 : decode cX8_drawn 77 = .ok (.iconst 5, 1) := by decide +kernel
theorem dX8_drawn_78 : decode cX8_drawn 78 = .ok (.putfield 119, 3) := by decide +kernel
theorem dX8_drawn_81 : decode cX8_drawn 81 = .ok (.aload_n 0, 1) := by decide +kernel
theorem dX8_drawn_82 : decode cX8_drawn 82 = .ok (.iconst 2, 1) := by decide +kernel
theorem dX8_drawn_83 : decode cX8_drawn 83 = .ok (.putfield 122, 3) := by decide +kernel
theorem dX8_drawn_86 : decode cX8_drawn 86 = .ok (.aload_n 0, 1) := by decide +kernel
theorem dX8_drawn_87 : decode cX8_drawn 87 = .ok (.getfield 19, 3) := by decide +kernel
theorem dX8_drawn_90 : decode cX8_drawn 90 = .ok (.iconst 0, 1) := by decide +kernel
theorem dX8_drawn_91 : decode cX8_drawn 91 = .ok (.iconst 2, 1) := by decide +kernel
theorem dX8_drawn_92 : decode cX8_drawn 92 = .ok (.iastore, 1) := by decide +kernel
theorem dX8_drawn_93 : decode cX8_drawn 93 = .ok (.aload_n 0, 1) := by decide +kernel
theorem dX8_drawn_94 : decode cX8_drawn 94 = .ok (.getfield 19, 3) := by decide +kernel
theorem dX8_drawn_97 : decode cX8_drawn 97 = .ok (.iconst 1, 1) := by decide +kernel
theorem dX8_drawn_98 : decode cX8_drawn 98 = .ok (.iconst 3, 1) := by decide +kernel
theorem dX8_drawn_99 : decode cX8_drawn 99 = .ok (.iastore, 1) := by decide +kernel
theorem dX8_drawn_100 : decode cX8_drawn 100 = .ok (.aload_n 0, 1) := by decide +kernel
theorem dX8_drawn_101 : decode cX8_drawn 101 = .ok (.iload_n 2, 1) := by decide +kernel
theorem dX8_drawn_102 : decode cX8_drawn 102 = .ok (.putfield 275, 3) := by decide +kernel
theorem dX8_drawn_105 : decode cX8_drawn 105 = .ok (.iconst 0, 1) := by decide +kernel
theorem dX8_drawn_106 : decode cX8_drawn 106 = .ok (.istore 6, 2) := by decide +kernel
theorem dX8_drawn_108 : decode cX8_drawn 108 = .ok (.iconst 0, 1) := by decide +kernel
theorem dX8_drawn_109 : decode cX8_drawn 109 = .ok (.istore 7, 2) := by decide +kernel
theorem dX8_drawn_111 : decode cX8_drawn 111 = .ok (.iconst 0, 1) := by decide +kernel
theorem dX8_drawn_112 : decode cX8_drawn 112 = .ok (.istore 8, 2) := by decide +kernel
theorem dX8_drawn_114 : decode cX8_drawn 114 = .ok (.iload 8, 2) := by decide +kernel
theorem dX8_drawn_116 : decode cX8_drawn 116 = .ok (.iload_n 1, 1) := by decide +kernel
theorem dX8_drawn_117 : decode cX8_drawn 117 = .ok (.if_icmp .ge 100, 3) := by decide +kernel
theorem dX8_drawn_120 : decode cX8_drawn 120 = .ok (.iconst 1, 1) := by decide +kernel
theorem dX8_drawn_121 : decode cX8_drawn 121 = .ok (.istore 9, 2) := by decide +kernel
theorem dX8_drawn_123 : decode cX8_drawn 123 = .ok (.iconst 0, 1) := by decide +kernel
theorem dX8_drawn_124 : decode cX8_drawn 124 = .ok (.istore 10, 2) := by decide +kernel
theorem dX8_drawn_126 : decode cX8_drawn 126 = .ok (.iload 10, 2) := by decide +kernel
theorem dX8_drawn_128 : decode cX8_drawn 128 = .ok (.iconst 5, 1) := by decide +kernel
theorem dX8_drawn_129 : decode cX8_drawn 129 = .ok (.if_icmp .ge 15, 3) := by decide +kernel
theorem dX8_drawn_132 : decode cX8_drawn 132 = .ok (.aload_n 0, 1) := by decide +kernel
theorem dX8_drawn_133 : decode cX8_drawn 133 = .ok (.iload 10, 2) := by decide +kernel
theorem dX8_drawn_135 : decode cX8_drawn 135 = .ok (.invokevirtual 290, 3) := by decide +kernel
theorem dX8_drawn_138 : decode cX8_drawn 138 = .ok (.iinc 10 1, 3) := by decide +kernel
theorem dX8_drawn_141 : decode cX8_drawn 141 = .ok (.goto (-15), 3) := by decide +kernel
theorem dX8_drawn_144 : decode cX8_drawn 144 = .ok (.aload_n 0, 1) := by decide +kernel
theorem dX8_drawn_145 : decode cX8_drawn 145 = .ok (.invokevirtual 201, 3) := by decide +kernel
theorem dX8_drawn_148 : decode cX8_drawn 148 = .ok (.iload 6, 2) := by decide +kernel
theorem dX8_drawn_150 : decode cX8_drawn 150 = .ok (.aload_n 0, 1) := by decide +kernel
theorem dX8_drawn_151 : decode cX8_drawn 151 = .ok (.getfield 182, 3) := by decide +kernel
theorem dX8_drawn_154 : decode cX8_drawn 154 = .ok (.iadd, 1) := by decide +kernel
theorem dX8_drawn_155 : decode cX8_drawn 155 = .ok (.istore 6, 2) := by decide +kernel
theorem dX8_drawn_157 : decode cX8_drawn 157 = .ok (.iconst 0, 1) := by decide +kernel
theorem dX8_drawn_158 : decode cX8_drawn 158 = .ok (.istore 10, 2) := by decide +kernel
theorem dX8_drawn_160 : decode cX8_drawn 160 = .ok (.iload 10, 2) := by decide +kernel
theorem dX8_drawn_162 : decode cX8_drawn 162 = .ok (.iconst 5, 1) := by decide +kernel
theorem dX8_drawn_163 : decode cX8_drawn 163 = .ok (.if_icmp .ge 33, 3) := by decide +kernel
theorem dX8_drawn_166 : decode cX8_drawn 166 = .ok (.iload 9, 2) := by decide +kernel
theorem dX8_drawn_168 : decode cX8_drawn 168 = .ok (.ifCond .eq 19, 3) := by decide +kernel
theorem dX8_drawn_171 : decode cX8_drawn 171 = .ok (.aload_n 0, 1) := by decide +kernel
theorem dX8_drawn_172 : decode cX8_drawn 172 = .ok (.getfield 25, 3) := by decide +kernel
theorem dX8_drawn_175 : decode cX8_drawn 175 = .ok (.iload 10, 2) := by decide +kernel
theorem dX8_drawn_177 : decode cX8_drawn 177 = .ok (.iaload, 1) := by decide +kernel
theorem dX8_drawn_178 : decode cX8_drawn 178 = .ok (.iload 10, 2) := by decide +kernel
theorem dX8_drawn_180 : decode cX8_drawn 180 = .ok (.if_icmp .ne 7, 3) := by decide +kernel
theorem dX8_drawn_183 : decode cX8_drawn 183 = .ok (.iconst 1, 1) := by decide +kernel
theorem dX8_drawn_184 : decode cX8_drawn 184 = .ok (.goto 4, 3) := by decide +kernel
theorem dX8_drawn_187 : decode cX8_drawn 187 = .ok (.iconst 0, 1) := by decide +kernel
theorem dX8_drawn_188 : decode cX8_drawn 188 = .ok (.istore 9, 2) := by decide +kernel
theorem dX8_drawn_190 : decode cX8_drawn 190 = .ok (.iinc 10 1, 3) := by decide +kernel
theorem dX8_drawn_193 : decode cX8_drawn 193 = .ok (.goto (-33), 3) := by decide +kernel
theorem dX8_drawn_196 : decode cX8_drawn 196 = .ok (.iload 7, 2) := by decide +kernel
theorem dX8_drawn_198 : decode cX8_drawn 198 = .ok (.iload 9, 2) := by decide +kernel
theorem dX8_drawn_200 : decode cX8_drawn 200 = .ok (.ifCond .eq 7, 3) := by decide +kernel
theorem dX8_drawn_203 : decode cX8_drawn 203 = .ok (.iconst 1, 1) := by decide +kernel
theorem dX8_drawn_204 : decode cX8_drawn 204 = .ok (.goto 4, 3) := by decide +kernel
theorem dX8_drawn_207 : decode cX8_drawn 207 = .ok (.iconst 0, 1) := by decide +kernel
theorem dX8_drawn_208 : decode cX8_drawn 208 = .ok (.iadd, 1) := by decide +kernel
theorem dX8_drawn_209 : decode cX8_drawn 209 = .ok (.istore 7, 2) := by decide +kernel
theorem dX8_drawn_211 : decode cX8_drawn 211 = .ok (.iinc 8 1, 3) := by decide +kernel
theorem dX8_drawn_214 : decode cX8_drawn 214 = .ok (.goto (-100), 3) := by decide +kernel
theorem dX8_drawn_217 : decode cX8_drawn 217 = .ok (.aload_n 0, 1) := by decide +kernel
theorem dX8_drawn_218 : decode cX8_drawn 218 = .ok (.iload 4, 2) := by decide +kernel
theorem dX8_drawn_220 : decode cX8_drawn 220 = .ok (.putfield 119, 3) := by decide +kernel
theorem dX8_drawn_223 : decode cX8_drawn 223 = .ok (.aload_n 0, 1) := by decide +kernel
theorem dX8_drawn_224 : decode cX8_drawn 224 = .ok (.iload 5, 2) := by decide +kernel
theorem dX8_drawn_226 : decode cX8_drawn 226 = .ok (.putfield 122, 3) := by decide +kernel
theorem dX8_drawn_229 : decode cX8_drawn 229 = .ok (.aload_n 0, 1) := by decide +kernel
theorem dX8_drawn_230 : decode cX8_drawn 230 = .ok (.getfield 52, 3) := by decide +kernel
theorem dX8_drawn_233 : decode cX8_drawn 233 = .ok (.aload_n 0, 1) := by decide +kernel
theorem dX8_drawn_234 : decode cX8_drawn 234 = .ok (.getfield 13, 3) := by decide +kernel
theorem dX8_drawn_237 : decode cX8_drawn 237 = .ok (.invokestatic 252, 3) := by decide +kernel
theorem dX8_drawn_240 : decode cX8_drawn 240 = .ok (.aload_n 0, 1) := by decide +kernel
theorem dX8_drawn_241 : decode cX8_drawn 241 = .ok (.getfield 55, 3) := by decide +kernel
theorem dX8_drawn_244 : decode cX8_drawn 244 = .ok (.aload_n 0, 1) := by decide +kernel
theorem dX8_drawn_245 : decode cX8_drawn 245 = .ok (.getfield 16, 3) := by decide +kernel
theorem dX8_drawn_248 : decode cX8_drawn 248 = .ok (.invokestatic 252, 3) := by decide +kernel
theorem dX8_drawn_251 : decode cX8_drawn 251 = .ok (.aload_n 0, 1) := by decide +kernel
theorem dX8_drawn_252 : decode cX8_drawn 252 = .ok (.getfield 46, 3) := by decide +kernel
theorem dX8_drawn_255 : decode cX8_drawn 255 = .ok (.aload_n 0, 1) := by decide +kernel
theorem dX8_drawn_256 : decode cX8_drawn 256 = .ok (.getfield 19, 3) := by decide +kernel
theorem dX8_drawn_259 : decode cX8_drawn 259 = .ok (.invokestatic 252, 3) := by decide +kernel
theorem dX8_drawn_262 : decode cX8_drawn 262 = .ok (.iload_n 3, 1) := by decide +kernel
theorem dX8_drawn_263 : decode cX8_drawn 263 = .ok (.ifCond .ne 8, 3) := by decide +kernel
theorem dX8_drawn_266 : decode cX8_drawn 266 = .ok (.iload 6, 2) := by decide +kernel
theorem dX8_drawn_268 : decode cX8_drawn 268 = .ok (.goto 17, 3) := by decide +kernel
theorem dX8_drawn_271 : decode cX8_drawn 271 = .ok (.iload_n 3, 1) := by decide +kernel
theorem dX8_drawn_272 : decode cX8_drawn 272 = .ok (.iconst 1, 1) := by decide +kernel
theorem dX8_drawn_273 : decode cX8_drawn 273 = .ok (.if_icmp .ne 8, 3) := by decide +kernel
theorem dX8_drawn_276 : decode cX8_drawn 276 = .ok (.iload 7, 2) := by decide +kernel
theorem dX8_drawn_278 : decode cX8_drawn 278 = .ok (.goto 7, 3) := by decide +kernel
theorem dX8_drawn_281 : decode cX8_drawn 281 = .ok (.aload_n 0, 1) := by decide +kernel
theorem dX8_drawn_282 : decode cX8_drawn 282 = .ok (.getfield 275, 3) := by decide +kernel
theorem dX8_drawn_285 : decode cX8_drawn 285 = .ok (.ireturn, 1) := by decide +kernel
theorem dX8_image_0 : decode cX8_image 0 = .ok (.aload_n 0, 1) := by decide +kernel
theorem dX8_image_1 : decode cX8_image 1 = .ok (.invokevirtual 232, 3) := by decide +kernel
theorem dX8_image_4 : decode cX8_image 4 = .ok (.ifCond .eq 6, 3) := by decide +kernel
theorem dX8_image_7 : decode cX8_image 7 = .ok (.bipush (-103), 2) := by decide +kernel
theorem dX8_image_9 : decode cX8_image 9 = .ok (.ireturn, 1) := by decide +kernel
theorem dX8_image_10 : decode cX8_image 10 = .ok (.aload_n 0, 1) := by decide +kernel
theorem dX8_image_11 : decode cX8_image 11 = .ok (.getfield 13, 3) := by decide +kernel
theorem dX8_image_14 : decode cX8_image 14 = .ok (.aload_n 0, 1) := by decide +kernel
theorem dX8_image_15 : decode cX8_image 15 = .ok (.getfield 58, 3) := by decide +kernel
theorem dX8_image_18 : decode cX8_image 18 = .ok (.invokestatic 252, 3) := by decide +kernel
theorem dX8_image_21 : decode cX8_image 21 = .ok (.aload_n 0, 1) := by decide +kernel
theorem dX8_image_22 : decode cX8_image 22 = .ok (.getfield 16, 3) := by decide +kernel
theorem dX8_image_25 : decode cX8_image 25 = .ok (.aload_n 0, 1) := by decide +kernel
theorem dX8_image_26 : decode cX8_image 26 = .ok (.getfield 61, 3) := by decide +kernel
theorem dX8_image_29 : decode cX8_image 29 = .ok (.invokestatic 252, 3) := by decide +kernel
theorem dX8_image_32 : decode cX8_image 32 = .ok (.aload_n 0, 1) := by decide +kernel
theorem dX8_image_33 : decode cX8_image 33 = .ok (.getfield 19, 3) := by decide +kernel
theorem dX8_image_36 : decode cX8_image 36 = .ok (.aload_n 0, 1) := by decide +kernel
theorem dX8_image_37 : decode cX8_image 37 = .ok (.getfield 64, 3) := by decide +kernel
theorem dX8_image_40 : decode cX8_image 40 = .ok (.invokestatic 252, 3) := by decide +kernel
theorem dX8_image_43 : decode cX8_image 43 = .ok (.aload_n 0, 1) := by decide +kernel
theorem dX8_image_44 : decode cX8_image 44 = .ok (.getfield 49, 3) := by decide +kernel
theorem dX8_image_47 : decode cX8_image 47 = .ok (.aload_n 0, 1) := by decide +kernel
theorem dX8_image_48 : decode cX8_image 48 = .ok (.getfield 67, 3) := by decide +kernel
theorem dX8_image_51 : decode cX8_image 51 = .ok (.invokestatic 252, 3) := by decide +kernel
theorem dX8_image_54 : decode cX8_image 54 = .ok (.aload_n 0, 1) := by decide +kernel
theorem dX8_image_55 : decode cX8_image 55 = .ok (.aload_n 0, 1) := by decide +kernel
theorem dX8_image_56 : decode cX8_image 56 = .ok (.getfield 119, 3) := by decide +kernel
theorem dX8_image_59 : decode cX8_image 59 = .ok (.putfield 293, 3) := by decide +kernel
theorem dX8_image_62 : decode cX8_image 62 = .ok (.aload_n 0, 1) := by decide +kernel
theorem dX8_image_63 : decode cX8_image 63 = .ok (.aload_n 0, 1) := by decide +kernel
theorem dX8_image_64 : decode cX8_image 64 = .ok (.getfield 122, 3) := by decide +kernel
theorem dX8_image_67 : decode cX8_image 67 = .ok (.putfield 296, 3) := by decide +kernel
theorem dX8_image_70 : decode cX8_image 70 = .ok (.aload_n 0, 1) := by decide +kernel
theorem dX8_image_71 : decode cX8_image 71 = .ok (.aload_n 0, 1) := by decide +kernel
theorem dX8_image_72 : decode cX8_image 72 = .ok (.getfield 125, 3) := by decide +kernel
theorem dX8_image_75 : decode cX8_image 75 = .ok (.putfield 299, 3) := by decide +kernel
theorem dX8_image_78 : decode cX8_image 78 = .ok (.aload_n 0, 1) := by decide +kernel
theorem dX8_image_79 : decode cX8_image 79 = .ok (.aload_n 0, 1) := by decide +kernel
theorem dX8_image_80 : decode cX8_image 80 = .ok (.getfield 128, 3) := by decide +kernel
theorem dX8_image_83 : decode cX8_image 83 = .ok (.putfield 70, 3) := by decide +kernel
theorem dX8_image_86 : decode cX8_image 86 = .ok (.aload_n 0, 1) := by decide +kernel
theorem dX8_image_87 : decode cX8_image 87 = .ok (.getfield 119, 3) := by decide +kernel
theorem dX8_image_90 : decode cX8_image 90 = .ok (.ireturn, 1) := by decide +kernel
theorem dX8_boundMany_0 : decode cX8_boundMany 0 = .ok (.iconst 0, 1) := by decide +kernel
theorem dX8_boundMany_1 : decode cX8_boundMany 1 = .ok (.istore_n 1, 1) := by decide +kernel
theorem dX8_boundMany_2 : decode cX8_boundMany 2 = .ok (.iconst 0, 1) := by decide +kernel
theorem dX8_boundMany_3 : decode cX8_boundMany 3 = .ok (.istore_n 2, 1) := by decide +kernel
theorem dX8_boundMany_4 : decode cX8_boundMany 4 = .ok (.iload_n 2, 1) := by decide +kernel
theorem dX8_boundMany_5 : decode cX8_boundMany 5 = .ok (.aload_n 0, 1) := by decide +kernel
theorem dX8_boundMany_6 : decode cX8_boundMany 6 = .ok (.getfield 119, 3) := by decide +kernel
theorem dX8_boundMany_9 : decode cX8_boundMany 9 = .ok (.if_icmp .ge 27, 3) := by decide +kernel
theorem dX8_boundMany_12 : decode cX8_boundMany 12 = .ok (.iload_n 1, 1) := by decide +kernel
theorem dX8_boundMany_13 : decode cX8_boundMany 13 = .ok (.aload_n 0, 1) := by decide +kernel
theorem dX8_boundMany_14 : decode cX8_boundMany 14 = .ok (.getfield 22, 3) := by decide +kernel
theorem dX8_boundMany_17 : decode cX8_boundMany 17 = .ok (.iload_n 2, 1) := by decide +kernel
theorem dX8_boundMany_18 : decode cX8_boundMany 18 = .ok (.iaload, 1) := by decide +kernel
theorem dX8_boundMany_19 : decode cX8_boundMany 19 = .ok (.iconst (-1), 1) := by decide +kernel
theorem dX8_boundMany_20 : decode cX8_boundMany 20 = .ok (.if_icmp .ne 7, 3) := by decide +kernel
theorem dX8_boundMany_23 : decode cX8_boundMany 23 = .ok (.iconst 0, 1) := by decide +kernel
theorem dX8_boundMany_24 : decode cX8_boundMany 24 = .ok (.goto 4, 3) := by decide +kernel
theorem dX8_boundMany_27 : decode cX8_boundMany 27 = .ok (.iconst 1, 1) := by decide +kernel
theorem dX8_boundMany_28 : decode cX8_boundMany 28 = .ok (.iadd, 1) := by decide +kernel
theorem dX8_boundMany_29 : decode cX8_boundMany 29 = .ok (.istore_n 1, 1) := by decide +kernel
theorem dX8_boundMany_30 : decode cX8_boundMany 30 = .ok (.iinc 2 1, 3) := by decide +kernel
theorem dX8_boundMany_33 : decode cX8_boundMany 33 = .ok (.goto (-29), 3) := by decide +kernel
theorem dX8_boundMany_36 : decode cX8_boundMany 36 = .ok (.iload_n 1, 1) := by decide +kernel
theorem dX8_boundMany_37 : decode cX8_boundMany 37 = .ok (.ireturn, 1) := by decide +kernel
theorem dX8_countOf_0 : decode cX8_countOf 0 = .ok (.aload_n 0, 1) := by decide +kernel
theorem dX8_countOf_1 : decode cX8_countOf 1 = .ok (.invokevirtual 201, 3) := by decide +kernel
theorem dX8_countOf_4 : decode cX8_countOf 4 = .ok (.iload_n 1, 1) := by decide +kernel
theorem dX8_countOf_5 : decode cX8_countOf 5 = .ok (.tableswitch 87 0 7 #[47, 52, 57, 62, 67, 72, 77, 82], 47) := by decide +kernel
theorem dX8_countOf_52 : decode cX8_countOf 52 = .ok (.aload_n 0, 1) := by decide +kernel
theorem dX8_countOf_53 : decode cX8_countOf 53 = .ok (.getfield 119, 3) := by decide +kernel
theorem dX8_countOf_56 : decode cX8_countOf 56 = .ok (.ireturn, 1) := by decide +kernel
theorem dX8_countOf_57 : decode cX8_countOf 57 = .ok (.aload_n 0, 1) := by decide +kernel
theorem dX8_countOf_58 : decode cX8_countOf 58 = .ok (.getfield 182, 3) := by decide +kernel
theorem dX8_countOf_61 : decode cX8_countOf 61 = .ok (.ireturn, 1) := by decide +kernel
theorem dX8_countOf_62 : decode cX8_countOf 62 = .ok (.aload_n 0, 1) := by decide +kernel
theorem dX8_countOf_63 : decode cX8_countOf 63 = .ok (.getfield 172, 3) := by decide +kernel
theorem dX8_countOf_66 : decode cX8_countOf 66 = .ok (.ireturn, 1) := by decide +kernel
theorem dX8_countOf_67 : decode cX8_countOf 67 = .ok (.aload_n 0, 1) := by decide +kernel
theorem dX8_countOf_68 : decode cX8_countOf 68 = .ok (.getfield 122, 3) := by decide +kernel
theorem dX8_countOf_71 : decode cX8_countOf 71 = .ok (.ireturn, 1) := by decide +kernel
theorem dX8_countOf_72 : decode cX8_countOf 72 = .ok (.aload_n 0, 1) := by decide +kernel
theorem dX8_countOf_73 : decode cX8_countOf 73 = .ok (.invokevirtual 302, 3) := by decide +kernel
theorem dX8_countOf_76 : decode cX8_countOf 76 = .ok (.ireturn, 1) := by decide +kernel
theorem dX8_countOf_77 : decode cX8_countOf 77 = .ok (.aload_n 0, 1) := by decide +kernel
theorem dX8_countOf_78 : decode cX8_countOf 78 = .ok (.getfield 125, 3) := by decide +kernel
theorem dX8_countOf_81 : decode cX8_countOf 81 = .ok (.ireturn, 1) := by decide +kernel
theorem dX8_countOf_82 : decode cX8_countOf 82 = .ok (.aload_n 0, 1) := by decide +kernel
theorem dX8_countOf_83 : decode cX8_countOf 83 = .ok (.getfield 80, 3) := by decide +kernel
theorem dX8_countOf_86 : decode cX8_countOf 86 = .ok (.ireturn, 1) := by decide +kernel
theorem dX8_countOf_87 : decode cX8_countOf 87 = .ok (.aload_n 0, 1) := by decide +kernel
theorem dX8_countOf_88 : decode cX8_countOf 88 = .ok (.getfield 128, 3) := by decide +kernel
theorem dX8_countOf_91 : decode cX8_countOf 91 = .ok (.ireturn, 1) := by decide +kernel
theorem dX8_countOf_92 : decode cX8_countOf 92 = .ok (.bipush (-102), 2) := by decide +kernel
theorem dX8_countOf_94 : decode cX8_countOf 94 = .ok (.ireturn, 1) := by decide +kernel
theorem dX8_count_0 : decode cX8_count 0 = .ok (.aload_n 0, 1) := by decide +kernel
theorem dX8_count_1 : decode cX8_count 1 = .ok (.iload_n 1, 1) := by decide +kernel
theorem dX8_count_2 : decode cX8_count 2 = .ok (.invokevirtual 305, 3) := by decide +kernel
theorem dX8_count_5 : decode cX8_count 5 = .ok (.ireturn, 1) := by decide +kernel
theorem dX8_digest_0 : decode cX8_digest 0 = .ok (.aload_n 0, 1) := by decide +kernel
theorem dX8_digest_1 : decode cX8_digest 1 = .ok (.ldc2_w 318, 3) := by decide +kernel
theorem dX8_digest_4 : decode cX8_digest 4 = .ok (.putfield 310, 3) := by decide +kernel
theorem dX8_digest_7 : decode cX8_digest 7 = .ok (.aload_n 0, 1) := by decide +kernel
theorem dX8_digest_8 : decode cX8_digest 8 = .ok (.invokevirtual 232, 3) := by decide +kernel
theorem dX8_digest_11 : decode cX8_digest 11 = .ok (.ifCond .ne 7, 3) := by decide +kernel
theorem dX8_digest_14 : decode cX8_digest 14 = .ok (.aload_n 0, 1) := by decide +kernel
theorem dX8_digest_15 : decode cX8_digest 15 = .ok (.invokevirtual 320, 3) := by decide +kernel
theorem dX8_digest_18 : decode cX8_digest 18 = .ok (.iconst 0, 1) := by decide +kernel
theorem dX8_digest_19 : decode cX8_digest 19 = .ok (.istore_n 1, 1) := by decide +kernel
theorem dX8_digest_20 : decode cX8_digest 20 = .ok (.iload_n 1, 1) := by decide +kernel
theorem dX8_digest_21 : decode cX8_digest 21 = .ok (.aload_n 0, 1) := by decide +kernel
theorem dX8_digest_22 : decode cX8_digest 22 = .ok (.getfield 80, 3) := by decide +kernel
theorem dX8_digest_25 : decode cX8_digest 25 = .ok (.if_icmp .ge 20, 3) := by decide +kernel
theorem dX8_digest_28 : decode cX8_digest 28 = .ok (.aload_n 0, 1) := by decide +kernel
theorem dX8_digest_29 : decode cX8_digest 29 = .ok (.aload_n 0, 1) := by decide +kernel
theorem dX8_digest_30 : decode cX8_digest 30 = .ok (.getfield 7, 3) := by decide +kernel
theorem dX8_digest_33 : decode cX8_digest 33 = .ok (.iload_n 1, 1) := by decide +kernel
theorem dX8_digest_34 : decode cX8_digest 34 = .ok (.iaload, 1) := by decide +kernel
theorem dX8_digest_35 : decode cX8_digest 35 = .ok (.i2l, 1) := by decide +kernel
theorem dX8_digest_36 : decode cX8_digest 36 = .ok (.invokevirtual 314, 3) := by decide +kernel
theorem dX8_digest_39 : decode cX8_digest 39 = .ok (.iinc 1 1, 3) := by decide +kernel
theorem dX8_digest_42 : decode cX8_digest 42 = .ok (.goto (-22), 3) := by decide +kernel
theorem dX8_digest_45 : decode cX8_digest 45 = .ok (.iconst 0, 1) := by decide +kernel
theorem dX8_digest_46 : decode cX8_digest 46 = .ok (.istore_n 1, 1) := by decide +kernel
theorem dX8_digest_47 : decode cX8_digest 47 = .ok (.iload_n 1, 1) := by decide +kernel
theorem dX8_digest_48 : decode cX8_digest 48 = .ok (.bipush 8, 2) := by decide +kernel
theorem dX8_digest_50 : decode cX8_digest 50 = .ok (.if_icmp .ge 19, 3) := by decide +kernel
theorem dX8_digest_53 : decode cX8_digest 53 = .ok (.aload_n 0, 1) := by decide +kernel
theorem dX8_digest_54 : decode cX8_digest 54 = .ok (.aload_n 0, 1) := by decide +kernel
theorem dX8_digest_55 : decode cX8_digest 55 = .ok (.iload_n 1, 1) := by decide +kernel
theorem dX8_digest_56 : decode cX8_digest 56 = .ok (.invokevirtual 305, 3) := by decide +kernel
theorem dX8_digest_59 : decode cX8_digest 59 = .ok (.i2l, 1) := by decide +kernel
theorem dX8_digest_60 : decode cX8_digest 60 = .ok (.invokevirtual 314, 3) := by decide +kernel
theorem dX8_digest_63 : decode cX8_digest 63 = .ok (.iinc 1 1, 3) := by decide +kernel
theorem dX8_digest_66 : decode cX8_digest 66 = .ok (.goto (-19), 3) := by decide +kernel
theorem dX8_digest_69 : decode cX8_digest 69 = .ok (.aload_n 0, 1) := by decide +kernel
theorem dX8_digest_70 : decode cX8_digest 70 = .ok (.getfield 310, 3) := by decide +kernel
theorem dX8_digest_73 : decode cX8_digest 73 = .ok (.lreturn, 1) := by decide +kernel
end
section
theorem dX8_ones_0 : decode cX8_ones 0 = .ok (.iconst 0, 1) := by decide +kernel
theorem dX8_ones_1 : decode cX8_ones 1 = .ok (.istore_n 1, 1) := by decide +kernel
theorem dX8_ones_2 : decode cX8_ones 2 = .ok (.iconst 0, 1) := by decide +kernel
theorem dX8_ones_3 : decode cX8_ones 3 = .ok (.istore_n 2, 1) := by decide +kernel
theorem dX8_ones_4 : decode cX8_ones 4 = .ok (.iload_n 2, 1) := by decide +kernel
theorem dX8_ones_5 : decode cX8_ones 5 = .ok (.bipush 8, 2) := by decide +kernel
theorem dX8_ones_7 : decode cX8_ones 7 = .ok (.if_icmp .ge 17, 3) := by decide +kernel
theorem dX8_ones_10 : decode cX8_ones 10 = .ok (.iload_n 1, 1) := by decide +kernel
theorem dX8_ones_11 : decode cX8_ones 11 = .ok (.iload_n 0, 1) := by decide +kernel
theorem dX8_ones_12 : decode cX8_ones 12 = .ok (.iload_n 2, 1) := by decide +kernel
theorem dX8_ones_13 : decode cX8_ones 13 = .ok (.ishr, 1) := by decide +kernel
theorem dX8_ones_14 : decode cX8_ones 14 = .ok (.iconst 1, 1) := by decide +kernel
theorem dX8_ones_15 : decode cX8_ones 15 = .ok (.iand, 1) := by decide +kernel
theorem dX8_ones_16 : decode cX8_ones 16 = .ok (.iadd, 1) := by decide +kernel
theorem dX8_ones_17 : decode cX8_ones 17 = .ok (.istore_n 1, 1) := by decide +kernel
theorem dX8_ones_18 : decode cX8_ones 18 = .ok (.iinc 2 1, 3) := by decide +kernel
theorem dX8_ones_21 : decode cX8_ones 21 = .ok (.goto (-17), 3) := by decide +kernel
theorem dX8_ones_24 : decode cX8_ones 24 = .ok (.iload_n 1, 1) := by decide +kernel
theorem dX8_ones_25 : decode cX8_ones 25 = .ok (.ireturn, 1) := by decide +kernel
theorem dX8_page_0 : decode cX8_page 0 = .ok (.aload_n 0, 1) := by decide +kernel
theorem dX8_page_1 : decode cX8_page 1 = .ok (.invokevirtual 115, 3) := by decide +kernel
theorem dX8_page_4 : decode cX8_page 4 = .ok (.aload_n 0, 1) := by decide +kernel
theorem dX8_page_5 : decode cX8_page 5 = .ok (.getfield 80, 3) := by decide +kernel
theorem dX8_page_8 : decode cX8_page 8 = .ok (.if_icmp .lt 10, 3) := by decide +kernel
theorem dX8_page_11 : decode cX8_page 11 = .ok (.aload_n 0, 1) := by decide +kernel
theorem dX8_page_12 : decode cX8_page 12 = .ok (.getfield 105, 3) := by decide +kernel
theorem dX8_page_15 : decode cX8_page 15 = .ok (.ifCond .ne 6, 3) := by decide +kernel
theorem dX8_page_18 : decode cX8_page 18 = .ok (.bipush (-103), 2) := by decide +kernel
theorem dX8_page_20 : decode cX8_page 20 = .ok (.ireturn, 1) := by decide +kernel
theorem dX8_page_21 : decode cX8_page 21 = .ok (.aload_n 0, 1) := by decide +kernel
theorem dX8_page_22 : decode cX8_page 22 = .ok (.aload_n 0, 1) := by decide +kernel
theorem dX8_page_23 : decode cX8_page 23 = .ok (.getfield 93, 3) := by decide +kernel
theorem dX8_page_26 : decode cX8_page 26 = .ok (.iconst 1, 1) := by decide +kernel
theorem dX8_page_27 : decode cX8_page 27 = .ok (.iadd, 1) := by decide +kernel
theorem dX8_page_28 : decode cX8_page 28 = .ok (.bipush 6, 2) := by decide +kernel
theorem dX8_page_30 : decode cX8_page 30 = .ok (.idiv, 1) := by decide +kernel
theorem dX8_page_31 : decode cX8_page 31 = .ok (.putfield 119, 3) := by decide +kernel
theorem dX8_page_34 : decode cX8_page 34 = .ok (.iconst 0, 1) := by decide +kernel
theorem dX8_page_35 : decode cX8_page 35 = .ok (.istore_n 1, 1) := by decide +kernel
theorem dX8_page_36 : decode cX8_page 36 = .ok (.iload_n 1, 1) := by decide +kernel
theorem dX8_page_37 : decode cX8_page 37 = .ok (.aload_n 0, 1) := by decide +kernel
theorem dX8_page_38 : decode cX8_page 38 = .ok (.getfield 119, 3) := by decide +kernel
theorem dX8_page_41 : decode cX8_page 41 = .ok (.if_icmp .ge 66, 3) := by decide +kernel
theorem dX8_page_44 : decode cX8_page 44 = .ok (.aload_n 0, 1) := by decide +kernel
theorem dX8_page_45 : decode cX8_page 45 = .ok (.getfield 13, 3) := by decide +kernel
theorem dX8_page_48 : decode cX8_page 48 = .ok (.iload_n 1, 1) := by decide +kernel
theorem dX8_page_49 : decode cX8_page 49 = .ok (.aload_n 0, 1) := by decide +kernel
theorem dX8_page_50 : decode cX8_page 50 = .ok (.getfield 7, 3) := by decide +kernel
theorem dX8_page_53 : decode cX8_page 53 = .ok (.bipush 6, 2) := by decide +kernel
theorem dX8_page_55 : decode cX8_page 55 = .ok (.iload_n 1, 1) := by decide +kernel
theorem dX8_page_56 : decode cX8_page 56 = .ok (.imul, 1) := by decide +kernel
theorem dX8_page_57 : decode cX8_page 57 = .ok (.iaload, 1) := by decide +kernel
theorem dX8_page_58 : decode cX8_page 58 = .ok (.invokestatic 83, 3) := by decide +kernel
theorem dX8_page_61 : decode cX8_page 61 = .ok (.iastore, 1) := by decide +kernel
theorem dX8_page_62 : decode cX8_page 62 = .ok (.iconst 0, 1) := by decide +kernel
theorem dX8_page_63 : decode cX8_page 63 = .ok (.istore_n 2, 1) := by decide +kernel
theorem dX8_page_64 : decode cX8_page 64 = .ok (.iload_n 2, 1) := by decide +kernel
theorem dX8_page_65 : decode cX8_page 65 = .ok (.iconst 4, 1) := by decide +kernel
theorem dX8_page_66 : decode cX8_page 66 = .ok (.if_icmp .ge 35, 3) := by decide +kernel
theorem dX8_page_69 : decode cX8_page 69 = .ok (.aload_n 0, 1) := by decide +kernel
theorem dX8_page_70 : decode cX8_page 70 = .ok (.getfield 16, 3) := by decide +kernel
theorem dX8_page_73 : decode cX8_page 73 = .ok (.iconst 4, 1) := by decide +kernel
theorem dX8_page_74 : decode cX8_page 74 = .ok (.iload_n 1, 1) := by decide +kernel
theorem dX8_page_75 : decode cX8_page 75 = .ok (.imul, 1) := by decide +kernel
theorem dX8_page_76 : decode cX8_page 76 = .ok (.iload_n 2, 1) := by decide +kernel
theorem dX8_page_77 : decode cX8_page 77 = .ok (.iadd, 1) := by decide +kernel
theorem dX8_page_78 : decode cX8_page 78 = .ok (.aload_n 0, 1) := by decide +kernel
theorem dX8_page_79 : decode cX8_page 79 = .ok (.getfield 7, 3) := by decide +kernel
theorem dX8_page_82 : decode cX8_page 82 = .ok (.bipush 6, 2) := by decide +kernel
theorem dX8_page_84 : decode cX8_page 84 = .ok (.iload_n 1, 1) := by decide +kernel
theorem dX8_page_85 : decode cX8_page 85 = .ok (.imul, 1) := by decide +kernel
theorem dX8_page_86 : decode cX8_page 86 = .ok (.iconst 1, 1) := by decide +kernel
theorem dX8_page_87 : decode cX8_page 87 = .ok (.iadd, 1) := by decide +kernel
theorem dX8_page_88 : decode cX8_page 88 = .ok (.iload_n 2, 1) := by decide +kernel
theorem dX8_page_89 : decode cX8_page 89 = .ok (.iadd, 1) := by decide +kernel
theorem dX8_page_90 : decode cX8_page 90 = .ok (.iaload, 1) := by decide +kernel
theorem dX8_page_91 : decode cX8_page 91 = .ok (.bipush 48, 2) := by decide +kernel
theorem dX8_page_93 : decode cX8_page 93 = .ok (.isub, 1) := by decide +kernel
theorem dX8_page_94 : decode cX8_page 94 = .ok (.iastore, 1) := by decide +kernel
theorem dX8_page_95 : decode cX8_page 95 = .ok (.iinc 2 1, 3) := by decide +kernel
theorem dX8_page_98 : decode cX8_page 98 = .ok (.goto (-34), 3) := by decide +kernel
theorem dX8_page_101 : decode cX8_page 101 = .ok (.iinc 1 1, 3) := by decide +kernel
theorem dX8_page_104 : decode cX8_page 104 = .ok (.goto (-68), 3) := by decide +kernel
theorem dX8_page_107 : decode cX8_page 107 = .ok (.aload_n 0, 1) := by decide +kernel
theorem dX8_page_108 : decode cX8_page 108 = .ok (.aload_n 0, 1) := by decide +kernel
theorem dX8_page_109 : decode cX8_page 109 = .ok (.getfield 105, 3) := by decide +kernel
theorem dX8_page_112 : decode cX8_page 112 = .ok (.putfield 122, 3) := by decide +kernel
theorem dX8_page_115 : decode cX8_page 115 = .ok (.iconst 0, 1) := by decide +kernel
theorem dX8_page_116 : decode cX8_page 116 = .ok (.istore_n 1, 1) := by decide +kernel
theorem dX8_page_117 : decode cX8_page 117 = .ok (.iload_n 1, 1) := by decide +kernel
theorem dX8_page_118 : decode cX8_page 118 = .ok (.aload_n 0, 1) := by decide +kernel
theorem dX8_page_119 : decode cX8_page 119 = .ok (.getfield 122, 3) := by decide +kernel
theorem dX8_page_122 : decode cX8_page 122 = .ok (.if_icmp .ge 31, 3) := by decide +kernel
theorem dX8_page_125 : decode cX8_page 125 = .ok (.aload_n 0, 1) := by decide +kernel
theorem dX8_page_126 : decode cX8_page 126 = .ok (.getfield 19, 3) := by decide +kernel
theorem dX8_page_129 : decode cX8_page 129 = .ok (.iload_n 1, 1) := by decide +kernel
theorem dX8_page_130 : decode cX8_page 130 = .ok (.aload_n 0, 1) := by decide +kernel
theorem dX8_page_131 : decode cX8_page 131 = .ok (.getfield 7, 3) := by decide +kernel
theorem dX8_page_134 : decode cX8_page 134 = .ok (.aload_n 0, 1) := by decide +kernel
theorem dX8_page_135 : decode cX8_page 135 = .ok (.getfield 93, 3) := by decide +kernel
theorem dX8_page_138 : decode cX8_page 138 = .ok (.iconst 1, 1) := by decide +kernel
theorem dX8_page_139 : decode cX8_page 139 = .ok (.iadd, 1) := by decide +kernel
theorem dX8_page_140 : decode cX8_page 140 = .ok (.iload_n 1, 1) := by decide +kernel
theorem dX8_page_141 : decode cX8_page 141 = .ok (.iadd, 1) := by decide +kernel
theorem dX8_page_142 : decode cX8_page 142 = .ok (.iaload, 1) := by decide +kernel
theorem dX8_page_143 : decode cX8_page 143 = .ok (.bipush 48, 2) := by decide +kernel
theorem dX8_page_145 : decode cX8_page 145 = .ok (.isub, 1) := by decide +kernel
theorem dX8_page_146 : decode cX8_page 146 = .ok (.iastore, 1) := by decide +kernel
theorem dX8_page_147 : decode cX8_page 147 = .ok (.iinc 1 1, 3) := by decide +kernel
theorem dX8_page_150 : decode cX8_page 150 = .ok (.goto (-33), 3) := by decide +kernel
theorem dX8_page_153 : decode cX8_page 153 = .ok (.aload_n 0, 1) := by decide +kernel
theorem dX8_page_154 : decode cX8_page 154 = .ok (.iconst 0, 1) := by decide +kernel
theorem dX8_page_155 : decode cX8_page 155 = .ok (.putfield 125, 3) := by decide +kernel
theorem dX8_page_158 : decode cX8_page 158 = .ok (.aload_n 0, 1) := by decide +kernel
theorem dX8_page_159 : decode cX8_page 159 = .ok (.dup, 1) := by decide +kernel
theorem dX8_page_160 : decode cX8_page 160 = .ok (.getfield 128, 3) := by decide +kernel
theorem dX8_page_163 : decode cX8_page 163 = .ok (.iconst 1, 1) := by decide +kernel
theorem dX8_page_164 : decode cX8_page 164 = .ok (.iadd, 1) := by decide +kernel
theorem dX8_page_165 : decode cX8_page 165 = .ok (.putfield 128, 3) := by decide +kernel
theorem dX8_page_168 : decode cX8_page 168 = .ok (.aload_n 0, 1) := by decide +kernel
theorem dX8_page_169 : decode cX8_page 169 = .ok (.iconst 0, 1) := by decide +kernel
theorem dX8_page_170 : decode cX8_page 170 = .ok (.putfield 80, 3) := by decide +kernel
theorem dX8_page_173 : decode cX8_page 173 = .ok (.aload_n 0, 1) := by decide +kernel
theorem dX8_page_174 : decode cX8_page 174 = .ok (.getfield 119, 3) := by decide +kernel
theorem dX8_page_177 : decode cX8_page 177 = .ok (.ireturn, 1) := by decide +kernel
theorem dX8_tryLane_0 : decode cX8_tryLane 0 = .ok (.iload 4, 2) := by decide +kernel
theorem dX8_tryLane_2 : decode cX8_tryLane 2 = .ok (.iload_n 3, 1) := by decide +kernel
theorem dX8_tryLane_3 : decode cX8_tryLane 3 = .ok (.isub, 1) := by decide +kernel
theorem dX8_tryLane_4 : decode cX8_tryLane 4 = .ok (.aload_n 0, 1) := by decide +kernel
theorem dX8_tryLane_5 : decode cX8_tryLane 5 = .ok (.getfield 139, 3) := by decide +kernel
theorem dX8_tryLane_8 : decode cX8_tryLane 8 = .ok (.if_icmp .gt 30, 3) := by decide +kernel
theorem dX8_tryLane_11 : decode cX8_tryLane 11 = .ok (.iload 4, 2) := by decide +kernel
theorem dX8_tryLane_13 : decode cX8_tryLane 13 = .ok (.iload_n 3, 1) := by decide +kernel
theorem dX8_tryLane_14 : decode cX8_tryLane 14 = .ok (.isub, 1) := by decide +kernel
theorem dX8_tryLane_15 : decode cX8_tryLane 15 = .ok (.aload_n 0, 1) := by decide +kernel
theorem dX8_tryLane_16 : decode cX8_tryLane 16 = .ok (.getfield 139, 3) := by decide +kernel
theorem dX8_tryLane_19 : decode cX8_tryLane 19 = .ok (.if_icmp .ne 23, 3) := by decide +kernel
theorem dX8_tryLane_22 : decode cX8_tryLane 22 = .ok (.iload_n 2, 1) := by decide +kernel
theorem dX8_tryLane_23 : decode cX8_tryLane 23 = .ok (.aload_n 0, 1) := by decide +kernel
theorem dX8_tryLane_24 : decode cX8_tryLane 24 = .ok (.getfield 142, 3) := by decide +kernel
theorem dX8_tryLane_27 : decode cX8_tryLane 27 = .ok (.if_icmp .ne 15, 3) := by decide +kernel
theorem dX8_tryLane_30 : decode cX8_tryLane 30 = .ok (.iload_n 3, 1) := by decide +kernel
theorem dX8_tryLane_31 : decode cX8_tryLane 31 = .ok (.aload_n 0, 1) := by decide +kernel
theorem dX8_tryLane_32 : decode cX8_tryLane 32 = .ok (.getfield 145, 3) := by decide +kernel
theorem dX8_tryLane_35 : decode cX8_tryLane 35 = .ok (.if_icmp .ge 7, 3) := by decide +kernel
theorem dX8_tryLane_38 : decode cX8_tryLane 38 = .ok (.iconst 1, 1) := by decide +kernel
theorem dX8_tryLane_39 : decode cX8_tryLane 39 = .ok (.goto 4, 3) := by decide +kernel
theorem dX8_tryLane_42 : decode cX8_tryLane 42 = .ok (.iconst 0, 1) := by decide +kernel
theorem dX8_tryLane_43 : decode cX8_tryLane 43 = .ok (.istore 5, 2) := by decide +kernel
theorem dX8_tryLane_45 : decode cX8_tryLane 45 = .ok (.iload 4, 2) := by decide +kernel
theorem dX8_tryLane_47 : decode cX8_tryLane 47 = .ok (.iload_n 3, 1) := by decide +kernel
theorem dX8_tryLane_48 : decode cX8_tryLane 48 = .ok (.if_icmp .le 38, 3) := by decide +kernel
theorem dX8_tryLane_51 : decode cX8_tryLane 51 = .ok (.iload 5, 2) := by decide +kernel
theorem dX8_tryLane_53 : decode cX8_tryLane 53 = .ok (.ifCond .eq 33, 3) := by decide +kernel
theorem dX8_tryLane_56 : decode cX8_tryLane 56 = .ok (.aload_n 0, 1) := by decide +kernel
theorem dX8_tryLane_57 : decode cX8_tryLane 57 = .ok (.iload_n 1, 1) := by decide +kernel
theorem dX8_tryLane_58 : decode cX8_tryLane 58 = .ok (.iload_n 2, 1) := by decide +kernel
theorem dX8_tryLane_59 : decode cX8_tryLane 59 = .ok (.iload_n 3, 1) := by decide +kernel
theorem dX8_tryLane_60 : decode cX8_tryLane 60 = .ok (.iload 4, 2) := by decide +kernel
theorem dX8_tryLane_62 : decode cX8_tryLane 62 = .ok (.invokevirtual 148, 3) := by decide +kernel
theorem dX8_tryLane_65 : decode cX8_tryLane 65 = .ok (.ifCond .eq 21, 3) := by decide +kernel
theorem dX8_tryLane_68 : decode cX8_tryLane 68 = .ok (.aload_n 0, 1) := by decide +kernel
theorem dX8_tryLane_69 : decode cX8_tryLane 69 = .ok (.iload_n 2, 1) := by decide +kernel
theorem dX8_tryLane_70 : decode cX8_tryLane 70 = .ok (.putfield 142, 3) := by decide +kernel
theorem dX8_tryLane_73 : decode cX8_tryLane 73 = .ok (.aload_n 0, 1) := by decide +kernel
theorem dX8_tryLane_74 : decode cX8_tryLane 74 = .ok (.iload_n 3, 1) := by decide +kernel
theorem dX8_tryLane_75 : decode cX8_tryLane 75 = .ok (.putfield 145, 3) := by decide +kernel
theorem dX8_tryLane_78 : decode cX8_tryLane 78 = .ok (.aload_n 0, 1) := by decide +kernel
theorem dX8_tryLane_79 : decode cX8_tryLane 79 = .ok (.iload 4, 2) := by decide +kernel
theorem dX8_tryLane_81 : decode cX8_tryLane 81 = .ok (.iload_n 3, 1) := by decide +kernel
theorem dX8_tryLane_82 : decode cX8_tryLane 82 = .ok (.isub, 1) := by decide +kernel
theorem dX8_tryLane_83 : decode cX8_tryLane 83 = .ok (.putfield 139, 3) := by decide +kernel
theorem dX8_tryLane_86 : decode cX8_tryLane 86 = .ok (.return_, 1) := by decide +kernel
theorem dX8_ruleOf_0 : decode cX8_ruleOf 0 = .ok (.iconst 0, 1) := by decide +kernel
theorem dX8_ruleOf_1 : decode cX8_ruleOf 1 = .ok (.istore_n 3, 1) := by decide +kernel
theorem dX8_ruleOf_2 : decode cX8_ruleOf 2 = .ok (.iload_n 3, 1) := by decide +kernel
theorem dX8_ruleOf_3 : decode cX8_ruleOf 3 = .ok (.aload_n 0, 1) := by decide +kernel
theorem dX8_ruleOf_4 : decode cX8_ruleOf 4 = .ok (.getfield 122, 3) := by decide +kernel
theorem dX8_ruleOf_7 : decode cX8_ruleOf 7 = .ok (.if_icmp .ge 31, 3) := by decide +kernel
theorem dX8_ruleOf_10 : decode cX8_ruleOf 10 = .ok (.aload_n 0, 1) := by decide +kernel
theorem dX8_ruleOf_11 : decode cX8_ruleOf 11 = .ok (.aload_n 0, 1) := by decide +kernel
theorem dX8_ruleOf_12 : decode cX8_ruleOf 12 = .ok (.getfield 19, 3) := by decide +kernel
theorem dX8_ruleOf_15 : decode cX8_ruleOf 15 = .ok (.iload_n 3, 1) := by decide +kernel
theorem dX8_ruleOf_16 : decode cX8_ruleOf 16 = .ok (.iaload, 1) := by decide +kernel
theorem dX8_ruleOf_17 : decode cX8_ruleOf 17 = .ok (.iload_n 1, 1) := by decide +kernel
theorem dX8_ruleOf_18 : decode cX8_ruleOf 18 = .ok (.iload_n 2, 1) := by decide +kernel
theorem dX8_ruleOf_19 : decode cX8_ruleOf 19 = .ok (.invokevirtual 159, 3) := by decide +kernel
theorem dX8_ruleOf_22 : decode cX8_ruleOf 22 = .ok (.ifCond .eq 10, 3) := by decide +kernel
theorem dX8_ruleOf_25 : decode cX8_ruleOf 25 = .ok (.aload_n 0, 1) := by decide +kernel
theorem dX8_ruleOf_26 : decode cX8_ruleOf 26 = .ok (.getfield 19, 3) := by decide +kernel
theorem dX8_ruleOf_29 : decode cX8_ruleOf 29 = .ok (.iload_n 3, 1) := by decide +kernel
theorem dX8_ruleOf_30 : decode cX8_ruleOf 30 = .ok (.iaload, 1) := by decide +kernel
theorem dX8_ruleOf_31 : decode cX8_ruleOf 31 = .ok (.ireturn, 1) := by decide +kernel
theorem dX8_ruleOf_32 : decode cX8_ruleOf 32 = .ok (.iinc 3 1, 3) := by decide +kernel
theorem dX8_ruleOf_35 : decode cX8_ruleOf 35 = .ok (.goto (-33), 3) := by decide +kernel
theorem dX8_ruleOf_38 : decode cX8_ruleOf 38 = .ok (.iconst 4, 1) := by decide +kernel
theorem dX8_ruleOf_39 : decode cX8_ruleOf 39 = .ok (.ireturn, 1) := by decide +kernel
theorem dX8_placeOf_0 : decode cX8_placeOf 0 = .ok (.iconst (-1), 1) := by decide +kernel
theorem dX8_placeOf_1 : decode cX8_placeOf 1 = .ok (.istore_n 2, 1) := by decide +kernel
theorem dX8_placeOf_2 : decode cX8_placeOf 2 = .ok (.iconst 0, 1) := by decide +kernel
theorem dX8_placeOf_3 : decode cX8_placeOf 3 = .ok (.istore_n 3, 1) := by decide +kernel
theorem dX8_placeOf_4 : decode cX8_placeOf 4 = .ok (.iload_n 3, 1) := by decide +kernel
theorem dX8_placeOf_5 : decode cX8_placeOf 5 = .ok (.aload_n 0, 1) := by decide +kernel
theorem dX8_placeOf_6 : decode cX8_placeOf 6 = .ok (.getfield 166, 3) := by decide +kernel
theorem dX8_placeOf_9 : decode cX8_placeOf 9 = .ok (.if_icmp .ge 25, 3) := by decide +kernel
theorem dX8_placeOf_12 : decode cX8_placeOf 12 = .ok (.aload_n 0, 1) := by decide +kernel
theorem dX8_placeOf_13 : decode cX8_placeOf 13 = .ok (.getfield 25, 3) := by decide +kernel
theorem dX8_placeOf_16 : decode cX8_placeOf 16 = .ok (.iload_n 3, 1) := by decide +kernel
theorem dX8_placeOf_17 : decode cX8_placeOf 17 = .ok (.iaload, 1) := by decide +kernel
theorem dX8_placeOf_18 : decode cX8_placeOf 18 = .ok (.iload_n 1, 1) := by decide +kernel
theorem dX8_placeOf_19 : decode cX8_placeOf 19 = .ok (.if_icmp .ne 7, 3) := by decide +kernel
theorem dX8_placeOf_22 : decode cX8_placeOf 22 = .ok (.iload_n 3, 1) := by decide +kernel
theorem dX8_placeOf_23 : decode cX8_placeOf 23 = .ok (.goto 4, 3) := by decide +kernel
theorem dX8_placeOf_26 : decode cX8_placeOf 26 = .ok (.iload_n 2, 1) := by decide +kernel
theorem dX8_placeOf_27 : decode cX8_placeOf 27 = .ok (.istore_n 2, 1) := by decide +kernel
theorem dX8_placeOf_28 : decode cX8_placeOf 28 = .ok (.iinc 3 1, 3) := by decide +kernel
theorem dX8_placeOf_31 : decode cX8_placeOf 31 = .ok (.goto (-27), 3) := by decide +kernel
theorem dX8_placeOf_34 : decode cX8_placeOf 34 = .ok (.iload_n 2, 1) := by decide +kernel
theorem dX8_placeOf_35 : decode cX8_placeOf 35 = .ok (.ireturn, 1) := by decide +kernel
theorem dX8_tellBox_0 : decode cX8_tellBox 0 = .ok (.aload_n 0, 1) := by decide +kernel
theorem dX8_tellBox_1 : decode cX8_tellBox 1 = .ok (.invokevirtual 201, 3) := by decide +kernel
theorem dX8_tellBox_4 : decode cX8_tellBox 4 = .ok (.iload_n 2, 1) := by decide +kernel
theorem dX8_tellBox_5 : decode cX8_tellBox 5 = .ok (.tableswitch 107 0 9 #[55, 62, 62, 62, 62, 75, 81, 88, 95, 101], 55) := by decide +kernel
theorem dX8_tellBox_60 : decode cX8_tellBox 60 = .ok (.aload_n 0, 1) := by decide +kernel
theorem dX8_tellBox_61 : decode cX8_tellBox 61 = .ok (.getfield 13, 3) := by decide +kernel
theorem dX8_tellBox_64 : decode cX8_tellBox 64 = .ok (.iload_n 1, 1) := by decide +kernel
theorem dX8_tellBox_65 : decode cX8_tellBox 65 = .ok (.iaload, 1) := by decide +kernel
theorem dX8_tellBox_66 : decode cX8_tellBox 66 = .ok (.ireturn, 1) := by decide +kernel
theorem dX8_tellBox_67 : decode cX8_tellBox 67 = .ok (.aload_n 0, 1) := by decide +kernel
theorem dX8_tellBox_68 : decode cX8_tellBox 68 = .ok (.getfield 16, 3) := by decide +kernel
theorem dX8_tellBox_71 : decode cX8_tellBox 71 = .ok (.iconst 4, 1) := by decide +kernel
theorem dX8_tellBox_72 : decode cX8_tellBox 72 = .ok (.iload_n 1, 1) := by decide +kernel
theorem dX8_tellBox_73 : decode cX8_tellBox 73 = .ok (.imul, 1) := by decide +kernel
theorem dX8_tellBox_74 : decode cX8_tellBox 74 = .ok (.iload_n 2, 1) := by decide +kernel
theorem dX8_tellBox_75 : decode cX8_tellBox 75 = .ok (.iadd, 1) := by decide +kernel
theorem dX8_tellBox_76 : decode cX8_tellBox 76 = .ok (.iconst 1, 1) := by decide +kernel
theorem dX8_tellBox_77 : decode cX8_tellBox 77 = .ok (.isub, 1) := by decide +kernel
theorem dX8_tellBox_78 : decode cX8_tellBox 78 = .ok (.iaload, 1) := by decide +kernel
theorem dX8_tellBox_79 : decode cX8_tellBox 79 = .ok (.ireturn, 1) := by decide +kernel
theorem dX8_tellBox_80 : decode cX8_tellBox 80 = .ok (.aload_n 0, 1) := by decide +kernel
theorem dX8_tellBox_81 : decode cX8_tellBox 81 = .ok (.iload_n 1, 1) := by decide +kernel
theorem dX8_tellBox_82 : decode cX8_tellBox 82 = .ok (.invokevirtual 204, 3) := by decide +kernel
theorem dX8_tellBox_85 : decode cX8_tellBox 85 = .ok (.ireturn, 1) := by decide +kernel
theorem dX8_tellBox_86 : decode cX8_tellBox 86 = .ok (.aload_n 0, 1) := by decide +kernel
theorem dX8_tellBox_87 : decode cX8_tellBox 87 = .ok (.getfield 22, 3) := by decide +kernel
theorem dX8_tellBox_90 : decode cX8_tellBox 90 = .ok (.iload_n 1, 1) := by decide +kernel
theorem dX8_tellBox_91 : decode cX8_tellBox 91 = .ok (.iaload, 1) := by decide +kernel
theorem dX8_tellBox_92 : decode cX8_tellBox 92 = .ok (.ireturn, 1) := by decide +kernel
theorem dX8_tellBox_93 : decode cX8_tellBox 93 = .ok (.aload_n 0, 1) := by decide +kernel
theorem dX8_tellBox_94 : decode cX8_tellBox 94 = .ok (.getfield 34, 3) := by decide +kernel
theorem dX8_tellBox_97 : decode cX8_tellBox 97 = .ok (.iload_n 1, 1) := by decide +kernel
theorem dX8_tellBox_98 : decode cX8_tellBox 98 = .ok (.iaload, 1) := by decide +kernel
theorem dX8_tellBox_99 : decode cX8_tellBox 99 = .ok (.ireturn, 1) := by decide +kernel
theorem dX8_tellBox_100 : decode cX8_tellBox 100 = .ok (.aload_n 0, 1) := by decide +kernel
theorem dX8_tellBox_101 : decode cX8_tellBox 101 = .ok (.iload_n 1, 1) := by decide +kernel
theorem dX8_tellBox_102 : decode cX8_tellBox 102 = .ok (.invokevirtual 207, 3) := by decide +kernel
theorem dX8_tellBox_105 : decode cX8_tellBox 105 = .ok (.ireturn, 1) := by decide +kernel
theorem dX8_tellBox_106 : decode cX8_tellBox 106 = .ok (.aload_n 0, 1) := by decide +kernel
theorem dX8_tellBox_107 : decode cX8_tellBox 107 = .ok (.iload_n 1, 1) := by decide +kernel
theorem dX8_tellBox_108 : decode cX8_tellBox 108 = .ok (.invokevirtual 210, 3) := by decide +kernel
theorem dX8_tellBox_111 : decode cX8_tellBox 111 = .ok (.ireturn, 1) := by decide +kernel
theorem dX8_tellBox_112 : decode cX8_tellBox 112 = .ok (.bipush (-102), 2) := by decide +kernel
theorem dX8_tellBox_114 : decode cX8_tellBox 114 = .ok (.ireturn, 1) := by decide +kernel
theorem dX8_order_0 : decode cX8_order 0 = .ok (.aload_n 0, 1) := by decide +kernel
theorem dX8_order_1 : decode cX8_order 1 = .ok (.iload_n 1, 1) := by decide +kernel
theorem dX8_order_2 : decode cX8_order 2 = .ok (.invokevirtual 213, 3) := by decide +kernel
theorem dX8_order_5 : decode cX8_order 5 = .ok (.ifCond .ne 6, 3) := by decide +kernel
theorem dX8_order_8 : decode cX8_order 8 = .ok (.bipush (-101), 2) := by decide +kernel
theorem dX8_order_10 : decode cX8_order 10 = .ok (.ireturn, 1) := by decide +kernel
theorem dX8_order_11 : decode cX8_order 11 = .ok (.aload_n 0, 1) := by decide +kernel
theorem dX8_order_12 : decode cX8_order 12 = .ok (.invokevirtual 201, 3) := by decide +kernel
theorem dX8_order_15 : decode cX8_order 15 = .ok (.aload_n 0, 1) := by decide +kernel
theorem dX8_order_16 : decode cX8_order 16 = .ok (.getfield 25, 3) := by decide +kernel
theorem dX8_order_19 : decode cX8_order 19 = .ok (.iload_n 1, 1) := by decide +kernel
theorem dX8_order_20 : decode cX8_order 20 = .ok (.iaload, 1) := by decide +kernel
theorem dX8_order_21 : decode cX8_order 21 = .ok (.ireturn, 1) := by decide +kernel
theorem dX8_why_0 : decode cX8_why 0 = .ok (.aload_n 0, 1) := by decide +kernel
theorem dX8_why_1 : decode cX8_why 1 = .ok (.iload_n 1, 1) := by decide +kernel
theorem dX8_why_2 : decode cX8_why 2 = .ok (.invokevirtual 213, 3) := by decide +kernel
theorem dX8_why_5 : decode cX8_why 5 = .ok (.ifCond .eq 16, 3) := by decide +kernel
theorem dX8_why_8 : decode cX8_why 8 = .ok (.aload_n 0, 1) := by decide +kernel
theorem dX8_why_9 : decode cX8_why 9 = .ok (.iload_n 2, 1) := by decide +kernel
theorem dX8_why_10 : decode cX8_why 10 = .ok (.invokevirtual 213, 3) := by decide +kernel
theorem dX8_why_13 : decode cX8_why 13 = .ok (.ifCond .eq 8, 3) := by decide +kernel
theorem dX8_why_16 : decode cX8_why 16 = .ok (.iload_n 1, 1) := by decide +kernel
theorem dX8_why_17 : decode cX8_why 17 = .ok (.iload_n 2, 1) := by decide +kernel
theorem dX8_why_18 : decode cX8_why 18 = .ok (.if_icmp .ne 6, 3) := by decide +kernel
theorem dX8_why_21 : decode cX8_why 21 = .ok (.bipush (-101), 2) := by decide +kernel
theorem dX8_why_23 : decode cX8_why 23 = .ok (.ireturn, 1) := by decide +kernel
theorem dX8_why_24 : decode cX8_why 24 = .ok (.aload_n 0, 1) := by decide +kernel
theorem dX8_why_25 : decode cX8_why 25 = .ok (.invokevirtual 201, 3) := by decide +kernel
theorem dX8_why_28 : decode cX8_why 28 = .ok (.aload_n 0, 1) := by decide +kernel
theorem dX8_why_29 : decode cX8_why 29 = .ok (.iload_n 1, 1) := by decide +kernel
theorem dX8_why_30 : decode cX8_why 30 = .ok (.invokevirtual 204, 3) := by decide +kernel
theorem dX8_why_33 : decode cX8_why 33 = .ok (.aload_n 0, 1) := by decide +kernel
theorem dX8_why_34 : decode cX8_why 34 = .ok (.iload_n 2, 1) := by decide +kernel
theorem dX8_why_35 : decode cX8_why 35 = .ok (.invokevirtual 204, 3) := by decide +kernel
theorem dX8_why_38 : decode cX8_why 38 = .ok (.if_icmp .ge 7, 3) := by decide +kernel
theorem dX8_why_41 : decode cX8_why 41 = .ok (.iload_n 1, 1) := by decide +kernel
theorem dX8_why_42 : decode cX8_why 42 = .ok (.goto 4, 3) := by decide +kernel
theorem dX8_why_45 : decode cX8_why 45 = .ok (.iload_n 2, 1) := by decide +kernel
theorem dX8_why_46 : decode cX8_why 46 = .ok (.istore_n 3, 1) := by decide +kernel
theorem dX8_why_47 : decode cX8_why 47 = .ok (.aload_n 0, 1) := by decide +kernel
theorem dX8_why_48 : decode cX8_why 48 = .ok (.getfield 22, 3) := by decide +kernel
theorem dX8_why_51 : decode cX8_why 51 = .ok (.iload_n 1, 1) := by decide +kernel
theorem dX8_why_52 : decode cX8_why 52 = .ok (.iaload, 1) := by decide +kernel
theorem dX8_why_53 : decode cX8_why 53 = .ok (.iconst (-1), 1) := by decide +kernel
theorem dX8_why_54 : decode cX8_why 54 = .ok (.if_icmp .ne 13, 3) := by decide +kernel
theorem dX8_why_57 : decode cX8_why 57 = .ok (.aload_n 0, 1) := by decide +kernel
theorem dX8_why_58 : decode cX8_why 58 = .ok (.getfield 22, 3) := by decide +kernel
theorem dX8_why_61 : decode cX8_why 61 = .ok (.iload_n 2, 1) := by decide +kernel
theorem dX8_why_62 : decode cX8_why 62 = .ok (.iaload, 1) := by decide +kernel
theorem dX8_why_63 : decode cX8_why 63 = .ok (.iconst (-1), 1) := by decide +kernel
theorem dX8_why_64 : decode cX8_why 64 = .ok (.if_icmp .eq 8, 3) := by decide +kernel
theorem dX8_why_67 : decode cX8_why 67 = .ok (.bipush 6, 2) := by decide +kernel
theorem dX8_why_69 : decode cX8_why 69 = .ok (.goto 28, 3) := by decide +kernel
theorem dX8_why_72 : decode cX8_why 72 = .ok (.aload_n 0, 1) := by decide +kernel
theorem dX8_why_73 : decode cX8_why 73 = .ok (.getfield 31, 3) := by decide +kernel
theorem dX8_why_76 : decode cX8_why 76 = .ok (.iload_n 1, 1) := by decide +kernel
theorem dX8_why_77 : decode cX8_why 77 = .ok (.iaload, 1) := by decide +kernel
theorem dX8_why_78 : decode cX8_why 78 = .ok (.aload_n 0, 1) := by decide +kernel
theorem dX8_why_79 : decode cX8_why 79 = .ok (.getfield 31, 3) := by decide +kernel
theorem dX8_why_82 : decode cX8_why 82 = .ok (.iload_n 2, 1) := by decide +kernel
theorem dX8_why_83 : decode cX8_why 83 = .ok (.iaload, 1) := by decide +kernel
theorem dX8_why_84 : decode cX8_why 84 = .ok (.if_icmp .eq 7, 3) := by decide +kernel
theorem dX8_why_87 : decode cX8_why 87 = .ok (.iconst 5, 1) := by decide +kernel
theorem dX8_why_88 : decode cX8_why 88 = .ok (.goto 9, 3) := by decide +kernel
theorem dX8_why_91 : decode cX8_why 91 = .ok (.aload_n 0, 1) := by decide +kernel
theorem dX8_why_92 : decode cX8_why 92 = .ok (.iload_n 1, 1) := by decide +kernel
theorem dX8_why_93 : decode cX8_why 93 = .ok (.iload_n 2, 1) := by decide +kernel
theorem dX8_why_94 : decode cX8_why 94 = .ok (.invokevirtual 163, 3) := by decide +kernel
theorem dX8_why_97 : decode cX8_why 97 = .ok (.istore 4, 2) := by decide +kernel
theorem dX8_why_99 : decode cX8_why 99 = .ok (.bipush 10, 2) := by decide +kernel
theorem dX8_why_101 : decode cX8_why 101 = .ok (.iload_n 3, 1) := by decide +kernel
theorem dX8_why_102 : decode cX8_why 102 = .ok (.imul, 1) := by decide +kernel
theorem dX8_why_103 : decode cX8_why 103 = .ok (.iload 4, 2) := by decide +kernel
theorem dX8_why_105 : decode cX8_why 105 = .ok (.iadd, 1) := by decide +kernel
theorem dX8_why_106 : decode cX8_why 106 = .ok (.ireturn, 1) := by decide +kernel
theorem dX8_rankOf_0 : decode cX8_rankOf 0 = .ok (.sipush 1000, 3) := by decide +kernel
theorem dX8_rankOf_3 : decode cX8_rankOf 3 = .ok (.iload_n 2, 1) := by decide +kernel
theorem dX8_rankOf_4 : decode cX8_rankOf 4 = .ok (.isub, 1) := by decide +kernel
theorem dX8_rankOf_5 : decode cX8_rankOf 5 = .ok (.sipush 2000, 3) := by decide +kernel
theorem dX8_rankOf_8 : decode cX8_rankOf 8 = .ok (.imul, 1) := by decide +kernel
theorem dX8_rankOf_9 : decode cX8_rankOf 9 = .ok (.iconst 1, 1) := by decide +kernel
theorem dX8_rankOf_10 : decode cX8_rankOf 10 = .ok (.iload_n 0, 1) := by decide +kernel
theorem dX8_rankOf_11 : decode cX8_rankOf 11 = .ok (.isub, 1) := by decide +kernel
theorem dX8_rankOf_12 : decode cX8_rankOf 12 = .ok (.sipush 1000, 3) := by decide +kernel
theorem dX8_rankOf_15 : decode cX8_rankOf 15 = .ok (.imul, 1) := by decide +kernel
theorem dX8_rankOf_16 : decode cX8_rankOf 16 = .ok (.iadd, 1) := by decide +kernel
theorem dX8_rankOf_17 : decode cX8_rankOf 17 = .ok (.iload_n 1, 1) := by decide +kernel
theorem dX8_rankOf_18 : decode cX8_rankOf 18 = .ok (.iadd, 1) := by decide +kernel
theorem dX8_rankOf_19 : decode cX8_rankOf 19 = .ok (.ireturn, 1) := by decide +kernel
theorem dX8_nextLane_0 : decode cX8_nextLane 0 = .ok (.iconst (-1), 1) := by decide +kernel
theorem dX8_nextLane_1 : decode cX8_nextLane 1 = .ok (.istore_n 3, 1) := by decide +kernel
theorem dX8_nextLane_2 : decode cX8_nextLane 2 = .ok (.iconst 0, 1) := by decide +kernel
theorem dX8_nextLane_3 : decode cX8_nextLane 3 = .ok (.istore 4, 2) := by decide +kernel
theorem dX8_nextLane_5 : decode cX8_nextLane 5 = .ok (.iload 4, 2) := by decide +kernel
theorem dX8_nextLane_7 : decode cX8_nextLane 7 = .ok (.sipush 128, 3) := by decide +kernel
theorem dX8_nextLane_10 : decode cX8_nextLane 10 = .ok (.if_icmp .ge 152, 3) := by decide +kernel
theorem dX8_nextLane_13 : decode cX8_nextLane 13 = .ok (.iload 4, 2) := by decide +kernel
theorem dX8_nextLane_15 : decode cX8_nextLane 15 = .ok (.bipush 64, 2) := by decide +kernel
theorem dX8_nextLane_17 : decode cX8_nextLane 17 = .ok (.idiv, 1) := by decide +kernel
theorem dX8_nextLane_18 : decode cX8_nextLane 18 = .ok (.istore 5, 2) := by decide +kernel
theorem dX8_nextLane_20 : decode cX8_nextLane 20 = .ok (.iload 4, 2) := by decide +kernel
theorem dX8_nextLane_22 : decode cX8_nextLane 22 = .ok (.bipush 8, 2) := by decide +kernel
theorem dX8_nextLane_24 : decode cX8_nextLane 24 = .ok (.idiv, 1) := by decide +kernel
theorem dX8_nextLane_25 : decode cX8_nextLane 25 = .ok (.bipush 8, 2) := by decide +kernel
theorem dX8_nextLane_27 : decode cX8_nextLane 27 = .ok (.irem, 1) := by decide +kernel
theorem dX8_nextLane_28 : decode cX8_nextLane 28 = .ok (.istore 6, 2) := by decide +kernel
theorem dX8_nextLane_30 : decode cX8_nextLane 30 = .ok (.iload 4, 2) := by decide +kernel
theorem dX8_nextLane_32 : decode cX8_nextLane 32 = .ok (.bipush 8, 2) := by decide +kernel
theorem dX8_nextLane_34 : decode cX8_nextLane 34 = .ok (.irem, 1) := by decide +kernel
theorem dX8_nextLane_35 : decode cX8_nextLane 35 = .ok (.istore 7, 2) := by decide +kernel
theorem dX8_nextLane_37 : decode cX8_nextLane 37 = .ok (.iload_n 1, 1) := by decide +kernel
theorem dX8_nextLane_38 : decode cX8_nextLane 38 = .ok (.iload 6, 2) := by decide +kernel
theorem dX8_nextLane_40 : decode cX8_nextLane 40 = .ok (.invokestatic 101, 3) := by decide +kernel
theorem dX8_nextLane_43 : decode cX8_nextLane 43 = .ok (.ifCond .eq 113, 3) := by decide +kernel
theorem dX8_nextLane_46 : decode cX8_nextLane 46 = .ok (.iload_n 1, 1) := by decide +kernel
theorem dX8_nextLane_47 : decode cX8_nextLane 47 = .ok (.iload 7, 2) := by decide +kernel
theorem dX8_nextLane_49 : decode cX8_nextLane 49 = .ok (.invokestatic 101, 3) := by decide +kernel
theorem dX8_nextLane_52 : decode cX8_nextLane 52 = .ok (.ifCond .eq 104, 3) := by decide +kernel
theorem dX8_nextLane_55 : decode cX8_nextLane 55 = .ok (.aload_n 0, 1) := by decide +kernel
theorem dX8_nextLane_56 : decode cX8_nextLane 56 = .ok (.getfield 16, 3) := by decide +kernel
theorem dX8_nextLane_59 : decode cX8_nextLane 59 = .ok (.iconst 4, 1) := by decide +kernel
theorem dX8_nextLane_60 : decode cX8_nextLane 60 = .ok (.iload 6, 2) := by decide +kernel
theorem dX8_nextLane_62 : decode cX8_nextLane 62 = .ok (.imul, 1) := by decide +kernel
theorem dX8_nextLane_63 : decode cX8_nextLane 63 = .ok (.iconst 2, 1) := by decide +kernel
theorem dX8_nextLane_64 : decode cX8_nextLane 64 = .ok (.iadd, 1) := by decide +kernel
theorem dX8_nextLane_65 : decode cX8_nextLane 65 = .ok (.iload 5, 2) := by decide +kernel
theorem dX8_nextLane_67 : decode cX8_nextLane 67 = .ok (.iadd, 1) := by decide +kernel
theorem dX8_nextLane_68 : decode cX8_nextLane 68 = .ok (.iaload, 1) := by decide +kernel
theorem dX8_nextLane_69 : decode cX8_nextLane 69 = .ok (.istore 8, 2) := by decide +kernel
theorem dX8_nextLane_71 : decode cX8_nextLane 71 = .ok (.aload_n 0, 1) := by decide +kernel
theorem dX8_nextLane_72 : decode cX8_nextLane 72 = .ok (.getfield 16, 3) := by decide +kernel
theorem dX8_nextLane_75 : decode cX8_nextLane 75 = .ok (.iconst 4, 1) := by decide +kernel
theorem dX8_nextLane_76 : decode cX8_nextLane 76 = .ok (.iload 7, 2) := by decide +kernel
theorem dX8_nextLane_78 : decode cX8_nextLane 78 = .ok (.imul, 1) := by decide +kernel
theorem dX8_nextLane_79 : decode cX8_nextLane 79 = .ok (.iload 5, 2) := by decide +kernel
theorem dX8_nextLane_81 : decode cX8_nextLane 81 = .ok (.iadd, 1) := by decide +kernel
theorem dX8_nextLane_82 : decode cX8_nextLane 82 = .ok (.iaload, 1) := by decide +kernel
theorem dX8_nextLane_83 : decode cX8_nextLane 83 = .ok (.istore 9, 2) := by decide +kernel
theorem dX8_nextLane_85 : decode cX8_nextLane 85 = .ok (.iload 5, 2) := by decide +kernel
theorem dX8_nextLane_87 : decode cX8_nextLane 87 = .ok (.iload 8, 2) := by decide +kernel
theorem dX8_nextLane_89 : decode cX8_nextLane 89 = .ok (.iload 9, 2) := by decide +kernel
theorem dX8_nextLane_91 : decode cX8_nextLane 91 = .ok (.iload 8, 2) := by decide +kernel
theorem dX8_nextLane_93 : decode cX8_nextLane 93 = .ok (.isub, 1) := by decide +kernel
theorem dX8_nextLane_94 : decode cX8_nextLane 94 = .ok (.invokestatic 221, 3) := by decide +kernel
theorem dX8_nextLane_97 : decode cX8_nextLane 97 = .ok (.istore 10, 2) := by decide +kernel
theorem dX8_nextLane_99 : decode cX8_nextLane 99 = .ok (.iload 9, 2) := by decide +kernel
theorem dX8_nextLane_101 : decode cX8_nextLane 101 = .ok (.iload 8, 2) := by decide +kernel
theorem dX8_nextLane_103 : decode cX8_nextLane 103 = .ok (.if_icmp .le 24, 3) := by decide +kernel
theorem dX8_nextLane_106 : decode cX8_nextLane 106 = .ok (.iload 10, 2) := by decide +kernel
theorem dX8_nextLane_108 : decode cX8_nextLane 108 = .ok (.iload_n 2, 1) := by decide +kernel
theorem dX8_nextLane_109 : decode cX8_nextLane 109 = .ok (.if_icmp .le 18, 3) := by decide +kernel
theorem dX8_nextLane_112 : decode cX8_nextLane 112 = .ok (.iload_n 3, 1) := by decide +kernel
theorem dX8_nextLane_113 : decode cX8_nextLane 113 = .ok (.iconst (-1), 1) := by decide +kernel
theorem dX8_nextLane_114 : decode cX8_nextLane 114 = .ok (.if_icmp .eq 9, 3) := by decide +kernel
theorem dX8_nextLane_117 : decode cX8_nextLane 117 = .ok (.iload 10, 2) := by decide +kernel
theorem dX8_nextLane_119 : decode cX8_nextLane 119 = .ok (.iload_n 3, 1) := by decide +kernel
theorem dX8_nextLane_120 : decode cX8_nextLane 120 = .ok (.if_icmp .ge 7, 3) := by decide +kernel
theorem dX8_nextLane_123 : decode cX8_nextLane 123 = .ok (.iconst 1, 1) := by decide +kernel
theorem dX8_nextLane_124 : decode cX8_nextLane 124 = .ok (.goto 4, 3) := by decide +kernel
theorem dX8_nextLane_127 : decode cX8_nextLane 127 = .ok (.iconst 0, 1) := by decide +kernel
theorem dX8_nextLane_128 : decode cX8_nextLane 128 = .ok (.istore 11, 2) := by decide +kernel
theorem dX8_nextLane_130 : decode cX8_nextLane 130 = .ok (.iload 11, 2) := by decide +kernel
theorem dX8_nextLane_132 : decode cX8_nextLane 132 = .ok (.ifCond .eq 22, 3) := by decide +kernel
theorem dX8_nextLane_135 : decode cX8_nextLane 135 = .ok (.aload_n 0, 1) := by decide +kernel
theorem dX8_nextLane_136 : decode cX8_nextLane 136 = .ok (.iload_n 1, 1) := by decide +kernel
theorem dX8_nextLane_137 : decode cX8_nextLane 137 = .ok (.iload 5, 2) := by decide +kernel
theorem dX8_nextLane_139 : decode cX8_nextLane 139 = .ok (.iload 8, 2) := by decide +kernel
theorem dX8_nextLane_141 : decode cX8_nextLane 141 = .ok (.iload 9, 2) := by decide +kernel
theorem dX8_nextLane_143 : decode cX8_nextLane 143 = .ok (.invokevirtual 148, 3) := by decide +kernel
theorem dX8_nextLane_146 : decode cX8_nextLane 146 = .ok (.ifCond .eq 8, 3) := by decide +kernel
theorem dX8_nextLane_149 : decode cX8_nextLane 149 = .ok (.iload 10, 2) := by decide +kernel
theorem dX8_nextLane_151 : decode cX8_nextLane 151 = .ok (.goto 4, 3) := by decide +kernel
theorem dX8_nextLane_154 : decode cX8_nextLane 154 = .ok (.iload_n 3, 1) := by decide +kernel
theorem dX8_nextLane_155 : decode cX8_nextLane 155 = .ok (.istore_n 3, 1) := by decide +kernel
theorem dX8_nextLane_156 : decode cX8_nextLane 156 = .ok (.iinc 4 1, 3) := by decide +kernel
theorem dX8_nextLane_159 : decode cX8_nextLane 159 = .ok (.goto (-154), 3) := by decide +kernel
theorem dX8_nextLane_162 : decode cX8_nextLane 162 = .ok (.iload_n 3, 1) := by decide +kernel
theorem dX8_nextLane_163 : decode cX8_nextLane 163 = .ok (.ireturn, 1) := by decide +kernel
theorem dX8_put_0 : decode cX8_put 0 = .ok (.iload_n 1, 1) := by decide +kernel
theorem dX8_put_1 : decode cX8_put 1 = .ok (.i2l, 1) := by decide +kernel
theorem dX8_put_2 : decode cX8_put 2 = .ok (.lconst 0, 1) := by decide +kernel
theorem dX8_put_3 : decode cX8_put 3 = .ok (.ldc2_w 230, 3) := by decide +kernel
theorem dX8_put_6 : decode cX8_put 6 = .ok (.invokestatic 76, 3) := by decide +kernel
theorem dX8_put_9 : decode cX8_put 9 = .ok (.ifCond .eq 15, 3) := by decide +kernel
theorem dX8_put_12 : decode cX8_put 12 = .ok (.iload_n 2, 1) := by decide +kernel
theorem dX8_put_13 : decode cX8_put 13 = .ok (.i2l, 1) := by decide +kernel
theorem dX8_put_14 : decode cX8_put 14 = .ok (.lconst 0, 1) := by decide +kernel
theorem dX8_put_15 : decode cX8_put 15 = .ok (.ldc2_w 230, 3) := by decide +kernel
theorem dX8_put_18 : decode cX8_put 18 = .ok (.invokestatic 76, 3) := by decide +kernel
theorem dX8_put_21 : decode cX8_put 21 = .ok (.ifCond .ne 6, 3) := by decide +kernel
theorem dX8_put_24 : decode cX8_put 24 = .ok (.bipush (-102), 2) := by decide +kernel
theorem dX8_put_26 : decode cX8_put 26 = .ok (.ireturn, 1) := by decide +kernel
theorem dX8_put_27 : decode cX8_put 27 = .ok (.aload_n 0, 1) := by decide +kernel
theorem dX8_put_28 : decode cX8_put 28 = .ok (.invokevirtual 232, 3) := by decide +kernel
theorem dX8_put_31 : decode cX8_put 31 = .ok (.ifCond .eq 6, 3) := by decide +kernel
theorem dX8_put_34 : decode cX8_put 34 = .ok (.bipush (-103), 2) := by decide +kernel
theorem dX8_put_36 : decode cX8_put 36 = .ok (.ireturn, 1) := by decide +kernel
theorem dX8_put_37 : decode cX8_put 37 = .ok (.aload_n 0, 1) := by decide +kernel
theorem dX8_put_38 : decode cX8_put 38 = .ok (.getfield 119, 3) := by decide +kernel
theorem dX8_put_41 : decode cX8_put 41 = .ok (.bipush 8, 2) := by decide +kernel
theorem dX8_put_43 : decode cX8_put 43 = .ok (.if_icmp .ne 6, 3) := by decide +kernel
theorem dX8_put_46 : decode cX8_put 46 = .ok (.bipush (-104), 2) := by decide +kernel
theorem dX8_put_48 : decode cX8_put 48 = .ok (.ireturn, 1) := by decide +kernel
theorem dX8_put_49 : decode cX8_put 49 = .ok (.aload_n 0, 1) := by decide +kernel
theorem dX8_put_50 : decode cX8_put 50 = .ok (.getfield 13, 3) := by decide +kernel
theorem dX8_put_53 : decode cX8_put 53 = .ok (.aload_n 0, 1) := by decide +kernel
theorem dX8_put_54 : decode cX8_put 54 = .ok (.getfield 119, 3) := by decide +kernel
theorem dX8_put_57 : decode cX8_put 57 = .ok (.iconst 0, 1) := by decide +kernel
theorem dX8_put_58 : decode cX8_put 58 = .ok (.iastore, 1) := by decide +kernel
theorem dX8_put_59 : decode cX8_put 59 = .ok (.aload_n 0, 1) := by decide +kernel
theorem dX8_put_60 : decode cX8_put 60 = .ok (.getfield 16, 3) := by decide +kernel
theorem dX8_put_63 : decode cX8_put 63 = .ok (.iconst 4, 1) := by decide +kernel
theorem dX8_put_64 : decode cX8_put 64 = .ok (.aload_n 0, 1) := by decide +kernel
theorem dX8_put_65 : decode cX8_put 65 = .ok (.getfield 119, 3) := by decide +kernel
theorem dX8_put_68 : decode cX8_put 68 = .ok (.imul, 1) := by decide +kernel
theorem dX8_put_69 : decode cX8_put 69 = .ok (.iload_n 1, 1) := by decide +kernel
theorem dX8_put_70 : decode cX8_put 70 = .ok (.iastore, 1) := by decide +kernel
theorem dX8_put_71 : decode cX8_put 71 = .ok (.aload_n 0, 1) := by decide +kernel
theorem dX8_put_72 : decode cX8_put 72 = .ok (.getfield 16, 3) := by decide +kernel
theorem dX8_put_75 : decode cX8_put 75 = .ok (.iconst 4, 1) := by decide +kernel
theorem dX8_put_76 : decode cX8_put 76 = .ok (.aload_n 0, 1) := by decide +kernel
theorem dX8_put_77 : decode cX8_put 77 = .ok (.getfield 119, 3) := by decide +kernel
theorem dX8_put_80 : decode cX8_put 80 = .ok (.imul, 1) := by decide +kernel
theorem dX8_put_81 : decode cX8_put 81 = .ok (.iconst 1, 1) := by decide +kernel
theorem dX8_put_82 : decode cX8_put 82 = .ok (.iadd, 1) := by decide +kernel
theorem dX8_put_83 : decode cX8_put 83 = .ok (.iload_n 2, 1) := by decide +kernel
theorem dX8_put_84 : decode cX8_put 84 = .ok (.iastore, 1) := by decide +kernel
theorem dX8_put_85 : decode cX8_put 85 = .ok (.aload_n 0, 1) := by decide +kernel
theorem dX8_put_86 : decode cX8_put 86 = .ok (.getfield 16, 3) := by decide +kernel
theorem dX8_put_89 : decode cX8_put 89 = .ok (.iconst 4, 1) := by decide +kernel
theorem dX8_put_90 : decode cX8_put 90 = .ok (.aload_n 0, 1) := by decide +kernel
theorem dX8_put_91 : decode cX8_put 91 = .ok (.getfield 119, 3) := by decide +kernel
theorem dX8_put_94 : decode cX8_put 94 = .ok (.imul, 1) := by decide +kernel
theorem dX8_put_95 : decode cX8_put 95 = .ok (.iconst 2, 1) := by decide +kernel
theorem dX8_put_96 : decode cX8_put 96 = .ok (.iadd, 1) := by decide +kernel
theorem dX8_put_97 : decode cX8_put 97 = .ok (.iload_n 1, 1) := by decide +kernel
theorem dX8_put_98 : decode cX8_put 98 = .ok (.iconst 2, 1) := by decide +kernel
theorem dX8_put_99 : decode cX8_put 99 = .ok (.iadd, 1) := by decide +kernel
theorem dX8_put_100 : decode cX8_put 100 = .ok (.iastore, 1) := by decide +kernel
theorem dX8_put_101 : decode cX8_put 101 = .ok (.aload_n 0, 1) := by decide +kernel
theorem dX8_put_102 : decode cX8_put 102 = .ok (.getfield 16, 3) := by decide +kernel
theorem dX8_put_105 : decode cX8_put 105 = .ok (.iconst 4, 1) := by decide +kernel
theorem dX8_put_106 : decode cX8_put 106 = .ok (.aload_n 0, 1) := by decide +kernel
theorem dX8_put_107 : decode cX8_put 107 = .ok (.getfield 119, 3) := by decide +kernel
theorem dX8_put_110 : decode cX8_put 110 = .ok (.imul, 1) := by decide +kernel
theorem dX8_put_111 : decode cX8_put 111 = .ok (.iconst 3, 1) := by decide +kernel
theorem dX8_put_112 : decode cX8_put 112 = .ok (.iadd, 1) := by decide +kernel
theorem dX8_put_113 : decode cX8_put 113 = .ok (.iload_n 2, 1) := by decide +kernel
theorem dX8_put_114 : decode cX8_put 114 = .ok (.iconst 2, 1) := by decide +kernel
theorem dX8_put_115 : decode cX8_put 115 = .ok (.iadd, 1) := by decide +kernel
theorem dX8_put_116 : decode cX8_put 116 = .ok (.iastore, 1) := by decide +kernel
theorem dX8_put_117 : decode cX8_put 117 = .ok (.aload_n 0, 1) := by decide +kernel
theorem dX8_put_118 : decode cX8_put 118 = .ok (.dup, 1) := by decide +kernel
theorem dX8_put_119 : decode cX8_put 119 = .ok (.getfield 119, 3) := by decide +kernel
theorem dX8_put_122 : decode cX8_put 122 = .ok (.iconst 1, 1) := by decide +kernel
theorem dX8_put_123 : decode cX8_put 123 = .ok (.iadd, 1) := by decide +kernel
theorem dX8_put_124 : decode cX8_put 124 = .ok (.putfield 119, 3) := by decide +kernel
theorem dX8_put_127 : decode cX8_put 127 = .ok (.aload_n 0, 1) := by decide +kernel
theorem dX8_put_128 : decode cX8_put 128 = .ok (.getfield 119, 3) := by decide +kernel
theorem dX8_put_131 : decode cX8_put 131 = .ok (.ireturn, 1) := by decide +kernel
theorem dX8_take_0 : decode cX8_take 0 = .ok (.aload_n 0, 1) := by decide +kernel
theorem dX8_take_1 : decode cX8_take 1 = .ok (.iload_n 1, 1) := by decide +kernel
theorem dX8_take_2 : decode cX8_take 2 = .ok (.invokevirtual 213, 3) := by decide +kernel
theorem dX8_take_5 : decode cX8_take 5 = .ok (.ifCond .ne 6, 3) := by decide +kernel
theorem dX8_take_8 : decode cX8_take 8 = .ok (.bipush (-101), 2) := by decide +kernel
theorem dX8_take_10 : decode cX8_take 10 = .ok (.ireturn, 1) := by decide +kernel
theorem dX8_take_11 : decode cX8_take 11 = .ok (.aload_n 0, 1) := by decide +kernel
theorem dX8_take_12 : decode cX8_take 12 = .ok (.getfield 119, 3) := by decide +kernel
theorem dX8_take_15 : decode cX8_take 15 = .ok (.iconst 1, 1) := by decide +kernel
theorem dX8_take_16 : decode cX8_take 16 = .ok (.if_icmp .ne 6, 3) := by decide +kernel
theorem dX8_take_19 : decode cX8_take 19 = .ok (.bipush (-103), 2) := by decide +kernel
theorem dX8_take_21 : decode cX8_take 21 = .ok (.ireturn, 1) := by decide +kernel
theorem dX8_take_22 : decode cX8_take 22 = .ok (.aload_n 0, 1) := by decide +kernel
theorem dX8_take_23 : decode cX8_take 23 = .ok (.dup, 1) := by decide +kernel
theorem dX8_take_24 : decode cX8_take 24 = .ok (.getfield 119, 3) := by decide +kernel
theorem dX8_take_27 : decode cX8_take 27 = .ok (.iconst 1, 1) := by decide +kernel
theorem dX8_take_28 : decode cX8_take 28 = .ok (.isub, 1) := by decide +kernel
theorem dX8_take_29 : decode cX8_take 29 = .ok (.putfield 119, 3) := by decide +kernel
theorem dX8_take_32 : decode cX8_take 32 = .ok (.iload_n 1, 1) := by decide +kernel
theorem dX8_take_33 : decode cX8_take 33 = .ok (.istore_n 2, 1) := by decide +kernel
theorem dX8_take_34 : decode cX8_take 34 = .ok (.iload_n 2, 1) := by decide +kernel
theorem dX8_take_35 : decode cX8_take 35 = .ok (.aload_n 0, 1) := by decide +kernel
theorem dX8_take_36 : decode cX8_take 36 = .ok (.getfield 119, 3) := by decide +kernel
theorem dX8_take_39 : decode cX8_take 39 = .ok (.if_icmp .ge 58, 3) := by decide +kernel
theorem dX8_take_42 : decode cX8_take 42 = .ok (.aload_n 0, 1) := by decide +kernel
theorem dX8_take_43 : decode cX8_take 43 = .ok (.getfield 13, 3) := by decide +kernel
theorem dX8_take_46 : decode cX8_take 46 = .ok (.iload_n 2, 1) := by decide +kernel
theorem dX8_take_47 : decode cX8_take 47 = .ok (.aload_n 0, 1) := by decide +kernel
theorem dX8_take_48 : decode cX8_take 48 = .ok (.getfield 13, 3) := by decide +kernel
theorem dX8_take_51 : decode cX8_take 51 = .ok (.iload_n 2, 1) := by decide +kernel
theorem dX8_take_52 : decode cX8_take 52 = .ok (.iconst 1, 1) := by decide +kernel
theorem dX8_take_53 : decode cX8_take 53 = .ok (.iadd, 1) := by decide +kernel
theorem dX8_take_54 : decode cX8_take 54 = .ok (.iaload, 1) := by decide +kernel
theorem dX8_take_55 : decode cX8_take 55 = .ok (.iastore, 1) := by decide +kernel
theorem dX8_take_56 : decode cX8_take 56 = .ok (.iconst 0, 1) := by decide +kernel
theorem dX8_take_57 : decode cX8_take 57 = .ok (.istore_n 3, 1) := by decide +kernel
theorem dX8_take_58 : decode cX8_take 58 = .ok (.iload_n 3, 1) := by decide +kernel
theorem dX8_take_59 : decode cX8_take 59 = .ok (.iconst 4, 1) := by decide +kernel
theorem dX8_take_60 : decode cX8_take 60 = .ok (.if_icmp .ge 31, 3) := by decide +kernel
theorem dX8_take_63 : decode cX8_take 63 = .ok (.aload_n 0, 1) := by decide +kernel
theorem dX8_take_64 : decode cX8_take 64 = .ok (.getfield 16, 3) := by decide +kernel
theorem dX8_take_67 : decode cX8_take 67 = .ok (.iconst 4, 1) := by decide +kernel
theorem dX8_take_68 : decode cX8_take 68 = .ok (.iload_n 2, 1) := by decide +kernel
theorem dX8_take_69 : decode cX8_take 69 = .ok (.imul, 1) := by decide +kernel
theorem dX8_take_70 : decode cX8_take 70 = .ok (.iload_n 3, 1) := by decide +kernel
theorem dX8_take_71 : decode cX8_take 71 = .ok (.iadd, 1) := by decide +kernel
theorem dX8_take_72 : decode cX8_take 72 = .ok (.aload_n 0, 1) := by decide +kernel
theorem dX8_take_73 : decode cX8_take 73 = .ok (.getfield 16, 3) := by decide +kernel
theorem dX8_take_76 : decode cX8_take 76 = .ok (.iconst 4, 1) := by decide +kernel
theorem dX8_take_77 : decode cX8_take 77 = .ok (.iload_n 2, 1) := by decide +kernel
theorem dX8_take_78 : decode cX8_take 78 = .ok (.imul, 1) := by decide +kernel
theorem dX8_take_79 : decode cX8_take 79 = .ok (.iconst 4, 1) := by decide +kernel
theorem dX8_take_80 : decode cX8_take 80 = .ok (.iadd, 1) := by decide +kernel
theorem dX8_take_81 : decode cX8_take 81 = .ok (.iload_n 3, 1) := by decide +kernel
theorem dX8_take_82 : decode cX8_take 82 = .ok (.iadd, 1) := by decide +kernel
theorem dX8_take_83 : decode cX8_take 83 = .ok (.iaload, 1) := by decide +kernel
theorem dX8_take_84 : decode cX8_take 84 = .ok (.iastore, 1) := by decide +kernel
theorem dX8_take_85 : decode cX8_take 85 = .ok (.iinc 3 1, 3) := by decide +kernel
theorem dX8_take_88 : decode cX8_take 88 = .ok (.goto (-30), 3) := by decide +kernel
theorem dX8_take_91 : decode cX8_take 91 = .ok (.iinc 2 1, 3) := by decide +kernel
theorem dX8_take_94 : decode cX8_take 94 = .ok (.goto (-60), 3) := by decide +kernel
theorem dX8_take_97 : decode cX8_take 97 = .ok (.aload_n 0, 1) := by decide +kernel
theorem dX8_take_98 : decode cX8_take 98 = .ok (.getfield 119, 3) := by decide +kernel
theorem dX8_take_101 : decode cX8_take 101 = .ok (.ireturn, 1) := by decide +kernel
theorem dX8_shift_0 : decode cX8_shift 0 = .ok (.aload_n 0, 1) := by decide +kernel
theorem dX8_shift_1 : decode cX8_shift 1 = .ok (.getfield 16, 3) := by decide +kernel
theorem dX8_shift_4 : decode cX8_shift 4 = .ok (.iconst 4, 1) := by decide +kernel
theorem dX8_shift_5 : decode cX8_shift 5 = .ok (.iload_n 1, 1) := by decide +kernel
theorem dX8_shift_6 : decode cX8_shift 6 = .ok (.imul, 1) := by decide +kernel
theorem dX8_shift_7 : decode cX8_shift 7 = .ok (.dup2, 1) := by decide +kernel
theorem dX8_shift_8 : decode cX8_shift 8 = .ok (.iaload, 1) := by decide +kernel
theorem dX8_shift_9 : decode cX8_shift 9 = .ok (.iload_n 2, 1) := by decide +kernel
theorem dX8_shift_10 : decode cX8_shift 10 = .ok (.iadd, 1) := by decide +kernel
theorem dX8_shift_11 : decode cX8_shift 11 = .ok (.iastore, 1) := by decide +kernel
theorem dX8_shift_12 : decode cX8_shift 12 = .ok (.aload_n 0, 1) := by decide +kernel
theorem dX8_shift_13 : decode cX8_shift 13 = .ok (.getfield 16, 3) := by decide +kernel
theorem dX8_shift_16 : decode cX8_shift 16 = .ok (.iconst 4, 1) := by decide +kernel
theorem dX8_shift_17 : decode cX8_shift 17 = .ok (.iload_n 1, 1) := by decide +kernel
theorem dX8_shift_18 : decode cX8_shift 18 = .ok (.imul, 1) := by decide +kernel
theorem dX8_shift_19 : decode cX8_shift 19 = .ok (.iconst 1, 1) := by decide +kernel
theorem dX8_shift_20 : decode cX8_shift 20 = .ok (.iadd, 1) := by decide +kernel
theorem dX8_shift_21 : decode cX8_shift 21 = .ok (.dup2, 1) := by decide +kernel
theorem dX8_shift_22 : decode cX8_shift 22 = .ok (.iaload, 1) := by decide +kernel
theorem dX8_shift_23 : decode cX8_shift 23 = .ok (.iload_n 3, 1) := by decide +kernel
theorem dX8_shift_24 : decode cX8_shift 24 = .ok (.iadd, 1) := by decide +kernel
theorem dX8_shift_25 : decode cX8_shift 25 = .ok (.iastore, 1) := by decide +kernel
theorem dX8_shift_26 : decode cX8_shift 26 = .ok (.aload_n 0, 1) := by decide +kernel
theorem dX8_shift_27 : decode cX8_shift 27 = .ok (.getfield 16, 3) := by decide +kernel
theorem dX8_shift_30 : decode cX8_shift 30 = .ok (.iconst 4, 1) := by decide +kernel
theorem dX8_shift_31 : decode cX8_shift 31 = .ok (.iload_n 1, 1) := by decide +kernel
theorem dX8_shift_32 : decode cX8_shift 32 = .ok (.imul, 1) := by decide +kernel
theorem dX8_shift_33 : decode cX8_shift 33 = .ok (.iconst 2, 1) := by decide +kernel
theorem dX8_shift_34 : decode cX8_shift 34 = .ok (.iadd, 1) := by decide +kernel
theorem dX8_shift_35 : decode cX8_shift 35 = .ok (.dup2, 1) := by decide +kernel
theorem dX8_shift_36 : decode cX8_shift 36 = .ok (.iaload, 1) := by decide +kernel
theorem dX8_shift_37 : decode cX8_shift 37 = .ok (.iload_n 2, 1) := by decide +kernel
theorem dX8_shift_38 : decode cX8_shift 38 = .ok (.iadd, 1) := by decide +kernel
theorem dX8_shift_39 : decode cX8_shift 39 = .ok (.iastore, 1) := by decide +kernel
theorem dX8_shift_40 : decode cX8_shift 40 = .ok (.aload_n 0, 1) := by decide +kernel
theorem dX8_shift_41 : decode cX8_shift 41 = .ok (.getfield 16, 3) := by decide +kernel
theorem dX8_shift_44 : decode cX8_shift 44 = .ok (.iconst 4, 1) := by decide +kernel
theorem dX8_shift_45 : decode cX8_shift 45 = .ok (.iload_n 1, 1) := by decide +kernel
theorem dX8_shift_46 : decode cX8_shift 46 = .ok (.imul, 1) := by decide +kernel
theorem dX8_shift_47 : decode cX8_shift 47 = .ok (.iconst 3, 1) := by decide +kernel
theorem dX8_shift_48 : decode cX8_shift 48 = .ok (.iadd, 1) := by decide +kernel
theorem dX8_shift_49 : decode cX8_shift 49 = .ok (.dup2, 1) := by decide +kernel
theorem dX8_shift_50 : decode cX8_shift 50 = .ok (.iaload, 1) := by decide +kernel
theorem dX8_shift_51 : decode cX8_shift 51 = .ok (.iload_n 3, 1) := by decide +kernel
theorem dX8_shift_52 : decode cX8_shift 52 = .ok (.iadd, 1) := by decide +kernel
theorem dX8_shift_53 : decode cX8_shift 53 = .ok (.iastore, 1) := by decide +kernel
theorem dX8_shift_54 : decode cX8_shift 54 = .ok (.return_, 1) := by decide +kernel
theorem dX8_move_0 : decode cX8_move 0 = .ok (.aload_n 0, 1) := by decide +kernel
theorem dX8_move_1 : decode cX8_move 1 = .ok (.iload_n 1, 1) := by decide +kernel
theorem dX8_move_2 : decode cX8_move 2 = .ok (.invokevirtual 213, 3) := by decide +kernel
theorem dX8_move_5 : decode cX8_move 5 = .ok (.ifCond .ne 6, 3) := by decide +kernel
theorem dX8_move_8 : decode cX8_move 8 = .ok (.bipush (-101), 2) := by decide +kernel
theorem dX8_move_10 : decode cX8_move 10 = .ok (.ireturn, 1) := by decide +kernel
theorem dX8_move_11 : decode cX8_move 11 = .ok (.iload_n 2, 1) := by decide +kernel
theorem dX8_move_12 : decode cX8_move 12 = .ok (.i2l, 1) := by decide +kernel
theorem dX8_move_13 : decode cX8_move 13 = .ok (.ldc2_w 236, 3) := by decide +kernel
theorem dX8_move_16 : decode cX8_move 16 = .ok (.ldc2_w 238, 3) := by decide +kernel
theorem dX8_move_19 : decode cX8_move 19 = .ok (.invokestatic 76, 3) := by decide +kernel
theorem dX8_move_22 : decode cX8_move 22 = .ok (.ifCond .eq 17, 3) := by decide +kernel
theorem dX8_move_25 : decode cX8_move 25 = .ok (.iload_n 3, 1) := by decide +kernel
theorem dX8_move_26 : decode cX8_move 26 = .ok (.i2l, 1) := by decide +kernel
theorem dX8_move_27 : decode cX8_move 27 = .ok (.ldc2_w 236, 3) := by decide +kernel
theorem dX8_move_30 : decode cX8_move 30 = .ok (.ldc2_w 238, 3) := by decide +kernel
theorem dX8_move_33 : decode cX8_move 33 = .ok (.invokestatic 76, 3) := by decide +kernel
theorem dX8_move_36 : decode cX8_move 36 = .ok (.ifCond .ne 6, 3) := by decide +kernel
theorem dX8_move_39 : decode cX8_move 39 = .ok (.bipush (-102), 2) := by decide +kernel
theorem dX8_move_41 : decode cX8_move 41 = .ok (.ireturn, 1) := by decide +kernel
theorem dX8_move_42 : decode cX8_move 42 = .ok (.aload_n 0, 1) := by decide +kernel
theorem dX8_move_43 : decode cX8_move 43 = .ok (.getfield 16, 3) := by decide +kernel
theorem dX8_move_46 : decode cX8_move 46 = .ok (.iconst 4, 1) := by decide +kernel
theorem dX8_move_47 : decode cX8_move 47 = .ok (.iload_n 1, 1) := by decide +kernel
theorem dX8_move_48 : decode cX8_move 48 = .ok (.imul, 1) := by decide +kernel
theorem dX8_move_49 : decode cX8_move 49 = .ok (.iaload, 1) := by decide +kernel
theorem dX8_move_50 : decode cX8_move 50 = .ok (.iload_n 2, 1) := by decide +kernel
theorem dX8_move_51 : decode cX8_move 51 = .ok (.iadd, 1) := by decide +kernel
theorem dX8_move_52 : decode cX8_move 52 = .ok (.ifCond .lt 58, 3) := by decide +kernel
theorem dX8_move_55 : decode cX8_move 55 = .ok (.aload_n 0, 1) := by decide +kernel
theorem dX8_move_56 : decode cX8_move 56 = .ok (.getfield 16, 3) := by decide +kernel
theorem dX8_move_59 : decode cX8_move 59 = .ok (.iconst 4, 1) := by decide +kernel
theorem dX8_move_60 : decode cX8_move 60 = .ok (.iload_n 1, 1) := by decide +kernel
theorem dX8_move_61 : decode cX8_move 61 = .ok (.imul, 1) := by decide +kernel
theorem dX8_move_62 : decode cX8_move 62 = .ok (.iconst 1, 1) := by decide +kernel
theorem dX8_move_63 : decode cX8_move 63 = .ok (.iadd, 1) := by decide +kernel
theorem dX8_move_64 : decode cX8_move 64 = .ok (.iaload, 1) := by decide +kernel
theorem dX8_move_65 : decode cX8_move 65 = .ok (.iload_n 3, 1) := by decide +kernel
theorem dX8_move_66 : decode cX8_move 66 = .ok (.iadd, 1) := by decide +kernel
theorem dX8_move_67 : decode cX8_move 67 = .ok (.ifCond .lt 43, 3) := by decide +kernel
theorem dX8_move_70 : decode cX8_move 70 = .ok (.aload_n 0, 1) := by decide +kernel
theorem dX8_move_71 : decode cX8_move 71 = .ok (.getfield 16, 3) := by decide +kernel
theorem dX8_move_74 : decode cX8_move 74 = .ok (.iconst 4, 1) := by decide +kernel
theorem dX8_move_75 : decode cX8_move 75 = .ok (.iload_n 1, 1) := by decide +kernel
theorem dX8_move_76 : decode cX8_move 76 = .ok (.imul, 1) := by decide +kernel
theorem dX8_move_77 : decode cX8_move 77 = .ok (.iconst 2, 1) := by decide +kernel
theorem dX8_move_78 : decode cX8_move 78 = .ok (.iadd, 1) := by decide +kernel
theorem dX8_move_79 : decode cX8_move 79 = .ok (.iaload, 1) := by decide +kernel
theorem dX8_move_80 : decode cX8_move 80 = .ok (.iload_n 2, 1) := by decide +kernel
theorem dX8_move_81 : decode cX8_move 81 = .ok (.iadd, 1) := by decide +kernel
theorem dX8_move_82 : decode cX8_move 82 = .ok (.sipush 999, 3) := by decide +kernel
theorem dX8_move_85 : decode cX8_move 85 = .ok (.if_icmp .gt 25, 3) := by decide +kernel
theorem dX8_move_88 : decode cX8_move 88 = .ok (.aload_n 0, 1) := by decide +kernel
theorem dX8_move_89 : decode cX8_move 89 = .ok (.getfield 16, 3) := by decide +kernel
theorem dX8_move_92 : decode cX8_move 92 = .ok (.iconst 4, 1) := by decide +kernel
theorem dX8_move_93 : decode cX8_move 93 = .ok (.iload_n 1, 1) := by decide +kernel
theorem dX8_move_94 : decode cX8_move 94 = .ok (.imul, 1) := by decide +kernel
theorem dX8_move_95 : decode cX8_move 95 = .ok (.iconst 3, 1) := by decide +kernel
theorem dX8_move_96 : decode cX8_move 96 = .ok (.iadd, 1) := by decide +kernel
theorem dX8_move_97 : decode cX8_move 97 = .ok (.iaload, 1) := by decide +kernel
theorem dX8_move_98 : decode cX8_move 98 = .ok (.iload_n 3, 1) := by decide +kernel
theorem dX8_move_99 : decode cX8_move 99 = .ok (.iadd, 1) := by decide +kernel
theorem dX8_move_100 : decode cX8_move 100 = .ok (.sipush 999, 3) := by decide +kernel
theorem dX8_move_103 : decode cX8_move 103 = .ok (.if_icmp .gt 7, 3) := by decide +kernel
theorem dX8_move_106 : decode cX8_move 106 = .ok (.iconst 1, 1) := by decide +kernel
theorem dX8_move_107 : decode cX8_move 107 = .ok (.goto 4, 3) := by decide +kernel
theorem dX8_move_110 : decode cX8_move 110 = .ok (.iconst 0, 1) := by decide +kernel
theorem dX8_move_111 : decode cX8_move 111 = .ok (.istore 4, 2) := by decide +kernel
theorem dX8_move_113 : decode cX8_move 113 = .ok (.iload 4, 2) := by decide +kernel
theorem dX8_move_115 : decode cX8_move 115 = .ok (.ifCond .ne 6, 3) := by decide +kernel
theorem dX8_move_118 : decode cX8_move 118 = .ok (.bipush (-102), 2) := by decide +kernel
theorem dX8_move_120 : decode cX8_move 120 = .ok (.ireturn, 1) := by decide +kernel
theorem dX8_move_121 : decode cX8_move 121 = .ok (.aload_n 0, 1) := by decide +kernel
theorem dX8_move_122 : decode cX8_move 122 = .ok (.iload_n 1, 1) := by decide +kernel
theorem dX8_move_123 : decode cX8_move 123 = .ok (.iload_n 2, 1) := by decide +kernel
theorem dX8_move_124 : decode cX8_move 124 = .ok (.iload_n 3, 1) := by decide +kernel
theorem dX8_move_125 : decode cX8_move 125 = .ok (.invokevirtual 240, 3) := by decide +kernel
theorem dX8_move_128 : decode cX8_move 128 = .ok (.aload_n 0, 1) := by decide +kernel
theorem dX8_move_129 : decode cX8_move 129 = .ok (.invokevirtual 201, 3) := by decide +kernel
theorem dX8_move_132 : decode cX8_move 132 = .ok (.aload_n 0, 1) := by decide +kernel
theorem dX8_move_133 : decode cX8_move 133 = .ok (.getfield 182, 3) := by decide +kernel
theorem dX8_move_136 : decode cX8_move 136 = .ok (.ireturn, 1) := by decide +kernel
theorem dX8_rules_0 : decode cX8_rules 0 = .ok (.iload_n 1, 1) := by decide +kernel
theorem dX8_rules_1 : decode cX8_rules 1 = .ok (.invokestatic 244, 3) := by decide +kernel
theorem dX8_rules_4 : decode cX8_rules 4 = .ok (.ifCond .ne 6, 3) := by decide +kernel
theorem dX8_rules_7 : decode cX8_rules 7 = .ok (.bipush (-102), 2) := by decide +kernel
theorem dX8_rules_9 : decode cX8_rules 9 = .ok (.ireturn, 1) := by decide +kernel
theorem dX8_rules_10 : decode cX8_rules 10 = .ok (.aload_n 0, 1) := by decide +kernel
theorem dX8_rules_11 : decode cX8_rules 11 = .ok (.invokevirtual 232, 3) := by decide +kernel
theorem dX8_rules_14 : decode cX8_rules 14 = .ok (.ifCond .eq 6, 3) := by decide +kernel
theorem dX8_rules_17 : decode cX8_rules 17 = .ok (.bipush (-103), 2) := by decide +kernel
theorem dX8_rules_19 : decode cX8_rules 19 = .ok (.ireturn, 1) := by decide +kernel
theorem dX8_rules_20 : decode cX8_rules 20 = .ok (.aload_n 0, 1) := by decide +kernel
theorem dX8_rules_21 : decode cX8_rules 21 = .ok (.iconst 0, 1) := by decide +kernel
theorem dX8_rules_22 : decode cX8_rules 22 = .ok (.putfield 122, 3) := by decide +kernel
theorem dX8_rules_25 : decode cX8_rules 25 = .ok (.sipush 1000, 3) := by decide +kernel
theorem dX8_rules_28 : decode cX8_rules 28 = .ok (.istore_n 2, 1) := by decide +kernel
theorem dX8_rules_29 : decode cX8_rules 29 = .ok (.iload_n 2, 1) := by decide +kernel
theorem dX8_rules_30 : decode cX8_rules 30 = .ok (.ifCond .le 44, 3) := by decide +kernel
theorem dX8_rules_33 : decode cX8_rules 33 = .ok (.iload_n 1, 1) := by decide +kernel
theorem dX8_rules_34 : decode cX8_rules 34 = .ok (.iload_n 2, 1) := by decide +kernel
theorem dX8_rules_35 : decode cX8_rules 35 = .ok (.idiv, 1) := by decide +kernel
theorem dX8_rules_36 : decode cX8_rules 36 = .ok (.bipush 10, 2) := by decide +kernel
theorem dX8_rules_38 : decode cX8_rules 38 = .ok (.irem, 1) := by decide +kernel
theorem dX8_rules_39 : decode cX8_rules 39 = .ok (.istore_n 3, 1) := by decide +kernel
theorem dX8_rules_40 : decode cX8_rules 40 = .ok (.iload_n 3, 1) := by decide +kernel
theorem dX8_rules_41 : decode cX8_rules 41 = .ok (.ifCond .le 25, 3) := by decide +kernel
theorem dX8_rules_44 : decode cX8_rules 44 = .ok (.aload_n 0, 1) := by decide +kernel
theorem dX8_rules_45 : decode cX8_rules 45 = .ok (.getfield 19, 3) := by decide +kernel
theorem dX8_rules_48 : decode cX8_rules 48 = .ok (.aload_n 0, 1) := by decide +kernel
theorem dX8_rules_49 : decode cX8_rules 49 = .ok (.getfield 122, 3) := by decide +kernel
theorem dX8_rules_52 : decode cX8_rules 52 = .ok (.iload_n 3, 1) := by decide +kernel
theorem dX8_rules_53 : decode cX8_rules 53 = .ok (.iconst 4, 1) := by decide +kernel
theorem dX8_rules_54 : decode cX8_rules 54 = .ok (.irem, 1) := by decide +kernel
theorem dX8_rules_55 : decode cX8_rules 55 = .ok (.iastore, 1) := by decide +kernel
theorem dX8_rules_56 : decode cX8_rules 56 = .ok (.aload_n 0, 1) := by decide +kernel
theorem dX8_rules_57 : decode cX8_rules 57 = .ok (.dup, 1) := by decide +kernel
theorem dX8_rules_58 : decode cX8_rules 58 = .ok (.getfield 122, 3) := by decide +kernel
theorem dX8_rules_61 : decode cX8_rules 61 = .ok (.iconst 1, 1) := by decide +kernel
theorem dX8_rules_62 : decode cX8_rules 62 = .ok (.iadd, 1) := by decide +kernel
theorem dX8_rules_63 : decode cX8_rules 63 = .ok (.putfield 122, 3) := by decide +kernel
theorem dX8_rules_66 : decode cX8_rules 66 = .ok (.iload_n 2, 1) := by decide +kernel
theorem dX8_rules_67 : decode cX8_rules 67 = .ok (.bipush 10, 2) := by decide +kernel
theorem dX8_rules_69 : decode cX8_rules 69 = .ok (.idiv, 1) := by decide +kernel
theorem dX8_rules_70 : decode cX8_rules 70 = .ok (.istore_n 2, 1) := by decide +kernel
theorem dX8_rules_71 : decode cX8_rules 71 = .ok (.goto (-42), 3) := by decide +kernel
theorem dX8_rules_74 : decode cX8_rules 74 = .ok (.aload_n 0, 1) := by decide +kernel
theorem dX8_rules_75 : decode cX8_rules 75 = .ok (.getfield 122, 3) := by decide +kernel
theorem dX8_rules_78 : decode cX8_rules 78 = .ok (.ireturn, 1) := by decide +kernel
theorem dX8_scale_0 : decode cX8_scale 0 = .ok (.iload_n 1, 1) := by decide +kernel
theorem dX8_scale_1 : decode cX8_scale 1 = .ok (.i2l, 1) := by decide +kernel
theorem dX8_scale_2 : decode cX8_scale 2 = .ok (.lconst 1, 1) := by decide +kernel
theorem dX8_scale_3 : decode cX8_scale 3 = .ok (.ldc2_w 247, 3) := by decide +kernel
theorem dX8_scale_6 : decode cX8_scale 6 = .ok (.invokestatic 76, 3) := by decide +kernel
theorem dX8_scale_9 : decode cX8_scale 9 = .ok (.ifCond .eq 15, 3) := by decide +kernel
theorem dX8_scale_12 : decode cX8_scale 12 = .ok (.aload_n 0, 1) := by decide +kernel
theorem dX8_scale_13 : decode cX8_scale 13 = .ok (.invokevirtual 249, 3) := by decide +kernel
theorem dX8_scale_16 : decode cX8_scale 16 = .ok (.iload_n 1, 1) := by decide +kernel
theorem dX8_scale_17 : decode cX8_scale 17 = .ok (.imul, 1) := by decide +kernel
theorem dX8_scale_18 : decode cX8_scale 18 = .ok (.sipush 999, 3) := by decide +kernel
theorem dX8_scale_21 : decode cX8_scale 21 = .ok (.if_icmp .le 6, 3) := by decide +kernel
theorem dX8_scale_24 : decode cX8_scale 24 = .ok (.bipush (-102), 2) := by decide +kernel
theorem dX8_scale_26 : decode cX8_scale 26 = .ok (.ireturn, 1) := by decide +kernel
theorem dX8_scale_27 : decode cX8_scale 27 = .ok (.aload_n 0, 1) := by decide +kernel
theorem dX8_scale_28 : decode cX8_scale 28 = .ok (.invokevirtual 232, 3) := by decide +kernel
theorem dX8_scale_31 : decode cX8_scale 31 = .ok (.ifCond .eq 6, 3) := by decide +kernel
theorem dX8_scale_34 : decode cX8_scale 34 = .ok (.bipush (-103), 2) := by decide +kernel
theorem dX8_scale_36 : decode cX8_scale 36 = .ok (.ireturn, 1) := by decide +kernel
theorem dX8_scale_37 : decode cX8_scale 37 = .ok (.iconst 0, 1) := by decide +kernel
theorem dX8_scale_38 : decode cX8_scale 38 = .ok (.istore_n 2, 1) := by decide +kernel
theorem dX8_scale_39 : decode cX8_scale 39 = .ok (.iload_n 2, 1) := by decide +kernel
theorem dX8_scale_40 : decode cX8_scale 40 = .ok (.iconst 4, 1) := by decide +kernel
theorem dX8_scale_41 : decode cX8_scale 41 = .ok (.aload_n 0, 1) := by decide +kernel
theorem dX8_scale_42 : decode cX8_scale 42 = .ok (.getfield 119, 3) := by decide +kernel
theorem dX8_scale_45 : decode cX8_scale 45 = .ok (.imul, 1) := by decide +kernel
theorem dX8_scale_46 : decode cX8_scale 46 = .ok (.if_icmp .ge 19, 3) := by decide +kernel
theorem dX8_scale_49 : decode cX8_scale 49 = .ok (.aload_n 0, 1) := by decide +kernel
theorem dX8_scale_50 : decode cX8_scale 50 = .ok (.getfield 16, 3) := by decide +kernel
theorem dX8_scale_53 : decode cX8_scale 53 = .ok (.iload_n 2, 1) := by decide +kernel
theorem dX8_scale_54 : decode cX8_scale 54 = .ok (.dup2, 1) := by decide +kernel
theorem dX8_scale_55 : decode cX8_scale 55 = .ok (.iaload, 1) := by decide +kernel
theorem dX8_scale_56 : decode cX8_scale 56 = .ok (.iload_n 1, 1) := by decide +kernel
theorem dX8_scale_57 : decode cX8_scale 57 = .ok (.imul, 1) := by decide +kernel
theorem dX8_scale_58 : decode cX8_scale 58 = .ok (.iastore, 1) := by decide +kernel
theorem dX8_scale_59 : decode cX8_scale 59 = .ok (.iinc 2 1, 3) := by decide +kernel
theorem dX8_scale_62 : decode cX8_scale 62 = .ok (.goto (-23), 3) := by decide +kernel
theorem dX8_scale_65 : decode cX8_scale 65 = .ok (.aload_n 0, 1) := by decide +kernel
theorem dX8_scale_66 : decode cX8_scale 66 = .ok (.invokevirtual 249, 3) := by decide +kernel
theorem dX8_scale_69 : decode cX8_scale 69 = .ok (.ireturn, 1) := by decide +kernel
theorem dX8_without_0 : decode cX8_without 0 = .ok (.aload_n 0, 1) := by decide +kernel
theorem dX8_without_1 : decode cX8_without 1 = .ok (.iload_n 1, 1) := by decide +kernel
theorem dX8_without_2 : decode cX8_without 2 = .ok (.invokevirtual 213, 3) := by decide +kernel
theorem dX8_without_5 : decode cX8_without 5 = .ok (.ifCond .ne 6, 3) := by decide +kernel
theorem dX8_without_8 : decode cX8_without 8 = .ok (.bipush (-101), 2) := by decide +kernel
theorem dX8_without_10 : decode cX8_without 10 = .ok (.ireturn, 1) := by decide +kernel
theorem dX8_without_11 : decode cX8_without 11 = .ok (.aload_n 0, 1) := by decide +kernel
theorem dX8_without_12 : decode cX8_without 12 = .ok (.invokevirtual 256, 3) := by decide +kernel
theorem dX8_without_15 : decode cX8_without 15 = .ok (.aload_n 0, 1) := by decide +kernel
theorem dX8_without_16 : decode cX8_without 16 = .ok (.iconst 1, 1) := by decide +kernel
theorem dX8_without_17 : decode cX8_without 17 = .ok (.aload_n 0, 1) := by decide +kernel
theorem dX8_without_18 : decode cX8_without 18 = .ok (.getfield 119, 3) := by decide +kernel
theorem dX8_without_21 : decode cX8_without 21 = .ok (.ishl, 1) := by decide +kernel
theorem dX8_without_22 : decode cX8_without 22 = .ok (.iconst 1, 1) := by decide +kernel
theorem dX8_without_23 : decode cX8_without 23 = .ok (.isub, 1) := by decide +kernel
theorem dX8_without_24 : decode cX8_without 24 = .ok (.iconst 1, 1) := by decide +kernel
theorem dX8_without_25 : decode cX8_without 25 = .ok (.iload_n 1, 1) := by decide +kernel
theorem dX8_without_26 : decode cX8_without 26 = .ok (.ishl, 1) := by decide +kernel
theorem dX8_without_27 : decode cX8_without 27 = .ok (.iconst (-1), 1) := by decide +kernel
theorem dX8_without_28 : decode cX8_without 28 = .ok (.ixor, 1) := by decide +kernel
theorem dX8_without_29 : decode cX8_without 29 = .ok (.iand, 1) := by decide +kernel
theorem dX8_without_30 : decode cX8_without 30 = .ok (.invokevirtual 198, 3) := by decide +kernel
theorem dX8_without_33 : decode cX8_without 33 = .ok (.iconst 0, 1) := by decide +kernel
theorem dX8_without_34 : decode cX8_without 34 = .ok (.istore_n 2, 1) := by decide +kernel
theorem dX8_without_35 : decode cX8_without 35 = .ok (.iconst 0, 1) := by decide +kernel
theorem dX8_without_36 : decode cX8_without 36 = .ok (.istore_n 3, 1) := by decide +kernel
theorem dX8_without_37 : decode cX8_without 37 = .ok (.iconst 0, 1) := by decide +kernel
theorem dX8_without_38 : decode cX8_without 38 = .ok (.istore 4, 2) := by decide +kernel
theorem dX8_without_40 : decode cX8_without 40 = .ok (.iload 4, 2) := by decide +kernel
theorem dX8_without_42 : decode cX8_without 42 = .ok (.aload_n 0, 1) := by decide +kernel
theorem dX8_without_43 : decode cX8_without 43 = .ok (.getfield 119, 3) := by decide +kernel
theorem dX8_without_46 : decode cX8_without 46 = .ok (.if_icmp .ge 47, 3) := by decide +kernel
theorem dX8_without_49 : decode cX8_without 49 = .ok (.aload_n 0, 1) := by decide +kernel
theorem dX8_without_50 : decode cX8_without 50 = .ok (.getfield 43, 3) := by decide +kernel
theorem dX8_without_53 : decode cX8_without 53 = .ok (.iload 4, 2) := by decide +kernel
theorem dX8_without_55 : decode cX8_without 55 = .ok (.iaload, 1) := by decide +kernel
theorem dX8_without_56 : decode cX8_without 56 = .ok (.iload_n 1, 1) := by decide +kernel
theorem dX8_without_57 : decode cX8_without 57 = .ok (.if_icmp .eq 30, 3) := by decide +kernel
theorem dX8_without_60 : decode cX8_without 60 = .ok (.iload_n 2, 1) := by decide +kernel
theorem dX8_without_61 : decode cX8_without 61 = .ok (.aload_n 0, 1) := by decide +kernel
theorem dX8_without_62 : decode cX8_without 62 = .ok (.getfield 25, 3) := by decide +kernel
theorem dX8_without_65 : decode cX8_without 65 = .ok (.iload_n 3, 1) := by decide +kernel
theorem dX8_without_66 : decode cX8_without 66 = .ok (.iaload, 1) := by decide +kernel
theorem dX8_without_67 : decode cX8_without 67 = .ok (.aload_n 0, 1) := by decide +kernel
theorem dX8_without_68 : decode cX8_without 68 = .ok (.getfield 43, 3) := by decide +kernel
theorem dX8_without_71 : decode cX8_without 71 = .ok (.iload 4, 2) := by decide +kernel
theorem dX8_without_73 : decode cX8_without 73 = .ok (.iaload, 1) := by decide +kernel
theorem dX8_without_74 : decode cX8_without 74 = .ok (.if_icmp .ne 7, 3) := by decide +kernel
theorem dX8_without_77 : decode cX8_without 77 = .ok (.iconst 0, 1) := by decide +kernel
theorem dX8_without_78 : decode cX8_without 78 = .ok (.goto 4, 3) := by decide +kernel
theorem dX8_without_81 : decode cX8_without 81 = .ok (.iconst 1, 1) := by decide +kernel
theorem dX8_without_82 : decode cX8_without 82 = .ok (.iadd, 1) := by decide +kernel
theorem dX8_without_83 : decode cX8_without 83 = .ok (.istore_n 2, 1) := by decide +kernel
theorem dX8_without_84 : decode cX8_without 84 = .ok (.iinc 3 1, 3) := by decide +kernel
theorem dX8_without_87 : decode cX8_without 87 = .ok (.iinc 4 1, 3) := by decide +kernel
theorem dX8_without_90 : decode cX8_without 90 = .ok (.goto (-50), 3) := by decide +kernel
theorem dX8_without_93 : decode cX8_without 93 = .ok (.iload_n 2, 1) := by decide +kernel
theorem dX8_without_94 : decode cX8_without 94 = .ok (.ireturn, 1) := by decide +kernel
theorem dX8_see_0 : decode cX8_see 0 = .ok (.aload_n 0, 1) := by decide +kernel
theorem dX8_see_1 : decode cX8_see 1 = .ok (.iload_n 1, 1) := by decide +kernel
theorem dX8_see_2 : decode cX8_see 2 = .ok (.invokevirtual 213, 3) := by decide +kernel
theorem dX8_see_5 : decode cX8_see 5 = .ok (.ifCond .ne 6, 3) := by decide +kernel
theorem dX8_see_8 : decode cX8_see 8 = .ok (.bipush (-101), 2) := by decide +kernel
theorem dX8_see_10 : decode cX8_see 10 = .ok (.ireturn, 1) := by decide +kernel
theorem dX8_see_11 : decode cX8_see 11 = .ok (.iload_n 2, 1) := by decide +kernel
theorem dX8_see_12 : decode cX8_see 12 = .ok (.i2l, 1) := by decide +kernel
theorem dX8_see_13 : decode cX8_see 13 = .ok (.lconst 0, 1) := by decide +kernel
theorem dX8_see_14 : decode cX8_see 14 = .ok (.ldc2_w 268, 3) := by decide +kernel
theorem dX8_see_17 : decode cX8_see 17 = .ok (.invokestatic 76, 3) := by decide +kernel
theorem dX8_see_20 : decode cX8_see 20 = .ok (.ifCond .ne 6, 3) := by decide +kernel
theorem dX8_see_23 : decode cX8_see 23 = .ok (.bipush (-102), 2) := by decide +kernel
theorem dX8_see_25 : decode cX8_see 25 = .ok (.ireturn, 1) := by decide +kernel
theorem dX8_see_26 : decode cX8_see 26 = .ok (.aload_n 0, 1) := by decide +kernel
theorem dX8_see_27 : decode cX8_see 27 = .ok (.getfield 125, 3) := by decide +kernel
theorem dX8_see_30 : decode cX8_see 30 = .ok (.bipush 6, 2) := by decide +kernel
theorem dX8_see_32 : decode cX8_see 32 = .ok (.if_icmp .ne 6, 3) := by decide +kernel
theorem dX8_see_35 : decode cX8_see 35 = .ok (.bipush (-104), 2) := by decide +kernel
theorem dX8_see_37 : decode cX8_see 37 = .ok (.ireturn, 1) := by decide +kernel
theorem dX8_see_38 : decode cX8_see 38 = .ok (.aload_n 0, 1) := by decide +kernel
theorem dX8_see_39 : decode cX8_see 39 = .ok (.getfield 49, 3) := by decide +kernel
theorem dX8_see_42 : decode cX8_see 42 = .ok (.iconst 3, 1) := by decide +kernel
theorem dX8_see_43 : decode cX8_see 43 = .ok (.aload_n 0, 1) := by decide +kernel
theorem dX8_see_44 : decode cX8_see 44 = .ok (.getfield 125, 3) := by decide +kernel
theorem dX8_see_47 : decode cX8_see 47 = .ok (.imul, 1) := by decide +kernel
theorem dX8_see_48 : decode cX8_see 48 = .ok (.iload_n 1, 1) := by decide +kernel
theorem dX8_see_49 : decode cX8_see 49 = .ok (.iastore, 1) := by decide +kernel
theorem dX8_see_50 : decode cX8_see 50 = .ok (.aload_n 0, 1) := by decide +kernel
theorem dX8_see_51 : decode cX8_see 51 = .ok (.getfield 49, 3) := by decide +kernel
theorem dX8_see_54 : decode cX8_see 54 = .ok (.iconst 3, 1) := by decide +kernel
theorem dX8_see_55 : decode cX8_see 55 = .ok (.aload_n 0, 1) := by decide +kernel
theorem dX8_see_56 : decode cX8_see 56 = .ok (.getfield 125, 3) := by decide +kernel
theorem dX8_see_59 : decode cX8_see 59 = .ok (.imul, 1) := by decide +kernel
theorem dX8_see_60 : decode cX8_see 60 = .ok (.iconst 1, 1) := by decide +kernel
theorem dX8_see_61 : decode cX8_see 61 = .ok (.iadd, 1) := by decide +kernel
theorem dX8_see_62 : decode cX8_see 62 = .ok (.iload_n 2, 1) := by decide +kernel
theorem dX8_see_63 : decode cX8_see 63 = .ok (.iastore, 1) := by decide +kernel
theorem dX8_see_64 : decode cX8_see 64 = .ok (.aload_n 0, 1) := by decide +kernel
theorem dX8_see_65 : decode cX8_see 65 = .ok (.getfield 49, 3) := by decide +kernel
theorem dX8_see_68 : decode cX8_see 68 = .ok (.iconst 3, 1) := by decide +kernel
theorem dX8_see_69 : decode cX8_see 69 = .ok (.aload_n 0, 1) := by decide +kernel
theorem dX8_see_70 : decode cX8_see 70 = .ok (.getfield 125, 3) := by decide +kernel
theorem dX8_see_73 : decode cX8_see 73 = .ok (.imul, 1) := by decide +kernel
theorem dX8_see_74 : decode cX8_see 74 = .ok (.iconst 2, 1) := by decide +kernel
theorem dX8_see_75 : decode cX8_see 75 = .ok (.iadd, 1) := by decide +kernel
theorem dX8_see_76 : decode cX8_see 76 = .ok (.iload_n 3, 1) := by decide +kernel
theorem dX8_see_77 : decode cX8_see 77 = .ok (.ifCond .eq 7, 3) := by decide +kernel
theorem dX8_see_80 : decode cX8_see 80 = .ok (.iconst 1, 1) := by decide +kernel
theorem dX8_see_81 : decode cX8_see 81 = .ok (.goto 4, 3) := by decide +kernel
theorem dX8_see_84 : decode cX8_see 84 = .ok (.iconst 0, 1) := by decide +kernel
theorem dX8_see_85 : decode cX8_see 85 = .ok (.iastore, 1) := by decide +kernel
theorem dX8_see_86 : decode cX8_see 86 = .ok (.aload_n 0, 1) := by decide +kernel
theorem dX8_see_87 : decode cX8_see 87 = .ok (.dup, 1) := by decide +kernel
theorem dX8_see_88 : decode cX8_see 88 = .ok (.getfield 125, 3) := by decide +kernel
theorem dX8_see_91 : decode cX8_see 91 = .ok (.iconst 1, 1) := by decide +kernel
theorem dX8_see_92 : decode cX8_see 92 = .ok (.iadd, 1) := by decide +kernel
theorem dX8_see_93 : decode cX8_see 93 = .ok (.putfield 125, 3) := by decide +kernel
theorem dX8_see_96 : decode cX8_see 96 = .ok (.aload_n 0, 1) := by decide +kernel
theorem dX8_see_97 : decode cX8_see 97 = .ok (.getfield 125, 3) := by decide +kernel
theorem dX8_see_100 : decode cX8_see 100 = .ok (.ireturn, 1) := by decide +kernel
theorem dX8_sortsBy_0 : decode cX8_sortsBy 0 = .ok (.iload_n 0, 1) := by decide +kernel
theorem dX8_sortsBy_1 : decode cX8_sortsBy 1 = .ok (.tableswitch 35 0 2 #[27, 29, 32], 27) := by decide +kernel
theorem dX8_sortsBy_28 : decode cX8_sortsBy 28 = .ok (.iconst 2, 1) := by decide +kernel
theorem dX8_sortsBy_29 : decode cX8_sortsBy 29 = .ok (.ireturn, 1) := by decide +kernel
theorem dX8_sortsBy_30 : decode cX8_sortsBy 30 = .ok (.bipush 20, 2) := by decide +kernel
theorem dX8_sortsBy_32 : decode cX8_sortsBy 32 = .ok (.ireturn, 1) := by decide +kernel
theorem dX8_sortsBy_33 : decode cX8_sortsBy 33 = .ok (.bipush 16, 2) := by decide +kernel
theorem dX8_sortsBy_35 : decode cX8_sortsBy 35 = .ok (.ireturn, 1) := by decide +kernel
theorem dX8_sortsBy_36 : decode cX8_sortsBy 36 = .ok (.bipush 8, 2) := by decide +kernel
theorem dX8_sortsBy_38 : decode cX8_sortsBy 38 = .ok (.ireturn, 1) := by decide +kernel
theorem dX8_sortsOf_0 : decode cX8_sortsOf 0 = .ok (.bipush 31, 2) := by decide +kernel
theorem dX8_sortsOf_2 : decode cX8_sortsOf 2 = .ok (.istore_n 2, 1) := by decide +kernel
theorem dX8_sortsOf_3 : decode cX8_sortsOf 3 = .ok (.iconst 0, 1) := by decide +kernel
theorem dX8_sortsOf_4 : decode cX8_sortsOf 4 = .ok (.istore_n 3, 1) := by decide +kernel
theorem dX8_sortsOf_5 : decode cX8_sortsOf 5 = .ok (.iload_n 3, 1) := by decide +kernel
theorem dX8_sortsOf_6 : decode cX8_sortsOf 6 = .ok (.iconst 3, 1) := by decide +kernel
theorem dX8_sortsOf_7 : decode cX8_sortsOf 7 = .ok (.aload_n 0, 1) := by decide +kernel
theorem dX8_sortsOf_8 : decode cX8_sortsOf 8 = .ok (.getfield 125, 3) := by decide +kernel
theorem dX8_sortsOf_11 : decode cX8_sortsOf 11 = .ok (.imul, 1) := by decide +kernel
theorem dX8_sortsOf_12 : decode cX8_sortsOf 12 = .ok (.if_icmp .ge 57, 3) := by decide +kernel
theorem dX8_sortsOf_15 : decode cX8_sortsOf 15 = .ok (.aload_n 0, 1) := by decide +kernel
theorem dX8_sortsOf_16 : decode cX8_sortsOf 16 = .ok (.getfield 49, 3) := by decide +kernel
theorem dX8_sortsOf_19 : decode cX8_sortsOf 19 = .ok (.iload_n 3, 1) := by decide +kernel
theorem dX8_sortsOf_20 : decode cX8_sortsOf 20 = .ok (.iaload, 1) := by decide +kernel
theorem dX8_sortsOf_21 : decode cX8_sortsOf 21 = .ok (.iload_n 1, 1) := by decide +kernel
theorem dX8_sortsOf_22 : decode cX8_sortsOf 22 = .ok (.if_icmp .ne 41, 3) := by decide +kernel
theorem dX8_sortsOf_25 : decode cX8_sortsOf 25 = .ok (.aload_n 0, 1) := by decide +kernel
theorem dX8_sortsOf_26 : decode cX8_sortsOf 26 = .ok (.getfield 49, 3) := by decide +kernel
theorem dX8_sortsOf_29 : decode cX8_sortsOf 29 = .ok (.iload_n 3, 1) := by decide +kernel
theorem dX8_sortsOf_30 : decode cX8_sortsOf 30 = .ok (.iconst 1, 1) := by decide +kernel
theorem dX8_sortsOf_31 : decode cX8_sortsOf 31 = .ok (.iadd, 1) := by decide +kernel
theorem dX8_sortsOf_32 : decode cX8_sortsOf 32 = .ok (.iaload, 1) := by decide +kernel
theorem dX8_sortsOf_33 : decode cX8_sortsOf 33 = .ok (.invokestatic 270, 3) := by decide +kernel
theorem dX8_sortsOf_36 : decode cX8_sortsOf 36 = .ok (.istore 4, 2) := by decide +kernel
theorem dX8_sortsOf_38 : decode cX8_sortsOf 38 = .ok (.iload_n 2, 1) := by decide +kernel
theorem dX8_sortsOf_39 : decode cX8_sortsOf 39 = .ok (.aload_n 0, 1) := by decide +kernel
theorem dX8_sortsOf_40 : decode cX8_sortsOf 40 = .ok (.getfield 49, 3) := by decide +kernel
theorem dX8_sortsOf_43 : decode cX8_sortsOf 43 = .ok (.iload_n 3, 1) := by decide +kernel
theorem dX8_sortsOf_44 : decode cX8_sortsOf 44 = .ok (.iconst 2, 1) := by decide +kernel
theorem dX8_sortsOf_45 : decode cX8_sortsOf 45 = .ok (.iadd, 1) := by decide +kernel
theorem dX8_sortsOf_46 : decode cX8_sortsOf 46 = .ok (.iaload, 1) := by decide +kernel
theorem dX8_sortsOf_47 : decode cX8_sortsOf 47 = .ok (.iconst 1, 1) := by decide +kernel
theorem dX8_sortsOf_48 : decode cX8_sortsOf 48 = .ok (.if_icmp .ne 8, 3) := by decide +kernel
theorem dX8_sortsOf_51 : decode cX8_sortsOf 51 = .ok (.iload 4, 2) := by decide +kernel
theorem dX8_sortsOf_53 : decode cX8_sortsOf 53 = .ok (.goto 8, 3) := by decide +kernel
theorem dX8_sortsOf_56 : decode cX8_sortsOf 56 = .ok (.bipush 31, 2) := by decide +kernel
theorem dX8_sortsOf_58 : decode cX8_sortsOf 58 = .ok (.iload 4, 2) := by decide +kernel
theorem dX8_sortsOf_60 : decode cX8_sortsOf 60 = .ok (.isub, 1) := by decide +kernel
theorem dX8_sortsOf_61 : decode cX8_sortsOf 61 = .ok (.iand, 1) := by decide +kernel
theorem dX8_sortsOf_62 : decode cX8_sortsOf 62 = .ok (.istore_n 2, 1) := by decide +kernel
theorem dX8_sortsOf_63 : decode cX8_sortsOf 63 = .ok (.iinc 3 3, 3) := by decide +kernel
theorem dX8_sortsOf_66 : decode cX8_sortsOf 66 = .ok (.goto (-61), 3) := by decide +kernel
theorem dX8_sortsOf_69 : decode cX8_sortsOf 69 = .ok (.iload_n 2, 1) := by decide +kernel
theorem dX8_sortsOf_70 : decode cX8_sortsOf 70 = .ok (.ireturn, 1) := by decide +kernel
theorem dX8_restore_0 : decode cX8_restore 0 = .ok (.aload_n 0, 1) := by decide +kernel
theorem dX8_restore_1 : decode cX8_restore 1 = .ok (.getfield 70, 3) := by decide +kernel
theorem dX8_restore_4 : decode cX8_restore 4 = .ok (.aload_n 0, 1) := by decide +kernel
theorem dX8_restore_5 : decode cX8_restore 5 = .ok (.getfield 128, 3) := by decide +kernel
theorem dX8_restore_8 : decode cX8_restore 8 = .ok (.if_icmp .eq 6, 3) := by decide +kernel
theorem dX8_restore_11 : decode cX8_restore 11 = .ok (.bipush (-103), 2) := by decide +kernel
theorem dX8_restore_13 : decode cX8_restore 13 = .ok (.ireturn, 1) := by decide +kernel
theorem dX8_restore_14 : decode cX8_restore 14 = .ok (.aload_n 0, 1) := by decide +kernel
theorem dX8_restore_15 : decode cX8_restore 15 = .ok (.getfield 58, 3) := by decide +kernel
theorem dX8_restore_18 : decode cX8_restore 18 = .ok (.aload_n 0, 1) := by decide +kernel
theorem dX8_restore_19 : decode cX8_restore 19 = .ok (.getfield 13, 3) := by decide +kernel
theorem dX8_restore_22 : decode cX8_restore 22 = .ok (.invokestatic 252, 3) := by decide +kernel
theorem dX8_restore_25 : decode cX8_restore 25 = .ok (.aload_n 0, 1) := by decide +kernel
theorem dX8_restore_26 : decode cX8_restore 26 = .ok (.getfield 61, 3) := by decide +kernel
theorem dX8_restore_29 : decode cX8_restore 29 = .ok (.aload_n 0, 1) := by decide +kernel
theorem dX8_restore_30 : decode cX8_restore 30 = .ok (.getfield 16, 3) := by decide +kernel
theorem dX8_restore_33 : decode cX8_restore 33 = .ok (.invokestatic 252, 3) := by decide +kernel
theorem dX8_restore_36 : decode cX8_restore 36 = .ok (.aload_n 0, 1) := by decide +kernel
theorem dX8_restore_37 : decode cX8_restore 37 = .ok (.getfield 64, 3) := by decide +kernel
theorem dX8_restore_40 : decode cX8_restore 40 = .ok (.aload_n 0, 1) := by decide +kernel
theorem dX8_restore_41 : decode cX8_restore 41 = .ok (.getfield 19, 3) := by decide +kernel
theorem dX8_restore_44 : decode cX8_restore 44 = .ok (.invokestatic 252, 3) := by decide +kernel
theorem dX8_restore_47 : decode cX8_restore 47 = .ok (.aload_n 0, 1) := by decide +kernel
theorem dX8_restore_48 : decode cX8_restore 48 = .ok (.getfield 67, 3) := by decide +kernel
theorem dX8_restore_51 : decode cX8_restore 51 = .ok (.aload_n 0, 1) := by decide +kernel
theorem dX8_restore_52 : decode cX8_restore 52 = .ok (.getfield 49, 3) := by decide +kernel
theorem dX8_restore_55 : decode cX8_restore 55 = .ok (.invokestatic 252, 3) := by decide +kernel
theorem dX8_restore_58 : decode cX8_restore 58 = .ok (.aload_n 0, 1) := by decide +kernel
theorem dX8_restore_59 : decode cX8_restore 59 = .ok (.aload_n 0, 1) := by decide +kernel
theorem dX8_restore_60 : decode cX8_restore 60 = .ok (.getfield 293, 3) := by decide +kernel
theorem dX8_restore_63 : decode cX8_restore 63 = .ok (.putfield 119, 3) := by decide +kernel
theorem dX8_restore_66 : decode cX8_restore 66 = .ok (.aload_n 0, 1) := by decide +kernel
theorem dX8_restore_67 : decode cX8_restore 67 = .ok (.aload_n 0, 1) := by decide +kernel
theorem dX8_restore_68 : decode cX8_restore 68 = .ok (.getfield 296, 3) := by decide +kernel
theorem dX8_restore_71 : decode cX8_restore 71 = .ok (.putfield 122, 3) := by decide +kernel
theorem dX8_restore_74 : decode cX8_restore 74 = .ok (.aload_n 0, 1) := by decide +kernel
theorem dX8_restore_75 : decode cX8_restore 75 = .ok (.aload_n 0, 1) := by decide +kernel
theorem dX8_restore_76 : decode cX8_restore 76 = .ok (.getfield 299, 3) := by decide +kernel
theorem dX8_restore_79 : decode cX8_restore 79 = .ok (.putfield 125, 3) := by decide +kernel
theorem dX8_restore_82 : decode cX8_restore 82 = .ok (.aload_n 0, 1) := by decide +kernel
theorem dX8_restore_83 : decode cX8_restore 83 = .ok (.getfield 119, 3) := by decide +kernel
theorem dX8_restore_86 : decode cX8_restore 86 = .ok (.ireturn, 1) := by decide +kernel
theorem dX8_say_0 : decode cX8_say 0 = .ok (.aload_n 0, 1) := by decide +kernel
theorem dX8_say_1 : decode cX8_say 1 = .ok (.ldc2_w 308, 3) := by decide +kernel
theorem dX8_say_4 : decode cX8_say 4 = .ok (.aload_n 0, 1) := by decide +kernel
theorem dX8_say_5 : decode cX8_say 5 = .ok (.getfield 310, 3) := by decide +kernel
theorem dX8_say_8 : decode cX8_say 8 = .ok (.lmul, 1) := by decide +kernel
theorem dX8_say_9 : decode cX8_say 9 = .ok (.lload_n 1, 1) := by decide +kernel
theorem dX8_say_10 : decode cX8_say 10 = .ok (.ladd, 1) := by decide +kernel
theorem dX8_say_11 : decode cX8_say 11 = .ok (.putfield 310, 3) := by decide +kernel
theorem dX8_say_14 : decode cX8_say 14 = .ok (.return_, 1) := by decide +kernel
theorem dX8_sayPage_0 : decode cX8_sayPage 0 = .ok (.iconst 0, 1) := by decide +kernel
theorem dX8_sayPage_1 : decode cX8_sayPage 1 = .ok (.istore_n 1, 1) := by decide +kernel
theorem dX8_sayPage_2 : decode cX8_sayPage 2 = .ok (.iload_n 1, 1) := by decide +kernel
theorem dX8_sayPage_3 : decode cX8_sayPage 3 = .ok (.aload_n 0, 1) := by decide +kernel
theorem dX8_sayPage_4 : decode cX8_sayPage 4 = .ok (.getfield 119, 3) := by decide +kernel
theorem dX8_sayPage_7 : decode cX8_sayPage 7 = .ok (.if_icmp .ge 34, 3) := by decide +kernel
theorem dX8_sayPage_10 : decode cX8_sayPage 10 = .ok (.iconst 0, 1) := by decide +kernel
theorem dX8_sayPage_11 : decode cX8_sayPage 11 = .ok (.istore_n 2, 1) := by decide +kernel
theorem dX8_sayPage_12 : decode cX8_sayPage 12 = .ok (.iload_n 2, 1) := by decide +kernel
theorem dX8_sayPage_13 : decode cX8_sayPage 13 = .ok (.bipush 10, 2) := by decide +kernel
theorem dX8_sayPage_15 : decode cX8_sayPage 15 = .ok (.if_icmp .ge 20, 3) := by decide +kernel
theorem dX8_sayPage_18 : decode cX8_sayPage 18 = .ok (.aload_n 0, 1) := by decide +kernel
theorem dX8_sayPage_19 : decode cX8_sayPage 19 = .ok (.aload_n 0, 1) := by decide +kernel
theorem dX8_sayPage_20 : decode cX8_sayPage 20 = .ok (.iload_n 1, 1) := by decide +kernel
theorem dX8_sayPage_21 : decode cX8_sayPage 21 = .ok (.iload_n 2, 1) := by decide +kernel
theorem dX8_sayPage_22 : decode cX8_sayPage 22 = .ok (.invokevirtual 216, 3) := by decide +kernel
theorem dX8_sayPage_25 : decode cX8_sayPage 25 = .ok (.i2l, 1) := by decide +kernel
theorem dX8_sayPage_26 : decode cX8_sayPage 26 = .ok (.invokevirtual 314, 3) := by decide +kernel
theorem dX8_sayPage_29 : decode cX8_sayPage 29 = .ok (.iinc 2 1, 3) := by decide +kernel
theorem dX8_sayPage_32 : decode cX8_sayPage 32 = .ok (.goto (-20), 3) := by decide +kernel
theorem dX8_sayPage_35 : decode cX8_sayPage 35 = .ok (.iinc 1 1, 3) := by decide +kernel
theorem dX8_sayPage_38 : decode cX8_sayPage 38 = .ok (.goto (-36), 3) := by decide +kernel
theorem dX8_sayPage_41 : decode cX8_sayPage 41 = .ok (.aload_n 0, 1) := by decide +kernel
theorem dX8_sayPage_42 : decode cX8_sayPage 42 = .ok (.invokevirtual 201, 3) := by decide +kernel
theorem dX8_sayPage_45 : decode cX8_sayPage 45 = .ok (.iconst 0, 1) := by decide +kernel
theorem dX8_sayPage_46 : decode cX8_sayPage 46 = .ok (.istore_n 1, 1) := by decide +kernel
theorem dX8_sayPage_47 : decode cX8_sayPage 47 = .ok (.iload_n 1, 1) := by decide +kernel
theorem dX8_sayPage_48 : decode cX8_sayPage 48 = .ok (.aload_n 0, 1) := by decide +kernel
theorem dX8_sayPage_49 : decode cX8_sayPage 49 = .ok (.getfield 119, 3) := by decide +kernel
theorem dX8_sayPage_52 : decode cX8_sayPage 52 = .ok (.if_icmp .ge 20, 3) := by decide +kernel
theorem dX8_sayPage_55 : decode cX8_sayPage 55 = .ok (.aload_n 0, 1) := by decide +kernel
theorem dX8_sayPage_56 : decode cX8_sayPage 56 = .ok (.aload_n 0, 1) := by decide +kernel
theorem dX8_sayPage_57 : decode cX8_sayPage 57 = .ok (.getfield 25, 3) := by decide +kernel
theorem dX8_sayPage_60 : decode cX8_sayPage 60 = .ok (.iload_n 1, 1) := by decide +kernel
theorem dX8_sayPage_61 : decode cX8_sayPage 61 = .ok (.iaload, 1) := by decide +kernel
theorem dX8_sayPage_62 : decode cX8_sayPage 62 = .ok (.i2l, 1) := by decide +kernel
theorem dX8_sayPage_63 : decode cX8_sayPage 63 = .ok (.invokevirtual 314, 3) := by decide +kernel
theorem dX8_sayPage_66 : decode cX8_sayPage 66 = .ok (.iinc 1 1, 3) := by decide +kernel
theorem dX8_sayPage_69 : decode cX8_sayPage 69 = .ok (.goto (-22), 3) := by decide +kernel
theorem dX8_sayPage_72 : decode cX8_sayPage 72 = .ok (.iconst 0, 1) := by decide +kernel
theorem dX8_sayPage_73 : decode cX8_sayPage 73 = .ok (.istore_n 1, 1) := by decide +kernel
theorem dX8_sayPage_74 : decode cX8_sayPage 74 = .ok (.iload_n 1, 1) := by decide +kernel
theorem dX8_sayPage_75 : decode cX8_sayPage 75 = .ok (.iconst 5, 1) := by decide +kernel
theorem dX8_sayPage_76 : decode cX8_sayPage 76 = .ok (.aload_n 0, 1) := by decide +kernel
theorem dX8_sayPage_77 : decode cX8_sayPage 77 = .ok (.getfield 182, 3) := by decide +kernel
theorem dX8_sayPage_80 : decode cX8_sayPage 80 = .ok (.imul, 1) := by decide +kernel
theorem dX8_sayPage_81 : decode cX8_sayPage 81 = .ok (.if_icmp .ge 20, 3) := by decide +kernel
theorem dX8_sayPage_84 : decode cX8_sayPage 84 = .ok (.aload_n 0, 1) := by decide +kernel
theorem dX8_sayPage_85 : decode cX8_sayPage 85 = .ok (.aload_n 0, 1) := by decide +kernel
theorem dX8_sayPage_86 : decode cX8_sayPage 86 = .ok (.getfield 28, 3) := by decide +kernel
theorem dX8_sayPage_89 : decode cX8_sayPage 89 = .ok (.iload_n 1, 1) := by decide +kernel
theorem dX8_sayPage_90 : decode cX8_sayPage 90 = .ok (.iaload, 1) := by decide +kernel
theorem dX8_sayPage_91 : decode cX8_sayPage 91 = .ok (.i2l, 1) := by decide +kernel
theorem dX8_sayPage_92 : decode cX8_sayPage 92 = .ok (.invokevirtual 314, 3) := by decide +kernel
theorem dX8_sayPage_95 : decode cX8_sayPage 95 = .ok (.iinc 1 1, 3) := by decide +kernel
theorem dX8_sayPage_98 : decode cX8_sayPage 98 = .ok (.goto (-24), 3) := by decide +kernel
theorem dX8_sayPage_101 : decode cX8_sayPage 101 = .ok (.aload_n 0, 1) := by decide +kernel
theorem dX8_sayPage_102 : decode cX8_sayPage 102 = .ok (.aload_n 0, 1) := by decide +kernel
theorem dX8_sayPage_103 : decode cX8_sayPage 103 = .ok (.invokevirtual 262, 3) := by decide +kernel
theorem dX8_sayPage_106 : decode cX8_sayPage 106 = .ok (.i2l, 1) := by decide +kernel
theorem dX8_sayPage_107 : decode cX8_sayPage 107 = .ok (.invokevirtual 314, 3) := by decide +kernel
theorem dX8_sayPage_110 : decode cX8_sayPage 110 = .ok (.aload_n 0, 1) := by decide +kernel
theorem dX8_sayPage_111 : decode cX8_sayPage 111 = .ok (.aload_n 0, 1) := by decide +kernel
theorem dX8_sayPage_112 : decode cX8_sayPage 112 = .ok (.invokevirtual 265, 3) := by decide +kernel
theorem dX8_sayPage_115 : decode cX8_sayPage 115 = .ok (.i2l, 1) := by decide +kernel
theorem dX8_sayPage_116 : decode cX8_sayPage 116 = .ok (.invokevirtual 314, 3) := by decide +kernel
theorem dX8_sayPage_119 : decode cX8_sayPage 119 = .ok (.return_, 1) := by decide +kernel
end
section
theorem dJ6_bitCount_0f7a4_0 : decode cJ6_bitCount_0f7a4 0 = .ok (.iload_n 0, 1) := by decide +kernel
theorem dJ6_bitCount_0f7a4_1 : decode cJ6_bitCount_0f7a4 1 = .ok (.iload_n 0, 1) := by decide +kernel
theorem dJ6_bitCount_0f7a4_2 : decode cJ6_bitCount_0f7a4 2 = .ok (.iconst 1, 1) := by decide +kernel
theorem dJ6_bitCount_0f7a4_3 : decode cJ6_bitCount_0f7a4 3 = .ok (.iushr, 1) := by decide +kernel
theorem dJ6_bitCount_0f7a4_4 : decode cJ6_bitCount_0f7a4 4 = .ok (.ldc_w 265, 3) := by decide +kernel
theorem dJ6_bitCount_0f7a4_7 : decode cJ6_bitCount_0f7a4 7 = .ok (.iand, 1) := by decide +kernel
theorem dJ6_bitCount_0f7a4_8 : decode cJ6_bitCount_0f7a4 8 = .ok (.isub, 1) := by decide +kernel
theorem dJ6_bitCount_0f7a4_9 : decode cJ6_bitCount_0f7a4 9 = .ok (.istore_n 0, 1) := by decide +kernel
theorem dJ6_bitCount_0f7a4_10 : decode cJ6_bitCount_0f7a4 10 = .ok (.iload_n 0, 1) := by decide +kernel
theorem dJ6_bitCount_0f7a4_11 : decode cJ6_bitCount_0f7a4 11 = .ok (.ldc_w 266, 3) := by decide +kernel
theorem dJ6_bitCount_0f7a4_14 : decode cJ6_bitCount_0f7a4 14 = .ok (.iand, 1) := by decide +kernel
theorem dJ6_bitCount_0f7a4_15 : decode cJ6_bitCount_0f7a4 15 = .ok (.iload_n 0, 1) := by decide +kernel
theorem dJ6_bitCount_0f7a4_16 : decode cJ6_bitCount_0f7a4 16 = .ok (.iconst 2, 1) := by decide +kernel
theorem dJ6_bitCount_0f7a4_17 : decode cJ6_bitCount_0f7a4 17 = .ok (.iushr, 1) := by decide +kernel
theorem dJ6_bitCount_0f7a4_18 : decode cJ6_bitCount_0f7a4 18 = .ok (.ldc_w 266, 3) := by decide +kernel
theorem dJ6_bitCount_0f7a4_21 : decode cJ6_bitCount_0f7a4 21 = .ok (.iand, 1) := by decide +kernel
theorem dJ6_bitCount_0f7a4_22 : decode cJ6_bitCount_0f7a4 22 = .ok (.iadd, 1) := by decide +kernel
theorem dJ6_bitCount_0f7a4_23 : decode cJ6_bitCount_0f7a4 23 = .ok (.istore_n 0, 1) := by decide +kernel
theorem dJ6_bitCount_0f7a4_24 : decode cJ6_bitCount_0f7a4 24 = .ok (.iload_n 0, 1) := by decide +kernel
theorem dJ6_bitCount_0f7a4_25 : decode cJ6_bitCount_0f7a4 25 = .ok (.iload_n 0, 1) := by decide +kernel
theorem dJ6_bitCount_0f7a4_26 : decode cJ6_bitCount_0f7a4 26 = .ok (.iconst 4, 1) := by decide +kernel
theorem dJ6_bitCount_0f7a4_27 : decode cJ6_bitCount_0f7a4 27 = .ok (.iushr, 1) := by decide +kernel
theorem dJ6_bitCount_0f7a4_28 : decode cJ6_bitCount_0f7a4 28 = .ok (.iadd, 1) := by decide +kernel
theorem dJ6_bitCount_0f7a4_29 : decode cJ6_bitCount_0f7a4 29 = .ok (.ldc_w 267, 3) := by decide +kernel
theorem dJ6_bitCount_0f7a4_32 : decode cJ6_bitCount_0f7a4 32 = .ok (.iand, 1) := by decide +kernel
theorem dJ6_bitCount_0f7a4_33 : decode cJ6_bitCount_0f7a4 33 = .ok (.istore_n 0, 1) := by decide +kernel
theorem dJ6_bitCount_0f7a4_34 : decode cJ6_bitCount_0f7a4 34 = .ok (.iload_n 0, 1) := by decide +kernel
theorem dJ6_bitCount_0f7a4_35 : decode cJ6_bitCount_0f7a4 35 = .ok (.iload_n 0, 1) := by decide +kernel
theorem dJ6_bitCount_0f7a4_36 : decode cJ6_bitCount_0f7a4 36 = .ok (.bipush 8, 2) := by decide +kernel
theorem dJ6_bitCount_0f7a4_38 : decode cJ6_bitCount_0f7a4 38 = .ok (.iushr, 1) := by decide +kernel
theorem dJ6_bitCount_0f7a4_39 : decode cJ6_bitCount_0f7a4 39 = .ok (.iadd, 1) := by decide +kernel
theorem dJ6_bitCount_0f7a4_40 : decode cJ6_bitCount_0f7a4 40 = .ok (.istore_n 0, 1) := by decide +kernel
theorem dJ6_bitCount_0f7a4_41 : decode cJ6_bitCount_0f7a4 41 = .ok (.iload_n 0, 1) := by decide +kernel
theorem dJ6_bitCount_0f7a4_42 : decode cJ6_bitCount_0f7a4 42 = .ok (.iload_n 0, 1) := by decide +kernel
theorem dJ6_bitCount_0f7a4_43 : decode cJ6_bitCount_0f7a4 43 = .ok (.bipush 16, 2) := by decide +kernel
theorem dJ6_bitCount_0f7a4_45 : decode cJ6_bitCount_0f7a4 45 = .ok (.iushr, 1) := by decide +kernel
theorem dJ6_bitCount_0f7a4_46 : decode cJ6_bitCount_0f7a4 46 = .ok (.iadd, 1) := by decide +kernel
theorem dJ6_bitCount_0f7a4_47 : decode cJ6_bitCount_0f7a4 47 = .ok (.istore_n 0, 1) := by decide +kernel
theorem dJ6_bitCount_0f7a4_48 : decode cJ6_bitCount_0f7a4 48 = .ok (.iload_n 0, 1) := by decide +kernel
theorem dJ6_bitCount_0f7a4_49 : decode cJ6_bitCount_0f7a4 49 = .ok (.bipush 63, 2) := by decide +kernel
theorem dJ6_bitCount_0f7a4_51 : decode cJ6_bitCount_0f7a4 51 = .ok (.iand, 1) := by decide +kernel
theorem dJ6_bitCount_0f7a4_52 : decode cJ6_bitCount_0f7a4 52 = .ok (.ireturn, 1) := by decide +kernel
theorem dJ0_indexOf_0f7a4_0 : decode cJ0_indexOf_0f7a4 0 = .ok (.aload_n 0, 1) := by decide +kernel
theorem dJ0_indexOf_0f7a4_1 : decode cJ0_indexOf_0f7a4 1 = .ok (.iload_n 1, 1) := by decide +kernel
theorem dJ0_indexOf_0f7a4_2 : decode cJ0_indexOf_0f7a4 2 = .ok (.iconst 0, 1) := by decide +kernel
theorem dJ0_indexOf_0f7a4_3 : decode cJ0_indexOf_0f7a4 3 = .ok (.invokevirtual 633, 3) := by decide +kernel
theorem dJ0_indexOf_0f7a4_6 : decode cJ0_indexOf_0f7a4 6 = .ok (.ireturn, 1) := by decide +kernel
theorem dJ0_indexOf_7cf53_0 : decode cJ0_indexOf_7cf53 0 = .ok (.aload_n 0, 1) := by decide +kernel
theorem dJ0_indexOf_7cf53_1 : decode cJ0_indexOf_7cf53 1 = .ok (.invokevirtual 492, 3) := by decide +kernel
theorem dJ0_indexOf_7cf53_4 : decode cJ0_indexOf_7cf53 4 = .ok (.ifCond .eq 19, 3) := by decide +kernel
theorem dJ0_indexOf_7cf53_7 : decode cJ0_indexOf_7cf53 7 = .ok (.aload_n 0, 1) := by decide +kernel
theorem dJ0_indexOf_7cf53_8 : decode cJ0_indexOf_7cf53 8 = .ok (.getfield 9, 3) := by decide +kernel
theorem dJ0_indexOf_7cf53_11 : decode cJ0_indexOf_7cf53 11 = .ok (.iload_n 1, 1) := by decide +kernel
theorem dJ0_indexOf_7cf53_12 : decode cJ0_indexOf_7cf53 12 = .ok (.iload_n 2, 1) := by decide +kernel
theorem dJ0_indexOf_7cf53_13 : decode cJ0_indexOf_7cf53 13 = .ok (.aload_n 0, 1) := by decide +kernel
theorem dJ0_indexOf_7cf53_14 : decode cJ0_indexOf_7cf53 14 = .ok (.invokevirtual 505, 3) := by decide +kernel
theorem dJ0_indexOf_7cf53_17 : decode cJ0_indexOf_7cf53 17 = .ok (.invokestatic 637, 3) := by decide +kernel
theorem dJ0_indexOf_7cf53_20 : decode cJ0_indexOf_7cf53 20 = .ok (.goto 16, 3) := by decide +kernel
theorem dJ0_indexOf_7cf53_23 : decode cJ0_indexOf_7cf53 23 = .ok (.aload_n 0, 1) := by decide +kernel
theorem dJ0_indexOf_7cf53_24 : decode cJ0_indexOf_7cf53 24 = .ok (.getfield 9, 3) := by decide +kernel
theorem dJ0_indexOf_7cf53_27 : decode cJ0_indexOf_7cf53 27 = .ok (.iload_n 1, 1) := by decide +kernel
theorem dJ0_indexOf_7cf53_28 : decode cJ0_indexOf_7cf53 28 = .ok (.iload_n 2, 1) := by decide +kernel
theorem dJ0_indexOf_7cf53_29 : decode cJ0_indexOf_7cf53 29 = .ok (.aload_n 0, 1) := by decide +kernel
theorem dJ0_indexOf_7cf53_30 : decode cJ0_indexOf_7cf53 30 = .ok (.invokevirtual 505, 3) := by decide +kernel
theorem dJ0_indexOf_7cf53_33 : decode cJ0_indexOf_7cf53 33 = .ok (.invokestatic 640, 3) := by decide +kernel
theorem dJ0_indexOf_7cf53_36 : decode cJ0_indexOf_7cf53 36 = .ok (.ireturn, 1) := by decide +kernel
theorem dJ0_isLatin1_aae02_0 : decode cJ0_isLatin1_aae02 0 = .ok (.getstatic 38, 3) := by decide +kernel
theorem dJ0_isLatin1_aae02_3 : decode cJ0_isLatin1_aae02 3 = .ok (.ifCond .eq 14, 3) := by decide +kernel
theorem dJ0_isLatin1_aae02_6 : decode cJ0_isLatin1_aae02 6 = .ok (.aload_n 0, 1) := by decide +kernel
theorem dJ0_isLatin1_aae02_7 : decode cJ0_isLatin1_aae02 7 = .ok (.getfield 15, 3) := by decide +kernel
theorem dJ0_isLatin1_aae02_10 : decode cJ0_isLatin1_aae02 10 = .ok (.ifCond .ne 7, 3) := by decide +kernel
theorem dJ0_isLatin1_aae02_13 : decode cJ0_isLatin1_aae02 13 = .ok (.iconst 1, 1) := by decide +kernel
theorem dJ0_isLatin1_aae02_14 : decode cJ0_isLatin1_aae02 14 = .ok (.goto 4, 3) := by decide +kernel
theorem dJ0_isLatin1_aae02_17 : decode cJ0_isLatin1_aae02 17 = .ok (.iconst 0, 1) := by decide +kernel
theorem dJ0_isLatin1_aae02_18 : decode cJ0_isLatin1_aae02 18 = .ok (.ireturn, 1) := by decide +kernel
theorem dJ1_canEncode_9a6ad_0 : decode cJ1_canEncode_9a6ad 0 = .ok (.iload_n 0, 1) := by decide +kernel
theorem dJ1_canEncode_9a6ad_1 : decode cJ1_canEncode_9a6ad 1 = .ok (.ifCond .lt 14, 3) := by decide +kernel
theorem dJ1_canEncode_9a6ad_4 : decode cJ1_canEncode_9a6ad 4 = .ok (.iload_n 0, 1) := by decide +kernel
theorem dJ1_canEncode_9a6ad_5 : decode cJ1_canEncode_9a6ad 5 = .ok (.sipush 255, 3) := by decide +kernel
theorem dJ1_canEncode_9a6ad_8 : decode cJ1_canEncode_9a6ad 8 = .ok (.if_icmp .gt 7, 3) := by decide +kernel
theorem dJ1_canEncode_9a6ad_11 : decode cJ1_canEncode_9a6ad 11 = .ok (.iconst 1, 1) := by decide +kernel
theorem dJ1_canEncode_9a6ad_12 : decode cJ1_canEncode_9a6ad 12 = .ok (.goto 4, 3) := by decide +kernel
theorem dJ1_canEncode_9a6ad_15 : decode cJ1_canEncode_9a6ad 15 = .ok (.iconst 0, 1) := by decide +kernel
theorem dJ1_canEncode_9a6ad_16 : decode cJ1_canEncode_9a6ad 16 = .ok (.ireturn, 1) := by decide +kernel
theorem dJ1_indexOf_4cfef_0 : decode cJ1_indexOf_4cfef 0 = .ok (.iload_n 1, 1) := by decide +kernel
theorem dJ1_indexOf_4cfef_1 : decode cJ1_indexOf_4cfef 1 = .ok (.invokestatic 88, 3) := by decide +kernel
theorem dJ1_indexOf_4cfef_4 : decode cJ1_indexOf_4cfef 4 = .ok (.ifCond .ne 5, 3) := by decide +kernel
theorem dJ1_indexOf_4cfef_7 : decode cJ1_indexOf_4cfef 7 = .ok (.iconst (-1), 1) := by decide +kernel
theorem dJ1_indexOf_4cfef_8 : decode cJ1_indexOf_4cfef 8 = .ok (.ireturn, 1) := by decide +kernel
theorem dJ1_indexOf_4cfef_9 : decode cJ1_indexOf_4cfef 9 = .ok (.iload_n 2, 1) := by decide +kernel
theorem dJ1_indexOf_4cfef_10 : decode cJ1_indexOf_4cfef 10 = .ok (.iconst 0, 1) := by decide +kernel
theorem dJ1_indexOf_4cfef_11 : decode cJ1_indexOf_4cfef 11 = .ok (.invokestatic 92, 3) := by decide +kernel
theorem dJ1_indexOf_4cfef_14 : decode cJ1_indexOf_4cfef 14 = .ok (.istore_n 2, 1) := by decide +kernel
theorem dJ1_indexOf_4cfef_15 : decode cJ1_indexOf_4cfef 15 = .ok (.iload_n 3, 1) := by decide +kernel
theorem dJ1_indexOf_4cfef_16 : decode cJ1_indexOf_4cfef 16 = .ok (.aload_n 0, 1) := by decide +kernel
theorem dJ1_indexOf_4cfef_17 : decode cJ1_indexOf_4cfef 17 = .ok (.arraylength, 1) := by decide +kernel
theorem dJ1_indexOf_4cfef_18 : decode cJ1_indexOf_4cfef 18 = .ok (.invokestatic 38, 3) := by decide +kernel
theorem dJ1_indexOf_4cfef_21 : decode cJ1_indexOf_4cfef 21 = .ok (.istore_n 3, 1) := by decide +kernel
theorem dJ1_indexOf_4cfef_22 : decode cJ1_indexOf_4cfef 22 = .ok (.iload_n 2, 1) := by decide +kernel
theorem dJ1_indexOf_4cfef_23 : decode cJ1_indexOf_4cfef 23 = .ok (.iload_n 3, 1) := by decide +kernel
theorem dJ1_indexOf_4cfef_24 : decode cJ1_indexOf_4cfef 24 = .ok (.if_icmp .lt 5, 3) := by decide +kernel
theorem dJ1_indexOf_4cfef_27 : decode cJ1_indexOf_4cfef 27 = .ok (.iconst (-1), 1) := by decide +kernel
theorem dJ1_indexOf_4cfef_28 : decode cJ1_indexOf_4cfef 28 = .ok (.ireturn, 1) := by decide +kernel
theorem dJ1_indexOf_4cfef_29 : decode cJ1_indexOf_4cfef 29 = .ok (.aload_n 0, 1) := by decide +kernel
theorem dJ1_indexOf_4cfef_30 : decode cJ1_indexOf_4cfef 30 = .ok (.iload_n 1, 1) := by decide +kernel
theorem dJ1_indexOf_4cfef_31 : decode cJ1_indexOf_4cfef 31 = .ok (.iload_n 2, 1) := by decide +kernel
theorem dJ1_indexOf_4cfef_32 : decode cJ1_indexOf_4cfef 32 = .ok (.iload_n 3, 1) := by decide +kernel
theorem dJ1_indexOf_4cfef_33 : decode cJ1_indexOf_4cfef 33 = .ok (.invokestatic 95, 3) := by decide +kernel
theorem dJ1_indexOf_4cfef_36 : decode cJ1_indexOf_4cfef 36 = .ok (.ireturn, 1) := by decide +kernel
theorem dJ1_indexOfChar_4cfef_0 : decode cJ1_indexOfChar_4cfef 0 = .ok (.iload_n 1, 1) := by decide +kernel
theorem dJ1_indexOfChar_4cfef_1 : decode cJ1_indexOfChar_4cfef 1 = .ok (.i2b, 1) := by decide +kernel
theorem dJ1_indexOfChar_4cfef_2 : decode cJ1_indexOfChar_4cfef 2 = .ok (.istore 4, 2) := by decide +kernel
theorem dJ1_indexOfChar_4cfef_4 : decode cJ1_indexOfChar_4cfef 4 = .ok (.iload_n 2, 1) := by decide +kernel
theorem dJ1_indexOfChar_4cfef_5 : decode cJ1_indexOfChar_4cfef 5 = .ok (.istore 5, 2) := by decide +kernel
theorem dJ1_indexOfChar_4cfef_7 : decode cJ1_indexOfChar_4cfef 7 = .ok (.iload 5, 2) := by decide +kernel
theorem dJ1_indexOfChar_4cfef_9 : decode cJ1_indexOfChar_4cfef 9 = .ok (.iload_n 3, 1) := by decide +kernel
theorem dJ1_indexOfChar_4cfef_10 : decode cJ1_indexOfChar_4cfef 10 = .ok (.if_icmp .ge 21, 3) := by decide +kernel
theorem dJ1_indexOfChar_4cfef_13 : decode cJ1_indexOfChar_4cfef 13 = .ok (.aload_n 0, 1) := by decide +kernel
theorem dJ1_indexOfChar_4cfef_14 : decode cJ1_indexOfChar_4cfef 14 = .ok (.iload 5, 2) := by decide +kernel
theorem dJ1_indexOfChar_4cfef_16 : decode cJ1_indexOfChar_4cfef 16 = .ok (.baload, 1) := by decide +kernel
theorem dJ1_indexOfChar_4cfef_17 : decode cJ1_indexOfChar_4cfef 17 = .ok (.iload 4, 2) := by decide +kernel
theorem dJ1_indexOfChar_4cfef_19 : decode cJ1_indexOfChar_4cfef 19 = .ok (.if_icmp .ne 6, 3) := by decide +kernel
theorem dJ1_indexOfChar_4cfef_22 : decode cJ1_indexOfChar_4cfef 22 = .ok (.iload 5, 2) := by decide +kernel
theorem dJ1_indexOfChar_4cfef_24 : decode cJ1_indexOfChar_4cfef 24 = .ok (.ireturn, 1) := by decide +kernel
theorem dJ1_indexOfChar_4cfef_25 : decode cJ1_indexOfChar_4cfef 25 = .ok (.iinc 5 1, 3) := by decide +kernel
theorem dJ1_indexOfChar_4cfef_28 : decode cJ1_indexOfChar_4cfef 28 = .ok (.goto (-21), 3) := by decide +kernel
theorem dJ1_indexOfChar_4cfef_31 : decode cJ1_indexOfChar_4cfef 31 = .ok (.iconst (-1), 1) := by decide +kernel
theorem dJ1_indexOfChar_4cfef_32 : decode cJ1_indexOfChar_4cfef 32 = .ok (.ireturn, 1) := by decide +kernel
theorem dL_law_0 : decode cL_law 0 = .ok (.new 7, 3) := by decide +kernel
theorem dL_law_3 : decode cL_law 3 = .ok (.dup, 1) := by decide +kernel
theorem dL_law_4 : decode cL_law 4 = .ok (.invokespecial 9, 3) := by decide +kernel
theorem dL_law_7 : decode cL_law 7 = .ok (.astore_n 1, 1) := by decide +kernel
theorem dL_law_8 : decode cL_law 8 = .ok (.new 10, 3) := by decide +kernel
theorem dL_law_11 : decode cL_law 11 = .ok (.dup, 1) := by decide +kernel
theorem dL_law_12 : decode cL_law 12 = .ok (.invokespecial 12, 3) := by decide +kernel
theorem dL_law_15 : decode cL_law 15 = .ok (.astore_n 2, 1) := by decide +kernel
theorem dL_law_16 : decode cL_law 16 = .ok (.iconst 0, 1) := by decide +kernel
theorem dL_law_17 : decode cL_law 17 = .ok (.istore_n 3, 1) := by decide +kernel
theorem dL_law_18 : decode cL_law 18 = .ok (.iload_n 3, 1) := by decide +kernel
theorem dL_law_19 : decode cL_law 19 = .ok (.aload_n 0, 1) := by decide +kernel
theorem dL_law_20 : decode cL_law 20 = .ok (.arraylength, 1) := by decide +kernel
theorem dL_law_21 : decode cL_law 21 = .ok (.iconst 4, 1) := by decide +kernel
theorem dL_law_22 : decode cL_law 22 = .ok (.isub, 1) := by decide +kernel
theorem dL_law_23 : decode cL_law 23 = .ok (.if_icmp .gt 807, 3) := by decide +kernel
theorem dL_law_26 : decode cL_law 26 = .ok (.aload_n 0, 1) := by decide +kernel
theorem dL_law_27 : decode cL_law 27 = .ok (.iload_n 3, 1) := by decide +kernel
theorem dL_law_28 : decode cL_law 28 = .ok (.iaload, 1) := by decide +kernel
theorem dL_law_29 : decode cL_law 29 = .ok (.bipush 31, 2) := by decide +kernel
theorem dL_law_31 : decode cL_law 31 = .ok (.iand, 1) := by decide +kernel
theorem dL_law_32 : decode cL_law 32 = .ok (.tableswitch 792 0 26 #[124, 147, 160, 173, 186, 219, 252, 275, 308, 341, 374, 407, 430, 473, 506, 529, 552, 575, 588, 601, 614, 673, 686, 729, 742, 755, 778], 124) := by decide +kernel
theorem dL_law_156 : decode cL_law 156 = .ok (.aload_n 1, 1) := by decide +kernel
theorem dL_law_157 : decode cL_law 157 = .ok (.aload_n 0, 1) := by decide +kernel
theorem dL_law_158 : decode cL_law 158 = .ok (.iload_n 3, 1) := by decide +kernel
theorem dL_law_159 : decode cL_law 159 = .ok (.iconst 1, 1) := by decide +kernel
theorem dL_law_160 : decode cL_law 160 = .ok (.iadd, 1) := by decide +kernel
theorem dL_law_161 : decode cL_law 161 = .ok (.iaload, 1) := by decide +kernel
theorem dL_law_162 : decode cL_law 162 = .ok (.invokevirtual 13, 3) := by decide +kernel
theorem dL_law_165 : decode cL_law 165 = .ok (.aload_n 2, 1) := by decide +kernel
theorem dL_law_166 : decode cL_law 166 = .ok (.aload_n 0, 1) := by decide +kernel
theorem dL_law_167 : decode cL_law 167 = .ok (.iload_n 3, 1) := by decide +kernel
theorem dL_law_168 : decode cL_law 168 = .ok (.iconst 1, 1) := by decide +kernel
theorem dL_law_169 : decode cL_law 169 = .ok (.iadd, 1) := by decide +kernel
theorem dL_law_170 : decode cL_law 170 = .ok (.iaload, 1) := by decide +kernel
theorem dL_law_171 : decode cL_law 171 = .ok (.invokevirtual 17, 3) := by decide +kernel
theorem dL_law_174 : decode cL_law 174 = .ok (.if_icmp .eq 650, 3) := by decide +kernel
theorem dL_law_177 : decode cL_law 177 = .ok (.iconst 0, 1) := by decide +kernel
theorem dL_law_178 : decode cL_law 178 = .ok (.ireturn, 1) := by decide +kernel
theorem dL_law_179 : decode cL_law 179 = .ok (.aload_n 1, 1) := by decide +kernel
theorem dL_law_180 : decode cL_law 180 = .ok (.invokevirtual 18, 3) := by decide +kernel
theorem dL_law_183 : decode cL_law 183 = .ok (.aload_n 2, 1) := by decide +kernel
theorem dL_law_184 : decode cL_law 184 = .ok (.invokevirtual 22, 3) := by decide +kernel
theorem dL_law_187 : decode cL_law 187 = .ok (.if_icmp .eq 637, 3) := by decide +kernel
theorem dL_law_190 : decode cL_law 190 = .ok (.iconst 0, 1) := by decide +kernel
theorem dL_law_191 : decode cL_law 191 = .ok (.ireturn, 1) := by decide +kernel
theorem dL_law_192 : decode cL_law 192 = .ok (.aload_n 1, 1) := by decide +kernel
theorem dL_law_193 : decode cL_law 193 = .ok (.invokevirtual 23, 3) := by decide +kernel
theorem dL_law_196 : decode cL_law 196 = .ok (.aload_n 2, 1) := by decide +kernel
theorem dL_law_197 : decode cL_law 197 = .ok (.invokevirtual 26, 3) := by decide +kernel
theorem dL_law_200 : decode cL_law 200 = .ok (.if_icmp .eq 624, 3) := by decide +kernel
theorem dL_law_203 : decode cL_law 203 = .ok (.iconst 0, 1) := by decide +kernel
theorem dL_law_204 : decode cL_law 204 = .ok (.ireturn, 1) := by decide +kernel
theorem dL_law_205 : decode cL_law 205 = .ok (.aload_n 1, 1) := by decide +kernel
theorem dL_law_206 : decode cL_law 206 = .ok (.invokevirtual 27, 3) := by decide +kernel
theorem dL_law_209 : decode cL_law 209 = .ok (.aload_n 2, 1) := by decide +kernel
theorem dL_law_210 : decode cL_law 210 = .ok (.invokevirtual 30, 3) := by decide +kernel
theorem dL_law_213 : decode cL_law 213 = .ok (.if_icmp .eq 611, 3) := by decide +kernel
theorem dL_law_216 : decode cL_law 216 = .ok (.iconst 0, 1) := by decide +kernel
theorem dL_law_217 : decode cL_law 217 = .ok (.ireturn, 1) := by decide +kernel
theorem dL_law_218 : decode cL_law 218 = .ok (.aload_n 1, 1) := by decide +kernel
theorem dL_law_219 : decode cL_law 219 = .ok (.aload_n 0, 1) := by decide +kernel
theorem dL_law_220 : decode cL_law 220 = .ok (.iload_n 3, 1) := by decide +kernel
theorem dL_law_221 : decode cL_law 221 = .ok (.iconst 1, 1) := by decide +kernel
theorem dL_law_222 : decode cL_law 222 = .ok (.iadd, 1) := by decide +kernel
theorem dL_law_223 : decode cL_law 223 = .ok (.iaload, 1) := by decide +kernel
theorem dL_law_224 : decode cL_law 224 = .ok (.aload_n 0, 1) := by decide +kernel
theorem dL_law_225 : decode cL_law 225 = .ok (.iload_n 3, 1) := by decide +kernel
theorem dL_law_226 : decode cL_law 226 = .ok (.iconst 2, 1) := by decide +kernel
theorem dL_law_227 : decode cL_law 227 = .ok (.iadd, 1) := by decide +kernel
theorem dL_law_228 : decode cL_law 228 = .ok (.iaload, 1) := by decide +kernel
theorem dL_law_229 : decode cL_law 229 = .ok (.invokevirtual 31, 3) := by decide +kernel
theorem dL_law_232 : decode cL_law 232 = .ok (.aload_n 2, 1) := by decide +kernel
theorem dL_law_233 : decode cL_law 233 = .ok (.aload_n 0, 1) := by decide +kernel
theorem dL_law_234 : decode cL_law 234 = .ok (.iload_n 3, 1) := by decide +kernel
theorem dL_law_235 : decode cL_law 235 = .ok (.iconst 1, 1) := by decide +kernel
theorem dL_law_236 : decode cL_law 236 = .ok (.iadd, 1) := by decide +kernel
theorem dL_law_237 : decode cL_law 237 = .ok (.iaload, 1) := by decide +kernel
theorem dL_law_238 : decode cL_law 238 = .ok (.aload_n 0, 1) := by decide +kernel
theorem dL_law_239 : decode cL_law 239 = .ok (.iload_n 3, 1) := by decide +kernel
theorem dL_law_240 : decode cL_law 240 = .ok (.iconst 2, 1) := by decide +kernel
theorem dL_law_241 : decode cL_law 241 = .ok (.iadd, 1) := by decide +kernel
theorem dL_law_242 : decode cL_law 242 = .ok (.iaload, 1) := by decide +kernel
theorem dL_law_243 : decode cL_law 243 = .ok (.invokevirtual 35, 3) := by decide +kernel
theorem dL_law_246 : decode cL_law 246 = .ok (.if_icmp .eq 578, 3) := by decide +kernel
theorem dL_law_249 : decode cL_law 249 = .ok (.iconst 0, 1) := by decide +kernel
theorem dL_law_250 : decode cL_law 250 = .ok (.ireturn, 1) := by decide +kernel
theorem dL_law_251 : decode cL_law 251 = .ok (.aload_n 1, 1) := by decide +kernel
theorem dL_law_252 : decode cL_law 252 = .ok (.aload_n 0, 1) := by decide +kernel
theorem dL_law_253 : decode cL_law 253 = .ok (.iload_n 3, 1) := by decide +kernel
theorem dL_law_254 : decode cL_law 254 = .ok (.iconst 1, 1) := by decide +kernel
theorem dL_law_255 : decode cL_law 255 = .ok (.iadd, 1) := by decide +kernel
theorem dL_law_256 : decode cL_law 256 = .ok (.iaload, 1) := by decide +kernel
theorem dL_law_257 : decode cL_law 257 = .ok (.aload_n 0, 1) := by decide +kernel
theorem dL_law_258 : decode cL_law 258 = .ok (.iload_n 3, 1) := by decide +kernel
theorem dL_law_259 : decode cL_law 259 = .ok (.iconst 2, 1) := by decide +kernel
theorem dL_law_260 : decode cL_law 260 = .ok (.iadd, 1) := by decide +kernel
theorem dL_law_261 : decode cL_law 261 = .ok (.iaload, 1) := by decide +kernel
theorem dL_law_262 : decode cL_law 262 = .ok (.invokevirtual 36, 3) := by decide +kernel
theorem dL_law_265 : decode cL_law 265 = .ok (.aload_n 2, 1) := by decide +kernel
theorem dL_law_266 : decode cL_law 266 = .ok (.aload_n 0, 1) := by decide +kernel
theorem dL_law_267 : decode cL_law 267 = .ok (.iload_n 3, 1) := by decide +kernel
theorem dL_law_268 : decode cL_law 268 = .ok (.iconst 1, 1) := by decide +kernel
theorem dL_law_269 : decode cL_law 269 = .ok (.iadd, 1) := by decide +kernel
theorem dL_law_270 : decode cL_law 270 = .ok (.iaload, 1) := by decide +kernel
theorem dL_law_271 : decode cL_law 271 = .ok (.aload_n 0, 1) := by decide +kernel
theorem dL_law_272 : decode cL_law 272 = .ok (.iload_n 3, 1) := by decide +kernel
theorem dL_law_273 : decode cL_law 273 = .ok (.iconst 2, 1) := by decide +kernel
theorem dL_law_274 : decode cL_law 274 = .ok (.iadd, 1) := by decide +kernel
theorem dL_law_275 : decode cL_law 275 = .ok (.iaload, 1) := by decide +kernel
theorem dL_law_276 : decode cL_law 276 = .ok (.invokevirtual 39, 3) := by decide +kernel
theorem dL_law_279 : decode cL_law 279 = .ok (.if_icmp .eq 545, 3) := by decide +kernel
theorem dL_law_282 : decode cL_law 282 = .ok (.iconst 0, 1) := by decide +kernel
theorem dL_law_283 : decode cL_law 283 = .ok (.ireturn, 1) := by decide +kernel
theorem dL_law_284 : decode cL_law 284 = .ok (.aload_n 1, 1) := by decide +kernel
theorem dL_law_285 : decode cL_law 285 = .ok (.aload_n 0, 1) := by decide +kernel
theorem dL_law_286 : decode cL_law 286 = .ok (.iload_n 3, 1) := by decide +kernel
theorem dL_law_287 : decode cL_law 287 = .ok (.iconst 1, 1) := by decide +kernel
theorem dL_law_288 : decode cL_law 288 = .ok (.iadd, 1) := by decide +kernel
theorem dL_law_289 : decode cL_law 289 = .ok (.iaload, 1) := by decide +kernel
theorem dL_law_290 : decode cL_law 290 = .ok (.invokevirtual 40, 3) := by decide +kernel
theorem dL_law_293 : decode cL_law 293 = .ok (.aload_n 2, 1) := by decide +kernel
theorem dL_law_294 : decode cL_law 294 = .ok (.aload_n 0, 1) := by decide +kernel
theorem dL_law_295 : decode cL_law 295 = .ok (.iload_n 3, 1) := by decide +kernel
theorem dL_law_296 : decode cL_law 296 = .ok (.iconst 1, 1) := by decide +kernel
theorem dL_law_297 : decode cL_law 297 = .ok (.iadd, 1) := by decide +kernel
theorem dL_law_298 : decode cL_law 298 = .ok (.iaload, 1) := by decide +kernel
theorem dL_law_299 : decode cL_law 299 = .ok (.invokevirtual 43, 3) := by decide +kernel
theorem dL_law_302 : decode cL_law 302 = .ok (.if_icmp .eq 522, 3) := by decide +kernel
theorem dL_law_305 : decode cL_law 305 = .ok (.iconst 0, 1) := by decide +kernel
theorem dL_law_306 : decode cL_law 306 = .ok (.ireturn, 1) := by decide +kernel
theorem dL_law_307 : decode cL_law 307 = .ok (.aload_n 1, 1) := by decide +kernel
theorem dL_law_308 : decode cL_law 308 = .ok (.aload_n 0, 1) := by decide +kernel
theorem dL_law_309 : decode cL_law 309 = .ok (.iload_n 3, 1) := by decide +kernel
theorem dL_law_310 : decode cL_law 310 = .ok (.iconst 1, 1) := by decide +kernel
theorem dL_law_311 : decode cL_law 311 = .ok (.iadd, 1) := by decide +kernel
theorem dL_law_312 : decode cL_law 312 = .ok (.iaload, 1) := by decide +kernel
theorem dL_law_313 : decode cL_law 313 = .ok (.aload_n 0, 1) := by decide +kernel
theorem dL_law_314 : decode cL_law 314 = .ok (.iload_n 3, 1) := by decide +kernel
theorem dL_law_315 : decode cL_law 315 = .ok (.iconst 2, 1) := by decide +kernel
theorem dL_law_316 : decode cL_law 316 = .ok (.iadd, 1) := by decide +kernel
theorem dL_law_317 : decode cL_law 317 = .ok (.iaload, 1) := by decide +kernel
theorem dL_law_318 : decode cL_law 318 = .ok (.invokevirtual 44, 3) := by decide +kernel
theorem dL_law_321 : decode cL_law 321 = .ok (.aload_n 2, 1) := by decide +kernel
theorem dL_law_322 : decode cL_law 322 = .ok (.aload_n 0, 1) := by decide +kernel
theorem dL_law_323 : decode cL_law 323 = .ok (.iload_n 3, 1) := by decide +kernel
theorem dL_law_324 : decode cL_law 324 = .ok (.iconst 1, 1) := by decide +kernel
theorem dL_law_325 : decode cL_law 325 = .ok (.iadd, 1) := by decide +kernel
theorem dL_law_326 : decode cL_law 326 = .ok (.iaload, 1) := by decide +kernel
theorem dL_law_327 : decode cL_law 327 = .ok (.aload_n 0, 1) := by decide +kernel
theorem dL_law_328 : decode cL_law 328 = .ok (.iload_n 3, 1) := by decide +kernel
theorem dL_law_329 : decode cL_law 329 = .ok (.iconst 2, 1) := by decide +kernel
theorem dL_law_330 : decode cL_law 330 = .ok (.iadd, 1) := by decide +kernel
theorem dL_law_331 : decode cL_law 331 = .ok (.iaload, 1) := by decide +kernel
theorem dL_law_332 : decode cL_law 332 = .ok (.invokevirtual 47, 3) := by decide +kernel
theorem dL_law_335 : decode cL_law 335 = .ok (.if_icmp .eq 489, 3) := by decide +kernel
theorem dL_law_338 : decode cL_law 338 = .ok (.iconst 0, 1) := by decide +kernel
theorem dL_law_339 : decode cL_law 339 = .ok (.ireturn, 1) := by decide +kernel
theorem dL_law_340 : decode cL_law 340 = .ok (.aload_n 1, 1) := by decide +kernel
theorem dL_law_341 : decode cL_law 341 = .ok (.aload_n 0, 1) := by decide +kernel
theorem dL_law_342 : decode cL_law 342 = .ok (.iload_n 3, 1) := by decide +kernel
theorem dL_law_343 : decode cL_law 343 = .ok (.iconst 1, 1) := by decide +kernel
theorem dL_law_344 : decode cL_law 344 = .ok (.iadd, 1) := by decide +kernel
theorem dL_law_345 : decode cL_law 345 = .ok (.iaload, 1) := by decide +kernel
theorem dL_law_346 : decode cL_law 346 = .ok (.aload_n 0, 1) := by decide +kernel
theorem dL_law_347 : decode cL_law 347 = .ok (.iload_n 3, 1) := by decide +kernel
theorem dL_law_348 : decode cL_law 348 = .ok (.iconst 2, 1) := by decide +kernel
theorem dL_law_349 : decode cL_law 349 = .ok (.iadd, 1) := by decide +kernel
theorem dL_law_350 : decode cL_law 350 = .ok (.iaload, 1) := by decide +kernel
theorem dL_law_351 : decode cL_law 351 = .ok (.invokevirtual 48, 3) := by decide +kernel
theorem dL_law_354 : decode cL_law 354 = .ok (.aload_n 2, 1) := by decide +kernel
theorem dL_law_355 : decode cL_law 355 = .ok (.aload_n 0, 1) := by decide +kernel
theorem dL_law_356 : decode cL_law 356 = .ok (.iload_n 3, 1) := by decide +kernel
theorem dL_law_357 : decode cL_law 357 = .ok (.iconst 1, 1) := by decide +kernel
theorem dL_law_358 : decode cL_law 358 = .ok (.iadd, 1) := by decide +kernel
theorem dL_law_359 : decode cL_law 359 = .ok (.iaload, 1) := by decide +kernel
theorem dL_law_360 : decode cL_law 360 = .ok (.aload_n 0, 1) := by decide +kernel
theorem dL_law_361 : decode cL_law 361 = .ok (.iload_n 3, 1) := by decide +kernel
theorem dL_law_362 : decode cL_law 362 = .ok (.iconst 2, 1) := by decide +kernel
theorem dL_law_363 : decode cL_law 363 = .ok (.iadd, 1) := by decide +kernel
theorem dL_law_364 : decode cL_law 364 = .ok (.iaload, 1) := by decide +kernel
theorem dL_law_365 : decode cL_law 365 = .ok (.invokevirtual 51, 3) := by decide +kernel
theorem dL_law_368 : decode cL_law 368 = .ok (.if_icmp .eq 456, 3) := by decide +kernel
theorem dL_law_371 : decode cL_law 371 = .ok (.iconst 0, 1) := by decide +kernel
theorem dL_law_372 : decode cL_law 372 = .ok (.ireturn, 1) := by decide +kernel
theorem dL_law_373 : decode cL_law 373 = .ok (.aload_n 1, 1) := by decide +kernel
theorem dL_law_374 : decode cL_law 374 = .ok (.aload_n 0, 1) := by decide +kernel
theorem dL_law_375 : decode cL_law 375 = .ok (.iload_n 3, 1) := by decide +kernel
theorem dL_law_376 : decode cL_law 376 = .ok (.iconst 1, 1) := by decide +kernel
theorem dL_law_377 : decode cL_law 377 = .ok (.iadd, 1) := by decide +kernel
theorem dL_law_378 : decode cL_law 378 = .ok (.iaload, 1) := by decide +kernel
theorem dL_law_379 : decode cL_law 379 = .ok (.aload_n 0, 1) := by decide +kernel
theorem dL_law_380 : decode cL_law 380 = .ok (.iload_n 3, 1) := by decide +kernel
theorem dL_law_381 : decode cL_law 381 = .ok (.iconst 2, 1) := by decide +kernel
theorem dL_law_382 : decode cL_law 382 = .ok (.iadd, 1) := by decide +kernel
theorem dL_law_383 : decode cL_law 383 = .ok (.iaload, 1) := by decide +kernel
theorem dL_law_384 : decode cL_law 384 = .ok (.invokevirtual 52, 3) := by decide +kernel
theorem dL_law_387 : decode cL_law 387 = .ok (.aload_n 2, 1) := by decide +kernel
theorem dL_law_388 : decode cL_law 388 = .ok (.aload_n 0, 1) := by decide +kernel
theorem dL_law_389 : decode cL_law 389 = .ok (.iload_n 3, 1) := by decide +kernel
theorem dL_law_390 : decode cL_law 390 = .ok (.iconst 1, 1) := by decide +kernel
theorem dL_law_391 : decode cL_law 391 = .ok (.iadd, 1) := by decide +kernel
theorem dL_law_392 : decode cL_law 392 = .ok (.iaload, 1) := by decide +kernel
theorem dL_law_393 : decode cL_law 393 = .ok (.aload_n 0, 1) := by decide +kernel
theorem dL_law_394 : decode cL_law 394 = .ok (.iload_n 3, 1) := by decide +kernel
theorem dL_law_395 : decode cL_law 395 = .ok (.iconst 2, 1) := by decide +kernel
theorem dL_law_396 : decode cL_law 396 = .ok (.iadd, 1) := by decide +kernel
theorem dL_law_397 : decode cL_law 397 = .ok (.iaload, 1) := by decide +kernel
theorem dL_law_398 : decode cL_law 398 = .ok (.invokevirtual 55, 3) := by decide +kernel
theorem dL_law_401 : decode cL_law 401 = .ok (.if_icmp .eq 423, 3) := by decide +kernel
theorem dL_law_404 : decode cL_law 404 = .ok (.iconst 0, 1) := by decide +kernel
theorem dL_law_405 : decode cL_law 405 = .ok (.ireturn, 1) := by decide +kernel
theorem dL_law_406 : decode cL_law 406 = .ok (.aload_n 1, 1) := by decide +kernel
theorem dL_law_407 : decode cL_law 407 = .ok (.aload_n 0, 1) := by decide +kernel
theorem dL_law_408 : decode cL_law 408 = .ok (.iload_n 3, 1) := by decide +kernel
theorem dL_law_409 : decode cL_law 409 = .ok (.iconst 1, 1) := by decide +kernel
theorem dL_law_410 : decode cL_law 410 = .ok (.iadd, 1) := by decide +kernel
theorem dL_law_411 : decode cL_law 411 = .ok (.iaload, 1) := by decide +kernel
theorem dL_law_412 : decode cL_law 412 = .ok (.aload_n 0, 1) := by decide +kernel
theorem dL_law_413 : decode cL_law 413 = .ok (.iload_n 3, 1) := by decide +kernel
theorem dL_law_414 : decode cL_law 414 = .ok (.iconst 2, 1) := by decide +kernel
theorem dL_law_415 : decode cL_law 415 = .ok (.iadd, 1) := by decide +kernel
theorem dL_law_416 : decode cL_law 416 = .ok (.iaload, 1) := by decide +kernel
theorem dL_law_417 : decode cL_law 417 = .ok (.invokevirtual 56, 3) := by decide +kernel
theorem dL_law_420 : decode cL_law 420 = .ok (.aload_n 2, 1) := by decide +kernel
theorem dL_law_421 : decode cL_law 421 = .ok (.aload_n 0, 1) := by decide +kernel
theorem dL_law_422 : decode cL_law 422 = .ok (.iload_n 3, 1) := by decide +kernel
theorem dL_law_423 : decode cL_law 423 = .ok (.iconst 1, 1) := by decide +kernel
theorem dL_law_424 : decode cL_law 424 = .ok (.iadd, 1) := by decide +kernel
theorem dL_law_425 : decode cL_law 425 = .ok (.iaload, 1) := by decide +kernel
theorem dL_law_426 : decode cL_law 426 = .ok (.aload_n 0, 1) := by decide +kernel
theorem dL_law_427 : decode cL_law 427 = .ok (.iload_n 3, 1) := by decide +kernel
theorem dL_law_428 : decode cL_law 428 = .ok (.iconst 2, 1) := by decide +kernel
theorem dL_law_429 : decode cL_law 429 = .ok (.iadd, 1) := by decide +kernel
theorem dL_law_430 : decode cL_law 430 = .ok (.iaload, 1) := by decide +kernel
theorem dL_law_431 : decode cL_law 431 = .ok (.invokevirtual 59, 3) := by decide +kernel
theorem dL_law_434 : decode cL_law 434 = .ok (.if_icmp .eq 390, 3) := by decide +kernel
theorem dL_law_437 : decode cL_law 437 = .ok (.iconst 0, 1) := by decide +kernel
theorem dL_law_438 : decode cL_law 438 = .ok (.ireturn, 1) := by decide +kernel
theorem dL_law_439 : decode cL_law 439 = .ok (.aload_n 1, 1) := by decide +kernel
theorem dL_law_440 : decode cL_law 440 = .ok (.aload_n 0, 1) := by decide +kernel
theorem dL_law_441 : decode cL_law 441 = .ok (.iload_n 3, 1) := by decide +kernel
theorem dL_law_442 : decode cL_law 442 = .ok (.iconst 1, 1) := by decide +kernel
theorem dL_law_443 : decode cL_law 443 = .ok (.iadd, 1) := by decide +kernel
theorem dL_law_444 : decode cL_law 444 = .ok (.iaload, 1) := by decide +kernel
theorem dL_law_445 : decode cL_law 445 = .ok (.invokevirtual 60, 3) := by decide +kernel
theorem dL_law_448 : decode cL_law 448 = .ok (.aload_n 2, 1) := by decide +kernel
theorem dL_law_449 : decode cL_law 449 = .ok (.aload_n 0, 1) := by decide +kernel
theorem dL_law_450 : decode cL_law 450 = .ok (.iload_n 3, 1) := by decide +kernel
theorem dL_law_451 : decode cL_law 451 = .ok (.iconst 1, 1) := by decide +kernel
theorem dL_law_452 : decode cL_law 452 = .ok (.iadd, 1) := by decide +kernel
theorem dL_law_453 : decode cL_law 453 = .ok (.iaload, 1) := by decide +kernel
theorem dL_law_454 : decode cL_law 454 = .ok (.invokevirtual 63, 3) := by decide +kernel
theorem dL_law_457 : decode cL_law 457 = .ok (.if_icmp .eq 367, 3) := by decide +kernel
theorem dL_law_460 : decode cL_law 460 = .ok (.iconst 0, 1) := by decide +kernel
theorem dL_law_461 : decode cL_law 461 = .ok (.ireturn, 1) := by decide +kernel
theorem dL_law_462 : decode cL_law 462 = .ok (.aload_n 1, 1) := by decide +kernel
theorem dL_law_463 : decode cL_law 463 = .ok (.aload_n 0, 1) := by decide +kernel
theorem dL_law_464 : decode cL_law 464 = .ok (.iload_n 3, 1) := by decide +kernel
theorem dL_law_465 : decode cL_law 465 = .ok (.iconst 1, 1) := by decide +kernel
theorem dL_law_466 : decode cL_law 466 = .ok (.iadd, 1) := by decide +kernel
theorem dL_law_467 : decode cL_law 467 = .ok (.iaload, 1) := by decide +kernel
theorem dL_law_468 : decode cL_law 468 = .ok (.aload_n 0, 1) := by decide +kernel
theorem dL_law_469 : decode cL_law 469 = .ok (.iload_n 3, 1) := by decide +kernel
theorem dL_law_470 : decode cL_law 470 = .ok (.iconst 2, 1) := by decide +kernel
theorem dL_law_471 : decode cL_law 471 = .ok (.iadd, 1) := by decide +kernel
theorem dL_law_472 : decode cL_law 472 = .ok (.iaload, 1) := by decide +kernel
theorem dL_law_473 : decode cL_law 473 = .ok (.aload_n 0, 1) := by decide +kernel
theorem dL_law_474 : decode cL_law 474 = .ok (.iload_n 3, 1) := by decide +kernel
theorem dL_law_475 : decode cL_law 475 = .ok (.iconst 3, 1) := by decide +kernel
theorem dL_law_476 : decode cL_law 476 = .ok (.iadd, 1) := by decide +kernel
theorem dL_law_477 : decode cL_law 477 = .ok (.iaload, 1) := by decide +kernel
theorem dL_law_478 : decode cL_law 478 = .ok (.invokevirtual 64, 3) := by decide +kernel
theorem dL_law_481 : decode cL_law 481 = .ok (.aload_n 2, 1) := by decide +kernel
theorem dL_law_482 : decode cL_law 482 = .ok (.aload_n 0, 1) := by decide +kernel
theorem dL_law_483 : decode cL_law 483 = .ok (.iload_n 3, 1) := by decide +kernel
theorem dL_law_484 : decode cL_law 484 = .ok (.iconst 1, 1) := by decide +kernel
theorem dL_law_485 : decode cL_law 485 = .ok (.iadd, 1) := by decide +kernel
theorem dL_law_486 : decode cL_law 486 = .ok (.iaload, 1) := by decide +kernel
theorem dL_law_487 : decode cL_law 487 = .ok (.aload_n 0, 1) := by decide +kernel
theorem dL_law_488 : decode cL_law 488 = .ok (.iload_n 3, 1) := by decide +kernel
theorem dL_law_489 : decode cL_law 489 = .ok (.iconst 2, 1) := by decide +kernel
theorem dL_law_490 : decode cL_law 490 = .ok (.iadd, 1) := by decide +kernel
theorem dL_law_491 : decode cL_law 491 = .ok (.iaload, 1) := by decide +kernel
theorem dL_law_492 : decode cL_law 492 = .ok (.aload_n 0, 1) := by decide +kernel
theorem dL_law_493 : decode cL_law 493 = .ok (.iload_n 3, 1) := by decide +kernel
theorem dL_law_494 : decode cL_law 494 = .ok (.iconst 3, 1) := by decide +kernel
theorem dL_law_495 : decode cL_law 495 = .ok (.iadd, 1) := by decide +kernel
theorem dL_law_496 : decode cL_law 496 = .ok (.iaload, 1) := by decide +kernel
theorem dL_law_497 : decode cL_law 497 = .ok (.invokevirtual 68, 3) := by decide +kernel
theorem dL_law_500 : decode cL_law 500 = .ok (.if_icmp .eq 324, 3) := by decide +kernel
theorem dL_law_503 : decode cL_law 503 = .ok (.iconst 0, 1) := by decide +kernel
theorem dL_law_504 : decode cL_law 504 = .ok (.ireturn, 1) := by decide +kernel
theorem dL_law_505 : decode cL_law 505 = .ok (.aload_n 1, 1) := by decide +kernel
theorem dL_law_506 : decode cL_law 506 = .ok (.aload_n 0, 1) := by decide +kernel
theorem dL_law_507 : decode cL_law 507 = .ok (.iload_n 3, 1) := by decide +kernel
theorem dL_law_508 : decode cL_law 508 = .ok (.iconst 1, 1) := by decide +kernel
theorem dL_law_509 : decode cL_law 509 = .ok (.iadd, 1) := by decide +kernel
theorem dL_law_510 : decode cL_law 510 = .ok (.iaload, 1) := by decide +kernel
theorem dL_law_511 : decode cL_law 511 = .ok (.aload_n 0, 1) := by decide +kernel
theorem dL_law_512 : decode cL_law 512 = .ok (.iload_n 3, 1) := by decide +kernel
theorem dL_law_513 : decode cL_law 513 = .ok (.iconst 2, 1) := by decide +kernel
theorem dL_law_514 : decode cL_law 514 = .ok (.iadd, 1) := by decide +kernel
theorem dL_law_515 : decode cL_law 515 = .ok (.iaload, 1) := by decide +kernel
theorem dL_law_516 : decode cL_law 516 = .ok (.invokevirtual 69, 3) := by decide +kernel
theorem dL_law_519 : decode cL_law 519 = .ok (.aload_n 2, 1) := by decide +kernel
theorem dL_law_520 : decode cL_law 520 = .ok (.aload_n 0, 1) := by decide +kernel
theorem dL_law_521 : decode cL_law 521 = .ok (.iload_n 3, 1) := by decide +kernel
theorem dL_law_522 : decode cL_law 522 = .ok (.iconst 1, 1) := by decide +kernel
theorem dL_law_523 : decode cL_law 523 = .ok (.iadd, 1) := by decide +kernel
theorem dL_law_524 : decode cL_law 524 = .ok (.iaload, 1) := by decide +kernel
theorem dL_law_525 : decode cL_law 525 = .ok (.aload_n 0, 1) := by decide +kernel
theorem dL_law_526 : decode cL_law 526 = .ok (.iload_n 3, 1) := by decide +kernel
theorem dL_law_527 : decode cL_law 527 = .ok (.iconst 2, 1) := by decide +kernel
theorem dL_law_528 : decode cL_law 528 = .ok (.iadd, 1) := by decide +kernel
theorem dL_law_529 : decode cL_law 529 = .ok (.iaload, 1) := by decide +kernel
theorem dL_law_530 : decode cL_law 530 = .ok (.invokevirtual 72, 3) := by decide +kernel
theorem dL_law_533 : decode cL_law 533 = .ok (.if_icmp .eq 291, 3) := by decide +kernel
theorem dL_law_536 : decode cL_law 536 = .ok (.iconst 0, 1) := by decide +kernel
theorem dL_law_537 : decode cL_law 537 = .ok (.ireturn, 1) := by decide +kernel
theorem dL_law_538 : decode cL_law 538 = .ok (.aload_n 1, 1) := by decide +kernel
theorem dL_law_539 : decode cL_law 539 = .ok (.aload_n 0, 1) := by decide +kernel
theorem dL_law_540 : decode cL_law 540 = .ok (.iload_n 3, 1) := by decide +kernel
theorem dL_law_541 : decode cL_law 541 = .ok (.iconst 1, 1) := by decide +kernel
theorem dL_law_542 : decode cL_law 542 = .ok (.iadd, 1) := by decide +kernel
theorem dL_law_543 : decode cL_law 543 = .ok (.iaload, 1) := by decide +kernel
theorem dL_law_544 : decode cL_law 544 = .ok (.invokevirtual 73, 3) := by decide +kernel
theorem dL_law_547 : decode cL_law 547 = .ok (.aload_n 2, 1) := by decide +kernel
theorem dL_law_548 : decode cL_law 548 = .ok (.aload_n 0, 1) := by decide +kernel
theorem dL_law_549 : decode cL_law 549 = .ok (.iload_n 3, 1) := by decide +kernel
theorem dL_law_550 : decode cL_law 550 = .ok (.iconst 1, 1) := by decide +kernel
theorem dL_law_551 : decode cL_law 551 = .ok (.iadd, 1) := by decide +kernel
theorem dL_law_552 : decode cL_law 552 = .ok (.iaload, 1) := by decide +kernel
theorem dL_law_553 : decode cL_law 553 = .ok (.invokevirtual 76, 3) := by decide +kernel
theorem dL_law_556 : decode cL_law 556 = .ok (.if_icmp .eq 268, 3) := by decide +kernel
theorem dL_law_559 : decode cL_law 559 = .ok (.iconst 0, 1) := by decide +kernel
theorem dL_law_560 : decode cL_law 560 = .ok (.ireturn, 1) := by decide +kernel
theorem dL_law_561 : decode cL_law 561 = .ok (.aload_n 1, 1) := by decide +kernel
theorem dL_law_562 : decode cL_law 562 = .ok (.aload_n 0, 1) := by decide +kernel
theorem dL_law_563 : decode cL_law 563 = .ok (.iload_n 3, 1) := by decide +kernel
theorem dL_law_564 : decode cL_law 564 = .ok (.iconst 1, 1) := by decide +kernel
theorem dL_law_565 : decode cL_law 565 = .ok (.iadd, 1) := by decide +kernel
theorem dL_law_566 : decode cL_law 566 = .ok (.iaload, 1) := by decide +kernel
theorem dL_law_567 : decode cL_law 567 = .ok (.invokevirtual 77, 3) := by decide +kernel
theorem dL_law_570 : decode cL_law 570 = .ok (.aload_n 2, 1) := by decide +kernel
theorem dL_law_571 : decode cL_law 571 = .ok (.aload_n 0, 1) := by decide +kernel
theorem dL_law_572 : decode cL_law 572 = .ok (.iload_n 3, 1) := by decide +kernel
theorem dL_law_573 : decode cL_law 573 = .ok (.iconst 1, 1) := by decide +kernel
theorem dL_law_574 : decode cL_law 574 = .ok (.iadd, 1) := by decide +kernel
theorem dL_law_575 : decode cL_law 575 = .ok (.iaload, 1) := by decide +kernel
theorem dL_law_576 : decode cL_law 576 = .ok (.invokevirtual 80, 3) := by decide +kernel
theorem dL_law_579 : decode cL_law 579 = .ok (.if_icmp .eq 245, 3) := by decide +kernel
theorem dL_law_582 : decode cL_law 582 = .ok (.iconst 0, 1) := by decide +kernel
theorem dL_law_583 : decode cL_law 583 = .ok (.ireturn, 1) := by decide +kernel
theorem dL_law_584 : decode cL_law 584 = .ok (.aload_n 1, 1) := by decide +kernel
theorem dL_law_585 : decode cL_law 585 = .ok (.aload_n 0, 1) := by decide +kernel
theorem dL_law_586 : decode cL_law 586 = .ok (.iload_n 3, 1) := by decide +kernel
theorem dL_law_587 : decode cL_law 587 = .ok (.iconst 1, 1) := by decide +kernel
theorem dL_law_588 : decode cL_law 588 = .ok (.iadd, 1) := by decide +kernel
theorem dL_law_589 : decode cL_law 589 = .ok (.iaload, 1) := by decide +kernel
theorem dL_law_590 : decode cL_law 590 = .ok (.invokevirtual 81, 3) := by decide +kernel
theorem dL_law_593 : decode cL_law 593 = .ok (.aload_n 2, 1) := by decide +kernel
theorem dL_law_594 : decode cL_law 594 = .ok (.aload_n 0, 1) := by decide +kernel
theorem dL_law_595 : decode cL_law 595 = .ok (.iload_n 3, 1) := by decide +kernel
theorem dL_law_596 : decode cL_law 596 = .ok (.iconst 1, 1) := by decide +kernel
theorem dL_law_597 : decode cL_law 597 = .ok (.iadd, 1) := by decide +kernel
theorem dL_law_598 : decode cL_law 598 = .ok (.iaload, 1) := by decide +kernel
theorem dL_law_599 : decode cL_law 599 = .ok (.invokevirtual 84, 3) := by decide +kernel
theorem dL_law_602 : decode cL_law 602 = .ok (.if_icmp .eq 222, 3) := by decide +kernel
theorem dL_law_605 : decode cL_law 605 = .ok (.iconst 0, 1) := by decide +kernel
theorem dL_law_606 : decode cL_law 606 = .ok (.ireturn, 1) := by decide +kernel
theorem dL_law_607 : decode cL_law 607 = .ok (.aload_n 1, 1) := by decide +kernel
theorem dL_law_608 : decode cL_law 608 = .ok (.invokevirtual 85, 3) := by decide +kernel
theorem dL_law_611 : decode cL_law 611 = .ok (.aload_n 2, 1) := by decide +kernel
theorem dL_law_612 : decode cL_law 612 = .ok (.invokevirtual 88, 3) := by decide +kernel
theorem dL_law_615 : decode cL_law 615 = .ok (.if_icmp .eq 209, 3) := by decide +kernel
theorem dL_law_618 : decode cL_law 618 = .ok (.iconst 0, 1) := by decide +kernel
theorem dL_law_619 : decode cL_law 619 = .ok (.ireturn, 1) := by decide +kernel
theorem dL_law_620 : decode cL_law 620 = .ok (.aload_n 1, 1) := by decide +kernel
theorem dL_law_621 : decode cL_law 621 = .ok (.invokevirtual 89, 3) := by decide +kernel
theorem dL_law_624 : decode cL_law 624 = .ok (.aload_n 2, 1) := by decide +kernel
theorem dL_law_625 : decode cL_law 625 = .ok (.invokevirtual 92, 3) := by decide +kernel
theorem dL_law_628 : decode cL_law 628 = .ok (.if_icmp .eq 196, 3) := by decide +kernel
theorem dL_law_631 : decode cL_law 631 = .ok (.iconst 0, 1) := by decide +kernel
theorem dL_law_632 : decode cL_law 632 = .ok (.ireturn, 1) := by decide +kernel
theorem dL_law_633 : decode cL_law 633 = .ok (.aload_n 1, 1) := by decide +kernel
theorem dL_law_634 : decode cL_law 634 = .ok (.invokevirtual 93, 3) := by decide +kernel
theorem dL_law_637 : decode cL_law 637 = .ok (.aload_n 2, 1) := by decide +kernel
theorem dL_law_638 : decode cL_law 638 = .ok (.invokevirtual 96, 3) := by decide +kernel
theorem dL_law_641 : decode cL_law 641 = .ok (.if_icmp .eq 183, 3) := by decide +kernel
theorem dL_law_644 : decode cL_law 644 = .ok (.iconst 0, 1) := by decide +kernel
theorem dL_law_645 : decode cL_law 645 = .ok (.ireturn, 1) := by decide +kernel
theorem dL_law_646 : decode cL_law 646 = .ok (.aload_n 1, 1) := by decide +kernel
theorem dL_law_647 : decode cL_law 647 = .ok (.aload_n 0, 1) := by decide +kernel
theorem dL_law_648 : decode cL_law 648 = .ok (.iload_n 3, 1) := by decide +kernel
theorem dL_law_649 : decode cL_law 649 = .ok (.iconst 1, 1) := by decide +kernel
theorem dL_law_650 : decode cL_law 650 = .ok (.iadd, 1) := by decide +kernel
theorem dL_law_651 : decode cL_law 651 = .ok (.iaload, 1) := by decide +kernel
theorem dL_law_652 : decode cL_law 652 = .ok (.aload_n 0, 1) := by decide +kernel
theorem dL_law_653 : decode cL_law 653 = .ok (.iload_n 3, 1) := by decide +kernel
theorem dL_law_654 : decode cL_law 654 = .ok (.iconst 2, 1) := by decide +kernel
theorem dL_law_655 : decode cL_law 655 = .ok (.iadd, 1) := by decide +kernel
theorem dL_law_656 : decode cL_law 656 = .ok (.iaload, 1) := by decide +kernel
theorem dL_law_657 : decode cL_law 657 = .ok (.aload_n 0, 1) := by decide +kernel
theorem dL_law_658 : decode cL_law 658 = .ok (.iload_n 3, 1) := by decide +kernel
theorem dL_law_659 : decode cL_law 659 = .ok (.iconst 3, 1) := by decide +kernel
theorem dL_law_660 : decode cL_law 660 = .ok (.iadd, 1) := by decide +kernel
theorem dL_law_661 : decode cL_law 661 = .ok (.iaload, 1) := by decide +kernel
theorem dL_law_662 : decode cL_law 662 = .ok (.ifCond .eq 7, 3) := by decide +kernel
theorem dL_law_665 : decode cL_law 665 = .ok (.iconst 1, 1) := by decide +kernel
theorem dL_law_666 : decode cL_law 666 = .ok (.goto 4, 3) := by decide +kernel
theorem dL_law_669 : decode cL_law 669 = .ok (.iconst 0, 1) := by decide +kernel
theorem dL_law_670 : decode cL_law 670 = .ok (.invokevirtual 97, 3) := by decide +kernel
theorem dL_law_673 : decode cL_law 673 = .ok (.aload_n 2, 1) := by decide +kernel
theorem dL_law_674 : decode cL_law 674 = .ok (.aload_n 0, 1) := by decide +kernel
theorem dL_law_675 : decode cL_law 675 = .ok (.iload_n 3, 1) := by decide +kernel
theorem dL_law_676 : decode cL_law 676 = .ok (.iconst 1, 1) := by decide +kernel
theorem dL_law_677 : decode cL_law 677 = .ok (.iadd, 1) := by decide +kernel
theorem dL_law_678 : decode cL_law 678 = .ok (.iaload, 1) := by decide +kernel
theorem dL_law_679 : decode cL_law 679 = .ok (.aload_n 0, 1) := by decide +kernel
theorem dL_law_680 : decode cL_law 680 = .ok (.iload_n 3, 1) := by decide +kernel
theorem dL_law_681 : decode cL_law 681 = .ok (.iconst 2, 1) := by decide +kernel
theorem dL_law_682 : decode cL_law 682 = .ok (.iadd, 1) := by decide +kernel
theorem dL_law_683 : decode cL_law 683 = .ok (.iaload, 1) := by decide +kernel
theorem dL_law_684 : decode cL_law 684 = .ok (.aload_n 0, 1) := by decide +kernel
theorem dL_law_685 : decode cL_law 685 = .ok (.iload_n 3, 1) := by decide +kernel
theorem dL_law_686 : decode cL_law 686 = .ok (.iconst 3, 1) := by decide +kernel
theorem dL_law_687 : decode cL_law 687 = .ok (.iadd, 1) := by decide +kernel
theorem dL_law_688 : decode cL_law 688 = .ok (.iaload, 1) := by decide +kernel
theorem dL_law_689 : decode cL_law 689 = .ok (.ifCond .eq 7, 3) := by decide +kernel
theorem dL_law_692 : decode cL_law 692 = .ok (.iconst 1, 1) := by decide +kernel
theorem dL_law_693 : decode cL_law 693 = .ok (.goto 4, 3) := by decide +kernel
theorem dL_law_696 : decode cL_law 696 = .ok (.iconst 0, 1) := by decide +kernel
theorem dL_law_697 : decode cL_law 697 = .ok (.invokevirtual 101, 3) := by decide +kernel
theorem dL_law_700 : decode cL_law 700 = .ok (.if_icmp .eq 124, 3) := by decide +kernel
theorem dL_law_703 : decode cL_law 703 = .ok (.iconst 0, 1) := by decide +kernel
theorem dL_law_704 : decode cL_law 704 = .ok (.ireturn, 1) := by decide +kernel
theorem dL_law_705 : decode cL_law 705 = .ok (.aload_n 1, 1) := by decide +kernel
theorem dL_law_706 : decode cL_law 706 = .ok (.invokevirtual 102, 3) := by decide +kernel
theorem dL_law_709 : decode cL_law 709 = .ok (.aload_n 2, 1) := by decide +kernel
theorem dL_law_710 : decode cL_law 710 = .ok (.invokevirtual 105, 3) := by decide +kernel
theorem dL_law_713 : decode cL_law 713 = .ok (.if_icmp .eq 111, 3) := by decide +kernel
theorem dL_law_716 : decode cL_law 716 = .ok (.iconst 0, 1) := by decide +kernel
theorem dL_law_717 : decode cL_law 717 = .ok (.ireturn, 1) := by decide +kernel
theorem dL_law_718 : decode cL_law 718 = .ok (.aload_n 1, 1) := by decide +kernel
theorem dL_law_719 : decode cL_law 719 = .ok (.aload_n 0, 1) := by decide +kernel
theorem dL_law_720 : decode cL_law 720 = .ok (.iload_n 3, 1) := by decide +kernel
theorem dL_law_721 : decode cL_law 721 = .ok (.iconst 1, 1) := by decide +kernel
theorem dL_law_722 : decode cL_law 722 = .ok (.iadd, 1) := by decide +kernel
theorem dL_law_723 : decode cL_law 723 = .ok (.iaload, 1) := by decide +kernel
theorem dL_law_724 : decode cL_law 724 = .ok (.aload_n 0, 1) := by decide +kernel
theorem dL_law_725 : decode cL_law 725 = .ok (.iload_n 3, 1) := by decide +kernel
theorem dL_law_726 : decode cL_law 726 = .ok (.iconst 2, 1) := by decide +kernel
theorem dL_law_727 : decode cL_law 727 = .ok (.iadd, 1) := by decide +kernel
theorem dL_law_728 : decode cL_law 728 = .ok (.iaload, 1) := by decide +kernel
theorem dL_law_729 : decode cL_law 729 = .ok (.aload_n 0, 1) := by decide +kernel
theorem dL_law_730 : decode cL_law 730 = .ok (.iload_n 3, 1) := by decide +kernel
theorem dL_law_731 : decode cL_law 731 = .ok (.iconst 3, 1) := by decide +kernel
theorem dL_law_732 : decode cL_law 732 = .ok (.iadd, 1) := by decide +kernel
theorem dL_law_733 : decode cL_law 733 = .ok (.iaload, 1) := by decide +kernel
theorem dL_law_734 : decode cL_law 734 = .ok (.invokevirtual 106, 3) := by decide +kernel
theorem dL_law_737 : decode cL_law 737 = .ok (.aload_n 2, 1) := by decide +kernel
theorem dL_law_738 : decode cL_law 738 = .ok (.aload_n 0, 1) := by decide +kernel
theorem dL_law_739 : decode cL_law 739 = .ok (.iload_n 3, 1) := by decide +kernel
theorem dL_law_740 : decode cL_law 740 = .ok (.iconst 1, 1) := by decide +kernel
theorem dL_law_741 : decode cL_law 741 = .ok (.iadd, 1) := by decide +kernel
theorem dL_law_742 : decode cL_law 742 = .ok (.iaload, 1) := by decide +kernel
theorem dL_law_743 : decode cL_law 743 = .ok (.aload_n 0, 1) := by decide +kernel
theorem dL_law_744 : decode cL_law 744 = .ok (.iload_n 3, 1) := by decide +kernel
theorem dL_law_745 : decode cL_law 745 = .ok (.iconst 2, 1) := by decide +kernel
theorem dL_law_746 : decode cL_law 746 = .ok (.iadd, 1) := by decide +kernel
theorem dL_law_747 : decode cL_law 747 = .ok (.iaload, 1) := by decide +kernel
theorem dL_law_748 : decode cL_law 748 = .ok (.aload_n 0, 1) := by decide +kernel
theorem dL_law_749 : decode cL_law 749 = .ok (.iload_n 3, 1) := by decide +kernel
theorem dL_law_750 : decode cL_law 750 = .ok (.iconst 3, 1) := by decide +kernel
theorem dL_law_751 : decode cL_law 751 = .ok (.iadd, 1) := by decide +kernel
theorem dL_law_752 : decode cL_law 752 = .ok (.iaload, 1) := by decide +kernel
theorem dL_law_753 : decode cL_law 753 = .ok (.invokevirtual 109, 3) := by decide +kernel
theorem dL_law_756 : decode cL_law 756 = .ok (.if_icmp .eq 68, 3) := by decide +kernel
theorem dL_law_759 : decode cL_law 759 = .ok (.iconst 0, 1) := by decide +kernel
theorem dL_law_760 : decode cL_law 760 = .ok (.ireturn, 1) := by decide +kernel
theorem dL_law_761 : decode cL_law 761 = .ok (.aload_n 1, 1) := by decide +kernel
theorem dL_law_762 : decode cL_law 762 = .ok (.invokevirtual 110, 3) := by decide +kernel
theorem dL_law_765 : decode cL_law 765 = .ok (.aload_n 2, 1) := by decide +kernel
theorem dL_law_766 : decode cL_law 766 = .ok (.invokevirtual 113, 3) := by decide +kernel
theorem dL_law_769 : decode cL_law 769 = .ok (.if_icmp .eq 55, 3) := by decide +kernel
theorem dL_law_772 : decode cL_law 772 = .ok (.iconst 0, 1) := by decide +kernel
theorem dL_law_773 : decode cL_law 773 = .ok (.ireturn, 1) := by decide +kernel
theorem dL_law_774 : decode cL_law 774 = .ok (.aload_n 1, 1) := by decide +kernel
theorem dL_law_775 : decode cL_law 775 = .ok (.invokevirtual 114, 3) := by decide +kernel
theorem dL_law_778 : decode cL_law 778 = .ok (.aload_n 2, 1) := by decide +kernel
theorem dL_law_779 : decode cL_law 779 = .ok (.invokevirtual 117, 3) := by decide +kernel
theorem dL_law_782 : decode cL_law 782 = .ok (.if_icmp .eq 42, 3) := by decide +kernel
theorem dL_law_785 : decode cL_law 785 = .ok (.iconst 0, 1) := by decide +kernel
theorem dL_law_786 : decode cL_law 786 = .ok (.ireturn, 1) := by decide +kernel
theorem dL_law_787 : decode cL_law 787 = .ok (.aload_n 1, 1) := by decide +kernel
theorem dL_law_788 : decode cL_law 788 = .ok (.aload_n 0, 1) := by decide +kernel
theorem dL_law_789 : decode cL_law 789 = .ok (.iload_n 3, 1) := by decide +kernel
theorem dL_law_790 : decode cL_law 790 = .ok (.iconst 1, 1) := by decide +kernel
theorem dL_law_791 : decode cL_law 791 = .ok (.iadd, 1) := by decide +kernel
theorem dL_law_792 : decode cL_law 792 = .ok (.iaload, 1) := by decide +kernel
theorem dL_law_793 : decode cL_law 793 = .ok (.invokevirtual 118, 3) := by decide +kernel
theorem dL_law_796 : decode cL_law 796 = .ok (.aload_n 2, 1) := by decide +kernel
theorem dL_law_797 : decode cL_law 797 = .ok (.aload_n 0, 1) := by decide +kernel
theorem dL_law_798 : decode cL_law 798 = .ok (.iload_n 3, 1) := by decide +kernel
theorem dL_law_799 : decode cL_law 799 = .ok (.iconst 1, 1) := by decide +kernel
theorem dL_law_800 : decode cL_law 800 = .ok (.iadd, 1) := by decide +kernel
theorem dL_law_801 : decode cL_law 801 = .ok (.iaload, 1) := by decide +kernel
theorem dL_law_802 : decode cL_law 802 = .ok (.invokevirtual 121, 3) := by decide +kernel
theorem dL_law_805 : decode cL_law 805 = .ok (.if_icmp .eq 19, 3) := by decide +kernel
theorem dL_law_808 : decode cL_law 808 = .ok (.iconst 0, 1) := by decide +kernel
theorem dL_law_809 : decode cL_law 809 = .ok (.ireturn, 1) := by decide +kernel
theorem dL_law_810 : decode cL_law 810 = .ok (.aload_n 1, 1) := by decide +kernel
theorem dL_law_811 : decode cL_law 811 = .ok (.invokevirtual 122, 3) := by decide +kernel
theorem dL_law_814 : decode cL_law 814 = .ok (.aload_n 2, 1) := by decide +kernel
theorem dL_law_815 : decode cL_law 815 = .ok (.invokevirtual 126, 3) := by decide +kernel
theorem dL_law_818 : decode cL_law 818 = .ok (.lcmp, 1) := by decide +kernel
theorem dL_law_819 : decode cL_law 819 = .ok (.ifCond .eq 5, 3) := by decide +kernel
theorem dL_law_822 : decode cL_law 822 = .ok (.iconst 0, 1) := by decide +kernel
theorem dL_law_823 : decode cL_law 823 = .ok (.ireturn, 1) := by decide +kernel
theorem dL_law_824 : decode cL_law 824 = .ok (.iinc 3 4, 3) := by decide +kernel
theorem dL_law_827 : decode cL_law 827 = .ok (.goto (-809), 3) := by decide +kernel
theorem dL_law_830 : decode cL_law 830 = .ok (.iconst 1, 1) := by decide +kernel
theorem dL_law_831 : decode cL_law 831 = .ok (.ireturn, 1) := by decide +kernel
end
section
-- THE WORDS that every contract takes: the tables' good ones
def tb : List Cond := lw_tbl.filter goodWord
theorem tb_of {w : Cond} (h : w ∈ tables_1) (hg : goodWord w = true) : w ∈ tb := List.mem_filter.mpr ⟨List.mem_append_right _ h, hg⟩
theorem tb1 {w : Cond} (i : Nat) (h : tables_1_1[i]? = some w) (hg : goodWord w = true) : w ∈ tb := tb_of (List.mem_append_left _ (List.mem_of_getElem? h)) hg
theorem tb2 {w : Cond} (i : Nat) (h : tables_1_2[i]? = some w) (hg : goodWord w = true) : w ∈ tb := tb_of (List.mem_append_right _ (List.mem_append_left _ (List.mem_of_getElem? h))) hg
theorem tb3 {w : Cond} (i : Nat) (h : tables_1_3[i]? = some w) (hg : goodWord w = true) : w ∈ tb := tb_of (List.mem_append_right _ (List.mem_append_right _ (List.mem_append_left _ (List.mem_of_getElem? h)))) hg
theorem tb4 {w : Cond} (i : Nat) (h : tables_1_4[i]? = some w) (hg : goodWord w = true) : w ∈ tb := tb_of (List.mem_append_right _ (List.mem_append_right _ (List.mem_append_right _ (List.mem_append_left _ (List.mem_of_getElem? h))))) hg
theorem tb5 {w : Cond} (i : Nat) (h : tables_1_5[i]? = some w) (hg : goodWord w = true) : w ∈ tb := tb_of (List.mem_append_right _ (List.mem_append_right _ (List.mem_append_right _ (List.mem_append_right _ (List.mem_of_getElem? h))))) hg
theorem tbS {w : Cond} (i : Nat) (h : (k2_sels lw_privs)[i]? = some w) (hg : goodWord w = true) : w ∈ tb := List.mem_filter.mpr ⟨List.mem_append_left _ (List.mem_of_getElem? h), hg⟩
theorem tb_all {args : Array Value} {s : State} (h : ∀ w ∈ lw_tbl, w.before args s = true) : ∀ w ∈ tb, w.before args s = true := fun w hw => h w (List.mem_filter.mp hw).1
theorem tb_good {big ws : List Cond} (hb : ∀ w ∈ tb, w ∈ big) (h : ∀ w ∈ ws, w ∈ tb) : GoodIn big ws := fun w hw => ⟨hb w (h w hw), good_of_word (List.mem_filter.mp (h w hw)).2⟩
theorem tb_list {ws : List Cond} (ps : List Nat) (hp : ws = ps.filterMap (fun i => tables_1[i]?)) (hg : ws.all goodWord = true) : ∀ w ∈ ws, w ∈ tb := by
  intro w hw
  have h1 := List.all_eq_true.mp hg w hw
  rw [hp] at hw
  obtain ⟨i, -, hi⟩ := List.mem_filterMap.mp hw
  exact tb_of (List.mem_of_getElem? hi) h1
-- THE NEST'S WORDS
def isNest (w : Cond) : Bool := match w with
  | .fieldLinkNest _ _ _ _ _ _ => true
  | .methodLinkNest _ _ _ _ => true
  | _ => false
def nw : List Cond := lw_tbl.filter isNest
theorem nw_of {w : Cond} (h : w ∈ tables_1) (hg : isNest w = true) : w ∈ nw := List.mem_filter.mpr ⟨List.mem_append_right _ h, hg⟩
theorem nw1 {w : Cond} (i : Nat) (h : tables_1_1[i]? = some w) (hg : isNest w = true) : w ∈ nw := nw_of (List.mem_append_left _ (List.mem_of_getElem? h)) hg
theorem nw2 {w : Cond} (i : Nat) (h : tables_1_2[i]? = some w) (hg : isNest w = true) : w ∈ nw := nw_of (List.mem_append_right _ (List.mem_append_left _ (List.mem_of_getElem? h))) hg
theorem nw3 {w : Cond} (i : Nat) (h : tables_1_3[i]? = some w) (hg : isNest w = true) : w ∈ nw := nw_of (List.mem_append_right _ (List.mem_append_right _ (List.mem_append_left _ (List.mem_of_getElem? h)))) hg
theorem nw4 {w : Cond} (i : Nat) (h : tables_1_4[i]? = some w) (hg : isNest w = true) : w ∈ nw := nw_of (List.mem_append_right _ (List.mem_append_right _ (List.mem_append_right _ (List.mem_append_left _ (List.mem_of_getElem? h))))) hg
theorem nw5 {w : Cond} (i : Nat) (h : tables_1_5[i]? = some w) (hg : isNest w = true) : w ∈ nw := nw_of (List.mem_append_right _ (List.mem_append_right _ (List.mem_append_right _ (List.mem_append_right _ (List.mem_of_getElem? h))))) hg
theorem isNest_tab {w : Cond} (h : isNest w = true) : w.onTables = true := by
  cases w <;> first | rfl | exact absurd h Bool.false_ne_true
theorem nw_warm {w : Cond} (hg : isNest w = true) {s U : State} (hW : s.WarmedH U.vm) (h : va_Nw w s) : va_Nw w U := by
  cases w <;> first | exact va_Nw.warmF hW h | exact va_Nw.warmM hW h | exact absurd hg Bool.false_ne_true
-- WHAT ELSE a method may read: the two static rows, the text constant, a static of String
def stR (j : Nat) : Int32 := ([-1, 0, 1, 0] : List Int32).getD j 0
def stD (j : Nat) : Int32 := ([0, -1, 0, 1] : List Int32).getD j 0
def gN (h : Nat → Nat) (A : Nat → Prop) (U : State) : Prop := (∀ w ∈ nw, va_Nw w U) ∧
  (va_Z "LaneOrder" "STEPS_RIGHT" "[I" (.ref (h 1002)) A U U.heap ∧ va_T .int (h 1002) 4 (fun j => .int (stR j)) A U U.heap) ∧
  (va_Z "LaneOrder" "STEPS_DOWN" "[I" (.ref (h 1003)) A U U.heap ∧ va_T .int (h 1003) 4 (fun j => .int (stD j)) A U U.heap) ∧
  (vk_R "LaneOrder$Text" 60 "btnfc" (h 1000) U ∧ vk_S 1 [5] [[98, 116, 110, 102, 99]] (fun _ => h 1000) (fun _ => h 1001) A U U.heap) ∧
  va_Z "java/lang/String" "COMPACT_STRINGS" "Z" (.int 1) A U U.heap
theorem gN_same {h : Nat → Nat} {A : Nat → Prop} {u U : State} (hv : U.vm = u.vm) (hh : U.heap = u.heap) (hN : gN h A u) : gN h A U := by
  obtain ⟨h1, ⟨a1, b1⟩, ⟨a2, b2⟩, ⟨a3, b3⟩, a4⟩ := hN
  have al : u.vm.Alike U.vm := by rw [hv]; exact Vm.Alike.refl _
  refine ⟨fun w hw => va_Nw.same (isNest_tab (List.mem_filter.mp hw).2) hv.symm (h1 w hw), ⟨?_, ?_⟩, ⟨?_, ?_⟩, ⟨vk_R.same hv a3, ?_⟩, ?_⟩
  · rw [hh]; exact a1.moved al
  · rw [hh]; exact b1.moved al
  · rw [hh]; exact a2.moved al
  · rw [hh]; exact b2.moved al
  · rw [hh]; exact b3.moved al
  · rw [hh]; exact a4.moved al
theorem gN_to {h : Nat → Nat} {A B : Nat → Prop} {s U : State} (hN : gN h A s) (hW : s.WarmedH U.vm) (hq : ∀ a : Nat, a < s.heap.size → ¬ A a → U.heap[a]? = s.heap[a]?) (hAB : ∀ q, B q → A q) : gN h B U := by
  obtain ⟨h1, ⟨a1, b1⟩, ⟨a2, b2⟩, ⟨a3, b3⟩, a4⟩ := hN
  exact ⟨fun w hw => nw_warm (List.mem_filter.mp hw).2 hW (h1 w hw), ⟨((a1.kept hq).moved hW.alike).narrow hAB, ((b1.kept hq).moved hW.alike).narrow hAB⟩, ⟨((a2.kept hq).moved hW.alike).narrow hAB, ((b2.kept hq).moved hW.alike).narrow hAB⟩, ⟨a3.warm hW, ((b3.kept hq).moved hW.alike).narrow hAB⟩, ((a4.kept hq).moved hW.alike).narrow hAB⟩
-- THE STATE of a system of fixed cells: ints by cell and place, and one long
abbrev GS : Type := (Nat → Nat → Int32) × Int64
abbrev Shape : Type := Nat × (Nat → Nat) × (Nat → Nat) × (Nat → Nat → Nat)
def gt (st : GS) (o j : Nat) : Int32 := st.1 o j
def sv (st : GS) (o j : Nat) (v : Int32) : GS := (fun o' j' => if o' = o ∧ j' = j then v else st.1 o' j', st.2)
def gl (st : GS) : Int64 := st.2
def sl (st : GS) (v : Int64) : GS := (st.1, v)
def sc (st : GS) (a b : Nat) (sp dp n : Nat) : GS := (fun o' j' => if o' = b ∧ (dp ≤ j' ∧ j' < dp + n) then st.1 a (sp + (j' - dp)) else st.1 o' j', st.2)
def nsl (c : Nat) : Nat := match c with
  | 0 => 6 | 1 => 1 | 2 => 4 | 3 => 13 | 4 => 3 | 5 => 8 | 6 => 2 | 7 => 9 | _ => 40
def gV (h : Nat → Nat) (st : GS) (f o j : Nat) : Value := match f with
  | 0 => .int (gt st o j)
  | 1 => .long (gl st)
  | k + 2 => .ref (h k)
def gE (S : Shape) (cy : ClassId) (h : Nat → Nat) (st : GS) (o : Nat) : va_E :=
  if S.2.1 o = 9 then .inl (cy, S.2.2.1 o, .inl (fun j => gt st o j)) else .inr (S.2.1 o, (List.range (nsl (S.2.1 o))).map (fun j => gV h st (S.2.2.2 o j) o j))
def gW (S : Shape) (cy : ClassId) (h : Nat → Nat) (st : GS) : va_W := (List.range S.1).map (fun k => (h k, gE S cy h st k))
theorem gW_at {S : Shape} {cy : ClassId} {h : Nat → Nat} {st : GS} {k : Nat} (hk : k < S.1) : (gW S cy h st)[k]? = some (h k, gE S cy h st k) := by
  simp [gW, hk]
theorem gW_set {S : Shape} {cy : ClassId} {h : Nat → Nat} {st st' : GS} {k : Nat} {e : va_E} (he : gE S cy h st' k = e) (ho : ∀ j, j ≠ k → gE S cy h st' j = gE S cy h st j) : (gW S cy h st).set k (h k, e) = gW S cy h st' := by
  apply List.ext_getElem?
  intro j
  by_cases hj : j < S.1
  · rw [gW_at hj]
    by_cases hjk : j = k
    · subst hjk
      rw [List.getElem?_set_self (by simpa [gW] using hj), he]
    · rw [List.getElem?_set_ne (Ne.symm hjk), gW_at hj, ho j hjk]
  · have h1 : ∀ st0, (gW S cy h st0).length = S.1 := fun st0 => by simp [gW]
    rw [List.getElem?_eq_none (by rw [List.length_set, h1]; omega), List.getElem?_eq_none (by rw [h1]; omega)]
theorem gE_arr {S : Shape} {cy : ClassId} {h : Nat → Nat} {st : GS} {a : Nat} (hk : S.2.1 a = 9) : gE S cy h st a = .inl (cy, S.2.2.1 a, .inl (fun j => gt st a j)) := by
  unfold gE; rw [if_pos hk]
theorem gE_obj {S : Shape} {cy : ClassId} {h : Nat → Nat} {st : GS} {o ci N : Nat} (hk : S.2.1 o = ci) (h9 : ci ≠ 9) (hN : nsl ci = N) : gE S cy h st o = .inr (ci, (List.range N).map (fun j => gV h st (S.2.2.2 o j) o j)) := by
  subst hk; subst hN; unfold gE; rw [if_neg h9]
theorem gE_ne {S : Shape} {cy : ClassId} {h : Nat → Nat} {st : GS} {o k j : Nat} {v : Int32} (hne : k ≠ o) : gE S cy h (sv st o j v) k = gE S cy h st k := by
  have e1 : ∀ j', gt (sv st o j v) k j' = gt st k j' := fun j' => by simp [gt, sv, hne]
  have e2 : ∀ f j', gV h (sv st o j v) f k j' = gV h st f k j' := fun f j' => by
    match f with
    | 0 => simp [gV, e1]
    | 1 => rfl
    | f + 2 => rfl
  unfold gE
  simp only [e1, e2]
theorem gE_neL {S : Shape} {cy : ClassId} {h : Nat → Nat} {st : GS} {o k : Nat} {v : Int64} (hne : ∀ j, S.2.2.2 k j ≠ 1) : gE S cy h (sl st v) k = gE S cy h st k := by
  have e2 : ∀ j', gV h (sl st v) (S.2.2.2 k j') k j' = gV h st (S.2.2.2 k j') k j' := fun j' => by
    have := hne j'
    match hf : S.2.2.2 k j' with
    | 0 => rfl
    | 1 => exact absurd hf this
    | f + 2 => rfl
  unfold gE
  simp only [e2]
  rfl
theorem gE_neC {S : Shape} {cy : ClassId} {h : Nat → Nat} {st : GS} {a b k sp dp n : Nat} (hne : k ≠ b) : gE S cy h (sc st a b sp dp n) k = gE S cy h st k := by
  have e1 : ∀ j', gt (sc st a b sp dp n) k j' = gt st k j' := fun j' => by simp [gt, sc, hne]
  have e2 : ∀ f j', gV h (sc st a b sp dp n) f k j' = gV h st f k j' := fun f j' => by
    match f with
    | 0 => simp [gV, e1]
    | 1 => rfl
    | f + 2 => rfl
  unfold gE
  simp only [e1, e2]
end
section
/-- a kind of object: its number, its fields' table -/
def clsOK (ci : Nat) (Cn : String) (T : u_T) (ty : Nat → FieldType) (N : Nat) : Prop :=
  vwCl[ci]? = some (Cn, T, N) ∧ nsl ci = N ∧ ci ≠ 9 ∧ (∀ w ∈ u_ws Cn T N, w ∈ tb) ∧ (∀ k, k < N → parseFieldDescriptor (T k).2.2.1 = some (ty k)) ∧ (∀ a, a < N → ∀ b, b < N → a ≠ b → (T a).2.1 ≠ (T b).2.1)
/-- which cells a method may change: its system's, and new ones -/
def gA (S : Shape) (h : Nat → Nat) (sz : Nat) : Nat → Prop := fun q => (∃ k, k < S.1 ∧ h k = q) ∨ sz ≤ q
/-- what stays the same in a method's walk -/
def gC (p : Program) (s : State) (m : MethodId) (args : Array Value) (c : Code) (cc : ByteArray) (nL : Nat) (own : String) (S : Shape) (D : va_G) (cy : ClassId) (h : Nat → Nat) (A : Nat → Prop) : Prop :=
  p.tables.exec = Jvm.exec ∧ c.code = cc ∧ c.maxLocals = nL ∧ s.vm.findClass own = some m.cls ∧ (∀ w ∈ tb, w.before args s = true) ∧ va_K D vwCl [(cy, .int)] s ∧ (∀ st, va_D A (gW S cy h st)) ∧ gN h A s ∧ (∀ q, gA S h s.heap.size q → A q)
/-- what moves: the heap, and the state that it holds -/
def gG (S : Shape) (D : va_G) (cy : ClassId) (h : Nat → Nat) (A : Nat → Prop) (s : State) (st : GS) (H : Heap) (locs : List Loc) : Prop := va_P D vwCl (gW S cy h st) H ∧ va_S A s.heap H locs
/-- a contract's start, its ends, its room -/
def gPc (S : Shape) (D : va_G) (cy : ClassId) (h : Nat → Nat) (sz : Nat) (st : GS) (av : List Value) : Array Value → State → Prop :=
  va_Pc av (fun U => U.heap.size = sz ∧ va_P D vwCl (gW S cy h st) U.heap ∧ va_K D vwCl [(cy, .int)] U ∧ va_D (fun _ => True) (gW S cy h st) ∧ gN h (gA S h sz) U)
def gQi (S : Shape) (D : va_G) (cy : ClassId) (h : Nat → Nat) (A : Nat → Prop) (r : Int32) (st : GS) : Array Value → State → Outcome → State → Prop := va_Qi (fun (r' : Int32) (_ : Unit) => r' = r) (fun _ t => va_P D vwCl (gW S cy h st) t.heap) A
def gQl (S : Shape) (D : va_G) (cy : ClassId) (h : Nat → Nat) (A : Nat → Prop) (r : Int64) (st : GS) : Array Value → State → Outcome → State → Prop := va_Ql (fun (r' : Int64) (_ : Unit) => r' = r) (fun _ t => va_P D vwCl (gW S cy h st) t.heap) A
def gQv (S : Shape) (D : va_G) (cy : ClassId) (h : Nat → Nat) (A : Nat → Prop) (st : GS) : Array Value → State → Outcome → State → Prop := va_Qv (fun (_ : Unit) => True) (fun _ t => va_P D vwCl (gW S cy h st) t.heap) A
def gR (lev : Nat) : Room := { frames := 2 * lev, cells := 0, slots := 0, locals := 64 * lev }
def gMi (l : Launch) (S : Shape) (D : va_G) (cy : ClassId) (h : Nat → Nat) (y : MethodName) (cc : ByteArray) (maxL : Nat) (ret : Option FieldType) (lev : Nat) (st : GS) (av : List Value) (r : Int32) (st' : GS) : Prop := ∀ sz, Met l y (Cond.code y cc maxL ret :: tb) (gR lev) (gPc S D cy h sz st av) (gQi S D cy h (gA S h sz) r st') 0 0 (gA S h sz)
def gMl (l : Launch) (S : Shape) (D : va_G) (cy : ClassId) (h : Nat → Nat) (y : MethodName) (cc : ByteArray) (maxL : Nat) (ret : Option FieldType) (lev : Nat) (st : GS) (av : List Value) (r : Int64) (st' : GS) : Prop := ∀ sz, Met l y (Cond.code y cc maxL ret :: tb) (gR lev) (gPc S D cy h sz st av) (gQl S D cy h (gA S h sz) r st') 0 0 (gA S h sz)
def gMv (l : Launch) (S : Shape) (D : va_G) (cy : ClassId) (h : Nat → Nat) (y : MethodName) (cc : ByteArray) (maxL : Nat) (ret : Option FieldType) (lev : Nat) (st : GS) (av : List Value) (st' : GS) : Prop := ∀ sz, Met l y (Cond.code y cc maxL ret :: tb) (gR lev) (gPc S D cy h sz st av) (gQv S D cy h (gA S h sz) st') 0 0 (gA S h sz)
theorem gD_any {S : Shape} {cy : ClassId} {h : Nat → Nat} {st : GS} {A B : Nat → Prop} (hD : va_D B (gW S cy h st)) (hA : ∀ k, k < S.1 → A (h k)) (st' : GS) : va_D A (gW S cy h st') := by
  have key : ∀ (st0 : GS) (k : Nat) (q : Nat × va_E), (gW S cy h st0)[k]? = some q → k < S.1 ∧ q.1 = h k := by
    intro st0 k q hk
    have hl : k < S.1 := by
      have := (List.getElem?_eq_some_iff.mp hk).1
      simpa [gW] using this
    rw [gW_at hl] at hk
    cases hk
    exact ⟨hl, rfl⟩
  refine ⟨fun i j p q hi hj hpq => ?_, fun k q hk => ?_⟩
  · obtain ⟨l1, e1⟩ := key st' i p hi
    obtain ⟨l2, e2⟩ := key st' j q hj
    exact hD.1 i j _ _ (gW_at l1) (gW_at l2) (by show h i = h j; rw [← e1, ← e2, hpq])
  · obtain ⟨l1, e1⟩ := key st' k q hk
    rw [e1]; exact hA k l1
/-- a cell is an object of a kind; an array of ints of a length -/
def cellO (S : Shape) (o ci : Nat) : Prop := o < S.1 ∧ S.2.1 o = ci
def arrO (S : Shape) (a n : Nat) : Prop := a < S.1 ∧ S.2.1 a = 9 ∧ S.2.2.1 a = n
section GR
variable {p : Program} {l : Launch} {e : Env} {R : Room} {s : State} {m : MethodId} {args : Array Value} {below : List Frame} {meth : Method} {c : Code} {H : Heap} {locs : List Loc} {cells slots : Nat} {Q : State → Prop}
variable {cc : ByteArray} {pc nL : Nat} {ls : Array Slot} {rest : List Value} {D : va_G} {A : Nat → Prop} {own : String} {S : Shape} {cy : ClassId} {h : Nat → Nat} {st : GS}
theorem g_fs {S : Shape} {h : Nat → Nat} {st : GS} {o j N f : Nat} (hj : j < N) (hf : S.2.2.2 o j = f) : ((List.range N).map (fun j => gV h st (S.2.2.2 o j) o j))[j]? = some (gV h st f o j) := by
  subst hf; simp [hj]
theorem g_getV (C : gC p s m args c cc nL own S D cy h A) (G : gG S D cy h A s st H locs) {o j ci f index N : Nat} {Cn : String} {T : u_T} {ty : Nat → FieldType} (K : clsOK ci Cn T ty N) (hO : cellO S o ci) (hj : j < N) (hf : S.2.2.2 o j = f) (hlink : Cond.fieldLink own index (T j).1 (T j).2.1 (T j).2.2.1 ∈ tb) (hdg : decode cc pc = .ok (.getfield index, 3))
    (kk : W p l e R s m args below meth c H locs cells slots Q (F0 m (pc + 3) ls (gV h st f o j :: rest))) : W p l e R s m args below meth c H locs cells slots Q (F0 m pc ls (.ref (h o) :: rest)) := by
  obtain ⟨hx, hb, -, hown, hts, hK, -, -, -⟩ := C
  obtain ⟨k1, k2, k3, k4, -, -⟩ := K
  obtain ⟨ho, hc⟩ := hO
  exact va_get hx hb hts k4 hown hK G.1 o ((gW_at ho).trans (by rw [gE_obj hc k3 k2])) k1 j hj (hts _ hlink) (fun _ h9 => h9) (g_fs hj hf) hdg kk
theorem g_getVN (C : gC p s m args c cc nL own S D cy h A) (G : gG S D cy h A s st H locs) {o j ci f index N : Nat} {Cn host : String} {T : u_T} {ty : Nat → FieldType} (K : clsOK ci Cn T ty N) (hO : cellO S o ci) (hj : j < N) (hf : S.2.2.2 o j = f) (hlink : Cond.fieldLinkNest own index (T j).1 (T j).2.1 (T j).2.2.1 host ∈ nw) (hdg : decode cc pc = .ok (.getfield index, 3))
    (kk : W p l e R s m args below meth c H locs cells slots Q (F0 m (pc + 3) ls (gV h st f o j :: rest))) : W p l e R s m args below meth c H locs cells slots Q (F0 m pc ls (.ref (h o) :: rest)) := by
  obtain ⟨hx, hb, -, hown, hts, hK, -, hN, -⟩ := C
  obtain ⟨k1, k2, k3, k4, -, -⟩ := K
  obtain ⟨ho, hc⟩ := hO
  exact va_getN hx hb hts k4 hown hK G.1 o ((gW_at ho).trans (by rw [gE_obj hc k3 k2])) k1 j hj (va_Nw.use rfl (hN.1 _ hlink)) (fun _ h9 => h9) (g_fs hj hf) hdg kk
theorem g_geti (C : gC p s m args c cc nL own S D cy h A) (G : gG S D cy h A s st H locs) {o j ci index N : Nat} {Cn : String} {T : u_T} {ty : Nat → FieldType} (K : clsOK ci Cn T ty N) (hO : cellO S o ci) (hj : j < N) (hf : S.2.2.2 o j = 0) (hlink : Cond.fieldLink own index (T j).1 (T j).2.1 (T j).2.2.1 ∈ tb) (hdg : decode cc pc = .ok (.getfield index, 3))
    (kk : W p l e R s m args below meth c H locs cells slots Q (F0 m (pc + 3) ls (.int (gt st o j) :: rest))) : W p l e R s m args below meth c H locs cells slots Q (F0 m pc ls (.ref (h o) :: rest)) := g_getV C G K hO hj hf hlink hdg kk
theorem g_getl (C : gC p s m args c cc nL own S D cy h A) (G : gG S D cy h A s st H locs) {o j ci index N : Nat} {Cn : String} {T : u_T} {ty : Nat → FieldType} (K : clsOK ci Cn T ty N) (hO : cellO S o ci) (hj : j < N) (hf : S.2.2.2 o j = 1) (hlink : Cond.fieldLink own index (T j).1 (T j).2.1 (T j).2.2.1 ∈ tb) (hdg : decode cc pc = .ok (.getfield index, 3))
    (kk : W p l e R s m args below meth c H locs cells slots Q (F0 m (pc + 3) ls (.long (gl st) :: rest))) : W p l e R s m args below meth c H locs cells slots Q (F0 m pc ls (.ref (h o) :: rest)) := g_getV C G K hO hj hf hlink hdg kk
theorem g_getr (C : gC p s m args c cc nL own S D cy h A) (G : gG S D cy h A s st H locs) {o j ci index N k : Nat} {Cn : String} {T : u_T} {ty : Nat → FieldType} (K : clsOK ci Cn T ty N) (hO : cellO S o ci) (hj : j < N) (hf : S.2.2.2 o j = k + 2) (hlink : Cond.fieldLink own index (T j).1 (T j).2.1 (T j).2.2.1 ∈ tb) (hdg : decode cc pc = .ok (.getfield index, 3))
    (kk : W p l e R s m args below meth c H locs cells slots Q (F0 m (pc + 3) ls (.ref (h k) :: rest))) : W p l e R s m args below meth c H locs cells slots Q (F0 m pc ls (.ref (h o) :: rest)) := g_getV C G K hO hj hf hlink hdg kk
theorem g_getiN (C : gC p s m args c cc nL own S D cy h A) (G : gG S D cy h A s st H locs) {o j ci index N : Nat} {Cn host : String} {T : u_T} {ty : Nat → FieldType} (K : clsOK ci Cn T ty N) (hO : cellO S o ci) (hj : j < N) (hf : S.2.2.2 o j = 0) (hlink : Cond.fieldLinkNest own index (T j).1 (T j).2.1 (T j).2.2.1 host ∈ nw) (hdg : decode cc pc = .ok (.getfield index, 3))
    (kk : W p l e R s m args below meth c H locs cells slots Q (F0 m (pc + 3) ls (.int (gt st o j) :: rest))) : W p l e R s m args below meth c H locs cells slots Q (F0 m pc ls (.ref (h o) :: rest)) := g_getVN C G K hO hj hf hlink hdg kk
theorem g_getrN (C : gC p s m args c cc nL own S D cy h A) (G : gG S D cy h A s st H locs) {o j ci index N k : Nat} {Cn host : String} {T : u_T} {ty : Nat → FieldType} (K : clsOK ci Cn T ty N) (hO : cellO S o ci) (hj : j < N) (hf : S.2.2.2 o j = k + 2) (hlink : Cond.fieldLinkNest own index (T j).1 (T j).2.1 (T j).2.2.1 host ∈ nw) (hdg : decode cc pc = .ok (.getfield index, 3))
    (kk : W p l e R s m args below meth c H locs cells slots Q (F0 m (pc + 3) ls (.ref (h k) :: rest))) : W p l e R s m args below meth c H locs cells slots Q (F0 m pc ls (.ref (h o) :: rest)) := g_getVN C G K hO hj hf hlink hdg kk
theorem g_set {S : Shape} {cy : ClassId} {h : Nat → Nat} {st : GS} {o j ci N : Nat} {v : Int32} (hc : S.2.1 o = ci) (h9 : ci ≠ 9) (hN : nsl ci = N) (hj : j < N) (hf : S.2.2.2 o j = 0) : (gW S cy h st).set o (h o, .inr (ci, ((List.range N).map (fun j => gV h st (S.2.2.2 o j) o j)).set j (.int v))) = gW S cy h (sv st o j v) := by
  refine gW_set ?_ (fun k hk => gE_ne hk)
  rw [gE_obj hc h9 hN]
  congr 2
  apply List.ext_getElem?
  intro i
  by_cases hi : i < N
  · by_cases hij : i = j
    · subst hij
      rw [List.getElem?_set_self (by simpa using hi), g_fs hi hf]
      simp [gV, gt, sv]
    · rw [List.getElem?_set_ne (Ne.symm hij), g_fs hi rfl, g_fs hi rfl]
      congr 1
      match S.2.2.2 o i with
      | 0 => simp [gV, gt, sv, hij]
      | 1 => rfl
      | f + 2 => rfl
  · rw [List.getElem?_eq_none (by simp; omega), List.getElem?_eq_none (by simp; omega)]
theorem g_puti (C : gC p s m args c cc nL own S D cy h A) (G : gG S D cy h A s st H locs) {o j ci index N : Nat} {Cn : String} {T : u_T} {ty : Nat → FieldType} {v : Int32} (K : clsOK ci Cn T ty N) (hO : cellO S o ci) (hj : j < N) (hf : S.2.2.2 o j = 0) (hlink : Cond.fieldLink own index (T j).1 (T j).2.1 (T j).2.2.1 ∈ tb) (hfin : (T j).2.2.2 = false) (hn : narrow (ty j) (.int v) = .int v) (hfit : fits (ty j) (.int v) = true) (hdg : decode cc pc = .ok (.putfield index, 3))
    (kk : ∀ st1, st1 = sv st o j v → ∀ H locs, gG S D cy h A s st1 H locs → W p l e R s m args below meth c H locs cells slots Q (F0 m (pc + 3) ls rest)) : W p l e R s m args below meth c H locs cells slots Q (F0 m pc ls (.int v :: .ref (h o) :: rest)) := by
  obtain ⟨hx, hb, -, hown, hts, hK, hD, -, -⟩ := C
  obtain ⟨k1, k2, k3, k4, k5, k6⟩ := K
  obtain ⟨ho, hc⟩ := hO
  refine va_put hx hb hts k4 ty k5 k6 hown hK G.1 (hD st) G.2 o ((gW_at ho).trans (by rw [gE_obj hc k3 k2])) k1 j hj (hts _ hlink) (fun _ h9 => h9) hfin (k5 j hj) hn hfit (by simpa using hj) hdg (fun H1 locs1 hP _ hS => ?_)
  rw [g_set hc k3 k2 hj hf] at hP
  exact kk _ rfl H1 locs1 ⟨hP, hS⟩
theorem g_putiN (C : gC p s m args c cc nL own S D cy h A) (G : gG S D cy h A s st H locs) {o j ci index N : Nat} {Cn host : String} {T : u_T} {ty : Nat → FieldType} {v : Int32} (K : clsOK ci Cn T ty N) (hO : cellO S o ci) (hj : j < N) (hf : S.2.2.2 o j = 0) (hlink : Cond.fieldLinkNest own index (T j).1 (T j).2.1 (T j).2.2.1 host ∈ nw) (hfin : (T j).2.2.2 = false) (hn : narrow (ty j) (.int v) = .int v) (hfit : fits (ty j) (.int v) = true) (hdg : decode cc pc = .ok (.putfield index, 3))
    (kk : ∀ st1, st1 = sv st o j v → ∀ H locs, gG S D cy h A s st1 H locs → W p l e R s m args below meth c H locs cells slots Q (F0 m (pc + 3) ls rest)) : W p l e R s m args below meth c H locs cells slots Q (F0 m pc ls (.int v :: .ref (h o) :: rest)) := by
  obtain ⟨hx, hb, -, hown, hts, hK, hD, hN, -⟩ := C
  obtain ⟨k1, k2, k3, k4, k5, k6⟩ := K
  obtain ⟨ho, hc⟩ := hO
  refine va_putN hx hb hts k4 ty k5 k6 hown hK G.1 (hD st) G.2 o ((gW_at ho).trans (by rw [gE_obj hc k3 k2])) k1 j hj (va_Nw.use rfl (hN.1 _ hlink)) (fun _ h9 => h9) hfin (k5 j hj) hn hfit (by simpa using hj) hdg (fun H1 locs1 hP _ hS => ?_)
  rw [g_set hc k3 k2 hj hf] at hP
  exact kk _ rfl H1 locs1 ⟨hP, hS⟩
/-- the one long field -/
theorem g_putl (C : gC p s m args c cc nL own S D cy h A) (G : gG S D cy h A s st H locs) {o j ci index N : Nat} {Cn : String} {T : u_T} {ty : Nat → FieldType} {v : Int64} (K : clsOK ci Cn T ty N) (hO : cellO S o ci) (hj : j < N) (hf : S.2.2.2 o j = 1) (hsole : ∀ k i, (k ≠ o ∨ i ≠ j) → S.2.2.2 k i ≠ 1) (hlink : Cond.fieldLink own index (T j).1 (T j).2.1 (T j).2.2.1 ∈ tb) (hfin : (T j).2.2.2 = false) (hn : narrow (ty j) (.long v) = .long v) (hfit : fits (ty j) (.long v) = true) (hdg : decode cc pc = .ok (.putfield index, 3))
    (kk : ∀ st1, st1 = sl st v → ∀ H locs, gG S D cy h A s st1 H locs → W p l e R s m args below meth c H locs cells slots Q (F0 m (pc + 3) ls rest)) : W p l e R s m args below meth c H locs cells slots Q (F0 m pc ls (.long v :: .ref (h o) :: rest)) := by
  obtain ⟨hx, hb, -, hown, hts, hK, hD, -, -⟩ := C
  obtain ⟨k1, k2, k3, k4, k5, k6⟩ := K
  obtain ⟨ho, hc⟩ := hO
  refine va_put hx hb hts k4 ty k5 k6 hown hK G.1 (hD st) G.2 o ((gW_at ho).trans (by rw [gE_obj hc k3 k2])) k1 j hj (hts _ hlink) (fun _ h9 => h9) hfin (k5 j hj) hn hfit (by simpa using hj) hdg (fun H1 locs1 hP _ hS => ?_)
  have e : (gW S cy h st).set o (h o, .inr (ci, ((List.range N).map (fun j => gV h st (S.2.2.2 o j) o j)).set j (.long v))) = gW S cy h (sl st v) := by
    refine gW_set ?_ (fun k hk => gE_neL (o := 0) (fun i => hsole k i (Or.inl hk)))
    rw [gE_obj hc k3 k2]
    congr 2
    apply List.ext_getElem?
    intro i
    by_cases hi : i < N
    · by_cases hij : i = j
      · subst hij
        rw [List.getElem?_set_self (by simpa using hi), g_fs hi hf]
        rfl
      · rw [List.getElem?_set_ne (Ne.symm hij), g_fs hi rfl, g_fs hi rfl]
        congr 1
        have := hsole o i (Or.inr hij)
        match hq : S.2.2.2 o i with
        | 0 => rfl
        | 1 => exact absurd hq this
        | f + 2 => rfl
    · rw [List.getElem?_eq_none (by simp; omega), List.getElem?_eq_none (by simp; omega)]
  rw [e] at hP
  exact kk _ rfl H1 locs1 ⟨hP, hS⟩
theorem g_iald (C : gC p s m args c cc nL own S D cy h A) (G : gG S D cy h A s st H locs) {a n : Nat} {i : Int32} (hO : arrO S a n) {j : Nat} (hj : i.toNatClampNeg = j) (hin : vp_in i n) (hdg : decode cc pc = .ok (.iaload, 1))
    (kk : W p l e R s m args below meth c H locs cells slots Q (F0 m (pc + 1) ls (.int (gt st a j) :: rest))) : W p l e R s m args below meth c H locs cells slots Q (F0 m pc ls (.int i :: .ref (h a) :: rest)) := by
  obtain ⟨hx, hb, -, hown, hts, hK, -, -, -⟩ := C
  obtain ⟨ha, hc, hn⟩ := hO
  subst hn; subst hj
  exact va_iald hx hb hK G.1 a 0 (f := fun j => gt st a j) ((gW_at ha).trans (by rw [gE_arr hc])) rfl hin hdg kk
theorem g_iast (C : gC p s m args c cc nL own S D cy h A) (G : gG S D cy h A s st H locs) {a n : Nat} {i v : Int32} (hO : arrO S a n) {j : Nat} (hj : i.toNatClampNeg = j) (hin : vp_in i n) (hdg : decode cc pc = .ok (.iastore, 1))
    (kk : ∀ st1, st1 = sv st a j v → ∀ H locs, gG S D cy h A s st1 H locs → W p l e R s m args below meth c H locs cells slots Q (F0 m (pc + 1) ls rest)) : W p l e R s m args below meth c H locs cells slots Q (F0 m pc ls (.int v :: .int i :: .ref (h a) :: rest)) := by
  obtain ⟨hx, hb, -, hown, hts, hK, hD, -, -⟩ := C
  obtain ⟨ha, hc, hn⟩ := hO
  subst hn; subst hj
  refine va_iast hx hb hK G.1 (hD st) G.2 a 0 (f := fun j => gt st a j) ((gW_at ha).trans (by rw [gE_arr hc])) rfl hin hdg (fun H1 locs1 hP _ hS => ?_)
  have e : (gW S cy h st).set a (h a, .inl (cy, S.2.2.1 a, .inl (upd (fun j => gt st a j) i.toNatClampNeg v))) = gW S cy h (sv st a i.toNatClampNeg v) := by
    refine gW_set ?_ (fun k hk => gE_ne hk)
    rw [gE_arr hc]
    congr 4
    funext j
    by_cases hj : j = i.toNatClampNeg
    · subst hj; simp [gt, sv, upd]
    · simp [gt, sv, upd, hj]
  rw [e] at hP
  exact kk _ rfl H1 locs1 ⟨hP, hS⟩
theorem g_alen (C : gC p s m args c cc nL own S D cy h A) (G : gG S D cy h A s st H locs) {a : Nat} {v : Int32} {n : Nat} (hO : arrO S a n) (hv : Int32.ofNat n = v) (hdg : decode cc pc = .ok (.arraylength, 1))
    (kk : W p l e R s m args below meth c H locs cells slots Q (F0 m (pc + 1) ls (.int v :: rest))) : W p l e R s m args below meth c H locs cells slots Q (F0 m pc ls (.ref (h a) :: rest)) := by
  obtain ⟨hx, hb, -, hown, hts, hK, -, -, -⟩ := C
  obtain ⟨ha, hc, hn⟩ := hO
  subst hn
  exact va_alen hx hb hK G.1 a 0 ((gW_at ha).trans (by rw [gE_arr hc])) rfl hv hdg kk
theorem g_copy (C : gC p s m args c cc nL own S D cy h A) (G : gG S D cy h A s st H locs) {a b n0 n1 index : Nat} {sp dp n : Int32} (hml : ls.size = nL) (hO : arrO S a n0) (hO1 : arrO S b n1) (hlink : Cond.methodLink own index arraycopyName ∈ tb) (hnat : Cond.native arraycopyName ∈ tb) (hstat : Cond.static arraycopyName ∈ tb) (hini : Cond.initialized "java/lang/System" ∈ tb)
    (h1 : ¬ sp < 0) (h2 : ¬ dp < 0) (h3 : ¬ n < 0) (h4 : sp.toNatClampNeg + n.toNatClampNeg ≤ n0) (h5 : dp.toNatClampNeg + n.toNatClampNeg ≤ n1) (hframes : 1 ≤ R.frames) (hlocals : (rest.map fun v => v.category).sum + (nativeFrameWords "java/lang/System" "arraycopy" 5 + 11) ≤ R.locals) (hdg : decode cc pc = .ok (.invokestatic index, 3))
    (kk : ∀ st1, st1 = sc st a b sp.toNatClampNeg dp.toNatClampNeg n.toNatClampNeg → ∀ H locs, gG S D cy h A s st1 H locs → W p l e R s m args below meth c H locs cells slots Q (F0 m (pc + 3) ls rest)) : W p l e R s m args below meth c H locs cells slots Q (F0 m pc ls (.int n :: .int dp :: .ref (h b) :: .int sp :: .ref (h a) :: rest)) := by
  obtain ⟨hx, hb, hmx, hown, hts, hK, hD, -, -⟩ := C
  obtain ⟨ha, hc, hn0⟩ := hO
  obtain ⟨hb1, hcb, hn1⟩ := hO1
  subst hn0; subst hn1
  refine va_copyi hx hb (hmx.trans hml.symm) hown (hts _ hlink) (hts _ hnat) (hts _ hstat) (hts _ hini) hK G.1 (hD st) G.2 a b 0 0 (f := fun j => gt st a j) (g := fun j => gt st b j) ((gW_at ha).trans (by rw [gE_arr hc])) ((gW_at hb1).trans (by rw [gE_arr hcb])) rfl rfl rfl h1 h2 h3 h4 h5 (fun _ _ => rfl) hframes hlocals hdg (fun H1 locs1 hP _ hS => ?_)
  have e : (gW S cy h st).set b (h b, .inl (cy, S.2.2.1 b, .inl (va_cpy (fun j => gt st a j) (fun j => gt st b j) sp.toNatClampNeg dp.toNatClampNeg n.toNatClampNeg))) = gW S cy h (sc st a b sp.toNatClampNeg dp.toNatClampNeg n.toNatClampNeg) := by
    refine gW_set ?_ (fun k hk => gE_neC hk)
    rw [gE_arr hcb]
    congr 4
    funext j
    simp [gt, sc, va_cpy]
  rw [e] at hP
  exact kk _ rfl H1 locs1 ⟨hP, hS⟩
end GR
end
section
theorem gPc_blind {S : Shape} {D : va_G} {cy : ClassId} {h : Nat → Nat} {sz : Nat} {st : GS} {av : List Value} : FrameBlind (gPc S D cy h sz st av) := by
  intro a U g mk q
  obtain ⟨q0, q1, qP, qK, qD, qN⟩ := q
  exact ⟨q0, q1, qP, va_K.moved (u := U) (U := U.calling g mk a) (Vm.Alike.refl U.vm) qK, qD, gN_same (u := U) rfl rfl qN⟩
/-- the calls' words: an instance method, a static one -/
def vOK (own : String) (idx : Nat) (y : MethodName) (bytes : ByteArray) (maxL : Nat) (ret : Option FieldType) (n : Nat) : Prop :=
  Cond.methodLink own idx y ∈ tb ∧ Cond.instanceMethod y ∈ tb ∧ Cond.selects y.cls y y ∈ tb ∧ Cond.initialized y.cls ∈ tb ∧ Cond.code y bytes maxL ret ∈ tb ∧ y.cls ≠ "java/lang/invoke/MethodHandle" ∧ y.cls ≠ "java/lang/invoke/VarHandle" ∧ (parseMethodDescriptor y.desc).map (fun d => d.parameters.length) = some n
def sOK (own : String) (idx : Nat) (y : MethodName) (bytes : ByteArray) (maxL : Nat) (ret : Option FieldType) (n : Nat) : Prop :=
  Cond.methodLink own idx y ∈ tb ∧ Cond.static y ∈ tb ∧ Cond.initialized y.cls ∈ tb ∧ Cond.code y bytes maxL ret ∈ tb ∧ y.cls ≠ "java/lang/invoke/MethodHandle" ∧ y.cls ≠ "java/lang/invoke/VarHandle" ∧ (parseMethodDescriptor y.desc).map (fun d => d.parameters.length) = some n
theorem tb_code {c w : Cond} {ws : List Cond} (hc : c ∈ tb) (h : w ∈ c :: tb) : w ∈ tb := (List.mem_cons.mp h).elim (fun e => e ▸ hc) id
section GC
variable {p : Program} {l : Launch} {e : Env} {R : Room} {s : State} {m : MethodId} {args : Array Value} {below : List Frame} {meth : Method} {c : Code} {H : Heap} {locs : List Loc} {cells slots : Nat} {Q : State → Prop}
variable {cc bytes : ByteArray} {pc nL maxL n idx lev : Nat} {ls : Array Slot} {rest As stk av : List Value} {D : va_G} {A : Nat → Prop} {own : String} {S : Shape} {cy : ClassId} {h : Nat → Nat} {st st' : GS} {y : MethodName} {ret : Option FieldType}
theorem gPc_at (C : gC p s m args c cc nL own S D cy h A) (G : gG S D cy h A s st H locs) (av : List Value) : ∀ U : State, U.heap = H → s.WarmedH U.vm → gPc S D cy h H.size st av av.toArray U := by
  obtain ⟨hx, hb, hml, hown, hts, hK, hD, hN, hA⟩ := C
  intro U hU hW
  have hsub : ∀ q, gA S h H.size q → A q := fun q hq => hA q (hq.elim Or.inl (fun z => Or.inr (Nat.le_trans G.2.1 z)))
  exact ⟨rfl, by rw [hU], by rw [hU]; exact G.1, va_K.moved hW.alike hK, (hD st).weaken (fun _ _ _ _ => trivial), gN_to hN hW (fun a h1 h2 => by rw [hU]; exact G.2.2.1 a h1 h2) hsub⟩
theorem gA_sub (C : gC p s m args c cc nL own S D cy h A) (G : gG S D cy h A s st H locs) : ∀ q, gA S h H.size q → A q := fun q hq => C.2.2.2.2.2.2.2.2 q (hq.elim Or.inl (fun z => Or.inr (Nat.le_trans G.2.1 z)))
theorem g_runV (C : gC p s m args c cc nL own S D cy h A) (G : gG S D cy h A s st H locs) {Qc : Array Value → State → Outcome → State → Prop} {o ci N : Nat} {Cn : String} {T : u_T} {ty : Nat → FieldType} (hM : Met l y (Cond.code y bytes maxL ret :: tb) (gR lev) (gPc S D cy h H.size st (.ref (h o) :: As)) Qc 0 0 (gA S h H.size)) (K : clsOK ci Cn T ty N) (hy : y.cls = Cn) (hO : cellO S o ci) (ok : vOK own idx y bytes maxL ret n)
    (hF : 2 * lev + 1 ≤ R.frames) (hL : 8 + (maxL + 11) + 64 * lev ≤ R.locals) (hn : As.length = n) (hsz : ls.size = nL) (hstk : stk = As.reverse ++ .ref (h o) :: rest) (hW : (rest.map fun v => v.category).sum ≤ 8) (hdg : decode cc pc = .ok (.invokevirtual idx, 3)) (hf : cells ≤ R.cells ∧ slots ≤ R.slots) :
    va_Run p l e R s m args below meth c H locs cells slots 0 0 (F0 m pc ls stk) rest (Qc (Value.ref (h o) :: As).toArray) (gA S h H.size) := by
  have hPc := gPc_at C G (.ref (h o) :: As)
  obtain ⟨hx, hb, hml, hown, hts, hK, hD, hN, hA⟩ := C
  obtain ⟨o1, o2, o3, o4, o5, o6, o7, o8⟩ := ok
  obtain ⟨k1, k2, k3, -, -, -⟩ := K
  obtain ⟨ho, hc⟩ := hO
  have cw : CallW R s args own y.cls idx y bytes maxL ret (Cond.code y bytes maxL ret :: tb) (gR lev) 0 0 n := by
    refine cwV (Ts := tb) (ws' := tb) n hts (tb_good (fun _ h => h) (fun w hw => ?_)) rfl rfl rfl ⟨rfl, o6, o7, o8⟩ ⟨hF, hL⟩
    rcases List.mem_append.mp hw with h | h
    · simp only [List.mem_cons, List.not_mem_nil, or_false] at h
      rcases h with h | h | h | h <;> subst h <;> assumption
    · exact tb_code (ws := []) o5 h
  refine va_runV (n := n) (C := y.cls) (As := As) (rest := rest) ⟨hx, hb, hml, hown, hts⟩ hM cw ⟨gPc_blind, ?_, hPc⟩ rfl hn hsz hstk (lv_room hW) hdg hf
  rw [hy]
  exact va_recv hK G.1 (ci := ci) (q0 := o) k1 ((gW_at ho).trans (by rw [gE_obj hc k3 k2]))
theorem g_runS (C : gC p s m args c cc nL own S D cy h A) (G : gG S D cy h A s st H locs) {Qc : Array Value → State → Outcome → State → Prop} (hM : Met l y (Cond.code y bytes maxL ret :: tb) (gR lev) (gPc S D cy h H.size st As) Qc 0 0 (gA S h H.size)) (ok : sOK own idx y bytes maxL ret n)
    (hF : 2 * lev + 1 ≤ R.frames) (hL : 8 + (maxL + 11) + 64 * lev ≤ R.locals) (hn : As.length = n) (hsz : ls.size = nL) (hstk : stk = As.reverse ++ rest) (hW : (rest.map fun v => v.category).sum ≤ 8) (hdg : decode cc pc = .ok (.invokestatic idx, 3)) (hf : cells ≤ R.cells ∧ slots ≤ R.slots) :
    va_Run p l e R s m args below meth c H locs cells slots 0 0 (F0 m pc ls stk) rest (Qc As.toArray) (gA S h H.size) := by
  have hPc := gPc_at C G As
  obtain ⟨hx, hb, hml, hown, hts, hK, hD, hN, hA⟩ := C
  obtain ⟨o1, o2, o4, o5, o6, o7, o8⟩ := ok
  have cw : CallB R s args own idx y bytes maxL ret (Cond.code y bytes maxL ret :: tb) (gR lev) 0 0 n ∧ (Cond.static y).before args s = true := by
    refine va_cwS (Ts := tb) (ws' := tb) n hts (tb_good (fun _ h => h) (fun w hw => ?_)) rfl rfl rfl ⟨o6, o7, o8⟩ ⟨hF, hL⟩
    rcases List.mem_append.mp hw with h | h
    · simp only [List.mem_cons, List.not_mem_nil, or_false] at h
      rcases h with h | h | h <;> subst h <;> assumption
    · exact tb_code (ws := []) o5 h
  exact va_runS (n := n) (As := As) (rest := rest) ⟨hx, hb, hml, hown, hts⟩ hM cw ⟨gPc_blind, hPc⟩ rfl hn hsz hstk (lv_room hW) hdg hf
theorem g_callVi (C : gC p s m args c cc nL own S D cy h A) (G : gG S D cy h A s st H locs) {r : Int32} {o ci N : Nat} {Cn : String} {T : u_T} {ty : Nat → FieldType} (hM : gMi l S D cy h y bytes maxL ret lev st (.ref (h o) :: As) r st') (K : clsOK ci Cn T ty N) (hy : y.cls = Cn) (hO : cellO S o ci) (ok : vOK own idx y bytes maxL ret n)
    (hF : 2 * lev + 1 ≤ R.frames) (hL : 8 + (maxL + 11) + 64 * lev ≤ R.locals) (hn : As.length = n) (hsz : ls.size = nL) (hstk : stk = As.reverse ++ .ref (h o) :: rest) (hW : (rest.map fun v => v.category).sum ≤ 8) (hdg : decode cc pc = .ok (.invokevirtual idx, 3)) (hf : cells ≤ R.cells ∧ slots ≤ R.slots)
    (kk : ∀ H locs, gG S D cy h A s st' H locs → W p l e R s m args below meth c H locs cells slots Q (F0 m (pc + 3) ls (.int r :: rest))) : W p l e R s m args below meth c H locs cells slots Q (F0 m pc ls stk) := by
  have hsub := gA_sub C G
  refine va_calli (g_runV C G (hM H.size) K hy hO ok hF hL hn hsz hstk hW hdg hf) G.2 (fun q _ h => hsub q h) hsub (fun r1 u t H1 locs1 ht hvm hw hB hz1 hk1 hS => ?_)
  subst hw
  rw [ht] at hB
  exact kk H1 locs1 ⟨hB, hS⟩
theorem g_callVl (C : gC p s m args c cc nL own S D cy h A) (G : gG S D cy h A s st H locs) {r : Int64} {o ci N : Nat} {Cn : String} {T : u_T} {ty : Nat → FieldType} (hM : gMl l S D cy h y bytes maxL ret lev st (.ref (h o) :: As) r st') (K : clsOK ci Cn T ty N) (hy : y.cls = Cn) (hO : cellO S o ci) (ok : vOK own idx y bytes maxL ret n)
    (hF : 2 * lev + 1 ≤ R.frames) (hL : 8 + (maxL + 11) + 64 * lev ≤ R.locals) (hn : As.length = n) (hsz : ls.size = nL) (hstk : stk = As.reverse ++ .ref (h o) :: rest) (hW : (rest.map fun v => v.category).sum ≤ 8) (hdg : decode cc pc = .ok (.invokevirtual idx, 3)) (hf : cells ≤ R.cells ∧ slots ≤ R.slots)
    (kk : ∀ H locs, gG S D cy h A s st' H locs → W p l e R s m args below meth c H locs cells slots Q (F0 m (pc + 3) ls (.long r :: rest))) : W p l e R s m args below meth c H locs cells slots Q (F0 m pc ls stk) := by
  have hsub := gA_sub C G
  refine va_calll (g_runV C G (hM H.size) K hy hO ok hF hL hn hsz hstk hW hdg hf) G.2 (fun q _ h => hsub q h) hsub (fun r1 u t H1 locs1 ht hvm hw hB hz1 hk1 hS => ?_)
  subst hw
  rw [ht] at hB
  exact kk H1 locs1 ⟨hB, hS⟩
theorem g_callVv (C : gC p s m args c cc nL own S D cy h A) (G : gG S D cy h A s st H locs) {o ci N : Nat} {Cn : String} {T : u_T} {ty : Nat → FieldType} (hM : gMv l S D cy h y bytes maxL ret lev st (.ref (h o) :: As) st') (K : clsOK ci Cn T ty N) (hy : y.cls = Cn) (hO : cellO S o ci) (ok : vOK own idx y bytes maxL ret n)
    (hF : 2 * lev + 1 ≤ R.frames) (hL : 8 + (maxL + 11) + 64 * lev ≤ R.locals) (hn : As.length = n) (hsz : ls.size = nL) (hstk : stk = As.reverse ++ .ref (h o) :: rest) (hW : (rest.map fun v => v.category).sum ≤ 8) (hdg : decode cc pc = .ok (.invokevirtual idx, 3)) (hf : cells ≤ R.cells ∧ slots ≤ R.slots)
    (kk : ∀ H locs, gG S D cy h A s st' H locs → W p l e R s m args below meth c H locs cells slots Q (F0 m (pc + 3) ls rest)) : W p l e R s m args below meth c H locs cells slots Q (F0 m pc ls stk) := by
  have hsub := gA_sub C G
  refine va_callv (g_runV C G (hM H.size) K hy hO ok hF hL hn hsz hstk hW hdg hf) G.2 (fun q _ h => hsub q h) hsub (fun u t H1 locs1 ht hvm hw hB hz1 hk1 hS => ?_)
  rw [ht] at hB
  exact kk H1 locs1 ⟨hB, hS⟩
theorem g_callSi (C : gC p s m args c cc nL own S D cy h A) (G : gG S D cy h A s st H locs) {r : Int32} (hM : gMi l S D cy h y bytes maxL ret lev st As r st') (ok : sOK own idx y bytes maxL ret n)
    (hF : 2 * lev + 1 ≤ R.frames) (hL : 8 + (maxL + 11) + 64 * lev ≤ R.locals) (hn : As.length = n) (hsz : ls.size = nL) (hstk : stk = As.reverse ++ rest) (hW : (rest.map fun v => v.category).sum ≤ 8) (hdg : decode cc pc = .ok (.invokestatic idx, 3)) (hf : cells ≤ R.cells ∧ slots ≤ R.slots)
    (kk : ∀ H locs, gG S D cy h A s st' H locs → W p l e R s m args below meth c H locs cells slots Q (F0 m (pc + 3) ls (.int r :: rest))) : W p l e R s m args below meth c H locs cells slots Q (F0 m pc ls stk) := by
  have hsub := gA_sub C G
  refine va_calli (g_runS C G (hM H.size) ok hF hL hn hsz hstk hW hdg hf) G.2 (fun q _ h => hsub q h) hsub (fun r1 u t H1 locs1 ht hvm hw hB hz1 hk1 hS => ?_)
  subst hw
  rw [ht] at hB
  exact kk H1 locs1 ⟨hB, hS⟩
theorem g_callSv (C : gC p s m args c cc nL own S D cy h A) (G : gG S D cy h A s st H locs) (hM : gMv l S D cy h y bytes maxL ret lev st As st') (ok : sOK own idx y bytes maxL ret n)
    (hF : 2 * lev + 1 ≤ R.frames) (hL : 8 + (maxL + 11) + 64 * lev ≤ R.locals) (hn : As.length = n) (hsz : ls.size = nL) (hstk : stk = As.reverse ++ rest) (hW : (rest.map fun v => v.category).sum ≤ 8) (hdg : decode cc pc = .ok (.invokestatic idx, 3)) (hf : cells ≤ R.cells ∧ slots ≤ R.slots)
    (kk : ∀ H locs, gG S D cy h A s st' H locs → W p l e R s m args below meth c H locs cells slots Q (F0 m (pc + 3) ls rest)) : W p l e R s m args below meth c H locs cells slots Q (F0 m pc ls stk) := by
  have hsub := gA_sub C G
  refine va_callv (g_runS C G (hM H.size) ok hF hL hn hsz hstk hW hdg hf) G.2 (fun q _ h => hsub q h) hsub (fun u t H1 locs1 ht hvm hw hB hz1 hk1 hS => ?_)
  rw [ht] at hB
  exact kk H1 locs1 ⟨hB, hS⟩
-- the ends
theorem g_iret (C : gC p s m args c cc nL own S D cy h A) (G : gG S D cy h A s st H locs) {v : Int32} (hr : meth.sig.returnType = some .int) (hlocks : meth.locks = false) (hdg : decode cc pc = .ok (.ireturn, 1)) : W p l e R s m args below meth c H locs 0 0 (MQ below (gQi S D cy h A v st) args s 0 0 A) (F0 m pc ls [.int v]) := by
  obtain ⟨hx, hb, -⟩ := C
  exact W.iret hx hb hr (fun t ht hW => ⟨⟨v, (), rfl, rfl, by show va_P _ _ _ t.heap; rw [ht]; exact G.1⟩, G.2.F ht⟩) G.2.2.2 hdg hlocks
theorem g_zret (C : gC p s m args c cc nL own S D cy h A) (G : gG S D cy h A s st H locs) {v : Int32} (hv : v = 0 ∨ v = 1) (hr : meth.sig.returnType = some .boolean) (hlocks : meth.locks = false) (hdg : decode cc pc = .ok (.ireturn, 1)) : W p l e R s m args below meth c H locs 0 0 (MQ below (gQi S D cy h A v st) args s 0 0 A) (F0 m pc ls [.int v]) := by
  obtain ⟨hx, hb, -⟩ := C
  exact W.zret hx hb hr (by rcases hv with rfl | rfl <;> rfl) (fun t ht hW => ⟨⟨v, (), rfl, rfl, by show va_P _ _ _ t.heap; rw [ht]; exact G.1⟩, G.2.F ht⟩) G.2.2.2 hdg hlocks
theorem g_lret (C : gC p s m args c cc nL own S D cy h A) (G : gG S D cy h A s st H locs) {v : Int64} (hr : meth.sig.returnType = some .long) (hlocks : meth.locks = false) (hdg : decode cc pc = .ok (.lreturn, 1)) : W p l e R s m args below meth c H locs 0 0 (MQ below (gQl S D cy h A v st) args s 0 0 A) (F0 m pc ls [.long v]) := by
  obtain ⟨hx, hb, -⟩ := C
  exact W.lret hx hb hr (fun t ht hW => ⟨⟨v, (), rfl, rfl, by show va_P _ _ _ t.heap; rw [ht]; exact G.1⟩, G.2.F ht⟩) G.2.2.2 hdg hlocks
theorem g_vret (C : gC p s m args c cc nL own S D cy h A) (G : gG S D cy h A s st H locs) (hr : meth.sig.returnType = none) (hlocks : meth.locks = false) (hdg : decode cc pc = .ok (.return_, 1)) : W p l e R s m args below meth c H locs 0 0 (MQ below (gQv S D cy h A st) args s 0 0 A) (F0 m pc ls []) := by
  obtain ⟨hx, hb, -⟩ := C
  exact W.vret hx hb hr (fun t ht hW => ⟨⟨(), rfl, trivial, by show va_P _ _ _ t.heap; rw [ht]; exact G.1⟩, G.2.F ht⟩) G.2.2.2 hdg hlocks
end GC
-- the beginnings
theorem g_start {l : Launch} {S : Shape} {D : va_G} {cy : ClassId} {h : Nat → Nat} {y : MethodName} {cc : ByteArray} {maxL : Nat} {ret : Option FieldType} {lev : Nat} {st : GS} {av : List Value} {Qc : (Nat → Prop) → Array Value → State → Outcome → State → Prop} (hy : plainName y.cls = true) (hle : (lg_sl av).length ≤ maxL)
    (body : ∀ (p : Program) (e : Env) (s : State) (m : MethodId) (args : Array Value) (below : List Frame) (meth : Method) (c : Code) (A : Nat → Prop) (ls : Array Slot), gC p s m args c cc maxL y.cls S D cy h A → meth.sig.returnType = ret → meth.locks = false → gG S D cy h A s st s.heap [] → lv_has ls maxL (lv_args 0 av) → W p l e (gR lev) s m args below meth c s.heap [] 0 0 (MQ below (Qc A) args s 0 0 A) (F0 m 0 ls [])) :
    ∀ sz, Met l y (Cond.code y cc maxL ret :: tb) (gR lev) (gPc S D cy h sz st av) (Qc (gA S h sz)) 0 0 (gA S h sz) := by
  intro sz
  refine Met.ofW (cc := cc) (maxL := maxL) (ret := ret) hy rfl ?_
  intro p e s m args below meth c s₁ B hml hv
  obtain ⟨rfl, hsz, hP, hK, hD0, hN⟩ := hv
  subst hsz
  have hts := atoms_spec (ws := Cond.code y cc maxL ret :: tb) B.pre
  have hl := lv_entry av (n := maxL) hle
  rw [lg_entry_eq]
  have hA : ∀ k, k < S.1 → gA S h s.heap.size (h k) := fun k hk => Or.inl ⟨k, hk, rfl⟩
  exact body p e s m _ below meth c (gA S h s.heap.size) _ ⟨B.exec, B.bytes, hml, findClass_of_methodNamed B.named, fun w hw => hts w (List.mem_cons_of_mem _ hw), hK, gD_any hD0 hA, hN, fun _ h => h⟩ B.returns B.notSynchronized ⟨hP, va_S.rf⟩ hl
theorem gMi_of {l : Launch} {S : Shape} {D : va_G} {cy : ClassId} {h : Nat → Nat} {y : MethodName} {cc : ByteArray} {maxL : Nat} {ret : Option FieldType} {lev : Nat} {st st' : GS} {av : List Value} {r : Int32} (hy : plainName y.cls = true) (hle : (lg_sl av).length ≤ maxL)
    (body : ∀ (p : Program) (e : Env) (s : State) (m : MethodId) (args : Array Value) (below : List Frame) (meth : Method) (c : Code) (A : Nat → Prop) (ls : Array Slot), gC p s m args c cc maxL y.cls S D cy h A → meth.sig.returnType = ret → meth.locks = false → gG S D cy h A s st s.heap [] → lv_has ls maxL (lv_args 0 av) → W p l e (gR lev) s m args below meth c s.heap [] 0 0 (MQ below (gQi S D cy h A r st') args s 0 0 A) (F0 m 0 ls [])) :
    gMi l S D cy h y cc maxL ret lev st av r st' := g_start (Qc := fun A => gQi S D cy h A r st') hy hle body
theorem gMl_of {l : Launch} {S : Shape} {D : va_G} {cy : ClassId} {h : Nat → Nat} {y : MethodName} {cc : ByteArray} {maxL : Nat} {ret : Option FieldType} {lev : Nat} {st st' : GS} {av : List Value} {r : Int64} (hy : plainName y.cls = true) (hle : (lg_sl av).length ≤ maxL)
    (body : ∀ (p : Program) (e : Env) (s : State) (m : MethodId) (args : Array Value) (below : List Frame) (meth : Method) (c : Code) (A : Nat → Prop) (ls : Array Slot), gC p s m args c cc maxL y.cls S D cy h A → meth.sig.returnType = ret → meth.locks = false → gG S D cy h A s st s.heap [] → lv_has ls maxL (lv_args 0 av) → W p l e (gR lev) s m args below meth c s.heap [] 0 0 (MQ below (gQl S D cy h A r st') args s 0 0 A) (F0 m 0 ls [])) :
    gMl l S D cy h y cc maxL ret lev st av r st' := g_start (Qc := fun A => gQl S D cy h A r st') hy hle body
theorem gMv_of {l : Launch} {S : Shape} {D : va_G} {cy : ClassId} {h : Nat → Nat} {y : MethodName} {cc : ByteArray} {maxL : Nat} {ret : Option FieldType} {lev : Nat} {st st' : GS} {av : List Value} (hy : plainName y.cls = true) (hle : (lg_sl av).length ≤ maxL)
    (body : ∀ (p : Program) (e : Env) (s : State) (m : MethodId) (args : Array Value) (below : List Frame) (meth : Method) (c : Code) (A : Nat → Prop) (ls : Array Slot), gC p s m args c cc maxL y.cls S D cy h A → meth.sig.returnType = ret → meth.locks = false → gG S D cy h A s st s.heap [] → lv_has ls maxL (lv_args 0 av) → W p l e (gR lev) s m args below meth c s.heap [] 0 0 (MQ below (gQv S D cy h A st') args s 0 0 A) (F0 m 0 ls [])) :
    gMv l S D cy h y cc maxL ret lev st av st' := g_start (Qc := fun A => gQv S D cy h A st') hy hle body
-- THE FUNCTIONS' OWN WORDS: what the walked methods compute, in Option
def bI1 {α β : Type} (x : Option α) (k : α → Option β) : Option β := match x with
  | none => none
  | some a => k a
def bI2 {α β γ : Type} (x : Option (α × β)) (k : α → β → Option γ) : Option γ := match x with
  | none => none
  | some q => k q.1 q.2
def bI3 {α β γ δ : Type} (x : Option (α × β × γ)) (k : α → β → γ → Option δ) : Option δ := match x with
  | none => none
  | some q => k q.1 q.2.1 q.2.2
def bI4 {α β γ δ ε : Type} (x : Option (α × β × γ × δ)) (k : α → β → γ → δ → Option ε) : Option ε := match x with
  | none => none
  | some q => k q.1 q.2.1 q.2.2.1 q.2.2.2
def bI5 {α β γ δ ε ζ : Type} (x : Option (α × β × γ × δ × ε)) (k : α → β → γ → δ → ε → Option ζ) : Option ζ := match x with
  | none => none
  | some q => k q.1 q.2.1 q.2.2.1 q.2.2.2.1 q.2.2.2.2
def bI6 {α β γ δ ε η ζ : Type} (x : Option (α × β × γ × δ × ε × η)) (k : α → β → γ → δ → ε → η → Option ζ) : Option ζ := match x with
  | none => none
  | some q => k q.1 q.2.1 q.2.2.1 q.2.2.2.1 q.2.2.2.2.1 q.2.2.2.2.2
theorem bI1_some {α β : Type} {x : Option α} {k : α → Option β} {r : β} (h : bI1 x k = some r) : ∃ a, x = some a ∧ k a = some r := by
  cases x with
  | none => cases h
  | some q => exact ⟨_, rfl, h⟩
theorem bI2_some {α β γ : Type} {x : Option (α × β)} {k : α → β → Option γ} {r : γ} (h : bI2 x k = some r) : ∃ a b, x = some (a, b) ∧ k a b = some r := by
  cases x with
  | none => cases h
  | some q => exact ⟨_, _, rfl, h⟩
theorem bI3_some {α β γ δ : Type} {x : Option (α × β × γ)} {k : α → β → γ → Option δ} {r : δ} (h : bI3 x k = some r) : ∃ a b c, x = some (a, b, c) ∧ k a b c = some r := by
  cases x with
  | none => cases h
  | some q => exact ⟨_, _, _, rfl, h⟩
theorem bI4_some {α β γ δ ε : Type} {x : Option (α × β × γ × δ)} {k : α → β → γ → δ → Option ε} {r : ε} (h : bI4 x k = some r) : ∃ a b c d, x = some (a, b, c, d) ∧ k a b c d = some r := by
  cases x with
  | none => cases h
  | some q => exact ⟨_, _, _, _, rfl, h⟩
theorem bI5_some {α β γ δ ε ζ : Type} {x : Option (α × β × γ × δ × ε)} {k : α → β → γ → δ → ε → Option ζ} {r : ζ} (h : bI5 x k = some r) : ∃ a b c d e, x = some (a, b, c, d, e) ∧ k a b c d e = some r := by
  cases x with
  | none => cases h
  | some q => exact ⟨_, _, _, _, _, rfl, h⟩
theorem bI6_some {α β γ δ ε η ζ : Type} {x : Option (α × β × γ × δ × ε × η)} {k : α → β → γ → δ → ε → η → Option ζ} {r : ζ} (h : bI6 x k = some r) : ∃ a b c d e f, x = some (a, b, c, d, e, f) ∧ k a b c d e f = some r := by
  cases x with
  | none => cases h
  | some q => exact ⟨_, _, _, _, _, _, rfl, h⟩
def lt_ {α β : Type} (e : α) (k : α → Option β) : Option β := k e
theorem lt_some {α β : Type} {e y : α} {k : α → Option β} {r : β} (ey : y = e) (h : lt_ e k = some r) : k y = some r := by subst ey; exact h
theorem ifP {α : Type} {c : Prop} [Decidable c] {a b : Option α} {r : α} (hc : c) (h : (if c then a else b) = some r) : a = some r := by rwa [if_pos hc] at h
theorem ifN {α : Type} {c : Prop} [Decidable c] {a b : Option α} {r : α} (hc : ¬ c) (h : (if c then a else b) = some r) : b = some r := by rwa [if_neg hc] at h
/-- an index is within, else nothing -/
def gd {β : Type} (i : Int32) (n : Nat) (k : Option β) : Option β := if i < 0 then none else if i.toNatClampNeg < n then k else none
theorem gd_some {β : Type} {i : Int32} {n : Nat} {k : Option β} {r : β} (h : gd i n k = some r) : vp_in i n ∧ k = some r := by
  unfold gd at h
  split at h
  · cases h
  · split at h
    · exact ⟨fun q => q.elim (by assumption) (fun q => by omega), h⟩
    · cases h
/-- a condition that the walk needs, else nothing -/
def gq {β : Type} (c : Prop) [Decidable c] (k : Option β) : Option β := if c then k else none
theorem gq_some {β : Type} {c : Prop} [Decidable c] {k : Option β} {r : β} (h : gq c k = some r) : c ∧ k = some r := by
  unfold gq at h
  split at h
  · exact ⟨by assumption, h⟩
  · cases h
/-- a loop: the body goes on with a state, or ends with an answer -/
def lp {σ ρ : Type} (b : σ → Option (σ ⊕ ρ)) : Nat → σ → Option ρ
  | 0, _ => none
  | n + 1, s => match b s with
    | none => none
    | some (.inl s') => lp b n s'
    | some (.inr r) => some r
theorem lp_mono {σ ρ : Type} {b : σ → Option (σ ⊕ ρ)} {n : Nat} {s : σ} {r : ρ} (h : lp b n s = some r) : ∀ k, lp b (n + k) s = some r := by
  intro k
  induction n generalizing s with
  | zero => cases h
  | succ n ih =>
    rw [Nat.succ_add]
    unfold lp at h ⊢
    cases hb : b s with
    | none => rw [hb] at h; cases h
    | some q =>
      rw [hb] at h
      cases q with
      | inl s' => exact ih h
      | inr r' => exact h
theorem lp_det {σ ρ : Type} {b : σ → Option (σ ⊕ ρ)} {n m : Nat} {s : σ} {r r' : ρ} (h : lp b n s = some r) (h' : lp b m s = some r') : r = r' := by
  have h1 := lp_mono h m
  have h2 := lp_mono h' n
  rw [Nat.add_comm] at h2
  rw [h1] at h2
  exact Option.some.inj h2
noncomputable def lpx {σ ρ : Type} (b : σ → Option (σ ⊕ ρ)) (s : σ) : Option ρ := Classical.epsilon (fun o : Option ρ => (∃ n, lp b n s = o ∧ o ≠ none) ∨ ((∀ n, lp b n s = none) ∧ o = none))
theorem lpx_spec {σ ρ : Type} (b : σ → Option (σ ⊕ ρ)) (s : σ) : (∃ n, lp b n s = lpx b s ∧ lpx b s ≠ none) ∨ ((∀ n, lp b n s = none) ∧ lpx b s = none) := by
  have hex : ∃ o : Option ρ, (∃ n, lp b n s = o ∧ o ≠ none) ∨ ((∀ n, lp b n s = none) ∧ o = none) := by
    by_cases h : ∃ n, lp b n s ≠ none
    · obtain ⟨n, hn⟩ := h
      exact ⟨_, Or.inl ⟨n, rfl, hn⟩⟩
    · exact ⟨none, Or.inr ⟨fun n => Classical.byContradiction (fun q => h ⟨n, q⟩), rfl⟩⟩
  exact Classical.epsilon_spec hex
theorem lpx_some {σ ρ : Type} {b : σ → Option (σ ⊕ ρ)} {s : σ} {r : ρ} (h : lpx b s = some r) : ∃ n, lp b n s = some r := by
  rcases lpx_spec b s with ⟨n, h1, -⟩ | ⟨-, h2⟩
  · exact ⟨n, h1.trans h⟩
  · rw [h] at h2; cases h2
theorem lpx_of {σ ρ : Type} {b : σ → Option (σ ⊕ ρ)} {s : σ} {r : ρ} {n : Nat} (h : lp b n s = some r) : lpx b s = some r := by
  rcases lpx_spec b s with ⟨m, h1, h2⟩ | ⟨h1, -⟩
  · cases hq : lpx b s with
    | none => exact absurd hq h2
    | some r' => rw [hq] at h1; rw [lp_det h1 h]
  · rw [h1 n] at h; cases h
theorem lpx_go {σ ρ : Type} {b : σ → Option (σ ⊕ ρ)} {s s' : σ} (h : b s = some (.inl s')) : lpx b s = lpx b s' := by
  cases hq : lpx b s' with
  | some r =>
    obtain ⟨n, hn⟩ := lpx_some hq
    exact lpx_of (n := n + 1) (by unfold lp; rw [h]; exact hn)
  | none =>
    cases hz : lpx b s with
    | none => rfl
    | some r =>
      obtain ⟨n, hn⟩ := lpx_some hz
      cases n with
      | zero => cases hn
      | succ n =>
        unfold lp at hn
        rw [h] at hn
        rw [lpx_of hn] at hq
        cases hq
theorem lpx_end {σ ρ : Type} {b : σ → Option (σ ⊕ ρ)} {s : σ} {r : ρ} (h : b s = some (.inr r)) : lpx b s = some r := lpx_of (n := 1) (by unfold lp; rw [h])
theorem lp_s {σ ρ : Type} {b : σ → Option (σ ⊕ ρ)} {n : Nat} {s : σ} {r : ρ} (h : lp b (n + 1) s = some r) : (∃ s', b s = some (.inl s') ∧ lp b n s' = some r) ∨ b s = some (.inr r) := by
  unfold lp at h
  cases hb : b s with
  | none => rw [hb] at h; cases h
  | some q =>
    rw [hb] at h
    cases q with
    | inl s' => exact Or.inl ⟨s', rfl, h⟩
    | inr r' => exact Or.inr (by rw [Option.some.inj h])
end
section
def imax (x y : Int32) : Int32 := if x < y then y else x
def irem (x y : Int32) : Int32 := x - x / y * y
def ishl (x y : Int32) : Int32 := x <<< (y &&& 31)
def ishr (x y : Int32) : Int32 := x >>> (y &&& 31)
def iushr (x y : Int32) : Int32 := (x.toUInt32 >>> (y.toUInt32 &&& Int32.toUInt32 31)).toInt32
theorem lp_q {σ ρ : Type} {b : σ → Option (σ ⊕ ρ)} {n : Nat} {s : σ} {z : ρ} (h : lp b (n + 1) s = some z) : ∃ q, b s = some q ∧ (∀ s', q = .inl s' → lp b n s' = some z) ∧ (∀ r, q = .inr r → r = z) := by
  unfold lp at h
  cases hb : b s with
  | none => rw [hb] at h; cases h
  | some q =>
    rw [hb] at h
    refine ⟨q, rfl, fun s' e => ?_, fun r e => ?_⟩
    · subst e; exact h
    · subst e; exact Option.some.inj h
def uc1 {α ω : Type} (f : α → ω) : α → ω := f
def uc2 {α β ω : Type} (f : α → β → ω) : α × β → ω := fun q => f q.1 q.2
def uc3 {α β γ ω : Type} (f : α → β → γ → ω) : α × β × γ → ω := fun q => f q.1 q.2.1 q.2.2
def uc4 {α β γ δ ω : Type} (f : α → β → γ → δ → ω) : α × β × γ × δ → ω := fun q => f q.1 q.2.1 q.2.2.1 q.2.2.2
def uc5 {α β γ δ ε ω : Type} (f : α → β → γ → δ → ε → ω) : α × β × γ × δ × ε → ω := fun q => f q.1 q.2.1 q.2.2.1 q.2.2.2.1 q.2.2.2.2
def uc6 {α β γ δ ε ζ ω : Type} (f : α → β → γ → δ → ε → ζ → ω) : α × β × γ × δ × ε × ζ → ω := fun q => f q.1 q.2.1 q.2.2.1 q.2.2.2.1 q.2.2.2.2.1 q.2.2.2.2.2
theorem tab_out {x : Int32} (n : Nat) (hn : n < 1000) (h : ∀ j, j ≤ n → ¬ x = nI j) : x.toInt < 0 ∨ (n : Int) < x.toInt := by
  rcases Int.lt_or_le x.toInt 0 with h1 | h1
  · exact Or.inl h1
  · rcases Int.lt_or_le (n : Int) x.toInt with h2 | h2
    · exact Or.inr h2
    · exfalso
      refine h x.toInt.toNat (by omega) ?_
      apply Int32.toInt_inj.mp
      rw [nI_toInt (by omega)]
      omega
theorem tab_2 {x : Int32} (c0 : ¬ x = 0) (c1 : ¬ x = 1) (c2 : ¬ x = 2) : x.toInt < 0 ∨ 2 < x.toInt := tab_out 2 (by omega) (fun j hj => by
  match j, hj with
  | 0, _ => exact c0
  | 1, _ => exact c1
  | 2, _ => exact c2)
theorem tab_4 {x : Int32} (c0 : ¬ x = 0) (c1 : ¬ x = 1) (c2 : ¬ x = 2) (c3 : ¬ x = 3) (c4 : ¬ x = 4) : x.toInt < 0 ∨ 4 < x.toInt := tab_out 4 (by omega) (fun j hj => by
  match j, hj with
  | 0, _ => exact c0
  | 1, _ => exact c1
  | 2, _ => exact c2
  | 3, _ => exact c3
  | 4, _ => exact c4)
theorem tab_7 {x : Int32} (c0 : ¬ x = 0) (c1 : ¬ x = 1) (c2 : ¬ x = 2) (c3 : ¬ x = 3) (c4 : ¬ x = 4) (c5 : ¬ x = 5) (c6 : ¬ x = 6) (c7 : ¬ x = 7) : x.toInt < 0 ∨ 7 < x.toInt := tab_out 7 (by omega) (fun j hj => by
  match j, hj with
  | 0, _ => exact c0
  | 1, _ => exact c1
  | 2, _ => exact c2
  | 3, _ => exact c3
  | 4, _ => exact c4
  | 5, _ => exact c5
  | 6, _ => exact c6
  | 7, _ => exact c7)
theorem tab_9 {x : Int32} (c0 : ¬ x = 0) (c1 : ¬ x = 1) (c2 : ¬ x = 2) (c3 : ¬ x = 3) (c4 : ¬ x = 4) (c5 : ¬ x = 5) (c6 : ¬ x = 6) (c7 : ¬ x = 7) (c8 : ¬ x = 8) (c9 : ¬ x = 9) : x.toInt < 0 ∨ 9 < x.toInt := tab_out 9 (by omega) (fun j hj => by
  match j, hj with
  | 0, _ => exact c0
  | 1, _ => exact c1
  | 2, _ => exact c2
  | 3, _ => exact c3
  | 4, _ => exact c4
  | 5, _ => exact c5
  | 6, _ => exact c6
  | 7, _ => exact c7
  | 8, _ => exact c8
  | 9, _ => exact c9)
theorem vin_lit {i : Int32} {j n : Nat} (hj : i.toNatClampNeg = j) (h0 : ¬ i < 0) (hn : j < n) : vp_in i n := fun q => q.elim h0 (fun z => by omega)
section GX
variable {p : Program} {l : Launch} {e : Env} {R : Room} {s : State} {m : MethodId} {args : Array Value} {below : List Frame} {meth : Method} {c : Code} {H : Heap} {locs : List Loc} {cells slots : Nat} {Q : State → Prop}
variable {cc bytes : ByteArray} {pc nL maxL n idx lev : Nat} {ls : Array Slot} {rest As stk av : List Value} {D : va_G} {A : Nat → Prop} {own : String} {S : Shape} {cy : ClassId} {h : Nat → Nat} {st st' : GS} {y : MethodName} {ret : Option FieldType}
theorem g_irem (C : gC p s m args c cc nL own S D cy h A) {x y : Int32} (hdg : decode cc pc = .ok (.irem, 1)) (hne : ¬ y = 0)
    (k : W p l e R s m args below meth c H locs cells slots Q (F0 m (pc + 1) ls (.int (irem x y) :: rest))) : W p l e R s m args below meth c H locs cells slots Q (F0 m pc ls (.int y :: .int x :: rest)) := lv_irem C.1 C.2.1 hdg hne k
theorem g_ishl (C : gC p s m args c cc nL own S D cy h A) {x y : Int32} (hdg : decode cc pc = .ok (.ishl, 1))
    (k : W p l e R s m args below meth c H locs cells slots Q (F0 m (pc + 1) ls (.int (ishl x y) :: rest))) : W p l e R s m args below meth c H locs cells slots Q (F0 m pc ls (.int y :: .int x :: rest)) := lv_ishl C.1 C.2.1 hdg k
theorem g_ishr (C : gC p s m args c cc nL own S D cy h A) {x y : Int32} (hdg : decode cc pc = .ok (.ishr, 1))
    (k : W p l e R s m args below meth c H locs cells slots Q (F0 m (pc + 1) ls (.int (ishr x y) :: rest))) : W p l e R s m args below meth c H locs cells slots Q (F0 m pc ls (.int y :: .int x :: rest)) := lv_ishr C.1 C.2.1 hdg k
theorem g_iushr (C : gC p s m args c cc nL own S D cy h A) {x y : Int32} (hdg : decode cc pc = .ok (.iushr, 1))
    (k : W p l e R s m args below meth c H locs cells slots Q (F0 m (pc + 1) ls (.int (iushr x y) :: rest))) : W p l e R s m args below meth c H locs cells slots Q (F0 m pc ls (.int y :: .int x :: rest)) := lv_iushr C.1 C.2.1 hdg rfl k
theorem g_max (C : gC p s m args c cc nL own S D cy h A) {x y : Int32} (hml : ls.size = nL) (hlink : Cond.methodLink own idx Lib.Math.max.name ∈ tb) (hstat : Cond.static Lib.Math.max.name ∈ tb) (hini : Cond.initialized "java/lang/Math" ∈ tb) (hcode : Cond.code Lib.Math.max.name Lib.Math.max.code 2 (some .int) ∈ tb) (hframes : 1 ≤ R.frames) (hlocals : (rest.map fun v => v.category).sum + 13 ≤ R.locals) (hc : cells ≤ R.cells) (hs : slots ≤ R.slots) (hdg : decode cc pc = .ok (.invokestatic idx, 3))
    (kk : W p l e R s m args below meth c H locs cells slots Q (F0 m (pc + 3) ls (.int (imax x y) :: rest))) : W p l e R s m args below meth c H locs cells slots Q (F0 m pc ls (.int y :: .int x :: rest)) := by
  obtain ⟨hx, hb, hmx, hown, hts, -⟩ := C
  exact va_mmax hx hb (hmx.trans hml.symm) hown (hts _ hlink) (hts _ hstat) (hts _ hini) (hts _ hcode) hframes hlocals hc hs hdg kk
theorem g_min (C : gC p s m args c cc nL own S D cy h A) {x y : Int32} (hml : ls.size = nL) (hlink : Cond.methodLink own idx Lib.Math.min.name ∈ tb) (hstat : Cond.static Lib.Math.min.name ∈ tb) (hini : Cond.initialized "java/lang/Math" ∈ tb) (hcode : Cond.code Lib.Math.min.name Lib.Math.min.code 2 (some .int) ∈ tb) (hframes : 1 ≤ R.frames) (hlocals : (rest.map fun v => v.category).sum + 13 ≤ R.locals) (hc : cells ≤ R.cells) (hs : slots ≤ R.slots) (hdg : decode cc pc = .ok (.invokestatic idx, 3))
    (kk : W p l e R s m args below meth c H locs cells slots Q (F0 m (pc + 3) ls (.int (if y < x then y else x) :: rest))) : W p l e R s m args below meth c H locs cells slots Q (F0 m pc ls (.int y :: .int x :: rest)) := by
  obtain ⟨hx, hb, hmx, hown, hts, -⟩ := C
  exact va_mmin hx hb (hmx.trans hml.symm) hown (hts _ hlink) (hts _ hstat) (hts _ hini) (hts _ hcode) hframes hlocals hc hs hdg kk
/-- the two static rows -/
theorem g_stR (C : gC p s m args c cc nL own S D cy h A) (G : gG S D cy h A s st H locs) (hlink : Cond.fieldLink own idx "LaneOrder" "STEPS_RIGHT" "[I" ∈ tb) (hdg : decode cc pc = .ok (.getstatic idx, 3))
    (kk : W p l e R s m args below meth c H locs cells slots Q (F0 m (pc + 3) ls (.ref (h 1002) :: rest))) : W p l e R s m args below meth c H locs cells slots Q (F0 m pc ls rest) := by
  obtain ⟨hx, hb, hmx, hown, hts, -, -, hN, -⟩ := C
  exact va_gets hx hb hN.2.1.1 G.2 hown (hts _ hlink) (fun _ h9 => h9) hdg kk
theorem g_stD (C : gC p s m args c cc nL own S D cy h A) (G : gG S D cy h A s st H locs) (hlink : Cond.fieldLink own idx "LaneOrder" "STEPS_DOWN" "[I" ∈ tb) (hdg : decode cc pc = .ok (.getstatic idx, 3))
    (kk : W p l e R s m args below meth c H locs cells slots Q (F0 m (pc + 3) ls (.ref (h 1003) :: rest))) : W p l e R s m args below meth c H locs cells slots Q (F0 m pc ls rest) := by
  obtain ⟨hx, hb, hmx, hown, hts, -, -, hN, -⟩ := C
  exact va_gets hx hb hN.2.2.1.1 G.2 hown (hts _ hlink) (fun _ h9 => h9) hdg kk
theorem g_stRld (C : gC p s m args c cc nL own S D cy h A) (G : gG S D cy h A s st H locs) {i : Int32} {j : Nat} (hj : i.toNatClampNeg = j) (hin : vp_in i 4) (hdg : decode cc pc = .ok (.iaload, 1))
    (kk : W p l e R s m args below meth c H locs cells slots Q (F0 m (pc + 1) ls (.int (stR j) :: rest))) : W p l e R s m args below meth c H locs cells slots Q (F0 m pc ls (.int i :: .ref (h 1002) :: rest)) := by
  obtain ⟨hx, hb, hmx, hown, hts, -, -, hN, -⟩ := C
  subst hj
  exact va_ti hx hb hN.2.1.2 G.2 hin rfl hdg kk
theorem g_stDld (C : gC p s m args c cc nL own S D cy h A) (G : gG S D cy h A s st H locs) {i : Int32} {j : Nat} (hj : i.toNatClampNeg = j) (hin : vp_in i 4) (hdg : decode cc pc = .ok (.iaload, 1))
    (kk : W p l e R s m args below meth c H locs cells slots Q (F0 m (pc + 1) ls (.int (stD j) :: rest))) : W p l e R s m args below meth c H locs cells slots Q (F0 m pc ls (.int i :: .ref (h 1003) :: rest)) := by
  obtain ⟨hx, hb, hmx, hown, hts, -, -, hN, -⟩ := C
  subst hj
  exact va_ti hx hb hN.2.2.1.2 G.2 hin rfl hdg kk
theorem g_stRlen (C : gC p s m args c cc nL own S D cy h A) (G : gG S D cy h A s st H locs) (hdg : decode cc pc = .ok (.arraylength, 1))
    (kk : W p l e R s m args below meth c H locs cells slots Q (F0 m (pc + 1) ls (.int 4 :: rest))) : W p l e R s m args below meth c H locs cells slots Q (F0 m pc ls (.ref (h 1002) :: rest)) := by
  obtain ⟨hx, hb, hmx, hown, hts, -, -, hN, -⟩ := C
  exact va_tlen hx hb hN.2.1.2 G.2 rfl hdg kk
/-- the text constant -/
theorem g_ldcS (C : gC p s m args c cc nL own S D cy h A) (how : own = "LaneOrder$Text") (hdg : decode cc pc = .ok (.ldc 60, 2))
    (kk : W p l e R s m args below meth c H locs cells slots Q (F0 m (pc + 2) ls (.ref (h 1000) :: rest))) : W p l e R s m args below meth c H locs cells slots Q (F0 m pc ls rest) := by
  obtain ⟨hx, hb, hmx, hown, hts, -, -, hN, -⟩ := C
  subst how
  exact va_ldcS hx hb hown hN.2.2.2.1.1 hdg kk
theorem g_sval (C : gC p s m args c cc nL own S D cy h A) (G : gG S D cy h A s st H locs) (hlink : Cond.fieldLink own idx "java/lang/String" "value" "[B" ∈ tb) (hdg : decode cc pc = .ok (.getfield idx, 3))
    (kk : W p l e R s m args below meth c H locs cells slots Q (F0 m (pc + 3) ls (.ref (h 1001) :: rest))) : W p l e R s m args below meth c H locs cells slots Q (F0 m pc ls (.ref (h 1000) :: rest)) := by
  obtain ⟨hx, hb, hmx, hown, hts, -, -, hN, -⟩ := C
  exact vk_getf hx hb (hN.2.2.2.1.2.1 0 (by decide)).2.2.1 G.2 hown (hts _ hlink) (fun _ h9 => h9) hdg kk
theorem g_scod (C : gC p s m args c cc nL own S D cy h A) (G : gG S D cy h A s st H locs) (hlink : Cond.fieldLink own idx "java/lang/String" "coder" "B" ∈ tb) (hdg : decode cc pc = .ok (.getfield idx, 3))
    (kk : W p l e R s m args below meth c H locs cells slots Q (F0 m (pc + 3) ls (.int 0 :: rest))) : W p l e R s m args below meth c H locs cells slots Q (F0 m pc ls (.ref (h 1000) :: rest)) := by
  obtain ⟨hx, hb, hmx, hown, hts, -, -, hN, -⟩ := C
  exact vk_getf hx hb (hN.2.2.2.1.2.1 0 (by decide)).2.1 G.2 hown (hts _ hlink) (fun _ h9 => h9) hdg kk
theorem g_scs (C : gC p s m args c cc nL own S D cy h A) (G : gG S D cy h A s st H locs) (hlink : Cond.fieldLink own idx "java/lang/String" "COMPACT_STRINGS" "Z" ∈ tb) (hdg : decode cc pc = .ok (.getstatic idx, 3))
    (kk : W p l e R s m args below meth c H locs cells slots Q (F0 m (pc + 3) ls (.int 1 :: rest))) : W p l e R s m args below meth c H locs cells slots Q (F0 m pc ls rest) := by
  obtain ⟨hx, hb, hmx, hown, hts, -, -, hN, -⟩ := C
  exact va_gets hx hb hN.2.2.2.2 G.2 hown (hts _ hlink) (fun _ h9 => h9) hdg kk
def byS (j : Nat) : Int32 := ([98, 116, 110, 102, 99] : List Int32).getD j 0
theorem g_sbld (C : gC p s m args c cc nL own S D cy h A) (G : gG S D cy h A s st H locs) {i : Int32} {j : Nat} (hj : i.toNatClampNeg = j) (hin : vp_in i 5) (hdg : decode cc pc = .ok (.baload, 1))
    (kk : W p l e R s m args below meth c H locs cells slots Q (F0 m (pc + 1) ls (.int (byS j) :: rest))) : W p l e R s m args below meth c H locs cells slots Q (F0 m pc ls (.int i :: .ref (h 1001) :: rest)) := by
  obtain ⟨hx, hb, hmx, hown, hts, -, -, hN, -⟩ := C
  subst hj
  exact va_tb hx hb (hN.2.2.2.1.2.1 0 (by decide)).2.2.2 G.2 hin rfl hdg kk
theorem g_sblen (C : gC p s m args c cc nL own S D cy h A) (G : gG S D cy h A s st H locs) (hdg : decode cc pc = .ok (.arraylength, 1))
    (kk : W p l e R s m args below meth c H locs cells slots Q (F0 m (pc + 1) ls (.int 5 :: rest))) : W p l e R s m args below meth c H locs cells slots Q (F0 m pc ls (.ref (h 1001) :: rest)) := by
  obtain ⟨hx, hb, hmx, hown, hts, -, -, hN, -⟩ := C
  exact va_tlen hx hb (hN.2.2.2.1.2.1 0 (by decide)).2.2.2 G.2 rfl hdg kk
/-- a call on the text constant -/
theorem g_callSt (C : gC p s m args c cc nL own S D cy h A) (G : gG S D cy h A s st H locs) {r : Int32} (hM : gMi l S D cy h y bytes maxL ret lev st (.ref (h 1000) :: As) r st') (hy : y.cls = "java/lang/String") (ok : vOK own idx y bytes maxL ret n)
    (hF : 2 * lev + 1 ≤ R.frames) (hL : 8 + (maxL + 11) + 64 * lev ≤ R.locals) (hn : As.length = n) (hsz : ls.size = nL) (hstk : stk = As.reverse ++ .ref (h 1000) :: rest) (hW : (rest.map fun v => v.category).sum ≤ 8) (hdg : decode cc pc = .ok (.invokevirtual idx, 3)) (hf : cells ≤ R.cells ∧ slots ≤ R.slots)
    (kk : ∀ H locs, gG S D cy h A s st' H locs → W p l e R s m args below meth c H locs cells slots Q (F0 m (pc + 3) ls (.int r :: rest))) : W p l e R s m args below meth c H locs cells slots Q (F0 m pc ls stk) := by
  have hsub := gA_sub C G
  have hPc := gPc_at C G (.ref (h 1000) :: As)
  obtain ⟨hx, hb, hml, hown, hts, hK, hD, hN, hA⟩ := C
  obtain ⟨o1, o2, o3, o4, o5, o6, o7, o8⟩ := ok
  have cw : CallW R s args own y.cls idx y bytes maxL ret (Cond.code y bytes maxL ret :: tb) (gR lev) 0 0 n := by
    refine cwV (Ts := tb) (ws' := tb) n hts (tb_good (fun _ h => h) (fun w hw => ?_)) rfl rfl rfl ⟨rfl, o6, o7, o8⟩ ⟨hF, hL⟩
    rcases List.mem_append.mp hw with h | h
    · simp only [List.mem_cons, List.not_mem_nil, or_false] at h
      rcases h with h | h | h | h <;> subst h <;> assumption
    · exact tb_code (ws := []) o5 h
  refine va_calli (va_runV (n := n) (C := y.cls) (As := As) (rest := rest) ⟨hx, hb, hml, hown, hts⟩ (hM H.size) cw ⟨gPc_blind, ?_, hPc⟩ rfl hn hsz hstk (lv_room hW) hdg hf) G.2 (fun q _ h => hsub q h) hsub (fun r1 u t H1 locs1 ht hvm hw hB hz1 hk1 hS => ?_)
  · rw [hy]
    exact vk_recv hN.2.2.2.1.2 (i := 0) (by decide) G.2
  · subst hw
    rw [ht] at hB
    exact kk H1 locs1 ⟨hB, hS⟩
end GX
end
