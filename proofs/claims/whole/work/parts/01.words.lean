-- ===== PART A: goes FIRST, ahead of the names: the tables' words, and 'selects' of the private methods out of them =====
/-- a private method of a class that the tables say can be made, by its rows of tables_1 -/
def lw_okq (q : MethodName × Nat) : Prop := (q.1.cls ≠ "java/lang/invoke/MethodHandle" ∧ q.1.cls ≠ "java/lang/invoke/VarHandle") ∧ Cond.instantiable q.1.cls q.2 ∈ tables_1 ∧ Cond.privateMethod q.1 ∈ tables_1 ∧ Cond.instanceMethod q.1 ∈ tables_1
theorem lw_p0 : lw_okq (⟨"FourPalms$Orders", "makeAll", "(I)V"⟩, 3) := ⟨⟨by decide +kernel, by decide +kernel⟩, List.mem_of_getElem? (i := 272) (by decide +kernel), List.mem_of_getElem? (i := 278) (by decide +kernel), List.mem_of_getElem? (i := 279) (by decide +kernel)⟩
theorem lw_p1 : lw_okq (⟨"FourPalms$Orders", "makeRounds", "(I)V"⟩, 3) := ⟨⟨by decide +kernel, by decide +kernel⟩, List.mem_of_getElem? (i := 272) (by decide +kernel), List.mem_of_getElem? (i := 282) (by decide +kernel), List.mem_of_getElem? (i := 283) (by decide +kernel)⟩
theorem lw_p2 : lw_okq (⟨"FourPalms$Orders", "slotsAhead", "(III)I"⟩, 3) := ⟨⟨by decide +kernel, by decide +kernel⟩, List.mem_of_getElem? (i := 272) (by decide +kernel), List.mem_of_getElem? (i := 286) (by decide +kernel), List.mem_of_getElem? (i := 287) (by decide +kernel)⟩
theorem lw_p3 : lw_okq (⟨"FourPalms", "crossingAt", "(I)LFourPalms$Crossing;"⟩, 8) := ⟨⟨by decide +kernel, by decide +kernel⟩, List.mem_of_getElem? (i := 23) (by decide +kernel), List.mem_of_getElem? (i := 444) (by decide +kernel), List.mem_of_getElem? (i := 445) (by decide +kernel)⟩
theorem lw_p4 : lw_okq (⟨"FourPalms$Reader", "scan", "()V"⟩, 15) := ⟨⟨by decide +kernel, by decide +kernel⟩, List.mem_of_getElem? (i := 207) (by decide +kernel), List.mem_of_getElem? (i := 547) (by decide +kernel), List.mem_of_getElem? (i := 548) (by decide +kernel)⟩
theorem lw_p5 : lw_okq (⟨"FourPalms$Reader", "keyword", "()I"⟩, 15) := ⟨⟨by decide +kernel, by decide +kernel⟩, List.mem_of_getElem? (i := 207) (by decide +kernel), List.mem_of_getElem? (i := 554) (by decide +kernel), List.mem_of_getElem? (i := 555) (by decide +kernel)⟩
theorem lw_p6 : lw_okq (⟨"FourPalms$Reader", "isKeyword", "(I)Z"⟩, 15) := ⟨⟨by decide +kernel, by decide +kernel⟩, List.mem_of_getElem? (i := 207) (by decide +kernel), List.mem_of_getElem? (i := 558) (by decide +kernel), List.mem_of_getElem? (i := 559) (by decide +kernel)⟩
theorem lw_p7 : lw_okq (⟨"FourPalms$Reader", "step", "()I"⟩, 15) := ⟨⟨by decide +kernel, by decide +kernel⟩, List.mem_of_getElem? (i := 207) (by decide +kernel), List.mem_of_getElem? (i := 669) (by decide +kernel), List.mem_of_getElem? (i := 670) (by decide +kernel)⟩
theorem lw_p8 : lw_okq (⟨"FourPalms$Reader", "beginLine", "()I"⟩, 15) := ⟨⟨by decide +kernel, by decide +kernel⟩, List.mem_of_getElem? (i := 207) (by decide +kernel), List.mem_of_getElem? (i := 673) (by decide +kernel), List.mem_of_getElem? (i := 674) (by decide +kernel)⟩
theorem lw_p9 : lw_okq (⟨"FourPalms$Reader", "finishLine", "()I"⟩, 15) := ⟨⟨by decide +kernel, by decide +kernel⟩, List.mem_of_getElem? (i := 207) (by decide +kernel), List.mem_of_getElem? (i := 677) (by decide +kernel), List.mem_of_getElem? (i := 678) (by decide +kernel)⟩
theorem lw_p10 : lw_okq (⟨"FourPalms$Reader", "release", "(I)V"⟩, 15) := ⟨⟨by decide +kernel, by decide +kernel⟩, List.mem_of_getElem? (i := 207) (by decide +kernel), List.mem_of_getElem? (i := 681) (by decide +kernel), List.mem_of_getElem? (i := 682) (by decide +kernel)⟩
theorem lw_p11 : lw_okq (⟨"FourPalms$Reader", "beginCondition", "()I"⟩, 15) := ⟨⟨by decide +kernel, by decide +kernel⟩, List.mem_of_getElem? (i := 207) (by decide +kernel), List.mem_of_getElem? (i := 696) (by decide +kernel), List.mem_of_getElem? (i := 697) (by decide +kernel)⟩
theorem lw_p12 : lw_okq (⟨"FourPalms$Reader", "operand", "()I"⟩, 15) := ⟨⟨by decide +kernel, by decide +kernel⟩, List.mem_of_getElem? (i := 207) (by decide +kernel), List.mem_of_getElem? (i := 700) (by decide +kernel), List.mem_of_getElem? (i := 701) (by decide +kernel)⟩
theorem lw_p13 : lw_okq (⟨"FourPalms$Reader", "hold", "(I)V"⟩, 15) := ⟨⟨by decide +kernel, by decide +kernel⟩, List.mem_of_getElem? (i := 207) (by decide +kernel), List.mem_of_getElem? (i := 704) (by decide +kernel), List.mem_of_getElem? (i := 705) (by decide +kernel)⟩
theorem lw_p14 : lw_okq (⟨"FourPalms$Reader", "divisor", "()I"⟩, 15) := ⟨⟨by decide +kernel, by decide +kernel⟩, List.mem_of_getElem? (i := 207) (by decide +kernel), List.mem_of_getElem? (i := 708) (by decide +kernel), List.mem_of_getElem? (i := 709) (by decide +kernel)⟩
theorem lw_p15 : lw_okq (⟨"FourPalms$Reader", "operator", "()I"⟩, 15) := ⟨⟨by decide +kernel, by decide +kernel⟩, List.mem_of_getElem? (i := 207) (by decide +kernel), List.mem_of_getElem? (i := 712) (by decide +kernel), List.mem_of_getElem? (i := 713) (by decide +kernel)⟩
def lw_privs_1 : List (MethodName × Nat) := [(⟨"FourPalms$Orders", "makeAll", "(I)V"⟩, 3), (⟨"FourPalms$Orders", "makeRounds", "(I)V"⟩, 3), (⟨"FourPalms$Orders", "slotsAhead", "(III)I"⟩, 3), (⟨"FourPalms", "crossingAt", "(I)LFourPalms$Crossing;"⟩, 8), (⟨"FourPalms$Reader", "scan", "()V"⟩, 15), (⟨"FourPalms$Reader", "keyword", "()I"⟩, 15), (⟨"FourPalms$Reader", "isKeyword", "(I)Z"⟩, 15), (⟨"FourPalms$Reader", "step", "()I"⟩, 15), (⟨"FourPalms$Reader", "beginLine", "()I"⟩, 15), (⟨"FourPalms$Reader", "finishLine", "()I"⟩, 15), (⟨"FourPalms$Reader", "release", "(I)V"⟩, 15), (⟨"FourPalms$Reader", "beginCondition", "()I"⟩, 15), (⟨"FourPalms$Reader", "operand", "()I"⟩, 15), (⟨"FourPalms$Reader", "hold", "(I)V"⟩, 15), (⟨"FourPalms$Reader", "divisor", "()I"⟩, 15), (⟨"FourPalms$Reader", "operator", "()I"⟩, 15)]
theorem lw_r1 : ∀ q ∈ lw_privs_1, lw_okq q := List.forall_mem_cons.mpr ⟨lw_p0, List.forall_mem_cons.mpr ⟨lw_p1, List.forall_mem_cons.mpr ⟨lw_p2, List.forall_mem_cons.mpr ⟨lw_p3, List.forall_mem_cons.mpr ⟨lw_p4, List.forall_mem_cons.mpr ⟨lw_p5, List.forall_mem_cons.mpr ⟨lw_p6, List.forall_mem_cons.mpr ⟨lw_p7, List.forall_mem_cons.mpr ⟨lw_p8, List.forall_mem_cons.mpr ⟨lw_p9, List.forall_mem_cons.mpr ⟨lw_p10, List.forall_mem_cons.mpr ⟨lw_p11, List.forall_mem_cons.mpr ⟨lw_p12, List.forall_mem_cons.mpr ⟨lw_p13, List.forall_mem_cons.mpr ⟨lw_p14, List.forall_mem_cons.mpr ⟨lw_p15, fun _ h => absurd h List.not_mem_nil⟩⟩⟩⟩⟩⟩⟩⟩⟩⟩⟩⟩⟩⟩⟩⟩
theorem lw_p16 : lw_okq (⟨"FourPalms$Reader", "joiner", "()I"⟩, 15) := ⟨⟨by decide +kernel, by decide +kernel⟩, List.mem_of_getElem? (i := 207) (by decide +kernel), List.mem_of_getElem? (i := 716) (by decide +kernel), List.mem_of_getElem? (i := 717) (by decide +kernel)⟩
theorem lw_p17 : lw_okq (⟨"FourPalms$Pair", "putOne", "(LFourPalms$Crossing;III)V"⟩, 2) := ⟨⟨by decide +kernel, by decide +kernel⟩, List.mem_of_getElem? (i := 155) (by decide +kernel), List.mem_of_getElem? (i := 754) (by decide +kernel), List.mem_of_getElem? (i := 755) (by decide +kernel)⟩
theorem lw_p18 : lw_okq (⟨"FourPalms$Rule", "isSo", "(I[I[I)Z"⟩, 5) := ⟨⟨by decide +kernel, by decide +kernel⟩, List.mem_of_getElem? (i := 40) (by decide +kernel), List.mem_of_getElem? (i := 774) (by decide +kernel), List.mem_of_getElem? (i := 775) (by decide +kernel)⟩
theorem lw_p19 : lw_okq (⟨"FourPalms$Standing", "leastAwaited", "(LFourPalms$Crossing;III)I"⟩, 8) := ⟨⟨by decide +kernel, by decide +kernel⟩, List.mem_of_getElem? (i := 172) (by decide +kernel), List.mem_of_getElem? (i := 798) (by decide +kernel), List.mem_of_getElem? (i := 799) (by decide +kernel)⟩
theorem lw_p20 : lw_okq (⟨"FourPalms$Coming", "meet", "(LFourPalms$Crossing;)V"⟩, 20) := ⟨⟨by decide +kernel, by decide +kernel⟩, List.mem_of_getElem? (i := 265) (by decide +kernel), List.mem_of_getElem? (i := 865) (by decide +kernel), List.mem_of_getElem? (i := 866) (by decide +kernel)⟩
theorem lw_p21 : lw_okq (⟨"FourPalms$Coming", "isThere", "(I)Z"⟩, 20) := ⟨⟨by decide +kernel, by decide +kernel⟩, List.mem_of_getElem? (i := 265) (by decide +kernel), List.mem_of_getElem? (i := 869) (by decide +kernel), List.mem_of_getElem? (i := 870) (by decide +kernel)⟩
theorem lw_p22 : lw_okq (⟨"FourPalms$Coming", "fightingWith", "(I)I"⟩, 20) := ⟨⟨by decide +kernel, by decide +kernel⟩, List.mem_of_getElem? (i := 265) (by decide +kernel), List.mem_of_getElem? (i := 873) (by decide +kernel), List.mem_of_getElem? (i := 874) (by decide +kernel)⟩
theorem lw_p23 : lw_okq (⟨"FourPalms$Coming", "ask", "(II)V"⟩, 20) := ⟨⟨by decide +kernel, by decide +kernel⟩, List.mem_of_getElem? (i := 265) (by decide +kernel), List.mem_of_getElem? (i := 879) (by decide +kernel), List.mem_of_getElem? (i := 880) (by decide +kernel)⟩
theorem lw_p24 : lw_okq (⟨"FourPalms$Coming", "answer", "(II)I"⟩, 20) := ⟨⟨by decide +kernel, by decide +kernel⟩, List.mem_of_getElem? (i := 265) (by decide +kernel), List.mem_of_getElem? (i := 885) (by decide +kernel), List.mem_of_getElem? (i := 886) (by decide +kernel)⟩
theorem lw_p25 : lw_okq (⟨"FourPalms$Coming", "byRule", "(I)I"⟩, 20) := ⟨⟨by decide +kernel, by decide +kernel⟩, List.mem_of_getElem? (i := 265) (by decide +kernel), List.mem_of_getElem? (i := 889) (by decide +kernel), List.mem_of_getElem? (i := 890) (by decide +kernel)⟩
theorem lw_p26 : lw_okq (⟨"FourPalms$Coming", "byWords", "()I"⟩, 20) := ⟨⟨by decide +kernel, by decide +kernel⟩, List.mem_of_getElem? (i := 265) (by decide +kernel), List.mem_of_getElem? (i := 895) (by decide +kernel), List.mem_of_getElem? (i := 896) (by decide +kernel)⟩
theorem lw_p27 : lw_okq (⟨"FourPalms$Coming", "settle", "(II)V"⟩, 20) := ⟨⟨by decide +kernel, by decide +kernel⟩, List.mem_of_getElem? (i := 265) (by decide +kernel), List.mem_of_getElem? (i := 903) (by decide +kernel), List.mem_of_getElem? (i := 904) (by decide +kernel)⟩
theorem lw_p28 : lw_okq (⟨"FourPalms$Coming", "verdicts", "(IIII)I"⟩, 20) := ⟨⟨by decide +kernel, by decide +kernel⟩, List.mem_of_getElem? (i := 265) (by decide +kernel), List.mem_of_getElem? (i := 907) (by decide +kernel), List.mem_of_getElem? (i := 908) (by decide +kernel)⟩
theorem lw_p29 : lw_okq (⟨"FourPalms$Coming", "beginNumbers", "()V"⟩, 20) := ⟨⟨by decide +kernel, by decide +kernel⟩, List.mem_of_getElem? (i := 265) (by decide +kernel), List.mem_of_getElem? (i := 922) (by decide +kernel), List.mem_of_getElem? (i := 923) (by decide +kernel)⟩
theorem lw_p30 : lw_okq (⟨"FourPalms$Coming", "nextNumber", "()I"⟩, 20) := ⟨⟨by decide +kernel, by decide +kernel⟩, List.mem_of_getElem? (i := 265) (by decide +kernel), List.mem_of_getElem? (i := 926) (by decide +kernel), List.mem_of_getElem? (i := 927) (by decide +kernel)⟩
theorem lw_p31 : lw_okq (⟨"FourPalms$Coming", "going", "(II)I"⟩, 20) := ⟨⟨by decide +kernel, by decide +kernel⟩, List.mem_of_getElem? (i := 265) (by decide +kernel), List.mem_of_getElem? (i := 930) (by decide +kernel), List.mem_of_getElem? (i := 931) (by decide +kernel)⟩
def lw_privs_2 : List (MethodName × Nat) := [(⟨"FourPalms$Reader", "joiner", "()I"⟩, 15), (⟨"FourPalms$Pair", "putOne", "(LFourPalms$Crossing;III)V"⟩, 2), (⟨"FourPalms$Rule", "isSo", "(I[I[I)Z"⟩, 5), (⟨"FourPalms$Standing", "leastAwaited", "(LFourPalms$Crossing;III)I"⟩, 8), (⟨"FourPalms$Coming", "meet", "(LFourPalms$Crossing;)V"⟩, 20), (⟨"FourPalms$Coming", "isThere", "(I)Z"⟩, 20), (⟨"FourPalms$Coming", "fightingWith", "(I)I"⟩, 20), (⟨"FourPalms$Coming", "ask", "(II)V"⟩, 20), (⟨"FourPalms$Coming", "answer", "(II)I"⟩, 20), (⟨"FourPalms$Coming", "byRule", "(I)I"⟩, 20), (⟨"FourPalms$Coming", "byWords", "()I"⟩, 20), (⟨"FourPalms$Coming", "settle", "(II)V"⟩, 20), (⟨"FourPalms$Coming", "verdicts", "(IIII)I"⟩, 20), (⟨"FourPalms$Coming", "beginNumbers", "()V"⟩, 20), (⟨"FourPalms$Coming", "nextNumber", "()I"⟩, 20), (⟨"FourPalms$Coming", "going", "(II)I"⟩, 20)]
theorem lw_r2 : ∀ q ∈ lw_privs_2, lw_okq q := List.forall_mem_cons.mpr ⟨lw_p16, List.forall_mem_cons.mpr ⟨lw_p17, List.forall_mem_cons.mpr ⟨lw_p18, List.forall_mem_cons.mpr ⟨lw_p19, List.forall_mem_cons.mpr ⟨lw_p20, List.forall_mem_cons.mpr ⟨lw_p21, List.forall_mem_cons.mpr ⟨lw_p22, List.forall_mem_cons.mpr ⟨lw_p23, List.forall_mem_cons.mpr ⟨lw_p24, List.forall_mem_cons.mpr ⟨lw_p25, List.forall_mem_cons.mpr ⟨lw_p26, List.forall_mem_cons.mpr ⟨lw_p27, List.forall_mem_cons.mpr ⟨lw_p28, List.forall_mem_cons.mpr ⟨lw_p29, List.forall_mem_cons.mpr ⟨lw_p30, List.forall_mem_cons.mpr ⟨lw_p31, fun _ h => absurd h List.not_mem_nil⟩⟩⟩⟩⟩⟩⟩⟩⟩⟩⟩⟩⟩⟩⟩⟩
theorem lw_p32 : lw_okq (⟨"FourPalms$Coming", "awaited", "(II)I"⟩, 20) := ⟨⟨by decide +kernel, by decide +kernel⟩, List.mem_of_getElem? (i := 265) (by decide +kernel), List.mem_of_getElem? (i := 934) (by decide +kernel), List.mem_of_getElem? (i := 935) (by decide +kernel)⟩
theorem lw_p33 : lw_okq (⟨"FourPalms$Coming", "noteStuck", "(II)V"⟩, 20) := ⟨⟨by decide +kernel, by decide +kernel⟩, List.mem_of_getElem? (i := 265) (by decide +kernel), List.mem_of_getElem? (i := 938) (by decide +kernel), List.mem_of_getElem? (i := 939) (by decide +kernel)⟩
theorem lw_p34 : lw_okq (⟨"FourPalms$Coming", "anyFight", "(I)Z"⟩, 20) := ⟨⟨by decide +kernel, by decide +kernel⟩, List.mem_of_getElem? (i := 265) (by decide +kernel), List.mem_of_getElem? (i := 943) (by decide +kernel), List.mem_of_getElem? (i := 944) (by decide +kernel)⟩
theorem lw_p35 : lw_okq (⟨"FourPalms$Coming", "noteBoth", "(II)V"⟩, 20) := ⟨⟨by decide +kernel, by decide +kernel⟩, List.mem_of_getElem? (i := 265) (by decide +kernel), List.mem_of_getElem? (i := 947) (by decide +kernel), List.mem_of_getElem? (i := 948) (by decide +kernel)⟩
theorem lw_p36 : lw_okq (⟨"FourPalms$Coming", "statesBut", "(II)I"⟩, 20) := ⟨⟨by decide +kernel, by decide +kernel⟩, List.mem_of_getElem? (i := 265) (by decide +kernel), List.mem_of_getElem? (i := 970) (by decide +kernel), List.mem_of_getElem? (i := 971) (by decide +kernel)⟩
theorem lw_p37 : lw_okq (⟨"FourPalms$Coming", "statesWithout", "(II)I"⟩, 20) := ⟨⟨by decide +kernel, by decide +kernel⟩, List.mem_of_getElem? (i := 265) (by decide +kernel), List.mem_of_getElem? (i := 974) (by decide +kernel), List.mem_of_getElem? (i := 975) (by decide +kernel)⟩
theorem lw_p38 : lw_okq (⟨"FourPalms$Coming", "mutualOrders", "(II)I"⟩, 20) := ⟨⟨by decide +kernel, by decide +kernel⟩, List.mem_of_getElem? (i := 265) (by decide +kernel), List.mem_of_getElem? (i := 986) (by decide +kernel), List.mem_of_getElem? (i := 987) (by decide +kernel)⟩
theorem lw_p39 : lw_okq (⟨"FourPalms$Coming", "linesFor", "(LFourPalms$Rule;II)I"⟩, 20) := ⟨⟨by decide +kernel, by decide +kernel⟩, List.mem_of_getElem? (i := 265) (by decide +kernel), List.mem_of_getElem? (i := 998) (by decide +kernel), List.mem_of_getElem? (i := 999) (by decide +kernel)⟩
theorem lw_p40 : lw_okq (⟨"FourPalms$Coming", "isEverBoth", "()Z"⟩, 20) := ⟨⟨by decide +kernel, by decide +kernel⟩, List.mem_of_getElem? (i := 265) (by decide +kernel), List.mem_of_getElem? (i := 1010) (by decide +kernel), List.mem_of_getElem? (i := 1011) (by decide +kernel)⟩
theorem lw_p41 : lw_okq (⟨"FourPalms$Coming", "isEverStuck", "()Z"⟩, 20) := ⟨⟨by decide +kernel, by decide +kernel⟩, List.mem_of_getElem? (i := 265) (by decide +kernel), List.mem_of_getElem? (i := 1014) (by decide +kernel), List.mem_of_getElem? (i := 1015) (by decide +kernel)⟩
theorem lw_p42 : lw_okq (⟨"FourPalms$Coming", "knot", "(I)I"⟩, 20) := ⟨⟨by decide +kernel, by decide +kernel⟩, List.mem_of_getElem? (i := 265) (by decide +kernel), List.mem_of_getElem? (i := 1018) (by decide +kernel), List.mem_of_getElem? (i := 1019) (by decide +kernel)⟩
theorem lw_p43 : lw_okq (⟨"FourPalms$Coming", "isStuckIn", "(I)Z"⟩, 20) := ⟨⟨by decide +kernel, by decide +kernel⟩, List.mem_of_getElem? (i := 265) (by decide +kernel), List.mem_of_getElem? (i := 1022) (by decide +kernel), List.mem_of_getElem? (i := 1023) (by decide +kernel)⟩
theorem lw_p44 : lw_okq (⟨"FourPalms$Coming", "sieveWordings", "()V"⟩, 20) := ⟨⟨by decide +kernel, by decide +kernel⟩, List.mem_of_getElem? (i := 265) (by decide +kernel), List.mem_of_getElem? (i := 1048) (by decide +kernel), List.mem_of_getElem? (i := 1049) (by decide +kernel)⟩
theorem lw_p45 : lw_okq (⟨"FourPalms$Days", "bringComers", "(LFourPalms$Crossing;)V"⟩, 2) := ⟨⟨by decide +kernel, by decide +kernel⟩, List.mem_of_getElem? (i := 373) (by decide +kernel), List.mem_of_getElem? (i := 1095) (by decide +kernel), List.mem_of_getElem? (i := 1096) (by decide +kernel)⟩
theorem lw_p46 : lw_okq (⟨"FourPalms$Days", "bringUpRows", "(LFourPalms$Crossing;)V"⟩, 2) := ⟨⟨by decide +kernel, by decide +kernel⟩, List.mem_of_getElem? (i := 373) (by decide +kernel), List.mem_of_getElem? (i := 1110) (by decide +kernel), List.mem_of_getElem? (i := 1111) (by decide +kernel)⟩
theorem lw_p47 : lw_okq (⟨"FourPalms$Rings", "leads", "(I)Z"⟩, 5) := ⟨⟨by decide +kernel, by decide +kernel⟩, List.mem_of_getElem? (i := 386) (by decide +kernel), List.mem_of_getElem? (i := 1151) (by decide +kernel), List.mem_of_getElem? (i := 1152) (by decide +kernel)⟩
def lw_privs_3 : List (MethodName × Nat) := [(⟨"FourPalms$Coming", "awaited", "(II)I"⟩, 20), (⟨"FourPalms$Coming", "noteStuck", "(II)V"⟩, 20), (⟨"FourPalms$Coming", "anyFight", "(I)Z"⟩, 20), (⟨"FourPalms$Coming", "noteBoth", "(II)V"⟩, 20), (⟨"FourPalms$Coming", "statesBut", "(II)I"⟩, 20), (⟨"FourPalms$Coming", "statesWithout", "(II)I"⟩, 20), (⟨"FourPalms$Coming", "mutualOrders", "(II)I"⟩, 20), (⟨"FourPalms$Coming", "linesFor", "(LFourPalms$Rule;II)I"⟩, 20), (⟨"FourPalms$Coming", "isEverBoth", "()Z"⟩, 20), (⟨"FourPalms$Coming", "isEverStuck", "()Z"⟩, 20), (⟨"FourPalms$Coming", "knot", "(I)I"⟩, 20), (⟨"FourPalms$Coming", "isStuckIn", "(I)Z"⟩, 20), (⟨"FourPalms$Coming", "sieveWordings", "()V"⟩, 20), (⟨"FourPalms$Days", "bringComers", "(LFourPalms$Crossing;)V"⟩, 2), (⟨"FourPalms$Days", "bringUpRows", "(LFourPalms$Crossing;)V"⟩, 2), (⟨"FourPalms$Rings", "leads", "(I)Z"⟩, 5)]
theorem lw_r3 : ∀ q ∈ lw_privs_3, lw_okq q := List.forall_mem_cons.mpr ⟨lw_p32, List.forall_mem_cons.mpr ⟨lw_p33, List.forall_mem_cons.mpr ⟨lw_p34, List.forall_mem_cons.mpr ⟨lw_p35, List.forall_mem_cons.mpr ⟨lw_p36, List.forall_mem_cons.mpr ⟨lw_p37, List.forall_mem_cons.mpr ⟨lw_p38, List.forall_mem_cons.mpr ⟨lw_p39, List.forall_mem_cons.mpr ⟨lw_p40, List.forall_mem_cons.mpr ⟨lw_p41, List.forall_mem_cons.mpr ⟨lw_p42, List.forall_mem_cons.mpr ⟨lw_p43, List.forall_mem_cons.mpr ⟨lw_p44, List.forall_mem_cons.mpr ⟨lw_p45, List.forall_mem_cons.mpr ⟨lw_p46, List.forall_mem_cons.mpr ⟨lw_p47, fun _ h => absurd h List.not_mem_nil⟩⟩⟩⟩⟩⟩⟩⟩⟩⟩⟩⟩⟩⟩⟩⟩
theorem lw_p48 : lw_okq (⟨"FourPalms$Rings", "measure", "(I)V"⟩, 5) := ⟨⟨by decide +kernel, by decide +kernel⟩, List.mem_of_getElem? (i := 386) (by decide +kernel), List.mem_of_getElem? (i := 1159) (by decide +kernel), List.mem_of_getElem? (i := 1160) (by decide +kernel)⟩
theorem lw_p49 : lw_okq (⟨"FourPalms$Rings", "comesNearer", "(I)Z"⟩, 5) := ⟨⟨by decide +kernel, by decide +kernel⟩, List.mem_of_getElem? (i := 386) (by decide +kernel), List.mem_of_getElem? (i := 1164) (by decide +kernel), List.mem_of_getElem? (i := 1165) (by decide +kernel)⟩
theorem lw_p50 : lw_okq (⟨"FourPalms$Rings", "held", "(II)I"⟩, 5) := ⟨⟨by decide +kernel, by decide +kernel⟩, List.mem_of_getElem? (i := 386) (by decide +kernel), List.mem_of_getElem? (i := 1168) (by decide +kernel), List.mem_of_getElem? (i := 1169) (by decide +kernel)⟩
theorem lw_p51 : lw_okq (⟨"FourPalms$Rings", "leastBehind", "(II)I"⟩, 5) := ⟨⟨by decide +kernel, by decide +kernel⟩, List.mem_of_getElem? (i := 386) (by decide +kernel), List.mem_of_getElem? (i := 1172) (by decide +kernel), List.mem_of_getElem? (i := 1173) (by decide +kernel)⟩
theorem lw_p52 : lw_okq (⟨"FourPalms$Rings", "follows", "(II)Z"⟩, 5) := ⟨⟨by decide +kernel, by decide +kernel⟩, List.mem_of_getElem? (i := 386) (by decide +kernel), List.mem_of_getElem? (i := 1176) (by decide +kernel), List.mem_of_getElem? (i := 1177) (by decide +kernel)⟩
theorem lw_p53 : lw_okq (⟨"FourPalms$Rings", "goRound", "(I)V"⟩, 5) := ⟨⟨by decide +kernel, by decide +kernel⟩, List.mem_of_getElem? (i := 386) (by decide +kernel), List.mem_of_getElem? (i := 1181) (by decide +kernel), List.mem_of_getElem? (i := 1182) (by decide +kernel)⟩
theorem lw_p54 : lw_okq (⟨"FourPalms$Rings", "nextOf", "(II)I"⟩, 5) := ⟨⟨by decide +kernel, by decide +kernel⟩, List.mem_of_getElem? (i := 386) (by decide +kernel), List.mem_of_getElem? (i := 1185) (by decide +kernel), List.mem_of_getElem? (i := 1186) (by decide +kernel)⟩
theorem lw_p55 : lw_okq (⟨"FourPalmsModel", "clears", "(II)V"⟩, 49) := ⟨⟨by decide +kernel, by decide +kernel⟩, List.mem_of_getElem? (i := 1220) (by decide +kernel), List.mem_of_getElem? (i := 1226) (by decide +kernel), List.mem_of_getElem? (i := 1227) (by decide +kernel)⟩
theorem lw_p56 : lw_okq (⟨"FourPalmsModel", "set0", "(IIII)V"⟩, 49) := ⟨⟨by decide +kernel, by decide +kernel⟩, List.mem_of_getElem? (i := 1220) (by decide +kernel), List.mem_of_getElem? (i := 1230) (by decide +kernel), List.mem_of_getElem? (i := 1231) (by decide +kernel)⟩
theorem lw_p57 : lw_okq (⟨"FourPalmsModel", "get", "(III)I"⟩, 49) := ⟨⟨by decide +kernel, by decide +kernel⟩, List.mem_of_getElem? (i := 1220) (by decide +kernel), List.mem_of_getElem? (i := 1234) (by decide +kernel), List.mem_of_getElem? (i := 1235) (by decide +kernel)⟩
theorem lw_p58 : lw_okq (⟨"FourPalmsModel", "isRoad", "(II)Z"⟩, 49) := ⟨⟨by decide +kernel, by decide +kernel⟩, List.mem_of_getElem? (i := 1220) (by decide +kernel), List.mem_of_getElem? (i := 1404) (by decide +kernel), List.mem_of_getElem? (i := 1405) (by decide +kernel)⟩
theorem lw_p59 : lw_okq (⟨"FourPalmsModel", "own", "(II)I"⟩, 49) := ⟨⟨by decide +kernel, by decide +kernel⟩, List.mem_of_getElem? (i := 1220) (by decide +kernel), List.mem_of_getElem? (i := 1408) (by decide +kernel), List.mem_of_getElem? (i := 1409) (by decide +kernel)⟩
theorem lw_p60 : lw_okq (⟨"FourPalmsModel", "stands", "(IIIIIII)V"⟩, 49) := ⟨⟨by decide +kernel, by decide +kernel⟩, List.mem_of_getElem? (i := 1220) (by decide +kernel), List.mem_of_getElem? (i := 1433) (by decide +kernel), List.mem_of_getElem? (i := 1434) (by decide +kernel)⟩
theorem lw_p61 : lw_okq (⟨"FourPalmsModel", "next0", "()V"⟩, 49) := ⟨⟨by decide +kernel, by decide +kernel⟩, List.mem_of_getElem? (i := 1220) (by decide +kernel), List.mem_of_getElem? (i := 1453) (by decide +kernel), List.mem_of_getElem? (i := 1454) (by decide +kernel)⟩
theorem lw_p62 : lw_okq (⟨"FourPalmsModel", "see", "(I)I"⟩, 49) := ⟨⟨by decide +kernel, by decide +kernel⟩, List.mem_of_getElem? (i := 1220) (by decide +kernel), List.mem_of_getElem? (i := 1457) (by decide +kernel), List.mem_of_getElem? (i := 1458) (by decide +kernel)⟩
theorem lw_p63 : lw_okq (⟨"FourPalmsModel", "word", "()I"⟩, 49) := ⟨⟨by decide +kernel, by decide +kernel⟩, List.mem_of_getElem? (i := 1220) (by decide +kernel), List.mem_of_getElem? (i := 1464) (by decide +kernel), List.mem_of_getElem? (i := 1465) (by decide +kernel)⟩
def lw_privs_4 : List (MethodName × Nat) := [(⟨"FourPalms$Rings", "measure", "(I)V"⟩, 5), (⟨"FourPalms$Rings", "comesNearer", "(I)Z"⟩, 5), (⟨"FourPalms$Rings", "held", "(II)I"⟩, 5), (⟨"FourPalms$Rings", "leastBehind", "(II)I"⟩, 5), (⟨"FourPalms$Rings", "follows", "(II)Z"⟩, 5), (⟨"FourPalms$Rings", "goRound", "(I)V"⟩, 5), (⟨"FourPalms$Rings", "nextOf", "(II)I"⟩, 5), (⟨"FourPalmsModel", "clears", "(II)V"⟩, 49), (⟨"FourPalmsModel", "set0", "(IIII)V"⟩, 49), (⟨"FourPalmsModel", "get", "(III)I"⟩, 49), (⟨"FourPalmsModel", "isRoad", "(II)Z"⟩, 49), (⟨"FourPalmsModel", "own", "(II)I"⟩, 49), (⟨"FourPalmsModel", "stands", "(IIIIIII)V"⟩, 49), (⟨"FourPalmsModel", "next0", "()V"⟩, 49), (⟨"FourPalmsModel", "see", "(I)I"⟩, 49), (⟨"FourPalmsModel", "word", "()I"⟩, 49)]
theorem lw_r4 : ∀ q ∈ lw_privs_4, lw_okq q := List.forall_mem_cons.mpr ⟨lw_p48, List.forall_mem_cons.mpr ⟨lw_p49, List.forall_mem_cons.mpr ⟨lw_p50, List.forall_mem_cons.mpr ⟨lw_p51, List.forall_mem_cons.mpr ⟨lw_p52, List.forall_mem_cons.mpr ⟨lw_p53, List.forall_mem_cons.mpr ⟨lw_p54, List.forall_mem_cons.mpr ⟨lw_p55, List.forall_mem_cons.mpr ⟨lw_p56, List.forall_mem_cons.mpr ⟨lw_p57, List.forall_mem_cons.mpr ⟨lw_p58, List.forall_mem_cons.mpr ⟨lw_p59, List.forall_mem_cons.mpr ⟨lw_p60, List.forall_mem_cons.mpr ⟨lw_p61, List.forall_mem_cons.mpr ⟨lw_p62, List.forall_mem_cons.mpr ⟨lw_p63, fun _ h => absurd h List.not_mem_nil⟩⟩⟩⟩⟩⟩⟩⟩⟩⟩⟩⟩⟩⟩⟩⟩
theorem lw_p64 : lw_okq (⟨"FourPalmsModel", "is", "(Ljava/lang/String;)Z"⟩, 49) := ⟨⟨by decide +kernel, by decide +kernel⟩, List.mem_of_getElem? (i := 1220) (by decide +kernel), List.mem_of_getElem? (i := 1469) (by decide +kernel), List.mem_of_getElem? (i := 1470) (by decide +kernel)⟩
theorem lw_p65 : lw_okq (⟨"FourPalmsModel", "nameWord", "()I"⟩, 49) := ⟨⟨by decide +kernel, by decide +kernel⟩, List.mem_of_getElem? (i := 1220) (by decide +kernel), List.mem_of_getElem? (i := 1480) (by decide +kernel), List.mem_of_getElem? (i := 1481) (by decide +kernel)⟩
theorem lw_p66 : lw_okq (⟨"FourPalmsModel", "aLine", "()Z"⟩, 49) := ⟨⟨by decide +kernel, by decide +kernel⟩, List.mem_of_getElem? (i := 1220) (by decide +kernel), List.mem_of_getElem? (i := 1503) (by decide +kernel), List.mem_of_getElem? (i := 1504) (by decide +kernel)⟩
theorem lw_p67 : lw_okq (⟨"FourPalmsModel", "bad", "(I)Z"⟩, 49) := ⟨⟨by decide +kernel, by decide +kernel⟩, List.mem_of_getElem? (i := 1220) (by decide +kernel), List.mem_of_getElem? (i := 1507) (by decide +kernel), List.mem_of_getElem? (i := 1508) (by decide +kernel)⟩
theorem lw_p68 : lw_okq (⟨"FourPalmsModel", "any", "()Z"⟩, 49) := ⟨⟨by decide +kernel, by decide +kernel⟩, List.mem_of_getElem? (i := 1220) (by decide +kernel), List.mem_of_getElem? (i := 1511) (by decide +kernel), List.mem_of_getElem? (i := 1512) (by decide +kernel)⟩
theorem lw_p69 : lw_okq (⟨"FourPalmsModel", "every", "()Z"⟩, 49) := ⟨⟨by decide +kernel, by decide +kernel⟩, List.mem_of_getElem? (i := 1220) (by decide +kernel), List.mem_of_getElem? (i := 1515) (by decide +kernel), List.mem_of_getElem? (i := 1516) (by decide +kernel)⟩
theorem lw_p70 : lw_okq (⟨"FourPalmsModel", "one", "()Z"⟩, 49) := ⟨⟨by decide +kernel, by decide +kernel⟩, List.mem_of_getElem? (i := 1220) (by decide +kernel), List.mem_of_getElem? (i := 1519) (by decide +kernel), List.mem_of_getElem? (i := 1520) (by decide +kernel)⟩
theorem lw_p71 : lw_okq (⟨"FourPalmsModel", "opens", "()Z"⟩, 49) := ⟨⟨by decide +kernel, by decide +kernel⟩, List.mem_of_getElem? (i := 1220) (by decide +kernel), List.mem_of_getElem? (i := 1523) (by decide +kernel), List.mem_of_getElem? (i := 1524) (by decide +kernel)⟩
theorem lw_p72 : lw_okq (⟨"FourPalmsModel", "lay0", "(II)V"⟩, 49) := ⟨⟨by decide +kernel, by decide +kernel⟩, List.mem_of_getElem? (i := 1220) (by decide +kernel), List.mem_of_getElem? (i := 1527) (by decide +kernel), List.mem_of_getElem? (i := 1528) (by decide +kernel)⟩
theorem lw_p73 : lw_okq (⟨"FourPalmsModel", "need", "(I)Z"⟩, 49) := ⟨⟨by decide +kernel, by decide +kernel⟩, List.mem_of_getElem? (i := 1220) (by decide +kernel), List.mem_of_getElem? (i := 1531) (by decide +kernel), List.mem_of_getElem? (i := 1532) (by decide +kernel)⟩
theorem lw_p74 : lw_okq (⟨"FourPalmsModel", "sumUp", "()Z"⟩, 49) := ⟨⟨by decide +kernel, by decide +kernel⟩, List.mem_of_getElem? (i := 1220) (by decide +kernel), List.mem_of_getElem? (i := 1535) (by decide +kernel), List.mem_of_getElem? (i := 1536) (by decide +kernel)⟩
theorem lw_p75 : lw_okq (⟨"FourPalmsModel", "product", "()Z"⟩, 49) := ⟨⟨by decide +kernel, by decide +kernel⟩, List.mem_of_getElem? (i := 1220) (by decide +kernel), List.mem_of_getElem? (i := 1539) (by decide +kernel), List.mem_of_getElem? (i := 1540) (by decide +kernel)⟩
theorem lw_p76 : lw_okq (⟨"FourPalmsModel", "unit", "()Z"⟩, 49) := ⟨⟨by decide +kernel, by decide +kernel⟩, List.mem_of_getElem? (i := 1220) (by decide +kernel), List.mem_of_getElem? (i := 1543) (by decide +kernel), List.mem_of_getElem? (i := 1544) (by decide +kernel)⟩
theorem lw_p77 : lw_okq (⟨"FourPalmsModel", "laysOut", "(I)V"⟩, 49) := ⟨⟨by decide +kernel, by decide +kernel⟩, List.mem_of_getElem? (i := 1220) (by decide +kernel), List.mem_of_getElem? (i := 1555) (by decide +kernel), List.mem_of_getElem? (i := 1556) (by decide +kernel)⟩
theorem lw_p78 : lw_okq (⟨"FourPalmsModel", "waitsFor", "(II)Z"⟩, 49) := ⟨⟨by decide +kernel, by decide +kernel⟩, List.mem_of_getElem? (i := 1220) (by decide +kernel), List.mem_of_getElem? (i := 1559) (by decide +kernel), List.mem_of_getElem? (i := 1560) (by decide +kernel)⟩
theorem lw_p79 : lw_okq (⟨"FourPalmsModel", "waitsByWording", "(II)Z"⟩, 49) := ⟨⟨by decide +kernel, by decide +kernel⟩, List.mem_of_getElem? (i := 1220) (by decide +kernel), List.mem_of_getElem? (i := 1563) (by decide +kernel), List.mem_of_getElem? (i := 1564) (by decide +kernel)⟩
def lw_privs_5 : List (MethodName × Nat) := [(⟨"FourPalmsModel", "is", "(Ljava/lang/String;)Z"⟩, 49), (⟨"FourPalmsModel", "nameWord", "()I"⟩, 49), (⟨"FourPalmsModel", "aLine", "()Z"⟩, 49), (⟨"FourPalmsModel", "bad", "(I)Z"⟩, 49), (⟨"FourPalmsModel", "any", "()Z"⟩, 49), (⟨"FourPalmsModel", "every", "()Z"⟩, 49), (⟨"FourPalmsModel", "one", "()Z"⟩, 49), (⟨"FourPalmsModel", "opens", "()Z"⟩, 49), (⟨"FourPalmsModel", "lay0", "(II)V"⟩, 49), (⟨"FourPalmsModel", "need", "(I)Z"⟩, 49), (⟨"FourPalmsModel", "sumUp", "()Z"⟩, 49), (⟨"FourPalmsModel", "product", "()Z"⟩, 49), (⟨"FourPalmsModel", "unit", "()Z"⟩, 49), (⟨"FourPalmsModel", "laysOut", "(I)V"⟩, 49), (⟨"FourPalmsModel", "waitsFor", "(II)Z"⟩, 49), (⟨"FourPalmsModel", "waitsByWording", "(II)Z"⟩, 49)]
theorem lw_r5 : ∀ q ∈ lw_privs_5, lw_okq q := List.forall_mem_cons.mpr ⟨lw_p64, List.forall_mem_cons.mpr ⟨lw_p65, List.forall_mem_cons.mpr ⟨lw_p66, List.forall_mem_cons.mpr ⟨lw_p67, List.forall_mem_cons.mpr ⟨lw_p68, List.forall_mem_cons.mpr ⟨lw_p69, List.forall_mem_cons.mpr ⟨lw_p70, List.forall_mem_cons.mpr ⟨lw_p71, List.forall_mem_cons.mpr ⟨lw_p72, List.forall_mem_cons.mpr ⟨lw_p73, List.forall_mem_cons.mpr ⟨lw_p74, List.forall_mem_cons.mpr ⟨lw_p75, List.forall_mem_cons.mpr ⟨lw_p76, List.forall_mem_cons.mpr ⟨lw_p77, List.forall_mem_cons.mpr ⟨lw_p78, List.forall_mem_cons.mpr ⟨lw_p79, fun _ h => absurd h List.not_mem_nil⟩⟩⟩⟩⟩⟩⟩⟩⟩⟩⟩⟩⟩⟩⟩⟩
theorem lw_p80 : lw_okq (⟨"FourPalmsModel", "isWord", "(III)Z"⟩, 49) := ⟨⟨by decide +kernel, by decide +kernel⟩, List.mem_of_getElem? (i := 1220) (by decide +kernel), List.mem_of_getElem? (i := 1567) (by decide +kernel), List.mem_of_getElem? (i := 1568) (by decide +kernel)⟩
theorem lw_p81 : lw_okq (⟨"FourPalmsModel", "firstLine", "(III)I"⟩, 49) := ⟨⟨by decide +kernel, by decide +kernel⟩, List.mem_of_getElem? (i := 1220) (by decide +kernel), List.mem_of_getElem? (i := 1571) (by decide +kernel), List.mem_of_getElem? (i := 1572) (by decide +kernel)⟩
theorem lw_p82 : lw_okq (⟨"FourPalmsModel", "gathers", "(II)V"⟩, 49) := ⟨⟨by decide +kernel, by decide +kernel⟩, List.mem_of_getElem? (i := 1220) (by decide +kernel), List.mem_of_getElem? (i := 1575) (by decide +kernel), List.mem_of_getElem? (i := 1576) (by decide +kernel)⟩
theorem lw_p83 : lw_okq (⟨"FourPalmsModel", "comesTo", "(III)I"⟩, 49) := ⟨⟨by decide +kernel, by decide +kernel⟩, List.mem_of_getElem? (i := 1220) (by decide +kernel), List.mem_of_getElem? (i := 1579) (by decide +kernel), List.mem_of_getElem? (i := 1580) (by decide +kernel)⟩
theorem lw_p84 : lw_okq (⟨"FourPalmsModel", "goers", "()I"⟩, 49) := ⟨⟨by decide +kernel, by decide +kernel⟩, List.mem_of_getElem? (i := 1220) (by decide +kernel), List.mem_of_getElem? (i := 1590) (by decide +kernel), List.mem_of_getElem? (i := 1591) (by decide +kernel)⟩
theorem lw_p85 : lw_okq (⟨"FourPalmsModel", "mayGo", "(I)Z"⟩, 49) := ⟨⟨by decide +kernel, by decide +kernel⟩, List.mem_of_getElem? (i := 1220) (by decide +kernel), List.mem_of_getElem? (i := 1594) (by decide +kernel), List.mem_of_getElem? (i := 1595) (by decide +kernel)⟩
theorem lw_p86 : lw_okq (⟨"FourPalmsModel", "carts", "()I"⟩, 49) := ⟨⟨by decide +kernel, by decide +kernel⟩, List.mem_of_getElem? (i := 1220) (by decide +kernel), List.mem_of_getElem? (i := 1598) (by decide +kernel), List.mem_of_getElem? (i := 1599) (by decide +kernel)⟩
theorem lw_p87 : lw_okq (⟨"FourPalmsModel", "firstFight", "(I)I"⟩, 49) := ⟨⟨by decide +kernel, by decide +kernel⟩, List.mem_of_getElem? (i := 1220) (by decide +kernel), List.mem_of_getElem? (i := 1602) (by decide +kernel), List.mem_of_getElem? (i := 1603) (by decide +kernel)⟩
theorem lw_p88 : lw_okq (⟨"FourPalmsModel", "leastWaited", "(I)I"⟩, 49) := ⟨⟨by decide +kernel, by decide +kernel⟩, List.mem_of_getElem? (i := 1220) (by decide +kernel), List.mem_of_getElem? (i := 1614) (by decide +kernel), List.mem_of_getElem? (i := 1615) (by decide +kernel)⟩
theorem lw_p89 : lw_okq (⟨"FourPalmsModel", "goesThrough", "(IZ)Z"⟩, 49) := ⟨⟨by decide +kernel, by decide +kernel⟩, List.mem_of_getElem? (i := 1220) (by decide +kernel), List.mem_of_getElem? (i := 1637) (by decide +kernel), List.mem_of_getElem? (i := 1638) (by decide +kernel)⟩
theorem lw_p90 : lw_okq (⟨"FourPalmsModel", "numbers", "()I"⟩, 49) := ⟨⟨by decide +kernel, by decide +kernel⟩, List.mem_of_getElem? (i := 1220) (by decide +kernel), List.mem_of_getElem? (i := 1641) (by decide +kernel), List.mem_of_getElem? (i := 1642) (by decide +kernel)⟩
theorem lw_p91 : lw_okq (⟨"FourPalmsModel", "lays", "(II)I"⟩, 49) := ⟨⟨by decide +kernel, by decide +kernel⟩, List.mem_of_getElem? (i := 1220) (by decide +kernel), List.mem_of_getElem? (i := 1645) (by decide +kernel), List.mem_of_getElem? (i := 1646) (by decide +kernel)⟩
theorem lw_p92 : lw_okq (⟨"FourPalmsModel", "comes", "(III)V"⟩, 49) := ⟨⟨by decide +kernel, by decide +kernel⟩, List.mem_of_getElem? (i := 1220) (by decide +kernel), List.mem_of_getElem? (i := 1649) (by decide +kernel), List.mem_of_getElem? (i := 1650) (by decide +kernel)⟩
theorem lw_p93 : lw_okq (⟨"FourPalmsModel", "ranks", "(I)V"⟩, 49) := ⟨⟨by decide +kernel, by decide +kernel⟩, List.mem_of_getElem? (i := 1220) (by decide +kernel), List.mem_of_getElem? (i := 1656) (by decide +kernel), List.mem_of_getElem? (i := 1657) (by decide +kernel)⟩
theorem lw_p94 : lw_okq (⟨"FourPalmsModel", "isSound", "(II)Z"⟩, 49) := ⟨⟨by decide +kernel, by decide +kernel⟩, List.mem_of_getElem? (i := 1220) (by decide +kernel), List.mem_of_getElem? (i := 1691) (by decide +kernel), List.mem_of_getElem? (i := 1692) (by decide +kernel)⟩
theorem lw_p95 : lw_okq (⟨"FourPalmsModel", "tick", "(I)I"⟩, 49) := ⟨⟨by decide +kernel, by decide +kernel⟩, List.mem_of_getElem? (i := 1220) (by decide +kernel), List.mem_of_getElem? (i := 1711) (by decide +kernel), List.mem_of_getElem? (i := 1712) (by decide +kernel)⟩
def lw_privs_6 : List (MethodName × Nat) := [(⟨"FourPalmsModel", "isWord", "(III)Z"⟩, 49), (⟨"FourPalmsModel", "firstLine", "(III)I"⟩, 49), (⟨"FourPalmsModel", "gathers", "(II)V"⟩, 49), (⟨"FourPalmsModel", "comesTo", "(III)I"⟩, 49), (⟨"FourPalmsModel", "goers", "()I"⟩, 49), (⟨"FourPalmsModel", "mayGo", "(I)Z"⟩, 49), (⟨"FourPalmsModel", "carts", "()I"⟩, 49), (⟨"FourPalmsModel", "firstFight", "(I)I"⟩, 49), (⟨"FourPalmsModel", "leastWaited", "(I)I"⟩, 49), (⟨"FourPalmsModel", "goesThrough", "(IZ)Z"⟩, 49), (⟨"FourPalmsModel", "numbers", "()I"⟩, 49), (⟨"FourPalmsModel", "lays", "(II)I"⟩, 49), (⟨"FourPalmsModel", "comes", "(III)V"⟩, 49), (⟨"FourPalmsModel", "ranks", "(I)V"⟩, 49), (⟨"FourPalmsModel", "isSound", "(II)Z"⟩, 49), (⟨"FourPalmsModel", "tick", "(I)I"⟩, 49)]
theorem lw_r6 : ∀ q ∈ lw_privs_6, lw_okq q := List.forall_mem_cons.mpr ⟨lw_p80, List.forall_mem_cons.mpr ⟨lw_p81, List.forall_mem_cons.mpr ⟨lw_p82, List.forall_mem_cons.mpr ⟨lw_p83, List.forall_mem_cons.mpr ⟨lw_p84, List.forall_mem_cons.mpr ⟨lw_p85, List.forall_mem_cons.mpr ⟨lw_p86, List.forall_mem_cons.mpr ⟨lw_p87, List.forall_mem_cons.mpr ⟨lw_p88, List.forall_mem_cons.mpr ⟨lw_p89, List.forall_mem_cons.mpr ⟨lw_p90, List.forall_mem_cons.mpr ⟨lw_p91, List.forall_mem_cons.mpr ⟨lw_p92, List.forall_mem_cons.mpr ⟨lw_p93, List.forall_mem_cons.mpr ⟨lw_p94, List.forall_mem_cons.mpr ⟨lw_p95, fun _ h => absurd h List.not_mem_nil⟩⟩⟩⟩⟩⟩⟩⟩⟩⟩⟩⟩⟩⟩⟩⟩
theorem lw_p96 : lw_okq (⟨"FourPalmsModel", "comesUp", "(II)V"⟩, 49) := ⟨⟨by decide +kernel, by decide +kernel⟩, List.mem_of_getElem? (i := 1220) (by decide +kernel), List.mem_of_getElem? (i := 1715) (by decide +kernel), List.mem_of_getElem? (i := 1716) (by decide +kernel)⟩
theorem lw_p97 : lw_okq (⟨"FourPalmsModel", "draw", "(I)I"⟩, 49) := ⟨⟨by decide +kernel, by decide +kernel⟩, List.mem_of_getElem? (i := 1220) (by decide +kernel), List.mem_of_getElem? (i := 1719) (by decide +kernel), List.mem_of_getElem? (i := 1720) (by decide +kernel)⟩
theorem lw_p98 : lw_okq (⟨"FourPalmsModel", "movesUp", "(II)V"⟩, 49) := ⟨⟨by decide +kernel, by decide +kernel⟩, List.mem_of_getElem? (i := 1220) (by decide +kernel), List.mem_of_getElem? (i := 1725) (by decide +kernel), List.mem_of_getElem? (i := 1726) (by decide +kernel)⟩
theorem lw_p99 : lw_okq (⟨"FourPalmsModel", "adds", "(II)V"⟩, 49) := ⟨⟨by decide +kernel, by decide +kernel⟩, List.mem_of_getElem? (i := 1220) (by decide +kernel), List.mem_of_getElem? (i := 1729) (by decide +kernel), List.mem_of_getElem? (i := 1730) (by decide +kernel)⟩
theorem lw_p100 : lw_okq (⟨"FourPalmsModel", "isLink", "(I)Z"⟩, 49) := ⟨⟨by decide +kernel, by decide +kernel⟩, List.mem_of_getElem? (i := 1220) (by decide +kernel), List.mem_of_getElem? (i := 1749) (by decide +kernel), List.mem_of_getElem? (i := 1750) (by decide +kernel)⟩
theorem lw_p101 : lw_okq (⟨"FourPalmsModel", "leastSums", "(I)V"⟩, 49) := ⟨⟨by decide +kernel, by decide +kernel⟩, List.mem_of_getElem? (i := 1220) (by decide +kernel), List.mem_of_getElem? (i := 1753) (by decide +kernel), List.mem_of_getElem? (i := 1754) (by decide +kernel)⟩
theorem lw_p102 : lw_okq (⟨"FourPalmsModel", "leads", "(II)Z"⟩, 49) := ⟨⟨by decide +kernel, by decide +kernel⟩, List.mem_of_getElem? (i := 1220) (by decide +kernel), List.mem_of_getElem? (i := 1757) (by decide +kernel), List.mem_of_getElem? (i := 1758) (by decide +kernel)⟩
theorem lw_p103 : lw_okq (⟨"FourPalmsModel", "fills", "(I)I"⟩, 49) := ⟨⟨by decide +kernel, by decide +kernel⟩, List.mem_of_getElem? (i := 1220) (by decide +kernel), List.mem_of_getElem? (i := 1761) (by decide +kernel), List.mem_of_getElem? (i := 1762) (by decide +kernel)⟩
theorem lw_p104 : lw_okq (⟨"FourPalmsModel", "laysRow", "(I)I"⟩, 49) := ⟨⟨by decide +kernel, by decide +kernel⟩, List.mem_of_getElem? (i := 1220) (by decide +kernel), List.mem_of_getElem? (i := 1765) (by decide +kernel), List.mem_of_getElem? (i := 1766) (by decide +kernel)⟩
def lw_privs_7 : List (MethodName × Nat) := [(⟨"FourPalmsModel", "comesUp", "(II)V"⟩, 49), (⟨"FourPalmsModel", "draw", "(I)I"⟩, 49), (⟨"FourPalmsModel", "movesUp", "(II)V"⟩, 49), (⟨"FourPalmsModel", "adds", "(II)V"⟩, 49), (⟨"FourPalmsModel", "isLink", "(I)Z"⟩, 49), (⟨"FourPalmsModel", "leastSums", "(I)V"⟩, 49), (⟨"FourPalmsModel", "leads", "(II)Z"⟩, 49), (⟨"FourPalmsModel", "fills", "(I)I"⟩, 49), (⟨"FourPalmsModel", "laysRow", "(I)I"⟩, 49)]
theorem lw_r7 : ∀ q ∈ lw_privs_7, lw_okq q := List.forall_mem_cons.mpr ⟨lw_p96, List.forall_mem_cons.mpr ⟨lw_p97, List.forall_mem_cons.mpr ⟨lw_p98, List.forall_mem_cons.mpr ⟨lw_p99, List.forall_mem_cons.mpr ⟨lw_p100, List.forall_mem_cons.mpr ⟨lw_p101, List.forall_mem_cons.mpr ⟨lw_p102, List.forall_mem_cons.mpr ⟨lw_p103, List.forall_mem_cons.mpr ⟨lw_p104, fun _ h => absurd h List.not_mem_nil⟩⟩⟩⟩⟩⟩⟩⟩⟩
def lw_privs : List (MethodName × Nat) := lw_privs_1 ++ (lw_privs_2 ++ (lw_privs_3 ++ (lw_privs_4 ++ (lw_privs_5 ++ (lw_privs_6 ++ (lw_privs_7))))))
def lw_tbl : List Cond := k2_sels lw_privs ++ tables_1
theorem lw_privs_ok : ∀ q ∈ lw_privs, lw_okq q := by
  show ∀ q ∈ lw_privs_1 ++ (lw_privs_2 ++ (lw_privs_3 ++ (lw_privs_4 ++ (lw_privs_5 ++ (lw_privs_6 ++ (lw_privs_7)))))), lw_okq q
  exact List.forall_mem_append.mpr ⟨lw_r1, List.forall_mem_append.mpr ⟨lw_r2, List.forall_mem_append.mpr ⟨lw_r3, List.forall_mem_append.mpr ⟨lw_r4, List.forall_mem_append.mpr ⟨lw_r5, List.forall_mem_append.mpr ⟨lw_r6, lw_r7⟩⟩⟩⟩⟩⟩

-- ===== the words that a callee takes over: those of lw_tbl that a warm state keeps =====
def TT : List Cond := lw_tbl.filter goodWord
theorem tl1 (i : Nat) {w : Cond} (h : tables_1_1[i]? = some w) : w ∈ lw_tbl := List.mem_append_right _ (show w ∈ tables_1 from List.mem_append_left _ (List.mem_of_getElem? h))
theorem tt1 (i : Nat) {w : Cond} (h : tables_1_1[i]? = some w) (hg : goodWord w = true) : w ∈ TT := List.mem_filter.mpr ⟨tl1 i h, hg⟩
theorem tl2 (i : Nat) {w : Cond} (h : tables_1_2[i]? = some w) : w ∈ lw_tbl := List.mem_append_right _ (show w ∈ tables_1 from List.mem_append_right _ (List.mem_append_left _ (List.mem_of_getElem? h)))
theorem tt2 (i : Nat) {w : Cond} (h : tables_1_2[i]? = some w) (hg : goodWord w = true) : w ∈ TT := List.mem_filter.mpr ⟨tl2 i h, hg⟩
theorem tl3 (i : Nat) {w : Cond} (h : tables_1_3[i]? = some w) : w ∈ lw_tbl := List.mem_append_right _ (show w ∈ tables_1 from List.mem_append_right _ (List.mem_append_right _ (List.mem_append_left _ (List.mem_of_getElem? h))))
theorem tt3 (i : Nat) {w : Cond} (h : tables_1_3[i]? = some w) (hg : goodWord w = true) : w ∈ TT := List.mem_filter.mpr ⟨tl3 i h, hg⟩
theorem tl4 (i : Nat) {w : Cond} (h : tables_1_4[i]? = some w) : w ∈ lw_tbl := List.mem_append_right _ (show w ∈ tables_1 from List.mem_append_right _ (List.mem_append_right _ (List.mem_append_right _ (List.mem_append_left _ (List.mem_of_getElem? h)))))
theorem tt4 (i : Nat) {w : Cond} (h : tables_1_4[i]? = some w) (hg : goodWord w = true) : w ∈ TT := List.mem_filter.mpr ⟨tl4 i h, hg⟩
theorem tl5 (i : Nat) {w : Cond} (h : tables_1_5[i]? = some w) : w ∈ lw_tbl := List.mem_append_right _ (show w ∈ tables_1 from List.mem_append_right _ (List.mem_append_right _ (List.mem_append_right _ (List.mem_append_right _ (List.mem_append_left _ (List.mem_of_getElem? h))))))
theorem tt5 (i : Nat) {w : Cond} (h : tables_1_5[i]? = some w) (hg : goodWord w = true) : w ∈ TT := List.mem_filter.mpr ⟨tl5 i h, hg⟩
theorem tl6 (i : Nat) {w : Cond} (h : tables_1_6[i]? = some w) : w ∈ lw_tbl := List.mem_append_right _ (show w ∈ tables_1 from List.mem_append_right _ (List.mem_append_right _ (List.mem_append_right _ (List.mem_append_right _ (List.mem_append_right _ (List.mem_append_left _ (List.mem_of_getElem? h)))))))
theorem tt6 (i : Nat) {w : Cond} (h : tables_1_6[i]? = some w) (hg : goodWord w = true) : w ∈ TT := List.mem_filter.mpr ⟨tl6 i h, hg⟩
theorem tl7 (i : Nat) {w : Cond} (h : tables_1_7[i]? = some w) : w ∈ lw_tbl := List.mem_append_right _ (show w ∈ tables_1 from List.mem_append_right _ (List.mem_append_right _ (List.mem_append_right _ (List.mem_append_right _ (List.mem_append_right _ (List.mem_append_right _ (List.mem_append_left _ (List.mem_of_getElem? h))))))))
theorem tt7 (i : Nat) {w : Cond} (h : tables_1_7[i]? = some w) (hg : goodWord w = true) : w ∈ TT := List.mem_filter.mpr ⟨tl7 i h, hg⟩
theorem tl8 (i : Nat) {w : Cond} (h : tables_1_8[i]? = some w) : w ∈ lw_tbl := List.mem_append_right _ (show w ∈ tables_1 from List.mem_append_right _ (List.mem_append_right _ (List.mem_append_right _ (List.mem_append_right _ (List.mem_append_right _ (List.mem_append_right _ (List.mem_append_right _ (List.mem_of_getElem? h))))))))
theorem tt8 (i : Nat) {w : Cond} (h : tables_1_8[i]? = some w) (hg : goodWord w = true) : w ∈ TT := List.mem_filter.mpr ⟨tl8 i h, hg⟩
theorem tts (i : Nat) {w : Cond} (h : (k2_sels lw_privs)[i]? = some w) (hg : goodWord w = true) : w ∈ TT := List.mem_filter.mpr ⟨List.mem_append_left _ (List.mem_of_getElem? h), hg⟩
theorem TT_good : ∀ w ∈ TT, w ∈ TT ∧ ((w.onTables && w.keeps) = true ∨ ∃ ty, w = .arrayClass ty) := fun w hw => ⟨hw, good_of_word (List.mem_filter.mp hw).2⟩
theorem TT_hts {args : Array Value} {s : State} (h : ∀ w ∈ lw_tbl, w.before args s = true) : ∀ w ∈ TT, w.before args s = true := fun w hw => h w (List.mem_filter.mp hw).1
def cn0 : String := "FourPalms$Coming"
def ct0 : u_T := fun k => match k with
  | 0 => ("FourPalms$Coming", "world", "LFourPalms$World;", true)
  | 1 => ("FourPalms$Coming", "pair", "LFourPalms$Pair;", true)
  | 2 => ("FourPalms$Coming", "ordersOf", "[LFourPalms$Orders;", true)
  | 3 => ("FourPalms$Coming", "met", "LFourPalms$Crossing;", false)
  | 4 => ("FourPalms$Coming", "orders", "LFourPalms$Orders;", false)
  | 5 => ("FourPalms$Coming", "numbers", "I", false)
  | 6 => ("FourPalms$Coming", "answers", "[I", true)
  | 7 => ("FourPalms$Coming", "fighting", "[I", true)
  | 8 => ("FourPalms$Coming", "whenFirst", "[I", true)
  | 9 => ("FourPalms$Coming", "whenLater", "[I", true)
  | 10 => ("FourPalms$Coming", "digits", "[I", true)
  | 11 => ("FourPalms$Coming", "soundOnes", "[Z", true)
  | 12 => ("FourPalms$Coming", "stuck", "I", false)
  | 13 => ("FourPalms$Coming", "both", "I", false)
  | 14 => ("FourPalms$Coming", "stuckSlots", "I", false)
  | 15 => ("FourPalms$Coming", "stuckOrder", "I", false)
  | 16 => ("FourPalms$Coming", "bothSlots", "I", false)
  | 17 => ("FourPalms$Coming", "bothOrder", "I", false)
  | 18 => ("FourPalms$Coming", "badBorders", "I", false)
  | _ => ("FourPalms$Coming", "leastBorder", "I", false)
def cy0 : Nat → FieldType := fun k => match k with
  | 0 => .object "FourPalms$World"
  | 1 => .object "FourPalms$Pair"
  | 2 => .array (.object "FourPalms$Orders")
  | 3 => .object "FourPalms$Crossing"
  | 4 => .object "FourPalms$Orders"
  | 5 => .int
  | 6 => .array .int
  | 7 => .array .int
  | 8 => .array .int
  | 9 => .array .int
  | 10 => .array .int
  | 11 => .array .boolean
  | 12 => .int
  | 13 => .int
  | 14 => .int
  | 15 => .int
  | 16 => .int
  | 17 => .int
  | 18 => .int
  | _ => .int
theorem cnm0 : ∀ a, a < 20 → ∀ b, b < 20 → a ≠ b → (ct0 a).2.1 ≠ (ct0 b).2.1 := by decide +kernel
theorem cty0 : ∀ k, k < 20 → parseFieldDescriptor (ct0 k).2.2.1 = some (cy0 k) := by decide +kernel
theorem cw0 : ∀ w ∈ u_ws cn0 ct0 20, w ∈ TT := List.forall_mem_cons.mpr ⟨tt2 91 rfl rfl, List.forall_mem_cons.mpr ⟨tt2 93 rfl rfl, List.forall_mem_cons.mpr ⟨tt2 95 rfl rfl, List.forall_mem_cons.mpr ⟨tt2 97 rfl rfl, List.forall_mem_cons.mpr ⟨tt2 99 rfl rfl, List.forall_mem_cons.mpr ⟨tt2 101 rfl rfl, List.forall_mem_cons.mpr ⟨tt2 103 rfl rfl, List.forall_mem_cons.mpr ⟨tt2 105 rfl rfl, List.forall_mem_cons.mpr ⟨tt2 107 rfl rfl, List.forall_mem_cons.mpr ⟨tt2 109 rfl rfl, List.forall_mem_cons.mpr ⟨tt2 111 rfl rfl, List.forall_mem_cons.mpr ⟨tt2 113 rfl rfl, List.forall_mem_cons.mpr ⟨tt2 115 rfl rfl, List.forall_mem_cons.mpr ⟨tt2 117 rfl rfl, List.forall_mem_cons.mpr ⟨tt2 119 rfl rfl, List.forall_mem_cons.mpr ⟨tt2 121 rfl rfl, List.forall_mem_cons.mpr ⟨tt2 123 rfl rfl, List.forall_mem_cons.mpr ⟨tt2 125 rfl rfl, List.forall_mem_cons.mpr ⟨tt2 127 rfl rfl, List.forall_mem_cons.mpr ⟨tt2 129 rfl rfl, fun _ h => absurd h List.not_mem_nil⟩⟩⟩⟩⟩⟩⟩⟩⟩⟩⟩⟩⟩⟩⟩⟩⟩⟩⟩⟩
def cn1 : String := "FourPalms$Crossing"
def ct1 : u_T := fun k => match k with
  | 0 => ("FourPalms$Crossing", "roads", "I", false)
  | 1 => ("FourPalms$Crossing", "facts", "[I", true)
  | 2 => ("FourPalms$Crossing", "carts", "[I", true)
  | 3 => ("FourPalms$Crossing", "comers", "[I", true)
  | 4 => ("FourPalms$Crossing", "comerCount", "[I", true)
  | 5 => ("FourPalms$Crossing", "rows", "[I", true)
  | 6 => ("FourPalms$Crossing", "rowLength", "[I", true)
  | 7 => ("FourPalms$Crossing", "roadCounts", "[I", true)
  | 8 => ("FourPalms$Crossing", "counts", "[I", true)
  | _ => ("FourPalms$Crossing", "links", "[I", true)
def cy1 : Nat → FieldType := fun k => match k with
  | 0 => .int
  | 1 => .array .int
  | 2 => .array .int
  | 3 => .array .int
  | 4 => .array .int
  | 5 => .array .int
  | 6 => .array .int
  | 7 => .array .int
  | 8 => .array .int
  | _ => .array .int
theorem cnm1 : ∀ a, a < 10 → ∀ b, b < 10 → a ≠ b → (ct1 a).2.1 ≠ (ct1 b).2.1 := by decide +kernel
theorem cty1 : ∀ k, k < 10 → parseFieldDescriptor (ct1 k).2.2.1 = some (cy1 k) := by decide +kernel
theorem cw1 : ∀ w ∈ u_ws cn1 ct1 10, w ∈ TT := List.forall_mem_cons.mpr ⟨tt1 110 rfl rfl, List.forall_mem_cons.mpr ⟨tt1 112 rfl rfl, List.forall_mem_cons.mpr ⟨tt1 114 rfl rfl, List.forall_mem_cons.mpr ⟨tt1 116 rfl rfl, List.forall_mem_cons.mpr ⟨tt1 118 rfl rfl, List.forall_mem_cons.mpr ⟨tt1 120 rfl rfl, List.forall_mem_cons.mpr ⟨tt1 122 rfl rfl, List.forall_mem_cons.mpr ⟨tt1 124 rfl rfl, List.forall_mem_cons.mpr ⟨tt1 126 rfl rfl, List.forall_mem_cons.mpr ⟨tt1 128 rfl rfl, fun _ h => absurd h List.not_mem_nil⟩⟩⟩⟩⟩⟩⟩⟩⟩⟩
def cn2 : String := "FourPalms$Days"
def ct2 : u_T := fun k => match k with
  | 0 => ("FourPalms$Days", "world", "LFourPalms$World;", true)
  | _ => ("FourPalms$Days", "standing", "LFourPalms$Standing;", true)
def cy2 : Nat → FieldType := fun k => match k with
  | 0 => .object "FourPalms$World"
  | _ => .object "FourPalms$Standing"
theorem cnm2 : ∀ a, a < 2 → ∀ b, b < 2 → a ≠ b → (ct2 a).2.1 ≠ (ct2 b).2.1 := by decide +kernel
theorem cty2 : ∀ k, k < 2 → parseFieldDescriptor (ct2 k).2.2.1 = some (cy2 k) := by decide +kernel
theorem cw2 : ∀ w ∈ u_ws cn2 ct2 2, w ∈ TT := List.forall_mem_cons.mpr ⟨tt2 140 rfl rfl, List.forall_mem_cons.mpr ⟨tt2 142 rfl rfl, fun _ h => absurd h List.not_mem_nil⟩⟩
def cn3 : String := "FourPalms$Orders"
def ct3 : u_T := fun k => match k with
  | 0 => ("FourPalms$Orders", "many", "I", false)
  | 1 => ("FourPalms$Orders", "ranks", "[I", true)
  | _ => ("FourPalms$Orders", "ahead", "[I", true)
def cy3 : Nat → FieldType := fun k => match k with
  | 0 => .int
  | 1 => .array .int
  | _ => .array .int
theorem cnm3 : ∀ a, a < 3 → ∀ b, b < 3 → a ≠ b → (ct3 a).2.1 ≠ (ct3 b).2.1 := by decide +kernel
theorem cty3 : ∀ k, k < 3 → parseFieldDescriptor (ct3 k).2.2.1 = some (cy3 k) := by decide +kernel
theorem cw3 : ∀ w ∈ u_ws cn3 ct3 3, w ∈ TT := List.forall_mem_cons.mpr ⟨tt2 55 rfl rfl, List.forall_mem_cons.mpr ⟨tt2 57 rfl rfl, List.forall_mem_cons.mpr ⟨tt2 59 rfl rfl, fun _ h => absurd h List.not_mem_nil⟩⟩⟩
def cn4 : String := "FourPalms$Pair"
def ct4 : u_T := fun k => match k with
  | 0 => ("FourPalms$Pair", "asked", "[I", true)
  | _ => ("FourPalms$Pair", "stack", "[I", true)
def cy4 : Nat → FieldType := fun k => match k with
  | 0 => .array .int
  | _ => .array .int
theorem cnm4 : ∀ a, a < 2 → ∀ b, b < 2 → a ≠ b → (ct4 a).2.1 ≠ (ct4 b).2.1 := by decide +kernel
theorem cty4 : ∀ k, k < 2 → parseFieldDescriptor (ct4 k).2.2.1 = some (cy4 k) := by decide +kernel
theorem cw4 : ∀ w ∈ u_ws cn4 ct4 2, w ∈ TT := List.forall_mem_cons.mpr ⟨tt1 166 rfl rfl, List.forall_mem_cons.mpr ⟨tt1 168 rfl rfl, fun _ h => absurd h List.not_mem_nil⟩⟩
def cn5 : String := "FourPalms$Reader"
def ct5 : u_T := fun k => match k with
  | 0 => ("FourPalms$Reader", "tape", "[I", true)
  | 1 => ("FourPalms$Reader", "length", "I", false)
  | 2 => ("FourPalms$Reader", "fault", "I", false)
  | 3 => ("FourPalms$Reader", "faultPlace", "I", false)
  | 4 => ("FourPalms$Reader", "draft", "LFourPalms$Rule;", true)
  | 5 => ("FourPalms$Reader", "pending", "[I", true)
  | 6 => ("FourPalms$Reader", "pendingCount", "I", false)
  | 7 => ("FourPalms$Reader", "opened", "I", false)
  | 8 => ("FourPalms$Reader", "compared", "Z", false)
  | 9 => ("FourPalms$Reader", "lineWaits", "Z", false)
  | 10 => ("FourPalms$Reader", "mode", "I", false)
  | 11 => ("FourPalms$Reader", "at", "I", false)
  | 12 => ("FourPalms$Reader", "token", "I", false)
  | 13 => ("FourPalms$Reader", "place", "I", false)
  | _ => ("FourPalms$Reader", "number", "I", false)
def cy5 : Nat → FieldType := fun k => match k with
  | 0 => .array .int
  | 1 => .int
  | 2 => .int
  | 3 => .int
  | 4 => .object "FourPalms$Rule"
  | 5 => .array .int
  | 6 => .int
  | 7 => .int
  | 8 => .boolean
  | 9 => .boolean
  | 10 => .int
  | 11 => .int
  | 12 => .int
  | 13 => .int
  | _ => .int
theorem cnm5 : ∀ a, a < 15 → ∀ b, b < 15 → a ≠ b → (ct5 a).2.1 ≠ (ct5 b).2.1 := by decide +kernel
theorem cty5 : ∀ k, k < 15 → parseFieldDescriptor (ct5 k).2.2.1 = some (cy5 k) := by decide +kernel
theorem cw5 : ∀ w ∈ u_ws cn5 ct5 15, w ∈ TT := List.forall_mem_cons.mpr ⟨tt1 233 rfl rfl, List.forall_mem_cons.mpr ⟨tt1 235 rfl rfl, List.forall_mem_cons.mpr ⟨tt1 237 rfl rfl, List.forall_mem_cons.mpr ⟨tt1 239 rfl rfl, List.forall_mem_cons.mpr ⟨tt2 1 rfl rfl, List.forall_mem_cons.mpr ⟨tt2 3 rfl rfl, List.forall_mem_cons.mpr ⟨tt2 5 rfl rfl, List.forall_mem_cons.mpr ⟨tt2 7 rfl rfl, List.forall_mem_cons.mpr ⟨tt2 9 rfl rfl, List.forall_mem_cons.mpr ⟨tt2 11 rfl rfl, List.forall_mem_cons.mpr ⟨tt2 13 rfl rfl, List.forall_mem_cons.mpr ⟨tt2 15 rfl rfl, List.forall_mem_cons.mpr ⟨tt2 17 rfl rfl, List.forall_mem_cons.mpr ⟨tt2 19 rfl rfl, List.forall_mem_cons.mpr ⟨tt2 21 rfl rfl, fun _ h => absurd h List.not_mem_nil⟩⟩⟩⟩⟩⟩⟩⟩⟩⟩⟩⟩⟩⟩⟩
def cn6 : String := "FourPalms$Rings"
def ct6 : u_T := fun k => match k with
  | 0 => ("FourPalms$Rings", "world", "LFourPalms$World;", true)
  | 1 => ("FourPalms$Rings", "fill", "[I", true)
  | 2 => ("FourPalms$Rings", "row", "[I", true)
  | 3 => ("FourPalms$Rings", "length", "I", false)
  | _ => ("FourPalms$Rings", "fills", "I", false)
def cy6 : Nat → FieldType := fun k => match k with
  | 0 => .object "FourPalms$World"
  | 1 => .array .int
  | 2 => .array .int
  | 3 => .int
  | _ => .int
theorem cnm6 : ∀ a, a < 5 → ∀ b, b < 5 → a ≠ b → (ct6 a).2.1 ≠ (ct6 b).2.1 := by decide +kernel
theorem cty6 : ∀ k, k < 5 → parseFieldDescriptor (ct6 k).2.2.1 = some (cy6 k) := by decide +kernel
theorem cw6 : ∀ w ∈ u_ws cn6 ct6 5, w ∈ TT := List.forall_mem_cons.mpr ⟨tt2 159 rfl rfl, List.forall_mem_cons.mpr ⟨tt2 161 rfl rfl, List.forall_mem_cons.mpr ⟨tt2 163 rfl rfl, List.forall_mem_cons.mpr ⟨tt2 165 rfl rfl, List.forall_mem_cons.mpr ⟨tt2 167 rfl rfl, fun _ h => absurd h List.not_mem_nil⟩⟩⟩⟩⟩
def cn7 : String := "FourPalms$Rule"
def ct7 : u_T := fun k => match k with
  | 0 => ("FourPalms$Rule", "lines", "I", false)
  | 1 => ("FourPalms$Rule", "size", "I", false)
  | 2 => ("FourPalms$Rule", "waiting", "I", false)
  | 3 => ("FourPalms$Rule", "starts", "[I", true)
  | _ => ("FourPalms$Rule", "operations", "[I", true)
def cy7 : Nat → FieldType := fun k => match k with
  | 0 => .int
  | 1 => .int
  | 2 => .int
  | 3 => .array .int
  | _ => .array .int
theorem cnm7 : ∀ a, a < 5 → ∀ b, b < 5 → a ≠ b → (ct7 a).2.1 ≠ (ct7 b).2.1 := by decide +kernel
theorem cty7 : ∀ k, k < 5 → parseFieldDescriptor (ct7 k).2.2.1 = some (cy7 k) := by decide +kernel
theorem cw7 : ∀ w ∈ u_ws cn7 ct7 5, w ∈ TT := List.forall_mem_cons.mpr ⟨tt1 53 rfl rfl, List.forall_mem_cons.mpr ⟨tt1 55 rfl rfl, List.forall_mem_cons.mpr ⟨tt1 57 rfl rfl, List.forall_mem_cons.mpr ⟨tt1 59 rfl rfl, List.forall_mem_cons.mpr ⟨tt1 61 rfl rfl, fun _ h => absurd h List.not_mem_nil⟩⟩⟩⟩⟩
def cn8 : String := "FourPalms$Standing"
def ct8 : u_T := fun k => match k with
  | 0 => ("FourPalms$Standing", "world", "LFourPalms$World;", true)
  | 1 => ("FourPalms$Standing", "pair", "LFourPalms$Pair;", true)
  | 2 => ("FourPalms$Standing", "walk", "[I", true)
  | 3 => ("FourPalms$Standing", "circleStart", "I", false)
  | 4 => ("FourPalms$Standing", "circleLength", "I", false)
  | 5 => ("FourPalms$Standing", "clearTimes", "I", false)
  | 6 => ("FourPalms$Standing", "clearLeft", "I", false)
  | _ => ("FourPalms$Standing", "clearFights", "I", false)
def cy8 : Nat → FieldType := fun k => match k with
  | 0 => .object "FourPalms$World"
  | 1 => .object "FourPalms$Pair"
  | 2 => .array .int
  | 3 => .int
  | 4 => .int
  | 5 => .int
  | 6 => .int
  | _ => .int
theorem cnm8 : ∀ a, a < 8 → ∀ b, b < 8 → a ≠ b → (ct8 a).2.1 ≠ (ct8 b).2.1 := by decide +kernel
theorem cty8 : ∀ k, k < 8 → parseFieldDescriptor (ct8 k).2.2.1 = some (cy8 k) := by decide +kernel
theorem cw8 : ∀ w ∈ u_ws cn8 ct8 8, w ∈ TT := List.forall_mem_cons.mpr ⟨tt1 189 rfl rfl, List.forall_mem_cons.mpr ⟨tt1 191 rfl rfl, List.forall_mem_cons.mpr ⟨tt1 193 rfl rfl, List.forall_mem_cons.mpr ⟨tt1 195 rfl rfl, List.forall_mem_cons.mpr ⟨tt1 197 rfl rfl, List.forall_mem_cons.mpr ⟨tt1 199 rfl rfl, List.forall_mem_cons.mpr ⟨tt1 201 rfl rfl, List.forall_mem_cons.mpr ⟨tt1 203 rfl rfl, fun _ h => absurd h List.not_mem_nil⟩⟩⟩⟩⟩⟩⟩⟩
def cn9 : String := "FourPalms$World"
def ct9 : u_T := fun k => match k with
  | 0 => ("FourPalms$World", "draws", "I", false)
  | 1 => ("FourPalms$World", "landRules", "[I", true)
  | 2 => ("FourPalms$World", "rules", "[LFourPalms$Rule;", true)
  | _ => ("FourPalms$World", "crossings", "[LFourPalms$Crossing;", true)
def cy9 : Nat → FieldType := fun k => match k with
  | 0 => .int
  | 1 => .array .int
  | 2 => .array (.object "FourPalms$Rule")
  | _ => .array (.object "FourPalms$Crossing")
theorem cnm9 : ∀ a, a < 4 → ∀ b, b < 4 → a ≠ b → (ct9 a).2.1 ≠ (ct9 b).2.1 := by decide +kernel
theorem cty9 : ∀ k, k < 4 → parseFieldDescriptor (ct9 k).2.2.1 = some (cy9 k) := by decide +kernel
theorem cw9 : ∀ w ∈ u_ws cn9 ct9 4, w ∈ TT := List.forall_mem_cons.mpr ⟨tt1 145 rfl rfl, List.forall_mem_cons.mpr ⟨tt1 147 rfl rfl, List.forall_mem_cons.mpr ⟨tt1 149 rfl rfl, List.forall_mem_cons.mpr ⟨tt1 151 rfl rfl, fun _ h => absurd h List.not_mem_nil⟩⟩⟩⟩
def cn10 : String := "FourPalms"
def ct10 : u_T := fun k => match k with
  | 0 => ("FourPalms", "world", "LFourPalms$World;", true)
  | 1 => ("FourPalms", "kept", "LFourPalms$World;", true)
  | 2 => ("FourPalms", "reader", "LFourPalms$Reader;", true)
  | 3 => ("FourPalms", "standing", "LFourPalms$Standing;", true)
  | 4 => ("FourPalms", "coming", "LFourPalms$Coming;", true)
  | 5 => ("FourPalms", "calendar", "LFourPalms$Days;", true)
  | 6 => ("FourPalms", "rings", "LFourPalms$Rings;", true)
  | _ => ("FourPalms", "imaged", "Z", false)
def cy10 : Nat → FieldType := fun k => match k with
  | 0 => .object "FourPalms$World"
  | 1 => .object "FourPalms$World"
  | 2 => .object "FourPalms$Reader"
  | 3 => .object "FourPalms$Standing"
  | 4 => .object "FourPalms$Coming"
  | 5 => .object "FourPalms$Days"
  | 6 => .object "FourPalms$Rings"
  | _ => .boolean
theorem cnm10 : ∀ a, a < 8 → ∀ b, b < 8 → a ≠ b → (ct10 a).2.1 ≠ (ct10 b).2.1 := by decide +kernel
theorem cty10 : ∀ k, k < 8 → parseFieldDescriptor (ct10 k).2.2.1 = some (cy10 k) := by decide +kernel
theorem cw10 : ∀ w ∈ u_ws cn10 ct10 8, w ∈ TT := List.forall_mem_cons.mpr ⟨tt2 178 rfl rfl, List.forall_mem_cons.mpr ⟨tt2 180 rfl rfl, List.forall_mem_cons.mpr ⟨tt2 182 rfl rfl, List.forall_mem_cons.mpr ⟨tt2 184 rfl rfl, List.forall_mem_cons.mpr ⟨tt2 186 rfl rfl, List.forall_mem_cons.mpr ⟨tt2 188 rfl rfl, List.forall_mem_cons.mpr ⟨tt2 190 rfl rfl, List.forall_mem_cons.mpr ⟨tt2 192 rfl rfl, fun _ h => absurd h List.not_mem_nil⟩⟩⟩⟩⟩⟩⟩⟩
def cn11 : String := "FourPalmsModel"
def ct11 : u_T := fun k => match k with
  | 0 => ("FourPalmsModel", "w", "[I", true)
  | 1 => ("FourPalmsModel", "kept", "[I", true)
  | 2 => ("FourPalmsModel", "hasImage", "Z", false)
  | 3 => ("FourPalmsModel", "freshLine", "[I", true)
  | 4 => ("FourPalmsModel", "freshStep", "[I", true)
  | 5 => ("FourPalmsModel", "tape", "[I", true)
  | 6 => ("FourPalmsModel", "pile", "[I", true)
  | 7 => ("FourPalmsModel", "facts", "[I", true)
  | 8 => ("FourPalmsModel", "lines", "I", false)
  | 9 => ("FourPalmsModel", "steps", "I", false)
  | 10 => ("FourPalmsModel", "taped", "I", false)
  | 11 => ("FourPalmsModel", "at", "I", false)
  | 12 => ("FourPalmsModel", "token", "I", false)
  | 13 => ("FourPalmsModel", "tokenAt", "I", false)
  | 14 => ("FourPalmsModel", "value", "I", false)
  | 15 => ("FourPalmsModel", "wrong", "I", false)
  | 16 => ("FourPalmsModel", "wrongAt", "I", false)
  | 17 => ("FourPalmsModel", "faultKind", "I", false)
  | 18 => ("FourPalmsModel", "depth", "I", false)
  | 19 => ("FourPalmsModel", "faultPlace", "I", false)
  | 20 => ("FourPalmsModel", "n", "I", false)
  | 21 => ("FourPalmsModel", "size", "[I", true)
  | 22 => ("FourPalmsModel", "slope", "[I", true)
  | 23 => ("FourPalmsModel", "sign", "[I", true)
  | 24 => ("FourPalmsModel", "landOf", "[I", true)
  | 25 => ("FourPalmsModel", "to", "[I", true)
  | 26 => ("FourPalmsModel", "sort", "[I", true)
  | 27 => ("FourPalmsModel", "load", "[I", true)
  | 28 => ("FourPalmsModel", "rank", "[I", true)
  | 29 => ("FourPalmsModel", "habit", "[I", true)
  | 30 => ("FourPalmsModel", "stay", "[I", true)
  | 31 => ("FourPalmsModel", "comers", "[I", true)
  | 32 => ("FourPalmsModel", "has", "[Z", true)
  | 33 => ("FourPalmsModel", "wording", "I", false)
  | 34 => ("FourPalmsModel", "oneRule", "I", false)
  | 35 => ("FourPalmsModel", "meaning", "I", false)
  | 36 => ("FourPalmsModel", "round", "[I", true)
  | 37 => ("FourPalmsModel", "all", "I", false)
  | 38 => ("FourPalmsModel", "stuck", "I", false)
  | 39 => ("FourPalmsModel", "both", "I", false)
  | 40 => ("FourPalmsModel", "stuckCarts", "I", false)
  | 41 => ("FourPalmsModel", "stuckNumber", "I", false)
  | 42 => ("FourPalmsModel", "stuckOrder", "I", false)
  | 43 => ("FourPalmsModel", "bothCarts", "I", false)
  | 44 => ("FourPalmsModel", "bothNumber", "I", false)
  | 45 => ("FourPalmsModel", "bothOrder", "I", false)
  | 46 => ("FourPalmsModel", "far", "[I", true)
  | 47 => ("FourPalmsModel", "row", "[I", true)
  | _ => ("FourPalmsModel", "best", "[I", true)
def cy11 : Nat → FieldType := fun k => match k with
  | 0 => .array .int
  | 1 => .array .int
  | 2 => .boolean
  | 3 => .array .int
  | 4 => .array .int
  | 5 => .array .int
  | 6 => .array .int
  | 7 => .array .int
  | 8 => .int
  | 9 => .int
  | 10 => .int
  | 11 => .int
  | 12 => .int
  | 13 => .int
  | 14 => .int
  | 15 => .int
  | 16 => .int
  | 17 => .int
  | 18 => .int
  | 19 => .int
  | 20 => .int
  | 21 => .array .int
  | 22 => .array .int
  | 23 => .array .int
  | 24 => .array .int
  | 25 => .array .int
  | 26 => .array .int
  | 27 => .array .int
  | 28 => .array .int
  | 29 => .array .int
  | 30 => .array .int
  | 31 => .array .int
  | 32 => .array .boolean
  | 33 => .int
  | 34 => .int
  | 35 => .int
  | 36 => .array .int
  | 37 => .int
  | 38 => .int
  | 39 => .int
  | 40 => .int
  | 41 => .int
  | 42 => .int
  | 43 => .int
  | 44 => .int
  | 45 => .int
  | 46 => .array .int
  | 47 => .array .int
  | _ => .array .int
theorem cnm11 : ∀ a, a < 49 → ∀ b, b < 49 → a ≠ b → (ct11 a).2.1 ≠ (ct11 b).2.1 := by decide +kernel
theorem cty11 : ∀ k, k < 49 → parseFieldDescriptor (ct11 k).2.2.1 = some (cy11 k) := by decide +kernel
theorem cw11 : ∀ w ∈ u_ws cn11 ct11 49, w ∈ TT := List.forall_mem_cons.mpr ⟨tt6 86 rfl rfl, List.forall_mem_cons.mpr ⟨tt6 88 rfl rfl, List.forall_mem_cons.mpr ⟨tt6 90 rfl rfl, List.forall_mem_cons.mpr ⟨tt6 92 rfl rfl, List.forall_mem_cons.mpr ⟨tt6 94 rfl rfl, List.forall_mem_cons.mpr ⟨tt6 96 rfl rfl, List.forall_mem_cons.mpr ⟨tt6 98 rfl rfl, List.forall_mem_cons.mpr ⟨tt6 100 rfl rfl, List.forall_mem_cons.mpr ⟨tt6 102 rfl rfl, List.forall_mem_cons.mpr ⟨tt6 104 rfl rfl, List.forall_mem_cons.mpr ⟨tt6 106 rfl rfl, List.forall_mem_cons.mpr ⟨tt6 108 rfl rfl, List.forall_mem_cons.mpr ⟨tt6 110 rfl rfl, List.forall_mem_cons.mpr ⟨tt6 112 rfl rfl, List.forall_mem_cons.mpr ⟨tt6 114 rfl rfl, List.forall_mem_cons.mpr ⟨tt6 116 rfl rfl, List.forall_mem_cons.mpr ⟨tt6 118 rfl rfl, List.forall_mem_cons.mpr ⟨tt6 120 rfl rfl, List.forall_mem_cons.mpr ⟨tt6 122 rfl rfl, List.forall_mem_cons.mpr ⟨tt6 124 rfl rfl, List.forall_mem_cons.mpr ⟨tt6 126 rfl rfl, List.forall_mem_cons.mpr ⟨tt6 128 rfl rfl, List.forall_mem_cons.mpr ⟨tt6 130 rfl rfl, List.forall_mem_cons.mpr ⟨tt6 132 rfl rfl, List.forall_mem_cons.mpr ⟨tt6 134 rfl rfl, List.forall_mem_cons.mpr ⟨tt6 136 rfl rfl, List.forall_mem_cons.mpr ⟨tt6 138 rfl rfl, List.forall_mem_cons.mpr ⟨tt6 140 rfl rfl, List.forall_mem_cons.mpr ⟨tt6 142 rfl rfl, List.forall_mem_cons.mpr ⟨tt6 144 rfl rfl, List.forall_mem_cons.mpr ⟨tt6 146 rfl rfl, List.forall_mem_cons.mpr ⟨tt6 148 rfl rfl, List.forall_mem_cons.mpr ⟨tt6 150 rfl rfl, List.forall_mem_cons.mpr ⟨tt6 152 rfl rfl, List.forall_mem_cons.mpr ⟨tt6 154 rfl rfl, List.forall_mem_cons.mpr ⟨tt6 156 rfl rfl, List.forall_mem_cons.mpr ⟨tt6 158 rfl rfl, List.forall_mem_cons.mpr ⟨tt6 160 rfl rfl, List.forall_mem_cons.mpr ⟨tt6 162 rfl rfl, List.forall_mem_cons.mpr ⟨tt6 164 rfl rfl, List.forall_mem_cons.mpr ⟨tt6 166 rfl rfl, List.forall_mem_cons.mpr ⟨tt6 168 rfl rfl, List.forall_mem_cons.mpr ⟨tt6 170 rfl rfl, List.forall_mem_cons.mpr ⟨tt6 172 rfl rfl, List.forall_mem_cons.mpr ⟨tt6 174 rfl rfl, List.forall_mem_cons.mpr ⟨tt6 176 rfl rfl, List.forall_mem_cons.mpr ⟨tt6 178 rfl rfl, List.forall_mem_cons.mpr ⟨tt6 180 rfl rfl, List.forall_mem_cons.mpr ⟨tt6 182 rfl rfl, fun _ h => absurd h List.not_mem_nil⟩⟩⟩⟩⟩⟩⟩⟩⟩⟩⟩⟩⟩⟩⟩⟩⟩⟩⟩⟩⟩⟩⟩⟩⟩⟩⟩⟩⟩⟩⟩⟩⟩⟩⟩⟩⟩⟩⟩⟩⟩⟩⟩⟩⟩⟩⟩⟩⟩
abbrev CLS : List vw_C := [(cn0, ct0, 20), (cn1, ct1, 10), (cn2, ct2, 2), (cn3, ct3, 3), (cn4, ct4, 2), (cn5, ct5, 15), (cn6, ct6, 5), (cn7, ct7, 5), (cn8, ct8, 8), (cn9, ct9, 4), (cn10, ct10, 8), (cn11, ct11, 49)]
def ftyp (ci j : Nat) : FieldType := match ci with
  | 0 => cy0 j
  | 1 => cy1 j
  | 2 => cy2 j
  | 3 => cy3 j
  | 4 => cy4 j
  | 5 => cy5 j
  | 6 => cy6 j
  | 7 => cy7 j
  | 8 => cy8 j
  | 9 => cy9 j
  | 10 => cy10 j
  | _ => cy11 j
/-- is the j-th field of class ci a reference? -/
def frf (ci j : Nat) : Bool := match ftyp ci j with
  | .int => false
  | .boolean => false
  | _ => true
