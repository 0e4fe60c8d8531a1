section
-- ===== PART A: goes FIRST, ahead of the names: the tables' words, and 'selects' of the private methods out of them =====
/-- a private method of a class that the tables say can be made, by its rows of tables_1 -/
def lw_okq (q : MethodName × Nat) : Prop := (q.1.cls ≠ "java/lang/invoke/MethodHandle" ∧ q.1.cls ≠ "java/lang/invoke/VarHandle") ∧ Cond.instantiable q.1.cls q.2 ∈ tables_1 ∧ Cond.privateMethod q.1 ∈ tables_1 ∧ Cond.instanceMethod q.1 ∈ tables_1
theorem lw_p0 : lw_okq (⟨"TimedJoin$Course", "activeTogether", "()I"⟩, 13) := ⟨⟨by decide +kernel, by decide +kernel⟩, List.mem_of_getElem? (i := 83) (by decide +kernel), List.mem_of_getElem? (i := 393) (by decide +kernel), List.mem_of_getElem? (i := 394) (by decide +kernel)⟩
theorem lw_p1 : lw_okq (⟨"TimedJoin$Course", "takeStart", "(LTimedJoin$State;II)V"⟩, 13) := ⟨⟨by decide +kernel, by decide +kernel⟩, List.mem_of_getElem? (i := 83) (by decide +kernel), List.mem_of_getElem? (i := 409) (by decide +kernel), List.mem_of_getElem? (i := 410) (by decide +kernel)⟩
theorem lw_p2 : lw_okq (⟨"TimedJoin$Course", "putPair", "(II)V"⟩, 13) := ⟨⟨by decide +kernel, by decide +kernel⟩, List.mem_of_getElem? (i := 83) (by decide +kernel), List.mem_of_getElem? (i := 441) (by decide +kernel), List.mem_of_getElem? (i := 442) (by decide +kernel)⟩
theorem lw_p3 : lw_okq (⟨"TimedJoin$Course", "takeEnd", "(II)V"⟩, 13) := ⟨⟨by decide +kernel, by decide +kernel⟩, List.mem_of_getElem? (i := 83) (by decide +kernel), List.mem_of_getElem? (i := 446) (by decide +kernel), List.mem_of_getElem? (i := 447) (by decide +kernel)⟩
theorem lw_p4 : lw_okq (⟨"TimedJoin", "isRow", "(II)Z"⟩, 6) := ⟨⟨by decide +kernel, by decide +kernel⟩, List.mem_of_getElem? (i := 14) (by decide +kernel), List.mem_of_getElem? (i := 496) (by decide +kernel), List.mem_of_getElem? (i := 497) (by decide +kernel)⟩
theorem lw_p5 : lw_okq (⟨"TimedJoin", "ofMates", "(III)I"⟩, 6) := ⟨⟨by decide +kernel, by decide +kernel⟩, List.mem_of_getElem? (i := 14) (by decide +kernel), List.mem_of_getElem? (i := 505) (by decide +kernel), List.mem_of_getElem? (i := 506) (by decide +kernel)⟩
theorem lw_p6 : lw_okq (⟨"TimedJoin$Mates", "countAt", "(I)I"⟩, 6) := ⟨⟨by decide +kernel, by decide +kernel⟩, List.mem_of_getElem? (i := 229) (by decide +kernel), List.mem_of_getElem? (i := 521) (by decide +kernel), List.mem_of_getElem? (i := 522) (by decide +kernel)⟩
theorem lw_p7 : lw_okq (⟨"TimedJoin$Mates", "longestAt", "(I)I"⟩, 6) := ⟨⟨by decide +kernel, by decide +kernel⟩, List.mem_of_getElem? (i := 229) (by decide +kernel), List.mem_of_getElem? (i := 534) (by decide +kernel), List.mem_of_getElem? (i := 535) (by decide +kernel)⟩
theorem lw_p8 : lw_okq (⟨"TimedJoin$Mates", "nextStart", "(I)I"⟩, 6) := ⟨⟨by decide +kernel, by decide +kernel⟩, List.mem_of_getElem? (i := 229) (by decide +kernel), List.mem_of_getElem? (i := 538) (by decide +kernel), List.mem_of_getElem? (i := 539) (by decide +kernel)⟩
theorem lw_p9 : lw_okq (⟨"TimedJoin", "countLeftOver", "()I"⟩, 6) := ⟨⟨by decide +kernel, by decide +kernel⟩, List.mem_of_getElem? (i := 14) (by decide +kernel), List.mem_of_getElem? (i := 548) (by decide +kernel), List.mem_of_getElem? (i := 549) (by decide +kernel)⟩
theorem lw_p10 : lw_okq (⟨"TimedJoin", "longCovered", "()I"⟩, 6) := ⟨⟨by decide +kernel, by decide +kernel⟩, List.mem_of_getElem? (i := 14) (by decide +kernel), List.mem_of_getElem? (i := 557) (by decide +kernel), List.mem_of_getElem? (i := 558) (by decide +kernel)⟩
theorem lw_p11 : lw_okq (⟨"TimedJoin", "leftOver", "(III)I"⟩, 6) := ⟨⟨by decide +kernel, by decide +kernel⟩, List.mem_of_getElem? (i := 14) (by decide +kernel), List.mem_of_getElem? (i := 578) (by decide +kernel), List.mem_of_getElem? (i := 579) (by decide +kernel)⟩
theorem lw_p12 : lw_okq (⟨"TimedJoin$Mates", "putInside", "(LTimedJoin$Codes;I)V"⟩, 6) := ⟨⟨by decide +kernel, by decide +kernel⟩, List.mem_of_getElem? (i := 229) (by decide +kernel), List.mem_of_getElem? (i := 592) (by decide +kernel), List.mem_of_getElem? (i := 593) (by decide +kernel)⟩
theorem lw_p13 : lw_okq (⟨"TimedJoin", "sharedBy", "(I)J"⟩, 6) := ⟨⟨by decide +kernel, by decide +kernel⟩, List.mem_of_getElem? (i := 14) (by decide +kernel), List.mem_of_getElem? (i := 623) (by decide +kernel), List.mem_of_getElem? (i := 624) (by decide +kernel)⟩
theorem lw_p14 : lw_okq (⟨"TimedJoin$Rows", "isThere", "(II)Z"⟩, 6) := ⟨⟨by decide +kernel, by decide +kernel⟩, List.mem_of_getElem? (i := 28) (by decide +kernel), List.mem_of_getElem? (i := 642) (by decide +kernel), List.mem_of_getElem? (i := 643) (by decide +kernel)⟩
theorem lw_p15 : lw_okq (⟨"TimedJoin", "countThere", "(II)I"⟩, 6) := ⟨⟨by decide +kernel, by decide +kernel⟩, List.mem_of_getElem? (i := 14) (by decide +kernel), List.mem_of_getElem? (i := 652) (by decide +kernel), List.mem_of_getElem? (i := 653) (by decide +kernel)⟩
def lw_privs_1 : List (MethodName × Nat) := [(⟨"TimedJoin$Course", "activeTogether", "()I"⟩, 13), (⟨"TimedJoin$Course", "takeStart", "(LTimedJoin$State;II)V"⟩, 13), (⟨"TimedJoin$Course", "putPair", "(II)V"⟩, 13), (⟨"TimedJoin$Course", "takeEnd", "(II)V"⟩, 13), (⟨"TimedJoin", "isRow", "(II)Z"⟩, 6), (⟨"TimedJoin", "ofMates", "(III)I"⟩, 6), (⟨"TimedJoin$Mates", "countAt", "(I)I"⟩, 6), (⟨"TimedJoin$Mates", "longestAt", "(I)I"⟩, 6), (⟨"TimedJoin$Mates", "nextStart", "(I)I"⟩, 6), (⟨"TimedJoin", "countLeftOver", "()I"⟩, 6), (⟨"TimedJoin", "longCovered", "()I"⟩, 6), (⟨"TimedJoin", "leftOver", "(III)I"⟩, 6), (⟨"TimedJoin$Mates", "putInside", "(LTimedJoin$Codes;I)V"⟩, 6), (⟨"TimedJoin", "sharedBy", "(I)J"⟩, 6), (⟨"TimedJoin$Rows", "isThere", "(II)Z"⟩, 6), (⟨"TimedJoin", "countThere", "(II)I"⟩, 6)]
theorem lw_r1 : ∀ q ∈ lw_privs_1, lw_okq q := List.forall_mem_cons.mpr ⟨lw_p0, List.forall_mem_cons.mpr ⟨lw_p1, List.forall_mem_cons.mpr ⟨lw_p2, List.forall_mem_cons.mpr ⟨lw_p3, List.forall_mem_cons.mpr ⟨lw_p4, List.forall_mem_cons.mpr ⟨lw_p5, List.forall_mem_cons.mpr ⟨lw_p6, List.forall_mem_cons.mpr ⟨lw_p7, List.forall_mem_cons.mpr ⟨lw_p8, List.forall_mem_cons.mpr ⟨lw_p9, List.forall_mem_cons.mpr ⟨lw_p10, List.forall_mem_cons.mpr ⟨lw_p11, List.forall_mem_cons.mpr ⟨lw_p12, List.forall_mem_cons.mpr ⟨lw_p13, List.forall_mem_cons.mpr ⟨lw_p14, List.forall_mem_cons.mpr ⟨lw_p15, fun _ h => absurd h List.not_mem_nil⟩⟩⟩⟩⟩⟩⟩⟩⟩⟩⟩⟩⟩⟩⟩⟩
theorem lw_p16 : lw_okq (⟨"TimedJoin", "makeOne", "(LTimedJoin$Rows;I)V"⟩, 6) := ⟨⟨by decide +kernel, by decide +kernel⟩, List.mem_of_getElem? (i := 14) (by decide +kernel), List.mem_of_getElem? (i := 661) (by decide +kernel), List.mem_of_getElem? (i := 662) (by decide +kernel)⟩
theorem lw_p17 : lw_okq (⟨"TimedJoin", "joinSpan", "(LTimedJoin$Rows;II)V"⟩, 6) := ⟨⟨by decide +kernel, by decide +kernel⟩, List.mem_of_getElem? (i := 14) (by decide +kernel), List.mem_of_getElem? (i := 672) (by decide +kernel), List.mem_of_getElem? (i := 673) (by decide +kernel)⟩
theorem lw_p18 : lw_okq (⟨"TimedJoin", "leastLane", "(LTimedJoin$Rows;II)I"⟩, 6) := ⟨⟨by decide +kernel, by decide +kernel⟩, List.mem_of_getElem? (i := 14) (by decide +kernel), List.mem_of_getElem? (i := 714) (by decide +kernel), List.mem_of_getElem? (i := 715) (by decide +kernel)⟩
theorem lw_p19 : lw_okq (⟨"TimedJoin$Web", "narrow", "(II)Z"⟩, 3) := ⟨⟨by decide +kernel, by decide +kernel⟩, List.mem_of_getElem? (i := 140) (by decide +kernel), List.mem_of_getElem? (i := 774) (by decide +kernel), List.mem_of_getElem? (i := 775) (by decide +kernel)⟩
theorem lw_p20 : lw_okq (⟨"TimedJoin", "mostPartners", "()I"⟩, 6) := ⟨⟨by decide +kernel, by decide +kernel⟩, List.mem_of_getElem? (i := 14) (by decide +kernel), List.mem_of_getElem? (i := 823) (by decide +kernel), List.mem_of_getElem? (i := 824) (by decide +kernel)⟩
theorem lw_p21 : lw_okq (⟨"TimedJoinModel", "isSweeping", "()Z"⟩, 14) := ⟨⟨by decide +kernel, by decide +kernel⟩, List.mem_of_getElem? (i := 837) (by decide +kernel), List.mem_of_getElem? (i := 898) (by decide +kernel), List.mem_of_getElem? (i := 899) (by decide +kernel)⟩
theorem lw_p22 : lw_okq (⟨"TimedJoinModel", "causes", "(II)V"⟩, 14) := ⟨⟨by decide +kernel, by decide +kernel⟩, List.mem_of_getElem? (i := 837) (by decide +kernel), List.mem_of_getElem? (i := 902) (by decide +kernel), List.mem_of_getElem? (i := 903) (by decide +kernel)⟩
theorem lw_p23 : lw_okq (⟨"TimedJoinModel", "lays", "(IIIIII)V"⟩, 14) := ⟨⟨by decide +kernel, by decide +kernel⟩, List.mem_of_getElem? (i := 837) (by decide +kernel), List.mem_of_getElem? (i := 910) (by decide +kernel), List.mem_of_getElem? (i := 911) (by decide +kernel)⟩
theorem lw_p24 : lw_okq (⟨"TimedJoinModel", "comes", "(IIIIIII)Z"⟩, 14) := ⟨⟨by decide +kernel, by decide +kernel⟩, List.mem_of_getElem? (i := 837) (by decide +kernel), List.mem_of_getElem? (i := 925) (by decide +kernel), List.mem_of_getElem? (i := 926) (by decide +kernel)⟩
theorem lw_p25 : lw_okq (⟨"TimedJoinModel", "orderTrouble", "(III)I"⟩, 14) := ⟨⟨by decide +kernel, by decide +kernel⟩, List.mem_of_getElem? (i := 837) (by decide +kernel), List.mem_of_getElem? (i := 937) (by decide +kernel), List.mem_of_getElem? (i := 938) (by decide +kernel)⟩
theorem lw_p26 : lw_okq (⟨"TimedJoinModel", "of", "(III)I"⟩, 14) := ⟨⟨by decide +kernel, by decide +kernel⟩, List.mem_of_getElem? (i := 837) (by decide +kernel), List.mem_of_getElem? (i := 941) (by decide +kernel), List.mem_of_getElem? (i := 942) (by decide +kernel)⟩
theorem lw_p27 : lw_okq (⟨"TimedJoinModel", "at", "(II)I"⟩, 14) := ⟨⟨by decide +kernel, by decide +kernel⟩, List.mem_of_getElem? (i := 837) (by decide +kernel), List.mem_of_getElem? (i := 945) (by decide +kernel), List.mem_of_getElem? (i := 946) (by decide +kernel)⟩
theorem lw_p28 : lw_okq (⟨"TimedJoinModel", "enters", "(I)V"⟩, 14) := ⟨⟨by decide +kernel, by decide +kernel⟩, List.mem_of_getElem? (i := 837) (by decide +kernel), List.mem_of_getElem? (i := 961) (by decide +kernel), List.mem_of_getElem? (i := 962) (by decide +kernel)⟩
theorem lw_p29 : lw_okq (⟨"TimedJoinModel", "isAhead", "(II)Z"⟩, 14) := ⟨⟨by decide +kernel, by decide +kernel⟩, List.mem_of_getElem? (i := 837) (by decide +kernel), List.mem_of_getElem? (i := 965) (by decide +kernel), List.mem_of_getElem? (i := 966) (by decide +kernel)⟩
theorem lw_p30 : lw_okq (⟨"TimedJoinModel", "placeOf", "(I)I"⟩, 14) := ⟨⟨by decide +kernel, by decide +kernel⟩, List.mem_of_getElem? (i := 837) (by decide +kernel), List.mem_of_getElem? (i := 969) (by decide +kernel), List.mem_of_getElem? (i := 970) (by decide +kernel)⟩
theorem lw_p31 : lw_okq (⟨"TimedJoinModel", "startOf", "(II)I"⟩, 14) := ⟨⟨by decide +kernel, by decide +kernel⟩, List.mem_of_getElem? (i := 837) (by decide +kernel), List.mem_of_getElem? (i := 982) (by decide +kernel), List.mem_of_getElem? (i := 983) (by decide +kernel)⟩
def lw_privs_2 : List (MethodName × Nat) := [(⟨"TimedJoin", "makeOne", "(LTimedJoin$Rows;I)V"⟩, 6), (⟨"TimedJoin", "joinSpan", "(LTimedJoin$Rows;II)V"⟩, 6), (⟨"TimedJoin", "leastLane", "(LTimedJoin$Rows;II)I"⟩, 6), (⟨"TimedJoin$Web", "narrow", "(II)Z"⟩, 3), (⟨"TimedJoin", "mostPartners", "()I"⟩, 6), (⟨"TimedJoinModel", "isSweeping", "()Z"⟩, 14), (⟨"TimedJoinModel", "causes", "(II)V"⟩, 14), (⟨"TimedJoinModel", "lays", "(IIIIII)V"⟩, 14), (⟨"TimedJoinModel", "comes", "(IIIIIII)Z"⟩, 14), (⟨"TimedJoinModel", "orderTrouble", "(III)I"⟩, 14), (⟨"TimedJoinModel", "of", "(III)I"⟩, 14), (⟨"TimedJoinModel", "at", "(II)I"⟩, 14), (⟨"TimedJoinModel", "enters", "(I)V"⟩, 14), (⟨"TimedJoinModel", "isAhead", "(II)Z"⟩, 14), (⟨"TimedJoinModel", "placeOf", "(I)I"⟩, 14), (⟨"TimedJoinModel", "startOf", "(II)I"⟩, 14)]
theorem lw_r2 : ∀ q ∈ lw_privs_2, lw_okq q := List.forall_mem_cons.mpr ⟨lw_p16, List.forall_mem_cons.mpr ⟨lw_p17, List.forall_mem_cons.mpr ⟨lw_p18, List.forall_mem_cons.mpr ⟨lw_p19, List.forall_mem_cons.mpr ⟨lw_p20, List.forall_mem_cons.mpr ⟨lw_p21, List.forall_mem_cons.mpr ⟨lw_p22, List.forall_mem_cons.mpr ⟨lw_p23, List.forall_mem_cons.mpr ⟨lw_p24, List.forall_mem_cons.mpr ⟨lw_p25, List.forall_mem_cons.mpr ⟨lw_p26, List.forall_mem_cons.mpr ⟨lw_p27, List.forall_mem_cons.mpr ⟨lw_p28, List.forall_mem_cons.mpr ⟨lw_p29, List.forall_mem_cons.mpr ⟨lw_p30, List.forall_mem_cons.mpr ⟨lw_p31, fun _ h => absurd h List.not_mem_nil⟩⟩⟩⟩⟩⟩⟩⟩⟩⟩⟩⟩⟩⟩⟩⟩
theorem lw_p32 : lw_okq (⟨"TimedJoinModel", "endOf", "(II)I"⟩, 14) := ⟨⟨by decide +kernel, by decide +kernel⟩, List.mem_of_getElem? (i := 837) (by decide +kernel), List.mem_of_getElem? (i := 986) (by decide +kernel), List.mem_of_getElem? (i := 987) (by decide +kernel)⟩
theorem lw_p33 : lw_okq (⟨"TimedJoinModel", "looksAtHeld", "()V"⟩, 14) := ⟨⟨by decide +kernel, by decide +kernel⟩, List.mem_of_getElem? (i := 837) (by decide +kernel), List.mem_of_getElem? (i := 990) (by decide +kernel), List.mem_of_getElem? (i := 991) (by decide +kernel)⟩
theorem lw_p34 : lw_okq (⟨"TimedJoinModel", "actives", "()I"⟩, 14) := ⟨⟨by decide +kernel, by decide +kernel⟩, List.mem_of_getElem? (i := 837) (by decide +kernel), List.mem_of_getElem? (i := 994) (by decide +kernel), List.mem_of_getElem? (i := 995) (by decide +kernel)⟩
theorem lw_p35 : lw_okq (⟨"TimedJoinModel", "heads", "()I"⟩, 14) := ⟨⟨by decide +kernel, by decide +kernel⟩, List.mem_of_getElem? (i := 837) (by decide +kernel), List.mem_of_getElem? (i := 998) (by decide +kernel), List.mem_of_getElem? (i := 999) (by decide +kernel)⟩
theorem lw_p36 : lw_okq (⟨"TimedJoinModel", "goes", "()V"⟩, 14) := ⟨⟨by decide +kernel, by decide +kernel⟩, List.mem_of_getElem? (i := 837) (by decide +kernel), List.mem_of_getElem? (i := 1009) (by decide +kernel), List.mem_of_getElem? (i := 1010) (by decide +kernel)⟩
theorem lw_p37 : lw_okq (⟨"TimedJoinModel", "starts", "(II)V"⟩, 14) := ⟨⟨by decide +kernel, by decide +kernel⟩, List.mem_of_getElem? (i := 837) (by decide +kernel), List.mem_of_getElem? (i := 1013) (by decide +kernel), List.mem_of_getElem? (i := 1014) (by decide +kernel)⟩
theorem lw_p38 : lw_okq (⟨"TimedJoinModel", "activeAt", "(II)I"⟩, 14) := ⟨⟨by decide +kernel, by decide +kernel⟩, List.mem_of_getElem? (i := 837) (by decide +kernel), List.mem_of_getElem? (i := 1017) (by decide +kernel), List.mem_of_getElem? (i := 1018) (by decide +kernel)⟩
theorem lw_p39 : lw_okq (⟨"TimedJoinModel", "isPartner", "(III)Z"⟩, 14) := ⟨⟨by decide +kernel, by decide +kernel⟩, List.mem_of_getElem? (i := 837) (by decide +kernel), List.mem_of_getElem? (i := 1021) (by decide +kernel), List.mem_of_getElem? (i := 1022) (by decide +kernel)⟩
theorem lw_p40 : lw_okq (⟨"TimedJoinModel", "arePartners", "(II)Z"⟩, 14) := ⟨⟨by decide +kernel, by decide +kernel⟩, List.mem_of_getElem? (i := 837) (by decide +kernel), List.mem_of_getElem? (i := 1025) (by decide +kernel), List.mem_of_getElem? (i := 1026) (by decide +kernel)⟩
theorem lw_p41 : lw_okq (⟨"TimedJoinModel", "isKeyed", "(II)Z"⟩, 14) := ⟨⟨by decide +kernel, by decide +kernel⟩, List.mem_of_getElem? (i := 837) (by decide +kernel), List.mem_of_getElem? (i := 1029) (by decide +kernel), List.mem_of_getElem? (i := 1030) (by decide +kernel)⟩
theorem lw_p42 : lw_okq (⟨"TimedJoinModel", "kindBetween", "(IIII)I"⟩, 14) := ⟨⟨by decide +kernel, by decide +kernel⟩, List.mem_of_getElem? (i := 837) (by decide +kernel), List.mem_of_getElem? (i := 1033) (by decide +kernel), List.mem_of_getElem? (i := 1034) (by decide +kernel)⟩
theorem lw_p43 : lw_okq (⟨"TimedJoinModel", "ends", "(II)V"⟩, 14) := ⟨⟨by decide +kernel, by decide +kernel⟩, List.mem_of_getElem? (i := 837) (by decide +kernel), List.mem_of_getElem? (i := 1043) (by decide +kernel), List.mem_of_getElem? (i := 1044) (by decide +kernel)⟩
theorem lw_p44 : lw_okq (⟨"TimedJoinModel", "sharedFrom", "(II)I"⟩, 14) := ⟨⟨by decide +kernel, by decide +kernel⟩, List.mem_of_getElem? (i := 837) (by decide +kernel), List.mem_of_getElem? (i := 1059) (by decide +kernel), List.mem_of_getElem? (i := 1060) (by decide +kernel)⟩
theorem lw_p45 : lw_okq (⟨"TimedJoinModel", "sharedTo", "(II)I"⟩, 14) := ⟨⟨by decide +kernel, by decide +kernel⟩, List.mem_of_getElem? (i := 837) (by decide +kernel), List.mem_of_getElem? (i := 1066) (by decide +kernel), List.mem_of_getElem? (i := 1067) (by decide +kernel)⟩
theorem lw_p46 : lw_okq (⟨"TimedJoinModel", "sharedLong", "(II)I"⟩, 14) := ⟨⟨by decide +kernel, by decide +kernel⟩, List.mem_of_getElem? (i := 837) (by decide +kernel), List.mem_of_getElem? (i := 1073) (by decide +kernel), List.mem_of_getElem? (i := 1074) (by decide +kernel)⟩
theorem lw_p47 : lw_okq (⟨"TimedJoinModel", "longOf", "(II)I"⟩, 14) := ⟨⟨by decide +kernel, by decide +kernel⟩, List.mem_of_getElem? (i := 837) (by decide +kernel), List.mem_of_getElem? (i := 1094) (by decide +kernel), List.mem_of_getElem? (i := 1095) (by decide +kernel)⟩
def lw_privs_3 : List (MethodName × Nat) := [(⟨"TimedJoinModel", "endOf", "(II)I"⟩, 14), (⟨"TimedJoinModel", "looksAtHeld", "()V"⟩, 14), (⟨"TimedJoinModel", "actives", "()I"⟩, 14), (⟨"TimedJoinModel", "heads", "()I"⟩, 14), (⟨"TimedJoinModel", "goes", "()V"⟩, 14), (⟨"TimedJoinModel", "starts", "(II)V"⟩, 14), (⟨"TimedJoinModel", "activeAt", "(II)I"⟩, 14), (⟨"TimedJoinModel", "isPartner", "(III)Z"⟩, 14), (⟨"TimedJoinModel", "arePartners", "(II)Z"⟩, 14), (⟨"TimedJoinModel", "isKeyed", "(II)Z"⟩, 14), (⟨"TimedJoinModel", "kindBetween", "(IIII)I"⟩, 14), (⟨"TimedJoinModel", "ends", "(II)V"⟩, 14), (⟨"TimedJoinModel", "sharedFrom", "(II)I"⟩, 14), (⟨"TimedJoinModel", "sharedTo", "(II)I"⟩, 14), (⟨"TimedJoinModel", "sharedLong", "(II)I"⟩, 14), (⟨"TimedJoinModel", "longOf", "(II)I"⟩, 14)]
theorem lw_r3 : ∀ q ∈ lw_privs_3, lw_okq q := List.forall_mem_cons.mpr ⟨lw_p32, List.forall_mem_cons.mpr ⟨lw_p33, List.forall_mem_cons.mpr ⟨lw_p34, List.forall_mem_cons.mpr ⟨lw_p35, List.forall_mem_cons.mpr ⟨lw_p36, List.forall_mem_cons.mpr ⟨lw_p37, List.forall_mem_cons.mpr ⟨lw_p38, List.forall_mem_cons.mpr ⟨lw_p39, List.forall_mem_cons.mpr ⟨lw_p40, List.forall_mem_cons.mpr ⟨lw_p41, List.forall_mem_cons.mpr ⟨lw_p42, List.forall_mem_cons.mpr ⟨lw_p43, List.forall_mem_cons.mpr ⟨lw_p44, List.forall_mem_cons.mpr ⟨lw_p45, List.forall_mem_cons.mpr ⟨lw_p46, List.forall_mem_cons.mpr ⟨lw_p47, fun _ h => absurd h List.not_mem_nil⟩⟩⟩⟩⟩⟩⟩⟩⟩⟩⟩⟩⟩⟩⟩⟩
theorem lw_p48 : lw_okq (⟨"TimedJoinModel", "isRow", "(II)Z"⟩, 14) := ⟨⟨by decide +kernel, by decide +kernel⟩, List.mem_of_getElem? (i := 837) (by decide +kernel), List.mem_of_getElem? (i := 1102) (by decide +kernel), List.mem_of_getElem? (i := 1103) (by decide +kernel)⟩
theorem lw_p49 : lw_okq (⟨"TimedJoinModel", "partners", "(II)I"⟩, 14) := ⟨⟨by decide +kernel, by decide +kernel⟩, List.mem_of_getElem? (i := 837) (by decide +kernel), List.mem_of_getElem? (i := 1106) (by decide +kernel), List.mem_of_getElem? (i := 1107) (by decide +kernel)⟩
theorem lw_p50 : lw_okq (⟨"TimedJoinModel", "depth", "(II)I"⟩, 14) := ⟨⟨by decide +kernel, by decide +kernel⟩, List.mem_of_getElem? (i := 837) (by decide +kernel), List.mem_of_getElem? (i := 1110) (by decide +kernel), List.mem_of_getElem? (i := 1111) (by decide +kernel)⟩
theorem lw_p51 : lw_okq (⟨"TimedJoinModel", "partnersAt", "(III)I"⟩, 14) := ⟨⟨by decide +kernel, by decide +kernel⟩, List.mem_of_getElem? (i := 837) (by decide +kernel), List.mem_of_getElem? (i := 1114) (by decide +kernel), List.mem_of_getElem? (i := 1115) (by decide +kernel)⟩
theorem lw_p52 : lw_okq (⟨"TimedJoinModel", "covers", "(II)V"⟩, 14) := ⟨⟨by decide +kernel, by decide +kernel⟩, List.mem_of_getElem? (i := 837) (by decide +kernel), List.mem_of_getElem? (i := 1118) (by decide +kernel), List.mem_of_getElem? (i := 1119) (by decide +kernel)⟩
theorem lw_p53 : lw_okq (⟨"TimedJoinModel", "longest", "(III)I"⟩, 14) := ⟨⟨by decide +kernel, by decide +kernel⟩, List.mem_of_getElem? (i := 837) (by decide +kernel), List.mem_of_getElem? (i := 1122) (by decide +kernel), List.mem_of_getElem? (i := 1123) (by decide +kernel)⟩
theorem lw_p54 : lw_okq (⟨"TimedJoinModel", "nextStart", "(III)I"⟩, 14) := ⟨⟨by decide +kernel, by decide +kernel⟩, List.mem_of_getElem? (i := 837) (by decide +kernel), List.mem_of_getElem? (i := 1126) (by decide +kernel), List.mem_of_getElem? (i := 1127) (by decide +kernel)⟩
theorem lw_p55 : lw_okq (⟨"TimedJoinModel", "adds", "(III)V"⟩, 14) := ⟨⟨by decide +kernel, by decide +kernel⟩, List.mem_of_getElem? (i := 837) (by decide +kernel), List.mem_of_getElem? (i := 1130) (by decide +kernel), List.mem_of_getElem? (i := 1131) (by decide +kernel)⟩
theorem lw_p56 : lw_okq (⟨"TimedJoinModel", "leftOver", "(II)I"⟩, 14) := ⟨⟨by decide +kernel, by decide +kernel⟩, List.mem_of_getElem? (i := 837) (by decide +kernel), List.mem_of_getElem? (i := 1134) (by decide +kernel), List.mem_of_getElem? (i := 1135) (by decide +kernel)⟩
theorem lw_p57 : lw_okq (⟨"TimedJoinModel", "coveredLong", "(II)I"⟩, 14) := ⟨⟨by decide +kernel, by decide +kernel⟩, List.mem_of_getElem? (i := 837) (by decide +kernel), List.mem_of_getElem? (i := 1138) (by decide +kernel), List.mem_of_getElem? (i := 1139) (by decide +kernel)⟩
theorem lw_p58 : lw_okq (⟨"TimedJoinModel", "liveAt", "(III)I"⟩, 14) := ⟨⟨by decide +kernel, by decide +kernel⟩, List.mem_of_getElem? (i := 837) (by decide +kernel), List.mem_of_getElem? (i := 1158) (by decide +kernel), List.mem_of_getElem? (i := 1159) (by decide +kernel)⟩
theorem lw_p59 : lw_okq (⟨"TimedJoinModel", "isLive", "(III)Z"⟩, 14) := ⟨⟨by decide +kernel, by decide +kernel⟩, List.mem_of_getElem? (i := 837) (by decide +kernel), List.mem_of_getElem? (i := 1162) (by decide +kernel), List.mem_of_getElem? (i := 1163) (by decide +kernel)⟩
theorem lw_p60 : lw_okq (⟨"TimedJoinModel", "makesOne", "(I)V"⟩, 14) := ⟨⟨by decide +kernel, by decide +kernel⟩, List.mem_of_getElem? (i := 837) (by decide +kernel), List.mem_of_getElem? (i := 1174) (by decide +kernel), List.mem_of_getElem? (i := 1175) (by decide +kernel)⟩
theorem lw_p61 : lw_okq (⟨"TimedJoinModel", "isOne", "(III)Z"⟩, 14) := ⟨⟨by decide +kernel, by decide +kernel⟩, List.mem_of_getElem? (i := 837) (by decide +kernel), List.mem_of_getElem? (i := 1178) (by decide +kernel), List.mem_of_getElem? (i := 1179) (by decide +kernel)⟩
theorem lw_p62 : lw_okq (⟨"TimedJoinModel", "ones", "(II)I"⟩, 14) := ⟨⟨by decide +kernel, by decide +kernel⟩, List.mem_of_getElem? (i := 837) (by decide +kernel), List.mem_of_getElem? (i := 1182) (by decide +kernel), List.mem_of_getElem? (i := 1183) (by decide +kernel)⟩
theorem lw_p63 : lw_okq (⟨"TimedJoinModel", "comesAhead", "(III)Z"⟩, 14) := ⟨⟨by decide +kernel, by decide +kernel⟩, List.mem_of_getElem? (i := 837) (by decide +kernel), List.mem_of_getElem? (i := 1186) (by decide +kernel), List.mem_of_getElem? (i := 1187) (by decide +kernel)⟩
def lw_privs_4 : List (MethodName × Nat) := [(⟨"TimedJoinModel", "isRow", "(II)Z"⟩, 14), (⟨"TimedJoinModel", "partners", "(II)I"⟩, 14), (⟨"TimedJoinModel", "depth", "(II)I"⟩, 14), (⟨"TimedJoinModel", "partnersAt", "(III)I"⟩, 14), (⟨"TimedJoinModel", "covers", "(II)V"⟩, 14), (⟨"TimedJoinModel", "longest", "(III)I"⟩, 14), (⟨"TimedJoinModel", "nextStart", "(III)I"⟩, 14), (⟨"TimedJoinModel", "adds", "(III)V"⟩, 14), (⟨"TimedJoinModel", "leftOver", "(II)I"⟩, 14), (⟨"TimedJoinModel", "coveredLong", "(II)I"⟩, 14), (⟨"TimedJoinModel", "liveAt", "(III)I"⟩, 14), (⟨"TimedJoinModel", "isLive", "(III)Z"⟩, 14), (⟨"TimedJoinModel", "makesOne", "(I)V"⟩, 14), (⟨"TimedJoinModel", "isOne", "(III)Z"⟩, 14), (⟨"TimedJoinModel", "ones", "(II)I"⟩, 14), (⟨"TimedJoinModel", "comesAhead", "(III)Z"⟩, 14)]
theorem lw_r4 : ∀ q ∈ lw_privs_4, lw_okq q := List.forall_mem_cons.mpr ⟨lw_p48, List.forall_mem_cons.mpr ⟨lw_p49, List.forall_mem_cons.mpr ⟨lw_p50, List.forall_mem_cons.mpr ⟨lw_p51, List.forall_mem_cons.mpr ⟨lw_p52, List.forall_mem_cons.mpr ⟨lw_p53, List.forall_mem_cons.mpr ⟨lw_p54, List.forall_mem_cons.mpr ⟨lw_p55, List.forall_mem_cons.mpr ⟨lw_p56, List.forall_mem_cons.mpr ⟨lw_p57, List.forall_mem_cons.mpr ⟨lw_p58, List.forall_mem_cons.mpr ⟨lw_p59, List.forall_mem_cons.mpr ⟨lw_p60, List.forall_mem_cons.mpr ⟨lw_p61, List.forall_mem_cons.mpr ⟨lw_p62, List.forall_mem_cons.mpr ⟨lw_p63, fun _ h => absurd h List.not_mem_nil⟩⟩⟩⟩⟩⟩⟩⟩⟩⟩⟩⟩⟩⟩⟩⟩
theorem lw_p64 : lw_okq (⟨"TimedJoinModel", "least", "(II)I"⟩, 14) := ⟨⟨by decide +kernel, by decide +kernel⟩, List.mem_of_getElem? (i := 837) (by decide +kernel), List.mem_of_getElem? (i := 1190) (by decide +kernel), List.mem_of_getElem? (i := 1191) (by decide +kernel)⟩
theorem lw_p65 : lw_okq (⟨"TimedJoinModel", "greatest", "(II)I"⟩, 14) := ⟨⟨by decide +kernel, by decide +kernel⟩, List.mem_of_getElem? (i := 837) (by decide +kernel), List.mem_of_getElem? (i := 1194) (by decide +kernel), List.mem_of_getElem? (i := 1195) (by decide +kernel)⟩
theorem lw_p66 : lw_okq (⟨"TimedJoinModel", "cuts", "(I)V"⟩, 14) := ⟨⟨by decide +kernel, by decide +kernel⟩, List.mem_of_getElem? (i := 837) (by decide +kernel), List.mem_of_getElem? (i := 1202) (by decide +kernel), List.mem_of_getElem? (i := 1203) (by decide +kernel)⟩
theorem lw_p67 : lw_okq (⟨"TimedJoinModel", "valuesAt", "(II)I"⟩, 14) := ⟨⟨by decide +kernel, by decide +kernel⟩, List.mem_of_getElem? (i := 837) (by decide +kernel), List.mem_of_getElem? (i := 1206) (by decide +kernel), List.mem_of_getElem? (i := 1207) (by decide +kernel)⟩
theorem lw_p68 : lw_okq (⟨"TimedJoinModel", "nextToLane", "(II)I"⟩, 14) := ⟨⟨by decide +kernel, by decide +kernel⟩, List.mem_of_getElem? (i := 837) (by decide +kernel), List.mem_of_getElem? (i := 1226) (by decide +kernel), List.mem_of_getElem? (i := 1227) (by decide +kernel)⟩
theorem lw_p69 : lw_okq (⟨"TimedJoinModel", "isLaned", "(III)Z"⟩, 14) := ⟨⟨by decide +kernel, by decide +kernel⟩, List.mem_of_getElem? (i := 837) (by decide +kernel), List.mem_of_getElem? (i := 1230) (by decide +kernel), List.mem_of_getElem? (i := 1231) (by decide +kernel)⟩
theorem lw_p70 : lw_okq (⟨"TimedJoinModel", "doShare", "(III)Z"⟩, 14) := ⟨⟨by decide +kernel, by decide +kernel⟩, List.mem_of_getElem? (i := 837) (by decide +kernel), List.mem_of_getElem? (i := 1234) (by decide +kernel), List.mem_of_getElem? (i := 1235) (by decide +kernel)⟩
theorem lw_p71 : lw_okq (⟨"TimedJoinModel", "composedOf", "(II)I"⟩, 14) := ⟨⟨by decide +kernel, by decide +kernel⟩, List.mem_of_getElem? (i := 837) (by decide +kernel), List.mem_of_getElem? (i := 1256) (by decide +kernel), List.mem_of_getElem? (i := 1257) (by decide +kernel)⟩
theorem lw_p72 : lw_okq (⟨"TimedJoinModel", "composes", "()V"⟩, 14) := ⟨⟨by decide +kernel, by decide +kernel⟩, List.mem_of_getElem? (i := 837) (by decide +kernel), List.mem_of_getElem? (i := 1260) (by decide +kernel), List.mem_of_getElem? (i := 1261) (by decide +kernel)⟩
theorem lw_p73 : lw_okq (⟨"TimedJoinModel", "composesWith", "(IIII)V"⟩, 14) := ⟨⟨by decide +kernel, by decide +kernel⟩, List.mem_of_getElem? (i := 837) (by decide +kernel), List.mem_of_getElem? (i := 1264) (by decide +kernel), List.mem_of_getElem? (i := 1265) (by decide +kernel)⟩
theorem lw_p74 : lw_okq (⟨"TimedJoinModel", "ties", "(III)V"⟩, 14) := ⟨⟨by decide +kernel, by decide +kernel⟩, List.mem_of_getElem? (i := 837) (by decide +kernel), List.mem_of_getElem? (i := 1275) (by decide +kernel), List.mem_of_getElem? (i := 1276) (by decide +kernel)⟩
theorem lw_p75 : lw_okq (⟨"TimedJoinModel", "tightens", "()V"⟩, 14) := ⟨⟨by decide +kernel, by decide +kernel⟩, List.mem_of_getElem? (i := 837) (by decide +kernel), List.mem_of_getElem? (i := 1283) (by decide +kernel), List.mem_of_getElem? (i := 1284) (by decide +kernel)⟩
theorem lw_p76 : lw_okq (⟨"TimedJoinModel", "isTighter", "(III)Z"⟩, 14) := ⟨⟨by decide +kernel, by decide +kernel⟩, List.mem_of_getElem? (i := 837) (by decide +kernel), List.mem_of_getElem? (i := 1287) (by decide +kernel), List.mem_of_getElem? (i := 1288) (by decide +kernel)⟩
theorem lw_p77 : lw_okq (⟨"TimedJoinModel", "mostPartners", "()I"⟩, 14) := ⟨⟨by decide +kernel, by decide +kernel⟩, List.mem_of_getElem? (i := 837) (by decide +kernel), List.mem_of_getElem? (i := 1307) (by decide +kernel), List.mem_of_getElem? (i := 1308) (by decide +kernel)⟩
theorem lw_p78 : lw_okq (⟨"TimedJoinModel", "runs", "(I)I"⟩, 14) := ⟨⟨by decide +kernel, by decide +kernel⟩, List.mem_of_getElem? (i := 837) (by decide +kernel), List.mem_of_getElem? (i := 1311) (by decide +kernel), List.mem_of_getElem? (i := 1312) (by decide +kernel)⟩
def lw_privs_5 : List (MethodName × Nat) := [(⟨"TimedJoinModel", "least", "(II)I"⟩, 14), (⟨"TimedJoinModel", "greatest", "(II)I"⟩, 14), (⟨"TimedJoinModel", "cuts", "(I)V"⟩, 14), (⟨"TimedJoinModel", "valuesAt", "(II)I"⟩, 14), (⟨"TimedJoinModel", "nextToLane", "(II)I"⟩, 14), (⟨"TimedJoinModel", "isLaned", "(III)Z"⟩, 14), (⟨"TimedJoinModel", "doShare", "(III)Z"⟩, 14), (⟨"TimedJoinModel", "composedOf", "(II)I"⟩, 14), (⟨"TimedJoinModel", "composes", "()V"⟩, 14), (⟨"TimedJoinModel", "composesWith", "(IIII)V"⟩, 14), (⟨"TimedJoinModel", "ties", "(III)V"⟩, 14), (⟨"TimedJoinModel", "tightens", "()V"⟩, 14), (⟨"TimedJoinModel", "isTighter", "(III)Z"⟩, 14), (⟨"TimedJoinModel", "mostPartners", "()I"⟩, 14), (⟨"TimedJoinModel", "runs", "(I)I"⟩, 14)]
theorem lw_r5 : ∀ q ∈ lw_privs_5, lw_okq q := List.forall_mem_cons.mpr ⟨lw_p64, List.forall_mem_cons.mpr ⟨lw_p65, List.forall_mem_cons.mpr ⟨lw_p66, List.forall_mem_cons.mpr ⟨lw_p67, List.forall_mem_cons.mpr ⟨lw_p68, List.forall_mem_cons.mpr ⟨lw_p69, List.forall_mem_cons.mpr ⟨lw_p70, List.forall_mem_cons.mpr ⟨lw_p71, List.forall_mem_cons.mpr ⟨lw_p72, List.forall_mem_cons.mpr ⟨lw_p73, List.forall_mem_cons.mpr ⟨lw_p74, List.forall_mem_cons.mpr ⟨lw_p75, List.forall_mem_cons.mpr ⟨lw_p76, List.forall_mem_cons.mpr ⟨lw_p77, List.forall_mem_cons.mpr ⟨lw_p78, fun _ h => absurd h List.not_mem_nil⟩⟩⟩⟩⟩⟩⟩⟩⟩⟩⟩⟩⟩⟩⟩
def lw_privs : List (MethodName × Nat) := lw_privs_1 ++ (lw_privs_2 ++ (lw_privs_3 ++ (lw_privs_4 ++ (lw_privs_5))))
def lw_tbl : List Cond := k2_sels lw_privs ++ tables_1
theorem lw_privs_ok : ∀ q ∈ lw_privs, lw_okq q := by
  show ∀ q ∈ lw_privs_1 ++ (lw_privs_2 ++ (lw_privs_3 ++ (lw_privs_4 ++ (lw_privs_5)))), lw_okq q
  exact List.forall_mem_append.mpr ⟨lw_r1, List.forall_mem_append.mpr ⟨lw_r2, List.forall_mem_append.mpr ⟨lw_r3, List.forall_mem_append.mpr ⟨lw_r4, lw_r5⟩⟩⟩⟩
end
section
def RX0 : String := "TimedJoin$Codes"
def TX0 : u_T := fun k => match k with
  | 0 => ("TimedJoin$Codes", "codes", "[J", true)
  | _ => ("TimedJoin$Codes", "count", "I", false)
def tyX0 : Nat → FieldType := fun k => match k with
  | 0 => .array .long
  | _ => .int
theorem nmX0 : ∀ a, a < 2 → ∀ b, b < 2 → a ≠ b → (TX0 a).2.1 ≠ (TX0 b).2.1 := by decide +kernel
theorem tyX0_ok : ∀ k, k < 2 → parseFieldDescriptor (TX0 k).2.2.1 = some (tyX0 k) := by decide +kernel
def RX1 : String := "TimedJoin$Course"
def TX1 : u_T := fun k => match k with
  | 0 => ("TimedJoin$Course", "events", "[I", true)
  | 1 => ("TimedJoin$Course", "total", "I", false)
  | 2 => ("TimedJoin$Course", "gone", "I", false)
  | 3 => ("TimedJoin$Course", "running", "Z", false)
  | 4 => ("TimedJoin$Course", "active", "[I", true)
  | 5 => ("TimedJoin$Course", "activeCount", "[I", true)
  | 6 => ("TimedJoin$Course", "startsToCome", "[I", true)
  | 7 => ("TimedJoin$Course", "pairs", "[I", true)
  | 8 => ("TimedJoin$Course", "pairCount", "I", false)
  | 9 => ("TimedJoin$Course", "mostHeld", "I", false)
  | 10 => ("TimedJoin$Course", "mostActive", "I", false)
  | 11 => ("TimedJoin$Course", "moves", "I", false)
  | _ => ("TimedJoin$Course", "latestPlace", "I", false)
def tyX1 : Nat → FieldType := fun k => match k with
  | 0 => .array .int
  | 1 => .int
  | 2 => .int
  | 3 => .boolean
  | 4 => .array .int
  | 5 => .array .int
  | 6 => .array .int
  | 7 => .array .int
  | 8 => .int
  | 9 => .int
  | 10 => .int
  | 11 => .int
  | _ => .int
theorem nmX1 : ∀ a, a < 13 → ∀ b, b < 13 → a ≠ b → (TX1 a).2.1 ≠ (TX1 b).2.1 := by decide +kernel
theorem tyX1_ok : ∀ k, k < 13 → parseFieldDescriptor (TX1 k).2.2.1 = some (tyX1 k) := by decide +kernel
def RX2 : String := "TimedJoin$Mates"
def TX2 : u_T := fun k => match k with
  | 0 => ("TimedJoin$Mates", "numbers", "[I", true)
  | 1 => ("TimedJoin$Mates", "starts", "[I", true)
  | 2 => ("TimedJoin$Mates", "ends", "[I", true)
  | 3 => ("TimedJoin$Mates", "count", "I", false)
  | 4 => ("TimedJoin$Mates", "from", "I", false)
  | _ => ("TimedJoin$Mates", "to", "I", false)
def tyX2 : Nat → FieldType := fun k => match k with
  | 0 => .array .int
  | 1 => .array .int
  | 2 => .array .int
  | 3 => .int
  | 4 => .int
  | _ => .int
theorem nmX2 : ∀ a, a < 6 → ∀ b, b < 6 → a ≠ b → (TX2 a).2.1 ≠ (TX2 b).2.1 := by decide +kernel
theorem tyX2_ok : ∀ k, k < 6 → parseFieldDescriptor (TX2 k).2.2.1 = some (tyX2 k) := by decide +kernel
def RX3 : String := "TimedJoin$Parts"
def TX3 : u_T := fun k => match k with
  | 0 => ("TimedJoin$Parts", "cells", "[I", true)
  | 1 => ("TimedJoin$Parts", "reaches", "[I", true)
  | _ => ("TimedJoin$Parts", "count", "I", false)
def tyX3 : Nat → FieldType := fun k => match k with
  | 0 => .array .int
  | 1 => .array .int
  | _ => .int
theorem nmX3 : ∀ a, a < 3 → ∀ b, b < 3 → a ≠ b → (TX3 a).2.1 ≠ (TX3 b).2.1 := by decide +kernel
theorem tyX3_ok : ∀ k, k < 3 → parseFieldDescriptor (TX3 k).2.2.1 = some (tyX3 k) := by decide +kernel
def RX4 : String := "TimedJoin$Rows"
def TX4 : u_T := fun k => match k with
  | 0 => ("TimedJoin$Rows", "run", "[I", true)
  | 1 => ("TimedJoin$Rows", "key", "[I", true)
  | 2 => ("TimedJoin$Rows", "start", "[I", true)
  | 3 => ("TimedJoin$Rows", "end", "[I", true)
  | 4 => ("TimedJoin$Rows", "value", "[I", true)
  | _ => ("TimedJoin$Rows", "count", "I", false)
def tyX4 : Nat → FieldType := fun k => match k with
  | 0 => .array .int
  | 1 => .array .int
  | 2 => .array .int
  | 3 => .array .int
  | 4 => .array .int
  | _ => .int
theorem nmX4 : ∀ a, a < 6 → ∀ b, b < 6 → a ≠ b → (TX4 a).2.1 ≠ (TX4 b).2.1 := by decide +kernel
theorem tyX4_ok : ∀ k, k < 6 → parseFieldDescriptor (TX4 k).2.2.1 = some (tyX4 k) := by decide +kernel
def RX5 : String := "TimedJoin$State"
def TX5 : u_T := fun k => match k with
  | 0 => ("TimedJoin$State", "ofLeft", "LTimedJoin$Rows;", true)
  | 1 => ("TimedJoin$State", "ofRight", "LTimedJoin$Rows;", true)
  | 2 => ("TimedJoin$State", "told", "LTimedJoin$Rows;", true)
  | 3 => ("TimedJoin$State", "why", "LTimedJoin$Trouble;", true)
  | 4 => ("TimedJoin$State", "course", "LTimedJoin$Course;", true)
  | 5 => ("TimedJoin$State", "web", "LTimedJoin$Web;", true)
  | 6 => ("TimedJoin$State", "keyed", "Z", false)
  | _ => ("TimedJoin$State", "wanted", "I", false)
def tyX5 : Nat → FieldType := fun k => match k with
  | 0 => .object "TimedJoin$Rows"
  | 1 => .object "TimedJoin$Rows"
  | 2 => .object "TimedJoin$Rows"
  | 3 => .object "TimedJoin$Trouble"
  | 4 => .object "TimedJoin$Course"
  | 5 => .object "TimedJoin$Web"
  | 6 => .boolean
  | _ => .int
theorem nmX5 : ∀ a, a < 8 → ∀ b, b < 8 → a ≠ b → (TX5 a).2.1 ≠ (TX5 b).2.1 := by decide +kernel
theorem tyX5_ok : ∀ k, k < 8 → parseFieldDescriptor (TX5 k).2.2.1 = some (tyX5 k) := by decide +kernel
def RX6 : String := "TimedJoin$Trouble"
def TX6 : u_T := fun k => match k with
  | 0 => ("TimedJoin$Trouble", "causes", "[I", true)
  | 1 => ("TimedJoin$Trouble", "numbers", "[I", true)
  | _ => ("TimedJoin$Trouble", "count", "I", false)
def tyX6 : Nat → FieldType := fun k => match k with
  | 0 => .array .int
  | 1 => .array .int
  | _ => .int
theorem nmX6 : ∀ a, a < 3 → ∀ b, b < 3 → a ≠ b → (TX6 a).2.1 ≠ (TX6 b).2.1 := by decide +kernel
theorem tyX6_ok : ∀ k, k < 3 → parseFieldDescriptor (TX6 k).2.2.1 = some (tyX6 k) := by decide +kernel
def RX7 : String := "TimedJoin$Web"
def TX7 : u_T := fun k => match k with
  | 0 => ("TimedJoin$Web", "told", "[I", true)
  | 1 => ("TimedJoin$Web", "tight", "[I", true)
  | _ => ("TimedJoin$Web", "drawn", "Z", false)
def tyX7 : Nat → FieldType := fun k => match k with
  | 0 => .array .int
  | 1 => .array .int
  | _ => .boolean
theorem nmX7 : ∀ a, a < 3 → ∀ b, b < 3 → a ≠ b → (TX7 a).2.1 ≠ (TX7 b).2.1 := by decide +kernel
theorem tyX7_ok : ∀ k, k < 3 → parseFieldDescriptor (TX7 k).2.2.1 = some (tyX7 k) := by decide +kernel
def RX8 : String := "TimedJoin"
def TX8 : u_T := fun k => match k with
  | 0 => ("TimedJoin", "now", "LTimedJoin$State;", true)
  | 1 => ("TimedJoin", "kept", "LTimedJoin$State;", false)
  | 2 => ("TimedJoin", "codes", "LTimedJoin$Codes;", true)
  | 3 => ("TimedJoin", "parts", "LTimedJoin$Parts;", true)
  | 4 => ("TimedJoin", "mates", "LTimedJoin$Mates;", true)
  | _ => ("TimedJoin", "lanes", "[I", true)
def tyX8 : Nat → FieldType := fun k => match k with
  | 0 => .object "TimedJoin$State"
  | 1 => .object "TimedJoin$State"
  | 2 => .object "TimedJoin$Codes"
  | 3 => .object "TimedJoin$Parts"
  | 4 => .object "TimedJoin$Mates"
  | _ => .array .int
theorem nmX8 : ∀ a, a < 6 → ∀ b, b < 6 → a ≠ b → (TX8 a).2.1 ≠ (TX8 b).2.1 := by decide +kernel
theorem tyX8_ok : ∀ k, k < 6 → parseFieldDescriptor (TX8 k).2.2.1 = some (tyX8 k) := by decide +kernel
def RX9 : String := "TimedJoinModel"
def TX9 : u_T := fun k => match k with
  | 0 => ("TimedJoinModel", "w", "[I", true)
  | 1 => ("TimedJoinModel", "kept", "[I", true)
  | 2 => ("TimedJoinModel", "hasImage", "Z", false)
  | 3 => ("TimedJoinModel", "from", "[I", true)
  | 4 => ("TimedJoinModel", "to", "[I", true)
  | 5 => ("TimedJoinModel", "by", "[I", true)
  | 6 => ("TimedJoinModel", "pieces", "I", false)
  | 7 => ("TimedJoinModel", "first", "[I", true)
  | 8 => ("TimedJoinModel", "cut", "[I", true)
  | 9 => ("TimedJoinModel", "cuts", "I", false)
  | 10 => ("TimedJoinModel", "laneOf", "[I", true)
  | 11 => ("TimedJoinModel", "composed", "[I", true)
  | 12 => ("TimedJoinModel", "isComposed", "Z", false)
  | _ => ("TimedJoinModel", "tight", "[I", true)
def tyX9 : Nat → FieldType := fun k => match k with
  | 0 => .array .int
  | 1 => .array .int
  | 2 => .boolean
  | 3 => .array .int
  | 4 => .array .int
  | 5 => .array .int
  | 6 => .int
  | 7 => .array .int
  | 8 => .array .int
  | 9 => .int
  | 10 => .array .int
  | 11 => .array .int
  | 12 => .boolean
  | _ => .array .int
theorem nmX9 : ∀ a, a < 14 → ∀ b, b < 14 → a ≠ b → (TX9 a).2.1 ≠ (TX9 b).2.1 := by decide +kernel
theorem tyX9_ok : ∀ k, k < 14 → parseFieldDescriptor (TX9 k).2.2.1 = some (tyX9 k) := by decide +kernel
abbrev vwCl : List vw_C := [(RX0, TX0, 2), (RX1, TX1, 13), (RX2, TX2, 6), (RX3, TX3, 3), (RX4, TX4, 6), (RX5, TX5, 8), (RX6, TX6, 3), (RX7, TX7, 3), (RX8, TX8, 6), (RX9, TX9, 14)]
def nmC : Nat → String := fun k => match k with
  | 0 => RX0
  | 1 => RX1
  | 2 => RX2
  | 3 => RX3
  | 4 => RX4
  | 5 => RX5
  | 6 => RX6
  | 7 => RX7
  | 8 => RX8
  | _ => RX9
def fT : Nat → u_T := fun k => match k with
  | 0 => TX0
  | 1 => TX1
  | 2 => TX2
  | 3 => TX3
  | 4 => TX4
  | 5 => TX5
  | 6 => TX6
  | 7 => TX7
  | 8 => TX8
  | _ => TX9
def fY : Nat → Nat → FieldType := fun k => match k with
  | 0 => tyX0
  | 1 => tyX1
  | 2 => tyX2
  | 3 => tyX3
  | 4 => tyX4
  | 5 => tyX5
  | 6 => tyX6
  | 7 => tyX7
  | 8 => tyX8
  | _ => tyX9
def nsl : Nat → Nat := fun k => match k with
  | 0 => 2
  | 1 => 13
  | 2 => 6
  | 3 => 3
  | 4 => 6
  | 5 => 8
  | 6 => 3
  | 7 => 3
  | 8 => 6
  | _ => 14
def GW : List Cond := lw_tbl.filter goodWord
theorem gwI {w : Cond} (i : Nat) (h : (decide (lw_tbl[i]? = some w) && goodWord w) = true) : w ∈ GW := by
  simp only [Bool.and_eq_true, decide_eq_true_eq] at h
  exact List.mem_filter.mpr ⟨List.mem_of_getElem? h.1, h.2⟩
theorem gw_good {w : Cond} (h : w ∈ GW) : (w.onTables && w.keeps) = true ∨ ∃ ty, w = .arrayClass ty := good_of_word (List.mem_filter.mp h).2
/-- a method: its name, its bytes, its locals, its answer's type, its class's number -/
abbrev MI : Type := MethodName × ByteArray × Nat × Option FieldType × Nat
def wsM (q : MI) : List Cond := Cond.code q.1 q.2.1 q.2.2.1 q.2.2.2.1 :: GW
def q_TJ_init : MI := (⟨"TimedJoin", "<init>", "()V"⟩, prog_1_method_1_code, 1, none, 8)
def q_St_init : MI := (⟨"TimedJoin$State", "<init>", "()V"⟩, prog_7_method_1_code, 1, none, 5)
def q_Ro_init : MI := (⟨"TimedJoin$Rows", "<init>", "()V"⟩, prog_6_method_1_code, 1, none, 4)
def q_Tr_init : MI := (⟨"TimedJoin$Trouble", "<init>", "()V"⟩, prog_8_method_1_code, 1, none, 6)
def q_Cu_init : MI := (⟨"TimedJoin$Course", "<init>", "()V"⟩, prog_3_method_1_code, 1, none, 1)
def q_We_init : MI := (⟨"TimedJoin$Web", "<init>", "()V"⟩, prog_9_method_1_code, 1, none, 7)
def q_We_loosen : MI := (⟨"TimedJoin$Web", "loosen", "()V"⟩, prog_9_method_3_code, 3, none, 7)
def q_Co_init : MI := (⟨"TimedJoin$Codes", "<init>", "()V"⟩, prog_2_method_1_code, 1, none, 0)
def q_Pa_init : MI := (⟨"TimedJoin$Parts", "<init>", "()V"⟩, prog_5_method_1_code, 1, none, 3)
def q_Ma_init : MI := (⟨"TimedJoin$Mates", "<init>", "()V"⟩, prog_4_method_1_code, 1, none, 2)
def q_TJ_set : MI := (⟨"TimedJoin", "set", "(II)Z"⟩, prog_1_method_2_code, 3, some .boolean, 8)
def q_Tr_forget : MI := (⟨"TimedJoin$Trouble", "forget", "()V"⟩, prog_8_method_3_code, 1, none, 6)
def q_TJ_canBeSet : MI := (⟨"TimedJoin", "canBeSet", "(II)Z"⟩, prog_1_method_3_code, 2, some .boolean, 8)
def q_Tr_because : MI := (⟨"TimedJoin$Trouble", "because", "(II)V"⟩, prog_8_method_4_code, 3, none, 6)
def q_TJ_batch : MI := (⟨"TimedJoin", "batch", "(IIIII)I"⟩, prog_1_method_4_code, 6, some .int, 8)
def q_Ro_append : MI := (⟨"TimedJoin$Rows", "append", "(IIIII)Z"⟩, prog_6_method_4_code, 6, some .boolean, 4)
def q_TJ_clear : MI := (⟨"TimedJoin", "clear", "()I"⟩, prog_1_method_5_code, 2, some .int, 8)
def q_TJ_load : MI := (⟨"TimedJoin", "load", "(I)I"⟩, prog_1_method_6_code, 7, some .int, 8)
def q_TJ_isSide : MI := (⟨"TimedJoin", "isSide", "(I)Z"⟩, prog_1_method_49_code, 1, some .boolean, 8)
def q_St_rowsOf : MI := (⟨"TimedJoin$State", "rowsOf", "(I)LTimedJoin$Rows;"⟩, prog_7_method_3_code, 2, some (.object "TimedJoin$Rows"), 5)
def q_Ro_faultOf : MI := (⟨"TimedJoin$Rows", "faultOf", "(IIII)I"⟩, prog_6_method_5_code, 5, some .int, 4)
def q_TJ_isKey : MI := (⟨"TimedJoin", "isKey", "(I)Z"⟩, prog_1_method_51_code, 1, some .boolean, 8)
def q_Ro_spanFault : MI := (⟨"TimedJoin$Rows", "spanFault", "(II)I"⟩, prog_6_method_7_code, 2, some .int, 4)
def q_Ro_lastStart : MI := (⟨"TimedJoin$Rows", "lastStart", "(I)I"⟩, prog_6_method_8_code, 3, some .int, 4)
def q_Ro_measureOf : MI := (⟨"TimedJoin$Rows", "measureOf", "(IIIII)I"⟩, prog_6_method_6_code, 6, some .int, 4)
def q_TJ_add : MI := (⟨"TimedJoin", "add", "(IIIIII)I"⟩, prog_1_method_7_code, 9, some .int, 8)
def q_TJ_trouble : MI := (⟨"TimedJoin", "trouble", "(II)I"⟩, prog_1_method_8_code, 4, some .int, 8)
def q_TJ_sweep : MI := (⟨"TimedJoin", "sweep", "()I"⟩, prog_1_method_9_code, 1, some .int, 8)
def q_Cu_begin : MI := (⟨"TimedJoin$Course", "begin", "(LTimedJoin$State;LTimedJoin$Codes;)V"⟩, prog_3_method_3_code, 6, none, 1)
def q_Co_empty : MI := (⟨"TimedJoin$Codes", "empty", "()V"⟩, prog_2_method_2_code, 1, none, 0)
def q_Ro_countInRun : MI := (⟨"TimedJoin$Rows", "countInRun", "(I)I"⟩, prog_6_method_19_code, 4, some .int, 4)
def q_Ro_startPlace : MI := (⟨"TimedJoin$Rows", "startPlace", "(I)I"⟩, prog_6_method_11_code, 2, some .int, 4)
def q_Ro_has : MI := (⟨"TimedJoin$Rows", "has", "(I)Z"⟩, prog_6_method_3_code, 2, some .boolean, 4)
def q_Cu_eventCode : MI := (⟨"TimedJoin$Course", "eventCode", "(IIII)I"⟩, prog_3_method_4_code, 4, some .int, 1)
def q_Co_put : MI := (⟨"TimedJoin$Codes", "put", "(J)V"⟩, prog_2_method_3_code, 3, none, 0)
def q_Ro_endPlace : MI := (⟨"TimedJoin$Rows", "endPlace", "(I)I"⟩, prog_6_method_12_code, 2, some .int, 4)
def q_Co_sort : MI := (⟨"TimedJoin$Codes", "sort", "()V"⟩, prog_2_method_5_code, 5, none, 0)
def q_Co_at : MI := (⟨"TimedJoin$Codes", "at", "(I)J"⟩, prog_2_method_4_code, 2, some .long, 0)
def q_Cu_held : MI := (⟨"TimedJoin$Course", "held", "()I"⟩, prog_3_method_11_code, 1, some .int, 1)
def q_Cu_activeTogether : MI := (⟨"TimedJoin$Course", "activeTogether", "()I"⟩, prog_3_method_9_code, 1, some .int, 1)
def q_Cu_heads : MI := (⟨"TimedJoin$Course", "heads", "()I"⟩, prog_3_method_10_code, 3, some .int, 1)
def q_TJ_step : MI := (⟨"TimedJoin", "step", "(I)I"⟩, prog_1_method_10_code, 5, some .int, 8)
def q_Cu_takeEvent : MI := (⟨"TimedJoin$Course", "takeEvent", "(LTimedJoin$State;)V"⟩, prog_3_method_5_code, 5, none, 1)
def q_Cu_takeStart : MI := (⟨"TimedJoin$Course", "takeStart", "(LTimedJoin$State;II)V"⟩, prog_3_method_6_code, 7, none, 1)
def q_St_arePartners : MI := (⟨"TimedJoin$State", "arePartners", "(III)Z"⟩, prog_7_method_6_code, 5, some .boolean, 5)
def q_St_keysFit : MI := (⟨"TimedJoin$State", "keysFit", "(III)Z"⟩, prog_7_method_5_code, 4, some .boolean, 5)
def q_Ro_keyOf : MI := (⟨"TimedJoin$Rows", "keyOf", "(I)I"⟩, prog_6_method_9_code, 2, some .int, 4)
def q_St_kindOf : MI := (⟨"TimedJoin$State", "kindOf", "(IIII)I"⟩, prog_7_method_4_code, 7, some .int, 5)
def q_TJ_kindByPlaces : MI := (⟨"TimedJoin", "kindByPlaces", "(IIII)I"⟩, prog_1_method_55_code, 4, some .int, 8)
def q_TJ_byEnds : MI := (⟨"TimedJoin", "byEnds", "(IIIII)I"⟩, prog_1_method_56_code, 5, some .int, 8)
def q_TJ_holds : MI := (⟨"TimedJoin", "holds", "(II)Z"⟩, prog_1_method_57_code, 2, some .boolean, 8)
def q_Cu_putPair : MI := (⟨"TimedJoin$Course", "putPair", "(II)V"⟩, prog_3_method_7_code, 3, none, 1)
def q_Cu_takeEnd : MI := (⟨"TimedJoin$Course", "takeEnd", "(II)V"⟩, prog_3_method_8_code, 6, none, 1)
def q_TJ_leave : MI := (⟨"TimedJoin", "leave", "()Z"⟩, prog_1_method_11_code, 2, some .boolean, 8)
def q_TJ_active : MI := (⟨"TimedJoin", "active", "(II)I"⟩, prog_1_method_12_code, 4, some .int, 8)
def q_TJ_pair : MI := (⟨"TimedJoin", "pair", "(II)I"⟩, prog_1_method_13_code, 6, some .int, 8)
def q_St_sharedFrom : MI := (⟨"TimedJoin$State", "sharedFrom", "(II)I"⟩, prog_7_method_9_code, 3, some .int, 5)
def q_TJ_timeOf : MI := (⟨"TimedJoin", "timeOf", "(I)I"⟩, prog_1_method_54_code, 1, some .int, 8)
def q_St_sharedTo : MI := (⟨"TimedJoin$State", "sharedTo", "(II)I"⟩, prog_7_method_10_code, 3, some .int, 5)
def q_St_sharedLong : MI := (⟨"TimedJoin$State", "sharedLong", "(II)I"⟩, prog_7_method_11_code, 3, some .int, 5)
def q_TJ_swept : MI := (⟨"TimedJoin", "swept", "(I)I"⟩, prog_1_method_14_code, 3, some .int, 8)
def q_TJ_row : MI := (⟨"TimedJoin", "row", "(III)I"⟩, prog_1_method_15_code, 5, some .int, 8)
def q_TJ_isRow : MI := (⟨"TimedJoin", "isRow", "(II)Z"⟩, prog_1_method_50_code, 3, some .boolean, 8)
def q_Ro_longOf : MI := (⟨"TimedJoin$Rows", "longOf", "(I)I"⟩, prog_6_method_13_code, 2, some .int, 4)
def q_TJ_ofMates : MI := (⟨"TimedJoin", "ofMates", "(III)I"⟩, prog_1_method_16_code, 4, some .int, 8)
def q_Ma_gather : MI := (⟨"TimedJoin$Mates", "gather", "(LTimedJoin$State;II)V"⟩, prog_4_method_2_code, 7, none, 2)
def q_Ma_depth : MI := (⟨"TimedJoin$Mates", "depth", "()I"⟩, prog_4_method_4_code, 3, some .int, 2)
def q_Ma_countAt : MI := (⟨"TimedJoin$Mates", "countAt", "(I)I"⟩, prog_4_method_3_code, 4, some .int, 2)
def q_Ma_layCover : MI := (⟨"TimedJoin$Mates", "layCover", "(LTimedJoin$Parts;)V"⟩, prog_4_method_5_code, 6, none, 2)
def q_Pa_empty : MI := (⟨"TimedJoin$Parts", "empty", "()V"⟩, prog_5_method_2_code, 1, none, 3)
def q_Ma_longestAt : MI := (⟨"TimedJoin$Mates", "longestAt", "(I)I"⟩, prog_4_method_6_code, 5, some .int, 2)
def q_Ma_nextStart : MI := (⟨"TimedJoin$Mates", "nextStart", "(I)I"⟩, prog_4_method_7_code, 4, some .int, 2)
def q_Pa_put : MI := (⟨"TimedJoin$Parts", "put", "(IIIII)V"⟩, prog_5_method_3_code, 7, none, 3)
def q_TJ_countLeftOver : MI := (⟨"TimedJoin", "countLeftOver", "()I"⟩, prog_1_method_17_code, 3, some .int, 8)
def q_Pa_cell : MI := (⟨"TimedJoin$Parts", "cell", "(II)I"⟩, prog_5_method_4_code, 4, some .int, 3)
def q_TJ_longCovered : MI := (⟨"TimedJoin", "longCovered", "()I"⟩, prog_1_method_18_code, 3, some .int, 8)
def q_TJ_kind : MI := (⟨"TimedJoin", "kind", "(IIII)I"⟩, prog_1_method_19_code, 5, some .int, 8)
def q_TJ_piece : MI := (⟨"TimedJoin", "piece", "(IIII)I"⟩, prog_1_method_20_code, 5, some .int, 8)
def q_Pa_answer : MI := (⟨"TimedJoin$Parts", "answer", "(III)I"⟩, prog_5_method_5_code, 4, some .int, 3)
def q_TJ_left : MI := (⟨"TimedJoin", "left", "(III)I"⟩, prog_1_method_21_code, 8, some .int, 8)
def q_TJ_leftOver : MI := (⟨"TimedJoin", "leftOver", "(III)I"⟩, prog_1_method_22_code, 6, some .int, 8)
def q_TJ_split : MI := (⟨"TimedJoin", "split", "(IIII)I"⟩, prog_1_method_23_code, 5, some .int, 8)
def q_Ma_layParts : MI := (⟨"TimedJoin$Mates", "layParts", "(LTimedJoin$Codes;LTimedJoin$Parts;)V"⟩, prog_4_method_8_code, 6, none, 2)
def q_Ma_putInside : MI := (⟨"TimedJoin$Mates", "putInside", "(LTimedJoin$Codes;I)V"⟩, prog_4_method_9_code, 3, none, 2)
def q_TJ_latest : MI := (⟨"TimedJoin", "latest", "(II)I"⟩, prog_1_method_24_code, 8, some .int, 8)
def q_TJ_matched : MI := (⟨"TimedJoin", "matched", "(IZ)J"⟩, prog_1_method_25_code, 7, some .long, 8)
def q_St_hasPartner : MI := (⟨"TimedJoin$State", "hasPartner", "(II)Z"⟩, prog_7_method_7_code, 5, some .boolean, 5)
def q_TJ_kinds : MI := (⟨"TimedJoin", "kinds", "(I)I"⟩, prog_1_method_26_code, 5, some .int, 8)
def q_TJ_shared : MI := (⟨"TimedJoin", "shared", "(I)J"⟩, prog_1_method_27_code, 5, some .long, 8)
def q_TJ_sharedBy : MI := (⟨"TimedJoin", "sharedBy", "(I)J"⟩, prog_1_method_28_code, 5, some .long, 8)
def q_TJ_weight : MI := (⟨"TimedJoin", "weight", "(II)J"⟩, prog_1_method_30_code, 7, some .long, 8)
def q_TJ_live : MI := (⟨"TimedJoin", "live", "(III)I"⟩, prog_1_method_31_code, 5, some .int, 8)
def q_Ro_countThere : MI := (⟨"TimedJoin$Rows", "countThere", "(II)I"⟩, prog_6_method_16_code, 5, some .int, 4)
def q_Ro_isThere : MI := (⟨"TimedJoin$Rows", "isThere", "(II)Z"⟩, prog_6_method_15_code, 3, some .boolean, 4)
def q_TJ_crowd : MI := (⟨"TimedJoin", "crowd", "(II)I"⟩, prog_1_method_32_code, 9, some .int, 8)
def q_TJ_countThere : MI := (⟨"TimedJoin", "countThere", "(II)I"⟩, prog_1_method_33_code, 3, some .int, 8)
def q_TJ_one : MI := (⟨"TimedJoin", "one", "(III)I"⟩, prog_1_method_34_code, 6, some .int, 8)
def q_TJ_makeOne : MI := (⟨"TimedJoin", "makeOne", "(LTimedJoin$Rows;I)V"⟩, prog_1_method_35_code, 6, none, 8)
def q_TJ_joinSpan : MI := (⟨"TimedJoin", "joinSpan", "(LTimedJoin$Rows;II)V"⟩, prog_1_method_36_code, 6, none, 8)
def q_Ro_valueOf : MI := (⟨"TimedJoin$Rows", "valueOf", "(I)I"⟩, prog_6_method_10_code, 2, some .int, 4)
def q_Pa_reach : MI := (⟨"TimedJoin$Parts", "reach", "(I)I"⟩, prog_5_method_6_code, 2, some .int, 3)
def q_Pa_widen : MI := (⟨"TimedJoin$Parts", "widen", "(II)V"⟩, prog_5_method_8_code, 3, none, 3)
def q_Pa_setReach : MI := (⟨"TimedJoin$Parts", "setReach", "(I)V"⟩, prog_5_method_7_code, 2, none, 3)
def q_TJ_steps : MI := (⟨"TimedJoin", "steps", "(III)I"⟩, prog_1_method_37_code, 9, some .int, 8)
def q_Ro_putEnds : MI := (⟨"TimedJoin$Rows", "putEnds", "(ILTimedJoin$Codes;)V"⟩, prog_6_method_18_code, 4, none, 4)
def q_Ro_valuesThere : MI := (⟨"TimedJoin$Rows", "valuesThere", "(II)I"⟩, prog_6_method_17_code, 5, some .int, 4)
def q_TJ_lane : MI := (⟨"TimedJoin", "lane", "(II)I"⟩, prog_1_method_38_code, 7, some .int, 8)
def q_TJ_leastLane : MI := (⟨"TimedJoin", "leastLane", "(LTimedJoin$Rows;II)I"⟩, prog_1_method_39_code, 8, some .int, 8)
def q_Ro_doShare : MI := (⟨"TimedJoin$Rows", "doShare", "(II)Z"⟩, prog_6_method_14_code, 3, some .boolean, 4)
def q_TJ_chain : MI := (⟨"TimedJoin", "chain", "(III)I"⟩, prog_1_method_40_code, 9, some .int, 8)
def q_TJ_converse : MI := (⟨"TimedJoin", "converse", "(I)I"⟩, prog_1_method_41_code, 2, some .int, 8)
def q_TJ_isSet : MI := (⟨"TimedJoin", "isSet", "(I)Z"⟩, prog_1_method_53_code, 1, some .boolean, 8)
def q_TJ_turned : MI := (⟨"TimedJoin", "turned", "(I)I"⟩, prog_1_method_58_code, 3, some .int, 8)
def q_TJ_compose : MI := (⟨"TimedJoin", "compose", "(II)I"⟩, prog_1_method_42_code, 3, some .int, 8)
def q_TJ_composed : MI := (⟨"TimedJoin", "composed", "(II)I"⟩, prog_1_method_59_code, 4, some .int, 8)
def q_TJ_composedOfOne : MI := (⟨"TimedJoin", "composedOfOne", "(II)I"⟩, prog_1_method_60_code, 4, some .int, 8)
def q_TJ_net : MI := (⟨"TimedJoin", "net", "(III)Z"⟩, prog_1_method_43_code, 4, some .boolean, 8)
def q_TJ_isName : MI := (⟨"TimedJoin", "isName", "(I)Z"⟩, prog_1_method_52_code, 1, some .boolean, 8)
def q_We_tell : MI := (⟨"TimedJoin$Web", "tell", "(III)V"⟩, prog_9_method_4_code, 4, none, 7)
def q_TJ_between : MI := (⟨"TimedJoin", "between", "(IIZ)I"⟩, prog_1_method_44_code, 4, some .int, 8)
def q_We_draw : MI := (⟨"TimedJoin$Web", "draw", "()V"⟩, prog_9_method_5_code, 5, none, 7)
def q_We_narrow : MI := (⟨"TimedJoin$Web", "narrow", "(II)Z"⟩, prog_9_method_6_code, 6, some .boolean, 7)
def q_TJ_sound : MI := (⟨"TimedJoin", "sound", "()I"⟩, prog_1_method_45_code, 1, some .int, 8)
def q_We_hasEmpty : MI := (⟨"TimedJoin$Web", "hasEmpty", "()Z"⟩, prog_9_method_7_code, 2, some .boolean, 7)
def q_TJ_lay : MI := (⟨"TimedJoin", "lay", "(II)Z"⟩, prog_1_method_46_code, 5, some .boolean, 8)
def q_TJ_image : MI := (⟨"TimedJoin", "image", "(Z)Z"⟩, prog_1_method_47_code, 2, some .boolean, 8)
def q_St_copyFrom : MI := (⟨"TimedJoin$State", "copyFrom", "(LTimedJoin$State;)V"⟩, prog_7_method_2_code, 2, none, 5)
def q_Ro_copyFrom : MI := (⟨"TimedJoin$Rows", "copyFrom", "(LTimedJoin$Rows;)V"⟩, prog_6_method_2_code, 2, none, 4)
def q_Tr_copyFrom : MI := (⟨"TimedJoin$Trouble", "copyFrom", "(LTimedJoin$Trouble;)V"⟩, prog_8_method_2_code, 2, none, 6)
def q_Cu_copyFrom : MI := (⟨"TimedJoin$Course", "copyFrom", "(LTimedJoin$Course;)V"⟩, prog_3_method_2_code, 2, none, 1)
def q_We_copyFrom : MI := (⟨"TimedJoin$Web", "copyFrom", "(LTimedJoin$Web;)V"⟩, prog_9_method_2_code, 2, none, 7)
def q_TJ_look : MI := (⟨"TimedJoin", "look", "(I)I"⟩, prog_1_method_48_code, 2, some .int, 8)
def q_TJ_mostPartners : MI := (⟨"TimedJoin", "mostPartners", "()I"⟩, prog_1_method_29_code, 5, some .int, 8)
def q_St_countPartners : MI := (⟨"TimedJoin$State", "countPartners", "(II)I"⟩, prog_7_method_8_code, 6, some .int, 5)
def q_Ro_countRuns : MI := (⟨"TimedJoin$Rows", "countRuns", "()I"⟩, prog_6_method_20_code, 3, some .int, 4)
def q_Mo_init : MI := (⟨"TimedJoinModel", "<init>", "()V"⟩, prog_11_method_5_code, 3, none, 9)
def q_Mo_trouble : MI := (⟨"TimedJoinModel", "trouble", "(II)I"⟩, prog_11_method_22_code, 3, some .int, 9)
def q_Mo_isIn : MI := (⟨"TimedJoinModel", "isIn", "(III)Z"⟩, prog_11_method_1_code, 3, some .boolean, 9)
def q_Mo_set : MI := (⟨"TimedJoinModel", "set", "(II)Z"⟩, prog_11_method_24_code, 4, some .boolean, 9)
def q_Mo_isSweeping : MI := (⟨"TimedJoinModel", "isSweeping", "()Z"⟩, prog_11_method_23_code, 1, some .boolean, 9)
def q_Mo_causes : MI := (⟨"TimedJoinModel", "causes", "(II)V"⟩, prog_11_method_21_code, 3, none, 9)
def q_Mo_batch : MI := (⟨"TimedJoinModel", "batch", "(IIIII)I"⟩, prog_11_method_25_code, 6, some .int, 9)
def q_Mo_lays : MI := (⟨"TimedJoinModel", "lays", "(IIIIII)V"⟩, prog_11_method_26_code, 7, none, 9)
def q_Mo_clear : MI := (⟨"TimedJoinModel", "clear", "()I"⟩, prog_11_method_27_code, 2, some .int, 9)
def q_Mo_load : MI := (⟨"TimedJoinModel", "load", "(I)I"⟩, prog_11_method_31_code, 5, some .int, 9)
def q_Mo_isSide : MI := (⟨"TimedJoinModel", "isSide", "(I)Z"⟩, prog_11_method_12_code, 1, some .boolean, 9)
def q_Mo_comes : MI := (⟨"TimedJoinModel", "comes", "(IIIIIII)Z"⟩, prog_11_method_30_code, 9, some .boolean, 9)
def q_Mo_isKey : MI := (⟨"TimedJoinModel", "isKey", "(I)Z"⟩, prog_11_method_14_code, 1, some .boolean, 9)
def q_Mo_spanTrouble : MI := (⟨"TimedJoinModel", "spanTrouble", "(II)I"⟩, prog_11_method_28_code, 2, some .int, 9)
def q_Mo_orderTrouble : MI := (⟨"TimedJoinModel", "orderTrouble", "(III)I"⟩, prog_11_method_29_code, 5, some .int, 9)
def q_Mo_of : MI := (⟨"TimedJoinModel", "of", "(III)I"⟩, prog_11_method_7_code, 4, some .int, 9)
def q_Mo_at : MI := (⟨"TimedJoinModel", "at", "(II)I"⟩, prog_11_method_6_code, 3, some .int, 9)
def q_Mo_add : MI := (⟨"TimedJoinModel", "add", "(IIIIII)I"⟩, prog_11_method_32_code, 7, some .int, 9)
def q_Mo_sweep : MI := (⟨"TimedJoinModel", "sweep", "()I"⟩, prog_11_method_43_code, 3, some .int, 9)
def q_Mo_event : MI := (⟨"TimedJoinModel", "event", "(III)I"⟩, prog_11_method_33_code, 3, some .int, 9)
def q_Mo_enters : MI := (⟨"TimedJoinModel", "enters", "(I)V"⟩, prog_11_method_39_code, 3, none, 9)
def q_Mo_isAhead : MI := (⟨"TimedJoinModel", "isAhead", "(II)Z"⟩, prog_11_method_38_code, 3, some .boolean, 9)
def q_Mo_placeOf : MI := (⟨"TimedJoinModel", "placeOf", "(I)I"⟩, prog_11_method_37_code, 2, some .int, 9)
def q_Mo_isStart : MI := (⟨"TimedJoinModel", "isStart", "(I)Z"⟩, prog_11_method_36_code, 1, some .boolean, 9)
def q_Mo_sideOf : MI := (⟨"TimedJoinModel", "sideOf", "(I)I"⟩, prog_11_method_34_code, 1, some .int, 9)
def q_Mo_rowOf : MI := (⟨"TimedJoinModel", "rowOf", "(I)I"⟩, prog_11_method_35_code, 1, some .int, 9)
def q_Mo_startOf : MI := (⟨"TimedJoinModel", "startOf", "(II)I"⟩, prog_11_method_8_code, 3, some .int, 9)
def q_Mo_endOf : MI := (⟨"TimedJoinModel", "endOf", "(II)I"⟩, prog_11_method_9_code, 4, some .int, 9)
def q_Mo_looksAtHeld : MI := (⟨"TimedJoinModel", "looksAtHeld", "()V"⟩, prog_11_method_42_code, 1, none, 9)
def q_Mo_actives : MI := (⟨"TimedJoinModel", "actives", "()I"⟩, prog_11_method_41_code, 1, some .int, 9)
def q_Mo_heads : MI := (⟨"TimedJoinModel", "heads", "()I"⟩, prog_11_method_40_code, 4, some .int, 9)
def q_Mo_more : MI := (⟨"TimedJoinModel", "more", "(II)I"⟩, prog_11_method_4_code, 2, some .int, 9)
def q_Mo_step : MI := (⟨"TimedJoinModel", "step", "(I)I"⟩, prog_11_method_48_code, 3, some .int, 9)
def q_Mo_goes : MI := (⟨"TimedJoinModel", "goes", "()V"⟩, prog_11_method_47_code, 2, none, 9)
def q_Mo_starts : MI := (⟨"TimedJoinModel", "starts", "(II)V"⟩, prog_11_method_45_code, 6, none, 9)
def q_Mo_activeAt : MI := (⟨"TimedJoinModel", "activeAt", "(II)I"⟩, prog_11_method_44_code, 3, some .int, 9)
def q_Mo_isPartner : MI := (⟨"TimedJoinModel", "isPartner", "(III)Z"⟩, prog_11_method_20_code, 4, some .boolean, 9)
def q_Mo_arePartners : MI := (⟨"TimedJoinModel", "arePartners", "(II)Z"⟩, prog_11_method_19_code, 3, some .boolean, 9)
def q_Mo_isKeyed : MI := (⟨"TimedJoinModel", "isKeyed", "(II)Z"⟩, prog_11_method_18_code, 3, some .boolean, 9)
def q_Mo_kindBetween : MI := (⟨"TimedJoinModel", "kindBetween", "(IIII)I"⟩, prog_11_method_16_code, 5, some .int, 9)
def q_Mo_kindOf : MI := (⟨"TimedJoinModel", "kindOf", "(IIII)I"⟩, prog_11_method_15_code, 4, some .int, 9)
def q_Mo_has : MI := (⟨"TimedJoinModel", "has", "(II)Z"⟩, prog_11_method_2_code, 2, some .boolean, 9)
def q_Mo_ends : MI := (⟨"TimedJoinModel", "ends", "(II)V"⟩, prog_11_method_46_code, 5, none, 9)
def q_Mo_leave : MI := (⟨"TimedJoinModel", "leave", "()Z"⟩, prog_11_method_49_code, 2, some .boolean, 9)
def q_Mo_active : MI := (⟨"TimedJoinModel", "active", "(II)I"⟩, prog_11_method_50_code, 3, some .int, 9)
def q_Mo_pair : MI := (⟨"TimedJoinModel", "pair", "(II)I"⟩, prog_11_method_51_code, 5, some .int, 9)
def q_Mo_sharedFrom : MI := (⟨"TimedJoinModel", "sharedFrom", "(II)I"⟩, prog_11_method_53_code, 3, some .int, 9)
def q_Mo_time : MI := (⟨"TimedJoinModel", "time", "(I)I"⟩, prog_11_method_11_code, 1, some .int, 9)
def q_Mo_sharedTo : MI := (⟨"TimedJoinModel", "sharedTo", "(II)I"⟩, prog_11_method_54_code, 3, some .int, 9)
def q_Mo_less : MI := (⟨"TimedJoinModel", "less", "(II)I"⟩, prog_11_method_3_code, 2, some .int, 9)
def q_Mo_sharedLong : MI := (⟨"TimedJoinModel", "sharedLong", "(II)I"⟩, prog_11_method_55_code, 3, some .int, 9)
def q_Mo_swept : MI := (⟨"TimedJoinModel", "swept", "(I)I"⟩, prog_11_method_52_code, 2, some .int, 9)
def q_Mo_kinds : MI := (⟨"TimedJoinModel", "kinds", "(I)I"⟩, prog_11_method_56_code, 5, some .int, 9)
def q_Mo_shared : MI := (⟨"TimedJoinModel", "shared", "(I)J"⟩, prog_11_method_57_code, 6, some .long, 9)
def q_Mo_weight : MI := (⟨"TimedJoinModel", "weight", "(II)J"⟩, prog_11_method_58_code, 6, some .long, 9)
def q_Mo_longOf : MI := (⟨"TimedJoinModel", "longOf", "(II)I"⟩, prog_11_method_10_code, 3, some .int, 9)
def q_Mo_row : MI := (⟨"TimedJoinModel", "row", "(III)I"⟩, prog_11_method_68_code, 4, some .int, 9)
def q_Mo_isRow : MI := (⟨"TimedJoinModel", "isRow", "(II)Z"⟩, prog_11_method_13_code, 3, some .boolean, 9)
def q_Mo_partners : MI := (⟨"TimedJoinModel", "partners", "(II)I"⟩, prog_11_method_63_code, 5, some .int, 9)
def q_Mo_depth : MI := (⟨"TimedJoinModel", "depth", "(II)I"⟩, prog_11_method_65_code, 5, some .int, 9)
def q_Mo_partnersAt : MI := (⟨"TimedJoinModel", "partnersAt", "(III)I"⟩, prog_11_method_64_code, 7, some .int, 9)
def q_Mo_covers : MI := (⟨"TimedJoinModel", "covers", "(II)V"⟩, prog_11_method_62_code, 7, none, 9)
def q_Mo_longest : MI := (⟨"TimedJoinModel", "longest", "(III)I"⟩, prog_11_method_60_code, 7, some .int, 9)
def q_Mo_nextStart : MI := (⟨"TimedJoinModel", "nextStart", "(III)I"⟩, prog_11_method_61_code, 7, some .int, 9)
def q_Mo_adds : MI := (⟨"TimedJoinModel", "adds", "(III)V"⟩, prog_11_method_59_code, 4, none, 9)
def q_Mo_leftOver : MI := (⟨"TimedJoinModel", "leftOver", "(II)I"⟩, prog_11_method_66_code, 5, some .int, 9)
def q_Mo_coveredLong : MI := (⟨"TimedJoinModel", "coveredLong", "(II)I"⟩, prog_11_method_67_code, 5, some .int, 9)
def q_Mo_kind : MI := (⟨"TimedJoinModel", "kind", "(IIII)I"⟩, prog_11_method_69_code, 5, some .int, 9)
def q_Mo_piece : MI := (⟨"TimedJoinModel", "piece", "(IIII)I"⟩, prog_11_method_70_code, 5, some .int, 9)
def q_Mo_left : MI := (⟨"TimedJoinModel", "left", "(III)I"⟩, prog_11_method_71_code, 7, some .int, 9)
def q_Mo_live : MI := (⟨"TimedJoinModel", "live", "(III)I"⟩, prog_11_method_74_code, 4, some .int, 9)
def q_Mo_liveAt : MI := (⟨"TimedJoinModel", "liveAt", "(III)I"⟩, prog_11_method_73_code, 6, some .int, 9)
def q_Mo_isLive : MI := (⟨"TimedJoinModel", "isLive", "(III)Z"⟩, prog_11_method_72_code, 4, some .boolean, 9)
def q_Mo_crowd : MI := (⟨"TimedJoinModel", "crowd", "(II)I"⟩, prog_11_method_75_code, 9, some .int, 9)
def q_Mo_one : MI := (⟨"TimedJoinModel", "one", "(III)I"⟩, prog_11_method_82_code, 8, some .int, 9)
def q_Mo_makesOne : MI := (⟨"TimedJoinModel", "makesOne", "(I)V"⟩, prog_11_method_77_code, 6, none, 9)
def q_Mo_isOne : MI := (⟨"TimedJoinModel", "isOne", "(III)Z"⟩, prog_11_method_76_code, 4, some .boolean, 9)
def q_Mo_ones : MI := (⟨"TimedJoinModel", "ones", "(II)I"⟩, prog_11_method_81_code, 6, some .int, 9)
def q_Mo_comesAhead : MI := (⟨"TimedJoinModel", "comesAhead", "(III)Z"⟩, prog_11_method_80_code, 4, some .boolean, 9)
def q_Mo_least : MI := (⟨"TimedJoinModel", "least", "(II)I"⟩, prog_11_method_78_code, 5, some .int, 9)
def q_Mo_greatest : MI := (⟨"TimedJoinModel", "greatest", "(II)I"⟩, prog_11_method_79_code, 5, some .int, 9)
def q_Mo_steps : MI := (⟨"TimedJoinModel", "steps", "(III)I"⟩, prog_11_method_85_code, 7, some .int, 9)
def q_Mo_cuts : MI := (⟨"TimedJoinModel", "cuts", "(I)V"⟩, prog_11_method_83_code, 4, none, 9)
def q_Mo_valuesAt : MI := (⟨"TimedJoinModel", "valuesAt", "(II)I"⟩, prog_11_method_84_code, 6, some .int, 9)
def q_Mo_split : MI := (⟨"TimedJoinModel", "split", "(IIII)I"⟩, prog_11_method_86_code, 9, some .int, 9)
def q_Mo_latest : MI := (⟨"TimedJoinModel", "latest", "(II)I"⟩, prog_11_method_87_code, 7, some .int, 9)
def q_Mo_matched : MI := (⟨"TimedJoinModel", "matched", "(IZ)J"⟩, prog_11_method_88_code, 6, some .long, 9)
def q_Mo_lane : MI := (⟨"TimedJoinModel", "lane", "(II)I"⟩, prog_11_method_91_code, 5, some .int, 9)
def q_Mo_nextToLane : MI := (⟨"TimedJoinModel", "nextToLane", "(II)I"⟩, prog_11_method_90_code, 5, some .int, 9)
def q_Mo_isLaned : MI := (⟨"TimedJoinModel", "isLaned", "(III)Z"⟩, prog_11_method_89_code, 5, some .boolean, 9)
def q_Mo_doShare : MI := (⟨"TimedJoinModel", "doShare", "(III)Z"⟩, prog_11_method_17_code, 4, some .boolean, 9)
def q_Mo_chain : MI := (⟨"TimedJoinModel", "chain", "(III)I"⟩, prog_11_method_92_code, 8, some .int, 9)
def q_Mo_converse : MI := (⟨"TimedJoinModel", "converse", "(I)I"⟩, prog_11_method_98_code, 2, some .int, 9)
def q_Mo_isKinds : MI := (⟨"TimedJoinModel", "isKinds", "(I)Z"⟩, prog_11_method_97_code, 1, some .boolean, 9)
def q_Mo_converseOf : MI := (⟨"TimedJoinModel", "converseOf", "(I)I"⟩, prog_11_method_96_code, 3, some .int, 9)
def q_Mo_compose : MI := (⟨"TimedJoinModel", "compose", "(II)I"⟩, prog_11_method_99_code, 3, some .int, 9)
def q_Mo_composedOf : MI := (⟨"TimedJoinModel", "composedOf", "(II)I"⟩, prog_11_method_95_code, 6, some .int, 9)
def q_Mo_composes : MI := (⟨"TimedJoinModel", "composes", "()V"⟩, prog_11_method_93_code, 5, none, 9)
def q_Mo_composesWith : MI := (⟨"TimedJoinModel", "composesWith", "(IIII)V"⟩, prog_11_method_94_code, 7, none, 9)
def q_Mo_net : MI := (⟨"TimedJoinModel", "net", "(III)Z"⟩, prog_11_method_102_code, 4, some .boolean, 9)
def q_Mo_isName : MI := (⟨"TimedJoinModel", "isName", "(I)Z"⟩, prog_11_method_100_code, 1, some .boolean, 9)
def q_Mo_ties : MI := (⟨"TimedJoinModel", "ties", "(III)V"⟩, prog_11_method_101_code, 4, none, 9)
def q_Mo_between : MI := (⟨"TimedJoinModel", "between", "(IIZ)I"⟩, prog_11_method_105_code, 4, some .int, 9)
def q_Mo_tightens : MI := (⟨"TimedJoinModel", "tightens", "()V"⟩, prog_11_method_104_code, 5, none, 9)
def q_Mo_isTighter : MI := (⟨"TimedJoinModel", "isTighter", "(III)Z"⟩, prog_11_method_103_code, 5, some .boolean, 9)
def q_Mo_sound : MI := (⟨"TimedJoinModel", "sound", "()I"⟩, prog_11_method_106_code, 2, some .int, 9)
def q_Mo_lay : MI := (⟨"TimedJoinModel", "lay", "(II)Z"⟩, prog_11_method_107_code, 5, some .boolean, 9)
def q_Mo_image : MI := (⟨"TimedJoinModel", "image", "(Z)Z"⟩, prog_11_method_108_code, 3, some .boolean, 9)
def q_Mo_look : MI := (⟨"TimedJoinModel", "look", "(I)I"⟩, prog_11_method_111_code, 2, some .int, 9)
def q_Mo_mostPartners : MI := (⟨"TimedJoinModel", "mostPartners", "()I"⟩, prog_11_method_109_code, 4, some .int, 9)
def q_Mo_runs : MI := (⟨"TimedJoinModel", "runs", "(I)I"⟩, prog_11_method_110_code, 6, some .int, 9)
def mdCode (q : MI) : Prop := Cond.code q.1 q.2.1 q.2.2.1 q.2.2.2.1 ∈ GW
theorem q_TJ_init_c : mdCode q_TJ_init := gwI 96 (by decide +kernel)
theorem q_St_init_c : mdCode q_St_init := gwI 104 (by decide +kernel)
theorem q_Ro_init_c : mdCode q_Ro_init := gwI 110 (by decide +kernel)
theorem q_Tr_init_c : mdCode q_Tr_init := gwI 146 (by decide +kernel)
theorem q_Cu_init_c : mdCode q_Cu_init := gwI 165 (by decide +kernel)
theorem q_We_init_c : mdCode q_We_init := gwI 222 (by decide +kernel)
theorem q_We_loosen_c : mdCode q_We_loosen := gwI 227 (by decide +kernel)
theorem q_Co_init_c : mdCode q_Co_init := gwI 277 (by decide +kernel)
theorem q_Pa_init_c : mdCode q_Pa_init := gwI 294 (by decide +kernel)
theorem q_Ma_init_c : mdCode q_Ma_init := gwI 311 (by decide +kernel)
theorem q_TJ_set_c : mdCode q_TJ_set := gwI 355 (by decide +kernel)
theorem q_Tr_forget_c : mdCode q_Tr_forget := gwI 359 (by decide +kernel)
theorem q_TJ_canBeSet_c : mdCode q_TJ_canBeSet := gwI 362 (by decide +kernel)
theorem q_Tr_because_c : mdCode q_Tr_because := gwI 366 (by decide +kernel)
theorem q_TJ_batch_c : mdCode q_TJ_batch := gwI 370 (by decide +kernel)
theorem q_Ro_append_c : mdCode q_Ro_append := gwI 374 (by decide +kernel)
theorem q_TJ_clear_c : mdCode q_TJ_clear := gwI 378 (by decide +kernel)
theorem q_TJ_load_c : mdCode q_TJ_load := gwI 382 (by decide +kernel)
theorem q_TJ_isSide_c : mdCode q_TJ_isSide := gwI 385 (by decide +kernel)
theorem q_St_rowsOf_c : mdCode q_St_rowsOf := gwI 389 (by decide +kernel)
theorem q_Ro_faultOf_c : mdCode q_Ro_faultOf := gwI 393 (by decide +kernel)
theorem q_TJ_isKey_c : mdCode q_TJ_isKey := gwI 396 (by decide +kernel)
theorem q_Ro_spanFault_c : mdCode q_Ro_spanFault := gwI 399 (by decide +kernel)
theorem q_Ro_lastStart_c : mdCode q_Ro_lastStart := gwI 405 (by decide +kernel)
theorem q_Ro_measureOf_c : mdCode q_Ro_measureOf := gwI 409 (by decide +kernel)
theorem q_TJ_add_c : mdCode q_TJ_add := gwI 413 (by decide +kernel)
theorem q_TJ_trouble_c : mdCode q_TJ_trouble := gwI 417 (by decide +kernel)
theorem q_TJ_sweep_c : mdCode q_TJ_sweep := gwI 422 (by decide +kernel)
theorem q_Cu_begin_c : mdCode q_Cu_begin := gwI 426 (by decide +kernel)
theorem q_Co_empty_c : mdCode q_Co_empty := gwI 430 (by decide +kernel)
theorem q_Ro_countInRun_c : mdCode q_Ro_countInRun := gwI 435 (by decide +kernel)
theorem q_Ro_startPlace_c : mdCode q_Ro_startPlace := gwI 439 (by decide +kernel)
theorem q_Ro_has_c : mdCode q_Ro_has := gwI 443 (by decide +kernel)
theorem q_Cu_eventCode_c : mdCode q_Cu_eventCode := gwI 446 (by decide +kernel)
theorem q_Co_put_c : mdCode q_Co_put := gwI 451 (by decide +kernel)
theorem q_Ro_endPlace_c : mdCode q_Ro_endPlace := gwI 455 (by decide +kernel)
theorem q_Co_sort_c : mdCode q_Co_sort := gwI 459 (by decide +kernel)
theorem q_Co_at_c : mdCode q_Co_at := gwI 466 (by decide +kernel)
theorem q_Cu_held_c : mdCode q_Cu_held := gwI 470 (by decide +kernel)
theorem q_Cu_activeTogether_c : mdCode q_Cu_activeTogether := gwI 474 (by decide +kernel)
theorem q_Cu_heads_c : mdCode q_Cu_heads := gwI 478 (by decide +kernel)
theorem q_TJ_step_c : mdCode q_TJ_step := gwI 482 (by decide +kernel)
theorem q_Cu_takeEvent_c : mdCode q_Cu_takeEvent := gwI 486 (by decide +kernel)
theorem q_Cu_takeStart_c : mdCode q_Cu_takeStart := gwI 490 (by decide +kernel)
theorem q_St_arePartners_c : mdCode q_St_arePartners := gwI 494 (by decide +kernel)
theorem q_St_keysFit_c : mdCode q_St_keysFit := gwI 498 (by decide +kernel)
theorem q_Ro_keyOf_c : mdCode q_Ro_keyOf := gwI 503 (by decide +kernel)
theorem q_St_kindOf_c : mdCode q_St_kindOf := gwI 507 (by decide +kernel)
theorem q_TJ_kindByPlaces_c : mdCode q_TJ_kindByPlaces := gwI 512 (by decide +kernel)
theorem q_TJ_byEnds_c : mdCode q_TJ_byEnds := gwI 515 (by decide +kernel)
theorem q_TJ_holds_c : mdCode q_TJ_holds := gwI 518 (by decide +kernel)
theorem q_Cu_putPair_c : mdCode q_Cu_putPair := gwI 522 (by decide +kernel)
theorem q_Cu_takeEnd_c : mdCode q_Cu_takeEnd := gwI 527 (by decide +kernel)
theorem q_TJ_leave_c : mdCode q_TJ_leave := gwI 534 (by decide +kernel)
theorem q_TJ_active_c : mdCode q_TJ_active := gwI 538 (by decide +kernel)
theorem q_TJ_pair_c : mdCode q_TJ_pair := gwI 542 (by decide +kernel)
theorem q_St_sharedFrom_c : mdCode q_St_sharedFrom := gwI 547 (by decide +kernel)
theorem q_TJ_timeOf_c : mdCode q_TJ_timeOf := gwI 551 (by decide +kernel)
theorem q_St_sharedTo_c : mdCode q_St_sharedTo := gwI 555 (by decide +kernel)
theorem q_St_sharedLong_c : mdCode q_St_sharedLong := gwI 560 (by decide +kernel)
theorem q_TJ_swept_c : mdCode q_TJ_swept := gwI 567 (by decide +kernel)
theorem q_TJ_row_c : mdCode q_TJ_row := gwI 573 (by decide +kernel)
theorem q_TJ_isRow_c : mdCode q_TJ_isRow := gwI 577 (by decide +kernel)
theorem q_Ro_longOf_c : mdCode q_Ro_longOf := gwI 582 (by decide +kernel)
theorem q_TJ_ofMates_c : mdCode q_TJ_ofMates := gwI 586 (by decide +kernel)
theorem q_Ma_gather_c : mdCode q_Ma_gather := gwI 590 (by decide +kernel)
theorem q_Ma_depth_c : mdCode q_Ma_depth := gwI 598 (by decide +kernel)
theorem q_Ma_countAt_c : mdCode q_Ma_countAt := gwI 602 (by decide +kernel)
theorem q_Ma_layCover_c : mdCode q_Ma_layCover := gwI 607 (by decide +kernel)
theorem q_Pa_empty_c : mdCode q_Pa_empty := gwI 611 (by decide +kernel)
theorem q_Ma_longestAt_c : mdCode q_Ma_longestAt := gwI 615 (by decide +kernel)
theorem q_Ma_nextStart_c : mdCode q_Ma_nextStart := gwI 619 (by decide +kernel)
theorem q_Pa_put_c : mdCode q_Pa_put := gwI 625 (by decide +kernel)
theorem q_TJ_countLeftOver_c : mdCode q_TJ_countLeftOver := gwI 629 (by decide +kernel)
theorem q_Pa_cell_c : mdCode q_Pa_cell := gwI 633 (by decide +kernel)
theorem q_TJ_longCovered_c : mdCode q_TJ_longCovered := gwI 638 (by decide +kernel)
theorem q_TJ_kind_c : mdCode q_TJ_kind := gwI 642 (by decide +kernel)
theorem q_TJ_piece_c : mdCode q_TJ_piece := gwI 646 (by decide +kernel)
theorem q_Pa_answer_c : mdCode q_Pa_answer := gwI 650 (by decide +kernel)
theorem q_TJ_left_c : mdCode q_TJ_left := gwI 655 (by decide +kernel)
theorem q_TJ_leftOver_c : mdCode q_TJ_leftOver := gwI 659 (by decide +kernel)
theorem q_TJ_split_c : mdCode q_TJ_split := gwI 663 (by decide +kernel)
theorem q_Ma_layParts_c : mdCode q_Ma_layParts := gwI 667 (by decide +kernel)
theorem q_Ma_putInside_c : mdCode q_Ma_putInside := gwI 673 (by decide +kernel)
theorem q_TJ_latest_c : mdCode q_TJ_latest := gwI 679 (by decide +kernel)
theorem q_TJ_matched_c : mdCode q_TJ_matched := gwI 685 (by decide +kernel)
theorem q_St_hasPartner_c : mdCode q_St_hasPartner := gwI 690 (by decide +kernel)
theorem q_TJ_kinds_c : mdCode q_TJ_kinds := gwI 695 (by decide +kernel)
theorem q_TJ_shared_c : mdCode q_TJ_shared := gwI 699 (by decide +kernel)
theorem q_TJ_sharedBy_c : mdCode q_TJ_sharedBy := gwI 704 (by decide +kernel)
theorem q_TJ_weight_c : mdCode q_TJ_weight := gwI 709 (by decide +kernel)
theorem q_TJ_live_c : mdCode q_TJ_live := gwI 713 (by decide +kernel)
theorem q_Ro_countThere_c : mdCode q_Ro_countThere := gwI 719 (by decide +kernel)
theorem q_Ro_isThere_c : mdCode q_Ro_isThere := gwI 723 (by decide +kernel)
theorem q_TJ_crowd_c : mdCode q_TJ_crowd := gwI 729 (by decide +kernel)
theorem q_TJ_countThere_c : mdCode q_TJ_countThere := gwI 733 (by decide +kernel)
theorem q_TJ_one_c : mdCode q_TJ_one := gwI 737 (by decide +kernel)
theorem q_TJ_makeOne_c : mdCode q_TJ_makeOne := gwI 742 (by decide +kernel)
theorem q_TJ_joinSpan_c : mdCode q_TJ_joinSpan := gwI 753 (by decide +kernel)
theorem q_Ro_valueOf_c : mdCode q_Ro_valueOf := gwI 757 (by decide +kernel)
theorem q_Pa_reach_c : mdCode q_Pa_reach := gwI 761 (by decide +kernel)
theorem q_Pa_widen_c : mdCode q_Pa_widen := gwI 766 (by decide +kernel)
theorem q_Pa_setReach_c : mdCode q_Pa_setReach := gwI 774 (by decide +kernel)
theorem q_TJ_steps_c : mdCode q_TJ_steps := gwI 778 (by decide +kernel)
theorem q_Ro_putEnds_c : mdCode q_Ro_putEnds := gwI 782 (by decide +kernel)
theorem q_Ro_valuesThere_c : mdCode q_Ro_valuesThere := gwI 787 (by decide +kernel)
theorem q_TJ_lane_c : mdCode q_TJ_lane := gwI 791 (by decide +kernel)
theorem q_TJ_leastLane_c : mdCode q_TJ_leastLane := gwI 795 (by decide +kernel)
theorem q_Ro_doShare_c : mdCode q_Ro_doShare := gwI 799 (by decide +kernel)
theorem q_TJ_chain_c : mdCode q_TJ_chain := gwI 803 (by decide +kernel)
theorem q_TJ_converse_c : mdCode q_TJ_converse := gwI 808 (by decide +kernel)
theorem q_TJ_isSet_c : mdCode q_TJ_isSet := gwI 811 (by decide +kernel)
theorem q_TJ_turned_c : mdCode q_TJ_turned := gwI 814 (by decide +kernel)
theorem q_TJ_compose_c : mdCode q_TJ_compose := gwI 819 (by decide +kernel)
theorem q_TJ_composed_c : mdCode q_TJ_composed := gwI 822 (by decide +kernel)
theorem q_TJ_composedOfOne_c : mdCode q_TJ_composedOfOne := gwI 825 (by decide +kernel)
theorem q_TJ_net_c : mdCode q_TJ_net := gwI 831 (by decide +kernel)
theorem q_TJ_isName_c : mdCode q_TJ_isName := gwI 834 (by decide +kernel)
theorem q_We_tell_c : mdCode q_We_tell := gwI 838 (by decide +kernel)
theorem q_TJ_between_c : mdCode q_TJ_between := gwI 844 (by decide +kernel)
theorem q_We_draw_c : mdCode q_We_draw := gwI 848 (by decide +kernel)
theorem q_We_narrow_c : mdCode q_We_narrow := gwI 855 (by decide +kernel)
theorem q_TJ_sound_c : mdCode q_TJ_sound := gwI 860 (by decide +kernel)
theorem q_We_hasEmpty_c : mdCode q_We_hasEmpty := gwI 864 (by decide +kernel)
theorem q_TJ_lay_c : mdCode q_TJ_lay := gwI 868 (by decide +kernel)
theorem q_TJ_image_c : mdCode q_TJ_image := gwI 873 (by decide +kernel)
theorem q_St_copyFrom_c : mdCode q_St_copyFrom := gwI 877 (by decide +kernel)
theorem q_Ro_copyFrom_c : mdCode q_Ro_copyFrom := gwI 881 (by decide +kernel)
theorem q_Tr_copyFrom_c : mdCode q_Tr_copyFrom := gwI 886 (by decide +kernel)
theorem q_Cu_copyFrom_c : mdCode q_Cu_copyFrom := gwI 891 (by decide +kernel)
theorem q_We_copyFrom_c : mdCode q_We_copyFrom := gwI 896 (by decide +kernel)
theorem q_TJ_look_c : mdCode q_TJ_look := gwI 900 (by decide +kernel)
theorem q_TJ_mostPartners_c : mdCode q_TJ_mostPartners := gwI 904 (by decide +kernel)
theorem q_St_countPartners_c : mdCode q_St_countPartners := gwI 908 (by decide +kernel)
theorem q_Ro_countRuns_c : mdCode q_Ro_countRuns := gwI 913 (by decide +kernel)
theorem q_Mo_init_c : mdCode q_Mo_init := gwI 919 (by decide +kernel)
theorem q_Mo_trouble_c : mdCode q_Mo_trouble := gwI 967 (by decide +kernel)
theorem q_Mo_isIn_c : mdCode q_Mo_isIn := gwI 970 (by decide +kernel)
theorem q_Mo_set_c : mdCode q_Mo_set := gwI 975 (by decide +kernel)
theorem q_Mo_isSweeping_c : mdCode q_Mo_isSweeping := gwI 979 (by decide +kernel)
theorem q_Mo_causes_c : mdCode q_Mo_causes := gwI 983 (by decide +kernel)
theorem q_Mo_batch_c : mdCode q_Mo_batch := gwI 987 (by decide +kernel)
theorem q_Mo_lays_c : mdCode q_Mo_lays := gwI 991 (by decide +kernel)
theorem q_Mo_clear_c : mdCode q_Mo_clear := gwI 995 (by decide +kernel)
theorem q_Mo_load_c : mdCode q_Mo_load := gwI 999 (by decide +kernel)
theorem q_Mo_isSide_c : mdCode q_Mo_isSide := gwI 1002 (by decide +kernel)
theorem q_Mo_comes_c : mdCode q_Mo_comes := gwI 1006 (by decide +kernel)
theorem q_Mo_isKey_c : mdCode q_Mo_isKey := gwI 1009 (by decide +kernel)
theorem q_Mo_spanTrouble_c : mdCode q_Mo_spanTrouble := gwI 1012 (by decide +kernel)
theorem q_Mo_orderTrouble_c : mdCode q_Mo_orderTrouble := gwI 1018 (by decide +kernel)
theorem q_Mo_of_c : mdCode q_Mo_of := gwI 1022 (by decide +kernel)
theorem q_Mo_at_c : mdCode q_Mo_at := gwI 1026 (by decide +kernel)
theorem q_Mo_add_c : mdCode q_Mo_add := gwI 1031 (by decide +kernel)
theorem q_Mo_sweep_c : mdCode q_Mo_sweep := gwI 1035 (by decide +kernel)
theorem q_Mo_event_c : mdCode q_Mo_event := gwI 1038 (by decide +kernel)
theorem q_Mo_enters_c : mdCode q_Mo_enters := gwI 1042 (by decide +kernel)
theorem q_Mo_isAhead_c : mdCode q_Mo_isAhead := gwI 1046 (by decide +kernel)
theorem q_Mo_placeOf_c : mdCode q_Mo_placeOf := gwI 1050 (by decide +kernel)
theorem q_Mo_isStart_c : mdCode q_Mo_isStart := gwI 1053 (by decide +kernel)
theorem q_Mo_sideOf_c : mdCode q_Mo_sideOf := gwI 1056 (by decide +kernel)
theorem q_Mo_rowOf_c : mdCode q_Mo_rowOf := gwI 1059 (by decide +kernel)
theorem q_Mo_startOf_c : mdCode q_Mo_startOf := gwI 1063 (by decide +kernel)
theorem q_Mo_endOf_c : mdCode q_Mo_endOf := gwI 1067 (by decide +kernel)
theorem q_Mo_looksAtHeld_c : mdCode q_Mo_looksAtHeld := gwI 1071 (by decide +kernel)
theorem q_Mo_actives_c : mdCode q_Mo_actives := gwI 1075 (by decide +kernel)
theorem q_Mo_heads_c : mdCode q_Mo_heads := gwI 1079 (by decide +kernel)
theorem q_Mo_more_c : mdCode q_Mo_more := gwI 1082 (by decide +kernel)
theorem q_Mo_step_c : mdCode q_Mo_step := gwI 1086 (by decide +kernel)
theorem q_Mo_goes_c : mdCode q_Mo_goes := gwI 1090 (by decide +kernel)
theorem q_Mo_starts_c : mdCode q_Mo_starts := gwI 1094 (by decide +kernel)
theorem q_Mo_activeAt_c : mdCode q_Mo_activeAt := gwI 1098 (by decide +kernel)
theorem q_Mo_isPartner_c : mdCode q_Mo_isPartner := gwI 1102 (by decide +kernel)
theorem q_Mo_arePartners_c : mdCode q_Mo_arePartners := gwI 1106 (by decide +kernel)
theorem q_Mo_isKeyed_c : mdCode q_Mo_isKeyed := gwI 1110 (by decide +kernel)
theorem q_Mo_kindBetween_c : mdCode q_Mo_kindBetween := gwI 1114 (by decide +kernel)
theorem q_Mo_kindOf_c : mdCode q_Mo_kindOf := gwI 1117 (by decide +kernel)
theorem q_Mo_has_c : mdCode q_Mo_has := gwI 1120 (by decide +kernel)
theorem q_Mo_ends_c : mdCode q_Mo_ends := gwI 1124 (by decide +kernel)
theorem q_Mo_leave_c : mdCode q_Mo_leave := gwI 1128 (by decide +kernel)
theorem q_Mo_active_c : mdCode q_Mo_active := gwI 1132 (by decide +kernel)
theorem q_Mo_pair_c : mdCode q_Mo_pair := gwI 1136 (by decide +kernel)
theorem q_Mo_sharedFrom_c : mdCode q_Mo_sharedFrom := gwI 1140 (by decide +kernel)
theorem q_Mo_time_c : mdCode q_Mo_time := gwI 1143 (by decide +kernel)
theorem q_Mo_sharedTo_c : mdCode q_Mo_sharedTo := gwI 1147 (by decide +kernel)
theorem q_Mo_less_c : mdCode q_Mo_less := gwI 1150 (by decide +kernel)
theorem q_Mo_sharedLong_c : mdCode q_Mo_sharedLong := gwI 1154 (by decide +kernel)
theorem q_Mo_swept_c : mdCode q_Mo_swept := gwI 1158 (by decide +kernel)
theorem q_Mo_kinds_c : mdCode q_Mo_kinds := gwI 1162 (by decide +kernel)
theorem q_Mo_shared_c : mdCode q_Mo_shared := gwI 1166 (by decide +kernel)
theorem q_Mo_weight_c : mdCode q_Mo_weight := gwI 1171 (by decide +kernel)
theorem q_Mo_longOf_c : mdCode q_Mo_longOf := gwI 1175 (by decide +kernel)
theorem q_Mo_row_c : mdCode q_Mo_row := gwI 1179 (by decide +kernel)
theorem q_Mo_isRow_c : mdCode q_Mo_isRow := gwI 1183 (by decide +kernel)
theorem q_Mo_partners_c : mdCode q_Mo_partners := gwI 1187 (by decide +kernel)
theorem q_Mo_depth_c : mdCode q_Mo_depth := gwI 1191 (by decide +kernel)
theorem q_Mo_partnersAt_c : mdCode q_Mo_partnersAt := gwI 1195 (by decide +kernel)
theorem q_Mo_covers_c : mdCode q_Mo_covers := gwI 1199 (by decide +kernel)
theorem q_Mo_longest_c : mdCode q_Mo_longest := gwI 1203 (by decide +kernel)
theorem q_Mo_nextStart_c : mdCode q_Mo_nextStart := gwI 1207 (by decide +kernel)
theorem q_Mo_adds_c : mdCode q_Mo_adds := gwI 1211 (by decide +kernel)
theorem q_Mo_leftOver_c : mdCode q_Mo_leftOver := gwI 1215 (by decide +kernel)
theorem q_Mo_coveredLong_c : mdCode q_Mo_coveredLong := gwI 1219 (by decide +kernel)
theorem q_Mo_kind_c : mdCode q_Mo_kind := gwI 1223 (by decide +kernel)
theorem q_Mo_piece_c : mdCode q_Mo_piece := gwI 1227 (by decide +kernel)
theorem q_Mo_left_c : mdCode q_Mo_left := gwI 1231 (by decide +kernel)
theorem q_Mo_live_c : mdCode q_Mo_live := gwI 1235 (by decide +kernel)
theorem q_Mo_liveAt_c : mdCode q_Mo_liveAt := gwI 1239 (by decide +kernel)
theorem q_Mo_isLive_c : mdCode q_Mo_isLive := gwI 1243 (by decide +kernel)
theorem q_Mo_crowd_c : mdCode q_Mo_crowd := gwI 1247 (by decide +kernel)
theorem q_Mo_one_c : mdCode q_Mo_one := gwI 1251 (by decide +kernel)
theorem q_Mo_makesOne_c : mdCode q_Mo_makesOne := gwI 1255 (by decide +kernel)
theorem q_Mo_isOne_c : mdCode q_Mo_isOne := gwI 1259 (by decide +kernel)
theorem q_Mo_ones_c : mdCode q_Mo_ones := gwI 1263 (by decide +kernel)
theorem q_Mo_comesAhead_c : mdCode q_Mo_comesAhead := gwI 1267 (by decide +kernel)
theorem q_Mo_least_c : mdCode q_Mo_least := gwI 1271 (by decide +kernel)
theorem q_Mo_greatest_c : mdCode q_Mo_greatest := gwI 1275 (by decide +kernel)
theorem q_Mo_steps_c : mdCode q_Mo_steps := gwI 1279 (by decide +kernel)
theorem q_Mo_cuts_c : mdCode q_Mo_cuts := gwI 1283 (by decide +kernel)
theorem q_Mo_valuesAt_c : mdCode q_Mo_valuesAt := gwI 1287 (by decide +kernel)
theorem q_Mo_split_c : mdCode q_Mo_split := gwI 1291 (by decide +kernel)
theorem q_Mo_latest_c : mdCode q_Mo_latest := gwI 1295 (by decide +kernel)
theorem q_Mo_matched_c : mdCode q_Mo_matched := gwI 1299 (by decide +kernel)
theorem q_Mo_lane_c : mdCode q_Mo_lane := gwI 1303 (by decide +kernel)
theorem q_Mo_nextToLane_c : mdCode q_Mo_nextToLane := gwI 1307 (by decide +kernel)
theorem q_Mo_isLaned_c : mdCode q_Mo_isLaned := gwI 1311 (by decide +kernel)
theorem q_Mo_doShare_c : mdCode q_Mo_doShare := gwI 1315 (by decide +kernel)
theorem q_Mo_chain_c : mdCode q_Mo_chain := gwI 1319 (by decide +kernel)
theorem q_Mo_converse_c : mdCode q_Mo_converse := gwI 1323 (by decide +kernel)
theorem q_Mo_isKinds_c : mdCode q_Mo_isKinds := gwI 1326 (by decide +kernel)
theorem q_Mo_converseOf_c : mdCode q_Mo_converseOf := gwI 1329 (by decide +kernel)
theorem q_Mo_compose_c : mdCode q_Mo_compose := gwI 1333 (by decide +kernel)
theorem q_Mo_composedOf_c : mdCode q_Mo_composedOf := gwI 1337 (by decide +kernel)
theorem q_Mo_composes_c : mdCode q_Mo_composes := gwI 1341 (by decide +kernel)
theorem q_Mo_composesWith_c : mdCode q_Mo_composesWith := gwI 1345 (by decide +kernel)
theorem q_Mo_net_c : mdCode q_Mo_net := gwI 1349 (by decide +kernel)
theorem q_Mo_isName_c : mdCode q_Mo_isName := gwI 1352 (by decide +kernel)
theorem q_Mo_ties_c : mdCode q_Mo_ties := gwI 1356 (by decide +kernel)
theorem q_Mo_between_c : mdCode q_Mo_between := gwI 1360 (by decide +kernel)
theorem q_Mo_tightens_c : mdCode q_Mo_tightens := gwI 1364 (by decide +kernel)
theorem q_Mo_isTighter_c : mdCode q_Mo_isTighter := gwI 1368 (by decide +kernel)
theorem q_Mo_sound_c : mdCode q_Mo_sound := gwI 1372 (by decide +kernel)
theorem q_Mo_lay_c : mdCode q_Mo_lay := gwI 1376 (by decide +kernel)
theorem q_Mo_image_c : mdCode q_Mo_image := gwI 1380 (by decide +kernel)
theorem q_Mo_look_c : mdCode q_Mo_look := gwI 1384 (by decide +kernel)
theorem q_Mo_mostPartners_c : mdCode q_Mo_mostPartners := gwI 1388 (by decide +kernel)
theorem q_Mo_runs_c : mdCode q_Mo_runs := gwI 1392 (by decide +kernel)
def KTL : List (Nat × Nat × Int32) := [(4, 49, -1000000), (4, 50, 1000000), (8, 123, -10000000), (1, 111, 2000000), (3, 22, -10000000), (8, 267, -1000000), (8, 268, 1000000), (8, 285, 2000000), (8, 339, -2000000), (9, 79, -10000000), (9, 92, -1000000), (9, 93, 1000000)]
theorem KTL_ok : ∀ q ∈ KTL, Cond.constant (nmC q.1) q.2.1 q.2.2 ∈ GW := List.forall_mem_cons.mpr ⟨gwI 400 (by decide +kernel), List.forall_mem_cons.mpr ⟨gwI 401 (by decide +kernel), List.forall_mem_cons.mpr ⟨gwI 418 (by decide +kernel), List.forall_mem_cons.mpr ⟨gwI 447 (by decide +kernel), List.forall_mem_cons.mpr ⟨gwI 634 (by decide +kernel), List.forall_mem_cons.mpr ⟨gwI 714 (by decide +kernel), List.forall_mem_cons.mpr ⟨gwI 715 (by decide +kernel), List.forall_mem_cons.mpr ⟨gwI 745 (by decide +kernel), List.forall_mem_cons.mpr ⟨gwI 804 (by decide +kernel), List.forall_mem_cons.mpr ⟨gwI 971 (by decide +kernel), List.forall_mem_cons.mpr ⟨gwI 1013 (by decide +kernel), List.forall_mem_cons.mpr ⟨gwI 1014 (by decide +kernel), (fun _ h => absurd h List.not_mem_nil)⟩⟩⟩⟩⟩⟩⟩⟩⟩⟩⟩⟩
def LTL : List (Nat × Nat × Int64) := [(8, 238, -1), (8, 283, -2147483648), (8, 297, 63), (9, 176, -1)]
theorem LTL_ok : ∀ q ∈ LTL, Cond.constantLong (nmC q.1) q.2.1 q.2.2 ∈ GW := List.forall_mem_cons.mpr ⟨gwI 686 (by decide +kernel), List.forall_mem_cons.mpr ⟨gwI 744 (by decide +kernel), List.forall_mem_cons.mpr ⟨gwI 749 (by decide +kernel), List.forall_mem_cons.mpr ⟨gwI 1167 (by decide +kernel), (fun _ h => absurd h List.not_mem_nil)⟩⟩⟩⟩
def FTL : List (Nat × Nat × Nat) := [(4, 9, 400), (8, 99, 400), (1, 137, 400), (4, 15, 401), (8, 102, 401), (4, 18, 402), (8, 105, 402), (4, 21, 403), (8, 108, 403), (4, 24, 404), (8, 119, 404), (4, 27, 405), (2, 46, 405), (1, 76, 405), (8, 88, 405), (5, 95, 405), (6, 9, 600), (8, 124, 600), (6, 15, 601), (8, 127, 601), (6, 18, 602), (8, 122, 602), (1, 9, 100), (1, 33, 101), (8, 134, 101), (8, 68, 102), (1, 37, 102), (8, 62, 103), (1, 40, 103), (1, 15, 104), (8, 144, 104), (1, 18, 105), (8, 141, 105), (1, 21, 106), (1, 24, 107), (8, 150, 107), (1, 44, 108), (8, 147, 108), (1, 47, 109), (8, 177, 109), (1, 50, 110), (8, 180, 110), (1, 53, 111), (8, 183, 111), (1, 56, 112), (8, 186, 112), (7, 9, 700), (8, 362, 700), (7, 15, 701), (8, 367, 701), (7, 27, 702), (5, 12, 500), (8, 243, 500), (5, 18, 501), (8, 246, 501), (5, 21, 502), (8, 78, 502), (5, 27, 503), (8, 41, 503), (5, 34, 504), (8, 58, 504), (5, 41, 505), (8, 352, 505), (5, 45, 506), (8, 72, 506), (5, 49, 507), (8, 75, 507), (0, 9, 0), (0, 15, 1), (1, 96, 1), (2, 94, 1), (8, 293, 1), (3, 11, 300), (3, 15, 301), (3, 18, 302), (8, 211, 302), (2, 9, 200), (2, 15, 201), (2, 18, 202), (2, 43, 203), (8, 203, 203), (2, 33, 204), (2, 40, 205), (8, 12, 800), (8, 377, 801), (8, 19, 802), (8, 26, 803), (8, 33, 804), (8, 37, 805), (9, 9, 900), (9, 13, 901), (9, 289, 902), (9, 16, 903), (9, 19, 904), (9, 22, 905), (9, 181, 906), (9, 25, 907), (9, 28, 908), (9, 240, 909), (9, 31, 910), (9, 34, 911), (9, 257, 912), (9, 37, 913)]
def FTok (q : Nat × Nat × Nat) : Prop := Cond.fieldLink (nmC q.1) q.2.1 (fT (q.2.2 / 100) (q.2.2 % 100)).1 (fT (q.2.2 / 100) (q.2.2 % 100)).2.1 (fT (q.2.2 / 100) (q.2.2 % 100)).2.2.1 ∈ GW
theorem FTL_0 : ∀ q ∈ [(4, 9, 400), (8, 99, 400), (1, 137, 400), (4, 15, 401), (8, 102, 401), (4, 18, 402), (8, 105, 402), (4, 21, 403), (8, 108, 403), (4, 24, 404), (8, 119, 404), (4, 27, 405), (2, 46, 405), (1, 76, 405), (8, 88, 405), (5, 95, 405), (6, 9, 600), (8, 124, 600), (6, 15, 601), (8, 127, 601)], FTok q := List.forall_mem_cons.mpr ⟨gwI 112 (by decide +kernel), List.forall_mem_cons.mpr ⟨gwI 113 (by decide +kernel), List.forall_mem_cons.mpr ⟨gwI 114 (by decide +kernel), List.forall_mem_cons.mpr ⟨gwI 115 (by decide +kernel), List.forall_mem_cons.mpr ⟨gwI 116 (by decide +kernel), List.forall_mem_cons.mpr ⟨gwI 117 (by decide +kernel), List.forall_mem_cons.mpr ⟨gwI 118 (by decide +kernel), List.forall_mem_cons.mpr ⟨gwI 119 (by decide +kernel), List.forall_mem_cons.mpr ⟨gwI 120 (by decide +kernel), List.forall_mem_cons.mpr ⟨gwI 121 (by decide +kernel), List.forall_mem_cons.mpr ⟨gwI 122 (by decide +kernel), List.forall_mem_cons.mpr ⟨gwI 123 (by decide +kernel), List.forall_mem_cons.mpr ⟨gwI 124 (by decide +kernel), List.forall_mem_cons.mpr ⟨gwI 125 (by decide +kernel), List.forall_mem_cons.mpr ⟨gwI 126 (by decide +kernel), List.forall_mem_cons.mpr ⟨gwI 127 (by decide +kernel), List.forall_mem_cons.mpr ⟨gwI 148 (by decide +kernel), List.forall_mem_cons.mpr ⟨gwI 149 (by decide +kernel), List.forall_mem_cons.mpr ⟨gwI 150 (by decide +kernel), List.forall_mem_cons.mpr ⟨gwI 151 (by decide +kernel), (fun _ h => absurd h List.not_mem_nil)⟩⟩⟩⟩⟩⟩⟩⟩⟩⟩⟩⟩⟩⟩⟩⟩⟩⟩⟩⟩
theorem FTL_1 : ∀ q ∈ [(6, 18, 602), (8, 122, 602), (1, 9, 100), (1, 33, 101), (8, 134, 101), (8, 68, 102), (1, 37, 102), (8, 62, 103), (1, 40, 103), (1, 15, 104), (8, 144, 104), (1, 18, 105), (8, 141, 105), (1, 21, 106), (1, 24, 107), (8, 150, 107), (1, 44, 108), (8, 147, 108), (1, 47, 109), (8, 177, 109)], FTok q := List.forall_mem_cons.mpr ⟨gwI 152 (by decide +kernel), List.forall_mem_cons.mpr ⟨gwI 153 (by decide +kernel), List.forall_mem_cons.mpr ⟨gwI 167 (by decide +kernel), List.forall_mem_cons.mpr ⟨gwI 168 (by decide +kernel), List.forall_mem_cons.mpr ⟨gwI 169 (by decide +kernel), List.forall_mem_cons.mpr ⟨gwI 170 (by decide +kernel), List.forall_mem_cons.mpr ⟨gwI 171 (by decide +kernel), List.forall_mem_cons.mpr ⟨gwI 172 (by decide +kernel), List.forall_mem_cons.mpr ⟨gwI 173 (by decide +kernel), List.forall_mem_cons.mpr ⟨gwI 174 (by decide +kernel), List.forall_mem_cons.mpr ⟨gwI 175 (by decide +kernel), List.forall_mem_cons.mpr ⟨gwI 176 (by decide +kernel), List.forall_mem_cons.mpr ⟨gwI 177 (by decide +kernel), List.forall_mem_cons.mpr ⟨gwI 178 (by decide +kernel), List.forall_mem_cons.mpr ⟨gwI 179 (by decide +kernel), List.forall_mem_cons.mpr ⟨gwI 180 (by decide +kernel), List.forall_mem_cons.mpr ⟨gwI 181 (by decide +kernel), List.forall_mem_cons.mpr ⟨gwI 182 (by decide +kernel), List.forall_mem_cons.mpr ⟨gwI 183 (by decide +kernel), List.forall_mem_cons.mpr ⟨gwI 184 (by decide +kernel), (fun _ h => absurd h List.not_mem_nil)⟩⟩⟩⟩⟩⟩⟩⟩⟩⟩⟩⟩⟩⟩⟩⟩⟩⟩⟩⟩
theorem FTL_2 : ∀ q ∈ [(1, 50, 110), (8, 180, 110), (1, 53, 111), (8, 183, 111), (1, 56, 112), (8, 186, 112), (7, 9, 700), (8, 362, 700), (7, 15, 701), (8, 367, 701), (7, 27, 702), (5, 12, 500), (8, 243, 500), (5, 18, 501), (8, 246, 501), (5, 21, 502), (8, 78, 502), (5, 27, 503), (8, 41, 503), (5, 34, 504)], FTok q := List.forall_mem_cons.mpr ⟨gwI 185 (by decide +kernel), List.forall_mem_cons.mpr ⟨gwI 186 (by decide +kernel), List.forall_mem_cons.mpr ⟨gwI 187 (by decide +kernel), List.forall_mem_cons.mpr ⟨gwI 188 (by decide +kernel), List.forall_mem_cons.mpr ⟨gwI 189 (by decide +kernel), List.forall_mem_cons.mpr ⟨gwI 190 (by decide +kernel), List.forall_mem_cons.mpr ⟨gwI 228 (by decide +kernel), List.forall_mem_cons.mpr ⟨gwI 229 (by decide +kernel), List.forall_mem_cons.mpr ⟨gwI 230 (by decide +kernel), List.forall_mem_cons.mpr ⟨gwI 231 (by decide +kernel), List.forall_mem_cons.mpr ⟨gwI 232 (by decide +kernel), List.forall_mem_cons.mpr ⟨gwI 240 (by decide +kernel), List.forall_mem_cons.mpr ⟨gwI 241 (by decide +kernel), List.forall_mem_cons.mpr ⟨gwI 242 (by decide +kernel), List.forall_mem_cons.mpr ⟨gwI 243 (by decide +kernel), List.forall_mem_cons.mpr ⟨gwI 244 (by decide +kernel), List.forall_mem_cons.mpr ⟨gwI 245 (by decide +kernel), List.forall_mem_cons.mpr ⟨gwI 246 (by decide +kernel), List.forall_mem_cons.mpr ⟨gwI 247 (by decide +kernel), List.forall_mem_cons.mpr ⟨gwI 248 (by decide +kernel), (fun _ h => absurd h List.not_mem_nil)⟩⟩⟩⟩⟩⟩⟩⟩⟩⟩⟩⟩⟩⟩⟩⟩⟩⟩⟩⟩
theorem FTL_3 : ∀ q ∈ [(8, 58, 504), (5, 41, 505), (8, 352, 505), (5, 45, 506), (8, 72, 506), (5, 49, 507), (8, 75, 507), (0, 9, 0), (0, 15, 1), (1, 96, 1), (2, 94, 1), (8, 293, 1), (3, 11, 300), (3, 15, 301), (3, 18, 302), (8, 211, 302), (2, 9, 200), (2, 15, 201), (2, 18, 202), (2, 43, 203)], FTok q := List.forall_mem_cons.mpr ⟨gwI 249 (by decide +kernel), List.forall_mem_cons.mpr ⟨gwI 250 (by decide +kernel), List.forall_mem_cons.mpr ⟨gwI 251 (by decide +kernel), List.forall_mem_cons.mpr ⟨gwI 252 (by decide +kernel), List.forall_mem_cons.mpr ⟨gwI 253 (by decide +kernel), List.forall_mem_cons.mpr ⟨gwI 254 (by decide +kernel), List.forall_mem_cons.mpr ⟨gwI 255 (by decide +kernel), List.forall_mem_cons.mpr ⟨gwI 279 (by decide +kernel), List.forall_mem_cons.mpr ⟨gwI 280 (by decide +kernel), List.forall_mem_cons.mpr ⟨gwI 281 (by decide +kernel), List.forall_mem_cons.mpr ⟨gwI 282 (by decide +kernel), List.forall_mem_cons.mpr ⟨gwI 283 (by decide +kernel), List.forall_mem_cons.mpr ⟨gwI 296 (by decide +kernel), List.forall_mem_cons.mpr ⟨gwI 297 (by decide +kernel), List.forall_mem_cons.mpr ⟨gwI 298 (by decide +kernel), List.forall_mem_cons.mpr ⟨gwI 299 (by decide +kernel), List.forall_mem_cons.mpr ⟨gwI 313 (by decide +kernel), List.forall_mem_cons.mpr ⟨gwI 314 (by decide +kernel), List.forall_mem_cons.mpr ⟨gwI 315 (by decide +kernel), List.forall_mem_cons.mpr ⟨gwI 316 (by decide +kernel), (fun _ h => absurd h List.not_mem_nil)⟩⟩⟩⟩⟩⟩⟩⟩⟩⟩⟩⟩⟩⟩⟩⟩⟩⟩⟩⟩
theorem FTL_4 : ∀ q ∈ [(8, 203, 203), (2, 33, 204), (2, 40, 205), (8, 12, 800), (8, 377, 801), (8, 19, 802), (8, 26, 803), (8, 33, 804), (8, 37, 805), (9, 9, 900), (9, 13, 901), (9, 289, 902), (9, 16, 903), (9, 19, 904), (9, 22, 905), (9, 181, 906), (9, 25, 907), (9, 28, 908), (9, 240, 909), (9, 31, 910)], FTok q := List.forall_mem_cons.mpr ⟨gwI 317 (by decide +kernel), List.forall_mem_cons.mpr ⟨gwI 318 (by decide +kernel), List.forall_mem_cons.mpr ⟨gwI 319 (by decide +kernel), List.forall_mem_cons.mpr ⟨gwI 333 (by decide +kernel), List.forall_mem_cons.mpr ⟨gwI 334 (by decide +kernel), List.forall_mem_cons.mpr ⟨gwI 335 (by decide +kernel), List.forall_mem_cons.mpr ⟨gwI 336 (by decide +kernel), List.forall_mem_cons.mpr ⟨gwI 337 (by decide +kernel), List.forall_mem_cons.mpr ⟨gwI 338 (by decide +kernel), List.forall_mem_cons.mpr ⟨gwI 921 (by decide +kernel), List.forall_mem_cons.mpr ⟨gwI 922 (by decide +kernel), List.forall_mem_cons.mpr ⟨gwI 923 (by decide +kernel), List.forall_mem_cons.mpr ⟨gwI 924 (by decide +kernel), List.forall_mem_cons.mpr ⟨gwI 925 (by decide +kernel), List.forall_mem_cons.mpr ⟨gwI 926 (by decide +kernel), List.forall_mem_cons.mpr ⟨gwI 927 (by decide +kernel), List.forall_mem_cons.mpr ⟨gwI 928 (by decide +kernel), List.forall_mem_cons.mpr ⟨gwI 929 (by decide +kernel), List.forall_mem_cons.mpr ⟨gwI 930 (by decide +kernel), List.forall_mem_cons.mpr ⟨gwI 931 (by decide +kernel), (fun _ h => absurd h List.not_mem_nil)⟩⟩⟩⟩⟩⟩⟩⟩⟩⟩⟩⟩⟩⟩⟩⟩⟩⟩⟩⟩
theorem FTL_5 : ∀ q ∈ [(9, 34, 911), (9, 257, 912), (9, 37, 913)], FTok q := List.forall_mem_cons.mpr ⟨gwI 932 (by decide +kernel), List.forall_mem_cons.mpr ⟨gwI 933 (by decide +kernel), List.forall_mem_cons.mpr ⟨gwI 934 (by decide +kernel), (fun _ h => absurd h List.not_mem_nil)⟩⟩⟩
theorem FTL_all : FTL = ([(4, 9, 400), (8, 99, 400), (1, 137, 400), (4, 15, 401), (8, 102, 401), (4, 18, 402), (8, 105, 402), (4, 21, 403), (8, 108, 403), (4, 24, 404), (8, 119, 404), (4, 27, 405), (2, 46, 405), (1, 76, 405), (8, 88, 405), (5, 95, 405), (6, 9, 600), (8, 124, 600), (6, 15, 601), (8, 127, 601)] : List (Nat × Nat × Nat)) ++ ([(6, 18, 602), (8, 122, 602), (1, 9, 100), (1, 33, 101), (8, 134, 101), (8, 68, 102), (1, 37, 102), (8, 62, 103), (1, 40, 103), (1, 15, 104), (8, 144, 104), (1, 18, 105), (8, 141, 105), (1, 21, 106), (1, 24, 107), (8, 150, 107), (1, 44, 108), (8, 147, 108), (1, 47, 109), (8, 177, 109)] : List (Nat × Nat × Nat)) ++ ([(1, 50, 110), (8, 180, 110), (1, 53, 111), (8, 183, 111), (1, 56, 112), (8, 186, 112), (7, 9, 700), (8, 362, 700), (7, 15, 701), (8, 367, 701), (7, 27, 702), (5, 12, 500), (8, 243, 500), (5, 18, 501), (8, 246, 501), (5, 21, 502), (8, 78, 502), (5, 27, 503), (8, 41, 503), (5, 34, 504)] : List (Nat × Nat × Nat)) ++ ([(8, 58, 504), (5, 41, 505), (8, 352, 505), (5, 45, 506), (8, 72, 506), (5, 49, 507), (8, 75, 507), (0, 9, 0), (0, 15, 1), (1, 96, 1), (2, 94, 1), (8, 293, 1), (3, 11, 300), (3, 15, 301), (3, 18, 302), (8, 211, 302), (2, 9, 200), (2, 15, 201), (2, 18, 202), (2, 43, 203)] : List (Nat × Nat × Nat)) ++ ([(8, 203, 203), (2, 33, 204), (2, 40, 205), (8, 12, 800), (8, 377, 801), (8, 19, 802), (8, 26, 803), (8, 33, 804), (8, 37, 805), (9, 9, 900), (9, 13, 901), (9, 289, 902), (9, 16, 903), (9, 19, 904), (9, 22, 905), (9, 181, 906), (9, 25, 907), (9, 28, 908), (9, 240, 909), (9, 31, 910)] : List (Nat × Nat × Nat)) ++ ([(9, 34, 911), (9, 257, 912), (9, 37, 913)] : List (Nat × Nat × Nat)) := rfl
theorem FTL_ok : ∀ q ∈ FTL, FTok q := by
  intro q h
  rw [FTL_all] at h
  simp only [List.mem_append] at h
  rcases h with (((((h | h) | h) | h) | h) | h)
  · exact FTL_0 q h
  · exact FTL_1 q h
  · exact FTL_2 q h
  · exact FTL_3 q h
  · exact FTL_4 q h
  · exact FTL_5 q h
theorem uX0 : ∀ w ∈ u_ws RX0 TX0 2, w ∈ GW := by decide +kernel
theorem uX1 : ∀ w ∈ u_ws RX1 TX1 13, w ∈ GW := by decide +kernel
theorem uX2 : ∀ w ∈ u_ws RX2 TX2 6, w ∈ GW := by decide +kernel
theorem uX3 : ∀ w ∈ u_ws RX3 TX3 3, w ∈ GW := by decide +kernel
theorem uX4 : ∀ w ∈ u_ws RX4 TX4 6, w ∈ GW := by decide +kernel
theorem uX5 : ∀ w ∈ u_ws RX5 TX5 8, w ∈ GW := by decide +kernel
theorem uX6 : ∀ w ∈ u_ws RX6 TX6 3, w ∈ GW := by decide +kernel
theorem uX7 : ∀ w ∈ u_ws RX7 TX7 3, w ∈ GW := by decide +kernel
theorem uX8 : ∀ w ∈ u_ws RX8 TX8 6, w ∈ GW := by decide +kernel
theorem uX9 : ∀ w ∈ u_ws RX9 TX9 14, w ∈ GW := by decide +kernel
def LkV (o idx : Nat) (q : MI) (n : Nat) : Prop := (Cond.methodLink (nmC o) idx q.1 ∈ GW ∧ Cond.instanceMethod q.1 ∈ GW ∧ Cond.selects (nmC q.2.2.2.2) q.1 q.1 ∈ GW ∧ Cond.initialized (nmC q.2.2.2.2) ∈ GW ∧ mdCode q) ∧ q.1.cls = nmC q.2.2.2.2 ∧ q.1.cls ≠ "java/lang/invoke/MethodHandle" ∧ q.1.cls ≠ "java/lang/invoke/VarHandle" ∧ (parseMethodDescriptor q.1.desc).map (fun d => d.parameters.length) = some n
def LkS (o idx : Nat) (q : MI) (n : Nat) : Prop := (Cond.methodLink (nmC o) idx q.1 ∈ GW ∧ Cond.static q.1 ∈ GW ∧ Cond.initialized (nmC q.2.2.2.2) ∈ GW ∧ mdCode q) ∧ q.1.cls = nmC q.2.2.2.2 ∧ q.1.cls ≠ "java/lang/invoke/MethodHandle" ∧ q.1.cls ≠ "java/lang/invoke/VarHandle" ∧ (parseMethodDescriptor q.1.desc).map (fun d => d.parameters.length) = some n
def NWL : List (String × Nat × MethodName × String) := [("TimedJoin", 11, ⟨"TimedJoin$State", "<init>", "()V"⟩, "TimedJoin"), ("TimedJoin$State", 11, ⟨"TimedJoin$Rows", "<init>", "()V"⟩, "TimedJoin"), ("TimedJoin$State", 26, ⟨"TimedJoin$Trouble", "<init>", "()V"⟩, "TimedJoin"), ("TimedJoin$State", 33, ⟨"TimedJoin$Course", "<init>", "()V"⟩, "TimedJoin"), ("TimedJoin", 18, ⟨"TimedJoin$Codes", "<init>", "()V"⟩, "TimedJoin"), ("TimedJoin", 25, ⟨"TimedJoin$Parts", "<init>", "()V"⟩, "TimedJoin"), ("TimedJoin", 32, ⟨"TimedJoin$Mates", "<init>", "()V"⟩, "TimedJoin"), ("TimedJoin$Rows", 37, ⟨"TimedJoin", "isKey", "(I)Z"⟩, "TimedJoin"), ("TimedJoin$State", 77, ⟨"TimedJoin", "kindByPlaces", "(IIII)I"⟩, "TimedJoin"), ("TimedJoin$State", 91, ⟨"TimedJoin", "holds", "(II)Z"⟩, "TimedJoin"), ("TimedJoin$State", 113, ⟨"TimedJoin", "timeOf", "(I)I"⟩, "TimedJoin"), ("TimedJoin$Mates", 74, ⟨"TimedJoin", "timeOf", "(I)I"⟩, "TimedJoin"), ("TimedJoin$Parts", 32, ⟨"TimedJoin", "timeOf", "(I)I"⟩, "TimedJoin"), ("TimedJoin$Web", 31, ⟨"TimedJoin", "isName", "(I)Z"⟩, "TimedJoin"), ("TimedJoin$Web", 35, ⟨"TimedJoin", "turned", "(I)I"⟩, "TimedJoin"), ("TimedJoin$Web", 43, ⟨"TimedJoin", "composed", "(II)I"⟩, "TimedJoin")]
def NW (U : State) : Prop := ∀ q ∈ NWL, va_Nw (.methodLinkNest q.1 q.2.1 q.2.2.1 q.2.2.2) U
def LkN (o idx : Nat) (q : MI) (n : Nat) : Prop := (((nmC o, idx, q.1, "TimedJoin") ∈ NWL) ∧ Cond.static q.1 ∈ GW ∧ Cond.initialized (nmC q.2.2.2.2) ∈ GW ∧ mdCode q) ∧ q.1.cls = nmC q.2.2.2.2 ∧ q.1.cls ≠ "java/lang/invoke/MethodHandle" ∧ q.1.cls ≠ "java/lang/invoke/VarHandle" ∧ (parseMethodDescriptor q.1.desc).map (fun d => d.parameters.length) = some n
end
section
theorem lk_7_18 : LkV 7 18 q_We_loosen 0 := ⟨⟨gwI 224 (by decide +kernel), gwI 225 (by decide +kernel), gwI 226 (by decide +kernel), gwI 85 (by decide +kernel), q_We_loosen_c⟩, ⟨rfl, by decide +kernel, by decide +kernel, by decide +kernel⟩⟩
theorem lk_8_45 : LkV 8 45 q_Tr_forget 0 := ⟨⟨gwI 356 (by decide +kernel), gwI 357 (by decide +kernel), gwI 358 (by decide +kernel), gwI 83 (by decide +kernel), q_Tr_forget_c⟩, ⟨rfl, by decide +kernel, by decide +kernel, by decide +kernel⟩⟩
theorem lk_8_50 : LkS 8 50 q_TJ_canBeSet 2 := ⟨⟨gwI 360 (by decide +kernel), gwI 361 (by decide +kernel), gwI 80 (by decide +kernel), q_TJ_canBeSet_c⟩, ⟨rfl, by decide +kernel, by decide +kernel, by decide +kernel⟩⟩
theorem lk_8_54 : LkV 8 54 q_Tr_because 2 := ⟨⟨gwI 363 (by decide +kernel), gwI 364 (by decide +kernel), gwI 365 (by decide +kernel), gwI 83 (by decide +kernel), q_Tr_because_c⟩, ⟨rfl, by decide +kernel, by decide +kernel, by decide +kernel⟩⟩
theorem lk_8_82 : LkV 8 82 q_Ro_append 5 := ⟨⟨gwI 371 (by decide +kernel), gwI 372 (by decide +kernel), gwI 373 (by decide +kernel), gwI 82 (by decide +kernel), q_Ro_append_c⟩, ⟨rfl, by decide +kernel, by decide +kernel, by decide +kernel⟩⟩
theorem lk_8_91 : LkS 8 91 q_TJ_isSide 1 := ⟨⟨gwI 383 (by decide +kernel), gwI 384 (by decide +kernel), gwI 80 (by decide +kernel), q_TJ_isSide_c⟩, ⟨rfl, by decide +kernel, by decide +kernel, by decide +kernel⟩⟩
theorem lk_8_95 : LkV 8 95 q_St_rowsOf 1 := ⟨⟨gwI 386 (by decide +kernel), gwI 387 (by decide +kernel), gwI 388 (by decide +kernel), gwI 81 (by decide +kernel), q_St_rowsOf_c⟩, ⟨rfl, by decide +kernel, by decide +kernel, by decide +kernel⟩⟩
theorem lk_8_111 : LkV 8 111 q_Ro_faultOf 4 := ⟨⟨gwI 390 (by decide +kernel), gwI 391 (by decide +kernel), gwI 392 (by decide +kernel), gwI 82 (by decide +kernel), q_Ro_faultOf_c⟩, ⟨rfl, by decide +kernel, by decide +kernel, by decide +kernel⟩⟩
theorem lk_4_41 : LkS 4 41 q_Ro_spanFault 2 := ⟨⟨gwI 397 (by decide +kernel), gwI 398 (by decide +kernel), gwI 82 (by decide +kernel), q_Ro_spanFault_c⟩, ⟨rfl, by decide +kernel, by decide +kernel, by decide +kernel⟩⟩
theorem lk_4_45 : LkV 4 45 q_Ro_lastStart 1 := ⟨⟨gwI 402 (by decide +kernel), gwI 403 (by decide +kernel), gwI 404 (by decide +kernel), gwI 82 (by decide +kernel), q_Ro_lastStart_c⟩, ⟨rfl, by decide +kernel, by decide +kernel, by decide +kernel⟩⟩
theorem lk_8_115 : LkV 8 115 q_Ro_measureOf 5 := ⟨⟨gwI 406 (by decide +kernel), gwI 407 (by decide +kernel), gwI 408 (by decide +kernel), gwI 82 (by decide +kernel), q_Ro_measureOf_c⟩, ⟨rfl, by decide +kernel, by decide +kernel, by decide +kernel⟩⟩
theorem lk_8_130 : LkV 8 130 q_Cu_begin 2 := ⟨⟨gwI 423 (by decide +kernel), gwI 424 (by decide +kernel), gwI 425 (by decide +kernel), gwI 84 (by decide +kernel), q_Cu_begin_c⟩, ⟨rfl, by decide +kernel, by decide +kernel, by decide +kernel⟩⟩
theorem lk_1_59 : LkV 1 59 q_Co_empty 0 := ⟨⟨gwI 427 (by decide +kernel), gwI 428 (by decide +kernel), gwI 429 (by decide +kernel), gwI 86 (by decide +kernel), q_Co_empty_c⟩, ⟨rfl, by decide +kernel, by decide +kernel, by decide +kernel⟩⟩
theorem lk_1_64 : LkV 1 64 q_St_rowsOf 1 := ⟨⟨gwI 431 (by decide +kernel), gwI 387 (by decide +kernel), gwI 388 (by decide +kernel), gwI 81 (by decide +kernel), q_St_rowsOf_c⟩, ⟨rfl, by decide +kernel, by decide +kernel, by decide +kernel⟩⟩
theorem lk_1_70 : LkV 1 70 q_Ro_countInRun 1 := ⟨⟨gwI 432 (by decide +kernel), gwI 433 (by decide +kernel), gwI 434 (by decide +kernel), gwI 82 (by decide +kernel), q_Ro_countInRun_c⟩, ⟨rfl, by decide +kernel, by decide +kernel, by decide +kernel⟩⟩
theorem lk_1_79 : LkV 1 79 q_Ro_startPlace 1 := ⟨⟨gwI 436 (by decide +kernel), gwI 437 (by decide +kernel), gwI 438 (by decide +kernel), gwI 82 (by decide +kernel), q_Ro_startPlace_c⟩, ⟨rfl, by decide +kernel, by decide +kernel, by decide +kernel⟩⟩
theorem lk_4_51 : LkV 4 51 q_Ro_has 1 := ⟨⟨gwI 440 (by decide +kernel), gwI 441 (by decide +kernel), gwI 442 (by decide +kernel), gwI 82 (by decide +kernel), q_Ro_has_c⟩, ⟨rfl, by decide +kernel, by decide +kernel, by decide +kernel⟩⟩
theorem lk_1_82 : LkS 1 82 q_Cu_eventCode 4 := ⟨⟨gwI 444 (by decide +kernel), gwI 445 (by decide +kernel), gwI 84 (by decide +kernel), q_Cu_eventCode_c⟩, ⟨rfl, by decide +kernel, by decide +kernel, by decide +kernel⟩⟩
theorem lk_1_86 : LkV 1 86 q_Co_put 1 := ⟨⟨gwI 448 (by decide +kernel), gwI 449 (by decide +kernel), gwI 450 (by decide +kernel), gwI 86 (by decide +kernel), q_Co_put_c⟩, ⟨rfl, by decide +kernel, by decide +kernel, by decide +kernel⟩⟩
theorem lk_1_90 : LkV 1 90 q_Ro_endPlace 1 := ⟨⟨gwI 452 (by decide +kernel), gwI 453 (by decide +kernel), gwI 454 (by decide +kernel), gwI 82 (by decide +kernel), q_Ro_endPlace_c⟩, ⟨rfl, by decide +kernel, by decide +kernel, by decide +kernel⟩⟩
theorem lk_1_93 : LkV 1 93 q_Co_sort 0 := ⟨⟨gwI 456 (by decide +kernel), gwI 457 (by decide +kernel), gwI 458 (by decide +kernel), gwI 86 (by decide +kernel), q_Co_sort_c⟩, ⟨rfl, by decide +kernel, by decide +kernel, by decide +kernel⟩⟩
theorem lk_1_103 : LkV 1 103 q_Co_at 1 := ⟨⟨gwI 463 (by decide +kernel), gwI 464 (by decide +kernel), gwI 465 (by decide +kernel), gwI 86 (by decide +kernel), q_Co_at_c⟩, ⟨rfl, by decide +kernel, by decide +kernel, by decide +kernel⟩⟩
theorem lk_1_107 : LkV 1 107 q_Cu_held 0 := ⟨⟨gwI 467 (by decide +kernel), gwI 468 (by decide +kernel), gwI 469 (by decide +kernel), gwI 84 (by decide +kernel), q_Cu_held_c⟩, ⟨rfl, by decide +kernel, by decide +kernel, by decide +kernel⟩⟩
theorem lk_1_123 : LkV 1 123 q_Cu_activeTogether 0 := ⟨⟨gwI 471 (by decide +kernel), gwI 473 (by decide +kernel), gwI 0 (by decide +kernel), gwI 84 (by decide +kernel), q_Cu_activeTogether_c⟩, ⟨rfl, by decide +kernel, by decide +kernel, by decide +kernel⟩⟩
theorem lk_1_140 : LkV 1 140 q_Cu_heads 0 := ⟨⟨gwI 475 (by decide +kernel), gwI 476 (by decide +kernel), gwI 477 (by decide +kernel), gwI 84 (by decide +kernel), q_Cu_heads_c⟩, ⟨rfl, by decide +kernel, by decide +kernel, by decide +kernel⟩⟩
theorem lk_8_137 : LkV 8 137 q_Cu_takeEvent 1 := ⟨⟨gwI 483 (by decide +kernel), gwI 484 (by decide +kernel), gwI 485 (by decide +kernel), gwI 84 (by decide +kernel), q_Cu_takeEvent_c⟩, ⟨rfl, by decide +kernel, by decide +kernel, by decide +kernel⟩⟩
theorem lk_1_112 : LkV 1 112 q_Cu_takeStart 3 := ⟨⟨gwI 487 (by decide +kernel), gwI 489 (by decide +kernel), gwI 1 (by decide +kernel), gwI 84 (by decide +kernel), q_Cu_takeStart_c⟩, ⟨rfl, by decide +kernel, by decide +kernel, by decide +kernel⟩⟩
theorem lk_1_126 : LkV 1 126 q_St_arePartners 3 := ⟨⟨gwI 491 (by decide +kernel), gwI 492 (by decide +kernel), gwI 493 (by decide +kernel), gwI 81 (by decide +kernel), q_St_arePartners_c⟩, ⟨rfl, by decide +kernel, by decide +kernel, by decide +kernel⟩⟩
theorem lk_5_84 : LkV 5 84 q_St_keysFit 3 := ⟨⟨gwI 495 (by decide +kernel), gwI 496 (by decide +kernel), gwI 497 (by decide +kernel), gwI 81 (by decide +kernel), q_St_keysFit_c⟩, ⟨rfl, by decide +kernel, by decide +kernel, by decide +kernel⟩⟩
theorem lk_5_66 : LkV 5 66 q_St_rowsOf 1 := ⟨⟨gwI 499 (by decide +kernel), gwI 387 (by decide +kernel), gwI 388 (by decide +kernel), gwI 81 (by decide +kernel), q_St_rowsOf_c⟩, ⟨rfl, by decide +kernel, by decide +kernel, by decide +kernel⟩⟩
theorem lk_5_81 : LkV 5 81 q_Ro_keyOf 1 := ⟨⟨gwI 500 (by decide +kernel), gwI 501 (by decide +kernel), gwI 502 (by decide +kernel), gwI 82 (by decide +kernel), q_Ro_keyOf_c⟩, ⟨rfl, by decide +kernel, by decide +kernel, by decide +kernel⟩⟩
theorem lk_5_88 : LkV 5 88 q_St_kindOf 4 := ⟨⟨gwI 504 (by decide +kernel), gwI 505 (by decide +kernel), gwI 506 (by decide +kernel), gwI 81 (by decide +kernel), q_St_kindOf_c⟩, ⟨rfl, by decide +kernel, by decide +kernel, by decide +kernel⟩⟩
theorem lk_5_70 : LkV 5 70 q_Ro_startPlace 1 := ⟨⟨gwI 508 (by decide +kernel), gwI 437 (by decide +kernel), gwI 438 (by decide +kernel), gwI 82 (by decide +kernel), q_Ro_startPlace_c⟩, ⟨rfl, by decide +kernel, by decide +kernel, by decide +kernel⟩⟩
theorem lk_5_74 : LkV 5 74 q_Ro_endPlace 1 := ⟨⟨gwI 509 (by decide +kernel), gwI 453 (by decide +kernel), gwI 454 (by decide +kernel), gwI 82 (by decide +kernel), q_Ro_endPlace_c⟩, ⟨rfl, by decide +kernel, by decide +kernel, by decide +kernel⟩⟩
theorem lk_8_392 : LkS 8 392 q_TJ_byEnds 5 := ⟨⟨gwI 513 (by decide +kernel), gwI 514 (by decide +kernel), gwI 80 (by decide +kernel), q_TJ_byEnds_c⟩, ⟨rfl, by decide +kernel, by decide +kernel, by decide +kernel⟩⟩
theorem lk_1_130 : LkV 1 130 q_Cu_putPair 2 := ⟨⟨gwI 519 (by decide +kernel), gwI 521 (by decide +kernel), gwI 2 (by decide +kernel), gwI 84 (by decide +kernel), q_Cu_putPair_c⟩, ⟨rfl, by decide +kernel, by decide +kernel, by decide +kernel⟩⟩
theorem lk_1_133 : LkV 1 133 q_Ro_has 1 := ⟨⟨gwI 523 (by decide +kernel), gwI 441 (by decide +kernel), gwI 442 (by decide +kernel), gwI 82 (by decide +kernel), q_Ro_has_c⟩, ⟨rfl, by decide +kernel, by decide +kernel, by decide +kernel⟩⟩
theorem lk_1_116 : LkV 1 116 q_Cu_takeEnd 2 := ⟨⟨gwI 524 (by decide +kernel), gwI 526 (by decide +kernel), gwI 3 (by decide +kernel), gwI 84 (by decide +kernel), q_Cu_takeEnd_c⟩, ⟨rfl, by decide +kernel, by decide +kernel, by decide +kernel⟩⟩
theorem lk_8_153 : LkV 8 153 q_St_kindOf 4 := ⟨⟨gwI 543 (by decide +kernel), gwI 505 (by decide +kernel), gwI 506 (by decide +kernel), gwI 81 (by decide +kernel), q_St_kindOf_c⟩, ⟨rfl, by decide +kernel, by decide +kernel, by decide +kernel⟩⟩
theorem lk_8_156 : LkV 8 156 q_St_sharedFrom 2 := ⟨⟨gwI 544 (by decide +kernel), gwI 545 (by decide +kernel), gwI 546 (by decide +kernel), gwI 81 (by decide +kernel), q_St_sharedFrom_c⟩, ⟨rfl, by decide +kernel, by decide +kernel, by decide +kernel⟩⟩
theorem lk_8_160 : LkS 8 160 q_TJ_timeOf 1 := ⟨⟨gwI 549 (by decide +kernel), gwI 550 (by decide +kernel), gwI 80 (by decide +kernel), q_TJ_timeOf_c⟩, ⟨rfl, by decide +kernel, by decide +kernel, by decide +kernel⟩⟩
theorem lk_8_164 : LkV 8 164 q_St_sharedTo 2 := ⟨⟨gwI 552 (by decide +kernel), gwI 553 (by decide +kernel), gwI 554 (by decide +kernel), gwI 81 (by decide +kernel), q_St_sharedTo_c⟩, ⟨rfl, by decide +kernel, by decide +kernel, by decide +kernel⟩⟩
theorem lk_8_167 : LkV 8 167 q_St_sharedLong 2 := ⟨⟨gwI 557 (by decide +kernel), gwI 558 (by decide +kernel), gwI 559 (by decide +kernel), gwI 81 (by decide +kernel), q_St_sharedLong_c⟩, ⟨rfl, by decide +kernel, by decide +kernel, by decide +kernel⟩⟩
theorem lk_5_110 : LkV 5 110 q_St_sharedTo 2 := ⟨⟨gwI 561 (by decide +kernel), gwI 553 (by decide +kernel), gwI 554 (by decide +kernel), gwI 81 (by decide +kernel), q_St_sharedTo_c⟩, ⟨rfl, by decide +kernel, by decide +kernel, by decide +kernel⟩⟩
theorem lk_5_116 : LkV 5 116 q_St_sharedFrom 2 := ⟨⟨gwI 563 (by decide +kernel), gwI 545 (by decide +kernel), gwI 546 (by decide +kernel), gwI 81 (by decide +kernel), q_St_sharedFrom_c⟩, ⟨rfl, by decide +kernel, by decide +kernel, by decide +kernel⟩⟩
theorem lk_8_170 : LkV 8 170 q_Cu_heads 0 := ⟨⟨gwI 568 (by decide +kernel), gwI 476 (by decide +kernel), gwI 477 (by decide +kernel), gwI 84 (by decide +kernel), q_Cu_heads_c⟩, ⟨rfl, by decide +kernel, by decide +kernel, by decide +kernel⟩⟩
theorem lk_8_174 : LkV 8 174 q_Cu_held 0 := ⟨⟨gwI 569 (by decide +kernel), gwI 468 (by decide +kernel), gwI 469 (by decide +kernel), gwI 84 (by decide +kernel), q_Cu_held_c⟩, ⟨rfl, by decide +kernel, by decide +kernel, by decide +kernel⟩⟩
theorem lk_8_189 : LkV 8 189 q_TJ_isRow 2 := ⟨⟨gwI 574 (by decide +kernel), gwI 576 (by decide +kernel), gwI 4 (by decide +kernel), gwI 80 (by decide +kernel), q_TJ_isRow_c⟩, ⟨rfl, by decide +kernel, by decide +kernel, by decide +kernel⟩⟩
theorem lk_8_389 : LkV 8 389 q_Ro_has 1 := ⟨⟨gwI 578 (by decide +kernel), gwI 441 (by decide +kernel), gwI 442 (by decide +kernel), gwI 82 (by decide +kernel), q_Ro_has_c⟩, ⟨rfl, by decide +kernel, by decide +kernel, by decide +kernel⟩⟩
theorem lk_8_192 : LkV 8 192 q_Ro_longOf 1 := ⟨⟨gwI 579 (by decide +kernel), gwI 580 (by decide +kernel), gwI 581 (by decide +kernel), gwI 82 (by decide +kernel), q_Ro_longOf_c⟩, ⟨rfl, by decide +kernel, by decide +kernel, by decide +kernel⟩⟩
theorem lk_8_195 : LkV 8 195 q_TJ_ofMates 3 := ⟨⟨gwI 583 (by decide +kernel), gwI 585 (by decide +kernel), gwI 5 (by decide +kernel), gwI 80 (by decide +kernel), q_TJ_ofMates_c⟩, ⟨rfl, by decide +kernel, by decide +kernel, by decide +kernel⟩⟩
theorem lk_8_199 : LkV 8 199 q_Ma_gather 3 := ⟨⟨gwI 587 (by decide +kernel), gwI 588 (by decide +kernel), gwI 589 (by decide +kernel), gwI 88 (by decide +kernel), q_Ma_gather_c⟩, ⟨rfl, by decide +kernel, by decide +kernel, by decide +kernel⟩⟩
theorem lk_2_21 : LkV 2 21 q_St_rowsOf 1 := ⟨⟨gwI 591 (by decide +kernel), gwI 387 (by decide +kernel), gwI 388 (by decide +kernel), gwI 81 (by decide +kernel), q_St_rowsOf_c⟩, ⟨rfl, by decide +kernel, by decide +kernel, by decide +kernel⟩⟩
theorem lk_2_27 : LkV 2 27 q_Ro_startPlace 1 := ⟨⟨gwI 592 (by decide +kernel), gwI 437 (by decide +kernel), gwI 438 (by decide +kernel), gwI 82 (by decide +kernel), q_Ro_startPlace_c⟩, ⟨rfl, by decide +kernel, by decide +kernel, by decide +kernel⟩⟩
theorem lk_2_37 : LkV 2 37 q_Ro_endPlace 1 := ⟨⟨gwI 593 (by decide +kernel), gwI 453 (by decide +kernel), gwI 454 (by decide +kernel), gwI 82 (by decide +kernel), q_Ro_endPlace_c⟩, ⟨rfl, by decide +kernel, by decide +kernel, by decide +kernel⟩⟩
theorem lk_2_47 : LkV 2 47 q_St_arePartners 3 := ⟨⟨gwI 594 (by decide +kernel), gwI 492 (by decide +kernel), gwI 493 (by decide +kernel), gwI 81 (by decide +kernel), q_St_arePartners_c⟩, ⟨rfl, by decide +kernel, by decide +kernel, by decide +kernel⟩⟩
theorem lk_8_204 : LkV 8 204 q_Ma_depth 0 := ⟨⟨gwI 595 (by decide +kernel), gwI 596 (by decide +kernel), gwI 597 (by decide +kernel), gwI 88 (by decide +kernel), q_Ma_depth_c⟩, ⟨rfl, by decide +kernel, by decide +kernel, by decide +kernel⟩⟩
theorem lk_2_51 : LkV 2 51 q_Ma_countAt 1 := ⟨⟨gwI 599 (by decide +kernel), gwI 601 (by decide +kernel), gwI 6 (by decide +kernel), gwI 88 (by decide +kernel), q_Ma_countAt_c⟩, ⟨rfl, by decide +kernel, by decide +kernel, by decide +kernel⟩⟩
theorem lk_8_207 : LkV 8 207 q_Ma_layCover 1 := ⟨⟨gwI 604 (by decide +kernel), gwI 605 (by decide +kernel), gwI 606 (by decide +kernel), gwI 88 (by decide +kernel), q_Ma_layCover_c⟩, ⟨rfl, by decide +kernel, by decide +kernel, by decide +kernel⟩⟩
theorem lk_2_60 : LkV 2 60 q_Pa_empty 0 := ⟨⟨gwI 608 (by decide +kernel), gwI 609 (by decide +kernel), gwI 610 (by decide +kernel), gwI 87 (by decide +kernel), q_Pa_empty_c⟩, ⟨rfl, by decide +kernel, by decide +kernel, by decide +kernel⟩⟩
theorem lk_2_65 : LkV 2 65 q_Ma_longestAt 1 := ⟨⟨gwI 612 (by decide +kernel), gwI 614 (by decide +kernel), gwI 7 (by decide +kernel), gwI 88 (by decide +kernel), q_Ma_longestAt_c⟩, ⟨rfl, by decide +kernel, by decide +kernel, by decide +kernel⟩⟩
theorem lk_2_68 : LkV 2 68 q_Ma_nextStart 1 := ⟨⟨gwI 616 (by decide +kernel), gwI 618 (by decide +kernel), gwI 8 (by decide +kernel), gwI 88 (by decide +kernel), q_Ma_nextStart_c⟩, ⟨rfl, by decide +kernel, by decide +kernel, by decide +kernel⟩⟩
theorem lk_2_77 : LkV 2 77 q_Pa_put 5 := ⟨⟨gwI 622 (by decide +kernel), gwI 623 (by decide +kernel), gwI 624 (by decide +kernel), gwI 87 (by decide +kernel), q_Pa_put_c⟩, ⟨rfl, by decide +kernel, by decide +kernel, by decide +kernel⟩⟩
theorem lk_8_212 : LkV 8 212 q_TJ_countLeftOver 0 := ⟨⟨gwI 626 (by decide +kernel), gwI 628 (by decide +kernel), gwI 9 (by decide +kernel), gwI 80 (by decide +kernel), q_TJ_countLeftOver_c⟩, ⟨rfl, by decide +kernel, by decide +kernel, by decide +kernel⟩⟩
theorem lk_8_218 : LkV 8 218 q_Pa_cell 2 := ⟨⟨gwI 630 (by decide +kernel), gwI 631 (by decide +kernel), gwI 632 (by decide +kernel), gwI 87 (by decide +kernel), q_Pa_cell_c⟩, ⟨rfl, by decide +kernel, by decide +kernel, by decide +kernel⟩⟩
theorem lk_8_215 : LkV 8 215 q_TJ_longCovered 0 := ⟨⟨gwI 635 (by decide +kernel), gwI 637 (by decide +kernel), gwI 10 (by decide +kernel), gwI 80 (by decide +kernel), q_TJ_longCovered_c⟩, ⟨rfl, by decide +kernel, by decide +kernel, by decide +kernel⟩⟩
theorem lk_8_221 : LkV 8 221 q_Pa_answer 3 := ⟨⟨gwI 647 (by decide +kernel), gwI 648 (by decide +kernel), gwI 649 (by decide +kernel), gwI 87 (by decide +kernel), q_Pa_answer_c⟩, ⟨rfl, by decide +kernel, by decide +kernel, by decide +kernel⟩⟩
theorem lk_3_23 : LkV 3 23 q_Pa_cell 2 := ⟨⟨gwI 651 (by decide +kernel), gwI 631 (by decide +kernel), gwI 632 (by decide +kernel), gwI 87 (by decide +kernel), q_Pa_cell_c⟩, ⟨rfl, by decide +kernel, by decide +kernel, by decide +kernel⟩⟩
theorem lk_8_224 : LkV 8 224 q_TJ_leftOver 3 := ⟨⟨gwI 656 (by decide +kernel), gwI 658 (by decide +kernel), gwI 11 (by decide +kernel), gwI 80 (by decide +kernel), q_TJ_leftOver_c⟩, ⟨rfl, by decide +kernel, by decide +kernel, by decide +kernel⟩⟩
theorem lk_8_227 : LkV 8 227 q_Ma_layParts 2 := ⟨⟨gwI 664 (by decide +kernel), gwI 665 (by decide +kernel), gwI 666 (by decide +kernel), gwI 88 (by decide +kernel), q_Ma_layParts_c⟩, ⟨rfl, by decide +kernel, by decide +kernel, by decide +kernel⟩⟩
theorem lk_2_81 : LkV 2 81 q_Co_empty 0 := ⟨⟨gwI 668 (by decide +kernel), gwI 428 (by decide +kernel), gwI 429 (by decide +kernel), gwI 86 (by decide +kernel), q_Co_empty_c⟩, ⟨rfl, by decide +kernel, by decide +kernel, by decide +kernel⟩⟩
theorem lk_2_84 : LkV 2 84 q_Co_put 1 := ⟨⟨gwI 669 (by decide +kernel), gwI 449 (by decide +kernel), gwI 450 (by decide +kernel), gwI 86 (by decide +kernel), q_Co_put_c⟩, ⟨rfl, by decide +kernel, by decide +kernel, by decide +kernel⟩⟩
theorem lk_2_87 : LkV 2 87 q_Ma_putInside 2 := ⟨⟨gwI 670 (by decide +kernel), gwI 672 (by decide +kernel), gwI 12 (by decide +kernel), gwI 88 (by decide +kernel), q_Ma_putInside_c⟩, ⟨rfl, by decide +kernel, by decide +kernel, by decide +kernel⟩⟩
theorem lk_2_91 : LkV 2 91 q_Co_sort 0 := ⟨⟨gwI 674 (by decide +kernel), gwI 457 (by decide +kernel), gwI 458 (by decide +kernel), gwI 86 (by decide +kernel), q_Co_sort_c⟩, ⟨rfl, by decide +kernel, by decide +kernel, by decide +kernel⟩⟩
theorem lk_2_95 : LkV 2 95 q_Co_at 1 := ⟨⟨gwI 675 (by decide +kernel), gwI 464 (by decide +kernel), gwI 465 (by decide +kernel), gwI 86 (by decide +kernel), q_Co_at_c⟩, ⟨rfl, by decide +kernel, by decide +kernel, by decide +kernel⟩⟩
theorem lk_8_231 : LkV 8 231 q_Ro_startPlace 1 := ⟨⟨gwI 680 (by decide +kernel), gwI 437 (by decide +kernel), gwI 438 (by decide +kernel), gwI 82 (by decide +kernel), q_Ro_startPlace_c⟩, ⟨rfl, by decide +kernel, by decide +kernel, by decide +kernel⟩⟩
theorem lk_8_234 : LkV 8 234 q_St_keysFit 3 := ⟨⟨gwI 681 (by decide +kernel), gwI 496 (by decide +kernel), gwI 497 (by decide +kernel), gwI 81 (by decide +kernel), q_St_keysFit_c⟩, ⟨rfl, by decide +kernel, by decide +kernel, by decide +kernel⟩⟩
theorem lk_8_240 : LkV 8 240 q_St_hasPartner 2 := ⟨⟨gwI 687 (by decide +kernel), gwI 688 (by decide +kernel), gwI 689 (by decide +kernel), gwI 81 (by decide +kernel), q_St_hasPartner_c⟩, ⟨rfl, by decide +kernel, by decide +kernel, by decide +kernel⟩⟩
theorem lk_5_98 : LkV 5 98 q_St_arePartners 3 := ⟨⟨gwI 691 (by decide +kernel), gwI 492 (by decide +kernel), gwI 493 (by decide +kernel), gwI 81 (by decide +kernel), q_St_arePartners_c⟩, ⟨rfl, by decide +kernel, by decide +kernel, by decide +kernel⟩⟩
theorem lk_8_249 : LkS 8 249 q_TJ_isKey 1 := ⟨⟨gwI 700 (by decide +kernel), gwI 395 (by decide +kernel), gwI 80 (by decide +kernel), q_TJ_isKey_c⟩, ⟨rfl, by decide +kernel, by decide +kernel, by decide +kernel⟩⟩
theorem lk_8_252 : LkV 8 252 q_TJ_sharedBy 1 := ⟨⟨gwI 701 (by decide +kernel), gwI 703 (by decide +kernel), gwI 13 (by decide +kernel), gwI 80 (by decide +kernel), q_TJ_sharedBy_c⟩, ⟨rfl, by decide +kernel, by decide +kernel, by decide +kernel⟩⟩
theorem lk_8_256 : LkV 8 256 q_St_arePartners 3 := ⟨⟨gwI 705 (by decide +kernel), gwI 492 (by decide +kernel), gwI 493 (by decide +kernel), gwI 81 (by decide +kernel), q_St_arePartners_c⟩, ⟨rfl, by decide +kernel, by decide +kernel, by decide +kernel⟩⟩
theorem lk_8_269 : LkV 8 269 q_Ro_countThere 2 := ⟨⟨gwI 716 (by decide +kernel), gwI 717 (by decide +kernel), gwI 718 (by decide +kernel), gwI 82 (by decide +kernel), q_Ro_countThere_c⟩, ⟨rfl, by decide +kernel, by decide +kernel, by decide +kernel⟩⟩
theorem lk_4_60 : LkV 4 60 q_Ro_isThere 2 := ⟨⟨gwI 720 (by decide +kernel), gwI 722 (by decide +kernel), gwI 14 (by decide +kernel), gwI 82 (by decide +kernel), q_Ro_isThere_c⟩, ⟨rfl, by decide +kernel, by decide +kernel, by decide +kernel⟩⟩
theorem lk_4_54 : LkV 4 54 q_Ro_startPlace 1 := ⟨⟨gwI 724 (by decide +kernel), gwI 437 (by decide +kernel), gwI 438 (by decide +kernel), gwI 82 (by decide +kernel), q_Ro_startPlace_c⟩, ⟨rfl, by decide +kernel, by decide +kernel, by decide +kernel⟩⟩
theorem lk_4_57 : LkV 4 57 q_Ro_endPlace 1 := ⟨⟨gwI 725 (by decide +kernel), gwI 453 (by decide +kernel), gwI 454 (by decide +kernel), gwI 82 (by decide +kernel), q_Ro_endPlace_c⟩, ⟨rfl, by decide +kernel, by decide +kernel, by decide +kernel⟩⟩
theorem lk_8_272 : LkV 8 272 q_TJ_countThere 2 := ⟨⟨gwI 730 (by decide +kernel), gwI 732 (by decide +kernel), gwI 15 (by decide +kernel), gwI 80 (by decide +kernel), q_TJ_countThere_c⟩, ⟨rfl, by decide +kernel, by decide +kernel, by decide +kernel⟩⟩
theorem lk_8_273 : LkV 8 273 q_Pa_empty 0 := ⟨⟨gwI 738 (by decide +kernel), gwI 609 (by decide +kernel), gwI 610 (by decide +kernel), gwI 87 (by decide +kernel), q_Pa_empty_c⟩, ⟨rfl, by decide +kernel, by decide +kernel, by decide +kernel⟩⟩
theorem lk_8_276 : LkV 8 276 q_TJ_makeOne 2 := ⟨⟨gwI 739 (by decide +kernel), gwI 741 (by decide +kernel), gwI 16 (by decide +kernel), gwI 80 (by decide +kernel), q_TJ_makeOne_c⟩, ⟨rfl, by decide +kernel, by decide +kernel, by decide +kernel⟩⟩
theorem lk_8_280 : LkV 8 280 q_Co_empty 0 := ⟨⟨gwI 743 (by decide +kernel), gwI 428 (by decide +kernel), gwI 429 (by decide +kernel), gwI 86 (by decide +kernel), q_Co_empty_c⟩, ⟨rfl, by decide +kernel, by decide +kernel, by decide +kernel⟩⟩
theorem lk_8_286 : LkV 8 286 q_Co_put 1 := ⟨⟨gwI 746 (by decide +kernel), gwI 449 (by decide +kernel), gwI 450 (by decide +kernel), gwI 86 (by decide +kernel), q_Co_put_c⟩, ⟨rfl, by decide +kernel, by decide +kernel, by decide +kernel⟩⟩
theorem lk_8_290 : LkV 8 290 q_Co_sort 0 := ⟨⟨gwI 747 (by decide +kernel), gwI 457 (by decide +kernel), gwI 458 (by decide +kernel), gwI 86 (by decide +kernel), q_Co_sort_c⟩, ⟨rfl, by decide +kernel, by decide +kernel, by decide +kernel⟩⟩
theorem lk_8_294 : LkV 8 294 q_Co_at 1 := ⟨⟨gwI 748 (by decide +kernel), gwI 464 (by decide +kernel), gwI 465 (by decide +kernel), gwI 86 (by decide +kernel), q_Co_at_c⟩, ⟨rfl, by decide +kernel, by decide +kernel, by decide +kernel⟩⟩
theorem lk_8_299 : LkV 8 299 q_TJ_joinSpan 3 := ⟨⟨gwI 750 (by decide +kernel), gwI 752 (by decide +kernel), gwI 17 (by decide +kernel), gwI 80 (by decide +kernel), q_TJ_joinSpan_c⟩, ⟨rfl, by decide +kernel, by decide +kernel, by decide +kernel⟩⟩
theorem lk_8_303 : LkV 8 303 q_Ro_valueOf 1 := ⟨⟨gwI 754 (by decide +kernel), gwI 755 (by decide +kernel), gwI 756 (by decide +kernel), gwI 82 (by decide +kernel), q_Ro_valueOf_c⟩, ⟨rfl, by decide +kernel, by decide +kernel, by decide +kernel⟩⟩
theorem lk_8_306 : LkV 8 306 q_Pa_reach 1 := ⟨⟨gwI 758 (by decide +kernel), gwI 759 (by decide +kernel), gwI 760 (by decide +kernel), gwI 87 (by decide +kernel), q_Pa_reach_c⟩, ⟨rfl, by decide +kernel, by decide +kernel, by decide +kernel⟩⟩
theorem lk_8_309 : LkV 8 309 q_Ro_endPlace 1 := ⟨⟨gwI 762 (by decide +kernel), gwI 453 (by decide +kernel), gwI 454 (by decide +kernel), gwI 82 (by decide +kernel), q_Ro_endPlace_c⟩, ⟨rfl, by decide +kernel, by decide +kernel, by decide +kernel⟩⟩
theorem lk_8_312 : LkV 8 312 q_Pa_widen 2 := ⟨⟨gwI 763 (by decide +kernel), gwI 764 (by decide +kernel), gwI 765 (by decide +kernel), gwI 87 (by decide +kernel), q_Pa_widen_c⟩, ⟨rfl, by decide +kernel, by decide +kernel, by decide +kernel⟩⟩
theorem lk_8_315 : LkV 8 315 q_Ro_keyOf 1 := ⟨⟨gwI 769 (by decide +kernel), gwI 501 (by decide +kernel), gwI 502 (by decide +kernel), gwI 82 (by decide +kernel), q_Ro_keyOf_c⟩, ⟨rfl, by decide +kernel, by decide +kernel, by decide +kernel⟩⟩
theorem lk_8_318 : LkV 8 318 q_Pa_put 5 := ⟨⟨gwI 770 (by decide +kernel), gwI 623 (by decide +kernel), gwI 624 (by decide +kernel), gwI 87 (by decide +kernel), q_Pa_put_c⟩, ⟨rfl, by decide +kernel, by decide +kernel, by decide +kernel⟩⟩
theorem lk_8_321 : LkV 8 321 q_Pa_setReach 1 := ⟨⟨gwI 771 (by decide +kernel), gwI 772 (by decide +kernel), gwI 773 (by decide +kernel), gwI 87 (by decide +kernel), q_Pa_setReach_c⟩, ⟨rfl, by decide +kernel, by decide +kernel, by decide +kernel⟩⟩
theorem lk_8_325 : LkV 8 325 q_Ro_putEnds 2 := ⟨⟨gwI 779 (by decide +kernel), gwI 780 (by decide +kernel), gwI 781 (by decide +kernel), gwI 82 (by decide +kernel), q_Ro_putEnds_c⟩, ⟨rfl, by decide +kernel, by decide +kernel, by decide +kernel⟩⟩
theorem lk_4_64 : LkV 4 64 q_Co_put 1 := ⟨⟨gwI 783 (by decide +kernel), gwI 449 (by decide +kernel), gwI 450 (by decide +kernel), gwI 86 (by decide +kernel), q_Co_put_c⟩, ⟨rfl, by decide +kernel, by decide +kernel, by decide +kernel⟩⟩
theorem lk_8_329 : LkV 8 329 q_Ro_valuesThere 2 := ⟨⟨gwI 784 (by decide +kernel), gwI 785 (by decide +kernel), gwI 786 (by decide +kernel), gwI 82 (by decide +kernel), q_Ro_valuesThere_c⟩, ⟨rfl, by decide +kernel, by decide +kernel, by decide +kernel⟩⟩
theorem lk_8_332 : LkV 8 332 q_TJ_leastLane 3 := ⟨⟨gwI 792 (by decide +kernel), gwI 794 (by decide +kernel), gwI 18 (by decide +kernel), gwI 80 (by decide +kernel), q_TJ_leastLane_c⟩, ⟨rfl, by decide +kernel, by decide +kernel, by decide +kernel⟩⟩
theorem lk_8_336 : LkV 8 336 q_Ro_doShare 2 := ⟨⟨gwI 796 (by decide +kernel), gwI 797 (by decide +kernel), gwI 798 (by decide +kernel), gwI 82 (by decide +kernel), q_Ro_doShare_c⟩, ⟨rfl, by decide +kernel, by decide +kernel, by decide +kernel⟩⟩
theorem lk_8_340 : LkS 8 340 q_TJ_isSet 1 := ⟨⟨gwI 809 (by decide +kernel), gwI 810 (by decide +kernel), gwI 80 (by decide +kernel), q_TJ_isSet_c⟩, ⟨rfl, by decide +kernel, by decide +kernel, by decide +kernel⟩⟩
theorem lk_8_343 : LkS 8 343 q_TJ_turned 1 := ⟨⟨gwI 812 (by decide +kernel), gwI 813 (by decide +kernel), gwI 80 (by decide +kernel), q_TJ_turned_c⟩, ⟨rfl, by decide +kernel, by decide +kernel, by decide +kernel⟩⟩
theorem lk_8_395 : LkS 8 395 q_TJ_holds 2 := ⟨⟨gwI 815 (by decide +kernel), gwI 517 (by decide +kernel), gwI 80 (by decide +kernel), q_TJ_holds_c⟩, ⟨rfl, by decide +kernel, by decide +kernel, by decide +kernel⟩⟩
theorem lk_8_346 : LkS 8 346 q_TJ_composed 2 := ⟨⟨gwI 820 (by decide +kernel), gwI 821 (by decide +kernel), gwI 80 (by decide +kernel), q_TJ_composed_c⟩, ⟨rfl, by decide +kernel, by decide +kernel, by decide +kernel⟩⟩
theorem lk_8_398 : LkS 8 398 q_TJ_composedOfOne 2 := ⟨⟨gwI 823 (by decide +kernel), gwI 824 (by decide +kernel), gwI 80 (by decide +kernel), q_TJ_composedOfOne_c⟩, ⟨rfl, by decide +kernel, by decide +kernel, by decide +kernel⟩⟩
theorem lk_8_349 : LkS 8 349 q_TJ_isName 1 := ⟨⟨gwI 832 (by decide +kernel), gwI 833 (by decide +kernel), gwI 80 (by decide +kernel), q_TJ_isName_c⟩, ⟨rfl, by decide +kernel, by decide +kernel, by decide +kernel⟩⟩
theorem lk_8_356 : LkV 8 356 q_We_tell 3 := ⟨⟨gwI 835 (by decide +kernel), gwI 836 (by decide +kernel), gwI 837 (by decide +kernel), gwI 85 (by decide +kernel), q_We_tell_c⟩, ⟨rfl, by decide +kernel, by decide +kernel, by decide +kernel⟩⟩
theorem lk_8_364 : LkV 8 364 q_We_draw 0 := ⟨⟨gwI 845 (by decide +kernel), gwI 846 (by decide +kernel), gwI 847 (by decide +kernel), gwI 85 (by decide +kernel), q_We_draw_c⟩, ⟨rfl, by decide +kernel, by decide +kernel, by decide +kernel⟩⟩
theorem lk_7_39 : LkV 7 39 q_We_narrow 2 := ⟨⟨gwI 852 (by decide +kernel), gwI 854 (by decide +kernel), gwI 19 (by decide +kernel), gwI 85 (by decide +kernel), q_We_narrow_c⟩, ⟨rfl, by decide +kernel, by decide +kernel, by decide +kernel⟩⟩
theorem lk_8_370 : LkV 8 370 q_We_hasEmpty 0 := ⟨⟨gwI 861 (by decide +kernel), gwI 862 (by decide +kernel), gwI 863 (by decide +kernel), gwI 85 (by decide +kernel), q_We_hasEmpty_c⟩, ⟨rfl, by decide +kernel, by decide +kernel, by decide +kernel⟩⟩
theorem lk_8_374 : LkV 8 374 q_We_loosen 0 := ⟨⟨gwI 869 (by decide +kernel), gwI 225 (by decide +kernel), gwI 226 (by decide +kernel), gwI 85 (by decide +kernel), q_We_loosen_c⟩, ⟨rfl, by decide +kernel, by decide +kernel, by decide +kernel⟩⟩
theorem lk_8_380 : LkV 8 380 q_St_copyFrom 1 := ⟨⟨gwI 874 (by decide +kernel), gwI 875 (by decide +kernel), gwI 876 (by decide +kernel), gwI 81 (by decide +kernel), q_St_copyFrom_c⟩, ⟨rfl, by decide +kernel, by decide +kernel, by decide +kernel⟩⟩
theorem lk_5_53 : LkV 5 53 q_Ro_copyFrom 1 := ⟨⟨gwI 878 (by decide +kernel), gwI 879 (by decide +kernel), gwI 880 (by decide +kernel), gwI 82 (by decide +kernel), q_Ro_copyFrom_c⟩, ⟨rfl, by decide +kernel, by decide +kernel, by decide +kernel⟩⟩
theorem lk_5_57 : LkV 5 57 q_Tr_copyFrom 1 := ⟨⟨gwI 883 (by decide +kernel), gwI 884 (by decide +kernel), gwI 885 (by decide +kernel), gwI 83 (by decide +kernel), q_Tr_copyFrom_c⟩, ⟨rfl, by decide +kernel, by decide +kernel, by decide +kernel⟩⟩
theorem lk_5_60 : LkV 5 60 q_Cu_copyFrom 1 := ⟨⟨gwI 888 (by decide +kernel), gwI 889 (by decide +kernel), gwI 890 (by decide +kernel), gwI 84 (by decide +kernel), q_Cu_copyFrom_c⟩, ⟨rfl, by decide +kernel, by decide +kernel, by decide +kernel⟩⟩
theorem lk_5_63 : LkV 5 63 q_We_copyFrom 1 := ⟨⟨gwI 893 (by decide +kernel), gwI 894 (by decide +kernel), gwI 895 (by decide +kernel), gwI 85 (by decide +kernel), q_We_copyFrom_c⟩, ⟨rfl, by decide +kernel, by decide +kernel, by decide +kernel⟩⟩
theorem lk_8_383 : LkV 8 383 q_TJ_mostPartners 0 := ⟨⟨gwI 901 (by decide +kernel), gwI 903 (by decide +kernel), gwI 20 (by decide +kernel), gwI 80 (by decide +kernel), q_TJ_mostPartners_c⟩, ⟨rfl, by decide +kernel, by decide +kernel, by decide +kernel⟩⟩
theorem lk_8_259 : LkV 8 259 q_St_countPartners 2 := ⟨⟨gwI 905 (by decide +kernel), gwI 906 (by decide +kernel), gwI 907 (by decide +kernel), gwI 81 (by decide +kernel), q_St_countPartners_c⟩, ⟨rfl, by decide +kernel, by decide +kernel, by decide +kernel⟩⟩
theorem lk_8_386 : LkV 8 386 q_Ro_countRuns 0 := ⟨⟨gwI 910 (by decide +kernel), gwI 911 (by decide +kernel), gwI 912 (by decide +kernel), gwI 82 (by decide +kernel), q_Ro_countRuns_c⟩, ⟨rfl, by decide +kernel, by decide +kernel, by decide +kernel⟩⟩
theorem lk_4_70 : LkV 4 70 q_Ro_countInRun 1 := ⟨⟨gwI 914 (by decide +kernel), gwI 433 (by decide +kernel), gwI 434 (by decide +kernel), gwI 82 (by decide +kernel), q_Ro_countInRun_c⟩, ⟨rfl, by decide +kernel, by decide +kernel, by decide +kernel⟩⟩
theorem lk_9_48 : LkS 9 48 q_Mo_isIn 3 := ⟨⟨gwI 968 (by decide +kernel), gwI 969 (by decide +kernel), gwI 89 (by decide +kernel), q_Mo_isIn_c⟩, ⟨rfl, by decide +kernel, by decide +kernel, by decide +kernel⟩⟩
theorem lk_9_80 : LkV 9 80 q_Mo_isSweeping 0 := ⟨⟨gwI 976 (by decide +kernel), gwI 978 (by decide +kernel), gwI 21 (by decide +kernel), gwI 89 (by decide +kernel), q_Mo_isSweeping_c⟩, ⟨rfl, by decide +kernel, by decide +kernel, by decide +kernel⟩⟩
theorem lk_9_84 : LkV 9 84 q_Mo_causes 2 := ⟨⟨gwI 980 (by decide +kernel), gwI 982 (by decide +kernel), gwI 22 (by decide +kernel), gwI 89 (by decide +kernel), q_Mo_causes_c⟩, ⟨rfl, by decide +kernel, by decide +kernel, by decide +kernel⟩⟩
theorem lk_9_88 : LkV 9 88 q_Mo_lays 6 := ⟨⟨gwI 988 (by decide +kernel), gwI 990 (by decide +kernel), gwI 23 (by decide +kernel), gwI 89 (by decide +kernel), q_Mo_lays_c⟩, ⟨rfl, by decide +kernel, by decide +kernel, by decide +kernel⟩⟩
theorem lk_9_52 : LkS 9 52 q_Mo_isSide 1 := ⟨⟨gwI 1000 (by decide +kernel), gwI 1001 (by decide +kernel), gwI 89 (by decide +kernel), q_Mo_isSide_c⟩, ⟨rfl, by decide +kernel, by decide +kernel, by decide +kernel⟩⟩
theorem lk_9_103 : LkV 9 103 q_Mo_comes 7 := ⟨⟨gwI 1003 (by decide +kernel), gwI 1005 (by decide +kernel), gwI 24 (by decide +kernel), gwI 89 (by decide +kernel), q_Mo_comes_c⟩, ⟨rfl, by decide +kernel, by decide +kernel, by decide +kernel⟩⟩
theorem lk_9_94 : LkS 9 94 q_Mo_isKey 1 := ⟨⟨gwI 1007 (by decide +kernel), gwI 1008 (by decide +kernel), gwI 89 (by decide +kernel), q_Mo_isKey_c⟩, ⟨rfl, by decide +kernel, by decide +kernel, by decide +kernel⟩⟩
theorem lk_9_97 : LkS 9 97 q_Mo_spanTrouble 2 := ⟨⟨gwI 1010 (by decide +kernel), gwI 1011 (by decide +kernel), gwI 89 (by decide +kernel), q_Mo_spanTrouble_c⟩, ⟨rfl, by decide +kernel, by decide +kernel, by decide +kernel⟩⟩
theorem lk_9_100 : LkV 9 100 q_Mo_orderTrouble 3 := ⟨⟨gwI 1015 (by decide +kernel), gwI 1017 (by decide +kernel), gwI 25 (by decide +kernel), gwI 89 (by decide +kernel), q_Mo_orderTrouble_c⟩, ⟨rfl, by decide +kernel, by decide +kernel, by decide +kernel⟩⟩
theorem lk_9_44 : LkV 9 44 q_Mo_of 3 := ⟨⟨gwI 1019 (by decide +kernel), gwI 1021 (by decide +kernel), gwI 26 (by decide +kernel), gwI 89 (by decide +kernel), q_Mo_of_c⟩, ⟨rfl, by decide +kernel, by decide +kernel, by decide +kernel⟩⟩
theorem lk_9_40 : LkV 9 40 q_Mo_at 2 := ⟨⟨gwI 1023 (by decide +kernel), gwI 1025 (by decide +kernel), gwI 27 (by decide +kernel), gwI 89 (by decide +kernel), q_Mo_at_c⟩, ⟨rfl, by decide +kernel, by decide +kernel, by decide +kernel⟩⟩
theorem lk_9_107 : LkV 9 107 q_Mo_clear 0 := ⟨⟨gwI 1027 (by decide +kernel), gwI 993 (by decide +kernel), gwI 994 (by decide +kernel), gwI 89 (by decide +kernel), q_Mo_clear_c⟩, ⟨rfl, by decide +kernel, by decide +kernel, by decide +kernel⟩⟩
theorem lk_9_136 : LkS 9 136 q_Mo_event 3 := ⟨⟨gwI 1036 (by decide +kernel), gwI 1037 (by decide +kernel), gwI 89 (by decide +kernel), q_Mo_event_c⟩, ⟨rfl, by decide +kernel, by decide +kernel, by decide +kernel⟩⟩
theorem lk_9_139 : LkV 9 139 q_Mo_enters 1 := ⟨⟨gwI 1039 (by decide +kernel), gwI 1041 (by decide +kernel), gwI 28 (by decide +kernel), gwI 89 (by decide +kernel), q_Mo_enters_c⟩, ⟨rfl, by decide +kernel, by decide +kernel, by decide +kernel⟩⟩
theorem lk_9_124 : LkV 9 124 q_Mo_isAhead 2 := ⟨⟨gwI 1043 (by decide +kernel), gwI 1045 (by decide +kernel), gwI 29 (by decide +kernel), gwI 89 (by decide +kernel), q_Mo_isAhead_c⟩, ⟨rfl, by decide +kernel, by decide +kernel, by decide +kernel⟩⟩
theorem lk_9_121 : LkV 9 121 q_Mo_placeOf 1 := ⟨⟨gwI 1047 (by decide +kernel), gwI 1049 (by decide +kernel), gwI 30 (by decide +kernel), gwI 89 (by decide +kernel), q_Mo_placeOf_c⟩, ⟨rfl, by decide +kernel, by decide +kernel, by decide +kernel⟩⟩
theorem lk_9_111 : LkS 9 111 q_Mo_isStart 1 := ⟨⟨gwI 1051 (by decide +kernel), gwI 1052 (by decide +kernel), gwI 89 (by decide +kernel), q_Mo_isStart_c⟩, ⟨rfl, by decide +kernel, by decide +kernel, by decide +kernel⟩⟩
theorem lk_9_114 : LkS 9 114 q_Mo_sideOf 1 := ⟨⟨gwI 1054 (by decide +kernel), gwI 1055 (by decide +kernel), gwI 89 (by decide +kernel), q_Mo_sideOf_c⟩, ⟨rfl, by decide +kernel, by decide +kernel, by decide +kernel⟩⟩
theorem lk_9_118 : LkS 9 118 q_Mo_rowOf 1 := ⟨⟨gwI 1057 (by decide +kernel), gwI 1058 (by decide +kernel), gwI 89 (by decide +kernel), q_Mo_rowOf_c⟩, ⟨rfl, by decide +kernel, by decide +kernel, by decide +kernel⟩⟩
theorem lk_9_56 : LkV 9 56 q_Mo_startOf 2 := ⟨⟨gwI 1060 (by decide +kernel), gwI 1062 (by decide +kernel), gwI 31 (by decide +kernel), gwI 89 (by decide +kernel), q_Mo_startOf_c⟩, ⟨rfl, by decide +kernel, by decide +kernel, by decide +kernel⟩⟩
theorem lk_9_59 : LkV 9 59 q_Mo_endOf 2 := ⟨⟨gwI 1064 (by decide +kernel), gwI 1066 (by decide +kernel), gwI 32 (by decide +kernel), gwI 89 (by decide +kernel), q_Mo_endOf_c⟩, ⟨rfl, by decide +kernel, by decide +kernel, by decide +kernel⟩⟩
theorem lk_9_143 : LkV 9 143 q_Mo_looksAtHeld 0 := ⟨⟨gwI 1068 (by decide +kernel), gwI 1070 (by decide +kernel), gwI 33 (by decide +kernel), gwI 89 (by decide +kernel), q_Mo_looksAtHeld_c⟩, ⟨rfl, by decide +kernel, by decide +kernel, by decide +kernel⟩⟩
theorem lk_9_127 : LkV 9 127 q_Mo_actives 0 := ⟨⟨gwI 1072 (by decide +kernel), gwI 1074 (by decide +kernel), gwI 34 (by decide +kernel), gwI 89 (by decide +kernel), q_Mo_actives_c⟩, ⟨rfl, by decide +kernel, by decide +kernel, by decide +kernel⟩⟩
theorem lk_9_130 : LkV 9 130 q_Mo_heads 0 := ⟨⟨gwI 1076 (by decide +kernel), gwI 1078 (by decide +kernel), gwI 35 (by decide +kernel), gwI 89 (by decide +kernel), q_Mo_heads_c⟩, ⟨rfl, by decide +kernel, by decide +kernel, by decide +kernel⟩⟩
theorem lk_9_133 : LkS 9 133 q_Mo_more 2 := ⟨⟨gwI 1080 (by decide +kernel), gwI 1081 (by decide +kernel), gwI 89 (by decide +kernel), q_Mo_more_c⟩, ⟨rfl, by decide +kernel, by decide +kernel, by decide +kernel⟩⟩
theorem lk_9_158 : LkV 9 158 q_Mo_goes 0 := ⟨⟨gwI 1087 (by decide +kernel), gwI 1089 (by decide +kernel), gwI 36 (by decide +kernel), gwI 89 (by decide +kernel), q_Mo_goes_c⟩, ⟨rfl, by decide +kernel, by decide +kernel, by decide +kernel⟩⟩
theorem lk_9_152 : LkV 9 152 q_Mo_starts 2 := ⟨⟨gwI 1091 (by decide +kernel), gwI 1093 (by decide +kernel), gwI 37 (by decide +kernel), gwI 89 (by decide +kernel), q_Mo_starts_c⟩, ⟨rfl, by decide +kernel, by decide +kernel, by decide +kernel⟩⟩
theorem lk_9_146 : LkV 9 146 q_Mo_activeAt 2 := ⟨⟨gwI 1095 (by decide +kernel), gwI 1097 (by decide +kernel), gwI 38 (by decide +kernel), gwI 89 (by decide +kernel), q_Mo_activeAt_c⟩, ⟨rfl, by decide +kernel, by decide +kernel, by decide +kernel⟩⟩
theorem lk_9_149 : LkV 9 149 q_Mo_isPartner 3 := ⟨⟨gwI 1099 (by decide +kernel), gwI 1101 (by decide +kernel), gwI 39 (by decide +kernel), gwI 89 (by decide +kernel), q_Mo_isPartner_c⟩, ⟨rfl, by decide +kernel, by decide +kernel, by decide +kernel⟩⟩
theorem lk_9_76 : LkV 9 76 q_Mo_arePartners 2 := ⟨⟨gwI 1103 (by decide +kernel), gwI 1105 (by decide +kernel), gwI 40 (by decide +kernel), gwI 89 (by decide +kernel), q_Mo_arePartners_c⟩, ⟨rfl, by decide +kernel, by decide +kernel, by decide +kernel⟩⟩
theorem lk_9_69 : LkV 9 69 q_Mo_isKeyed 2 := ⟨⟨gwI 1107 (by decide +kernel), gwI 1109 (by decide +kernel), gwI 41 (by decide +kernel), gwI 89 (by decide +kernel), q_Mo_isKeyed_c⟩, ⟨rfl, by decide +kernel, by decide +kernel, by decide +kernel⟩⟩
theorem lk_9_66 : LkV 9 66 q_Mo_kindBetween 4 := ⟨⟨gwI 1111 (by decide +kernel), gwI 1113 (by decide +kernel), gwI 42 (by decide +kernel), gwI 89 (by decide +kernel), q_Mo_kindBetween_c⟩, ⟨rfl, by decide +kernel, by decide +kernel, by decide +kernel⟩⟩
theorem lk_9_62 : LkS 9 62 q_Mo_kindOf 4 := ⟨⟨gwI 1115 (by decide +kernel), gwI 1116 (by decide +kernel), gwI 89 (by decide +kernel), q_Mo_kindOf_c⟩, ⟨rfl, by decide +kernel, by decide +kernel, by decide +kernel⟩⟩
theorem lk_9_73 : LkS 9 73 q_Mo_has 2 := ⟨⟨gwI 1118 (by decide +kernel), gwI 1119 (by decide +kernel), gwI 89 (by decide +kernel), q_Mo_has_c⟩, ⟨rfl, by decide +kernel, by decide +kernel, by decide +kernel⟩⟩
theorem lk_9_155 : LkV 9 155 q_Mo_ends 2 := ⟨⟨gwI 1121 (by decide +kernel), gwI 1123 (by decide +kernel), gwI 43 (by decide +kernel), gwI 89 (by decide +kernel), q_Mo_ends_c⟩, ⟨rfl, by decide +kernel, by decide +kernel, by decide +kernel⟩⟩
theorem lk_9_161 : LkV 9 161 q_Mo_sharedFrom 2 := ⟨⟨gwI 1137 (by decide +kernel), gwI 1139 (by decide +kernel), gwI 44 (by decide +kernel), gwI 89 (by decide +kernel), q_Mo_sharedFrom_c⟩, ⟨rfl, by decide +kernel, by decide +kernel, by decide +kernel⟩⟩
theorem lk_9_164 : LkS 9 164 q_Mo_time 1 := ⟨⟨gwI 1141 (by decide +kernel), gwI 1142 (by decide +kernel), gwI 89 (by decide +kernel), q_Mo_time_c⟩, ⟨rfl, by decide +kernel, by decide +kernel, by decide +kernel⟩⟩
theorem lk_9_167 : LkV 9 167 q_Mo_sharedTo 2 := ⟨⟨gwI 1144 (by decide +kernel), gwI 1146 (by decide +kernel), gwI 45 (by decide +kernel), gwI 89 (by decide +kernel), q_Mo_sharedTo_c⟩, ⟨rfl, by decide +kernel, by decide +kernel, by decide +kernel⟩⟩
theorem lk_9_173 : LkS 9 173 q_Mo_less 2 := ⟨⟨gwI 1148 (by decide +kernel), gwI 1149 (by decide +kernel), gwI 89 (by decide +kernel), q_Mo_less_c⟩, ⟨rfl, by decide +kernel, by decide +kernel, by decide +kernel⟩⟩
theorem lk_9_170 : LkV 9 170 q_Mo_sharedLong 2 := ⟨⟨gwI 1151 (by decide +kernel), gwI 1153 (by decide +kernel), gwI 46 (by decide +kernel), gwI 89 (by decide +kernel), q_Mo_sharedLong_c⟩, ⟨rfl, by decide +kernel, by decide +kernel, by decide +kernel⟩⟩
theorem lk_9_178 : LkV 9 178 q_Mo_longOf 2 := ⟨⟨gwI 1172 (by decide +kernel), gwI 1174 (by decide +kernel), gwI 47 (by decide +kernel), gwI 89 (by decide +kernel), q_Mo_longOf_c⟩, ⟨rfl, by decide +kernel, by decide +kernel, by decide +kernel⟩⟩
theorem lk_9_201 : LkV 9 201 q_Mo_isRow 2 := ⟨⟨gwI 1180 (by decide +kernel), gwI 1182 (by decide +kernel), gwI 48 (by decide +kernel), gwI 89 (by decide +kernel), q_Mo_isRow_c⟩, ⟨rfl, by decide +kernel, by decide +kernel, by decide +kernel⟩⟩
theorem lk_9_204 : LkV 9 204 q_Mo_partners 2 := ⟨⟨gwI 1184 (by decide +kernel), gwI 1186 (by decide +kernel), gwI 49 (by decide +kernel), gwI 89 (by decide +kernel), q_Mo_partners_c⟩, ⟨rfl, by decide +kernel, by decide +kernel, by decide +kernel⟩⟩
theorem lk_9_207 : LkV 9 207 q_Mo_depth 2 := ⟨⟨gwI 1188 (by decide +kernel), gwI 1190 (by decide +kernel), gwI 50 (by decide +kernel), gwI 89 (by decide +kernel), q_Mo_depth_c⟩, ⟨rfl, by decide +kernel, by decide +kernel, by decide +kernel⟩⟩
theorem lk_9_195 : LkV 9 195 q_Mo_partnersAt 3 := ⟨⟨gwI 1192 (by decide +kernel), gwI 1194 (by decide +kernel), gwI 51 (by decide +kernel), gwI 89 (by decide +kernel), q_Mo_partnersAt_c⟩, ⟨rfl, by decide +kernel, by decide +kernel, by decide +kernel⟩⟩
theorem lk_9_198 : LkV 9 198 q_Mo_covers 2 := ⟨⟨gwI 1196 (by decide +kernel), gwI 1198 (by decide +kernel), gwI 52 (by decide +kernel), gwI 89 (by decide +kernel), q_Mo_covers_c⟩, ⟨rfl, by decide +kernel, by decide +kernel, by decide +kernel⟩⟩
theorem lk_9_185 : LkV 9 185 q_Mo_longest 3 := ⟨⟨gwI 1200 (by decide +kernel), gwI 1202 (by decide +kernel), gwI 53 (by decide +kernel), gwI 89 (by decide +kernel), q_Mo_longest_c⟩, ⟨rfl, by decide +kernel, by decide +kernel, by decide +kernel⟩⟩
theorem lk_9_188 : LkV 9 188 q_Mo_nextStart 3 := ⟨⟨gwI 1204 (by decide +kernel), gwI 1206 (by decide +kernel), gwI 54 (by decide +kernel), gwI 89 (by decide +kernel), q_Mo_nextStart_c⟩, ⟨rfl, by decide +kernel, by decide +kernel, by decide +kernel⟩⟩
theorem lk_9_191 : LkV 9 191 q_Mo_adds 3 := ⟨⟨gwI 1208 (by decide +kernel), gwI 1210 (by decide +kernel), gwI 55 (by decide +kernel), gwI 89 (by decide +kernel), q_Mo_adds_c⟩, ⟨rfl, by decide +kernel, by decide +kernel, by decide +kernel⟩⟩
theorem lk_9_210 : LkV 9 210 q_Mo_leftOver 2 := ⟨⟨gwI 1212 (by decide +kernel), gwI 1214 (by decide +kernel), gwI 56 (by decide +kernel), gwI 89 (by decide +kernel), q_Mo_leftOver_c⟩, ⟨rfl, by decide +kernel, by decide +kernel, by decide +kernel⟩⟩
theorem lk_9_213 : LkV 9 213 q_Mo_coveredLong 2 := ⟨⟨gwI 1216 (by decide +kernel), gwI 1218 (by decide +kernel), gwI 57 (by decide +kernel), gwI 89 (by decide +kernel), q_Mo_coveredLong_c⟩, ⟨rfl, by decide +kernel, by decide +kernel, by decide +kernel⟩⟩
theorem lk_9_219 : LkV 9 219 q_Mo_liveAt 3 := ⟨⟨gwI 1236 (by decide +kernel), gwI 1238 (by decide +kernel), gwI 58 (by decide +kernel), gwI 89 (by decide +kernel), q_Mo_liveAt_c⟩, ⟨rfl, by decide +kernel, by decide +kernel, by decide +kernel⟩⟩
theorem lk_9_216 : LkV 9 216 q_Mo_isLive 3 := ⟨⟨gwI 1240 (by decide +kernel), gwI 1242 (by decide +kernel), gwI 59 (by decide +kernel), gwI 89 (by decide +kernel), q_Mo_isLive_c⟩, ⟨rfl, by decide +kernel, by decide +kernel, by decide +kernel⟩⟩
theorem lk_9_231 : LkV 9 231 q_Mo_makesOne 1 := ⟨⟨gwI 1252 (by decide +kernel), gwI 1254 (by decide +kernel), gwI 60 (by decide +kernel), gwI 89 (by decide +kernel), q_Mo_makesOne_c⟩, ⟨rfl, by decide +kernel, by decide +kernel, by decide +kernel⟩⟩
theorem lk_9_222 : LkV 9 222 q_Mo_isOne 3 := ⟨⟨gwI 1256 (by decide +kernel), gwI 1258 (by decide +kernel), gwI 61 (by decide +kernel), gwI 89 (by decide +kernel), q_Mo_isOne_c⟩, ⟨rfl, by decide +kernel, by decide +kernel, by decide +kernel⟩⟩
theorem lk_9_234 : LkV 9 234 q_Mo_ones 2 := ⟨⟨gwI 1260 (by decide +kernel), gwI 1262 (by decide +kernel), gwI 62 (by decide +kernel), gwI 89 (by decide +kernel), q_Mo_ones_c⟩, ⟨rfl, by decide +kernel, by decide +kernel, by decide +kernel⟩⟩
theorem lk_9_228 : LkV 9 228 q_Mo_comesAhead 3 := ⟨⟨gwI 1264 (by decide +kernel), gwI 1266 (by decide +kernel), gwI 63 (by decide +kernel), gwI 89 (by decide +kernel), q_Mo_comesAhead_c⟩, ⟨rfl, by decide +kernel, by decide +kernel, by decide +kernel⟩⟩
theorem lk_9_225 : LkV 9 225 q_Mo_least 2 := ⟨⟨gwI 1268 (by decide +kernel), gwI 1270 (by decide +kernel), gwI 64 (by decide +kernel), gwI 89 (by decide +kernel), q_Mo_least_c⟩, ⟨rfl, by decide +kernel, by decide +kernel, by decide +kernel⟩⟩
theorem lk_9_237 : LkV 9 237 q_Mo_greatest 2 := ⟨⟨gwI 1272 (by decide +kernel), gwI 1274 (by decide +kernel), gwI 65 (by decide +kernel), gwI 89 (by decide +kernel), q_Mo_greatest_c⟩, ⟨rfl, by decide +kernel, by decide +kernel, by decide +kernel⟩⟩
theorem lk_9_243 : LkV 9 243 q_Mo_cuts 1 := ⟨⟨gwI 1280 (by decide +kernel), gwI 1282 (by decide +kernel), gwI 66 (by decide +kernel), gwI 89 (by decide +kernel), q_Mo_cuts_c⟩, ⟨rfl, by decide +kernel, by decide +kernel, by decide +kernel⟩⟩
theorem lk_9_245 : LkV 9 245 q_Mo_valuesAt 2 := ⟨⟨gwI 1284 (by decide +kernel), gwI 1286 (by decide +kernel), gwI 67 (by decide +kernel), gwI 89 (by decide +kernel), q_Mo_valuesAt_c⟩, ⟨rfl, by decide +kernel, by decide +kernel, by decide +kernel⟩⟩
theorem lk_9_251 : LkV 9 251 q_Mo_nextToLane 2 := ⟨⟨gwI 1304 (by decide +kernel), gwI 1306 (by decide +kernel), gwI 68 (by decide +kernel), gwI 89 (by decide +kernel), q_Mo_nextToLane_c⟩, ⟨rfl, by decide +kernel, by decide +kernel, by decide +kernel⟩⟩
theorem lk_9_254 : LkV 9 254 q_Mo_isLaned 3 := ⟨⟨gwI 1308 (by decide +kernel), gwI 1310 (by decide +kernel), gwI 69 (by decide +kernel), gwI 89 (by decide +kernel), q_Mo_isLaned_c⟩, ⟨rfl, by decide +kernel, by decide +kernel, by decide +kernel⟩⟩
theorem lk_9_248 : LkV 9 248 q_Mo_doShare 3 := ⟨⟨gwI 1312 (by decide +kernel), gwI 1314 (by decide +kernel), gwI 70 (by decide +kernel), gwI 89 (by decide +kernel), q_Mo_doShare_c⟩, ⟨rfl, by decide +kernel, by decide +kernel, by decide +kernel⟩⟩
theorem lk_9_268 : LkS 9 268 q_Mo_isKinds 1 := ⟨⟨gwI 1324 (by decide +kernel), gwI 1325 (by decide +kernel), gwI 89 (by decide +kernel), q_Mo_isKinds_c⟩, ⟨rfl, by decide +kernel, by decide +kernel, by decide +kernel⟩⟩
theorem lk_9_271 : LkS 9 271 q_Mo_converseOf 1 := ⟨⟨gwI 1327 (by decide +kernel), gwI 1328 (by decide +kernel), gwI 89 (by decide +kernel), q_Mo_converseOf_c⟩, ⟨rfl, by decide +kernel, by decide +kernel, by decide +kernel⟩⟩
theorem lk_9_274 : LkV 9 274 q_Mo_composedOf 2 := ⟨⟨gwI 1334 (by decide +kernel), gwI 1336 (by decide +kernel), gwI 71 (by decide +kernel), gwI 89 (by decide +kernel), q_Mo_composedOf_c⟩, ⟨rfl, by decide +kernel, by decide +kernel, by decide +kernel⟩⟩
theorem lk_9_265 : LkV 9 265 q_Mo_composes 0 := ⟨⟨gwI 1338 (by decide +kernel), gwI 1340 (by decide +kernel), gwI 72 (by decide +kernel), gwI 89 (by decide +kernel), q_Mo_composes_c⟩, ⟨rfl, by decide +kernel, by decide +kernel, by decide +kernel⟩⟩
theorem lk_9_261 : LkV 9 261 q_Mo_composesWith 4 := ⟨⟨gwI 1342 (by decide +kernel), gwI 1344 (by decide +kernel), gwI 73 (by decide +kernel), gwI 89 (by decide +kernel), q_Mo_composesWith_c⟩, ⟨rfl, by decide +kernel, by decide +kernel, by decide +kernel⟩⟩
theorem lk_9_277 : LkS 9 277 q_Mo_isName 1 := ⟨⟨gwI 1350 (by decide +kernel), gwI 1351 (by decide +kernel), gwI 89 (by decide +kernel), q_Mo_isName_c⟩, ⟨rfl, by decide +kernel, by decide +kernel, by decide +kernel⟩⟩
theorem lk_9_280 : LkV 9 280 q_Mo_ties 3 := ⟨⟨gwI 1353 (by decide +kernel), gwI 1355 (by decide +kernel), gwI 74 (by decide +kernel), gwI 89 (by decide +kernel), q_Mo_ties_c⟩, ⟨rfl, by decide +kernel, by decide +kernel, by decide +kernel⟩⟩
theorem lk_9_286 : LkV 9 286 q_Mo_tightens 0 := ⟨⟨gwI 1361 (by decide +kernel), gwI 1363 (by decide +kernel), gwI 75 (by decide +kernel), gwI 89 (by decide +kernel), q_Mo_tightens_c⟩, ⟨rfl, by decide +kernel, by decide +kernel, by decide +kernel⟩⟩
theorem lk_9_283 : LkV 9 283 q_Mo_isTighter 3 := ⟨⟨gwI 1365 (by decide +kernel), gwI 1367 (by decide +kernel), gwI 76 (by decide +kernel), gwI 89 (by decide +kernel), q_Mo_isTighter_c⟩, ⟨rfl, by decide +kernel, by decide +kernel, by decide +kernel⟩⟩
theorem lk_9_292 : LkV 9 292 q_Mo_mostPartners 0 := ⟨⟨gwI 1385 (by decide +kernel), gwI 1387 (by decide +kernel), gwI 77 (by decide +kernel), gwI 89 (by decide +kernel), q_Mo_mostPartners_c⟩, ⟨rfl, by decide +kernel, by decide +kernel, by decide +kernel⟩⟩
theorem lk_9_295 : LkV 9 295 q_Mo_runs 1 := ⟨⟨gwI 1389 (by decide +kernel), gwI 1391 (by decide +kernel), gwI 78 (by decide +kernel), gwI 89 (by decide +kernel), q_Mo_runs_c⟩, ⟨rfl, by decide +kernel, by decide +kernel, by decide +kernel⟩⟩
theorem lk_4_37 : LkN 4 37 q_TJ_isKey 1 := ⟨⟨List.mem_of_getElem? (i := 7) rfl, gwI 395 (by decide +kernel), gwI 80 (by decide +kernel), q_TJ_isKey_c⟩, ⟨rfl, by decide +kernel, by decide +kernel, by decide +kernel⟩⟩
theorem lk_5_77 : LkN 5 77 q_TJ_kindByPlaces 4 := ⟨⟨List.mem_of_getElem? (i := 8) rfl, gwI 511 (by decide +kernel), gwI 80 (by decide +kernel), q_TJ_kindByPlaces_c⟩, ⟨rfl, by decide +kernel, by decide +kernel, by decide +kernel⟩⟩
theorem lk_5_91 : LkN 5 91 q_TJ_holds 2 := ⟨⟨List.mem_of_getElem? (i := 9) rfl, gwI 517 (by decide +kernel), gwI 80 (by decide +kernel), q_TJ_holds_c⟩, ⟨rfl, by decide +kernel, by decide +kernel, by decide +kernel⟩⟩
theorem lk_5_113 : LkN 5 113 q_TJ_timeOf 1 := ⟨⟨List.mem_of_getElem? (i := 10) rfl, gwI 550 (by decide +kernel), gwI 80 (by decide +kernel), q_TJ_timeOf_c⟩, ⟨rfl, by decide +kernel, by decide +kernel, by decide +kernel⟩⟩
theorem lk_2_74 : LkN 2 74 q_TJ_timeOf 1 := ⟨⟨List.mem_of_getElem? (i := 11) rfl, gwI 550 (by decide +kernel), gwI 80 (by decide +kernel), q_TJ_timeOf_c⟩, ⟨rfl, by decide +kernel, by decide +kernel, by decide +kernel⟩⟩
theorem lk_3_32 : LkN 3 32 q_TJ_timeOf 1 := ⟨⟨List.mem_of_getElem? (i := 12) rfl, gwI 550 (by decide +kernel), gwI 80 (by decide +kernel), q_TJ_timeOf_c⟩, ⟨rfl, by decide +kernel, by decide +kernel, by decide +kernel⟩⟩
theorem lk_7_31 : LkN 7 31 q_TJ_isName 1 := ⟨⟨List.mem_of_getElem? (i := 13) rfl, gwI 833 (by decide +kernel), gwI 80 (by decide +kernel), q_TJ_isName_c⟩, ⟨rfl, by decide +kernel, by decide +kernel, by decide +kernel⟩⟩
theorem lk_7_35 : LkN 7 35 q_TJ_turned 1 := ⟨⟨List.mem_of_getElem? (i := 14) rfl, gwI 813 (by decide +kernel), gwI 80 (by decide +kernel), q_TJ_turned_c⟩, ⟨rfl, by decide +kernel, by decide +kernel, by decide +kernel⟩⟩
theorem lk_7_43 : LkN 7 43 q_TJ_composed 2 := ⟨⟨List.mem_of_getElem? (i := 15) rfl, gwI 821 (by decide +kernel), gwI 80 (by decide +kernel), q_TJ_composed_c⟩, ⟨rfl, by decide +kernel, by decide +kernel, by decide +kernel⟩⟩
end
section
/-! the small machine: a world of cells in the order of a tree, its steps, and what they say of the machine -/
/-- what the cells hold: numbers by cell and place, longs by cell and place -/
abbrev HP : Type := (Nat → Nat → Int32) × (Nat → Nat → Int64)
/-- the cells' number, each one's kind (0 .. 9 a class, 10 ints, 11 longs), an array's length, what the one foreign reference holds -/
abbrev Shp : Type := Nat × (Nat → Nat) × (Nat → Nat) × Value
abbrev inb (i : Int32) (n : Nat) : Prop := 0 ≤ i.toInt ∧ i.toInt < (n : Int)
abbrev ix (i : Int32) : Nat := i.toNatClampNeg
def upI (hp : HP) (c j : Nat) (x : Int32) : HP := (fun a b => if a = c ∧ b = j then x else hp.1 a b, hp.2)
def upJ (hp : HP) (c j : Nat) (x : Int64) : HP := (hp.1, fun a b => if a = c ∧ b = j then x else hp.2 a b)
/-- where, from an object on, the cell of a reference field lies; 0: the field is a number -/
def offR : Nat → Nat → Nat := fun k s => match k with
  | 0 => (match s with | 0 => 1 | _ => 0)
  | 1 => (match s with | 0 => 1 | 4 => 2 | 5 => 3 | 6 => 4 | 7 => 5 | _ => 0)
  | 2 => (match s with | 0 => 1 | 1 => 2 | 2 => 3 | _ => 0)
  | 3 => (match s with | 0 => 1 | 1 => 2 | _ => 0)
  | 4 => (match s with | 0 => 1 | 1 => 2 | 2 => 3 | 3 => 4 | 4 => 5 | _ => 0)
  | 5 => (match s with | 0 => 1 | 1 => 7 | 2 => 13 | 3 => 19 | 4 => 22 | 5 => 28 | _ => 0)
  | 6 => (match s with | 0 => 1 | 1 => 2 | _ => 0)
  | 7 => (match s with | 0 => 1 | 1 => 2 | _ => 0)
  | 8 => (match s with | 0 => 1 | 2 => 32 | 3 => 34 | 4 => 37 | 5 => 41 | _ => 0)
  | _ => (match s with | 0 => 1 | 1 => 2 | 3 => 3 | 4 => 4 | 5 => 5 | 7 => 6 | 8 => 7 | 10 => 8 | 11 => 9 | 13 => 10 | _ => 0)
def isK (sh : Shp) (c k : Nat) : Prop := c < sh.1 ∧ sh.2.1 c = k
def isA (sh : Shp) (c k n : Nat) : Prop := c < sh.1 ∧ sh.2.1 c = k ∧ sh.2.2.1 c = n
def fv (sh : Shp) (ad : Nat → Nat) (hp : HP) (c k : Nat) : Value := if offR (sh.2.1 c) k = 0 then (if sh.2.1 c = 8 ∧ k = 1 then sh.2.2.2 else .int (hp.1 c k)) else .ref (ad (c + offR (sh.2.1 c) k))
def cE (cy : ClassId × ClassId) (sh : Shp) (ad : Nat → Nat) (hp : HP) (c : Nat) : va_E := if sh.2.1 c = 10 then .inl (cy.1, sh.2.2.1 c, .inl (hp.1 c)) else if sh.2.1 c = 11 then .inl (cy.2, sh.2.2.1 c, .inr (.inl (hp.2 c))) else .inr (sh.2.1 c, (List.range (nsl (sh.2.1 c))).map (fv sh ad hp c))
def wl (cy : ClassId × ClassId) (sh : Shp) (ad : Nat → Nat) (hp : HP) : va_W := (List.range sh.1).map (fun c => (ad c, cE cy sh ad hp c))
theorem wl_get {cy : ClassId × ClassId} {sh : Shp} {ad : Nat → Nat} {hp : HP} {c : Nat} (h : c < sh.1) : (wl cy sh ad hp)[c]? = some (ad c, cE cy sh ad hp c) := by
  simp [wl, h]
theorem wl_at {cy : ClassId × ClassId} {sh : Shp} {ad : Nat → Nat} {hp : HP} {c : Nat} {q : Nat × va_E} (h : (wl cy sh ad hp)[c]? = some q) : c < sh.1 ∧ q = (ad c, cE cy sh ad hp c) := by
  have hc : c < sh.1 := by
    have := (List.getElem?_eq_some_iff.mp h).1
    simpa [wl] using this
  rw [wl_get hc] at h
  exact ⟨hc, (Option.some.inj h).symm⟩
theorem wl_ext {cy : ClassId × ClassId} {sh : Shp} {ad : Nat → Nat} {hp hp' : HP} {c : Nat} {e : va_E} (hc : c < sh.1) (he : e = cE cy sh ad hp' c) (ho : ∀ i, i ≠ c → cE cy sh ad hp' i = cE cy sh ad hp i) : (wl cy sh ad hp).set c (ad c, e) = wl cy sh ad hp' := by
  apply List.ext_getElem?
  intro i
  by_cases hi : i = c
  · subst hi
    rw [wl_get hc, List.getElem?_set_self (by simpa [wl] using hc), he]
  · rw [List.getElem?_set_ne (Ne.symm hi)]
    by_cases hl : i < sh.1
    · rw [wl_get hl, wl_get hl, ho i hi]
    · rw [List.getElem?_eq_none (by simpa [wl] using hl), List.getElem?_eq_none (by simpa [wl] using hl)]
theorem cE_upI_ne {cy : ClassId × ClassId} {sh : Shp} {ad : Nat → Nat} {hp : HP} {c j : Nat} {x : Int32} {i : Nat} (h : i ≠ c) : cE cy sh ad (upI hp c j x) i = cE cy sh ad hp i := by
  have e1 : (upI hp c j x).1 i = hp.1 i := by funext b; simp [upI, h]
  have e2 : fv sh ad (upI hp c j x) i = fv sh ad hp i := by funext k; simp only [fv, e1]
  simp only [cE, e1, e2, show (upI hp c j x).2 = hp.2 from rfl]
theorem cE_upJ_ne {cy : ClassId × ClassId} {sh : Shp} {ad : Nat → Nat} {hp : HP} {c j : Nat} {x : Int64} {i : Nat} (h : i ≠ c) : cE cy sh ad (upJ hp c j x) i = cE cy sh ad hp i := by
  have e1 : (upJ hp c j x).2 i = hp.2 i := by funext b; simp [upJ, h]
  have e2 : fv sh ad (upJ hp c j x) i = fv sh ad hp i := by funext k; simp only [fv, show (upJ hp c j x).1 = hp.1 from rfl]
  simp only [cE, e1, e2, show (upJ hp c j x).1 = hp.1 from rfl]
theorem wl_setA {cy : ClassId × ClassId} {sh : Shp} {ad : Nat → Nat} {hp : HP} {c n j : Nat} {x : Int32} (hc : isA sh c 10 n) : (wl cy sh ad hp).set c (ad c, .inl (cy.1, n, .inl (upd (hp.1 c) j x))) = wl cy sh ad (upI hp c j x) := by
  refine wl_ext hc.1 ?_ (fun i hi => cE_upI_ne hi)
  have e1 : (upI hp c j x).1 c = upd (hp.1 c) j x := by funext b; simp [upI, upd]
  simp only [cE, hc.2.1, if_true, hc.2.2, e1]
theorem wl_setJ {cy : ClassId × ClassId} {sh : Shp} {ad : Nat → Nat} {hp : HP} {c n j : Nat} {x : Int64} (hc : isA sh c 11 n) : (wl cy sh ad hp).set c (ad c, .inl (cy.2, n, .inr (.inl (vp_updL (hp.2 c) j x)))) = wl cy sh ad (upJ hp c j x) := by
  refine wl_ext hc.1 ?_ (fun i hi => cE_upJ_ne hi)
  have e1 : (upJ hp c j x).2 c = vp_updL (hp.2 c) j x := by funext b; simp [upJ, vp_updL]
  simp only [cE, hc.2.1, hc.2.2, e1, show ¬ ((11 : Nat) = 10) by decide, if_false, if_true]
theorem wl_setF {cy : ClassId × ClassId} {sh : Shp} {ad : Nat → Nat} {hp : HP} {c kd k : Nat} {x : Int32} (hc : isK sh c kd) (h10 : kd < 10) (h0 : offR kd k = 0) (h1 : ¬ (kd = 8 ∧ k = 1)) : (wl cy sh ad hp).set c (ad c, .inr (kd, ((List.range (nsl kd)).map (fv sh ad hp c)).set k (.int x))) = wl cy sh ad (upI hp c k x) := by
  refine wl_ext hc.1 ?_ (fun i hi => cE_upI_ne hi)
  have n10 : ¬ kd = 10 := by omega
  have n11 : ¬ kd = 11 := by omega
  simp only [cE, hc.2, n10, n11, if_false]
  congr 2
  apply List.ext_getElem?
  intro i
  by_cases hi : i = k
  · subst hi
    by_cases hl : i < nsl kd
    · rw [List.getElem?_set_self (by simpa using hl)]
      simp only [List.getElem?_map, List.getElem?_range hl, Option.map_some]
      simp [fv, hc.2, h0, h1, upI]
    · rw [List.getElem?_eq_none (by simpa using hl), List.getElem?_eq_none (by simpa using hl)]
  · rw [List.getElem?_set_ne (Ne.symm hi)]
    by_cases hl : i < nsl kd
    · simp only [List.getElem?_map, List.getElem?_range hl, Option.map_some]
      simp [fv, upI, hi]
    · rw [List.getElem?_eq_none (by simpa using hl), List.getElem?_eq_none (by simpa using hl)]
theorem cE_obj {cy : ClassId × ClassId} {sh : Shp} {ad : Nat → Nat} {hp : HP} {c kd : Nat} (hc : isK sh c kd) (h10 : kd < 10) : (wl cy sh ad hp)[c]? = some (ad c, .inr (kd, (List.range (nsl kd)).map (fv sh ad hp c))) := by
  rw [wl_get hc.1]
  have n10 : ¬ kd = 10 := by omega
  have n11 : ¬ kd = 11 := by omega
  simp only [cE, hc.2, n10, n11, if_false]
theorem cE_ints {cy : ClassId × ClassId} {sh : Shp} {ad : Nat → Nat} {hp : HP} {c n : Nat} (hc : isA sh c 10 n) : (wl cy sh ad hp)[c]? = some (ad c, .inl (cy.1, n, .inl (hp.1 c))) := by
  rw [wl_get hc.1]
  simp only [cE, hc.2.1, hc.2.2, if_true]
theorem cE_longs {cy : ClassId × ClassId} {sh : Shp} {ad : Nat → Nat} {hp : HP} {c n : Nat} (hc : isA sh c 11 n) : (wl cy sh ad hp)[c]? = some (ad c, .inl (cy.2, n, .inr (.inl (hp.2 c)))) := by
  rw [wl_get hc.1]
  simp only [cE, hc.2.1, hc.2.2, show ¬ ((11 : Nat) = 10) by decide, if_false, if_true]
/-- the cells' addresses are unlike -/
def inj (sh : Shp) (ad : Nat → Nat) : Prop := ∀ i j, i < sh.1 → j < sh.1 → ad i = ad j → i = j
def AA (sh : Shp) (ad : Nat → Nat) (sz : Nat) : Nat → Prop := fun q => (∃ c, c < sh.1 ∧ q = ad c) ∨ sz ≤ q
theorem wl_D {cy : ClassId × ClassId} {sh : Shp} {ad : Nat → Nat} {hp : HP} {sz : Nat} (h : inj sh ad) : va_D (AA sh ad sz) (wl cy sh ad hp) := by
  refine ⟨fun i j p q hp hq e => ?_, fun k q hq => ?_⟩
  · obtain ⟨h1, rfl⟩ := wl_at hp
    obtain ⟨h2, rfl⟩ := wl_at hq
    exact h i j h1 h2 e
  · obtain ⟨h1, rfl⟩ := wl_at hq
    exact Or.inl ⟨k, h1, rfl⟩
/-- values: a reference is a cell's number; retAddr stands for the table COMPOSED -/
def cv (ad : Nat → Nat) (ct : Nat) : Value → Value
  | .ref c => .ref (ad c)
  | .retAddr _ => .ref ct
  | v => v
def lg : List (Option Value) → Nat → Option Value
  | [], _ => none
  | a :: _, 0 => a
  | _ :: t, i + 1 => lg t i
def clr (a : Option Value) : Option Value := match a with
  | some (.long _) => none
  | some (.double _) => none
  | a => a
def lst1 : List (Option Value) → Nat → Value → List (Option Value)
  | [], _, _ => []
  | _ :: t, 0, v => some v :: t
  | a :: t, i + 1, v => (match i with | 0 => clr a | _ + 1 => a) :: lst1 t i v
def lst2 : List (Option Value) → Nat → Value → List (Option Value)
  | [], _, _ => []
  | _ :: t, 0, v => some v :: (match t with | [] => [] | _ :: u => none :: u)
  | a :: t, i + 1, v => (match i with | 0 => clr a | _ + 1 => a) :: lst2 t i v
theorem lst1_len (lv : List (Option Value)) : ∀ (i : Nat) (v : Value), (lst1 lv i v).length = lv.length := by
  induction lv with
  | nil => intro i v; rfl
  | cons a t ih => intro i v; cases i with
    | zero => rfl
    | succ i => simp [lst1, ih]
theorem lst2_len (lv : List (Option Value)) : ∀ (i : Nat) (v : Value), (lst2 lv i v).length = lv.length := by
  induction lv with
  | nil => intro i v; rfl
  | cons a t ih => intro i v; cases i with
    | zero => cases t <;> simp [lst2]
    | succ i => simp [lst2, ih]
theorem clr_spec {a : Option Value} {u : Value} (h : clr a = some u) : a = some u ∧ u.category ≠ 2 := by
  rcases a with _ | v
  · cases h
  · cases v <;> simp [clr] at h <;> subst h <;> exact ⟨rfl, fun h => by cases h⟩
theorem lst1_spec (lv : List (Option Value)) : ∀ (i j : Nat) (v u : Value), lg (lst1 lv i v) j = some u → (j = i ∧ u = v) ∨ (j ≠ i ∧ lg lv j = some u ∧ ¬ (j + 1 = i ∧ u.category = 2)) := by
  induction lv with
  | nil => intro i j v u h; simp [lst1, lg] at h
  | cons a t ih =>
    intro i j v u h
    cases i with
    | zero => cases j with
      | zero => simp [lst1, lg] at h; exact Or.inl ⟨rfl, h.symm⟩
      | succ j => simp only [lst1, lg] at h; exact Or.inr ⟨by omega, h, by omega⟩
    | succ i => cases j with
      | zero =>
        simp only [lst1, lg] at h
        refine Or.inr ⟨by omega, ?_⟩
        cases i with
        | zero =>
          obtain ⟨h1, h2⟩ := clr_spec h
          exact ⟨by simpa [lg] using h1, fun z => h2 z.2⟩
        | succ i => exact ⟨by simpa [lg] using h, by omega⟩
      | succ j =>
        simp only [lst1, lg] at h
        rcases ih i j v u h with ⟨h1, h2⟩ | ⟨h1, h2, h3⟩
        · exact Or.inl ⟨by omega, h2⟩
        · exact Or.inr ⟨by omega, by simpa [lg] using h2, fun z => h3 ⟨by omega, z.2⟩⟩
theorem lst2_spec (lv : List (Option Value)) : ∀ (i j : Nat) (v u : Value), lg (lst2 lv i v) j = some u → (j = i ∧ u = v) ∨ (j ≠ i ∧ j ≠ i + 1 ∧ lg lv j = some u ∧ ¬ (j + 1 = i ∧ u.category = 2)) := by
  induction lv with
  | nil => intro i j v u h; simp [lst2, lg] at h
  | cons a t ih =>
    intro i j v u h
    cases i with
    | zero => cases j with
      | zero => simp [lst2, lg] at h; exact Or.inl ⟨rfl, h.symm⟩
      | succ j =>
        cases t with
        | nil => simp [lst2, lg] at h
        | cons b t => cases j with
          | zero => simp [lst2, lg] at h
          | succ j => simp only [lst2, lg] at h; exact Or.inr ⟨by omega, by omega, by simpa [lg] using h, by omega⟩
    | succ i => cases j with
      | zero =>
        simp only [lst2, lg] at h
        refine Or.inr ⟨by omega, by omega, ?_⟩
        cases i with
        | zero =>
          obtain ⟨h1, h2⟩ := clr_spec h
          exact ⟨by simpa [lg] using h1, fun z => h2 z.2⟩
        | succ i => exact ⟨by simpa [lg] using h, by omega⟩
      | succ j =>
        simp only [lst2, lg] at h
        rcases ih i j v u h with ⟨h1, h2⟩ | ⟨h1, h1', h2, h3⟩
        · exact Or.inl ⟨by omega, h2⟩
        · exact Or.inr ⟨by omega, by omega, by simpa [lg] using h2, fun z => h3 ⟨by omega, z.2⟩⟩
def lvL (ad : Nat → Nat) (ct : Nat) (lv : List (Option Value)) : List (Nat × Value) := (List.range lv.length).filterMap (fun j => (lg lv j).map (fun u => (j, cv ad ct u)))
theorem lg_lt {lv : List (Option Value)} : ∀ {j : Nat} {u : Value}, lg lv j = some u → j < lv.length := by
  induction lv with
  | nil => intro j u h; simp [lg] at h
  | cons a t ih => intro j u h; cases j with
    | zero => simp
    | succ j => simp only [lg] at h; have := ih h; simp; omega
theorem lvL_mem {ad : Nat → Nat} {ct : Nat} {lv : List (Option Value)} {j : Nat} {u : Value} (h : lg lv j = some u) : (j, cv ad ct u) ∈ lvL ad ct lv :=
  List.mem_filterMap.mpr ⟨j, List.mem_range.mpr (lg_lt h), by simp [h]⟩
def LR (ad : Nat → Nat) (ct nL : Nat) (lv : List (Option Value)) (ls : Array Slot) : Prop := lv.length = nL ∧ ls.size = nL ∧ lv_wf ls ∧ ∀ (i : Nat) (v : Value), lg lv i = some v → ls[i]? = some (.val (cv ad ct v))
theorem LR.has {ad : Nat → Nat} {ct nL : Nat} {lv : List (Option Value)} {ls : Array Slot} (h : LR ad ct nL lv ls) : lv_has ls nL (lvL ad ct lv) := by
  refine ⟨h.2.1, h.2.2.1, fun q hq => ?_⟩
  obtain ⟨j, -, hj⟩ := List.mem_filterMap.mp hq
  obtain ⟨u, hu, rfl⟩ := Option.map_eq_some_iff.mp hj
  exact h.2.2.2 j u hu
theorem cv_cat (ad : Nat → Nat) (ct : Nat) (u : Value) : (cv ad ct u).category = u.category := by cases u <;> rfl
theorem LR.st1 {ad : Nat → Nat} {ct nL : Nat} {lv : List (Option Value)} {ls ls' : Array Slot} {i : Nat} {v : Value} (h : LR ad ct nL lv ls) (h' : lv_has ls' nL ((i, cv ad ct v) :: (lvL ad ct lv).filter (fun q => !(q.1 == i) && !(q.1 + 1 == i && q.2.category == 2)))) : LR ad ct nL (lst1 lv i v) ls' := by
  refine ⟨by rw [lst1_len]; exact h.1, h'.1, h'.2.1, fun j u hu => ?_⟩
  rcases lst1_spec lv i j v u hu with ⟨rfl, rfl⟩ | ⟨h1, h2, h3⟩
  · exact h'.2.2 (j, _) List.mem_cons_self
  · refine h'.2.2 (j, _) (List.mem_cons_of_mem _ (List.mem_filter.mpr ⟨lvL_mem h2, ?_⟩))
    simp only [cv_cat, Bool.and_eq_true, Bool.not_eq_true', beq_eq_false_iff_ne, Bool.and_eq_false_iff]
    refine ⟨h1, ?_⟩
    by_cases hj : j + 1 = i
    · exact Or.inr (fun z => h3 ⟨hj, by rw [← cv_cat ad ct u]; exact z⟩)
    · exact Or.inl hj
theorem LR.st2 {ad : Nat → Nat} {ct nL : Nat} {lv : List (Option Value)} {ls ls' : Array Slot} {i : Nat} {v : Value} (h : LR ad ct nL lv ls) (h' : lv_has ls' nL ((i, cv ad ct v) :: (lvL ad ct lv).filter (fun q => !(q.1 == i) && (!(q.1 == i + 1) && !(q.1 + 1 == i && q.2.category == 2))))) : LR ad ct nL (lst2 lv i v) ls' := by
  refine ⟨by rw [lst2_len]; exact h.1, h'.1, h'.2.1, fun j u hu => ?_⟩
  rcases lst2_spec lv i j v u hu with ⟨rfl, rfl⟩ | ⟨h1, h1', h2, h3⟩
  · exact h'.2.2 (j, _) List.mem_cons_self
  · refine h'.2.2 (j, _) (List.mem_cons_of_mem _ (List.mem_filter.mpr ⟨lvL_mem h2, ?_⟩))
    simp only [cv_cat, Bool.and_eq_true, Bool.not_eq_true', beq_eq_false_iff_ne, Bool.and_eq_false_iff]
    refine ⟨h1, h1', ?_⟩
    by_cases hj : j + 1 = i
    · exact Or.inr (fun z => h3 ⟨hj, by rw [← cv_cat ad ct u]; exact z⟩)
    · exact Or.inl hj
theorem LR.weak {ad : Nat → Nat} {ct nL : Nat} {lv lv' : List (Option Value)} {ls : Array Slot} (h : LR ad ct nL lv ls) (hl : lv'.length = lv.length) (hw : ∀ i v, lg lv' i = some v → lg lv i = some v) : LR ad ct nL lv' ls := ⟨hl.trans h.1, h.2.1, h.2.2.1, fun i v hv => h.2.2.2 i v (hw i v hv)⟩
end
section
def cmpL : List Int32 := [1, 1, 1, 1, 31, 31, 1, 1, 1, 1, 31, 31, 8191, 1, 1, 1, 2, 28, 28, 2, 1, 1, 2, 28, 224, 7936, 1, 1, 7, 4, 28, 28, 4, 7, 391, 388, 2044, 1792, 7936, 1, 1, 7, 8, 16, 16, 8, 7, 391, 584, 1072, 2048, 4096, 1, 1, 31, 16, 16, 16, 16, 31, 8191, 7216, 7216, 4096, 4096, 1, 2, 28, 16, 16, 32, 32, 224, 7936, 7168, 7168, 4096, 4096, 1, 2, 4, 8, 16, 32, 64, 128, 256, 512, 1024, 2048, 4096, 1, 2, 4, 4, 28, 224, 128, 128, 256, 256, 1792, 1792, 7936, 391, 388, 388, 388, 2044, 1792, 256, 256, 256, 256, 1792, 1792, 7936, 391, 388, 388, 584, 1072, 1024, 512, 256, 256, 512, 1024, 2048, 4096, 391, 388, 2044, 1072, 1072, 1024, 1024, 1792, 7936, 7168, 7168, 4096, 4096, 391, 584, 1072, 1072, 1072, 2048, 2048, 2048, 4096, 4096, 4096, 4096, 4096, 8191, 7216, 7216, 7216, 7216, 4096, 4096, 4096, 4096, 4096, 4096, 4096, 4096]
def cmpT (j : Nat) : Int32 := cmpL.getD j 0
theorem zLink : Cond.fieldLink (nmC 8) 401 "TimedJoin" "COMPOSED" "[I" ∈ GW := gwI 826 (by decide +kernel)

def Zt (ct : Nat) (A : Nat → Prop) (U : State) (H : Heap) : Prop := va_Z "TimedJoin" "COMPOSED" "[I" (.ref ct) A U H ∧ va_T .int ct 169 (fun j => .int (cmpT j)) A U H
def tys2 (cy : ClassId × ClassId) : List (ClassId × FieldType) := [(cy.1, .int), (cy.2, .long)]
def rmL (d : Nat) : Room := { frames := d, cells := 0, slots := 0, locals := 40 * d }
def PostX (D : va_G) (cy : ClassId × ClassId) (sh : Shp) (ad : Nat → Nat) (ct : Nat) (r : Option Value) (hp0 : HP) (sz : Nat) : Array Value → State → Outcome → State → Prop := fun _ st oc t => (oc = .returned (r.map (cv ad ct)) ∧ va_P D vwCl (wl cy sh ad hp0) t.heap) ∧ va_F (AA sh ad sz) st t
def PreX (D : va_G) (cy : ClassId × ClassId) (sh : Shp) (ad : Nat → Nat) (ct : Nat) (hp : HP) (sz : Nat) (U : State) : Prop := U.heap.size = sz ∧ va_P D vwCl (wl cy sh ad hp) U.heap ∧ va_K D vwCl (tys2 cy) U ∧ inj sh ad ∧ Zt ct (AA sh ad sz) U U.heap ∧ NW U
/-- the contract of a method: from the world hp it answers r and leaves the world hp' -/
def Ex (d : Nat) (q : MI) (sh : Shp) (as : List Value) (hp : HP) (r : Option Value) (hp' : HP) : Prop := ∀ (l : Launch) (D : va_G) (cy : ClassId × ClassId) (ad : Nat → Nat) (ct sz : Nat), Met l q.1 (wsM q) (rmL d) (va_Pc (as.map (cv ad ct)) (PreX D cy sh ad ct hp sz)) (PostX D cy sh ad ct r hp' sz) 0 0 (AA sh ad sz)
def FxC (q : MI) (sh : Shp) (p : Program) (s : State) (m : MethodId) (args : Array Value) (meth : Method) (c : Code) (D : va_G) (cy : ClassId × ClassId) (ad : Nat → Nat) (ct : Nat) : Prop := (p.tables.exec = Jvm.exec ∧ c.code = q.2.1 ∧ c.maxLocals = q.2.2.1 ∧ meth.sig.returnType = q.2.2.2.1 ∧ meth.locks = false ∧ s.vm.findClass (nmC q.2.2.2.2) = some m.cls ∧ ∀ w ∈ wsM q, w.before args s = true) ∧ va_K D vwCl (tys2 cy) s ∧ inj sh ad ∧ Zt ct (AA sh ad s.heap.size) s s.heap ∧ NW s
def FxH (q : MI) (sh : Shp) (s : State) (D : va_G) (cy : ClassId × ClassId) (ad : Nat → Nat) (ct : Nat) (lv : List (Option Value)) (hp : HP) (ls : Array Slot) (H : Heap) (locs : List Loc) : Prop := LR ad ct q.2.2.1 lv ls ∧ va_P D vwCl (wl cy sh ad hp) H ∧ va_S (AA sh ad s.heap.size) s.heap H locs
/-- from the frame at pc, with locals lv, stack stk, world hp, the method comes to its end with r and the world hp0 -/
def Fx (q : MI) (d : Nat) (sh : Shp) (pc : Nat) (lv : List (Option Value)) (stk : List Value) (hp : HP) (r : Option Value) (hp0 : HP) : Prop := ∀ (p : Program) (l : Launch) (e : Env) (s : State) (m : MethodId) (args : Array Value) (below : List Frame) (meth : Method) (c : Code) (D : va_G) (cy : ClassId × ClassId) (ad : Nat → Nat) (ct : Nat), FxC q sh p s m args meth c D cy ad ct → ∀ (ls : Array Slot) (H : Heap) (locs : List Loc), FxH q sh s D cy ad ct lv hp ls H locs → W p l e (rmL d) s m args below meth c H locs 0 0 (MQ below (PostX D cy sh ad ct r hp0 s.heap.size) args s 0 0 (AA sh ad s.heap.size)) (F0 m pc ls (stk.map (cv ad ct)))
abbrev Zn : Type := Instr × Nat × Nat × Nat × Value
abbrev KK : Type := List (Option Value) → List Value → HP → Prop
def wp1 (sh : Shp) (z : Zn) (lv : List (Option Value)) (stk : List Value) (hp : HP) (K : KK) : Prop :=
  match z.1 with
  | .iconst _ => K lv (z.2.2.2.2 :: stk) hp
  | .bipush _ => K lv (z.2.2.2.2 :: stk) hp
  | .sipush _ => K lv (z.2.2.2.2 :: stk) hp
  | .ldc _ => K lv (z.2.2.2.2 :: stk) hp
  | .ldc_w _ => K lv (z.2.2.2.2 :: stk) hp
  | .lconst _ => K lv (z.2.2.2.2 :: stk) hp
  | .ldc2_w _ => K lv (z.2.2.2.2 :: stk) hp
  | .iload_n _ => (match lg lv z.2.2.1 with | some (.int x) => K lv (.int x :: stk) hp | _ => False)
  | .iload _ => (match lg lv z.2.2.1 with | some (.int x) => K lv (.int x :: stk) hp | _ => False)
  | .lload_n _ => (match lg lv z.2.2.1 with | some (.long x) => K lv (.long x :: stk) hp | _ => False)
  | .lload _ => (match lg lv z.2.2.1 with | some (.long x) => K lv (.long x :: stk) hp | _ => False)
  | .aload_n _ => (match lg lv z.2.2.1 with | some (.ref x) => K lv (.ref x :: stk) hp | _ => False)
  | .aload _ => (match lg lv z.2.2.1 with | some (.ref x) => K lv (.ref x :: stk) hp | _ => False)
  | .istore_n _ => (match stk with | .int x :: st => K (lst1 lv z.2.2.1 (.int x)) st hp | _ => False)
  | .istore _ => (match stk with | .int x :: st => K (lst1 lv z.2.2.1 (.int x)) st hp | _ => False)
  | .astore_n _ => (match stk with | .ref x :: st => K (lst1 lv z.2.2.1 (.ref x)) st hp | _ => False)
  | .astore _ => (match stk with | .ref x :: st => K (lst1 lv z.2.2.1 (.ref x)) st hp | _ => False)
  | .lstore_n _ => (match stk with | .long x :: st => K (lst2 lv z.2.2.1 (.long x)) st hp | _ => False)
  | .lstore _ => (match stk with | .long x :: st => K (lst2 lv z.2.2.1 (.long x)) st hp | _ => False)
  | .iinc _ _ => (match lg lv z.2.2.1 with | some (.int x) => (match z.2.2.2.2 with | .int k => K (lst1 lv z.2.2.1 (.int (x + k))) stk hp | _ => False) | _ => False)
  | .iadd => (match stk with | .int y :: .int x :: st => K lv (.int (x + y) :: st) hp | _ => False)
  | .isub => (match stk with | .int y :: .int x :: st => K lv (.int (x - y) :: st) hp | _ => False)
  | .imul => (match stk with | .int y :: .int x :: st => K lv (.int (x * y) :: st) hp | _ => False)
  | .iand => (match stk with | .int y :: .int x :: st => K lv (.int (x &&& y) :: st) hp | _ => False)
  | .ior => (match stk with | .int y :: .int x :: st => K lv (.int (x ||| y) :: st) hp | _ => False)
  | .ishl => (match stk with | .int y :: .int x :: st => K lv (.int (x <<< (y &&& 31)) :: st) hp | _ => False)
  | .ishr => (match stk with | .int y :: .int x :: st => K lv (.int (x >>> (y &&& 31)) :: st) hp | _ => False)
  | .idiv => (match stk with | .int y :: .int x :: st => ¬ y = 0 ∧ K lv (.int (x / y) :: st) hp | _ => False)
  | .irem => (match stk with | .int y :: .int x :: st => ¬ y = 0 ∧ K lv (.int (x - x / y * y) :: st) hp | _ => False)
  | .ladd => (match stk with | .long y :: .long x :: st => K lv (.long (x + y) :: st) hp | _ => False)
  | .lsub => (match stk with | .long y :: .long x :: st => K lv (.long (x - y) :: st) hp | _ => False)
  | .lmul => (match stk with | .long y :: .long x :: st => K lv (.long (x * y) :: st) hp | _ => False)
  | .land => (match stk with | .long y :: .long x :: st => K lv (.long (x &&& y) :: st) hp | _ => False)
  | .lor => (match stk with | .long y :: .long x :: st => K lv (.long (x ||| y) :: st) hp | _ => False)
  | .lshl => (match stk with | .int y :: .long x :: st => K lv (.long (x <<< (y.toInt64 &&& 63)) :: st) hp | _ => False)
  | .lshr => (match stk with | .int y :: .long x :: st => K lv (.long (x >>> (y.toInt64 &&& 63)) :: st) hp | _ => False)
  | .lcmp => (match stk with | .long y :: .long x :: st => K lv (.int (lg_cmp x y) :: st) hp | _ => False)
  | .i2l => (match stk with | .int x :: st => K lv (.long x.toInt64 :: st) hp | _ => False)
  | .l2i => (match stk with | .long x :: st => K lv (.int x.toInt32 :: st) hp | _ => False)
  | .dup => (match stk with | .int x :: st => K lv (.int x :: .int x :: st) hp | .ref x :: st => K lv (.ref x :: .ref x :: st) hp | _ => False)
  | .dup2 => (match stk with | .int x :: .ref y :: st => K lv (.int x :: .ref y :: .int x :: .ref y :: st) hp | _ => False)
  | .pop => (match stk with | .int _ :: st => K lv st hp | _ => False)
  | .getfield _ => (match stk with
    | .ref c :: st => isK sh c z.2.2.1 ∧ (match z.2.2.2.2 with | .ref o => K lv (.ref (c + o) :: st) hp | _ => K lv (.int (hp.1 c z.2.2.2.1) :: st) hp)
    | _ => False)
  | .putfield _ => (match stk with
    | .int x :: .ref c :: st => isK sh c z.2.2.1 ∧ (match z.2.2.2.2 with | .null => K lv st (upI hp c z.2.2.2.1 x) | _ => (x = 0 ∨ x = 1) ∧ K lv st (upI hp c z.2.2.2.1 x))
    | _ => False)
  | .iaload => (match stk with
    | .int i :: .ref c :: st => (isA sh c 10 z.2.2.1 ∧ inb i z.2.2.1) ∧ K lv (.int (hp.1 c (ix i)) :: st) hp
    | .int i :: .retAddr _ :: st => inb i 169 ∧ K lv (.int (cmpT (ix i)) :: st) hp
    | _ => False)
  | .laload => (match stk with
    | .int i :: .ref c :: st => (isA sh c 11 z.2.2.1 ∧ inb i z.2.2.1) ∧ K lv (.long (hp.2 c (ix i)) :: st) hp
    | _ => False)
  | .iastore => (match stk with
    | .int x :: .int i :: .ref c :: st => (isA sh c 10 z.2.2.1 ∧ inb i z.2.2.1) ∧ K lv st (upI hp c (ix i) x)
    | _ => False)
  | .lastore => (match stk with
    | .long x :: .int i :: .ref c :: st => (isA sh c 11 z.2.2.1 ∧ inb i z.2.2.1) ∧ K lv st (upJ hp c (ix i) x)
    | _ => False)
  | .getstatic _ => K lv (.retAddr 0 :: stk) hp
  | _ => False
def wpl (sh : Shp) : List Zn → List (Option Value) → List Value → HP → KK → Prop
  | [], lv, st, hp, K => K lv st hp
  | z :: zs, lv, st, hp, K => wp1 sh z lv st hp (fun lv st hp => wpl sh zs lv st hp K)
/-- what is looked at ahead: the row's words, numbers, lengths -/
def chk (q : MI) (z : Zn) : Bool :=
  match z.1 with
  | .iconst n => decide (z.2.1 = 1) && decide (z.2.2.2.2 = .int (Int32.ofInt n))
  | .bipush n => decide (z.2.1 = 2) && decide (z.2.2.2.2 = .int (Int8.ofInt n).toInt32)
  | .sipush n => decide (z.2.1 = 3) && decide (z.2.2.2.2 = .int (Int16.ofInt n).toInt32)
  | .ldc k => decide (z.2.1 = 2) && (match z.2.2.2.2 with | .int v => decide ((q.2.2.2.2, k, v) ∈ KTL) | _ => false)
  | .ldc_w k => decide (z.2.1 = 3) && (match z.2.2.2.2 with | .int v => decide ((q.2.2.2.2, k, v) ∈ KTL) | _ => false)
  | .lconst n => decide (z.2.1 = 1) && decide (z.2.2.2.2 = .long (Int64.ofNat n.val))
  | .ldc2_w k => decide (z.2.1 = 3) && (match z.2.2.2.2 with | .long v => decide ((q.2.2.2.2, k, v) ∈ LTL) | _ => false)
  | .iload_n k => decide (z.2.1 = 1) && decide (k.val = z.2.2.1)
  | .lload_n k => decide (z.2.1 = 1) && decide (k.val = z.2.2.1)
  | .aload_n k => decide (z.2.1 = 1) && decide (k.val = z.2.2.1)
  | .iload k => decide (z.2.1 = 2) && decide (k = z.2.2.1)
  | .lload k => decide (z.2.1 = 2) && decide (k = z.2.2.1)
  | .aload k => decide (z.2.1 = 2) && decide (k = z.2.2.1)
  | .istore_n k => decide (z.2.1 = 1) && (decide (k.val = z.2.2.1) && decide (z.2.2.1 < q.2.2.1))
  | .astore_n k => decide (z.2.1 = 1) && (decide (k.val = z.2.2.1) && decide (z.2.2.1 < q.2.2.1))
  | .lstore_n k => decide (z.2.1 = 1) && (decide (k.val = z.2.2.1) && decide (z.2.2.1 + 1 < q.2.2.1))
  | .istore k => decide (z.2.1 = 2) && (decide (k = z.2.2.1) && decide (z.2.2.1 < q.2.2.1))
  | .astore k => decide (z.2.1 = 2) && (decide (k = z.2.2.1) && decide (z.2.2.1 < q.2.2.1))
  | .lstore k => decide (z.2.1 = 2) && (decide (k = z.2.2.1) && decide (z.2.2.1 + 1 < q.2.2.1))
  | .iinc k n => decide (z.2.1 = 3) && (decide (k = z.2.2.1) && (decide (z.2.2.1 < q.2.2.1) && decide (z.2.2.2.2 = .int (Int32.ofInt n))))
  | .getfield k => decide (z.2.1 = 3) && (decide ((q.2.2.2.2, k, z.2.2.1 * 100 + z.2.2.2.1) ∈ FTL) && (decide (z.2.2.1 < 10) && (decide (z.2.2.2.1 < nsl z.2.2.1) && (decide (z.2.2.2.1 < 100) && (match z.2.2.2.2 with | .ref o => decide (offR z.2.2.1 z.2.2.2.1 = o) && decide (o ≠ 0) | _ => decide (offR z.2.2.1 z.2.2.2.1 = 0) && decide (¬ (z.2.2.1 = 8 ∧ z.2.2.2.1 = 1)))))))
  | .putfield k => decide (z.2.1 = 3) && (decide ((q.2.2.2.2, k, z.2.2.1 * 100 + z.2.2.2.1) ∈ FTL) && (decide (z.2.2.1 < 10) && (decide (z.2.2.2.1 < nsl z.2.2.1) && (decide (z.2.2.2.1 < 100) && (decide (offR z.2.2.1 z.2.2.2.1 = 0) && (decide (¬ (z.2.2.1 = 8 ∧ z.2.2.2.1 = 1)) && (decide ((fT z.2.2.1 z.2.2.2.1).2.2.2 = false) && (match z.2.2.2.2 with | .null => decide (parseFieldDescriptor (fT z.2.2.1 z.2.2.2.1).2.2.1 = some .int) | _ => decide (parseFieldDescriptor (fT z.2.2.1 z.2.2.2.1).2.2.1 = some .boolean)))))))))
  | .getstatic k => decide (z.2.1 = 3) && (decide (k = 401) && decide (q.2.2.2.2 = 8))
  | _ => decide (z.2.1 = 1)
def okc (q : MI) (pc : Nat) (z : Zn) : Bool := decide (decode q.2.1 pc = .ok (z.1, z.2.1)) && chk q z
def okL (q : MI) : Nat → List Zn → Nat → Bool
  | pc, [], e => decide (pc = e)
  | pc, z :: zs, e => okc q pc z && okL q (pc + z.2.1) zs e
section SX
variable {q : MI} {d : Nat} {sh : Shp} {pc : Nat} {lv : List (Option Value)} {stk : List Value} {hp : HP} {r : Option Value} {hp0 : HP}
theorem Fx.mk1 {pc' : Nat} {stk' : List Value} (h : Fx q d sh pc' lv stk' hp r hp0)
    (hs : ∀ (p : Program) (l : Launch) (e : Env) (s : State) (m : MethodId) (args : Array Value) (below : List Frame) (meth : Method) (c : Code) (D : va_G) (cy : ClassId × ClassId) (ad : Nat → Nat) (ct : Nat), FxC q sh p s m args meth c D cy ad ct → ∀ (ls : Array Slot) (H : Heap) (locs : List Loc), FxH q sh s D cy ad ct lv hp ls H locs → ∀ Q : State → Prop, W p l e (rmL d) s m args below meth c H locs 0 0 Q (F0 m pc' ls (stk'.map (cv ad ct))) → W p l e (rmL d) s m args below meth c H locs 0 0 Q (F0 m pc ls (stk.map (cv ad ct)))) : Fx q d sh pc lv stk hp r hp0 :=
  fun p l e s m args below meth c D cy ad ct C ls H locs hh => hs p l e s m args below meth c D cy ad ct C ls H locs hh _ (h p l e s m args below meth c D cy ad ct C ls H locs hh)
/-- a store into a local -/
theorem Fx.mkL {pc' : Nat} {stk' : List Value} {lv' : List (Option Value)} (h : Fx q d sh pc' lv' stk' hp r hp0)
    (hs : ∀ (p : Program) (l : Launch) (e : Env) (s : State) (m : MethodId) (args : Array Value) (below : List Frame) (meth : Method) (c : Code) (D : va_G) (cy : ClassId × ClassId) (ad : Nat → Nat) (ct : Nat), FxC q sh p s m args meth c D cy ad ct → ∀ (ls : Array Slot) (H : Heap) (locs : List Loc), LR ad ct q.2.2.1 lv ls → ∀ Q : State → Prop, (∀ ls' : Array Slot, LR ad ct q.2.2.1 lv' ls' → W p l e (rmL d) s m args below meth c H locs 0 0 Q (F0 m pc' ls' (stk'.map (cv ad ct)))) → W p l e (rmL d) s m args below meth c H locs 0 0 Q (F0 m pc ls (stk.map (cv ad ct)))) : Fx q d sh pc lv stk hp r hp0 :=
  fun p l e s m args below meth c D cy ad ct C ls H locs hh => hs p l e s m args below meth c D cy ad ct C ls H locs hh.1 _ (fun ls' hl => h p l e s m args below meth c D cy ad ct C ls' H locs ⟨hl, hh.2⟩)
/-- a write into the world -/
theorem Fx.mkH {pc' : Nat} {stk' : List Value} {hp' : HP} (h : Fx q d sh pc' lv stk' hp' r hp0)
    (hs : ∀ (p : Program) (l : Launch) (e : Env) (s : State) (m : MethodId) (args : Array Value) (below : List Frame) (meth : Method) (c : Code) (D : va_G) (cy : ClassId × ClassId) (ad : Nat → Nat) (ct : Nat), FxC q sh p s m args meth c D cy ad ct → ∀ (ls : Array Slot) (H : Heap) (locs : List Loc), LR ad ct q.2.2.1 lv ls → va_P D vwCl (wl cy sh ad hp) H → va_S (AA sh ad s.heap.size) s.heap H locs → ∀ Q : State → Prop, (∀ (H1 : Heap) (locs1 : List Loc), va_P D vwCl (wl cy sh ad hp') H1 → va_S (AA sh ad s.heap.size) s.heap H1 locs1 → W p l e (rmL d) s m args below meth c H1 locs1 0 0 Q (F0 m pc' ls (stk'.map (cv ad ct)))) → W p l e (rmL d) s m args below meth c H locs 0 0 Q (F0 m pc ls (stk.map (cv ad ct)))) : Fx q d sh pc lv stk hp r hp0 :=
  fun p l e s m args below meth c D cy ad ct C ls H locs hh => hs p l e s m args below meth c D cy ad ct C ls H locs hh.1 hh.2.1 hh.2.2 _ (fun H1 locs1 h1 h2 => h p l e s m args below meth c D cy ad ct C ls H1 locs1 ⟨hh.1, h1, h2⟩)
end SX
theorem kd_cl {k : Nat} (h : k < 10) : vwCl[k]? = some (nmC k, fT k, nsl k) := by
  match k, h with
  | 0, _ => rfl | 1, _ => rfl | 2, _ => rfl | 3, _ => rfl | 4, _ => rfl | 5, _ => rfl | 6, _ => rfl | 7, _ => rfl | 8, _ => rfl | 9, _ => rfl
theorem kd_ws {k : Nat} (h : k < 10) : ∀ w ∈ u_ws (nmC k) (fT k) (nsl k), w ∈ GW := by
  match k, h with
  | 0, _ => exact uX0 | 1, _ => exact uX1 | 2, _ => exact uX2 | 3, _ => exact uX3 | 4, _ => exact uX4 | 5, _ => exact uX5 | 6, _ => exact uX6 | 7, _ => exact uX7 | 8, _ => exact uX8 | 9, _ => exact uX9
theorem kd_ty {k : Nat} (h : k < 10) : ∀ j, j < nsl k → parseFieldDescriptor (fT k j).2.2.1 = some (fY k j) := by
  match k, h with
  | 0, _ => exact tyX0_ok | 1, _ => exact tyX1_ok | 2, _ => exact tyX2_ok | 3, _ => exact tyX3_ok | 4, _ => exact tyX4_ok | 5, _ => exact tyX5_ok | 6, _ => exact tyX6_ok | 7, _ => exact tyX7_ok | 8, _ => exact tyX8_ok | 9, _ => exact tyX9_ok
theorem kd_nm {k : Nat} (h : k < 10) : ∀ a, a < nsl k → ∀ b, b < nsl k → a ≠ b → (fT k a).2.1 ≠ (fT k b).2.1 := by
  match k, h with
  | 0, _ => exact nmX0 | 1, _ => exact nmX1 | 2, _ => exact nmX2 | 3, _ => exact nmX3 | 4, _ => exact nmX4 | 5, _ => exact nmX5 | 6, _ => exact nmX6 | 7, _ => exact nmX7 | 8, _ => exact nmX8 | 9, _ => exact nmX9
theorem ft_link {o k a b : Nat} (h : (o, k, a * 100 + b) ∈ FTL) (hb : b < 100) : Cond.fieldLink (nmC o) k (fT a b).1 (fT a b).2.1 (fT a b).2.2.1 ∈ GW := by
  have h1 := FTL_ok _ h
  have e1 : (a * 100 + b) / 100 = a := by omega
  have e2 : (a * 100 + b) % 100 = b := by omega
  simp only [FTok, e1, e2] at h1
  exact h1
theorem fv_get {sh : Shp} {ad : Nat → Nat} {hp : HP} {c kd k : Nat} (hk : k < nsl kd) : ((List.range (nsl kd)).map (fv sh ad hp c))[k]? = some (fv sh ad hp c k) := by
  simp [List.getElem?_range hk]
end
section
set_option maxHeartbeats 4000000 in
theorem sx1 {q : MI} {d : Nat} {sh : Shp} {pc : Nat} {lv : List (Option Value)} {stk : List Value} {hp : HP} {r : Option Value} {hp0 : HP} {z : Zn} (hok : okc q pc z = true) (h : wp1 sh z lv stk hp (fun lv' stk' hp' => Fx q d sh (pc + z.2.1) lv' stk' hp' r hp0)) : Fx q d sh pc lv stk hp r hp0 := by
  obtain ⟨ins, len, a, b, v⟩ := z
  simp only [okc, Bool.and_eq_true, decide_eq_true_eq] at hok
  obtain ⟨hd, hc⟩ := hok
  cases ins with
  | iconst n =>
    simp only [chk, Bool.and_eq_true, decide_eq_true_eq] at hc
    obtain ⟨rfl, rfl⟩ := hc
    exact Fx.mk1 h (fun _ _ _ _ _ _ _ _ _ _ _ _ _ C _ _ _ hh _ k => lv_iconst C.1.1 C.1.2.1 hd rfl k)
  | bipush n =>
    simp only [chk, Bool.and_eq_true, decide_eq_true_eq] at hc
    obtain ⟨rfl, rfl⟩ := hc
    exact Fx.mk1 h (fun _ _ _ _ _ _ _ _ _ _ _ _ _ C _ _ _ hh _ k => lv_bipush C.1.1 C.1.2.1 hd rfl k)
  | sipush n =>
    simp only [chk, Bool.and_eq_true, decide_eq_true_eq] at hc
    obtain ⟨rfl, rfl⟩ := hc
    exact Fx.mk1 h (fun _ _ _ _ _ _ _ _ _ _ _ _ _ C _ _ _ hh _ k => lv_sipush C.1.1 C.1.2.1 hd rfl k)
  | ldc n =>
    simp only [chk, Bool.and_eq_true, decide_eq_true_eq] at hc
    obtain ⟨rfl, hc⟩ := hc
    split at hc
    · simp only [decide_eq_true_eq] at hc
      exact Fx.mk1 h (fun _ _ _ _ _ _ _ _ _ _ _ _ _ C _ _ _ hh _ k => lv_ldc C.1.1 C.1.2.1 C.1.2.2.2.2.2.1 (C.1.2.2.2.2.2.2 _ (List.mem_cons_of_mem _ (KTL_ok _ hc))) hd k)
    · cases hc
  | ldc_w n =>
    simp only [chk, Bool.and_eq_true, decide_eq_true_eq] at hc
    obtain ⟨rfl, hc⟩ := hc
    split at hc
    · simp only [decide_eq_true_eq] at hc
      exact Fx.mk1 h (fun _ _ _ _ _ _ _ _ _ _ _ _ _ C _ _ _ hh _ k => lv_ldcw C.1.1 C.1.2.1 C.1.2.2.2.2.2.1 (C.1.2.2.2.2.2.2 _ (List.mem_cons_of_mem _ (KTL_ok _ hc))) hd k)
    · cases hc
  | lconst n =>
    simp only [chk, Bool.and_eq_true, decide_eq_true_eq] at hc
    obtain ⟨rfl, rfl⟩ := hc
    exact Fx.mk1 h (fun _ _ _ _ _ _ _ _ _ _ _ _ _ C _ _ _ hh _ k => lv_lconst C.1.1 C.1.2.1 hd rfl k)
  | ldc2_w n =>
    simp only [chk, Bool.and_eq_true, decide_eq_true_eq] at hc
    obtain ⟨rfl, hc⟩ := hc
    split at hc
    · simp only [decide_eq_true_eq] at hc
      exact Fx.mk1 h (fun _ _ _ _ _ _ _ _ _ _ _ _ _ C _ _ _ hh _ k => W.ldc2 C.1.1 C.1.2.1 C.1.2.2.2.2.2.1 (C.1.2.2.2.2.2.2 _ (List.mem_cons_of_mem _ (LTL_ok _ hc))) rfl hd k)
    · cases hc
  | iload_n n =>
    simp only [chk, Bool.and_eq_true, decide_eq_true_eq] at hc
    obtain ⟨rfl, hk⟩ := hc
    simp only [wp1] at h
    split at h
    · rename_i x hx
      exact Fx.mk1 h (fun _ _ _ _ _ _ _ _ _ _ _ _ _ C _ _ _ hh _ k => lv_iload_n C.1.1 C.1.2.1 hd hk (hh.1.2.2.2 _ _ hx) k)
    · exact h.elim
  | iload n =>
    simp only [chk, Bool.and_eq_true, decide_eq_true_eq] at hc
    obtain ⟨rfl, rfl⟩ := hc
    simp only [wp1] at h
    split at h
    · rename_i x hx
      exact Fx.mk1 h (fun _ _ _ _ _ _ _ _ _ _ _ _ _ C _ _ _ hh _ k => lv_iload C.1.1 C.1.2.1 hd (hh.1.2.2.2 _ _ hx) k)
    · exact h.elim
  | lload_n n =>
    simp only [chk, Bool.and_eq_true, decide_eq_true_eq] at hc
    obtain ⟨rfl, hk⟩ := hc
    simp only [wp1] at h
    split at h
    · rename_i x hx
      exact Fx.mk1 h (fun _ _ _ _ _ _ _ _ _ _ _ _ _ C _ _ _ hh _ k => lv_lload_n C.1.1 C.1.2.1 hd hk (hh.1.2.2.2 _ _ hx) k)
    · exact h.elim
  | lload n =>
    simp only [chk, Bool.and_eq_true, decide_eq_true_eq] at hc
    obtain ⟨rfl, rfl⟩ := hc
    simp only [wp1] at h
    split at h
    · rename_i x hx
      exact Fx.mk1 h (fun _ _ _ _ _ _ _ _ _ _ _ _ _ C _ _ _ hh _ k => lv_lload C.1.1 C.1.2.1 hd (hh.1.2.2.2 _ _ hx) k)
    · exact h.elim
  | aload_n n =>
    simp only [chk, Bool.and_eq_true, decide_eq_true_eq] at hc
    obtain ⟨rfl, hk⟩ := hc
    simp only [wp1] at h
    split at h
    · rename_i x hx
      exact Fx.mk1 h (fun _ _ _ _ _ _ _ _ _ _ _ _ _ C _ _ _ hh _ k => lv_aload_n C.1.1 C.1.2.1 hd hk (hh.1.2.2.2 _ _ hx) k)
    · exact h.elim
  | aload n =>
    simp only [chk, Bool.and_eq_true, decide_eq_true_eq] at hc
    obtain ⟨rfl, rfl⟩ := hc
    simp only [wp1] at h
    split at h
    · rename_i x hx
      exact Fx.mk1 h (fun _ _ _ _ _ _ _ _ _ _ _ _ _ C _ _ _ hh _ k => lv_aload C.1.1 C.1.2.1 hd (hh.1.2.2.2 _ _ hx) k)
    · exact h.elim
  | istore_n n =>
    simp only [chk, Bool.and_eq_true, decide_eq_true_eq] at hc
    obtain ⟨rfl, hk, hn⟩ := hc
    simp only [wp1] at h
    split at h
    · exact Fx.mkL h (fun _ _ _ _ _ _ _ _ _ _ _ _ _ C _ _ _ hl _ k => lv_istore_n C.1.1 C.1.2.1 hd hk hl.has hn rfl (fun ls' hl' => k ls' (hl.st1 hl')))
    · exact h.elim
  | istore n =>
    simp only [chk, Bool.and_eq_true, decide_eq_true_eq] at hc
    obtain ⟨rfl, rfl, hn⟩ := hc
    simp only [wp1] at h
    split at h
    · exact Fx.mkL h (fun _ _ _ _ _ _ _ _ _ _ _ _ _ C _ _ _ hl _ k => lv_istore C.1.1 C.1.2.1 hd hl.has hn rfl (fun ls' hl' => k ls' (hl.st1 hl')))
    · exact h.elim
  | astore_n n =>
    simp only [chk, Bool.and_eq_true, decide_eq_true_eq] at hc
    obtain ⟨rfl, hk, hn⟩ := hc
    simp only [wp1] at h
    split at h
    · exact Fx.mkL h (fun _ _ _ _ _ _ _ _ _ _ _ _ _ C _ _ _ hl _ k => lv_astore_n C.1.1 C.1.2.1 hd hk hl.has hn rfl (fun ls' hl' => k ls' (hl.st1 hl')))
    · exact h.elim
  | astore n =>
    simp only [chk, Bool.and_eq_true, decide_eq_true_eq] at hc
    obtain ⟨rfl, rfl, hn⟩ := hc
    simp only [wp1] at h
    split at h
    · exact Fx.mkL h (fun _ _ _ _ _ _ _ _ _ _ _ _ _ C _ _ _ hl _ k => lv_astore C.1.1 C.1.2.1 hd hl.has hn rfl (fun ls' hl' => k ls' (hl.st1 hl')))
    · exact h.elim
  | lstore_n n =>
    simp only [chk, Bool.and_eq_true, decide_eq_true_eq] at hc
    obtain ⟨rfl, hk, hn⟩ := hc
    simp only [wp1] at h
    split at h
    · exact Fx.mkL h (fun _ _ _ _ _ _ _ _ _ _ _ _ _ C _ _ _ hl _ k => lv_lstore_n C.1.1 C.1.2.1 hd hk hl.has hn rfl (fun ls' hl' => k ls' (hl.st2 hl')))
    · exact h.elim
  | lstore n =>
    simp only [chk, Bool.and_eq_true, decide_eq_true_eq] at hc
    obtain ⟨rfl, rfl, hn⟩ := hc
    simp only [wp1] at h
    split at h
    · exact Fx.mkL h (fun _ _ _ _ _ _ _ _ _ _ _ _ _ C _ _ _ hl _ k => lv_lstore C.1.1 C.1.2.1 hd hl.has hn rfl (fun ls' hl' => k ls' (hl.st2 hl')))
    · exact h.elim
  | iinc i n =>
    simp only [chk, Bool.and_eq_true, decide_eq_true_eq] at hc
    obtain ⟨rfl, rfl, hn, rfl⟩ := hc
    simp only [wp1] at h
    split at h
    · rename_i x hx
      exact Fx.mkL h (fun _ _ _ _ _ _ _ _ _ _ _ _ _ C _ _ _ hl _ k => by
        obtain ⟨kk, hkk⟩ := List.getElem?_of_mem (lvL_mem (ad := _) (ct := _) hx)
        exact lv_iinc C.1.1 C.1.2.1 hd hl.has hkk rfl hn rfl (fun ls' hl' => k ls' (hl.st1 (v := .int _) hl')))
    · exact h.elim
  | iadd =>
    simp only [chk, Bool.and_eq_true, decide_eq_true_eq] at hc
    subst hc
    simp only [wp1] at h
    split at h
    · exact Fx.mk1 h (fun _ _ _ _ _ _ _ _ _ _ _ _ _ C _ _ _ hh _ k => lv_iadd C.1.1 C.1.2.1 hd k)
    · exact h.elim
  | isub =>
    simp only [chk, Bool.and_eq_true, decide_eq_true_eq] at hc
    subst hc
    simp only [wp1] at h
    split at h
    · exact Fx.mk1 h (fun _ _ _ _ _ _ _ _ _ _ _ _ _ C _ _ _ hh _ k => lv_isub C.1.1 C.1.2.1 hd k)
    · exact h.elim
  | imul =>
    simp only [chk, Bool.and_eq_true, decide_eq_true_eq] at hc
    subst hc
    simp only [wp1] at h
    split at h
    · exact Fx.mk1 h (fun _ _ _ _ _ _ _ _ _ _ _ _ _ C _ _ _ hh _ k => lv_imul C.1.1 C.1.2.1 hd k)
    · exact h.elim
  | iand =>
    simp only [chk, Bool.and_eq_true, decide_eq_true_eq] at hc
    subst hc
    simp only [wp1] at h
    split at h
    · exact Fx.mk1 h (fun _ _ _ _ _ _ _ _ _ _ _ _ _ C _ _ _ hh _ k => lv_iand C.1.1 C.1.2.1 hd k)
    · exact h.elim
  | ior =>
    simp only [chk, Bool.and_eq_true, decide_eq_true_eq] at hc
    subst hc
    simp only [wp1] at h
    split at h
    · exact Fx.mk1 h (fun _ _ _ _ _ _ _ _ _ _ _ _ _ C _ _ _ hh _ k => lv_ior C.1.1 C.1.2.1 hd k)
    · exact h.elim
  | ishl =>
    simp only [chk, Bool.and_eq_true, decide_eq_true_eq] at hc
    subst hc
    simp only [wp1] at h
    split at h
    · exact Fx.mk1 h (fun _ _ _ _ _ _ _ _ _ _ _ _ _ C _ _ _ hh _ k => lv_ishl C.1.1 C.1.2.1 hd k)
    · exact h.elim
  | ishr =>
    simp only [chk, Bool.and_eq_true, decide_eq_true_eq] at hc
    subst hc
    simp only [wp1] at h
    split at h
    · exact Fx.mk1 h (fun _ _ _ _ _ _ _ _ _ _ _ _ _ C _ _ _ hh _ k => lv_ishr C.1.1 C.1.2.1 hd k)
    · exact h.elim
  | ladd =>
    simp only [chk, Bool.and_eq_true, decide_eq_true_eq] at hc
    subst hc
    simp only [wp1] at h
    split at h
    · exact Fx.mk1 h (fun _ _ _ _ _ _ _ _ _ _ _ _ _ C _ _ _ hh _ k => lv_ladd C.1.1 C.1.2.1 hd k)
    · exact h.elim
  | lsub =>
    simp only [chk, Bool.and_eq_true, decide_eq_true_eq] at hc
    subst hc
    simp only [wp1] at h
    split at h
    · exact Fx.mk1 h (fun _ _ _ _ _ _ _ _ _ _ _ _ _ C _ _ _ hh _ k => lv_lsub C.1.1 C.1.2.1 hd k)
    · exact h.elim
  | lmul =>
    simp only [chk, Bool.and_eq_true, decide_eq_true_eq] at hc
    subst hc
    simp only [wp1] at h
    split at h
    · exact Fx.mk1 h (fun _ _ _ _ _ _ _ _ _ _ _ _ _ C _ _ _ hh _ k => lv_lmul C.1.1 C.1.2.1 hd k)
    · exact h.elim
  | land =>
    simp only [chk, Bool.and_eq_true, decide_eq_true_eq] at hc
    subst hc
    simp only [wp1] at h
    split at h
    · exact Fx.mk1 h (fun _ _ _ _ _ _ _ _ _ _ _ _ _ C _ _ _ hh _ k => lv_land C.1.1 C.1.2.1 hd k)
    · exact h.elim
  | lor =>
    simp only [chk, Bool.and_eq_true, decide_eq_true_eq] at hc
    subst hc
    simp only [wp1] at h
    split at h
    · exact Fx.mk1 h (fun _ _ _ _ _ _ _ _ _ _ _ _ _ C _ _ _ hh _ k => lv_lor C.1.1 C.1.2.1 hd k)
    · exact h.elim
  | idiv =>
    simp only [chk, Bool.and_eq_true, decide_eq_true_eq] at hc
    subst hc
    simp only [wp1] at h
    split at h
    · exact Fx.mk1 h.2 (fun _ _ _ _ _ _ _ _ _ _ _ _ _ C _ _ _ hh _ k => lv_idiv C.1.1 C.1.2.1 hd h.1 k)
    · exact h.elim
  | irem =>
    simp only [chk, Bool.and_eq_true, decide_eq_true_eq] at hc
    subst hc
    simp only [wp1] at h
    split at h
    · exact Fx.mk1 h.2 (fun _ _ _ _ _ _ _ _ _ _ _ _ _ C _ _ _ hh _ k => lv_irem C.1.1 C.1.2.1 hd h.1 k)
    · exact h.elim
  | lshl =>
    simp only [chk, Bool.and_eq_true, decide_eq_true_eq] at hc
    subst hc
    simp only [wp1] at h
    split at h
    · exact Fx.mk1 h (fun _ _ _ _ _ _ _ _ _ _ _ _ _ C _ _ _ hh _ k => lv_lshl C.1.1 C.1.2.1 hd rfl k)
    · exact h.elim
  | lshr =>
    simp only [chk, Bool.and_eq_true, decide_eq_true_eq] at hc
    subst hc
    simp only [wp1] at h
    split at h
    · exact Fx.mk1 h (fun _ _ _ _ _ _ _ _ _ _ _ _ _ C _ _ _ hh _ k => lv_lshr C.1.1 C.1.2.1 hd rfl k)
    · exact h.elim
  | i2l =>
    simp only [chk, Bool.and_eq_true, decide_eq_true_eq] at hc
    subst hc
    simp only [wp1] at h
    split at h
    · exact Fx.mk1 h (fun _ _ _ _ _ _ _ _ _ _ _ _ _ C _ _ _ hh _ k => lv_i2l C.1.1 C.1.2.1 hd rfl k)
    · exact h.elim
  | l2i =>
    simp only [chk, Bool.and_eq_true, decide_eq_true_eq] at hc
    subst hc
    simp only [wp1] at h
    split at h
    · exact Fx.mk1 h (fun _ _ _ _ _ _ _ _ _ _ _ _ _ C _ _ _ hh _ k => lv_l2i C.1.1 C.1.2.1 hd rfl k)
    · exact h.elim
  | lcmp =>
    simp only [chk, Bool.and_eq_true, decide_eq_true_eq] at hc
    subst hc
    simp only [wp1] at h
    split at h
    · exact Fx.mk1 h (fun _ _ _ _ _ _ _ _ _ _ _ _ _ C _ _ _ hh _ k => W.lcmp C.1.1 C.1.2.1 hd k)
    · exact h.elim
  | dup =>
    simp only [chk, Bool.and_eq_true, decide_eq_true_eq] at hc
    subst hc
    simp only [wp1] at h
    split at h
    · exact Fx.mk1 h (fun _ _ _ _ _ _ _ _ _ _ _ _ _ C _ _ _ hh _ k => lv_dup C.1.1 C.1.2.1 hd rfl k)
    · exact Fx.mk1 h (fun _ _ _ _ _ _ _ _ _ _ _ _ _ C _ _ _ hh _ k => lv_dup C.1.1 C.1.2.1 hd rfl k)
    · exact h.elim
  | dup2 =>
    simp only [chk, Bool.and_eq_true, decide_eq_true_eq] at hc
    subst hc
    simp only [wp1] at h
    split at h
    · exact Fx.mk1 h (fun _ _ _ _ _ _ _ _ _ _ _ _ _ C _ _ _ hh _ k => lv_dup2_11 C.1.1 C.1.2.1 hd rfl rfl k)
    · exact h.elim
  | pop =>
    simp only [chk, Bool.and_eq_true, decide_eq_true_eq] at hc
    subst hc
    simp only [wp1] at h
    split at h
    · exact Fx.mk1 h (fun _ _ _ _ _ _ _ _ _ _ _ _ _ C _ _ _ hh _ k => lv_pop C.1.1 C.1.2.1 hd rfl k)
    · exact h.elim
  | getfield n =>
    simp only [chk, Bool.and_eq_true, decide_eq_true_eq] at hc
    obtain ⟨rfl, hf, h10, hn, hb, hv⟩ := hc
    simp only [wp1] at h
    split at h
    · rename_i c st
      obtain ⟨hk, h⟩ := h
      have hlk := ft_link hf hb
      split at h
      · rename_i o
        simp only [Bool.and_eq_true, decide_eq_true_eq] at hv
        refine Fx.mk1 h (fun _ _ _ _ _ _ _ _ _ _ _ _ _ C _ _ _ hh _ k => va_get C.1.1 C.1.2.1 (C.1.2.2.2.2.2.2) (fun w hw => List.mem_cons_of_mem _ (kd_ws h10 w hw)) C.1.2.2.2.2.2.1 C.2.1 hh.2.1 c (cE_obj hk h10) (kd_cl h10) b hn (C.1.2.2.2.2.2.2 _ (List.mem_cons_of_mem _ hlk)) (fun _ hx => hx) ((fv_get hn).trans ?_) hd k)
        simp only [fv, hk.2, hv.1, hv.2, if_false]
        rfl
      · rename_i hno
        have hv2 : offR a b = 0 ∧ ¬ (a = 8 ∧ b = 1) := by
          split at hv
          · exact absurd rfl (hno _)
          · simpa only [Bool.and_eq_true, decide_eq_true_eq] using hv
        refine Fx.mk1 h (fun _ _ _ _ _ _ _ _ _ _ _ _ _ C _ _ _ hh _ k => va_get C.1.1 C.1.2.1 (C.1.2.2.2.2.2.2) (fun w hw => List.mem_cons_of_mem _ (kd_ws h10 w hw)) C.1.2.2.2.2.2.1 C.2.1 hh.2.1 c (cE_obj hk h10) (kd_cl h10) b hn (C.1.2.2.2.2.2.2 _ (List.mem_cons_of_mem _ hlk)) (fun _ hx => hx) ((fv_get hn).trans ?_) hd k)
        simp only [fv, hk.2, hv2.1, hv2.2, if_true, if_false]
        rfl
    · exact h.elim
  | putfield n =>
    simp only [chk, Bool.and_eq_true, decide_eq_true_eq] at hc
    obtain ⟨rfl, hf, h10, hn, hb, h0, h1', hfin, hv⟩ := hc
    simp only [wp1] at h
    split at h
    · rename_i x c st
      obtain ⟨hk, h⟩ := h
      have hlk := ft_link hf hb
      split at h
      · simp only [decide_eq_true_eq] at hv
        exact Fx.mkH h (fun _ _ _ _ _ _ _ _ _ _ _ _ _ C _ _ _ hl hP hS _ k => va_put (v := .int x) C.1.1 C.1.2.1 (C.1.2.2.2.2.2.2) (fun w hw => List.mem_cons_of_mem _ (kd_ws h10 w hw)) (fY a) (kd_ty h10) (kd_nm h10) C.1.2.2.2.2.2.1 C.2.1 hP (wl_D C.2.2.1) hS c (cE_obj hk h10) (kd_cl h10) b hn (C.1.2.2.2.2.2.2 _ (List.mem_cons_of_mem _ hlk)) (fun _ hx => hx) hfin hv (vp_nar_int x) rfl (by simpa using hn) hd (fun H1 locs1 h1 h2 h3 => k H1 locs1 (by rw [wl_setF hk h10 h0 h1'] at h1; exact h1) h3))
      · rename_i hno
        have hv2 : parseFieldDescriptor (fT a b).2.2.1 = some .boolean := by
          split at hv
          · exact absurd rfl hno
          · simpa only [decide_eq_true_eq] using hv
        obtain ⟨hx, h⟩ := h
        rcases hx with rfl | rfl
        · exact Fx.mkH h (fun _ _ _ _ _ _ _ _ _ _ _ _ _ C _ _ _ hl hP hS _ k => va_put (v := .int 0) C.1.1 C.1.2.1 (C.1.2.2.2.2.2.2) (fun w hw => List.mem_cons_of_mem _ (kd_ws h10 w hw)) (fY a) (kd_ty h10) (kd_nm h10) C.1.2.2.2.2.2.1 C.2.1 hP (wl_D C.2.2.1) hS c (cE_obj hk h10) (kd_cl h10) b hn (C.1.2.2.2.2.2.2 _ (List.mem_cons_of_mem _ hlk)) (fun _ hx => hx) hfin hv2 (by decide) (by decide) (by simpa using hn) hd (fun H1 locs1 h1 h2 h3 => k H1 locs1 (by rw [wl_setF hk h10 h0 h1'] at h1; exact h1) h3))
        · exact Fx.mkH h (fun _ _ _ _ _ _ _ _ _ _ _ _ _ C _ _ _ hl hP hS _ k => va_put (v := .int 1) C.1.1 C.1.2.1 (C.1.2.2.2.2.2.2) (fun w hw => List.mem_cons_of_mem _ (kd_ws h10 w hw)) (fY a) (kd_ty h10) (kd_nm h10) C.1.2.2.2.2.2.1 C.2.1 hP (wl_D C.2.2.1) hS c (cE_obj hk h10) (kd_cl h10) b hn (C.1.2.2.2.2.2.2 _ (List.mem_cons_of_mem _ hlk)) (fun _ hx => hx) hfin hv2 (by decide) (by decide) (by simpa using hn) hd (fun H1 locs1 h1 h2 h3 => k H1 locs1 (by rw [wl_setF hk h10 h0 h1'] at h1; exact h1) h3))
    · exact h.elim
  | iaload =>
    simp only [chk, Bool.and_eq_true, decide_eq_true_eq] at hc
    subst hc
    simp only [wp1] at h
    split at h
    · rename_i i c st
      obtain ⟨⟨hk, hi⟩, h⟩ := h
      exact Fx.mk1 h (fun _ _ _ _ _ _ _ _ _ _ _ _ _ C _ _ _ hh _ k => va_iald C.1.1 C.1.2.1 C.2.1 hh.2.1 c 0 (cE_ints hk) rfl (vp_in_iff.mpr hi) hd k)
    · obtain ⟨hi, h⟩ := h
      exact Fx.mk1 h (fun _ _ _ _ _ _ _ _ _ _ _ _ _ C _ _ _ hh _ k => va_ti C.1.1 C.1.2.1 C.2.2.2.1.2 hh.2.2 (vp_in_iff.mpr hi) rfl hd k)
    · exact h.elim
  | laload =>
    simp only [chk, Bool.and_eq_true, decide_eq_true_eq] at hc
    subst hc
    simp only [wp1] at h
    split at h
    · rename_i i c st
      obtain ⟨⟨hk, hi⟩, h⟩ := h
      exact Fx.mk1 h (fun _ _ _ _ _ _ _ _ _ _ _ _ _ C _ _ _ hh _ k => va_lald C.1.1 C.1.2.1 C.2.1 hh.2.1 c 1 (cE_longs hk) rfl (vp_in_iff.mpr hi) hd k)
    · exact h.elim
  | iastore =>
    simp only [chk, Bool.and_eq_true, decide_eq_true_eq] at hc
    subst hc
    simp only [wp1] at h
    split at h
    · rename_i x i c st
      obtain ⟨⟨hk, hi⟩, h⟩ := h
      exact Fx.mkH h (fun _ _ _ _ _ _ _ _ _ _ _ _ _ C _ _ _ hl hP hS _ k => va_iast C.1.1 C.1.2.1 C.2.1 hP (wl_D C.2.2.1) hS c 0 (cE_ints hk) rfl (vp_in_iff.mpr hi) hd (fun H1 locs1 h1 h2 h3 => k H1 locs1 (by rw [wl_setA hk] at h1; exact h1) h3))
    · exact h.elim
  | lastore =>
    simp only [chk, Bool.and_eq_true, decide_eq_true_eq] at hc
    subst hc
    simp only [wp1] at h
    split at h
    · rename_i x i c st
      obtain ⟨⟨hk, hi⟩, h⟩ := h
      exact Fx.mkH h (fun _ _ _ _ _ _ _ _ _ _ _ _ _ C _ _ _ hl hP hS _ k => va_last C.1.1 C.1.2.1 C.2.1 hP (wl_D C.2.2.1) hS c 1 (cE_longs hk) rfl (vp_in_iff.mpr hi) hd (fun H1 locs1 h1 h2 h3 => k H1 locs1 (by rw [wl_setJ hk] at h1; exact h1) h3))
    · exact h.elim
  | getstatic n =>
    simp only [chk, Bool.and_eq_true, decide_eq_true_eq] at hc
    obtain ⟨rfl, rfl, ho⟩ := hc
    exact Fx.mk1 h (fun _ _ _ _ _ _ _ _ _ _ _ _ _ C _ _ _ hh _ k => va_gets C.1.1 C.1.2.1 C.2.2.2.1.1 hh.2.2 C.1.2.2.2.2.2.1 (C.1.2.2.2.2.2.2 _ (List.mem_cons_of_mem _ (by rw [ho]; exact zLink))) (fun _ hx => hx) hd k)
  | _ => exact False.elim h
theorem Fx.run {q : MI} {d : Nat} {sh : Shp} {r : Option Value} {hp0 : HP} : ∀ (zs : List Zn) (e : Nat) {pc : Nat} {lv : List (Option Value)} {stk : List Value} {hp : HP}, okL q pc zs e = true → wpl sh zs lv stk hp (fun lv' stk' hp' => Fx q d sh e lv' stk' hp' r hp0) → Fx q d sh pc lv stk hp r hp0
  | [], e, pc, lv, stk, hp, h1, h2 => by
    simp only [okL, decide_eq_true_eq] at h1
    subst h1
    exact h2
  | z :: zs, e, pc, lv, stk, hp, h1, h2 => by
    simp only [okL, Bool.and_eq_true] at h1
    refine sx1 h1.1 ?_
    have hm : ∀ (K K' : KK), (∀ a b c, K a b c → K' a b c) → wp1 sh z lv stk hp K → wp1 sh z lv stk hp K' := by
      intro K K' hK hw
      revert hw
      unfold wp1
      split <;> (try exact hK _ _ _) <;> (try exact fun h => h.elim)
      all_goals (repeat' split) <;> (try exact hK _ _ _) <;> (try exact fun h => h.elim) <;> (try exact fun h => ⟨h.1, hK _ _ _ h.2⟩) <;> (try exact fun h => ⟨h.1, h.2.1, hK _ _ _ h.2.2⟩)
    exact hm _ _ (fun a b c hw => Fx.run zs e h1.2 hw) h2
end
section
section FL
variable {q : MI} {d : Nat} {sh : Shp} {pc : Nat} {lv : List (Option Value)} {st : List Value} {hp : HP} {r : Option Value} {hp0 : HP}
def okJ (q : MI) (pc : Nat) (i : Instr) (off : Int) (tgt nx : Nat) : Bool := decide (decode q.2.1 pc = .ok (i, 3)) && (decide ((pc : Int) + off = (tgt : Int)) && decide (pc + 3 = nx))
theorem okJ_s {i : Instr} {off : Int} {tgt nx : Nat} (h : okJ q pc i off tgt nx = true) : decode q.2.1 pc = .ok (i, 3) ∧ (pc : Int) + off = (tgt : Int) ∧ pc + 3 = nx := by
  simpa only [okJ, Bool.and_eq_true, decide_eq_true_eq] using h
theorem Fx.goto (off : Int) (tgt : Nat) (h : okJ q pc (.goto off) off tgt (pc + 3) = true) (k : Fx q d sh tgt lv st hp r hp0) : Fx q d sh pc lv st hp r hp0 := Fx.mk1 k (fun _ _ _ _ _ _ _ _ _ _ _ _ _ C _ _ _ _ _ k => lv_goto C.1.1 C.1.2.1 (okJ_s h).1 (okJ_s h).2.1 k)
theorem Fx.if_eq {x : Int32} (off : Int) (tgt nx : Nat) (h : okJ q pc (.ifCond .eq off) off tgt nx = true) (kt : x = 0 → Fx q d sh tgt lv st hp r hp0) (kf : ¬ x = 0 → Fx q d sh nx lv st hp r hp0) : Fx q d sh pc lv (.int x :: st) hp r hp0 := by
  obtain ⟨h1, h2, h3⟩ := okJ_s h
  subst h3
  exact fun p l e s m args below meth c D cy ad ct C ls H locs hh => lv_if_eq C.1.1 C.1.2.1 h1 h2 (fun z => kt z p l e s m args below meth c D cy ad ct C ls H locs hh) (fun z => kf z p l e s m args below meth c D cy ad ct C ls H locs hh)
theorem Fx.icmp_eq {x y : Int32} (off : Int) (tgt nx : Nat) (h : okJ q pc (.if_icmp .eq off) off tgt nx = true) (kt : x = y → Fx q d sh tgt lv st hp r hp0) (kf : ¬ x = y → Fx q d sh nx lv st hp r hp0) : Fx q d sh pc lv (.int y :: .int x :: st) hp r hp0 := by
  obtain ⟨h1, h2, h3⟩ := okJ_s h
  subst h3
  exact fun p l e s m args below meth c D cy ad ct C ls H locs hh => lv_icmp_eq C.1.1 C.1.2.1 h1 h2 (fun z => kt z p l e s m args below meth c D cy ad ct C ls H locs hh) (fun z => kf z p l e s m args below meth c D cy ad ct C ls H locs hh)
theorem Fx.if_ne {x : Int32} (off : Int) (tgt nx : Nat) (h : okJ q pc (.ifCond .ne off) off tgt nx = true) (kt : ¬ x = 0 → Fx q d sh tgt lv st hp r hp0) (kf : x = 0 → Fx q d sh nx lv st hp r hp0) : Fx q d sh pc lv (.int x :: st) hp r hp0 := by
  obtain ⟨h1, h2, h3⟩ := okJ_s h
  subst h3
  exact fun p l e s m args below meth c D cy ad ct C ls H locs hh => lv_if_ne C.1.1 C.1.2.1 h1 h2 (fun z => kt z p l e s m args below meth c D cy ad ct C ls H locs hh) (fun z => kf z p l e s m args below meth c D cy ad ct C ls H locs hh)
theorem Fx.icmp_ne {x y : Int32} (off : Int) (tgt nx : Nat) (h : okJ q pc (.if_icmp .ne off) off tgt nx = true) (kt : ¬ x = y → Fx q d sh tgt lv st hp r hp0) (kf : x = y → Fx q d sh nx lv st hp r hp0) : Fx q d sh pc lv (.int y :: .int x :: st) hp r hp0 := by
  obtain ⟨h1, h2, h3⟩ := okJ_s h
  subst h3
  exact fun p l e s m args below meth c D cy ad ct C ls H locs hh => lv_icmp_ne C.1.1 C.1.2.1 h1 h2 (fun z => kt z p l e s m args below meth c D cy ad ct C ls H locs hh) (fun z => kf z p l e s m args below meth c D cy ad ct C ls H locs hh)
theorem Fx.if_lt {x : Int32} (off : Int) (tgt nx : Nat) (h : okJ q pc (.ifCond .lt off) off tgt nx = true) (kt : x < 0 → Fx q d sh tgt lv st hp r hp0) (kf : ¬ x < 0 → Fx q d sh nx lv st hp r hp0) : Fx q d sh pc lv (.int x :: st) hp r hp0 := by
  obtain ⟨h1, h2, h3⟩ := okJ_s h
  subst h3
  exact fun p l e s m args below meth c D cy ad ct C ls H locs hh => lv_if_lt C.1.1 C.1.2.1 h1 h2 (fun z => kt z p l e s m args below meth c D cy ad ct C ls H locs hh) (fun z => kf z p l e s m args below meth c D cy ad ct C ls H locs hh)
theorem Fx.icmp_lt {x y : Int32} (off : Int) (tgt nx : Nat) (h : okJ q pc (.if_icmp .lt off) off tgt nx = true) (kt : x < y → Fx q d sh tgt lv st hp r hp0) (kf : ¬ x < y → Fx q d sh nx lv st hp r hp0) : Fx q d sh pc lv (.int y :: .int x :: st) hp r hp0 := by
  obtain ⟨h1, h2, h3⟩ := okJ_s h
  subst h3
  exact fun p l e s m args below meth c D cy ad ct C ls H locs hh => lv_icmp_lt C.1.1 C.1.2.1 h1 h2 (fun z => kt z p l e s m args below meth c D cy ad ct C ls H locs hh) (fun z => kf z p l e s m args below meth c D cy ad ct C ls H locs hh)
theorem Fx.if_ge {x : Int32} (off : Int) (tgt nx : Nat) (h : okJ q pc (.ifCond .ge off) off tgt nx = true) (kt : 0 ≤ x → Fx q d sh tgt lv st hp r hp0) (kf : ¬ 0 ≤ x → Fx q d sh nx lv st hp r hp0) : Fx q d sh pc lv (.int x :: st) hp r hp0 := by
  obtain ⟨h1, h2, h3⟩ := okJ_s h
  subst h3
  exact fun p l e s m args below meth c D cy ad ct C ls H locs hh => lv_if_ge C.1.1 C.1.2.1 h1 h2 (fun z => kt z p l e s m args below meth c D cy ad ct C ls H locs hh) (fun z => kf z p l e s m args below meth c D cy ad ct C ls H locs hh)
theorem Fx.icmp_ge {x y : Int32} (off : Int) (tgt nx : Nat) (h : okJ q pc (.if_icmp .ge off) off tgt nx = true) (kt : y ≤ x → Fx q d sh tgt lv st hp r hp0) (kf : ¬ y ≤ x → Fx q d sh nx lv st hp r hp0) : Fx q d sh pc lv (.int y :: .int x :: st) hp r hp0 := by
  obtain ⟨h1, h2, h3⟩ := okJ_s h
  subst h3
  exact fun p l e s m args below meth c D cy ad ct C ls H locs hh => lv_icmp_ge C.1.1 C.1.2.1 h1 h2 (fun z => kt z p l e s m args below meth c D cy ad ct C ls H locs hh) (fun z => kf z p l e s m args below meth c D cy ad ct C ls H locs hh)
theorem Fx.if_gt {x : Int32} (off : Int) (tgt nx : Nat) (h : okJ q pc (.ifCond .gt off) off tgt nx = true) (kt : 0 < x → Fx q d sh tgt lv st hp r hp0) (kf : ¬ 0 < x → Fx q d sh nx lv st hp r hp0) : Fx q d sh pc lv (.int x :: st) hp r hp0 := by
  obtain ⟨h1, h2, h3⟩ := okJ_s h
  subst h3
  exact fun p l e s m args below meth c D cy ad ct C ls H locs hh => lv_if_gt C.1.1 C.1.2.1 h1 h2 (fun z => kt z p l e s m args below meth c D cy ad ct C ls H locs hh) (fun z => kf z p l e s m args below meth c D cy ad ct C ls H locs hh)
theorem Fx.icmp_gt {x y : Int32} (off : Int) (tgt nx : Nat) (h : okJ q pc (.if_icmp .gt off) off tgt nx = true) (kt : y < x → Fx q d sh tgt lv st hp r hp0) (kf : ¬ y < x → Fx q d sh nx lv st hp r hp0) : Fx q d sh pc lv (.int y :: .int x :: st) hp r hp0 := by
  obtain ⟨h1, h2, h3⟩ := okJ_s h
  subst h3
  exact fun p l e s m args below meth c D cy ad ct C ls H locs hh => lv_icmp_gt C.1.1 C.1.2.1 h1 h2 (fun z => kt z p l e s m args below meth c D cy ad ct C ls H locs hh) (fun z => kf z p l e s m args below meth c D cy ad ct C ls H locs hh)
theorem Fx.if_le {x : Int32} (off : Int) (tgt nx : Nat) (h : okJ q pc (.ifCond .le off) off tgt nx = true) (kt : x ≤ 0 → Fx q d sh tgt lv st hp r hp0) (kf : ¬ x ≤ 0 → Fx q d sh nx lv st hp r hp0) : Fx q d sh pc lv (.int x :: st) hp r hp0 := by
  obtain ⟨h1, h2, h3⟩ := okJ_s h
  subst h3
  exact fun p l e s m args below meth c D cy ad ct C ls H locs hh => lv_if_le C.1.1 C.1.2.1 h1 h2 (fun z => kt z p l e s m args below meth c D cy ad ct C ls H locs hh) (fun z => kf z p l e s m args below meth c D cy ad ct C ls H locs hh)
theorem Fx.icmp_le {x y : Int32} (off : Int) (tgt nx : Nat) (h : okJ q pc (.if_icmp .le off) off tgt nx = true) (kt : x ≤ y → Fx q d sh tgt lv st hp r hp0) (kf : ¬ x ≤ y → Fx q d sh nx lv st hp r hp0) : Fx q d sh pc lv (.int y :: .int x :: st) hp r hp0 := by
  obtain ⟨h1, h2, h3⟩ := okJ_s h
  subst h3
  exact fun p l e s m args below meth c D cy ad ct C ls H locs hh => lv_icmp_le C.1.1 C.1.2.1 h1 h2 (fun z => kt z p l e s m args below meth c D cy ad ct C ls H locs hh) (fun z => kf z p l e s m args below meth c D cy ad ct C ls H locs hh)
/-- fewer locals known -/
theorem Fx.weak {lv' : List (Option Value)} (hl : lv'.length = lv.length) (hw : ∀ i v, lg lv' i = some v → lg lv i = some v) (k : Fx q d sh pc lv' st hp r hp0) : Fx q d sh pc lv st hp r hp0 := fun p l e s m args below meth c D cy ad ct C ls H locs hh => k p l e s m args below meth c D cy ad ct C ls H locs ⟨hh.1.weak hl hw, hh.2⟩
/-- lv' knows no more than lv: place by place -/
def lvle : List (Option Value) → List (Option Value) → Prop
  | [], [] => True
  | none :: t, _ :: u => lvle t u
  | some v :: t, b :: u => b = some v ∧ lvle t u
  | _, _ => False
theorem lvle_s : ∀ {a b : List (Option Value)}, lvle a b → a.length = b.length ∧ ∀ i v, lg a i = some v → lg b i = some v
  | [], [], _ => ⟨rfl, fun i v h => h⟩
  | none :: t, x :: u, h => by
    have h' : lvle t u := by simpa [lvle] using h
    refine ⟨by simp [(lvle_s h').1], fun i v hv => ?_⟩
    cases i with
    | zero => simp [lg] at hv
    | succ i => exact (lvle_s h').2 i v hv
  | some w :: t, x :: u, h => by
    have h' : x = some w ∧ lvle t u := by simpa [lvle] using h
    refine ⟨by simp [(lvle_s h'.2).1], fun i v hv => ?_⟩
    cases i with
    | zero => simp only [lg] at hv ⊢; rw [h'.1]; exact hv
    | succ i => exact (lvle_s h'.2).2 i v hv
  | [], _ :: _, h => by simp [lvle] at h
  | none :: _, [], h => by simp [lvle] at h
  | some _ :: _, [], h => by simp [lvle] at h
theorem Fx.le {lv' : List (Option Value)} (k : Fx q d sh pc lv' st hp r hp0) (h : lvle lv' lv) : Fx q d sh pc lv st hp r hp0 := Fx.weak (lvle_s h).1 (lvle_s h).2 k
/-- switches -/
def okW (q : MI) (pc : Nat) (k : Int32) (tgt : Nat) : Bool := match decode q.2.1 pc with
  | .ok (.tableswitch _ lo hi offs, _) => decide (¬ k.toInt < lo) && (decide (¬ hi < k.toInt) && (match offs[(k.toInt - lo).toNat]? with | some off => decide ((pc : Int) + off = (tgt : Int)) | none => false))
  | .ok (.lookupswitch dflt ps, _) => ((ps.toList.zip (ps.toList.drop 1)).all (fun (a, next) => a.1 < next.1)) && decide ((pc : Int) + Op.lookupswitch.offset ps.toList dflt k.toInt = (tgt : Int))
  | _ => false
def okD (q : MI) (pc : Nat) (ks : List Int32) (tgt : Nat) : Bool := match decode q.2.1 pc with
  | .ok (.tableswitch dflt lo hi _, _) => ((List.range (hi - lo + 1).toNat).all (fun j => ks.any (fun k => decide (k.toInt = lo + (j : Int))))) && decide ((pc : Int) + dflt = (tgt : Int))
  | .ok (.lookupswitch dflt ps, _) => ((ps.toList.zip (ps.toList.drop 1)).all (fun (a, next) => a.1 < next.1)) && ((ps.toList.all (fun p => ks.any (fun k => decide (k.toInt = p.1)))) && decide ((pc : Int) + dflt = (tgt : Int)))
  | _ => false
theorem look_d {x : Int} {dflt : Int} : ∀ (ps : List (Int × Int)), (∀ p ∈ ps, ¬ x = p.1) → Op.lookupswitch.offset ps dflt x = dflt
  | [], _ => by first | rfl | simp [Op.lookupswitch.offset]
  | (a, o) :: t, h => by
    rw [Op.lookupswitch.offset_cons, if_neg (fun e => h (a, o) List.mem_cons_self e.symm)]
    exact look_d t (fun p hp => h p (List.mem_cons_of_mem _ hp))
theorem Fx.swK (k : Int32) (tgt : Nat) (hok : okW q pc k tgt = true) (h : Fx q d sh tgt lv st hp r hp0) : Fx q d sh pc lv (.int k :: st) hp r hp0 := by
  unfold okW at hok
  split at hok
  · rename_i dflt lo hi offs len hd
    simp only [Bool.and_eq_true, decide_eq_true_eq] at hok
    obtain ⟨h1, h2, h3⟩ := hok
    split at h3
    · rename_i off ho
      simp only [decide_eq_true_eq] at h3
      exact Fx.mk1 h (fun _ _ _ _ _ _ _ _ _ _ _ _ _ C _ _ _ _ _ k => lv_tableIn C.1.1 C.1.2.1 hd h1 h2 ho h3 k)
    · cases h3
  · rename_i dflt ps len hd
    simp only [Bool.and_eq_true, decide_eq_true_eq] at hok
    exact Fx.mk1 h (fun _ _ _ _ _ _ _ _ _ _ _ _ _ C _ _ _ _ _ k => lv_lookup C.1.1 C.1.2.1 hd hok.1 rfl hok.2 k)
  · cases hok
theorem Fx.swD {x : Int32} (ks : List Int32) (tgt : Nat) (hok : okD q pc ks tgt = true) (hx : ∀ k ∈ ks, ¬ x = k) (h : Fx q d sh tgt lv st hp r hp0) : Fx q d sh pc lv (.int x :: st) hp r hp0 := by
  unfold okD at hok
  split at hok
  · rename_i dflt lo hi offs len hd
    simp only [Bool.and_eq_true, decide_eq_true_eq] at hok
    have hout : x.toInt < lo ∨ hi < x.toInt := by
      by_cases h1 : x.toInt < lo
      · exact Or.inl h1
      · by_cases h2 : hi < x.toInt
        · exact Or.inr h2
        · have h3 := List.all_eq_true.mp hok.1 ((x.toInt - lo).toNat) (List.mem_range.mpr (by omega))
          obtain ⟨k, hk, he⟩ := List.any_eq_true.mp h3
          simp only [decide_eq_true_eq] at he
          exact absurd (Int32.toInt_inj.mp (by omega)) (hx k hk)
    exact Fx.mk1 h (fun _ _ _ _ _ _ _ _ _ _ _ _ _ C _ _ _ _ _ k => lv_tableOut C.1.1 C.1.2.1 hd hout hok.2 k)
  · rename_i dflt ps len hd
    simp only [Bool.and_eq_true, decide_eq_true_eq] at hok
    have ho : Op.lookupswitch.offset ps.toList dflt x.toInt = dflt := look_d _ (fun p hp e => by
      obtain ⟨k, hk, he⟩ := List.any_eq_true.mp (List.all_eq_true.mp hok.2.1 p hp)
      simp only [decide_eq_true_eq] at he
      exact hx k hk (Int32.toInt_inj.mp (by omega)))
    exact Fx.mk1 h (fun _ _ _ _ _ _ _ _ _ _ _ _ _ C _ _ _ _ _ k => lv_lookup C.1.1 C.1.2.1 hd hok.1 ho hok.2.2 k)
  · cases hok
/-- the ends -/
theorem Fx.iret {v : Int32} (hd : decode q.2.1 pc = .ok (.ireturn, 1)) (hr : q.2.2.2.1 = some .int) : Fx q d sh pc lv [.int v] hp (some (.int v)) hp := fun p l e s m args below meth c D cy ad ct C ls H locs hh =>
  W.iret C.1.1 C.1.2.1 (C.1.2.2.2.1.trans hr) (fun t ht _ => ⟨⟨rfl, by rw [ht]; exact hh.2.1⟩, hh.2.2.F ht⟩) (fun q hq => hh.2.2.2.2 q hq) hd (hlocks := C.1.2.2.2.2.1)
theorem Fx.zret {v : Int32} (hd : decode q.2.1 pc = .ok (.ireturn, 1)) (hr : q.2.2.2.1 = some .boolean) (hv : v = 0 ∨ v = 1) : Fx q d sh pc lv [.int v] hp (some (.int v)) hp := fun p l e s m args below meth c D cy ad ct C ls H locs hh =>
  W.zret C.1.1 C.1.2.1 (C.1.2.2.2.1.trans hr) (by rcases hv with rfl | rfl <;> decide) (fun t ht _ => ⟨⟨rfl, by rw [ht]; exact hh.2.1⟩, hh.2.2.F ht⟩) (fun q hq => hh.2.2.2.2 q hq) hd (hlocks := C.1.2.2.2.2.1)
theorem Fx.lret {v : Int64} (hd : decode q.2.1 pc = .ok (.lreturn, 1)) (hr : q.2.2.2.1 = some .long) : Fx q d sh pc lv [.long v] hp (some (.long v)) hp := fun p l e s m args below meth c D cy ad ct C ls H locs hh =>
  W.lret C.1.1 C.1.2.1 (C.1.2.2.2.1.trans hr) (fun t ht _ => ⟨⟨rfl, by rw [ht]; exact hh.2.1⟩, hh.2.2.F ht⟩) (fun q hq => hh.2.2.2.2 q hq) hd (hlocks := C.1.2.2.2.2.1)
theorem Fx.vret (hd : decode q.2.1 pc = .ok (.return_, 1)) (hr : q.2.2.2.1 = none) : Fx q d sh pc lv [] hp none hp := fun p l e s m args below meth c D cy ad ct C ls H locs hh =>
  W.vret C.1.1 C.1.2.1 (C.1.2.2.2.1.trans hr) (fun t ht _ => ⟨⟨rfl, by rw [ht]; exact hh.2.1⟩, hh.2.2.F ht⟩) (fun q hq => hh.2.2.2.2 q hq) hd (hlocks := C.1.2.2.2.2.1)
theorem Fx.aret {v : Nat} {n : String} (hd : decode q.2.1 pc = .ok (.areturn, 1)) (hr : q.2.2.2.1 = some (.object n)) : Fx q d sh pc lv [.ref v] hp (some (.ref v)) hp := fun p l e s m args below meth c D cy ad ct C ls H locs hh =>
  W.aret C.1.1 C.1.2.1 (C.1.2.2.2.1.trans hr) (Or.inl ⟨n, rfl⟩) (Or.inr ⟨ad v, rfl⟩) (fun t ht _ => ⟨⟨rfl, by rw [ht]; exact hh.2.1⟩, hh.2.2.F ht⟩) (fun q hq => hh.2.2.2.2 q hq) hd (hlocks := C.1.2.2.2.2.1)
end FL
section CG
variable {p : Program} {l : Launch} {e : Env} {R : Room} {s : State} {m : MethodId} {args : Array Value} {below : List Frame} {meth : Method} {c : Code} {H : Heap} {locs : List Loc} {cells slots : Nat} {Q : State → Prop}
theorem callG {pc : Nat} {ls : Array Slot} {rest st0 : List Value} {A0 A1 : Nat → Prop} {H0 : Heap} {free : Addr → Prop} {v : Option Value} {B : Heap → Prop} (hr : va_Run p l e R s m args below meth c H locs cells slots 0 0 (F0 m pc ls st0) rest (fun st oc t => (oc = .returned v ∧ B t.heap) ∧ va_F A1 st t) free) (hS : va_S A0 H0 H locs) (hA : ∀ q, q < H.size → A1 q → A0 q) (hf : ∀ q, free q → A0 q)
    (kk : ∀ (H1 : Heap) (locs1 : List Loc), B H1 → va_S A0 H0 H1 locs1 → W p l e R s m args below meth c H1 locs1 cells slots Q (F0 m (pc + 3) ls (v.toList ++ rest))) : W p l e R s m args below meth c H locs cells slots Q (F0 m pc ls st0) := by
  intro T hT X
  obtain ⟨v', st₀, t, T', L, h0, X', hL, e1, e2, ⟨⟨hv, hb⟩, hz, hk⟩, st⟩ := hr T hT X
  cases hv
  rw [h0] at hz hk
  obtain ⟨t2, a1, b1⟩ := kk T'.heap (locs ++ L) (by rw [e1]; exact hb)
    ⟨Nat.le_trans hS.1 (by rw [e1]; exact hz), fun q h1 h2 => by rw [e1, hk q (Nat.lt_of_lt_of_le h1 hS.1) (fun z => h2 (hA q (Nat.lt_of_lt_of_le h1 hS.1) z))]; exact hS.2.1 q h1 h2, fun q hq => by
      rcases List.mem_append.mp hq with h | h
      · exact hS.2.2 q h
      · exact hf _ (hL q h)⟩ T' rfl X'
  exact ⟨t2, st t2 a1, b1⟩
end CG
theorem gw_in {q q' : MI} (h : mdCode q') : GoodIn (wsM q) (wsM q') := by
  intro w hw
  rcases List.mem_cons.mp hw with rfl | hw
  · exact ⟨List.mem_cons_of_mem _ h, gw_good h⟩
  · exact ⟨List.mem_cons_of_mem _ hw, gw_good hw⟩
theorem preX_blind {as : List Value} {D : va_G} {cy : ClassId × ClassId} {sh : Shp} {ad : Nat → Nat} {ct : Nat} {hp : HP} {sz : Nat} : FrameBlind (va_Pc as (PreX D cy sh ad ct hp sz)) := fun a U g mk q => by
  obtain ⟨q0, q1, q2, q3, q4, q5, q6⟩ := q
  exact ⟨q0, q1, q2, va_K.moved (u := U) (U := U.calling g mk a) (Vm.Alike.refl U.vm) q3, q4, ⟨va_Z.moved (u := U) (U := U.calling g mk a) (Vm.Alike.refl U.vm) q5.1, va_T.moved (u := U) (U := U.calling g mk a) (Vm.Alike.refl U.vm) q5.2⟩, fun w hw => va_Nw.same rfl (u := U) (U := U.calling g mk a) rfl (q6 w hw)⟩
theorem preX_at {q : MI} {D : va_G} {cy : ClassId × ClassId} {sh : Shp} {ad : Nat → Nat} {ct : Nat} {hp : HP} {p : Program} {s : State} {m : MethodId} {args : Array Value} {meth : Method} {c : Code} {H : Heap} {locs : List Loc} {U : State} (C : FxC q sh p s m args meth c D cy ad ct) (hP : va_P D vwCl (wl cy sh ad hp) H) (hS : va_S (AA sh ad s.heap.size) s.heap H locs) (hU : U.heap = H) (hW : s.WarmedH U.vm) : PreX D cy sh ad ct hp H.size U := by
  refine ⟨by rw [hU], by rw [hU]; exact hP, va_K.moved hW.alike C.2.1, C.2.2.1, ?_, fun w hw => va_Nw.warmM hW (C.2.2.2.2 w hw)⟩
  have hn : ∀ x, AA sh ad H.size x → AA sh ad s.heap.size x := fun x hx => hx.elim Or.inl (fun h => Or.inr (Nat.le_trans hS.1 h))
  rw [hU]
  exact ⟨((C.2.2.2.1.1.kept hS.2.1).narrow hn).moved hW.alike, ((C.2.2.2.1.2.kept hS.2.1).narrow hn).moved hW.alike⟩
section FC
variable {q q' : MI} {d d' n idx : Nat} {sh : Shp} {pc : Nat} {lv : List (Option Value)} {hp hp1 : HP} {r : Option Value} {hp0 : HP} {rr : Option Value} {cc : Nat}
theorem cv_sum (ad : Nat → Nat) (ct : Nat) (st : List Value) : ((st.map (cv ad ct)).map fun v => v.category).sum = (st.map fun v => v.category).sum := by
  induction st with
  | nil => rfl
  | cons a t ih => simp only [List.map_cons, List.sum_cons, cv_cat, ih]
theorem Fx.callV (As rest : List Value) (hl : LkV q.2.2.2.2 idx q' n) (hd : decode q.2.1 pc = .ok (.invokevirtual idx, 3)) (hE : Ex d' q' sh (.ref cc :: As) hp rr hp1) (hR : d' + 1 ≤ d ∧ 8 + (q'.2.2.1 + 11) + 40 * d' ≤ 40 * d) (hk : isK sh cc q'.2.2.2.2) (h10 : q'.2.2.2.2 < 10) (hn : As.length = n) (hr : (rest.map fun v => v.category).sum ≤ 8) (k : Fx q d sh (pc + 3) lv (rr.toList ++ rest) hp1 r hp0) : Fx q d sh pc lv (As.reverse ++ .ref cc :: rest) hp r hp0 := by
  intro p l e s m args below meth c D cy ad ct C ls H locs hh
  obtain ⟨⟨l1, l2, l3, l4, l5⟩, l6, l7⟩ := hl
  have hG : GoodIn (wsM q) (wsV (nmC q.2.2.2.2) idx (nmC q'.2.2.2.2) q'.1 (wsM q')) := by
    intro w hw
    unfold wsV at hw
    rcases List.mem_append.mp hw with h | h
    · have hw' : w ∈ GW := by
        rcases List.mem_cons.mp h with rfl | h
        · exact l1
        · rcases List.mem_cons.mp h with rfl | h
          · exact l2
          · rcases List.mem_cons.mp h with rfl | h
            · exact l3
            · rcases List.mem_cons.mp h with rfl | h
              · exact l4
              · cases h
      exact ⟨List.mem_cons_of_mem _ hw', gw_good hw'⟩
    · exact gw_in l5 w h
  have hst : (As.reverse ++ .ref cc :: rest).map (cv ad ct) = (As.map (cv ad ct)).reverse ++ .ref (ad cc) :: rest.map (cv ad ct) := by
    simp only [List.map_append, List.map_reverse, List.map_cons]
    rfl
  rw [hst]
  refine callG (v := rr.map (cv ad ct)) (B := fun H1 => va_P D vwCl (wl cy sh ad hp1) H1) (va_runV (As := As.map (cv ad ct)) (rest := rest.map (cv ad ct)) (b := ad cc) (C := nmC q'.2.2.2.2) ⟨C.1.1, C.1.2.1, C.1.2.2.1, C.1.2.2.2.2.2.1, C.1.2.2.2.2.2.2⟩ (hE l D cy ad ct H.size) (cwV n C.1.2.2.2.2.2.2 hG rfl rfl rfl ⟨l6, l7⟩ hR) ⟨preX_blind, va_recv C.2.1 hh.2.1 (kd_cl h10) (cE_obj hk h10), fun U hU hW => ⟨rfl, preX_at C hh.2.1 hh.2.2 hU hW⟩⟩ rfl (by rw [List.length_map]; exact hn) (hh.1.2.1) rfl (lv_room (by rw [cv_sum]; exact hr)) hd ⟨Nat.le_refl _, Nat.le_refl _⟩) hh.2.2 (fun x hx h => h.elim Or.inl (fun h => absurd h (Nat.not_le.mpr hx))) (fun x h => h.elim Or.inl (fun h => Or.inr (Nat.le_trans hh.2.2.1 h))) (fun H1 locs1 hB hS => ?_)
  have := k p l e s m args below meth c D cy ad ct C ls H1 locs1 ⟨hh.1, hB, hS⟩
  have e1 : (rr.toList ++ rest).map (cv ad ct) = (rr.map (cv ad ct)).toList ++ rest.map (cv ad ct) := by cases rr <;> rfl
  rw [e1] at this
  exact this
theorem Fx.callS (As rest : List Value) (hl : LkS q.2.2.2.2 idx q' n) (hd : decode q.2.1 pc = .ok (.invokestatic idx, 3)) (hE : Ex d' q' sh As hp rr hp1) (hR : d' + 1 ≤ d ∧ 8 + (q'.2.2.1 + 11) + 40 * d' ≤ 40 * d) (hn : As.length = n) (hr : (rest.map fun v => v.category).sum ≤ 8) (k : Fx q d sh (pc + 3) lv (rr.toList ++ rest) hp1 r hp0) : Fx q d sh pc lv (As.reverse ++ rest) hp r hp0 := by
  intro p l e s m args below meth c D cy ad ct C ls H locs hh
  obtain ⟨⟨l1, l2, l3, l4⟩, l5, l6⟩ := hl
  have hG : GoodIn (wsM q) (va_wsS (nmC q.2.2.2.2) idx q'.1 (wsM q')) := by
    intro w hw
    unfold va_wsS at hw
    rw [l5] at hw
    rcases List.mem_append.mp hw with h | h
    · have hw' : w ∈ GW := by
        rcases List.mem_cons.mp h with rfl | h
        · exact l1
        · rcases List.mem_cons.mp h with rfl | h
          · exact l2
          · rcases List.mem_cons.mp h with rfl | h
            · exact l3
            · cases h
      exact ⟨List.mem_cons_of_mem _ hw', gw_good hw'⟩
    · exact gw_in l4 w h
  have hst : (As.reverse ++ rest).map (cv ad ct) = (As.map (cv ad ct)).reverse ++ rest.map (cv ad ct) := by
    simp only [List.map_append, List.map_reverse]
  rw [hst]
  refine callG (v := rr.map (cv ad ct)) (B := fun H1 => va_P D vwCl (wl cy sh ad hp1) H1) (va_runS (As := As.map (cv ad ct)) (rest := rest.map (cv ad ct)) ⟨C.1.1, C.1.2.1, C.1.2.2.1, C.1.2.2.2.2.2.1, C.1.2.2.2.2.2.2⟩ (hE l D cy ad ct H.size) (va_cwS n C.1.2.2.2.2.2.2 hG rfl rfl rfl l6 hR) ⟨preX_blind, fun U hU hW => ⟨rfl, preX_at C hh.2.1 hh.2.2 hU hW⟩⟩ rfl (by rw [List.length_map]; exact hn) (hh.1.2.1) rfl (lv_room (by rw [cv_sum]; exact hr)) hd ⟨Nat.le_refl _, Nat.le_refl _⟩) hh.2.2 (fun x hx h => h.elim Or.inl (fun h => absurd h (Nat.not_le.mpr hx))) (fun x h => h.elim Or.inl (fun h => Or.inr (Nat.le_trans hh.2.2.1 h))) (fun H1 locs1 hB hS => ?_)
  have := k p l e s m args below meth c D cy ad ct C ls H1 locs1 ⟨hh.1, hB, hS⟩
  have e1 : (rr.toList ++ rest).map (cv ad ct) = (rr.map (cv ad ct)).toList ++ rest.map (cv ad ct) := by cases rr <;> rfl
  rw [e1] at this
  exact this
theorem Fx.callN (As rest : List Value) (hl : LkN q.2.2.2.2 idx q' n) (hd : decode q.2.1 pc = .ok (.invokestatic idx, 3)) (hE : Ex d' q' sh As hp rr hp1) (hR : d' + 1 ≤ d ∧ 8 + (q'.2.2.1 + 11) + 40 * d' ≤ 40 * d) (hn : As.length = n) (hr : (rest.map fun v => v.category).sum ≤ 8) (k : Fx q d sh (pc + 3) lv (rr.toList ++ rest) hp1 r hp0) : Fx q d sh pc lv (As.reverse ++ rest) hp r hp0 := by
  intro p l e s m args below meth c D cy ad ct C ls H locs hh
  obtain ⟨⟨l1, l2, l3, l4⟩, l5, l6⟩ := hl
  have hst : (As.reverse ++ rest).map (cv ad ct) = (As.map (cv ad ct)).reverse ++ rest.map (cv ad ct) := by
    simp only [List.map_append, List.map_reverse]
  rw [hst]
  refine callG (v := rr.map (cv ad ct)) (B := fun H1 => va_P D vwCl (wl cy sh ad hp1) H1) (va_runSN (As := As.map (cv ad ct)) (rest := rest.map (cv ad ct)) ⟨C.1.1, C.1.2.1, C.1.2.2.1, C.1.2.2.2.2.2.1, C.1.2.2.2.2.2.2⟩ (hE l D cy ad ct H.size) ⟨va_cnB n C.1.2.2.2.2.2.2 (gw_in l4) rfl rfl rfl (C.2.2.2.2 _ l1) (by rw [l5]; exact C.1.2.2.2.2.2.2 _ (List.mem_cons_of_mem _ l3)) l6 hR, C.1.2.2.2.2.2.2 _ (List.mem_cons_of_mem _ l2), trivial⟩ ⟨preX_blind, fun U hU hW => ⟨rfl, preX_at C hh.2.1 hh.2.2 hU hW⟩⟩ rfl (by rw [List.length_map]; exact hn) (hh.1.2.1) rfl (lv_room (by rw [cv_sum]; exact hr)) hd ⟨Nat.le_refl _, Nat.le_refl _⟩) hh.2.2 (fun x hx h => h.elim Or.inl (fun h => absurd h (Nat.not_le.mpr hx))) (fun x h => h.elim Or.inl (fun h => Or.inr (Nat.le_trans hh.2.2.1 h))) (fun H1 locs1 hB hS => ?_)
  have := k p l e s m args below meth c D cy ad ct C ls H1 locs1 ⟨hh.1, hB, hS⟩
  have e1 : (rr.toList ++ rest).map (cv ad ct) = (rr.map (cv ad ct)).toList ++ rest.map (cv ad ct) := by cases rr <;> rfl
  rw [e1] at this
  exact this
end FC
/-- a method's entry: its locals -/
def entL : List Value → List (Option Value)
  | [] => []
  | v :: vs => if v.category = 2 then some v :: none :: entL vs else some v :: entL vs
theorem entL_mem {ad : Nat → Nat} {ct : Nat} : ∀ (vs : List Value) (k i : Nat) (v : Value), lg (entL vs) i = some v → (k + i, cv ad ct v) ∈ lv_args k (vs.map (cv ad ct))
  | [], k, i, v, h => by simp [entL, lg] at h
  | a :: vs, k, i, v, h => by
    simp only [entL] at h
    simp only [List.map_cons, lv_args, cv_cat]
    by_cases hc : a.category = 2
    · simp only [hc, if_true] at h ⊢
      cases i with
      | zero => simp only [lg, Option.some.injEq] at h; subst h; exact List.mem_cons_self
      | succ i => cases i with
        | zero => simp [lg] at h
        | succ i =>
          simp only [lg] at h
          have := entL_mem (ad := ad) (ct := ct) vs (k + 2) i v h
          rw [show k + (i + 1 + 1) = k + 2 + i by omega]
          exact List.mem_cons_of_mem _ this
    · simp only [hc, if_false] at h ⊢
      cases i with
      | zero => simp only [lg, Option.some.injEq] at h; subst h; exact List.mem_cons_self
      | succ i =>
        simp only [lg] at h
        have := entL_mem (ad := ad) (ct := ct) vs (k + 1) i v h
        rw [show k + (i + 1) = k + 1 + i by omega]
        exact List.mem_cons_of_mem _ this
theorem entL_len (ad : Nat → Nat) (ct : Nat) : ∀ vs : List Value, (lg_sl (vs.map (cv ad ct))).length = (entL vs).length
  | [] => rfl
  | a :: vs => by
    have ih := entL_len ad ct vs
    simp only [lg_sl, List.map_cons, List.flatMap_cons, cv_cat, entL, List.length_append] at ih ⊢
    split <;> simp [ih] <;> omega
theorem lg_app {a : List (Option Value)} {n i : Nat} {v : Value} (h : lg (a ++ List.replicate n none) i = some v) : lg a i = some v := by
  induction a generalizing i with
  | nil =>
    simp only [List.nil_append] at h
    exfalso
    induction n generalizing i with
    | zero => simp [lg] at h
    | succ n ih => cases i with
      | zero => simp [List.replicate_succ, lg] at h
      | succ i => simp only [List.replicate_succ, lg] at h; exact ih h
  | cons x t ih => cases i with
    | zero => simpa [lg] using h
    | succ i => simp only [List.cons_append, lg] at h ⊢; exact ih h
theorem Ex.of {d : Nat} {q : MI} {sh : Shp} {as : List Value} {hp : HP} {r : Option Value} {hp' : HP} (lv : List (Option Value)) (hlv : lv = entL as ++ List.replicate (q.2.2.1 - (entL as).length) none) (hn : (entL as).length ≤ q.2.2.1) (hy : plainName q.1.cls = true) (hcls : q.1.cls = nmC q.2.2.2.2) (h : Fx q d sh 0 lv [] hp r hp') : Ex d q sh as hp r hp' := by
  intro l D cy ad ct sz
  refine Met.ofW (cc := q.2.1) (maxL := q.2.2.1) (ret := q.2.2.2.1) hy rfl ?_
  intro p e s m args below meth c s₁ B hml hv
  obtain ⟨rfl, h1, h2, h3, h4, h5, h6⟩ := hv
  have hts : ∀ w ∈ wsM q, w.before (as.map (cv ad ct)).toArray s = true := atoms_spec (ws := wsM q) B.pre
  have hown : s.vm.findClass (nmC q.2.2.2.2) = some m.cls := by rw [← hcls]; exact findClass_of_methodNamed B.named
  have hl := lv_entry (as.map (cv ad ct)) (n := q.2.2.1) (by rw [entL_len]; exact hn)
  rw [lg_entry_eq]
  subst h1
  refine h p l e s m _ below meth c D cy ad ct ⟨⟨B.exec, B.bytes, hml, B.returns, B.notSynchronized, hown, hts⟩, h3, h4, h5, h6⟩ _ s.heap [] ⟨⟨?_, hl.1, hl.2.1, fun i v hv => ?_⟩, h2, va_S.rf⟩
  · rw [hlv, List.length_append, List.length_replicate]; omega
  · rw [hlv] at hv
    have := entL_mem (ad := ad) (ct := ct) as 0 i v (lg_app hv)
    rw [Nat.zero_add] at this
    exact hl.2.2 _ this
def LkMax (o idx : Nat) : Prop := Cond.methodLink (nmC o) idx Lib.Math.max.name ∈ GW
def LkMin (o idx : Nat) : Prop := Cond.methodLink (nmC o) idx Lib.Math.min.name ∈ GW
def LkCpy (o idx : Nat) : Prop := Cond.methodLink (nmC o) idx arraycopyName ∈ GW
theorem w_maxs : Cond.static Lib.Math.max.name ∈ GW := gwI 529 (by decide +kernel)
theorem w_maxc : Cond.code Lib.Math.max.name Lib.Math.max.code 2 (some .int) ∈ GW := gwI 530 (by decide +kernel)
theorem w_mins : Cond.static Lib.Math.min.name ∈ GW := gwI 461 (by decide +kernel)
theorem w_minc : Cond.code Lib.Math.min.name Lib.Math.min.code 2 (some .int) ∈ GW := gwI 462 (by decide +kernel)
theorem w_mathi : Cond.initialized "java/lang/Math" ∈ GW := gwI 90 (by decide +kernel)
theorem w_cpys : Cond.static arraycopyName ∈ GW := gwI 850 (by decide +kernel)
theorem w_cpyn : Cond.native arraycopyName ∈ GW := gwI 851 (by decide +kernel)
theorem w_cpyi : Cond.initialized "java/lang/System" ∈ GW := gwI 91 (by decide +kernel)
theorem lk_1_97 : LkMin 1 97 := gwI 460 (by decide +kernel)
theorem lk_1_120 : LkMax 1 120 := gwI 528 (by decide +kernel)
theorem lk_5_101 : LkMax 5 101 := gwI 548 (by decide +kernel)
theorem lk_5_107 : LkMin 5 107 := gwI 556 (by decide +kernel)
theorem lk_2_54 : LkMax 2 54 := gwI 603 (by decide +kernel)
theorem lk_2_71 : LkMin 2 71 := gwI 620 (by decide +kernel)
theorem lk_3_27 : LkMax 3 27 := gwI 767 (by decide +kernel)
theorem lk_7_21 : LkCpy 7 21 := gwI 849 (by decide +kernel)
theorem lk_4_31 : LkCpy 4 31 := gwI 882 (by decide +kernel)
theorem lk_6_22 : LkCpy 6 22 := gwI 887 (by decide +kernel)
theorem lk_1_27 : LkCpy 1 27 := gwI 892 (by decide +kernel)
theorem lk_8_262 : LkMax 8 262 := gwI 909 (by decide +kernel)
section FM
variable {q : MI} {d idx : Nat} {sh : Shp} {pc : Nat} {lv : List (Option Value)} {hp : HP} {r : Option Value} {hp0 : HP} {rest : List Value}
theorem Fx.mmax {x y : Int32} (hl : LkMax q.2.2.2.2 idx) (hd : decode q.2.1 pc = .ok (.invokestatic idx, 3)) (h1 : 1 ≤ d) (hr : (rest.map fun v => v.category).sum ≤ 8) (k : Fx q d sh (pc + 3) lv (.int (if x < y then y else x) :: rest) hp r hp0) : Fx q d sh pc lv (.int y :: .int x :: rest) hp r hp0 :=
  Fx.mk1 k (fun _ _ _ _ _ _ _ _ _ _ _ _ _ C _ _ _ hh _ k => va_mmax C.1.1 C.1.2.1 (C.1.2.2.1.trans hh.1.2.1.symm) C.1.2.2.2.2.2.1 (C.1.2.2.2.2.2.2 _ (List.mem_cons_of_mem _ hl)) (C.1.2.2.2.2.2.2 _ (List.mem_cons_of_mem _ w_maxs)) (C.1.2.2.2.2.2.2 _ (List.mem_cons_of_mem _ w_mathi)) (C.1.2.2.2.2.2.2 _ (List.mem_cons_of_mem _ w_maxc)) h1 (by rw [cv_sum]; show _ ≤ 40 * d; omega) (Nat.le_refl _) (Nat.le_refl _) hd k)
theorem Fx.mmin {x y : Int32} (hl : LkMin q.2.2.2.2 idx) (hd : decode q.2.1 pc = .ok (.invokestatic idx, 3)) (h1 : 1 ≤ d) (hr : (rest.map fun v => v.category).sum ≤ 8) (k : Fx q d sh (pc + 3) lv (.int (if y < x then y else x) :: rest) hp r hp0) : Fx q d sh pc lv (.int y :: .int x :: rest) hp r hp0 :=
  Fx.mk1 k (fun _ _ _ _ _ _ _ _ _ _ _ _ _ C _ _ _ hh _ k => va_mmin C.1.1 C.1.2.1 (C.1.2.2.1.trans hh.1.2.1.symm) C.1.2.2.2.2.2.1 (C.1.2.2.2.2.2.2 _ (List.mem_cons_of_mem _ hl)) (C.1.2.2.2.2.2.2 _ (List.mem_cons_of_mem _ w_mins)) (C.1.2.2.2.2.2.2 _ (List.mem_cons_of_mem _ w_mathi)) (C.1.2.2.2.2.2.2 _ (List.mem_cons_of_mem _ w_minc)) h1 (by rw [cv_sum]; show _ ≤ 40 * d; omega) (Nat.le_refl _) (Nat.le_refl _) hd k)
/-- the first n of the ints of cell c0 come to cell c1 -/
def cpA (hp : HP) (c0 c1 n : Nat) : HP := (fun a b => if a = c1 ∧ b < n then hp.1 c0 b else hp.1 a b, hp.2)
theorem cE_cpA_ne {cy : ClassId × ClassId} {ad : Nat → Nat} {c0 c1 n : Nat} {i : Nat} (h : i ≠ c1) : cE cy sh ad (cpA hp c0 c1 n) i = cE cy sh ad hp i := by
  have e1 : (cpA hp c0 c1 n).1 i = hp.1 i := by funext b; simp [cpA, h]
  have e2 : fv sh ad (cpA hp c0 c1 n) i = fv sh ad hp i := by funext k; simp only [fv, e1]
  simp only [cE, e1, e2, show (cpA hp c0 c1 n).2 = hp.2 from rfl]
theorem Fx.copy {c0 c1 N0 N1 N : Nat} {nn : Int32} (hl : LkCpy q.2.2.2.2 idx) (hd : decode q.2.1 pc = .ok (.invokestatic idx, 3)) (h1 : 1 ≤ d) (hr : (rest.map fun v => v.category).sum ≤ 8) (h0 : isA sh c0 10 N0) (h2 : isA sh c1 10 N1) (hn : nn.toNatClampNeg = N) (hnn : ¬ nn < 0) (hN : N ≤ N0 ∧ N ≤ N1) (k : Fx q d sh (pc + 3) lv rest (cpA hp c0 c1 N) r hp0) : Fx q d sh pc lv (.int nn :: .int 0 :: .ref c1 :: .int 0 :: .ref c0 :: rest) hp r hp0 := by
  refine Fx.mkH k (fun _ _ _ _ _ _ _ _ _ _ _ ad ct C ls _ _ hl' hP hS _ k => va_copyi (ty := .int) C.1.1 C.1.2.1 (C.1.2.2.1.trans hl'.2.1.symm) C.1.2.2.2.2.2.1 (C.1.2.2.2.2.2.2 _ (List.mem_cons_of_mem _ hl)) (C.1.2.2.2.2.2.2 _ (List.mem_cons_of_mem _ w_cpyn)) (C.1.2.2.2.2.2.2 _ (List.mem_cons_of_mem _ w_cpys)) (C.1.2.2.2.2.2.2 _ (List.mem_cons_of_mem _ w_cpyi)) C.2.1 hP (wl_D C.2.2.1) hS c0 c1 0 0 (cE_ints h0) (cE_ints h2) rfl rfl rfl (by decide) (by decide) hnn ?_ ?_ (fun i hi => rfl) h1 ?_ hd (fun H1 locs1 a b cc => k H1 locs1 ?_ cc))
  · rw [hn, show ((0 : Int32).toNatClampNeg) = 0 by decide]; omega
  · rw [hn, show ((0 : Int32).toNatClampNeg) = 0 by decide]; omega
  · rw [cv_sum, show nativeFrameWords "java/lang/System" "arraycopy" 5 = 7 by decide]; show _ ≤ 40 * d; omega
  · rw [wl_ext (hp' := cpA hp c0 c1 N) h2.1 ?_ (fun i hi => cE_cpA_ne hi)] at a
    · exact a
    · have e1 : (cpA hp c0 c1 N).1 c1 = va_cpy (hp.1 c0) (hp.1 c1) (0 : Int32).toNatClampNeg (0 : Int32).toNatClampNeg nn.toNatClampNeg := by
        funext b
        rw [hn, show ((0 : Int32).toNatClampNeg) = 0 by decide]
        by_cases hb : b < N
        · rw [pk_cpy_in (by omega) (by omega)]; simp [cpA, hb]
        · rw [pk_cpy_out (by omega)]; simp [cpA, hb]
      simp only [cE, h2.2.1, h2.2.2, if_true, e1]
end FM
end
section
/-! loops, guards, shapes -/
def iterN {S T : Type} (body : S → Option (S ⊕ T)) : Nat → S → Option T
  | 0, _ => none
  | n + 1, s => match body s with
    | none => none
    | some (.inl s') => iterN body n s'
    | some (.inr t) => some t
noncomputable def loop {S T : Type} (body : S → Option (S ⊕ T)) (s : S) : Option T := @dite _ (∃ t, ∃ n, iterN body n s = some t) (Classical.propDecidable _) (fun h => some (Classical.choose h)) (fun _ => none)
theorem iterN_up {S T : Type} {body : S → Option (S ⊕ T)} : ∀ {n : Nat} {s : S} {t : T}, iterN body n s = some t → iterN body (n + 1) s = some t
  | 0, s, t, h => by simp [iterN] at h
  | n + 1, s, t, h => by
    rw [iterN] at h ⊢
    split at h
    · cases h
    · exact iterN_up h
    · exact h
theorem iterN_add {S T : Type} {body : S → Option (S ⊕ T)} {n : Nat} {s : S} {t : T} (h : iterN body n s = some t) : ∀ k, iterN body (n + k) s = some t
  | 0 => h
  | k + 1 => iterN_up (iterN_add h k)
theorem iterN_det {S T : Type} {body : S → Option (S ⊕ T)} {n m : Nat} {s : S} {t u : T} (h : iterN body n s = some t) (h' : iterN body m s = some u) : t = u := by
  have h1 := iterN_add h m
  have h2 := iterN_add h' n
  rw [Nat.add_comm m n, h1] at h2
  exact Option.some.inj h2
theorem loop_iff {S T : Type} {body : S → Option (S ⊕ T)} {s : S} {t : T} : loop body s = some t ↔ ∃ n, iterN body n s = some t := by
  constructor
  · intro h
    unfold loop at h
    split at h
    · rename_i hx
      have := Classical.choose_spec hx
      rw [Option.some.inj h] at this
      exact this
    · cases h
  · rintro ⟨n, h⟩
    unfold loop
    split
    · rename_i hx
      obtain ⟨m, hm⟩ := Classical.choose_spec hx
      rw [iterN_det hm h]
    · rename_i hx
      exact absurd ⟨t, n, h⟩ hx
theorem loop_inl {S T : Type} {body : S → Option (S ⊕ T)} {s s' : S} (h : body s = some (.inl s')) : loop body s = loop body s' := by
  apply Option.ext
  intro t
  rw [loop_iff, loop_iff]
  constructor
  · rintro ⟨n, hn⟩
    cases n with
    | zero => simp [iterN] at hn
    | succ n => rw [iterN, h] at hn; exact ⟨n, hn⟩
  · rintro ⟨n, hn⟩
    exact ⟨n + 1, by rw [iterN, h]; exact hn⟩
theorem loop_inr {S T : Type} {body : S → Option (S ⊕ T)} {s : S} {t : T} (h : body s = some (.inr t)) : loop body s = some t := loop_iff.mpr ⟨1, by rw [iterN, h]⟩
/-- a loop that counts up -/
theorem loop_up {S T : Type} {body : S → Option (S ⊕ T)} {t : T} (f : Nat → S) (N : Nat) (hs : ∀ i, i < N → body (f i) = some (.inl (f (i + 1)))) (he : body (f N) = some (.inr t)) : loop body (f 0) = some t := by
  have : ∀ k, k ≤ N → loop body (f (N - k)) = some t := by
    intro k
    induction k with
    | zero => intro _; exact loop_inr he
    | succ k ih =>
      intro hk
      rw [loop_inl (hs (N - (k + 1)) (by omega)), show N - (k + 1) + 1 = N - k by omega]
      exact ih (by omega)
  have h := this N (Nat.le_refl N)
  rwa [Nat.sub_self] at h
/-- a loop with a measure -/
theorem loop_ms {S T : Type} {body : S → Option (S ⊕ T)} (I : S → Prop) (mu : S → Nat) (Q : T → Prop) (hs : ∀ s, I s → (∃ s', body s = some (.inl s') ∧ I s' ∧ mu s' < mu s) ∨ ∃ t, body s = some (.inr t) ∧ Q t) : ∀ s, I s → ∃ t, loop body s = some t ∧ Q t := by
  have : ∀ n s, mu s < n → I s → ∃ t, loop body s = some t ∧ Q t := by
    intro n
    induction n with
    | zero => intro s h; omega
    | succ n ih =>
      intro s h hI
      rcases hs s hI with ⟨s', h1, h2, h3⟩ | ⟨t, h1, h2⟩
      · rw [loop_inl h1]; exact ih s' (by omega) h2
      · exact ⟨t, loop_inr h1, h2⟩
  exact fun s => this (mu s + 1) s (by omega)
def Kel {S T : Type} (P : S → Prop) (K : T → Prop) : S ⊕ T → Prop
  | .inl s => P s
  | .inr t => K t
theorem loop_ind {S T : Type} {body : S → Option (S ⊕ T)} (P : S → Prop) (K : T → Prop) (hb : ∀ s t, body s = some t → Kel P K t → P s) : ∀ s x, loop body s = some x → K x → P s := by
  have : ∀ n s x, iterN body n s = some x → K x → P s := by
    intro n
    induction n with
    | zero => intro s x h; simp [iterN] at h
    | succ n ih =>
      intro s x h hk
      rw [iterN] at h
      split at h
      · cases h
      · rename_i s' hb'
        exact hb s _ hb' (ih s' x h hk)
      · rename_i t hb'
        refine hb s _ hb' ?_
        rw [Option.some.inj h]
        exact hk
  intro s x h hk
  obtain ⟨n, hn⟩ := loop_iff.mp h
  exact this n s x hn hk
theorem ifp {c : Prop} [Decidable c] {α : Type} {a b : Option α} {t : α} (hc : c) (h : (if c then a else b) = some t) : a = some t := by rwa [if_pos hc] at h
theorem ifn {c : Prop} [Decidable c] {α : Type} {a b : Option α} {t : α} (hc : ¬ c) (h : (if c then a else b) = some t) : b = some t := by rwa [if_neg hc] at h
theorem gd {c : Prop} [Decidable c] {α : Type} {a : Option α} {t : α} (h : (if c then a else none) = some t) : c ∧ a = some t := by
  by_cases hc : c
  · exact ⟨hc, by rwa [if_pos hc] at h⟩
  · rw [if_neg hc] at h; cases h
theorem bnd {α β : Type} {x : Option α} {f : α → Option β} {t : β} (h : x.bind f = some t) : ∃ a, x = some a ∧ f a = some t := by
  cases x with
  | none => cases h
  | some a => exact ⟨a, rfl, h⟩
theorem mpd {α β : Type} {x : Option α} {f : α → β} {t : β} (h : x.map f = some t) : ∃ a, x = some a ∧ f a = t := by
  cases x with
  | none => cases h
  | some a => exact ⟨a, rfl, Option.some.inj h⟩
theorem Fx.swX {q : MI} {d : Nat} {sh : Shp} {pc : Nat} {lv : List (Option Value)} {st : List Value} {hp : HP} {r : Option Value} {hp0 : HP} {x : Int32} (k : Int32) (tgt : Nat) (hx : x = k) (hok : okW q pc k tgt = true) (h : Fx q d sh tgt lv st hp r hp0) : Fx q d sh pc lv (.int x :: st) hp r hp0 := by
  subst hx
  exact Fx.swK x tgt hok h
def S_Co (sh : Shp) (c : Nat) : Prop := isK sh c 0 ∧ isA sh (c + 1) 11 160
def S_Cu (sh : Shp) (c : Nat) : Prop := isK sh c 1 ∧ isA sh (c + 1) 10 160 ∧ isA sh (c + 2) 10 80 ∧ isA sh (c + 3) 10 2 ∧ isA sh (c + 4) 10 8 ∧ isA sh (c + 5) 10 1600
def S_Ma (sh : Shp) (c : Nat) : Prop := isK sh c 2 ∧ isA sh (c + 1) 10 40 ∧ isA sh (c + 2) 10 40 ∧ isA sh (c + 3) 10 40
def S_Pa (sh : Shp) (c : Nat) : Prop := isK sh c 3 ∧ isA sh (c + 1) 10 800 ∧ isA sh (c + 2) 10 160
def S_Ro (sh : Shp) (c : Nat) : Prop := isK sh c 4 ∧ isA sh (c + 1) 10 40 ∧ isA sh (c + 2) 10 40 ∧ isA sh (c + 3) 10 40 ∧ isA sh (c + 4) 10 40 ∧ isA sh (c + 5) 10 40
def S_Tr (sh : Shp) (c : Nat) : Prop := isK sh c 6 ∧ isA sh (c + 1) 10 3 ∧ isA sh (c + 2) 10 3
def S_We (sh : Shp) (c : Nat) : Prop := isK sh c 7 ∧ isA sh (c + 1) 10 36 ∧ isA sh (c + 2) 10 36
def S_St (sh : Shp) (c : Nat) : Prop := isK sh c 5 ∧ S_Ro sh (c + 1) ∧ S_Ro sh (c + 7) ∧ S_Ro sh (c + 13) ∧ S_Tr sh (c + 19) ∧ S_Cu sh (c + 22) ∧ S_We sh (c + 28)
def S_TJ (sh : Shp) (c : Nat) : Prop := isK sh c 8 ∧ S_St sh (c + 1) ∧ S_Co sh (c + 32) ∧ S_Pa sh (c + 34) ∧ S_Ma sh (c + 37) ∧ isA sh (c + 41) 10 40
def S_Mo (sh : Shp) (c : Nat) : Prop := isK sh c 9 ∧ isA sh (c + 1) 10 4100 ∧ isA sh (c + 2) 10 4100 ∧ isA sh (c + 3) 10 200 ∧ isA sh (c + 4) 10 200 ∧ isA sh (c + 5) 10 200 ∧ isA sh (c + 6) 10 40 ∧ isA sh (c + 7) 10 200 ∧ isA sh (c + 8) 10 40 ∧ isA sh (c + 9) 10 169 ∧ isA sh (c + 10) 10 36
end
section
def f_Mo_isIn (v0 : Int32) (v1 : Int32) (v2 : Int32) : Option Int32 :=
  (if v0 < v1 then some 0 else (if v2 < v0 then some 0 else some 1))
set_option maxHeartbeats 4000000 in
set_option maxRecDepth 20000 in
theorem t_Mo_isIn (sh : Shp) (hp : HP) (v0 : Int32) (v1 : Int32) (v2 : Int32) (res : Int32) (hf : f_Mo_isIn v0 v1 v2 = some res) : Ex 1 q_Mo_isIn sh [.int v0, .int v1, .int v2] hp (some (.int res)) hp := by
  refine Ex.of [some (.int v0), some (.int v1), some (.int v2)] rfl (Nat.le_of_ble_eq_true rfl) (by decide +kernel) rfl ?_
  obtain ⟨t, hk⟩ : ∃ t, t = res := ⟨res, rfl⟩
  rw [← hk] at hf
  unfold f_Mo_isIn at hf
  refine Fx.run [(.iload_n 0, 1, 0, 0, .null), (.iload_n 1, 1, 1, 0, .null)] 2 (by decide +kernel) ?_
  show Fx q_Mo_isIn 1 sh 2 [some (.int v0), some (.int v1), some (.int v2)] [.int v1, .int v0] hp (some (.int res)) hp
  refine Fx.icmp_lt (12) 14 5 (by decide +kernel) (fun b1 => ?_) (fun b1 => ?_)
  · replace hf := ifp b1 hf
    refine Fx.run [(.iconst 0, 1, 0, 0, .int 0)] 15 (by decide +kernel) ?_
    show Fx q_Mo_isIn 1 sh 15 [some (.int v0), some (.int v1), some (.int v2)] [.int 0] hp (some (.int res)) hp
    obtain rfl := Option.some.inj hf
    have hk : 0 = res := hk
    subst hk
    exact Fx.zret (by decide +kernel) rfl (Or.inl rfl)
  · replace hf := ifn b1 hf
    refine Fx.run [(.iload_n 0, 1, 0, 0, .null), (.iload_n 2, 1, 2, 0, .null)] 7 (by decide +kernel) ?_
    show Fx q_Mo_isIn 1 sh 7 [some (.int v0), some (.int v1), some (.int v2)] [.int v2, .int v0] hp (some (.int res)) hp
    refine Fx.icmp_gt (7) 14 10 (by decide +kernel) (fun b2 => ?_) (fun b2 => ?_)
    · replace hf := ifp b2 hf
      refine Fx.run [(.iconst 0, 1, 0, 0, .int 0)] 15 (by decide +kernel) ?_
      show Fx q_Mo_isIn 1 sh 15 [some (.int v0), some (.int v1), some (.int v2)] [.int 0] hp (some (.int res)) hp
      obtain rfl := Option.some.inj hf
      have hk : 0 = res := hk
      subst hk
      exact Fx.zret (by decide +kernel) rfl (Or.inl rfl)
    · replace hf := ifn b2 hf
      refine Fx.run [(.iconst 1, 1, 0, 0, .int 1)] 11 (by decide +kernel) ?_
      show Fx q_Mo_isIn 1 sh 11 [some (.int v0), some (.int v1), some (.int v2)] [.int 1] hp (some (.int res)) hp
      refine Fx.goto (4) 15 (by decide +kernel) ?_
      obtain rfl := Option.some.inj hf
      have hk : 1 = res := hk
      subst hk
      exact Fx.zret (by decide +kernel) rfl (Or.inr rfl)
noncomputable def f_Mo_trouble (c : Nat) (hp : HP) (v1 : Int32) (v2 : Int32) : Option Int32 :=
  (if v1 = (-1) then some (hp.1 (c + 1) (ix 605)) else ((f_Mo_isIn v1 0 ((hp.1 (c + 1) (ix 605)) - 1)).bind fun r2 => (if r2 = 0 then some (-10000000) else ((f_Mo_isIn v2 0 1).bind fun r4 => (if r4 = 0 then some (-10000000) else (if inb ((606 + (2 * v1)) + v2) 4100 then some (hp.1 (c + 1) (ix ((606 + (2 * v1)) + v2))) else none))))))
set_option maxHeartbeats 4000000 in
set_option maxRecDepth 20000 in
theorem t_Mo_trouble (sh : Shp) (c : Nat) (hS : S_Mo sh c) (hp : HP) (v1 : Int32) (v2 : Int32) (res : Int32) (hf : f_Mo_trouble c hp v1 v2 = some res) : Ex 2 q_Mo_trouble sh [.ref c, .int v1, .int v2] hp (some (.int res)) hp := by
  refine Ex.of [some (.ref c), some (.int v1), some (.int v2)] rfl (Nat.le_of_ble_eq_true rfl) (by decide +kernel) rfl ?_
  obtain ⟨t, hk⟩ : ∃ t, t = res := ⟨res, rfl⟩
  rw [← hk] at hf
  unfold f_Mo_trouble at hf
  refine Fx.run [(.iload_n 1, 1, 1, 0, .null), (.iconst (-1), 1, 0, 0, .int (-1))] 2 (by decide +kernel) ?_
  show Fx q_Mo_trouble 2 sh 2 [some (.ref c), some (.int v1), some (.int v2)] [.int (-1), .int v1] hp (some (.int res)) hp
  refine Fx.icmp_ne (12) 14 5 (by decide +kernel) (fun b1 => ?_) (fun b1 => ?_)
  · replace hf := ifn b1 hf
    refine Fx.run [(.iload_n 1, 1, 1, 0, .null), (.iconst 0, 1, 0, 0, .int 0), (.aload_n 0, 1, 0, 0, .null), (.getfield 9, 3, 9, 0, .ref 1), (.sipush 605, 3, 0, 0, .int 605), (.iaload, 1, 4100, 0, .null), (.iconst 1, 1, 0, 0, .int 1), (.isub, 1, 0, 0, .null)] 26 (by decide +kernel) ?_
    show isK sh c 9 ∧ (isA sh (c + 1) 10 4100 ∧ inb 605 4100) ∧ Fx q_Mo_trouble 2 sh 26 [some (.ref c), some (.int v1), some (.int v2)] [.int ((hp.1 (c + 1) (ix 605)) - 1), .int 0, .int v1] hp (some (.int res)) hp
    refine ⟨hS.1, ⟨hS.2.1, (by decide)⟩, ?_⟩
    replace hf := bnd hf
    obtain ⟨r2, hr2, hf⟩ := hf
    refine Fx.callS (rr := (some (.int r2))) (hp1 := hp) [.int v1, .int 0, .int ((hp.1 (c + 1) (ix 605)) - 1)] [] lk_9_48 (by decide +kernel) (t_Mo_isIn sh hp v1 0 ((hp.1 (c + 1) (ix 605)) - 1) r2 hr2) ⟨Nat.le_of_ble_eq_true rfl, Nat.le_of_ble_eq_true rfl⟩ rfl (Nat.le_of_ble_eq_true rfl) ?_
    show Fx q_Mo_trouble 2 sh 29 [some (.ref c), some (.int v1), some (.int v2)] [.int r2] hp (some (.int res)) hp
    refine Fx.if_eq (29) 58 32 (by decide +kernel) (fun b3 => ?_) (fun b3 => ?_)
    · replace hf := ifp b3 hf
      refine Fx.run [(.ldc 79, 2, 0, 0, .int (-10000000))] 60 (by decide +kernel) ?_
      show Fx q_Mo_trouble 2 sh 60 [some (.ref c), some (.int v1), some (.int v2)] [.int (-10000000)] hp (some (.int res)) hp
      obtain rfl := Option.some.inj hf
      have hk : (-10000000) = res := hk
      subst hk
      exact Fx.iret (by decide +kernel) rfl
    · replace hf := ifn b3 hf
      refine Fx.run [(.iload_n 2, 1, 2, 0, .null), (.iconst 0, 1, 0, 0, .int 0), (.iconst 1, 1, 0, 0, .int 1)] 35 (by decide +kernel) ?_
      show Fx q_Mo_trouble 2 sh 35 [some (.ref c), some (.int v1), some (.int v2)] [.int 1, .int 0, .int v2] hp (some (.int res)) hp
      replace hf := bnd hf
      obtain ⟨r4, hr4, hf⟩ := hf
      refine Fx.callS (rr := (some (.int r4))) (hp1 := hp) [.int v2, .int 0, .int 1] [] lk_9_48 (by decide +kernel) (t_Mo_isIn sh hp v2 0 1 r4 hr4) ⟨Nat.le_of_ble_eq_true rfl, Nat.le_of_ble_eq_true rfl⟩ rfl (Nat.le_of_ble_eq_true rfl) ?_
      show Fx q_Mo_trouble 2 sh 38 [some (.ref c), some (.int v1), some (.int v2)] [.int r4] hp (some (.int res)) hp
      refine Fx.if_eq (20) 58 41 (by decide +kernel) (fun b5 => ?_) (fun b5 => ?_)
      · replace hf := ifp b5 hf
        refine Fx.run [(.ldc 79, 2, 0, 0, .int (-10000000))] 60 (by decide +kernel) ?_
        show Fx q_Mo_trouble 2 sh 60 [some (.ref c), some (.int v1), some (.int v2)] [.int (-10000000)] hp (some (.int res)) hp
        obtain rfl := Option.some.inj hf
        have hk : (-10000000) = res := hk
        subst hk
        exact Fx.iret (by decide +kernel) rfl
      · replace hf := ifn b5 hf
        replace hf := gd hf
        obtain ⟨g6, hf⟩ := hf
        refine Fx.run [(.aload_n 0, 1, 0, 0, .null), (.getfield 9, 3, 9, 0, .ref 1), (.sipush 606, 3, 0, 0, .int 606), (.iconst 2, 1, 0, 0, .int 2), (.iload_n 1, 1, 1, 0, .null), (.imul, 1, 0, 0, .null), (.iadd, 1, 0, 0, .null), (.iload_n 2, 1, 2, 0, .null), (.iadd, 1, 0, 0, .null), (.iaload, 1, 4100, 0, .null)] 55 (by decide +kernel) ?_
        show isK sh c 9 ∧ (isA sh (c + 1) 10 4100 ∧ inb ((606 + (2 * v1)) + v2) 4100) ∧ Fx q_Mo_trouble 2 sh 55 [some (.ref c), some (.int v1), some (.int v2)] [.int (hp.1 (c + 1) (ix ((606 + (2 * v1)) + v2)))] hp (some (.int res)) hp
        refine ⟨hS.1, ⟨hS.2.1, g6⟩, ?_⟩
        refine Fx.goto (5) 60 (by decide +kernel) ?_
        obtain rfl := Option.some.inj hf
        have hk : (hp.1 (c + 1) (ix ((606 + (2 * v1)) + v2))) = res := hk
        subst hk
        exact Fx.iret (by decide +kernel) rfl
  · replace hf := ifp b1 hf
    refine Fx.run [(.aload_n 0, 1, 0, 0, .null), (.getfield 9, 3, 9, 0, .ref 1), (.sipush 605, 3, 0, 0, .int 605), (.iaload, 1, 4100, 0, .null)] 13 (by decide +kernel) ?_
    show isK sh c 9 ∧ (isA sh (c + 1) 10 4100 ∧ inb 605 4100) ∧ Fx q_Mo_trouble 2 sh 13 [some (.ref c), some (.int v1), some (.int v2)] [.int (hp.1 (c + 1) (ix 605))] hp (some (.int res)) hp
    refine ⟨hS.1, ⟨hS.2.1, (by decide)⟩, ?_⟩
    obtain rfl := Option.some.inj hf
    have hk : (hp.1 (c + 1) (ix 605)) = res := hk
    subst hk
    exact Fx.iret (by decide +kernel) rfl
def f_Mo_at (c : Nat) (hp : HP) (v1 : Int32) (v2 : Int32) : Option Int32 :=
  some (4 + (5 * ((40 * v1) + v2)))
set_option maxHeartbeats 4000000 in
set_option maxRecDepth 20000 in
theorem t_Mo_at (sh : Shp) (c : Nat) (hS : S_Mo sh c) (hp : HP) (v1 : Int32) (v2 : Int32) (res : Int32) (hf : f_Mo_at c hp v1 v2 = some res) : Ex 1 q_Mo_at sh [.ref c, .int v1, .int v2] hp (some (.int res)) hp := by
  refine Ex.of [some (.ref c), some (.int v1), some (.int v2)] rfl (Nat.le_of_ble_eq_true rfl) (by decide +kernel) rfl ?_
  obtain ⟨t, hk⟩ : ∃ t, t = res := ⟨res, rfl⟩
  rw [← hk] at hf
  unfold f_Mo_at at hf
  refine Fx.run [(.iconst 4, 1, 0, 0, .int 4), (.iconst 5, 1, 0, 0, .int 5), (.bipush 40, 2, 0, 0, .int 40), (.iload_n 1, 1, 1, 0, .null), (.imul, 1, 0, 0, .null), (.iload_n 2, 1, 2, 0, .null), (.iadd, 1, 0, 0, .null), (.imul, 1, 0, 0, .null), (.iadd, 1, 0, 0, .null)] 10 (by decide +kernel) ?_
  show Fx q_Mo_at 1 sh 10 [some (.ref c), some (.int v1), some (.int v2)] [.int (4 + (5 * ((40 * v1) + v2)))] hp (some (.int res)) hp
  obtain rfl := Option.some.inj hf
  have hk : (4 + (5 * ((40 * v1) + v2))) = res := hk
  subst hk
  exact Fx.iret (by decide +kernel) rfl
noncomputable def f_Mo_of (c : Nat) (hp : HP) (v1 : Int32) (v2 : Int32) (v3 : Int32) : Option Int32 :=
  ((f_Mo_at c hp v1 v2).bind fun r1 => (if inb (r1 + v3) 4100 then some (hp.1 (c + 1) (ix (r1 + v3))) else none))
set_option maxHeartbeats 4000000 in
set_option maxRecDepth 20000 in
theorem t_Mo_of (sh : Shp) (c : Nat) (hS : S_Mo sh c) (hp : HP) (v1 : Int32) (v2 : Int32) (v3 : Int32) (res : Int32) (hf : f_Mo_of c hp v1 v2 v3 = some res) : Ex 2 q_Mo_of sh [.ref c, .int v1, .int v2, .int v3] hp (some (.int res)) hp := by
  refine Ex.of [some (.ref c), some (.int v1), some (.int v2), some (.int v3)] rfl (Nat.le_of_ble_eq_true rfl) (by decide +kernel) rfl ?_
  obtain ⟨t, hk⟩ : ∃ t, t = res := ⟨res, rfl⟩
  rw [← hk] at hf
  unfold f_Mo_of at hf
  refine Fx.run [(.aload_n 0, 1, 0, 0, .null), (.getfield 9, 3, 9, 0, .ref 1), (.aload_n 0, 1, 0, 0, .null), (.iload_n 1, 1, 1, 0, .null), (.iload_n 2, 1, 2, 0, .null)] 7 (by decide +kernel) ?_
  show isK sh c 9 ∧ Fx q_Mo_of 2 sh 7 [some (.ref c), some (.int v1), some (.int v2), some (.int v3)] [.int v2, .int v1, .ref c, .ref (c + 1)] hp (some (.int res)) hp
  refine ⟨hS.1, ?_⟩
  replace hf := bnd hf
  obtain ⟨r1, hr1, hf⟩ := hf
  refine Fx.callV (rr := (some (.int r1))) (hp1 := hp) [.int v1, .int v2] [.ref (c + 1)] lk_9_40 (by decide +kernel) (t_Mo_at sh c (hS) hp v1 v2 r1 hr1) ⟨Nat.le_of_ble_eq_true rfl, Nat.le_of_ble_eq_true rfl⟩ (hS).1 (by decide) rfl (Nat.le_of_ble_eq_true rfl) ?_
  show Fx q_Mo_of 2 sh 10 [some (.ref c), some (.int v1), some (.int v2), some (.int v3)] [.int r1, .ref (c + 1)] hp (some (.int res)) hp
  replace hf := gd hf
  obtain ⟨g2, hf⟩ := hf
  refine Fx.run [(.iload_n 3, 1, 3, 0, .null), (.iadd, 1, 0, 0, .null), (.iaload, 1, 4100, 0, .null)] 13 (by decide +kernel) ?_
  show (isA sh (c + 1) 10 4100 ∧ inb (r1 + v3) 4100) ∧ Fx q_Mo_of 2 sh 13 [some (.ref c), some (.int v1), some (.int v2), some (.int v3)] [.int (hp.1 (c + 1) (ix (r1 + v3)))] hp (some (.int res)) hp
  refine ⟨⟨hS.2.1, g2⟩, ?_⟩
  obtain rfl := Option.some.inj hf
  have hk : (hp.1 (c + 1) (ix (r1 + v3))) = res := hk
  subst hk
  exact Fx.iret (by decide +kernel) rfl
noncomputable def f_Mo_isKeyed (c : Nat) (hp : HP) (v1 : Int32) (v2 : Int32) : Option Int32 :=
  (if (hp.1 (c + 1) (ix 0)) = 0 then some 1 else ((f_Mo_of c hp 0 v1 1).bind fun r2 => ((f_Mo_of c hp 1 v2 1).bind fun r3 => (if r2 = r3 then some 1 else some 0))))
set_option maxHeartbeats 4000000 in
set_option maxRecDepth 20000 in
theorem t_Mo_isKeyed (sh : Shp) (c : Nat) (hS : S_Mo sh c) (hp : HP) (v1 : Int32) (v2 : Int32) (res : Int32) (hf : f_Mo_isKeyed c hp v1 v2 = some res) : Ex 3 q_Mo_isKeyed sh [.ref c, .int v1, .int v2] hp (some (.int res)) hp := by
  refine Ex.of [some (.ref c), some (.int v1), some (.int v2)] rfl (Nat.le_of_ble_eq_true rfl) (by decide +kernel) rfl ?_
  obtain ⟨t, hk⟩ : ∃ t, t = res := ⟨res, rfl⟩
  rw [← hk] at hf
  unfold f_Mo_isKeyed at hf
  refine Fx.run [(.aload_n 0, 1, 0, 0, .null), (.getfield 9, 3, 9, 0, .ref 1), (.iconst 0, 1, 0, 0, .int 0), (.iaload, 1, 4100, 0, .null)] 6 (by decide +kernel) ?_
  show isK sh c 9 ∧ (isA sh (c + 1) 10 4100 ∧ inb 0 4100) ∧ Fx q_Mo_isKeyed 3 sh 6 [some (.ref c), some (.int v1), some (.int v2)] [.int (hp.1 (c + 1) (ix 0))] hp (some (.int res)) hp
  refine ⟨hS.1, ⟨hS.2.1, (by decide)⟩, ?_⟩
  refine Fx.if_eq (20) 26 9 (by decide +kernel) (fun b1 => ?_) (fun b1 => ?_)
  · replace hf := ifp b1 hf
    refine Fx.run [(.iconst 1, 1, 0, 0, .int 1)] 27 (by decide +kernel) ?_
    show Fx q_Mo_isKeyed 3 sh 27 [some (.ref c), some (.int v1), some (.int v2)] [.int 1] hp (some (.int res)) hp
    refine Fx.goto (4) 31 (by decide +kernel) ?_
    obtain rfl := Option.some.inj hf
    have hk : 1 = res := hk
    subst hk
    exact Fx.zret (by decide +kernel) rfl (Or.inr rfl)
  · replace hf := ifn b1 hf
    refine Fx.run [(.aload_n 0, 1, 0, 0, .null), (.iconst 0, 1, 0, 0, .int 0), (.iload_n 1, 1, 1, 0, .null), (.iconst 1, 1, 0, 0, .int 1)] 13 (by decide +kernel) ?_
    show Fx q_Mo_isKeyed 3 sh 13 [some (.ref c), some (.int v1), some (.int v2)] [.int 1, .int v1, .int 0, .ref c] hp (some (.int res)) hp
    replace hf := bnd hf
    obtain ⟨r2, hr2, hf⟩ := hf
    refine Fx.callV (rr := (some (.int r2))) (hp1 := hp) [.int 0, .int v1, .int 1] [] lk_9_44 (by decide +kernel) (t_Mo_of sh c (hS) hp 0 v1 1 r2 hr2) ⟨Nat.le_of_ble_eq_true rfl, Nat.le_of_ble_eq_true rfl⟩ (hS).1 (by decide) rfl (Nat.le_of_ble_eq_true rfl) ?_
    show Fx q_Mo_isKeyed 3 sh 16 [some (.ref c), some (.int v1), some (.int v2)] [.int r2] hp (some (.int res)) hp
    refine Fx.run [(.aload_n 0, 1, 0, 0, .null), (.iconst 1, 1, 0, 0, .int 1), (.iload_n 2, 1, 2, 0, .null), (.iconst 1, 1, 0, 0, .int 1)] 20 (by decide +kernel) ?_
    show Fx q_Mo_isKeyed 3 sh 20 [some (.ref c), some (.int v1), some (.int v2)] [.int 1, .int v2, .int 1, .ref c, .int r2] hp (some (.int res)) hp
    replace hf := bnd hf
    obtain ⟨r3, hr3, hf⟩ := hf
    refine Fx.callV (rr := (some (.int r3))) (hp1 := hp) [.int 1, .int v2, .int 1] [.int r2] lk_9_44 (by decide +kernel) (t_Mo_of sh c (hS) hp 1 v2 1 r3 hr3) ⟨Nat.le_of_ble_eq_true rfl, Nat.le_of_ble_eq_true rfl⟩ (hS).1 (by decide) rfl (Nat.le_of_ble_eq_true rfl) ?_
    show Fx q_Mo_isKeyed 3 sh 23 [some (.ref c), some (.int v1), some (.int v2)] [.int r3, .int r2] hp (some (.int res)) hp
    refine Fx.icmp_ne (7) 30 26 (by decide +kernel) (fun b4 => ?_) (fun b4 => ?_)
    · replace hf := ifn b4 hf
      refine Fx.run [(.iconst 0, 1, 0, 0, .int 0)] 31 (by decide +kernel) ?_
      show Fx q_Mo_isKeyed 3 sh 31 [some (.ref c), some (.int v1), some (.int v2)] [.int 0] hp (some (.int res)) hp
      obtain rfl := Option.some.inj hf
      have hk : 0 = res := hk
      subst hk
      exact Fx.zret (by decide +kernel) rfl (Or.inl rfl)
    · replace hf := ifp b4 hf
      refine Fx.run [(.iconst 1, 1, 0, 0, .int 1)] 27 (by decide +kernel) ?_
      show Fx q_Mo_isKeyed 3 sh 27 [some (.ref c), some (.int v1), some (.int v2)] [.int 1] hp (some (.int res)) hp
      refine Fx.goto (4) 31 (by decide +kernel) ?_
      obtain rfl := Option.some.inj hf
      have hk : 1 = res := hk
      subst hk
      exact Fx.zret (by decide +kernel) rfl (Or.inr rfl)
noncomputable def f_Mo_startOf (c : Nat) (hp : HP) (v1 : Int32) (v2 : Int32) : Option Int32 :=
  ((f_Mo_of c hp v1 v2 2).bind fun r1 => some (2 * r1))
set_option maxHeartbeats 4000000 in
set_option maxRecDepth 20000 in
theorem t_Mo_startOf (sh : Shp) (c : Nat) (hS : S_Mo sh c) (hp : HP) (v1 : Int32) (v2 : Int32) (res : Int32) (hf : f_Mo_startOf c hp v1 v2 = some res) : Ex 3 q_Mo_startOf sh [.ref c, .int v1, .int v2] hp (some (.int res)) hp := by
  refine Ex.of [some (.ref c), some (.int v1), some (.int v2)] rfl (Nat.le_of_ble_eq_true rfl) (by decide +kernel) rfl ?_
  obtain ⟨t, hk⟩ : ∃ t, t = res := ⟨res, rfl⟩
  rw [← hk] at hf
  unfold f_Mo_startOf at hf
  refine Fx.run [(.iconst 2, 1, 0, 0, .int 2), (.aload_n 0, 1, 0, 0, .null), (.iload_n 1, 1, 1, 0, .null), (.iload_n 2, 1, 2, 0, .null), (.iconst 2, 1, 0, 0, .int 2)] 5 (by decide +kernel) ?_
  show Fx q_Mo_startOf 3 sh 5 [some (.ref c), some (.int v1), some (.int v2)] [.int 2, .int v2, .int v1, .ref c, .int 2] hp (some (.int res)) hp
  replace hf := bnd hf
  obtain ⟨r1, hr1, hf⟩ := hf
  refine Fx.callV (rr := (some (.int r1))) (hp1 := hp) [.int v1, .int v2, .int 2] [.int 2] lk_9_44 (by decide +kernel) (t_Mo_of sh c (hS) hp v1 v2 2 r1 hr1) ⟨Nat.le_of_ble_eq_true rfl, Nat.le_of_ble_eq_true rfl⟩ (hS).1 (by decide) rfl (Nat.le_of_ble_eq_true rfl) ?_
  show Fx q_Mo_startOf 3 sh 8 [some (.ref c), some (.int v1), some (.int v2)] [.int r1, .int 2] hp (some (.int res)) hp
  refine Fx.run [(.imul, 1, 0, 0, .null)] 9 (by decide +kernel) ?_
  show Fx q_Mo_startOf 3 sh 9 [some (.ref c), some (.int v1), some (.int v2)] [.int (2 * r1)] hp (some (.int res)) hp
  obtain rfl := Option.some.inj hf
  have hk : (2 * r1) = res := hk
  subst hk
  exact Fx.iret (by decide +kernel) rfl
noncomputable def f_Mo_endOf (c : Nat) (hp : HP) (v1 : Int32) (v2 : Int32) : Option Int32 :=
  ((f_Mo_of c hp v1 v2 3).bind fun r1 => ((f_Mo_of c hp v1 v2 2).bind fun r2 => (if r1 = r2 then some ((2 * r1) + 1) else some ((2 * r1) + 0))))
set_option maxHeartbeats 4000000 in
set_option maxRecDepth 20000 in
theorem t_Mo_endOf (sh : Shp) (c : Nat) (hS : S_Mo sh c) (hp : HP) (v1 : Int32) (v2 : Int32) (res : Int32) (hf : f_Mo_endOf c hp v1 v2 = some res) : Ex 3 q_Mo_endOf sh [.ref c, .int v1, .int v2] hp (some (.int res)) hp := by
  refine Ex.of [some (.ref c), some (.int v1), some (.int v2), none] rfl (Nat.le_of_ble_eq_true rfl) (by decide +kernel) rfl ?_
  obtain ⟨t, hk⟩ : ∃ t, t = res := ⟨res, rfl⟩
  rw [← hk] at hf
  unfold f_Mo_endOf at hf
  refine Fx.run [(.aload_n 0, 1, 0, 0, .null), (.iload_n 1, 1, 1, 0, .null), (.iload_n 2, 1, 2, 0, .null), (.iconst 3, 1, 0, 0, .int 3)] 4 (by decide +kernel) ?_
  show Fx q_Mo_endOf 3 sh 4 [some (.ref c), some (.int v1), some (.int v2), none] [.int 3, .int v2, .int v1, .ref c] hp (some (.int res)) hp
  replace hf := bnd hf
  obtain ⟨r1, hr1, hf⟩ := hf
  refine Fx.callV (rr := (some (.int r1))) (hp1 := hp) [.int v1, .int v2, .int 3] [] lk_9_44 (by decide +kernel) (t_Mo_of sh c (hS) hp v1 v2 3 r1 hr1) ⟨Nat.le_of_ble_eq_true rfl, Nat.le_of_ble_eq_true rfl⟩ (hS).1 (by decide) rfl (Nat.le_of_ble_eq_true rfl) ?_
  show Fx q_Mo_endOf 3 sh 7 [some (.ref c), some (.int v1), some (.int v2), none] [.int r1] hp (some (.int res)) hp
  refine Fx.run [(.istore_n 3, 1, 3, 0, .null), (.iconst 2, 1, 0, 0, .int 2), (.iload_n 3, 1, 3, 0, .null), (.imul, 1, 0, 0, .null), (.iload_n 3, 1, 3, 0, .null), (.aload_n 0, 1, 0, 0, .null), (.iload_n 1, 1, 1, 0, .null), (.iload_n 2, 1, 2, 0, .null), (.iconst 2, 1, 0, 0, .int 2)] 16 (by decide +kernel) ?_
  show Fx q_Mo_endOf 3 sh 16 [some (.ref c), some (.int v1), some (.int v2), some (.int r1)] [.int 2, .int v2, .int v1, .ref c, .int r1, .int (2 * r1)] hp (some (.int res)) hp
  replace hf := bnd hf
  obtain ⟨r2, hr2, hf⟩ := hf
  refine Fx.callV (rr := (some (.int r2))) (hp1 := hp) [.int v1, .int v2, .int 2] [.int r1, .int (2 * r1)] lk_9_44 (by decide +kernel) (t_Mo_of sh c (hS) hp v1 v2 2 r2 hr2) ⟨Nat.le_of_ble_eq_true rfl, Nat.le_of_ble_eq_true rfl⟩ (hS).1 (by decide) rfl (Nat.le_of_ble_eq_true rfl) ?_
  show Fx q_Mo_endOf 3 sh 19 [some (.ref c), some (.int v1), some (.int v2), some (.int r1)] [.int r2, .int r1, .int (2 * r1)] hp (some (.int res)) hp
  refine Fx.icmp_ne (7) 26 22 (by decide +kernel) (fun b3 => ?_) (fun b3 => ?_)
  · replace hf := ifn b3 hf
    refine Fx.run [(.iconst 0, 1, 0, 0, .int 0), (.iadd, 1, 0, 0, .null)] 28 (by decide +kernel) ?_
    show Fx q_Mo_endOf 3 sh 28 [some (.ref c), some (.int v1), some (.int v2), some (.int r1)] [.int ((2 * r1) + 0)] hp (some (.int res)) hp
    obtain rfl := Option.some.inj hf
    have hk : ((2 * r1) + 0) = res := hk
    subst hk
    exact Fx.iret (by decide +kernel) rfl
  · replace hf := ifp b3 hf
    refine Fx.run [(.iconst 1, 1, 0, 0, .int 1)] 23 (by decide +kernel) ?_
    show Fx q_Mo_endOf 3 sh 23 [some (.ref c), some (.int v1), some (.int v2), some (.int r1)] [.int 1, .int (2 * r1)] hp (some (.int res)) hp
    refine Fx.goto (4) 27 (by decide +kernel) ?_
    refine Fx.run [(.iadd, 1, 0, 0, .null)] 28 (by decide +kernel) ?_
    show Fx q_Mo_endOf 3 sh 28 [some (.ref c), some (.int v1), some (.int v2), some (.int r1)] [.int ((2 * r1) + 1)] hp (some (.int res)) hp
    obtain rfl := Option.some.inj hf
    have hk : ((2 * r1) + 1) = res := hk
    subst hk
    exact Fx.iret (by decide +kernel) rfl
def f_Mo_kindOf (v0 : Int32) (v1 : Int32) (v2 : Int32) (v3 : Int32) : Option Int32 :=
  (if v2 ≤ v1 then (if v1 = v2 then some 1 else (if v0 ≤ v3 then (if v3 = v0 then some 11 else (if v0 = v2 then (if v3 ≤ v1 then (if v1 = v3 then some 6 else some 9) else some 3) else (if v1 = v3 then (if v2 ≤ v0 then some 5 else some 7) else (if v2 ≤ v0 then (if v3 ≤ v1 then some 10 else some 4) else (if v3 ≤ v1 then some 8 else some 2))))) else some 12)) else some 0)
set_option maxHeartbeats 4000000 in
set_option maxRecDepth 20000 in
theorem t_Mo_kindOf (sh : Shp) (hp : HP) (v0 : Int32) (v1 : Int32) (v2 : Int32) (v3 : Int32) (res : Int32) (hf : f_Mo_kindOf v0 v1 v2 v3 = some res) : Ex 1 q_Mo_kindOf sh [.int v0, .int v1, .int v2, .int v3] hp (some (.int res)) hp := by
  refine Ex.of [some (.int v0), some (.int v1), some (.int v2), some (.int v3)] rfl (Nat.le_of_ble_eq_true rfl) (by decide +kernel) rfl ?_
  obtain ⟨t, hk⟩ : ∃ t, t = res := ⟨res, rfl⟩
  rw [← hk] at hf
  unfold f_Mo_kindOf at hf
  refine Fx.run [(.iload_n 1, 1, 1, 0, .null), (.iload_n 2, 1, 2, 0, .null)] 2 (by decide +kernel) ?_
  show Fx q_Mo_kindOf 1 sh 2 [some (.int v0), some (.int v1), some (.int v2), some (.int v3)] [.int v2, .int v1] hp (some (.int res)) hp
  refine Fx.icmp_ge (5) 7 5 (by decide +kernel) (fun b1 => ?_) (fun b1 => ?_)
  · replace hf := ifp b1 hf
    refine Fx.run [(.iload_n 1, 1, 1, 0, .null), (.iload_n 2, 1, 2, 0, .null)] 9 (by decide +kernel) ?_
    show Fx q_Mo_kindOf 1 sh 9 [some (.int v0), some (.int v1), some (.int v2), some (.int v3)] [.int v2, .int v1] hp (some (.int res)) hp
    refine Fx.icmp_ne (5) 14 12 (by decide +kernel) (fun b2 => ?_) (fun b2 => ?_)
    · replace hf := ifn b2 hf
      refine Fx.run [(.iload_n 3, 1, 3, 0, .null), (.iload_n 0, 1, 0, 0, .null)] 16 (by decide +kernel) ?_
      show Fx q_Mo_kindOf 1 sh 16 [some (.int v0), some (.int v1), some (.int v2), some (.int v3)] [.int v0, .int v3] hp (some (.int res)) hp
      refine Fx.icmp_ge (6) 22 19 (by decide +kernel) (fun b3 => ?_) (fun b3 => ?_)
      · replace hf := ifp b3 hf
        refine Fx.run [(.iload_n 3, 1, 3, 0, .null), (.iload_n 0, 1, 0, 0, .null)] 24 (by decide +kernel) ?_
        show Fx q_Mo_kindOf 1 sh 24 [some (.int v0), some (.int v1), some (.int v2), some (.int v3)] [.int v0, .int v3] hp (some (.int res)) hp
        refine Fx.icmp_ne (6) 30 27 (by decide +kernel) (fun b4 => ?_) (fun b4 => ?_)
        · replace hf := ifn b4 hf
          refine Fx.run [(.iload_n 0, 1, 0, 0, .null), (.iload_n 2, 1, 2, 0, .null)] 32 (by decide +kernel) ?_
          show Fx q_Mo_kindOf 1 sh 32 [some (.int v0), some (.int v1), some (.int v2), some (.int v3)] [.int v2, .int v0] hp (some (.int res)) hp
          refine Fx.icmp_ne (25) 57 35 (by decide +kernel) (fun b5 => ?_) (fun b5 => ?_)
          · replace hf := ifn b5 hf
            refine Fx.run [(.iload_n 1, 1, 1, 0, .null), (.iload_n 3, 1, 3, 0, .null)] 59 (by decide +kernel) ?_
            show Fx q_Mo_kindOf 1 sh 59 [some (.int v0), some (.int v1), some (.int v2), some (.int v3)] [.int v3, .int v1] hp (some (.int res)) hp
            refine Fx.icmp_ne (15) 74 62 (by decide +kernel) (fun b6 => ?_) (fun b6 => ?_)
            · replace hf := ifn b6 hf
              refine Fx.run [(.iload_n 0, 1, 0, 0, .null), (.iload_n 2, 1, 2, 0, .null)] 76 (by decide +kernel) ?_
              show Fx q_Mo_kindOf 1 sh 76 [some (.int v0), some (.int v1), some (.int v2), some (.int v3)] [.int v2, .int v0] hp (some (.int res)) hp
              refine Fx.icmp_ge (15) 91 79 (by decide +kernel) (fun b7 => ?_) (fun b7 => ?_)
              · replace hf := ifp b7 hf
                refine Fx.run [(.iload_n 1, 1, 1, 0, .null), (.iload_n 3, 1, 3, 0, .null)] 93 (by decide +kernel) ?_
                show Fx q_Mo_kindOf 1 sh 93 [some (.int v0), some (.int v1), some (.int v2), some (.int v3)] [.int v3, .int v1] hp (some (.int res)) hp
                refine Fx.icmp_ge (7) 100 96 (by decide +kernel) (fun b8 => ?_) (fun b8 => ?_)
                · replace hf := ifp b8 hf
                  refine Fx.run [(.bipush 10, 2, 0, 0, .int 10)] 102 (by decide +kernel) ?_
                  show Fx q_Mo_kindOf 1 sh 102 [some (.int v0), some (.int v1), some (.int v2), some (.int v3)] [.int 10] hp (some (.int res)) hp
                  obtain rfl := Option.some.inj hf
                  have hk : 10 = res := hk
                  subst hk
                  exact Fx.iret (by decide +kernel) rfl
                · replace hf := ifn b8 hf
                  refine Fx.run [(.iconst 4, 1, 0, 0, .int 4)] 97 (by decide +kernel) ?_
                  show Fx q_Mo_kindOf 1 sh 97 [some (.int v0), some (.int v1), some (.int v2), some (.int v3)] [.int 4] hp (some (.int res)) hp
                  refine Fx.goto (5) 102 (by decide +kernel) ?_
                  obtain rfl := Option.some.inj hf
                  have hk : 4 = res := hk
                  subst hk
                  exact Fx.iret (by decide +kernel) rfl
              · replace hf := ifn b7 hf
                refine Fx.run [(.iload_n 1, 1, 1, 0, .null), (.iload_n 3, 1, 3, 0, .null)] 81 (by decide +kernel) ?_
                show Fx q_Mo_kindOf 1 sh 81 [some (.int v0), some (.int v1), some (.int v2), some (.int v3)] [.int v3, .int v1] hp (some (.int res)) hp
                refine Fx.icmp_ge (7) 88 84 (by decide +kernel) (fun b9 => ?_) (fun b9 => ?_)
                · replace hf := ifp b9 hf
                  refine Fx.run [(.bipush 8, 2, 0, 0, .int 8)] 90 (by decide +kernel) ?_
                  show Fx q_Mo_kindOf 1 sh 90 [some (.int v0), some (.int v1), some (.int v2), some (.int v3)] [.int 8] hp (some (.int res)) hp
                  obtain rfl := Option.some.inj hf
                  have hk : 8 = res := hk
                  subst hk
                  exact Fx.iret (by decide +kernel) rfl
                · replace hf := ifn b9 hf
                  refine Fx.run [(.iconst 2, 1, 0, 0, .int 2)] 85 (by decide +kernel) ?_
                  show Fx q_Mo_kindOf 1 sh 85 [some (.int v0), some (.int v1), some (.int v2), some (.int v3)] [.int 2] hp (some (.int res)) hp
                  refine Fx.goto (5) 90 (by decide +kernel) ?_
                  obtain rfl := Option.some.inj hf
                  have hk : 2 = res := hk
                  subst hk
                  exact Fx.iret (by decide +kernel) rfl
            · replace hf := ifp b6 hf
              refine Fx.run [(.iload_n 0, 1, 0, 0, .null), (.iload_n 2, 1, 2, 0, .null)] 64 (by decide +kernel) ?_
              show Fx q_Mo_kindOf 1 sh 64 [some (.int v0), some (.int v1), some (.int v2), some (.int v3)] [.int v2, .int v0] hp (some (.int res)) hp
              refine Fx.icmp_ge (8) 72 67 (by decide +kernel) (fun b10 => ?_) (fun b10 => ?_)
              · replace hf := ifp b10 hf
                refine Fx.run [(.iconst 5, 1, 0, 0, .int 5)] 73 (by decide +kernel) ?_
                show Fx q_Mo_kindOf 1 sh 73 [some (.int v0), some (.int v1), some (.int v2), some (.int v3)] [.int 5] hp (some (.int res)) hp
                obtain rfl := Option.some.inj hf
                have hk : 5 = res := hk
                subst hk
                exact Fx.iret (by decide +kernel) rfl
              · replace hf := ifn b10 hf
                refine Fx.run [(.bipush 7, 2, 0, 0, .int 7)] 69 (by decide +kernel) ?_
                show Fx q_Mo_kindOf 1 sh 69 [some (.int v0), some (.int v1), some (.int v2), some (.int v3)] [.int 7] hp (some (.int res)) hp
                refine Fx.goto (4) 73 (by decide +kernel) ?_
                obtain rfl := Option.some.inj hf
                have hk : 7 = res := hk
                subst hk
                exact Fx.iret (by decide +kernel) rfl
          · replace hf := ifp b5 hf
            refine Fx.run [(.iload_n 1, 1, 1, 0, .null), (.iload_n 3, 1, 3, 0, .null)] 37 (by decide +kernel) ?_
            show Fx q_Mo_kindOf 1 sh 37 [some (.int v0), some (.int v1), some (.int v2), some (.int v3)] [.int v3, .int v1] hp (some (.int res)) hp
            refine Fx.icmp_ge (7) 44 40 (by decide +kernel) (fun b11 => ?_) (fun b11 => ?_)
            · replace hf := ifp b11 hf
              refine Fx.run [(.iload_n 1, 1, 1, 0, .null), (.iload_n 3, 1, 3, 0, .null)] 46 (by decide +kernel) ?_
              show Fx q_Mo_kindOf 1 sh 46 [some (.int v0), some (.int v1), some (.int v2), some (.int v3)] [.int v3, .int v1] hp (some (.int res)) hp
              refine Fx.icmp_ne (8) 54 49 (by decide +kernel) (fun b12 => ?_) (fun b12 => ?_)
              · replace hf := ifn b12 hf
                refine Fx.run [(.bipush 9, 2, 0, 0, .int 9)] 56 (by decide +kernel) ?_
                show Fx q_Mo_kindOf 1 sh 56 [some (.int v0), some (.int v1), some (.int v2), some (.int v3)] [.int 9] hp (some (.int res)) hp
                obtain rfl := Option.some.inj hf
                have hk : 9 = res := hk
                subst hk
                exact Fx.iret (by decide +kernel) rfl
              · replace hf := ifp b12 hf
                refine Fx.run [(.bipush 6, 2, 0, 0, .int 6)] 51 (by decide +kernel) ?_
                show Fx q_Mo_kindOf 1 sh 51 [some (.int v0), some (.int v1), some (.int v2), some (.int v3)] [.int 6] hp (some (.int res)) hp
                refine Fx.goto (5) 56 (by decide +kernel) ?_
                obtain rfl := Option.some.inj hf
                have hk : 6 = res := hk
                subst hk
                exact Fx.iret (by decide +kernel) rfl
            · replace hf := ifn b11 hf
              refine Fx.run [(.iconst 3, 1, 0, 0, .int 3)] 41 (by decide +kernel) ?_
              show Fx q_Mo_kindOf 1 sh 41 [some (.int v0), some (.int v1), some (.int v2), some (.int v3)] [.int 3] hp (some (.int res)) hp
              refine Fx.goto (15) 56 (by decide +kernel) ?_
              obtain rfl := Option.some.inj hf
              have hk : 3 = res := hk
              subst hk
              exact Fx.iret (by decide +kernel) rfl
        · replace hf := ifp b4 hf
          refine Fx.run [(.bipush 11, 2, 0, 0, .int 11)] 29 (by decide +kernel) ?_
          show Fx q_Mo_kindOf 1 sh 29 [some (.int v0), some (.int v1), some (.int v2), some (.int v3)] [.int 11] hp (some (.int res)) hp
          obtain rfl := Option.some.inj hf
          have hk : 11 = res := hk
          subst hk
          exact Fx.iret (by decide +kernel) rfl
      · replace hf := ifn b3 hf
        refine Fx.run [(.bipush 12, 2, 0, 0, .int 12)] 21 (by decide +kernel) ?_
        show Fx q_Mo_kindOf 1 sh 21 [some (.int v0), some (.int v1), some (.int v2), some (.int v3)] [.int 12] hp (some (.int res)) hp
        obtain rfl := Option.some.inj hf
        have hk : 12 = res := hk
        subst hk
        exact Fx.iret (by decide +kernel) rfl
    · replace hf := ifp b2 hf
      refine Fx.run [(.iconst 1, 1, 0, 0, .int 1)] 13 (by decide +kernel) ?_
      show Fx q_Mo_kindOf 1 sh 13 [some (.int v0), some (.int v1), some (.int v2), some (.int v3)] [.int 1] hp (some (.int res)) hp
      obtain rfl := Option.some.inj hf
      have hk : 1 = res := hk
      subst hk
      exact Fx.iret (by decide +kernel) rfl
  · replace hf := ifn b1 hf
    refine Fx.run [(.iconst 0, 1, 0, 0, .int 0)] 6 (by decide +kernel) ?_
    show Fx q_Mo_kindOf 1 sh 6 [some (.int v0), some (.int v1), some (.int v2), some (.int v3)] [.int 0] hp (some (.int res)) hp
    obtain rfl := Option.some.inj hf
    have hk : 0 = res := hk
    subst hk
    exact Fx.iret (by decide +kernel) rfl
noncomputable def f_Mo_kindBetween (c : Nat) (hp : HP) (v1 : Int32) (v2 : Int32) (v3 : Int32) (v4 : Int32) : Option Int32 :=
  ((f_Mo_startOf c hp v1 v2).bind fun r1 => ((f_Mo_endOf c hp v1 v2).bind fun r2 => ((f_Mo_startOf c hp v3 v4).bind fun r3 => ((f_Mo_endOf c hp v3 v4).bind fun r4 => ((f_Mo_kindOf r1 r2 r3 r4).bind fun r5 => some r5)))))
set_option maxHeartbeats 4000000 in
set_option maxRecDepth 20000 in
theorem t_Mo_kindBetween (sh : Shp) (c : Nat) (hS : S_Mo sh c) (hp : HP) (v1 : Int32) (v2 : Int32) (v3 : Int32) (v4 : Int32) (res : Int32) (hf : f_Mo_kindBetween c hp v1 v2 v3 v4 = some res) : Ex 4 q_Mo_kindBetween sh [.ref c, .int v1, .int v2, .int v3, .int v4] hp (some (.int res)) hp := by
  refine Ex.of [some (.ref c), some (.int v1), some (.int v2), some (.int v3), some (.int v4)] rfl (Nat.le_of_ble_eq_true rfl) (by decide +kernel) rfl ?_
  obtain ⟨t, hk⟩ : ∃ t, t = res := ⟨res, rfl⟩
  rw [← hk] at hf
  unfold f_Mo_kindBetween at hf
  refine Fx.run [(.aload_n 0, 1, 0, 0, .null), (.iload_n 1, 1, 1, 0, .null), (.iload_n 2, 1, 2, 0, .null)] 3 (by decide +kernel) ?_
  show Fx q_Mo_kindBetween 4 sh 3 [some (.ref c), some (.int v1), some (.int v2), some (.int v3), some (.int v4)] [.int v2, .int v1, .ref c] hp (some (.int res)) hp
  replace hf := bnd hf
  obtain ⟨r1, hr1, hf⟩ := hf
  refine Fx.callV (rr := (some (.int r1))) (hp1 := hp) [.int v1, .int v2] [] lk_9_56 (by decide +kernel) (t_Mo_startOf sh c (hS) hp v1 v2 r1 hr1) ⟨Nat.le_of_ble_eq_true rfl, Nat.le_of_ble_eq_true rfl⟩ (hS).1 (by decide) rfl (Nat.le_of_ble_eq_true rfl) ?_
  show Fx q_Mo_kindBetween 4 sh 6 [some (.ref c), some (.int v1), some (.int v2), some (.int v3), some (.int v4)] [.int r1] hp (some (.int res)) hp
  refine Fx.run [(.aload_n 0, 1, 0, 0, .null), (.iload_n 1, 1, 1, 0, .null), (.iload_n 2, 1, 2, 0, .null)] 9 (by decide +kernel) ?_
  show Fx q_Mo_kindBetween 4 sh 9 [some (.ref c), some (.int v1), some (.int v2), some (.int v3), some (.int v4)] [.int v2, .int v1, .ref c, .int r1] hp (some (.int res)) hp
  replace hf := bnd hf
  obtain ⟨r2, hr2, hf⟩ := hf
  refine Fx.callV (rr := (some (.int r2))) (hp1 := hp) [.int v1, .int v2] [.int r1] lk_9_59 (by decide +kernel) (t_Mo_endOf sh c (hS) hp v1 v2 r2 hr2) ⟨Nat.le_of_ble_eq_true rfl, Nat.le_of_ble_eq_true rfl⟩ (hS).1 (by decide) rfl (Nat.le_of_ble_eq_true rfl) ?_
  show Fx q_Mo_kindBetween 4 sh 12 [some (.ref c), some (.int v1), some (.int v2), some (.int v3), some (.int v4)] [.int r2, .int r1] hp (some (.int res)) hp
  refine Fx.run [(.aload_n 0, 1, 0, 0, .null), (.iload_n 3, 1, 3, 0, .null), (.iload 4, 2, 4, 0, .null)] 16 (by decide +kernel) ?_
  show Fx q_Mo_kindBetween 4 sh 16 [some (.ref c), some (.int v1), some (.int v2), some (.int v3), some (.int v4)] [.int v4, .int v3, .ref c, .int r2, .int r1] hp (some (.int res)) hp
  replace hf := bnd hf
  obtain ⟨r3, hr3, hf⟩ := hf
  refine Fx.callV (rr := (some (.int r3))) (hp1 := hp) [.int v3, .int v4] [.int r2, .int r1] lk_9_56 (by decide +kernel) (t_Mo_startOf sh c (hS) hp v3 v4 r3 hr3) ⟨Nat.le_of_ble_eq_true rfl, Nat.le_of_ble_eq_true rfl⟩ (hS).1 (by decide) rfl (Nat.le_of_ble_eq_true rfl) ?_
  show Fx q_Mo_kindBetween 4 sh 19 [some (.ref c), some (.int v1), some (.int v2), some (.int v3), some (.int v4)] [.int r3, .int r2, .int r1] hp (some (.int res)) hp
  refine Fx.run [(.aload_n 0, 1, 0, 0, .null), (.iload_n 3, 1, 3, 0, .null), (.iload 4, 2, 4, 0, .null)] 23 (by decide +kernel) ?_
  show Fx q_Mo_kindBetween 4 sh 23 [some (.ref c), some (.int v1), some (.int v2), some (.int v3), some (.int v4)] [.int v4, .int v3, .ref c, .int r3, .int r2, .int r1] hp (some (.int res)) hp
  replace hf := bnd hf
  obtain ⟨r4, hr4, hf⟩ := hf
  refine Fx.callV (rr := (some (.int r4))) (hp1 := hp) [.int v3, .int v4] [.int r3, .int r2, .int r1] lk_9_59 (by decide +kernel) (t_Mo_endOf sh c (hS) hp v3 v4 r4 hr4) ⟨Nat.le_of_ble_eq_true rfl, Nat.le_of_ble_eq_true rfl⟩ (hS).1 (by decide) rfl (Nat.le_of_ble_eq_true rfl) ?_
  show Fx q_Mo_kindBetween 4 sh 26 [some (.ref c), some (.int v1), some (.int v2), some (.int v3), some (.int v4)] [.int r4, .int r3, .int r2, .int r1] hp (some (.int res)) hp
  replace hf := bnd hf
  obtain ⟨r5, hr5, hf⟩ := hf
  refine Fx.callS (rr := (some (.int r5))) (hp1 := hp) [.int r1, .int r2, .int r3, .int r4] [] lk_9_62 (by decide +kernel) (t_Mo_kindOf sh hp r1 r2 r3 r4 r5 hr5) ⟨Nat.le_of_ble_eq_true rfl, Nat.le_of_ble_eq_true rfl⟩ rfl (Nat.le_of_ble_eq_true rfl) ?_
  show Fx q_Mo_kindBetween 4 sh 29 [some (.ref c), some (.int v1), some (.int v2), some (.int v3), some (.int v4)] [.int r5] hp (some (.int res)) hp
  obtain rfl := Option.some.inj hf
  have hk : r5 = res := hk
  subst hk
  exact Fx.iret (by decide +kernel) rfl
def f_Mo_has (v0 : Int32) (v1 : Int32) : Option Int32 :=
  (if ((v0 >>> (v1 &&& 31)) &&& 1) = 1 then some 1 else some 0)
set_option maxHeartbeats 4000000 in
set_option maxRecDepth 20000 in
theorem t_Mo_has (sh : Shp) (hp : HP) (v0 : Int32) (v1 : Int32) (res : Int32) (hf : f_Mo_has v0 v1 = some res) : Ex 1 q_Mo_has sh [.int v0, .int v1] hp (some (.int res)) hp := by
  refine Ex.of [some (.int v0), some (.int v1)] rfl (Nat.le_of_ble_eq_true rfl) (by decide +kernel) rfl ?_
  obtain ⟨t, hk⟩ : ∃ t, t = res := ⟨res, rfl⟩
  rw [← hk] at hf
  unfold f_Mo_has at hf
  refine Fx.run [(.iload_n 0, 1, 0, 0, .null), (.iload_n 1, 1, 1, 0, .null), (.ishr, 1, 0, 0, .null), (.iconst 1, 1, 0, 0, .int 1), (.iand, 1, 0, 0, .null), (.iconst 1, 1, 0, 0, .int 1)] 6 (by decide +kernel) ?_
  show Fx q_Mo_has 1 sh 6 [some (.int v0), some (.int v1)] [.int 1, .int ((v0 >>> (v1 &&& 31)) &&& 1)] hp (some (.int res)) hp
  refine Fx.icmp_ne (7) 13 9 (by decide +kernel) (fun b1 => ?_) (fun b1 => ?_)
  · replace hf := ifn b1 hf
    refine Fx.run [(.iconst 0, 1, 0, 0, .int 0)] 14 (by decide +kernel) ?_
    show Fx q_Mo_has 1 sh 14 [some (.int v0), some (.int v1)] [.int 0] hp (some (.int res)) hp
    obtain rfl := Option.some.inj hf
    have hk : 0 = res := hk
    subst hk
    exact Fx.zret (by decide +kernel) rfl (Or.inl rfl)
  · replace hf := ifp b1 hf
    refine Fx.run [(.iconst 1, 1, 0, 0, .int 1)] 10 (by decide +kernel) ?_
    show Fx q_Mo_has 1 sh 10 [some (.int v0), some (.int v1)] [.int 1] hp (some (.int res)) hp
    refine Fx.goto (4) 14 (by decide +kernel) ?_
    obtain rfl := Option.some.inj hf
    have hk : 1 = res := hk
    subst hk
    exact Fx.zret (by decide +kernel) rfl (Or.inr rfl)
noncomputable def f_Mo_arePartners (c : Nat) (hp : HP) (v1 : Int32) (v2 : Int32) : Option Int32 :=
  ((f_Mo_isKeyed c hp v1 v2).bind fun r1 => (if r1 = 0 then some 0 else ((f_Mo_kindBetween c hp 0 v1 1 v2).bind fun r3 => ((f_Mo_has (hp.1 (c + 1) (ix 1)) r3).bind fun r4 => (if r4 = 0 then some 0 else some 1)))))
set_option maxHeartbeats 4000000 in
set_option maxRecDepth 20000 in
theorem t_Mo_arePartners (sh : Shp) (c : Nat) (hS : S_Mo sh c) (hp : HP) (v1 : Int32) (v2 : Int32) (res : Int32) (hf : f_Mo_arePartners c hp v1 v2 = some res) : Ex 5 q_Mo_arePartners sh [.ref c, .int v1, .int v2] hp (some (.int res)) hp := by
  refine Ex.of [some (.ref c), some (.int v1), some (.int v2)] rfl (Nat.le_of_ble_eq_true rfl) (by decide +kernel) rfl ?_
  obtain ⟨t, hk⟩ : ∃ t, t = res := ⟨res, rfl⟩
  rw [← hk] at hf
  unfold f_Mo_arePartners at hf
  refine Fx.run [(.aload_n 0, 1, 0, 0, .null), (.iload_n 1, 1, 1, 0, .null), (.iload_n 2, 1, 2, 0, .null)] 3 (by decide +kernel) ?_
  show Fx q_Mo_arePartners 5 sh 3 [some (.ref c), some (.int v1), some (.int v2)] [.int v2, .int v1, .ref c] hp (some (.int res)) hp
  replace hf := bnd hf
  obtain ⟨r1, hr1, hf⟩ := hf
  refine Fx.callV (rr := (some (.int r1))) (hp1 := hp) [.int v1, .int v2] [] lk_9_69 (by decide +kernel) (t_Mo_isKeyed sh c (hS) hp v1 v2 r1 hr1) ⟨Nat.le_of_ble_eq_true rfl, Nat.le_of_ble_eq_true rfl⟩ (hS).1 (by decide) rfl (Nat.le_of_ble_eq_true rfl) ?_
  show Fx q_Mo_arePartners 5 sh 6 [some (.ref c), some (.int v1), some (.int v2)] [.int r1] hp (some (.int res)) hp
  refine Fx.if_eq (27) 33 9 (by decide +kernel) (fun b2 => ?_) (fun b2 => ?_)
  · replace hf := ifp b2 hf
    refine Fx.run [(.iconst 0, 1, 0, 0, .int 0)] 34 (by decide +kernel) ?_
    show Fx q_Mo_arePartners 5 sh 34 [some (.ref c), some (.int v1), some (.int v2)] [.int 0] hp (some (.int res)) hp
    obtain rfl := Option.some.inj hf
    have hk : 0 = res := hk
    subst hk
    exact Fx.zret (by decide +kernel) rfl (Or.inl rfl)
  · replace hf := ifn b2 hf
    refine Fx.run [(.aload_n 0, 1, 0, 0, .null), (.getfield 9, 3, 9, 0, .ref 1), (.iconst 1, 1, 0, 0, .int 1), (.iaload, 1, 4100, 0, .null), (.aload_n 0, 1, 0, 0, .null), (.iconst 0, 1, 0, 0, .int 0), (.iload_n 1, 1, 1, 0, .null), (.iconst 1, 1, 0, 0, .int 1), (.iload_n 2, 1, 2, 0, .null)] 20 (by decide +kernel) ?_
    show isK sh c 9 ∧ (isA sh (c + 1) 10 4100 ∧ inb 1 4100) ∧ Fx q_Mo_arePartners 5 sh 20 [some (.ref c), some (.int v1), some (.int v2)] [.int v2, .int 1, .int v1, .int 0, .ref c, .int (hp.1 (c + 1) (ix 1))] hp (some (.int res)) hp
    refine ⟨hS.1, ⟨hS.2.1, (by decide)⟩, ?_⟩
    replace hf := bnd hf
    obtain ⟨r3, hr3, hf⟩ := hf
    refine Fx.callV (rr := (some (.int r3))) (hp1 := hp) [.int 0, .int v1, .int 1, .int v2] [.int (hp.1 (c + 1) (ix 1))] lk_9_66 (by decide +kernel) (t_Mo_kindBetween sh c (hS) hp 0 v1 1 v2 r3 hr3) ⟨Nat.le_of_ble_eq_true rfl, Nat.le_of_ble_eq_true rfl⟩ (hS).1 (by decide) rfl (Nat.le_of_ble_eq_true rfl) ?_
    show Fx q_Mo_arePartners 5 sh 23 [some (.ref c), some (.int v1), some (.int v2)] [.int r3, .int (hp.1 (c + 1) (ix 1))] hp (some (.int res)) hp
    replace hf := bnd hf
    obtain ⟨r4, hr4, hf⟩ := hf
    refine Fx.callS (rr := (some (.int r4))) (hp1 := hp) [.int (hp.1 (c + 1) (ix 1)), .int r3] [] lk_9_73 (by decide +kernel) (t_Mo_has sh hp (hp.1 (c + 1) (ix 1)) r3 r4 hr4) ⟨Nat.le_of_ble_eq_true rfl, Nat.le_of_ble_eq_true rfl⟩ rfl (Nat.le_of_ble_eq_true rfl) ?_
    show Fx q_Mo_arePartners 5 sh 26 [some (.ref c), some (.int v1), some (.int v2)] [.int r4] hp (some (.int res)) hp
    refine Fx.if_eq (7) 33 29 (by decide +kernel) (fun b5 => ?_) (fun b5 => ?_)
    · replace hf := ifp b5 hf
      refine Fx.run [(.iconst 0, 1, 0, 0, .int 0)] 34 (by decide +kernel) ?_
      show Fx q_Mo_arePartners 5 sh 34 [some (.ref c), some (.int v1), some (.int v2)] [.int 0] hp (some (.int res)) hp
      obtain rfl := Option.some.inj hf
      have hk : 0 = res := hk
      subst hk
      exact Fx.zret (by decide +kernel) rfl (Or.inl rfl)
    · replace hf := ifn b5 hf
      refine Fx.run [(.iconst 1, 1, 0, 0, .int 1)] 30 (by decide +kernel) ?_
      show Fx q_Mo_arePartners 5 sh 30 [some (.ref c), some (.int v1), some (.int v2)] [.int 1] hp (some (.int res)) hp
      refine Fx.goto (4) 34 (by decide +kernel) ?_
      obtain rfl := Option.some.inj hf
      have hk : 1 = res := hk
      subst hk
      exact Fx.zret (by decide +kernel) rfl (Or.inr rfl)
noncomputable def f_Mo_isPartner (c : Nat) (hp : HP) (v1 : Int32) (v2 : Int32) (v3 : Int32) : Option Int32 :=
  (if v1 = 0 then ((f_Mo_arePartners c hp v2 v3).bind fun r4 => (if (r4 = 0 ∨ r4 = 1) then some r4 else none)) else ((f_Mo_arePartners c hp v3 v2).bind fun r2 => (if (r2 = 0 ∨ r2 = 1) then some r2 else none)))
set_option maxHeartbeats 4000000 in
set_option maxRecDepth 20000 in
theorem t_Mo_isPartner (sh : Shp) (c : Nat) (hS : S_Mo sh c) (hp : HP) (v1 : Int32) (v2 : Int32) (v3 : Int32) (res : Int32) (hf : f_Mo_isPartner c hp v1 v2 v3 = some res) : Ex 6 q_Mo_isPartner sh [.ref c, .int v1, .int v2, .int v3] hp (some (.int res)) hp := by
  refine Ex.of [some (.ref c), some (.int v1), some (.int v2), some (.int v3)] rfl (Nat.le_of_ble_eq_true rfl) (by decide +kernel) rfl ?_
  obtain ⟨t, hk⟩ : ∃ t, t = res := ⟨res, rfl⟩
  rw [← hk] at hf
  unfold f_Mo_isPartner at hf
  refine Fx.run [(.iload_n 1, 1, 1, 0, .null)] 1 (by decide +kernel) ?_
  show Fx q_Mo_isPartner 6 sh 1 [some (.ref c), some (.int v1), some (.int v2), some (.int v3)] [.int v1] hp (some (.int res)) hp
  refine Fx.if_ne (12) 13 4 (by decide +kernel) (fun b1 => ?_) (fun b1 => ?_)
  · replace hf := ifn b1 hf
    refine Fx.run [(.aload_n 0, 1, 0, 0, .null), (.iload_n 3, 1, 3, 0, .null), (.iload_n 2, 1, 2, 0, .null)] 16 (by decide +kernel) ?_
    show Fx q_Mo_isPartner 6 sh 16 [some (.ref c), some (.int v1), some (.int v2), some (.int v3)] [.int v2, .int v3, .ref c] hp (some (.int res)) hp
    replace hf := bnd hf
    obtain ⟨r2, hr2, hf⟩ := hf
    refine Fx.callV (rr := (some (.int r2))) (hp1 := hp) [.int v3, .int v2] [] lk_9_76 (by decide +kernel) (t_Mo_arePartners sh c (hS) hp v3 v2 r2 hr2) ⟨Nat.le_of_ble_eq_true rfl, Nat.le_of_ble_eq_true rfl⟩ (hS).1 (by decide) rfl (Nat.le_of_ble_eq_true rfl) ?_
    show Fx q_Mo_isPartner 6 sh 19 [some (.ref c), some (.int v1), some (.int v2), some (.int v3)] [.int r2] hp (some (.int res)) hp
    replace hf := gd hf
    obtain ⟨g3, hf⟩ := hf
    obtain rfl := Option.some.inj hf
    have hk : r2 = res := hk
    subst hk
    exact Fx.zret (by decide +kernel) rfl g3
  · replace hf := ifp b1 hf
    refine Fx.run [(.aload_n 0, 1, 0, 0, .null), (.iload_n 2, 1, 2, 0, .null), (.iload_n 3, 1, 3, 0, .null)] 7 (by decide +kernel) ?_
    show Fx q_Mo_isPartner 6 sh 7 [some (.ref c), some (.int v1), some (.int v2), some (.int v3)] [.int v3, .int v2, .ref c] hp (some (.int res)) hp
    replace hf := bnd hf
    obtain ⟨r4, hr4, hf⟩ := hf
    refine Fx.callV (rr := (some (.int r4))) (hp1 := hp) [.int v2, .int v3] [] lk_9_76 (by decide +kernel) (t_Mo_arePartners sh c (hS) hp v2 v3 r4 hr4) ⟨Nat.le_of_ble_eq_true rfl, Nat.le_of_ble_eq_true rfl⟩ (hS).1 (by decide) rfl (Nat.le_of_ble_eq_true rfl) ?_
    show Fx q_Mo_isPartner 6 sh 10 [some (.ref c), some (.int v1), some (.int v2), some (.int v3)] [.int r4] hp (some (.int res)) hp
    refine Fx.goto (9) 19 (by decide +kernel) ?_
    replace hf := gd hf
    obtain ⟨g5, hf⟩ := hf
    obtain rfl := Option.some.inj hf
    have hk : r4 = res := hk
    subst hk
    exact Fx.zret (by decide +kernel) rfl g5
noncomputable def f_Mo_partners_b5 (c : Nat) (hp : HP) (v1 : Int32) (v2 : Int32) (v3 : Int32) (v4 : Int32) : Option ((Int32 × Int32) ⊕ Int32) :=
  (if inb (3 - v1) 4100 then (if (hp.1 (c + 1) (ix (3 - v1))) ≤ v4 then Option.map Sum.inr (some v3) else ((f_Mo_isPartner c hp v1 v2 v4).bind fun r3 => (if r3 = 0 then some (Sum.inl ((v3 + 0), (v4 + 1))) else some (Sum.inl ((v3 + 1), (v4 + 1)))))) else none)
noncomputable def f_Mo_partners_l5 (c : Nat) (hp : HP) (v1 : Int32) (v2 : Int32) (s : (Int32 × Int32)) : Option Int32 :=
  loop (fun s : (Int32 × Int32) => f_Mo_partners_b5 c hp v1 v2 s.1 s.2) s
noncomputable def f_Mo_partners (c : Nat) (hp : HP) (v1 : Int32) (v2 : Int32) : Option Int32 :=
  f_Mo_partners_l5 c hp v1 v2 (0, 0)
abbrev P_Mo_partners_5 (sh : Shp) (c : Nat) (hp : HP) (v1 : Int32) (v2 : Int32) (res : Int32) : (Int32 × Int32) → Prop := fun s => Fx q_Mo_partners 7 sh 5 [some (.ref c), some (.int v1), some (.int v2), some (.int s.1), some (.int s.2)] [] hp (some (.int res)) hp
set_option maxHeartbeats 4000000 in
set_option maxRecDepth 20000 in
theorem t_Mo_partners_l5 (sh : Shp) (c : Nat) (hS : S_Mo sh c) (hp : HP) (v1 : Int32) (v2 : Int32) (res : Int32) : ∀ (s : (Int32 × Int32)) (t : Int32), f_Mo_partners_l5 c hp v1 v2 s = some t → (fun v => v = res) t → P_Mo_partners_5 sh c hp v1 v2 res s := by
  refine loop_ind (P_Mo_partners_5 sh c hp v1 v2 res) (fun v => v = res) ?_
  intro s t hf hk
  obtain ⟨v3, v4⟩ := s
  replace hf : f_Mo_partners_b5 c hp v1 v2 v3 v4 = some t := hf
  show Fx q_Mo_partners 7 sh 5 [some (.ref c), some (.int v1), some (.int v2), some (.int v3), some (.int v4)] [] hp (some (.int res)) hp
  unfold f_Mo_partners_b5 at hf
  replace hf := gd hf
  obtain ⟨g1, hf⟩ := hf
  refine Fx.run [(.iload 4, 2, 4, 0, .null), (.aload_n 0, 1, 0, 0, .null), (.getfield 9, 3, 9, 0, .ref 1), (.iconst 3, 1, 0, 0, .int 3), (.iload_n 1, 1, 1, 0, .null), (.isub, 1, 0, 0, .null), (.iaload, 1, 4100, 0, .null)] 15 (by decide +kernel) ?_
  show isK sh c 9 ∧ (isA sh (c + 1) 10 4100 ∧ inb (3 - v1) 4100) ∧ Fx q_Mo_partners 7 sh 15 [some (.ref c), some (.int v1), some (.int v2), some (.int v3), some (.int v4)] [.int (hp.1 (c + 1) (ix (3 - v1))), .int v4] hp (some (.int res)) hp
  refine ⟨hS.1, ⟨hS.2.1, g1⟩, ?_⟩
  refine Fx.icmp_ge (28) 43 18 (by decide +kernel) (fun b2 => ?_) (fun b2 => ?_)
  · replace hf := ifp b2 hf
    replace hf := mpd hf
    obtain ⟨t, hf, rfl⟩ := hf
    refine Fx.run [(.iload_n 3, 1, 3, 0, .null)] 44 (by decide +kernel) ?_
    show Fx q_Mo_partners 7 sh 44 [some (.ref c), some (.int v1), some (.int v2), some (.int v3), some (.int v4)] [.int v3] hp (some (.int res)) hp
    obtain rfl := Option.some.inj hf
    have hk : v3 = res := hk
    subst hk
    exact Fx.iret (by decide +kernel) rfl
  · replace hf := ifn b2 hf
    refine Fx.run [(.iload_n 3, 1, 3, 0, .null), (.aload_n 0, 1, 0, 0, .null), (.iload_n 1, 1, 1, 0, .null), (.iload_n 2, 1, 2, 0, .null), (.iload 4, 2, 4, 0, .null)] 24 (by decide +kernel) ?_
    show Fx q_Mo_partners 7 sh 24 [some (.ref c), some (.int v1), some (.int v2), some (.int v3), some (.int v4)] [.int v4, .int v2, .int v1, .ref c, .int v3] hp (some (.int res)) hp
    replace hf := bnd hf
    obtain ⟨r3, hr3, hf⟩ := hf
    refine Fx.callV (rr := (some (.int r3))) (hp1 := hp) [.int v1, .int v2, .int v4] [.int v3] lk_9_149 (by decide +kernel) (t_Mo_isPartner sh c (hS) hp v1 v2 v4 r3 hr3) ⟨Nat.le_of_ble_eq_true rfl, Nat.le_of_ble_eq_true rfl⟩ (hS).1 (by decide) rfl (Nat.le_of_ble_eq_true rfl) ?_
    show Fx q_Mo_partners 7 sh 27 [some (.ref c), some (.int v1), some (.int v2), some (.int v3), some (.int v4)] [.int r3, .int v3] hp (some (.int res)) hp
    refine Fx.if_eq (7) 34 30 (by decide +kernel) (fun b4 => ?_) (fun b4 => ?_)
    · replace hf := ifp b4 hf
      refine Fx.run [(.iconst 0, 1, 0, 0, .int 0), (.iadd, 1, 0, 0, .null), (.istore_n 3, 1, 3, 0, .null), (.iinc 4 1, 3, 4, 0, .int 1)] 40 (by decide +kernel) ?_
      show Fx q_Mo_partners 7 sh 40 [some (.ref c), some (.int v1), some (.int v2), some (.int (v3 + 0)), some (.int (v4 + 1))] [] hp (some (.int res)) hp
      refine Fx.goto (-35) 5 (by decide +kernel) ?_
      obtain rfl := Option.some.inj hf
      have hk : Fx q_Mo_partners 7 sh 5 [some (.ref c), some (.int v1), some (.int v2), some (.int (v3 + 0)), some (.int (v4 + 1))] [] hp (some (.int res)) hp := hk
      exact Fx.le hk (And.intro rfl (And.intro rfl (And.intro rfl (And.intro rfl (And.intro rfl trivial)))))
    · replace hf := ifn b4 hf
      refine Fx.run [(.iconst 1, 1, 0, 0, .int 1)] 31 (by decide +kernel) ?_
      show Fx q_Mo_partners 7 sh 31 [some (.ref c), some (.int v1), some (.int v2), some (.int v3), some (.int v4)] [.int 1, .int v3] hp (some (.int res)) hp
      refine Fx.goto (4) 35 (by decide +kernel) ?_
      refine Fx.run [(.iadd, 1, 0, 0, .null), (.istore_n 3, 1, 3, 0, .null), (.iinc 4 1, 3, 4, 0, .int 1)] 40 (by decide +kernel) ?_
      show Fx q_Mo_partners 7 sh 40 [some (.ref c), some (.int v1), some (.int v2), some (.int (v3 + 1)), some (.int (v4 + 1))] [] hp (some (.int res)) hp
      refine Fx.goto (-35) 5 (by decide +kernel) ?_
      obtain rfl := Option.some.inj hf
      have hk : Fx q_Mo_partners 7 sh 5 [some (.ref c), some (.int v1), some (.int v2), some (.int (v3 + 1)), some (.int (v4 + 1))] [] hp (some (.int res)) hp := hk
      exact Fx.le hk (And.intro rfl (And.intro rfl (And.intro rfl (And.intro rfl (And.intro rfl trivial)))))
set_option maxHeartbeats 4000000 in
set_option maxRecDepth 20000 in
theorem t_Mo_partners (sh : Shp) (c : Nat) (hS : S_Mo sh c) (hp : HP) (v1 : Int32) (v2 : Int32) (res : Int32) (hf : f_Mo_partners c hp v1 v2 = some res) : Ex 7 q_Mo_partners sh [.ref c, .int v1, .int v2] hp (some (.int res)) hp := by
  refine Ex.of [some (.ref c), some (.int v1), some (.int v2), none, none] rfl (Nat.le_of_ble_eq_true rfl) (by decide +kernel) rfl ?_
  obtain ⟨t, hk⟩ : ∃ t, t = res := ⟨res, rfl⟩
  rw [← hk] at hf
  unfold f_Mo_partners at hf
  refine Fx.run [(.iconst 0, 1, 0, 0, .int 0), (.istore_n 3, 1, 3, 0, .null), (.iconst 0, 1, 0, 0, .int 0), (.istore 4, 2, 4, 0, .null)] 5 (by decide +kernel) ?_
  show Fx q_Mo_partners 7 sh 5 [some (.ref c), some (.int v1), some (.int v2), some (.int 0), some (.int 0)] [] hp (some (.int res)) hp
  have hl := t_Mo_partners_l5 sh c hS hp v1 v2 res (0, 0) _ hf hk
  have hl : Fx q_Mo_partners 7 sh 5 [some (.ref c), some (.int v1), some (.int v2), some (.int 0), some (.int 0)] [] hp (some (.int res)) hp := hl
  exact Fx.le hl (And.intro rfl (And.intro rfl (And.intro rfl (And.intro rfl (And.intro rfl trivial)))))
end
