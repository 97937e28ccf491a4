-- ===== PART A: goes FIRST, ahead of the names: the tables' words, and 'selects' of the private methods out of them =====
/-- a private method of a class that the tables say can be made, by its rows of tables_1 -/
def lw_okq (q : MethodName × Nat) : Prop := (q.1.cls ≠ "java/lang/invoke/MethodHandle" ∧ q.1.cls ≠ "java/lang/invoke/VarHandle") ∧ Cond.instantiable q.1.cls q.2 ∈ tables_1 ∧ Cond.privateMethod q.1 ∈ tables_1 ∧ Cond.instanceMethod q.1 ∈ tables_1
theorem lw_p0 : lw_okq (⟨"LoopLane", "refuse", "(I)I"⟩, 11) := ⟨⟨by decide +kernel, by decide +kernel⟩, List.mem_of_getElem? (i := 19) (by decide +kernel), List.mem_of_getElem? (i := 462) (by decide +kernel), List.mem_of_getElem? (i := 463) (by decide +kernel)⟩
theorem lw_p1 : lw_okq (⟨"LoopLane", "bodyChanged", "()V"⟩, 11) := ⟨⟨by decide +kernel, by decide +kernel⟩, List.mem_of_getElem? (i := 19) (by decide +kernel), List.mem_of_getElem? (i := 466) (by decide +kernel), List.mem_of_getElem? (i := 467) (by decide +kernel)⟩
theorem lw_p2 : lw_okq (⟨"LoopLane$EdgeList", "write", "(IIIII)V"⟩, 5) := ⟨⟨by decide +kernel, by decide +kernel⟩, List.mem_of_getElem? (i := 33) (by decide +kernel), List.mem_of_getElem? (i := 528) (by decide +kernel), List.mem_of_getElem? (i := 529) (by decide +kernel)⟩
theorem lw_p3 : lw_okq (⟨"LoopLane", "operandPart", "(II)I"⟩, 11) := ⟨⟨by decide +kernel, by decide +kernel⟩, List.mem_of_getElem? (i := 19) (by decide +kernel), List.mem_of_getElem? (i := 548) (by decide +kernel), List.mem_of_getElem? (i := 549) (by decide +kernel)⟩
theorem lw_p4 : lw_okq (⟨"LoopLane$Weave", "joinOperands", "(LLoopLane$Body;I)V"⟩, 3) := ⟨⟨by decide +kernel, by decide +kernel⟩, List.mem_of_getElem? (i := 149) (by decide +kernel), List.mem_of_getElem? (i := 564) (by decide +kernel), List.mem_of_getElem? (i := 565) (by decide +kernel)⟩
theorem lw_p5 : lw_okq (⟨"LoopLane$Weave", "joinClashes", "(LLoopLane$Body;I)V"⟩, 3) := ⟨⟨by decide +kernel, by decide +kernel⟩, List.mem_of_getElem? (i := 149) (by decide +kernel), List.mem_of_getElem? (i := 570) (by decide +kernel), List.mem_of_getElem? (i := 571) (by decide +kernel)⟩
theorem lw_p6 : lw_okq (⟨"LoopLane$Weave", "joinStore", "(LLoopLane$Body;I)V"⟩, 3) := ⟨⟨by decide +kernel, by decide +kernel⟩, List.mem_of_getElem? (i := 149) (by decide +kernel), List.mem_of_getElem? (i := 582) (by decide +kernel), List.mem_of_getElem? (i := 583) (by decide +kernel)⟩
theorem lw_p7 : lw_okq (⟨"LoopLane", "lowestBeat", "()I"⟩, 11) := ⟨⟨by decide +kernel, by decide +kernel⟩, List.mem_of_getElem? (i := 19) (by decide +kernel), List.mem_of_getElem? (i := 658) (by decide +kernel), List.mem_of_getElem? (i := 659) (by decide +kernel)⟩
theorem lw_p8 : lw_okq (⟨"LoopLane$Body", "bitsOf", "(I)I"⟩, 12) := ⟨⟨by decide +kernel, by decide +kernel⟩, List.mem_of_getElem? (i := 27) (by decide +kernel), List.mem_of_getElem? (i := 671) (by decide +kernel), List.mem_of_getElem? (i := 672) (by decide +kernel)⟩
theorem lw_p9 : lw_okq (⟨"LoopLane", "hasRingAt", "(I)Z"⟩, 11) := ⟨⟨by decide +kernel, by decide +kernel⟩, List.mem_of_getElem? (i := 19) (by decide +kernel), List.mem_of_getElem? (i := 682) (by decide +kernel), List.mem_of_getElem? (i := 683) (by decide +kernel)⟩
theorem lw_p10 : lw_okq (⟨"LoopLane$Waits", "joinBy", "(II)Z"⟩, 2) := ⟨⟨by decide +kernel, by decide +kernel⟩, List.mem_of_getElem? (i := 191) (by decide +kernel), List.mem_of_getElem? (i := 698) (by decide +kernel), List.mem_of_getElem? (i := 699) (by decide +kernel)⟩
theorem lw_p11 : lw_okq (⟨"LoopLane$Waits", "joinRow", "(IIII)V"⟩, 2) := ⟨⟨by decide +kernel, by decide +kernel⟩, List.mem_of_getElem? (i := 191) (by decide +kernel), List.mem_of_getElem? (i := 702) (by decide +kernel), List.mem_of_getElem? (i := 703) (by decide +kernel)⟩
theorem lw_p12 : lw_okq (⟨"LoopLane", "seekAt", "(I)I"⟩, 11) := ⟨⟨by decide +kernel, by decide +kernel⟩, List.mem_of_getElem? (i := 19) (by decide +kernel), List.mem_of_getElem? (i := 710) (by decide +kernel), List.mem_of_getElem? (i := 711) (by decide +kernel)⟩
theorem lw_p13 : lw_okq (⟨"LoopLane$Seeker", "leave", "(I)V"⟩, 11) := ⟨⟨by decide +kernel, by decide +kernel⟩, List.mem_of_getElem? (i := 205) (by decide +kernel), List.mem_of_getElem? (i := 724) (by decide +kernel), List.mem_of_getElem? (i := 725) (by decide +kernel)⟩
theorem lw_p14 : lw_okq (⟨"LoopLane$Seeker", "attempt", "(I)Z"⟩, 11) := ⟨⟨by decide +kernel, by decide +kernel⟩, List.mem_of_getElem? (i := 205) (by decide +kernel), List.mem_of_getElem? (i := 733) (by decide +kernel), List.mem_of_getElem? (i := 734) (by decide +kernel)⟩
theorem lw_p15 : lw_okq (⟨"LoopLane$Seeker", "edgesCanHold", "(I)Z"⟩, 11) := ⟨⟨by decide +kernel, by decide +kernel⟩, List.mem_of_getElem? (i := 205) (by decide +kernel), List.mem_of_getElem? (i := 737) (by decide +kernel), List.mem_of_getElem? (i := 738) (by decide +kernel)⟩
def lw_privs_1 : List (MethodName × Nat) := [(⟨"LoopLane", "refuse", "(I)I"⟩, 11), (⟨"LoopLane", "bodyChanged", "()V"⟩, 11), (⟨"LoopLane$EdgeList", "write", "(IIIII)V"⟩, 5), (⟨"LoopLane", "operandPart", "(II)I"⟩, 11), (⟨"LoopLane$Weave", "joinOperands", "(LLoopLane$Body;I)V"⟩, 3), (⟨"LoopLane$Weave", "joinClashes", "(LLoopLane$Body;I)V"⟩, 3), (⟨"LoopLane$Weave", "joinStore", "(LLoopLane$Body;I)V"⟩, 3), (⟨"LoopLane", "lowestBeat", "()I"⟩, 11), (⟨"LoopLane$Body", "bitsOf", "(I)I"⟩, 12), (⟨"LoopLane", "hasRingAt", "(I)Z"⟩, 11), (⟨"LoopLane$Waits", "joinBy", "(II)Z"⟩, 2), (⟨"LoopLane$Waits", "joinRow", "(IIII)V"⟩, 2), (⟨"LoopLane", "seekAt", "(I)I"⟩, 11), (⟨"LoopLane$Seeker", "leave", "(I)V"⟩, 11), (⟨"LoopLane$Seeker", "attempt", "(I)Z"⟩, 11), (⟨"LoopLane$Seeker", "edgesCanHold", "(I)Z"⟩, 11)]
theorem lw_r1 : ∀ q ∈ lw_privs_1, lw_okq q := List.forall_mem_cons.mpr ⟨lw_p0, List.forall_mem_cons.mpr ⟨lw_p1, List.forall_mem_cons.mpr ⟨lw_p2, List.forall_mem_cons.mpr ⟨lw_p3, List.forall_mem_cons.mpr ⟨lw_p4, List.forall_mem_cons.mpr ⟨lw_p5, List.forall_mem_cons.mpr ⟨lw_p6, List.forall_mem_cons.mpr ⟨lw_p7, List.forall_mem_cons.mpr ⟨lw_p8, List.forall_mem_cons.mpr ⟨lw_p9, List.forall_mem_cons.mpr ⟨lw_p10, List.forall_mem_cons.mpr ⟨lw_p11, List.forall_mem_cons.mpr ⟨lw_p12, List.forall_mem_cons.mpr ⟨lw_p13, List.forall_mem_cons.mpr ⟨lw_p14, List.forall_mem_cons.mpr ⟨lw_p15, fun _ h => absurd h List.not_mem_nil⟩⟩⟩⟩⟩⟩⟩⟩⟩⟩⟩⟩⟩⟩⟩⟩
theorem lw_p16 : lw_okq (⟨"LoopLane$Seeker", "stagesBetween", "(II)I"⟩, 11) := ⟨⟨by decide +kernel, by decide +kernel⟩, List.mem_of_getElem? (i := 205) (by decide +kernel), List.mem_of_getElem? (i := 741) (by decide +kernel), List.mem_of_getElem? (i := 742) (by decide +kernel)⟩
theorem lw_p17 : lw_okq (⟨"LoopLane$Seeker", "closesRing", "(II)Z"⟩, 11) := ⟨⟨by decide +kernel, by decide +kernel⟩, List.mem_of_getElem? (i := 205) (by decide +kernel), List.mem_of_getElem? (i := 749) (by decide +kernel), List.mem_of_getElem? (i := 750) (by decide +kernel)⟩
theorem lw_p18 : lw_okq (⟨"LoopLane$Seeker", "chain", "(I)V"⟩, 11) := ⟨⟨by decide +kernel, by decide +kernel⟩, List.mem_of_getElem? (i := 205) (by decide +kernel), List.mem_of_getElem? (i := 756) (by decide +kernel), List.mem_of_getElem? (i := 757) (by decide +kernel)⟩
theorem lw_p19 : lw_okq (⟨"LoopLane$Seeker", "longestInto", "(II)I"⟩, 11) := ⟨⟨by decide +kernel, by decide +kernel⟩, List.mem_of_getElem? (i := 205) (by decide +kernel), List.mem_of_getElem? (i := 760) (by decide +kernel), List.mem_of_getElem? (i := 761) (by decide +kernel)⟩
theorem lw_p20 : lw_okq (⟨"LoopLane$Seeker", "longestOutOf", "(II)I"⟩, 11) := ⟨⟨by decide +kernel, by decide +kernel⟩, List.mem_of_getElem? (i := 205) (by decide +kernel), List.mem_of_getElem? (i := 767) (by decide +kernel), List.mem_of_getElem? (i := 768) (by decide +kernel)⟩
theorem lw_p21 : lw_okq (⟨"LoopLane$Seeker", "lengthen", "(II)V"⟩, 11) := ⟨⟨by decide +kernel, by decide +kernel⟩, List.mem_of_getElem? (i := 205) (by decide +kernel), List.mem_of_getElem? (i := 772) (by decide +kernel), List.mem_of_getElem? (i := 773) (by decide +kernel)⟩
theorem lw_p22 : lw_okq (⟨"LoopLane$Seeker", "enter", "(I)I"⟩, 11) := ⟨⟨by decide +kernel, by decide +kernel⟩, List.mem_of_getElem? (i := 205) (by decide +kernel), List.mem_of_getElem? (i := 776) (by decide +kernel), List.mem_of_getElem? (i := 777) (by decide +kernel)⟩
theorem lw_p23 : lw_okq (⟨"LoopLane$Laying", "settleBounds", "(ILLoopLane$Waits;)V"⟩, 12) := ⟨⟨by decide +kernel, by decide +kernel⟩, List.mem_of_getElem? (i := 257) (by decide +kernel), List.mem_of_getElem? (i := 795) (by decide +kernel), List.mem_of_getElem? (i := 796) (by decide +kernel)⟩
theorem lw_p24 : lw_okq (⟨"LoopLane$Laying", "settlePlaces", "(LLoopLane$Body;)V"⟩, 12) := ⟨⟨by decide +kernel, by decide +kernel⟩, List.mem_of_getElem? (i := 257) (by decide +kernel), List.mem_of_getElem? (i := 807) (by decide +kernel), List.mem_of_getElem? (i := 808) (by decide +kernel)⟩
theorem lw_p25 : lw_okq (⟨"LoopLane$Laying", "settleOrder", "(I)V"⟩, 12) := ⟨⟨by decide +kernel, by decide +kernel⟩, List.mem_of_getElem? (i := 257) (by decide +kernel), List.mem_of_getElem? (i := 813) (by decide +kernel), List.mem_of_getElem? (i := 814) (by decide +kernel)⟩
theorem lw_p26 : lw_okq (⟨"LoopLane$Judge", "firstBroken", "(LLoopLane$EdgeList;LLoopLane$Laying;)I"⟩, 2) := ⟨⟨by decide +kernel, by decide +kernel⟩, List.mem_of_getElem? (i := 320) (by decide +kernel), List.mem_of_getElem? (i := 873) (by decide +kernel), List.mem_of_getElem? (i := 874) (by decide +kernel)⟩
theorem lw_p27 : lw_okq (⟨"LoopLane$Judge", "findCrowd", "(LLoopLane$Body;LLoopLane$Laying;)Z"⟩, 2) := ⟨⟨by decide +kernel, by decide +kernel⟩, List.mem_of_getElem? (i := 320) (by decide +kernel), List.mem_of_getElem? (i := 881) (by decide +kernel), List.mem_of_getElem? (i := 882) (by decide +kernel)⟩
theorem lw_p28 : lw_okq (⟨"LoopLane", "refusalOfRun", "(IZ)I"⟩, 11) := ⟨⟨by decide +kernel, by decide +kernel⟩, List.mem_of_getElem? (i := 19) (by decide +kernel), List.mem_of_getElem? (i := 899) (by decide +kernel), List.mem_of_getElem? (i := 900) (by decide +kernel)⟩
theorem lw_p29 : lw_okq (⟨"LoopLane$Runner", "goByTicks", "(ILLoopLane$Outcome;)V"⟩, 8) := ⟨⟨by decide +kernel, by decide +kernel⟩, List.mem_of_getElem? (i := 337) (by decide +kernel), List.mem_of_getElem? (i := 912) (by decide +kernel), List.mem_of_getElem? (i := 913) (by decide +kernel)⟩
theorem lw_p30 : lw_okq (⟨"LoopLane$Runner", "begin", "(IILLoopLane$Outcome;)V"⟩, 8) := ⟨⟨by decide +kernel, by decide +kernel⟩, List.mem_of_getElem? (i := 337) (by decide +kernel), List.mem_of_getElem? (i := 920) (by decide +kernel), List.mem_of_getElem? (i := 921) (by decide +kernel)⟩
theorem lw_p31 : lw_okq (⟨"LoopLane$Runner", "refusalOf", "(II)I"⟩, 8) := ⟨⟨by decide +kernel, by decide +kernel⟩, List.mem_of_getElem? (i := 337) (by decide +kernel), List.mem_of_getElem? (i := 924) (by decide +kernel), List.mem_of_getElem? (i := 925) (by decide +kernel)⟩
def lw_privs_2 : List (MethodName × Nat) := [(⟨"LoopLane$Seeker", "stagesBetween", "(II)I"⟩, 11), (⟨"LoopLane$Seeker", "closesRing", "(II)Z"⟩, 11), (⟨"LoopLane$Seeker", "chain", "(I)V"⟩, 11), (⟨"LoopLane$Seeker", "longestInto", "(II)I"⟩, 11), (⟨"LoopLane$Seeker", "longestOutOf", "(II)I"⟩, 11), (⟨"LoopLane$Seeker", "lengthen", "(II)V"⟩, 11), (⟨"LoopLane$Seeker", "enter", "(I)I"⟩, 11), (⟨"LoopLane$Laying", "settleBounds", "(ILLoopLane$Waits;)V"⟩, 12), (⟨"LoopLane$Laying", "settlePlaces", "(LLoopLane$Body;)V"⟩, 12), (⟨"LoopLane$Laying", "settleOrder", "(I)V"⟩, 12), (⟨"LoopLane$Judge", "firstBroken", "(LLoopLane$EdgeList;LLoopLane$Laying;)I"⟩, 2), (⟨"LoopLane$Judge", "findCrowd", "(LLoopLane$Body;LLoopLane$Laying;)Z"⟩, 2), (⟨"LoopLane", "refusalOfRun", "(IZ)I"⟩, 11), (⟨"LoopLane$Runner", "goByTicks", "(ILLoopLane$Outcome;)V"⟩, 8), (⟨"LoopLane$Runner", "begin", "(IILLoopLane$Outcome;)V"⟩, 8), (⟨"LoopLane$Runner", "refusalOf", "(II)I"⟩, 8)]
theorem lw_r2 : ∀ q ∈ lw_privs_2, lw_okq q := List.forall_mem_cons.mpr ⟨lw_p16, List.forall_mem_cons.mpr ⟨lw_p17, List.forall_mem_cons.mpr ⟨lw_p18, List.forall_mem_cons.mpr ⟨lw_p19, List.forall_mem_cons.mpr ⟨lw_p20, List.forall_mem_cons.mpr ⟨lw_p21, List.forall_mem_cons.mpr ⟨lw_p22, List.forall_mem_cons.mpr ⟨lw_p23, List.forall_mem_cons.mpr ⟨lw_p24, List.forall_mem_cons.mpr ⟨lw_p25, List.forall_mem_cons.mpr ⟨lw_p26, List.forall_mem_cons.mpr ⟨lw_p27, List.forall_mem_cons.mpr ⟨lw_p28, List.forall_mem_cons.mpr ⟨lw_p29, List.forall_mem_cons.mpr ⟨lw_p30, List.forall_mem_cons.mpr ⟨lw_p31, fun _ h => absurd h List.not_mem_nil⟩⟩⟩⟩⟩⟩⟩⟩⟩⟩⟩⟩⟩⟩⟩⟩
theorem lw_p32 : lw_okq (⟨"LoopLane$Runner", "taken", "(III)J"⟩, 8) := ⟨⟨by decide +kernel, by decide +kernel⟩, List.mem_of_getElem? (i := 337) (by decide +kernel), List.mem_of_getElem? (i := 929) (by decide +kernel), List.mem_of_getElem? (i := 930) (by decide +kernel)⟩
theorem lw_p33 : lw_okq (⟨"LoopLane$Runner", "endOf", "(II)J"⟩, 8) := ⟨⟨by decide +kernel, by decide +kernel⟩, List.mem_of_getElem? (i := 337) (by decide +kernel), List.mem_of_getElem? (i := 938) (by decide +kernel), List.mem_of_getElem? (i := 939) (by decide +kernel)⟩
theorem lw_p34 : lw_okq (⟨"LoopLane$Runner", "exchange", "(IJ)J"⟩, 8) := ⟨⟨by decide +kernel, by decide +kernel⟩, List.mem_of_getElem? (i := 337) (by decide +kernel), List.mem_of_getElem? (i := 946) (by decide +kernel), List.mem_of_getElem? (i := 947) (by decide +kernel)⟩
theorem lw_p35 : lw_okq (⟨"LoopLane$Runner", "goPlain", "(ILLoopLane$Outcome;)V"⟩, 8) := ⟨⟨by decide +kernel, by decide +kernel⟩, List.mem_of_getElem? (i := 337) (by decide +kernel), List.mem_of_getElem? (i := 950) (by decide +kernel), List.mem_of_getElem? (i := 951) (by decide +kernel)⟩
theorem lw_p36 : lw_okq (⟨"LoopLane$Runner", "rowsAreAsOfPlain", "()Z"⟩, 8) := ⟨⟨by decide +kernel, by decide +kernel⟩, List.mem_of_getElem? (i := 337) (by decide +kernel), List.mem_of_getElem? (i := 967) (by decide +kernel), List.mem_of_getElem? (i := 968) (by decide +kernel)⟩
theorem lw_p37 : lw_okq (⟨"LoopLaneModel", "forget", "()V"⟩, 45) := ⟨⟨by decide +kernel, by decide +kernel⟩, List.mem_of_getElem? (i := 987) (by decide +kernel), List.mem_of_getElem? (i := 993) (by decide +kernel), List.mem_of_getElem? (i := 994) (by decide +kernel)⟩
theorem lw_p38 : lw_okq (⟨"LoopLaneModel", "unwrong", "()V"⟩, 45) := ⟨⟨by decide +kernel, by decide +kernel⟩, List.mem_of_getElem? (i := 987) (by decide +kernel), List.mem_of_getElem? (i := 997) (by decide +kernel), List.mem_of_getElem? (i := 998) (by decide +kernel)⟩
theorem lw_p39 : lw_okq (⟨"LoopLaneModel", "adds", "(IIIIII)I"⟩, 45) := ⟨⟨by decide +kernel, by decide +kernel⟩, List.mem_of_getElem? (i := 987) (by decide +kernel), List.mem_of_getElem? (i := 1141) (by decide +kernel), List.mem_of_getElem? (i := 1142) (by decide +kernel)⟩
theorem lw_p40 : lw_okq (⟨"LoopLaneModel", "no", "(I)I"⟩, 45) := ⟨⟨by decide +kernel, by decide +kernel⟩, List.mem_of_getElem? (i := 987) (by decide +kernel), List.mem_of_getElem? (i := 1145) (by decide +kernel), List.mem_of_getElem? (i := 1146) (by decide +kernel)⟩
theorem lw_p41 : lw_okq (⟨"LoopLaneModel", "operand", "(IIII)V"⟩, 45) := ⟨⟨by decide +kernel, by decide +kernel⟩, List.mem_of_getElem? (i := 987) (by decide +kernel), List.mem_of_getElem? (i := 1149) (by decide +kernel), List.mem_of_getElem? (i := 1150) (by decide +kernel)⟩
theorem lw_p42 : lw_okq (⟨"LoopLaneModel", "changes", "()V"⟩, 45) := ⟨⟨by decide +kernel, by decide +kernel⟩, List.mem_of_getElem? (i := 987) (by decide +kernel), List.mem_of_getElem? (i := 1153) (by decide +kernel), List.mem_of_getElem? (i := 1154) (by decide +kernel)⟩
theorem lw_p43 : lw_okq (⟨"LoopLaneModel", "isBeyond", "(II)Z"⟩, 45) := ⟨⟨by decide +kernel, by decide +kernel⟩, List.mem_of_getElem? (i := 987) (by decide +kernel), List.mem_of_getElem? (i := 1169) (by decide +kernel), List.mem_of_getElem? (i := 1170) (by decide +kernel)⟩
theorem lw_p44 : lw_okq (⟨"LoopLaneModel", "isAct", "(I)Z"⟩, 45) := ⟨⟨by decide +kernel, by decide +kernel⟩, List.mem_of_getElem? (i := 987) (by decide +kernel), List.mem_of_getElem? (i := 1191) (by decide +kernel), List.mem_of_getElem? (i := 1192) (by decide +kernel)⟩
theorem lw_p45 : lw_okq (⟨"LoopLaneModel", "gather", "()V"⟩, 45) := ⟨⟨by decide +kernel, by decide +kernel⟩, List.mem_of_getElem? (i := 987) (by decide +kernel), List.mem_of_getElem? (i := 1233) (by decide +kernel), List.mem_of_getElem? (i := 1234) (by decide +kernel)⟩
theorem lw_p46 : lw_okq (⟨"LoopLaneModel", "enter", "(IIII)V"⟩, 45) := ⟨⟨by decide +kernel, by decide +kernel⟩, List.mem_of_getElem? (i := 987) (by decide +kernel), List.mem_of_getElem? (i := 1237) (by decide +kernel), List.mem_of_getElem? (i := 1238) (by decide +kernel)⟩
theorem lw_p47 : lw_okq (⟨"LoopLaneModel", "gatherTwo", "(II)V"⟩, 45) := ⟨⟨by decide +kernel, by decide +kernel⟩, List.mem_of_getElem? (i := 987) (by decide +kernel), List.mem_of_getElem? (i := 1241) (by decide +kernel), List.mem_of_getElem? (i := 1242) (by decide +kernel)⟩
def lw_privs_3 : List (MethodName × Nat) := [(⟨"LoopLane$Runner", "taken", "(III)J"⟩, 8), (⟨"LoopLane$Runner", "endOf", "(II)J"⟩, 8), (⟨"LoopLane$Runner", "exchange", "(IJ)J"⟩, 8), (⟨"LoopLane$Runner", "goPlain", "(ILLoopLane$Outcome;)V"⟩, 8), (⟨"LoopLane$Runner", "rowsAreAsOfPlain", "()Z"⟩, 8), (⟨"LoopLaneModel", "forget", "()V"⟩, 45), (⟨"LoopLaneModel", "unwrong", "()V"⟩, 45), (⟨"LoopLaneModel", "adds", "(IIIIII)I"⟩, 45), (⟨"LoopLaneModel", "no", "(I)I"⟩, 45), (⟨"LoopLaneModel", "operand", "(IIII)V"⟩, 45), (⟨"LoopLaneModel", "changes", "()V"⟩, 45), (⟨"LoopLaneModel", "isBeyond", "(II)Z"⟩, 45), (⟨"LoopLaneModel", "isAct", "(I)Z"⟩, 45), (⟨"LoopLaneModel", "gather", "()V"⟩, 45), (⟨"LoopLaneModel", "enter", "(IIII)V"⟩, 45), (⟨"LoopLaneModel", "gatherTwo", "(II)V"⟩, 45)]
theorem lw_r3 : ∀ q ∈ lw_privs_3, lw_okq q := List.forall_mem_cons.mpr ⟨lw_p32, List.forall_mem_cons.mpr ⟨lw_p33, List.forall_mem_cons.mpr ⟨lw_p34, List.forall_mem_cons.mpr ⟨lw_p35, List.forall_mem_cons.mpr ⟨lw_p36, List.forall_mem_cons.mpr ⟨lw_p37, List.forall_mem_cons.mpr ⟨lw_p38, List.forall_mem_cons.mpr ⟨lw_p39, List.forall_mem_cons.mpr ⟨lw_p40, List.forall_mem_cons.mpr ⟨lw_p41, List.forall_mem_cons.mpr ⟨lw_p42, List.forall_mem_cons.mpr ⟨lw_p43, List.forall_mem_cons.mpr ⟨lw_p44, List.forall_mem_cons.mpr ⟨lw_p45, List.forall_mem_cons.mpr ⟨lw_p46, List.forall_mem_cons.mpr ⟨lw_p47, fun _ h => absurd h List.not_mem_nil⟩⟩⟩⟩⟩⟩⟩⟩⟩⟩⟩⟩⟩⟩⟩⟩
theorem lw_p48 : lw_okq (⟨"LoopLaneModel", "isOfRow", "(I)Z"⟩, 45) := ⟨⟨by decide +kernel, by decide +kernel⟩, List.mem_of_getElem? (i := 987) (by decide +kernel), List.mem_of_getElem? (i := 1245) (by decide +kernel), List.mem_of_getElem? (i := 1246) (by decide +kernel)⟩
theorem lw_p49 : lw_okq (⟨"LoopLaneModel", "isReady", "()Z"⟩, 45) := ⟨⟨by decide +kernel, by decide +kernel⟩, List.mem_of_getElem? (i := 987) (by decide +kernel), List.mem_of_getElem? (i := 1253) (by decide +kernel), List.mem_of_getElem? (i := 1254) (by decide +kernel)⟩
theorem lw_p50 : lw_okq (⟨"LoopLaneModel", "lowestBeat", "()I"⟩, 45) := ⟨⟨by decide +kernel, by decide +kernel⟩, List.mem_of_getElem? (i := 987) (by decide +kernel), List.mem_of_getElem? (i := 1258) (by decide +kernel), List.mem_of_getElem? (i := 1259) (by decide +kernel)⟩
theorem lw_p51 : lw_okq (⟨"LoopLaneModel", "byUnits", "()I"⟩, 45) := ⟨⟨by decide +kernel, by decide +kernel⟩, List.mem_of_getElem? (i := 987) (by decide +kernel), List.mem_of_getElem? (i := 1262) (by decide +kernel), List.mem_of_getElem? (i := 1263) (by decide +kernel)⟩
theorem lw_p52 : lw_okq (⟨"LoopLaneModel", "byRings", "()I"⟩, 45) := ⟨⟨by decide +kernel, by decide +kernel⟩, List.mem_of_getElem? (i := 987) (by decide +kernel), List.mem_of_getElem? (i := 1270) (by decide +kernel), List.mem_of_getElem? (i := 1271) (by decide +kernel)⟩
theorem lw_p53 : lw_okq (⟨"LoopLaneModel", "rests", "(I)Z"⟩, 45) := ⟨⟨by decide +kernel, by decide +kernel⟩, List.mem_of_getElem? (i := 987) (by decide +kernel), List.mem_of_getElem? (i := 1274) (by decide +kernel), List.mem_of_getElem? (i := 1275) (by decide +kernel)⟩
theorem lw_p54 : lw_okq (⟨"LoopLaneModel", "tries", "(I)I"⟩, 45) := ⟨⟨by decide +kernel, by decide +kernel⟩, List.mem_of_getElem? (i := 987) (by decide +kernel), List.mem_of_getElem? (i := 1282) (by decide +kernel), List.mem_of_getElem? (i := 1283) (by decide +kernel)⟩
theorem lw_p55 : lw_okq (⟨"LoopLaneModel", "fits", "(II)Z"⟩, 45) := ⟨⟨by decide +kernel, by decide +kernel⟩, List.mem_of_getElem? (i := 987) (by decide +kernel), List.mem_of_getElem? (i := 1286) (by decide +kernel), List.mem_of_getElem? (i := 1287) (by decide +kernel)⟩
theorem lw_p56 : lw_okq (⟨"LoopLaneModel", "holds", "(II)Z"⟩, 45) := ⟨⟨by decide +kernel, by decide +kernel⟩, List.mem_of_getElem? (i := 987) (by decide +kernel), List.mem_of_getElem? (i := 1290) (by decide +kernel), List.mem_of_getElem? (i := 1291) (by decide +kernel)⟩
theorem lw_p57 : lw_okq (⟨"LoopLaneModel", "latestBegin", "(I)I"⟩, 45) := ⟨⟨by decide +kernel, by decide +kernel⟩, List.mem_of_getElem? (i := 987) (by decide +kernel), List.mem_of_getElem? (i := 1315) (by decide +kernel), List.mem_of_getElem? (i := 1316) (by decide +kernel)⟩
theorem lw_p58 : lw_okq (⟨"LoopLaneModel", "placesOf", "(I)I"⟩, 45) := ⟨⟨by decide +kernel, by decide +kernel⟩, List.mem_of_getElem? (i := 987) (by decide +kernel), List.mem_of_getElem? (i := 1327) (by decide +kernel), List.mem_of_getElem? (i := 1328) (by decide +kernel)⟩
theorem lw_p59 : lw_okq (⟨"LoopLaneModel", "isAhead", "(I)Z"⟩, 45) := ⟨⟨by decide +kernel, by decide +kernel⟩, List.mem_of_getElem? (i := 987) (by decide +kernel), List.mem_of_getElem? (i := 1343) (by decide +kernel), List.mem_of_getElem? (i := 1344) (by decide +kernel)⟩
theorem lw_p60 : lw_okq (⟨"LoopLaneModel", "filledAs", "(II)I"⟩, 45) := ⟨⟨by decide +kernel, by decide +kernel⟩, List.mem_of_getElem? (i := 987) (by decide +kernel), List.mem_of_getElem? (i := 1347) (by decide +kernel), List.mem_of_getElem? (i := 1348) (by decide +kernel)⟩
theorem lw_p61 : lw_okq (⟨"LoopLaneModel", "why", "(IJ)I"⟩, 45) := ⟨⟨by decide +kernel, by decide +kernel⟩, List.mem_of_getElem? (i := 987) (by decide +kernel), List.mem_of_getElem? (i := 1371) (by decide +kernel), List.mem_of_getElem? (i := 1372) (by decide +kernel)⟩
theorem lw_p62 : lw_okq (⟨"LoopLaneModel", "whyNoRun", "(IZ)I"⟩, 45) := ⟨⟨by decide +kernel, by decide +kernel⟩, List.mem_of_getElem? (i := 987) (by decide +kernel), List.mem_of_getElem? (i := 1387) (by decide +kernel), List.mem_of_getElem? (i := 1388) (by decide +kernel)⟩
theorem lw_p63 : lw_okq (⟨"LoopLaneModel", "laid", "(I)V"⟩, 45) := ⟨⟨by decide +kernel, by decide +kernel⟩, List.mem_of_getElem? (i := 987) (by decide +kernel), List.mem_of_getElem? (i := 1392) (by decide +kernel), List.mem_of_getElem? (i := 1393) (by decide +kernel)⟩
def lw_privs_4 : List (MethodName × Nat) := [(⟨"LoopLaneModel", "isOfRow", "(I)Z"⟩, 45), (⟨"LoopLaneModel", "isReady", "()Z"⟩, 45), (⟨"LoopLaneModel", "lowestBeat", "()I"⟩, 45), (⟨"LoopLaneModel", "byUnits", "()I"⟩, 45), (⟨"LoopLaneModel", "byRings", "()I"⟩, 45), (⟨"LoopLaneModel", "rests", "(I)Z"⟩, 45), (⟨"LoopLaneModel", "tries", "(I)I"⟩, 45), (⟨"LoopLaneModel", "fits", "(II)Z"⟩, 45), (⟨"LoopLaneModel", "holds", "(II)Z"⟩, 45), (⟨"LoopLaneModel", "latestBegin", "(I)I"⟩, 45), (⟨"LoopLaneModel", "placesOf", "(I)I"⟩, 45), (⟨"LoopLaneModel", "isAhead", "(I)Z"⟩, 45), (⟨"LoopLaneModel", "filledAs", "(II)I"⟩, 45), (⟨"LoopLaneModel", "why", "(IJ)I"⟩, 45), (⟨"LoopLaneModel", "whyNoRun", "(IZ)I"⟩, 45), (⟨"LoopLaneModel", "laid", "(I)V"⟩, 45)]
theorem lw_r4 : ∀ q ∈ lw_privs_4, lw_okq q := List.forall_mem_cons.mpr ⟨lw_p48, List.forall_mem_cons.mpr ⟨lw_p49, List.forall_mem_cons.mpr ⟨lw_p50, List.forall_mem_cons.mpr ⟨lw_p51, List.forall_mem_cons.mpr ⟨lw_p52, List.forall_mem_cons.mpr ⟨lw_p53, List.forall_mem_cons.mpr ⟨lw_p54, List.forall_mem_cons.mpr ⟨lw_p55, List.forall_mem_cons.mpr ⟨lw_p56, List.forall_mem_cons.mpr ⟨lw_p57, List.forall_mem_cons.mpr ⟨lw_p58, List.forall_mem_cons.mpr ⟨lw_p59, List.forall_mem_cons.mpr ⟨lw_p60, List.forall_mem_cons.mpr ⟨lw_p61, List.forall_mem_cons.mpr ⟨lw_p62, List.forall_mem_cons.mpr ⟨lw_p63, fun _ h => absurd h List.not_mem_nil⟩⟩⟩⟩⟩⟩⟩⟩⟩⟩⟩⟩⟩⟩⟩⟩
theorem lw_p64 : lw_okq (⟨"LoopLaneModel", "does", "(II)I"⟩, 45) := ⟨⟨by decide +kernel, by decide +kernel⟩, List.mem_of_getElem? (i := 987) (by decide +kernel), List.mem_of_getElem? (i := 1396) (by decide +kernel), List.mem_of_getElem? (i := 1397) (by decide +kernel)⟩
theorem lw_p65 : lw_okq (⟨"LoopLaneModel", "value", "(III)J"⟩, 45) := ⟨⟨by decide +kernel, by decide +kernel⟩, List.mem_of_getElem? (i := 987) (by decide +kernel), List.mem_of_getElem? (i := 1400) (by decide +kernel), List.mem_of_getElem? (i := 1401) (by decide +kernel)⟩
theorem lw_p66 : lw_okq (⟨"LoopLaneModel", "plain", "(I)V"⟩, 45) := ⟨⟨by decide +kernel, by decide +kernel⟩, List.mem_of_getElem? (i := 987) (by decide +kernel), List.mem_of_getElem? (i := 1404) (by decide +kernel), List.mem_of_getElem? (i := 1405) (by decide +kernel)⟩
def lw_privs_5 : List (MethodName × Nat) := [(⟨"LoopLaneModel", "does", "(II)I"⟩, 45), (⟨"LoopLaneModel", "value", "(III)J"⟩, 45), (⟨"LoopLaneModel", "plain", "(I)V"⟩, 45)]
theorem lw_r5 : ∀ q ∈ lw_privs_5, lw_okq q := List.forall_mem_cons.mpr ⟨lw_p64, List.forall_mem_cons.mpr ⟨lw_p65, List.forall_mem_cons.mpr ⟨lw_p66, fun _ h => absurd h List.not_mem_nil⟩⟩⟩
def lw_privs : List (MethodName × Nat) := lw_privs_1 ++ (lw_privs_2 ++ (lw_privs_3 ++ (lw_privs_4 ++ (lw_privs_5))))
def lw_tbl : List Cond := k2_sels lw_privs ++ tables_1
theorem lw_privs_ok : ∀ q ∈ lw_privs, lw_okq q := by
  show ∀ q ∈ lw_privs_1 ++ (lw_privs_2 ++ (lw_privs_3 ++ (lw_privs_4 ++ (lw_privs_5)))), lw_okq q
  exact List.forall_mem_append.mpr ⟨lw_r1, List.forall_mem_append.mpr ⟨lw_r2, List.forall_mem_append.mpr ⟨lw_r3, List.forall_mem_append.mpr ⟨lw_r4, lw_r5⟩⟩⟩⟩
def RX0 : String := "LoopLane$Body"
def TX0 : u_T := fun k => match k with
  | 0 => ("LoopLane$Body", "acts", "I", false)
  | 1 => ("LoopLane$Body", "sort", "[I", true)
  | 2 => ("LoopLane$Body", "lag", "[I", true)
  | 3 => ("LoopLane$Body", "kind", "[I", true)
  | 4 => ("LoopLane$Body", "pattern", "[I", true)
  | 5 => ("LoopLane$Body", "slot", "[I", true)
  | 6 => ("LoopLane$Body", "operand", "[I", true)
  | 7 => ("LoopLane$Body", "back", "[I", true)
  | 8 => ("LoopLane$Body", "number", "[J", true)
  | 9 => ("LoopLane$Body", "first", "[J", true)
  | 10 => ("LoopLane$Body", "units", "[I", true)
  | _ => ("LoopLane$Body", "told", "LLoopLane$EdgeList;", true)
def tyX0 : Nat → FieldType := fun k => match k with
  | 0 => .int
  | 1 => .array .int
  | 2 => .array .int
  | 3 => .array .int
  | 4 => .array .int
  | 5 => .array .int
  | 6 => .array .int
  | 7 => .array .int
  | 8 => .array .long
  | 9 => .array .long
  | 10 => .array .int
  | _ => .object "LoopLane$EdgeList"
abbrev wsX00 : List Cond := u_ws RX0 TX0 12
theorem nmX0 : ∀ a, a < 12 → ∀ b, b < 12 → a ≠ b → (TX0 a).2.1 ≠ (TX0 b).2.1 := by decide +kernel
theorem tyX0_ok : ∀ k, k < 12 → parseFieldDescriptor (TX0 k).2.2.1 = some (tyX0 k) := by decide +kernel
abbrev cX0_init : ByteArray := prog_2_method_1_code
def yX0_init : MethodName := ⟨RX0, "<init>", "()V"⟩
abbrev cX0_has : ByteArray := prog_2_method_2_code
def yX0_has : MethodName := ⟨RX0, "has", "(I)Z"⟩
abbrev cX0_mayTake : ByteArray := prog_2_method_3_code
def yX0_mayTake : MethodName := ⟨RX0, "mayTake", "(II)Z"⟩
abbrev cX0_open : ByteArray := prog_2_method_4_code
def yX0_open : MethodName := ⟨RX0, "open", "(I)I"⟩
abbrev cX0_take : ByteArray := prog_2_method_5_code
def yX0_take : MethodName := ⟨RX0, "take", "(IIII)V"⟩
abbrev cX0_isTakenByAnother : ByteArray := prog_2_method_6_code
def yX0_isTakenByAnother : MethodName := ⟨RX0, "isTakenByAnother", "(I)Z"⟩
abbrev cX0_isWhole : ByteArray := prog_2_method_7_code
def yX0_isWhole : MethodName := ⟨RX0, "isWhole", "()Z"⟩
abbrev cX0_isReady : ByteArray := prog_2_method_8_code
def yX0_isReady : MethodName := ⟨RX0, "isReady", "()Z"⟩
abbrev cX0_stores : ByteArray := prog_2_method_9_code
def yX0_stores : MethodName := ⟨RX0, "stores", "()I"⟩
abbrev cX0_unitsInAll : ByteArray := prog_2_method_10_code
def yX0_unitsInAll : MethodName := ⟨RX0, "unitsInAll", "()I"⟩
abbrev cX0_beatByUnits : ByteArray := prog_2_method_11_code
def yX0_beatByUnits : MethodName := ⟨RX0, "beatByUnits", "()I"⟩
abbrev cX0_bitsOf : ByteArray := prog_2_method_12_code
def yX0_bitsOf : MethodName := ⟨RX0, "bitsOf", "(I)I"⟩
abbrev cX0_touchesRows : ByteArray := prog_2_method_13_code
def yX0_touchesRows : MethodName := ⟨RX0, "touchesRows", "(I)Z"⟩
abbrev cX0_mayBeRefused : ByteArray := prog_2_method_14_code
def yX0_mayBeRefused : MethodName := ⟨RX0, "mayBeRefused", "(I)Z"⟩
abbrev cX0_clash : ByteArray := prog_2_method_15_code
def yX0_clash : MethodName := ⟨RX0, "clash", "(II)Z"⟩
def RX1 : String := "LoopLane$EdgeList"
def TX1 : u_T := fun k => match k with
  | 0 => ("LoopLane$EdgeList", "size", "I", false)
  | 1 => ("LoopLane$EdgeList", "from", "[I", true)
  | 2 => ("LoopLane$EdgeList", "to", "[I", true)
  | 3 => ("LoopLane$EdgeList", "ticks", "[I", true)
  | _ => ("LoopLane$EdgeList", "turns", "[I", true)
def tyX1 : Nat → FieldType := fun k => match k with
  | 0 => .int
  | 1 => .array .int
  | 2 => .array .int
  | 3 => .array .int
  | _ => .array .int
abbrev wsX10 : List Cond := u_ws RX1 TX1 5
theorem nmX1 : ∀ a, a < 5 → ∀ b, b < 5 → a ≠ b → (TX1 a).2.1 ≠ (TX1 b).2.1 := by decide +kernel
theorem tyX1_ok : ∀ k, k < 5 → parseFieldDescriptor (TX1 k).2.2.1 = some (tyX1 k) := by decide +kernel
abbrev cX1_init : ByteArray := prog_3_method_1_code
def yX1_init : MethodName := ⟨RX1, "<init>", "(I)V"⟩
abbrev cX1_join : ByteArray := prog_3_method_2_code
def yX1_join : MethodName := ⟨RX1, "join", "(IIII)Z"⟩
abbrev cX1_write : ByteArray := prog_3_method_3_code
def yX1_write : MethodName := ⟨RX1, "write", "(IIIII)V"⟩
abbrev cX1_joinAll : ByteArray := prog_3_method_4_code
def yX1_joinAll : MethodName := ⟨RX1, "joinAll", "(LLoopLane$EdgeList;)V"⟩
abbrev cX1_dropAct : ByteArray := prog_3_method_5_code
def yX1_dropAct : MethodName := ⟨RX1, "dropAct", "(I)V"⟩
abbrev cX1_isAhead : ByteArray := prog_3_method_6_code
def yX1_isAhead : MethodName := ⟨RX1, "isAhead", "(II)Z"⟩
def RX2 : String := "LoopLane$Filling"
def TX2 : u_T := fun k => match k with
  | _ => ("LoopLane$Filling", "cells", "[I", true)
def tyX2 : Nat → FieldType := fun k => match k with
  | _ => .array .int
abbrev wsX20 : List Cond := u_ws RX2 TX2 1
theorem nmX2 : ∀ a, a < 1 → ∀ b, b < 1 → a ≠ b → (TX2 a).2.1 ≠ (TX2 b).2.1 := by decide +kernel
theorem tyX2_ok : ∀ k, k < 1 → parseFieldDescriptor (TX2 k).2.2.1 = some (tyX2 k) := by decide +kernel
abbrev cX2_init : ByteArray := prog_4_method_1_code
def yX2_init : MethodName := ⟨RX2, "<init>", "()V"⟩
abbrev cX2_clear : ByteArray := prog_4_method_2_code
def yX2_clear : MethodName := ⟨RX2, "clear", "()V"⟩
abbrev cX2_at : ByteArray := prog_4_method_3_code
def yX2_at : MethodName := ⟨RX2, "at", "(II)I"⟩
abbrev cX2_change : ByteArray := prog_4_method_4_code
def yX2_change : MethodName := ⟨RX2, "change", "(LLoopLane$Body;IIII)I"⟩
abbrev cX2_firstCrowded : ByteArray := prog_4_method_5_code
def yX2_firstCrowded : MethodName := ⟨RX2, "firstCrowded", "(III)I"⟩
def RX3 : String := "LoopLane$Judge"
def TX3 : u_T := fun k => match k with
  | 0 => ("LoopLane$Judge", "findings", "[I", true)
  | _ => ("LoopLane$Judge", "filling", "LLoopLane$Filling;", true)
def tyX3 : Nat → FieldType := fun k => match k with
  | 0 => .array .int
  | _ => .object "LoopLane$Filling"
abbrev wsX30 : List Cond := u_ws RX3 TX3 2
theorem nmX3 : ∀ a, a < 2 → ∀ b, b < 2 → a ≠ b → (TX3 a).2.1 ≠ (TX3 b).2.1 := by decide +kernel
theorem tyX3_ok : ∀ k, k < 2 → parseFieldDescriptor (TX3 k).2.2.1 = some (tyX3 k) := by decide +kernel
abbrev cX3_init : ByteArray := prog_5_method_1_code
def yX3_init : MethodName := ⟨RX3, "<init>", "()V"⟩
abbrev cX3_look : ByteArray := prog_5_method_2_code
def yX3_look : MethodName := ⟨RX3, "look", "(LLoopLane$Body;LLoopLane$EdgeList;LLoopLane$Laying;)I"⟩
abbrev cX3_firstBroken : ByteArray := prog_5_method_3_code
def yX3_firstBroken : MethodName := ⟨RX3, "firstBroken", "(LLoopLane$EdgeList;LLoopLane$Laying;)I"⟩
abbrev cX3_findCrowd : ByteArray := prog_5_method_4_code
def yX3_findCrowd : MethodName := ⟨RX3, "findCrowd", "(LLoopLane$Body;LLoopLane$Laying;)Z"⟩
def RX4 : String := "LoopLane$Laying"
def TX4 : u_T := fun k => match k with
  | 0 => ("LoopLane$Laying", "stands", "Z", false)
  | 1 => ("LoopLane$Laying", "beat", "I", false)
  | 2 => ("LoopLane$Laying", "stages", "I", false)
  | 3 => ("LoopLane$Laying", "tick", "[I", true)
  | 4 => ("LoopLane$Laying", "stage", "[I", true)
  | 5 => ("LoopLane$Laying", "begin", "[I", true)
  | 6 => ("LoopLane$Laying", "forged", "[I", true)
  | 7 => ("LoopLane$Laying", "early", "[I", true)
  | 8 => ("LoopLane$Laying", "late", "[I", true)
  | 9 => ("LoopLane$Laying", "places", "[I", true)
  | 10 => ("LoopLane$Laying", "order", "[I", true)
  | _ => ("LoopLane$Laying", "filling", "LLoopLane$Filling;", true)
def tyX4 : Nat → FieldType := fun k => match k with
  | 0 => .boolean
  | 1 => .int
  | 2 => .int
  | 3 => .array .int
  | 4 => .array .int
  | 5 => .array .int
  | 6 => .array .int
  | 7 => .array .int
  | 8 => .array .int
  | 9 => .array .int
  | 10 => .array .int
  | _ => .object "LoopLane$Filling"
abbrev wsX40 : List Cond := u_ws RX4 TX4 12
theorem nmX4 : ∀ a, a < 12 → ∀ b, b < 12 → a ≠ b → (TX4 a).2.1 ≠ (TX4 b).2.1 := by decide +kernel
theorem tyX4_ok : ∀ k, k < 12 → parseFieldDescriptor (TX4 k).2.2.1 = some (tyX4 k) := by decide +kernel
abbrev cX4_init : ByteArray := prog_6_method_1_code
def yX4_init : MethodName := ⟨RX4, "<init>", "()V"⟩
abbrev cX4_settle : ByteArray := prog_6_method_2_code
def yX4_settle : MethodName := ⟨RX4, "settle", "(LLoopLane$Body;LLoopLane$Seeker;LLoopLane$Waits;)V"⟩
abbrev cX4_settleBounds : ByteArray := prog_6_method_3_code
def yX4_settleBounds : MethodName := ⟨RX4, "settleBounds", "(ILLoopLane$Waits;)V"⟩
abbrev cX4_settlePlaces : ByteArray := prog_6_method_4_code
def yX4_settlePlaces : MethodName := ⟨RX4, "settlePlaces", "(LLoopLane$Body;)V"⟩
abbrev cX4_settleOrder : ByteArray := prog_6_method_5_code
def yX4_settleOrder : MethodName := ⟨RX4, "settleOrder", "(I)V"⟩
abbrev cX4_lastEnd : ByteArray := prog_6_method_6_code
def yX4_lastEnd : MethodName := ⟨RX4, "lastEnd", "(LLoopLane$Body;)I"⟩
abbrev cX4_placesInAll : ByteArray := prog_6_method_7_code
def yX4_placesInAll : MethodName := ⟨RX4, "placesInAll", "(I)I"⟩
abbrev cX4_mostPlaces : ByteArray := prog_6_method_8_code
def yX4_mostPlaces : MethodName := ⟨RX4, "mostPlaces", "(I)I"⟩
def RX5 : String := "LoopLane$Outcome"
def TX5 : u_T := fun k => match k with
  | 0 => ("LoopLane$Outcome", "refusal", "I", false)
  | 1 => ("LoopLane$Outcome", "act", "I", false)
  | 2 => ("LoopLane$Outcome", "turn", "I", false)
  | 3 => ("LoopLane$Outcome", "begun", "I", false)
  | 4 => ("LoopLane$Outcome", "ticks", "I", false)
  | 5 => ("LoopLane$Outcome", "byTicks", "Z", false)
  | 6 => ("LoopLane$Outcome", "whole", "I", false)
  | _ => ("LoopLane$Outcome", "ends", "[J", true)
def tyX5 : Nat → FieldType := fun k => match k with
  | 0 => .int
  | 1 => .int
  | 2 => .int
  | 3 => .int
  | 4 => .int
  | 5 => .boolean
  | 6 => .int
  | _ => .array .long
abbrev wsX50 : List Cond := u_ws RX5 TX5 8
theorem nmX5 : ∀ a, a < 8 → ∀ b, b < 8 → a ≠ b → (TX5 a).2.1 ≠ (TX5 b).2.1 := by decide +kernel
theorem tyX5_ok : ∀ k, k < 8 → parseFieldDescriptor (TX5 k).2.2.1 = some (tyX5 k) := by decide +kernel
abbrev cX5_init : ByteArray := prog_7_method_1_code
def yX5_init : MethodName := ⟨RX5, "<init>", "()V"⟩
abbrev cX5_clear : ByteArray := prog_7_method_2_code
def yX5_clear : MethodName := ⟨RX5, "clear", "()V"⟩
abbrev cX5_refused : ByteArray := prog_7_method_3_code
def yX5_refused : MethodName := ⟨RX5, "refused", "(III)V"⟩
abbrev cX5_endsAheadOf : ByteArray := prog_7_method_4_code
def yX5_endsAheadOf : MethodName := ⟨RX5, "endsAheadOf", "(II)Z"⟩
abbrev cX5_isLike : ByteArray := prog_7_method_5_code
def yX5_isLike : MethodName := ⟨RX5, "isLike", "(LLoopLane$Outcome;I)Z"⟩
def RX6 : String := "LoopLane$Rows"
def TX6 : u_T := fun k => match k with
  | 0 => ("LoopLane$Rows", "size", "[I", true)
  | 1 => ("LoopLane$Rows", "wide", "[Z", true)
  | _ => ("LoopLane$Rows", "longs", "[J", true)
def tyX6 : Nat → FieldType := fun k => match k with
  | 0 => .array .int
  | 1 => .array .boolean
  | _ => .array .long
abbrev wsX60 : List Cond := u_ws RX6 TX6 3
theorem nmX6 : ∀ a, a < 3 → ∀ b, b < 3 → a ≠ b → (TX6 a).2.1 ≠ (TX6 b).2.1 := by decide +kernel
theorem tyX6_ok : ∀ k, k < 3 → parseFieldDescriptor (TX6 k).2.2.1 = some (tyX6 k) := by decide +kernel
abbrev cX6_init : ByteArray := prog_8_method_1_code
def yX6_init : MethodName := ⟨RX6, "<init>", "()V"⟩
abbrev cX6_make : ByteArray := prog_8_method_2_code
def yX6_make : MethodName := ⟨RX6, "make", "(IIZ)V"⟩
abbrev cX6_drop : ByteArray := prog_8_method_3_code
def yX6_drop : MethodName := ⟨RX6, "drop", "(I)Z"⟩
abbrev cX6_placeOf : ByteArray := prog_8_method_4_code
def yX6_placeOf : MethodName := ⟨RX6, "placeOf", "(II)I"⟩
abbrev cX6_refusalAt : ByteArray := prog_8_method_5_code
def yX6_refusalAt : MethodName := ⟨RX6, "refusalAt", "(IJ)I"⟩
abbrev cX6_hasRun : ByteArray := prog_8_method_6_code
def yX6_hasRun : MethodName := ⟨RX6, "hasRun", "(III)Z"⟩
def RX7 : String := "LoopLane$Runner"
def TX7 : u_T := fun k => match k with
  | 0 => ("LoopLane$Runner", "body", "LLoopLane$Body;", true)
  | 1 => ("LoopLane$Runner", "rows", "LLoopLane$Rows;", true)
  | 2 => ("LoopLane$Runner", "laying", "LLoopLane$Laying;", true)
  | 3 => ("LoopLane$Runner", "ends", "[J", true)
  | 4 => ("LoopLane$Runner", "plain", "LLoopLane$Outcome;", true)
  | 5 => ("LoopLane$Runner", "laid", "LLoopLane$Outcome;", true)
  | 6 => ("LoopLane$Runner", "rowsBefore", "[J", true)
  | _ => ("LoopLane$Runner", "rowsOfPlain", "[J", true)
def tyX7 : Nat → FieldType := fun k => match k with
  | 0 => .object "LoopLane$Body"
  | 1 => .object "LoopLane$Rows"
  | 2 => .object "LoopLane$Laying"
  | 3 => .array .long
  | 4 => .object "LoopLane$Outcome"
  | 5 => .object "LoopLane$Outcome"
  | 6 => .array .long
  | _ => .array .long
abbrev wsX70 : List Cond := u_ws RX7 TX7 8
theorem nmX7 : ∀ a, a < 8 → ∀ b, b < 8 → a ≠ b → (TX7 a).2.1 ≠ (TX7 b).2.1 := by decide +kernel
theorem tyX7_ok : ∀ k, k < 8 → parseFieldDescriptor (TX7 k).2.2.1 = some (tyX7 k) := by decide +kernel
abbrev cX7_init : ByteArray := prog_9_method_1_code
def yX7_init : MethodName := ⟨RX7, "<init>", "(LLoopLane$Body;LLoopLane$Rows;LLoopLane$Laying;)V"⟩
abbrev cX7_go : ByteArray := prog_9_method_2_code
def yX7_go : MethodName := ⟨RX7, "go", "(IZLLoopLane$Outcome;)V"⟩
abbrev cX7_bothAgree : ByteArray := prog_9_method_3_code
def yX7_bothAgree : MethodName := ⟨RX7, "bothAgree", "(I)Z"⟩
abbrev cX7_rowsAreAsOfPlain : ByteArray := prog_9_method_4_code
def yX7_rowsAreAsOfPlain : MethodName := ⟨RX7, "rowsAreAsOfPlain", "()Z"⟩
abbrev cX7_goPlain : ByteArray := prog_9_method_5_code
def yX7_goPlain : MethodName := ⟨RX7, "goPlain", "(ILLoopLane$Outcome;)V"⟩
abbrev cX7_goByTicks : ByteArray := prog_9_method_6_code
def yX7_goByTicks : MethodName := ⟨RX7, "goByTicks", "(ILLoopLane$Outcome;)V"⟩
abbrev cX7_begin : ByteArray := prog_9_method_7_code
def yX7_begin : MethodName := ⟨RX7, "begin", "(IILLoopLane$Outcome;)V"⟩
abbrev cX7_refusalOf : ByteArray := prog_9_method_8_code
def yX7_refusalOf : MethodName := ⟨RX7, "refusalOf", "(II)I"⟩
abbrev cX7_endOf : ByteArray := prog_9_method_9_code
def yX7_endOf : MethodName := ⟨RX7, "endOf", "(II)J"⟩
abbrev cX7_quotient : ByteArray := prog_9_method_10_code
def yX7_quotient : MethodName := ⟨RX7, "quotient", "(JJ)J"⟩
abbrev cX7_exchange : ByteArray := prog_9_method_11_code
def yX7_exchange : MethodName := ⟨RX7, "exchange", "(IJ)J"⟩
abbrev cX7_taken : ByteArray := prog_9_method_12_code
def yX7_taken : MethodName := ⟨RX7, "taken", "(III)J"⟩
abbrev cX7_placeOf : ByteArray := prog_9_method_13_code
def yX7_placeOf : MethodName := ⟨RX7, "placeOf", "(II)I"⟩
def RX8 : String := "LoopLane$Seeker"
def TX8 : u_T := fun k => match k with
  | 0 => ("LoopLane$Seeker", "body", "LLoopLane$Body;", true)
  | 1 => ("LoopLane$Seeker", "waits", "LLoopLane$Waits;", true)
  | 2 => ("LoopLane$Seeker", "filling", "LLoopLane$Filling;", true)
  | 3 => ("LoopLane$Seeker", "chains", "[I", true)
  | 4 => ("LoopLane$Seeker", "into", "[I", true)
  | 5 => ("LoopLane$Seeker", "outOf", "[I", true)
  | 6 => ("LoopLane$Seeker", "chainInto", "[I", true)
  | 7 => ("LoopLane$Seeker", "chainOutOf", "[I", true)
  | 8 => ("LoopLane$Seeker", "beat", "I", false)
  | 9 => ("LoopLane$Seeker", "tick", "[I", true)
  | _ => ("LoopLane$Seeker", "trials", "I", false)
def tyX8 : Nat → FieldType := fun k => match k with
  | 0 => .object "LoopLane$Body"
  | 1 => .object "LoopLane$Waits"
  | 2 => .object "LoopLane$Filling"
  | 3 => .array .int
  | 4 => .array .int
  | 5 => .array .int
  | 6 => .array .int
  | 7 => .array .int
  | 8 => .int
  | 9 => .array .int
  | _ => .int
abbrev wsX80 : List Cond := u_ws RX8 TX8 11
theorem nmX8 : ∀ a, a < 11 → ∀ b, b < 11 → a ≠ b → (TX8 a).2.1 ≠ (TX8 b).2.1 := by decide +kernel
theorem tyX8_ok : ∀ k, k < 11 → parseFieldDescriptor (TX8 k).2.2.1 = some (tyX8 k) := by decide +kernel
abbrev cX8_init : ByteArray := prog_10_method_1_code
def yX8_init : MethodName := ⟨RX8, "<init>", "(LLoopLane$Body;LLoopLane$Waits;)V"⟩
abbrev cX8_beat : ByteArray := prog_10_method_2_code
def yX8_beat : MethodName := ⟨RX8, "beat", "()I"⟩
abbrev cX8_seek : ByteArray := prog_10_method_3_code
def yX8_seek : MethodName := ⟨RX8, "seek", "(I)I"⟩
abbrev cX8_enter : ByteArray := prog_10_method_4_code
def yX8_enter : MethodName := ⟨RX8, "enter", "(I)I"⟩
abbrev cX8_leave : ByteArray := prog_10_method_5_code
def yX8_leave : MethodName := ⟨RX8, "leave", "(I)V"⟩
abbrev cX8_attempt : ByteArray := prog_10_method_6_code
def yX8_attempt : MethodName := ⟨RX8, "attempt", "(I)Z"⟩
abbrev cX8_edgesCanHold : ByteArray := prog_10_method_7_code
def yX8_edgesCanHold : MethodName := ⟨RX8, "edgesCanHold", "(I)Z"⟩
abbrev cX8_closesRing : ByteArray := prog_10_method_8_code
def yX8_closesRing : MethodName := ⟨RX8, "closesRing", "(II)Z"⟩
abbrev cX8_stagesBetween : ByteArray := prog_10_method_9_code
def yX8_stagesBetween : MethodName := ⟨RX8, "stagesBetween", "(II)I"⟩
abbrev cX8_chain : ByteArray := prog_10_method_10_code
def yX8_chain : MethodName := ⟨RX8, "chain", "(I)V"⟩
abbrev cX8_lengthen : ByteArray := prog_10_method_11_code
def yX8_lengthen : MethodName := ⟨RX8, "lengthen", "(II)V"⟩
abbrev cX8_longestInto : ByteArray := prog_10_method_12_code
def yX8_longestInto : MethodName := ⟨RX8, "longestInto", "(II)I"⟩
abbrev cX8_longestOutOf : ByteArray := prog_10_method_13_code
def yX8_longestOutOf : MethodName := ⟨RX8, "longestOutOf", "(II)I"⟩
abbrev cX8_plus : ByteArray := prog_10_method_14_code
def yX8_plus : MethodName := ⟨RX8, "plus", "(II)I"⟩
abbrev cX8_place : ByteArray := prog_10_method_15_code
def yX8_place : MethodName := ⟨RX8, "place", "(III)I"⟩
abbrev cX8_stageOf : ByteArray := prog_10_method_16_code
def yX8_stageOf : MethodName := ⟨RX8, "stageOf", "(I)I"⟩
def RX9 : String := "LoopLane$Waits"
def TX9 : u_T := fun k => match k with
  | 0 => ("LoopLane$Waits", "direct", "[I", true)
  | _ => ("LoopLane$Waits", "chained", "[I", true)
def tyX9 : Nat → FieldType := fun k => match k with
  | 0 => .array .int
  | _ => .array .int
abbrev wsX90 : List Cond := u_ws RX9 TX9 2
theorem nmX9 : ∀ a, a < 2 → ∀ b, b < 2 → a ≠ b → (TX9 a).2.1 ≠ (TX9 b).2.1 := by decide +kernel
theorem tyX9_ok : ∀ k, k < 2 → parseFieldDescriptor (TX9 k).2.2.1 = some (tyX9 k) := by decide +kernel
abbrev cX9_init : ByteArray := prog_11_method_1_code
def yX9_init : MethodName := ⟨RX9, "<init>", "()V"⟩
abbrev cX9_load : ByteArray := prog_11_method_2_code
def yX9_load : MethodName := ⟨RX9, "load", "(LLoopLane$EdgeList;I)V"⟩
abbrev cX9_join : ByteArray := prog_11_method_3_code
def yX9_join : MethodName := ⟨RX9, "join", "(I)Z"⟩
abbrev cX9_joinBy : ByteArray := prog_11_method_4_code
def yX9_joinBy : MethodName := ⟨RX9, "joinBy", "(II)Z"⟩
abbrev cX9_joinRow : ByteArray := prog_11_method_5_code
def yX9_joinRow : MethodName := ⟨RX9, "joinRow", "(IIII)V"⟩
abbrev cX9_earliest : ByteArray := prog_11_method_6_code
def yX9_earliest : MethodName := ⟨RX9, "earliest", "(II)I"⟩
abbrev cX9_farthest : ByteArray := prog_11_method_7_code
def yX9_farthest : MethodName := ⟨RX9, "farthest", "(II)I"⟩
def RX10 : String := "LoopLane$Weave"
def TX10 : u_T := fun k => match k with
  | 0 => ("LoopLane$Weave", "all", "LLoopLane$EdgeList;", true)
  | 1 => ("LoopLane$Weave", "own", "I", false)
  | _ => ("LoopLane$Weave", "stale", "Z", false)
def tyX10 : Nat → FieldType := fun k => match k with
  | 0 => .object "LoopLane$EdgeList"
  | 1 => .int
  | _ => .boolean
abbrev wsX100 : List Cond := u_ws RX10 TX10 3
theorem nmX10 : ∀ a, a < 3 → ∀ b, b < 3 → a ≠ b → (TX10 a).2.1 ≠ (TX10 b).2.1 := by decide +kernel
theorem tyX10_ok : ∀ k, k < 3 → parseFieldDescriptor (TX10 k).2.2.1 = some (tyX10 k) := by decide +kernel
abbrev cX10_init : ByteArray := prog_12_method_1_code
def yX10_init : MethodName := ⟨RX10, "<init>", "()V"⟩
abbrev cX10_renew : ByteArray := prog_12_method_2_code
def yX10_renew : MethodName := ⟨RX10, "renew", "(LLoopLane$Body;)V"⟩
abbrev cX10_joinOperands : ByteArray := prog_12_method_3_code
def yX10_joinOperands : MethodName := ⟨RX10, "joinOperands", "(LLoopLane$Body;I)V"⟩
abbrev cX10_joinClashes : ByteArray := prog_12_method_4_code
def yX10_joinClashes : MethodName := ⟨RX10, "joinClashes", "(LLoopLane$Body;I)V"⟩
abbrev cX10_joinStore : ByteArray := prog_12_method_5_code
def yX10_joinStore : MethodName := ⟨RX10, "joinStore", "(LLoopLane$Body;I)V"⟩
def RX11 : String := "LoopLane"
def TX11 : u_T := fun k => match k with
  | 0 => ("LoopLane", "body", "LLoopLane$Body;", true)
  | 1 => ("LoopLane", "weave", "LLoopLane$Weave;", true)
  | 2 => ("LoopLane", "rows", "LLoopLane$Rows;", true)
  | 3 => ("LoopLane", "waits", "LLoopLane$Waits;", true)
  | 4 => ("LoopLane", "seeker", "LLoopLane$Seeker;", true)
  | 5 => ("LoopLane", "laying", "LLoopLane$Laying;", true)
  | 6 => ("LoopLane", "judge", "LLoopLane$Judge;", true)
  | 7 => ("LoopLane", "runner", "LLoopLane$Runner;", true)
  | 8 => ("LoopLane", "told", "LLoopLane$Outcome;", true)
  | 9 => ("LoopLane", "kept", "I", false)
  | _ => ("LoopLane", "refused", "[I", true)
def tyX11 : Nat → FieldType := fun k => match k with
  | 0 => .object "LoopLane$Body"
  | 1 => .object "LoopLane$Weave"
  | 2 => .object "LoopLane$Rows"
  | 3 => .object "LoopLane$Waits"
  | 4 => .object "LoopLane$Seeker"
  | 5 => .object "LoopLane$Laying"
  | 6 => .object "LoopLane$Judge"
  | 7 => .object "LoopLane$Runner"
  | 8 => .object "LoopLane$Outcome"
  | 9 => .int
  | _ => .array .int
abbrev wsX110 : List Cond := u_ws RX11 TX11 11
theorem nmX11 : ∀ a, a < 11 → ∀ b, b < 11 → a ≠ b → (TX11 a).2.1 ≠ (TX11 b).2.1 := by decide +kernel
theorem tyX11_ok : ∀ k, k < 11 → parseFieldDescriptor (TX11 k).2.2.1 = some (tyX11 k) := by decide +kernel
abbrev cX11_init : ByteArray := prog_1_method_1_code
def yX11_init : MethodName := ⟨RX11, "<init>", "()V"⟩
abbrev cX11_put : ByteArray := prog_1_method_2_code
def yX11_put : MethodName := ⟨RX11, "put", "(J)I"⟩
abbrev cX11_reckon : ByteArray := prog_1_method_3_code
def yX11_reckon : MethodName := ⟨RX11, "reckon", "(IIIII)I"⟩
abbrev cX11_fetch : ByteArray := prog_1_method_4_code
def yX11_fetch : MethodName := ⟨RX11, "fetch", "(III)I"⟩
abbrev cX11_store : ByteArray := prog_1_method_5_code
def yX11_store : MethodName := ⟨RX11, "store", "(IIIII)I"⟩
abbrev cX11_pick : ByteArray := prog_1_method_6_code
def yX11_pick : MethodName := ⟨RX11, "pick", "(IIII)I"⟩
abbrev cX11_works : ByteArray := prog_1_method_7_code
def yX11_works : MethodName := ⟨RX11, "works", "(IIII)I"⟩
abbrev cX11_first : ByteArray := prog_1_method_8_code
def yX11_first : MethodName := ⟨RX11, "first", "(IJ)I"⟩
abbrev cX11_unit : ByteArray := prog_1_method_9_code
def yX11_unit : MethodName := ⟨RX11, "unit", "(II)I"⟩
abbrev cX11_edge : ByteArray := prog_1_method_10_code
def yX11_edge : MethodName := ⟨RX11, "edge", "(IIII)I"⟩
abbrev cX11_undo : ByteArray := prog_1_method_11_code
def yX11_undo : MethodName := ⟨RX11, "undo", "()I"⟩
abbrev cX11_act : ByteArray := prog_1_method_12_code
def yX11_act : MethodName := ⟨RX11, "act", "(II)I"⟩
abbrev cX11_number : ByteArray := prog_1_method_13_code
def yX11_number : MethodName := ⟨RX11, "number", "(I)J"⟩
abbrev cX11_count : ByteArray := prog_1_method_14_code
def yX11_count : MethodName := ⟨RX11, "count", "(I)I"⟩
abbrev cX11_whole : ByteArray := prog_1_method_15_code
def yX11_whole : MethodName := ⟨RX11, "whole", "()I"⟩
abbrev cX11_row : ByteArray := prog_1_method_16_code
def yX11_row : MethodName := ⟨RX11, "row", "(IIZ)I"⟩
abbrev cX11_empty : ByteArray := prog_1_method_17_code
def yX11_empty : MethodName := ⟨RX11, "empty", "(I)I"⟩
abbrev cX11_set : ByteArray := prog_1_method_18_code
def yX11_set : MethodName := ⟨RX11, "set", "(IIJ)I"⟩
abbrev cX11_get : ByteArray := prog_1_method_19_code
def yX11_get : MethodName := ⟨RX11, "get", "(II)J"⟩
abbrev cX11_copy : ByteArray := prog_1_method_20_code
def yX11_copy : MethodName := ⟨RX11, "copy", "(IIIII)I"⟩
abbrev cX11_lowest : ByteArray := prog_1_method_21_code
def yX11_lowest : MethodName := ⟨RX11, "lowest", "()I"⟩
abbrev cX11_lay : ByteArray := prog_1_method_22_code
def yX11_lay : MethodName := ⟨RX11, "lay", "()I"⟩
abbrev cX11_prove : ByteArray := prog_1_method_23_code
def yX11_prove : MethodName := ⟨RX11, "prove", "(I)I"⟩
abbrev cX11_trials : ByteArray := prog_1_method_24_code
def yX11_trials : MethodName := ⟨RX11, "trials", "()I"⟩
abbrev cX11_laying : ByteArray := prog_1_method_25_code
def yX11_laying : MethodName := ⟨RX11, "laying", "(I)I"⟩
abbrev cX11_tick : ByteArray := prog_1_method_26_code
def yX11_tick : MethodName := ⟨RX11, "tick", "(II)I"⟩
abbrev cX11_filled : ByteArray := prog_1_method_27_code
def yX11_filled : MethodName := ⟨RX11, "filled", "(II)I"⟩
abbrev cX11_names : ByteArray := prog_1_method_28_code
def yX11_names : MethodName := ⟨RX11, "names", "(I)I"⟩
abbrev cX11_fewest : ByteArray := prog_1_method_29_code
def yX11_fewest : MethodName := ⟨RX11, "fewest", "(I)I"⟩
abbrev cX11_forge : ByteArray := prog_1_method_30_code
def yX11_forge : MethodName := ⟨RX11, "forge", "(II)I"⟩
abbrev cX11_check : ByteArray := prog_1_method_31_code
def yX11_check : MethodName := ⟨RX11, "check", "()I"⟩
abbrev cX11_wrong : ByteArray := prog_1_method_32_code
def yX11_wrong : MethodName := ⟨RX11, "wrong", "(I)I"⟩
abbrev cX11_run : ByteArray := prog_1_method_33_code
def yX11_run : MethodName := ⟨RX11, "run", "(IZ)I"⟩
abbrev cX11_compare : ByteArray := prog_1_method_34_code
def yX11_compare : MethodName := ⟨RX11, "compare", "(I)I"⟩
abbrev cX11_told : ByteArray := prog_1_method_35_code
def yX11_told : MethodName := ⟨RX11, "told", "(I)I"⟩
abbrev cX11_end : ByteArray := prog_1_method_36_code
def yX11_end : MethodName := ⟨RX11, "end", "(I)J"⟩
abbrev cX11_again : ByteArray := prog_1_method_37_code
def yX11_again : MethodName := ⟨RX11, "again", "()I"⟩
abbrev cX11_status : ByteArray := prog_1_method_38_code
def yX11_status : MethodName := ⟨RX11, "status", "(I)I"⟩
abbrev cX11_refuse : ByteArray := prog_1_method_39_code
def yX11_refuse : MethodName := ⟨RX11, "refuse", "(I)I"⟩
abbrev cX11_bodyChanged : ByteArray := prog_1_method_40_code
def yX11_bodyChanged : MethodName := ⟨RX11, "bodyChanged", "()V"⟩
abbrev cX11_isBack : ByteArray := prog_1_method_41_code
def yX11_isBack : MethodName := ⟨RX11, "isBack", "(I)Z"⟩
abbrev cX11_isSlot : ByteArray := prog_1_method_42_code
def yX11_isSlot : MethodName := ⟨RX11, "isSlot", "(I)Z"⟩
abbrev cX11_isKind : ByteArray := prog_1_method_43_code
def yX11_isKind : MethodName := ⟨RX11, "isKind", "(I)Z"⟩
abbrev cX11_operandPart : ByteArray := prog_1_method_44_code
def yX11_operandPart : MethodName := ⟨RX11, "operandPart", "(II)I"⟩
abbrev cX11_lowestBeat : ByteArray := prog_1_method_45_code
def yX11_lowestBeat : MethodName := ⟨RX11, "lowestBeat", "()I"⟩
abbrev cX11_hasRingAt : ByteArray := prog_1_method_46_code
def yX11_hasRingAt : MethodName := ⟨RX11, "hasRingAt", "(I)Z"⟩
abbrev cX11_seekAt : ByteArray := prog_1_method_47_code
def yX11_seekAt : MethodName := ⟨RX11, "seekAt", "(I)I"⟩
abbrev cX11_refusalOfRun : ByteArray := prog_1_method_48_code
def yX11_refusalOfRun : MethodName := ⟨RX11, "refusalOfRun", "(IZ)I"⟩
def RX12 : String := "LoopLaneModel"
def TX12 : u_T := fun k => match k with
  | 0 => ("LoopLaneModel", "sort", "[I", true)
  | 1 => ("LoopLaneModel", "lag", "[I", true)
  | 2 => ("LoopLaneModel", "unit", "[I", true)
  | 3 => ("LoopLaneModel", "pattern", "[I", true)
  | 4 => ("LoopLaneModel", "slot", "[I", true)
  | 5 => ("LoopLaneModel", "of", "[I", true)
  | 6 => ("LoopLaneModel", "back", "[I", true)
  | 7 => ("LoopLaneModel", "first", "[J", true)
  | 8 => ("LoopLaneModel", "number", "[J", true)
  | 9 => ("LoopLaneModel", "acts", "I", false)
  | 10 => ("LoopLaneModel", "units", "[I", true)
  | 11 => ("LoopLaneModel", "toldA", "[I", true)
  | 12 => ("LoopLaneModel", "toldB", "[I", true)
  | 13 => ("LoopLaneModel", "toldTicks", "[I", true)
  | 14 => ("LoopLaneModel", "toldTurns", "[I", true)
  | 15 => ("LoopLaneModel", "told", "I", false)
  | 16 => ("LoopLaneModel", "edgeA", "[I", true)
  | 17 => ("LoopLaneModel", "edgeB", "[I", true)
  | 18 => ("LoopLaneModel", "edgeTicks", "[I", true)
  | 19 => ("LoopLaneModel", "edgeTurns", "[I", true)
  | 20 => ("LoopLaneModel", "edges", "I", false)
  | 21 => ("LoopLaneModel", "rows", "[J", true)
  | 22 => ("LoopLaneModel", "rowsNow", "[J", true)
  | 23 => ("LoopLaneModel", "rowSize", "[I", true)
  | 24 => ("LoopLaneModel", "isWide", "[Z", true)
  | 25 => ("LoopLaneModel", "refused", "[I", true)
  | 26 => ("LoopLaneModel", "latest", "I", false)
  | 27 => ("LoopLaneModel", "beat", "I", false)
  | 28 => ("LoopLaneModel", "ticks", "[I", true)
  | 29 => ("LoopLaneModel", "stages", "[I", true)
  | 30 => ("LoopLaneModel", "begin", "[I", true)
  | 31 => ("LoopLaneModel", "forged", "[I", true)
  | 32 => ("LoopLaneModel", "tried", "I", false)
  | 33 => ("LoopLaneModel", "pushed", "[I", true)
  | 34 => ("LoopLaneModel", "trial", "[I", true)
  | 35 => ("LoopLaneModel", "full", "[I", true)
  | 36 => ("LoopLaneModel", "wrong", "[I", true)
  | 37 => ("LoopLaneModel", "ends", "[J", true)
  | 38 => ("LoopLaneModel", "endKind", "I", false)
  | 39 => ("LoopLaneModel", "endAct", "I", false)
  | 40 => ("LoopLaneModel", "endTurn", "I", false)
  | 41 => ("LoopLaneModel", "begun", "I", false)
  | 42 => ("LoopLaneModel", "spent", "I", false)
  | 43 => ("LoopLaneModel", "wasLaid", "I", false)
  | _ => ("LoopLaneModel", "done", "I", false)
def tyX12 : Nat → FieldType := fun k => match k with
  | 0 => .array .int
  | 1 => .array .int
  | 2 => .array .int
  | 3 => .array .int
  | 4 => .array .int
  | 5 => .array .int
  | 6 => .array .int
  | 7 => .array .long
  | 8 => .array .long
  | 9 => .int
  | 10 => .array .int
  | 11 => .array .int
  | 12 => .array .int
  | 13 => .array .int
  | 14 => .array .int
  | 15 => .int
  | 16 => .array .int
  | 17 => .array .int
  | 18 => .array .int
  | 19 => .array .int
  | 20 => .int
  | 21 => .array .long
  | 22 => .array .long
  | 23 => .array .int
  | 24 => .array .boolean
  | 25 => .array .int
  | 26 => .int
  | 27 => .int
  | 28 => .array .int
  | 29 => .array .int
  | 30 => .array .int
  | 31 => .array .int
  | 32 => .int
  | 33 => .array .int
  | 34 => .array .int
  | 35 => .array .int
  | 36 => .array .int
  | 37 => .array .long
  | 38 => .int
  | 39 => .int
  | 40 => .int
  | 41 => .int
  | 42 => .int
  | 43 => .int
  | _ => .int
abbrev wsX120 : List Cond := u_ws RX12 TX12 45
theorem nmX12 : ∀ a, a < 45 → ∀ b, b < 45 → a ≠ b → (TX12 a).2.1 ≠ (TX12 b).2.1 := by decide +kernel
theorem tyX12_ok : ∀ k, k < 45 → parseFieldDescriptor (TX12 k).2.2.1 = some (tyX12 k) := by decide +kernel
abbrev cX12_init : ByteArray := prog_14_method_1_code
def yX12_init : MethodName := ⟨RX12, "<init>", "()V"⟩
abbrev cX12_isIn : ByteArray := prog_14_method_2_code
def yX12_isIn : MethodName := ⟨RX12, "isIn", "(JJJ)Z"⟩
abbrev cX12_no : ByteArray := prog_14_method_3_code
def yX12_no : MethodName := ⟨RX12, "no", "(I)I"⟩
abbrev cX12_isAct : ByteArray := prog_14_method_4_code
def yX12_isAct : MethodName := ⟨RX12, "isAct", "(I)Z"⟩
abbrev cX12_changes : ByteArray := prog_14_method_5_code
def yX12_changes : MethodName := ⟨RX12, "changes", "()V"⟩
abbrev cX12_adds : ByteArray := prog_14_method_6_code
def yX12_adds : MethodName := ⟨RX12, "adds", "(IIIIII)I"⟩
abbrev cX12_operand : ByteArray := prog_14_method_7_code
def yX12_operand : MethodName := ⟨RX12, "operand", "(IIII)V"⟩
abbrev cX12_areTurns : ByteArray := prog_14_method_8_code
def yX12_areTurns : MethodName := ⟨RX12, "areTurns", "(I)Z"⟩
abbrev cX12_isBeyond : ByteArray := prog_14_method_9_code
def yX12_isBeyond : MethodName := ⟨RX12, "isBeyond", "(II)Z"⟩
abbrev cX12_put : ByteArray := prog_14_method_10_code
def yX12_put : MethodName := ⟨RX12, "put", "(J)I"⟩
abbrev cX12_reckon : ByteArray := prog_14_method_11_code
def yX12_reckon : MethodName := ⟨RX12, "reckon", "(IIIII)I"⟩
abbrev cX12_fetch : ByteArray := prog_14_method_12_code
def yX12_fetch : MethodName := ⟨RX12, "fetch", "(III)I"⟩
abbrev cX12_store : ByteArray := prog_14_method_13_code
def yX12_store : MethodName := ⟨RX12, "store", "(IIIII)I"⟩
abbrev cX12_pick : ByteArray := prog_14_method_14_code
def yX12_pick : MethodName := ⟨RX12, "pick", "(IIII)I"⟩
abbrev cX12_works : ByteArray := prog_14_method_15_code
def yX12_works : MethodName := ⟨RX12, "works", "(IIII)I"⟩
abbrev cX12_first : ByteArray := prog_14_method_16_code
def yX12_first : MethodName := ⟨RX12, "first", "(IJ)I"⟩
abbrev cX12_unit : ByteArray := prog_14_method_17_code
def yX12_unit : MethodName := ⟨RX12, "unit", "(II)I"⟩
abbrev cX12_edge : ByteArray := prog_14_method_18_code
def yX12_edge : MethodName := ⟨RX12, "edge", "(IIII)I"⟩
abbrev cX12_undo : ByteArray := prog_14_method_19_code
def yX12_undo : MethodName := ⟨RX12, "undo", "()I"⟩
abbrev cX12_act : ByteArray := prog_14_method_20_code
def yX12_act : MethodName := ⟨RX12, "act", "(II)I"⟩
abbrev cX12_number : ByteArray := prog_14_method_21_code
def yX12_number : MethodName := ⟨RX12, "number", "(I)J"⟩
abbrev cX12_whole : ByteArray := prog_14_method_22_code
def yX12_whole : MethodName := ⟨RX12, "whole", "()I"⟩
abbrev cX12_count : ByteArray := prog_14_method_23_code
def yX12_count : MethodName := ⟨RX12, "count", "(I)I"⟩
abbrev cX12_enter : ByteArray := prog_14_method_24_code
def yX12_enter : MethodName := ⟨RX12, "enter", "(IIII)V"⟩
abbrev cX12_isOfRow : ByteArray := prog_14_method_25_code
def yX12_isOfRow : MethodName := ⟨RX12, "isOfRow", "(I)Z"⟩
abbrev cX12_gather : ByteArray := prog_14_method_26_code
def yX12_gather : MethodName := ⟨RX12, "gather", "()V"⟩
abbrev cX12_gatherTwo : ByteArray := prog_14_method_27_code
def yX12_gatherTwo : MethodName := ⟨RX12, "gatherTwo", "(II)V"⟩
abbrev cX12_bits : ByteArray := prog_14_method_28_code
def yX12_bits : MethodName := ⟨RX12, "bits", "(I)I"⟩
abbrev cX12_byUnits : ByteArray := prog_14_method_29_code
def yX12_byUnits : MethodName := ⟨RX12, "byUnits", "()I"⟩
abbrev cX12_rests : ByteArray := prog_14_method_30_code
def yX12_rests : MethodName := ⟨RX12, "rests", "(I)Z"⟩
abbrev cX12_byRings : ByteArray := prog_14_method_31_code
def yX12_byRings : MethodName := ⟨RX12, "byRings", "()I"⟩
abbrev cX12_isReady : ByteArray := prog_14_method_32_code
def yX12_isReady : MethodName := ⟨RX12, "isReady", "()Z"⟩
abbrev cX12_lowestBeat : ByteArray := prog_14_method_33_code
def yX12_lowestBeat : MethodName := ⟨RX12, "lowestBeat", "()I"⟩
abbrev cX12_lowest : ByteArray := prog_14_method_34_code
def yX12_lowest : MethodName := ⟨RX12, "lowest", "()I"⟩
abbrev cX12_fits : ByteArray := prog_14_method_35_code
def yX12_fits : MethodName := ⟨RX12, "fits", "(II)Z"⟩
abbrev cX12_cut : ByteArray := prog_14_method_36_code
def yX12_cut : MethodName := ⟨RX12, "cut", "(II)I"⟩
abbrev cX12_holds : ByteArray := prog_14_method_37_code
def yX12_holds : MethodName := ⟨RX12, "holds", "(II)Z"⟩
abbrev cX12_tries : ByteArray := prog_14_method_38_code
def yX12_tries : MethodName := ⟨RX12, "tries", "(I)I"⟩
abbrev cX12_lay : ByteArray := prog_14_method_39_code
def yX12_lay : MethodName := ⟨RX12, "lay", "()I"⟩
abbrev cX12_prove : ByteArray := prog_14_method_40_code
def yX12_prove : MethodName := ⟨RX12, "prove", "(I)I"⟩
abbrev cX12_trials : ByteArray := prog_14_method_41_code
def yX12_trials : MethodName := ⟨RX12, "trials", "()I"⟩
abbrev cX12_laying : ByteArray := prog_14_method_42_code
def yX12_laying : MethodName := ⟨RX12, "laying", "(I)I"⟩
abbrev cX12_latestBegin : ByteArray := prog_14_method_43_code
def yX12_latestBegin : MethodName := ⟨RX12, "latestBegin", "(I)I"⟩
abbrev cX12_tick : ByteArray := prog_14_method_44_code
def yX12_tick : MethodName := ⟨RX12, "tick", "(II)I"⟩
abbrev cX12_filled : ByteArray := prog_14_method_45_code
def yX12_filled : MethodName := ⟨RX12, "filled", "(II)I"⟩
abbrev cX12_placesOf : ByteArray := prog_14_method_46_code
def yX12_placesOf : MethodName := ⟨RX12, "placesOf", "(I)I"⟩
abbrev cX12_names : ByteArray := prog_14_method_47_code
def yX12_names : MethodName := ⟨RX12, "names", "(I)I"⟩
abbrev cX12_fewest : ByteArray := prog_14_method_48_code
def yX12_fewest : MethodName := ⟨RX12, "fewest", "(I)I"⟩
abbrev cX12_forge : ByteArray := prog_14_method_49_code
def yX12_forge : MethodName := ⟨RX12, "forge", "(II)I"⟩
abbrev cX12_unwrong : ByteArray := prog_14_method_50_code
def yX12_unwrong : MethodName := ⟨RX12, "unwrong", "()V"⟩
abbrev cX12_isAhead : ByteArray := prog_14_method_51_code
def yX12_isAhead : MethodName := ⟨RX12, "isAhead", "(I)Z"⟩
abbrev cX12_check : ByteArray := prog_14_method_52_code
def yX12_check : MethodName := ⟨RX12, "check", "()I"⟩
abbrev cX12_filledAs : ByteArray := prog_14_method_53_code
def yX12_filledAs : MethodName := ⟨RX12, "filledAs", "(II)I"⟩
abbrev cX12_wrong : ByteArray := prog_14_method_54_code
def yX12_wrong : MethodName := ⟨RX12, "wrong", "(I)I"⟩
abbrev cX12_isSlot : ByteArray := prog_14_method_55_code
def yX12_isSlot : MethodName := ⟨RX12, "isSlot", "(I)Z"⟩
abbrev cX12_row : ByteArray := prog_14_method_56_code
def yX12_row : MethodName := ⟨RX12, "row", "(IIZ)I"⟩
abbrev cX12_empty : ByteArray := prog_14_method_57_code
def yX12_empty : MethodName := ⟨RX12, "empty", "(I)I"⟩
abbrev cX12_why : ByteArray := prog_14_method_58_code
def yX12_why : MethodName := ⟨RX12, "why", "(IJ)I"⟩
abbrev cX12_set : ByteArray := prog_14_method_59_code
def yX12_set : MethodName := ⟨RX12, "set", "(IIJ)I"⟩
abbrev cX12_get : ByteArray := prog_14_method_60_code
def yX12_get : MethodName := ⟨RX12, "get", "(II)J"⟩
abbrev cX12_copy : ByteArray := prog_14_method_61_code
def yX12_copy : MethodName := ⟨RX12, "copy", "(IIIII)I"⟩
abbrev cX12_forget : ByteArray := prog_14_method_62_code
def yX12_forget : MethodName := ⟨RX12, "forget", "()V"⟩
abbrev cX12_value : ByteArray := prog_14_method_63_code
def yX12_value : MethodName := ⟨RX12, "value", "(III)J"⟩
abbrev cX12_does : ByteArray := prog_14_method_64_code
def yX12_does : MethodName := ⟨RX12, "does", "(II)I"⟩
abbrev cX12_plain : ByteArray := prog_14_method_65_code
def yX12_plain : MethodName := ⟨RX12, "plain", "(I)V"⟩
abbrev cX12_laid : ByteArray := prog_14_method_66_code
def yX12_laid : MethodName := ⟨RX12, "laid", "(I)V"⟩
abbrev cX12_whyNoRun : ByteArray := prog_14_method_67_code
def yX12_whyNoRun : MethodName := ⟨RX12, "whyNoRun", "(IZ)I"⟩
abbrev cX12_run : ByteArray := prog_14_method_68_code
def yX12_run : MethodName := ⟨RX12, "run", "(IZ)I"⟩
abbrev cX12_compare : ByteArray := prog_14_method_69_code
def yX12_compare : MethodName := ⟨RX12, "compare", "(I)I"⟩
abbrev cX12_told : ByteArray := prog_14_method_70_code
def yX12_told : MethodName := ⟨RX12, "told", "(I)I"⟩
abbrev cX12_end : ByteArray := prog_14_method_71_code
def yX12_end : MethodName := ⟨RX12, "end", "(I)J"⟩
abbrev cX12_again : ByteArray := prog_14_method_72_code
def yX12_again : MethodName := ⟨RX12, "again", "()I"⟩
abbrev cX12_status : ByteArray := prog_14_method_73_code
def yX12_status : MethodName := ⟨RX12, "status", "(I)I"⟩
def RJ6 : String := "java/lang/Integer"
def TJ6 : u_T := fun k => match k with
  | _ => ("", "", "", false)
def tyJ6 : Nat → FieldType := fun k => match k with
  | _ => .int
abbrev wsJ60 : List Cond := u_ws RJ6 TJ6 0
theorem nmJ6 : ∀ a, a < 0 → ∀ b, b < 0 → a ≠ b → (TJ6 a).2.1 ≠ (TJ6 b).2.1 := by decide +kernel
theorem tyJ6_ok : ∀ k, k < 0 → parseFieldDescriptor (TJ6 k).2.2.1 = some (tyJ6 k) := by decide +kernel
abbrev cJ6_bitCount_0f7a4 : ByteArray := prog_15_method_49_code
def yJ6_bitCount_0f7a4 : MethodName := ⟨RJ6, "bitCount", "(I)I"⟩
def RJ9 : String := "java/lang/Math"
def TJ9 : u_T := fun k => match k with
  | _ => ("", "", "", false)
def tyJ9 : Nat → FieldType := fun k => match k with
  | _ => .int
abbrev wsJ90 : List Cond := u_ws RJ9 TJ9 0
theorem nmJ9 : ∀ a, a < 0 → ∀ b, b < 0 → a ≠ b → (TJ9 a).2.1 ≠ (TJ9 b).2.1 := by decide +kernel
theorem tyJ9_ok : ∀ k, k < 0 → parseFieldDescriptor (TJ9 k).2.2.1 = some (tyJ9 k) := by decide +kernel
abbrev cJ9_floorDiv_7cf53 : ByteArray := prog_16_method_47_code
def yJ9_floorDiv_7cf53 : MethodName := ⟨RJ9, "floorDiv", "(II)I"⟩
abbrev cJ9_max_7cf53 : ByteArray := prog_16_method_65_code
def yJ9_max_7cf53 : MethodName := ⟨RJ9, "max", "(II)I"⟩
def RJ10 : String := "java/lang/System"
def TJ10 : u_T := fun k => match k with
  | _ => ("", "", "", false)
def tyJ10 : Nat → FieldType := fun k => match k with
  | _ => .int
abbrev wsJ100 : List Cond := u_ws RJ10 TJ10 0
theorem nmJ10 : ∀ a, a < 0 → ∀ b, b < 0 → a ≠ b → (TJ10 a).2.1 ≠ (TJ10 b).2.1 := by decide +kernel
theorem tyJ10_ok : ∀ k, k < 0 → parseFieldDescriptor (TJ10 k).2.2.1 = some (tyJ10 k) := by decide +kernel
def RJ7 : String := "java/util/Arrays"
def TJ7 : u_T := fun k => match k with
  | _ => ("", "", "", false)
def tyJ7 : Nat → FieldType := fun k => match k with
  | _ => .int
abbrev wsJ70 : List Cond := u_ws RJ7 TJ7 0
theorem nmJ7 : ∀ a, a < 0 → ∀ b, b < 0 → a ≠ b → (TJ7 a).2.1 ≠ (TJ7 b).2.1 := by decide +kernel
theorem tyJ7_ok : ∀ k, k < 0 → parseFieldDescriptor (TJ7 k).2.2.1 = some (tyJ7 k) := by decide +kernel
abbrev cJ7_fill_53178 : ByteArray := prog_18_method_103_code
def yJ7_fill_53178 : MethodName := ⟨RJ7, "fill", "([II)V"⟩
def RL : String := "LoopLaneLaw"
abbrev cL_law : ByteArray := code
def yL_law : MethodName := ⟨RL, "law", "([I)Z"⟩
abbrev vwCl : List vw_C := [(RX0, TX0, 12), (RX1, TX1, 5), (RX2, TX2, 1), (RX3, TX3, 2), (RX4, TX4, 12), (RX5, TX5, 8), (RX6, TX6, 3), (RX7, TX7, 8), (RX8, TX8, 11), (RX9, TX9, 2), (RX10, TX10, 3), (RX11, TX11, 11), (RX12, TX12, 45)]
