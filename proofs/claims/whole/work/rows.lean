section
-- ===== PART A: goes FIRST, ahead of the names: the tables' words, and 'selects' of the private methods out of them =====
/-- a private method of a class that the tables say can be made, by its rows of tables_1 -/
def lw_okq (q : MethodName × Nat) : Prop := (q.1.cls ≠ "java/lang/invoke/MethodHandle" ∧ q.1.cls ≠ "java/lang/invoke/VarHandle") ∧ Cond.instantiable q.1.cls q.2 ∈ tables_1 ∧ Cond.privateMethod q.1 ∈ tables_1 ∧ Cond.instanceMethod q.1 ∈ tables_1
theorem lw_p0 : lw_okq (⟨"LoopLane", "refuse", "(I)I"⟩, 11) := ⟨⟨by decide +kernel, by decide +kernel⟩, List.mem_of_getElem? (i := 19) (by decide +kernel), List.mem_of_getElem? (i := 462) (by decide +kernel), List.mem_of_getElem? (i := 463) (by decide +kernel)⟩
theorem lw_p1 : lw_okq (⟨"LoopLane", "bodyChanged", "()V"⟩, 11) := ⟨⟨by decide +kernel, by decide +kernel⟩, List.mem_of_getElem? (i := 19) (by decide +kernel), List.mem_of_getElem? (i := 466) (by decide +kernel), List.mem_of_getElem? (i := 467) (by decide +kernel)⟩
theorem lw_p2 : lw_okq (⟨"LoopLane$EdgeList", "write", "(IIIII)V"⟩, 5) := ⟨⟨by decide +kernel, by decide +kernel⟩, List.mem_of_getElem? (i := 33) (by decide +kernel), List.mem_of_getElem? (i := 528) (by decide +kernel), List.mem_of_getElem? (i := 529) (by decide +kernel)⟩
theorem lw_p3 : lw_okq (⟨"LoopLane", "operandPart", "(II)I"⟩, 11) := ⟨⟨by decide +kernel, by decide +kernel⟩, List.mem_of_getElem? (i := 19) (by decide +kernel), List.mem_of_getElem? (i := 548) (by decide +kernel), List.mem_of_getElem? (i := 549) (by decide +kernel)⟩
theorem lw_p4 : lw_okq (⟨"LoopLane$Weave", "joinOperands", "(LLoopLane$Body;I)V"⟩, 3) := ⟨⟨by decide +kernel, by decide +kernel⟩, List.mem_of_getElem? (i := 149) (by decide +kernel), List.mem_of_getElem? (i := 564) (by decide +kernel), List.mem_of_getElem? (i := 565) (by decide +kernel)⟩
theorem lw_p5 : lw_okq (⟨"LoopLane$Weave", "joinClashes", "(LLoopLane$Body;I)V"⟩, 3) := ⟨⟨by decide +kernel, by decide +kernel⟩, List.mem_of_getElem? (i := 149) (by decide +kernel), List.mem_of_getElem? (i := 570) (by decide +kernel), List.mem_of_getElem? (i := 571) (by decide +kernel)⟩
theorem lw_p6 : lw_okq (⟨"LoopLane$Weave", "joinStore", "(LLoopLane$Body;I)V"⟩, 3) := ⟨⟨by decide +kernel, by decide +kernel⟩, List.mem_of_getElem? (i := 149) (by decide +kernel), List.mem_of_getElem? (i := 582) (by decide +kernel), List.mem_of_getElem? (i := 583) (by decide +kernel)⟩
theorem lw_p7 : lw_okq (⟨"LoopLane", "lowestBeat", "()I"⟩, 11) := ⟨⟨by decide +kernel, by decide +kernel⟩, List.mem_of_getElem? (i := 19) (by decide +kernel), List.mem_of_getElem? (i := 658) (by decide +kernel), List.mem_of_getElem? (i := 659) (by decide +kernel)⟩
theorem lw_p8 : lw_okq (⟨"LoopLane$Body", "bitsOf", "(I)I"⟩, 12) := ⟨⟨by decide +kernel, by decide +kernel⟩, List.mem_of_getElem? (i := 27) (by decide +kernel), List.mem_of_getElem? (i := 671) (by decide +kernel), List.mem_of_getElem? (i := 672) (by decide +kernel)⟩
theorem lw_p9 : lw_okq (⟨"LoopLane", "hasRingAt", "(I)Z"⟩, 11) := ⟨⟨by decide +kernel, by decide +kernel⟩, List.mem_of_getElem? (i := 19) (by decide +kernel), List.mem_of_getElem? (i := 682) (by decide +kernel), List.mem_of_getElem? (i := 683) (by decide +kernel)⟩
theorem lw_p10 : lw_okq (⟨"LoopLane$Waits", "joinBy", "(II)Z"⟩, 2) := ⟨⟨by decide +kernel, by decide +kernel⟩, List.mem_of_getElem? (i := 191) (by decide +kernel), List.mem_of_getElem? (i := 698) (by decide +kernel), List.mem_of_getElem? (i := 699) (by decide +kernel)⟩
theorem lw_p11 : lw_okq (⟨"LoopLane$Waits", "joinRow", "(IIII)V"⟩, 2) := ⟨⟨by decide +kernel, by decide +kernel⟩, List.mem_of_getElem? (i := 191) (by decide +kernel), List.mem_of_getElem? (i := 702) (by decide +kernel), List.mem_of_getElem? (i := 703) (by decide +kernel)⟩
theorem lw_p12 : lw_okq (⟨"LoopLane", "seekAt", "(I)I"⟩, 11) := ⟨⟨by decide +kernel, by decide +kernel⟩, List.mem_of_getElem? (i := 19) (by decide +kernel), List.mem_of_getElem? (i := 710) (by decide +kernel), List.mem_of_getElem? (i := 711) (by decide +kernel)⟩
theorem lw_p13 : lw_okq (⟨"LoopLane$Seeker", "leave", "(I)V"⟩, 11) := ⟨⟨by decide +kernel, by decide +kernel⟩, List.mem_of_getElem? (i := 205) (by decide +kernel), List.mem_of_getElem? (i := 724) (by decide +kernel), List.mem_of_getElem? (i := 725) (by decide +kernel)⟩
theorem lw_p14 : lw_okq (⟨"LoopLane$Seeker", "attempt", "(I)Z"⟩, 11) := ⟨⟨by decide +kernel, by decide +kernel⟩, List.mem_of_getElem? (i := 205) (by decide +kernel), List.mem_of_getElem? (i := 733) (by decide +kernel), List.mem_of_getElem? (i := 734) (by decide +kernel)⟩
theorem lw_p15 : lw_okq (⟨"LoopLane$Seeker", "edgesCanHold", "(I)Z"⟩, 11) := ⟨⟨by decide +kernel, by decide +kernel⟩, List.mem_of_getElem? (i := 205) (by decide +kernel), List.mem_of_getElem? (i := 737) (by decide +kernel), List.mem_of_getElem? (i := 738) (by decide +kernel)⟩
def lw_privs_1 : List (MethodName × Nat) := [(⟨"LoopLane", "refuse", "(I)I"⟩, 11), (⟨"LoopLane", "bodyChanged", "()V"⟩, 11), (⟨"LoopLane$EdgeList", "write", "(IIIII)V"⟩, 5), (⟨"LoopLane", "operandPart", "(II)I"⟩, 11), (⟨"LoopLane$Weave", "joinOperands", "(LLoopLane$Body;I)V"⟩, 3), (⟨"LoopLane$Weave", "joinClashes", "(LLoopLane$Body;I)V"⟩, 3), (⟨"LoopLane$Weave", "joinStore", "(LLoopLane$Body;I)V"⟩, 3), (⟨"LoopLane", "lowestBeat", "()I"⟩, 11), (⟨"LoopLane$Body", "bitsOf", "(I)I"⟩, 12), (⟨"LoopLane", "hasRingAt", "(I)Z"⟩, 11), (⟨"LoopLane$Waits", "joinBy", "(II)Z"⟩, 2), (⟨"LoopLane$Waits", "joinRow", "(IIII)V"⟩, 2), (⟨"LoopLane", "seekAt", "(I)I"⟩, 11), (⟨"LoopLane$Seeker", "leave", "(I)V"⟩, 11), (⟨"LoopLane$Seeker", "attempt", "(I)Z"⟩, 11), (⟨"LoopLane$Seeker", "edgesCanHold", "(I)Z"⟩, 11)]
theorem lw_r1 : ∀ q ∈ lw_privs_1, lw_okq q := List.forall_mem_cons.mpr ⟨lw_p0, List.forall_mem_cons.mpr ⟨lw_p1, List.forall_mem_cons.mpr ⟨lw_p2, List.forall_mem_cons.mpr ⟨lw_p3, List.forall_mem_cons.mpr ⟨lw_p4, List.forall_mem_cons.mpr ⟨lw_p5, List.forall_mem_cons.mpr ⟨lw_p6, List.forall_mem_cons.mpr ⟨lw_p7, List.forall_mem_cons.mpr ⟨lw_p8, List.forall_mem_cons.mpr ⟨lw_p9, List.forall_mem_cons.mpr ⟨lw_p10, List.forall_mem_cons.mpr ⟨lw_p11, List.forall_mem_cons.mpr ⟨lw_p12, List.forall_mem_cons.mpr ⟨lw_p13, List.forall_mem_cons.mpr ⟨lw_p14, List.forall_mem_cons.mpr ⟨lw_p15, fun _ h => absurd h List.not_mem_nil⟩⟩⟩⟩⟩⟩⟩⟩⟩⟩⟩⟩⟩⟩⟩⟩
theorem lw_p16 : lw_okq (⟨"LoopLane$Seeker", "stagesBetween", "(II)I"⟩, 11) := ⟨⟨by decide +kernel, by decide +kernel⟩, List.mem_of_getElem? (i := 205) (by decide +kernel), List.mem_of_getElem? (i := 741) (by decide +kernel), List.mem_of_getElem? (i := 742) (by decide +kernel)⟩
theorem lw_p17 : lw_okq (⟨"LoopLane$Seeker", "closesRing", "(II)Z"⟩, 11) := ⟨⟨by decide +kernel, by decide +kernel⟩, List.mem_of_getElem? (i := 205) (by decide +kernel), List.mem_of_getElem? (i := 749) (by decide +kernel), List.mem_of_getElem? (i := 750) (by decide +kernel)⟩
theorem lw_p18 : lw_okq (⟨"LoopLane$Seeker", "chain", "(I)V"⟩, 11) := ⟨⟨by decide +kernel, by decide +kernel⟩, List.mem_of_getElem? (i := 205) (by decide +kernel), List.mem_of_getElem? (i := 756) (by decide +kernel), List.mem_of_getElem? (i := 757) (by decide +kernel)⟩
theorem lw_p19 : lw_okq (⟨"LoopLane$Seeker", "longestInto", "(II)I"⟩, 11) := ⟨⟨by decide +kernel, by decide +kernel⟩, List.mem_of_getElem? (i := 205) (by decide +kernel), List.mem_of_getElem? (i := 760) (by decide +kernel), List.mem_of_getElem? (i := 761) (by decide +kernel)⟩
theorem lw_p20 : lw_okq (⟨"LoopLane$Seeker", "longestOutOf", "(II)I"⟩, 11) := ⟨⟨by decide +kernel, by decide +kernel⟩, List.mem_of_getElem? (i := 205) (by decide +kernel), List.mem_of_getElem? (i := 767) (by decide +kernel), List.mem_of_getElem? (i := 768) (by decide +kernel)⟩
theorem lw_p21 : lw_okq (⟨"LoopLane$Seeker", "lengthen", "(II)V"⟩, 11) := ⟨⟨by decide +kernel, by decide +kernel⟩, List.mem_of_getElem? (i := 205) (by decide +kernel), List.mem_of_getElem? (i := 772) (by decide +kernel), List.mem_of_getElem? (i := 773) (by decide +kernel)⟩
theorem lw_p22 : lw_okq (⟨"LoopLane$Seeker", "enter", "(I)I"⟩, 11) := ⟨⟨by decide +kernel, by decide +kernel⟩, List.mem_of_getElem? (i := 205) (by decide +kernel), List.mem_of_getElem? (i := 776) (by decide +kernel), List.mem_of_getElem? (i := 777) (by decide +kernel)⟩
theorem lw_p23 : lw_okq (⟨"LoopLane$Laying", "settleBounds", "(ILLoopLane$Waits;)V"⟩, 12) := ⟨⟨by decide +kernel, by decide +kernel⟩, List.mem_of_getElem? (i := 257) (by decide +kernel), List.mem_of_getElem? (i := 795) (by decide +kernel), List.mem_of_getElem? (i := 796) (by decide +kernel)⟩
theorem lw_p24 : lw_okq (⟨"LoopLane$Laying", "settlePlaces", "(LLoopLane$Body;)V"⟩, 12) := ⟨⟨by decide +kernel, by decide +kernel⟩, List.mem_of_getElem? (i := 257) (by decide +kernel), List.mem_of_getElem? (i := 807) (by decide +kernel), List.mem_of_getElem? (i := 808) (by decide +kernel)⟩
theorem lw_p25 : lw_okq (⟨"LoopLane$Laying", "settleOrder", "(I)V"⟩, 12) := ⟨⟨by decide +kernel, by decide +kernel⟩, List.mem_of_getElem? (i := 257) (by decide +kernel), List.mem_of_getElem? (i := 813) (by decide +kernel), List.mem_of_getElem? (i := 814) (by decide +kernel)⟩
theorem lw_p26 : lw_okq (⟨"LoopLane$Judge", "firstBroken", "(LLoopLane$EdgeList;LLoopLane$Laying;)I"⟩, 2) := ⟨⟨by decide +kernel, by decide +kernel⟩, List.mem_of_getElem? (i := 320) (by decide +kernel), List.mem_of_getElem? (i := 873) (by decide +kernel), List.mem_of_getElem? (i := 874) (by decide +kernel)⟩
theorem lw_p27 : lw_okq (⟨"LoopLane$Judge", "findCrowd", "(LLoopLane$Body;LLoopLane$Laying;)Z"⟩, 2) := ⟨⟨by decide +kernel, by decide +kernel⟩, List.mem_of_getElem? (i := 320) (by decide +kernel), List.mem_of_getElem? (i := 881) (by decide +kernel), List.mem_of_getElem? (i := 882) (by decide +kernel)⟩
theorem lw_p28 : lw_okq (⟨"LoopLane", "refusalOfRun", "(IZ)I"⟩, 11) := ⟨⟨by decide +kernel, by decide +kernel⟩, List.mem_of_getElem? (i := 19) (by decide +kernel), List.mem_of_getElem? (i := 899) (by decide +kernel), List.mem_of_getElem? (i := 900) (by decide +kernel)⟩
theorem lw_p29 : lw_okq (⟨"LoopLane$Runner", "goByTicks", "(ILLoopLane$Outcome;)V"⟩, 8) := ⟨⟨by decide +kernel, by decide +kernel⟩, List.mem_of_getElem? (i := 337) (by decide +kernel), List.mem_of_getElem? (i := 912) (by decide +kernel), List.mem_of_getElem? (i := 913) (by decide +kernel)⟩
theorem lw_p30 : lw_okq (⟨"LoopLane$Runner", "begin", "(IILLoopLane$Outcome;)V"⟩, 8) := ⟨⟨by decide +kernel, by decide +kernel⟩, List.mem_of_getElem? (i := 337) (by decide +kernel), List.mem_of_getElem? (i := 920) (by decide +kernel), List.mem_of_getElem? (i := 921) (by decide +kernel)⟩
theorem lw_p31 : lw_okq (⟨"LoopLane$Runner", "refusalOf", "(II)I"⟩, 8) := ⟨⟨by decide +kernel, by decide +kernel⟩, List.mem_of_getElem? (i := 337) (by decide +kernel), List.mem_of_getElem? (i := 924) (by decide +kernel), List.mem_of_getElem? (i := 925) (by decide +kernel)⟩
def lw_privs_2 : List (MethodName × Nat) := [(⟨"LoopLane$Seeker", "stagesBetween", "(II)I"⟩, 11), (⟨"LoopLane$Seeker", "closesRing", "(II)Z"⟩, 11), (⟨"LoopLane$Seeker", "chain", "(I)V"⟩, 11), (⟨"LoopLane$Seeker", "longestInto", "(II)I"⟩, 11), (⟨"LoopLane$Seeker", "longestOutOf", "(II)I"⟩, 11), (⟨"LoopLane$Seeker", "lengthen", "(II)V"⟩, 11), (⟨"LoopLane$Seeker", "enter", "(I)I"⟩, 11), (⟨"LoopLane$Laying", "settleBounds", "(ILLoopLane$Waits;)V"⟩, 12), (⟨"LoopLane$Laying", "settlePlaces", "(LLoopLane$Body;)V"⟩, 12), (⟨"LoopLane$Laying", "settleOrder", "(I)V"⟩, 12), (⟨"LoopLane$Judge", "firstBroken", "(LLoopLane$EdgeList;LLoopLane$Laying;)I"⟩, 2), (⟨"LoopLane$Judge", "findCrowd", "(LLoopLane$Body;LLoopLane$Laying;)Z"⟩, 2), (⟨"LoopLane", "refusalOfRun", "(IZ)I"⟩, 11), (⟨"LoopLane$Runner", "goByTicks", "(ILLoopLane$Outcome;)V"⟩, 8), (⟨"LoopLane$Runner", "begin", "(IILLoopLane$Outcome;)V"⟩, 8), (⟨"LoopLane$Runner", "refusalOf", "(II)I"⟩, 8)]
theorem lw_r2 : ∀ q ∈ lw_privs_2, lw_okq q := List.forall_mem_cons.mpr ⟨lw_p16, List.forall_mem_cons.mpr ⟨lw_p17, List.forall_mem_cons.mpr ⟨lw_p18, List.forall_mem_cons.mpr ⟨lw_p19, List.forall_mem_cons.mpr ⟨lw_p20, List.forall_mem_cons.mpr ⟨lw_p21, List.forall_mem_cons.mpr ⟨lw_p22, List.forall_mem_cons.mpr ⟨lw_p23, List.forall_mem_cons.mpr ⟨lw_p24, List.forall_mem_cons.mpr ⟨lw_p25, List.forall_mem_cons.mpr ⟨lw_p26, List.forall_mem_cons.mpr ⟨lw_p27, List.forall_mem_cons.mpr ⟨lw_p28, List.forall_mem_cons.mpr ⟨lw_p29, List.forall_mem_cons.mpr ⟨lw_p30, List.forall_mem_cons.mpr ⟨lw_p31, fun _ h => absurd h List.not_mem_nil⟩⟩⟩⟩⟩⟩⟩⟩⟩⟩⟩⟩⟩⟩⟩⟩
theorem lw_p32 : lw_okq (⟨"LoopLane$Runner", "taken", "(III)J"⟩, 8) := ⟨⟨by decide +kernel, by decide +kernel⟩, List.mem_of_getElem? (i := 337) (by decide +kernel), List.mem_of_getElem? (i := 929) (by decide +kernel), List.mem_of_getElem? (i := 930) (by decide +kernel)⟩
theorem lw_p33 : lw_okq (⟨"LoopLane$Runner", "endOf", "(II)J"⟩, 8) := ⟨⟨by decide +kernel, by decide +kernel⟩, List.mem_of_getElem? (i := 337) (by decide +kernel), List.mem_of_getElem? (i := 938) (by decide +kernel), List.mem_of_getElem? (i := 939) (by decide +kernel)⟩
theorem lw_p34 : lw_okq (⟨"LoopLane$Runner", "exchange", "(IJ)J"⟩, 8) := ⟨⟨by decide +kernel, by decide +kernel⟩, List.mem_of_getElem? (i := 337) (by decide +kernel), List.mem_of_getElem? (i := 946) (by decide +kernel), List.mem_of_getElem? (i := 947) (by decide +kernel)⟩
theorem lw_p35 : lw_okq (⟨"LoopLane$Runner", "goPlain", "(ILLoopLane$Outcome;)V"⟩, 8) := ⟨⟨by decide +kernel, by decide +kernel⟩, List.mem_of_getElem? (i := 337) (by decide +kernel), List.mem_of_getElem? (i := 950) (by decide +kernel), List.mem_of_getElem? (i := 951) (by decide +kernel)⟩
theorem lw_p36 : lw_okq (⟨"LoopLane$Runner", "rowsAreAsOfPlain", "()Z"⟩, 8) := ⟨⟨by decide +kernel, by decide +kernel⟩, List.mem_of_getElem? (i := 337) (by decide +kernel), List.mem_of_getElem? (i := 967) (by decide +kernel), List.mem_of_getElem? (i := 968) (by decide +kernel)⟩
theorem lw_p37 : lw_okq (⟨"LoopLaneModel", "forget", "()V"⟩, 45) := ⟨⟨by decide +kernel, by decide +kernel⟩, List.mem_of_getElem? (i := 987) (by decide +kernel), List.mem_of_getElem? (i := 993) (by decide +kernel), List.mem_of_getElem? (i := 994) (by decide +kernel)⟩
theorem lw_p38 : lw_okq (⟨"LoopLaneModel", "unwrong", "()V"⟩, 45) := ⟨⟨by decide +kernel, by decide +kernel⟩, List.mem_of_getElem? (i := 987) (by decide +kernel), List.mem_of_getElem? (i := 997) (by decide +kernel), List.mem_of_getElem? (i := 998) (by decide +kernel)⟩
theorem lw_p39 : lw_okq (⟨"LoopLaneModel", "adds", "(IIIIII)I"⟩, 45) := ⟨⟨by decide +kernel, by decide +kernel⟩, List.mem_of_getElem? (i := 987) (by decide +kernel), List.mem_of_getElem? (i := 1141) (by decide +kernel), List.mem_of_getElem? (i := 1142) (by decide +kernel)⟩
theorem lw_p40 : lw_okq (⟨"LoopLaneModel", "no", "(I)I"⟩, 45) := ⟨⟨by decide +kernel, by decide +kernel⟩, List.mem_of_getElem? (i := 987) (by decide +kernel), List.mem_of_getElem? (i := 1145) (by decide +kernel), List.mem_of_getElem? (i := 1146) (by decide +kernel)⟩
theorem lw_p41 : lw_okq (⟨"LoopLaneModel", "operand", "(IIII)V"⟩, 45) := ⟨⟨by decide +kernel, by decide +kernel⟩, List.mem_of_getElem? (i := 987) (by decide +kernel), List.mem_of_getElem? (i := 1149) (by decide +kernel), List.mem_of_getElem? (i := 1150) (by decide +kernel)⟩
theorem lw_p42 : lw_okq (⟨"LoopLaneModel", "changes", "()V"⟩, 45) := ⟨⟨by decide +kernel, by decide +kernel⟩, List.mem_of_getElem? (i := 987) (by decide +kernel), List.mem_of_getElem? (i := 1153) (by decide +kernel), List.mem_of_getElem? (i := 1154) (by decide +kernel)⟩
theorem lw_p43 : lw_okq (⟨"LoopLaneModel", "isBeyond", "(II)Z"⟩, 45) := ⟨⟨by decide +kernel, by decide +kernel⟩, List.mem_of_getElem? (i := 987) (by decide +kernel), List.mem_of_getElem? (i := 1169) (by decide +kernel), List.mem_of_getElem? (i := 1170) (by decide +kernel)⟩
theorem lw_p44 : lw_okq (⟨"LoopLaneModel", "isAct", "(I)Z"⟩, 45) := ⟨⟨by decide +kernel, by decide +kernel⟩, List.mem_of_getElem? (i := 987) (by decide +kernel), List.mem_of_getElem? (i := 1191) (by decide +kernel), List.mem_of_getElem? (i := 1192) (by decide +kernel)⟩
theorem lw_p45 : lw_okq (⟨"LoopLaneModel", "gather", "()V"⟩, 45) := ⟨⟨by decide +kernel, by decide +kernel⟩, List.mem_of_getElem? (i := 987) (by decide +kernel), List.mem_of_getElem? (i := 1233) (by decide +kernel), List.mem_of_getElem? (i := 1234) (by decide +kernel)⟩
theorem lw_p46 : lw_okq (⟨"LoopLaneModel", "enter", "(IIII)V"⟩, 45) := ⟨⟨by decide +kernel, by decide +kernel⟩, List.mem_of_getElem? (i := 987) (by decide +kernel), List.mem_of_getElem? (i := 1237) (by decide +kernel), List.mem_of_getElem? (i := 1238) (by decide +kernel)⟩
theorem lw_p47 : lw_okq (⟨"LoopLaneModel", "gatherTwo", "(II)V"⟩, 45) := ⟨⟨by decide +kernel, by decide +kernel⟩, List.mem_of_getElem? (i := 987) (by decide +kernel), List.mem_of_getElem? (i := 1241) (by decide +kernel), List.mem_of_getElem? (i := 1242) (by decide +kernel)⟩
def lw_privs_3 : List (MethodName × Nat) := [(⟨"LoopLane$Runner", "taken", "(III)J"⟩, 8), (⟨"LoopLane$Runner", "endOf", "(II)J"⟩, 8), (⟨"LoopLane$Runner", "exchange", "(IJ)J"⟩, 8), (⟨"LoopLane$Runner", "goPlain", "(ILLoopLane$Outcome;)V"⟩, 8), (⟨"LoopLane$Runner", "rowsAreAsOfPlain", "()Z"⟩, 8), (⟨"LoopLaneModel", "forget", "()V"⟩, 45), (⟨"LoopLaneModel", "unwrong", "()V"⟩, 45), (⟨"LoopLaneModel", "adds", "(IIIIII)I"⟩, 45), (⟨"LoopLaneModel", "no", "(I)I"⟩, 45), (⟨"LoopLaneModel", "operand", "(IIII)V"⟩, 45), (⟨"LoopLaneModel", "changes", "()V"⟩, 45), (⟨"LoopLaneModel", "isBeyond", "(II)Z"⟩, 45), (⟨"LoopLaneModel", "isAct", "(I)Z"⟩, 45), (⟨"LoopLaneModel", "gather", "()V"⟩, 45), (⟨"LoopLaneModel", "enter", "(IIII)V"⟩, 45), (⟨"LoopLaneModel", "gatherTwo", "(II)V"⟩, 45)]
theorem lw_r3 : ∀ q ∈ lw_privs_3, lw_okq q := List.forall_mem_cons.mpr ⟨lw_p32, List.forall_mem_cons.mpr ⟨lw_p33, List.forall_mem_cons.mpr ⟨lw_p34, List.forall_mem_cons.mpr ⟨lw_p35, List.forall_mem_cons.mpr ⟨lw_p36, List.forall_mem_cons.mpr ⟨lw_p37, List.forall_mem_cons.mpr ⟨lw_p38, List.forall_mem_cons.mpr ⟨lw_p39, List.forall_mem_cons.mpr ⟨lw_p40, List.forall_mem_cons.mpr ⟨lw_p41, List.forall_mem_cons.mpr ⟨lw_p42, List.forall_mem_cons.mpr ⟨lw_p43, List.forall_mem_cons.mpr ⟨lw_p44, List.forall_mem_cons.mpr ⟨lw_p45, List.forall_mem_cons.mpr ⟨lw_p46, List.forall_mem_cons.mpr ⟨lw_p47, fun _ h => absurd h List.not_mem_nil⟩⟩⟩⟩⟩⟩⟩⟩⟩⟩⟩⟩⟩⟩⟩⟩
theorem lw_p48 : lw_okq (⟨"LoopLaneModel", "isOfRow", "(I)Z"⟩, 45) := ⟨⟨by decide +kernel, by decide +kernel⟩, List.mem_of_getElem? (i := 987) (by decide +kernel), List.mem_of_getElem? (i := 1245) (by decide +kernel), List.mem_of_getElem? (i := 1246) (by decide +kernel)⟩
theorem lw_p49 : lw_okq (⟨"LoopLaneModel", "isReady", "()Z"⟩, 45) := ⟨⟨by decide +kernel, by decide +kernel⟩, List.mem_of_getElem? (i := 987) (by decide +kernel), List.mem_of_getElem? (i := 1253) (by decide +kernel), List.mem_of_getElem? (i := 1254) (by decide +kernel)⟩
theorem lw_p50 : lw_okq (⟨"LoopLaneModel", "lowestBeat", "()I"⟩, 45) := ⟨⟨by decide +kernel, by decide +kernel⟩, List.mem_of_getElem? (i := 987) (by decide +kernel), List.mem_of_getElem? (i := 1258) (by decide +kernel), List.mem_of_getElem? (i := 1259) (by decide +kernel)⟩
theorem lw_p51 : lw_okq (⟨"LoopLaneModel", "byUnits", "()I"⟩, 45) := ⟨⟨by decide +kernel, by decide +kernel⟩, List.mem_of_getElem? (i := 987) (by decide +kernel), List.mem_of_getElem? (i := 1262) (by decide +kernel), List.mem_of_getElem? (i := 1263) (by decide +kernel)⟩
theorem lw_p52 : lw_okq (⟨"LoopLaneModel", "byRings", "()I"⟩, 45) := ⟨⟨by decide +kernel, by decide +kernel⟩, List.mem_of_getElem? (i := 987) (by decide +kernel), List.mem_of_getElem? (i := 1270) (by decide +kernel), List.mem_of_getElem? (i := 1271) (by decide +kernel)⟩
theorem lw_p53 : lw_okq (⟨"LoopLaneModel", "rests", "(I)Z"⟩, 45) := ⟨⟨by decide +kernel, by decide +kernel⟩, List.mem_of_getElem? (i := 987) (by decide +kernel), List.mem_of_getElem? (i := 1274) (by decide +kernel), List.mem_of_getElem? (i := 1275) (by decide +kernel)⟩
theorem lw_p54 : lw_okq (⟨"LoopLaneModel", "tries", "(I)I"⟩, 45) := ⟨⟨by decide +kernel, by decide +kernel⟩, List.mem_of_getElem? (i := 987) (by decide +kernel), List.mem_of_getElem? (i := 1282) (by decide +kernel), List.mem_of_getElem? (i := 1283) (by decide +kernel)⟩
theorem lw_p55 : lw_okq (⟨"LoopLaneModel", "fits", "(II)Z"⟩, 45) := ⟨⟨by decide +kernel, by decide +kernel⟩, List.mem_of_getElem? (i := 987) (by decide +kernel), List.mem_of_getElem? (i := 1286) (by decide +kernel), List.mem_of_getElem? (i := 1287) (by decide +kernel)⟩
theorem lw_p56 : lw_okq (⟨"LoopLaneModel", "holds", "(II)Z"⟩, 45) := ⟨⟨by decide +kernel, by decide +kernel⟩, List.mem_of_getElem? (i := 987) (by decide +kernel), List.mem_of_getElem? (i := 1290) (by decide +kernel), List.mem_of_getElem? (i := 1291) (by decide +kernel)⟩
theorem lw_p57 : lw_okq (⟨"LoopLaneModel", "latestBegin", "(I)I"⟩, 45) := ⟨⟨by decide +kernel, by decide +kernel⟩, List.mem_of_getElem? (i := 987) (by decide +kernel), List.mem_of_getElem? (i := 1315) (by decide +kernel), List.mem_of_getElem? (i := 1316) (by decide +kernel)⟩
theorem lw_p58 : lw_okq (⟨"LoopLaneModel", "placesOf", "(I)I"⟩, 45) := ⟨⟨by decide +kernel, by decide +kernel⟩, List.mem_of_getElem? (i := 987) (by decide +kernel), List.mem_of_getElem? (i := 1327) (by decide +kernel), List.mem_of_getElem? (i := 1328) (by decide +kernel)⟩
theorem lw_p59 : lw_okq (⟨"LoopLaneModel", "isAhead", "(I)Z"⟩, 45) := ⟨⟨by decide +kernel, by decide +kernel⟩, List.mem_of_getElem? (i := 987) (by decide +kernel), List.mem_of_getElem? (i := 1343) (by decide +kernel), List.mem_of_getElem? (i := 1344) (by decide +kernel)⟩
theorem lw_p60 : lw_okq (⟨"LoopLaneModel", "filledAs", "(II)I"⟩, 45) := ⟨⟨by decide +kernel, by decide +kernel⟩, List.mem_of_getElem? (i := 987) (by decide +kernel), List.mem_of_getElem? (i := 1347) (by decide +kernel), List.mem_of_getElem? (i := 1348) (by decide +kernel)⟩
theorem lw_p61 : lw_okq (⟨"LoopLaneModel", "why", "(IJ)I"⟩, 45) := ⟨⟨by decide +kernel, by decide +kernel⟩, List.mem_of_getElem? (i := 987) (by decide +kernel), List.mem_of_getElem? (i := 1371) (by decide +kernel), List.mem_of_getElem? (i := 1372) (by decide +kernel)⟩
theorem lw_p62 : lw_okq (⟨"LoopLaneModel", "whyNoRun", "(IZ)I"⟩, 45) := ⟨⟨by decide +kernel, by decide +kernel⟩, List.mem_of_getElem? (i := 987) (by decide +kernel), List.mem_of_getElem? (i := 1387) (by decide +kernel), List.mem_of_getElem? (i := 1388) (by decide +kernel)⟩
theorem lw_p63 : lw_okq (⟨"LoopLaneModel", "laid", "(I)V"⟩, 45) := ⟨⟨by decide +kernel, by decide +kernel⟩, List.mem_of_getElem? (i := 987) (by decide +kernel), List.mem_of_getElem? (i := 1392) (by decide +kernel), List.mem_of_getElem? (i := 1393) (by decide +kernel)⟩
def lw_privs_4 : List (MethodName × Nat) := [(⟨"LoopLaneModel", "isOfRow", "(I)Z"⟩, 45), (⟨"LoopLaneModel", "isReady", "()Z"⟩, 45), (⟨"LoopLaneModel", "lowestBeat", "()I"⟩, 45), (⟨"LoopLaneModel", "byUnits", "()I"⟩, 45), (⟨"LoopLaneModel", "byRings", "()I"⟩, 45), (⟨"LoopLaneModel", "rests", "(I)Z"⟩, 45), (⟨"LoopLaneModel", "tries", "(I)I"⟩, 45), (⟨"LoopLaneModel", "fits", "(II)Z"⟩, 45), (⟨"LoopLaneModel", "holds", "(II)Z"⟩, 45), (⟨"LoopLaneModel", "latestBegin", "(I)I"⟩, 45), (⟨"LoopLaneModel", "placesOf", "(I)I"⟩, 45), (⟨"LoopLaneModel", "isAhead", "(I)Z"⟩, 45), (⟨"LoopLaneModel", "filledAs", "(II)I"⟩, 45), (⟨"LoopLaneModel", "why", "(IJ)I"⟩, 45), (⟨"LoopLaneModel", "whyNoRun", "(IZ)I"⟩, 45), (⟨"LoopLaneModel", "laid", "(I)V"⟩, 45)]
theorem lw_r4 : ∀ q ∈ lw_privs_4, lw_okq q := List.forall_mem_cons.mpr ⟨lw_p48, List.forall_mem_cons.mpr ⟨lw_p49, List.forall_mem_cons.mpr ⟨lw_p50, List.forall_mem_cons.mpr ⟨lw_p51, List.forall_mem_cons.mpr ⟨lw_p52, List.forall_mem_cons.mpr ⟨lw_p53, List.forall_mem_cons.mpr ⟨lw_p54, List.forall_mem_cons.mpr ⟨lw_p55, List.forall_mem_cons.mpr ⟨lw_p56, List.forall_mem_cons.mpr ⟨lw_p57, List.forall_mem_cons.mpr ⟨lw_p58, List.forall_mem_cons.mpr ⟨lw_p59, List.forall_mem_cons.mpr ⟨lw_p60, List.forall_mem_cons.mpr ⟨lw_p61, List.forall_mem_cons.mpr ⟨lw_p62, List.forall_mem_cons.mpr ⟨lw_p63, fun _ h => absurd h List.not_mem_nil⟩⟩⟩⟩⟩⟩⟩⟩⟩⟩⟩⟩⟩⟩⟩⟩
theorem lw_p64 : lw_okq (⟨"LoopLaneModel", "does", "(II)I"⟩, 45) := ⟨⟨by decide +kernel, by decide +kernel⟩, List.mem_of_getElem? (i := 987) (by decide +kernel), List.mem_of_getElem? (i := 1396) (by decide +kernel), List.mem_of_getElem? (i := 1397) (by decide +kernel)⟩
theorem lw_p65 : lw_okq (⟨"LoopLaneModel", "value", "(III)J"⟩, 45) := ⟨⟨by decide +kernel, by decide +kernel⟩, List.mem_of_getElem? (i := 987) (by decide +kernel), List.mem_of_getElem? (i := 1400) (by decide +kernel), List.mem_of_getElem? (i := 1401) (by decide +kernel)⟩
theorem lw_p66 : lw_okq (⟨"LoopLaneModel", "plain", "(I)V"⟩, 45) := ⟨⟨by decide +kernel, by decide +kernel⟩, List.mem_of_getElem? (i := 987) (by decide +kernel), List.mem_of_getElem? (i := 1404) (by decide +kernel), List.mem_of_getElem? (i := 1405) (by decide +kernel)⟩
def lw_privs_5 : List (MethodName × Nat) := [(⟨"LoopLaneModel", "does", "(II)I"⟩, 45), (⟨"LoopLaneModel", "value", "(III)J"⟩, 45), (⟨"LoopLaneModel", "plain", "(I)V"⟩, 45)]
theorem lw_r5 : ∀ q ∈ lw_privs_5, lw_okq q := List.forall_mem_cons.mpr ⟨lw_p64, List.forall_mem_cons.mpr ⟨lw_p65, List.forall_mem_cons.mpr ⟨lw_p66, fun _ h => absurd h List.not_mem_nil⟩⟩⟩
def lw_privs : List (MethodName × Nat) := lw_privs_1 ++ (lw_privs_2 ++ (lw_privs_3 ++ (lw_privs_4 ++ (lw_privs_5))))
def lw_tbl : List Cond := k2_sels lw_privs ++ tables_1
theorem lw_privs_ok : ∀ q ∈ lw_privs, lw_okq q := by
  show ∀ q ∈ lw_privs_1 ++ (lw_privs_2 ++ (lw_privs_3 ++ (lw_privs_4 ++ (lw_privs_5)))), lw_okq q
  exact List.forall_mem_append.mpr ⟨lw_r1, List.forall_mem_append.mpr ⟨lw_r2, List.forall_mem_append.mpr ⟨lw_r3, List.forall_mem_append.mpr ⟨lw_r4, lw_r5⟩⟩⟩⟩
def RX0 : String := "LoopLane$Body"
def TX0 : u_T := fun k => match k with
  | 0 => ("LoopLane$Body", "acts", "I", false)
  | 1 => ("LoopLane$Body", "sort", "[I", true)
  | 2 => ("LoopLane$Body", "lag", "[I", true)
  | 3 => ("LoopLane$Body", "kind", "[I", true)
  | 4 => ("LoopLane$Body", "pattern", "[I", true)
  | 5 => ("LoopLane$Body", "slot", "[I", true)
  | 6 => ("LoopLane$Body", "operand", "[I", true)
  | 7 => ("LoopLane$Body", "back", "[I", true)
  | 8 => ("LoopLane$Body", "number", "[J", true)
  | 9 => ("LoopLane$Body", "first", "[J", true)
  | 10 => ("LoopLane$Body", "units", "[I", true)
  | _ => ("LoopLane$Body", "told", "LLoopLane$EdgeList;", true)
def tyX0 : Nat → FieldType := fun k => match k with
  | 0 => .int
  | 1 => .array .int
  | 2 => .array .int
  | 3 => .array .int
  | 4 => .array .int
  | 5 => .array .int
  | 6 => .array .int
  | 7 => .array .int
  | 8 => .array .long
  | 9 => .array .long
  | 10 => .array .int
  | _ => .object "LoopLane$EdgeList"
abbrev wsX00 : List Cond := u_ws RX0 TX0 12
theorem nmX0 : ∀ a, a < 12 → ∀ b, b < 12 → a ≠ b → (TX0 a).2.1 ≠ (TX0 b).2.1 := by decide +kernel
theorem tyX0_ok : ∀ k, k < 12 → parseFieldDescriptor (TX0 k).2.2.1 = some (tyX0 k) := by decide +kernel
abbrev cX0_init : ByteArray := prog_2_method_1_code
def yX0_init : MethodName := ⟨RX0, "<init>", "()V"⟩
abbrev cX0_has : ByteArray := prog_2_method_2_code
def yX0_has : MethodName := ⟨RX0, "has", "(I)Z"⟩
abbrev cX0_mayTake : ByteArray := prog_2_method_3_code
def yX0_mayTake : MethodName := ⟨RX0, "mayTake", "(II)Z"⟩
abbrev cX0_open : ByteArray := prog_2_method_4_code
def yX0_open : MethodName := ⟨RX0, "open", "(I)I"⟩
abbrev cX0_take : ByteArray := prog_2_method_5_code
def yX0_take : MethodName := ⟨RX0, "take", "(IIII)V"⟩
abbrev cX0_isTakenByAnother : ByteArray := prog_2_method_6_code
def yX0_isTakenByAnother : MethodName := ⟨RX0, "isTakenByAnother", "(I)Z"⟩
abbrev cX0_isWhole : ByteArray := prog_2_method_7_code
def yX0_isWhole : MethodName := ⟨RX0, "isWhole", "()Z"⟩
abbrev cX0_isReady : ByteArray := prog_2_method_8_code
def yX0_isReady : MethodName := ⟨RX0, "isReady", "()Z"⟩
abbrev cX0_stores : ByteArray := prog_2_method_9_code
def yX0_stores : MethodName := ⟨RX0, "stores", "()I"⟩
abbrev cX0_unitsInAll : ByteArray := prog_2_method_10_code
def yX0_unitsInAll : MethodName := ⟨RX0, "unitsInAll", "()I"⟩
abbrev cX0_beatByUnits : ByteArray := prog_2_method_11_code
def yX0_beatByUnits : MethodName := ⟨RX0, "beatByUnits", "()I"⟩
abbrev cX0_bitsOf : ByteArray := prog_2_method_12_code
def yX0_bitsOf : MethodName := ⟨RX0, "bitsOf", "(I)I"⟩
abbrev cX0_touchesRows : ByteArray := prog_2_method_13_code
def yX0_touchesRows : MethodName := ⟨RX0, "touchesRows", "(I)Z"⟩
abbrev cX0_mayBeRefused : ByteArray := prog_2_method_14_code
def yX0_mayBeRefused : MethodName := ⟨RX0, "mayBeRefused", "(I)Z"⟩
abbrev cX0_clash : ByteArray := prog_2_method_15_code
def yX0_clash : MethodName := ⟨RX0, "clash", "(II)Z"⟩
def RX1 : String := "LoopLane$EdgeList"
def TX1 : u_T := fun k => match k with
  | 0 => ("LoopLane$EdgeList", "size", "I", false)
  | 1 => ("LoopLane$EdgeList", "from", "[I", true)
  | 2 => ("LoopLane$EdgeList", "to", "[I", true)
  | 3 => ("LoopLane$EdgeList", "ticks", "[I", true)
  | _ => ("LoopLane$EdgeList", "turns", "[I", true)
def tyX1 : Nat → FieldType := fun k => match k with
  | 0 => .int
  | 1 => .array .int
  | 2 => .array .int
  | 3 => .array .int
  | _ => .array .int
abbrev wsX10 : List Cond := u_ws RX1 TX1 5
theorem nmX1 : ∀ a, a < 5 → ∀ b, b < 5 → a ≠ b → (TX1 a).2.1 ≠ (TX1 b).2.1 := by decide +kernel
theorem tyX1_ok : ∀ k, k < 5 → parseFieldDescriptor (TX1 k).2.2.1 = some (tyX1 k) := by decide +kernel
abbrev cX1_init : ByteArray := prog_3_method_1_code
def yX1_init : MethodName := ⟨RX1, "<init>", "(I)V"⟩
abbrev cX1_join : ByteArray := prog_3_method_2_code
def yX1_join : MethodName := ⟨RX1, "join", "(IIII)Z"⟩
abbrev cX1_write : ByteArray := prog_3_method_3_code
def yX1_write : MethodName := ⟨RX1, "write", "(IIIII)V"⟩
abbrev cX1_joinAll : ByteArray := prog_3_method_4_code
def yX1_joinAll : MethodName := ⟨RX1, "joinAll", "(LLoopLane$EdgeList;)V"⟩
abbrev cX1_dropAct : ByteArray := prog_3_method_5_code
def yX1_dropAct : MethodName := ⟨RX1, "dropAct", "(I)V"⟩
abbrev cX1_isAhead : ByteArray := prog_3_method_6_code
def yX1_isAhead : MethodName := ⟨RX1, "isAhead", "(II)Z"⟩
def RX2 : String := "LoopLane$Filling"
def TX2 : u_T := fun k => match k with
  | _ => ("LoopLane$Filling", "cells", "[I", true)
def tyX2 : Nat → FieldType := fun k => match k with
  | _ => .array .int
abbrev wsX20 : List Cond := u_ws RX2 TX2 1
theorem nmX2 : ∀ a, a < 1 → ∀ b, b < 1 → a ≠ b → (TX2 a).2.1 ≠ (TX2 b).2.1 := by decide +kernel
theorem tyX2_ok : ∀ k, k < 1 → parseFieldDescriptor (TX2 k).2.2.1 = some (tyX2 k) := by decide +kernel
abbrev cX2_init : ByteArray := prog_4_method_1_code
def yX2_init : MethodName := ⟨RX2, "<init>", "()V"⟩
abbrev cX2_clear : ByteArray := prog_4_method_2_code
def yX2_clear : MethodName := ⟨RX2, "clear", "()V"⟩
abbrev cX2_at : ByteArray := prog_4_method_3_code
def yX2_at : MethodName := ⟨RX2, "at", "(II)I"⟩
abbrev cX2_change : ByteArray := prog_4_method_4_code
def yX2_change : MethodName := ⟨RX2, "change", "(LLoopLane$Body;IIII)I"⟩
abbrev cX2_firstCrowded : ByteArray := prog_4_method_5_code
def yX2_firstCrowded : MethodName := ⟨RX2, "firstCrowded", "(III)I"⟩
def RX3 : String := "LoopLane$Judge"
def TX3 : u_T := fun k => match k with
  | 0 => ("LoopLane$Judge", "findings", "[I", true)
  | _ => ("LoopLane$Judge", "filling", "LLoopLane$Filling;", true)
def tyX3 : Nat → FieldType := fun k => match k with
  | 0 => .array .int
  | _ => .object "LoopLane$Filling"
abbrev wsX30 : List Cond := u_ws RX3 TX3 2
theorem nmX3 : ∀ a, a < 2 → ∀ b, b < 2 → a ≠ b → (TX3 a).2.1 ≠ (TX3 b).2.1 := by decide +kernel
theorem tyX3_ok : ∀ k, k < 2 → parseFieldDescriptor (TX3 k).2.2.1 = some (tyX3 k) := by decide +kernel
abbrev cX3_init : ByteArray := prog_5_method_1_code
def yX3_init : MethodName := ⟨RX3, "<init>", "()V"⟩
abbrev cX3_look : ByteArray := prog_5_method_2_code
def yX3_look : MethodName := ⟨RX3, "look", "(LLoopLane$Body;LLoopLane$EdgeList;LLoopLane$Laying;)I"⟩
abbrev cX3_firstBroken : ByteArray := prog_5_method_3_code
def yX3_firstBroken : MethodName := ⟨RX3, "firstBroken", "(LLoopLane$EdgeList;LLoopLane$Laying;)I"⟩
abbrev cX3_findCrowd : ByteArray := prog_5_method_4_code
def yX3_findCrowd : MethodName := ⟨RX3, "findCrowd", "(LLoopLane$Body;LLoopLane$Laying;)Z"⟩
def RX4 : String := "LoopLane$Laying"
def TX4 : u_T := fun k => match k with
  | 0 => ("LoopLane$Laying", "stands", "Z", false)
  | 1 => ("LoopLane$Laying", "beat", "I", false)
  | 2 => ("LoopLane$Laying", "stages", "I", false)
  | 3 => ("LoopLane$Laying", "tick", "[I", true)
  | 4 => ("LoopLane$Laying", "stage", "[I", true)
  | 5 => ("LoopLane$Laying", "begin", "[I", true)
  | 6 => ("LoopLane$Laying", "forged", "[I", true)
  | 7 => ("LoopLane$Laying", "early", "[I", true)
  | 8 => ("LoopLane$Laying", "late", "[I", true)
  | 9 => ("LoopLane$Laying", "places", "[I", true)
  | 10 => ("LoopLane$Laying", "order", "[I", true)
  | _ => ("LoopLane$Laying", "filling", "LLoopLane$Filling;", true)
def tyX4 : Nat → FieldType := fun k => match k with
  | 0 => .boolean
  | 1 => .int
  | 2 => .int
  | 3 => .array .int
  | 4 => .array .int
  | 5 => .array .int
  | 6 => .array .int
  | 7 => .array .int
  | 8 => .array .int
  | 9 => .array .int
  | 10 => .array .int
  | _ => .object "LoopLane$Filling"
abbrev wsX40 : List Cond := u_ws RX4 TX4 12
theorem nmX4 : ∀ a, a < 12 → ∀ b, b < 12 → a ≠ b → (TX4 a).2.1 ≠ (TX4 b).2.1 := by decide +kernel
theorem tyX4_ok : ∀ k, k < 12 → parseFieldDescriptor (TX4 k).2.2.1 = some (tyX4 k) := by decide +kernel
abbrev cX4_init : ByteArray := prog_6_method_1_code
def yX4_init : MethodName := ⟨RX4, "<init>", "()V"⟩
abbrev cX4_settle : ByteArray := prog_6_method_2_code
def yX4_settle : MethodName := ⟨RX4, "settle", "(LLoopLane$Body;LLoopLane$Seeker;LLoopLane$Waits;)V"⟩
abbrev cX4_settleBounds : ByteArray := prog_6_method_3_code
def yX4_settleBounds : MethodName := ⟨RX4, "settleBounds", "(ILLoopLane$Waits;)V"⟩
abbrev cX4_settlePlaces : ByteArray := prog_6_method_4_code
def yX4_settlePlaces : MethodName := ⟨RX4, "settlePlaces", "(LLoopLane$Body;)V"⟩
abbrev cX4_settleOrder : ByteArray := prog_6_method_5_code
def yX4_settleOrder : MethodName := ⟨RX4, "settleOrder", "(I)V"⟩
abbrev cX4_lastEnd : ByteArray := prog_6_method_6_code
def yX4_lastEnd : MethodName := ⟨RX4, "lastEnd", "(LLoopLane$Body;)I"⟩
abbrev cX4_placesInAll : ByteArray := prog_6_method_7_code
def yX4_placesInAll : MethodName := ⟨RX4, "placesInAll", "(I)I"⟩
abbrev cX4_mostPlaces : ByteArray := prog_6_method_8_code
def yX4_mostPlaces : MethodName := ⟨RX4, "mostPlaces", "(I)I"⟩
def RX5 : String := "LoopLane$Outcome"
def TX5 : u_T := fun k => match k with
  | 0 => ("LoopLane$Outcome", "refusal", "I", false)
  | 1 => ("LoopLane$Outcome", "act", "I", false)
  | 2 => ("LoopLane$Outcome", "turn", "I", false)
  | 3 => ("LoopLane$Outcome", "begun", "I", false)
  | 4 => ("LoopLane$Outcome", "ticks", "I", false)
  | 5 => ("LoopLane$Outcome", "byTicks", "Z", false)
  | 6 => ("LoopLane$Outcome", "whole", "I", false)
  | _ => ("LoopLane$Outcome", "ends", "[J", true)
def tyX5 : Nat → FieldType := fun k => match k with
  | 0 => .int
  | 1 => .int
  | 2 => .int
  | 3 => .int
  | 4 => .int
  | 5 => .boolean
  | 6 => .int
  | _ => .array .long
abbrev wsX50 : List Cond := u_ws RX5 TX5 8
theorem nmX5 : ∀ a, a < 8 → ∀ b, b < 8 → a ≠ b → (TX5 a).2.1 ≠ (TX5 b).2.1 := by decide +kernel
theorem tyX5_ok : ∀ k, k < 8 → parseFieldDescriptor (TX5 k).2.2.1 = some (tyX5 k) := by decide +kernel
abbrev cX5_init : ByteArray := prog_7_method_1_code
def yX5_init : MethodName := ⟨RX5, "<init>", "()V"⟩
abbrev cX5_clear : ByteArray := prog_7_method_2_code
def yX5_clear : MethodName := ⟨RX5, "clear", "()V"⟩
abbrev cX5_refused : ByteArray := prog_7_method_3_code
def yX5_refused : MethodName := ⟨RX5, "refused", "(III)V"⟩
abbrev cX5_endsAheadOf : ByteArray := prog_7_method_4_code
def yX5_endsAheadOf : MethodName := ⟨RX5, "endsAheadOf", "(II)Z"⟩
abbrev cX5_isLike : ByteArray := prog_7_method_5_code
def yX5_isLike : MethodName := ⟨RX5, "isLike", "(LLoopLane$Outcome;I)Z"⟩
def RX6 : String := "LoopLane$Rows"
def TX6 : u_T := fun k => match k with
  | 0 => ("LoopLane$Rows", "size", "[I", true)
  | 1 => ("LoopLane$Rows", "wide", "[Z", true)
  | _ => ("LoopLane$Rows", "longs", "[J", true)
def tyX6 : Nat → FieldType := fun k => match k with
  | 0 => .array .int
  | 1 => .array .boolean
  | _ => .array .long
abbrev wsX60 : List Cond := u_ws RX6 TX6 3
theorem nmX6 : ∀ a, a < 3 → ∀ b, b < 3 → a ≠ b → (TX6 a).2.1 ≠ (TX6 b).2.1 := by decide +kernel
theorem tyX6_ok : ∀ k, k < 3 → parseFieldDescriptor (TX6 k).2.2.1 = some (tyX6 k) := by decide +kernel
abbrev cX6_init : ByteArray := prog_8_method_1_code
def yX6_init : MethodName := ⟨RX6, "<init>", "()V"⟩
abbrev cX6_make : ByteArray := prog_8_method_2_code
def yX6_make : MethodName := ⟨RX6, "make", "(IIZ)V"⟩
abbrev cX6_drop : ByteArray := prog_8_method_3_code
def yX6_drop : MethodName := ⟨RX6, "drop", "(I)Z"⟩
abbrev cX6_placeOf : ByteArray := prog_8_method_4_code
def yX6_placeOf : MethodName := ⟨RX6, "placeOf", "(II)I"⟩
abbrev cX6_refusalAt : ByteArray := prog_8_method_5_code
def yX6_refusalAt : MethodName := ⟨RX6, "refusalAt", "(IJ)I"⟩
abbrev cX6_hasRun : ByteArray := prog_8_method_6_code
def yX6_hasRun : MethodName := ⟨RX6, "hasRun", "(III)Z"⟩
def RX7 : String := "LoopLane$Runner"
def TX7 : u_T := fun k => match k with
  | 0 => ("LoopLane$Runner", "body", "LLoopLane$Body;", true)
  | 1 => ("LoopLane$Runner", "rows", "LLoopLane$Rows;", true)
  | 2 => ("LoopLane$Runner", "laying", "LLoopLane$Laying;", true)
  | 3 => ("LoopLane$Runner", "ends", "[J", true)
  | 4 => ("LoopLane$Runner", "plain", "LLoopLane$Outcome;", true)
  | 5 => ("LoopLane$Runner", "laid", "LLoopLane$Outcome;", true)
  | 6 => ("LoopLane$Runner", "rowsBefore", "[J", true)
  | _ => ("LoopLane$Runner", "rowsOfPlain", "[J", true)
def tyX7 : Nat → FieldType := fun k => match k with
  | 0 => .object "LoopLane$Body"
  | 1 => .object "LoopLane$Rows"
  | 2 => .object "LoopLane$Laying"
  | 3 => .array .long
  | 4 => .object "LoopLane$Outcome"
  | 5 => .object "LoopLane$Outcome"
  | 6 => .array .long
  | _ => .array .long
abbrev wsX70 : List Cond := u_ws RX7 TX7 8
theorem nmX7 : ∀ a, a < 8 → ∀ b, b < 8 → a ≠ b → (TX7 a).2.1 ≠ (TX7 b).2.1 := by decide +kernel
theorem tyX7_ok : ∀ k, k < 8 → parseFieldDescriptor (TX7 k).2.2.1 = some (tyX7 k) := by decide +kernel
abbrev cX7_init : ByteArray := prog_9_method_1_code
def yX7_init : MethodName := ⟨RX7, "<init>", "(LLoopLane$Body;LLoopLane$Rows;LLoopLane$Laying;)V"⟩
abbrev cX7_go : ByteArray := prog_9_method_2_code
def yX7_go : MethodName := ⟨RX7, "go", "(IZLLoopLane$Outcome;)V"⟩
abbrev cX7_bothAgree : ByteArray := prog_9_method_3_code
def yX7_bothAgree : MethodName := ⟨RX7, "bothAgree", "(I)Z"⟩
abbrev cX7_rowsAreAsOfPlain : ByteArray := prog_9_method_4_code
def yX7_rowsAreAsOfPlain : MethodName := ⟨RX7, "rowsAreAsOfPlain", "()Z"⟩
abbrev cX7_goPlain : ByteArray := prog_9_method_5_code
def yX7_goPlain : MethodName := ⟨RX7, "goPlain", "(ILLoopLane$Outcome;)V"⟩
abbrev cX7_goByTicks : ByteArray := prog_9_method_6_code
def yX7_goByTicks : MethodName := ⟨RX7, "goByTicks", "(ILLoopLane$Outcome;)V"⟩
abbrev cX7_begin : ByteArray := prog_9_method_7_code
def yX7_begin : MethodName := ⟨RX7, "begin", "(IILLoopLane$Outcome;)V"⟩
abbrev cX7_refusalOf : ByteArray := prog_9_method_8_code
def yX7_refusalOf : MethodName := ⟨RX7, "refusalOf", "(II)I"⟩
abbrev cX7_endOf : ByteArray := prog_9_method_9_code
def yX7_endOf : MethodName := ⟨RX7, "endOf", "(II)J"⟩
abbrev cX7_quotient : ByteArray := prog_9_method_10_code
def yX7_quotient : MethodName := ⟨RX7, "quotient", "(JJ)J"⟩
abbrev cX7_exchange : ByteArray := prog_9_method_11_code
def yX7_exchange : MethodName := ⟨RX7, "exchange", "(IJ)J"⟩
abbrev cX7_taken : ByteArray := prog_9_method_12_code
def yX7_taken : MethodName := ⟨RX7, "taken", "(III)J"⟩
abbrev cX7_placeOf : ByteArray := prog_9_method_13_code
def yX7_placeOf : MethodName := ⟨RX7, "placeOf", "(II)I"⟩
def RX8 : String := "LoopLane$Seeker"
def TX8 : u_T := fun k => match k with
  | 0 => ("LoopLane$Seeker", "body", "LLoopLane$Body;", true)
  | 1 => ("LoopLane$Seeker", "waits", "LLoopLane$Waits;", true)
  | 2 => ("LoopLane$Seeker", "filling", "LLoopLane$Filling;", true)
  | 3 => ("LoopLane$Seeker", "chains", "[I", true)
  | 4 => ("LoopLane$Seeker", "into", "[I", true)
  | 5 => ("LoopLane$Seeker", "outOf", "[I", true)
  | 6 => ("LoopLane$Seeker", "chainInto", "[I", true)
  | 7 => ("LoopLane$Seeker", "chainOutOf", "[I", true)
  | 8 => ("LoopLane$Seeker", "beat", "I", false)
  | 9 => ("LoopLane$Seeker", "tick", "[I", true)
  | _ => ("LoopLane$Seeker", "trials", "I", false)
def tyX8 : Nat → FieldType := fun k => match k with
  | 0 => .object "LoopLane$Body"
  | 1 => .object "LoopLane$Waits"
  | 2 => .object "LoopLane$Filling"
  | 3 => .array .int
  | 4 => .array .int
  | 5 => .array .int
  | 6 => .array .int
  | 7 => .array .int
  | 8 => .int
  | 9 => .array .int
  | _ => .int
abbrev wsX80 : List Cond := u_ws RX8 TX8 11
theorem nmX8 : ∀ a, a < 11 → ∀ b, b < 11 → a ≠ b → (TX8 a).2.1 ≠ (TX8 b).2.1 := by decide +kernel
theorem tyX8_ok : ∀ k, k < 11 → parseFieldDescriptor (TX8 k).2.2.1 = some (tyX8 k) := by decide +kernel
abbrev cX8_init : ByteArray := prog_10_method_1_code
def yX8_init : MethodName := ⟨RX8, "<init>", "(LLoopLane$Body;LLoopLane$Waits;)V"⟩
abbrev cX8_beat : ByteArray := prog_10_method_2_code
def yX8_beat : MethodName := ⟨RX8, "beat", "()I"⟩
abbrev cX8_seek : ByteArray := prog_10_method_3_code
def yX8_seek : MethodName := ⟨RX8, "seek", "(I)I"⟩
abbrev cX8_enter : ByteArray := prog_10_method_4_code
def yX8_enter : MethodName := ⟨RX8, "enter", "(I)I"⟩
abbrev cX8_leave : ByteArray := prog_10_method_5_code
def yX8_leave : MethodName := ⟨RX8, "leave", "(I)V"⟩
abbrev cX8_attempt : ByteArray := prog_10_method_6_code
def yX8_attempt : MethodName := ⟨RX8, "attempt", "(I)Z"⟩
abbrev cX8_edgesCanHold : ByteArray := prog_10_method_7_code
def yX8_edgesCanHold : MethodName := ⟨RX8, "edgesCanHold", "(I)Z"⟩
abbrev cX8_closesRing : ByteArray := prog_10_method_8_code
def yX8_closesRing : MethodName := ⟨RX8, "closesRing", "(II)Z"⟩
abbrev cX8_stagesBetween : ByteArray := prog_10_method_9_code
def yX8_stagesBetween : MethodName := ⟨RX8, "stagesBetween", "(II)I"⟩
abbrev cX8_chain : ByteArray := prog_10_method_10_code
def yX8_chain : MethodName := ⟨RX8, "chain", "(I)V"⟩
abbrev cX8_lengthen : ByteArray := prog_10_method_11_code
def yX8_lengthen : MethodName := ⟨RX8, "lengthen", "(II)V"⟩
abbrev cX8_longestInto : ByteArray := prog_10_method_12_code
def yX8_longestInto : MethodName := ⟨RX8, "longestInto", "(II)I"⟩
abbrev cX8_longestOutOf : ByteArray := prog_10_method_13_code
def yX8_longestOutOf : MethodName := ⟨RX8, "longestOutOf", "(II)I"⟩
abbrev cX8_plus : ByteArray := prog_10_method_14_code
def yX8_plus : MethodName := ⟨RX8, "plus", "(II)I"⟩
abbrev cX8_place : ByteArray := prog_10_method_15_code
def yX8_place : MethodName := ⟨RX8, "place", "(III)I"⟩
abbrev cX8_stageOf : ByteArray := prog_10_method_16_code
def yX8_stageOf : MethodName := ⟨RX8, "stageOf", "(I)I"⟩
def RX9 : String := "LoopLane$Waits"
def TX9 : u_T := fun k => match k with
  | 0 => ("LoopLane$Waits", "direct", "[I", true)
  | _ => ("LoopLane$Waits", "chained", "[I", true)
def tyX9 : Nat → FieldType := fun k => match k with
  | 0 => .array .int
  | _ => .array .int
abbrev wsX90 : List Cond := u_ws RX9 TX9 2
theorem nmX9 : ∀ a, a < 2 → ∀ b, b < 2 → a ≠ b → (TX9 a).2.1 ≠ (TX9 b).2.1 := by decide +kernel
theorem tyX9_ok : ∀ k, k < 2 → parseFieldDescriptor (TX9 k).2.2.1 = some (tyX9 k) := by decide +kernel
abbrev cX9_init : ByteArray := prog_11_method_1_code
def yX9_init : MethodName := ⟨RX9, "<init>", "()V"⟩
abbrev cX9_load : ByteArray := prog_11_method_2_code
def yX9_load : MethodName := ⟨RX9, "load", "(LLoopLane$EdgeList;I)V"⟩
abbrev cX9_join : ByteArray := prog_11_method_3_code
def yX9_join : MethodName := ⟨RX9, "join", "(I)Z"⟩
abbrev cX9_joinBy : ByteArray := prog_11_method_4_code
def yX9_joinBy : MethodName := ⟨RX9, "joinBy", "(II)Z"⟩
abbrev cX9_joinRow : ByteArray := prog_11_method_5_code
def yX9_joinRow : MethodName := ⟨RX9, "joinRow", "(IIII)V"⟩
abbrev cX9_earliest : ByteArray := prog_11_method_6_code
def yX9_earliest : MethodName := ⟨RX9, "earliest", "(II)I"⟩
abbrev cX9_farthest : ByteArray := prog_11_method_7_code
def yX9_farthest : MethodName := ⟨RX9, "farthest", "(II)I"⟩
def RX10 : String := "LoopLane$Weave"
def TX10 : u_T := fun k => match k with
  | 0 => ("LoopLane$Weave", "all", "LLoopLane$EdgeList;", true)
  | 1 => ("LoopLane$Weave", "own", "I", false)
  | _ => ("LoopLane$Weave", "stale", "Z", false)
def tyX10 : Nat → FieldType := fun k => match k with
  | 0 => .object "LoopLane$EdgeList"
  | 1 => .int
  | _ => .boolean
abbrev wsX100 : List Cond := u_ws RX10 TX10 3
theorem nmX10 : ∀ a, a < 3 → ∀ b, b < 3 → a ≠ b → (TX10 a).2.1 ≠ (TX10 b).2.1 := by decide +kernel
theorem tyX10_ok : ∀ k, k < 3 → parseFieldDescriptor (TX10 k).2.2.1 = some (tyX10 k) := by decide +kernel
abbrev cX10_init : ByteArray := prog_12_method_1_code
def yX10_init : MethodName := ⟨RX10, "<init>", "()V"⟩
abbrev cX10_renew : ByteArray := prog_12_method_2_code
def yX10_renew : MethodName := ⟨RX10, "renew", "(LLoopLane$Body;)V"⟩
abbrev cX10_joinOperands : ByteArray := prog_12_method_3_code
def yX10_joinOperands : MethodName := ⟨RX10, "joinOperands", "(LLoopLane$Body;I)V"⟩
abbrev cX10_joinClashes : ByteArray := prog_12_method_4_code
def yX10_joinClashes : MethodName := ⟨RX10, "joinClashes", "(LLoopLane$Body;I)V"⟩
abbrev cX10_joinStore : ByteArray := prog_12_method_5_code
def yX10_joinStore : MethodName := ⟨RX10, "joinStore", "(LLoopLane$Body;I)V"⟩
def RX11 : String := "LoopLane"
def TX11 : u_T := fun k => match k with
  | 0 => ("LoopLane", "body", "LLoopLane$Body;", true)
  | 1 => ("LoopLane", "weave", "LLoopLane$Weave;", true)
  | 2 => ("LoopLane", "rows", "LLoopLane$Rows;", true)
  | 3 => ("LoopLane", "waits", "LLoopLane$Waits;", true)
  | 4 => ("LoopLane", "seeker", "LLoopLane$Seeker;", true)
  | 5 => ("LoopLane", "laying", "LLoopLane$Laying;", true)
  | 6 => ("LoopLane", "judge", "LLoopLane$Judge;", true)
  | 7 => ("LoopLane", "runner", "LLoopLane$Runner;", true)
  | 8 => ("LoopLane", "told", "LLoopLane$Outcome;", true)
  | 9 => ("LoopLane", "kept", "I", false)
  | _ => ("LoopLane", "refused", "[I", true)
def tyX11 : Nat → FieldType := fun k => match k with
  | 0 => .object "LoopLane$Body"
  | 1 => .object "LoopLane$Weave"
  | 2 => .object "LoopLane$Rows"
  | 3 => .object "LoopLane$Waits"
  | 4 => .object "LoopLane$Seeker"
  | 5 => .object "LoopLane$Laying"
  | 6 => .object "LoopLane$Judge"
  | 7 => .object "LoopLane$Runner"
  | 8 => .object "LoopLane$Outcome"
  | 9 => .int
  | _ => .array .int
abbrev wsX110 : List Cond := u_ws RX11 TX11 11
theorem nmX11 : ∀ a, a < 11 → ∀ b, b < 11 → a ≠ b → (TX11 a).2.1 ≠ (TX11 b).2.1 := by decide +kernel
theorem tyX11_ok : ∀ k, k < 11 → parseFieldDescriptor (TX11 k).2.2.1 = some (tyX11 k) := by decide +kernel
abbrev cX11_init : ByteArray := prog_1_method_1_code
def yX11_init : MethodName := ⟨RX11, "<init>", "()V"⟩
abbrev cX11_put : ByteArray := prog_1_method_2_code
def yX11_put : MethodName := ⟨RX11, "put", "(J)I"⟩
abbrev cX11_reckon : ByteArray := prog_1_method_3_code
def yX11_reckon : MethodName := ⟨RX11, "reckon", "(IIIII)I"⟩
abbrev cX11_fetch : ByteArray := prog_1_method_4_code
def yX11_fetch : MethodName := ⟨RX11, "fetch", "(III)I"⟩
abbrev cX11_store : ByteArray := prog_1_method_5_code
def yX11_store : MethodName := ⟨RX11, "store", "(IIIII)I"⟩
abbrev cX11_pick : ByteArray := prog_1_method_6_code
def yX11_pick : MethodName := ⟨RX11, "pick", "(IIII)I"⟩
abbrev cX11_works : ByteArray := prog_1_method_7_code
def yX11_works : MethodName := ⟨RX11, "works", "(IIII)I"⟩
abbrev cX11_first : ByteArray := prog_1_method_8_code
def yX11_first : MethodName := ⟨RX11, "first", "(IJ)I"⟩
abbrev cX11_unit : ByteArray := prog_1_method_9_code
def yX11_unit : MethodName := ⟨RX11, "unit", "(II)I"⟩
abbrev cX11_edge : ByteArray := prog_1_method_10_code
def yX11_edge : MethodName := ⟨RX11, "edge", "(IIII)I"⟩
abbrev cX11_undo : ByteArray := prog_1_method_11_code
def yX11_undo : MethodName := ⟨RX11, "undo", "()I"⟩
abbrev cX11_act : ByteArray := prog_1_method_12_code
def yX11_act : MethodName := ⟨RX11, "act", "(II)I"⟩
abbrev cX11_number : ByteArray := prog_1_method_13_code
def yX11_number : MethodName := ⟨RX11, "number", "(I)J"⟩
abbrev cX11_count : ByteArray := prog_1_method_14_code
def yX11_count : MethodName := ⟨RX11, "count", "(I)I"⟩
abbrev cX11_whole : ByteArray := prog_1_method_15_code
def yX11_whole : MethodName := ⟨RX11, "whole", "()I"⟩
abbrev cX11_row : ByteArray := prog_1_method_16_code
def yX11_row : MethodName := ⟨RX11, "row", "(IIZ)I"⟩
abbrev cX11_empty : ByteArray := prog_1_method_17_code
def yX11_empty : MethodName := ⟨RX11, "empty", "(I)I"⟩
abbrev cX11_set : ByteArray := prog_1_method_18_code
def yX11_set : MethodName := ⟨RX11, "set", "(IIJ)I"⟩
abbrev cX11_get : ByteArray := prog_1_method_19_code
def yX11_get : MethodName := ⟨RX11, "get", "(II)J"⟩
abbrev cX11_copy : ByteArray := prog_1_method_20_code
def yX11_copy : MethodName := ⟨RX11, "copy", "(IIIII)I"⟩
abbrev cX11_lowest : ByteArray := prog_1_method_21_code
def yX11_lowest : MethodName := ⟨RX11, "lowest", "()I"⟩
abbrev cX11_lay : ByteArray := prog_1_method_22_code
def yX11_lay : MethodName := ⟨RX11, "lay", "()I"⟩
abbrev cX11_prove : ByteArray := prog_1_method_23_code
def yX11_prove : MethodName := ⟨RX11, "prove", "(I)I"⟩
abbrev cX11_trials : ByteArray := prog_1_method_24_code
def yX11_trials : MethodName := ⟨RX11, "trials", "()I"⟩
abbrev cX11_laying : ByteArray := prog_1_method_25_code
def yX11_laying : MethodName := ⟨RX11, "laying", "(I)I"⟩
abbrev cX11_tick : ByteArray := prog_1_method_26_code
def yX11_tick : MethodName := ⟨RX11, "tick", "(II)I"⟩
abbrev cX11_filled : ByteArray := prog_1_method_27_code
def yX11_filled : MethodName := ⟨RX11, "filled", "(II)I"⟩
abbrev cX11_names : ByteArray := prog_1_method_28_code
def yX11_names : MethodName := ⟨RX11, "names", "(I)I"⟩
abbrev cX11_fewest : ByteArray := prog_1_method_29_code
def yX11_fewest : MethodName := ⟨RX11, "fewest", "(I)I"⟩
abbrev cX11_forge : ByteArray := prog_1_method_30_code
def yX11_forge : MethodName := ⟨RX11, "forge", "(II)I"⟩
abbrev cX11_check : ByteArray := prog_1_method_31_code
def yX11_check : MethodName := ⟨RX11, "check", "()I"⟩
abbrev cX11_wrong : ByteArray := prog_1_method_32_code
def yX11_wrong : MethodName := ⟨RX11, "wrong", "(I)I"⟩
abbrev cX11_run : ByteArray := prog_1_method_33_code
def yX11_run : MethodName := ⟨RX11, "run", "(IZ)I"⟩
abbrev cX11_compare : ByteArray := prog_1_method_34_code
def yX11_compare : MethodName := ⟨RX11, "compare", "(I)I"⟩
abbrev cX11_told : ByteArray := prog_1_method_35_code
def yX11_told : MethodName := ⟨RX11, "told", "(I)I"⟩
abbrev cX11_end : ByteArray := prog_1_method_36_code
def yX11_end : MethodName := ⟨RX11, "end", "(I)J"⟩
abbrev cX11_again : ByteArray := prog_1_method_37_code
def yX11_again : MethodName := ⟨RX11, "again", "()I"⟩
abbrev cX11_status : ByteArray := prog_1_method_38_code
def yX11_status : MethodName := ⟨RX11, "status", "(I)I"⟩
abbrev cX11_refuse : ByteArray := prog_1_method_39_code
def yX11_refuse : MethodName := ⟨RX11, "refuse", "(I)I"⟩
abbrev cX11_bodyChanged : ByteArray := prog_1_method_40_code
def yX11_bodyChanged : MethodName := ⟨RX11, "bodyChanged", "()V"⟩
abbrev cX11_isBack : ByteArray := prog_1_method_41_code
def yX11_isBack : MethodName := ⟨RX11, "isBack", "(I)Z"⟩
abbrev cX11_isSlot : ByteArray := prog_1_method_42_code
def yX11_isSlot : MethodName := ⟨RX11, "isSlot", "(I)Z"⟩
abbrev cX11_isKind : ByteArray := prog_1_method_43_code
def yX11_isKind : MethodName := ⟨RX11, "isKind", "(I)Z"⟩
abbrev cX11_operandPart : ByteArray := prog_1_method_44_code
def yX11_operandPart : MethodName := ⟨RX11, "operandPart", "(II)I"⟩
abbrev cX11_lowestBeat : ByteArray := prog_1_method_45_code
def yX11_lowestBeat : MethodName := ⟨RX11, "lowestBeat", "()I"⟩
abbrev cX11_hasRingAt : ByteArray := prog_1_method_46_code
def yX11_hasRingAt : MethodName := ⟨RX11, "hasRingAt", "(I)Z"⟩
abbrev cX11_seekAt : ByteArray := prog_1_method_47_code
def yX11_seekAt : MethodName := ⟨RX11, "seekAt", "(I)I"⟩
abbrev cX11_refusalOfRun : ByteArray := prog_1_method_48_code
def yX11_refusalOfRun : MethodName := ⟨RX11, "refusalOfRun", "(IZ)I"⟩
def RX12 : String := "LoopLaneModel"
def TX12 : u_T := fun k => match k with
  | 0 => ("LoopLaneModel", "sort", "[I", true)
  | 1 => ("LoopLaneModel", "lag", "[I", true)
  | 2 => ("LoopLaneModel", "unit", "[I", true)
  | 3 => ("LoopLaneModel", "pattern", "[I", true)
  | 4 => ("LoopLaneModel", "slot", "[I", true)
  | 5 => ("LoopLaneModel", "of", "[I", true)
  | 6 => ("LoopLaneModel", "back", "[I", true)
  | 7 => ("LoopLaneModel", "first", "[J", true)
  | 8 => ("LoopLaneModel", "number", "[J", true)
  | 9 => ("LoopLaneModel", "acts", "I", false)
  | 10 => ("LoopLaneModel", "units", "[I", true)
  | 11 => ("LoopLaneModel", "toldA", "[I", true)
  | 12 => ("LoopLaneModel", "toldB", "[I", true)
  | 13 => ("LoopLaneModel", "toldTicks", "[I", true)
  | 14 => ("LoopLaneModel", "toldTurns", "[I", true)
  | 15 => ("LoopLaneModel", "told", "I", false)
  | 16 => ("LoopLaneModel", "edgeA", "[I", true)
  | 17 => ("LoopLaneModel", "edgeB", "[I", true)
  | 18 => ("LoopLaneModel", "edgeTicks", "[I", true)
  | 19 => ("LoopLaneModel", "edgeTurns", "[I", true)
  | 20 => ("LoopLaneModel", "edges", "I", false)
  | 21 => ("LoopLaneModel", "rows", "[J", true)
  | 22 => ("LoopLaneModel", "rowsNow", "[J", true)
  | 23 => ("LoopLaneModel", "rowSize", "[I", true)
  | 24 => ("LoopLaneModel", "isWide", "[Z", true)
  | 25 => ("LoopLaneModel", "refused", "[I", true)
  | 26 => ("LoopLaneModel", "latest", "I", false)
  | 27 => ("LoopLaneModel", "beat", "I", false)
  | 28 => ("LoopLaneModel", "ticks", "[I", true)
  | 29 => ("LoopLaneModel", "stages", "[I", true)
  | 30 => ("LoopLaneModel", "begin", "[I", true)
  | 31 => ("LoopLaneModel", "forged", "[I", true)
  | 32 => ("LoopLaneModel", "tried", "I", false)
  | 33 => ("LoopLaneModel", "pushed", "[I", true)
  | 34 => ("LoopLaneModel", "trial", "[I", true)
  | 35 => ("LoopLaneModel", "full", "[I", true)
  | 36 => ("LoopLaneModel", "wrong", "[I", true)
  | 37 => ("LoopLaneModel", "ends", "[J", true)
  | 38 => ("LoopLaneModel", "endKind", "I", false)
  | 39 => ("LoopLaneModel", "endAct", "I", false)
  | 40 => ("LoopLaneModel", "endTurn", "I", false)
  | 41 => ("LoopLaneModel", "begun", "I", false)
  | 42 => ("LoopLaneModel", "spent", "I", false)
  | 43 => ("LoopLaneModel", "wasLaid", "I", false)
  | _ => ("LoopLaneModel", "done", "I", false)
def tyX12 : Nat → FieldType := fun k => match k with
  | 0 => .array .int
  | 1 => .array .int
  | 2 => .array .int
  | 3 => .array .int
  | 4 => .array .int
  | 5 => .array .int
  | 6 => .array .int
  | 7 => .array .long
  | 8 => .array .long
  | 9 => .int
  | 10 => .array .int
  | 11 => .array .int
  | 12 => .array .int
  | 13 => .array .int
  | 14 => .array .int
  | 15 => .int
  | 16 => .array .int
  | 17 => .array .int
  | 18 => .array .int
  | 19 => .array .int
  | 20 => .int
  | 21 => .array .long
  | 22 => .array .long
  | 23 => .array .int
  | 24 => .array .boolean
  | 25 => .array .int
  | 26 => .int
  | 27 => .int
  | 28 => .array .int
  | 29 => .array .int
  | 30 => .array .int
  | 31 => .array .int
  | 32 => .int
  | 33 => .array .int
  | 34 => .array .int
  | 35 => .array .int
  | 36 => .array .int
  | 37 => .array .long
  | 38 => .int
  | 39 => .int
  | 40 => .int
  | 41 => .int
  | 42 => .int
  | 43 => .int
  | _ => .int
abbrev wsX120 : List Cond := u_ws RX12 TX12 45
theorem nmX12 : ∀ a, a < 45 → ∀ b, b < 45 → a ≠ b → (TX12 a).2.1 ≠ (TX12 b).2.1 := by decide +kernel
theorem tyX12_ok : ∀ k, k < 45 → parseFieldDescriptor (TX12 k).2.2.1 = some (tyX12 k) := by decide +kernel
abbrev cX12_init : ByteArray := prog_14_method_1_code
def yX12_init : MethodName := ⟨RX12, "<init>", "()V"⟩
abbrev cX12_isIn : ByteArray := prog_14_method_2_code
def yX12_isIn : MethodName := ⟨RX12, "isIn", "(JJJ)Z"⟩
abbrev cX12_no : ByteArray := prog_14_method_3_code
def yX12_no : MethodName := ⟨RX12, "no", "(I)I"⟩
abbrev cX12_isAct : ByteArray := prog_14_method_4_code
def yX12_isAct : MethodName := ⟨RX12, "isAct", "(I)Z"⟩
abbrev cX12_changes : ByteArray := prog_14_method_5_code
def yX12_changes : MethodName := ⟨RX12, "changes", "()V"⟩
abbrev cX12_adds : ByteArray := prog_14_method_6_code
def yX12_adds : MethodName := ⟨RX12, "adds", "(IIIIII)I"⟩
abbrev cX12_operand : ByteArray := prog_14_method_7_code
def yX12_operand : MethodName := ⟨RX12, "operand", "(IIII)V"⟩
abbrev cX12_areTurns : ByteArray := prog_14_method_8_code
def yX12_areTurns : MethodName := ⟨RX12, "areTurns", "(I)Z"⟩
abbrev cX12_isBeyond : ByteArray := prog_14_method_9_code
def yX12_isBeyond : MethodName := ⟨RX12, "isBeyond", "(II)Z"⟩
abbrev cX12_put : ByteArray := prog_14_method_10_code
def yX12_put : MethodName := ⟨RX12, "put", "(J)I"⟩
abbrev cX12_reckon : ByteArray := prog_14_method_11_code
def yX12_reckon : MethodName := ⟨RX12, "reckon", "(IIIII)I"⟩
abbrev cX12_fetch : ByteArray := prog_14_method_12_code
def yX12_fetch : MethodName := ⟨RX12, "fetch", "(III)I"⟩
abbrev cX12_store : ByteArray := prog_14_method_13_code
def yX12_store : MethodName := ⟨RX12, "store", "(IIIII)I"⟩
abbrev cX12_pick : ByteArray := prog_14_method_14_code
def yX12_pick : MethodName := ⟨RX12, "pick", "(IIII)I"⟩
abbrev cX12_works : ByteArray := prog_14_method_15_code
def yX12_works : MethodName := ⟨RX12, "works", "(IIII)I"⟩
abbrev cX12_first : ByteArray := prog_14_method_16_code
def yX12_first : MethodName := ⟨RX12, "first", "(IJ)I"⟩
abbrev cX12_unit : ByteArray := prog_14_method_17_code
def yX12_unit : MethodName := ⟨RX12, "unit", "(II)I"⟩
abbrev cX12_edge : ByteArray := prog_14_method_18_code
def yX12_edge : MethodName := ⟨RX12, "edge", "(IIII)I"⟩
abbrev cX12_undo : ByteArray := prog_14_method_19_code
def yX12_undo : MethodName := ⟨RX12, "undo", "()I"⟩
abbrev cX12_act : ByteArray := prog_14_method_20_code
def yX12_act : MethodName := ⟨RX12, "act", "(II)I"⟩
abbrev cX12_number : ByteArray := prog_14_method_21_code
def yX12_number : MethodName := ⟨RX12, "number", "(I)J"⟩
abbrev cX12_whole : ByteArray := prog_14_method_22_code
def yX12_whole : MethodName := ⟨RX12, "whole", "()I"⟩
abbrev cX12_count : ByteArray := prog_14_method_23_code
def yX12_count : MethodName := ⟨RX12, "count", "(I)I"⟩
abbrev cX12_enter : ByteArray := prog_14_method_24_code
def yX12_enter : MethodName := ⟨RX12, "enter", "(IIII)V"⟩
abbrev cX12_isOfRow : ByteArray := prog_14_method_25_code
def yX12_isOfRow : MethodName := ⟨RX12, "isOfRow", "(I)Z"⟩
abbrev cX12_gather : ByteArray := prog_14_method_26_code
def yX12_gather : MethodName := ⟨RX12, "gather", "()V"⟩
abbrev cX12_gatherTwo : ByteArray := prog_14_method_27_code
def yX12_gatherTwo : MethodName := ⟨RX12, "gatherTwo", "(II)V"⟩
abbrev cX12_bits : ByteArray := prog_14_method_28_code
def yX12_bits : MethodName := ⟨RX12, "bits", "(I)I"⟩
abbrev cX12_byUnits : ByteArray := prog_14_method_29_code
def yX12_byUnits : MethodName := ⟨RX12, "byUnits", "()I"⟩
abbrev cX12_rests : ByteArray := prog_14_method_30_code
def yX12_rests : MethodName := ⟨RX12, "rests", "(I)Z"⟩
abbrev cX12_byRings : ByteArray := prog_14_method_31_code
def yX12_byRings : MethodName := ⟨RX12, "byRings", "()I"⟩
abbrev cX12_isReady : ByteArray := prog_14_method_32_code
def yX12_isReady : MethodName := ⟨RX12, "isReady", "()Z"⟩
abbrev cX12_lowestBeat : ByteArray := prog_14_method_33_code
def yX12_lowestBeat : MethodName := ⟨RX12, "lowestBeat", "()I"⟩
abbrev cX12_lowest : ByteArray := prog_14_method_34_code
def yX12_lowest : MethodName := ⟨RX12, "lowest", "()I"⟩
abbrev cX12_fits : ByteArray := prog_14_method_35_code
def yX12_fits : MethodName := ⟨RX12, "fits", "(II)Z"⟩
abbrev cX12_cut : ByteArray := prog_14_method_36_code
def yX12_cut : MethodName := ⟨RX12, "cut", "(II)I"⟩
abbrev cX12_holds : ByteArray := prog_14_method_37_code
def yX12_holds : MethodName := ⟨RX12, "holds", "(II)Z"⟩
abbrev cX12_tries : ByteArray := prog_14_method_38_code
def yX12_tries : MethodName := ⟨RX12, "tries", "(I)I"⟩
abbrev cX12_lay : ByteArray := prog_14_method_39_code
def yX12_lay : MethodName := ⟨RX12, "lay", "()I"⟩
abbrev cX12_prove : ByteArray := prog_14_method_40_code
def yX12_prove : MethodName := ⟨RX12, "prove", "(I)I"⟩
abbrev cX12_trials : ByteArray := prog_14_method_41_code
def yX12_trials : MethodName := ⟨RX12, "trials", "()I"⟩
abbrev cX12_laying : ByteArray := prog_14_method_42_code
def yX12_laying : MethodName := ⟨RX12, "laying", "(I)I"⟩
abbrev cX12_latestBegin : ByteArray := prog_14_method_43_code
def yX12_latestBegin : MethodName := ⟨RX12, "latestBegin", "(I)I"⟩
abbrev cX12_tick : ByteArray := prog_14_method_44_code
def yX12_tick : MethodName := ⟨RX12, "tick", "(II)I"⟩
abbrev cX12_filled : ByteArray := prog_14_method_45_code
def yX12_filled : MethodName := ⟨RX12, "filled", "(II)I"⟩
abbrev cX12_placesOf : ByteArray := prog_14_method_46_code
def yX12_placesOf : MethodName := ⟨RX12, "placesOf", "(I)I"⟩
abbrev cX12_names : ByteArray := prog_14_method_47_code
def yX12_names : MethodName := ⟨RX12, "names", "(I)I"⟩
abbrev cX12_fewest : ByteArray := prog_14_method_48_code
def yX12_fewest : MethodName := ⟨RX12, "fewest", "(I)I"⟩
abbrev cX12_forge : ByteArray := prog_14_method_49_code
def yX12_forge : MethodName := ⟨RX12, "forge", "(II)I"⟩
abbrev cX12_unwrong : ByteArray := prog_14_method_50_code
def yX12_unwrong : MethodName := ⟨RX12, "unwrong", "()V"⟩
abbrev cX12_isAhead : ByteArray := prog_14_method_51_code
def yX12_isAhead : MethodName := ⟨RX12, "isAhead", "(I)Z"⟩
abbrev cX12_check : ByteArray := prog_14_method_52_code
def yX12_check : MethodName := ⟨RX12, "check", "()I"⟩
abbrev cX12_filledAs : ByteArray := prog_14_method_53_code
def yX12_filledAs : MethodName := ⟨RX12, "filledAs", "(II)I"⟩
abbrev cX12_wrong : ByteArray := prog_14_method_54_code
def yX12_wrong : MethodName := ⟨RX12, "wrong", "(I)I"⟩
abbrev cX12_isSlot : ByteArray := prog_14_method_55_code
def yX12_isSlot : MethodName := ⟨RX12, "isSlot", "(I)Z"⟩
abbrev cX12_row : ByteArray := prog_14_method_56_code
def yX12_row : MethodName := ⟨RX12, "row", "(IIZ)I"⟩
abbrev cX12_empty : ByteArray := prog_14_method_57_code
def yX12_empty : MethodName := ⟨RX12, "empty", "(I)I"⟩
abbrev cX12_why : ByteArray := prog_14_method_58_code
def yX12_why : MethodName := ⟨RX12, "why", "(IJ)I"⟩
abbrev cX12_set : ByteArray := prog_14_method_59_code
def yX12_set : MethodName := ⟨RX12, "set", "(IIJ)I"⟩
abbrev cX12_get : ByteArray := prog_14_method_60_code
def yX12_get : MethodName := ⟨RX12, "get", "(II)J"⟩
abbrev cX12_copy : ByteArray := prog_14_method_61_code
def yX12_copy : MethodName := ⟨RX12, "copy", "(IIIII)I"⟩
abbrev cX12_forget : ByteArray := prog_14_method_62_code
def yX12_forget : MethodName := ⟨RX12, "forget", "()V"⟩
abbrev cX12_value : ByteArray := prog_14_method_63_code
def yX12_value : MethodName := ⟨RX12, "value", "(III)J"⟩
abbrev cX12_does : ByteArray := prog_14_method_64_code
def yX12_does : MethodName := ⟨RX12, "does", "(II)I"⟩
abbrev cX12_plain : ByteArray := prog_14_method_65_code
def yX12_plain : MethodName := ⟨RX12, "plain", "(I)V"⟩
abbrev cX12_laid : ByteArray := prog_14_method_66_code
def yX12_laid : MethodName := ⟨RX12, "laid", "(I)V"⟩
abbrev cX12_whyNoRun : ByteArray := prog_14_method_67_code
def yX12_whyNoRun : MethodName := ⟨RX12, "whyNoRun", "(IZ)I"⟩
abbrev cX12_run : ByteArray := prog_14_method_68_code
def yX12_run : MethodName := ⟨RX12, "run", "(IZ)I"⟩
abbrev cX12_compare : ByteArray := prog_14_method_69_code
def yX12_compare : MethodName := ⟨RX12, "compare", "(I)I"⟩
abbrev cX12_told : ByteArray := prog_14_method_70_code
def yX12_told : MethodName := ⟨RX12, "told", "(I)I"⟩
abbrev cX12_end : ByteArray := prog_14_method_71_code
def yX12_end : MethodName := ⟨RX12, "end", "(I)J"⟩
abbrev cX12_again : ByteArray := prog_14_method_72_code
def yX12_again : MethodName := ⟨RX12, "again", "()I"⟩
abbrev cX12_status : ByteArray := prog_14_method_73_code
def yX12_status : MethodName := ⟨RX12, "status", "(I)I"⟩
def RJ6 : String := "java/lang/Integer"
def TJ6 : u_T := fun k => match k with
  | _ => ("", "", "", false)
def tyJ6 : Nat → FieldType := fun k => match k with
  | _ => .int
abbrev wsJ60 : List Cond := u_ws RJ6 TJ6 0
theorem nmJ6 : ∀ a, a < 0 → ∀ b, b < 0 → a ≠ b → (TJ6 a).2.1 ≠ (TJ6 b).2.1 := by decide +kernel
theorem tyJ6_ok : ∀ k, k < 0 → parseFieldDescriptor (TJ6 k).2.2.1 = some (tyJ6 k) := by decide +kernel
abbrev cJ6_bitCount_0f7a4 : ByteArray := prog_15_method_49_code
def yJ6_bitCount_0f7a4 : MethodName := ⟨RJ6, "bitCount", "(I)I"⟩
def RJ9 : String := "java/lang/Math"
def TJ9 : u_T := fun k => match k with
  | _ => ("", "", "", false)
def tyJ9 : Nat → FieldType := fun k => match k with
  | _ => .int
abbrev wsJ90 : List Cond := u_ws RJ9 TJ9 0
theorem nmJ9 : ∀ a, a < 0 → ∀ b, b < 0 → a ≠ b → (TJ9 a).2.1 ≠ (TJ9 b).2.1 := by decide +kernel
theorem tyJ9_ok : ∀ k, k < 0 → parseFieldDescriptor (TJ9 k).2.2.1 = some (tyJ9 k) := by decide +kernel
abbrev cJ9_floorDiv_7cf53 : ByteArray := prog_16_method_47_code
def yJ9_floorDiv_7cf53 : MethodName := ⟨RJ9, "floorDiv", "(II)I"⟩
abbrev cJ9_max_7cf53 : ByteArray := prog_16_method_65_code
def yJ9_max_7cf53 : MethodName := ⟨RJ9, "max", "(II)I"⟩
def RJ10 : String := "java/lang/System"
def TJ10 : u_T := fun k => match k with
  | _ => ("", "", "", false)
def tyJ10 : Nat → FieldType := fun k => match k with
  | _ => .int
abbrev wsJ100 : List Cond := u_ws RJ10 TJ10 0
theorem nmJ10 : ∀ a, a < 0 → ∀ b, b < 0 → a ≠ b → (TJ10 a).2.1 ≠ (TJ10 b).2.1 := by decide +kernel
theorem tyJ10_ok : ∀ k, k < 0 → parseFieldDescriptor (TJ10 k).2.2.1 = some (tyJ10 k) := by decide +kernel
def RJ7 : String := "java/util/Arrays"
def TJ7 : u_T := fun k => match k with
  | _ => ("", "", "", false)
def tyJ7 : Nat → FieldType := fun k => match k with
  | _ => .int
abbrev wsJ70 : List Cond := u_ws RJ7 TJ7 0
theorem nmJ7 : ∀ a, a < 0 → ∀ b, b < 0 → a ≠ b → (TJ7 a).2.1 ≠ (TJ7 b).2.1 := by decide +kernel
theorem tyJ7_ok : ∀ k, k < 0 → parseFieldDescriptor (TJ7 k).2.2.1 = some (tyJ7 k) := by decide +kernel
abbrev cJ7_fill_53178 : ByteArray := prog_18_method_103_code
def yJ7_fill_53178 : MethodName := ⟨RJ7, "fill", "([II)V"⟩
def RL : String := "LoopLaneLaw"
abbrev cL_law : ByteArray := code
def yL_law : MethodName := ⟨RL, "law", "([I)Z"⟩
abbrev vwCl : List vw_C := [(RX0, TX0, 12), (RX1, TX1, 5), (RX2, TX2, 1), (RX3, TX3, 2), (RX4, TX4, 12), (RX5, TX5, 8), (RX6, TX6, 3), (RX7, TX7, 8), (RX8, TX8, 11), (RX9, TX9, 2), (RX10, TX10, 3), (RX11, TX11, 11), (RX12, TX12, 45)]
end
section
theorem dX0_init_0 : decode cX0_init 0 = .ok (.aload_n 0, 1) := by decide +kernel
theorem dX0_init_1 : decode cX0_init 1 = .ok (.invokespecial 3, 3) := by decide +kernel
theorem dX0_init_4 : decode cX0_init 4 = .ok (.aload_n 0, 1) := by decide +kernel
theorem dX0_init_5 : decode cX0_init 5 = .ok (.iconst 0, 1) := by decide +kernel
theorem dX0_init_6 : decode cX0_init 6 = .ok (.putfield 9, 3) := by decide +kernel
theorem dX0_init_9 : decode cX0_init 9 = .ok (.aload_n 0, 1) := by decide +kernel
theorem dX0_init_10 : decode cX0_init 10 = .ok (.bipush 16, 2) := by decide +kernel
theorem dX0_init_12 : decode cX0_init 12 = .ok (.newarray .int, 2) := by decide +kernel
theorem dX0_init_14 : decode cX0_init 14 = .ok (.putfield 15, 3) := by decide +kernel
theorem dX0_init_17 : decode cX0_init 17 = .ok (.aload_n 0, 1) := by decide +kernel
theorem dX0_init_18 : decode cX0_init 18 = .ok (.bipush 16, 2) := by decide +kernel
theorem dX0_init_20 : decode cX0_init 20 = .ok (.newarray .int, 2) := by decide +kernel
theorem dX0_init_22 : decode cX0_init 22 = .ok (.putfield 19, 3) := by decide +kernel
theorem dX0_init_25 : decode cX0_init 25 = .ok (.aload_n 0, 1) := by decide +kernel
theorem dX0_init_26 : decode cX0_init 26 = .ok (.bipush 16, 2) := by decide +kernel
theorem dX0_init_28 : decode cX0_init 28 = .ok (.newarray .int, 2) := by decide +kernel
theorem dX0_init_30 : decode cX0_init 30 = .ok (.putfield 22, 3) := by decide +kernel
theorem dX0_init_33 : decode cX0_init 33 = .ok (.aload_n 0, 1) := by decide +kernel
theorem dX0_init_34 : decode cX0_init 34 = .ok (.bipush 16, 2) := by decide +kernel
theorem dX0_init_36 : decode cX0_init 36 = .ok (.newarray .int, 2) := by decide +kernel
theorem dX0_init_38 : decode cX0_init 38 = .ok (.putfield 25, 3) := by decide +kernel
theorem dX0_init_41 : decode cX0_init 41 = .ok (.aload_n 0, 1) := by decide +kernel
theorem dX0_init_42 : decode cX0_init 42 = .ok (.bipush 16, 2) := by decide +kernel
theorem dX0_init_44 : decode cX0_init 44 = .ok (.newarray .int, 2) := by decide +kernel
theorem dX0_init_46 : decode cX0_init 46 = .ok (.putfield 28, 3) := by decide +kernel
theorem dX0_init_49 : decode cX0_init 49 = .ok (.aload_n 0, 1) := by decide +kernel
theorem dX0_init_50 : decode cX0_init 50 = .ok (.bipush 48, 2) := by decide +kernel
theorem dX0_init_52 : decode cX0_init 52 = .ok (.newarray .int, 2) := by decide +kernel
theorem dX0_init_54 : decode cX0_init 54 = .ok (.putfield 31, 3) := by decide +kernel
theorem dX0_init_57 : decode cX0_init 57 = .ok (.aload_n 0, 1) := by decide +kernel
theorem dX0_init_58 : decode cX0_init 58 = .ok (.bipush 48, 2) := by decide +kernel
theorem dX0_init_60 : decode cX0_init 60 = .ok (.newarray .int, 2) := by decide +kernel
theorem dX0_init_62 : decode cX0_init 62 = .ok (.putfield 34, 3) := by decide +kernel
theorem dX0_init_65 : decode cX0_init 65 = .ok (.aload_n 0, 1) := by decide +kernel
theorem dX0_init_66 : decode cX0_init 66 = .ok (.bipush 16, 2) := by decide +kernel
theorem dX0_init_68 : decode cX0_init 68 = .ok (.newarray .long, 2) := by decide +kernel
theorem dX0_init_70 : decode cX0_init 70 = .ok (.putfield 37, 3) := by decide +kernel
theorem dX0_init_73 : decode cX0_init 73 = .ok (.aload_n 0, 1) := by decide +kernel
theorem dX0_init_74 : decode cX0_init 74 = .ok (.bipush 16, 2) := by decide +kernel
theorem dX0_init_76 : decode cX0_init 76 = .ok (.newarray .long, 2) := by decide +kernel
theorem dX0_init_78 : decode cX0_init 78 = .ok (.putfield 41, 3) := by decide +kernel
theorem dX0_init_81 : decode cX0_init 81 = .ok (.aload_n 0, 1) := by decide +kernel
theorem dX0_init_82 : decode cX0_init 82 = .ok (.bipush 6, 2) := by decide +kernel
theorem dX0_init_84 : decode cX0_init 84 = .ok (.newarray .int, 2) := by decide +kernel
theorem dX0_init_86 : decode cX0_init 86 = .ok (.putfield 44, 3) := by decide +kernel
theorem dX0_init_89 : decode cX0_init 89 = .ok (.aload_n 0, 1) := by decide +kernel
theorem dX0_init_90 : decode cX0_init 90 = .ok (.new 47, 3) := by decide +kernel
theorem dX0_init_93 : decode cX0_init 93 = .ok (.dup, 1) := by decide +kernel
theorem dX0_init_94 : decode cX0_init 94 = .ok (.bipush 40, 2) := by decide +kernel
theorem dX0_init_96 : decode cX0_init 96 = .ok (.invokespecial 49, 3) := by decide +kernel
theorem dX0_init_99 : decode cX0_init 99 = .ok (.putfield 52, 3) := by decide +kernel
theorem dX0_init_102 : decode cX0_init 102 = .ok (.aload_n 0, 1) := by decide +kernel
theorem dX0_init_103 : decode cX0_init 103 = .ok (.getfield 44, 3) := by decide +kernel
theorem dX0_init_106 : decode cX0_init 106 = .ok (.iconst 1, 1) := by decide +kernel
theorem dX0_init_107 : decode cX0_init 107 = .ok (.invokestatic 56, 3) := by decide +kernel
theorem dX0_init_110 : decode cX0_init 110 = .ok (.return_, 1) := by decide +kernel
theorem dX0_has_0 : decode cX0_has 0 = .ok (.iload_n 1, 1) := by decide +kernel
theorem dX0_has_1 : decode cX0_has 1 = .ok (.ifCond .lt 15, 3) := by decide +kernel
theorem dX0_has_4 : decode cX0_has 4 = .ok (.iload_n 1, 1) := by decide +kernel
theorem dX0_has_5 : decode cX0_has 5 = .ok (.aload_n 0, 1) := by decide +kernel
theorem dX0_has_6 : decode cX0_has 6 = .ok (.getfield 9, 3) := by decide +kernel
theorem dX0_has_9 : decode cX0_has 9 = .ok (.if_icmp .ge 7, 3) := by decide +kernel
theorem dX0_has_12 : decode cX0_has 12 = .ok (.iconst 1, 1) := by decide +kernel
theorem dX0_has_13 : decode cX0_has 13 = .ok (.goto 4, 3) := by decide +kernel
theorem dX0_has_16 : decode cX0_has 16 = .ok (.iconst 0, 1) := by decide +kernel
theorem dX0_has_17 : decode cX0_has 17 = .ok (.ireturn, 1) := by decide +kernel
theorem dX0_mayTake_0 : decode cX0_mayTake 0 = .ok (.iload_n 1, 1) := by decide +kernel
theorem dX0_mayTake_1 : decode cX0_mayTake 1 = .ok (.ifCond .lt 25, 3) := by decide +kernel
theorem dX0_mayTake_4 : decode cX0_mayTake 4 = .ok (.iload_n 1, 1) := by decide +kernel
theorem dX0_mayTake_5 : decode cX0_mayTake 5 = .ok (.bipush 16, 2) := by decide +kernel
theorem dX0_mayTake_7 : decode cX0_mayTake 7 = .ok (.if_icmp .ge 19, 3) := by decide +kernel
theorem dX0_mayTake_10 : decode cX0_mayTake 10 = .ok (.iload_n 2, 1) := by decide +kernel
theorem dX0_mayTake_11 : decode cX0_mayTake 11 = .ok (.ifCond .gt 11, 3) := by decide +kernel
theorem dX0_mayTake_14 : decode cX0_mayTake 14 = .ok (.iload_n 1, 1) := by decide +kernel
theorem dX0_mayTake_15 : decode cX0_mayTake 15 = .ok (.aload_n 0, 1) := by decide +kernel
theorem dX0_mayTake_16 : decode cX0_mayTake 16 = .ok (.getfield 9, 3) := by decide +kernel
theorem dX0_mayTake_19 : decode cX0_mayTake 19 = .ok (.if_icmp .ge 7, 3) := by decide +kernel
theorem dX0_mayTake_22 : decode cX0_mayTake 22 = .ok (.iconst 1, 1) := by decide +kernel
theorem dX0_mayTake_23 : decode cX0_mayTake 23 = .ok (.goto 4, 3) := by decide +kernel
theorem dX0_mayTake_26 : decode cX0_mayTake 26 = .ok (.iconst 0, 1) := by decide +kernel
theorem dX0_mayTake_27 : decode cX0_mayTake 27 = .ok (.ireturn, 1) := by decide +kernel
theorem dX0_open_0 : decode cX0_open 0 = .ok (.aload_n 0, 1) := by decide +kernel
theorem dX0_open_1 : decode cX0_open 1 = .ok (.getfield 9, 3) := by decide +kernel
theorem dX0_open_4 : decode cX0_open 4 = .ok (.istore_n 2, 1) := by decide +kernel
theorem dX0_open_5 : decode cX0_open 5 = .ok (.iload_n 2, 1) := by decide +kernel
theorem dX0_open_6 : decode cX0_open 6 = .ok (.bipush 16, 2) := by decide +kernel
theorem dX0_open_8 : decode cX0_open 8 = .ok (.if_icmp .lt 5, 3) := by decide +kernel
theorem dX0_open_11 : decode cX0_open 11 = .ok (.iconst (-1), 1) := by decide +kernel
theorem dX0_open_12 : decode cX0_open 12 = .ok (.ireturn, 1) := by decide +kernel
theorem dX0_open_13 : decode cX0_open 13 = .ok (.aload_n 0, 1) := by decide +kernel
theorem dX0_open_14 : decode cX0_open 14 = .ok (.iload_n 2, 1) := by decide +kernel
theorem dX0_open_15 : decode cX0_open 15 = .ok (.iconst 1, 1) := by decide +kernel
theorem dX0_open_16 : decode cX0_open 16 = .ok (.iadd, 1) := by decide +kernel
theorem dX0_open_17 : decode cX0_open 17 = .ok (.putfield 9, 3) := by decide +kernel
theorem dX0_open_20 : decode cX0_open 20 = .ok (.aload_n 0, 1) := by decide +kernel
theorem dX0_open_21 : decode cX0_open 21 = .ok (.getfield 15, 3) := by decide +kernel
theorem dX0_open_24 : decode cX0_open 24 = .ok (.iload_n 2, 1) := by decide +kernel
theorem dX0_open_25 : decode cX0_open 25 = .ok (.iload_n 1, 1) := by decide +kernel
theorem dX0_open_26 : decode cX0_open 26 = .ok (.iastore, 1) := by decide +kernel
theorem dX0_open_27 : decode cX0_open 27 = .ok (.aload_n 0, 1) := by decide +kernel
theorem dX0_open_28 : decode cX0_open 28 = .ok (.getfield 19, 3) := by decide +kernel
theorem dX0_open_31 : decode cX0_open 31 = .ok (.iload_n 2, 1) := by decide +kernel
theorem dX0_open_32 : decode cX0_open 32 = .ok (.iconst 1, 1) := by decide +kernel
theorem dX0_open_33 : decode cX0_open 33 = .ok (.iastore, 1) := by decide +kernel
theorem dX0_open_34 : decode cX0_open 34 = .ok (.aload_n 0, 1) := by decide +kernel
theorem dX0_open_35 : decode cX0_open 35 = .ok (.getfield 22, 3) := by decide +kernel
theorem dX0_open_38 : decode cX0_open 38 = .ok (.iload_n 2, 1) := by decide +kernel
theorem dX0_open_39 : decode cX0_open 39 = .ok (.iconst 0, 1) := by decide +kernel
theorem dX0_open_40 : decode cX0_open 40 = .ok (.iastore, 1) := by decide +kernel
theorem dX0_open_41 : decode cX0_open 41 = .ok (.aload_n 0, 1) := by decide +kernel
theorem dX0_open_42 : decode cX0_open 42 = .ok (.getfield 25, 3) := by decide +kernel
theorem dX0_open_45 : decode cX0_open 45 = .ok (.iload_n 2, 1) := by decide +kernel
theorem dX0_open_46 : decode cX0_open 46 = .ok (.iconst 1, 1) := by decide +kernel
theorem dX0_open_47 : decode cX0_open 47 = .ok (.iastore, 1) := by decide +kernel
theorem dX0_open_48 : decode cX0_open 48 = .ok (.aload_n 0, 1) := by decide +kernel
theorem dX0_open_49 : decode cX0_open 49 = .ok (.getfield 28, 3) := by decide +kernel
theorem dX0_open_52 : decode cX0_open 52 = .ok (.iload_n 2, 1) := by decide +kernel
theorem dX0_open_53 : decode cX0_open 53 = .ok (.iconst (-1), 1) := by decide +kernel
theorem dX0_open_54 : decode cX0_open 54 = .ok (.iastore, 1) := by decide +kernel
theorem dX0_open_55 : decode cX0_open 55 = .ok (.aload_n 0, 1) := by decide +kernel
theorem dX0_open_56 : decode cX0_open 56 = .ok (.getfield 37, 3) := by decide +kernel
theorem dX0_open_59 : decode cX0_open 59 = .ok (.iload_n 2, 1) := by decide +kernel
theorem dX0_open_60 : decode cX0_open 60 = .ok (.lconst 0, 1) := by decide +kernel
theorem dX0_open_61 : decode cX0_open 61 = .ok (.lastore, 1) := by decide +kernel
theorem dX0_open_62 : decode cX0_open 62 = .ok (.aload_n 0, 1) := by decide +kernel
theorem dX0_open_63 : decode cX0_open 63 = .ok (.getfield 41, 3) := by decide +kernel
theorem dX0_open_66 : decode cX0_open 66 = .ok (.iload_n 2, 1) := by decide +kernel
theorem dX0_open_67 : decode cX0_open 67 = .ok (.lconst 0, 1) := by decide +kernel
theorem dX0_open_68 : decode cX0_open 68 = .ok (.lastore, 1) := by decide +kernel
theorem dX0_open_69 : decode cX0_open 69 = .ok (.iconst 0, 1) := by decide +kernel
theorem dX0_open_70 : decode cX0_open 70 = .ok (.istore_n 3, 1) := by decide +kernel
theorem dX0_open_71 : decode cX0_open 71 = .ok (.iload_n 3, 1) := by decide +kernel
theorem dX0_open_72 : decode cX0_open 72 = .ok (.iconst 3, 1) := by decide +kernel
theorem dX0_open_73 : decode cX0_open 73 = .ok (.if_icmp .ge 17, 3) := by decide +kernel
theorem dX0_open_76 : decode cX0_open 76 = .ok (.aload_n 0, 1) := by decide +kernel
theorem dX0_open_77 : decode cX0_open 77 = .ok (.iload_n 2, 1) := by decide +kernel
theorem dX0_open_78 : decode cX0_open 78 = .ok (.iload_n 3, 1) := by decide +kernel
theorem dX0_open_79 : decode cX0_open 79 = .ok (.iconst (-1), 1) := by decide +kernel
theorem dX0_open_80 : decode cX0_open 80 = .ok (.iconst (-1), 1) := by decide +kernel
theorem dX0_open_81 : decode cX0_open 81 = .ok (.invokevirtual 62, 3) := by decide +kernel
theorem dX0_open_84 : decode cX0_open 84 = .ok (.iinc 3 1, 3) := by decide +kernel
theorem dX0_open_87 : decode cX0_open 87 = .ok (.goto (-16), 3) := by decide +kernel
theorem dX0_open_90 : decode cX0_open 90 = .ok (.iload_n 2, 1) := by decide +kernel
theorem dX0_open_91 : decode cX0_open 91 = .ok (.ireturn, 1) := by decide +kernel
theorem dX0_take_0 : decode cX0_take 0 = .ok (.aload_n 0, 1) := by decide +kernel
theorem dX0_take_1 : decode cX0_take 1 = .ok (.getfield 31, 3) := by decide +kernel
theorem dX0_take_4 : decode cX0_take 4 = .ok (.iload_n 1, 1) := by decide +kernel
theorem dX0_take_5 : decode cX0_take 5 = .ok (.iconst 3, 1) := by decide +kernel
theorem dX0_take_6 : decode cX0_take 6 = .ok (.imul, 1) := by decide +kernel
theorem dX0_take_7 : decode cX0_take 7 = .ok (.iload_n 2, 1) := by decide +kernel
theorem dX0_take_8 : decode cX0_take 8 = .ok (.iadd, 1) := by decide +kernel
theorem dX0_take_9 : decode cX0_take 9 = .ok (.iload_n 3, 1) := by decide +kernel
theorem dX0_take_10 : decode cX0_take 10 = .ok (.iastore, 1) := by decide +kernel
theorem dX0_take_11 : decode cX0_take 11 = .ok (.aload_n 0, 1) := by decide +kernel
theorem dX0_take_12 : decode cX0_take 12 = .ok (.getfield 34, 3) := by decide +kernel
theorem dX0_take_15 : decode cX0_take 15 = .ok (.iload_n 1, 1) := by decide +kernel
theorem dX0_take_16 : decode cX0_take 16 = .ok (.iconst 3, 1) := by decide +kernel
theorem dX0_take_17 : decode cX0_take 17 = .ok (.imul, 1) := by decide +kernel
theorem dX0_take_18 : decode cX0_take 18 = .ok (.iload_n 2, 1) := by decide +kernel
theorem dX0_take_19 : decode cX0_take 19 = .ok (.iadd, 1) := by decide +kernel
theorem dX0_take_20 : decode cX0_take 20 = .ok (.iload 4, 2) := by decide +kernel
theorem dX0_take_22 : decode cX0_take 22 = .ok (.iastore, 1) := by decide +kernel
theorem dX0_take_23 : decode cX0_take 23 = .ok (.return_, 1) := by decide +kernel
theorem dX0_isTakenByAnother_0 : decode cX0_isTakenByAnother 0 = .ok (.iload_n 1, 1) := by decide +kernel
theorem dX0_isTakenByAnother_1 : decode cX0_isTakenByAnother 1 = .ok (.iconst 3, 1) := by decide +kernel
theorem dX0_isTakenByAnother_2 : decode cX0_isTakenByAnother 2 = .ok (.imul, 1) := by decide +kernel
theorem dX0_isTakenByAnother_3 : decode cX0_isTakenByAnother 3 = .ok (.istore_n 2, 1) := by decide +kernel
theorem dX0_isTakenByAnother_4 : decode cX0_isTakenByAnother 4 = .ok (.iconst 0, 1) := by decide +kernel
theorem dX0_isTakenByAnother_5 : decode cX0_isTakenByAnother 5 = .ok (.istore_n 3, 1) := by decide +kernel
theorem dX0_isTakenByAnother_6 : decode cX0_isTakenByAnother 6 = .ok (.iload_n 3, 1) := by decide +kernel
theorem dX0_isTakenByAnother_7 : decode cX0_isTakenByAnother 7 = .ok (.aload_n 0, 1) := by decide +kernel
theorem dX0_isTakenByAnother_8 : decode cX0_isTakenByAnother 8 = .ok (.getfield 9, 3) := by decide +kernel
theorem dX0_isTakenByAnother_11 : decode cX0_isTakenByAnother 11 = .ok (.iconst 3, 1) := by decide +kernel
theorem dX0_isTakenByAnother_12 : decode cX0_isTakenByAnother 12 = .ok (.imul, 1) := by decide +kernel
theorem dX0_isTakenByAnother_13 : decode cX0_isTakenByAnother 13 = .ok (.if_icmp .ge 33, 3) := by decide +kernel
theorem dX0_isTakenByAnother_16 : decode cX0_isTakenByAnother 16 = .ok (.aload_n 0, 1) := by decide +kernel
theorem dX0_isTakenByAnother_17 : decode cX0_isTakenByAnother 17 = .ok (.getfield 31, 3) := by decide +kernel
theorem dX0_isTakenByAnother_20 : decode cX0_isTakenByAnother 20 = .ok (.iload_n 3, 1) := by decide +kernel
theorem dX0_isTakenByAnother_21 : decode cX0_isTakenByAnother 21 = .ok (.iaload, 1) := by decide +kernel
theorem dX0_isTakenByAnother_22 : decode cX0_isTakenByAnother 22 = .ok (.iload_n 1, 1) := by decide +kernel
theorem dX0_isTakenByAnother_23 : decode cX0_isTakenByAnother 23 = .ok (.if_icmp .ne 17, 3) := by decide +kernel
theorem dX0_isTakenByAnother_26 : decode cX0_isTakenByAnother 26 = .ok (.iload_n 3, 1) := by decide +kernel
theorem dX0_isTakenByAnother_27 : decode cX0_isTakenByAnother 27 = .ok (.iload_n 2, 1) := by decide +kernel
theorem dX0_isTakenByAnother_28 : decode cX0_isTakenByAnother 28 = .ok (.if_icmp .lt 10, 3) := by decide +kernel
theorem dX0_isTakenByAnother_31 : decode cX0_isTakenByAnother 31 = .ok (.iload_n 3, 1) := by decide +kernel
theorem dX0_isTakenByAnother_32 : decode cX0_isTakenByAnother 32 = .ok (.iload_n 2, 1) := by decide +kernel
theorem dX0_isTakenByAnother_33 : decode cX0_isTakenByAnother 33 = .ok (.iconst 3, 1) := by decide +kernel
theorem dX0_isTakenByAnother_34 : decode cX0_isTakenByAnother 34 = .ok (.iadd, 1) := by decide +kernel
theorem dX0_isTakenByAnother_35 : decode cX0_isTakenByAnother 35 = .ok (.if_icmp .lt 5, 3) := by decide +kernel
theorem dX0_isTakenByAnother_38 : decode cX0_isTakenByAnother 38 = .ok (.iconst 1, 1) := by decide +kernel
theorem dX0_isTakenByAnother_39 : decode cX0_isTakenByAnother 39 = .ok (.ireturn, 1) := by decide +kernel
theorem dX0_isTakenByAnother_40 : decode cX0_isTakenByAnother 40 = .ok (.iinc 3 1, 3) := by decide +kernel
theorem dX0_isTakenByAnother_43 : decode cX0_isTakenByAnother 43 = .ok (.goto (-37), 3) := by decide +kernel
theorem dX0_isTakenByAnother_46 : decode cX0_isTakenByAnother 46 = .ok (.iconst 0, 1) := by decide +kernel
theorem dX0_isTakenByAnother_47 : decode cX0_isTakenByAnother 47 = .ok (.ireturn, 1) := by decide +kernel
theorem dX0_isWhole_0 : decode cX0_isWhole 0 = .ok (.iconst 0, 1) := by decide +kernel
theorem dX0_isWhole_1 : decode cX0_isWhole 1 = .ok (.istore_n 1, 1) := by decide +kernel
theorem dX0_isWhole_2 : decode cX0_isWhole 2 = .ok (.iload_n 1, 1) := by decide +kernel
theorem dX0_isWhole_3 : decode cX0_isWhole 3 = .ok (.aload_n 0, 1) := by decide +kernel
theorem dX0_isWhole_4 : decode cX0_isWhole 4 = .ok (.getfield 9, 3) := by decide +kernel
theorem dX0_isWhole_7 : decode cX0_isWhole 7 = .ok (.iconst 3, 1) := by decide +kernel
theorem dX0_isWhole_8 : decode cX0_isWhole 8 = .ok (.imul, 1) := by decide +kernel
theorem dX0_isWhole_9 : decode cX0_isWhole 9 = .ok (.if_icmp .ge 24, 3) := by decide +kernel
theorem dX0_isWhole_12 : decode cX0_isWhole 12 = .ok (.aload_n 0, 1) := by decide +kernel
theorem dX0_isWhole_13 : decode cX0_isWhole 13 = .ok (.getfield 31, 3) := by decide +kernel
theorem dX0_isWhole_16 : decode cX0_isWhole 16 = .ok (.iload_n 1, 1) := by decide +kernel
theorem dX0_isWhole_17 : decode cX0_isWhole 17 = .ok (.iaload, 1) := by decide +kernel
theorem dX0_isWhole_18 : decode cX0_isWhole 18 = .ok (.aload_n 0, 1) := by decide +kernel
theorem dX0_isWhole_19 : decode cX0_isWhole 19 = .ok (.getfield 9, 3) := by decide +kernel
theorem dX0_isWhole_22 : decode cX0_isWhole 22 = .ok (.if_icmp .lt 5, 3) := by decide +kernel
theorem dX0_isWhole_25 : decode cX0_isWhole 25 = .ok (.iconst 0, 1) := by decide +kernel
theorem dX0_isWhole_26 : decode cX0_isWhole 26 = .ok (.ireturn, 1) := by decide +kernel
theorem dX0_isWhole_27 : decode cX0_isWhole 27 = .ok (.iinc 1 1, 3) := by decide +kernel
theorem dX0_isWhole_30 : decode cX0_isWhole 30 = .ok (.goto (-28), 3) := by decide +kernel
theorem dX0_isWhole_33 : decode cX0_isWhole 33 = .ok (.iconst 1, 1) := by decide +kernel
theorem dX0_isWhole_34 : decode cX0_isWhole 34 = .ok (.ireturn, 1) := by decide +kernel
theorem dX0_isReady_0 : decode cX0_isReady 0 = .ok (.aload_n 0, 1) := by decide +kernel
theorem dX0_isReady_1 : decode cX0_isReady 1 = .ok (.getfield 9, 3) := by decide +kernel
theorem dX0_isReady_4 : decode cX0_isReady 4 = .ok (.ifCond .le 14, 3) := by decide +kernel
theorem dX0_isReady_7 : decode cX0_isReady 7 = .ok (.aload_n 0, 1) := by decide +kernel
theorem dX0_isReady_8 : decode cX0_isReady 8 = .ok (.invokevirtual 66, 3) := by decide +kernel
theorem dX0_isReady_11 : decode cX0_isReady 11 = .ok (.ifCond .eq 7, 3) := by decide +kernel
theorem dX0_isReady_14 : decode cX0_isReady 14 = .ok (.iconst 1, 1) := by decide +kernel
theorem dX0_isReady_15 : decode cX0_isReady 15 = .ok (.goto 4, 3) := by decide +kernel
theorem dX0_isReady_18 : decode cX0_isReady 18 = .ok (.iconst 0, 1) := by decide +kernel
theorem dX0_isReady_19 : decode cX0_isReady 19 = .ok (.ireturn, 1) := by decide +kernel
theorem dX0_stores_0 : decode cX0_stores 0 = .ok (.iconst 0, 1) := by decide +kernel
theorem dX0_stores_1 : decode cX0_stores 1 = .ok (.istore_n 1, 1) := by decide +kernel
theorem dX0_stores_2 : decode cX0_stores 2 = .ok (.iconst 0, 1) := by decide +kernel
theorem dX0_stores_3 : decode cX0_stores 3 = .ok (.istore_n 2, 1) := by decide +kernel
theorem dX0_stores_4 : decode cX0_stores 4 = .ok (.iload_n 2, 1) := by decide +kernel
theorem dX0_stores_5 : decode cX0_stores 5 = .ok (.aload_n 0, 1) := by decide +kernel
theorem dX0_stores_6 : decode cX0_stores 6 = .ok (.getfield 9, 3) := by decide +kernel
theorem dX0_stores_9 : decode cX0_stores 9 = .ok (.if_icmp .ge 22, 3) := by decide +kernel
theorem dX0_stores_12 : decode cX0_stores 12 = .ok (.aload_n 0, 1) := by decide +kernel
theorem dX0_stores_13 : decode cX0_stores 13 = .ok (.getfield 15, 3) := by decide +kernel
theorem dX0_stores_16 : decode cX0_stores 16 = .ok (.iload_n 2, 1) := by decide +kernel
theorem dX0_stores_17 : decode cX0_stores 17 = .ok (.iaload, 1) := by decide +kernel
theorem dX0_stores_18 : decode cX0_stores 18 = .ok (.iconst 5, 1) := by decide +kernel
theorem dX0_stores_19 : decode cX0_stores 19 = .ok (.if_icmp .ne 6, 3) := by decide +kernel
theorem dX0_stores_22 : decode cX0_stores 22 = .ok (.iinc 1 1, 3) := by decide +kernel
theorem dX0_stores_25 : decode cX0_stores 25 = .ok (.iinc 2 1, 3) := by decide +kernel
theorem dX0_stores_28 : decode cX0_stores 28 = .ok (.goto (-24), 3) := by decide +kernel
theorem dX0_stores_31 : decode cX0_stores 31 = .ok (.iload_n 1, 1) := by decide +kernel
theorem dX0_stores_32 : decode cX0_stores 32 = .ok (.ireturn, 1) := by decide +kernel
theorem dX0_unitsInAll_0 : decode cX0_unitsInAll 0 = .ok (.iconst 0, 1) := by decide +kernel
theorem dX0_unitsInAll_1 : decode cX0_unitsInAll 1 = .ok (.istore_n 1, 1) := by decide +kernel
theorem dX0_unitsInAll_2 : decode cX0_unitsInAll 2 = .ok (.iconst 0, 1) := by decide +kernel
theorem dX0_unitsInAll_3 : decode cX0_unitsInAll 3 = .ok (.istore_n 2, 1) := by decide +kernel
theorem dX0_unitsInAll_4 : decode cX0_unitsInAll 4 = .ok (.iload_n 2, 1) := by decide +kernel
theorem dX0_unitsInAll_5 : decode cX0_unitsInAll 5 = .ok (.bipush 6, 2) := by decide +kernel
theorem dX0_unitsInAll_7 : decode cX0_unitsInAll 7 = .ok (.if_icmp .ge 18, 3) := by decide +kernel
theorem dX0_unitsInAll_10 : decode cX0_unitsInAll 10 = .ok (.iload_n 1, 1) := by decide +kernel
theorem dX0_unitsInAll_11 : decode cX0_unitsInAll 11 = .ok (.aload_n 0, 1) := by decide +kernel
theorem dX0_unitsInAll_12 : decode cX0_unitsInAll 12 = .ok (.getfield 44, 3) := by decide +kernel
theorem dX0_unitsInAll_15 : decode cX0_unitsInAll 15 = .ok (.iload_n 2, 1) := by decide +kernel
theorem dX0_unitsInAll_16 : decode cX0_unitsInAll 16 = .ok (.iaload, 1) := by decide +kernel
theorem dX0_unitsInAll_17 : decode cX0_unitsInAll 17 = .ok (.iadd, 1) := by decide +kernel
theorem dX0_unitsInAll_18 : decode cX0_unitsInAll 18 = .ok (.istore_n 1, 1) := by decide +kernel
theorem dX0_unitsInAll_19 : decode cX0_unitsInAll 19 = .ok (.iinc 2 1, 3) := by decide +kernel
theorem dX0_unitsInAll_22 : decode cX0_unitsInAll 22 = .ok (.goto (-18), 3) := by decide +kernel
theorem dX0_unitsInAll_25 : decode cX0_unitsInAll 25 = .ok (.iload_n 1, 1) := by decide +kernel
theorem dX0_unitsInAll_26 : decode cX0_unitsInAll 26 = .ok (.ireturn, 1) := by decide +kernel
theorem dX0_beatByUnits_0 : decode cX0_beatByUnits 0 = .ok (.iconst 1, 1) := by decide +kernel
theorem dX0_beatByUnits_1 : decode cX0_beatByUnits 1 = .ok (.istore_n 1, 1) := by decide +kernel
theorem dX0_beatByUnits_2 : decode cX0_beatByUnits 2 = .ok (.iconst 0, 1) := by decide +kernel
theorem dX0_beatByUnits_3 : decode cX0_beatByUnits 3 = .ok (.istore_n 2, 1) := by decide +kernel
theorem dX0_beatByUnits_4 : decode cX0_beatByUnits 4 = .ok (.iload_n 2, 1) := by decide +kernel
theorem dX0_beatByUnits_5 : decode cX0_beatByUnits 5 = .ok (.bipush 6, 2) := by decide +kernel
theorem dX0_beatByUnits_7 : decode cX0_beatByUnits 7 = .ok (.if_icmp .ge 52, 3) := by decide +kernel
theorem dX0_beatByUnits_10 : decode cX0_beatByUnits 10 = .ok (.aload_n 0, 1) := by decide +kernel
theorem dX0_beatByUnits_11 : decode cX0_beatByUnits 11 = .ok (.iload_n 2, 1) := by decide +kernel
theorem dX0_beatByUnits_12 : decode cX0_beatByUnits 12 = .ok (.invokevirtual 70, 3) := by decide +kernel
theorem dX0_beatByUnits_15 : decode cX0_beatByUnits 15 = .ok (.istore_n 3, 1) := by decide +kernel
theorem dX0_beatByUnits_16 : decode cX0_beatByUnits 16 = .ok (.iload_n 3, 1) := by decide +kernel
theorem dX0_beatByUnits_17 : decode cX0_beatByUnits 17 = .ok (.ifCond .le 36, 3) := by decide +kernel
theorem dX0_beatByUnits_20 : decode cX0_beatByUnits 20 = .ok (.aload_n 0, 1) := by decide +kernel
theorem dX0_beatByUnits_21 : decode cX0_beatByUnits 21 = .ok (.getfield 44, 3) := by decide +kernel
theorem dX0_beatByUnits_24 : decode cX0_beatByUnits 24 = .ok (.iload_n 2, 1) := by decide +kernel
theorem dX0_beatByUnits_25 : decode cX0_beatByUnits 25 = .ok (.iaload, 1) := by decide +kernel
theorem dX0_beatByUnits_26 : decode cX0_beatByUnits 26 = .ok (.istore 4, 2) := by decide +kernel
theorem dX0_beatByUnits_28 : decode cX0_beatByUnits 28 = .ok (.iload_n 1, 1) := by decide +kernel
theorem dX0_beatByUnits_29 : decode cX0_beatByUnits 29 = .ok (.iload 4, 2) := by decide +kernel
theorem dX0_beatByUnits_31 : decode cX0_beatByUnits 31 = .ok (.iconst 1, 1) := by decide +kernel
theorem dX0_beatByUnits_32 : decode cX0_beatByUnits 32 = .ok (.if_icmp .ge 8, 3) := by decide +kernel
theorem dX0_beatByUnits_35 : decode cX0_beatByUnits 35 = .ok (.bipush 61, 2) := by decide +kernel
theorem dX0_beatByUnits_37 : decode cX0_beatByUnits 37 = .ok (.goto 12, 3) := by decide +kernel
theorem dX0_beatByUnits_40 : decode cX0_beatByUnits 40 = .ok (.iload_n 3, 1) := by decide +kernel
theorem dX0_beatByUnits_41 : decode cX0_beatByUnits 41 = .ok (.iload 4, 2) := by decide +kernel
theorem dX0_beatByUnits_43 : decode cX0_beatByUnits 43 = .ok (.iadd, 1) := by decide +kernel
theorem dX0_beatByUnits_44 : decode cX0_beatByUnits 44 = .ok (.iconst 1, 1) := by decide +kernel
theorem dX0_beatByUnits_45 : decode cX0_beatByUnits 45 = .ok (.isub, 1) := by decide +kernel
theorem dX0_beatByUnits_46 : decode cX0_beatByUnits 46 = .ok (.iload 4, 2) := by decide +kernel
theorem dX0_beatByUnits_48 : decode cX0_beatByUnits 48 = .ok (.idiv, 1) := by decide +kernel
theorem dX0_beatByUnits_49 : decode cX0_beatByUnits 49 = .ok (.invokestatic 74, 3) := by decide +kernel
theorem dX0_beatByUnits_52 : decode cX0_beatByUnits 52 = .ok (.istore_n 1, 1) := by decide +kernel
theorem dX0_beatByUnits_53 : decode cX0_beatByUnits 53 = .ok (.iinc 2 1, 3) := by decide +kernel
theorem dX0_beatByUnits_56 : decode cX0_beatByUnits 56 = .ok (.goto (-52), 3) := by decide +kernel
theorem dX0_beatByUnits_59 : decode cX0_beatByUnits 59 = .ok (.iload_n 1, 1) := by decide +kernel
theorem dX0_beatByUnits_60 : decode cX0_beatByUnits 60 = .ok (.ireturn, 1) := by decide +kernel
theorem dX0_bitsOf_0 : decode cX0_bitsOf 0 = .ok (.iconst 0, 1) := by decide +kernel
theorem dX0_bitsOf_1 : decode cX0_bitsOf 1 = .ok (.istore_n 2, 1) := by decide +kernel
theorem dX0_bitsOf_2 : decode cX0_bitsOf 2 = .ok (.iconst 0, 1) := by decide +kernel
theorem dX0_bitsOf_3 : decode cX0_bitsOf 3 = .ok (.istore_n 3, 1) := by decide +kernel
theorem dX0_bitsOf_4 : decode cX0_bitsOf 4 = .ok (.iload_n 3, 1) := by decide +kernel
theorem dX0_bitsOf_5 : decode cX0_bitsOf 5 = .ok (.aload_n 0, 1) := by decide +kernel
theorem dX0_bitsOf_6 : decode cX0_bitsOf 6 = .ok (.getfield 9, 3) := by decide +kernel
theorem dX0_bitsOf_9 : decode cX0_bitsOf 9 = .ok (.if_icmp .ge 31, 3) := by decide +kernel
theorem dX0_bitsOf_12 : decode cX0_bitsOf 12 = .ok (.aload_n 0, 1) := by decide +kernel
theorem dX0_bitsOf_13 : decode cX0_bitsOf 13 = .ok (.getfield 22, 3) := by decide +kernel
theorem dX0_bitsOf_16 : decode cX0_bitsOf 16 = .ok (.iload_n 3, 1) := by decide +kernel
theorem dX0_bitsOf_17 : decode cX0_bitsOf 17 = .ok (.iaload, 1) := by decide +kernel
theorem dX0_bitsOf_18 : decode cX0_bitsOf 18 = .ok (.iload_n 1, 1) := by decide +kernel
theorem dX0_bitsOf_19 : decode cX0_bitsOf 19 = .ok (.if_icmp .ne 15, 3) := by decide +kernel
theorem dX0_bitsOf_22 : decode cX0_bitsOf 22 = .ok (.iload_n 2, 1) := by decide +kernel
theorem dX0_bitsOf_23 : decode cX0_bitsOf 23 = .ok (.aload_n 0, 1) := by decide +kernel
theorem dX0_bitsOf_24 : decode cX0_bitsOf 24 = .ok (.getfield 25, 3) := by decide +kernel
theorem dX0_bitsOf_27 : decode cX0_bitsOf 27 = .ok (.iload_n 3, 1) := by decide +kernel
theorem dX0_bitsOf_28 : decode cX0_bitsOf 28 = .ok (.iaload, 1) := by decide +kernel
theorem dX0_bitsOf_29 : decode cX0_bitsOf 29 = .ok (.invokestatic 80, 3) := by decide +kernel
theorem dX0_bitsOf_32 : decode cX0_bitsOf 32 = .ok (.iadd, 1) := by decide +kernel
theorem dX0_bitsOf_33 : decode cX0_bitsOf 33 = .ok (.istore_n 2, 1) := by decide +kernel
theorem dX0_bitsOf_34 : decode cX0_bitsOf 34 = .ok (.iinc 3 1, 3) := by decide +kernel
theorem dX0_bitsOf_37 : decode cX0_bitsOf 37 = .ok (.goto (-33), 3) := by decide +kernel
theorem dX0_bitsOf_40 : decode cX0_bitsOf 40 = .ok (.iload_n 2, 1) := by decide +kernel
theorem dX0_bitsOf_41 : decode cX0_bitsOf 41 = .ok (.ireturn, 1) := by decide +kernel
theorem dX0_touchesRows_0 : decode cX0_touchesRows 0 = .ok (.aload_n 0, 1) := by decide +kernel
theorem dX0_touchesRows_1 : decode cX0_touchesRows 1 = .ok (.getfield 15, 3) := by decide +kernel
theorem dX0_touchesRows_4 : decode cX0_touchesRows 4 = .ok (.iload_n 1, 1) := by decide +kernel
theorem dX0_touchesRows_5 : decode cX0_touchesRows 5 = .ok (.iaload, 1) := by decide +kernel
theorem dX0_touchesRows_6 : decode cX0_touchesRows 6 = .ok (.iconst 4, 1) := by decide +kernel
theorem dX0_touchesRows_7 : decode cX0_touchesRows 7 = .ok (.if_icmp .eq 13, 3) := by decide +kernel
theorem dX0_touchesRows_10 : decode cX0_touchesRows 10 = .ok (.aload_n 0, 1) := by decide +kernel
theorem dX0_touchesRows_11 : decode cX0_touchesRows 11 = .ok (.getfield 15, 3) := by decide +kernel
theorem dX0_touchesRows_14 : decode cX0_touchesRows 14 = .ok (.iload_n 1, 1) := by decide +kernel
theorem dX0_touchesRows_15 : decode cX0_touchesRows 15 = .ok (.iaload, 1) := by decide +kernel
theorem dX0_touchesRows_16 : decode cX0_touchesRows 16 = .ok (.iconst 5, 1) := by decide +kernel
theorem dX0_touchesRows_17 : decode cX0_touchesRows 17 = .ok (.if_icmp .ne 7, 3) := by decide +kernel
theorem dX0_touchesRows_20 : decode cX0_touchesRows 20 = .ok (.iconst 1, 1) := by decide +kernel
theorem dX0_touchesRows_21 : decode cX0_touchesRows 21 = .ok (.goto 4, 3) := by decide +kernel
theorem dX0_touchesRows_24 : decode cX0_touchesRows 24 = .ok (.iconst 0, 1) := by decide +kernel
theorem dX0_touchesRows_25 : decode cX0_touchesRows 25 = .ok (.ireturn, 1) := by decide +kernel
theorem dX0_mayBeRefused_0 : decode cX0_mayBeRefused 0 = .ok (.aload_n 0, 1) := by decide +kernel
theorem dX0_mayBeRefused_1 : decode cX0_mayBeRefused 1 = .ok (.getfield 15, 3) := by decide +kernel
theorem dX0_mayBeRefused_4 : decode cX0_mayBeRefused 4 = .ok (.iload_n 1, 1) := by decide +kernel
theorem dX0_mayBeRefused_5 : decode cX0_mayBeRefused 5 = .ok (.iaload, 1) := by decide +kernel
theorem dX0_mayBeRefused_6 : decode cX0_mayBeRefused 6 = .ok (.iconst 3, 1) := by decide +kernel
theorem dX0_mayBeRefused_7 : decode cX0_mayBeRefused 7 = .ok (.if_icmp .eq 11, 3) := by decide +kernel
theorem dX0_mayBeRefused_10 : decode cX0_mayBeRefused 10 = .ok (.aload_n 0, 1) := by decide +kernel
theorem dX0_mayBeRefused_11 : decode cX0_mayBeRefused 11 = .ok (.iload_n 1, 1) := by decide +kernel
theorem dX0_mayBeRefused_12 : decode cX0_mayBeRefused 12 = .ok (.invokevirtual 85, 3) := by decide +kernel
theorem dX0_mayBeRefused_15 : decode cX0_mayBeRefused 15 = .ok (.ifCond .eq 7, 3) := by decide +kernel
theorem dX0_mayBeRefused_18 : decode cX0_mayBeRefused 18 = .ok (.iconst 1, 1) := by decide +kernel
theorem dX0_mayBeRefused_19 : decode cX0_mayBeRefused 19 = .ok (.goto 4, 3) := by decide +kernel
theorem dX0_mayBeRefused_22 : decode cX0_mayBeRefused 22 = .ok (.iconst 0, 1) := by decide +kernel
theorem dX0_mayBeRefused_23 : decode cX0_mayBeRefused 23 = .ok (.ireturn, 1) := by decide +kernel
theorem dX0_clash_0 : decode cX0_clash 0 = .ok (.aload_n 0, 1) := by decide +kernel
theorem dX0_clash_1 : decode cX0_clash 1 = .ok (.iload_n 1, 1) := by decide +kernel
theorem dX0_clash_2 : decode cX0_clash 2 = .ok (.invokevirtual 85, 3) := by decide +kernel
theorem dX0_clash_5 : decode cX0_clash 5 = .ok (.ifCond .eq 50, 3) := by decide +kernel
theorem dX0_clash_8 : decode cX0_clash 8 = .ok (.aload_n 0, 1) := by decide +kernel
theorem dX0_clash_9 : decode cX0_clash 9 = .ok (.iload_n 2, 1) := by decide +kernel
theorem dX0_clash_10 : decode cX0_clash 10 = .ok (.invokevirtual 85, 3) := by decide +kernel
theorem dX0_clash_13 : decode cX0_clash 13 = .ok (.ifCond .eq 42, 3) := by decide +kernel
theorem dX0_clash_16 : decode cX0_clash 16 = .ok (.aload_n 0, 1) := by decide +kernel
theorem dX0_clash_17 : decode cX0_clash 17 = .ok (.getfield 28, 3) := by decide +kernel
theorem dX0_clash_20 : decode cX0_clash 20 = .ok (.iload_n 1, 1) := by decide +kernel
theorem dX0_clash_21 : decode cX0_clash 21 = .ok (.iaload, 1) := by decide +kernel
theorem dX0_clash_22 : decode cX0_clash 22 = .ok (.aload_n 0, 1) := by decide +kernel
theorem dX0_clash_23 : decode cX0_clash 23 = .ok (.getfield 28, 3) := by decide +kernel
theorem dX0_clash_26 : decode cX0_clash 26 = .ok (.iload_n 2, 1) := by decide +kernel
theorem dX0_clash_27 : decode cX0_clash 27 = .ok (.iaload, 1) := by decide +kernel
theorem dX0_clash_28 : decode cX0_clash 28 = .ok (.if_icmp .ne 27, 3) := by decide +kernel
theorem dX0_clash_31 : decode cX0_clash 31 = .ok (.aload_n 0, 1) := by decide +kernel
theorem dX0_clash_32 : decode cX0_clash 32 = .ok (.getfield 15, 3) := by decide +kernel
theorem dX0_clash_35 : decode cX0_clash 35 = .ok (.iload_n 1, 1) := by decide +kernel
theorem dX0_clash_36 : decode cX0_clash 36 = .ok (.iaload, 1) := by decide +kernel
theorem dX0_clash_37 : decode cX0_clash 37 = .ok (.iconst 5, 1) := by decide +kernel
theorem dX0_clash_38 : decode cX0_clash 38 = .ok (.if_icmp .eq 13, 3) := by decide +kernel
theorem dX0_clash_41 : decode cX0_clash 41 = .ok (.aload_n 0, 1) := by decide +kernel
theorem dX0_clash_42 : decode cX0_clash 42 = .ok (.getfield 15, 3) := by decide +kernel
theorem dX0_clash_45 : decode cX0_clash 45 = .ok (.iload_n 2, 1) := by decide +kernel
theorem dX0_clash_46 : decode cX0_clash 46 = .ok (.iaload, 1) := by decide +kernel
theorem dX0_clash_47 : decode cX0_clash 47 = .ok (.iconst 5, 1) := by decide +kernel
theorem dX0_clash_48 : decode cX0_clash 48 = .ok (.if_icmp .ne 7, 3) := by decide +kernel
theorem dX0_clash_51 : decode cX0_clash 51 = .ok (.iconst 1, 1) := by decide +kernel
theorem dX0_clash_52 : decode cX0_clash 52 = .ok (.goto 4, 3) := by decide +kernel
theorem dX0_clash_55 : decode cX0_clash 55 = .ok (.iconst 0, 1) := by decide +kernel
theorem dX0_clash_56 : decode cX0_clash 56 = .ok (.ireturn, 1) := by decide +kernel
theorem dX1_init_0 : decode cX1_init 0 = .ok (.aload_n 0, 1) := by decide +kernel
theorem dX1_init_1 : decode cX1_init 1 = .ok (.invokespecial 1, 3) := by decide +kernel
theorem dX1_init_4 : decode cX1_init 4 = .ok (.aload_n 0, 1) := by decide +kernel
theorem dX1_init_5 : decode cX1_init 5 = .ok (.iconst 0, 1) := by decide +kernel
theorem dX1_init_6 : decode cX1_init 6 = .ok (.putfield 7, 3) := by decide +kernel
theorem dX1_init_9 : decode cX1_init 9 = .ok (.iconst 0, 1) := by decide +kernel
theorem dX1_init_10 : decode cX1_init 10 = .ok (.iload_n 1, 1) := by decide +kernel
theorem dX1_init_11 : decode cX1_init 11 = .ok (.invokestatic 13, 3) := by decide +kernel
theorem dX1_init_14 : decode cX1_init 14 = .ok (.istore_n 2, 1) := by decide +kernel
theorem dX1_init_15 : decode cX1_init 15 = .ok (.aload_n 0, 1) := by decide +kernel
theorem dX1_init_16 : decode cX1_init 16 = .ok (.iload_n 2, 1) := by decide +kernel
theorem dX1_init_17 : decode cX1_init 17 = .ok (.newarray .int, 2) := by decide +kernel
theorem dX1_init_19 : decode cX1_init 19 = .ok (.putfield 19, 3) := by decide +kernel
theorem dX1_init_22 : decode cX1_init 22 = .ok (.aload_n 0, 1) := by decide +kernel
theorem dX1_init_23 : decode cX1_init 23 = .ok (.iload_n 2, 1) := by decide +kernel
theorem dX1_init_24 : decode cX1_init 24 = .ok (.newarray .int, 2) := by decide +kernel
theorem dX1_init_26 : decode cX1_init 26 = .ok (.putfield 23, 3) := by decide +kernel
theorem dX1_init_29 : decode cX1_init 29 = .ok (.aload_n 0, 1) := by decide +kernel
theorem dX1_init_30 : decode cX1_init 30 = .ok (.iload_n 2, 1) := by decide +kernel
theorem dX1_init_31 : decode cX1_init 31 = .ok (.newarray .int, 2) := by decide +kernel
theorem dX1_init_33 : decode cX1_init 33 = .ok (.putfield 26, 3) := by decide +kernel
theorem dX1_init_36 : decode cX1_init 36 = .ok (.aload_n 0, 1) := by decide +kernel
theorem dX1_init_37 : decode cX1_init 37 = .ok (.iload_n 2, 1) := by decide +kernel
theorem dX1_init_38 : decode cX1_init 38 = .ok (.newarray .int, 2) := by decide +kernel
theorem dX1_init_40 : decode cX1_init 40 = .ok (.putfield 29, 3) := by decide +kernel
theorem dX1_init_43 : decode cX1_init 43 = .ok (.return_, 1) := by decide +kernel
theorem dX1_join_0 : decode cX1_join 0 = .ok (.aload_n 0, 1) := by decide +kernel
theorem dX1_join_1 : decode cX1_join 1 = .ok (.getfield 7, 3) := by decide +kernel
theorem dX1_join_4 : decode cX1_join 4 = .ok (.aload_n 0, 1) := by decide +kernel
theorem dX1_join_5 : decode cX1_join 5 = .ok (.getfield 19, 3) := by decide +kernel
theorem dX1_join_8 : decode cX1_join 8 = .ok (.arraylength, 1) := by decide +kernel
theorem dX1_join_9 : decode cX1_join 9 = .ok (.if_icmp .lt 5, 3) := by decide +kernel
theorem dX1_join_12 : decode cX1_join 12 = .ok (.iconst 0, 1) := by decide +kernel
theorem dX1_join_13 : decode cX1_join 13 = .ok (.ireturn, 1) := by decide +kernel
theorem dX1_join_14 : decode cX1_join 14 = .ok (.aload_n 0, 1) := by decide +kernel
theorem dX1_join_15 : decode cX1_join 15 = .ok (.aload_n 0, 1) := by decide +kernel
theorem dX1_join_16 : decode cX1_join 16 = .ok (.getfield 7, 3) := by decide +kernel
theorem dX1_join_19 : decode cX1_join 19 = .ok (.iload_n 1, 1) := by decide +kernel
theorem dX1_join_20 : decode cX1_join 20 = .ok (.iload_n 2, 1) := by decide +kernel
theorem dX1_join_21 : decode cX1_join 21 = .ok (.iload_n 3, 1) := by decide +kernel
theorem dX1_join_22 : decode cX1_join 22 = .ok (.iload 4, 2) := by decide +kernel
theorem dX1_join_24 : decode cX1_join 24 = .ok (.invokevirtual 32, 3) := by decide +kernel
theorem dX1_join_27 : decode cX1_join 27 = .ok (.aload_n 0, 1) := by decide +kernel
theorem dX1_join_28 : decode cX1_join 28 = .ok (.dup, 1) := by decide +kernel
theorem dX1_join_29 : decode cX1_join 29 = .ok (.getfield 7, 3) := by decide +kernel
theorem dX1_join_32 : decode cX1_join 32 = .ok (.iconst 1, 1) := by decide +kernel
theorem dX1_join_33 : decode cX1_join 33 = .ok (.iadd, 1) := by decide +kernel
theorem dX1_join_34 : decode cX1_join 34 = .ok (.putfield 7, 3) := by decide +kernel
theorem dX1_join_37 : decode cX1_join 37 = .ok (.iconst 1, 1) := by decide +kernel
theorem dX1_join_38 : decode cX1_join 38 = .ok (.ireturn, 1) := by decide +kernel
theorem dX1_write_0 : decode cX1_write 0 = .ok (.aload_n 0, 1) := by decide +kernel
theorem dX1_write_1 : decode cX1_write 1 = .ok (.getfield 19, 3) := by decide +kernel
theorem dX1_write_4 : decode cX1_write 4 = .ok (.iload_n 1, 1) := by decide +kernel
theorem dX1_write_5 : decode cX1_write 5 = .ok (.iload_n 2, 1) := by decide +kernel
theorem dX1_write_6 : decode cX1_write 6 = .ok (.iastore, 1) := by decide +kernel
theorem dX1_write_7 : decode cX1_write 7 = .ok (.aload_n 0, 1) := by decide +kernel
theorem dX1_write_8 : decode cX1_write 8 = .ok (.getfield 23, 3) := by decide +kernel
theorem dX1_write_11 : decode cX1_write 11 = .ok (.iload_n 1, 1) := by decide +kernel
theorem dX1_write_12 : decode cX1_write 12 = .ok (.iload_n 3, 1) := by decide +kernel
theorem dX1_write_13 : decode cX1_write 13 = .ok (.iastore, 1) := by decide +kernel
theorem dX1_write_14 : decode cX1_write 14 = .ok (.aload_n 0, 1) := by decide +kernel
theorem dX1_write_15 : decode cX1_write 15 = .ok (.getfield 26, 3) := by decide +kernel
theorem dX1_write_18 : decode cX1_write 18 = .ok (.iload_n 1, 1) := by decide +kernel
theorem dX1_write_19 : decode cX1_write 19 = .ok (.iload 4, 2) := by decide +kernel
theorem dX1_write_21 : decode cX1_write 21 = .ok (.iastore, 1) := by decide +kernel
theorem dX1_write_22 : decode cX1_write 22 = .ok (.aload_n 0, 1) := by decide +kernel
theorem dX1_write_23 : decode cX1_write 23 = .ok (.getfield 29, 3) := by decide +kernel
theorem dX1_write_26 : decode cX1_write 26 = .ok (.iload_n 1, 1) := by decide +kernel
theorem dX1_write_27 : decode cX1_write 27 = .ok (.iload 5, 2) := by decide +kernel
theorem dX1_write_29 : decode cX1_write 29 = .ok (.iastore, 1) := by decide +kernel
theorem dX1_write_30 : decode cX1_write 30 = .ok (.return_, 1) := by decide +kernel
theorem dX1_joinAll_0 : decode cX1_joinAll 0 = .ok (.iconst 0, 1) := by decide +kernel
theorem dX1_joinAll_1 : decode cX1_joinAll 1 = .ok (.istore_n 2, 1) := by decide +kernel
theorem dX1_joinAll_2 : decode cX1_joinAll 2 = .ok (.iload_n 2, 1) := by decide +kernel
theorem dX1_joinAll_3 : decode cX1_joinAll 3 = .ok (.aload_n 1, 1) := by decide +kernel
theorem dX1_joinAll_4 : decode cX1_joinAll 4 = .ok (.getfield 7, 3) := by decide +kernel
theorem dX1_joinAll_7 : decode cX1_joinAll 7 = .ok (.if_icmp .ge 38, 3) := by decide +kernel
theorem dX1_joinAll_10 : decode cX1_joinAll 10 = .ok (.aload_n 0, 1) := by decide +kernel
theorem dX1_joinAll_11 : decode cX1_joinAll 11 = .ok (.aload_n 1, 1) := by decide +kernel
theorem dX1_joinAll_12 : decode cX1_joinAll 12 = .ok (.getfield 19, 3) := by decide +kernel
theorem dX1_joinAll_15 : decode cX1_joinAll 15 = .ok (.iload_n 2, 1) := by decide +kernel
theorem dX1_joinAll_16 : decode cX1_joinAll 16 = .ok (.iaload, 1) := by decide +kernel
theorem dX1_joinAll_17 : decode cX1_joinAll 17 = .ok (.aload_n 1, 1) := by decide +kernel
theorem dX1_joinAll_18 : decode cX1_joinAll 18 = .ok (.getfield 23, 3) := by decide +kernel
theorem dX1_joinAll_21 : decode cX1_joinAll 21 = .ok (.iload_n 2, 1) := by decide +kernel
theorem dX1_joinAll_22 : decode cX1_joinAll 22 = .ok (.iaload, 1) := by decide +kernel
theorem dX1_joinAll_23 : decode cX1_joinAll 23 = .ok (.aload_n 1, 1) := by decide +kernel
theorem dX1_joinAll_24 : decode cX1_joinAll 24 = .ok (.getfield 26, 3) := by decide +kernel
theorem dX1_joinAll_27 : decode cX1_joinAll 27 = .ok (.iload_n 2, 1) := by decide +kernel
theorem dX1_joinAll_28 : decode cX1_joinAll 28 = .ok (.iaload, 1) := by decide +kernel
theorem dX1_joinAll_29 : decode cX1_joinAll 29 = .ok (.aload_n 1, 1) := by decide +kernel
theorem dX1_joinAll_30 : decode cX1_joinAll 30 = .ok (.getfield 29, 3) := by decide +kernel
theorem dX1_joinAll_33 : decode cX1_joinAll 33 = .ok (.iload_n 2, 1) := by decide +kernel
theorem dX1_joinAll_34 : decode cX1_joinAll 34 = .ok (.iaload, 1) := by decide +kernel
theorem dX1_joinAll_35 : decode cX1_joinAll 35 = .ok (.invokevirtual 36, 3) := by decide +kernel
theorem dX1_joinAll_38 : decode cX1_joinAll 38 = .ok (.pop, 1) := by decide +kernel
theorem dX1_joinAll_39 : decode cX1_joinAll 39 = .ok (.iinc 2 1, 3) := by decide +kernel
theorem dX1_joinAll_42 : decode cX1_joinAll 42 = .ok (.goto (-40), 3) := by decide +kernel
theorem dX1_joinAll_45 : decode cX1_joinAll 45 = .ok (.return_, 1) := by decide +kernel
theorem dX1_dropAct_0 : decode cX1_dropAct 0 = .ok (.iconst 0, 1) := by decide +kernel
theorem dX1_dropAct_1 : decode cX1_dropAct 1 = .ok (.istore_n 2, 1) := by decide +kernel
theorem dX1_dropAct_2 : decode cX1_dropAct 2 = .ok (.iconst 0, 1) := by decide +kernel
theorem dX1_dropAct_3 : decode cX1_dropAct 3 = .ok (.istore_n 3, 1) := by decide +kernel
theorem dX1_dropAct_4 : decode cX1_dropAct 4 = .ok (.iload_n 3, 1) := by decide +kernel
theorem dX1_dropAct_5 : decode cX1_dropAct 5 = .ok (.aload_n 0, 1) := by decide +kernel
theorem dX1_dropAct_6 : decode cX1_dropAct 6 = .ok (.getfield 7, 3) := by decide +kernel
theorem dX1_dropAct_9 : decode cX1_dropAct 9 = .ok (.if_icmp .ge 61, 3) := by decide +kernel
theorem dX1_dropAct_12 : decode cX1_dropAct 12 = .ok (.aload_n 0, 1) := by decide +kernel
theorem dX1_dropAct_13 : decode cX1_dropAct 13 = .ok (.getfield 19, 3) := by decide +kernel
theorem dX1_dropAct_16 : decode cX1_dropAct 16 = .ok (.iload_n 3, 1) := by decide +kernel
theorem dX1_dropAct_17 : decode cX1_dropAct 17 = .ok (.iaload, 1) := by decide +kernel
theorem dX1_dropAct_18 : decode cX1_dropAct 18 = .ok (.iload_n 1, 1) := by decide +kernel
theorem dX1_dropAct_19 : decode cX1_dropAct 19 = .ok (.if_icmp .eq 45, 3) := by decide +kernel
theorem dX1_dropAct_22 : decode cX1_dropAct 22 = .ok (.aload_n 0, 1) := by decide +kernel
theorem dX1_dropAct_23 : decode cX1_dropAct 23 = .ok (.getfield 23, 3) := by decide +kernel
theorem dX1_dropAct_26 : decode cX1_dropAct 26 = .ok (.iload_n 3, 1) := by decide +kernel
theorem dX1_dropAct_27 : decode cX1_dropAct 27 = .ok (.iaload, 1) := by decide +kernel
theorem dX1_dropAct_28 : decode cX1_dropAct 28 = .ok (.iload_n 1, 1) := by decide +kernel
theorem dX1_dropAct_29 : decode cX1_dropAct 29 = .ok (.if_icmp .eq 35, 3) := by decide +kernel
theorem dX1_dropAct_32 : decode cX1_dropAct 32 = .ok (.aload_n 0, 1) := by decide +kernel
theorem dX1_dropAct_33 : decode cX1_dropAct 33 = .ok (.iload_n 2, 1) := by decide +kernel
theorem dX1_dropAct_34 : decode cX1_dropAct 34 = .ok (.aload_n 0, 1) := by decide +kernel
theorem dX1_dropAct_35 : decode cX1_dropAct 35 = .ok (.getfield 19, 3) := by decide +kernel
theorem dX1_dropAct_38 : decode cX1_dropAct 38 = .ok (.iload_n 3, 1) := by decide +kernel
theorem dX1_dropAct_39 : decode cX1_dropAct 39 = .ok (.iaload, 1) := by decide +kernel
theorem dX1_dropAct_40 : decode cX1_dropAct 40 = .ok (.aload_n 0, 1) := by decide +kernel
theorem dX1_dropAct_41 : decode cX1_dropAct 41 = .ok (.getfield 23, 3) := by decide +kernel
theorem dX1_dropAct_44 : decode cX1_dropAct 44 = .ok (.iload_n 3, 1) := by decide +kernel
theorem dX1_dropAct_45 : decode cX1_dropAct 45 = .ok (.iaload, 1) := by decide +kernel
theorem dX1_dropAct_46 : decode cX1_dropAct 46 = .ok (.aload_n 0, 1) := by decide +kernel
theorem dX1_dropAct_47 : decode cX1_dropAct 47 = .ok (.getfield 26, 3) := by decide +kernel
theorem dX1_dropAct_50 : decode cX1_dropAct 50 = .ok (.iload_n 3, 1) := by decide +kernel
theorem dX1_dropAct_51 : decode cX1_dropAct 51 = .ok (.iaload, 1) := by decide +kernel
theorem dX1_dropAct_52 : decode cX1_dropAct 52 = .ok (.aload_n 0, 1) := by decide +kernel
theorem dX1_dropAct_53 : decode cX1_dropAct 53 = .ok (.getfield 29, 3) := by decide +kernel
theorem dX1_dropAct_56 : decode cX1_dropAct 56 = .ok (.iload_n 3, 1) := by decide +kernel
theorem dX1_dropAct_57 : decode cX1_dropAct 57 = .ok (.iaload, 1) := by decide +kernel
theorem dX1_dropAct_58 : decode cX1_dropAct 58 = .ok (.invokevirtual 32, 3) := by decide +kernel
theorem dX1_dropAct_61 : decode cX1_dropAct 61 = .ok (.iinc 2 1, 3) := by decide +kernel
theorem dX1_dropAct_64 : decode cX1_dropAct 64 = .ok (.iinc 3 1, 3) := by decide +kernel
theorem dX1_dropAct_67 : decode cX1_dropAct 67 = .ok (.goto (-63), 3) := by decide +kernel
theorem dX1_dropAct_70 : decode cX1_dropAct 70 = .ok (.aload_n 0, 1) := by decide +kernel
theorem dX1_dropAct_71 : decode cX1_dropAct 71 = .ok (.iload_n 2, 1) := by decide +kernel
theorem dX1_dropAct_72 : decode cX1_dropAct 72 = .ok (.putfield 7, 3) := by decide +kernel
theorem dX1_dropAct_75 : decode cX1_dropAct 75 = .ok (.return_, 1) := by decide +kernel
theorem dX1_isAhead_0 : decode cX1_isAhead 0 = .ok (.aload_n 0, 1) := by decide +kernel
theorem dX1_isAhead_1 : decode cX1_isAhead 1 = .ok (.getfield 23, 3) := by decide +kernel
theorem dX1_isAhead_4 : decode cX1_isAhead 4 = .ok (.iload_n 1, 1) := by decide +kernel
theorem dX1_isAhead_5 : decode cX1_isAhead 5 = .ok (.iaload, 1) := by decide +kernel
theorem dX1_isAhead_6 : decode cX1_isAhead 6 = .ok (.aload_n 0, 1) := by decide +kernel
theorem dX1_isAhead_7 : decode cX1_isAhead 7 = .ok (.getfield 23, 3) := by decide +kernel
theorem dX1_isAhead_10 : decode cX1_isAhead 10 = .ok (.iload_n 2, 1) := by decide +kernel
theorem dX1_isAhead_11 : decode cX1_isAhead 11 = .ok (.iaload, 1) := by decide +kernel
theorem dX1_isAhead_12 : decode cX1_isAhead 12 = .ok (.if_icmp .eq 24, 3) := by decide +kernel
theorem dX1_isAhead_15 : decode cX1_isAhead 15 = .ok (.aload_n 0, 1) := by decide +kernel
theorem dX1_isAhead_16 : decode cX1_isAhead 16 = .ok (.getfield 23, 3) := by decide +kernel
theorem dX1_isAhead_19 : decode cX1_isAhead 19 = .ok (.iload_n 1, 1) := by decide +kernel
theorem dX1_isAhead_20 : decode cX1_isAhead 20 = .ok (.iaload, 1) := by decide +kernel
theorem dX1_isAhead_21 : decode cX1_isAhead 21 = .ok (.aload_n 0, 1) := by decide +kernel
theorem dX1_isAhead_22 : decode cX1_isAhead 22 = .ok (.getfield 23, 3) := by decide +kernel
theorem dX1_isAhead_25 : decode cX1_isAhead 25 = .ok (.iload_n 2, 1) := by decide +kernel
theorem dX1_isAhead_26 : decode cX1_isAhead 26 = .ok (.iaload, 1) := by decide +kernel
theorem dX1_isAhead_27 : decode cX1_isAhead 27 = .ok (.if_icmp .ge 7, 3) := by decide +kernel
theorem dX1_isAhead_30 : decode cX1_isAhead 30 = .ok (.iconst 1, 1) := by decide +kernel
theorem dX1_isAhead_31 : decode cX1_isAhead 31 = .ok (.goto 4, 3) := by decide +kernel
theorem dX1_isAhead_34 : decode cX1_isAhead 34 = .ok (.iconst 0, 1) := by decide +kernel
theorem dX1_isAhead_35 : decode cX1_isAhead 35 = .ok (.ireturn, 1) := by decide +kernel
theorem dX1_isAhead_36 : decode cX1_isAhead 36 = .ok (.aload_n 0, 1) := by decide +kernel
theorem dX1_isAhead_37 : decode cX1_isAhead 37 = .ok (.getfield 19, 3) := by decide +kernel
theorem dX1_isAhead_40 : decode cX1_isAhead 40 = .ok (.iload_n 1, 1) := by decide +kernel
theorem dX1_isAhead_41 : decode cX1_isAhead 41 = .ok (.iaload, 1) := by decide +kernel
theorem dX1_isAhead_42 : decode cX1_isAhead 42 = .ok (.aload_n 0, 1) := by decide +kernel
theorem dX1_isAhead_43 : decode cX1_isAhead 43 = .ok (.getfield 19, 3) := by decide +kernel
theorem dX1_isAhead_46 : decode cX1_isAhead 46 = .ok (.iload_n 2, 1) := by decide +kernel
theorem dX1_isAhead_47 : decode cX1_isAhead 47 = .ok (.iaload, 1) := by decide +kernel
theorem dX1_isAhead_48 : decode cX1_isAhead 48 = .ok (.if_icmp .eq 24, 3) := by decide +kernel
theorem dX1_isAhead_51 : decode cX1_isAhead 51 = .ok (.aload_n 0, 1) := by decide +kernel
theorem dX1_isAhead_52 : decode cX1_isAhead 52 = .ok (.getfield 19, 3) := by decide +kernel
theorem dX1_isAhead_55 : decode cX1_isAhead 55 = .ok (.iload_n 1, 1) := by decide +kernel
theorem dX1_isAhead_56 : decode cX1_isAhead 56 = .ok (.iaload, 1) := by decide +kernel
theorem dX1_isAhead_57 : decode cX1_isAhead 57 = .ok (.aload_n 0, 1) := by decide +kernel
theorem dX1_isAhead_58 : decode cX1_isAhead 58 = .ok (.getfield 19, 3) := by decide +kernel
theorem dX1_isAhead_61 : decode cX1_isAhead 61 = .ok (.iload_n 2, 1) := by decide +kernel
theorem dX1_isAhead_62 : decode cX1_isAhead 62 = .ok (.iaload, 1) := by decide +kernel
theorem dX1_isAhead_63 : decode cX1_isAhead 63 = .ok (.if_icmp .ge 7, 3) := by decide +kernel
theorem dX1_isAhead_66 : decode cX1_isAhead 66 = .ok (.iconst 1, 1) := by decide +kernel
theorem dX1_isAhead_67 : decode cX1_isAhead 67 = .ok (.goto 4, 3) := by decide +kernel
theorem dX1_isAhead_70 : decode cX1_isAhead 70 = .ok (.iconst 0, 1) := by decide +kernel
theorem dX1_isAhead_71 : decode cX1_isAhead 71 = .ok (.ireturn, 1) := by decide +kernel
theorem dX1_isAhead_72 : decode cX1_isAhead 72 = .ok (.aload_n 0, 1) := by decide +kernel
theorem dX1_isAhead_73 : decode cX1_isAhead 73 = .ok (.getfield 26, 3) := by decide +kernel
theorem dX1_isAhead_76 : decode cX1_isAhead 76 = .ok (.iload_n 1, 1) := by decide +kernel
theorem dX1_isAhead_77 : decode cX1_isAhead 77 = .ok (.iaload, 1) := by decide +kernel
theorem dX1_isAhead_78 : decode cX1_isAhead 78 = .ok (.aload_n 0, 1) := by decide +kernel
theorem dX1_isAhead_79 : decode cX1_isAhead 79 = .ok (.getfield 26, 3) := by decide +kernel
theorem dX1_isAhead_82 : decode cX1_isAhead 82 = .ok (.iload_n 2, 1) := by decide +kernel
theorem dX1_isAhead_83 : decode cX1_isAhead 83 = .ok (.iaload, 1) := by decide +kernel
theorem dX1_isAhead_84 : decode cX1_isAhead 84 = .ok (.if_icmp .eq 24, 3) := by decide +kernel
theorem dX1_isAhead_87 : decode cX1_isAhead 87 = .ok (.aload_n 0, 1) := by decide +kernel
theorem dX1_isAhead_88 : decode cX1_isAhead 88 = .ok (.getfield 26, 3) := by decide +kernel
theorem dX1_isAhead_91 : decode cX1_isAhead 91 = .ok (.iload_n 1, 1) := by decide +kernel
theorem dX1_isAhead_92 : decode cX1_isAhead 92 = .ok (.iaload, 1) := by decide +kernel
theorem dX1_isAhead_93 : decode cX1_isAhead 93 = .ok (.aload_n 0, 1) := by decide +kernel
theorem dX1_isAhead_94 : decode cX1_isAhead 94 = .ok (.getfield 26, 3) := by decide +kernel
theorem dX1_isAhead_97 : decode cX1_isAhead 97 = .ok (.iload_n 2, 1) := by decide +kernel
theorem dX1_isAhead_98 : decode cX1_isAhead 98 = .ok (.iaload, 1) := by decide +kernel
theorem dX1_isAhead_99 : decode cX1_isAhead 99 = .ok (.if_icmp .ge 7, 3) := by decide +kernel
theorem dX1_isAhead_102 : decode cX1_isAhead 102 = .ok (.iconst 1, 1) := by decide +kernel
theorem dX1_isAhead_103 : decode cX1_isAhead 103 = .ok (.goto 4, 3) := by decide +kernel
theorem dX1_isAhead_106 : decode cX1_isAhead 106 = .ok (.iconst 0, 1) := by decide +kernel
theorem dX1_isAhead_107 : decode cX1_isAhead 107 = .ok (.ireturn, 1) := by decide +kernel
theorem dX1_isAhead_108 : decode cX1_isAhead 108 = .ok (.aload_n 0, 1) := by decide +kernel
theorem dX1_isAhead_109 : decode cX1_isAhead 109 = .ok (.getfield 29, 3) := by decide +kernel
theorem dX1_isAhead_112 : decode cX1_isAhead 112 = .ok (.iload_n 1, 1) := by decide +kernel
theorem dX1_isAhead_113 : decode cX1_isAhead 113 = .ok (.iaload, 1) := by decide +kernel
theorem dX1_isAhead_114 : decode cX1_isAhead 114 = .ok (.aload_n 0, 1) := by decide +kernel
theorem dX1_isAhead_115 : decode cX1_isAhead 115 = .ok (.getfield 29, 3) := by decide +kernel
theorem dX1_isAhead_118 : decode cX1_isAhead 118 = .ok (.iload_n 2, 1) := by decide +kernel
theorem dX1_isAhead_119 : decode cX1_isAhead 119 = .ok (.iaload, 1) := by decide +kernel
theorem dX1_isAhead_120 : decode cX1_isAhead 120 = .ok (.if_icmp .ge 7, 3) := by decide +kernel
theorem dX1_isAhead_123 : decode cX1_isAhead 123 = .ok (.iconst 1, 1) := by decide +kernel
theorem dX1_isAhead_124 : decode cX1_isAhead 124 = .ok (.goto 4, 3) := by decide +kernel
theorem dX1_isAhead_127 : decode cX1_isAhead 127 = .ok (.iconst 0, 1) := by decide +kernel
theorem dX1_isAhead_128 : decode cX1_isAhead 128 = .ok (.ireturn, 1) := by decide +kernel
theorem dX2_init_0 : decode cX2_init 0 = .ok (.aload_n 0, 1) := by decide +kernel
theorem dX2_init_1 : decode cX2_init 1 = .ok (.invokespecial 3, 3) := by decide +kernel
theorem dX2_init_4 : decode cX2_init 4 = .ok (.aload_n 0, 1) := by decide +kernel
theorem dX2_init_5 : decode cX2_init 5 = .ok (.sipush 360, 3) := by decide +kernel
theorem dX2_init_8 : decode cX2_init 8 = .ok (.newarray .int, 2) := by decide +kernel
theorem dX2_init_10 : decode cX2_init 10 = .ok (.putfield 9, 3) := by decide +kernel
theorem dX2_init_13 : decode cX2_init 13 = .ok (.return_, 1) := by decide +kernel
theorem dX2_clear_0 : decode cX2_clear 0 = .ok (.aload_n 0, 1) := by decide +kernel
theorem dX2_clear_1 : decode cX2_clear 1 = .ok (.getfield 9, 3) := by decide +kernel
theorem dX2_clear_4 : decode cX2_clear 4 = .ok (.iconst 0, 1) := by decide +kernel
theorem dX2_clear_5 : decode cX2_clear 5 = .ok (.invokestatic 15, 3) := by decide +kernel
theorem dX2_clear_8 : decode cX2_clear 8 = .ok (.return_, 1) := by decide +kernel
theorem dX2_at_0 : decode cX2_at 0 = .ok (.aload_n 0, 1) := by decide +kernel
theorem dX2_at_1 : decode cX2_at 1 = .ok (.getfield 9, 3) := by decide +kernel
theorem dX2_at_4 : decode cX2_at 4 = .ok (.iload_n 1, 1) := by decide +kernel
theorem dX2_at_5 : decode cX2_at 5 = .ok (.bipush 60, 2) := by decide +kernel
theorem dX2_at_7 : decode cX2_at 7 = .ok (.imul, 1) := by decide +kernel
theorem dX2_at_8 : decode cX2_at 8 = .ok (.iload_n 2, 1) := by decide +kernel
theorem dX2_at_9 : decode cX2_at 9 = .ok (.iadd, 1) := by decide +kernel
theorem dX2_at_10 : decode cX2_at 10 = .ok (.iaload, 1) := by decide +kernel
theorem dX2_at_11 : decode cX2_at 11 = .ok (.ireturn, 1) := by decide +kernel
theorem dX2_change_0 : decode cX2_change 0 = .ok (.iconst 0, 1) := by decide +kernel
theorem dX2_change_1 : decode cX2_change 1 = .ok (.istore 6, 2) := by decide +kernel
theorem dX2_change_3 : decode cX2_change 3 = .ok (.iload 4, 2) := by decide +kernel
theorem dX2_change_5 : decode cX2_change 5 = .ok (.iconst 1, 1) := by decide +kernel
theorem dX2_change_6 : decode cX2_change 6 = .ok (.if_icmp .ge 6, 3) := by decide +kernel
theorem dX2_change_9 : decode cX2_change 9 = .ok (.iload 6, 2) := by decide +kernel
theorem dX2_change_11 : decode cX2_change 11 = .ok (.ireturn, 1) := by decide +kernel
theorem dX2_change_12 : decode cX2_change 12 = .ok (.aload_n 1, 1) := by decide +kernel
theorem dX2_change_13 : decode cX2_change 13 = .ok (.getfield 21, 3) := by decide +kernel
theorem dX2_change_16 : decode cX2_change 16 = .ok (.iload_n 2, 1) := by decide +kernel
theorem dX2_change_17 : decode cX2_change 17 = .ok (.iaload, 1) := by decide +kernel
theorem dX2_change_18 : decode cX2_change 18 = .ok (.istore 7, 2) := by decide +kernel
theorem dX2_change_20 : decode cX2_change 20 = .ok (.aload_n 1, 1) := by decide +kernel
theorem dX2_change_21 : decode cX2_change 21 = .ok (.getfield 26, 3) := by decide +kernel
theorem dX2_change_24 : decode cX2_change 24 = .ok (.iload_n 2, 1) := by decide +kernel
theorem dX2_change_25 : decode cX2_change 25 = .ok (.iaload, 1) := by decide +kernel
theorem dX2_change_26 : decode cX2_change 26 = .ok (.bipush 60, 2) := by decide +kernel
theorem dX2_change_28 : decode cX2_change 28 = .ok (.imul, 1) := by decide +kernel
theorem dX2_change_29 : decode cX2_change 29 = .ok (.istore 8, 2) := by decide +kernel
theorem dX2_change_31 : decode cX2_change 31 = .ok (.iconst 0, 1) := by decide +kernel
theorem dX2_change_32 : decode cX2_change 32 = .ok (.istore 9, 2) := by decide +kernel
theorem dX2_change_34 : decode cX2_change 34 = .ok (.iload 9, 2) := by decide +kernel
theorem dX2_change_36 : decode cX2_change 36 = .ok (.bipush 8, 2) := by decide +kernel
theorem dX2_change_38 : decode cX2_change 38 = .ok (.if_icmp .ge 57, 3) := by decide +kernel
theorem dX2_change_41 : decode cX2_change 41 = .ok (.iload 7, 2) := by decide +kernel
theorem dX2_change_43 : decode cX2_change 43 = .ok (.iload 9, 2) := by decide +kernel
theorem dX2_change_45 : decode cX2_change 45 = .ok (.ishr, 1) := by decide +kernel
theorem dX2_change_46 : decode cX2_change 46 = .ok (.iconst 1, 1) := by decide +kernel
theorem dX2_change_47 : decode cX2_change 47 = .ok (.iand, 1) := by decide +kernel
theorem dX2_change_48 : decode cX2_change 48 = .ok (.ifCond .eq 41, 3) := by decide +kernel
theorem dX2_change_51 : decode cX2_change 51 = .ok (.iload 8, 2) := by decide +kernel
theorem dX2_change_53 : decode cX2_change 53 = .ok (.iload_n 3, 1) := by decide +kernel
theorem dX2_change_54 : decode cX2_change 54 = .ok (.iload 9, 2) := by decide +kernel
theorem dX2_change_56 : decode cX2_change 56 = .ok (.iadd, 1) := by decide +kernel
theorem dX2_change_57 : decode cX2_change 57 = .ok (.iload 4, 2) := by decide +kernel
theorem dX2_change_59 : decode cX2_change 59 = .ok (.irem, 1) := by decide +kernel
theorem dX2_change_60 : decode cX2_change 60 = .ok (.iadd, 1) := by decide +kernel
theorem dX2_change_61 : decode cX2_change 61 = .ok (.istore 10, 2) := by decide +kernel
theorem dX2_change_63 : decode cX2_change 63 = .ok (.aload_n 0, 1) := by decide +kernel
theorem dX2_change_64 : decode cX2_change 64 = .ok (.getfield 9, 3) := by decide +kernel
theorem dX2_change_67 : decode cX2_change 67 = .ok (.iload 10, 2) := by decide +kernel
theorem dX2_change_69 : decode cX2_change 69 = .ok (.dup2, 1) := by decide +kernel
theorem dX2_change_70 : decode cX2_change 70 = .ok (.iaload, 1) := by decide +kernel
theorem dX2_change_71 : decode cX2_change 71 = .ok (.iload 5, 2) := by decide +kernel
theorem dX2_change_73 : decode cX2_change 73 = .ok (.iadd, 1) := by decide +kernel
theorem dX2_change_74 : decode cX2_change 74 = .ok (.iastore, 1) := by decide +kernel
theorem dX2_change_75 : decode cX2_change 75 = .ok (.iload 6, 2) := by decide +kernel
theorem dX2_change_77 : decode cX2_change 77 = .ok (.aload_n 0, 1) := by decide +kernel
theorem dX2_change_78 : decode cX2_change 78 = .ok (.getfield 9, 3) := by decide +kernel
theorem dX2_change_81 : decode cX2_change 81 = .ok (.iload 10, 2) := by decide +kernel
theorem dX2_change_83 : decode cX2_change 83 = .ok (.iaload, 1) := by decide +kernel
theorem dX2_change_84 : decode cX2_change 84 = .ok (.invokestatic 29, 3) := by decide +kernel
theorem dX2_change_87 : decode cX2_change 87 = .ok (.istore 6, 2) := by decide +kernel
theorem dX2_change_89 : decode cX2_change 89 = .ok (.iinc 9 1, 3) := by decide +kernel
theorem dX2_change_92 : decode cX2_change 92 = .ok (.goto (-58), 3) := by decide +kernel
theorem dX2_change_95 : decode cX2_change 95 = .ok (.iload 6, 2) := by decide +kernel
theorem dX2_change_97 : decode cX2_change 97 = .ok (.ireturn, 1) := by decide +kernel
theorem dX2_firstCrowded_0 : decode cX2_firstCrowded 0 = .ok (.iconst 0, 1) := by decide +kernel
theorem dX2_firstCrowded_1 : decode cX2_firstCrowded 1 = .ok (.istore 4, 2) := by decide +kernel
theorem dX2_firstCrowded_3 : decode cX2_firstCrowded 3 = .ok (.iload 4, 2) := by decide +kernel
theorem dX2_firstCrowded_5 : decode cX2_firstCrowded 5 = .ok (.iload_n 3, 1) := by decide +kernel
theorem dX2_firstCrowded_6 : decode cX2_firstCrowded 6 = .ok (.if_icmp .ge 28, 3) := by decide +kernel
theorem dX2_firstCrowded_9 : decode cX2_firstCrowded 9 = .ok (.aload_n 0, 1) := by decide +kernel
theorem dX2_firstCrowded_10 : decode cX2_firstCrowded 10 = .ok (.getfield 9, 3) := by decide +kernel
theorem dX2_firstCrowded_13 : decode cX2_firstCrowded 13 = .ok (.iload_n 1, 1) := by decide +kernel
theorem dX2_firstCrowded_14 : decode cX2_firstCrowded 14 = .ok (.bipush 60, 2) := by decide +kernel
theorem dX2_firstCrowded_16 : decode cX2_firstCrowded 16 = .ok (.imul, 1) := by decide +kernel
theorem dX2_firstCrowded_17 : decode cX2_firstCrowded 17 = .ok (.iload 4, 2) := by decide +kernel
theorem dX2_firstCrowded_19 : decode cX2_firstCrowded 19 = .ok (.iadd, 1) := by decide +kernel
theorem dX2_firstCrowded_20 : decode cX2_firstCrowded 20 = .ok (.iaload, 1) := by decide +kernel
theorem dX2_firstCrowded_21 : decode cX2_firstCrowded 21 = .ok (.iload_n 2, 1) := by decide +kernel
theorem dX2_firstCrowded_22 : decode cX2_firstCrowded 22 = .ok (.if_icmp .le 6, 3) := by decide +kernel
theorem dX2_firstCrowded_25 : decode cX2_firstCrowded 25 = .ok (.iload 4, 2) := by decide +kernel
theorem dX2_firstCrowded_27 : decode cX2_firstCrowded 27 = .ok (.ireturn, 1) := by decide +kernel
theorem dX2_firstCrowded_28 : decode cX2_firstCrowded 28 = .ok (.iinc 4 1, 3) := by decide +kernel
theorem dX2_firstCrowded_31 : decode cX2_firstCrowded 31 = .ok (.goto (-28), 3) := by decide +kernel
theorem dX2_firstCrowded_34 : decode cX2_firstCrowded 34 = .ok (.iconst (-1), 1) := by decide +kernel
theorem dX2_firstCrowded_35 : decode cX2_firstCrowded 35 = .ok (.ireturn, 1) := by decide +kernel
theorem dX3_init_0 : decode cX3_init 0 = .ok (.aload_n 0, 1) := by decide +kernel
theorem dX3_init_1 : decode cX3_init 1 = .ok (.invokespecial 3, 3) := by decide +kernel
theorem dX3_init_4 : decode cX3_init 4 = .ok (.aload_n 0, 1) := by decide +kernel
theorem dX3_init_5 : decode cX3_init 5 = .ok (.bipush 6, 2) := by decide +kernel
theorem dX3_init_7 : decode cX3_init 7 = .ok (.newarray .int, 2) := by decide +kernel
theorem dX3_init_9 : decode cX3_init 9 = .ok (.putfield 11, 3) := by decide +kernel
theorem dX3_init_12 : decode cX3_init 12 = .ok (.aload_n 0, 1) := by decide +kernel
theorem dX3_init_13 : decode cX3_init 13 = .ok (.new 15, 3) := by decide +kernel
theorem dX3_init_16 : decode cX3_init 16 = .ok (.dup, 1) := by decide +kernel
theorem dX3_init_17 : decode cX3_init 17 = .ok (.invokespecial 17, 3) := by decide +kernel
theorem dX3_init_20 : decode cX3_init 20 = .ok (.putfield 18, 3) := by decide +kernel
theorem dX3_init_23 : decode cX3_init 23 = .ok (.aload_n 0, 1) := by decide +kernel
theorem dX3_init_24 : decode cX3_init 24 = .ok (.getfield 11, 3) := by decide +kernel
theorem dX3_init_27 : decode cX3_init 27 = .ok (.iconst (-1), 1) := by decide +kernel
theorem dX3_init_28 : decode cX3_init 28 = .ok (.invokestatic 22, 3) := by decide +kernel
theorem dX3_init_31 : decode cX3_init 31 = .ok (.return_, 1) := by decide +kernel
theorem dX3_look_0 : decode cX3_look 0 = .ok (.aload_n 0, 1) := by decide +kernel
theorem dX3_look_1 : decode cX3_look 1 = .ok (.getfield 11, 3) := by decide +kernel
theorem dX3_look_4 : decode cX3_look 4 = .ok (.iconst (-1), 1) := by decide +kernel
theorem dX3_look_5 : decode cX3_look 5 = .ok (.invokestatic 22, 3) := by decide +kernel
theorem dX3_look_8 : decode cX3_look 8 = .ok (.aload_n 0, 1) := by decide +kernel
theorem dX3_look_9 : decode cX3_look 9 = .ok (.aload_n 2, 1) := by decide +kernel
theorem dX3_look_10 : decode cX3_look 10 = .ok (.aload_n 3, 1) := by decide +kernel
theorem dX3_look_11 : decode cX3_look 11 = .ok (.invokevirtual 28, 3) := by decide +kernel
theorem dX3_look_14 : decode cX3_look 14 = .ok (.istore 4, 2) := by decide +kernel
theorem dX3_look_16 : decode cX3_look 16 = .ok (.iload 4, 2) := by decide +kernel
theorem dX3_look_18 : decode cX3_look 18 = .ok (.iconst (-1), 1) := by decide +kernel
theorem dX3_look_19 : decode cX3_look 19 = .ok (.if_icmp .eq 57, 3) := by decide +kernel
theorem dX3_look_22 : decode cX3_look 22 = .ok (.aload_n 0, 1) := by decide +kernel
theorem dX3_look_23 : decode cX3_look 23 = .ok (.getfield 11, 3) := by decide +kernel
theorem dX3_look_26 : decode cX3_look 26 = .ok (.iconst 0, 1) := by decide +kernel
theorem dX3_look_27 : decode cX3_look 27 = .ok (.aload_n 2, 1) := by decide +kernel
theorem dX3_look_28 : decode cX3_look 28 = .ok (.getfield 32, 3) := by decide +kernel
theorem dX3_look_31 : decode cX3_look 31 = .ok (.iload 4, 2) := by decide +kernel
theorem dX3_look_33 : decode cX3_look 33 = .ok (.iaload, 1) := by decide +kernel
theorem dX3_look_34 : decode cX3_look 34 = .ok (.iastore, 1) := by decide +kernel
theorem dX3_look_35 : decode cX3_look 35 = .ok (.aload_n 0, 1) := by decide +kernel
theorem dX3_look_36 : decode cX3_look 36 = .ok (.getfield 11, 3) := by decide +kernel
theorem dX3_look_39 : decode cX3_look 39 = .ok (.iconst 1, 1) := by decide +kernel
theorem dX3_look_40 : decode cX3_look 40 = .ok (.aload_n 2, 1) := by decide +kernel
theorem dX3_look_41 : decode cX3_look 41 = .ok (.getfield 37, 3) := by decide +kernel
theorem dX3_look_44 : decode cX3_look 44 = .ok (.iload 4, 2) := by decide +kernel
theorem dX3_look_46 : decode cX3_look 46 = .ok (.iaload, 1) := by decide +kernel
theorem dX3_look_47 : decode cX3_look 47 = .ok (.iastore, 1) := by decide +kernel
theorem dX3_look_48 : decode cX3_look 48 = .ok (.aload_n 0, 1) := by decide +kernel
theorem dX3_look_49 : decode cX3_look 49 = .ok (.getfield 11, 3) := by decide +kernel
theorem dX3_look_52 : decode cX3_look 52 = .ok (.iconst 2, 1) := by decide +kernel
theorem dX3_look_53 : decode cX3_look 53 = .ok (.aload_n 2, 1) := by decide +kernel
theorem dX3_look_54 : decode cX3_look 54 = .ok (.getfield 40, 3) := by decide +kernel
theorem dX3_look_57 : decode cX3_look 57 = .ok (.iload 4, 2) := by decide +kernel
theorem dX3_look_59 : decode cX3_look 59 = .ok (.iaload, 1) := by decide +kernel
theorem dX3_look_60 : decode cX3_look 60 = .ok (.iastore, 1) := by decide +kernel
theorem dX3_look_61 : decode cX3_look 61 = .ok (.aload_n 0, 1) := by decide +kernel
theorem dX3_look_62 : decode cX3_look 62 = .ok (.getfield 11, 3) := by decide +kernel
theorem dX3_look_65 : decode cX3_look 65 = .ok (.iconst 3, 1) := by decide +kernel
theorem dX3_look_66 : decode cX3_look 66 = .ok (.aload_n 2, 1) := by decide +kernel
theorem dX3_look_67 : decode cX3_look 67 = .ok (.getfield 43, 3) := by decide +kernel
theorem dX3_look_70 : decode cX3_look 70 = .ok (.iload 4, 2) := by decide +kernel
theorem dX3_look_72 : decode cX3_look 72 = .ok (.iaload, 1) := by decide +kernel
theorem dX3_look_73 : decode cX3_look 73 = .ok (.iastore, 1) := by decide +kernel
theorem dX3_look_74 : decode cX3_look 74 = .ok (.iconst 1, 1) := by decide +kernel
theorem dX3_look_75 : decode cX3_look 75 = .ok (.ireturn, 1) := by decide +kernel
theorem dX3_look_76 : decode cX3_look 76 = .ok (.aload_n 0, 1) := by decide +kernel
theorem dX3_look_77 : decode cX3_look 77 = .ok (.aload_n 1, 1) := by decide +kernel
theorem dX3_look_78 : decode cX3_look 78 = .ok (.aload_n 3, 1) := by decide +kernel
theorem dX3_look_79 : decode cX3_look 79 = .ok (.invokevirtual 46, 3) := by decide +kernel
theorem dX3_look_82 : decode cX3_look 82 = .ok (.ifCond .eq 7, 3) := by decide +kernel
theorem dX3_look_85 : decode cX3_look 85 = .ok (.iconst 2, 1) := by decide +kernel
theorem dX3_look_86 : decode cX3_look 86 = .ok (.goto 4, 3) := by decide +kernel
theorem dX3_look_89 : decode cX3_look 89 = .ok (.iconst 0, 1) := by decide +kernel
theorem dX3_look_90 : decode cX3_look 90 = .ok (.ireturn, 1) := by decide +kernel
theorem dX3_firstBroken_0 : decode cX3_firstBroken 0 = .ok (.iconst (-1), 1) := by decide +kernel
theorem dX3_firstBroken_1 : decode cX3_firstBroken 1 = .ok (.istore_n 3, 1) := by decide +kernel
theorem dX3_firstBroken_2 : decode cX3_firstBroken 2 = .ok (.iconst 0, 1) := by decide +kernel
theorem dX3_firstBroken_3 : decode cX3_firstBroken 3 = .ok (.istore 4, 2) := by decide +kernel
theorem dX3_firstBroken_5 : decode cX3_firstBroken 5 = .ok (.iload 4, 2) := by decide +kernel
theorem dX3_firstBroken_7 : decode cX3_firstBroken 7 = .ok (.aload_n 1, 1) := by decide +kernel
theorem dX3_firstBroken_8 : decode cX3_firstBroken 8 = .ok (.getfield 50, 3) := by decide +kernel
theorem dX3_firstBroken_11 : decode cX3_firstBroken 11 = .ok (.if_icmp .ge 91, 3) := by decide +kernel
theorem dX3_firstBroken_14 : decode cX3_firstBroken 14 = .ok (.aload_n 2, 1) := by decide +kernel
theorem dX3_firstBroken_15 : decode cX3_firstBroken 15 = .ok (.getfield 54, 3) := by decide +kernel
theorem dX3_firstBroken_18 : decode cX3_firstBroken 18 = .ok (.aload_n 1, 1) := by decide +kernel
theorem dX3_firstBroken_19 : decode cX3_firstBroken 19 = .ok (.getfield 37, 3) := by decide +kernel
theorem dX3_firstBroken_22 : decode cX3_firstBroken 22 = .ok (.iload 4, 2) := by decide +kernel
theorem dX3_firstBroken_24 : decode cX3_firstBroken 24 = .ok (.iaload, 1) := by decide +kernel
theorem dX3_firstBroken_25 : decode cX3_firstBroken 25 = .ok (.iaload, 1) := by decide +kernel
theorem dX3_firstBroken_26 : decode cX3_firstBroken 26 = .ok (.aload_n 2, 1) := by decide +kernel
theorem dX3_firstBroken_27 : decode cX3_firstBroken 27 = .ok (.getfield 54, 3) := by decide +kernel
theorem dX3_firstBroken_30 : decode cX3_firstBroken 30 = .ok (.aload_n 1, 1) := by decide +kernel
theorem dX3_firstBroken_31 : decode cX3_firstBroken 31 = .ok (.getfield 32, 3) := by decide +kernel
theorem dX3_firstBroken_34 : decode cX3_firstBroken 34 = .ok (.iload 4, 2) := by decide +kernel
theorem dX3_firstBroken_36 : decode cX3_firstBroken 36 = .ok (.iaload, 1) := by decide +kernel
theorem dX3_firstBroken_37 : decode cX3_firstBroken 37 = .ok (.iaload, 1) := by decide +kernel
theorem dX3_firstBroken_38 : decode cX3_firstBroken 38 = .ok (.isub, 1) := by decide +kernel
theorem dX3_firstBroken_39 : decode cX3_firstBroken 39 = .ok (.istore 5, 2) := by decide +kernel
theorem dX3_firstBroken_41 : decode cX3_firstBroken 41 = .ok (.iload 5, 2) := by decide +kernel
theorem dX3_firstBroken_43 : decode cX3_firstBroken 43 = .ok (.aload_n 2, 1) := by decide +kernel
theorem dX3_firstBroken_44 : decode cX3_firstBroken 44 = .ok (.getfield 59, 3) := by decide +kernel
theorem dX3_firstBroken_47 : decode cX3_firstBroken 47 = .ok (.aload_n 1, 1) := by decide +kernel
theorem dX3_firstBroken_48 : decode cX3_firstBroken 48 = .ok (.getfield 43, 3) := by decide +kernel
theorem dX3_firstBroken_51 : decode cX3_firstBroken 51 = .ok (.iload 4, 2) := by decide +kernel
theorem dX3_firstBroken_53 : decode cX3_firstBroken 53 = .ok (.iaload, 1) := by decide +kernel
theorem dX3_firstBroken_54 : decode cX3_firstBroken 54 = .ok (.imul, 1) := by decide +kernel
theorem dX3_firstBroken_55 : decode cX3_firstBroken 55 = .ok (.iadd, 1) := by decide +kernel
theorem dX3_firstBroken_56 : decode cX3_firstBroken 56 = .ok (.aload_n 1, 1) := by decide +kernel
theorem dX3_firstBroken_57 : decode cX3_firstBroken 57 = .ok (.getfield 40, 3) := by decide +kernel
theorem dX3_firstBroken_60 : decode cX3_firstBroken 60 = .ok (.iload 4, 2) := by decide +kernel
theorem dX3_firstBroken_62 : decode cX3_firstBroken 62 = .ok (.iaload, 1) := by decide +kernel
theorem dX3_firstBroken_63 : decode cX3_firstBroken 63 = .ok (.if_icmp .lt 7, 3) := by decide +kernel
theorem dX3_firstBroken_66 : decode cX3_firstBroken 66 = .ok (.iconst 1, 1) := by decide +kernel
theorem dX3_firstBroken_67 : decode cX3_firstBroken 67 = .ok (.goto 4, 3) := by decide +kernel
theorem dX3_firstBroken_70 : decode cX3_firstBroken 70 = .ok (.iconst 0, 1) := by decide +kernel
theorem dX3_firstBroken_71 : decode cX3_firstBroken 71 = .ok (.istore 6, 2) := by decide +kernel
theorem dX3_firstBroken_73 : decode cX3_firstBroken 73 = .ok (.iload 6, 2) := by decide +kernel
theorem dX3_firstBroken_75 : decode cX3_firstBroken 75 = .ok (.ifCond .ne 21, 3) := by decide +kernel
theorem dX3_firstBroken_78 : decode cX3_firstBroken 78 = .ok (.iload_n 3, 1) := by decide +kernel
theorem dX3_firstBroken_79 : decode cX3_firstBroken 79 = .ok (.iconst (-1), 1) := by decide +kernel
theorem dX3_firstBroken_80 : decode cX3_firstBroken 80 = .ok (.if_icmp .eq 13, 3) := by decide +kernel
theorem dX3_firstBroken_83 : decode cX3_firstBroken 83 = .ok (.aload_n 1, 1) := by decide +kernel
theorem dX3_firstBroken_84 : decode cX3_firstBroken 84 = .ok (.iload 4, 2) := by decide +kernel
theorem dX3_firstBroken_86 : decode cX3_firstBroken 86 = .ok (.iload_n 3, 1) := by decide +kernel
theorem dX3_firstBroken_87 : decode cX3_firstBroken 87 = .ok (.invokevirtual 62, 3) := by decide +kernel
theorem dX3_firstBroken_90 : decode cX3_firstBroken 90 = .ok (.ifCond .eq 6, 3) := by decide +kernel
theorem dX3_firstBroken_93 : decode cX3_firstBroken 93 = .ok (.iload 4, 2) := by decide +kernel
theorem dX3_firstBroken_95 : decode cX3_firstBroken 95 = .ok (.istore_n 3, 1) := by decide +kernel
theorem dX3_firstBroken_96 : decode cX3_firstBroken 96 = .ok (.iinc 4 1, 3) := by decide +kernel
theorem dX3_firstBroken_99 : decode cX3_firstBroken 99 = .ok (.goto (-94), 3) := by decide +kernel
theorem dX3_firstBroken_102 : decode cX3_firstBroken 102 = .ok (.iload_n 3, 1) := by decide +kernel
theorem dX3_firstBroken_103 : decode cX3_firstBroken 103 = .ok (.ireturn, 1) := by decide +kernel
theorem dX3_findCrowd_0 : decode cX3_findCrowd 0 = .ok (.aload_n 0, 1) := by decide +kernel
theorem dX3_findCrowd_1 : decode cX3_findCrowd 1 = .ok (.getfield 18, 3) := by decide +kernel
theorem dX3_findCrowd_4 : decode cX3_findCrowd 4 = .ok (.invokevirtual 66, 3) := by decide +kernel
theorem dX3_findCrowd_7 : decode cX3_findCrowd 7 = .ok (.iconst 0, 1) := by decide +kernel
theorem dX3_findCrowd_8 : decode cX3_findCrowd 8 = .ok (.istore_n 3, 1) := by decide +kernel
theorem dX3_findCrowd_9 : decode cX3_findCrowd 9 = .ok (.iload_n 3, 1) := by decide +kernel
theorem dX3_findCrowd_10 : decode cX3_findCrowd 10 = .ok (.aload_n 1, 1) := by decide +kernel
theorem dX3_findCrowd_11 : decode cX3_findCrowd 11 = .ok (.getfield 69, 3) := by decide +kernel
theorem dX3_findCrowd_14 : decode cX3_findCrowd 14 = .ok (.if_icmp .ge 30, 3) := by decide +kernel
theorem dX3_findCrowd_17 : decode cX3_findCrowd 17 = .ok (.aload_n 0, 1) := by decide +kernel
theorem dX3_findCrowd_18 : decode cX3_findCrowd 18 = .ok (.getfield 18, 3) := by decide +kernel
theorem dX3_findCrowd_21 : decode cX3_findCrowd 21 = .ok (.aload_n 1, 1) := by decide +kernel
theorem dX3_findCrowd_22 : decode cX3_findCrowd 22 = .ok (.iload_n 3, 1) := by decide +kernel
theorem dX3_findCrowd_23 : decode cX3_findCrowd 23 = .ok (.aload_n 2, 1) := by decide +kernel
theorem dX3_findCrowd_24 : decode cX3_findCrowd 24 = .ok (.getfield 54, 3) := by decide +kernel
theorem dX3_findCrowd_27 : decode cX3_findCrowd 27 = .ok (.iload_n 3, 1) := by decide +kernel
theorem dX3_findCrowd_28 : decode cX3_findCrowd 28 = .ok (.iaload, 1) := by decide +kernel
theorem dX3_findCrowd_29 : decode cX3_findCrowd 29 = .ok (.aload_n 2, 1) := by decide +kernel
theorem dX3_findCrowd_30 : decode cX3_findCrowd 30 = .ok (.getfield 59, 3) := by decide +kernel
theorem dX3_findCrowd_33 : decode cX3_findCrowd 33 = .ok (.iconst 1, 1) := by decide +kernel
theorem dX3_findCrowd_34 : decode cX3_findCrowd 34 = .ok (.invokevirtual 74, 3) := by decide +kernel
theorem dX3_findCrowd_37 : decode cX3_findCrowd 37 = .ok (.pop, 1) := by decide +kernel
theorem dX3_findCrowd_38 : decode cX3_findCrowd 38 = .ok (.iinc 3 1, 3) := by decide +kernel
theorem dX3_findCrowd_41 : decode cX3_findCrowd 41 = .ok (.goto (-32), 3) := by decide +kernel
theorem dX3_findCrowd_44 : decode cX3_findCrowd 44 = .ok (.iconst 0, 1) := by decide +kernel
theorem dX3_findCrowd_45 : decode cX3_findCrowd 45 = .ok (.istore_n 3, 1) := by decide +kernel
theorem dX3_findCrowd_46 : decode cX3_findCrowd 46 = .ok (.iload_n 3, 1) := by decide +kernel
theorem dX3_findCrowd_47 : decode cX3_findCrowd 47 = .ok (.bipush 6, 2) := by decide +kernel
theorem dX3_findCrowd_49 : decode cX3_findCrowd 49 = .ok (.if_icmp .ge 52, 3) := by decide +kernel
theorem dX3_findCrowd_52 : decode cX3_findCrowd 52 = .ok (.aload_n 0, 1) := by decide +kernel
theorem dX3_findCrowd_53 : decode cX3_findCrowd 53 = .ok (.getfield 18, 3) := by decide +kernel
theorem dX3_findCrowd_56 : decode cX3_findCrowd 56 = .ok (.iload_n 3, 1) := by decide +kernel
theorem dX3_findCrowd_57 : decode cX3_findCrowd 57 = .ok (.aload_n 1, 1) := by decide +kernel
theorem dX3_findCrowd_58 : decode cX3_findCrowd 58 = .ok (.getfield 78, 3) := by decide +kernel
theorem dX3_findCrowd_61 : decode cX3_findCrowd 61 = .ok (.iload_n 3, 1) := by decide +kernel
theorem dX3_findCrowd_62 : decode cX3_findCrowd 62 = .ok (.iaload, 1) := by decide +kernel
theorem dX3_findCrowd_63 : decode cX3_findCrowd 63 = .ok (.aload_n 2, 1) := by decide +kernel
theorem dX3_findCrowd_64 : decode cX3_findCrowd 64 = .ok (.getfield 59, 3) := by decide +kernel
theorem dX3_findCrowd_67 : decode cX3_findCrowd 67 = .ok (.invokevirtual 81, 3) := by decide +kernel
theorem dX3_findCrowd_70 : decode cX3_findCrowd 70 = .ok (.istore 4, 2) := by decide +kernel
theorem dX3_findCrowd_72 : decode cX3_findCrowd 72 = .ok (.iload 4, 2) := by decide +kernel
theorem dX3_findCrowd_74 : decode cX3_findCrowd 74 = .ok (.iconst (-1), 1) := by decide +kernel
theorem dX3_findCrowd_75 : decode cX3_findCrowd 75 = .ok (.if_icmp .eq 20, 3) := by decide +kernel
theorem dX3_findCrowd_78 : decode cX3_findCrowd 78 = .ok (.aload_n 0, 1) := by decide +kernel
theorem dX3_findCrowd_79 : decode cX3_findCrowd 79 = .ok (.getfield 11, 3) := by decide +kernel
theorem dX3_findCrowd_82 : decode cX3_findCrowd 82 = .ok (.iconst 4, 1) := by decide +kernel
theorem dX3_findCrowd_83 : decode cX3_findCrowd 83 = .ok (.iload_n 3, 1) := by decide +kernel
theorem dX3_findCrowd_84 : decode cX3_findCrowd 84 = .ok (.iastore, 1) := by decide +kernel
theorem dX3_findCrowd_85 : decode cX3_findCrowd 85 = .ok (.aload_n 0, 1) := by decide +kernel
theorem dX3_findCrowd_86 : decode cX3_findCrowd 86 = .ok (.getfield 11, 3) := by decide +kernel
theorem dX3_findCrowd_89 : decode cX3_findCrowd 89 = .ok (.iconst 5, 1) := by decide +kernel
theorem dX3_findCrowd_90 : decode cX3_findCrowd 90 = .ok (.iload 4, 2) := by decide +kernel
theorem dX3_findCrowd_92 : decode cX3_findCrowd 92 = .ok (.iastore, 1) := by decide +kernel
theorem dX3_findCrowd_93 : decode cX3_findCrowd 93 = .ok (.iconst 1, 1) := by decide +kernel
theorem dX3_findCrowd_94 : decode cX3_findCrowd 94 = .ok (.ireturn, 1) := by decide +kernel
theorem dX3_findCrowd_95 : decode cX3_findCrowd 95 = .ok (.iinc 3 1, 3) := by decide +kernel
theorem dX3_findCrowd_98 : decode cX3_findCrowd 98 = .ok (.goto (-52), 3) := by decide +kernel
theorem dX3_findCrowd_101 : decode cX3_findCrowd 101 = .ok (.iconst 0, 1) := by decide +kernel
theorem dX3_findCrowd_102 : decode cX3_findCrowd 102 = .ok (.ireturn, 1) := by decide +kernel
theorem dX4_init_0 : decode cX4_init 0 = .ok (.aload_n 0, 1) := by decide +kernel
theorem dX4_init_1 : decode cX4_init 1 = .ok (.invokespecial 3, 3) := by decide +kernel
theorem dX4_init_4 : decode cX4_init 4 = .ok (.aload_n 0, 1) := by decide +kernel
theorem dX4_init_5 : decode cX4_init 5 = .ok (.iconst 0, 1) := by decide +kernel
theorem dX4_init_6 : decode cX4_init 6 = .ok (.putfield 9, 3) := by decide +kernel
theorem dX4_init_9 : decode cX4_init 9 = .ok (.aload_n 0, 1) := by decide +kernel
theorem dX4_init_10 : decode cX4_init 10 = .ok (.iconst 1, 1) := by decide +kernel
theorem dX4_init_11 : decode cX4_init 11 = .ok (.putfield 15, 3) := by decide +kernel
theorem dX4_init_14 : decode cX4_init 14 = .ok (.aload_n 0, 1) := by decide +kernel
theorem dX4_init_15 : decode cX4_init 15 = .ok (.iconst 1, 1) := by decide +kernel
theorem dX4_init_16 : decode cX4_init 16 = .ok (.putfield 19, 3) := by decide +kernel
theorem dX4_init_19 : decode cX4_init 19 = .ok (.aload_n 0, 1) := by decide +kernel
theorem dX4_init_20 : decode cX4_init 20 = .ok (.bipush 16, 2) := by decide +kernel
theorem dX4_init_22 : decode cX4_init 22 = .ok (.newarray .int, 2) := by decide +kernel
theorem dX4_init_24 : decode cX4_init 24 = .ok (.putfield 22, 3) := by decide +kernel
theorem dX4_init_27 : decode cX4_init 27 = .ok (.aload_n 0, 1) := by decide +kernel
theorem dX4_init_28 : decode cX4_init 28 = .ok (.bipush 16, 2) := by decide +kernel
theorem dX4_init_30 : decode cX4_init 30 = .ok (.newarray .int, 2) := by decide +kernel
theorem dX4_init_32 : decode cX4_init 32 = .ok (.putfield 26, 3) := by decide +kernel
theorem dX4_init_35 : decode cX4_init 35 = .ok (.aload_n 0, 1) := by decide +kernel
theorem dX4_init_36 : decode cX4_init 36 = .ok (.bipush 16, 2) := by decide +kernel
theorem dX4_init_38 : decode cX4_init 38 = .ok (.newarray .int, 2) := by decide +kernel
theorem dX4_init_40 : decode cX4_init 40 = .ok (.putfield 29, 3) := by decide +kernel
theorem dX4_init_43 : decode cX4_init 43 = .ok (.aload_n 0, 1) := by decide +kernel
theorem dX4_init_44 : decode cX4_init 44 = .ok (.bipush 16, 2) := by decide +kernel
theorem dX4_init_46 : decode cX4_init 46 = .ok (.newarray .int, 2) := by decide +kernel
theorem dX4_init_48 : decode cX4_init 48 = .ok (.putfield 32, 3) := by decide +kernel
theorem dX4_init_51 : decode cX4_init 51 = .ok (.aload_n 0, 1) := by decide +kernel
theorem dX4_init_52 : decode cX4_init 52 = .ok (.bipush 16, 2) := by decide +kernel
theorem dX4_init_54 : decode cX4_init 54 = .ok (.newarray .int, 2) := by decide +kernel
theorem dX4_init_56 : decode cX4_init 56 = .ok (.putfield 35, 3) := by decide +kernel
theorem dX4_init_59 : decode cX4_init 59 = .ok (.aload_n 0, 1) := by decide +kernel
theorem dX4_init_60 : decode cX4_init 60 = .ok (.bipush 16, 2) := by decide +kernel
theorem dX4_init_62 : decode cX4_init 62 = .ok (.newarray .int, 2) := by decide +kernel
theorem dX4_init_64 : decode cX4_init 64 = .ok (.putfield 38, 3) := by decide +kernel
theorem dX4_init_67 : decode cX4_init 67 = .ok (.aload_n 0, 1) := by decide +kernel
theorem dX4_init_68 : decode cX4_init 68 = .ok (.bipush 16, 2) := by decide +kernel
theorem dX4_init_70 : decode cX4_init 70 = .ok (.newarray .int, 2) := by decide +kernel
theorem dX4_init_72 : decode cX4_init 72 = .ok (.putfield 41, 3) := by decide +kernel
theorem dX4_init_75 : decode cX4_init 75 = .ok (.aload_n 0, 1) := by decide +kernel
theorem dX4_init_76 : decode cX4_init 76 = .ok (.bipush 16, 2) := by decide +kernel
theorem dX4_init_78 : decode cX4_init 78 = .ok (.newarray .int, 2) := by decide +kernel
theorem dX4_init_80 : decode cX4_init 80 = .ok (.putfield 44, 3) := by decide +kernel
theorem dX4_init_83 : decode cX4_init 83 = .ok (.aload_n 0, 1) := by decide +kernel
theorem dX4_init_84 : decode cX4_init 84 = .ok (.new 47, 3) := by decide +kernel
theorem dX4_init_87 : decode cX4_init 87 = .ok (.dup, 1) := by decide +kernel
theorem dX4_init_88 : decode cX4_init 88 = .ok (.invokespecial 49, 3) := by decide +kernel
theorem dX4_init_91 : decode cX4_init 91 = .ok (.putfield 50, 3) := by decide +kernel
theorem dX4_init_94 : decode cX4_init 94 = .ok (.return_, 1) := by decide +kernel
theorem dX4_settle_0 : decode cX4_settle 0 = .ok (.aload_n 0, 1) := by decide +kernel
theorem dX4_settle_1 : decode cX4_settle 1 = .ok (.iconst 1, 1) := by decide +kernel
theorem dX4_settle_2 : decode cX4_settle 2 = .ok (.putfield 9, 3) := by decide +kernel
theorem dX4_settle_5 : decode cX4_settle 5 = .ok (.aload_n 0, 1) := by decide +kernel
theorem dX4_settle_6 : decode cX4_settle 6 = .ok (.iconst 1, 1) := by decide +kernel
theorem dX4_settle_7 : decode cX4_settle 7 = .ok (.aload_n 2, 1) := by decide +kernel
theorem dX4_settle_8 : decode cX4_settle 8 = .ok (.invokevirtual 54, 3) := by decide +kernel
theorem dX4_settle_11 : decode cX4_settle 11 = .ok (.invokestatic 59, 3) := by decide +kernel
theorem dX4_settle_14 : decode cX4_settle 14 = .ok (.putfield 15, 3) := by decide +kernel
theorem dX4_settle_17 : decode cX4_settle 17 = .ok (.aload_n 0, 1) := by decide +kernel
theorem dX4_settle_18 : decode cX4_settle 18 = .ok (.iconst 1, 1) := by decide +kernel
theorem dX4_settle_19 : decode cX4_settle 19 = .ok (.putfield 19, 3) := by decide +kernel
theorem dX4_settle_22 : decode cX4_settle 22 = .ok (.aload_n 0, 1) := by decide +kernel
theorem dX4_settle_23 : decode cX4_settle 23 = .ok (.getfield 50, 3) := by decide +kernel
theorem dX4_settle_26 : decode cX4_settle 26 = .ok (.invokevirtual 65, 3) := by decide +kernel
theorem dX4_settle_29 : decode cX4_settle 29 = .ok (.iconst 0, 1) := by decide +kernel
theorem dX4_settle_30 : decode cX4_settle 30 = .ok (.istore 4, 2) := by decide +kernel
theorem dX4_settle_32 : decode cX4_settle 32 = .ok (.iload 4, 2) := by decide +kernel
theorem dX4_settle_34 : decode cX4_settle 34 = .ok (.aload_n 1, 1) := by decide +kernel
theorem dX4_settle_35 : decode cX4_settle 35 = .ok (.getfield 68, 3) := by decide +kernel
theorem dX4_settle_38 : decode cX4_settle 38 = .ok (.if_icmp .ge 120, 3) := by decide +kernel
theorem dX4_settle_41 : decode cX4_settle 41 = .ok (.aload_n 0, 1) := by decide +kernel
theorem dX4_settle_42 : decode cX4_settle 42 = .ok (.getfield 22, 3) := by decide +kernel
theorem dX4_settle_45 : decode cX4_settle 45 = .ok (.iload 4, 2) := by decide +kernel
theorem dX4_settle_47 : decode cX4_settle 47 = .ok (.aload_n 2, 1) := by decide +kernel
theorem dX4_settle_48 : decode cX4_settle 48 = .ok (.getfield 73, 3) := by decide +kernel
theorem dX4_settle_51 : decode cX4_settle 51 = .ok (.iload 4, 2) := by decide +kernel
theorem dX4_settle_53 : decode cX4_settle 53 = .ok (.iaload, 1) := by decide +kernel
theorem dX4_settle_54 : decode cX4_settle 54 = .ok (.iastore, 1) := by decide +kernel
theorem dX4_settle_55 : decode cX4_settle 55 = .ok (.aload_n 0, 1) := by decide +kernel
theorem dX4_settle_56 : decode cX4_settle 56 = .ok (.getfield 26, 3) := by decide +kernel
theorem dX4_settle_59 : decode cX4_settle 59 = .ok (.iload 4, 2) := by decide +kernel
theorem dX4_settle_61 : decode cX4_settle 61 = .ok (.aload_n 2, 1) := by decide +kernel
theorem dX4_settle_62 : decode cX4_settle 62 = .ok (.iload 4, 2) := by decide +kernel
theorem dX4_settle_64 : decode cX4_settle 64 = .ok (.invokevirtual 74, 3) := by decide +kernel
theorem dX4_settle_67 : decode cX4_settle 67 = .ok (.iastore, 1) := by decide +kernel
theorem dX4_settle_68 : decode cX4_settle 68 = .ok (.aload_n 0, 1) := by decide +kernel
theorem dX4_settle_69 : decode cX4_settle 69 = .ok (.getfield 29, 3) := by decide +kernel
theorem dX4_settle_72 : decode cX4_settle 72 = .ok (.iload 4, 2) := by decide +kernel
theorem dX4_settle_74 : decode cX4_settle 74 = .ok (.aload_n 0, 1) := by decide +kernel
theorem dX4_settle_75 : decode cX4_settle 75 = .ok (.getfield 26, 3) := by decide +kernel
theorem dX4_settle_78 : decode cX4_settle 78 = .ok (.iload 4, 2) := by decide +kernel
theorem dX4_settle_80 : decode cX4_settle 80 = .ok (.iaload, 1) := by decide +kernel
theorem dX4_settle_81 : decode cX4_settle 81 = .ok (.aload_n 0, 1) := by decide +kernel
theorem dX4_settle_82 : decode cX4_settle 82 = .ok (.getfield 15, 3) := by decide +kernel
theorem dX4_settle_85 : decode cX4_settle 85 = .ok (.imul, 1) := by decide +kernel
theorem dX4_settle_86 : decode cX4_settle 86 = .ok (.aload_n 0, 1) := by decide +kernel
theorem dX4_settle_87 : decode cX4_settle 87 = .ok (.getfield 22, 3) := by decide +kernel
theorem dX4_settle_90 : decode cX4_settle 90 = .ok (.iload 4, 2) := by decide +kernel
theorem dX4_settle_92 : decode cX4_settle 92 = .ok (.iaload, 1) := by decide +kernel
theorem dX4_settle_93 : decode cX4_settle 93 = .ok (.iadd, 1) := by decide +kernel
theorem dX4_settle_94 : decode cX4_settle 94 = .ok (.iastore, 1) := by decide +kernel
theorem dX4_settle_95 : decode cX4_settle 95 = .ok (.aload_n 0, 1) := by decide +kernel
theorem dX4_settle_96 : decode cX4_settle 96 = .ok (.getfield 32, 3) := by decide +kernel
theorem dX4_settle_99 : decode cX4_settle 99 = .ok (.iload 4, 2) := by decide +kernel
theorem dX4_settle_101 : decode cX4_settle 101 = .ok (.aload_n 0, 1) := by decide +kernel
theorem dX4_settle_102 : decode cX4_settle 102 = .ok (.getfield 29, 3) := by decide +kernel
theorem dX4_settle_105 : decode cX4_settle 105 = .ok (.iload 4, 2) := by decide +kernel
theorem dX4_settle_107 : decode cX4_settle 107 = .ok (.iaload, 1) := by decide +kernel
theorem dX4_settle_108 : decode cX4_settle 108 = .ok (.iastore, 1) := by decide +kernel
theorem dX4_settle_109 : decode cX4_settle 109 = .ok (.aload_n 0, 1) := by decide +kernel
theorem dX4_settle_110 : decode cX4_settle 110 = .ok (.aload_n 0, 1) := by decide +kernel
theorem dX4_settle_111 : decode cX4_settle 111 = .ok (.getfield 19, 3) := by decide +kernel
theorem dX4_settle_114 : decode cX4_settle 114 = .ok (.iconst 1, 1) := by decide +kernel
theorem dX4_settle_115 : decode cX4_settle 115 = .ok (.aload_n 0, 1) := by decide +kernel
theorem dX4_settle_116 : decode cX4_settle 116 = .ok (.getfield 26, 3) := by decide +kernel
theorem dX4_settle_119 : decode cX4_settle 119 = .ok (.iload 4, 2) := by decide +kernel
theorem dX4_settle_121 : decode cX4_settle 121 = .ok (.iaload, 1) := by decide +kernel
theorem dX4_settle_122 : decode cX4_settle 122 = .ok (.iadd, 1) := by decide +kernel
theorem dX4_settle_123 : decode cX4_settle 123 = .ok (.invokestatic 59, 3) := by decide +kernel
theorem dX4_settle_126 : decode cX4_settle 126 = .ok (.putfield 19, 3) := by decide +kernel
theorem dX4_settle_129 : decode cX4_settle 129 = .ok (.aload_n 0, 1) := by decide +kernel
theorem dX4_settle_130 : decode cX4_settle 130 = .ok (.getfield 50, 3) := by decide +kernel
theorem dX4_settle_133 : decode cX4_settle 133 = .ok (.aload_n 1, 1) := by decide +kernel
theorem dX4_settle_134 : decode cX4_settle 134 = .ok (.iload 4, 2) := by decide +kernel
theorem dX4_settle_136 : decode cX4_settle 136 = .ok (.aload_n 0, 1) := by decide +kernel
theorem dX4_settle_137 : decode cX4_settle 137 = .ok (.getfield 22, 3) := by decide +kernel
theorem dX4_settle_140 : decode cX4_settle 140 = .ok (.iload 4, 2) := by decide +kernel
theorem dX4_settle_142 : decode cX4_settle 142 = .ok (.iaload, 1) := by decide +kernel
theorem dX4_settle_143 : decode cX4_settle 143 = .ok (.aload_n 0, 1) := by decide +kernel
theorem dX4_settle_144 : decode cX4_settle 144 = .ok (.getfield 15, 3) := by decide +kernel
theorem dX4_settle_147 : decode cX4_settle 147 = .ok (.iconst 1, 1) := by decide +kernel
theorem dX4_settle_148 : decode cX4_settle 148 = .ok (.invokevirtual 78, 3) := by decide +kernel
theorem dX4_settle_151 : decode cX4_settle 151 = .ok (.pop, 1) := by decide +kernel
theorem dX4_settle_152 : decode cX4_settle 152 = .ok (.iinc 4 1, 3) := by decide +kernel
theorem dX4_settle_155 : decode cX4_settle 155 = .ok (.goto (-123), 3) := by decide +kernel
theorem dX4_settle_158 : decode cX4_settle 158 = .ok (.aload_n 0, 1) := by decide +kernel
theorem dX4_settle_159 : decode cX4_settle 159 = .ok (.aload_n 1, 1) := by decide +kernel
theorem dX4_settle_160 : decode cX4_settle 160 = .ok (.getfield 68, 3) := by decide +kernel
theorem dX4_settle_163 : decode cX4_settle 163 = .ok (.aload_n 3, 1) := by decide +kernel
theorem dX4_settle_164 : decode cX4_settle 164 = .ok (.invokevirtual 82, 3) := by decide +kernel
theorem dX4_settle_167 : decode cX4_settle 167 = .ok (.aload_n 0, 1) := by decide +kernel
theorem dX4_settle_168 : decode cX4_settle 168 = .ok (.aload_n 1, 1) := by decide +kernel
theorem dX4_settle_169 : decode cX4_settle 169 = .ok (.invokevirtual 86, 3) := by decide +kernel
theorem dX4_settle_172 : decode cX4_settle 172 = .ok (.aload_n 0, 1) := by decide +kernel
theorem dX4_settle_173 : decode cX4_settle 173 = .ok (.aload_n 1, 1) := by decide +kernel
theorem dX4_settle_174 : decode cX4_settle 174 = .ok (.getfield 68, 3) := by decide +kernel
theorem dX4_settle_177 : decode cX4_settle 177 = .ok (.invokevirtual 90, 3) := by decide +kernel
theorem dX4_settle_180 : decode cX4_settle 180 = .ok (.return_, 1) := by decide +kernel
theorem dX4_settleBounds_0 : decode cX4_settleBounds 0 = .ok (.iconst 0, 1) := by decide +kernel
theorem dX4_settleBounds_1 : decode cX4_settleBounds 1 = .ok (.istore_n 3, 1) := by decide +kernel
theorem dX4_settleBounds_2 : decode cX4_settleBounds 2 = .ok (.iconst 0, 1) := by decide +kernel
theorem dX4_settleBounds_3 : decode cX4_settleBounds 3 = .ok (.istore 4, 2) := by decide +kernel
theorem dX4_settleBounds_5 : decode cX4_settleBounds 5 = .ok (.iload 4, 2) := by decide +kernel
theorem dX4_settleBounds_7 : decode cX4_settleBounds 7 = .ok (.iload_n 1, 1) := by decide +kernel
theorem dX4_settleBounds_8 : decode cX4_settleBounds 8 = .ok (.if_icmp .ge 35, 3) := by decide +kernel
theorem dX4_settleBounds_11 : decode cX4_settleBounds 11 = .ok (.aload_n 0, 1) := by decide +kernel
theorem dX4_settleBounds_12 : decode cX4_settleBounds 12 = .ok (.getfield 35, 3) := by decide +kernel
theorem dX4_settleBounds_15 : decode cX4_settleBounds 15 = .ok (.iload 4, 2) := by decide +kernel
theorem dX4_settleBounds_17 : decode cX4_settleBounds 17 = .ok (.aload_n 2, 1) := by decide +kernel
theorem dX4_settleBounds_18 : decode cX4_settleBounds 18 = .ok (.iload 4, 2) := by decide +kernel
theorem dX4_settleBounds_20 : decode cX4_settleBounds 20 = .ok (.iload_n 1, 1) := by decide +kernel
theorem dX4_settleBounds_21 : decode cX4_settleBounds 21 = .ok (.invokevirtual 94, 3) := by decide +kernel
theorem dX4_settleBounds_24 : decode cX4_settleBounds 24 = .ok (.iastore, 1) := by decide +kernel
theorem dX4_settleBounds_25 : decode cX4_settleBounds 25 = .ok (.iload_n 3, 1) := by decide +kernel
theorem dX4_settleBounds_26 : decode cX4_settleBounds 26 = .ok (.aload_n 0, 1) := by decide +kernel
theorem dX4_settleBounds_27 : decode cX4_settleBounds 27 = .ok (.getfield 35, 3) := by decide +kernel
theorem dX4_settleBounds_30 : decode cX4_settleBounds 30 = .ok (.iload 4, 2) := by decide +kernel
theorem dX4_settleBounds_32 : decode cX4_settleBounds 32 = .ok (.iaload, 1) := by decide +kernel
theorem dX4_settleBounds_33 : decode cX4_settleBounds 33 = .ok (.invokestatic 59, 3) := by decide +kernel
theorem dX4_settleBounds_36 : decode cX4_settleBounds 36 = .ok (.istore_n 3, 1) := by decide +kernel
theorem dX4_settleBounds_37 : decode cX4_settleBounds 37 = .ok (.iinc 4 1, 3) := by decide +kernel
theorem dX4_settleBounds_40 : decode cX4_settleBounds 40 = .ok (.goto (-35), 3) := by decide +kernel
theorem dX4_settleBounds_43 : decode cX4_settleBounds 43 = .ok (.iconst 0, 1) := by decide +kernel
theorem dX4_settleBounds_44 : decode cX4_settleBounds 44 = .ok (.istore 4, 2) := by decide +kernel
theorem dX4_settleBounds_46 : decode cX4_settleBounds 46 = .ok (.iload 4, 2) := by decide +kernel
theorem dX4_settleBounds_48 : decode cX4_settleBounds 48 = .ok (.iload_n 1, 1) := by decide +kernel
theorem dX4_settleBounds_49 : decode cX4_settleBounds 49 = .ok (.if_icmp .ge 25, 3) := by decide +kernel
theorem dX4_settleBounds_52 : decode cX4_settleBounds 52 = .ok (.aload_n 0, 1) := by decide +kernel
theorem dX4_settleBounds_53 : decode cX4_settleBounds 53 = .ok (.getfield 38, 3) := by decide +kernel
theorem dX4_settleBounds_56 : decode cX4_settleBounds 56 = .ok (.iload 4, 2) := by decide +kernel
theorem dX4_settleBounds_58 : decode cX4_settleBounds 58 = .ok (.iload_n 3, 1) := by decide +kernel
theorem dX4_settleBounds_59 : decode cX4_settleBounds 59 = .ok (.aload_n 2, 1) := by decide +kernel
theorem dX4_settleBounds_60 : decode cX4_settleBounds 60 = .ok (.iload 4, 2) := by decide +kernel
theorem dX4_settleBounds_62 : decode cX4_settleBounds 62 = .ok (.iload_n 1, 1) := by decide +kernel
theorem dX4_settleBounds_63 : decode cX4_settleBounds 63 = .ok (.invokevirtual 99, 3) := by decide +kernel
theorem dX4_settleBounds_66 : decode cX4_settleBounds 66 = .ok (.isub, 1) := by decide +kernel
theorem dX4_settleBounds_67 : decode cX4_settleBounds 67 = .ok (.iastore, 1) := by decide +kernel
theorem dX4_settleBounds_68 : decode cX4_settleBounds 68 = .ok (.iinc 4 1, 3) := by decide +kernel
theorem dX4_settleBounds_71 : decode cX4_settleBounds 71 = .ok (.goto (-25), 3) := by decide +kernel
theorem dX4_settleBounds_74 : decode cX4_settleBounds 74 = .ok (.return_, 1) := by decide +kernel
theorem dX4_settlePlaces_0 : decode cX4_settlePlaces 0 = .ok (.aload_n 0, 1) := by decide +kernel
theorem dX4_settlePlaces_1 : decode cX4_settlePlaces 1 = .ok (.getfield 41, 3) := by decide +kernel
theorem dX4_settlePlaces_4 : decode cX4_settlePlaces 4 = .ok (.iconst 1, 1) := by decide +kernel
theorem dX4_settlePlaces_5 : decode cX4_settlePlaces 5 = .ok (.invokestatic 102, 3) := by decide +kernel
theorem dX4_settlePlaces_8 : decode cX4_settlePlaces 8 = .ok (.iconst 0, 1) := by decide +kernel
theorem dX4_settlePlaces_9 : decode cX4_settlePlaces 9 = .ok (.istore_n 2, 1) := by decide +kernel
theorem dX4_settlePlaces_10 : decode cX4_settlePlaces 10 = .ok (.iload_n 2, 1) := by decide +kernel
theorem dX4_settlePlaces_11 : decode cX4_settlePlaces 11 = .ok (.aload_n 1, 1) := by decide +kernel
theorem dX4_settlePlaces_12 : decode cX4_settlePlaces 12 = .ok (.getfield 68, 3) := by decide +kernel
theorem dX4_settlePlaces_15 : decode cX4_settlePlaces 15 = .ok (.iconst 3, 1) := by decide +kernel
theorem dX4_settlePlaces_16 : decode cX4_settlePlaces 16 = .ok (.imul, 1) := by decide +kernel
theorem dX4_settlePlaces_17 : decode cX4_settlePlaces 17 = .ok (.if_icmp .ge 89, 3) := by decide +kernel
theorem dX4_settlePlaces_20 : decode cX4_settlePlaces 20 = .ok (.aload_n 1, 1) := by decide +kernel
theorem dX4_settlePlaces_21 : decode cX4_settlePlaces 21 = .ok (.getfield 108, 3) := by decide +kernel
theorem dX4_settlePlaces_24 : decode cX4_settlePlaces 24 = .ok (.iload_n 2, 1) := by decide +kernel
theorem dX4_settlePlaces_25 : decode cX4_settlePlaces 25 = .ok (.iaload, 1) := by decide +kernel
theorem dX4_settlePlaces_26 : decode cX4_settlePlaces 26 = .ok (.istore_n 3, 1) := by decide +kernel
theorem dX4_settlePlaces_27 : decode cX4_settlePlaces 27 = .ok (.aload_n 1, 1) := by decide +kernel
theorem dX4_settlePlaces_28 : decode cX4_settlePlaces 28 = .ok (.iload_n 3, 1) := by decide +kernel
theorem dX4_settlePlaces_29 : decode cX4_settlePlaces 29 = .ok (.invokevirtual 111, 3) := by decide +kernel
theorem dX4_settlePlaces_32 : decode cX4_settlePlaces 32 = .ok (.ifCond .eq 68, 3) := by decide +kernel
theorem dX4_settlePlaces_35 : decode cX4_settlePlaces 35 = .ok (.aload_n 0, 1) := by decide +kernel
theorem dX4_settlePlaces_36 : decode cX4_settlePlaces 36 = .ok (.getfield 29, 3) := by decide +kernel
theorem dX4_settlePlaces_39 : decode cX4_settlePlaces 39 = .ok (.iload_n 2, 1) := by decide +kernel
theorem dX4_settlePlaces_40 : decode cX4_settlePlaces 40 = .ok (.iconst 3, 1) := by decide +kernel
theorem dX4_settlePlaces_41 : decode cX4_settlePlaces 41 = .ok (.idiv, 1) := by decide +kernel
theorem dX4_settlePlaces_42 : decode cX4_settlePlaces 42 = .ok (.iaload, 1) := by decide +kernel
theorem dX4_settlePlaces_43 : decode cX4_settlePlaces 43 = .ok (.aload_n 0, 1) := by decide +kernel
theorem dX4_settlePlaces_44 : decode cX4_settlePlaces 44 = .ok (.getfield 15, 3) := by decide +kernel
theorem dX4_settlePlaces_47 : decode cX4_settlePlaces 47 = .ok (.aload_n 1, 1) := by decide +kernel
theorem dX4_settlePlaces_48 : decode cX4_settlePlaces 48 = .ok (.getfield 115, 3) := by decide +kernel
theorem dX4_settlePlaces_51 : decode cX4_settlePlaces 51 = .ok (.iload_n 2, 1) := by decide +kernel
theorem dX4_settlePlaces_52 : decode cX4_settlePlaces 52 = .ok (.iaload, 1) := by decide +kernel
theorem dX4_settlePlaces_53 : decode cX4_settlePlaces 53 = .ok (.imul, 1) := by decide +kernel
theorem dX4_settlePlaces_54 : decode cX4_settlePlaces 54 = .ok (.iadd, 1) := by decide +kernel
theorem dX4_settlePlaces_55 : decode cX4_settlePlaces 55 = .ok (.aload_n 0, 1) := by decide +kernel
theorem dX4_settlePlaces_56 : decode cX4_settlePlaces 56 = .ok (.getfield 29, 3) := by decide +kernel
theorem dX4_settlePlaces_59 : decode cX4_settlePlaces 59 = .ok (.iload_n 3, 1) := by decide +kernel
theorem dX4_settlePlaces_60 : decode cX4_settlePlaces 60 = .ok (.iaload, 1) := by decide +kernel
theorem dX4_settlePlaces_61 : decode cX4_settlePlaces 61 = .ok (.isub, 1) := by decide +kernel
theorem dX4_settlePlaces_62 : decode cX4_settlePlaces 62 = .ok (.istore 4, 2) := by decide +kernel
theorem dX4_settlePlaces_64 : decode cX4_settlePlaces 64 = .ok (.aload_n 0, 1) := by decide +kernel
theorem dX4_settlePlaces_65 : decode cX4_settlePlaces 65 = .ok (.getfield 41, 3) := by decide +kernel
theorem dX4_settlePlaces_68 : decode cX4_settlePlaces 68 = .ok (.iload_n 3, 1) := by decide +kernel
theorem dX4_settlePlaces_69 : decode cX4_settlePlaces 69 = .ok (.aload_n 0, 1) := by decide +kernel
theorem dX4_settlePlaces_70 : decode cX4_settlePlaces 70 = .ok (.getfield 41, 3) := by decide +kernel
theorem dX4_settlePlaces_73 : decode cX4_settlePlaces 73 = .ok (.iload_n 3, 1) := by decide +kernel
theorem dX4_settlePlaces_74 : decode cX4_settlePlaces 74 = .ok (.iaload, 1) := by decide +kernel
theorem dX4_settlePlaces_75 : decode cX4_settlePlaces 75 = .ok (.aload_n 0, 1) := by decide +kernel
theorem dX4_settlePlaces_76 : decode cX4_settlePlaces 76 = .ok (.getfield 15, 3) := by decide +kernel
theorem dX4_settlePlaces_79 : decode cX4_settlePlaces 79 = .ok (.iconst 1, 1) := by decide +kernel
theorem dX4_settlePlaces_80 : decode cX4_settlePlaces 80 = .ok (.if_icmp .ge 7, 3) := by decide +kernel
theorem dX4_settlePlaces_83 : decode cX4_settlePlaces 83 = .ok (.iconst 1, 1) := by decide +kernel
theorem dX4_settlePlaces_84 : decode cX4_settlePlaces 84 = .ok (.goto 12, 3) := by decide +kernel
theorem dX4_settlePlaces_87 : decode cX4_settlePlaces 87 = .ok (.iload 4, 2) := by decide +kernel
theorem dX4_settlePlaces_89 : decode cX4_settlePlaces 89 = .ok (.aload_n 0, 1) := by decide +kernel
theorem dX4_settlePlaces_90 : decode cX4_settlePlaces 90 = .ok (.getfield 15, 3) := by decide +kernel
theorem dX4_settlePlaces_93 : decode cX4_settlePlaces 93 = .ok (.idiv, 1) := by decide +kernel
theorem dX4_settlePlaces_94 : decode cX4_settlePlaces 94 = .ok (.iconst 1, 1) := by decide +kernel
theorem dX4_settlePlaces_95 : decode cX4_settlePlaces 95 = .ok (.iadd, 1) := by decide +kernel
theorem dX4_settlePlaces_96 : decode cX4_settlePlaces 96 = .ok (.invokestatic 59, 3) := by decide +kernel
theorem dX4_settlePlaces_99 : decode cX4_settlePlaces 99 = .ok (.iastore, 1) := by decide +kernel
theorem dX4_settlePlaces_100 : decode cX4_settlePlaces 100 = .ok (.iinc 2 1, 3) := by decide +kernel
theorem dX4_settlePlaces_103 : decode cX4_settlePlaces 103 = .ok (.goto (-93), 3) := by decide +kernel
theorem dX4_settlePlaces_106 : decode cX4_settlePlaces 106 = .ok (.return_, 1) := by decide +kernel
theorem dX4_settleOrder_0 : decode cX4_settleOrder 0 = .ok (.iconst 0, 1) := by decide +kernel
theorem dX4_settleOrder_1 : decode cX4_settleOrder 1 = .ok (.istore_n 2, 1) := by decide +kernel
theorem dX4_settleOrder_2 : decode cX4_settleOrder 2 = .ok (.iconst 0, 1) := by decide +kernel
theorem dX4_settleOrder_3 : decode cX4_settleOrder 3 = .ok (.istore_n 3, 1) := by decide +kernel
theorem dX4_settleOrder_4 : decode cX4_settleOrder 4 = .ok (.iload_n 3, 1) := by decide +kernel
theorem dX4_settleOrder_5 : decode cX4_settleOrder 5 = .ok (.aload_n 0, 1) := by decide +kernel
theorem dX4_settleOrder_6 : decode cX4_settleOrder 6 = .ok (.getfield 15, 3) := by decide +kernel
theorem dX4_settleOrder_9 : decode cX4_settleOrder 9 = .ok (.if_icmp .ge 52, 3) := by decide +kernel
theorem dX4_settleOrder_12 : decode cX4_settleOrder 12 = .ok (.iconst 0, 1) := by decide +kernel
theorem dX4_settleOrder_13 : decode cX4_settleOrder 13 = .ok (.istore 4, 2) := by decide +kernel
theorem dX4_settleOrder_15 : decode cX4_settleOrder 15 = .ok (.iload 4, 2) := by decide +kernel
theorem dX4_settleOrder_17 : decode cX4_settleOrder 17 = .ok (.iload_n 1, 1) := by decide +kernel
theorem dX4_settleOrder_18 : decode cX4_settleOrder 18 = .ok (.if_icmp .ge 37, 3) := by decide +kernel
theorem dX4_settleOrder_21 : decode cX4_settleOrder 21 = .ok (.aload_n 0, 1) := by decide +kernel
theorem dX4_settleOrder_22 : decode cX4_settleOrder 22 = .ok (.getfield 22, 3) := by decide +kernel
theorem dX4_settleOrder_25 : decode cX4_settleOrder 25 = .ok (.iload 4, 2) := by decide +kernel
theorem dX4_settleOrder_27 : decode cX4_settleOrder 27 = .ok (.iaload, 1) := by decide +kernel
theorem dX4_settleOrder_28 : decode cX4_settleOrder 28 = .ok (.iload_n 3, 1) := by decide +kernel
theorem dX4_settleOrder_29 : decode cX4_settleOrder 29 = .ok (.if_icmp .ne 20, 3) := by decide +kernel
theorem dX4_settleOrder_32 : decode cX4_settleOrder 32 = .ok (.iload_n 2, 1) := by decide +kernel
theorem dX4_settleOrder_33 : decode cX4_settleOrder 33 = .ok (.bipush 16, 2) := by decide +kernel
theorem dX4_settleOrder_35 : decode cX4_settleOrder 35 = .ok (.if_icmp .ge 14, 3) := by decide +kernel
theorem dX4_settleOrder_38 : decode cX4_settleOrder 38 = .ok (.aload_n 0, 1) := by decide +kernel
theorem dX4_settleOrder_39 : decode cX4_settleOrder 39 = .ok (.getfield 44, 3) := by decide +kernel
theorem dX4_settleOrder_42 : decode cX4_settleOrder 42 = .ok (.iload_n 2, 1) := by decide +kernel
theorem dX4_settleOrder_43 : decode cX4_settleOrder 43 = .ok (.iload 4, 2) := by decide +kernel
theorem dX4_settleOrder_45 : decode cX4_settleOrder 45 = .ok (.iastore, 1) := by decide +kernel
theorem dX4_settleOrder_46 : decode cX4_settleOrder 46 = .ok (.iinc 2 1, 3) := by decide +kernel
theorem dX4_settleOrder_49 : decode cX4_settleOrder 49 = .ok (.iinc 4 1, 3) := by decide +kernel
theorem dX4_settleOrder_52 : decode cX4_settleOrder 52 = .ok (.goto (-37), 3) := by decide +kernel
theorem dX4_settleOrder_55 : decode cX4_settleOrder 55 = .ok (.iinc 3 1, 3) := by decide +kernel
theorem dX4_settleOrder_58 : decode cX4_settleOrder 58 = .ok (.goto (-54), 3) := by decide +kernel
theorem dX4_settleOrder_61 : decode cX4_settleOrder 61 = .ok (.return_, 1) := by decide +kernel
theorem dX4_lastEnd_0 : decode cX4_lastEnd 0 = .ok (.iconst 0, 1) := by decide +kernel
theorem dX4_lastEnd_1 : decode cX4_lastEnd 1 = .ok (.istore_n 2, 1) := by decide +kernel
theorem dX4_lastEnd_2 : decode cX4_lastEnd 2 = .ok (.iconst 0, 1) := by decide +kernel
theorem dX4_lastEnd_3 : decode cX4_lastEnd 3 = .ok (.istore_n 3, 1) := by decide +kernel
theorem dX4_lastEnd_4 : decode cX4_lastEnd 4 = .ok (.iload_n 3, 1) := by decide +kernel
theorem dX4_lastEnd_5 : decode cX4_lastEnd 5 = .ok (.aload_n 1, 1) := by decide +kernel
theorem dX4_lastEnd_6 : decode cX4_lastEnd 6 = .ok (.getfield 68, 3) := by decide +kernel
theorem dX4_lastEnd_9 : decode cX4_lastEnd 9 = .ok (.if_icmp .ge 27, 3) := by decide +kernel
theorem dX4_lastEnd_12 : decode cX4_lastEnd 12 = .ok (.iload_n 2, 1) := by decide +kernel
theorem dX4_lastEnd_13 : decode cX4_lastEnd 13 = .ok (.aload_n 0, 1) := by decide +kernel
theorem dX4_lastEnd_14 : decode cX4_lastEnd 14 = .ok (.getfield 29, 3) := by decide +kernel
theorem dX4_lastEnd_17 : decode cX4_lastEnd 17 = .ok (.iload_n 3, 1) := by decide +kernel
theorem dX4_lastEnd_18 : decode cX4_lastEnd 18 = .ok (.iaload, 1) := by decide +kernel
theorem dX4_lastEnd_19 : decode cX4_lastEnd 19 = .ok (.aload_n 1, 1) := by decide +kernel
theorem dX4_lastEnd_20 : decode cX4_lastEnd 20 = .ok (.getfield 118, 3) := by decide +kernel
theorem dX4_lastEnd_23 : decode cX4_lastEnd 23 = .ok (.iload_n 3, 1) := by decide +kernel
theorem dX4_lastEnd_24 : decode cX4_lastEnd 24 = .ok (.iaload, 1) := by decide +kernel
theorem dX4_lastEnd_25 : decode cX4_lastEnd 25 = .ok (.iadd, 1) := by decide +kernel
theorem dX4_lastEnd_26 : decode cX4_lastEnd 26 = .ok (.invokestatic 59, 3) := by decide +kernel
theorem dX4_lastEnd_29 : decode cX4_lastEnd 29 = .ok (.istore_n 2, 1) := by decide +kernel
theorem dX4_lastEnd_30 : decode cX4_lastEnd 30 = .ok (.iinc 3 1, 3) := by decide +kernel
theorem dX4_lastEnd_33 : decode cX4_lastEnd 33 = .ok (.goto (-29), 3) := by decide +kernel
theorem dX4_lastEnd_36 : decode cX4_lastEnd 36 = .ok (.iload_n 2, 1) := by decide +kernel
theorem dX4_lastEnd_37 : decode cX4_lastEnd 37 = .ok (.ireturn, 1) := by decide +kernel
theorem dX4_placesInAll_0 : decode cX4_placesInAll 0 = .ok (.iconst 0, 1) := by decide +kernel
theorem dX4_placesInAll_1 : decode cX4_placesInAll 1 = .ok (.istore_n 2, 1) := by decide +kernel
theorem dX4_placesInAll_2 : decode cX4_placesInAll 2 = .ok (.iconst 0, 1) := by decide +kernel
theorem dX4_placesInAll_3 : decode cX4_placesInAll 3 = .ok (.istore_n 3, 1) := by decide +kernel
theorem dX4_placesInAll_4 : decode cX4_placesInAll 4 = .ok (.iload_n 3, 1) := by decide +kernel
theorem dX4_placesInAll_5 : decode cX4_placesInAll 5 = .ok (.iload_n 1, 1) := by decide +kernel
theorem dX4_placesInAll_6 : decode cX4_placesInAll 6 = .ok (.if_icmp .ge 18, 3) := by decide +kernel
theorem dX4_placesInAll_9 : decode cX4_placesInAll 9 = .ok (.iload_n 2, 1) := by decide +kernel
theorem dX4_placesInAll_10 : decode cX4_placesInAll 10 = .ok (.aload_n 0, 1) := by decide +kernel
theorem dX4_placesInAll_11 : decode cX4_placesInAll 11 = .ok (.getfield 41, 3) := by decide +kernel
theorem dX4_placesInAll_14 : decode cX4_placesInAll 14 = .ok (.iload_n 3, 1) := by decide +kernel
theorem dX4_placesInAll_15 : decode cX4_placesInAll 15 = .ok (.iaload, 1) := by decide +kernel
theorem dX4_placesInAll_16 : decode cX4_placesInAll 16 = .ok (.iadd, 1) := by decide +kernel
theorem dX4_placesInAll_17 : decode cX4_placesInAll 17 = .ok (.istore_n 2, 1) := by decide +kernel
theorem dX4_placesInAll_18 : decode cX4_placesInAll 18 = .ok (.iinc 3 1, 3) := by decide +kernel
theorem dX4_placesInAll_21 : decode cX4_placesInAll 21 = .ok (.goto (-17), 3) := by decide +kernel
theorem dX4_placesInAll_24 : decode cX4_placesInAll 24 = .ok (.iload_n 2, 1) := by decide +kernel
theorem dX4_placesInAll_25 : decode cX4_placesInAll 25 = .ok (.ireturn, 1) := by decide +kernel
theorem dX4_mostPlaces_0 : decode cX4_mostPlaces 0 = .ok (.iconst 0, 1) := by decide +kernel
theorem dX4_mostPlaces_1 : decode cX4_mostPlaces 1 = .ok (.istore_n 2, 1) := by decide +kernel
theorem dX4_mostPlaces_2 : decode cX4_mostPlaces 2 = .ok (.iconst 0, 1) := by decide +kernel
theorem dX4_mostPlaces_3 : decode cX4_mostPlaces 3 = .ok (.istore_n 3, 1) := by decide +kernel
theorem dX4_mostPlaces_4 : decode cX4_mostPlaces 4 = .ok (.iload_n 3, 1) := by decide +kernel
theorem dX4_mostPlaces_5 : decode cX4_mostPlaces 5 = .ok (.iload_n 1, 1) := by decide +kernel
theorem dX4_mostPlaces_6 : decode cX4_mostPlaces 6 = .ok (.if_icmp .ge 20, 3) := by decide +kernel
theorem dX4_mostPlaces_9 : decode cX4_mostPlaces 9 = .ok (.iload_n 2, 1) := by decide +kernel
theorem dX4_mostPlaces_10 : decode cX4_mostPlaces 10 = .ok (.aload_n 0, 1) := by decide +kernel
theorem dX4_mostPlaces_11 : decode cX4_mostPlaces 11 = .ok (.getfield 41, 3) := by decide +kernel
theorem dX4_mostPlaces_14 : decode cX4_mostPlaces 14 = .ok (.iload_n 3, 1) := by decide +kernel
theorem dX4_mostPlaces_15 : decode cX4_mostPlaces 15 = .ok (.iaload, 1) := by decide +kernel
theorem dX4_mostPlaces_16 : decode cX4_mostPlaces 16 = .ok (.invokestatic 59, 3) := by decide +kernel
theorem dX4_mostPlaces_19 : decode cX4_mostPlaces 19 = .ok (.istore_n 2, 1) := by decide +kernel
theorem dX4_mostPlaces_20 : decode cX4_mostPlaces 20 = .ok (.iinc 3 1, 3) := by decide +kernel
theorem dX4_mostPlaces_23 : decode cX4_mostPlaces 23 = .ok (.goto (-19), 3) := by decide +kernel
theorem dX4_mostPlaces_26 : decode cX4_mostPlaces 26 = .ok (.iload_n 2, 1) := by decide +kernel
theorem dX4_mostPlaces_27 : decode cX4_mostPlaces 27 = .ok (.ireturn, 1) := by decide +kernel
theorem dX5_init_0 : decode cX5_init 0 = .ok (.aload_n 0, 1) := by decide +kernel
theorem dX5_init_1 : decode cX5_init 1 = .ok (.invokespecial 3, 3) := by decide +kernel
theorem dX5_init_4 : decode cX5_init 4 = .ok (.aload_n 0, 1) := by decide +kernel
theorem dX5_init_5 : decode cX5_init 5 = .ok (.iconst 0, 1) := by decide +kernel
theorem dX5_init_6 : decode cX5_init 6 = .ok (.putfield 9, 3) := by decide +kernel
theorem dX5_init_9 : decode cX5_init 9 = .ok (.aload_n 0, 1) := by decide +kernel
theorem dX5_init_10 : decode cX5_init 10 = .ok (.iconst (-1), 1) := by decide +kernel
theorem dX5_init_11 : decode cX5_init 11 = .ok (.putfield 15, 3) := by decide +kernel
theorem dX5_init_14 : decode cX5_init 14 = .ok (.aload_n 0, 1) := by decide +kernel
theorem dX5_init_15 : decode cX5_init 15 = .ok (.iconst (-1), 1) := by decide +kernel
theorem dX5_init_16 : decode cX5_init 16 = .ok (.putfield 18, 3) := by decide +kernel
theorem dX5_init_19 : decode cX5_init 19 = .ok (.aload_n 0, 1) := by decide +kernel
theorem dX5_init_20 : decode cX5_init 20 = .ok (.iconst 0, 1) := by decide +kernel
theorem dX5_init_21 : decode cX5_init 21 = .ok (.putfield 21, 3) := by decide +kernel
theorem dX5_init_24 : decode cX5_init 24 = .ok (.aload_n 0, 1) := by decide +kernel
theorem dX5_init_25 : decode cX5_init 25 = .ok (.iconst 0, 1) := by decide +kernel
theorem dX5_init_26 : decode cX5_init 26 = .ok (.putfield 24, 3) := by decide +kernel
theorem dX5_init_29 : decode cX5_init 29 = .ok (.aload_n 0, 1) := by decide +kernel
theorem dX5_init_30 : decode cX5_init 30 = .ok (.iconst 0, 1) := by decide +kernel
theorem dX5_init_31 : decode cX5_init 31 = .ok (.putfield 27, 3) := by decide +kernel
theorem dX5_init_34 : decode cX5_init 34 = .ok (.aload_n 0, 1) := by decide +kernel
theorem dX5_init_35 : decode cX5_init 35 = .ok (.iconst 0, 1) := by decide +kernel
theorem dX5_init_36 : decode cX5_init 36 = .ok (.putfield 31, 3) := by decide +kernel
theorem dX5_init_39 : decode cX5_init 39 = .ok (.aload_n 0, 1) := by decide +kernel
theorem dX5_init_40 : decode cX5_init 40 = .ok (.bipush 16, 2) := by decide +kernel
theorem dX5_init_42 : decode cX5_init 42 = .ok (.newarray .long, 2) := by decide +kernel
theorem dX5_init_44 : decode cX5_init 44 = .ok (.putfield 34, 3) := by decide +kernel
theorem dX5_init_47 : decode cX5_init 47 = .ok (.return_, 1) := by decide +kernel
theorem dX5_clear_0 : decode cX5_clear 0 = .ok (.aload_n 0, 1) := by decide +kernel
theorem dX5_clear_1 : decode cX5_clear 1 = .ok (.iconst 0, 1) := by decide +kernel
theorem dX5_clear_2 : decode cX5_clear 2 = .ok (.putfield 9, 3) := by decide +kernel
theorem dX5_clear_5 : decode cX5_clear 5 = .ok (.aload_n 0, 1) := by decide +kernel
theorem dX5_clear_6 : decode cX5_clear 6 = .ok (.iconst (-1), 1) := by decide +kernel
theorem dX5_clear_7 : decode cX5_clear 7 = .ok (.putfield 15, 3) := by decide +kernel
theorem dX5_clear_10 : decode cX5_clear 10 = .ok (.aload_n 0, 1) := by decide +kernel
theorem dX5_clear_11 : decode cX5_clear 11 = .ok (.iconst (-1), 1) := by decide +kernel
theorem dX5_clear_12 : decode cX5_clear 12 = .ok (.putfield 18, 3) := by decide +kernel
theorem dX5_clear_15 : decode cX5_clear 15 = .ok (.aload_n 0, 1) := by decide +kernel
theorem dX5_clear_16 : decode cX5_clear 16 = .ok (.iconst 0, 1) := by decide +kernel
theorem dX5_clear_17 : decode cX5_clear 17 = .ok (.putfield 21, 3) := by decide +kernel
theorem dX5_clear_20 : decode cX5_clear 20 = .ok (.aload_n 0, 1) := by decide +kernel
theorem dX5_clear_21 : decode cX5_clear 21 = .ok (.iconst 0, 1) := by decide +kernel
theorem dX5_clear_22 : decode cX5_clear 22 = .ok (.putfield 24, 3) := by decide +kernel
theorem dX5_clear_25 : decode cX5_clear 25 = .ok (.aload_n 0, 1) := by decide +kernel
theorem dX5_clear_26 : decode cX5_clear 26 = .ok (.iconst 0, 1) := by decide +kernel
theorem dX5_clear_27 : decode cX5_clear 27 = .ok (.putfield 27, 3) := by decide +kernel
theorem dX5_clear_30 : decode cX5_clear 30 = .ok (.aload_n 0, 1) := by decide +kernel
theorem dX5_clear_31 : decode cX5_clear 31 = .ok (.iconst 0, 1) := by decide +kernel
theorem dX5_clear_32 : decode cX5_clear 32 = .ok (.putfield 31, 3) := by decide +kernel
theorem dX5_clear_35 : decode cX5_clear 35 = .ok (.return_, 1) := by decide +kernel
theorem dX5_refused_0 : decode cX5_refused 0 = .ok (.aload_n 0, 1) := by decide +kernel
theorem dX5_refused_1 : decode cX5_refused 1 = .ok (.iload_n 1, 1) := by decide +kernel
theorem dX5_refused_2 : decode cX5_refused 2 = .ok (.putfield 9, 3) := by decide +kernel
theorem dX5_refused_5 : decode cX5_refused 5 = .ok (.aload_n 0, 1) := by decide +kernel
theorem dX5_refused_6 : decode cX5_refused 6 = .ok (.iload_n 2, 1) := by decide +kernel
theorem dX5_refused_7 : decode cX5_refused 7 = .ok (.putfield 15, 3) := by decide +kernel
theorem dX5_refused_10 : decode cX5_refused 10 = .ok (.aload_n 0, 1) := by decide +kernel
theorem dX5_refused_11 : decode cX5_refused 11 = .ok (.iload_n 3, 1) := by decide +kernel
theorem dX5_refused_12 : decode cX5_refused 12 = .ok (.putfield 18, 3) := by decide +kernel
theorem dX5_refused_15 : decode cX5_refused 15 = .ok (.return_, 1) := by decide +kernel
theorem dX5_endsAheadOf_0 : decode cX5_endsAheadOf 0 = .ok (.aload_n 0, 1) := by decide +kernel
theorem dX5_endsAheadOf_1 : decode cX5_endsAheadOf 1 = .ok (.getfield 9, 3) := by decide +kernel
theorem dX5_endsAheadOf_4 : decode cX5_endsAheadOf 4 = .ok (.ifCond .eq 31, 3) := by decide +kernel
theorem dX5_endsAheadOf_7 : decode cX5_endsAheadOf 7 = .ok (.iload_n 2, 1) := by decide +kernel
theorem dX5_endsAheadOf_8 : decode cX5_endsAheadOf 8 = .ok (.aload_n 0, 1) := by decide +kernel
theorem dX5_endsAheadOf_9 : decode cX5_endsAheadOf 9 = .ok (.getfield 18, 3) := by decide +kernel
theorem dX5_endsAheadOf_12 : decode cX5_endsAheadOf 12 = .ok (.if_icmp .gt 19, 3) := by decide +kernel
theorem dX5_endsAheadOf_15 : decode cX5_endsAheadOf 15 = .ok (.iload_n 2, 1) := by decide +kernel
theorem dX5_endsAheadOf_16 : decode cX5_endsAheadOf 16 = .ok (.aload_n 0, 1) := by decide +kernel
theorem dX5_endsAheadOf_17 : decode cX5_endsAheadOf 17 = .ok (.getfield 18, 3) := by decide +kernel
theorem dX5_endsAheadOf_20 : decode cX5_endsAheadOf 20 = .ok (.if_icmp .ne 15, 3) := by decide +kernel
theorem dX5_endsAheadOf_23 : decode cX5_endsAheadOf 23 = .ok (.iload_n 1, 1) := by decide +kernel
theorem dX5_endsAheadOf_24 : decode cX5_endsAheadOf 24 = .ok (.aload_n 0, 1) := by decide +kernel
theorem dX5_endsAheadOf_25 : decode cX5_endsAheadOf 25 = .ok (.getfield 15, 3) := by decide +kernel
theorem dX5_endsAheadOf_28 : decode cX5_endsAheadOf 28 = .ok (.if_icmp .le 7, 3) := by decide +kernel
theorem dX5_endsAheadOf_31 : decode cX5_endsAheadOf 31 = .ok (.iconst 1, 1) := by decide +kernel
theorem dX5_endsAheadOf_32 : decode cX5_endsAheadOf 32 = .ok (.goto 4, 3) := by decide +kernel
theorem dX5_endsAheadOf_35 : decode cX5_endsAheadOf 35 = .ok (.iconst 0, 1) := by decide +kernel
theorem dX5_endsAheadOf_36 : decode cX5_endsAheadOf 36 = .ok (.ireturn, 1) := by decide +kernel
theorem dX5_isLike_0 : decode cX5_isLike 0 = .ok (.aload_n 0, 1) := by decide +kernel
theorem dX5_isLike_1 : decode cX5_isLike 1 = .ok (.getfield 9, 3) := by decide +kernel
theorem dX5_isLike_4 : decode cX5_isLike 4 = .ok (.aload_n 1, 1) := by decide +kernel
theorem dX5_isLike_5 : decode cX5_isLike 5 = .ok (.getfield 9, 3) := by decide +kernel
theorem dX5_isLike_8 : decode cX5_isLike 8 = .ok (.if_icmp .ne 36, 3) := by decide +kernel
theorem dX5_isLike_11 : decode cX5_isLike 11 = .ok (.aload_n 0, 1) := by decide +kernel
theorem dX5_isLike_12 : decode cX5_isLike 12 = .ok (.getfield 15, 3) := by decide +kernel
theorem dX5_isLike_15 : decode cX5_isLike 15 = .ok (.aload_n 1, 1) := by decide +kernel
theorem dX5_isLike_16 : decode cX5_isLike 16 = .ok (.getfield 15, 3) := by decide +kernel
theorem dX5_isLike_19 : decode cX5_isLike 19 = .ok (.if_icmp .ne 25, 3) := by decide +kernel
theorem dX5_isLike_22 : decode cX5_isLike 22 = .ok (.aload_n 0, 1) := by decide +kernel
theorem dX5_isLike_23 : decode cX5_isLike 23 = .ok (.getfield 18, 3) := by decide +kernel
theorem dX5_isLike_26 : decode cX5_isLike 26 = .ok (.aload_n 1, 1) := by decide +kernel
theorem dX5_isLike_27 : decode cX5_isLike 27 = .ok (.getfield 18, 3) := by decide +kernel
theorem dX5_isLike_30 : decode cX5_isLike 30 = .ok (.if_icmp .ne 14, 3) := by decide +kernel
theorem dX5_isLike_33 : decode cX5_isLike 33 = .ok (.aload_n 0, 1) := by decide +kernel
theorem dX5_isLike_34 : decode cX5_isLike 34 = .ok (.getfield 31, 3) := by decide +kernel
theorem dX5_isLike_37 : decode cX5_isLike 37 = .ok (.aload_n 1, 1) := by decide +kernel
theorem dX5_isLike_38 : decode cX5_isLike 38 = .ok (.getfield 31, 3) := by decide +kernel
theorem dX5_isLike_41 : decode cX5_isLike 41 = .ok (.if_icmp .eq 5, 3) := by decide +kernel
theorem dX5_isLike_44 : decode cX5_isLike 44 = .ok (.iconst 0, 1) := by decide +kernel
theorem dX5_isLike_45 : decode cX5_isLike 45 = .ok (.ireturn, 1) := by decide +kernel
theorem dX5_isLike_46 : decode cX5_isLike 46 = .ok (.iconst 0, 1) := by decide +kernel
theorem dX5_isLike_47 : decode cX5_isLike 47 = .ok (.istore_n 3, 1) := by decide +kernel
theorem dX5_isLike_48 : decode cX5_isLike 48 = .ok (.iload_n 3, 1) := by decide +kernel
theorem dX5_isLike_49 : decode cX5_isLike 49 = .ok (.iload_n 2, 1) := by decide +kernel
theorem dX5_isLike_50 : decode cX5_isLike 50 = .ok (.if_icmp .ge 34, 3) := by decide +kernel
theorem dX5_isLike_53 : decode cX5_isLike 53 = .ok (.aload_n 0, 1) := by decide +kernel
theorem dX5_isLike_54 : decode cX5_isLike 54 = .ok (.getfield 31, 3) := by decide +kernel
theorem dX5_isLike_57 : decode cX5_isLike 57 = .ok (.ifCond .le 27, 3) := by decide +kernel
theorem dX5_isLike_60 : decode cX5_isLike 60 = .ok (.aload_n 0, 1) := by decide +kernel
theorem dX5_isLike_61 : decode cX5_isLike 61 = .ok (.getfield 34, 3) := by decide +kernel
theorem dX5_isLike_64 : decode cX5_isLike 64 = .ok (.iload_n 3, 1) := by decide +kernel
theorem dX5_isLike_65 : decode cX5_isLike 65 = .ok (.laload, 1) := by decide +kernel
theorem dX5_isLike_66 : decode cX5_isLike 66 = .ok (.aload_n 1, 1) := by decide +kernel
theorem dX5_isLike_67 : decode cX5_isLike 67 = .ok (.getfield 34, 3) := by decide +kernel
theorem dX5_isLike_70 : decode cX5_isLike 70 = .ok (.iload_n 3, 1) := by decide +kernel
theorem dX5_isLike_71 : decode cX5_isLike 71 = .ok (.laload, 1) := by decide +kernel
theorem dX5_isLike_72 : decode cX5_isLike 72 = .ok (.lcmp, 1) := by decide +kernel
theorem dX5_isLike_73 : decode cX5_isLike 73 = .ok (.ifCond .eq 5, 3) := by decide +kernel
theorem dX5_isLike_76 : decode cX5_isLike 76 = .ok (.iconst 0, 1) := by decide +kernel
theorem dX5_isLike_77 : decode cX5_isLike 77 = .ok (.ireturn, 1) := by decide +kernel
theorem dX5_isLike_78 : decode cX5_isLike 78 = .ok (.iinc 3 1, 3) := by decide +kernel
theorem dX5_isLike_81 : decode cX5_isLike 81 = .ok (.goto (-33), 3) := by decide +kernel
theorem dX5_isLike_84 : decode cX5_isLike 84 = .ok (.iconst 1, 1) := by decide +kernel
theorem dX5_isLike_85 : decode cX5_isLike 85 = .ok (.ireturn, 1) := by decide +kernel
theorem dX6_init_0 : decode cX6_init 0 = .ok (.aload_n 0, 1) := by decide +kernel
theorem dX6_init_1 : decode cX6_init 1 = .ok (.invokespecial 3, 3) := by decide +kernel
theorem dX6_init_4 : decode cX6_init 4 = .ok (.aload_n 0, 1) := by decide +kernel
theorem dX6_init_5 : decode cX6_init 5 = .ok (.bipush 8, 2) := by decide +kernel
theorem dX6_init_7 : decode cX6_init 7 = .ok (.newarray .int, 2) := by decide +kernel
theorem dX6_init_9 : decode cX6_init 9 = .ok (.putfield 9, 3) := by decide +kernel
theorem dX6_init_12 : decode cX6_init 12 = .ok (.aload_n 0, 1) := by decide +kernel
theorem dX6_init_13 : decode cX6_init 13 = .ok (.bipush 8, 2) := by decide +kernel
theorem dX6_init_15 : decode cX6_init 15 = .ok (.newarray .boolean, 2) := by decide +kernel
theorem dX6_init_17 : decode cX6_init 17 = .ok (.putfield 15, 3) := by decide +kernel
theorem dX6_init_20 : decode cX6_init 20 = .ok (.aload_n 0, 1) := by decide +kernel
theorem dX6_init_21 : decode cX6_init 21 = .ok (.sipush 320, 3) := by decide +kernel
theorem dX6_init_24 : decode cX6_init 24 = .ok (.newarray .long, 2) := by decide +kernel
theorem dX6_init_26 : decode cX6_init 26 = .ok (.putfield 19, 3) := by decide +kernel
theorem dX6_init_29 : decode cX6_init 29 = .ok (.return_, 1) := by decide +kernel
theorem dX6_make_0 : decode cX6_make 0 = .ok (.aload_n 0, 1) := by decide +kernel
theorem dX6_make_1 : decode cX6_make 1 = .ok (.getfield 9, 3) := by decide +kernel
theorem dX6_make_4 : decode cX6_make 4 = .ok (.iload_n 1, 1) := by decide +kernel
theorem dX6_make_5 : decode cX6_make 5 = .ok (.iload_n 2, 1) := by decide +kernel
theorem dX6_make_6 : decode cX6_make 6 = .ok (.iastore, 1) := by decide +kernel
theorem dX6_make_7 : decode cX6_make 7 = .ok (.aload_n 0, 1) := by decide +kernel
theorem dX6_make_8 : decode cX6_make 8 = .ok (.getfield 15, 3) := by decide +kernel
theorem dX6_make_11 : decode cX6_make 11 = .ok (.iload_n 1, 1) := by decide +kernel
theorem dX6_make_12 : decode cX6_make 12 = .ok (.iload_n 3, 1) := by decide +kernel
theorem dX6_make_13 : decode cX6_make 13 = .ok (.bastore, 1) := by decide +kernel
theorem dX6_make_14 : decode cX6_make 14 = .ok (.iconst 0, 1) := by decide +kernel
theorem dX6_make_15 : decode cX6_make 15 = .ok (.istore 4, 2) := by decide +kernel
theorem dX6_make_17 : decode cX6_make 17 = .ok (.iload 4, 2) := by decide +kernel
theorem dX6_make_19 : decode cX6_make 19 = .ok (.bipush 40, 2) := by decide +kernel
theorem dX6_make_21 : decode cX6_make 21 = .ok (.if_icmp .ge 21, 3) := by decide +kernel
theorem dX6_make_24 : decode cX6_make 24 = .ok (.aload_n 0, 1) := by decide +kernel
theorem dX6_make_25 : decode cX6_make 25 = .ok (.getfield 19, 3) := by decide +kernel
theorem dX6_make_28 : decode cX6_make 28 = .ok (.iload_n 1, 1) := by decide +kernel
theorem dX6_make_29 : decode cX6_make 29 = .ok (.iload 4, 2) := by decide +kernel
theorem dX6_make_31 : decode cX6_make 31 = .ok (.invokestatic 23, 3) := by decide +kernel
theorem dX6_make_34 : decode cX6_make 34 = .ok (.lconst 0, 1) := by decide +kernel
theorem dX6_make_35 : decode cX6_make 35 = .ok (.lastore, 1) := by decide +kernel
theorem dX6_make_36 : decode cX6_make 36 = .ok (.iinc 4 1, 3) := by decide +kernel
theorem dX6_make_39 : decode cX6_make 39 = .ok (.goto (-22), 3) := by decide +kernel
theorem dX6_make_42 : decode cX6_make 42 = .ok (.return_, 1) := by decide +kernel
theorem dX6_drop_0 : decode cX6_drop 0 = .ok (.aload_n 0, 1) := by decide +kernel
theorem dX6_drop_1 : decode cX6_drop 1 = .ok (.getfield 9, 3) := by decide +kernel
theorem dX6_drop_4 : decode cX6_drop 4 = .ok (.iload_n 1, 1) := by decide +kernel
theorem dX6_drop_5 : decode cX6_drop 5 = .ok (.iaload, 1) := by decide +kernel
theorem dX6_drop_6 : decode cX6_drop 6 = .ok (.ifCond .le 7, 3) := by decide +kernel
theorem dX6_drop_9 : decode cX6_drop 9 = .ok (.iconst 1, 1) := by decide +kernel
theorem dX6_drop_10 : decode cX6_drop 10 = .ok (.goto 4, 3) := by decide +kernel
theorem dX6_drop_13 : decode cX6_drop 13 = .ok (.iconst 0, 1) := by decide +kernel
theorem dX6_drop_14 : decode cX6_drop 14 = .ok (.istore_n 2, 1) := by decide +kernel
theorem dX6_drop_15 : decode cX6_drop 15 = .ok (.aload_n 0, 1) := by decide +kernel
theorem dX6_drop_16 : decode cX6_drop 16 = .ok (.getfield 9, 3) := by decide +kernel
theorem dX6_drop_19 : decode cX6_drop 19 = .ok (.iload_n 1, 1) := by decide +kernel
theorem dX6_drop_20 : decode cX6_drop 20 = .ok (.iconst 0, 1) := by decide +kernel
theorem dX6_drop_21 : decode cX6_drop 21 = .ok (.iastore, 1) := by decide +kernel
theorem dX6_drop_22 : decode cX6_drop 22 = .ok (.iload_n 2, 1) := by decide +kernel
theorem dX6_drop_23 : decode cX6_drop 23 = .ok (.ireturn, 1) := by decide +kernel
theorem dX6_placeOf_0 : decode cX6_placeOf 0 = .ok (.iload_n 0, 1) := by decide +kernel
theorem dX6_placeOf_1 : decode cX6_placeOf 1 = .ok (.bipush 40, 2) := by decide +kernel
theorem dX6_placeOf_3 : decode cX6_placeOf 3 = .ok (.imul, 1) := by decide +kernel
theorem dX6_placeOf_4 : decode cX6_placeOf 4 = .ok (.iload_n 1, 1) := by decide +kernel
theorem dX6_placeOf_5 : decode cX6_placeOf 5 = .ok (.iadd, 1) := by decide +kernel
theorem dX6_placeOf_6 : decode cX6_placeOf 6 = .ok (.ireturn, 1) := by decide +kernel
theorem dX6_refusalAt_0 : decode cX6_refusalAt 0 = .ok (.iload_n 1, 1) := by decide +kernel
theorem dX6_refusalAt_1 : decode cX6_refusalAt 1 = .ok (.ifCond .lt 9, 3) := by decide +kernel
theorem dX6_refusalAt_4 : decode cX6_refusalAt 4 = .ok (.iload_n 1, 1) := by decide +kernel
theorem dX6_refusalAt_5 : decode cX6_refusalAt 5 = .ok (.bipush 8, 2) := by decide +kernel
theorem dX6_refusalAt_7 : decode cX6_refusalAt 7 = .ok (.if_icmp .lt 6, 3) := by decide +kernel
theorem dX6_refusalAt_10 : decode cX6_refusalAt 10 = .ok (.bipush (-3), 2) := by decide +kernel
theorem dX6_refusalAt_12 : decode cX6_refusalAt 12 = .ok (.ireturn, 1) := by decide +kernel
theorem dX6_refusalAt_13 : decode cX6_refusalAt 13 = .ok (.aload_n 0, 1) := by decide +kernel
theorem dX6_refusalAt_14 : decode cX6_refusalAt 14 = .ok (.getfield 9, 3) := by decide +kernel
theorem dX6_refusalAt_17 : decode cX6_refusalAt 17 = .ok (.iload_n 1, 1) := by decide +kernel
theorem dX6_refusalAt_18 : decode cX6_refusalAt 18 = .ok (.iaload, 1) := by decide +kernel
theorem dX6_refusalAt_19 : decode cX6_refusalAt 19 = .ok (.ifCond .ne 6, 3) := by decide +kernel
theorem dX6_refusalAt_22 : decode cX6_refusalAt 22 = .ok (.bipush (-2), 2) := by decide +kernel
theorem dX6_refusalAt_24 : decode cX6_refusalAt 24 = .ok (.ireturn, 1) := by decide +kernel
theorem dX6_refusalAt_25 : decode cX6_refusalAt 25 = .ok (.aload_n 0, 1) := by decide +kernel
theorem dX6_refusalAt_26 : decode cX6_refusalAt 26 = .ok (.getfield 15, 3) := by decide +kernel
theorem dX6_refusalAt_29 : decode cX6_refusalAt 29 = .ok (.iload_n 1, 1) := by decide +kernel
theorem dX6_refusalAt_30 : decode cX6_refusalAt 30 = .ok (.baload, 1) := by decide +kernel
theorem dX6_refusalAt_31 : decode cX6_refusalAt 31 = .ok (.ifCond .ne 6, 3) := by decide +kernel
theorem dX6_refusalAt_34 : decode cX6_refusalAt 34 = .ok (.bipush (-5), 2) := by decide +kernel
theorem dX6_refusalAt_36 : decode cX6_refusalAt 36 = .ok (.ireturn, 1) := by decide +kernel
theorem dX6_refusalAt_37 : decode cX6_refusalAt 37 = .ok (.lload_n 2, 1) := by decide +kernel
theorem dX6_refusalAt_38 : decode cX6_refusalAt 38 = .ok (.lconst 0, 1) := by decide +kernel
theorem dX6_refusalAt_39 : decode cX6_refusalAt 39 = .ok (.lcmp, 1) := by decide +kernel
theorem dX6_refusalAt_40 : decode cX6_refusalAt 40 = .ok (.ifCond .lt 15, 3) := by decide +kernel
theorem dX6_refusalAt_43 : decode cX6_refusalAt 43 = .ok (.lload_n 2, 1) := by decide +kernel
theorem dX6_refusalAt_44 : decode cX6_refusalAt 44 = .ok (.aload_n 0, 1) := by decide +kernel
theorem dX6_refusalAt_45 : decode cX6_refusalAt 45 = .ok (.getfield 9, 3) := by decide +kernel
theorem dX6_refusalAt_48 : decode cX6_refusalAt 48 = .ok (.iload_n 1, 1) := by decide +kernel
theorem dX6_refusalAt_49 : decode cX6_refusalAt 49 = .ok (.iaload, 1) := by decide +kernel
theorem dX6_refusalAt_50 : decode cX6_refusalAt 50 = .ok (.i2l, 1) := by decide +kernel
theorem dX6_refusalAt_51 : decode cX6_refusalAt 51 = .ok (.lcmp, 1) := by decide +kernel
theorem dX6_refusalAt_52 : decode cX6_refusalAt 52 = .ok (.ifCond .lt 8, 3) := by decide +kernel
theorem dX6_refusalAt_55 : decode cX6_refusalAt 55 = .ok (.bipush (-3), 2) := by decide +kernel
theorem dX6_refusalAt_57 : decode cX6_refusalAt 57 = .ok (.goto 4, 3) := by decide +kernel
theorem dX6_refusalAt_60 : decode cX6_refusalAt 60 = .ok (.iconst 0, 1) := by decide +kernel
theorem dX6_refusalAt_61 : decode cX6_refusalAt 61 = .ok (.ireturn, 1) := by decide +kernel
theorem dX6_hasRun_0 : decode cX6_hasRun 0 = .ok (.iload_n 2, 1) := by decide +kernel
theorem dX6_hasRun_1 : decode cX6_hasRun 1 = .ok (.ifCond .lt 23, 3) := by decide +kernel
theorem dX6_hasRun_4 : decode cX6_hasRun 4 = .ok (.iload_n 2, 1) := by decide +kernel
theorem dX6_hasRun_5 : decode cX6_hasRun 5 = .ok (.i2l, 1) := by decide +kernel
theorem dX6_hasRun_6 : decode cX6_hasRun 6 = .ok (.iload_n 3, 1) := by decide +kernel
theorem dX6_hasRun_7 : decode cX6_hasRun 7 = .ok (.i2l, 1) := by decide +kernel
theorem dX6_hasRun_8 : decode cX6_hasRun 8 = .ok (.ladd, 1) := by decide +kernel
theorem dX6_hasRun_9 : decode cX6_hasRun 9 = .ok (.aload_n 0, 1) := by decide +kernel
theorem dX6_hasRun_10 : decode cX6_hasRun 10 = .ok (.getfield 9, 3) := by decide +kernel
theorem dX6_hasRun_13 : decode cX6_hasRun 13 = .ok (.iload_n 1, 1) := by decide +kernel
theorem dX6_hasRun_14 : decode cX6_hasRun 14 = .ok (.iaload, 1) := by decide +kernel
theorem dX6_hasRun_15 : decode cX6_hasRun 15 = .ok (.i2l, 1) := by decide +kernel
theorem dX6_hasRun_16 : decode cX6_hasRun 16 = .ok (.lcmp, 1) := by decide +kernel
theorem dX6_hasRun_17 : decode cX6_hasRun 17 = .ok (.ifCond .gt 7, 3) := by decide +kernel
theorem dX6_hasRun_20 : decode cX6_hasRun 20 = .ok (.iconst 1, 1) := by decide +kernel
theorem dX6_hasRun_21 : decode cX6_hasRun 21 = .ok (.goto 4, 3) := by decide +kernel
theorem dX6_hasRun_24 : decode cX6_hasRun 24 = .ok (.iconst 0, 1) := by decide +kernel
theorem dX6_hasRun_25 : decode cX6_hasRun 25 = .ok (.ireturn, 1) := by decide +kernel
theorem dX7_init_0 : decode cX7_init 0 = .ok (.aload_n 0, 1) := by decide +kernel
theorem dX7_init_1 : decode cX7_init 1 = .ok (.invokespecial 3, 3) := by decide +kernel
theorem dX7_init_4 : decode cX7_init 4 = .ok (.aload_n 0, 1) := by decide +kernel
theorem dX7_init_5 : decode cX7_init 5 = .ok (.sipush 3264, 3) := by decide +kernel
theorem dX7_init_8 : decode cX7_init 8 = .ok (.newarray .long, 2) := by decide +kernel
theorem dX7_init_10 : decode cX7_init 10 = .ok (.putfield 9, 3) := by decide +kernel
theorem dX7_init_13 : decode cX7_init 13 = .ok (.aload_n 0, 1) := by decide +kernel
theorem dX7_init_14 : decode cX7_init 14 = .ok (.new 15, 3) := by decide +kernel
theorem dX7_init_17 : decode cX7_init 17 = .ok (.dup, 1) := by decide +kernel
theorem dX7_init_18 : decode cX7_init 18 = .ok (.invokespecial 17, 3) := by decide +kernel
theorem dX7_init_21 : decode cX7_init 21 = .ok (.putfield 18, 3) := by decide +kernel
theorem dX7_init_24 : decode cX7_init 24 = .ok (.aload_n 0, 1) := by decide +kernel
theorem dX7_init_25 : decode cX7_init 25 = .ok (.new 15, 3) := by decide +kernel
theorem dX7_init_28 : decode cX7_init 28 = .ok (.dup, 1) := by decide +kernel
theorem dX7_init_29 : decode cX7_init 29 = .ok (.invokespecial 17, 3) := by decide +kernel
theorem dX7_init_32 : decode cX7_init 32 = .ok (.putfield 22, 3) := by decide +kernel
theorem dX7_init_35 : decode cX7_init 35 = .ok (.aload_n 0, 1) := by decide +kernel
theorem dX7_init_36 : decode cX7_init 36 = .ok (.sipush 320, 3) := by decide +kernel
theorem dX7_init_39 : decode cX7_init 39 = .ok (.newarray .long, 2) := by decide +kernel
theorem dX7_init_41 : decode cX7_init 41 = .ok (.putfield 25, 3) := by decide +kernel
theorem dX7_init_44 : decode cX7_init 44 = .ok (.aload_n 0, 1) := by decide +kernel
theorem dX7_init_45 : decode cX7_init 45 = .ok (.sipush 320, 3) := by decide +kernel
theorem dX7_init_48 : decode cX7_init 48 = .ok (.newarray .long, 2) := by decide +kernel
theorem dX7_init_50 : decode cX7_init 50 = .ok (.putfield 28, 3) := by decide +kernel
theorem dX7_init_53 : decode cX7_init 53 = .ok (.aload_n 0, 1) := by decide +kernel
theorem dX7_init_54 : decode cX7_init 54 = .ok (.aload_n 1, 1) := by decide +kernel
theorem dX7_init_55 : decode cX7_init 55 = .ok (.putfield 31, 3) := by decide +kernel
theorem dX7_init_58 : decode cX7_init 58 = .ok (.aload_n 0, 1) := by decide +kernel
theorem dX7_init_59 : decode cX7_init 59 = .ok (.aload_n 2, 1) := by decide +kernel
theorem dX7_init_60 : decode cX7_init 60 = .ok (.putfield 35, 3) := by decide +kernel
theorem dX7_init_63 : decode cX7_init 63 = .ok (.aload_n 0, 1) := by decide +kernel
theorem dX7_init_64 : decode cX7_init 64 = .ok (.aload_n 3, 1) := by decide +kernel
theorem dX7_init_65 : decode cX7_init 65 = .ok (.putfield 39, 3) := by decide +kernel
theorem dX7_init_68 : decode cX7_init 68 = .ok (.return_, 1) := by decide +kernel
theorem dX7_go_0 : decode cX7_go 0 = .ok (.aload_n 3, 1) := by decide +kernel
theorem dX7_go_1 : decode cX7_go 1 = .ok (.invokevirtual 43, 3) := by decide +kernel
theorem dX7_go_4 : decode cX7_go 4 = .ok (.bipush (-4), 2) := by decide +kernel
theorem dX7_go_6 : decode cX7_go 6 = .ok (.istore 4, 2) := by decide +kernel
theorem dX7_go_8 : decode cX7_go 8 = .ok (.iload 4, 2) := by decide +kernel
theorem dX7_go_10 : decode cX7_go 10 = .ok (.ifCond .ge 32, 3) := by decide +kernel
theorem dX7_go_13 : decode cX7_go 13 = .ok (.aload_n 0, 1) := by decide +kernel
theorem dX7_go_14 : decode cX7_go 14 = .ok (.getfield 31, 3) := by decide +kernel
theorem dX7_go_17 : decode cX7_go 17 = .ok (.getfield 46, 3) := by decide +kernel
theorem dX7_go_20 : decode cX7_go 20 = .ok (.iconst 0, 1) := by decide +kernel
theorem dX7_go_21 : decode cX7_go 21 = .ok (.aload_n 0, 1) := by decide +kernel
theorem dX7_go_22 : decode cX7_go 22 = .ok (.getfield 9, 3) := by decide +kernel
theorem dX7_go_25 : decode cX7_go 25 = .ok (.iconst 0, 1) := by decide +kernel
theorem dX7_go_26 : decode cX7_go 26 = .ok (.iload 4, 2) := by decide +kernel
theorem dX7_go_28 : decode cX7_go 28 = .ok (.invokestatic 51, 3) := by decide +kernel
theorem dX7_go_31 : decode cX7_go 31 = .ok (.bipush 16, 2) := by decide +kernel
theorem dX7_go_33 : decode cX7_go 33 = .ok (.invokestatic 55, 3) := by decide +kernel
theorem dX7_go_36 : decode cX7_go 36 = .ok (.iinc 4 1, 3) := by decide +kernel
theorem dX7_go_39 : decode cX7_go 39 = .ok (.goto (-31), 3) := by decide +kernel
theorem dX7_go_42 : decode cX7_go 42 = .ok (.iload_n 2, 1) := by decide +kernel
theorem dX7_go_43 : decode cX7_go 43 = .ok (.ifCond .eq 23, 3) := by decide +kernel
theorem dX7_go_46 : decode cX7_go 46 = .ok (.iload_n 1, 1) := by decide +kernel
theorem dX7_go_47 : decode cX7_go 47 = .ok (.aload_n 0, 1) := by decide +kernel
theorem dX7_go_48 : decode cX7_go 48 = .ok (.getfield 39, 3) := by decide +kernel
theorem dX7_go_51 : decode cX7_go 51 = .ok (.getfield 61, 3) := by decide +kernel
theorem dX7_go_54 : decode cX7_go 54 = .ok (.if_icmp .lt 12, 3) := by decide +kernel
theorem dX7_go_57 : decode cX7_go 57 = .ok (.aload_n 0, 1) := by decide +kernel
theorem dX7_go_58 : decode cX7_go 58 = .ok (.iload_n 1, 1) := by decide +kernel
theorem dX7_go_59 : decode cX7_go 59 = .ok (.aload_n 3, 1) := by decide +kernel
theorem dX7_go_60 : decode cX7_go 60 = .ok (.invokevirtual 67, 3) := by decide +kernel
theorem dX7_go_63 : decode cX7_go 63 = .ok (.goto 9, 3) := by decide +kernel
theorem dX7_go_66 : decode cX7_go 66 = .ok (.aload_n 0, 1) := by decide +kernel
theorem dX7_go_67 : decode cX7_go 67 = .ok (.iload_n 1, 1) := by decide +kernel
theorem dX7_go_68 : decode cX7_go 68 = .ok (.aload_n 3, 1) := by decide +kernel
theorem dX7_go_69 : decode cX7_go 69 = .ok (.invokevirtual 71, 3) := by decide +kernel
theorem dX7_go_72 : decode cX7_go 72 = .ok (.aload_n 3, 1) := by decide +kernel
theorem dX7_go_73 : decode cX7_go 73 = .ok (.aload_n 3, 1) := by decide +kernel
theorem dX7_go_74 : decode cX7_go 74 = .ok (.getfield 74, 3) := by decide +kernel
theorem dX7_go_77 : decode cX7_go 77 = .ok (.ifCond .ne 7, 3) := by decide +kernel
theorem dX7_go_80 : decode cX7_go 80 = .ok (.iload_n 1, 1) := by decide +kernel
theorem dX7_go_81 : decode cX7_go 81 = .ok (.goto 7, 3) := by decide +kernel
theorem dX7_go_84 : decode cX7_go 84 = .ok (.aload_n 3, 1) := by decide +kernel
theorem dX7_go_85 : decode cX7_go 85 = .ok (.getfield 77, 3) := by decide +kernel
theorem dX7_go_88 : decode cX7_go 88 = .ok (.putfield 80, 3) := by decide +kernel
theorem dX7_go_91 : decode cX7_go 91 = .ok (.aload_n 3, 1) := by decide +kernel
theorem dX7_go_92 : decode cX7_go 92 = .ok (.getfield 80, 3) := by decide +kernel
theorem dX7_go_95 : decode cX7_go 95 = .ok (.ifCond .le 27, 3) := by decide +kernel
theorem dX7_go_98 : decode cX7_go 98 = .ok (.aload_n 0, 1) := by decide +kernel
theorem dX7_go_99 : decode cX7_go 99 = .ok (.getfield 9, 3) := by decide +kernel
theorem dX7_go_102 : decode cX7_go 102 = .ok (.iconst 0, 1) := by decide +kernel
theorem dX7_go_103 : decode cX7_go 103 = .ok (.aload_n 3, 1) := by decide +kernel
theorem dX7_go_104 : decode cX7_go 104 = .ok (.getfield 80, 3) := by decide +kernel
theorem dX7_go_107 : decode cX7_go 107 = .ok (.iconst 1, 1) := by decide +kernel
theorem dX7_go_108 : decode cX7_go 108 = .ok (.isub, 1) := by decide +kernel
theorem dX7_go_109 : decode cX7_go 109 = .ok (.invokestatic 51, 3) := by decide +kernel
theorem dX7_go_112 : decode cX7_go 112 = .ok (.aload_n 3, 1) := by decide +kernel
theorem dX7_go_113 : decode cX7_go 113 = .ok (.getfield 83, 3) := by decide +kernel
theorem dX7_go_116 : decode cX7_go 116 = .ok (.iconst 0, 1) := by decide +kernel
theorem dX7_go_117 : decode cX7_go 117 = .ok (.bipush 16, 2) := by decide +kernel
theorem dX7_go_119 : decode cX7_go 119 = .ok (.invokestatic 55, 3) := by decide +kernel
theorem dX7_go_122 : decode cX7_go 122 = .ok (.return_, 1) := by decide +kernel
theorem dX7_bothAgree_0 : decode cX7_bothAgree 0 = .ok (.aload_n 0, 1) := by decide +kernel
theorem dX7_bothAgree_1 : decode cX7_bothAgree 1 = .ok (.getfield 35, 3) := by decide +kernel
theorem dX7_bothAgree_4 : decode cX7_bothAgree 4 = .ok (.getfield 84, 3) := by decide +kernel
theorem dX7_bothAgree_7 : decode cX7_bothAgree 7 = .ok (.iconst 0, 1) := by decide +kernel
theorem dX7_bothAgree_8 : decode cX7_bothAgree 8 = .ok (.aload_n 0, 1) := by decide +kernel
theorem dX7_bothAgree_9 : decode cX7_bothAgree 9 = .ok (.getfield 25, 3) := by decide +kernel
theorem dX7_bothAgree_12 : decode cX7_bothAgree 12 = .ok (.iconst 0, 1) := by decide +kernel
theorem dX7_bothAgree_13 : decode cX7_bothAgree 13 = .ok (.aload_n 0, 1) := by decide +kernel
theorem dX7_bothAgree_14 : decode cX7_bothAgree 14 = .ok (.getfield 25, 3) := by decide +kernel
theorem dX7_bothAgree_17 : decode cX7_bothAgree 17 = .ok (.arraylength, 1) := by decide +kernel
theorem dX7_bothAgree_18 : decode cX7_bothAgree 18 = .ok (.invokestatic 55, 3) := by decide +kernel
theorem dX7_bothAgree_21 : decode cX7_bothAgree 21 = .ok (.aload_n 0, 1) := by decide +kernel
theorem dX7_bothAgree_22 : decode cX7_bothAgree 22 = .ok (.iload_n 1, 1) := by decide +kernel
theorem dX7_bothAgree_23 : decode cX7_bothAgree 23 = .ok (.iconst 0, 1) := by decide +kernel
theorem dX7_bothAgree_24 : decode cX7_bothAgree 24 = .ok (.aload_n 0, 1) := by decide +kernel
theorem dX7_bothAgree_25 : decode cX7_bothAgree 25 = .ok (.getfield 18, 3) := by decide +kernel
theorem dX7_bothAgree_28 : decode cX7_bothAgree 28 = .ok (.invokevirtual 89, 3) := by decide +kernel
theorem dX7_bothAgree_31 : decode cX7_bothAgree 31 = .ok (.aload_n 0, 1) := by decide +kernel
theorem dX7_bothAgree_32 : decode cX7_bothAgree 32 = .ok (.getfield 35, 3) := by decide +kernel
theorem dX7_bothAgree_35 : decode cX7_bothAgree 35 = .ok (.getfield 84, 3) := by decide +kernel
theorem dX7_bothAgree_38 : decode cX7_bothAgree 38 = .ok (.iconst 0, 1) := by decide +kernel
theorem dX7_bothAgree_39 : decode cX7_bothAgree 39 = .ok (.aload_n 0, 1) := by decide +kernel
theorem dX7_bothAgree_40 : decode cX7_bothAgree 40 = .ok (.getfield 28, 3) := by decide +kernel
theorem dX7_bothAgree_43 : decode cX7_bothAgree 43 = .ok (.iconst 0, 1) := by decide +kernel
theorem dX7_bothAgree_44 : decode cX7_bothAgree 44 = .ok (.aload_n 0, 1) := by decide +kernel
theorem dX7_bothAgree_45 : decode cX7_bothAgree 45 = .ok (.getfield 28, 3) := by decide +kernel
theorem dX7_bothAgree_48 : decode cX7_bothAgree 48 = .ok (.arraylength, 1) := by decide +kernel
theorem dX7_bothAgree_49 : decode cX7_bothAgree 49 = .ok (.invokestatic 55, 3) := by decide +kernel
theorem dX7_bothAgree_52 : decode cX7_bothAgree 52 = .ok (.aload_n 0, 1) := by decide +kernel
theorem dX7_bothAgree_53 : decode cX7_bothAgree 53 = .ok (.getfield 25, 3) := by decide +kernel
theorem dX7_bothAgree_56 : decode cX7_bothAgree 56 = .ok (.iconst 0, 1) := by decide +kernel
theorem dX7_bothAgree_57 : decode cX7_bothAgree 57 = .ok (.aload_n 0, 1) := by decide +kernel
theorem dX7_bothAgree_58 : decode cX7_bothAgree 58 = .ok (.getfield 35, 3) := by decide +kernel
theorem dX7_bothAgree_61 : decode cX7_bothAgree 61 = .ok (.getfield 84, 3) := by decide +kernel
theorem dX7_bothAgree_64 : decode cX7_bothAgree 64 = .ok (.iconst 0, 1) := by decide +kernel
theorem dX7_bothAgree_65 : decode cX7_bothAgree 65 = .ok (.aload_n 0, 1) := by decide +kernel
theorem dX7_bothAgree_66 : decode cX7_bothAgree 66 = .ok (.getfield 25, 3) := by decide +kernel
theorem dX7_bothAgree_69 : decode cX7_bothAgree 69 = .ok (.arraylength, 1) := by decide +kernel
theorem dX7_bothAgree_70 : decode cX7_bothAgree 70 = .ok (.invokestatic 55, 3) := by decide +kernel
theorem dX7_bothAgree_73 : decode cX7_bothAgree 73 = .ok (.aload_n 0, 1) := by decide +kernel
theorem dX7_bothAgree_74 : decode cX7_bothAgree 74 = .ok (.iload_n 1, 1) := by decide +kernel
theorem dX7_bothAgree_75 : decode cX7_bothAgree 75 = .ok (.iconst 1, 1) := by decide +kernel
theorem dX7_bothAgree_76 : decode cX7_bothAgree 76 = .ok (.aload_n 0, 1) := by decide +kernel
theorem dX7_bothAgree_77 : decode cX7_bothAgree 77 = .ok (.getfield 22, 3) := by decide +kernel
theorem dX7_bothAgree_80 : decode cX7_bothAgree 80 = .ok (.invokevirtual 89, 3) := by decide +kernel
theorem dX7_bothAgree_83 : decode cX7_bothAgree 83 = .ok (.aload_n 0, 1) := by decide +kernel
theorem dX7_bothAgree_84 : decode cX7_bothAgree 84 = .ok (.getfield 18, 3) := by decide +kernel
theorem dX7_bothAgree_87 : decode cX7_bothAgree 87 = .ok (.aload_n 0, 1) := by decide +kernel
theorem dX7_bothAgree_88 : decode cX7_bothAgree 88 = .ok (.getfield 22, 3) := by decide +kernel
theorem dX7_bothAgree_91 : decode cX7_bothAgree 91 = .ok (.aload_n 0, 1) := by decide +kernel
theorem dX7_bothAgree_92 : decode cX7_bothAgree 92 = .ok (.getfield 31, 3) := by decide +kernel
theorem dX7_bothAgree_95 : decode cX7_bothAgree 95 = .ok (.getfield 93, 3) := by decide +kernel
theorem dX7_bothAgree_98 : decode cX7_bothAgree 98 = .ok (.invokevirtual 96, 3) := by decide +kernel
theorem dX7_bothAgree_101 : decode cX7_bothAgree 101 = .ok (.ifCond .eq 14, 3) := by decide +kernel
theorem dX7_bothAgree_104 : decode cX7_bothAgree 104 = .ok (.aload_n 0, 1) := by decide +kernel
theorem dX7_bothAgree_105 : decode cX7_bothAgree 105 = .ok (.invokevirtual 100, 3) := by decide +kernel
theorem dX7_bothAgree_108 : decode cX7_bothAgree 108 = .ok (.ifCond .eq 7, 3) := by decide +kernel
theorem dX7_bothAgree_111 : decode cX7_bothAgree 111 = .ok (.iconst 1, 1) := by decide +kernel
theorem dX7_bothAgree_112 : decode cX7_bothAgree 112 = .ok (.goto 4, 3) := by decide +kernel
theorem dX7_bothAgree_115 : decode cX7_bothAgree 115 = .ok (.iconst 0, 1) := by decide +kernel
theorem dX7_bothAgree_116 : decode cX7_bothAgree 116 = .ok (.istore_n 2, 1) := by decide +kernel
theorem dX7_bothAgree_117 : decode cX7_bothAgree 117 = .ok (.aload_n 0, 1) := by decide +kernel
theorem dX7_bothAgree_118 : decode cX7_bothAgree 118 = .ok (.getfield 25, 3) := by decide +kernel
theorem dX7_bothAgree_121 : decode cX7_bothAgree 121 = .ok (.iconst 0, 1) := by decide +kernel
theorem dX7_bothAgree_122 : decode cX7_bothAgree 122 = .ok (.aload_n 0, 1) := by decide +kernel
theorem dX7_bothAgree_123 : decode cX7_bothAgree 123 = .ok (.getfield 35, 3) := by decide +kernel
theorem dX7_bothAgree_126 : decode cX7_bothAgree 126 = .ok (.getfield 84, 3) := by decide +kernel
theorem dX7_bothAgree_129 : decode cX7_bothAgree 129 = .ok (.iconst 0, 1) := by decide +kernel
theorem dX7_bothAgree_130 : decode cX7_bothAgree 130 = .ok (.aload_n 0, 1) := by decide +kernel
theorem dX7_bothAgree_131 : decode cX7_bothAgree 131 = .ok (.getfield 25, 3) := by decide +kernel
theorem dX7_bothAgree_134 : decode cX7_bothAgree 134 = .ok (.arraylength, 1) := by decide +kernel
theorem dX7_bothAgree_135 : decode cX7_bothAgree 135 = .ok (.invokestatic 55, 3) := by decide +kernel
theorem dX7_bothAgree_138 : decode cX7_bothAgree 138 = .ok (.iload_n 2, 1) := by decide +kernel
theorem dX7_bothAgree_139 : decode cX7_bothAgree 139 = .ok (.ireturn, 1) := by decide +kernel
theorem dX7_rowsAreAsOfPlain_0 : decode cX7_rowsAreAsOfPlain 0 = .ok (.iconst 0, 1) := by decide +kernel
theorem dX7_rowsAreAsOfPlain_1 : decode cX7_rowsAreAsOfPlain 1 = .ok (.istore_n 1, 1) := by decide +kernel
theorem dX7_rowsAreAsOfPlain_2 : decode cX7_rowsAreAsOfPlain 2 = .ok (.iload_n 1, 1) := by decide +kernel
theorem dX7_rowsAreAsOfPlain_3 : decode cX7_rowsAreAsOfPlain 3 = .ok (.aload_n 0, 1) := by decide +kernel
theorem dX7_rowsAreAsOfPlain_4 : decode cX7_rowsAreAsOfPlain 4 = .ok (.getfield 28, 3) := by decide +kernel
theorem dX7_rowsAreAsOfPlain_7 : decode cX7_rowsAreAsOfPlain 7 = .ok (.arraylength, 1) := by decide +kernel
theorem dX7_rowsAreAsOfPlain_8 : decode cX7_rowsAreAsOfPlain 8 = .ok (.if_icmp .ge 30, 3) := by decide +kernel
theorem dX7_rowsAreAsOfPlain_11 : decode cX7_rowsAreAsOfPlain 11 = .ok (.aload_n 0, 1) := by decide +kernel
theorem dX7_rowsAreAsOfPlain_12 : decode cX7_rowsAreAsOfPlain 12 = .ok (.getfield 35, 3) := by decide +kernel
theorem dX7_rowsAreAsOfPlain_15 : decode cX7_rowsAreAsOfPlain 15 = .ok (.getfield 84, 3) := by decide +kernel
theorem dX7_rowsAreAsOfPlain_18 : decode cX7_rowsAreAsOfPlain 18 = .ok (.iload_n 1, 1) := by decide +kernel
theorem dX7_rowsAreAsOfPlain_19 : decode cX7_rowsAreAsOfPlain 19 = .ok (.laload, 1) := by decide +kernel
theorem dX7_rowsAreAsOfPlain_20 : decode cX7_rowsAreAsOfPlain 20 = .ok (.aload_n 0, 1) := by decide +kernel
theorem dX7_rowsAreAsOfPlain_21 : decode cX7_rowsAreAsOfPlain 21 = .ok (.getfield 28, 3) := by decide +kernel
theorem dX7_rowsAreAsOfPlain_24 : decode cX7_rowsAreAsOfPlain 24 = .ok (.iload_n 1, 1) := by decide +kernel
theorem dX7_rowsAreAsOfPlain_25 : decode cX7_rowsAreAsOfPlain 25 = .ok (.laload, 1) := by decide +kernel
theorem dX7_rowsAreAsOfPlain_26 : decode cX7_rowsAreAsOfPlain 26 = .ok (.lcmp, 1) := by decide +kernel
theorem dX7_rowsAreAsOfPlain_27 : decode cX7_rowsAreAsOfPlain 27 = .ok (.ifCond .eq 5, 3) := by decide +kernel
theorem dX7_rowsAreAsOfPlain_30 : decode cX7_rowsAreAsOfPlain 30 = .ok (.iconst 0, 1) := by decide +kernel
theorem dX7_rowsAreAsOfPlain_31 : decode cX7_rowsAreAsOfPlain 31 = .ok (.ireturn, 1) := by decide +kernel
theorem dX7_rowsAreAsOfPlain_32 : decode cX7_rowsAreAsOfPlain 32 = .ok (.iinc 1 1, 3) := by decide +kernel
theorem dX7_rowsAreAsOfPlain_35 : decode cX7_rowsAreAsOfPlain 35 = .ok (.goto (-33), 3) := by decide +kernel
theorem dX7_rowsAreAsOfPlain_38 : decode cX7_rowsAreAsOfPlain 38 = .ok (.iconst 1, 1) := by decide +kernel
theorem dX7_rowsAreAsOfPlain_39 : decode cX7_rowsAreAsOfPlain 39 = .ok (.ireturn, 1) := by decide +kernel
theorem dX7_goPlain_0 : decode cX7_goPlain 0 = .ok (.iconst 0, 1) := by decide +kernel
theorem dX7_goPlain_1 : decode cX7_goPlain 1 = .ok (.istore_n 3, 1) := by decide +kernel
theorem dX7_goPlain_2 : decode cX7_goPlain 2 = .ok (.iload_n 3, 1) := by decide +kernel
theorem dX7_goPlain_3 : decode cX7_goPlain 3 = .ok (.iload_n 1, 1) := by decide +kernel
theorem dX7_goPlain_4 : decode cX7_goPlain 4 = .ok (.if_icmp .ge 71, 3) := by decide +kernel
theorem dX7_goPlain_7 : decode cX7_goPlain 7 = .ok (.aload_n 2, 1) := by decide +kernel
theorem dX7_goPlain_8 : decode cX7_goPlain 8 = .ok (.getfield 74, 3) := by decide +kernel
theorem dX7_goPlain_11 : decode cX7_goPlain 11 = .ok (.ifCond .ne 64, 3) := by decide +kernel
theorem dX7_goPlain_14 : decode cX7_goPlain 14 = .ok (.iconst 0, 1) := by decide +kernel
theorem dX7_goPlain_15 : decode cX7_goPlain 15 = .ok (.istore 4, 2) := by decide +kernel
theorem dX7_goPlain_17 : decode cX7_goPlain 17 = .ok (.iload 4, 2) := by decide +kernel
theorem dX7_goPlain_19 : decode cX7_goPlain 19 = .ok (.aload_n 0, 1) := by decide +kernel
theorem dX7_goPlain_20 : decode cX7_goPlain 20 = .ok (.getfield 31, 3) := by decide +kernel
theorem dX7_goPlain_23 : decode cX7_goPlain 23 = .ok (.getfield 93, 3) := by decide +kernel
theorem dX7_goPlain_26 : decode cX7_goPlain 26 = .ok (.if_icmp .ge 43, 3) := by decide +kernel
theorem dX7_goPlain_29 : decode cX7_goPlain 29 = .ok (.aload_n 2, 1) := by decide +kernel
theorem dX7_goPlain_30 : decode cX7_goPlain 30 = .ok (.getfield 74, 3) := by decide +kernel
theorem dX7_goPlain_33 : decode cX7_goPlain 33 = .ok (.ifCond .ne 36, 3) := by decide +kernel
theorem dX7_goPlain_36 : decode cX7_goPlain 36 = .ok (.aload_n 0, 1) := by decide +kernel
theorem dX7_goPlain_37 : decode cX7_goPlain 37 = .ok (.iload 4, 2) := by decide +kernel
theorem dX7_goPlain_39 : decode cX7_goPlain 39 = .ok (.iload_n 3, 1) := by decide +kernel
theorem dX7_goPlain_40 : decode cX7_goPlain 40 = .ok (.aload_n 2, 1) := by decide +kernel
theorem dX7_goPlain_41 : decode cX7_goPlain 41 = .ok (.invokevirtual 104, 3) := by decide +kernel
theorem dX7_goPlain_44 : decode cX7_goPlain 44 = .ok (.aload_n 2, 1) := by decide +kernel
theorem dX7_goPlain_45 : decode cX7_goPlain 45 = .ok (.dup, 1) := by decide +kernel
theorem dX7_goPlain_46 : decode cX7_goPlain 46 = .ok (.getfield 108, 3) := by decide +kernel
theorem dX7_goPlain_49 : decode cX7_goPlain 49 = .ok (.aload_n 0, 1) := by decide +kernel
theorem dX7_goPlain_50 : decode cX7_goPlain 50 = .ok (.getfield 31, 3) := by decide +kernel
theorem dX7_goPlain_53 : decode cX7_goPlain 53 = .ok (.getfield 111, 3) := by decide +kernel
theorem dX7_goPlain_56 : decode cX7_goPlain 56 = .ok (.iload 4, 2) := by decide +kernel
theorem dX7_goPlain_58 : decode cX7_goPlain 58 = .ok (.iaload, 1) := by decide +kernel
theorem dX7_goPlain_59 : decode cX7_goPlain 59 = .ok (.iadd, 1) := by decide +kernel
theorem dX7_goPlain_60 : decode cX7_goPlain 60 = .ok (.putfield 108, 3) := by decide +kernel
theorem dX7_goPlain_63 : decode cX7_goPlain 63 = .ok (.iinc 4 1, 3) := by decide +kernel
theorem dX7_goPlain_66 : decode cX7_goPlain 66 = .ok (.goto (-49), 3) := by decide +kernel
theorem dX7_goPlain_69 : decode cX7_goPlain 69 = .ok (.iinc 3 1, 3) := by decide +kernel
theorem dX7_goPlain_72 : decode cX7_goPlain 72 = .ok (.goto (-70), 3) := by decide +kernel
theorem dX7_goPlain_75 : decode cX7_goPlain 75 = .ok (.return_, 1) := by decide +kernel
theorem dX7_goByTicks_0 : decode cX7_goByTicks 0 = .ok (.aload_n 2, 1) := by decide +kernel
theorem dX7_goByTicks_1 : decode cX7_goByTicks 1 = .ok (.iconst 1, 1) := by decide +kernel
theorem dX7_goByTicks_2 : decode cX7_goByTicks 2 = .ok (.putfield 115, 3) := by decide +kernel
theorem dX7_goByTicks_5 : decode cX7_goByTicks 5 = .ok (.iconst 0, 1) := by decide +kernel
theorem dX7_goByTicks_6 : decode cX7_goByTicks 6 = .ok (.istore_n 3, 1) := by decide +kernel
theorem dX7_goByTicks_7 : decode cX7_goByTicks 7 = .ok (.iload_n 3, 1) := by decide +kernel
theorem dX7_goByTicks_8 : decode cX7_goByTicks 8 = .ok (.iload_n 1, 1) := by decide +kernel
theorem dX7_goByTicks_9 : decode cX7_goByTicks 9 = .ok (.aload_n 0, 1) := by decide +kernel
theorem dX7_goByTicks_10 : decode cX7_goByTicks 10 = .ok (.getfield 39, 3) := by decide +kernel
theorem dX7_goByTicks_13 : decode cX7_goByTicks 13 = .ok (.getfield 61, 3) := by decide +kernel
theorem dX7_goByTicks_16 : decode cX7_goByTicks 16 = .ok (.iadd, 1) := by decide +kernel
theorem dX7_goByTicks_17 : decode cX7_goByTicks 17 = .ok (.iconst 1, 1) := by decide +kernel
theorem dX7_goByTicks_18 : decode cX7_goByTicks 18 = .ok (.isub, 1) := by decide +kernel
theorem dX7_goByTicks_19 : decode cX7_goByTicks 19 = .ok (.if_icmp .ge 113, 3) := by decide +kernel
theorem dX7_goByTicks_22 : decode cX7_goByTicks 22 = .ok (.iconst 0, 1) := by decide +kernel
theorem dX7_goByTicks_23 : decode cX7_goByTicks 23 = .ok (.istore 4, 2) := by decide +kernel
theorem dX7_goByTicks_25 : decode cX7_goByTicks 25 = .ok (.iload 4, 2) := by decide +kernel
theorem dX7_goByTicks_27 : decode cX7_goByTicks 27 = .ok (.aload_n 0, 1) := by decide +kernel
theorem dX7_goByTicks_28 : decode cX7_goByTicks 28 = .ok (.getfield 31, 3) := by decide +kernel
theorem dX7_goByTicks_31 : decode cX7_goByTicks 31 = .ok (.getfield 93, 3) := by decide +kernel
theorem dX7_goByTicks_34 : decode cX7_goByTicks 34 = .ok (.if_icmp .ge 92, 3) := by decide +kernel
theorem dX7_goByTicks_37 : decode cX7_goByTicks 37 = .ok (.aload_n 0, 1) := by decide +kernel
theorem dX7_goByTicks_38 : decode cX7_goByTicks 38 = .ok (.getfield 39, 3) := by decide +kernel
theorem dX7_goByTicks_41 : decode cX7_goByTicks 41 = .ok (.getfield 119, 3) := by decide +kernel
theorem dX7_goByTicks_44 : decode cX7_goByTicks 44 = .ok (.iload 4, 2) := by decide +kernel
theorem dX7_goByTicks_46 : decode cX7_goByTicks 46 = .ok (.iaload, 1) := by decide +kernel
theorem dX7_goByTicks_47 : decode cX7_goByTicks 47 = .ok (.istore 5, 2) := by decide +kernel
theorem dX7_goByTicks_49 : decode cX7_goByTicks 49 = .ok (.iload_n 3, 1) := by decide +kernel
theorem dX7_goByTicks_50 : decode cX7_goByTicks 50 = .ok (.aload_n 0, 1) := by decide +kernel
theorem dX7_goByTicks_51 : decode cX7_goByTicks 51 = .ok (.getfield 39, 3) := by decide +kernel
theorem dX7_goByTicks_54 : decode cX7_goByTicks 54 = .ok (.getfield 122, 3) := by decide +kernel
theorem dX7_goByTicks_57 : decode cX7_goByTicks 57 = .ok (.iload 5, 2) := by decide +kernel
theorem dX7_goByTicks_59 : decode cX7_goByTicks 59 = .ok (.iaload, 1) := by decide +kernel
theorem dX7_goByTicks_60 : decode cX7_goByTicks 60 = .ok (.isub, 1) := by decide +kernel
theorem dX7_goByTicks_61 : decode cX7_goByTicks 61 = .ok (.istore 6, 2) := by decide +kernel
theorem dX7_goByTicks_63 : decode cX7_goByTicks 63 = .ok (.iload 6, 2) := by decide +kernel
theorem dX7_goByTicks_65 : decode cX7_goByTicks 65 = .ok (.ifCond .lt 55, 3) := by decide +kernel
theorem dX7_goByTicks_68 : decode cX7_goByTicks 68 = .ok (.iload 6, 2) := by decide +kernel
theorem dX7_goByTicks_70 : decode cX7_goByTicks 70 = .ok (.iload_n 1, 1) := by decide +kernel
theorem dX7_goByTicks_71 : decode cX7_goByTicks 71 = .ok (.if_icmp .ge 49, 3) := by decide +kernel
theorem dX7_goByTicks_74 : decode cX7_goByTicks 74 = .ok (.aload_n 2, 1) := by decide +kernel
theorem dX7_goByTicks_75 : decode cX7_goByTicks 75 = .ok (.iload 5, 2) := by decide +kernel
theorem dX7_goByTicks_77 : decode cX7_goByTicks 77 = .ok (.iload 6, 2) := by decide +kernel
theorem dX7_goByTicks_79 : decode cX7_goByTicks 79 = .ok (.invokevirtual 125, 3) := by decide +kernel
theorem dX7_goByTicks_82 : decode cX7_goByTicks 82 = .ok (.ifCond .ne 38, 3) := by decide +kernel
theorem dX7_goByTicks_85 : decode cX7_goByTicks 85 = .ok (.aload_n 0, 1) := by decide +kernel
theorem dX7_goByTicks_86 : decode cX7_goByTicks 86 = .ok (.iload 5, 2) := by decide +kernel
theorem dX7_goByTicks_88 : decode cX7_goByTicks 88 = .ok (.iload 6, 2) := by decide +kernel
theorem dX7_goByTicks_90 : decode cX7_goByTicks 90 = .ok (.aload_n 2, 1) := by decide +kernel
theorem dX7_goByTicks_91 : decode cX7_goByTicks 91 = .ok (.invokevirtual 104, 3) := by decide +kernel
theorem dX7_goByTicks_94 : decode cX7_goByTicks 94 = .ok (.aload_n 2, 1) := by decide +kernel
theorem dX7_goByTicks_95 : decode cX7_goByTicks 95 = .ok (.iload_n 3, 1) := by decide +kernel
theorem dX7_goByTicks_96 : decode cX7_goByTicks 96 = .ok (.aload_n 0, 1) := by decide +kernel
theorem dX7_goByTicks_97 : decode cX7_goByTicks 97 = .ok (.getfield 39, 3) := by decide +kernel
theorem dX7_goByTicks_100 : decode cX7_goByTicks 100 = .ok (.getfield 129, 3) := by decide +kernel
theorem dX7_goByTicks_103 : decode cX7_goByTicks 103 = .ok (.imul, 1) := by decide +kernel
theorem dX7_goByTicks_104 : decode cX7_goByTicks 104 = .ok (.aload_n 0, 1) := by decide +kernel
theorem dX7_goByTicks_105 : decode cX7_goByTicks 105 = .ok (.getfield 39, 3) := by decide +kernel
theorem dX7_goByTicks_108 : decode cX7_goByTicks 108 = .ok (.getfield 132, 3) := by decide +kernel
theorem dX7_goByTicks_111 : decode cX7_goByTicks 111 = .ok (.iload 5, 2) := by decide +kernel
theorem dX7_goByTicks_113 : decode cX7_goByTicks 113 = .ok (.iaload, 1) := by decide +kernel
theorem dX7_goByTicks_114 : decode cX7_goByTicks 114 = .ok (.iadd, 1) := by decide +kernel
theorem dX7_goByTicks_115 : decode cX7_goByTicks 115 = .ok (.iconst 1, 1) := by decide +kernel
theorem dX7_goByTicks_116 : decode cX7_goByTicks 116 = .ok (.iadd, 1) := by decide +kernel
theorem dX7_goByTicks_117 : decode cX7_goByTicks 117 = .ok (.putfield 108, 3) := by decide +kernel
theorem dX7_goByTicks_120 : decode cX7_goByTicks 120 = .ok (.iinc 4 1, 3) := by decide +kernel
theorem dX7_goByTicks_123 : decode cX7_goByTicks 123 = .ok (.goto (-98), 3) := by decide +kernel
theorem dX7_goByTicks_126 : decode cX7_goByTicks 126 = .ok (.iinc 3 1, 3) := by decide +kernel
theorem dX7_goByTicks_129 : decode cX7_goByTicks 129 = .ok (.goto (-122), 3) := by decide +kernel
theorem dX7_goByTicks_132 : decode cX7_goByTicks 132 = .ok (.return_, 1) := by decide +kernel
theorem dX7_begin_0 : decode cX7_begin 0 = .ok (.aload_n 3, 1) := by decide +kernel
theorem dX7_begin_1 : decode cX7_begin 1 = .ok (.dup, 1) := by decide +kernel
theorem dX7_begin_2 : decode cX7_begin 2 = .ok (.getfield 135, 3) := by decide +kernel
theorem dX7_begin_5 : decode cX7_begin 5 = .ok (.iconst 1, 1) := by decide +kernel
theorem dX7_begin_6 : decode cX7_begin 6 = .ok (.iadd, 1) := by decide +kernel
theorem dX7_begin_7 : decode cX7_begin 7 = .ok (.putfield 135, 3) := by decide +kernel
theorem dX7_begin_10 : decode cX7_begin 10 = .ok (.aload_n 0, 1) := by decide +kernel
theorem dX7_begin_11 : decode cX7_begin 11 = .ok (.iload_n 1, 1) := by decide +kernel
theorem dX7_begin_12 : decode cX7_begin 12 = .ok (.iload_n 2, 1) := by decide +kernel
theorem dX7_begin_13 : decode cX7_begin 13 = .ok (.invokevirtual 138, 3) := by decide +kernel
theorem dX7_begin_16 : decode cX7_begin 16 = .ok (.istore 4, 2) := by decide +kernel
theorem dX7_begin_18 : decode cX7_begin 18 = .ok (.iload 4, 2) := by decide +kernel
theorem dX7_begin_20 : decode cX7_begin 20 = .ok (.ifCond .eq 14, 3) := by decide +kernel
theorem dX7_begin_23 : decode cX7_begin 23 = .ok (.aload_n 3, 1) := by decide +kernel
theorem dX7_begin_24 : decode cX7_begin 24 = .ok (.iload 4, 2) := by decide +kernel
theorem dX7_begin_26 : decode cX7_begin 26 = .ok (.iload_n 1, 1) := by decide +kernel
theorem dX7_begin_27 : decode cX7_begin 27 = .ok (.iload_n 2, 1) := by decide +kernel
theorem dX7_begin_28 : decode cX7_begin 28 = .ok (.invokevirtual 141, 3) := by decide +kernel
theorem dX7_begin_31 : decode cX7_begin 31 = .ok (.goto 19, 3) := by decide +kernel
theorem dX7_begin_34 : decode cX7_begin 34 = .ok (.aload_n 0, 1) := by decide +kernel
theorem dX7_begin_35 : decode cX7_begin 35 = .ok (.getfield 9, 3) := by decide +kernel
theorem dX7_begin_38 : decode cX7_begin 38 = .ok (.iload_n 1, 1) := by decide +kernel
theorem dX7_begin_39 : decode cX7_begin 39 = .ok (.iload_n 2, 1) := by decide +kernel
theorem dX7_begin_40 : decode cX7_begin 40 = .ok (.invokestatic 51, 3) := by decide +kernel
theorem dX7_begin_43 : decode cX7_begin 43 = .ok (.aload_n 0, 1) := by decide +kernel
theorem dX7_begin_44 : decode cX7_begin 44 = .ok (.iload_n 1, 1) := by decide +kernel
theorem dX7_begin_45 : decode cX7_begin 45 = .ok (.iload_n 2, 1) := by decide +kernel
theorem dX7_begin_46 : decode cX7_begin 46 = .ok (.invokevirtual 145, 3) := by decide +kernel
theorem dX7_begin_49 : decode cX7_begin 49 = .ok (.lastore, 1) := by decide +kernel
theorem dX7_begin_50 : decode cX7_begin 50 = .ok (.return_, 1) := by decide +kernel
theorem dX7_refusalOf_0 : decode cX7_refusalOf 0 = .ok (.aload_n 0, 1) := by decide +kernel
theorem dX7_refusalOf_1 : decode cX7_refusalOf 1 = .ok (.getfield 31, 3) := by decide +kernel
theorem dX7_refusalOf_4 : decode cX7_refusalOf 4 = .ok (.iload_n 1, 1) := by decide +kernel
theorem dX7_refusalOf_5 : decode cX7_refusalOf 5 = .ok (.invokevirtual 149, 3) := by decide +kernel
theorem dX7_refusalOf_8 : decode cX7_refusalOf 8 = .ok (.ifCond .eq 27, 3) := by decide +kernel
theorem dX7_refusalOf_11 : decode cX7_refusalOf 11 = .ok (.aload_n 0, 1) := by decide +kernel
theorem dX7_refusalOf_12 : decode cX7_refusalOf 12 = .ok (.getfield 35, 3) := by decide +kernel
theorem dX7_refusalOf_15 : decode cX7_refusalOf 15 = .ok (.aload_n 0, 1) := by decide +kernel
theorem dX7_refusalOf_16 : decode cX7_refusalOf 16 = .ok (.getfield 31, 3) := by decide +kernel
theorem dX7_refusalOf_19 : decode cX7_refusalOf 19 = .ok (.getfield 153, 3) := by decide +kernel
theorem dX7_refusalOf_22 : decode cX7_refusalOf 22 = .ok (.iload_n 1, 1) := by decide +kernel
theorem dX7_refusalOf_23 : decode cX7_refusalOf 23 = .ok (.iaload, 1) := by decide +kernel
theorem dX7_refusalOf_24 : decode cX7_refusalOf 24 = .ok (.aload_n 0, 1) := by decide +kernel
theorem dX7_refusalOf_25 : decode cX7_refusalOf 25 = .ok (.iload_n 1, 1) := by decide +kernel
theorem dX7_refusalOf_26 : decode cX7_refusalOf 26 = .ok (.iconst 0, 1) := by decide +kernel
theorem dX7_refusalOf_27 : decode cX7_refusalOf 27 = .ok (.iload_n 2, 1) := by decide +kernel
theorem dX7_refusalOf_28 : decode cX7_refusalOf 28 = .ok (.invokevirtual 156, 3) := by decide +kernel
theorem dX7_refusalOf_31 : decode cX7_refusalOf 31 = .ok (.invokevirtual 160, 3) := by decide +kernel
theorem dX7_refusalOf_34 : decode cX7_refusalOf 34 = .ok (.ireturn, 1) := by decide +kernel
theorem dX7_refusalOf_35 : decode cX7_refusalOf 35 = .ok (.aload_n 0, 1) := by decide +kernel
theorem dX7_refusalOf_36 : decode cX7_refusalOf 36 = .ok (.getfield 31, 3) := by decide +kernel
theorem dX7_refusalOf_39 : decode cX7_refusalOf 39 = .ok (.getfield 164, 3) := by decide +kernel
theorem dX7_refusalOf_42 : decode cX7_refusalOf 42 = .ok (.iload_n 1, 1) := by decide +kernel
theorem dX7_refusalOf_43 : decode cX7_refusalOf 43 = .ok (.iaload, 1) := by decide +kernel
theorem dX7_refusalOf_44 : decode cX7_refusalOf 44 = .ok (.iconst 3, 1) := by decide +kernel
theorem dX7_refusalOf_45 : decode cX7_refusalOf 45 = .ok (.if_icmp .ne 20, 3) := by decide +kernel
theorem dX7_refusalOf_48 : decode cX7_refusalOf 48 = .ok (.aload_n 0, 1) := by decide +kernel
theorem dX7_refusalOf_49 : decode cX7_refusalOf 49 = .ok (.iload_n 1, 1) := by decide +kernel
theorem dX7_refusalOf_50 : decode cX7_refusalOf 50 = .ok (.iconst 1, 1) := by decide +kernel
theorem dX7_refusalOf_51 : decode cX7_refusalOf 51 = .ok (.iload_n 2, 1) := by decide +kernel
theorem dX7_refusalOf_52 : decode cX7_refusalOf 52 = .ok (.invokevirtual 156, 3) := by decide +kernel
theorem dX7_refusalOf_55 : decode cX7_refusalOf 55 = .ok (.lconst 0, 1) := by decide +kernel
theorem dX7_refusalOf_56 : decode cX7_refusalOf 56 = .ok (.lcmp, 1) := by decide +kernel
theorem dX7_refusalOf_57 : decode cX7_refusalOf 57 = .ok (.ifCond .ne 8, 3) := by decide +kernel
theorem dX7_refusalOf_60 : decode cX7_refusalOf 60 = .ok (.bipush (-8), 2) := by decide +kernel
theorem dX7_refusalOf_62 : decode cX7_refusalOf 62 = .ok (.goto 4, 3) := by decide +kernel
theorem dX7_refusalOf_65 : decode cX7_refusalOf 65 = .ok (.iconst 0, 1) := by decide +kernel
theorem dX7_refusalOf_66 : decode cX7_refusalOf 66 = .ok (.ireturn, 1) := by decide +kernel
theorem dX7_endOf_0 : decode cX7_endOf 0 = .ok (.aload_n 0, 1) := by decide +kernel
theorem dX7_endOf_1 : decode cX7_endOf 1 = .ok (.getfield 31, 3) := by decide +kernel
theorem dX7_endOf_4 : decode cX7_endOf 4 = .ok (.getfield 164, 3) := by decide +kernel
theorem dX7_endOf_7 : decode cX7_endOf 7 = .ok (.iload_n 1, 1) := by decide +kernel
theorem dX7_endOf_8 : decode cX7_endOf 8 = .ok (.iaload, 1) := by decide +kernel
theorem dX7_endOf_9 : decode cX7_endOf 9 = .ok (.tableswitch 160 0 5 #[39, 49, 65, 81, 99, 128], 39) := by decide +kernel
theorem dX7_endOf_48 : decode cX7_endOf 48 = .ok (.aload_n 0, 1) := by decide +kernel
theorem dX7_endOf_49 : decode cX7_endOf 49 = .ok (.getfield 31, 3) := by decide +kernel
theorem dX7_endOf_52 : decode cX7_endOf 52 = .ok (.getfield 167, 3) := by decide +kernel
theorem dX7_endOf_55 : decode cX7_endOf 55 = .ok (.iload_n 1, 1) := by decide +kernel
theorem dX7_endOf_56 : decode cX7_endOf 56 = .ok (.laload, 1) := by decide +kernel
theorem dX7_endOf_57 : decode cX7_endOf 57 = .ok (.lreturn, 1) := by decide +kernel
theorem dX7_endOf_58 : decode cX7_endOf 58 = .ok (.aload_n 0, 1) := by decide +kernel
theorem dX7_endOf_59 : decode cX7_endOf 59 = .ok (.iload_n 1, 1) := by decide +kernel
theorem dX7_endOf_60 : decode cX7_endOf 60 = .ok (.iconst 0, 1) := by decide +kernel
theorem dX7_endOf_61 : decode cX7_endOf 61 = .ok (.iload_n 2, 1) := by decide +kernel
theorem dX7_endOf_62 : decode cX7_endOf 62 = .ok (.invokevirtual 156, 3) := by decide +kernel
theorem dX7_endOf_65 : decode cX7_endOf 65 = .ok (.aload_n 0, 1) := by decide +kernel
theorem dX7_endOf_66 : decode cX7_endOf 66 = .ok (.iload_n 1, 1) := by decide +kernel
theorem dX7_endOf_67 : decode cX7_endOf 67 = .ok (.iconst 1, 1) := by decide +kernel
theorem dX7_endOf_68 : decode cX7_endOf 68 = .ok (.iload_n 2, 1) := by decide +kernel
theorem dX7_endOf_69 : decode cX7_endOf 69 = .ok (.invokevirtual 156, 3) := by decide +kernel
theorem dX7_endOf_72 : decode cX7_endOf 72 = .ok (.ladd, 1) := by decide +kernel
theorem dX7_endOf_73 : decode cX7_endOf 73 = .ok (.lreturn, 1) := by decide +kernel
theorem dX7_endOf_74 : decode cX7_endOf 74 = .ok (.aload_n 0, 1) := by decide +kernel
theorem dX7_endOf_75 : decode cX7_endOf 75 = .ok (.iload_n 1, 1) := by decide +kernel
theorem dX7_endOf_76 : decode cX7_endOf 76 = .ok (.iconst 0, 1) := by decide +kernel
theorem dX7_endOf_77 : decode cX7_endOf 77 = .ok (.iload_n 2, 1) := by decide +kernel
theorem dX7_endOf_78 : decode cX7_endOf 78 = .ok (.invokevirtual 156, 3) := by decide +kernel
theorem dX7_endOf_81 : decode cX7_endOf 81 = .ok (.aload_n 0, 1) := by decide +kernel
theorem dX7_endOf_82 : decode cX7_endOf 82 = .ok (.iload_n 1, 1) := by decide +kernel
theorem dX7_endOf_83 : decode cX7_endOf 83 = .ok (.iconst 1, 1) := by decide +kernel
theorem dX7_endOf_84 : decode cX7_endOf 84 = .ok (.iload_n 2, 1) := by decide +kernel
theorem dX7_endOf_85 : decode cX7_endOf 85 = .ok (.invokevirtual 156, 3) := by decide +kernel
theorem dX7_endOf_88 : decode cX7_endOf 88 = .ok (.lmul, 1) := by decide +kernel
theorem dX7_endOf_89 : decode cX7_endOf 89 = .ok (.lreturn, 1) := by decide +kernel
theorem dX7_endOf_90 : decode cX7_endOf 90 = .ok (.aload_n 0, 1) := by decide +kernel
theorem dX7_endOf_91 : decode cX7_endOf 91 = .ok (.iload_n 1, 1) := by decide +kernel
theorem dX7_endOf_92 : decode cX7_endOf 92 = .ok (.iconst 0, 1) := by decide +kernel
theorem dX7_endOf_93 : decode cX7_endOf 93 = .ok (.iload_n 2, 1) := by decide +kernel
theorem dX7_endOf_94 : decode cX7_endOf 94 = .ok (.invokevirtual 156, 3) := by decide +kernel
theorem dX7_endOf_97 : decode cX7_endOf 97 = .ok (.aload_n 0, 1) := by decide +kernel
theorem dX7_endOf_98 : decode cX7_endOf 98 = .ok (.iload_n 1, 1) := by decide +kernel
theorem dX7_endOf_99 : decode cX7_endOf 99 = .ok (.iconst 1, 1) := by decide +kernel
theorem dX7_endOf_100 : decode cX7_endOf 100 = .ok (.iload_n 2, 1) := by decide +kernel
theorem dX7_endOf_101 : decode cX7_endOf 101 = .ok (.invokevirtual 156, 3) := by decide +kernel
theorem dX7_endOf_104 : decode cX7_endOf 104 = .ok (.invokestatic 170, 3) := by decide +kernel
theorem dX7_endOf_107 : decode cX7_endOf 107 = .ok (.lreturn, 1) := by decide +kernel
theorem dX7_endOf_108 : decode cX7_endOf 108 = .ok (.aload_n 0, 1) := by decide +kernel
theorem dX7_endOf_109 : decode cX7_endOf 109 = .ok (.getfield 35, 3) := by decide +kernel
theorem dX7_endOf_112 : decode cX7_endOf 112 = .ok (.getfield 84, 3) := by decide +kernel
theorem dX7_endOf_115 : decode cX7_endOf 115 = .ok (.aload_n 0, 1) := by decide +kernel
theorem dX7_endOf_116 : decode cX7_endOf 116 = .ok (.getfield 31, 3) := by decide +kernel
theorem dX7_endOf_119 : decode cX7_endOf 119 = .ok (.getfield 153, 3) := by decide +kernel
theorem dX7_endOf_122 : decode cX7_endOf 122 = .ok (.iload_n 1, 1) := by decide +kernel
theorem dX7_endOf_123 : decode cX7_endOf 123 = .ok (.iaload, 1) := by decide +kernel
theorem dX7_endOf_124 : decode cX7_endOf 124 = .ok (.aload_n 0, 1) := by decide +kernel
theorem dX7_endOf_125 : decode cX7_endOf 125 = .ok (.iload_n 1, 1) := by decide +kernel
theorem dX7_endOf_126 : decode cX7_endOf 126 = .ok (.iconst 0, 1) := by decide +kernel
theorem dX7_endOf_127 : decode cX7_endOf 127 = .ok (.iload_n 2, 1) := by decide +kernel
theorem dX7_endOf_128 : decode cX7_endOf 128 = .ok (.invokevirtual 156, 3) := by decide +kernel
theorem dX7_endOf_131 : decode cX7_endOf 131 = .ok (.l2i, 1) := by decide +kernel
theorem dX7_endOf_132 : decode cX7_endOf 132 = .ok (.invokestatic 174, 3) := by decide +kernel
theorem dX7_endOf_135 : decode cX7_endOf 135 = .ok (.laload, 1) := by decide +kernel
theorem dX7_endOf_136 : decode cX7_endOf 136 = .ok (.lreturn, 1) := by decide +kernel
theorem dX7_endOf_137 : decode cX7_endOf 137 = .ok (.aload_n 0, 1) := by decide +kernel
theorem dX7_endOf_138 : decode cX7_endOf 138 = .ok (.aload_n 0, 1) := by decide +kernel
theorem dX7_endOf_139 : decode cX7_endOf 139 = .ok (.getfield 31, 3) := by decide +kernel
theorem dX7_endOf_142 : decode cX7_endOf 142 = .ok (.getfield 153, 3) := by decide +kernel
theorem dX7_endOf_145 : decode cX7_endOf 145 = .ok (.iload_n 1, 1) := by decide +kernel
theorem dX7_endOf_146 : decode cX7_endOf 146 = .ok (.iaload, 1) := by decide +kernel
theorem dX7_endOf_147 : decode cX7_endOf 147 = .ok (.aload_n 0, 1) := by decide +kernel
theorem dX7_endOf_148 : decode cX7_endOf 148 = .ok (.iload_n 1, 1) := by decide +kernel
theorem dX7_endOf_149 : decode cX7_endOf 149 = .ok (.iconst 0, 1) := by decide +kernel
theorem dX7_endOf_150 : decode cX7_endOf 150 = .ok (.iload_n 2, 1) := by decide +kernel
theorem dX7_endOf_151 : decode cX7_endOf 151 = .ok (.invokevirtual 156, 3) := by decide +kernel
theorem dX7_endOf_154 : decode cX7_endOf 154 = .ok (.l2i, 1) := by decide +kernel
theorem dX7_endOf_155 : decode cX7_endOf 155 = .ok (.invokestatic 174, 3) := by decide +kernel
theorem dX7_endOf_158 : decode cX7_endOf 158 = .ok (.aload_n 0, 1) := by decide +kernel
theorem dX7_endOf_159 : decode cX7_endOf 159 = .ok (.iload_n 1, 1) := by decide +kernel
theorem dX7_endOf_160 : decode cX7_endOf 160 = .ok (.iconst 1, 1) := by decide +kernel
theorem dX7_endOf_161 : decode cX7_endOf 161 = .ok (.iload_n 2, 1) := by decide +kernel
theorem dX7_endOf_162 : decode cX7_endOf 162 = .ok (.invokevirtual 156, 3) := by decide +kernel
theorem dX7_endOf_165 : decode cX7_endOf 165 = .ok (.invokevirtual 175, 3) := by decide +kernel
theorem dX7_endOf_168 : decode cX7_endOf 168 = .ok (.lreturn, 1) := by decide +kernel
theorem dX7_endOf_169 : decode cX7_endOf 169 = .ok (.aload_n 0, 1) := by decide +kernel
theorem dX7_endOf_170 : decode cX7_endOf 170 = .ok (.iload_n 1, 1) := by decide +kernel
theorem dX7_endOf_171 : decode cX7_endOf 171 = .ok (.iconst 0, 1) := by decide +kernel
theorem dX7_endOf_172 : decode cX7_endOf 172 = .ok (.iload_n 2, 1) := by decide +kernel
theorem dX7_endOf_173 : decode cX7_endOf 173 = .ok (.invokevirtual 156, 3) := by decide +kernel
theorem dX7_endOf_176 : decode cX7_endOf 176 = .ok (.lconst 0, 1) := by decide +kernel
theorem dX7_endOf_177 : decode cX7_endOf 177 = .ok (.lcmp, 1) := by decide +kernel
theorem dX7_endOf_178 : decode cX7_endOf 178 = .ok (.ifCond .eq 13, 3) := by decide +kernel
theorem dX7_endOf_181 : decode cX7_endOf 181 = .ok (.aload_n 0, 1) := by decide +kernel
theorem dX7_endOf_182 : decode cX7_endOf 182 = .ok (.iload_n 1, 1) := by decide +kernel
theorem dX7_endOf_183 : decode cX7_endOf 183 = .ok (.iconst 1, 1) := by decide +kernel
theorem dX7_endOf_184 : decode cX7_endOf 184 = .ok (.iload_n 2, 1) := by decide +kernel
theorem dX7_endOf_185 : decode cX7_endOf 185 = .ok (.invokevirtual 156, 3) := by decide +kernel
theorem dX7_endOf_188 : decode cX7_endOf 188 = .ok (.goto 10, 3) := by decide +kernel
theorem dX7_endOf_191 : decode cX7_endOf 191 = .ok (.aload_n 0, 1) := by decide +kernel
theorem dX7_endOf_192 : decode cX7_endOf 192 = .ok (.iload_n 1, 1) := by decide +kernel
theorem dX7_endOf_193 : decode cX7_endOf 193 = .ok (.iconst 2, 1) := by decide +kernel
theorem dX7_endOf_194 : decode cX7_endOf 194 = .ok (.iload_n 2, 1) := by decide +kernel
theorem dX7_endOf_195 : decode cX7_endOf 195 = .ok (.invokevirtual 156, 3) := by decide +kernel
theorem dX7_endOf_198 : decode cX7_endOf 198 = .ok (.lreturn, 1) := by decide +kernel
theorem dX7_quotient_0 : decode cX7_quotient 0 = .ok (.lload_n 2, 1) := by decide +kernel
theorem dX7_quotient_1 : decode cX7_quotient 1 = .ok (.lconst 0, 1) := by decide +kernel
theorem dX7_quotient_2 : decode cX7_quotient 2 = .ok (.lcmp, 1) := by decide +kernel
theorem dX7_quotient_3 : decode cX7_quotient 3 = .ok (.ifCond .ne 7, 3) := by decide +kernel
theorem dX7_quotient_6 : decode cX7_quotient 6 = .ok (.lconst 0, 1) := by decide +kernel
theorem dX7_quotient_7 : decode cX7_quotient 7 = .ok (.goto 6, 3) := by decide +kernel
theorem dX7_quotient_10 : decode cX7_quotient 10 = .ok (.lload_n 0, 1) := by decide +kernel
theorem dX7_quotient_11 : decode cX7_quotient 11 = .ok (.lload_n 2, 1) := by decide +kernel
theorem dX7_quotient_12 : decode cX7_quotient 12 = .ok (.ldiv, 1) := by decide +kernel
theorem dX7_quotient_13 : decode cX7_quotient 13 = .ok (.lreturn, 1) := by decide +kernel
theorem dX7_exchange_0 : decode cX7_exchange 0 = .ok (.aload_n 0, 1) := by decide +kernel
theorem dX7_exchange_1 : decode cX7_exchange 1 = .ok (.getfield 35, 3) := by decide +kernel
theorem dX7_exchange_4 : decode cX7_exchange 4 = .ok (.getfield 84, 3) := by decide +kernel
theorem dX7_exchange_7 : decode cX7_exchange 7 = .ok (.iload_n 1, 1) := by decide +kernel
theorem dX7_exchange_8 : decode cX7_exchange 8 = .ok (.laload, 1) := by decide +kernel
theorem dX7_exchange_9 : decode cX7_exchange 9 = .ok (.lstore 4, 2) := by decide +kernel
theorem dX7_exchange_11 : decode cX7_exchange 11 = .ok (.aload_n 0, 1) := by decide +kernel
theorem dX7_exchange_12 : decode cX7_exchange 12 = .ok (.getfield 35, 3) := by decide +kernel
theorem dX7_exchange_15 : decode cX7_exchange 15 = .ok (.getfield 84, 3) := by decide +kernel
theorem dX7_exchange_18 : decode cX7_exchange 18 = .ok (.iload_n 1, 1) := by decide +kernel
theorem dX7_exchange_19 : decode cX7_exchange 19 = .ok (.lload_n 2, 1) := by decide +kernel
theorem dX7_exchange_20 : decode cX7_exchange 20 = .ok (.lastore, 1) := by decide +kernel
theorem dX7_exchange_21 : decode cX7_exchange 21 = .ok (.lload 4, 2) := by decide +kernel
theorem dX7_exchange_23 : decode cX7_exchange 23 = .ok (.lreturn, 1) := by decide +kernel
theorem dX7_taken_0 : decode cX7_taken 0 = .ok (.iload_n 1, 1) := by decide +kernel
theorem dX7_taken_1 : decode cX7_taken 1 = .ok (.iconst 3, 1) := by decide +kernel
theorem dX7_taken_2 : decode cX7_taken 2 = .ok (.imul, 1) := by decide +kernel
theorem dX7_taken_3 : decode cX7_taken 3 = .ok (.iload_n 2, 1) := by decide +kernel
theorem dX7_taken_4 : decode cX7_taken 4 = .ok (.iadd, 1) := by decide +kernel
theorem dX7_taken_5 : decode cX7_taken 5 = .ok (.istore 4, 2) := by decide +kernel
theorem dX7_taken_7 : decode cX7_taken 7 = .ok (.aload_n 0, 1) := by decide +kernel
theorem dX7_taken_8 : decode cX7_taken 8 = .ok (.getfield 9, 3) := by decide +kernel
theorem dX7_taken_11 : decode cX7_taken 11 = .ok (.iconst 4, 1) := by decide +kernel
theorem dX7_taken_12 : decode cX7_taken 12 = .ok (.iload_n 3, 1) := by decide +kernel
theorem dX7_taken_13 : decode cX7_taken 13 = .ok (.iadd, 1) := by decide +kernel
theorem dX7_taken_14 : decode cX7_taken 14 = .ok (.aload_n 0, 1) := by decide +kernel
theorem dX7_taken_15 : decode cX7_taken 15 = .ok (.getfield 31, 3) := by decide +kernel
theorem dX7_taken_18 : decode cX7_taken 18 = .ok (.getfield 179, 3) := by decide +kernel
theorem dX7_taken_21 : decode cX7_taken 21 = .ok (.iload 4, 2) := by decide +kernel
theorem dX7_taken_23 : decode cX7_taken 23 = .ok (.iaload, 1) := by decide +kernel
theorem dX7_taken_24 : decode cX7_taken 24 = .ok (.isub, 1) := by decide +kernel
theorem dX7_taken_25 : decode cX7_taken 25 = .ok (.bipush 16, 2) := by decide +kernel
theorem dX7_taken_27 : decode cX7_taken 27 = .ok (.imul, 1) := by decide +kernel
theorem dX7_taken_28 : decode cX7_taken 28 = .ok (.aload_n 0, 1) := by decide +kernel
theorem dX7_taken_29 : decode cX7_taken 29 = .ok (.getfield 31, 3) := by decide +kernel
theorem dX7_taken_32 : decode cX7_taken 32 = .ok (.getfield 182, 3) := by decide +kernel
theorem dX7_taken_35 : decode cX7_taken 35 = .ok (.iload 4, 2) := by decide +kernel
theorem dX7_taken_37 : decode cX7_taken 37 = .ok (.iaload, 1) := by decide +kernel
theorem dX7_taken_38 : decode cX7_taken 38 = .ok (.iadd, 1) := by decide +kernel
theorem dX7_taken_39 : decode cX7_taken 39 = .ok (.laload, 1) := by decide +kernel
theorem dX7_taken_40 : decode cX7_taken 40 = .ok (.lreturn, 1) := by decide +kernel
theorem dX7_placeOf_0 : decode cX7_placeOf 0 = .ok (.iconst 4, 1) := by decide +kernel
theorem dX7_placeOf_1 : decode cX7_placeOf 1 = .ok (.iload_n 1, 1) := by decide +kernel
theorem dX7_placeOf_2 : decode cX7_placeOf 2 = .ok (.iadd, 1) := by decide +kernel
theorem dX7_placeOf_3 : decode cX7_placeOf 3 = .ok (.bipush 16, 2) := by decide +kernel
theorem dX7_placeOf_5 : decode cX7_placeOf 5 = .ok (.imul, 1) := by decide +kernel
theorem dX7_placeOf_6 : decode cX7_placeOf 6 = .ok (.iload_n 0, 1) := by decide +kernel
theorem dX7_placeOf_7 : decode cX7_placeOf 7 = .ok (.iadd, 1) := by decide +kernel
theorem dX7_placeOf_8 : decode cX7_placeOf 8 = .ok (.ireturn, 1) := by decide +kernel
theorem dX8_init_0 : decode cX8_init 0 = .ok (.aload_n 0, 1) := by decide +kernel
theorem dX8_init_1 : decode cX8_init 1 = .ok (.invokespecial 3, 3) := by decide +kernel
theorem dX8_init_4 : decode cX8_init 4 = .ok (.aload_n 0, 1) := by decide +kernel
theorem dX8_init_5 : decode cX8_init 5 = .ok (.new 9, 3) := by decide +kernel
theorem dX8_init_8 : decode cX8_init 8 = .ok (.dup, 1) := by decide +kernel
theorem dX8_init_9 : decode cX8_init 9 = .ok (.invokespecial 11, 3) := by decide +kernel
theorem dX8_init_12 : decode cX8_init 12 = .ok (.putfield 12, 3) := by decide +kernel
theorem dX8_init_15 : decode cX8_init 15 = .ok (.aload_n 0, 1) := by decide +kernel
theorem dX8_init_16 : decode cX8_init 16 = .ok (.sipush 4096, 3) := by decide +kernel
theorem dX8_init_19 : decode cX8_init 19 = .ok (.newarray .int, 2) := by decide +kernel
theorem dX8_init_21 : decode cX8_init 21 = .ok (.putfield 18, 3) := by decide +kernel
theorem dX8_init_24 : decode cX8_init 24 = .ok (.aload_n 0, 1) := by decide +kernel
theorem dX8_init_25 : decode cX8_init 25 = .ok (.bipush 16, 2) := by decide +kernel
theorem dX8_init_27 : decode cX8_init 27 = .ok (.newarray .int, 2) := by decide +kernel
theorem dX8_init_29 : decode cX8_init 29 = .ok (.putfield 22, 3) := by decide +kernel
theorem dX8_init_32 : decode cX8_init 32 = .ok (.aload_n 0, 1) := by decide +kernel
theorem dX8_init_33 : decode cX8_init 33 = .ok (.bipush 16, 2) := by decide +kernel
theorem dX8_init_35 : decode cX8_init 35 = .ok (.newarray .int, 2) := by decide +kernel
theorem dX8_init_37 : decode cX8_init 37 = .ok (.putfield 25, 3) := by decide +kernel
theorem dX8_init_40 : decode cX8_init 40 = .ok (.aload_n 0, 1) := by decide +kernel
theorem dX8_init_41 : decode cX8_init 41 = .ok (.bipush 16, 2) := by decide +kernel
theorem dX8_init_43 : decode cX8_init 43 = .ok (.newarray .int, 2) := by decide +kernel
theorem dX8_init_45 : decode cX8_init 45 = .ok (.putfield 28, 3) := by decide +kernel
theorem dX8_init_48 : decode cX8_init 48 = .ok (.aload_n 0, 1) := by decide +kernel
theorem dX8_init_49 : decode cX8_init 49 = .ok (.bipush 16, 2) := by decide +kernel
theorem dX8_init_51 : decode cX8_init 51 = .ok (.newarray .int, 2) := by decide +kernel
theorem dX8_init_53 : decode cX8_init 53 = .ok (.putfield 31, 3) := by decide +kernel
theorem dX8_init_56 : decode cX8_init 56 = .ok (.aload_n 0, 1) := by decide +kernel
theorem dX8_init_57 : decode cX8_init 57 = .ok (.iconst 1, 1) := by decide +kernel
theorem dX8_init_58 : decode cX8_init 58 = .ok (.putfield 34, 3) := by decide +kernel
theorem dX8_init_61 : decode cX8_init 61 = .ok (.aload_n 0, 1) := by decide +kernel
theorem dX8_init_62 : decode cX8_init 62 = .ok (.bipush 16, 2) := by decide +kernel
theorem dX8_init_64 : decode cX8_init 64 = .ok (.newarray .int, 2) := by decide +kernel
theorem dX8_init_66 : decode cX8_init 66 = .ok (.putfield 38, 3) := by decide +kernel
theorem dX8_init_69 : decode cX8_init 69 = .ok (.aload_n 0, 1) := by decide +kernel
theorem dX8_init_70 : decode cX8_init 70 = .ok (.iconst 0, 1) := by decide +kernel
theorem dX8_init_71 : decode cX8_init 71 = .ok (.putfield 41, 3) := by decide +kernel
theorem dX8_init_74 : decode cX8_init 74 = .ok (.aload_n 0, 1) := by decide +kernel
theorem dX8_init_75 : decode cX8_init 75 = .ok (.aload_n 1, 1) := by decide +kernel
theorem dX8_init_76 : decode cX8_init 76 = .ok (.putfield 44, 3) := by decide +kernel
theorem dX8_init_79 : decode cX8_init 79 = .ok (.aload_n 0, 1) := by decide +kernel
theorem dX8_init_80 : decode cX8_init 80 = .ok (.aload_n 2, 1) := by decide +kernel
theorem dX8_init_81 : decode cX8_init 81 = .ok (.putfield 48, 3) := by decide +kernel
theorem dX8_init_84 : decode cX8_init 84 = .ok (.return_, 1) := by decide +kernel
theorem dX8_beat_0 : decode cX8_beat 0 = .ok (.aload_n 0, 1) := by decide +kernel
theorem dX8_beat_1 : decode cX8_beat 1 = .ok (.getfield 34, 3) := by decide +kernel
theorem dX8_beat_4 : decode cX8_beat 4 = .ok (.ireturn, 1) := by decide +kernel
theorem dX8_seek_0 : decode cX8_seek 0 = .ok (.aload_n 0, 1) := by decide +kernel
theorem dX8_seek_1 : decode cX8_seek 1 = .ok (.iconst 1, 1) := by decide +kernel
theorem dX8_seek_2 : decode cX8_seek 2 = .ok (.iload_n 1, 1) := by decide +kernel
theorem dX8_seek_3 : decode cX8_seek 3 = .ok (.invokestatic 52, 3) := by decide +kernel
theorem dX8_seek_6 : decode cX8_seek 6 = .ok (.putfield 34, 3) := by decide +kernel
theorem dX8_seek_9 : decode cX8_seek 9 = .ok (.aload_n 0, 1) := by decide +kernel
theorem dX8_seek_10 : decode cX8_seek 10 = .ok (.getfield 12, 3) := by decide +kernel
theorem dX8_seek_13 : decode cX8_seek 13 = .ok (.invokevirtual 58, 3) := by decide +kernel
theorem dX8_seek_16 : decode cX8_seek 16 = .ok (.aload_n 0, 1) := by decide +kernel
theorem dX8_seek_17 : decode cX8_seek 17 = .ok (.getfield 38, 3) := by decide +kernel
theorem dX8_seek_20 : decode cX8_seek 20 = .ok (.iconst 0, 1) := by decide +kernel
theorem dX8_seek_21 : decode cX8_seek 21 = .ok (.iconst 0, 1) := by decide +kernel
theorem dX8_seek_22 : decode cX8_seek 22 = .ok (.iastore, 1) := by decide +kernel
theorem dX8_seek_23 : decode cX8_seek 23 = .ok (.iconst 0, 1) := by decide +kernel
theorem dX8_seek_24 : decode cX8_seek 24 = .ok (.istore_n 2, 1) := by decide +kernel
theorem dX8_seek_25 : decode cX8_seek 25 = .ok (.iconst 0, 1) := by decide +kernel
theorem dX8_seek_26 : decode cX8_seek 26 = .ok (.istore_n 3, 1) := by decide +kernel
theorem dX8_seek_27 : decode cX8_seek 27 = .ok (.iload_n 3, 1) := by decide +kernel
theorem dX8_seek_28 : decode cX8_seek 28 = .ok (.sipush 10000, 3) := by decide +kernel
theorem dX8_seek_31 : decode cX8_seek 31 = .ok (.if_icmp .ge 92, 3) := by decide +kernel
theorem dX8_seek_34 : decode cX8_seek 34 = .ok (.iload_n 2, 1) := by decide +kernel
theorem dX8_seek_35 : decode cX8_seek 35 = .ok (.aload_n 0, 1) := by decide +kernel
theorem dX8_seek_36 : decode cX8_seek 36 = .ok (.getfield 44, 3) := by decide +kernel
theorem dX8_seek_39 : decode cX8_seek 39 = .ok (.getfield 61, 3) := by decide +kernel
theorem dX8_seek_42 : decode cX8_seek 42 = .ok (.if_icmp .lt 5, 3) := by decide +kernel
theorem dX8_seek_45 : decode cX8_seek 45 = .ok (.iconst 0, 1) := by decide +kernel
theorem dX8_seek_46 : decode cX8_seek 46 = .ok (.ireturn, 1) := by decide +kernel
theorem dX8_seek_47 : decode cX8_seek 47 = .ok (.iload_n 2, 1) := by decide +kernel
theorem dX8_seek_48 : decode cX8_seek 48 = .ok (.ifCond .ge 5, 3) := by decide +kernel
theorem dX8_seek_51 : decode cX8_seek 51 = .ok (.iconst 3, 1) := by decide +kernel
theorem dX8_seek_52 : decode cX8_seek 52 = .ok (.ireturn, 1) := by decide +kernel
theorem dX8_seek_53 : decode cX8_seek 53 = .ok (.aload_n 0, 1) := by decide +kernel
theorem dX8_seek_54 : decode cX8_seek 54 = .ok (.getfield 38, 3) := by decide +kernel
theorem dX8_seek_57 : decode cX8_seek 57 = .ok (.iload_n 2, 1) := by decide +kernel
theorem dX8_seek_58 : decode cX8_seek 58 = .ok (.iaload, 1) := by decide +kernel
theorem dX8_seek_59 : decode cX8_seek 59 = .ok (.iload_n 2, 1) := by decide +kernel
theorem dX8_seek_60 : decode cX8_seek 60 = .ok (.ifCond .ne 7, 3) := by decide +kernel
theorem dX8_seek_63 : decode cX8_seek 63 = .ok (.iconst 1, 1) := by decide +kernel
theorem dX8_seek_64 : decode cX8_seek 64 = .ok (.goto 7, 3) := by decide +kernel
theorem dX8_seek_67 : decode cX8_seek 67 = .ok (.aload_n 0, 1) := by decide +kernel
theorem dX8_seek_68 : decode cX8_seek 68 = .ok (.getfield 34, 3) := by decide +kernel
theorem dX8_seek_71 : decode cX8_seek 71 = .ok (.if_icmp .lt 14, 3) := by decide +kernel
theorem dX8_seek_74 : decode cX8_seek 74 = .ok (.iinc 2 (-1), 3) := by decide +kernel
theorem dX8_seek_77 : decode cX8_seek 77 = .ok (.aload_n 0, 1) := by decide +kernel
theorem dX8_seek_78 : decode cX8_seek 78 = .ok (.iload_n 2, 1) := by decide +kernel
theorem dX8_seek_79 : decode cX8_seek 79 = .ok (.invokevirtual 66, 3) := by decide +kernel
theorem dX8_seek_82 : decode cX8_seek 82 = .ok (.goto 35, 3) := by decide +kernel
theorem dX8_seek_85 : decode cX8_seek 85 = .ok (.aload_n 0, 1) := by decide +kernel
theorem dX8_seek_86 : decode cX8_seek 86 = .ok (.getfield 41, 3) := by decide +kernel
theorem dX8_seek_89 : decode cX8_seek 89 = .ok (.sipush 3000, 3) := by decide +kernel
theorem dX8_seek_92 : decode cX8_seek 92 = .ok (.if_icmp .lt 5, 3) := by decide +kernel
theorem dX8_seek_95 : decode cX8_seek 95 = .ok (.iconst 4, 1) := by decide +kernel
theorem dX8_seek_96 : decode cX8_seek 96 = .ok (.ireturn, 1) := by decide +kernel
theorem dX8_seek_97 : decode cX8_seek 97 = .ok (.aload_n 0, 1) := by decide +kernel
theorem dX8_seek_98 : decode cX8_seek 98 = .ok (.iload_n 2, 1) := by decide +kernel
theorem dX8_seek_99 : decode cX8_seek 99 = .ok (.invokevirtual 70, 3) := by decide +kernel
theorem dX8_seek_102 : decode cX8_seek 102 = .ok (.ifCond .eq 13, 3) := by decide +kernel
theorem dX8_seek_105 : decode cX8_seek 105 = .ok (.aload_n 0, 1) := by decide +kernel
theorem dX8_seek_106 : decode cX8_seek 106 = .ok (.iload_n 2, 1) := by decide +kernel
theorem dX8_seek_107 : decode cX8_seek 107 = .ok (.iconst 1, 1) := by decide +kernel
theorem dX8_seek_108 : decode cX8_seek 108 = .ok (.iadd, 1) := by decide +kernel
theorem dX8_seek_109 : decode cX8_seek 109 = .ok (.invokevirtual 74, 3) := by decide +kernel
theorem dX8_seek_112 : decode cX8_seek 112 = .ok (.goto 4, 3) := by decide +kernel
theorem dX8_seek_115 : decode cX8_seek 115 = .ok (.iload_n 2, 1) := by decide +kernel
theorem dX8_seek_116 : decode cX8_seek 116 = .ok (.istore_n 2, 1) := by decide +kernel
theorem dX8_seek_117 : decode cX8_seek 117 = .ok (.iinc 3 1, 3) := by decide +kernel
theorem dX8_seek_120 : decode cX8_seek 120 = .ok (.goto (-93), 3) := by decide +kernel
theorem dX8_seek_123 : decode cX8_seek 123 = .ok (.iconst 4, 1) := by decide +kernel
theorem dX8_seek_124 : decode cX8_seek 124 = .ok (.ireturn, 1) := by decide +kernel
theorem dX8_enter_0 : decode cX8_enter 0 = .ok (.iload_n 1, 1) := by decide +kernel
theorem dX8_enter_1 : decode cX8_enter 1 = .ok (.bipush 16, 2) := by decide +kernel
theorem dX8_enter_3 : decode cX8_enter 3 = .ok (.if_icmp .ge 10, 3) := by decide +kernel
theorem dX8_enter_6 : decode cX8_enter 6 = .ok (.aload_n 0, 1) := by decide +kernel
theorem dX8_enter_7 : decode cX8_enter 7 = .ok (.getfield 38, 3) := by decide +kernel
theorem dX8_enter_10 : decode cX8_enter 10 = .ok (.iload_n 1, 1) := by decide +kernel
theorem dX8_enter_11 : decode cX8_enter 11 = .ok (.iconst 0, 1) := by decide +kernel
theorem dX8_enter_12 : decode cX8_enter 12 = .ok (.iastore, 1) := by decide +kernel
theorem dX8_enter_13 : decode cX8_enter 13 = .ok (.iload_n 1, 1) := by decide +kernel
theorem dX8_enter_14 : decode cX8_enter 14 = .ok (.ireturn, 1) := by decide +kernel
theorem dX8_leave_0 : decode cX8_leave 0 = .ok (.iload_n 1, 1) := by decide +kernel
theorem dX8_leave_1 : decode cX8_leave 1 = .ok (.ifCond .lt 37, 3) := by decide +kernel
theorem dX8_leave_4 : decode cX8_leave 4 = .ok (.aload_n 0, 1) := by decide +kernel
theorem dX8_leave_5 : decode cX8_leave 5 = .ok (.getfield 12, 3) := by decide +kernel
theorem dX8_leave_8 : decode cX8_leave 8 = .ok (.aload_n 0, 1) := by decide +kernel
theorem dX8_leave_9 : decode cX8_leave 9 = .ok (.getfield 44, 3) := by decide +kernel
theorem dX8_leave_12 : decode cX8_leave 12 = .ok (.iload_n 1, 1) := by decide +kernel
theorem dX8_leave_13 : decode cX8_leave 13 = .ok (.aload_n 0, 1) := by decide +kernel
theorem dX8_leave_14 : decode cX8_leave 14 = .ok (.getfield 38, 3) := by decide +kernel
theorem dX8_leave_17 : decode cX8_leave 17 = .ok (.iload_n 1, 1) := by decide +kernel
theorem dX8_leave_18 : decode cX8_leave 18 = .ok (.iaload, 1) := by decide +kernel
theorem dX8_leave_19 : decode cX8_leave 19 = .ok (.aload_n 0, 1) := by decide +kernel
theorem dX8_leave_20 : decode cX8_leave 20 = .ok (.getfield 34, 3) := by decide +kernel
theorem dX8_leave_23 : decode cX8_leave 23 = .ok (.iconst (-1), 1) := by decide +kernel
theorem dX8_leave_24 : decode cX8_leave 24 = .ok (.invokevirtual 78, 3) := by decide +kernel
theorem dX8_leave_27 : decode cX8_leave 27 = .ok (.pop, 1) := by decide +kernel
theorem dX8_leave_28 : decode cX8_leave 28 = .ok (.aload_n 0, 1) := by decide +kernel
theorem dX8_leave_29 : decode cX8_leave 29 = .ok (.getfield 38, 3) := by decide +kernel
theorem dX8_leave_32 : decode cX8_leave 32 = .ok (.iload_n 1, 1) := by decide +kernel
theorem dX8_leave_33 : decode cX8_leave 33 = .ok (.dup2, 1) := by decide +kernel
theorem dX8_leave_34 : decode cX8_leave 34 = .ok (.iaload, 1) := by decide +kernel
theorem dX8_leave_35 : decode cX8_leave 35 = .ok (.iconst 1, 1) := by decide +kernel
theorem dX8_leave_36 : decode cX8_leave 36 = .ok (.iadd, 1) := by decide +kernel
theorem dX8_leave_37 : decode cX8_leave 37 = .ok (.iastore, 1) := by decide +kernel
theorem dX8_leave_38 : decode cX8_leave 38 = .ok (.return_, 1) := by decide +kernel
theorem dX8_attempt_0 : decode cX8_attempt 0 = .ok (.aload_n 0, 1) := by decide +kernel
theorem dX8_attempt_1 : decode cX8_attempt 1 = .ok (.dup, 1) := by decide +kernel
theorem dX8_attempt_2 : decode cX8_attempt 2 = .ok (.getfield 41, 3) := by decide +kernel
theorem dX8_attempt_5 : decode cX8_attempt 5 = .ok (.iconst 1, 1) := by decide +kernel
theorem dX8_attempt_6 : decode cX8_attempt 6 = .ok (.iadd, 1) := by decide +kernel
theorem dX8_attempt_7 : decode cX8_attempt 7 = .ok (.putfield 41, 3) := by decide +kernel
theorem dX8_attempt_10 : decode cX8_attempt 10 = .ok (.aload_n 0, 1) := by decide +kernel
theorem dX8_attempt_11 : decode cX8_attempt 11 = .ok (.getfield 12, 3) := by decide +kernel
theorem dX8_attempt_14 : decode cX8_attempt 14 = .ok (.aload_n 0, 1) := by decide +kernel
theorem dX8_attempt_15 : decode cX8_attempt 15 = .ok (.getfield 44, 3) := by decide +kernel
theorem dX8_attempt_18 : decode cX8_attempt 18 = .ok (.iload_n 1, 1) := by decide +kernel
theorem dX8_attempt_19 : decode cX8_attempt 19 = .ok (.aload_n 0, 1) := by decide +kernel
theorem dX8_attempt_20 : decode cX8_attempt 20 = .ok (.getfield 38, 3) := by decide +kernel
theorem dX8_attempt_23 : decode cX8_attempt 23 = .ok (.iload_n 1, 1) := by decide +kernel
theorem dX8_attempt_24 : decode cX8_attempt 24 = .ok (.iaload, 1) := by decide +kernel
theorem dX8_attempt_25 : decode cX8_attempt 25 = .ok (.aload_n 0, 1) := by decide +kernel
theorem dX8_attempt_26 : decode cX8_attempt 26 = .ok (.getfield 34, 3) := by decide +kernel
theorem dX8_attempt_29 : decode cX8_attempt 29 = .ok (.iconst 1, 1) := by decide +kernel
theorem dX8_attempt_30 : decode cX8_attempt 30 = .ok (.invokevirtual 78, 3) := by decide +kernel
theorem dX8_attempt_33 : decode cX8_attempt 33 = .ok (.istore_n 2, 1) := by decide +kernel
theorem dX8_attempt_34 : decode cX8_attempt 34 = .ok (.iload_n 2, 1) := by decide +kernel
theorem dX8_attempt_35 : decode cX8_attempt 35 = .ok (.aload_n 0, 1) := by decide +kernel
theorem dX8_attempt_36 : decode cX8_attempt 36 = .ok (.getfield 44, 3) := by decide +kernel
theorem dX8_attempt_39 : decode cX8_attempt 39 = .ok (.getfield 82, 3) := by decide +kernel
theorem dX8_attempt_42 : decode cX8_attempt 42 = .ok (.aload_n 0, 1) := by decide +kernel
theorem dX8_attempt_43 : decode cX8_attempt 43 = .ok (.getfield 44, 3) := by decide +kernel
theorem dX8_attempt_46 : decode cX8_attempt 46 = .ok (.getfield 85, 3) := by decide +kernel
theorem dX8_attempt_49 : decode cX8_attempt 49 = .ok (.iload_n 1, 1) := by decide +kernel
theorem dX8_attempt_50 : decode cX8_attempt 50 = .ok (.iaload, 1) := by decide +kernel
theorem dX8_attempt_51 : decode cX8_attempt 51 = .ok (.iaload, 1) := by decide +kernel
theorem dX8_attempt_52 : decode cX8_attempt 52 = .ok (.if_icmp .gt 18, 3) := by decide +kernel
theorem dX8_attempt_55 : decode cX8_attempt 55 = .ok (.aload_n 0, 1) := by decide +kernel
theorem dX8_attempt_56 : decode cX8_attempt 56 = .ok (.iload_n 1, 1) := by decide +kernel
theorem dX8_attempt_57 : decode cX8_attempt 57 = .ok (.invokevirtual 88, 3) := by decide +kernel
theorem dX8_attempt_60 : decode cX8_attempt 60 = .ok (.ifCond .eq 10, 3) := by decide +kernel
theorem dX8_attempt_63 : decode cX8_attempt 63 = .ok (.aload_n 0, 1) := by decide +kernel
theorem dX8_attempt_64 : decode cX8_attempt 64 = .ok (.iload_n 1, 1) := by decide +kernel
theorem dX8_attempt_65 : decode cX8_attempt 65 = .ok (.invokevirtual 91, 3) := by decide +kernel
theorem dX8_attempt_68 : decode cX8_attempt 68 = .ok (.iconst 1, 1) := by decide +kernel
theorem dX8_attempt_69 : decode cX8_attempt 69 = .ok (.ireturn, 1) := by decide +kernel
theorem dX8_attempt_70 : decode cX8_attempt 70 = .ok (.aload_n 0, 1) := by decide +kernel
theorem dX8_attempt_71 : decode cX8_attempt 71 = .ok (.iload_n 1, 1) := by decide +kernel
theorem dX8_attempt_72 : decode cX8_attempt 72 = .ok (.invokevirtual 66, 3) := by decide +kernel
theorem dX8_attempt_75 : decode cX8_attempt 75 = .ok (.iconst 0, 1) := by decide +kernel
theorem dX8_attempt_76 : decode cX8_attempt 76 = .ok (.ireturn, 1) := by decide +kernel
theorem dX8_edgesCanHold_0 : decode cX8_edgesCanHold 0 = .ok (.aload_n 0, 1) := by decide +kernel
theorem dX8_edgesCanHold_1 : decode cX8_edgesCanHold 1 = .ok (.getfield 48, 3) := by decide +kernel
theorem dX8_edgesCanHold_4 : decode cX8_edgesCanHold 4 = .ok (.getfield 94, 3) := by decide +kernel
theorem dX8_edgesCanHold_7 : decode cX8_edgesCanHold 7 = .ok (.iload_n 1, 1) := by decide +kernel
theorem dX8_edgesCanHold_8 : decode cX8_edgesCanHold 8 = .ok (.bipush 16, 2) := by decide +kernel
theorem dX8_edgesCanHold_10 : decode cX8_edgesCanHold 10 = .ok (.imul, 1) := by decide +kernel
theorem dX8_edgesCanHold_11 : decode cX8_edgesCanHold 11 = .ok (.iload_n 1, 1) := by decide +kernel
theorem dX8_edgesCanHold_12 : decode cX8_edgesCanHold 12 = .ok (.iadd, 1) := by decide +kernel
theorem dX8_edgesCanHold_13 : decode cX8_edgesCanHold 13 = .ok (.iaload, 1) := by decide +kernel
theorem dX8_edgesCanHold_14 : decode cX8_edgesCanHold 14 = .ok (.ifCond .le 5, 3) := by decide +kernel
theorem dX8_edgesCanHold_17 : decode cX8_edgesCanHold 17 = .ok (.iconst 0, 1) := by decide +kernel
theorem dX8_edgesCanHold_18 : decode cX8_edgesCanHold 18 = .ok (.ireturn, 1) := by decide +kernel
theorem dX8_edgesCanHold_19 : decode cX8_edgesCanHold 19 = .ok (.iconst 0, 1) := by decide +kernel
theorem dX8_edgesCanHold_20 : decode cX8_edgesCanHold 20 = .ok (.istore_n 2, 1) := by decide +kernel
theorem dX8_edgesCanHold_21 : decode cX8_edgesCanHold 21 = .ok (.iload_n 2, 1) := by decide +kernel
theorem dX8_edgesCanHold_22 : decode cX8_edgesCanHold 22 = .ok (.iload_n 1, 1) := by decide +kernel
theorem dX8_edgesCanHold_23 : decode cX8_edgesCanHold 23 = .ok (.if_icmp .ge 33, 3) := by decide +kernel
theorem dX8_edgesCanHold_26 : decode cX8_edgesCanHold 26 = .ok (.aload_n 0, 1) := by decide +kernel
theorem dX8_edgesCanHold_27 : decode cX8_edgesCanHold 27 = .ok (.getfield 22, 3) := by decide +kernel
theorem dX8_edgesCanHold_30 : decode cX8_edgesCanHold 30 = .ok (.iload_n 2, 1) := by decide +kernel
theorem dX8_edgesCanHold_31 : decode cX8_edgesCanHold 31 = .ok (.aload_n 0, 1) := by decide +kernel
theorem dX8_edgesCanHold_32 : decode cX8_edgesCanHold 32 = .ok (.iload_n 2, 1) := by decide +kernel
theorem dX8_edgesCanHold_33 : decode cX8_edgesCanHold 33 = .ok (.iload_n 1, 1) := by decide +kernel
theorem dX8_edgesCanHold_34 : decode cX8_edgesCanHold 34 = .ok (.invokevirtual 99, 3) := by decide +kernel
theorem dX8_edgesCanHold_37 : decode cX8_edgesCanHold 37 = .ok (.iastore, 1) := by decide +kernel
theorem dX8_edgesCanHold_38 : decode cX8_edgesCanHold 38 = .ok (.aload_n 0, 1) := by decide +kernel
theorem dX8_edgesCanHold_39 : decode cX8_edgesCanHold 39 = .ok (.getfield 25, 3) := by decide +kernel
theorem dX8_edgesCanHold_42 : decode cX8_edgesCanHold 42 = .ok (.iload_n 2, 1) := by decide +kernel
theorem dX8_edgesCanHold_43 : decode cX8_edgesCanHold 43 = .ok (.aload_n 0, 1) := by decide +kernel
theorem dX8_edgesCanHold_44 : decode cX8_edgesCanHold 44 = .ok (.iload_n 1, 1) := by decide +kernel
theorem dX8_edgesCanHold_45 : decode cX8_edgesCanHold 45 = .ok (.iload_n 2, 1) := by decide +kernel
theorem dX8_edgesCanHold_46 : decode cX8_edgesCanHold 46 = .ok (.invokevirtual 99, 3) := by decide +kernel
theorem dX8_edgesCanHold_49 : decode cX8_edgesCanHold 49 = .ok (.iastore, 1) := by decide +kernel
theorem dX8_edgesCanHold_50 : decode cX8_edgesCanHold 50 = .ok (.iinc 2 1, 3) := by decide +kernel
theorem dX8_edgesCanHold_53 : decode cX8_edgesCanHold 53 = .ok (.goto (-32), 3) := by decide +kernel
theorem dX8_edgesCanHold_56 : decode cX8_edgesCanHold 56 = .ok (.iconst 0, 1) := by decide +kernel
theorem dX8_edgesCanHold_57 : decode cX8_edgesCanHold 57 = .ok (.istore_n 2, 1) := by decide +kernel
theorem dX8_edgesCanHold_58 : decode cX8_edgesCanHold 58 = .ok (.iload_n 2, 1) := by decide +kernel
theorem dX8_edgesCanHold_59 : decode cX8_edgesCanHold 59 = .ok (.iload_n 1, 1) := by decide +kernel
theorem dX8_edgesCanHold_60 : decode cX8_edgesCanHold 60 = .ok (.if_icmp .ge 31, 3) := by decide +kernel
theorem dX8_edgesCanHold_63 : decode cX8_edgesCanHold 63 = .ok (.aload_n 0, 1) := by decide +kernel
theorem dX8_edgesCanHold_64 : decode cX8_edgesCanHold 64 = .ok (.getfield 25, 3) := by decide +kernel
theorem dX8_edgesCanHold_67 : decode cX8_edgesCanHold 67 = .ok (.iload_n 2, 1) := by decide +kernel
theorem dX8_edgesCanHold_68 : decode cX8_edgesCanHold 68 = .ok (.iaload, 1) := by decide +kernel
theorem dX8_edgesCanHold_69 : decode cX8_edgesCanHold 69 = .ok (.ldc 102, 2) := by decide +kernel
theorem dX8_edgesCanHold_71 : decode cX8_edgesCanHold 71 = .ok (.if_icmp .eq 14, 3) := by decide +kernel
theorem dX8_edgesCanHold_74 : decode cX8_edgesCanHold 74 = .ok (.aload_n 0, 1) := by decide +kernel
theorem dX8_edgesCanHold_75 : decode cX8_edgesCanHold 75 = .ok (.iload_n 1, 1) := by decide +kernel
theorem dX8_edgesCanHold_76 : decode cX8_edgesCanHold 76 = .ok (.iload_n 2, 1) := by decide +kernel
theorem dX8_edgesCanHold_77 : decode cX8_edgesCanHold 77 = .ok (.invokevirtual 103, 3) := by decide +kernel
theorem dX8_edgesCanHold_80 : decode cX8_edgesCanHold 80 = .ok (.ifCond .eq 5, 3) := by decide +kernel
theorem dX8_edgesCanHold_83 : decode cX8_edgesCanHold 83 = .ok (.iconst 0, 1) := by decide +kernel
theorem dX8_edgesCanHold_84 : decode cX8_edgesCanHold 84 = .ok (.ireturn, 1) := by decide +kernel
theorem dX8_edgesCanHold_85 : decode cX8_edgesCanHold 85 = .ok (.iinc 2 1, 3) := by decide +kernel
theorem dX8_edgesCanHold_88 : decode cX8_edgesCanHold 88 = .ok (.goto (-30), 3) := by decide +kernel
theorem dX8_edgesCanHold_91 : decode cX8_edgesCanHold 91 = .ok (.iconst 1, 1) := by decide +kernel
theorem dX8_edgesCanHold_92 : decode cX8_edgesCanHold 92 = .ok (.ireturn, 1) := by decide +kernel
theorem dX8_closesRing_0 : decode cX8_closesRing 0 = .ok (.iconst 0, 1) := by decide +kernel
theorem dX8_closesRing_1 : decode cX8_closesRing 1 = .ok (.istore_n 3, 1) := by decide +kernel
theorem dX8_closesRing_2 : decode cX8_closesRing 2 = .ok (.iload_n 3, 1) := by decide +kernel
theorem dX8_closesRing_3 : decode cX8_closesRing 3 = .ok (.iload_n 1, 1) := by decide +kernel
theorem dX8_closesRing_4 : decode cX8_closesRing 4 = .ok (.if_icmp .ge 63, 3) := by decide +kernel
theorem dX8_closesRing_7 : decode cX8_closesRing 7 = .ok (.aload_n 0, 1) := by decide +kernel
theorem dX8_closesRing_8 : decode cX8_closesRing 8 = .ok (.getfield 18, 3) := by decide +kernel
theorem dX8_closesRing_11 : decode cX8_closesRing 11 = .ok (.iload_n 1, 1) := by decide +kernel
theorem dX8_closesRing_12 : decode cX8_closesRing 12 = .ok (.iconst 1, 1) := by decide +kernel
theorem dX8_closesRing_13 : decode cX8_closesRing 13 = .ok (.isub, 1) := by decide +kernel
theorem dX8_closesRing_14 : decode cX8_closesRing 14 = .ok (.iload_n 2, 1) := by decide +kernel
theorem dX8_closesRing_15 : decode cX8_closesRing 15 = .ok (.iload_n 3, 1) := by decide +kernel
theorem dX8_closesRing_16 : decode cX8_closesRing 16 = .ok (.invokestatic 107, 3) := by decide +kernel
theorem dX8_closesRing_19 : decode cX8_closesRing 19 = .ok (.iaload, 1) := by decide +kernel
theorem dX8_closesRing_20 : decode cX8_closesRing 20 = .ok (.istore 4, 2) := by decide +kernel
theorem dX8_closesRing_22 : decode cX8_closesRing 22 = .ok (.aload_n 0, 1) := by decide +kernel
theorem dX8_closesRing_23 : decode cX8_closesRing 23 = .ok (.getfield 22, 3) := by decide +kernel
theorem dX8_closesRing_26 : decode cX8_closesRing 26 = .ok (.iload_n 3, 1) := by decide +kernel
theorem dX8_closesRing_27 : decode cX8_closesRing 27 = .ok (.iaload, 1) := by decide +kernel
theorem dX8_closesRing_28 : decode cX8_closesRing 28 = .ok (.ldc 102, 2) := by decide +kernel
theorem dX8_closesRing_30 : decode cX8_closesRing 30 = .ok (.if_icmp .eq 31, 3) := by decide +kernel
theorem dX8_closesRing_33 : decode cX8_closesRing 33 = .ok (.iload 4, 2) := by decide +kernel
theorem dX8_closesRing_35 : decode cX8_closesRing 35 = .ok (.ldc 102, 2) := by decide +kernel
theorem dX8_closesRing_37 : decode cX8_closesRing 37 = .ok (.if_icmp .eq 24, 3) := by decide +kernel
end
section
theorem dX8_closesRing_40 : decode cX8_closesRing 40 = .ok (.aload_n 0, 1) := by decide +kernel
theorem dX8_closesRing_41 : decode cX8_closesRing 41 = .ok (.getfield 25, 3) := by decide +kernel
theorem dX8_closesRing_44 : decode cX8_closesRing 44 = .ok (.iload_n 2, 1) := by decide +kernel
theorem dX8_closesRing_45 : decode cX8_closesRing 45 = .ok (.iaload, 1) := by decide +kernel
theorem dX8_closesRing_46 : decode cX8_closesRing 46 = .ok (.iload 4, 2) := by decide +kernel
theorem dX8_closesRing_48 : decode cX8_closesRing 48 = .ok (.iadd, 1) := by decide +kernel
theorem dX8_closesRing_49 : decode cX8_closesRing 49 = .ok (.aload_n 0, 1) := by decide +kernel
theorem dX8_closesRing_50 : decode cX8_closesRing 50 = .ok (.getfield 22, 3) := by decide +kernel
theorem dX8_closesRing_53 : decode cX8_closesRing 53 = .ok (.iload_n 3, 1) := by decide +kernel
theorem dX8_closesRing_54 : decode cX8_closesRing 54 = .ok (.iaload, 1) := by decide +kernel
theorem dX8_closesRing_55 : decode cX8_closesRing 55 = .ok (.iadd, 1) := by decide +kernel
theorem dX8_closesRing_56 : decode cX8_closesRing 56 = .ok (.ifCond .le 5, 3) := by decide +kernel
theorem dX8_closesRing_59 : decode cX8_closesRing 59 = .ok (.iconst 1, 1) := by decide +kernel
theorem dX8_closesRing_60 : decode cX8_closesRing 60 = .ok (.ireturn, 1) := by decide +kernel
theorem dX8_closesRing_61 : decode cX8_closesRing 61 = .ok (.iinc 3 1, 3) := by decide +kernel
theorem dX8_closesRing_64 : decode cX8_closesRing 64 = .ok (.goto (-62), 3) := by decide +kernel
theorem dX8_closesRing_67 : decode cX8_closesRing 67 = .ok (.iconst 0, 1) := by decide +kernel
theorem dX8_closesRing_68 : decode cX8_closesRing 68 = .ok (.ireturn, 1) := by decide +kernel
theorem dX8_stagesBetween_0 : decode cX8_stagesBetween 0 = .ok (.aload_n 0, 1) := by decide +kernel
theorem dX8_stagesBetween_1 : decode cX8_stagesBetween 1 = .ok (.getfield 48, 3) := by decide +kernel
theorem dX8_stagesBetween_4 : decode cX8_stagesBetween 4 = .ok (.getfield 94, 3) := by decide +kernel
theorem dX8_stagesBetween_7 : decode cX8_stagesBetween 7 = .ok (.iload_n 1, 1) := by decide +kernel
theorem dX8_stagesBetween_8 : decode cX8_stagesBetween 8 = .ok (.bipush 16, 2) := by decide +kernel
theorem dX8_stagesBetween_10 : decode cX8_stagesBetween 10 = .ok (.imul, 1) := by decide +kernel
theorem dX8_stagesBetween_11 : decode cX8_stagesBetween 11 = .ok (.iload_n 2, 1) := by decide +kernel
theorem dX8_stagesBetween_12 : decode cX8_stagesBetween 12 = .ok (.iadd, 1) := by decide +kernel
theorem dX8_stagesBetween_13 : decode cX8_stagesBetween 13 = .ok (.iaload, 1) := by decide +kernel
theorem dX8_stagesBetween_14 : decode cX8_stagesBetween 14 = .ok (.istore_n 3, 1) := by decide +kernel
theorem dX8_stagesBetween_15 : decode cX8_stagesBetween 15 = .ok (.iload_n 3, 1) := by decide +kernel
theorem dX8_stagesBetween_16 : decode cX8_stagesBetween 16 = .ok (.ldc 102, 2) := by decide +kernel
theorem dX8_stagesBetween_18 : decode cX8_stagesBetween 18 = .ok (.if_icmp .eq 11, 3) := by decide +kernel
theorem dX8_stagesBetween_21 : decode cX8_stagesBetween 21 = .ok (.aload_n 0, 1) := by decide +kernel
theorem dX8_stagesBetween_22 : decode cX8_stagesBetween 22 = .ok (.getfield 34, 3) := by decide +kernel
theorem dX8_stagesBetween_25 : decode cX8_stagesBetween 25 = .ok (.iconst 1, 1) := by decide +kernel
theorem dX8_stagesBetween_26 : decode cX8_stagesBetween 26 = .ok (.if_icmp .ge 6, 3) := by decide +kernel
theorem dX8_stagesBetween_29 : decode cX8_stagesBetween 29 = .ok (.ldc 102, 2) := by decide +kernel
theorem dX8_stagesBetween_31 : decode cX8_stagesBetween 31 = .ok (.ireturn, 1) := by decide +kernel
theorem dX8_stagesBetween_32 : decode cX8_stagesBetween 32 = .ok (.iload_n 3, 1) := by decide +kernel
theorem dX8_stagesBetween_33 : decode cX8_stagesBetween 33 = .ok (.aload_n 0, 1) := by decide +kernel
theorem dX8_stagesBetween_34 : decode cX8_stagesBetween 34 = .ok (.getfield 38, 3) := by decide +kernel
theorem dX8_stagesBetween_37 : decode cX8_stagesBetween 37 = .ok (.iload_n 1, 1) := by decide +kernel
theorem dX8_stagesBetween_38 : decode cX8_stagesBetween 38 = .ok (.iaload, 1) := by decide +kernel
theorem dX8_stagesBetween_39 : decode cX8_stagesBetween 39 = .ok (.iadd, 1) := by decide +kernel
theorem dX8_stagesBetween_40 : decode cX8_stagesBetween 40 = .ok (.aload_n 0, 1) := by decide +kernel
theorem dX8_stagesBetween_41 : decode cX8_stagesBetween 41 = .ok (.getfield 38, 3) := by decide +kernel
theorem dX8_stagesBetween_44 : decode cX8_stagesBetween 44 = .ok (.iload_n 2, 1) := by decide +kernel
theorem dX8_stagesBetween_45 : decode cX8_stagesBetween 45 = .ok (.iaload, 1) := by decide +kernel
theorem dX8_stagesBetween_46 : decode cX8_stagesBetween 46 = .ok (.isub, 1) := by decide +kernel
theorem dX8_stagesBetween_47 : decode cX8_stagesBetween 47 = .ok (.aload_n 0, 1) := by decide +kernel
theorem dX8_stagesBetween_48 : decode cX8_stagesBetween 48 = .ok (.getfield 34, 3) := by decide +kernel
theorem dX8_stagesBetween_51 : decode cX8_stagesBetween 51 = .ok (.iadd, 1) := by decide +kernel
theorem dX8_stagesBetween_52 : decode cX8_stagesBetween 52 = .ok (.iconst 1, 1) := by decide +kernel
theorem dX8_stagesBetween_53 : decode cX8_stagesBetween 53 = .ok (.isub, 1) := by decide +kernel
theorem dX8_stagesBetween_54 : decode cX8_stagesBetween 54 = .ok (.aload_n 0, 1) := by decide +kernel
theorem dX8_stagesBetween_55 : decode cX8_stagesBetween 55 = .ok (.getfield 34, 3) := by decide +kernel
theorem dX8_stagesBetween_58 : decode cX8_stagesBetween 58 = .ok (.invokestatic 111, 3) := by decide +kernel
theorem dX8_stagesBetween_61 : decode cX8_stagesBetween 61 = .ok (.ireturn, 1) := by decide +kernel
theorem dX8_chain_0 : decode cX8_chain 0 = .ok (.iconst 0, 1) := by decide +kernel
theorem dX8_chain_1 : decode cX8_chain 1 = .ok (.istore_n 2, 1) := by decide +kernel
theorem dX8_chain_2 : decode cX8_chain 2 = .ok (.iload_n 2, 1) := by decide +kernel
theorem dX8_chain_3 : decode cX8_chain 3 = .ok (.iload_n 1, 1) := by decide +kernel
theorem dX8_chain_4 : decode cX8_chain 4 = .ok (.if_icmp .ge 33, 3) := by decide +kernel
theorem dX8_chain_7 : decode cX8_chain 7 = .ok (.aload_n 0, 1) := by decide +kernel
theorem dX8_chain_8 : decode cX8_chain 8 = .ok (.getfield 28, 3) := by decide +kernel
theorem dX8_chain_11 : decode cX8_chain 11 = .ok (.iload_n 2, 1) := by decide +kernel
theorem dX8_chain_12 : decode cX8_chain 12 = .ok (.aload_n 0, 1) := by decide +kernel
theorem dX8_chain_13 : decode cX8_chain 13 = .ok (.iload_n 1, 1) := by decide +kernel
theorem dX8_chain_14 : decode cX8_chain 14 = .ok (.iload_n 2, 1) := by decide +kernel
theorem dX8_chain_15 : decode cX8_chain 15 = .ok (.invokevirtual 114, 3) := by decide +kernel
theorem dX8_chain_18 : decode cX8_chain 18 = .ok (.iastore, 1) := by decide +kernel
theorem dX8_chain_19 : decode cX8_chain 19 = .ok (.aload_n 0, 1) := by decide +kernel
theorem dX8_chain_20 : decode cX8_chain 20 = .ok (.getfield 31, 3) := by decide +kernel
theorem dX8_chain_23 : decode cX8_chain 23 = .ok (.iload_n 2, 1) := by decide +kernel
theorem dX8_chain_24 : decode cX8_chain 24 = .ok (.aload_n 0, 1) := by decide +kernel
theorem dX8_chain_25 : decode cX8_chain 25 = .ok (.iload_n 1, 1) := by decide +kernel
theorem dX8_chain_26 : decode cX8_chain 26 = .ok (.iload_n 2, 1) := by decide +kernel
theorem dX8_chain_27 : decode cX8_chain 27 = .ok (.invokevirtual 117, 3) := by decide +kernel
theorem dX8_chain_30 : decode cX8_chain 30 = .ok (.iastore, 1) := by decide +kernel
theorem dX8_chain_31 : decode cX8_chain 31 = .ok (.iinc 2 1, 3) := by decide +kernel
theorem dX8_chain_34 : decode cX8_chain 34 = .ok (.goto (-32), 3) := by decide +kernel
theorem dX8_chain_37 : decode cX8_chain 37 = .ok (.iconst 0, 1) := by decide +kernel
theorem dX8_chain_38 : decode cX8_chain 38 = .ok (.istore_n 2, 1) := by decide +kernel
theorem dX8_chain_39 : decode cX8_chain 39 = .ok (.iload_n 2, 1) := by decide +kernel
theorem dX8_chain_40 : decode cX8_chain 40 = .ok (.iload_n 1, 1) := by decide +kernel
theorem dX8_chain_41 : decode cX8_chain 41 = .ok (.if_icmp .ge 86, 3) := by decide +kernel
theorem dX8_chain_44 : decode cX8_chain 44 = .ok (.aload_n 0, 1) := by decide +kernel
theorem dX8_chain_45 : decode cX8_chain 45 = .ok (.getfield 18, 3) := by decide +kernel
theorem dX8_chain_48 : decode cX8_chain 48 = .ok (.iload_n 1, 1) := by decide +kernel
theorem dX8_chain_49 : decode cX8_chain 49 = .ok (.iconst 1, 1) := by decide +kernel
theorem dX8_chain_50 : decode cX8_chain 50 = .ok (.isub, 1) := by decide +kernel
theorem dX8_chain_51 : decode cX8_chain 51 = .ok (.iload_n 2, 1) := by decide +kernel
theorem dX8_chain_52 : decode cX8_chain 52 = .ok (.iconst 0, 1) := by decide +kernel
theorem dX8_chain_53 : decode cX8_chain 53 = .ok (.invokestatic 107, 3) := by decide +kernel
theorem dX8_chain_56 : decode cX8_chain 56 = .ok (.aload_n 0, 1) := by decide +kernel
theorem dX8_chain_57 : decode cX8_chain 57 = .ok (.getfield 18, 3) := by decide +kernel
theorem dX8_chain_60 : decode cX8_chain 60 = .ok (.iload_n 1, 1) := by decide +kernel
theorem dX8_chain_61 : decode cX8_chain 61 = .ok (.iload_n 2, 1) := by decide +kernel
theorem dX8_chain_62 : decode cX8_chain 62 = .ok (.iconst 0, 1) := by decide +kernel
theorem dX8_chain_63 : decode cX8_chain 63 = .ok (.invokestatic 107, 3) := by decide +kernel
theorem dX8_chain_66 : decode cX8_chain 66 = .ok (.iload_n 1, 1) := by decide +kernel
theorem dX8_chain_67 : decode cX8_chain 67 = .ok (.invokestatic 120, 3) := by decide +kernel
theorem dX8_chain_70 : decode cX8_chain 70 = .ok (.aload_n 0, 1) := by decide +kernel
theorem dX8_chain_71 : decode cX8_chain 71 = .ok (.getfield 28, 3) := by decide +kernel
theorem dX8_chain_74 : decode cX8_chain 74 = .ok (.iload_n 2, 1) := by decide +kernel
theorem dX8_chain_75 : decode cX8_chain 75 = .ok (.iaload, 1) := by decide +kernel
theorem dX8_chain_76 : decode cX8_chain 76 = .ok (.ldc 102, 2) := by decide +kernel
theorem dX8_chain_78 : decode cX8_chain 78 = .ok (.if_icmp .eq 9, 3) := by decide +kernel
theorem dX8_chain_81 : decode cX8_chain 81 = .ok (.aload_n 0, 1) := by decide +kernel
theorem dX8_chain_82 : decode cX8_chain 82 = .ok (.iload_n 1, 1) := by decide +kernel
theorem dX8_chain_83 : decode cX8_chain 83 = .ok (.iload_n 2, 1) := by decide +kernel
theorem dX8_chain_84 : decode cX8_chain 84 = .ok (.invokevirtual 126, 3) := by decide +kernel
theorem dX8_chain_87 : decode cX8_chain 87 = .ok (.aload_n 0, 1) := by decide +kernel
theorem dX8_chain_88 : decode cX8_chain 88 = .ok (.getfield 18, 3) := by decide +kernel
theorem dX8_chain_91 : decode cX8_chain 91 = .ok (.iload_n 1, 1) := by decide +kernel
theorem dX8_chain_92 : decode cX8_chain 92 = .ok (.iload_n 2, 1) := by decide +kernel
theorem dX8_chain_93 : decode cX8_chain 93 = .ok (.iload_n 1, 1) := by decide +kernel
theorem dX8_chain_94 : decode cX8_chain 94 = .ok (.invokestatic 107, 3) := by decide +kernel
theorem dX8_chain_97 : decode cX8_chain 97 = .ok (.aload_n 0, 1) := by decide +kernel
theorem dX8_chain_98 : decode cX8_chain 98 = .ok (.getfield 28, 3) := by decide +kernel
theorem dX8_chain_101 : decode cX8_chain 101 = .ok (.iload_n 2, 1) := by decide +kernel
theorem dX8_chain_102 : decode cX8_chain 102 = .ok (.iaload, 1) := by decide +kernel
theorem dX8_chain_103 : decode cX8_chain 103 = .ok (.iastore, 1) := by decide +kernel
theorem dX8_chain_104 : decode cX8_chain 104 = .ok (.aload_n 0, 1) := by decide +kernel
theorem dX8_chain_105 : decode cX8_chain 105 = .ok (.getfield 18, 3) := by decide +kernel
theorem dX8_chain_108 : decode cX8_chain 108 = .ok (.iload_n 1, 1) := by decide +kernel
theorem dX8_chain_109 : decode cX8_chain 109 = .ok (.iload_n 1, 1) := by decide +kernel
theorem dX8_chain_110 : decode cX8_chain 110 = .ok (.iload_n 2, 1) := by decide +kernel
theorem dX8_chain_111 : decode cX8_chain 111 = .ok (.invokestatic 107, 3) := by decide +kernel
theorem dX8_chain_114 : decode cX8_chain 114 = .ok (.aload_n 0, 1) := by decide +kernel
theorem dX8_chain_115 : decode cX8_chain 115 = .ok (.getfield 31, 3) := by decide +kernel
theorem dX8_chain_118 : decode cX8_chain 118 = .ok (.iload_n 2, 1) := by decide +kernel
theorem dX8_chain_119 : decode cX8_chain 119 = .ok (.iaload, 1) := by decide +kernel
theorem dX8_chain_120 : decode cX8_chain 120 = .ok (.iastore, 1) := by decide +kernel
theorem dX8_chain_121 : decode cX8_chain 121 = .ok (.iinc 2 1, 3) := by decide +kernel
theorem dX8_chain_124 : decode cX8_chain 124 = .ok (.goto (-85), 3) := by decide +kernel
theorem dX8_chain_127 : decode cX8_chain 127 = .ok (.aload_n 0, 1) := by decide +kernel
theorem dX8_chain_128 : decode cX8_chain 128 = .ok (.getfield 18, 3) := by decide +kernel
theorem dX8_chain_131 : decode cX8_chain 131 = .ok (.iload_n 1, 1) := by decide +kernel
theorem dX8_chain_132 : decode cX8_chain 132 = .ok (.iload_n 1, 1) := by decide +kernel
theorem dX8_chain_133 : decode cX8_chain 133 = .ok (.iload_n 1, 1) := by decide +kernel
theorem dX8_chain_134 : decode cX8_chain 134 = .ok (.invokestatic 107, 3) := by decide +kernel
theorem dX8_chain_137 : decode cX8_chain 137 = .ok (.iconst 0, 1) := by decide +kernel
theorem dX8_chain_138 : decode cX8_chain 138 = .ok (.iastore, 1) := by decide +kernel
theorem dX8_chain_139 : decode cX8_chain 139 = .ok (.return_, 1) := by decide +kernel
theorem dX8_lengthen_0 : decode cX8_lengthen 0 = .ok (.iload_n 1, 1) := by decide +kernel
theorem dX8_lengthen_1 : decode cX8_lengthen 1 = .ok (.iload_n 2, 1) := by decide +kernel
theorem dX8_lengthen_2 : decode cX8_lengthen 2 = .ok (.iconst 0, 1) := by decide +kernel
theorem dX8_lengthen_3 : decode cX8_lengthen 3 = .ok (.invokestatic 107, 3) := by decide +kernel
theorem dX8_lengthen_6 : decode cX8_lengthen 6 = .ok (.istore_n 3, 1) := by decide +kernel
theorem dX8_lengthen_7 : decode cX8_lengthen 7 = .ok (.iconst 0, 1) := by decide +kernel
theorem dX8_lengthen_8 : decode cX8_lengthen 8 = .ok (.istore 4, 2) := by decide +kernel
theorem dX8_lengthen_10 : decode cX8_lengthen 10 = .ok (.iload 4, 2) := by decide +kernel
theorem dX8_lengthen_12 : decode cX8_lengthen 12 = .ok (.iload_n 1, 1) := by decide +kernel
theorem dX8_lengthen_13 : decode cX8_lengthen 13 = .ok (.if_icmp .ge 56, 3) := by decide +kernel
theorem dX8_lengthen_16 : decode cX8_lengthen 16 = .ok (.aload_n 0, 1) := by decide +kernel
theorem dX8_lengthen_17 : decode cX8_lengthen 17 = .ok (.getfield 31, 3) := by decide +kernel
theorem dX8_lengthen_20 : decode cX8_lengthen 20 = .ok (.iload 4, 2) := by decide +kernel
theorem dX8_lengthen_22 : decode cX8_lengthen 22 = .ok (.iaload, 1) := by decide +kernel
theorem dX8_lengthen_23 : decode cX8_lengthen 23 = .ok (.ldc 102, 2) := by decide +kernel
theorem dX8_lengthen_25 : decode cX8_lengthen 25 = .ok (.if_icmp .eq 38, 3) := by decide +kernel
theorem dX8_lengthen_28 : decode cX8_lengthen 28 = .ok (.aload_n 0, 1) := by decide +kernel
theorem dX8_lengthen_29 : decode cX8_lengthen 29 = .ok (.getfield 18, 3) := by decide +kernel
theorem dX8_lengthen_32 : decode cX8_lengthen 32 = .ok (.iload_n 3, 1) := by decide +kernel
theorem dX8_lengthen_33 : decode cX8_lengthen 33 = .ok (.iload 4, 2) := by decide +kernel
theorem dX8_lengthen_35 : decode cX8_lengthen 35 = .ok (.iadd, 1) := by decide +kernel
theorem dX8_lengthen_36 : decode cX8_lengthen 36 = .ok (.aload_n 0, 1) := by decide +kernel
theorem dX8_lengthen_37 : decode cX8_lengthen 37 = .ok (.getfield 18, 3) := by decide +kernel
theorem dX8_lengthen_40 : decode cX8_lengthen 40 = .ok (.iload_n 3, 1) := by decide +kernel
theorem dX8_lengthen_41 : decode cX8_lengthen 41 = .ok (.iload 4, 2) := by decide +kernel
theorem dX8_lengthen_43 : decode cX8_lengthen 43 = .ok (.iadd, 1) := by decide +kernel
theorem dX8_lengthen_44 : decode cX8_lengthen 44 = .ok (.iaload, 1) := by decide +kernel
theorem dX8_lengthen_45 : decode cX8_lengthen 45 = .ok (.aload_n 0, 1) := by decide +kernel
theorem dX8_lengthen_46 : decode cX8_lengthen 46 = .ok (.getfield 28, 3) := by decide +kernel
theorem dX8_lengthen_49 : decode cX8_lengthen 49 = .ok (.iload_n 2, 1) := by decide +kernel
theorem dX8_lengthen_50 : decode cX8_lengthen 50 = .ok (.iaload, 1) := by decide +kernel
theorem dX8_lengthen_51 : decode cX8_lengthen 51 = .ok (.aload_n 0, 1) := by decide +kernel
theorem dX8_lengthen_52 : decode cX8_lengthen 52 = .ok (.getfield 31, 3) := by decide +kernel
theorem dX8_lengthen_55 : decode cX8_lengthen 55 = .ok (.iload 4, 2) := by decide +kernel
theorem dX8_lengthen_57 : decode cX8_lengthen 57 = .ok (.iaload, 1) := by decide +kernel
theorem dX8_lengthen_58 : decode cX8_lengthen 58 = .ok (.iadd, 1) := by decide +kernel
theorem dX8_lengthen_59 : decode cX8_lengthen 59 = .ok (.invokestatic 52, 3) := by decide +kernel
theorem dX8_lengthen_62 : decode cX8_lengthen 62 = .ok (.iastore, 1) := by decide +kernel
theorem dX8_lengthen_63 : decode cX8_lengthen 63 = .ok (.iinc 4 1, 3) := by decide +kernel
theorem dX8_lengthen_66 : decode cX8_lengthen 66 = .ok (.goto (-56), 3) := by decide +kernel
theorem dX8_lengthen_69 : decode cX8_lengthen 69 = .ok (.return_, 1) := by decide +kernel
theorem dX8_longestInto_0 : decode cX8_longestInto 0 = .ok (.ldc 102, 2) := by decide +kernel
theorem dX8_longestInto_2 : decode cX8_longestInto 2 = .ok (.istore_n 3, 1) := by decide +kernel
theorem dX8_longestInto_3 : decode cX8_longestInto 3 = .ok (.iconst 0, 1) := by decide +kernel
theorem dX8_longestInto_4 : decode cX8_longestInto 4 = .ok (.istore 4, 2) := by decide +kernel
theorem dX8_longestInto_6 : decode cX8_longestInto 6 = .ok (.iload 4, 2) := by decide +kernel
theorem dX8_longestInto_8 : decode cX8_longestInto 8 = .ok (.iload_n 1, 1) := by decide +kernel
theorem dX8_longestInto_9 : decode cX8_longestInto 9 = .ok (.if_icmp .ge 50, 3) := by decide +kernel
theorem dX8_longestInto_12 : decode cX8_longestInto 12 = .ok (.aload_n 0, 1) := by decide +kernel
theorem dX8_longestInto_13 : decode cX8_longestInto 13 = .ok (.getfield 22, 3) := by decide +kernel
theorem dX8_longestInto_16 : decode cX8_longestInto 16 = .ok (.iload 4, 2) := by decide +kernel
theorem dX8_longestInto_18 : decode cX8_longestInto 18 = .ok (.iaload, 1) := by decide +kernel
theorem dX8_longestInto_19 : decode cX8_longestInto 19 = .ok (.ldc 102, 2) := by decide +kernel
theorem dX8_longestInto_21 : decode cX8_longestInto 21 = .ok (.if_icmp .eq 32, 3) := by decide +kernel
theorem dX8_longestInto_24 : decode cX8_longestInto 24 = .ok (.iload_n 3, 1) := by decide +kernel
theorem dX8_longestInto_25 : decode cX8_longestInto 25 = .ok (.aload_n 0, 1) := by decide +kernel
theorem dX8_longestInto_26 : decode cX8_longestInto 26 = .ok (.getfield 18, 3) := by decide +kernel
theorem dX8_longestInto_29 : decode cX8_longestInto 29 = .ok (.iload_n 1, 1) := by decide +kernel
theorem dX8_longestInto_30 : decode cX8_longestInto 30 = .ok (.iconst 1, 1) := by decide +kernel
theorem dX8_longestInto_31 : decode cX8_longestInto 31 = .ok (.isub, 1) := by decide +kernel
theorem dX8_longestInto_32 : decode cX8_longestInto 32 = .ok (.iload_n 2, 1) := by decide +kernel
theorem dX8_longestInto_33 : decode cX8_longestInto 33 = .ok (.iload 4, 2) := by decide +kernel
theorem dX8_longestInto_35 : decode cX8_longestInto 35 = .ok (.invokestatic 107, 3) := by decide +kernel
theorem dX8_longestInto_38 : decode cX8_longestInto 38 = .ok (.iaload, 1) := by decide +kernel
theorem dX8_longestInto_39 : decode cX8_longestInto 39 = .ok (.aload_n 0, 1) := by decide +kernel
theorem dX8_longestInto_40 : decode cX8_longestInto 40 = .ok (.getfield 22, 3) := by decide +kernel
theorem dX8_longestInto_43 : decode cX8_longestInto 43 = .ok (.iload 4, 2) := by decide +kernel
theorem dX8_longestInto_45 : decode cX8_longestInto 45 = .ok (.iaload, 1) := by decide +kernel
theorem dX8_longestInto_46 : decode cX8_longestInto 46 = .ok (.invokestatic 130, 3) := by decide +kernel
theorem dX8_longestInto_49 : decode cX8_longestInto 49 = .ok (.invokestatic 52, 3) := by decide +kernel
theorem dX8_longestInto_52 : decode cX8_longestInto 52 = .ok (.istore_n 3, 1) := by decide +kernel
theorem dX8_longestInto_53 : decode cX8_longestInto 53 = .ok (.iinc 4 1, 3) := by decide +kernel
theorem dX8_longestInto_56 : decode cX8_longestInto 56 = .ok (.goto (-50), 3) := by decide +kernel
theorem dX8_longestInto_59 : decode cX8_longestInto 59 = .ok (.iload_n 3, 1) := by decide +kernel
theorem dX8_longestInto_60 : decode cX8_longestInto 60 = .ok (.ireturn, 1) := by decide +kernel
theorem dX8_longestOutOf_0 : decode cX8_longestOutOf 0 = .ok (.ldc 102, 2) := by decide +kernel
theorem dX8_longestOutOf_2 : decode cX8_longestOutOf 2 = .ok (.istore_n 3, 1) := by decide +kernel
theorem dX8_longestOutOf_3 : decode cX8_longestOutOf 3 = .ok (.iconst 0, 1) := by decide +kernel
theorem dX8_longestOutOf_4 : decode cX8_longestOutOf 4 = .ok (.istore 4, 2) := by decide +kernel
theorem dX8_longestOutOf_6 : decode cX8_longestOutOf 6 = .ok (.iload 4, 2) := by decide +kernel
theorem dX8_longestOutOf_8 : decode cX8_longestOutOf 8 = .ok (.iload_n 1, 1) := by decide +kernel
theorem dX8_longestOutOf_9 : decode cX8_longestOutOf 9 = .ok (.if_icmp .ge 50, 3) := by decide +kernel
theorem dX8_longestOutOf_12 : decode cX8_longestOutOf 12 = .ok (.aload_n 0, 1) := by decide +kernel
theorem dX8_longestOutOf_13 : decode cX8_longestOutOf 13 = .ok (.getfield 25, 3) := by decide +kernel
theorem dX8_longestOutOf_16 : decode cX8_longestOutOf 16 = .ok (.iload 4, 2) := by decide +kernel
theorem dX8_longestOutOf_18 : decode cX8_longestOutOf 18 = .ok (.iaload, 1) := by decide +kernel
theorem dX8_longestOutOf_19 : decode cX8_longestOutOf 19 = .ok (.ldc 102, 2) := by decide +kernel
theorem dX8_longestOutOf_21 : decode cX8_longestOutOf 21 = .ok (.if_icmp .eq 32, 3) := by decide +kernel
theorem dX8_longestOutOf_24 : decode cX8_longestOutOf 24 = .ok (.iload_n 3, 1) := by decide +kernel
theorem dX8_longestOutOf_25 : decode cX8_longestOutOf 25 = .ok (.aload_n 0, 1) := by decide +kernel
theorem dX8_longestOutOf_26 : decode cX8_longestOutOf 26 = .ok (.getfield 25, 3) := by decide +kernel
theorem dX8_longestOutOf_29 : decode cX8_longestOutOf 29 = .ok (.iload 4, 2) := by decide +kernel
theorem dX8_longestOutOf_31 : decode cX8_longestOutOf 31 = .ok (.iaload, 1) := by decide +kernel
theorem dX8_longestOutOf_32 : decode cX8_longestOutOf 32 = .ok (.aload_n 0, 1) := by decide +kernel
theorem dX8_longestOutOf_33 : decode cX8_longestOutOf 33 = .ok (.getfield 18, 3) := by decide +kernel
theorem dX8_longestOutOf_36 : decode cX8_longestOutOf 36 = .ok (.iload_n 1, 1) := by decide +kernel
theorem dX8_longestOutOf_37 : decode cX8_longestOutOf 37 = .ok (.iconst 1, 1) := by decide +kernel
theorem dX8_longestOutOf_38 : decode cX8_longestOutOf 38 = .ok (.isub, 1) := by decide +kernel
theorem dX8_longestOutOf_39 : decode cX8_longestOutOf 39 = .ok (.iload 4, 2) := by decide +kernel
theorem dX8_longestOutOf_41 : decode cX8_longestOutOf 41 = .ok (.iload_n 2, 1) := by decide +kernel
theorem dX8_longestOutOf_42 : decode cX8_longestOutOf 42 = .ok (.invokestatic 107, 3) := by decide +kernel
theorem dX8_longestOutOf_45 : decode cX8_longestOutOf 45 = .ok (.iaload, 1) := by decide +kernel
theorem dX8_longestOutOf_46 : decode cX8_longestOutOf 46 = .ok (.invokestatic 130, 3) := by decide +kernel
theorem dX8_longestOutOf_49 : decode cX8_longestOutOf 49 = .ok (.invokestatic 52, 3) := by decide +kernel
theorem dX8_longestOutOf_52 : decode cX8_longestOutOf 52 = .ok (.istore_n 3, 1) := by decide +kernel
theorem dX8_longestOutOf_53 : decode cX8_longestOutOf 53 = .ok (.iinc 4 1, 3) := by decide +kernel
theorem dX8_longestOutOf_56 : decode cX8_longestOutOf 56 = .ok (.goto (-50), 3) := by decide +kernel
theorem dX8_longestOutOf_59 : decode cX8_longestOutOf 59 = .ok (.iload_n 3, 1) := by decide +kernel
theorem dX8_longestOutOf_60 : decode cX8_longestOutOf 60 = .ok (.ireturn, 1) := by decide +kernel
theorem dX8_plus_0 : decode cX8_plus 0 = .ok (.iload_n 0, 1) := by decide +kernel
theorem dX8_plus_1 : decode cX8_plus 1 = .ok (.ldc 102, 2) := by decide +kernel
theorem dX8_plus_3 : decode cX8_plus 3 = .ok (.if_icmp .eq 9, 3) := by decide +kernel
theorem dX8_plus_6 : decode cX8_plus 6 = .ok (.iload_n 1, 1) := by decide +kernel
theorem dX8_plus_7 : decode cX8_plus 7 = .ok (.ldc 102, 2) := by decide +kernel
theorem dX8_plus_9 : decode cX8_plus 9 = .ok (.if_icmp .ne 8, 3) := by decide +kernel
theorem dX8_plus_12 : decode cX8_plus 12 = .ok (.ldc 102, 2) := by decide +kernel
theorem dX8_plus_14 : decode cX8_plus 14 = .ok (.goto 6, 3) := by decide +kernel
theorem dX8_plus_17 : decode cX8_plus 17 = .ok (.iload_n 0, 1) := by decide +kernel
theorem dX8_plus_18 : decode cX8_plus 18 = .ok (.iload_n 1, 1) := by decide +kernel
theorem dX8_plus_19 : decode cX8_plus 19 = .ok (.iadd, 1) := by decide +kernel
theorem dX8_plus_20 : decode cX8_plus 20 = .ok (.ireturn, 1) := by decide +kernel
theorem dX8_place_0 : decode cX8_place 0 = .ok (.iload_n 0, 1) := by decide +kernel
theorem dX8_place_1 : decode cX8_place 1 = .ok (.bipush 16, 2) := by decide +kernel
theorem dX8_place_3 : decode cX8_place 3 = .ok (.imul, 1) := by decide +kernel
theorem dX8_place_4 : decode cX8_place 4 = .ok (.iload_n 1, 1) := by decide +kernel
theorem dX8_place_5 : decode cX8_place 5 = .ok (.iadd, 1) := by decide +kernel
theorem dX8_place_6 : decode cX8_place 6 = .ok (.bipush 16, 2) := by decide +kernel
theorem dX8_place_8 : decode cX8_place 8 = .ok (.imul, 1) := by decide +kernel
theorem dX8_place_9 : decode cX8_place 9 = .ok (.iload_n 2, 1) := by decide +kernel
theorem dX8_place_10 : decode cX8_place 10 = .ok (.iadd, 1) := by decide +kernel
theorem dX8_place_11 : decode cX8_place 11 = .ok (.ireturn, 1) := by decide +kernel
theorem dX8_stageOf_0 : decode cX8_stageOf 0 = .ok (.iconst 0, 1) := by decide +kernel
theorem dX8_stageOf_1 : decode cX8_stageOf 1 = .ok (.istore_n 2, 1) := by decide +kernel
theorem dX8_stageOf_2 : decode cX8_stageOf 2 = .ok (.iconst 0, 1) := by decide +kernel
theorem dX8_stageOf_3 : decode cX8_stageOf 3 = .ok (.istore_n 3, 1) := by decide +kernel
theorem dX8_stageOf_4 : decode cX8_stageOf 4 = .ok (.iload_n 3, 1) := by decide +kernel
theorem dX8_stageOf_5 : decode cX8_stageOf 5 = .ok (.aload_n 0, 1) := by decide +kernel
theorem dX8_stageOf_6 : decode cX8_stageOf 6 = .ok (.getfield 44, 3) := by decide +kernel
theorem dX8_stageOf_9 : decode cX8_stageOf 9 = .ok (.getfield 61, 3) := by decide +kernel
theorem dX8_stageOf_12 : decode cX8_stageOf 12 = .ok (.if_icmp .ge 33, 3) := by decide +kernel
theorem dX8_stageOf_15 : decode cX8_stageOf 15 = .ok (.iload_n 2, 1) := by decide +kernel
theorem dX8_stageOf_16 : decode cX8_stageOf 16 = .ok (.aload_n 0, 1) := by decide +kernel
theorem dX8_stageOf_17 : decode cX8_stageOf 17 = .ok (.getfield 18, 3) := by decide +kernel
theorem dX8_stageOf_20 : decode cX8_stageOf 20 = .ok (.aload_n 0, 1) := by decide +kernel
theorem dX8_stageOf_21 : decode cX8_stageOf 21 = .ok (.getfield 44, 3) := by decide +kernel
theorem dX8_stageOf_24 : decode cX8_stageOf 24 = .ok (.getfield 61, 3) := by decide +kernel
theorem dX8_stageOf_27 : decode cX8_stageOf 27 = .ok (.iconst 1, 1) := by decide +kernel
theorem dX8_stageOf_28 : decode cX8_stageOf 28 = .ok (.isub, 1) := by decide +kernel
theorem dX8_stageOf_29 : decode cX8_stageOf 29 = .ok (.iload_n 3, 1) := by decide +kernel
theorem dX8_stageOf_30 : decode cX8_stageOf 30 = .ok (.iload_n 1, 1) := by decide +kernel
theorem dX8_stageOf_31 : decode cX8_stageOf 31 = .ok (.invokestatic 107, 3) := by decide +kernel
theorem dX8_stageOf_34 : decode cX8_stageOf 34 = .ok (.iaload, 1) := by decide +kernel
theorem dX8_stageOf_35 : decode cX8_stageOf 35 = .ok (.invokestatic 52, 3) := by decide +kernel
theorem dX8_stageOf_38 : decode cX8_stageOf 38 = .ok (.istore_n 2, 1) := by decide +kernel
theorem dX8_stageOf_39 : decode cX8_stageOf 39 = .ok (.iinc 3 1, 3) := by decide +kernel
theorem dX8_stageOf_42 : decode cX8_stageOf 42 = .ok (.goto (-38), 3) := by decide +kernel
theorem dX8_stageOf_45 : decode cX8_stageOf 45 = .ok (.iload_n 2, 1) := by decide +kernel
theorem dX8_stageOf_46 : decode cX8_stageOf 46 = .ok (.ireturn, 1) := by decide +kernel
theorem dX9_init_0 : decode cX9_init 0 = .ok (.aload_n 0, 1) := by decide +kernel
theorem dX9_init_1 : decode cX9_init 1 = .ok (.invokespecial 3, 3) := by decide +kernel
theorem dX9_init_4 : decode cX9_init 4 = .ok (.aload_n 0, 1) := by decide +kernel
theorem dX9_init_5 : decode cX9_init 5 = .ok (.sipush 256, 3) := by decide +kernel
theorem dX9_init_8 : decode cX9_init 8 = .ok (.newarray .int, 2) := by decide +kernel
theorem dX9_init_10 : decode cX9_init 10 = .ok (.putfield 9, 3) := by decide +kernel
theorem dX9_init_13 : decode cX9_init 13 = .ok (.aload_n 0, 1) := by decide +kernel
theorem dX9_init_14 : decode cX9_init 14 = .ok (.sipush 256, 3) := by decide +kernel
theorem dX9_init_17 : decode cX9_init 17 = .ok (.newarray .int, 2) := by decide +kernel
theorem dX9_init_19 : decode cX9_init 19 = .ok (.putfield 15, 3) := by decide +kernel
theorem dX9_init_22 : decode cX9_init 22 = .ok (.return_, 1) := by decide +kernel
theorem dX9_load_0 : decode cX9_load 0 = .ok (.aload_n 0, 1) := by decide +kernel
theorem dX9_load_1 : decode cX9_load 1 = .ok (.getfield 9, 3) := by decide +kernel
theorem dX9_load_4 : decode cX9_load 4 = .ok (.ldc 18, 2) := by decide +kernel
theorem dX9_load_6 : decode cX9_load 6 = .ok (.invokestatic 19, 3) := by decide +kernel
theorem dX9_load_9 : decode cX9_load 9 = .ok (.iconst 0, 1) := by decide +kernel
theorem dX9_load_10 : decode cX9_load 10 = .ok (.istore_n 3, 1) := by decide +kernel
theorem dX9_load_11 : decode cX9_load 11 = .ok (.iload_n 3, 1) := by decide +kernel
theorem dX9_load_12 : decode cX9_load 12 = .ok (.aload_n 1, 1) := by decide +kernel
theorem dX9_load_13 : decode cX9_load 13 = .ok (.getfield 25, 3) := by decide +kernel
theorem dX9_load_16 : decode cX9_load 16 = .ok (.if_icmp .ge 59, 3) := by decide +kernel
theorem dX9_load_19 : decode cX9_load 19 = .ok (.aload_n 1, 1) := by decide +kernel
theorem dX9_load_20 : decode cX9_load 20 = .ok (.getfield 31, 3) := by decide +kernel
theorem dX9_load_23 : decode cX9_load 23 = .ok (.iload_n 3, 1) := by decide +kernel
theorem dX9_load_24 : decode cX9_load 24 = .ok (.iaload, 1) := by decide +kernel
theorem dX9_load_25 : decode cX9_load 25 = .ok (.bipush 16, 2) := by decide +kernel
theorem dX9_load_27 : decode cX9_load 27 = .ok (.imul, 1) := by decide +kernel
theorem dX9_load_28 : decode cX9_load 28 = .ok (.aload_n 1, 1) := by decide +kernel
theorem dX9_load_29 : decode cX9_load 29 = .ok (.getfield 34, 3) := by decide +kernel
theorem dX9_load_32 : decode cX9_load 32 = .ok (.iload_n 3, 1) := by decide +kernel
theorem dX9_load_33 : decode cX9_load 33 = .ok (.iaload, 1) := by decide +kernel
theorem dX9_load_34 : decode cX9_load 34 = .ok (.iadd, 1) := by decide +kernel
theorem dX9_load_35 : decode cX9_load 35 = .ok (.istore 4, 2) := by decide +kernel
theorem dX9_load_37 : decode cX9_load 37 = .ok (.aload_n 0, 1) := by decide +kernel
theorem dX9_load_38 : decode cX9_load 38 = .ok (.getfield 9, 3) := by decide +kernel
theorem dX9_load_41 : decode cX9_load 41 = .ok (.iload 4, 2) := by decide +kernel
theorem dX9_load_43 : decode cX9_load 43 = .ok (.aload_n 0, 1) := by decide +kernel
theorem dX9_load_44 : decode cX9_load 44 = .ok (.getfield 9, 3) := by decide +kernel
theorem dX9_load_47 : decode cX9_load 47 = .ok (.iload 4, 2) := by decide +kernel
theorem dX9_load_49 : decode cX9_load 49 = .ok (.iaload, 1) := by decide +kernel
theorem dX9_load_50 : decode cX9_load 50 = .ok (.aload_n 1, 1) := by decide +kernel
theorem dX9_load_51 : decode cX9_load 51 = .ok (.getfield 37, 3) := by decide +kernel
theorem dX9_load_54 : decode cX9_load 54 = .ok (.iload_n 3, 1) := by decide +kernel
theorem dX9_load_55 : decode cX9_load 55 = .ok (.iaload, 1) := by decide +kernel
theorem dX9_load_56 : decode cX9_load 56 = .ok (.iload_n 2, 1) := by decide +kernel
theorem dX9_load_57 : decode cX9_load 57 = .ok (.aload_n 1, 1) := by decide +kernel
theorem dX9_load_58 : decode cX9_load 58 = .ok (.getfield 40, 3) := by decide +kernel
theorem dX9_load_61 : decode cX9_load 61 = .ok (.iload_n 3, 1) := by decide +kernel
theorem dX9_load_62 : decode cX9_load 62 = .ok (.iaload, 1) := by decide +kernel
theorem dX9_load_63 : decode cX9_load 63 = .ok (.imul, 1) := by decide +kernel
theorem dX9_load_64 : decode cX9_load 64 = .ok (.isub, 1) := by decide +kernel
theorem dX9_load_65 : decode cX9_load 65 = .ok (.invokestatic 43, 3) := by decide +kernel
theorem dX9_load_68 : decode cX9_load 68 = .ok (.iastore, 1) := by decide +kernel
theorem dX9_load_69 : decode cX9_load 69 = .ok (.iinc 3 1, 3) := by decide +kernel
theorem dX9_load_72 : decode cX9_load 72 = .ok (.goto (-61), 3) := by decide +kernel
theorem dX9_load_75 : decode cX9_load 75 = .ok (.return_, 1) := by decide +kernel
theorem dX9_join_0 : decode cX9_join 0 = .ok (.aload_n 0, 1) := by decide +kernel
theorem dX9_join_1 : decode cX9_join 1 = .ok (.getfield 9, 3) := by decide +kernel
theorem dX9_join_4 : decode cX9_join 4 = .ok (.iconst 0, 1) := by decide +kernel
theorem dX9_join_5 : decode cX9_join 5 = .ok (.aload_n 0, 1) := by decide +kernel
theorem dX9_join_6 : decode cX9_join 6 = .ok (.getfield 15, 3) := by decide +kernel
theorem dX9_join_9 : decode cX9_join 9 = .ok (.iconst 0, 1) := by decide +kernel
theorem dX9_join_10 : decode cX9_join 10 = .ok (.aload_n 0, 1) := by decide +kernel
theorem dX9_join_11 : decode cX9_join 11 = .ok (.getfield 15, 3) := by decide +kernel
theorem dX9_join_14 : decode cX9_join 14 = .ok (.arraylength, 1) := by decide +kernel
theorem dX9_join_15 : decode cX9_join 15 = .ok (.invokestatic 49, 3) := by decide +kernel
theorem dX9_join_18 : decode cX9_join 18 = .ok (.iconst 0, 1) := by decide +kernel
theorem dX9_join_19 : decode cX9_join 19 = .ok (.istore_n 2, 1) := by decide +kernel
theorem dX9_join_20 : decode cX9_join 20 = .ok (.iload_n 2, 1) := by decide +kernel
theorem dX9_join_21 : decode cX9_join 21 = .ok (.iload_n 1, 1) := by decide +kernel
theorem dX9_join_22 : decode cX9_join 22 = .ok (.if_icmp .ge 20, 3) := by decide +kernel
theorem dX9_join_25 : decode cX9_join 25 = .ok (.aload_n 0, 1) := by decide +kernel
theorem dX9_join_26 : decode cX9_join 26 = .ok (.iload_n 2, 1) := by decide +kernel
theorem dX9_join_27 : decode cX9_join 27 = .ok (.iload_n 1, 1) := by decide +kernel
theorem dX9_join_28 : decode cX9_join 28 = .ok (.invokevirtual 55, 3) := by decide +kernel
theorem dX9_join_31 : decode cX9_join 31 = .ok (.ifCond .ne 5, 3) := by decide +kernel
theorem dX9_join_34 : decode cX9_join 34 = .ok (.iconst 0, 1) := by decide +kernel
theorem dX9_join_35 : decode cX9_join 35 = .ok (.ireturn, 1) := by decide +kernel
theorem dX9_join_36 : decode cX9_join 36 = .ok (.iinc 2 1, 3) := by decide +kernel
theorem dX9_join_39 : decode cX9_join 39 = .ok (.goto (-19), 3) := by decide +kernel
theorem dX9_join_42 : decode cX9_join 42 = .ok (.iconst 1, 1) := by decide +kernel
theorem dX9_join_43 : decode cX9_join 43 = .ok (.ireturn, 1) := by decide +kernel
theorem dX9_joinBy_0 : decode cX9_joinBy 0 = .ok (.iconst 0, 1) := by decide +kernel
theorem dX9_joinBy_1 : decode cX9_joinBy 1 = .ok (.istore_n 3, 1) := by decide +kernel
theorem dX9_joinBy_2 : decode cX9_joinBy 2 = .ok (.iload_n 3, 1) := by decide +kernel
theorem dX9_joinBy_3 : decode cX9_joinBy 3 = .ok (.iload_n 2, 1) := by decide +kernel
theorem dX9_joinBy_4 : decode cX9_joinBy 4 = .ok (.if_icmp .ge 54, 3) := by decide +kernel
theorem dX9_joinBy_7 : decode cX9_joinBy 7 = .ok (.aload_n 0, 1) := by decide +kernel
theorem dX9_joinBy_8 : decode cX9_joinBy 8 = .ok (.getfield 15, 3) := by decide +kernel
theorem dX9_joinBy_11 : decode cX9_joinBy 11 = .ok (.iload_n 3, 1) := by decide +kernel
theorem dX9_joinBy_12 : decode cX9_joinBy 12 = .ok (.bipush 16, 2) := by decide +kernel
theorem dX9_joinBy_14 : decode cX9_joinBy 14 = .ok (.imul, 1) := by decide +kernel
theorem dX9_joinBy_15 : decode cX9_joinBy 15 = .ok (.iload_n 1, 1) := by decide +kernel
theorem dX9_joinBy_16 : decode cX9_joinBy 16 = .ok (.iadd, 1) := by decide +kernel
theorem dX9_joinBy_17 : decode cX9_joinBy 17 = .ok (.iaload, 1) := by decide +kernel
theorem dX9_joinBy_18 : decode cX9_joinBy 18 = .ok (.istore 4, 2) := by decide +kernel
theorem dX9_joinBy_20 : decode cX9_joinBy 20 = .ok (.iload 4, 2) := by decide +kernel
theorem dX9_joinBy_22 : decode cX9_joinBy 22 = .ok (.ldc 18, 2) := by decide +kernel
theorem dX9_joinBy_24 : decode cX9_joinBy 24 = .ok (.if_icmp .eq 12, 3) := by decide +kernel
theorem dX9_joinBy_27 : decode cX9_joinBy 27 = .ok (.aload_n 0, 1) := by decide +kernel
theorem dX9_joinBy_28 : decode cX9_joinBy 28 = .ok (.iload_n 3, 1) := by decide +kernel
theorem dX9_joinBy_29 : decode cX9_joinBy 29 = .ok (.iload 4, 2) := by decide +kernel
theorem dX9_joinBy_31 : decode cX9_joinBy 31 = .ok (.iload_n 1, 1) := by decide +kernel
theorem dX9_joinBy_32 : decode cX9_joinBy 32 = .ok (.iload_n 2, 1) := by decide +kernel
theorem dX9_joinBy_33 : decode cX9_joinBy 33 = .ok (.invokevirtual 59, 3) := by decide +kernel
theorem dX9_joinBy_36 : decode cX9_joinBy 36 = .ok (.aload_n 0, 1) := by decide +kernel
theorem dX9_joinBy_37 : decode cX9_joinBy 37 = .ok (.getfield 15, 3) := by decide +kernel
theorem dX9_joinBy_40 : decode cX9_joinBy 40 = .ok (.iload_n 3, 1) := by decide +kernel
theorem dX9_joinBy_41 : decode cX9_joinBy 41 = .ok (.bipush 16, 2) := by decide +kernel
theorem dX9_joinBy_43 : decode cX9_joinBy 43 = .ok (.imul, 1) := by decide +kernel
theorem dX9_joinBy_44 : decode cX9_joinBy 44 = .ok (.iload_n 3, 1) := by decide +kernel
theorem dX9_joinBy_45 : decode cX9_joinBy 45 = .ok (.iadd, 1) := by decide +kernel
theorem dX9_joinBy_46 : decode cX9_joinBy 46 = .ok (.iaload, 1) := by decide +kernel
theorem dX9_joinBy_47 : decode cX9_joinBy 47 = .ok (.ifCond .le 5, 3) := by decide +kernel
theorem dX9_joinBy_50 : decode cX9_joinBy 50 = .ok (.iconst 0, 1) := by decide +kernel
theorem dX9_joinBy_51 : decode cX9_joinBy 51 = .ok (.ireturn, 1) := by decide +kernel
theorem dX9_joinBy_52 : decode cX9_joinBy 52 = .ok (.iinc 3 1, 3) := by decide +kernel
theorem dX9_joinBy_55 : decode cX9_joinBy 55 = .ok (.goto (-53), 3) := by decide +kernel
theorem dX9_joinBy_58 : decode cX9_joinBy 58 = .ok (.iconst 1, 1) := by decide +kernel
theorem dX9_joinBy_59 : decode cX9_joinBy 59 = .ok (.ireturn, 1) := by decide +kernel
theorem dX9_joinRow_0 : decode cX9_joinRow 0 = .ok (.iconst 0, 1) := by decide +kernel
theorem dX9_joinRow_1 : decode cX9_joinRow 1 = .ok (.istore 5, 2) := by decide +kernel
theorem dX9_joinRow_3 : decode cX9_joinRow 3 = .ok (.iload 5, 2) := by decide +kernel
theorem dX9_joinRow_5 : decode cX9_joinRow 5 = .ok (.iload 4, 2) := by decide +kernel
theorem dX9_joinRow_7 : decode cX9_joinRow 7 = .ok (.if_icmp .ge 60, 3) := by decide +kernel
theorem dX9_joinRow_10 : decode cX9_joinRow 10 = .ok (.aload_n 0, 1) := by decide +kernel
theorem dX9_joinRow_11 : decode cX9_joinRow 11 = .ok (.getfield 15, 3) := by decide +kernel
theorem dX9_joinRow_14 : decode cX9_joinRow 14 = .ok (.iload_n 3, 1) := by decide +kernel
theorem dX9_joinRow_15 : decode cX9_joinRow 15 = .ok (.bipush 16, 2) := by decide +kernel
theorem dX9_joinRow_17 : decode cX9_joinRow 17 = .ok (.imul, 1) := by decide +kernel
theorem dX9_joinRow_18 : decode cX9_joinRow 18 = .ok (.iload 5, 2) := by decide +kernel
theorem dX9_joinRow_20 : decode cX9_joinRow 20 = .ok (.iadd, 1) := by decide +kernel
theorem dX9_joinRow_21 : decode cX9_joinRow 21 = .ok (.iaload, 1) := by decide +kernel
theorem dX9_joinRow_22 : decode cX9_joinRow 22 = .ok (.istore 6, 2) := by decide +kernel
theorem dX9_joinRow_24 : decode cX9_joinRow 24 = .ok (.iload 6, 2) := by decide +kernel
theorem dX9_joinRow_26 : decode cX9_joinRow 26 = .ok (.ldc 18, 2) := by decide +kernel
theorem dX9_joinRow_28 : decode cX9_joinRow 28 = .ok (.if_icmp .eq 33, 3) := by decide +kernel
theorem dX9_joinRow_31 : decode cX9_joinRow 31 = .ok (.iload_n 1, 1) := by decide +kernel
theorem dX9_joinRow_32 : decode cX9_joinRow 32 = .ok (.bipush 16, 2) := by decide +kernel
theorem dX9_joinRow_34 : decode cX9_joinRow 34 = .ok (.imul, 1) := by decide +kernel
theorem dX9_joinRow_35 : decode cX9_joinRow 35 = .ok (.iload 5, 2) := by decide +kernel
theorem dX9_joinRow_37 : decode cX9_joinRow 37 = .ok (.iadd, 1) := by decide +kernel
theorem dX9_joinRow_38 : decode cX9_joinRow 38 = .ok (.istore 7, 2) := by decide +kernel
theorem dX9_joinRow_40 : decode cX9_joinRow 40 = .ok (.aload_n 0, 1) := by decide +kernel
theorem dX9_joinRow_41 : decode cX9_joinRow 41 = .ok (.getfield 15, 3) := by decide +kernel
theorem dX9_joinRow_44 : decode cX9_joinRow 44 = .ok (.iload 7, 2) := by decide +kernel
theorem dX9_joinRow_46 : decode cX9_joinRow 46 = .ok (.aload_n 0, 1) := by decide +kernel
theorem dX9_joinRow_47 : decode cX9_joinRow 47 = .ok (.getfield 15, 3) := by decide +kernel
theorem dX9_joinRow_50 : decode cX9_joinRow 50 = .ok (.iload 7, 2) := by decide +kernel
theorem dX9_joinRow_52 : decode cX9_joinRow 52 = .ok (.iaload, 1) := by decide +kernel
theorem dX9_joinRow_53 : decode cX9_joinRow 53 = .ok (.iload_n 2, 1) := by decide +kernel
theorem dX9_joinRow_54 : decode cX9_joinRow 54 = .ok (.iload 6, 2) := by decide +kernel
theorem dX9_joinRow_56 : decode cX9_joinRow 56 = .ok (.iadd, 1) := by decide +kernel
theorem dX9_joinRow_57 : decode cX9_joinRow 57 = .ok (.invokestatic 43, 3) := by decide +kernel
theorem dX9_joinRow_60 : decode cX9_joinRow 60 = .ok (.iastore, 1) := by decide +kernel
theorem dX9_joinRow_61 : decode cX9_joinRow 61 = .ok (.iinc 5 1, 3) := by decide +kernel
theorem dX9_joinRow_64 : decode cX9_joinRow 64 = .ok (.goto (-61), 3) := by decide +kernel
theorem dX9_joinRow_67 : decode cX9_joinRow 67 = .ok (.return_, 1) := by decide +kernel
theorem dX9_earliest_0 : decode cX9_earliest 0 = .ok (.iconst 0, 1) := by decide +kernel
theorem dX9_earliest_1 : decode cX9_earliest 1 = .ok (.istore_n 3, 1) := by decide +kernel
theorem dX9_earliest_2 : decode cX9_earliest 2 = .ok (.iconst 0, 1) := by decide +kernel
theorem dX9_earliest_3 : decode cX9_earliest 3 = .ok (.istore 4, 2) := by decide +kernel
theorem dX9_earliest_5 : decode cX9_earliest 5 = .ok (.iload 4, 2) := by decide +kernel
theorem dX9_earliest_7 : decode cX9_earliest 7 = .ok (.iload_n 2, 1) := by decide +kernel
theorem dX9_earliest_8 : decode cX9_earliest 8 = .ok (.if_icmp .ge 26, 3) := by decide +kernel
theorem dX9_earliest_11 : decode cX9_earliest 11 = .ok (.iload_n 3, 1) := by decide +kernel
theorem dX9_earliest_12 : decode cX9_earliest 12 = .ok (.aload_n 0, 1) := by decide +kernel
theorem dX9_earliest_13 : decode cX9_earliest 13 = .ok (.getfield 15, 3) := by decide +kernel
theorem dX9_earliest_16 : decode cX9_earliest 16 = .ok (.iload 4, 2) := by decide +kernel
theorem dX9_earliest_18 : decode cX9_earliest 18 = .ok (.bipush 16, 2) := by decide +kernel
theorem dX9_earliest_20 : decode cX9_earliest 20 = .ok (.imul, 1) := by decide +kernel
theorem dX9_earliest_21 : decode cX9_earliest 21 = .ok (.iload_n 1, 1) := by decide +kernel
theorem dX9_earliest_22 : decode cX9_earliest 22 = .ok (.iadd, 1) := by decide +kernel
theorem dX9_earliest_23 : decode cX9_earliest 23 = .ok (.iaload, 1) := by decide +kernel
theorem dX9_earliest_24 : decode cX9_earliest 24 = .ok (.invokestatic 43, 3) := by decide +kernel
theorem dX9_earliest_27 : decode cX9_earliest 27 = .ok (.istore_n 3, 1) := by decide +kernel
theorem dX9_earliest_28 : decode cX9_earliest 28 = .ok (.iinc 4 1, 3) := by decide +kernel
theorem dX9_earliest_31 : decode cX9_earliest 31 = .ok (.goto (-26), 3) := by decide +kernel
theorem dX9_earliest_34 : decode cX9_earliest 34 = .ok (.iload_n 3, 1) := by decide +kernel
theorem dX9_earliest_35 : decode cX9_earliest 35 = .ok (.ireturn, 1) := by decide +kernel
theorem dX9_farthest_0 : decode cX9_farthest 0 = .ok (.iconst 0, 1) := by decide +kernel
theorem dX9_farthest_1 : decode cX9_farthest 1 = .ok (.istore_n 3, 1) := by decide +kernel
theorem dX9_farthest_2 : decode cX9_farthest 2 = .ok (.iconst 0, 1) := by decide +kernel
theorem dX9_farthest_3 : decode cX9_farthest 3 = .ok (.istore 4, 2) := by decide +kernel
theorem dX9_farthest_5 : decode cX9_farthest 5 = .ok (.iload 4, 2) := by decide +kernel
theorem dX9_farthest_7 : decode cX9_farthest 7 = .ok (.iload_n 2, 1) := by decide +kernel
theorem dX9_farthest_8 : decode cX9_farthest 8 = .ok (.if_icmp .ge 26, 3) := by decide +kernel
theorem dX9_farthest_11 : decode cX9_farthest 11 = .ok (.iload_n 3, 1) := by decide +kernel
theorem dX9_farthest_12 : decode cX9_farthest 12 = .ok (.aload_n 0, 1) := by decide +kernel
theorem dX9_farthest_13 : decode cX9_farthest 13 = .ok (.getfield 15, 3) := by decide +kernel
theorem dX9_farthest_16 : decode cX9_farthest 16 = .ok (.iload_n 1, 1) := by decide +kernel
theorem dX9_farthest_17 : decode cX9_farthest 17 = .ok (.bipush 16, 2) := by decide +kernel
theorem dX9_farthest_19 : decode cX9_farthest 19 = .ok (.imul, 1) := by decide +kernel
theorem dX9_farthest_20 : decode cX9_farthest 20 = .ok (.iload 4, 2) := by decide +kernel
theorem dX9_farthest_22 : decode cX9_farthest 22 = .ok (.iadd, 1) := by decide +kernel
theorem dX9_farthest_23 : decode cX9_farthest 23 = .ok (.iaload, 1) := by decide +kernel
theorem dX9_farthest_24 : decode cX9_farthest 24 = .ok (.invokestatic 43, 3) := by decide +kernel
theorem dX9_farthest_27 : decode cX9_farthest 27 = .ok (.istore_n 3, 1) := by decide +kernel
theorem dX9_farthest_28 : decode cX9_farthest 28 = .ok (.iinc 4 1, 3) := by decide +kernel
theorem dX9_farthest_31 : decode cX9_farthest 31 = .ok (.goto (-26), 3) := by decide +kernel
theorem dX9_farthest_34 : decode cX9_farthest 34 = .ok (.iload_n 3, 1) := by decide +kernel
theorem dX9_farthest_35 : decode cX9_farthest 35 = .ok (.ireturn, 1) := by decide +kernel
theorem dX10_init_0 : decode cX10_init 0 = .ok (.aload_n 0, 1) := by decide +kernel
theorem dX10_init_1 : decode cX10_init 1 = .ok (.invokespecial 3, 3) := by decide +kernel
theorem dX10_init_4 : decode cX10_init 4 = .ok (.aload_n 0, 1) := by decide +kernel
theorem dX10_init_5 : decode cX10_init 5 = .ok (.new 9, 3) := by decide +kernel
theorem dX10_init_8 : decode cX10_init 8 = .ok (.dup, 1) := by decide +kernel
theorem dX10_init_9 : decode cX10_init 9 = .ok (.sipush 720, 3) := by decide +kernel
theorem dX10_init_12 : decode cX10_init 12 = .ok (.invokespecial 11, 3) := by decide +kernel
theorem dX10_init_15 : decode cX10_init 15 = .ok (.putfield 14, 3) := by decide +kernel
theorem dX10_init_18 : decode cX10_init 18 = .ok (.aload_n 0, 1) := by decide +kernel
theorem dX10_init_19 : decode cX10_init 19 = .ok (.iconst 0, 1) := by decide +kernel
theorem dX10_init_20 : decode cX10_init 20 = .ok (.putfield 20, 3) := by decide +kernel
theorem dX10_init_23 : decode cX10_init 23 = .ok (.aload_n 0, 1) := by decide +kernel
theorem dX10_init_24 : decode cX10_init 24 = .ok (.iconst 1, 1) := by decide +kernel
theorem dX10_init_25 : decode cX10_init 25 = .ok (.putfield 24, 3) := by decide +kernel
theorem dX10_init_28 : decode cX10_init 28 = .ok (.return_, 1) := by decide +kernel
theorem dX10_renew_0 : decode cX10_renew 0 = .ok (.aload_n 0, 1) := by decide +kernel
theorem dX10_renew_1 : decode cX10_renew 1 = .ok (.getfield 24, 3) := by decide +kernel
theorem dX10_renew_4 : decode cX10_renew 4 = .ok (.ifCond .ne 4, 3) := by decide +kernel
theorem dX10_renew_7 : decode cX10_renew 7 = .ok (.return_, 1) := by decide +kernel
theorem dX10_renew_8 : decode cX10_renew 8 = .ok (.aload_n 0, 1) := by decide +kernel
theorem dX10_renew_9 : decode cX10_renew 9 = .ok (.getfield 14, 3) := by decide +kernel
theorem dX10_renew_12 : decode cX10_renew 12 = .ok (.iconst 0, 1) := by decide +kernel
theorem dX10_renew_13 : decode cX10_renew 13 = .ok (.putfield 28, 3) := by decide +kernel
theorem dX10_renew_16 : decode cX10_renew 16 = .ok (.iconst 0, 1) := by decide +kernel
theorem dX10_renew_17 : decode cX10_renew 17 = .ok (.istore_n 2, 1) := by decide +kernel
theorem dX10_renew_18 : decode cX10_renew 18 = .ok (.iload_n 2, 1) := by decide +kernel
theorem dX10_renew_19 : decode cX10_renew 19 = .ok (.aload_n 1, 1) := by decide +kernel
theorem dX10_renew_20 : decode cX10_renew 20 = .ok (.getfield 31, 3) := by decide +kernel
theorem dX10_renew_23 : decode cX10_renew 23 = .ok (.if_icmp .ge 37, 3) := by decide +kernel
theorem dX10_renew_26 : decode cX10_renew 26 = .ok (.aload_n 0, 1) := by decide +kernel
theorem dX10_renew_27 : decode cX10_renew 27 = .ok (.aload_n 1, 1) := by decide +kernel
theorem dX10_renew_28 : decode cX10_renew 28 = .ok (.iload_n 2, 1) := by decide +kernel
theorem dX10_renew_29 : decode cX10_renew 29 = .ok (.invokevirtual 36, 3) := by decide +kernel
theorem dX10_renew_32 : decode cX10_renew 32 = .ok (.aload_n 0, 1) := by decide +kernel
theorem dX10_renew_33 : decode cX10_renew 33 = .ok (.aload_n 1, 1) := by decide +kernel
theorem dX10_renew_34 : decode cX10_renew 34 = .ok (.iload_n 2, 1) := by decide +kernel
theorem dX10_renew_35 : decode cX10_renew 35 = .ok (.invokevirtual 40, 3) := by decide +kernel
theorem dX10_renew_38 : decode cX10_renew 38 = .ok (.aload_n 1, 1) := by decide +kernel
theorem dX10_renew_39 : decode cX10_renew 39 = .ok (.getfield 43, 3) := by decide +kernel
theorem dX10_renew_42 : decode cX10_renew 42 = .ok (.iload_n 2, 1) := by decide +kernel
theorem dX10_renew_43 : decode cX10_renew 43 = .ok (.iaload, 1) := by decide +kernel
theorem dX10_renew_44 : decode cX10_renew 44 = .ok (.iconst 5, 1) := by decide +kernel
theorem dX10_renew_45 : decode cX10_renew 45 = .ok (.if_icmp .ne 9, 3) := by decide +kernel
theorem dX10_renew_48 : decode cX10_renew 48 = .ok (.aload_n 0, 1) := by decide +kernel
theorem dX10_renew_49 : decode cX10_renew 49 = .ok (.aload_n 1, 1) := by decide +kernel
theorem dX10_renew_50 : decode cX10_renew 50 = .ok (.iload_n 2, 1) := by decide +kernel
theorem dX10_renew_51 : decode cX10_renew 51 = .ok (.invokevirtual 47, 3) := by decide +kernel
theorem dX10_renew_54 : decode cX10_renew 54 = .ok (.iinc 2 1, 3) := by decide +kernel
theorem dX10_renew_57 : decode cX10_renew 57 = .ok (.goto (-39), 3) := by decide +kernel
theorem dX10_renew_60 : decode cX10_renew 60 = .ok (.aload_n 0, 1) := by decide +kernel
theorem dX10_renew_61 : decode cX10_renew 61 = .ok (.aload_n 0, 1) := by decide +kernel
theorem dX10_renew_62 : decode cX10_renew 62 = .ok (.getfield 14, 3) := by decide +kernel
theorem dX10_renew_65 : decode cX10_renew 65 = .ok (.getfield 28, 3) := by decide +kernel
theorem dX10_renew_68 : decode cX10_renew 68 = .ok (.putfield 20, 3) := by decide +kernel
theorem dX10_renew_71 : decode cX10_renew 71 = .ok (.aload_n 0, 1) := by decide +kernel
theorem dX10_renew_72 : decode cX10_renew 72 = .ok (.getfield 14, 3) := by decide +kernel
theorem dX10_renew_75 : decode cX10_renew 75 = .ok (.aload_n 1, 1) := by decide +kernel
theorem dX10_renew_76 : decode cX10_renew 76 = .ok (.getfield 50, 3) := by decide +kernel
theorem dX10_renew_79 : decode cX10_renew 79 = .ok (.invokevirtual 53, 3) := by decide +kernel
theorem dX10_renew_82 : decode cX10_renew 82 = .ok (.aload_n 0, 1) := by decide +kernel
theorem dX10_renew_83 : decode cX10_renew 83 = .ok (.iconst 0, 1) := by decide +kernel
theorem dX10_renew_84 : decode cX10_renew 84 = .ok (.putfield 24, 3) := by decide +kernel
theorem dX10_renew_87 : decode cX10_renew 87 = .ok (.return_, 1) := by decide +kernel
theorem dX10_joinOperands_0 : decode cX10_joinOperands 0 = .ok (.iconst 0, 1) := by decide +kernel
theorem dX10_joinOperands_1 : decode cX10_joinOperands 1 = .ok (.istore_n 3, 1) := by decide +kernel
theorem dX10_joinOperands_2 : decode cX10_joinOperands 2 = .ok (.iload_n 3, 1) := by decide +kernel
theorem dX10_joinOperands_3 : decode cX10_joinOperands 3 = .ok (.iconst 3, 1) := by decide +kernel
theorem dX10_joinOperands_4 : decode cX10_joinOperands 4 = .ok (.if_icmp .ge 58, 3) := by decide +kernel
theorem dX10_joinOperands_7 : decode cX10_joinOperands 7 = .ok (.aload_n 1, 1) := by decide +kernel
theorem dX10_joinOperands_8 : decode cX10_joinOperands 8 = .ok (.getfield 57, 3) := by decide +kernel
theorem dX10_joinOperands_11 : decode cX10_joinOperands 11 = .ok (.iload_n 2, 1) := by decide +kernel
theorem dX10_joinOperands_12 : decode cX10_joinOperands 12 = .ok (.iconst 3, 1) := by decide +kernel
theorem dX10_joinOperands_13 : decode cX10_joinOperands 13 = .ok (.imul, 1) := by decide +kernel
theorem dX10_joinOperands_14 : decode cX10_joinOperands 14 = .ok (.iload_n 3, 1) := by decide +kernel
theorem dX10_joinOperands_15 : decode cX10_joinOperands 15 = .ok (.iadd, 1) := by decide +kernel
theorem dX10_joinOperands_16 : decode cX10_joinOperands 16 = .ok (.iaload, 1) := by decide +kernel
theorem dX10_joinOperands_17 : decode cX10_joinOperands 17 = .ok (.istore 4, 2) := by decide +kernel
theorem dX10_joinOperands_19 : decode cX10_joinOperands 19 = .ok (.aload_n 1, 1) := by decide +kernel
theorem dX10_joinOperands_20 : decode cX10_joinOperands 20 = .ok (.iload 4, 2) := by decide +kernel
theorem dX10_joinOperands_22 : decode cX10_joinOperands 22 = .ok (.invokevirtual 60, 3) := by decide +kernel
theorem dX10_joinOperands_25 : decode cX10_joinOperands 25 = .ok (.ifCond .eq 31, 3) := by decide +kernel
theorem dX10_joinOperands_28 : decode cX10_joinOperands 28 = .ok (.aload_n 0, 1) := by decide +kernel
theorem dX10_joinOperands_29 : decode cX10_joinOperands 29 = .ok (.getfield 14, 3) := by decide +kernel
theorem dX10_joinOperands_32 : decode cX10_joinOperands 32 = .ok (.iload 4, 2) := by decide +kernel
theorem dX10_joinOperands_34 : decode cX10_joinOperands 34 = .ok (.iload_n 2, 1) := by decide +kernel
theorem dX10_joinOperands_35 : decode cX10_joinOperands 35 = .ok (.aload_n 1, 1) := by decide +kernel
theorem dX10_joinOperands_36 : decode cX10_joinOperands 36 = .ok (.getfield 64, 3) := by decide +kernel
theorem dX10_joinOperands_39 : decode cX10_joinOperands 39 = .ok (.iload 4, 2) := by decide +kernel
theorem dX10_joinOperands_41 : decode cX10_joinOperands 41 = .ok (.iaload, 1) := by decide +kernel
theorem dX10_joinOperands_42 : decode cX10_joinOperands 42 = .ok (.aload_n 1, 1) := by decide +kernel
theorem dX10_joinOperands_43 : decode cX10_joinOperands 43 = .ok (.getfield 67, 3) := by decide +kernel
theorem dX10_joinOperands_46 : decode cX10_joinOperands 46 = .ok (.iload_n 2, 1) := by decide +kernel
theorem dX10_joinOperands_47 : decode cX10_joinOperands 47 = .ok (.iconst 3, 1) := by decide +kernel
theorem dX10_joinOperands_48 : decode cX10_joinOperands 48 = .ok (.imul, 1) := by decide +kernel
theorem dX10_joinOperands_49 : decode cX10_joinOperands 49 = .ok (.iload_n 3, 1) := by decide +kernel
theorem dX10_joinOperands_50 : decode cX10_joinOperands 50 = .ok (.iadd, 1) := by decide +kernel
theorem dX10_joinOperands_51 : decode cX10_joinOperands 51 = .ok (.iaload, 1) := by decide +kernel
theorem dX10_joinOperands_52 : decode cX10_joinOperands 52 = .ok (.invokevirtual 70, 3) := by decide +kernel
theorem dX10_joinOperands_55 : decode cX10_joinOperands 55 = .ok (.pop, 1) := by decide +kernel
theorem dX10_joinOperands_56 : decode cX10_joinOperands 56 = .ok (.iinc 3 1, 3) := by decide +kernel
theorem dX10_joinOperands_59 : decode cX10_joinOperands 59 = .ok (.goto (-57), 3) := by decide +kernel
theorem dX10_joinOperands_62 : decode cX10_joinOperands 62 = .ok (.return_, 1) := by decide +kernel
theorem dX10_joinClashes_0 : decode cX10_joinClashes 0 = .ok (.iconst 0, 1) := by decide +kernel
theorem dX10_joinClashes_1 : decode cX10_joinClashes 1 = .ok (.istore_n 3, 1) := by decide +kernel
theorem dX10_joinClashes_2 : decode cX10_joinClashes 2 = .ok (.iload_n 3, 1) := by decide +kernel
theorem dX10_joinClashes_3 : decode cX10_joinClashes 3 = .ok (.iload_n 2, 1) := by decide +kernel
theorem dX10_joinClashes_4 : decode cX10_joinClashes 4 = .ok (.if_icmp .ge 42, 3) := by decide +kernel
theorem dX10_joinClashes_7 : decode cX10_joinClashes 7 = .ok (.aload_n 1, 1) := by decide +kernel
theorem dX10_joinClashes_8 : decode cX10_joinClashes 8 = .ok (.iload_n 3, 1) := by decide +kernel
theorem dX10_joinClashes_9 : decode cX10_joinClashes 9 = .ok (.iload_n 2, 1) := by decide +kernel
theorem dX10_joinClashes_10 : decode cX10_joinClashes 10 = .ok (.invokevirtual 74, 3) := by decide +kernel
theorem dX10_joinClashes_13 : decode cX10_joinClashes 13 = .ok (.ifCond .eq 27, 3) := by decide +kernel
theorem dX10_joinClashes_16 : decode cX10_joinClashes 16 = .ok (.aload_n 0, 1) := by decide +kernel
theorem dX10_joinClashes_17 : decode cX10_joinClashes 17 = .ok (.getfield 14, 3) := by decide +kernel
theorem dX10_joinClashes_20 : decode cX10_joinClashes 20 = .ok (.iload_n 3, 1) := by decide +kernel
theorem dX10_joinClashes_21 : decode cX10_joinClashes 21 = .ok (.iload_n 2, 1) := by decide +kernel
theorem dX10_joinClashes_22 : decode cX10_joinClashes 22 = .ok (.iconst 1, 1) := by decide +kernel
theorem dX10_joinClashes_23 : decode cX10_joinClashes 23 = .ok (.iconst 0, 1) := by decide +kernel
theorem dX10_joinClashes_24 : decode cX10_joinClashes 24 = .ok (.invokevirtual 70, 3) := by decide +kernel
theorem dX10_joinClashes_27 : decode cX10_joinClashes 27 = .ok (.pop, 1) := by decide +kernel
theorem dX10_joinClashes_28 : decode cX10_joinClashes 28 = .ok (.aload_n 0, 1) := by decide +kernel
theorem dX10_joinClashes_29 : decode cX10_joinClashes 29 = .ok (.getfield 14, 3) := by decide +kernel
theorem dX10_joinClashes_32 : decode cX10_joinClashes 32 = .ok (.iload_n 2, 1) := by decide +kernel
theorem dX10_joinClashes_33 : decode cX10_joinClashes 33 = .ok (.iload_n 3, 1) := by decide +kernel
theorem dX10_joinClashes_34 : decode cX10_joinClashes 34 = .ok (.iconst 1, 1) := by decide +kernel
theorem dX10_joinClashes_35 : decode cX10_joinClashes 35 = .ok (.iconst 1, 1) := by decide +kernel
theorem dX10_joinClashes_36 : decode cX10_joinClashes 36 = .ok (.invokevirtual 70, 3) := by decide +kernel
theorem dX10_joinClashes_39 : decode cX10_joinClashes 39 = .ok (.pop, 1) := by decide +kernel
theorem dX10_joinClashes_40 : decode cX10_joinClashes 40 = .ok (.iinc 3 1, 3) := by decide +kernel
theorem dX10_joinClashes_43 : decode cX10_joinClashes 43 = .ok (.goto (-41), 3) := by decide +kernel
theorem dX10_joinClashes_46 : decode cX10_joinClashes 46 = .ok (.return_, 1) := by decide +kernel
theorem dX10_joinStore_0 : decode cX10_joinStore 0 = .ok (.aload_n 0, 1) := by decide +kernel
theorem dX10_joinStore_1 : decode cX10_joinStore 1 = .ok (.getfield 14, 3) := by decide +kernel
theorem dX10_joinStore_4 : decode cX10_joinStore 4 = .ok (.iload_n 2, 1) := by decide +kernel
theorem dX10_joinStore_5 : decode cX10_joinStore 5 = .ok (.iload_n 2, 1) := by decide +kernel
theorem dX10_joinStore_6 : decode cX10_joinStore 6 = .ok (.iconst 1, 1) := by decide +kernel
theorem dX10_joinStore_7 : decode cX10_joinStore 7 = .ok (.iconst 1, 1) := by decide +kernel
theorem dX10_joinStore_8 : decode cX10_joinStore 8 = .ok (.invokevirtual 70, 3) := by decide +kernel
theorem dX10_joinStore_11 : decode cX10_joinStore 11 = .ok (.pop, 1) := by decide +kernel
theorem dX10_joinStore_12 : decode cX10_joinStore 12 = .ok (.iconst 0, 1) := by decide +kernel
theorem dX10_joinStore_13 : decode cX10_joinStore 13 = .ok (.istore_n 3, 1) := by decide +kernel
theorem dX10_joinStore_14 : decode cX10_joinStore 14 = .ok (.iload_n 3, 1) := by decide +kernel
theorem dX10_joinStore_15 : decode cX10_joinStore 15 = .ok (.aload_n 1, 1) := by decide +kernel
theorem dX10_joinStore_16 : decode cX10_joinStore 16 = .ok (.getfield 31, 3) := by decide +kernel
theorem dX10_joinStore_19 : decode cX10_joinStore 19 = .ok (.if_icmp .ge 51, 3) := by decide +kernel
theorem dX10_joinStore_22 : decode cX10_joinStore 22 = .ok (.iload_n 3, 1) := by decide +kernel
theorem dX10_joinStore_23 : decode cX10_joinStore 23 = .ok (.iload_n 2, 1) := by decide +kernel
theorem dX10_joinStore_24 : decode cX10_joinStore 24 = .ok (.if_icmp .eq 40, 3) := by decide +kernel
theorem dX10_joinStore_27 : decode cX10_joinStore 27 = .ok (.aload_n 1, 1) := by decide +kernel
theorem dX10_joinStore_28 : decode cX10_joinStore 28 = .ok (.iload_n 3, 1) := by decide +kernel
theorem dX10_joinStore_29 : decode cX10_joinStore 29 = .ok (.invokevirtual 78, 3) := by decide +kernel
theorem dX10_joinStore_32 : decode cX10_joinStore 32 = .ok (.ifCond .eq 32, 3) := by decide +kernel
theorem dX10_joinStore_35 : decode cX10_joinStore 35 = .ok (.iload_n 3, 1) := by decide +kernel
theorem dX10_joinStore_36 : decode cX10_joinStore 36 = .ok (.iload_n 2, 1) := by decide +kernel
theorem dX10_joinStore_37 : decode cX10_joinStore 37 = .ok (.if_icmp .ge 15, 3) := by decide +kernel
theorem dX10_joinStore_40 : decode cX10_joinStore 40 = .ok (.aload_n 0, 1) := by decide +kernel
theorem dX10_joinStore_41 : decode cX10_joinStore 41 = .ok (.getfield 14, 3) := by decide +kernel
theorem dX10_joinStore_44 : decode cX10_joinStore 44 = .ok (.iload_n 3, 1) := by decide +kernel
theorem dX10_joinStore_45 : decode cX10_joinStore 45 = .ok (.iload_n 2, 1) := by decide +kernel
theorem dX10_joinStore_46 : decode cX10_joinStore 46 = .ok (.iconst 1, 1) := by decide +kernel
theorem dX10_joinStore_47 : decode cX10_joinStore 47 = .ok (.iconst 0, 1) := by decide +kernel
theorem dX10_joinStore_48 : decode cX10_joinStore 48 = .ok (.invokevirtual 70, 3) := by decide +kernel
theorem dX10_joinStore_51 : decode cX10_joinStore 51 = .ok (.pop, 1) := by decide +kernel
theorem dX10_joinStore_52 : decode cX10_joinStore 52 = .ok (.aload_n 0, 1) := by decide +kernel
theorem dX10_joinStore_53 : decode cX10_joinStore 53 = .ok (.getfield 14, 3) := by decide +kernel
theorem dX10_joinStore_56 : decode cX10_joinStore 56 = .ok (.iload_n 3, 1) := by decide +kernel
theorem dX10_joinStore_57 : decode cX10_joinStore 57 = .ok (.iload_n 2, 1) := by decide +kernel
theorem dX10_joinStore_58 : decode cX10_joinStore 58 = .ok (.iconst 1, 1) := by decide +kernel
theorem dX10_joinStore_59 : decode cX10_joinStore 59 = .ok (.iconst 1, 1) := by decide +kernel
theorem dX10_joinStore_60 : decode cX10_joinStore 60 = .ok (.invokevirtual 70, 3) := by decide +kernel
theorem dX10_joinStore_63 : decode cX10_joinStore 63 = .ok (.pop, 1) := by decide +kernel
theorem dX10_joinStore_64 : decode cX10_joinStore 64 = .ok (.iinc 3 1, 3) := by decide +kernel
theorem dX10_joinStore_67 : decode cX10_joinStore 67 = .ok (.goto (-53), 3) := by decide +kernel
theorem dX10_joinStore_70 : decode cX10_joinStore 70 = .ok (.return_, 1) := by decide +kernel
theorem dX11_init_0 : decode cX11_init 0 = .ok (.aload_n 0, 1) := by decide +kernel
theorem dX11_init_1 : decode cX11_init 1 = .ok (.invokespecial 1, 3) := by decide +kernel
theorem dX11_init_4 : decode cX11_init 4 = .ok (.aload_n 0, 1) := by decide +kernel
theorem dX11_init_5 : decode cX11_init 5 = .ok (.new 7, 3) := by decide +kernel
theorem dX11_init_8 : decode cX11_init 8 = .ok (.dup, 1) := by decide +kernel
theorem dX11_init_9 : decode cX11_init 9 = .ok (.invokespecial 9, 3) := by decide +kernel
theorem dX11_init_12 : decode cX11_init 12 = .ok (.putfield 10, 3) := by decide +kernel
theorem dX11_init_15 : decode cX11_init 15 = .ok (.aload_n 0, 1) := by decide +kernel
theorem dX11_init_16 : decode cX11_init 16 = .ok (.new 16, 3) := by decide +kernel
theorem dX11_init_19 : decode cX11_init 19 = .ok (.dup, 1) := by decide +kernel
theorem dX11_init_20 : decode cX11_init 20 = .ok (.invokespecial 18, 3) := by decide +kernel
theorem dX11_init_23 : decode cX11_init 23 = .ok (.putfield 19, 3) := by decide +kernel
theorem dX11_init_26 : decode cX11_init 26 = .ok (.aload_n 0, 1) := by decide +kernel
theorem dX11_init_27 : decode cX11_init 27 = .ok (.new 23, 3) := by decide +kernel
theorem dX11_init_30 : decode cX11_init 30 = .ok (.dup, 1) := by decide +kernel
theorem dX11_init_31 : decode cX11_init 31 = .ok (.invokespecial 25, 3) := by decide +kernel
theorem dX11_init_34 : decode cX11_init 34 = .ok (.putfield 26, 3) := by decide +kernel
theorem dX11_init_37 : decode cX11_init 37 = .ok (.aload_n 0, 1) := by decide +kernel
theorem dX11_init_38 : decode cX11_init 38 = .ok (.new 30, 3) := by decide +kernel
theorem dX11_init_41 : decode cX11_init 41 = .ok (.dup, 1) := by decide +kernel
theorem dX11_init_42 : decode cX11_init 42 = .ok (.invokespecial 32, 3) := by decide +kernel
theorem dX11_init_45 : decode cX11_init 45 = .ok (.putfield 33, 3) := by decide +kernel
theorem dX11_init_48 : decode cX11_init 48 = .ok (.aload_n 0, 1) := by decide +kernel
theorem dX11_init_49 : decode cX11_init 49 = .ok (.new 37, 3) := by decide +kernel
theorem dX11_init_52 : decode cX11_init 52 = .ok (.dup, 1) := by decide +kernel
theorem dX11_init_53 : decode cX11_init 53 = .ok (.aload_n 0, 1) := by decide +kernel
theorem dX11_init_54 : decode cX11_init 54 = .ok (.getfield 10, 3) := by decide +kernel
theorem dX11_init_57 : decode cX11_init 57 = .ok (.aload_n 0, 1) := by decide +kernel
theorem dX11_init_58 : decode cX11_init 58 = .ok (.getfield 33, 3) := by decide +kernel
theorem dX11_init_61 : decode cX11_init 61 = .ok (.invokespecial 39, 3) := by decide +kernel
theorem dX11_init_64 : decode cX11_init 64 = .ok (.putfield 42, 3) := by decide +kernel
theorem dX11_init_67 : decode cX11_init 67 = .ok (.aload_n 0, 1) := by decide +kernel
theorem dX11_init_68 : decode cX11_init 68 = .ok (.new 46, 3) := by decide +kernel
theorem dX11_init_71 : decode cX11_init 71 = .ok (.dup, 1) := by decide +kernel
theorem dX11_init_72 : decode cX11_init 72 = .ok (.invokespecial 48, 3) := by decide +kernel
theorem dX11_init_75 : decode cX11_init 75 = .ok (.putfield 49, 3) := by decide +kernel
theorem dX11_init_78 : decode cX11_init 78 = .ok (.aload_n 0, 1) := by decide +kernel
theorem dX11_init_79 : decode cX11_init 79 = .ok (.new 53, 3) := by decide +kernel
theorem dX11_init_82 : decode cX11_init 82 = .ok (.dup, 1) := by decide +kernel
theorem dX11_init_83 : decode cX11_init 83 = .ok (.invokespecial 55, 3) := by decide +kernel
theorem dX11_init_86 : decode cX11_init 86 = .ok (.putfield 56, 3) := by decide +kernel
theorem dX11_init_89 : decode cX11_init 89 = .ok (.aload_n 0, 1) := by decide +kernel
theorem dX11_init_90 : decode cX11_init 90 = .ok (.new 60, 3) := by decide +kernel
theorem dX11_init_93 : decode cX11_init 93 = .ok (.dup, 1) := by decide +kernel
theorem dX11_init_94 : decode cX11_init 94 = .ok (.aload_n 0, 1) := by decide +kernel
theorem dX11_init_95 : decode cX11_init 95 = .ok (.getfield 10, 3) := by decide +kernel
theorem dX11_init_98 : decode cX11_init 98 = .ok (.aload_n 0, 1) := by decide +kernel
theorem dX11_init_99 : decode cX11_init 99 = .ok (.getfield 26, 3) := by decide +kernel
theorem dX11_init_102 : decode cX11_init 102 = .ok (.aload_n 0, 1) := by decide +kernel
theorem dX11_init_103 : decode cX11_init 103 = .ok (.getfield 49, 3) := by decide +kernel
theorem dX11_init_106 : decode cX11_init 106 = .ok (.invokespecial 62, 3) := by decide +kernel
theorem dX11_init_109 : decode cX11_init 109 = .ok (.putfield 65, 3) := by decide +kernel
theorem dX11_init_112 : decode cX11_init 112 = .ok (.aload_n 0, 1) := by decide +kernel
theorem dX11_init_113 : decode cX11_init 113 = .ok (.new 69, 3) := by decide +kernel
theorem dX11_init_116 : decode cX11_init 116 = .ok (.dup, 1) := by decide +kernel
theorem dX11_init_117 : decode cX11_init 117 = .ok (.invokespecial 71, 3) := by decide +kernel
theorem dX11_init_120 : decode cX11_init 120 = .ok (.putfield 72, 3) := by decide +kernel
theorem dX11_init_123 : decode cX11_init 123 = .ok (.aload_n 0, 1) := by decide +kernel
theorem dX11_init_124 : decode cX11_init 124 = .ok (.iconst 0, 1) := by decide +kernel
theorem dX11_init_125 : decode cX11_init 125 = .ok (.putfield 76, 3) := by decide +kernel
theorem dX11_init_128 : decode cX11_init 128 = .ok (.aload_n 0, 1) := by decide +kernel
theorem dX11_init_129 : decode cX11_init 129 = .ok (.bipush 12, 2) := by decide +kernel
theorem dX11_init_131 : decode cX11_init 131 = .ok (.newarray .int, 2) := by decide +kernel
theorem dX11_init_133 : decode cX11_init 133 = .ok (.putfield 80, 3) := by decide +kernel
theorem dX11_init_136 : decode cX11_init 136 = .ok (.return_, 1) := by decide +kernel
theorem dX11_put_0 : decode cX11_put 0 = .ok (.aload_n 0, 1) := by decide +kernel
theorem dX11_put_1 : decode cX11_put 1 = .ok (.getfield 10, 3) := by decide +kernel
theorem dX11_put_4 : decode cX11_put 4 = .ok (.iconst 0, 1) := by decide +kernel
theorem dX11_put_5 : decode cX11_put 5 = .ok (.invokevirtual 84, 3) := by decide +kernel
theorem dX11_put_8 : decode cX11_put 8 = .ok (.istore_n 3, 1) := by decide +kernel
theorem dX11_put_9 : decode cX11_put 9 = .ok (.iload_n 3, 1) := by decide +kernel
theorem dX11_put_10 : decode cX11_put 10 = .ok (.iconst (-1), 1) := by decide +kernel
theorem dX11_put_11 : decode cX11_put 11 = .ok (.if_icmp .ne 10, 3) := by decide +kernel
theorem dX11_put_14 : decode cX11_put 14 = .ok (.aload_n 0, 1) := by decide +kernel
theorem dX11_put_15 : decode cX11_put 15 = .ok (.bipush (-10), 2) := by decide +kernel
theorem dX11_put_17 : decode cX11_put 17 = .ok (.invokevirtual 88, 3) := by decide +kernel
theorem dX11_put_20 : decode cX11_put 20 = .ok (.ireturn, 1) := by decide +kernel
theorem dX11_put_21 : decode cX11_put 21 = .ok (.aload_n 0, 1) := by decide +kernel
theorem dX11_put_22 : decode cX11_put 22 = .ok (.getfield 10, 3) := by decide +kernel
theorem dX11_put_25 : decode cX11_put 25 = .ok (.getfield 91, 3) := by decide +kernel
theorem dX11_put_28 : decode cX11_put 28 = .ok (.iload_n 3, 1) := by decide +kernel
theorem dX11_put_29 : decode cX11_put 29 = .ok (.lload_n 1, 1) := by decide +kernel
theorem dX11_put_30 : decode cX11_put 30 = .ok (.lastore, 1) := by decide +kernel
theorem dX11_put_31 : decode cX11_put 31 = .ok (.aload_n 0, 1) := by decide +kernel
theorem dX11_put_32 : decode cX11_put 32 = .ok (.invokevirtual 95, 3) := by decide +kernel
theorem dX11_put_35 : decode cX11_put 35 = .ok (.iload_n 3, 1) := by decide +kernel
theorem dX11_put_36 : decode cX11_put 36 = .ok (.ireturn, 1) := by decide +kernel
theorem dX11_reckon_0 : decode cX11_reckon 0 = .ok (.iload_n 1, 1) := by decide +kernel
theorem dX11_reckon_1 : decode cX11_reckon 1 = .ok (.iconst 1, 1) := by decide +kernel
theorem dX11_reckon_2 : decode cX11_reckon 2 = .ok (.if_icmp .lt 23, 3) := by decide +kernel
theorem dX11_reckon_5 : decode cX11_reckon 5 = .ok (.iload_n 1, 1) := by decide +kernel
theorem dX11_reckon_6 : decode cX11_reckon 6 = .ok (.iconst 3, 1) := by decide +kernel
theorem dX11_reckon_7 : decode cX11_reckon 7 = .ok (.if_icmp .gt 18, 3) := by decide +kernel
theorem dX11_reckon_10 : decode cX11_reckon 10 = .ok (.iload_n 3, 1) := by decide +kernel
theorem dX11_reckon_11 : decode cX11_reckon 11 = .ok (.invokestatic 98, 3) := by decide +kernel
theorem dX11_reckon_14 : decode cX11_reckon 14 = .ok (.ifCond .eq 11, 3) := by decide +kernel
theorem dX11_reckon_17 : decode cX11_reckon 17 = .ok (.iload 5, 2) := by decide +kernel
theorem dX11_reckon_19 : decode cX11_reckon 19 = .ok (.invokestatic 98, 3) := by decide +kernel
theorem dX11_reckon_22 : decode cX11_reckon 22 = .ok (.ifCond .ne 10, 3) := by decide +kernel
theorem dX11_reckon_25 : decode cX11_reckon 25 = .ok (.aload_n 0, 1) := by decide +kernel
theorem dX11_reckon_26 : decode cX11_reckon 26 = .ok (.bipush (-9), 2) := by decide +kernel
theorem dX11_reckon_28 : decode cX11_reckon 28 = .ok (.invokevirtual 88, 3) := by decide +kernel
theorem dX11_reckon_31 : decode cX11_reckon 31 = .ok (.ireturn, 1) := by decide +kernel
theorem dX11_reckon_32 : decode cX11_reckon 32 = .ok (.aload_n 0, 1) := by decide +kernel
theorem dX11_reckon_33 : decode cX11_reckon 33 = .ok (.getfield 10, 3) := by decide +kernel
theorem dX11_reckon_36 : decode cX11_reckon 36 = .ok (.iload_n 2, 1) := by decide +kernel
theorem dX11_reckon_37 : decode cX11_reckon 37 = .ok (.iload_n 3, 1) := by decide +kernel
theorem dX11_reckon_38 : decode cX11_reckon 38 = .ok (.invokevirtual 102, 3) := by decide +kernel
theorem dX11_reckon_41 : decode cX11_reckon 41 = .ok (.ifCond .eq 17, 3) := by decide +kernel
theorem dX11_reckon_44 : decode cX11_reckon 44 = .ok (.aload_n 0, 1) := by decide +kernel
theorem dX11_reckon_45 : decode cX11_reckon 45 = .ok (.getfield 10, 3) := by decide +kernel
theorem dX11_reckon_48 : decode cX11_reckon 48 = .ok (.iload 4, 2) := by decide +kernel
theorem dX11_reckon_50 : decode cX11_reckon 50 = .ok (.iload 5, 2) := by decide +kernel
theorem dX11_reckon_52 : decode cX11_reckon 52 = .ok (.invokevirtual 102, 3) := by decide +kernel
theorem dX11_reckon_55 : decode cX11_reckon 55 = .ok (.ifCond .ne 10, 3) := by decide +kernel
theorem dX11_reckon_58 : decode cX11_reckon 58 = .ok (.aload_n 0, 1) := by decide +kernel
theorem dX11_reckon_59 : decode cX11_reckon 59 = .ok (.bipush (-3), 2) := by decide +kernel
theorem dX11_reckon_61 : decode cX11_reckon 61 = .ok (.invokevirtual 88, 3) := by decide +kernel
theorem dX11_reckon_64 : decode cX11_reckon 64 = .ok (.ireturn, 1) := by decide +kernel
theorem dX11_reckon_65 : decode cX11_reckon 65 = .ok (.aload_n 0, 1) := by decide +kernel
theorem dX11_reckon_66 : decode cX11_reckon 66 = .ok (.getfield 10, 3) := by decide +kernel
theorem dX11_reckon_69 : decode cX11_reckon 69 = .ok (.iload_n 1, 1) := by decide +kernel
theorem dX11_reckon_70 : decode cX11_reckon 70 = .ok (.invokevirtual 84, 3) := by decide +kernel
theorem dX11_reckon_73 : decode cX11_reckon 73 = .ok (.istore 6, 2) := by decide +kernel
theorem dX11_reckon_75 : decode cX11_reckon 75 = .ok (.iload 6, 2) := by decide +kernel
theorem dX11_reckon_77 : decode cX11_reckon 77 = .ok (.iconst (-1), 1) := by decide +kernel
theorem dX11_reckon_78 : decode cX11_reckon 78 = .ok (.if_icmp .ne 10, 3) := by decide +kernel
theorem dX11_reckon_81 : decode cX11_reckon 81 = .ok (.aload_n 0, 1) := by decide +kernel
theorem dX11_reckon_82 : decode cX11_reckon 82 = .ok (.bipush (-10), 2) := by decide +kernel
theorem dX11_reckon_84 : decode cX11_reckon 84 = .ok (.invokevirtual 88, 3) := by decide +kernel
theorem dX11_reckon_87 : decode cX11_reckon 87 = .ok (.ireturn, 1) := by decide +kernel
theorem dX11_reckon_88 : decode cX11_reckon 88 = .ok (.aload_n 0, 1) := by decide +kernel
theorem dX11_reckon_89 : decode cX11_reckon 89 = .ok (.getfield 10, 3) := by decide +kernel
theorem dX11_reckon_92 : decode cX11_reckon 92 = .ok (.iload 6, 2) := by decide +kernel
theorem dX11_reckon_94 : decode cX11_reckon 94 = .ok (.iconst 0, 1) := by decide +kernel
theorem dX11_reckon_95 : decode cX11_reckon 95 = .ok (.iload_n 2, 1) := by decide +kernel
theorem dX11_reckon_96 : decode cX11_reckon 96 = .ok (.iload_n 3, 1) := by decide +kernel
theorem dX11_reckon_97 : decode cX11_reckon 97 = .ok (.invokevirtual 106, 3) := by decide +kernel
theorem dX11_reckon_100 : decode cX11_reckon 100 = .ok (.aload_n 0, 1) := by decide +kernel
theorem dX11_reckon_101 : decode cX11_reckon 101 = .ok (.getfield 10, 3) := by decide +kernel
theorem dX11_reckon_104 : decode cX11_reckon 104 = .ok (.iload 6, 2) := by decide +kernel
theorem dX11_reckon_106 : decode cX11_reckon 106 = .ok (.iconst 1, 1) := by decide +kernel
theorem dX11_reckon_107 : decode cX11_reckon 107 = .ok (.iload 4, 2) := by decide +kernel
theorem dX11_reckon_109 : decode cX11_reckon 109 = .ok (.iload 5, 2) := by decide +kernel
theorem dX11_reckon_111 : decode cX11_reckon 111 = .ok (.invokevirtual 106, 3) := by decide +kernel
theorem dX11_reckon_114 : decode cX11_reckon 114 = .ok (.aload_n 0, 1) := by decide +kernel
theorem dX11_reckon_115 : decode cX11_reckon 115 = .ok (.invokevirtual 95, 3) := by decide +kernel
theorem dX11_reckon_118 : decode cX11_reckon 118 = .ok (.iload 6, 2) := by decide +kernel
theorem dX11_reckon_120 : decode cX11_reckon 120 = .ok (.ireturn, 1) := by decide +kernel
theorem dX11_fetch_0 : decode cX11_fetch 0 = .ok (.iload_n 3, 1) := by decide +kernel
theorem dX11_fetch_1 : decode cX11_fetch 1 = .ok (.invokestatic 98, 3) := by decide +kernel
theorem dX11_fetch_4 : decode cX11_fetch 4 = .ok (.ifCond .ne 10, 3) := by decide +kernel
theorem dX11_fetch_7 : decode cX11_fetch 7 = .ok (.aload_n 0, 1) := by decide +kernel
theorem dX11_fetch_8 : decode cX11_fetch 8 = .ok (.bipush (-9), 2) := by decide +kernel
theorem dX11_fetch_10 : decode cX11_fetch 10 = .ok (.invokevirtual 88, 3) := by decide +kernel
theorem dX11_fetch_13 : decode cX11_fetch 13 = .ok (.ireturn, 1) := by decide +kernel
theorem dX11_fetch_14 : decode cX11_fetch 14 = .ok (.iload_n 1, 1) := by decide +kernel
theorem dX11_fetch_15 : decode cX11_fetch 15 = .ok (.invokestatic 110, 3) := by decide +kernel
theorem dX11_fetch_18 : decode cX11_fetch 18 = .ok (.ifCond .eq 15, 3) := by decide +kernel
theorem dX11_fetch_21 : decode cX11_fetch 21 = .ok (.aload_n 0, 1) := by decide +kernel
theorem dX11_fetch_22 : decode cX11_fetch 22 = .ok (.getfield 10, 3) := by decide +kernel
theorem dX11_fetch_25 : decode cX11_fetch 25 = .ok (.iload_n 2, 1) := by decide +kernel
theorem dX11_fetch_26 : decode cX11_fetch 26 = .ok (.iload_n 3, 1) := by decide +kernel
theorem dX11_fetch_27 : decode cX11_fetch 27 = .ok (.invokevirtual 102, 3) := by decide +kernel
theorem dX11_fetch_30 : decode cX11_fetch 30 = .ok (.ifCond .ne 10, 3) := by decide +kernel
theorem dX11_fetch_33 : decode cX11_fetch 33 = .ok (.aload_n 0, 1) := by decide +kernel
theorem dX11_fetch_34 : decode cX11_fetch 34 = .ok (.bipush (-3), 2) := by decide +kernel
theorem dX11_fetch_36 : decode cX11_fetch 36 = .ok (.invokevirtual 88, 3) := by decide +kernel
theorem dX11_fetch_39 : decode cX11_fetch 39 = .ok (.ireturn, 1) := by decide +kernel
theorem dX11_fetch_40 : decode cX11_fetch 40 = .ok (.aload_n 0, 1) := by decide +kernel
theorem dX11_fetch_41 : decode cX11_fetch 41 = .ok (.getfield 10, 3) := by decide +kernel
theorem dX11_fetch_44 : decode cX11_fetch 44 = .ok (.iconst 4, 1) := by decide +kernel
theorem dX11_fetch_45 : decode cX11_fetch 45 = .ok (.invokevirtual 84, 3) := by decide +kernel
theorem dX11_fetch_48 : decode cX11_fetch 48 = .ok (.istore 4, 2) := by decide +kernel
theorem dX11_fetch_50 : decode cX11_fetch 50 = .ok (.iload 4, 2) := by decide +kernel
theorem dX11_fetch_52 : decode cX11_fetch 52 = .ok (.iconst (-1), 1) := by decide +kernel
theorem dX11_fetch_53 : decode cX11_fetch 53 = .ok (.if_icmp .ne 10, 3) := by decide +kernel
theorem dX11_fetch_56 : decode cX11_fetch 56 = .ok (.aload_n 0, 1) := by decide +kernel
theorem dX11_fetch_57 : decode cX11_fetch 57 = .ok (.bipush (-10), 2) := by decide +kernel
theorem dX11_fetch_59 : decode cX11_fetch 59 = .ok (.invokevirtual 88, 3) := by decide +kernel
theorem dX11_fetch_62 : decode cX11_fetch 62 = .ok (.ireturn, 1) := by decide +kernel
theorem dX11_fetch_63 : decode cX11_fetch 63 = .ok (.aload_n 0, 1) := by decide +kernel
theorem dX11_fetch_64 : decode cX11_fetch 64 = .ok (.getfield 10, 3) := by decide +kernel
theorem dX11_fetch_67 : decode cX11_fetch 67 = .ok (.getfield 113, 3) := by decide +kernel
theorem dX11_fetch_70 : decode cX11_fetch 70 = .ok (.iload 4, 2) := by decide +kernel
theorem dX11_fetch_72 : decode cX11_fetch 72 = .ok (.iload_n 1, 1) := by decide +kernel
theorem dX11_fetch_73 : decode cX11_fetch 73 = .ok (.iastore, 1) := by decide +kernel
theorem dX11_fetch_74 : decode cX11_fetch 74 = .ok (.aload_n 0, 1) := by decide +kernel
theorem dX11_fetch_75 : decode cX11_fetch 75 = .ok (.getfield 10, 3) := by decide +kernel
theorem dX11_fetch_78 : decode cX11_fetch 78 = .ok (.iload 4, 2) := by decide +kernel
theorem dX11_fetch_80 : decode cX11_fetch 80 = .ok (.iconst 0, 1) := by decide +kernel
theorem dX11_fetch_81 : decode cX11_fetch 81 = .ok (.iload_n 2, 1) := by decide +kernel
theorem dX11_fetch_82 : decode cX11_fetch 82 = .ok (.iload_n 3, 1) := by decide +kernel
theorem dX11_fetch_83 : decode cX11_fetch 83 = .ok (.invokevirtual 106, 3) := by decide +kernel
theorem dX11_fetch_86 : decode cX11_fetch 86 = .ok (.aload_n 0, 1) := by decide +kernel
theorem dX11_fetch_87 : decode cX11_fetch 87 = .ok (.invokevirtual 95, 3) := by decide +kernel
theorem dX11_fetch_90 : decode cX11_fetch 90 = .ok (.iload 4, 2) := by decide +kernel
theorem dX11_fetch_92 : decode cX11_fetch 92 = .ok (.ireturn, 1) := by decide +kernel
theorem dX11_store_0 : decode cX11_store 0 = .ok (.iload_n 3, 1) := by decide +kernel
theorem dX11_store_1 : decode cX11_store 1 = .ok (.invokestatic 98, 3) := by decide +kernel
theorem dX11_store_4 : decode cX11_store 4 = .ok (.ifCond .eq 11, 3) := by decide +kernel
theorem dX11_store_7 : decode cX11_store 7 = .ok (.iload 5, 2) := by decide +kernel
theorem dX11_store_9 : decode cX11_store 9 = .ok (.invokestatic 98, 3) := by decide +kernel
theorem dX11_store_12 : decode cX11_store 12 = .ok (.ifCond .ne 10, 3) := by decide +kernel
theorem dX11_store_15 : decode cX11_store 15 = .ok (.aload_n 0, 1) := by decide +kernel
theorem dX11_store_16 : decode cX11_store 16 = .ok (.bipush (-9), 2) := by decide +kernel
theorem dX11_store_18 : decode cX11_store 18 = .ok (.invokevirtual 88, 3) := by decide +kernel
theorem dX11_store_21 : decode cX11_store 21 = .ok (.ireturn, 1) := by decide +kernel
theorem dX11_store_22 : decode cX11_store 22 = .ok (.iload_n 1, 1) := by decide +kernel
theorem dX11_store_23 : decode cX11_store 23 = .ok (.invokestatic 110, 3) := by decide +kernel
theorem dX11_store_26 : decode cX11_store 26 = .ok (.ifCond .eq 29, 3) := by decide +kernel
theorem dX11_store_29 : decode cX11_store 29 = .ok (.aload_n 0, 1) := by decide +kernel
theorem dX11_store_30 : decode cX11_store 30 = .ok (.getfield 10, 3) := by decide +kernel
theorem dX11_store_33 : decode cX11_store 33 = .ok (.iload_n 2, 1) := by decide +kernel
theorem dX11_store_34 : decode cX11_store 34 = .ok (.iload_n 3, 1) := by decide +kernel
theorem dX11_store_35 : decode cX11_store 35 = .ok (.invokevirtual 102, 3) := by decide +kernel
theorem dX11_store_38 : decode cX11_store 38 = .ok (.ifCond .eq 17, 3) := by decide +kernel
theorem dX11_store_41 : decode cX11_store 41 = .ok (.aload_n 0, 1) := by decide +kernel
theorem dX11_store_42 : decode cX11_store 42 = .ok (.getfield 10, 3) := by decide +kernel
theorem dX11_store_45 : decode cX11_store 45 = .ok (.iload 4, 2) := by decide +kernel
theorem dX11_store_47 : decode cX11_store 47 = .ok (.iload 5, 2) := by decide +kernel
theorem dX11_store_49 : decode cX11_store 49 = .ok (.invokevirtual 102, 3) := by decide +kernel
theorem dX11_store_52 : decode cX11_store 52 = .ok (.ifCond .ne 10, 3) := by decide +kernel
theorem dX11_store_55 : decode cX11_store 55 = .ok (.aload_n 0, 1) := by decide +kernel
theorem dX11_store_56 : decode cX11_store 56 = .ok (.bipush (-3), 2) := by decide +kernel
theorem dX11_store_58 : decode cX11_store 58 = .ok (.invokevirtual 88, 3) := by decide +kernel
theorem dX11_store_61 : decode cX11_store 61 = .ok (.ireturn, 1) := by decide +kernel
theorem dX11_store_62 : decode cX11_store 62 = .ok (.aload_n 0, 1) := by decide +kernel
theorem dX11_store_63 : decode cX11_store 63 = .ok (.getfield 10, 3) := by decide +kernel
theorem dX11_store_66 : decode cX11_store 66 = .ok (.iconst 5, 1) := by decide +kernel
theorem dX11_store_67 : decode cX11_store 67 = .ok (.invokevirtual 84, 3) := by decide +kernel
theorem dX11_store_70 : decode cX11_store 70 = .ok (.istore 6, 2) := by decide +kernel
theorem dX11_store_72 : decode cX11_store 72 = .ok (.iload 6, 2) := by decide +kernel
theorem dX11_store_74 : decode cX11_store 74 = .ok (.iconst (-1), 1) := by decide +kernel
theorem dX11_store_75 : decode cX11_store 75 = .ok (.if_icmp .ne 10, 3) := by decide +kernel
theorem dX11_store_78 : decode cX11_store 78 = .ok (.aload_n 0, 1) := by decide +kernel
theorem dX11_store_79 : decode cX11_store 79 = .ok (.bipush (-10), 2) := by decide +kernel
theorem dX11_store_81 : decode cX11_store 81 = .ok (.invokevirtual 88, 3) := by decide +kernel
theorem dX11_store_84 : decode cX11_store 84 = .ok (.ireturn, 1) := by decide +kernel
theorem dX11_store_85 : decode cX11_store 85 = .ok (.aload_n 0, 1) := by decide +kernel
theorem dX11_store_86 : decode cX11_store 86 = .ok (.getfield 10, 3) := by decide +kernel
theorem dX11_store_89 : decode cX11_store 89 = .ok (.getfield 113, 3) := by decide +kernel
theorem dX11_store_92 : decode cX11_store 92 = .ok (.iload 6, 2) := by decide +kernel
theorem dX11_store_94 : decode cX11_store 94 = .ok (.iload_n 1, 1) := by decide +kernel
theorem dX11_store_95 : decode cX11_store 95 = .ok (.iastore, 1) := by decide +kernel
theorem dX11_store_96 : decode cX11_store 96 = .ok (.aload_n 0, 1) := by decide +kernel
theorem dX11_store_97 : decode cX11_store 97 = .ok (.getfield 10, 3) := by decide +kernel
theorem dX11_store_100 : decode cX11_store 100 = .ok (.iload 6, 2) := by decide +kernel
theorem dX11_store_102 : decode cX11_store 102 = .ok (.iconst 0, 1) := by decide +kernel
theorem dX11_store_103 : decode cX11_store 103 = .ok (.iload_n 2, 1) := by decide +kernel
theorem dX11_store_104 : decode cX11_store 104 = .ok (.iload_n 3, 1) := by decide +kernel
theorem dX11_store_105 : decode cX11_store 105 = .ok (.invokevirtual 106, 3) := by decide +kernel
theorem dX11_store_108 : decode cX11_store 108 = .ok (.aload_n 0, 1) := by decide +kernel
theorem dX11_store_109 : decode cX11_store 109 = .ok (.getfield 10, 3) := by decide +kernel
theorem dX11_store_112 : decode cX11_store 112 = .ok (.iload 6, 2) := by decide +kernel
theorem dX11_store_114 : decode cX11_store 114 = .ok (.iconst 1, 1) := by decide +kernel
theorem dX11_store_115 : decode cX11_store 115 = .ok (.iload 4, 2) := by decide +kernel
theorem dX11_store_117 : decode cX11_store 117 = .ok (.iload 5, 2) := by decide +kernel
theorem dX11_store_119 : decode cX11_store 119 = .ok (.invokevirtual 106, 3) := by decide +kernel
theorem dX11_store_122 : decode cX11_store 122 = .ok (.aload_n 0, 1) := by decide +kernel
theorem dX11_store_123 : decode cX11_store 123 = .ok (.invokevirtual 95, 3) := by decide +kernel
theorem dX11_store_126 : decode cX11_store 126 = .ok (.iload 6, 2) := by decide +kernel
theorem dX11_store_128 : decode cX11_store 128 = .ok (.ireturn, 1) := by decide +kernel
theorem dX11_pick_0 : decode cX11_pick 0 = .ok (.iload 4, 2) := by decide +kernel
theorem dX11_pick_2 : decode cX11_pick 2 = .ok (.invokestatic 98, 3) := by decide +kernel
theorem dX11_pick_5 : decode cX11_pick 5 = .ok (.ifCond .ne 10, 3) := by decide +kernel
theorem dX11_pick_8 : decode cX11_pick 8 = .ok (.aload_n 0, 1) := by decide +kernel
theorem dX11_pick_9 : decode cX11_pick 9 = .ok (.bipush (-9), 2) := by decide +kernel
theorem dX11_pick_11 : decode cX11_pick 11 = .ok (.invokevirtual 88, 3) := by decide +kernel
theorem dX11_pick_14 : decode cX11_pick 14 = .ok (.ireturn, 1) := by decide +kernel
theorem dX11_pick_15 : decode cX11_pick 15 = .ok (.aload_n 0, 1) := by decide +kernel
theorem dX11_pick_16 : decode cX11_pick 16 = .ok (.getfield 10, 3) := by decide +kernel
theorem dX11_pick_19 : decode cX11_pick 19 = .ok (.iload_n 1, 1) := by decide +kernel
theorem dX11_pick_20 : decode cX11_pick 20 = .ok (.iconst 0, 1) := by decide +kernel
theorem dX11_pick_21 : decode cX11_pick 21 = .ok (.invokevirtual 102, 3) := by decide +kernel
theorem dX11_pick_24 : decode cX11_pick 24 = .ok (.ifCond .eq 28, 3) := by decide +kernel
theorem dX11_pick_27 : decode cX11_pick 27 = .ok (.aload_n 0, 1) := by decide +kernel
theorem dX11_pick_28 : decode cX11_pick 28 = .ok (.getfield 10, 3) := by decide +kernel
theorem dX11_pick_31 : decode cX11_pick 31 = .ok (.iload_n 2, 1) := by decide +kernel
theorem dX11_pick_32 : decode cX11_pick 32 = .ok (.iconst 0, 1) := by decide +kernel
theorem dX11_pick_33 : decode cX11_pick 33 = .ok (.invokevirtual 102, 3) := by decide +kernel
theorem dX11_pick_36 : decode cX11_pick 36 = .ok (.ifCond .eq 16, 3) := by decide +kernel
theorem dX11_pick_39 : decode cX11_pick 39 = .ok (.aload_n 0, 1) := by decide +kernel
theorem dX11_pick_40 : decode cX11_pick 40 = .ok (.getfield 10, 3) := by decide +kernel
theorem dX11_pick_43 : decode cX11_pick 43 = .ok (.iload_n 3, 1) := by decide +kernel
theorem dX11_pick_44 : decode cX11_pick 44 = .ok (.iload 4, 2) := by decide +kernel
theorem dX11_pick_46 : decode cX11_pick 46 = .ok (.invokevirtual 102, 3) := by decide +kernel
theorem dX11_pick_49 : decode cX11_pick 49 = .ok (.ifCond .ne 10, 3) := by decide +kernel
theorem dX11_pick_52 : decode cX11_pick 52 = .ok (.aload_n 0, 1) := by decide +kernel
theorem dX11_pick_53 : decode cX11_pick 53 = .ok (.bipush (-3), 2) := by decide +kernel
theorem dX11_pick_55 : decode cX11_pick 55 = .ok (.invokevirtual 88, 3) := by decide +kernel
theorem dX11_pick_58 : decode cX11_pick 58 = .ok (.ireturn, 1) := by decide +kernel
theorem dX11_pick_59 : decode cX11_pick 59 = .ok (.aload_n 0, 1) := by decide +kernel
theorem dX11_pick_60 : decode cX11_pick 60 = .ok (.getfield 10, 3) := by decide +kernel
theorem dX11_pick_63 : decode cX11_pick 63 = .ok (.bipush 6, 2) := by decide +kernel
theorem dX11_pick_65 : decode cX11_pick 65 = .ok (.invokevirtual 84, 3) := by decide +kernel
theorem dX11_pick_68 : decode cX11_pick 68 = .ok (.istore 5, 2) := by decide +kernel
theorem dX11_pick_70 : decode cX11_pick 70 = .ok (.iload 5, 2) := by decide +kernel
theorem dX11_pick_72 : decode cX11_pick 72 = .ok (.iconst (-1), 1) := by decide +kernel
theorem dX11_pick_73 : decode cX11_pick 73 = .ok (.if_icmp .ne 10, 3) := by decide +kernel
theorem dX11_pick_76 : decode cX11_pick 76 = .ok (.aload_n 0, 1) := by decide +kernel
theorem dX11_pick_77 : decode cX11_pick 77 = .ok (.bipush (-10), 2) := by decide +kernel
theorem dX11_pick_79 : decode cX11_pick 79 = .ok (.invokevirtual 88, 3) := by decide +kernel
theorem dX11_pick_82 : decode cX11_pick 82 = .ok (.ireturn, 1) := by decide +kernel
theorem dX11_pick_83 : decode cX11_pick 83 = .ok (.aload_n 0, 1) := by decide +kernel
theorem dX11_pick_84 : decode cX11_pick 84 = .ok (.getfield 10, 3) := by decide +kernel
theorem dX11_pick_87 : decode cX11_pick 87 = .ok (.iload 5, 2) := by decide +kernel
theorem dX11_pick_89 : decode cX11_pick 89 = .ok (.iconst 0, 1) := by decide +kernel
theorem dX11_pick_90 : decode cX11_pick 90 = .ok (.iload_n 1, 1) := by decide +kernel
theorem dX11_pick_91 : decode cX11_pick 91 = .ok (.iconst 0, 1) := by decide +kernel
theorem dX11_pick_92 : decode cX11_pick 92 = .ok (.invokevirtual 106, 3) := by decide +kernel
theorem dX11_pick_95 : decode cX11_pick 95 = .ok (.aload_n 0, 1) := by decide +kernel
theorem dX11_pick_96 : decode cX11_pick 96 = .ok (.getfield 10, 3) := by decide +kernel
theorem dX11_pick_99 : decode cX11_pick 99 = .ok (.iload 5, 2) := by decide +kernel
theorem dX11_pick_101 : decode cX11_pick 101 = .ok (.iconst 1, 1) := by decide +kernel
theorem dX11_pick_102 : decode cX11_pick 102 = .ok (.iload_n 2, 1) := by decide +kernel
theorem dX11_pick_103 : decode cX11_pick 103 = .ok (.iconst 0, 1) := by decide +kernel
theorem dX11_pick_104 : decode cX11_pick 104 = .ok (.invokevirtual 106, 3) := by decide +kernel
theorem dX11_pick_107 : decode cX11_pick 107 = .ok (.aload_n 0, 1) := by decide +kernel
theorem dX11_pick_108 : decode cX11_pick 108 = .ok (.getfield 10, 3) := by decide +kernel
theorem dX11_pick_111 : decode cX11_pick 111 = .ok (.iload 5, 2) := by decide +kernel
theorem dX11_pick_113 : decode cX11_pick 113 = .ok (.iconst 2, 1) := by decide +kernel
theorem dX11_pick_114 : decode cX11_pick 114 = .ok (.iload_n 3, 1) := by decide +kernel
theorem dX11_pick_115 : decode cX11_pick 115 = .ok (.iload 4, 2) := by decide +kernel
theorem dX11_pick_117 : decode cX11_pick 117 = .ok (.invokevirtual 106, 3) := by decide +kernel
theorem dX11_pick_120 : decode cX11_pick 120 = .ok (.aload_n 0, 1) := by decide +kernel
theorem dX11_pick_121 : decode cX11_pick 121 = .ok (.invokevirtual 95, 3) := by decide +kernel
theorem dX11_pick_124 : decode cX11_pick 124 = .ok (.iload 5, 2) := by decide +kernel
theorem dX11_pick_126 : decode cX11_pick 126 = .ok (.ireturn, 1) := by decide +kernel
theorem dX11_works_0 : decode cX11_works 0 = .ok (.aload_n 0, 1) := by decide +kernel
theorem dX11_works_1 : decode cX11_works 1 = .ok (.getfield 10, 3) := by decide +kernel
theorem dX11_works_4 : decode cX11_works 4 = .ok (.iload_n 1, 1) := by decide +kernel
theorem dX11_works_5 : decode cX11_works 5 = .ok (.invokevirtual 116, 3) := by decide +kernel
theorem dX11_works_8 : decode cX11_works 8 = .ok (.ifCond .eq 10, 3) := by decide +kernel
theorem dX11_works_11 : decode cX11_works 11 = .ok (.iload_n 3, 1) := by decide +kernel
theorem dX11_works_12 : decode cX11_works 12 = .ok (.invokestatic 119, 3) := by decide +kernel
theorem dX11_works_15 : decode cX11_works 15 = .ok (.ifCond .ne 10, 3) := by decide +kernel
theorem dX11_works_18 : decode cX11_works 18 = .ok (.aload_n 0, 1) := by decide +kernel
theorem dX11_works_19 : decode cX11_works 19 = .ok (.bipush (-3), 2) := by decide +kernel
theorem dX11_works_21 : decode cX11_works 21 = .ok (.invokevirtual 88, 3) := by decide +kernel
theorem dX11_works_24 : decode cX11_works 24 = .ok (.ireturn, 1) := by decide +kernel
theorem dX11_works_25 : decode cX11_works 25 = .ok (.iload_n 2, 1) := by decide +kernel
theorem dX11_works_26 : decode cX11_works 26 = .ok (.iconst 1, 1) := by decide +kernel
theorem dX11_works_27 : decode cX11_works 27 = .ok (.if_icmp .lt 23, 3) := by decide +kernel
theorem dX11_works_30 : decode cX11_works 30 = .ok (.iload_n 2, 1) := by decide +kernel
theorem dX11_works_31 : decode cX11_works 31 = .ok (.bipush 12, 2) := by decide +kernel
theorem dX11_works_33 : decode cX11_works 33 = .ok (.if_icmp .gt 17, 3) := by decide +kernel
theorem dX11_works_36 : decode cX11_works 36 = .ok (.iload 4, 2) := by decide +kernel
theorem dX11_works_38 : decode cX11_works 38 = .ok (.iconst 1, 1) := by decide +kernel
theorem dX11_works_39 : decode cX11_works 39 = .ok (.if_icmp .lt 11, 3) := by decide +kernel
theorem dX11_works_42 : decode cX11_works 42 = .ok (.iload 4, 2) := by decide +kernel
theorem dX11_works_44 : decode cX11_works 44 = .ok (.sipush 255, 3) := by decide +kernel
theorem dX11_works_47 : decode cX11_works 47 = .ok (.if_icmp .le 10, 3) := by decide +kernel
theorem dX11_works_50 : decode cX11_works 50 = .ok (.aload_n 0, 1) := by decide +kernel
theorem dX11_works_51 : decode cX11_works 51 = .ok (.bipush (-9), 2) := by decide +kernel
theorem dX11_works_53 : decode cX11_works 53 = .ok (.invokevirtual 88, 3) := by decide +kernel
theorem dX11_works_56 : decode cX11_works 56 = .ok (.ireturn, 1) := by decide +kernel
theorem dX11_works_57 : decode cX11_works 57 = .ok (.aload_n 0, 1) := by decide +kernel
theorem dX11_works_58 : decode cX11_works 58 = .ok (.getfield 10, 3) := by decide +kernel
theorem dX11_works_61 : decode cX11_works 61 = .ok (.getfield 122, 3) := by decide +kernel
theorem dX11_works_64 : decode cX11_works 64 = .ok (.iload_n 1, 1) := by decide +kernel
theorem dX11_works_65 : decode cX11_works 65 = .ok (.iload_n 2, 1) := by decide +kernel
theorem dX11_works_66 : decode cX11_works 66 = .ok (.iastore, 1) := by decide +kernel
theorem dX11_works_67 : decode cX11_works 67 = .ok (.aload_n 0, 1) := by decide +kernel
theorem dX11_works_68 : decode cX11_works 68 = .ok (.getfield 10, 3) := by decide +kernel
theorem dX11_works_71 : decode cX11_works 71 = .ok (.getfield 125, 3) := by decide +kernel
theorem dX11_works_74 : decode cX11_works 74 = .ok (.iload_n 1, 1) := by decide +kernel
theorem dX11_works_75 : decode cX11_works 75 = .ok (.iload_n 3, 1) := by decide +kernel
theorem dX11_works_76 : decode cX11_works 76 = .ok (.iastore, 1) := by decide +kernel
theorem dX11_works_77 : decode cX11_works 77 = .ok (.aload_n 0, 1) := by decide +kernel
theorem dX11_works_78 : decode cX11_works 78 = .ok (.getfield 10, 3) := by decide +kernel
theorem dX11_works_81 : decode cX11_works 81 = .ok (.getfield 128, 3) := by decide +kernel
theorem dX11_works_84 : decode cX11_works 84 = .ok (.iload_n 1, 1) := by decide +kernel
theorem dX11_works_85 : decode cX11_works 85 = .ok (.iload 4, 2) := by decide +kernel
theorem dX11_works_87 : decode cX11_works 87 = .ok (.iastore, 1) := by decide +kernel
theorem dX11_works_88 : decode cX11_works 88 = .ok (.aload_n 0, 1) := by decide +kernel
theorem dX11_works_89 : decode cX11_works 89 = .ok (.invokevirtual 95, 3) := by decide +kernel
theorem dX11_works_92 : decode cX11_works 92 = .ok (.iconst 1, 1) := by decide +kernel
theorem dX11_works_93 : decode cX11_works 93 = .ok (.ireturn, 1) := by decide +kernel
theorem dX11_first_0 : decode cX11_first 0 = .ok (.aload_n 0, 1) := by decide +kernel
theorem dX11_first_1 : decode cX11_first 1 = .ok (.getfield 10, 3) := by decide +kernel
theorem dX11_first_4 : decode cX11_first 4 = .ok (.iload_n 1, 1) := by decide +kernel
theorem dX11_first_5 : decode cX11_first 5 = .ok (.invokevirtual 116, 3) := by decide +kernel
theorem dX11_first_8 : decode cX11_first 8 = .ok (.ifCond .ne 10, 3) := by decide +kernel
theorem dX11_first_11 : decode cX11_first 11 = .ok (.aload_n 0, 1) := by decide +kernel
theorem dX11_first_12 : decode cX11_first 12 = .ok (.bipush (-3), 2) := by decide +kernel
theorem dX11_first_14 : decode cX11_first 14 = .ok (.invokevirtual 88, 3) := by decide +kernel
theorem dX11_first_17 : decode cX11_first 17 = .ok (.ireturn, 1) := by decide +kernel
theorem dX11_first_18 : decode cX11_first 18 = .ok (.aload_n 0, 1) := by decide +kernel
theorem dX11_first_19 : decode cX11_first 19 = .ok (.getfield 10, 3) := by decide +kernel
theorem dX11_first_22 : decode cX11_first 22 = .ok (.getfield 131, 3) := by decide +kernel
theorem dX11_first_25 : decode cX11_first 25 = .ok (.iload_n 1, 1) := by decide +kernel
theorem dX11_first_26 : decode cX11_first 26 = .ok (.lload_n 2, 1) := by decide +kernel
theorem dX11_first_27 : decode cX11_first 27 = .ok (.lastore, 1) := by decide +kernel
theorem dX11_first_28 : decode cX11_first 28 = .ok (.iconst 1, 1) := by decide +kernel
theorem dX11_first_29 : decode cX11_first 29 = .ok (.ireturn, 1) := by decide +kernel
theorem dX11_unit_0 : decode cX11_unit 0 = .ok (.iload_n 1, 1) := by decide +kernel
theorem dX11_unit_1 : decode cX11_unit 1 = .ok (.invokestatic 119, 3) := by decide +kernel
theorem dX11_unit_4 : decode cX11_unit 4 = .ok (.ifCond .ne 10, 3) := by decide +kernel
theorem dX11_unit_7 : decode cX11_unit 7 = .ok (.aload_n 0, 1) := by decide +kernel
theorem dX11_unit_8 : decode cX11_unit 8 = .ok (.bipush (-3), 2) := by decide +kernel
theorem dX11_unit_10 : decode cX11_unit 10 = .ok (.invokevirtual 88, 3) := by decide +kernel
theorem dX11_unit_13 : decode cX11_unit 13 = .ok (.ireturn, 1) := by decide +kernel
theorem dX11_unit_14 : decode cX11_unit 14 = .ok (.iload_n 2, 1) := by decide +kernel
theorem dX11_unit_15 : decode cX11_unit 15 = .ok (.ifCond .ge 10, 3) := by decide +kernel
theorem dX11_unit_18 : decode cX11_unit 18 = .ok (.aload_n 0, 1) := by decide +kernel
theorem dX11_unit_19 : decode cX11_unit 19 = .ok (.bipush (-4), 2) := by decide +kernel
theorem dX11_unit_21 : decode cX11_unit 21 = .ok (.invokevirtual 88, 3) := by decide +kernel
theorem dX11_unit_24 : decode cX11_unit 24 = .ok (.ireturn, 1) := by decide +kernel
theorem dX11_unit_25 : decode cX11_unit 25 = .ok (.iload_n 2, 1) := by decide +kernel
theorem dX11_unit_26 : decode cX11_unit 26 = .ok (.iconst 4, 1) := by decide +kernel
theorem dX11_unit_27 : decode cX11_unit 27 = .ok (.if_icmp .le 10, 3) := by decide +kernel
theorem dX11_unit_30 : decode cX11_unit 30 = .ok (.aload_n 0, 1) := by decide +kernel
theorem dX11_unit_31 : decode cX11_unit 31 = .ok (.bipush (-9), 2) := by decide +kernel
theorem dX11_unit_33 : decode cX11_unit 33 = .ok (.invokevirtual 88, 3) := by decide +kernel
theorem dX11_unit_36 : decode cX11_unit 36 = .ok (.ireturn, 1) := by decide +kernel
theorem dX11_unit_37 : decode cX11_unit 37 = .ok (.aload_n 0, 1) := by decide +kernel
theorem dX11_unit_38 : decode cX11_unit 38 = .ok (.getfield 10, 3) := by decide +kernel
theorem dX11_unit_41 : decode cX11_unit 41 = .ok (.getfield 134, 3) := by decide +kernel
theorem dX11_unit_44 : decode cX11_unit 44 = .ok (.iload_n 1, 1) := by decide +kernel
theorem dX11_unit_45 : decode cX11_unit 45 = .ok (.iaload, 1) := by decide +kernel
theorem dX11_unit_46 : decode cX11_unit 46 = .ok (.istore_n 3, 1) := by decide +kernel
theorem dX11_unit_47 : decode cX11_unit 47 = .ok (.aload_n 0, 1) := by decide +kernel
theorem dX11_unit_48 : decode cX11_unit 48 = .ok (.getfield 10, 3) := by decide +kernel
theorem dX11_unit_51 : decode cX11_unit 51 = .ok (.getfield 134, 3) := by decide +kernel
theorem dX11_unit_54 : decode cX11_unit 54 = .ok (.iload_n 1, 1) := by decide +kernel
theorem dX11_unit_55 : decode cX11_unit 55 = .ok (.iload_n 2, 1) := by decide +kernel
theorem dX11_unit_56 : decode cX11_unit 56 = .ok (.iastore, 1) := by decide +kernel
theorem dX11_unit_57 : decode cX11_unit 57 = .ok (.aload_n 0, 1) := by decide +kernel
theorem dX11_unit_58 : decode cX11_unit 58 = .ok (.invokevirtual 95, 3) := by decide +kernel
theorem dX11_unit_61 : decode cX11_unit 61 = .ok (.iload_n 3, 1) := by decide +kernel
theorem dX11_unit_62 : decode cX11_unit 62 = .ok (.ireturn, 1) := by decide +kernel
theorem dX11_edge_0 : decode cX11_edge 0 = .ok (.aload_n 0, 1) := by decide +kernel
theorem dX11_edge_1 : decode cX11_edge 1 = .ok (.getfield 10, 3) := by decide +kernel
theorem dX11_edge_4 : decode cX11_edge 4 = .ok (.iload_n 1, 1) := by decide +kernel
theorem dX11_edge_5 : decode cX11_edge 5 = .ok (.invokevirtual 116, 3) := by decide +kernel
theorem dX11_edge_8 : decode cX11_edge 8 = .ok (.ifCond .eq 14, 3) := by decide +kernel
theorem dX11_edge_11 : decode cX11_edge 11 = .ok (.aload_n 0, 1) := by decide +kernel
theorem dX11_edge_12 : decode cX11_edge 12 = .ok (.getfield 10, 3) := by decide +kernel
theorem dX11_edge_15 : decode cX11_edge 15 = .ok (.iload_n 2, 1) := by decide +kernel
theorem dX11_edge_16 : decode cX11_edge 16 = .ok (.invokevirtual 116, 3) := by decide +kernel
theorem dX11_edge_19 : decode cX11_edge 19 = .ok (.ifCond .ne 10, 3) := by decide +kernel
theorem dX11_edge_22 : decode cX11_edge 22 = .ok (.aload_n 0, 1) := by decide +kernel
theorem dX11_edge_23 : decode cX11_edge 23 = .ok (.bipush (-3), 2) := by decide +kernel
theorem dX11_edge_25 : decode cX11_edge 25 = .ok (.invokevirtual 88, 3) := by decide +kernel
theorem dX11_edge_28 : decode cX11_edge 28 = .ok (.ireturn, 1) := by decide +kernel
theorem dX11_edge_29 : decode cX11_edge 29 = .ok (.iload_n 3, 1) := by decide +kernel
theorem dX11_edge_30 : decode cX11_edge 30 = .ok (.bipush (-50), 2) := by decide +kernel
theorem dX11_edge_32 : decode cX11_edge 32 = .ok (.if_icmp .lt 17, 3) := by decide +kernel
theorem dX11_edge_35 : decode cX11_edge 35 = .ok (.iload_n 3, 1) := by decide +kernel
theorem dX11_edge_36 : decode cX11_edge 36 = .ok (.bipush 50, 2) := by decide +kernel
theorem dX11_edge_38 : decode cX11_edge 38 = .ok (.if_icmp .gt 11, 3) := by decide +kernel
theorem dX11_edge_41 : decode cX11_edge 41 = .ok (.iload 4, 2) := by decide +kernel
theorem dX11_edge_43 : decode cX11_edge 43 = .ok (.invokestatic 98, 3) := by decide +kernel
theorem dX11_edge_46 : decode cX11_edge 46 = .ok (.ifCond .ne 10, 3) := by decide +kernel
theorem dX11_edge_49 : decode cX11_edge 49 = .ok (.aload_n 0, 1) := by decide +kernel
theorem dX11_edge_50 : decode cX11_edge 50 = .ok (.bipush (-9), 2) := by decide +kernel
theorem dX11_edge_52 : decode cX11_edge 52 = .ok (.invokevirtual 88, 3) := by decide +kernel
theorem dX11_edge_55 : decode cX11_edge 55 = .ok (.ireturn, 1) := by decide +kernel
theorem dX11_edge_56 : decode cX11_edge 56 = .ok (.aload_n 0, 1) := by decide +kernel
theorem dX11_edge_57 : decode cX11_edge 57 = .ok (.getfield 10, 3) := by decide +kernel
theorem dX11_edge_60 : decode cX11_edge 60 = .ok (.getfield 137, 3) := by decide +kernel
theorem dX11_edge_63 : decode cX11_edge 63 = .ok (.iload_n 1, 1) := by decide +kernel
theorem dX11_edge_64 : decode cX11_edge 64 = .ok (.iload_n 2, 1) := by decide +kernel
theorem dX11_edge_65 : decode cX11_edge 65 = .ok (.iload_n 3, 1) := by decide +kernel
theorem dX11_edge_66 : decode cX11_edge 66 = .ok (.iload 4, 2) := by decide +kernel
theorem dX11_edge_68 : decode cX11_edge 68 = .ok (.invokevirtual 140, 3) := by decide +kernel
theorem dX11_edge_71 : decode cX11_edge 71 = .ok (.ifCond .ne 10, 3) := by decide +kernel
theorem dX11_edge_74 : decode cX11_edge 74 = .ok (.aload_n 0, 1) := by decide +kernel
theorem dX11_edge_75 : decode cX11_edge 75 = .ok (.bipush (-10), 2) := by decide +kernel
theorem dX11_edge_77 : decode cX11_edge 77 = .ok (.invokevirtual 88, 3) := by decide +kernel
theorem dX11_edge_80 : decode cX11_edge 80 = .ok (.ireturn, 1) := by decide +kernel
theorem dX11_edge_81 : decode cX11_edge 81 = .ok (.aload_n 0, 1) := by decide +kernel
theorem dX11_edge_82 : decode cX11_edge 82 = .ok (.invokevirtual 95, 3) := by decide +kernel
theorem dX11_edge_85 : decode cX11_edge 85 = .ok (.aload_n 0, 1) := by decide +kernel
theorem dX11_edge_86 : decode cX11_edge 86 = .ok (.getfield 10, 3) := by decide +kernel
theorem dX11_edge_89 : decode cX11_edge 89 = .ok (.getfield 137, 3) := by decide +kernel
theorem dX11_edge_92 : decode cX11_edge 92 = .ok (.getfield 146, 3) := by decide +kernel
theorem dX11_edge_95 : decode cX11_edge 95 = .ok (.ireturn, 1) := by decide +kernel
theorem dX11_undo_0 : decode cX11_undo 0 = .ok (.aload_n 0, 1) := by decide +kernel
theorem dX11_undo_1 : decode cX11_undo 1 = .ok (.getfield 10, 3) := by decide +kernel
theorem dX11_undo_4 : decode cX11_undo 4 = .ok (.getfield 149, 3) := by decide +kernel
theorem dX11_undo_7 : decode cX11_undo 7 = .ok (.iconst 1, 1) := by decide +kernel
theorem dX11_undo_8 : decode cX11_undo 8 = .ok (.isub, 1) := by decide +kernel
theorem dX11_undo_9 : decode cX11_undo 9 = .ok (.istore_n 1, 1) := by decide +kernel
theorem dX11_undo_10 : decode cX11_undo 10 = .ok (.iload_n 1, 1) := by decide +kernel
theorem dX11_undo_11 : decode cX11_undo 11 = .ok (.ifCond .ge 10, 3) := by decide +kernel
theorem dX11_undo_14 : decode cX11_undo 14 = .ok (.aload_n 0, 1) := by decide +kernel
theorem dX11_undo_15 : decode cX11_undo 15 = .ok (.bipush (-2), 2) := by decide +kernel
theorem dX11_undo_17 : decode cX11_undo 17 = .ok (.invokevirtual 88, 3) := by decide +kernel
theorem dX11_undo_20 : decode cX11_undo 20 = .ok (.ireturn, 1) := by decide +kernel
theorem dX11_undo_21 : decode cX11_undo 21 = .ok (.aload_n 0, 1) := by decide +kernel
theorem dX11_undo_22 : decode cX11_undo 22 = .ok (.getfield 10, 3) := by decide +kernel
theorem dX11_undo_25 : decode cX11_undo 25 = .ok (.iload_n 1, 1) := by decide +kernel
theorem dX11_undo_26 : decode cX11_undo 26 = .ok (.invokevirtual 152, 3) := by decide +kernel
theorem dX11_undo_29 : decode cX11_undo 29 = .ok (.ifCond .eq 10, 3) := by decide +kernel
theorem dX11_undo_32 : decode cX11_undo 32 = .ok (.aload_n 0, 1) := by decide +kernel
theorem dX11_undo_33 : decode cX11_undo 33 = .ok (.bipush (-9), 2) := by decide +kernel
theorem dX11_undo_35 : decode cX11_undo 35 = .ok (.invokevirtual 88, 3) := by decide +kernel
theorem dX11_undo_38 : decode cX11_undo 38 = .ok (.ireturn, 1) := by decide +kernel
theorem dX11_undo_39 : decode cX11_undo 39 = .ok (.aload_n 0, 1) := by decide +kernel
theorem dX11_undo_40 : decode cX11_undo 40 = .ok (.getfield 10, 3) := by decide +kernel
theorem dX11_undo_43 : decode cX11_undo 43 = .ok (.iload_n 1, 1) := by decide +kernel
theorem dX11_undo_44 : decode cX11_undo 44 = .ok (.putfield 149, 3) := by decide +kernel
theorem dX11_undo_47 : decode cX11_undo 47 = .ok (.aload_n 0, 1) := by decide +kernel
theorem dX11_undo_48 : decode cX11_undo 48 = .ok (.getfield 10, 3) := by decide +kernel
theorem dX11_undo_51 : decode cX11_undo 51 = .ok (.getfield 137, 3) := by decide +kernel
theorem dX11_undo_54 : decode cX11_undo 54 = .ok (.iload_n 1, 1) := by decide +kernel
theorem dX11_undo_55 : decode cX11_undo 55 = .ok (.invokevirtual 155, 3) := by decide +kernel
theorem dX11_undo_58 : decode cX11_undo 58 = .ok (.aload_n 0, 1) := by decide +kernel
theorem dX11_undo_59 : decode cX11_undo 59 = .ok (.invokevirtual 95, 3) := by decide +kernel
theorem dX11_undo_62 : decode cX11_undo 62 = .ok (.iload_n 1, 1) := by decide +kernel
theorem dX11_undo_63 : decode cX11_undo 63 = .ok (.ireturn, 1) := by decide +kernel
theorem dX11_act_0 : decode cX11_act 0 = .ok (.aload_n 0, 1) := by decide +kernel
theorem dX11_act_1 : decode cX11_act 1 = .ok (.getfield 10, 3) := by decide +kernel
theorem dX11_act_4 : decode cX11_act 4 = .ok (.iload_n 1, 1) := by decide +kernel
theorem dX11_act_5 : decode cX11_act 5 = .ok (.invokevirtual 116, 3) := by decide +kernel
theorem dX11_act_8 : decode cX11_act 8 = .ok (.ifCond .ne 10, 3) := by decide +kernel
theorem dX11_act_11 : decode cX11_act 11 = .ok (.aload_n 0, 1) := by decide +kernel
theorem dX11_act_12 : decode cX11_act 12 = .ok (.bipush (-3), 2) := by decide +kernel
theorem dX11_act_14 : decode cX11_act 14 = .ok (.invokevirtual 88, 3) := by decide +kernel
theorem dX11_act_17 : decode cX11_act 17 = .ok (.ireturn, 1) := by decide +kernel
theorem dX11_act_18 : decode cX11_act 18 = .ok (.iload_n 2, 1) := by decide +kernel
theorem dX11_act_19 : decode cX11_act 19 = .ok (.tableswitch 83 0 4 #[33, 43, 53, 63, 73], 33) := by decide +kernel
theorem dX11_act_52 : decode cX11_act 52 = .ok (.aload_n 0, 1) := by decide +kernel
theorem dX11_act_53 : decode cX11_act 53 = .ok (.getfield 10, 3) := by decide +kernel
theorem dX11_act_56 : decode cX11_act 56 = .ok (.getfield 159, 3) := by decide +kernel
theorem dX11_act_59 : decode cX11_act 59 = .ok (.iload_n 1, 1) := by decide +kernel
theorem dX11_act_60 : decode cX11_act 60 = .ok (.iaload, 1) := by decide +kernel
theorem dX11_act_61 : decode cX11_act 61 = .ok (.ireturn, 1) := by decide +kernel
theorem dX11_act_62 : decode cX11_act 62 = .ok (.aload_n 0, 1) := by decide +kernel
theorem dX11_act_63 : decode cX11_act 63 = .ok (.getfield 10, 3) := by decide +kernel
theorem dX11_act_66 : decode cX11_act 66 = .ok (.getfield 122, 3) := by decide +kernel
theorem dX11_act_69 : decode cX11_act 69 = .ok (.iload_n 1, 1) := by decide +kernel
theorem dX11_act_70 : decode cX11_act 70 = .ok (.iaload, 1) := by decide +kernel
theorem dX11_act_71 : decode cX11_act 71 = .ok (.ireturn, 1) := by decide +kernel
theorem dX11_act_72 : decode cX11_act 72 = .ok (.aload_n 0, 1) := by decide +kernel
theorem dX11_act_73 : decode cX11_act 73 = .ok (.getfield 10, 3) := by decide +kernel
theorem dX11_act_76 : decode cX11_act 76 = .ok (.getfield 125, 3) := by decide +kernel
theorem dX11_act_79 : decode cX11_act 79 = .ok (.iload_n 1, 1) := by decide +kernel
theorem dX11_act_80 : decode cX11_act 80 = .ok (.iaload, 1) := by decide +kernel
theorem dX11_act_81 : decode cX11_act 81 = .ok (.ireturn, 1) := by decide +kernel
theorem dX11_act_82 : decode cX11_act 82 = .ok (.aload_n 0, 1) := by decide +kernel
theorem dX11_act_83 : decode cX11_act 83 = .ok (.getfield 10, 3) := by decide +kernel
theorem dX11_act_86 : decode cX11_act 86 = .ok (.getfield 128, 3) := by decide +kernel
theorem dX11_act_89 : decode cX11_act 89 = .ok (.iload_n 1, 1) := by decide +kernel
theorem dX11_act_90 : decode cX11_act 90 = .ok (.iaload, 1) := by decide +kernel
theorem dX11_act_91 : decode cX11_act 91 = .ok (.ireturn, 1) := by decide +kernel
theorem dX11_act_92 : decode cX11_act 92 = .ok (.aload_n 0, 1) := by decide +kernel
theorem dX11_act_93 : decode cX11_act 93 = .ok (.getfield 10, 3) := by decide +kernel
theorem dX11_act_96 : decode cX11_act 96 = .ok (.getfield 113, 3) := by decide +kernel
theorem dX11_act_99 : decode cX11_act 99 = .ok (.iload_n 1, 1) := by decide +kernel
theorem dX11_act_100 : decode cX11_act 100 = .ok (.iaload, 1) := by decide +kernel
theorem dX11_act_101 : decode cX11_act 101 = .ok (.ireturn, 1) := by decide +kernel
theorem dX11_act_102 : decode cX11_act 102 = .ok (.iload_n 2, 1) := by decide +kernel
theorem dX11_act_103 : decode cX11_act 103 = .ok (.iconst 5, 1) := by decide +kernel
theorem dX11_act_104 : decode cX11_act 104 = .ok (.if_icmp .lt 9, 3) := by decide +kernel
theorem dX11_act_107 : decode cX11_act 107 = .ok (.iload_n 2, 1) := by decide +kernel
theorem dX11_act_108 : decode cX11_act 108 = .ok (.bipush 10, 2) := by decide +kernel
theorem dX11_act_110 : decode cX11_act 110 = .ok (.if_icmp .le 12, 3) := by decide +kernel
theorem dX11_act_113 : decode cX11_act 113 = .ok (.aload_n 0, 1) := by decide +kernel
theorem dX11_act_114 : decode cX11_act 114 = .ok (.bipush (-9), 2) := by decide +kernel
theorem dX11_act_116 : decode cX11_act 116 = .ok (.invokevirtual 88, 3) := by decide +kernel
theorem dX11_act_119 : decode cX11_act 119 = .ok (.goto 11, 3) := by decide +kernel
theorem dX11_act_122 : decode cX11_act 122 = .ok (.aload_n 0, 1) := by decide +kernel
theorem dX11_act_123 : decode cX11_act 123 = .ok (.iload_n 1, 1) := by decide +kernel
theorem dX11_act_124 : decode cX11_act 124 = .ok (.iload_n 2, 1) := by decide +kernel
theorem dX11_act_125 : decode cX11_act 125 = .ok (.iconst 5, 1) := by decide +kernel
theorem dX11_act_126 : decode cX11_act 126 = .ok (.isub, 1) := by decide +kernel
theorem dX11_act_127 : decode cX11_act 127 = .ok (.invokevirtual 162, 3) := by decide +kernel
theorem dX11_act_130 : decode cX11_act 130 = .ok (.ireturn, 1) := by decide +kernel
theorem dX11_number_0 : decode cX11_number 0 = .ok (.aload_n 0, 1) := by decide +kernel
theorem dX11_number_1 : decode cX11_number 1 = .ok (.getfield 10, 3) := by decide +kernel
theorem dX11_number_4 : decode cX11_number 4 = .ok (.iload_n 1, 1) := by decide +kernel
theorem dX11_number_5 : decode cX11_number 5 = .ok (.invokevirtual 116, 3) := by decide +kernel
theorem dX11_number_8 : decode cX11_number 8 = .ok (.ifCond .ne 12, 3) := by decide +kernel
theorem dX11_number_11 : decode cX11_number 11 = .ok (.aload_n 0, 1) := by decide +kernel
theorem dX11_number_12 : decode cX11_number 12 = .ok (.bipush (-3), 2) := by decide +kernel
theorem dX11_number_14 : decode cX11_number 14 = .ok (.invokevirtual 88, 3) := by decide +kernel
theorem dX11_number_17 : decode cX11_number 17 = .ok (.pop, 1) := by decide +kernel
theorem dX11_number_18 : decode cX11_number 18 = .ok (.lconst 0, 1) := by decide +kernel
theorem dX11_number_19 : decode cX11_number 19 = .ok (.lreturn, 1) := by decide +kernel
theorem dX11_number_20 : decode cX11_number 20 = .ok (.aload_n 0, 1) := by decide +kernel
theorem dX11_number_21 : decode cX11_number 21 = .ok (.getfield 10, 3) := by decide +kernel
theorem dX11_number_24 : decode cX11_number 24 = .ok (.getfield 159, 3) := by decide +kernel
theorem dX11_number_27 : decode cX11_number 27 = .ok (.iload_n 1, 1) := by decide +kernel
theorem dX11_number_28 : decode cX11_number 28 = .ok (.iaload, 1) := by decide +kernel
theorem dX11_number_29 : decode cX11_number 29 = .ok (.ifCond .eq 12, 3) := by decide +kernel
theorem dX11_number_32 : decode cX11_number 32 = .ok (.aload_n 0, 1) := by decide +kernel
theorem dX11_number_33 : decode cX11_number 33 = .ok (.bipush (-5), 2) := by decide +kernel
theorem dX11_number_35 : decode cX11_number 35 = .ok (.invokevirtual 88, 3) := by decide +kernel
theorem dX11_number_38 : decode cX11_number 38 = .ok (.pop, 1) := by decide +kernel
theorem dX11_number_39 : decode cX11_number 39 = .ok (.lconst 0, 1) := by decide +kernel
theorem dX11_number_40 : decode cX11_number 40 = .ok (.lreturn, 1) := by decide +kernel
theorem dX11_number_41 : decode cX11_number 41 = .ok (.aload_n 0, 1) := by decide +kernel
theorem dX11_number_42 : decode cX11_number 42 = .ok (.getfield 10, 3) := by decide +kernel
theorem dX11_number_45 : decode cX11_number 45 = .ok (.getfield 91, 3) := by decide +kernel
theorem dX11_number_48 : decode cX11_number 48 = .ok (.iload_n 1, 1) := by decide +kernel
theorem dX11_number_49 : decode cX11_number 49 = .ok (.laload, 1) := by decide +kernel
theorem dX11_number_50 : decode cX11_number 50 = .ok (.lreturn, 1) := by decide +kernel
theorem dX11_count_0 : decode cX11_count 0 = .ok (.iload_n 1, 1) := by decide +kernel
theorem dX11_count_1 : decode cX11_count 1 = .ok (.tableswitch 89 0 4 #[35, 43, 54, 73, 81], 35) := by decide +kernel
theorem dX11_count_36 : decode cX11_count 36 = .ok (.aload_n 0, 1) := by decide +kernel
theorem dX11_count_37 : decode cX11_count 37 = .ok (.getfield 10, 3) := by decide +kernel
theorem dX11_count_40 : decode cX11_count 40 = .ok (.getfield 149, 3) := by decide +kernel
theorem dX11_count_43 : decode cX11_count 43 = .ok (.ireturn, 1) := by decide +kernel
theorem dX11_count_44 : decode cX11_count 44 = .ok (.aload_n 0, 1) := by decide +kernel
theorem dX11_count_45 : decode cX11_count 45 = .ok (.getfield 10, 3) := by decide +kernel
theorem dX11_count_48 : decode cX11_count 48 = .ok (.getfield 137, 3) := by decide +kernel
theorem dX11_count_51 : decode cX11_count 51 = .ok (.getfield 146, 3) := by decide +kernel
theorem dX11_count_54 : decode cX11_count 54 = .ok (.ireturn, 1) := by decide +kernel
theorem dX11_count_55 : decode cX11_count 55 = .ok (.aload_n 0, 1) := by decide +kernel
theorem dX11_count_56 : decode cX11_count 56 = .ok (.getfield 19, 3) := by decide +kernel
theorem dX11_count_59 : decode cX11_count 59 = .ok (.aload_n 0, 1) := by decide +kernel
theorem dX11_count_60 : decode cX11_count 60 = .ok (.getfield 10, 3) := by decide +kernel
theorem dX11_count_63 : decode cX11_count 63 = .ok (.invokevirtual 166, 3) := by decide +kernel
theorem dX11_count_66 : decode cX11_count 66 = .ok (.aload_n 0, 1) := by decide +kernel
theorem dX11_count_67 : decode cX11_count 67 = .ok (.getfield 19, 3) := by decide +kernel
theorem dX11_count_70 : decode cX11_count 70 = .ok (.getfield 170, 3) := by decide +kernel
theorem dX11_count_73 : decode cX11_count 73 = .ok (.ireturn, 1) := by decide +kernel
theorem dX11_count_74 : decode cX11_count 74 = .ok (.aload_n 0, 1) := by decide +kernel
theorem dX11_count_75 : decode cX11_count 75 = .ok (.getfield 10, 3) := by decide +kernel
theorem dX11_count_78 : decode cX11_count 78 = .ok (.invokevirtual 173, 3) := by decide +kernel
theorem dX11_count_81 : decode cX11_count 81 = .ok (.ireturn, 1) := by decide +kernel
theorem dX11_count_82 : decode cX11_count 82 = .ok (.aload_n 0, 1) := by decide +kernel
theorem dX11_count_83 : decode cX11_count 83 = .ok (.getfield 10, 3) := by decide +kernel
theorem dX11_count_86 : decode cX11_count 86 = .ok (.invokevirtual 177, 3) := by decide +kernel
theorem dX11_count_89 : decode cX11_count 89 = .ok (.ireturn, 1) := by decide +kernel
theorem dX11_count_90 : decode cX11_count 90 = .ok (.aload_n 0, 1) := by decide +kernel
theorem dX11_count_91 : decode cX11_count 91 = .ok (.bipush (-9), 2) := by decide +kernel
theorem dX11_count_93 : decode cX11_count 93 = .ok (.invokevirtual 88, 3) := by decide +kernel
theorem dX11_count_96 : decode cX11_count 96 = .ok (.ireturn, 1) := by decide +kernel
theorem dX11_whole_0 : decode cX11_whole 0 = .ok (.aload_n 0, 1) := by decide +kernel
theorem dX11_whole_1 : decode cX11_whole 1 = .ok (.getfield 10, 3) := by decide +kernel
theorem dX11_whole_4 : decode cX11_whole 4 = .ok (.invokevirtual 180, 3) := by decide +kernel
theorem dX11_whole_7 : decode cX11_whole 7 = .ok (.ifCond .eq 7, 3) := by decide +kernel
theorem dX11_whole_10 : decode cX11_whole 10 = .ok (.iconst 1, 1) := by decide +kernel
theorem dX11_whole_11 : decode cX11_whole 11 = .ok (.goto 4, 3) := by decide +kernel
theorem dX11_whole_14 : decode cX11_whole 14 = .ok (.iconst 0, 1) := by decide +kernel
theorem dX11_whole_15 : decode cX11_whole 15 = .ok (.ireturn, 1) := by decide +kernel
theorem dX11_row_0 : decode cX11_row 0 = .ok (.iload_n 1, 1) := by decide +kernel
theorem dX11_row_1 : decode cX11_row 1 = .ok (.invokestatic 110, 3) := by decide +kernel
theorem dX11_row_4 : decode cX11_row 4 = .ok (.ifCond .ne 10, 3) := by decide +kernel
theorem dX11_row_7 : decode cX11_row 7 = .ok (.aload_n 0, 1) := by decide +kernel
theorem dX11_row_8 : decode cX11_row 8 = .ok (.bipush (-3), 2) := by decide +kernel
theorem dX11_row_10 : decode cX11_row 10 = .ok (.invokevirtual 88, 3) := by decide +kernel
theorem dX11_row_13 : decode cX11_row 13 = .ok (.ireturn, 1) := by decide +kernel
theorem dX11_row_14 : decode cX11_row 14 = .ok (.iload_n 2, 1) := by decide +kernel
theorem dX11_row_15 : decode cX11_row 15 = .ok (.ifCond .ge 10, 3) := by decide +kernel
theorem dX11_row_18 : decode cX11_row 18 = .ok (.aload_n 0, 1) := by decide +kernel
theorem dX11_row_19 : decode cX11_row 19 = .ok (.bipush (-4), 2) := by decide +kernel
theorem dX11_row_21 : decode cX11_row 21 = .ok (.invokevirtual 88, 3) := by decide +kernel
theorem dX11_row_24 : decode cX11_row 24 = .ok (.ireturn, 1) := by decide +kernel
theorem dX11_row_25 : decode cX11_row 25 = .ok (.iload_n 2, 1) := by decide +kernel
theorem dX11_row_26 : decode cX11_row 26 = .ok (.ifCond .eq 9, 3) := by decide +kernel
theorem dX11_row_29 : decode cX11_row 29 = .ok (.iload_n 2, 1) := by decide +kernel
theorem dX11_row_30 : decode cX11_row 30 = .ok (.bipush 40, 2) := by decide +kernel
theorem dX11_row_32 : decode cX11_row 32 = .ok (.if_icmp .le 10, 3) := by decide +kernel
theorem dX11_row_35 : decode cX11_row 35 = .ok (.aload_n 0, 1) := by decide +kernel
theorem dX11_row_36 : decode cX11_row 36 = .ok (.bipush (-9), 2) := by decide +kernel
theorem dX11_row_38 : decode cX11_row 38 = .ok (.invokevirtual 88, 3) := by decide +kernel
theorem dX11_row_41 : decode cX11_row 41 = .ok (.ireturn, 1) := by decide +kernel
theorem dX11_row_42 : decode cX11_row 42 = .ok (.aload_n 0, 1) := by decide +kernel
theorem dX11_row_43 : decode cX11_row 43 = .ok (.getfield 26, 3) := by decide +kernel
theorem dX11_row_46 : decode cX11_row 46 = .ok (.iload_n 1, 1) := by decide +kernel
theorem dX11_row_47 : decode cX11_row 47 = .ok (.iload_n 2, 1) := by decide +kernel
theorem dX11_row_48 : decode cX11_row 48 = .ok (.iload_n 3, 1) := by decide +kernel
theorem dX11_row_49 : decode cX11_row 49 = .ok (.invokevirtual 184, 3) := by decide +kernel
theorem dX11_row_52 : decode cX11_row 52 = .ok (.iconst 1, 1) := by decide +kernel
theorem dX11_row_53 : decode cX11_row 53 = .ok (.ireturn, 1) := by decide +kernel
theorem dX11_empty_0 : decode cX11_empty 0 = .ok (.iload_n 1, 1) := by decide +kernel
theorem dX11_empty_1 : decode cX11_empty 1 = .ok (.invokestatic 110, 3) := by decide +kernel
theorem dX11_empty_4 : decode cX11_empty 4 = .ok (.ifCond .ne 10, 3) := by decide +kernel
theorem dX11_empty_7 : decode cX11_empty 7 = .ok (.aload_n 0, 1) := by decide +kernel
theorem dX11_empty_8 : decode cX11_empty 8 = .ok (.bipush (-3), 2) := by decide +kernel
theorem dX11_empty_10 : decode cX11_empty 10 = .ok (.invokevirtual 88, 3) := by decide +kernel
theorem dX11_empty_13 : decode cX11_empty 13 = .ok (.ireturn, 1) := by decide +kernel
theorem dX11_empty_14 : decode cX11_empty 14 = .ok (.aload_n 0, 1) := by decide +kernel
theorem dX11_empty_15 : decode cX11_empty 15 = .ok (.getfield 26, 3) := by decide +kernel
theorem dX11_empty_18 : decode cX11_empty 18 = .ok (.iload_n 1, 1) := by decide +kernel
theorem dX11_empty_19 : decode cX11_empty 19 = .ok (.invokevirtual 188, 3) := by decide +kernel
theorem dX11_empty_22 : decode cX11_empty 22 = .ok (.ifCond .eq 7, 3) := by decide +kernel
theorem dX11_empty_25 : decode cX11_empty 25 = .ok (.iconst 1, 1) := by decide +kernel
theorem dX11_empty_26 : decode cX11_empty 26 = .ok (.goto 4, 3) := by decide +kernel
theorem dX11_empty_29 : decode cX11_empty 29 = .ok (.iconst 0, 1) := by decide +kernel
theorem dX11_empty_30 : decode cX11_empty 30 = .ok (.ireturn, 1) := by decide +kernel
theorem dX11_set_0 : decode cX11_set 0 = .ok (.aload_n 0, 1) := by decide +kernel
theorem dX11_set_1 : decode cX11_set 1 = .ok (.getfield 26, 3) := by decide +kernel
theorem dX11_set_4 : decode cX11_set 4 = .ok (.iload_n 1, 1) := by decide +kernel
theorem dX11_set_5 : decode cX11_set 5 = .ok (.iload_n 2, 1) := by decide +kernel
theorem dX11_set_6 : decode cX11_set 6 = .ok (.i2l, 1) := by decide +kernel
theorem dX11_set_7 : decode cX11_set 7 = .ok (.invokevirtual 191, 3) := by decide +kernel
theorem dX11_set_10 : decode cX11_set 10 = .ok (.istore 5, 2) := by decide +kernel
theorem dX11_set_12 : decode cX11_set 12 = .ok (.iload 5, 2) := by decide +kernel
theorem dX11_set_14 : decode cX11_set 14 = .ok (.ifCond .eq 10, 3) := by decide +kernel
theorem dX11_set_17 : decode cX11_set 17 = .ok (.aload_n 0, 1) := by decide +kernel
theorem dX11_set_18 : decode cX11_set 18 = .ok (.iload 5, 2) := by decide +kernel
theorem dX11_set_20 : decode cX11_set 20 = .ok (.invokevirtual 88, 3) := by decide +kernel
theorem dX11_set_23 : decode cX11_set 23 = .ok (.ireturn, 1) := by decide +kernel
theorem dX11_set_24 : decode cX11_set 24 = .ok (.aload_n 0, 1) := by decide +kernel
theorem dX11_set_25 : decode cX11_set 25 = .ok (.getfield 26, 3) := by decide +kernel
theorem dX11_set_28 : decode cX11_set 28 = .ok (.getfield 195, 3) := by decide +kernel
theorem dX11_set_31 : decode cX11_set 31 = .ok (.iload_n 1, 1) := by decide +kernel
theorem dX11_set_32 : decode cX11_set 32 = .ok (.iload_n 2, 1) := by decide +kernel
theorem dX11_set_33 : decode cX11_set 33 = .ok (.invokestatic 198, 3) := by decide +kernel
theorem dX11_set_36 : decode cX11_set 36 = .ok (.lload_n 3, 1) := by decide +kernel
theorem dX11_set_37 : decode cX11_set 37 = .ok (.lastore, 1) := by decide +kernel
theorem dX11_set_38 : decode cX11_set 38 = .ok (.iconst 1, 1) := by decide +kernel
theorem dX11_set_39 : decode cX11_set 39 = .ok (.ireturn, 1) := by decide +kernel
theorem dX11_get_0 : decode cX11_get 0 = .ok (.aload_n 0, 1) := by decide +kernel
theorem dX11_get_1 : decode cX11_get 1 = .ok (.getfield 26, 3) := by decide +kernel
theorem dX11_get_4 : decode cX11_get 4 = .ok (.iload_n 1, 1) := by decide +kernel
theorem dX11_get_5 : decode cX11_get 5 = .ok (.iload_n 2, 1) := by decide +kernel
theorem dX11_get_6 : decode cX11_get 6 = .ok (.i2l, 1) := by decide +kernel
theorem dX11_get_7 : decode cX11_get 7 = .ok (.invokevirtual 191, 3) := by decide +kernel
theorem dX11_get_10 : decode cX11_get 10 = .ok (.istore_n 3, 1) := by decide +kernel
theorem dX11_get_11 : decode cX11_get 11 = .ok (.iload_n 3, 1) := by decide +kernel
theorem dX11_get_12 : decode cX11_get 12 = .ok (.ifCond .eq 11, 3) := by decide +kernel
theorem dX11_get_15 : decode cX11_get 15 = .ok (.aload_n 0, 1) := by decide +kernel
theorem dX11_get_16 : decode cX11_get 16 = .ok (.iload_n 3, 1) := by decide +kernel
theorem dX11_get_17 : decode cX11_get 17 = .ok (.invokevirtual 88, 3) := by decide +kernel
theorem dX11_get_20 : decode cX11_get 20 = .ok (.pop, 1) := by decide +kernel
theorem dX11_get_21 : decode cX11_get 21 = .ok (.lconst 0, 1) := by decide +kernel
theorem dX11_get_22 : decode cX11_get 22 = .ok (.lreturn, 1) := by decide +kernel
theorem dX11_get_23 : decode cX11_get 23 = .ok (.aload_n 0, 1) := by decide +kernel
theorem dX11_get_24 : decode cX11_get 24 = .ok (.getfield 26, 3) := by decide +kernel
theorem dX11_get_27 : decode cX11_get 27 = .ok (.getfield 195, 3) := by decide +kernel
theorem dX11_get_30 : decode cX11_get 30 = .ok (.iload_n 1, 1) := by decide +kernel
theorem dX11_get_31 : decode cX11_get 31 = .ok (.iload_n 2, 1) := by decide +kernel
theorem dX11_get_32 : decode cX11_get 32 = .ok (.invokestatic 198, 3) := by decide +kernel
theorem dX11_get_35 : decode cX11_get 35 = .ok (.laload, 1) := by decide +kernel
theorem dX11_get_36 : decode cX11_get 36 = .ok (.lreturn, 1) := by decide +kernel
theorem dX11_copy_0 : decode cX11_copy 0 = .ok (.iload_n 1, 1) := by decide +kernel
theorem dX11_copy_1 : decode cX11_copy 1 = .ok (.invokestatic 110, 3) := by decide +kernel
theorem dX11_copy_4 : decode cX11_copy 4 = .ok (.ifCond .eq 10, 3) := by decide +kernel
theorem dX11_copy_7 : decode cX11_copy 7 = .ok (.iload_n 3, 1) := by decide +kernel
theorem dX11_copy_8 : decode cX11_copy 8 = .ok (.invokestatic 110, 3) := by decide +kernel
theorem dX11_copy_11 : decode cX11_copy 11 = .ok (.ifCond .ne 10, 3) := by decide +kernel
theorem dX11_copy_14 : decode cX11_copy 14 = .ok (.aload_n 0, 1) := by decide +kernel
theorem dX11_copy_15 : decode cX11_copy 15 = .ok (.bipush (-3), 2) := by decide +kernel
theorem dX11_copy_17 : decode cX11_copy 17 = .ok (.invokevirtual 88, 3) := by decide +kernel
theorem dX11_copy_20 : decode cX11_copy 20 = .ok (.ireturn, 1) := by decide +kernel
theorem dX11_copy_21 : decode cX11_copy 21 = .ok (.aload_n 0, 1) := by decide +kernel
theorem dX11_copy_22 : decode cX11_copy 22 = .ok (.getfield 26, 3) := by decide +kernel
theorem dX11_copy_25 : decode cX11_copy 25 = .ok (.getfield 201, 3) := by decide +kernel
theorem dX11_copy_28 : decode cX11_copy 28 = .ok (.iload_n 1, 1) := by decide +kernel
theorem dX11_copy_29 : decode cX11_copy 29 = .ok (.iaload, 1) := by decide +kernel
theorem dX11_copy_30 : decode cX11_copy 30 = .ok (.ifCond .eq 15, 3) := by decide +kernel
theorem dX11_copy_33 : decode cX11_copy 33 = .ok (.aload_n 0, 1) := by decide +kernel
theorem dX11_copy_34 : decode cX11_copy 34 = .ok (.getfield 26, 3) := by decide +kernel
theorem dX11_copy_37 : decode cX11_copy 37 = .ok (.getfield 201, 3) := by decide +kernel
theorem dX11_copy_40 : decode cX11_copy 40 = .ok (.iload_n 3, 1) := by decide +kernel
theorem dX11_copy_41 : decode cX11_copy 41 = .ok (.iaload, 1) := by decide +kernel
theorem dX11_copy_42 : decode cX11_copy 42 = .ok (.ifCond .ne 10, 3) := by decide +kernel
theorem dX11_copy_45 : decode cX11_copy 45 = .ok (.aload_n 0, 1) := by decide +kernel
theorem dX11_copy_46 : decode cX11_copy 46 = .ok (.bipush (-2), 2) := by decide +kernel
theorem dX11_copy_48 : decode cX11_copy 48 = .ok (.invokevirtual 88, 3) := by decide +kernel
theorem dX11_copy_51 : decode cX11_copy 51 = .ok (.ireturn, 1) := by decide +kernel
theorem dX11_copy_52 : decode cX11_copy 52 = .ok (.aload_n 0, 1) := by decide +kernel
theorem dX11_copy_53 : decode cX11_copy 53 = .ok (.getfield 26, 3) := by decide +kernel
theorem dX11_copy_56 : decode cX11_copy 56 = .ok (.getfield 203, 3) := by decide +kernel
theorem dX11_copy_59 : decode cX11_copy 59 = .ok (.iload_n 1, 1) := by decide +kernel
theorem dX11_copy_60 : decode cX11_copy 60 = .ok (.baload, 1) := by decide +kernel
theorem dX11_copy_61 : decode cX11_copy 61 = .ok (.ifCond .eq 15, 3) := by decide +kernel
theorem dX11_copy_64 : decode cX11_copy 64 = .ok (.aload_n 0, 1) := by decide +kernel
theorem dX11_copy_65 : decode cX11_copy 65 = .ok (.getfield 26, 3) := by decide +kernel
theorem dX11_copy_68 : decode cX11_copy 68 = .ok (.getfield 203, 3) := by decide +kernel
theorem dX11_copy_71 : decode cX11_copy 71 = .ok (.iload_n 3, 1) := by decide +kernel
theorem dX11_copy_72 : decode cX11_copy 72 = .ok (.baload, 1) := by decide +kernel
theorem dX11_copy_73 : decode cX11_copy 73 = .ok (.ifCond .ne 10, 3) := by decide +kernel
theorem dX11_copy_76 : decode cX11_copy 76 = .ok (.aload_n 0, 1) := by decide +kernel
theorem dX11_copy_77 : decode cX11_copy 77 = .ok (.bipush (-5), 2) := by decide +kernel
theorem dX11_copy_79 : decode cX11_copy 79 = .ok (.invokevirtual 88, 3) := by decide +kernel
theorem dX11_copy_82 : decode cX11_copy 82 = .ok (.ireturn, 1) := by decide +kernel
theorem dX11_copy_83 : decode cX11_copy 83 = .ok (.iload 5, 2) := by decide +kernel
theorem dX11_copy_85 : decode cX11_copy 85 = .ok (.ifCond .ge 10, 3) := by decide +kernel
theorem dX11_copy_88 : decode cX11_copy 88 = .ok (.aload_n 0, 1) := by decide +kernel
theorem dX11_copy_89 : decode cX11_copy 89 = .ok (.bipush (-4), 2) := by decide +kernel
theorem dX11_copy_91 : decode cX11_copy 91 = .ok (.invokevirtual 88, 3) := by decide +kernel
theorem dX11_copy_94 : decode cX11_copy 94 = .ok (.ireturn, 1) := by decide +kernel
theorem dX11_copy_95 : decode cX11_copy 95 = .ok (.aload_n 0, 1) := by decide +kernel
theorem dX11_copy_96 : decode cX11_copy 96 = .ok (.getfield 26, 3) := by decide +kernel
theorem dX11_copy_99 : decode cX11_copy 99 = .ok (.iload_n 1, 1) := by decide +kernel
theorem dX11_copy_100 : decode cX11_copy 100 = .ok (.iload_n 2, 1) := by decide +kernel
theorem dX11_copy_101 : decode cX11_copy 101 = .ok (.iload 5, 2) := by decide +kernel
theorem dX11_copy_103 : decode cX11_copy 103 = .ok (.invokevirtual 207, 3) := by decide +kernel
theorem dX11_copy_106 : decode cX11_copy 106 = .ok (.ifCond .eq 18, 3) := by decide +kernel
theorem dX11_copy_109 : decode cX11_copy 109 = .ok (.aload_n 0, 1) := by decide +kernel
theorem dX11_copy_110 : decode cX11_copy 110 = .ok (.getfield 26, 3) := by decide +kernel
theorem dX11_copy_113 : decode cX11_copy 113 = .ok (.iload_n 3, 1) := by decide +kernel
theorem dX11_copy_114 : decode cX11_copy 114 = .ok (.iload 4, 2) := by decide +kernel
theorem dX11_copy_116 : decode cX11_copy 116 = .ok (.iload 5, 2) := by decide +kernel
theorem dX11_copy_118 : decode cX11_copy 118 = .ok (.invokevirtual 207, 3) := by decide +kernel
theorem dX11_copy_121 : decode cX11_copy 121 = .ok (.ifCond .ne 10, 3) := by decide +kernel
theorem dX11_copy_124 : decode cX11_copy 124 = .ok (.aload_n 0, 1) := by decide +kernel
theorem dX11_copy_125 : decode cX11_copy 125 = .ok (.bipush (-6), 2) := by decide +kernel
theorem dX11_copy_127 : decode cX11_copy 127 = .ok (.invokevirtual 88, 3) := by decide +kernel
theorem dX11_copy_130 : decode cX11_copy 130 = .ok (.ireturn, 1) := by decide +kernel
theorem dX11_copy_131 : decode cX11_copy 131 = .ok (.aload_n 0, 1) := by decide +kernel
theorem dX11_copy_132 : decode cX11_copy 132 = .ok (.getfield 26, 3) := by decide +kernel
theorem dX11_copy_135 : decode cX11_copy 135 = .ok (.getfield 195, 3) := by decide +kernel
theorem dX11_copy_138 : decode cX11_copy 138 = .ok (.iload_n 1, 1) := by decide +kernel
theorem dX11_copy_139 : decode cX11_copy 139 = .ok (.iload_n 2, 1) := by decide +kernel
theorem dX11_copy_140 : decode cX11_copy 140 = .ok (.invokestatic 198, 3) := by decide +kernel
theorem dX11_copy_143 : decode cX11_copy 143 = .ok (.aload_n 0, 1) := by decide +kernel
theorem dX11_copy_144 : decode cX11_copy 144 = .ok (.getfield 26, 3) := by decide +kernel
theorem dX11_copy_147 : decode cX11_copy 147 = .ok (.getfield 195, 3) := by decide +kernel
theorem dX11_copy_150 : decode cX11_copy 150 = .ok (.iload_n 3, 1) := by decide +kernel
theorem dX11_copy_151 : decode cX11_copy 151 = .ok (.iload 4, 2) := by decide +kernel
theorem dX11_copy_153 : decode cX11_copy 153 = .ok (.invokestatic 198, 3) := by decide +kernel
theorem dX11_copy_156 : decode cX11_copy 156 = .ok (.iload 5, 2) := by decide +kernel
theorem dX11_copy_158 : decode cX11_copy 158 = .ok (.invokestatic 211, 3) := by decide +kernel
theorem dX11_copy_161 : decode cX11_copy 161 = .ok (.iload 5, 2) := by decide +kernel
theorem dX11_copy_163 : decode cX11_copy 163 = .ok (.ireturn, 1) := by decide +kernel
theorem dX11_lowest_0 : decode cX11_lowest 0 = .ok (.aload_n 0, 1) := by decide +kernel
theorem dX11_lowest_1 : decode cX11_lowest 1 = .ok (.invokevirtual 217, 3) := by decide +kernel
theorem dX11_lowest_4 : decode cX11_lowest 4 = .ok (.istore_n 1, 1) := by decide +kernel
theorem dX11_lowest_5 : decode cX11_lowest 5 = .ok (.iload_n 1, 1) := by decide +kernel
theorem dX11_lowest_6 : decode cX11_lowest 6 = .ok (.ifCond .ge 11, 3) := by decide +kernel
theorem dX11_lowest_9 : decode cX11_lowest 9 = .ok (.aload_n 0, 1) := by decide +kernel
theorem dX11_lowest_10 : decode cX11_lowest 10 = .ok (.iload_n 1, 1) := by decide +kernel
theorem dX11_lowest_11 : decode cX11_lowest 11 = .ok (.invokevirtual 88, 3) := by decide +kernel
theorem dX11_lowest_14 : decode cX11_lowest 14 = .ok (.goto 4, 3) := by decide +kernel
theorem dX11_lowest_17 : decode cX11_lowest 17 = .ok (.iload_n 1, 1) := by decide +kernel
theorem dX11_lowest_18 : decode cX11_lowest 18 = .ok (.ireturn, 1) := by decide +kernel
theorem dX11_lay_0 : decode cX11_lay 0 = .ok (.aload_n 0, 1) := by decide +kernel
theorem dX11_lay_1 : decode cX11_lay 1 = .ok (.getfield 42, 3) := by decide +kernel
theorem dX11_lay_4 : decode cX11_lay 4 = .ok (.iconst 0, 1) := by decide +kernel
theorem dX11_lay_5 : decode cX11_lay 5 = .ok (.putfield 220, 3) := by decide +kernel
theorem dX11_lay_8 : decode cX11_lay 8 = .ok (.aload_n 0, 1) := by decide +kernel
theorem dX11_lay_9 : decode cX11_lay 9 = .ok (.invokevirtual 217, 3) := by decide +kernel
theorem dX11_lay_12 : decode cX11_lay 12 = .ok (.istore_n 1, 1) := by decide +kernel
theorem dX11_lay_13 : decode cX11_lay 13 = .ok (.iload_n 1, 1) := by decide +kernel
theorem dX11_lay_14 : decode cX11_lay 14 = .ok (.ifCond .ge 9, 3) := by decide +kernel
theorem dX11_lay_17 : decode cX11_lay 17 = .ok (.aload_n 0, 1) := by decide +kernel
theorem dX11_lay_18 : decode cX11_lay 18 = .ok (.iload_n 1, 1) := by decide +kernel
theorem dX11_lay_19 : decode cX11_lay 19 = .ok (.invokevirtual 88, 3) := by decide +kernel
theorem dX11_lay_22 : decode cX11_lay 22 = .ok (.ireturn, 1) := by decide +kernel
theorem dX11_lay_23 : decode cX11_lay 23 = .ok (.iload_n 1, 1) := by decide +kernel
theorem dX11_lay_24 : decode cX11_lay 24 = .ok (.istore_n 2, 1) := by decide +kernel
theorem dX11_lay_25 : decode cX11_lay 25 = .ok (.iload_n 2, 1) := by decide +kernel
theorem dX11_lay_26 : decode cX11_lay 26 = .ok (.bipush 60, 2) := by decide +kernel
theorem dX11_lay_28 : decode cX11_lay 28 = .ok (.if_icmp .gt 67, 3) := by decide +kernel
theorem dX11_lay_31 : decode cX11_lay 31 = .ok (.aload_n 0, 1) := by decide +kernel
theorem dX11_lay_32 : decode cX11_lay 32 = .ok (.iload_n 2, 1) := by decide +kernel
theorem dX11_lay_33 : decode cX11_lay 33 = .ok (.invokevirtual 223, 3) := by decide +kernel
theorem dX11_lay_36 : decode cX11_lay 36 = .ok (.istore_n 3, 1) := by decide +kernel
theorem dX11_lay_37 : decode cX11_lay 37 = .ok (.iload_n 3, 1) := by decide +kernel
theorem dX11_lay_38 : decode cX11_lay 38 = .ok (.iconst 4, 1) := by decide +kernel
theorem dX11_lay_39 : decode cX11_lay 39 = .ok (.if_icmp .ne 10, 3) := by decide +kernel
theorem dX11_lay_42 : decode cX11_lay 42 = .ok (.aload_n 0, 1) := by decide +kernel
theorem dX11_lay_43 : decode cX11_lay 43 = .ok (.bipush (-11), 2) := by decide +kernel
theorem dX11_lay_45 : decode cX11_lay 45 = .ok (.invokevirtual 88, 3) := by decide +kernel
theorem dX11_lay_48 : decode cX11_lay 48 = .ok (.ireturn, 1) := by decide +kernel
theorem dX11_lay_49 : decode cX11_lay 49 = .ok (.iload_n 3, 1) := by decide +kernel
theorem dX11_lay_50 : decode cX11_lay 50 = .ok (.ifCond .ne 39, 3) := by decide +kernel
theorem dX11_lay_53 : decode cX11_lay 53 = .ok (.aload_n 0, 1) := by decide +kernel
theorem dX11_lay_54 : decode cX11_lay 54 = .ok (.getfield 33, 3) := by decide +kernel
theorem dX11_lay_57 : decode cX11_lay 57 = .ok (.aload_n 0, 1) := by decide +kernel
theorem dX11_lay_58 : decode cX11_lay 58 = .ok (.getfield 10, 3) := by decide +kernel
theorem dX11_lay_61 : decode cX11_lay 61 = .ok (.getfield 149, 3) := by decide +kernel
theorem dX11_lay_64 : decode cX11_lay 64 = .ok (.invokevirtual 226, 3) := by decide +kernel
theorem dX11_lay_67 : decode cX11_lay 67 = .ok (.pop, 1) := by decide +kernel
theorem dX11_lay_68 : decode cX11_lay 68 = .ok (.aload_n 0, 1) := by decide +kernel
theorem dX11_lay_69 : decode cX11_lay 69 = .ok (.getfield 49, 3) := by decide +kernel
theorem dX11_lay_72 : decode cX11_lay 72 = .ok (.aload_n 0, 1) := by decide +kernel
theorem dX11_lay_73 : decode cX11_lay 73 = .ok (.getfield 10, 3) := by decide +kernel
theorem dX11_lay_76 : decode cX11_lay 76 = .ok (.aload_n 0, 1) := by decide +kernel
theorem dX11_lay_77 : decode cX11_lay 77 = .ok (.getfield 42, 3) := by decide +kernel
theorem dX11_lay_80 : decode cX11_lay 80 = .ok (.aload_n 0, 1) := by decide +kernel
theorem dX11_lay_81 : decode cX11_lay 81 = .ok (.getfield 33, 3) := by decide +kernel
theorem dX11_lay_84 : decode cX11_lay 84 = .ok (.invokevirtual 228, 3) := by decide +kernel
theorem dX11_lay_87 : decode cX11_lay 87 = .ok (.iload_n 2, 1) := by decide +kernel
theorem dX11_lay_88 : decode cX11_lay 88 = .ok (.ireturn, 1) := by decide +kernel
theorem dX11_lay_89 : decode cX11_lay 89 = .ok (.iinc 2 1, 3) := by decide +kernel
theorem dX11_lay_92 : decode cX11_lay 92 = .ok (.goto (-67), 3) := by decide +kernel
theorem dX11_lay_95 : decode cX11_lay 95 = .ok (.aload_n 0, 1) := by decide +kernel
theorem dX11_lay_96 : decode cX11_lay 96 = .ok (.bipush (-9), 2) := by decide +kernel
theorem dX11_lay_98 : decode cX11_lay 98 = .ok (.invokevirtual 88, 3) := by decide +kernel
theorem dX11_lay_101 : decode cX11_lay 101 = .ok (.ireturn, 1) := by decide +kernel
theorem dX11_prove_0 : decode cX11_prove 0 = .ok (.aload_n 0, 1) := by decide +kernel
theorem dX11_prove_1 : decode cX11_prove 1 = .ok (.getfield 42, 3) := by decide +kernel
theorem dX11_prove_4 : decode cX11_prove 4 = .ok (.iconst 0, 1) := by decide +kernel
theorem dX11_prove_5 : decode cX11_prove 5 = .ok (.putfield 220, 3) := by decide +kernel
theorem dX11_prove_8 : decode cX11_prove 8 = .ok (.aload_n 0, 1) := by decide +kernel
theorem dX11_prove_9 : decode cX11_prove 9 = .ok (.getfield 10, 3) := by decide +kernel
theorem dX11_prove_12 : decode cX11_prove 12 = .ok (.invokevirtual 232, 3) := by decide +kernel
theorem dX11_prove_15 : decode cX11_prove 15 = .ok (.ifCond .ne 10, 3) := by decide +kernel
theorem dX11_prove_18 : decode cX11_prove 18 = .ok (.aload_n 0, 1) := by decide +kernel
theorem dX11_prove_19 : decode cX11_prove 19 = .ok (.bipush (-2), 2) := by decide +kernel
theorem dX11_prove_21 : decode cX11_prove 21 = .ok (.invokevirtual 88, 3) := by decide +kernel
theorem dX11_prove_24 : decode cX11_prove 24 = .ok (.ireturn, 1) := by decide +kernel
theorem dX11_prove_25 : decode cX11_prove 25 = .ok (.iload_n 1, 1) := by decide +kernel
theorem dX11_prove_26 : decode cX11_prove 26 = .ok (.ifCond .ge 10, 3) := by decide +kernel
theorem dX11_prove_29 : decode cX11_prove 29 = .ok (.aload_n 0, 1) := by decide +kernel
theorem dX11_prove_30 : decode cX11_prove 30 = .ok (.bipush (-4), 2) := by decide +kernel
theorem dX11_prove_32 : decode cX11_prove 32 = .ok (.invokevirtual 88, 3) := by decide +kernel
theorem dX11_prove_35 : decode cX11_prove 35 = .ok (.ireturn, 1) := by decide +kernel
theorem dX11_prove_36 : decode cX11_prove 36 = .ok (.iload_n 1, 1) := by decide +kernel
theorem dX11_prove_37 : decode cX11_prove 37 = .ok (.ifCond .eq 9, 3) := by decide +kernel
theorem dX11_prove_40 : decode cX11_prove 40 = .ok (.iload_n 1, 1) := by decide +kernel
theorem dX11_prove_41 : decode cX11_prove 41 = .ok (.bipush 60, 2) := by decide +kernel
theorem dX11_prove_43 : decode cX11_prove 43 = .ok (.if_icmp .le 10, 3) := by decide +kernel
theorem dX11_prove_46 : decode cX11_prove 46 = .ok (.aload_n 0, 1) := by decide +kernel
theorem dX11_prove_47 : decode cX11_prove 47 = .ok (.bipush (-9), 2) := by decide +kernel
theorem dX11_prove_49 : decode cX11_prove 49 = .ok (.invokevirtual 88, 3) := by decide +kernel
theorem dX11_prove_52 : decode cX11_prove 52 = .ok (.ireturn, 1) := by decide +kernel
theorem dX11_prove_53 : decode cX11_prove 53 = .ok (.aload_n 0, 1) := by decide +kernel
theorem dX11_prove_54 : decode cX11_prove 54 = .ok (.getfield 10, 3) := by decide +kernel
theorem dX11_prove_57 : decode cX11_prove 57 = .ok (.invokevirtual 235, 3) := by decide +kernel
theorem dX11_prove_60 : decode cX11_prove 60 = .ok (.iload_n 1, 1) := by decide +kernel
theorem dX11_prove_61 : decode cX11_prove 61 = .ok (.if_icmp .le 5, 3) := by decide +kernel
theorem dX11_prove_64 : decode cX11_prove 64 = .ok (.iconst 1, 1) := by decide +kernel
theorem dX11_prove_65 : decode cX11_prove 65 = .ok (.ireturn, 1) := by decide +kernel
theorem dX11_prove_66 : decode cX11_prove 66 = .ok (.aload_n 0, 1) := by decide +kernel
theorem dX11_prove_67 : decode cX11_prove 67 = .ok (.getfield 19, 3) := by decide +kernel
theorem dX11_prove_70 : decode cX11_prove 70 = .ok (.aload_n 0, 1) := by decide +kernel
theorem dX11_prove_71 : decode cX11_prove 71 = .ok (.getfield 10, 3) := by decide +kernel
theorem dX11_prove_74 : decode cX11_prove 74 = .ok (.invokevirtual 166, 3) := by decide +kernel
theorem dX11_prove_77 : decode cX11_prove 77 = .ok (.aload_n 0, 1) := by decide +kernel
theorem dX11_prove_78 : decode cX11_prove 78 = .ok (.iload_n 1, 1) := by decide +kernel
theorem dX11_prove_79 : decode cX11_prove 79 = .ok (.invokevirtual 238, 3) := by decide +kernel
theorem dX11_prove_82 : decode cX11_prove 82 = .ok (.ifCond .eq 5, 3) := by decide +kernel
theorem dX11_prove_85 : decode cX11_prove 85 = .ok (.iconst 2, 1) := by decide +kernel
theorem dX11_prove_86 : decode cX11_prove 86 = .ok (.ireturn, 1) := by decide +kernel
theorem dX11_prove_87 : decode cX11_prove 87 = .ok (.aload_n 0, 1) := by decide +kernel
theorem dX11_prove_88 : decode cX11_prove 88 = .ok (.iload_n 1, 1) := by decide +kernel
theorem dX11_prove_89 : decode cX11_prove 89 = .ok (.invokevirtual 223, 3) := by decide +kernel
theorem dX11_prove_92 : decode cX11_prove 92 = .ok (.ireturn, 1) := by decide +kernel
theorem dX11_trials_0 : decode cX11_trials 0 = .ok (.aload_n 0, 1) := by decide +kernel
theorem dX11_trials_1 : decode cX11_trials 1 = .ok (.getfield 42, 3) := by decide +kernel
theorem dX11_trials_4 : decode cX11_trials 4 = .ok (.getfield 220, 3) := by decide +kernel
theorem dX11_trials_7 : decode cX11_trials 7 = .ok (.ireturn, 1) := by decide +kernel
theorem dX11_laying_0 : decode cX11_laying 0 = .ok (.aload_n 0, 1) := by decide +kernel
theorem dX11_laying_1 : decode cX11_laying 1 = .ok (.getfield 49, 3) := by decide +kernel
theorem dX11_laying_4 : decode cX11_laying 4 = .ok (.getfield 241, 3) := by decide +kernel
theorem dX11_laying_7 : decode cX11_laying 7 = .ok (.ifCond .ne 10, 3) := by decide +kernel
theorem dX11_laying_10 : decode cX11_laying 10 = .ok (.aload_n 0, 1) := by decide +kernel
theorem dX11_laying_11 : decode cX11_laying 11 = .ok (.bipush (-2), 2) := by decide +kernel
theorem dX11_laying_13 : decode cX11_laying 13 = .ok (.invokevirtual 88, 3) := by decide +kernel
theorem dX11_laying_16 : decode cX11_laying 16 = .ok (.ireturn, 1) := by decide +kernel
theorem dX11_laying_17 : decode cX11_laying 17 = .ok (.iload_n 1, 1) := by decide +kernel
theorem dX11_laying_18 : decode cX11_laying 18 = .ok (.tableswitch 54 0 2 #[26, 34, 42], 26) := by decide +kernel
theorem dX11_laying_44 : decode cX11_laying 44 = .ok (.aload_n 0, 1) := by decide +kernel
theorem dX11_laying_45 : decode cX11_laying 45 = .ok (.getfield 49, 3) := by decide +kernel
theorem dX11_laying_48 : decode cX11_laying 48 = .ok (.getfield 245, 3) := by decide +kernel
theorem dX11_laying_51 : decode cX11_laying 51 = .ok (.ireturn, 1) := by decide +kernel
theorem dX11_laying_52 : decode cX11_laying 52 = .ok (.aload_n 0, 1) := by decide +kernel
theorem dX11_laying_53 : decode cX11_laying 53 = .ok (.getfield 49, 3) := by decide +kernel
theorem dX11_laying_56 : decode cX11_laying 56 = .ok (.getfield 248, 3) := by decide +kernel
theorem dX11_laying_59 : decode cX11_laying 59 = .ok (.ireturn, 1) := by decide +kernel
theorem dX11_laying_60 : decode cX11_laying 60 = .ok (.aload_n 0, 1) := by decide +kernel
theorem dX11_laying_61 : decode cX11_laying 61 = .ok (.getfield 49, 3) := by decide +kernel
theorem dX11_laying_64 : decode cX11_laying 64 = .ok (.aload_n 0, 1) := by decide +kernel
theorem dX11_laying_65 : decode cX11_laying 65 = .ok (.getfield 10, 3) := by decide +kernel
theorem dX11_laying_68 : decode cX11_laying 68 = .ok (.invokevirtual 251, 3) := by decide +kernel
theorem dX11_laying_71 : decode cX11_laying 71 = .ok (.ireturn, 1) := by decide +kernel
theorem dX11_laying_72 : decode cX11_laying 72 = .ok (.aload_n 0, 1) := by decide +kernel
theorem dX11_laying_73 : decode cX11_laying 73 = .ok (.bipush (-9), 2) := by decide +kernel
theorem dX11_laying_75 : decode cX11_laying 75 = .ok (.invokevirtual 88, 3) := by decide +kernel
theorem dX11_laying_78 : decode cX11_laying 78 = .ok (.ireturn, 1) := by decide +kernel
theorem dX11_tick_0 : decode cX11_tick 0 = .ok (.aload_n 0, 1) := by decide +kernel
theorem dX11_tick_1 : decode cX11_tick 1 = .ok (.getfield 49, 3) := by decide +kernel
theorem dX11_tick_4 : decode cX11_tick 4 = .ok (.getfield 241, 3) := by decide +kernel
theorem dX11_tick_7 : decode cX11_tick 7 = .ok (.ifCond .ne 10, 3) := by decide +kernel
theorem dX11_tick_10 : decode cX11_tick 10 = .ok (.aload_n 0, 1) := by decide +kernel
theorem dX11_tick_11 : decode cX11_tick 11 = .ok (.bipush (-2), 2) := by decide +kernel
theorem dX11_tick_13 : decode cX11_tick 13 = .ok (.invokevirtual 88, 3) := by decide +kernel
theorem dX11_tick_16 : decode cX11_tick 16 = .ok (.ireturn, 1) := by decide +kernel
theorem dX11_tick_17 : decode cX11_tick 17 = .ok (.aload_n 0, 1) := by decide +kernel
theorem dX11_tick_18 : decode cX11_tick 18 = .ok (.getfield 10, 3) := by decide +kernel
theorem dX11_tick_21 : decode cX11_tick 21 = .ok (.iload_n 1, 1) := by decide +kernel
theorem dX11_tick_22 : decode cX11_tick 22 = .ok (.invokevirtual 116, 3) := by decide +kernel
theorem dX11_tick_25 : decode cX11_tick 25 = .ok (.ifCond .ne 10, 3) := by decide +kernel
theorem dX11_tick_28 : decode cX11_tick 28 = .ok (.aload_n 0, 1) := by decide +kernel
theorem dX11_tick_29 : decode cX11_tick 29 = .ok (.bipush (-3), 2) := by decide +kernel
theorem dX11_tick_31 : decode cX11_tick 31 = .ok (.invokevirtual 88, 3) := by decide +kernel
theorem dX11_tick_34 : decode cX11_tick 34 = .ok (.ireturn, 1) := by decide +kernel
theorem dX11_tick_35 : decode cX11_tick 35 = .ok (.iload_n 2, 1) := by decide +kernel
theorem dX11_tick_36 : decode cX11_tick 36 = .ok (.tableswitch 86 0 4 #[36, 46, 56, 66, 76], 36) := by decide +kernel
theorem dX11_tick_72 : decode cX11_tick 72 = .ok (.aload_n 0, 1) := by decide +kernel
theorem dX11_tick_73 : decode cX11_tick 73 = .ok (.getfield 49, 3) := by decide +kernel
theorem dX11_tick_76 : decode cX11_tick 76 = .ok (.getfield 255, 3) := by decide +kernel
theorem dX11_tick_79 : decode cX11_tick 79 = .ok (.iload_n 1, 1) := by decide +kernel
theorem dX11_tick_80 : decode cX11_tick 80 = .ok (.iaload, 1) := by decide +kernel
theorem dX11_tick_81 : decode cX11_tick 81 = .ok (.ireturn, 1) := by decide +kernel
theorem dX11_tick_82 : decode cX11_tick 82 = .ok (.aload_n 0, 1) := by decide +kernel
theorem dX11_tick_83 : decode cX11_tick 83 = .ok (.getfield 49, 3) := by decide +kernel
theorem dX11_tick_86 : decode cX11_tick 86 = .ok (.getfield 258, 3) := by decide +kernel
theorem dX11_tick_89 : decode cX11_tick 89 = .ok (.iload_n 1, 1) := by decide +kernel
theorem dX11_tick_90 : decode cX11_tick 90 = .ok (.iaload, 1) := by decide +kernel
theorem dX11_tick_91 : decode cX11_tick 91 = .ok (.ireturn, 1) := by decide +kernel
theorem dX11_tick_92 : decode cX11_tick 92 = .ok (.aload_n 0, 1) := by decide +kernel
theorem dX11_tick_93 : decode cX11_tick 93 = .ok (.getfield 49, 3) := by decide +kernel
theorem dX11_tick_96 : decode cX11_tick 96 = .ok (.getfield 261, 3) := by decide +kernel
theorem dX11_tick_99 : decode cX11_tick 99 = .ok (.iload_n 1, 1) := by decide +kernel
theorem dX11_tick_100 : decode cX11_tick 100 = .ok (.iaload, 1) := by decide +kernel
theorem dX11_tick_101 : decode cX11_tick 101 = .ok (.ireturn, 1) := by decide +kernel
theorem dX11_tick_102 : decode cX11_tick 102 = .ok (.aload_n 0, 1) := by decide +kernel
theorem dX11_tick_103 : decode cX11_tick 103 = .ok (.getfield 49, 3) := by decide +kernel
theorem dX11_tick_106 : decode cX11_tick 106 = .ok (.getfield 264, 3) := by decide +kernel
theorem dX11_tick_109 : decode cX11_tick 109 = .ok (.iload_n 1, 1) := by decide +kernel
theorem dX11_tick_110 : decode cX11_tick 110 = .ok (.iaload, 1) := by decide +kernel
theorem dX11_tick_111 : decode cX11_tick 111 = .ok (.ireturn, 1) := by decide +kernel
theorem dX11_tick_112 : decode cX11_tick 112 = .ok (.aload_n 0, 1) := by decide +kernel
theorem dX11_tick_113 : decode cX11_tick 113 = .ok (.getfield 49, 3) := by decide +kernel
theorem dX11_tick_116 : decode cX11_tick 116 = .ok (.getfield 267, 3) := by decide +kernel
theorem dX11_tick_119 : decode cX11_tick 119 = .ok (.iload_n 1, 1) := by decide +kernel
theorem dX11_tick_120 : decode cX11_tick 120 = .ok (.iaload, 1) := by decide +kernel
theorem dX11_tick_121 : decode cX11_tick 121 = .ok (.ireturn, 1) := by decide +kernel
theorem dX11_tick_122 : decode cX11_tick 122 = .ok (.aload_n 0, 1) := by decide +kernel
theorem dX11_tick_123 : decode cX11_tick 123 = .ok (.bipush (-9), 2) := by decide +kernel
theorem dX11_tick_125 : decode cX11_tick 125 = .ok (.invokevirtual 88, 3) := by decide +kernel
theorem dX11_tick_128 : decode cX11_tick 128 = .ok (.ireturn, 1) := by decide +kernel
theorem dX11_filled_0 : decode cX11_filled 0 = .ok (.aload_n 0, 1) := by decide +kernel
theorem dX11_filled_1 : decode cX11_filled 1 = .ok (.getfield 49, 3) := by decide +kernel
theorem dX11_filled_4 : decode cX11_filled 4 = .ok (.getfield 241, 3) := by decide +kernel
theorem dX11_filled_7 : decode cX11_filled 7 = .ok (.ifCond .ne 10, 3) := by decide +kernel
theorem dX11_filled_10 : decode cX11_filled 10 = .ok (.aload_n 0, 1) := by decide +kernel
theorem dX11_filled_11 : decode cX11_filled 11 = .ok (.bipush (-2), 2) := by decide +kernel
theorem dX11_filled_13 : decode cX11_filled 13 = .ok (.invokevirtual 88, 3) := by decide +kernel
theorem dX11_filled_16 : decode cX11_filled 16 = .ok (.ireturn, 1) := by decide +kernel
theorem dX11_filled_17 : decode cX11_filled 17 = .ok (.iload_n 1, 1) := by decide +kernel
theorem dX11_filled_18 : decode cX11_filled 18 = .ok (.invokestatic 119, 3) := by decide +kernel
theorem dX11_filled_21 : decode cX11_filled 21 = .ok (.ifCond .eq 18, 3) := by decide +kernel
theorem dX11_filled_24 : decode cX11_filled 24 = .ok (.iload_n 2, 1) := by decide +kernel
theorem dX11_filled_25 : decode cX11_filled 25 = .ok (.ifCond .lt 14, 3) := by decide +kernel
theorem dX11_filled_28 : decode cX11_filled 28 = .ok (.iload_n 2, 1) := by decide +kernel
theorem dX11_filled_29 : decode cX11_filled 29 = .ok (.aload_n 0, 1) := by decide +kernel
theorem dX11_filled_30 : decode cX11_filled 30 = .ok (.getfield 49, 3) := by decide +kernel
theorem dX11_filled_33 : decode cX11_filled 33 = .ok (.getfield 245, 3) := by decide +kernel
theorem dX11_filled_36 : decode cX11_filled 36 = .ok (.if_icmp .lt 10, 3) := by decide +kernel
theorem dX11_filled_39 : decode cX11_filled 39 = .ok (.aload_n 0, 1) := by decide +kernel
theorem dX11_filled_40 : decode cX11_filled 40 = .ok (.bipush (-3), 2) := by decide +kernel
theorem dX11_filled_42 : decode cX11_filled 42 = .ok (.invokevirtual 88, 3) := by decide +kernel
theorem dX11_filled_45 : decode cX11_filled 45 = .ok (.ireturn, 1) := by decide +kernel
theorem dX11_filled_46 : decode cX11_filled 46 = .ok (.aload_n 0, 1) := by decide +kernel
theorem dX11_filled_47 : decode cX11_filled 47 = .ok (.getfield 49, 3) := by decide +kernel
theorem dX11_filled_50 : decode cX11_filled 50 = .ok (.getfield 270, 3) := by decide +kernel
theorem dX11_filled_53 : decode cX11_filled 53 = .ok (.iload_n 1, 1) := by decide +kernel
theorem dX11_filled_54 : decode cX11_filled 54 = .ok (.iload_n 2, 1) := by decide +kernel
theorem dX11_filled_55 : decode cX11_filled 55 = .ok (.invokevirtual 274, 3) := by decide +kernel
theorem dX11_filled_58 : decode cX11_filled 58 = .ok (.ireturn, 1) := by decide +kernel
theorem dX11_names_0 : decode cX11_names 0 = .ok (.aload_n 0, 1) := by decide +kernel
theorem dX11_names_1 : decode cX11_names 1 = .ok (.getfield 49, 3) := by decide +kernel
theorem dX11_names_4 : decode cX11_names 4 = .ok (.getfield 241, 3) := by decide +kernel
theorem dX11_names_7 : decode cX11_names 7 = .ok (.ifCond .ne 10, 3) := by decide +kernel
theorem dX11_names_10 : decode cX11_names 10 = .ok (.aload_n 0, 1) := by decide +kernel
theorem dX11_names_11 : decode cX11_names 11 = .ok (.bipush (-2), 2) := by decide +kernel
theorem dX11_names_13 : decode cX11_names 13 = .ok (.invokevirtual 88, 3) := by decide +kernel
theorem dX11_names_16 : decode cX11_names 16 = .ok (.ireturn, 1) := by decide +kernel
theorem dX11_names_17 : decode cX11_names 17 = .ok (.aload_n 0, 1) := by decide +kernel
theorem dX11_names_18 : decode cX11_names 18 = .ok (.getfield 10, 3) := by decide +kernel
theorem dX11_names_21 : decode cX11_names 21 = .ok (.iload_n 1, 1) := by decide +kernel
theorem dX11_names_22 : decode cX11_names 22 = .ok (.invokevirtual 116, 3) := by decide +kernel
theorem dX11_names_25 : decode cX11_names 25 = .ok (.ifCond .ne 10, 3) := by decide +kernel
theorem dX11_names_28 : decode cX11_names 28 = .ok (.aload_n 0, 1) := by decide +kernel
theorem dX11_names_29 : decode cX11_names 29 = .ok (.bipush (-3), 2) := by decide +kernel
theorem dX11_names_31 : decode cX11_names 31 = .ok (.invokevirtual 88, 3) := by decide +kernel
theorem dX11_names_34 : decode cX11_names 34 = .ok (.ireturn, 1) := by decide +kernel
theorem dX11_names_35 : decode cX11_names 35 = .ok (.aload_n 0, 1) := by decide +kernel
theorem dX11_names_36 : decode cX11_names 36 = .ok (.getfield 49, 3) := by decide +kernel
theorem dX11_names_39 : decode cX11_names 39 = .ok (.getfield 279, 3) := by decide +kernel
theorem dX11_names_42 : decode cX11_names 42 = .ok (.iload_n 1, 1) := by decide +kernel
theorem dX11_names_43 : decode cX11_names 43 = .ok (.iaload, 1) := by decide +kernel
theorem dX11_names_44 : decode cX11_names 44 = .ok (.ireturn, 1) := by decide +kernel
theorem dX11_fewest_0 : decode cX11_fewest 0 = .ok (.aload_n 0, 1) := by decide +kernel
theorem dX11_fewest_1 : decode cX11_fewest 1 = .ok (.getfield 49, 3) := by decide +kernel
theorem dX11_fewest_4 : decode cX11_fewest 4 = .ok (.getfield 241, 3) := by decide +kernel
theorem dX11_fewest_7 : decode cX11_fewest 7 = .ok (.ifCond .ne 10, 3) := by decide +kernel
theorem dX11_fewest_10 : decode cX11_fewest 10 = .ok (.aload_n 0, 1) := by decide +kernel
theorem dX11_fewest_11 : decode cX11_fewest 11 = .ok (.bipush (-2), 2) := by decide +kernel
theorem dX11_fewest_13 : decode cX11_fewest 13 = .ok (.invokevirtual 88, 3) := by decide +kernel
theorem dX11_fewest_16 : decode cX11_fewest 16 = .ok (.ireturn, 1) := by decide +kernel
theorem dX11_fewest_17 : decode cX11_fewest 17 = .ok (.iload_n 1, 1) := by decide +kernel
theorem dX11_fewest_18 : decode cX11_fewest 18 = .ok (.lookupswitch 64 #[(0, 26), (1, 41)], 26) := by decide +kernel
theorem dX11_fewest_44 : decode cX11_fewest 44 = .ok (.aload_n 0, 1) := by decide +kernel
theorem dX11_fewest_45 : decode cX11_fewest 45 = .ok (.getfield 49, 3) := by decide +kernel
theorem dX11_fewest_48 : decode cX11_fewest 48 = .ok (.aload_n 0, 1) := by decide +kernel
theorem dX11_fewest_49 : decode cX11_fewest 49 = .ok (.getfield 10, 3) := by decide +kernel
theorem dX11_fewest_52 : decode cX11_fewest 52 = .ok (.getfield 149, 3) := by decide +kernel
theorem dX11_fewest_55 : decode cX11_fewest 55 = .ok (.invokevirtual 282, 3) := by decide +kernel
theorem dX11_fewest_58 : decode cX11_fewest 58 = .ok (.ireturn, 1) := by decide +kernel
theorem dX11_fewest_59 : decode cX11_fewest 59 = .ok (.aload_n 0, 1) := by decide +kernel
theorem dX11_fewest_60 : decode cX11_fewest 60 = .ok (.getfield 49, 3) := by decide +kernel
theorem dX11_fewest_63 : decode cX11_fewest 63 = .ok (.aload_n 0, 1) := by decide +kernel
theorem dX11_fewest_64 : decode cX11_fewest 64 = .ok (.getfield 10, 3) := by decide +kernel
theorem dX11_fewest_67 : decode cX11_fewest 67 = .ok (.getfield 149, 3) := by decide +kernel
theorem dX11_fewest_70 : decode cX11_fewest 70 = .ok (.invokevirtual 285, 3) := by decide +kernel
theorem dX11_fewest_73 : decode cX11_fewest 73 = .ok (.aload_n 0, 1) := by decide +kernel
theorem dX11_fewest_74 : decode cX11_fewest 74 = .ok (.getfield 10, 3) := by decide +kernel
theorem dX11_fewest_77 : decode cX11_fewest 77 = .ok (.getfield 149, 3) := by decide +kernel
theorem dX11_fewest_80 : decode cX11_fewest 80 = .ok (.imul, 1) := by decide +kernel
theorem dX11_fewest_81 : decode cX11_fewest 81 = .ok (.ireturn, 1) := by decide +kernel
theorem dX11_fewest_82 : decode cX11_fewest 82 = .ok (.aload_n 0, 1) := by decide +kernel
theorem dX11_fewest_83 : decode cX11_fewest 83 = .ok (.bipush (-9), 2) := by decide +kernel
theorem dX11_fewest_85 : decode cX11_fewest 85 = .ok (.invokevirtual 88, 3) := by decide +kernel
theorem dX11_fewest_88 : decode cX11_fewest 88 = .ok (.ireturn, 1) := by decide +kernel
theorem dX11_forge_0 : decode cX11_forge 0 = .ok (.aload_n 0, 1) := by decide +kernel
theorem dX11_forge_1 : decode cX11_forge 1 = .ok (.getfield 49, 3) := by decide +kernel
theorem dX11_forge_4 : decode cX11_forge 4 = .ok (.getfield 241, 3) := by decide +kernel
theorem dX11_forge_7 : decode cX11_forge 7 = .ok (.ifCond .ne 10, 3) := by decide +kernel
theorem dX11_forge_10 : decode cX11_forge 10 = .ok (.aload_n 0, 1) := by decide +kernel
theorem dX11_forge_11 : decode cX11_forge 11 = .ok (.bipush (-2), 2) := by decide +kernel
theorem dX11_forge_13 : decode cX11_forge 13 = .ok (.invokevirtual 88, 3) := by decide +kernel
theorem dX11_forge_16 : decode cX11_forge 16 = .ok (.ireturn, 1) := by decide +kernel
theorem dX11_forge_17 : decode cX11_forge 17 = .ok (.aload_n 0, 1) := by decide +kernel
theorem dX11_forge_18 : decode cX11_forge 18 = .ok (.getfield 10, 3) := by decide +kernel
theorem dX11_forge_21 : decode cX11_forge 21 = .ok (.iload_n 1, 1) := by decide +kernel
theorem dX11_forge_22 : decode cX11_forge 22 = .ok (.invokevirtual 116, 3) := by decide +kernel
theorem dX11_forge_25 : decode cX11_forge 25 = .ok (.ifCond .ne 10, 3) := by decide +kernel
theorem dX11_forge_28 : decode cX11_forge 28 = .ok (.aload_n 0, 1) := by decide +kernel
theorem dX11_forge_29 : decode cX11_forge 29 = .ok (.bipush (-3), 2) := by decide +kernel
theorem dX11_forge_31 : decode cX11_forge 31 = .ok (.invokevirtual 88, 3) := by decide +kernel
theorem dX11_forge_34 : decode cX11_forge 34 = .ok (.ireturn, 1) := by decide +kernel
theorem dX11_forge_35 : decode cX11_forge 35 = .ok (.iload_n 2, 1) := by decide +kernel
theorem dX11_forge_36 : decode cX11_forge 36 = .ok (.ifCond .ge 10, 3) := by decide +kernel
theorem dX11_forge_39 : decode cX11_forge 39 = .ok (.aload_n 0, 1) := by decide +kernel
theorem dX11_forge_40 : decode cX11_forge 40 = .ok (.bipush (-4), 2) := by decide +kernel
theorem dX11_forge_42 : decode cX11_forge 42 = .ok (.invokevirtual 88, 3) := by decide +kernel
theorem dX11_forge_45 : decode cX11_forge 45 = .ok (.ireturn, 1) := by decide +kernel
theorem dX11_forge_46 : decode cX11_forge 46 = .ok (.iload_n 2, 1) := by decide +kernel
theorem dX11_forge_47 : decode cX11_forge 47 = .ok (.sipush 3000, 3) := by decide +kernel
theorem dX11_forge_50 : decode cX11_forge 50 = .ok (.if_icmp .le 10, 3) := by decide +kernel
theorem dX11_forge_53 : decode cX11_forge 53 = .ok (.aload_n 0, 1) := by decide +kernel
theorem dX11_forge_54 : decode cX11_forge 54 = .ok (.bipush (-9), 2) := by decide +kernel
theorem dX11_forge_56 : decode cX11_forge 56 = .ok (.invokevirtual 88, 3) := by decide +kernel
theorem dX11_forge_59 : decode cX11_forge 59 = .ok (.ireturn, 1) := by decide +kernel
theorem dX11_forge_60 : decode cX11_forge 60 = .ok (.aload_n 0, 1) := by decide +kernel
theorem dX11_forge_61 : decode cX11_forge 61 = .ok (.getfield 49, 3) := by decide +kernel
theorem dX11_forge_64 : decode cX11_forge 64 = .ok (.getfield 288, 3) := by decide +kernel
theorem dX11_forge_67 : decode cX11_forge 67 = .ok (.iload_n 1, 1) := by decide +kernel
theorem dX11_forge_68 : decode cX11_forge 68 = .ok (.iaload, 1) := by decide +kernel
theorem dX11_forge_69 : decode cX11_forge 69 = .ok (.istore_n 3, 1) := by decide +kernel
theorem dX11_forge_70 : decode cX11_forge 70 = .ok (.aload_n 0, 1) := by decide +kernel
theorem dX11_forge_71 : decode cX11_forge 71 = .ok (.getfield 49, 3) := by decide +kernel
theorem dX11_forge_74 : decode cX11_forge 74 = .ok (.getfield 288, 3) := by decide +kernel
theorem dX11_forge_77 : decode cX11_forge 77 = .ok (.iload_n 1, 1) := by decide +kernel
theorem dX11_forge_78 : decode cX11_forge 78 = .ok (.iload_n 2, 1) := by decide +kernel
theorem dX11_forge_79 : decode cX11_forge 79 = .ok (.iastore, 1) := by decide +kernel
theorem dX11_forge_80 : decode cX11_forge 80 = .ok (.iload_n 3, 1) := by decide +kernel
theorem dX11_forge_81 : decode cX11_forge 81 = .ok (.ireturn, 1) := by decide +kernel
theorem dX11_check_0 : decode cX11_check 0 = .ok (.aload_n 0, 1) := by decide +kernel
theorem dX11_check_1 : decode cX11_check 1 = .ok (.getfield 49, 3) := by decide +kernel
theorem dX11_check_4 : decode cX11_check 4 = .ok (.getfield 241, 3) := by decide +kernel
theorem dX11_check_7 : decode cX11_check 7 = .ok (.ifCond .ne 10, 3) := by decide +kernel
theorem dX11_check_10 : decode cX11_check 10 = .ok (.aload_n 0, 1) := by decide +kernel
theorem dX11_check_11 : decode cX11_check 11 = .ok (.bipush (-2), 2) := by decide +kernel
theorem dX11_check_13 : decode cX11_check 13 = .ok (.invokevirtual 88, 3) := by decide +kernel
theorem dX11_check_16 : decode cX11_check 16 = .ok (.ireturn, 1) := by decide +kernel
theorem dX11_check_17 : decode cX11_check 17 = .ok (.aload_n 0, 1) := by decide +kernel
theorem dX11_check_18 : decode cX11_check 18 = .ok (.getfield 19, 3) := by decide +kernel
theorem dX11_check_21 : decode cX11_check 21 = .ok (.aload_n 0, 1) := by decide +kernel
theorem dX11_check_22 : decode cX11_check 22 = .ok (.getfield 10, 3) := by decide +kernel
theorem dX11_check_25 : decode cX11_check 25 = .ok (.invokevirtual 166, 3) := by decide +kernel
theorem dX11_check_28 : decode cX11_check 28 = .ok (.aload_n 0, 1) := by decide +kernel
theorem dX11_check_29 : decode cX11_check 29 = .ok (.getfield 56, 3) := by decide +kernel
theorem dX11_check_32 : decode cX11_check 32 = .ok (.aload_n 0, 1) := by decide +kernel
theorem dX11_check_33 : decode cX11_check 33 = .ok (.getfield 10, 3) := by decide +kernel
theorem dX11_check_36 : decode cX11_check 36 = .ok (.aload_n 0, 1) := by decide +kernel
theorem dX11_check_37 : decode cX11_check 37 = .ok (.getfield 19, 3) := by decide +kernel
theorem dX11_check_40 : decode cX11_check 40 = .ok (.getfield 291, 3) := by decide +kernel
theorem dX11_check_43 : decode cX11_check 43 = .ok (.aload_n 0, 1) := by decide +kernel
theorem dX11_check_44 : decode cX11_check 44 = .ok (.getfield 49, 3) := by decide +kernel
theorem dX11_check_47 : decode cX11_check 47 = .ok (.invokevirtual 294, 3) := by decide +kernel
theorem dX11_check_50 : decode cX11_check 50 = .ok (.ireturn, 1) := by decide +kernel
theorem dX11_wrong_0 : decode cX11_wrong 0 = .ok (.iload_n 1, 1) := by decide +kernel
theorem dX11_wrong_1 : decode cX11_wrong 1 = .ok (.ifCond .lt 9, 3) := by decide +kernel
theorem dX11_wrong_4 : decode cX11_wrong 4 = .ok (.iload_n 1, 1) := by decide +kernel
theorem dX11_wrong_5 : decode cX11_wrong 5 = .ok (.bipush 6, 2) := by decide +kernel
theorem dX11_wrong_7 : decode cX11_wrong 7 = .ok (.if_icmp .lt 10, 3) := by decide +kernel
theorem dX11_wrong_10 : decode cX11_wrong 10 = .ok (.aload_n 0, 1) := by decide +kernel
theorem dX11_wrong_11 : decode cX11_wrong 11 = .ok (.bipush (-9), 2) := by decide +kernel
theorem dX11_wrong_13 : decode cX11_wrong 13 = .ok (.invokevirtual 88, 3) := by decide +kernel
theorem dX11_wrong_16 : decode cX11_wrong 16 = .ok (.ireturn, 1) := by decide +kernel
theorem dX11_wrong_17 : decode cX11_wrong 17 = .ok (.aload_n 0, 1) := by decide +kernel
theorem dX11_wrong_18 : decode cX11_wrong 18 = .ok (.getfield 56, 3) := by decide +kernel
theorem dX11_wrong_21 : decode cX11_wrong 21 = .ok (.getfield 298, 3) := by decide +kernel
theorem dX11_wrong_24 : decode cX11_wrong 24 = .ok (.iload_n 1, 1) := by decide +kernel
theorem dX11_wrong_25 : decode cX11_wrong 25 = .ok (.iaload, 1) := by decide +kernel
theorem dX11_wrong_26 : decode cX11_wrong 26 = .ok (.ireturn, 1) := by decide +kernel
theorem dX11_run_0 : decode cX11_run 0 = .ok (.aload_n 0, 1) := by decide +kernel
theorem dX11_run_1 : decode cX11_run 1 = .ok (.iload_n 1, 1) := by decide +kernel
theorem dX11_run_2 : decode cX11_run 2 = .ok (.iload_n 2, 1) := by decide +kernel
theorem dX11_run_3 : decode cX11_run 3 = .ok (.invokevirtual 301, 3) := by decide +kernel
theorem dX11_run_6 : decode cX11_run 6 = .ok (.istore_n 3, 1) := by decide +kernel
theorem dX11_run_7 : decode cX11_run 7 = .ok (.iload_n 3, 1) := by decide +kernel
theorem dX11_run_8 : decode cX11_run 8 = .ok (.ifCond .eq 9, 3) := by decide +kernel
theorem dX11_run_11 : decode cX11_run 11 = .ok (.aload_n 0, 1) := by decide +kernel
theorem dX11_run_12 : decode cX11_run 12 = .ok (.iload_n 3, 1) := by decide +kernel
theorem dX11_run_13 : decode cX11_run 13 = .ok (.invokevirtual 88, 3) := by decide +kernel
theorem dX11_run_16 : decode cX11_run 16 = .ok (.ireturn, 1) := by decide +kernel
theorem dX11_run_17 : decode cX11_run 17 = .ok (.aload_n 0, 1) := by decide +kernel
theorem dX11_run_18 : decode cX11_run 18 = .ok (.getfield 65, 3) := by decide +kernel
theorem dX11_run_21 : decode cX11_run 21 = .ok (.iload_n 1, 1) := by decide +kernel
theorem dX11_run_22 : decode cX11_run 22 = .ok (.iload_n 2, 1) := by decide +kernel
theorem dX11_run_23 : decode cX11_run 23 = .ok (.aload_n 0, 1) := by decide +kernel
theorem dX11_run_24 : decode cX11_run 24 = .ok (.getfield 72, 3) := by decide +kernel
theorem dX11_run_27 : decode cX11_run 27 = .ok (.invokevirtual 305, 3) := by decide +kernel
theorem dX11_run_30 : decode cX11_run 30 = .ok (.aload_n 0, 1) := by decide +kernel
theorem dX11_run_31 : decode cX11_run 31 = .ok (.getfield 72, 3) := by decide +kernel
theorem dX11_run_34 : decode cX11_run 34 = .ok (.getfield 309, 3) := by decide +kernel
theorem dX11_run_37 : decode cX11_run 37 = .ok (.ireturn, 1) := by decide +kernel
theorem dX11_compare_0 : decode cX11_compare 0 = .ok (.aload_n 0, 1) := by decide +kernel
theorem dX11_compare_1 : decode cX11_compare 1 = .ok (.iload_n 1, 1) := by decide +kernel
theorem dX11_compare_2 : decode cX11_compare 2 = .ok (.iconst 1, 1) := by decide +kernel
theorem dX11_compare_3 : decode cX11_compare 3 = .ok (.invokevirtual 301, 3) := by decide +kernel
theorem dX11_compare_6 : decode cX11_compare 6 = .ok (.istore_n 2, 1) := by decide +kernel
theorem dX11_compare_7 : decode cX11_compare 7 = .ok (.iload_n 2, 1) := by decide +kernel
theorem dX11_compare_8 : decode cX11_compare 8 = .ok (.ifCond .eq 9, 3) := by decide +kernel
theorem dX11_compare_11 : decode cX11_compare 11 = .ok (.aload_n 0, 1) := by decide +kernel
theorem dX11_compare_12 : decode cX11_compare 12 = .ok (.iload_n 2, 1) := by decide +kernel
theorem dX11_compare_13 : decode cX11_compare 13 = .ok (.invokevirtual 88, 3) := by decide +kernel
theorem dX11_compare_16 : decode cX11_compare 16 = .ok (.ireturn, 1) := by decide +kernel
theorem dX11_compare_17 : decode cX11_compare 17 = .ok (.aload_n 0, 1) := by decide +kernel
theorem dX11_compare_18 : decode cX11_compare 18 = .ok (.getfield 65, 3) := by decide +kernel
theorem dX11_compare_21 : decode cX11_compare 21 = .ok (.iload_n 1, 1) := by decide +kernel
theorem dX11_compare_22 : decode cX11_compare 22 = .ok (.invokevirtual 312, 3) := by decide +kernel
theorem dX11_compare_25 : decode cX11_compare 25 = .ok (.ifCond .eq 7, 3) := by decide +kernel
theorem dX11_compare_28 : decode cX11_compare 28 = .ok (.iconst 1, 1) := by decide +kernel
theorem dX11_compare_29 : decode cX11_compare 29 = .ok (.goto 4, 3) := by decide +kernel
theorem dX11_compare_32 : decode cX11_compare 32 = .ok (.iconst 0, 1) := by decide +kernel
theorem dX11_compare_33 : decode cX11_compare 33 = .ok (.ireturn, 1) := by decide +kernel
theorem dX11_told_0 : decode cX11_told 0 = .ok (.iload_n 1, 1) := by decide +kernel
theorem dX11_told_1 : decode cX11_told 1 = .ok (.tableswitch 95 0 5 #[39, 47, 55, 63, 71, 79], 39) := by decide +kernel
theorem dX11_told_40 : decode cX11_told 40 = .ok (.aload_n 0, 1) := by decide +kernel
theorem dX11_told_41 : decode cX11_told 41 = .ok (.getfield 72, 3) := by decide +kernel
theorem dX11_told_44 : decode cX11_told 44 = .ok (.getfield 315, 3) := by decide +kernel
theorem dX11_told_47 : decode cX11_told 47 = .ok (.ireturn, 1) := by decide +kernel
theorem dX11_told_48 : decode cX11_told 48 = .ok (.aload_n 0, 1) := by decide +kernel
theorem dX11_told_49 : decode cX11_told 49 = .ok (.getfield 72, 3) := by decide +kernel
theorem dX11_told_52 : decode cX11_told 52 = .ok (.getfield 318, 3) := by decide +kernel
theorem dX11_told_55 : decode cX11_told 55 = .ok (.ireturn, 1) := by decide +kernel
theorem dX11_told_56 : decode cX11_told 56 = .ok (.aload_n 0, 1) := by decide +kernel
theorem dX11_told_57 : decode cX11_told 57 = .ok (.getfield 72, 3) := by decide +kernel
theorem dX11_told_60 : decode cX11_told 60 = .ok (.getfield 321, 3) := by decide +kernel
theorem dX11_told_63 : decode cX11_told 63 = .ok (.ireturn, 1) := by decide +kernel
theorem dX11_told_64 : decode cX11_told 64 = .ok (.aload_n 0, 1) := by decide +kernel
theorem dX11_told_65 : decode cX11_told 65 = .ok (.getfield 72, 3) := by decide +kernel
theorem dX11_told_68 : decode cX11_told 68 = .ok (.getfield 324, 3) := by decide +kernel
theorem dX11_told_71 : decode cX11_told 71 = .ok (.ireturn, 1) := by decide +kernel
theorem dX11_told_72 : decode cX11_told 72 = .ok (.aload_n 0, 1) := by decide +kernel
theorem dX11_told_73 : decode cX11_told 73 = .ok (.getfield 72, 3) := by decide +kernel
theorem dX11_told_76 : decode cX11_told 76 = .ok (.getfield 327, 3) := by decide +kernel
theorem dX11_told_79 : decode cX11_told 79 = .ok (.ireturn, 1) := by decide +kernel
theorem dX11_told_80 : decode cX11_told 80 = .ok (.aload_n 0, 1) := by decide +kernel
theorem dX11_told_81 : decode cX11_told 81 = .ok (.getfield 72, 3) := by decide +kernel
theorem dX11_told_84 : decode cX11_told 84 = .ok (.getfield 330, 3) := by decide +kernel
theorem dX11_told_87 : decode cX11_told 87 = .ok (.ifCond .eq 7, 3) := by decide +kernel
theorem dX11_told_90 : decode cX11_told 90 = .ok (.iconst 1, 1) := by decide +kernel
theorem dX11_told_91 : decode cX11_told 91 = .ok (.goto 4, 3) := by decide +kernel
theorem dX11_told_94 : decode cX11_told 94 = .ok (.iconst 0, 1) := by decide +kernel
theorem dX11_told_95 : decode cX11_told 95 = .ok (.ireturn, 1) := by decide +kernel
theorem dX11_told_96 : decode cX11_told 96 = .ok (.aload_n 0, 1) := by decide +kernel
theorem dX11_told_97 : decode cX11_told 97 = .ok (.bipush (-9), 2) := by decide +kernel
theorem dX11_told_99 : decode cX11_told 99 = .ok (.invokevirtual 88, 3) := by decide +kernel
theorem dX11_told_102 : decode cX11_told 102 = .ok (.ireturn, 1) := by decide +kernel
theorem dX11_end_0 : decode cX11_end 0 = .ok (.aload_n 0, 1) := by decide +kernel
theorem dX11_end_1 : decode cX11_end 1 = .ok (.getfield 10, 3) := by decide +kernel
theorem dX11_end_4 : decode cX11_end 4 = .ok (.iload_n 1, 1) := by decide +kernel
theorem dX11_end_5 : decode cX11_end 5 = .ok (.invokevirtual 116, 3) := by decide +kernel
theorem dX11_end_8 : decode cX11_end 8 = .ok (.ifCond .ne 12, 3) := by decide +kernel
theorem dX11_end_11 : decode cX11_end 11 = .ok (.aload_n 0, 1) := by decide +kernel
theorem dX11_end_12 : decode cX11_end 12 = .ok (.bipush (-3), 2) := by decide +kernel
theorem dX11_end_14 : decode cX11_end 14 = .ok (.invokevirtual 88, 3) := by decide +kernel
theorem dX11_end_17 : decode cX11_end 17 = .ok (.pop, 1) := by decide +kernel
theorem dX11_end_18 : decode cX11_end 18 = .ok (.lconst 0, 1) := by decide +kernel
theorem dX11_end_19 : decode cX11_end 19 = .ok (.lreturn, 1) := by decide +kernel
theorem dX11_end_20 : decode cX11_end 20 = .ok (.aload_n 0, 1) := by decide +kernel
theorem dX11_end_21 : decode cX11_end 21 = .ok (.getfield 72, 3) := by decide +kernel
theorem dX11_end_24 : decode cX11_end 24 = .ok (.getfield 309, 3) := by decide +kernel
theorem dX11_end_27 : decode cX11_end 27 = .ok (.ifCond .le 15, 3) := by decide +kernel
theorem dX11_end_30 : decode cX11_end 30 = .ok (.aload_n 0, 1) := by decide +kernel
theorem dX11_end_31 : decode cX11_end 31 = .ok (.getfield 72, 3) := by decide +kernel
theorem dX11_end_34 : decode cX11_end 34 = .ok (.getfield 333, 3) := by decide +kernel
theorem dX11_end_37 : decode cX11_end 37 = .ok (.iload_n 1, 1) := by decide +kernel
theorem dX11_end_38 : decode cX11_end 38 = .ok (.laload, 1) := by decide +kernel
theorem dX11_end_39 : decode cX11_end 39 = .ok (.goto 12, 3) := by decide +kernel
theorem dX11_end_42 : decode cX11_end 42 = .ok (.aload_n 0, 1) := by decide +kernel
theorem dX11_end_43 : decode cX11_end 43 = .ok (.getfield 10, 3) := by decide +kernel
theorem dX11_end_46 : decode cX11_end 46 = .ok (.getfield 131, 3) := by decide +kernel
theorem dX11_end_49 : decode cX11_end 49 = .ok (.iload_n 1, 1) := by decide +kernel
theorem dX11_end_50 : decode cX11_end 50 = .ok (.laload, 1) := by decide +kernel
theorem dX11_end_51 : decode cX11_end 51 = .ok (.lreturn, 1) := by decide +kernel
theorem dX11_again_0 : decode cX11_again 0 = .ok (.aload_n 0, 1) := by decide +kernel
theorem dX11_again_1 : decode cX11_again 1 = .ok (.getfield 76, 3) := by decide +kernel
theorem dX11_again_4 : decode cX11_again 4 = .ok (.ifCond .ne 6, 3) := by decide +kernel
theorem dX11_again_7 : decode cX11_again 7 = .ok (.bipush (-7), 2) := by decide +kernel
theorem dX11_again_9 : decode cX11_again 9 = .ok (.ireturn, 1) := by decide +kernel
theorem dX11_again_10 : decode cX11_again 10 = .ok (.aload_n 0, 1) := by decide +kernel
theorem dX11_again_11 : decode cX11_again 11 = .ok (.getfield 76, 3) := by decide +kernel
theorem dX11_again_14 : decode cX11_again 14 = .ok (.istore_n 1, 1) := by decide +kernel
theorem dX11_again_15 : decode cX11_again 15 = .ok (.aload_n 0, 1) := by decide +kernel
theorem dX11_again_16 : decode cX11_again 16 = .ok (.iconst 0, 1) := by decide +kernel
theorem dX11_again_17 : decode cX11_again 17 = .ok (.putfield 76, 3) := by decide +kernel
theorem dX11_again_20 : decode cX11_again 20 = .ok (.iload_n 1, 1) := by decide +kernel
theorem dX11_again_21 : decode cX11_again 21 = .ok (.ireturn, 1) := by decide +kernel
theorem dX11_status_0 : decode cX11_status 0 = .ok (.iload_n 1, 1) := by decide +kernel
theorem dX11_status_1 : decode cX11_status 1 = .ok (.bipush (-11), 2) := by decide +kernel
theorem dX11_status_3 : decode cX11_status 3 = .ok (.if_icmp .lt 9, 3) := by decide +kernel
theorem dX11_status_6 : decode cX11_status 6 = .ok (.iload_n 1, 1) := by decide +kernel
theorem dX11_status_7 : decode cX11_status 7 = .ok (.bipush (-2), 2) := by decide +kernel
theorem dX11_status_9 : decode cX11_status 9 = .ok (.if_icmp .le 10, 3) := by decide +kernel
theorem dX11_status_12 : decode cX11_status 12 = .ok (.aload_n 0, 1) := by decide +kernel
theorem dX11_status_13 : decode cX11_status 13 = .ok (.bipush (-9), 2) := by decide +kernel
theorem dX11_status_15 : decode cX11_status 15 = .ok (.invokevirtual 88, 3) := by decide +kernel
theorem dX11_status_18 : decode cX11_status 18 = .ok (.ireturn, 1) := by decide +kernel
theorem dX11_status_19 : decode cX11_status 19 = .ok (.aload_n 0, 1) := by decide +kernel
theorem dX11_status_20 : decode cX11_status 20 = .ok (.getfield 80, 3) := by decide +kernel
theorem dX11_status_23 : decode cX11_status 23 = .ok (.iload_n 1, 1) := by decide +kernel
theorem dX11_status_24 : decode cX11_status 24 = .ok (.ineg, 1) := by decide +kernel
theorem dX11_status_25 : decode cX11_status 25 = .ok (.iaload, 1) := by decide +kernel
theorem dX11_status_26 : decode cX11_status 26 = .ok (.ireturn, 1) := by decide +kernel
theorem dX11_refuse_0 : decode cX11_refuse 0 = .ok (.iload_n 1, 1) := by decide +kernel
theorem dX11_refuse_1 : decode cX11_refuse 1 = .ok (.bipush (-11), 2) := by decide +kernel
theorem dX11_refuse_3 : decode cX11_refuse 3 = .ok (.if_icmp .lt 25, 3) := by decide +kernel
theorem dX11_refuse_6 : decode cX11_refuse 6 = .ok (.iload_n 1, 1) := by decide +kernel
theorem dX11_refuse_7 : decode cX11_refuse 7 = .ok (.bipush (-2), 2) := by decide +kernel
theorem dX11_refuse_9 : decode cX11_refuse 9 = .ok (.if_icmp .gt 19, 3) := by decide +kernel
theorem dX11_refuse_12 : decode cX11_refuse 12 = .ok (.aload_n 0, 1) := by decide +kernel
theorem dX11_refuse_13 : decode cX11_refuse 13 = .ok (.iload_n 1, 1) := by decide +kernel
theorem dX11_refuse_14 : decode cX11_refuse 14 = .ok (.putfield 76, 3) := by decide +kernel
theorem dX11_refuse_17 : decode cX11_refuse 17 = .ok (.aload_n 0, 1) := by decide +kernel
theorem dX11_refuse_18 : decode cX11_refuse 18 = .ok (.getfield 80, 3) := by decide +kernel
theorem dX11_refuse_21 : decode cX11_refuse 21 = .ok (.iload_n 1, 1) := by decide +kernel
theorem dX11_refuse_22 : decode cX11_refuse 22 = .ok (.ineg, 1) := by decide +kernel
theorem dX11_refuse_23 : decode cX11_refuse 23 = .ok (.dup2, 1) := by decide +kernel
theorem dX11_refuse_24 : decode cX11_refuse 24 = .ok (.iaload, 1) := by decide +kernel
theorem dX11_refuse_25 : decode cX11_refuse 25 = .ok (.iconst 1, 1) := by decide +kernel
theorem dX11_refuse_26 : decode cX11_refuse 26 = .ok (.iadd, 1) := by decide +kernel
theorem dX11_refuse_27 : decode cX11_refuse 27 = .ok (.iastore, 1) := by decide +kernel
theorem dX11_refuse_28 : decode cX11_refuse 28 = .ok (.iload_n 1, 1) := by decide +kernel
theorem dX11_refuse_29 : decode cX11_refuse 29 = .ok (.ireturn, 1) := by decide +kernel
theorem dX11_bodyChanged_0 : decode cX11_bodyChanged 0 = .ok (.aload_n 0, 1) := by decide +kernel
theorem dX11_bodyChanged_1 : decode cX11_bodyChanged 1 = .ok (.getfield 19, 3) := by decide +kernel
theorem dX11_bodyChanged_4 : decode cX11_bodyChanged 4 = .ok (.iconst 1, 1) := by decide +kernel
theorem dX11_bodyChanged_5 : decode cX11_bodyChanged 5 = .ok (.putfield 336, 3) := by decide +kernel
theorem dX11_bodyChanged_8 : decode cX11_bodyChanged 8 = .ok (.aload_n 0, 1) := by decide +kernel
theorem dX11_bodyChanged_9 : decode cX11_bodyChanged 9 = .ok (.getfield 49, 3) := by decide +kernel
theorem dX11_bodyChanged_12 : decode cX11_bodyChanged 12 = .ok (.iconst 0, 1) := by decide +kernel
theorem dX11_bodyChanged_13 : decode cX11_bodyChanged 13 = .ok (.putfield 241, 3) := by decide +kernel
theorem dX11_bodyChanged_16 : decode cX11_bodyChanged 16 = .ok (.aload_n 0, 1) := by decide +kernel
theorem dX11_bodyChanged_17 : decode cX11_bodyChanged 17 = .ok (.getfield 72, 3) := by decide +kernel
theorem dX11_bodyChanged_20 : decode cX11_bodyChanged 20 = .ok (.invokevirtual 339, 3) := by decide +kernel
theorem dX11_bodyChanged_23 : decode cX11_bodyChanged 23 = .ok (.return_, 1) := by decide +kernel
theorem dX11_isBack_0 : decode cX11_isBack 0 = .ok (.iload_n 0, 1) := by decide +kernel
theorem dX11_isBack_1 : decode cX11_isBack 1 = .ok (.ifCond .lt 12, 3) := by decide +kernel
theorem dX11_isBack_4 : decode cX11_isBack 4 = .ok (.iload_n 0, 1) := by decide +kernel
theorem dX11_isBack_5 : decode cX11_isBack 5 = .ok (.iconst 4, 1) := by decide +kernel
theorem dX11_isBack_6 : decode cX11_isBack 6 = .ok (.if_icmp .gt 7, 3) := by decide +kernel
theorem dX11_isBack_9 : decode cX11_isBack 9 = .ok (.iconst 1, 1) := by decide +kernel
theorem dX11_isBack_10 : decode cX11_isBack 10 = .ok (.goto 4, 3) := by decide +kernel
theorem dX11_isBack_13 : decode cX11_isBack 13 = .ok (.iconst 0, 1) := by decide +kernel
theorem dX11_isBack_14 : decode cX11_isBack 14 = .ok (.ireturn, 1) := by decide +kernel
theorem dX11_isSlot_0 : decode cX11_isSlot 0 = .ok (.iload_n 0, 1) := by decide +kernel
theorem dX11_isSlot_1 : decode cX11_isSlot 1 = .ok (.ifCond .lt 13, 3) := by decide +kernel
theorem dX11_isSlot_4 : decode cX11_isSlot 4 = .ok (.iload_n 0, 1) := by decide +kernel
theorem dX11_isSlot_5 : decode cX11_isSlot 5 = .ok (.bipush 8, 2) := by decide +kernel
theorem dX11_isSlot_7 : decode cX11_isSlot 7 = .ok (.if_icmp .ge 7, 3) := by decide +kernel
theorem dX11_isSlot_10 : decode cX11_isSlot 10 = .ok (.iconst 1, 1) := by decide +kernel
theorem dX11_isSlot_11 : decode cX11_isSlot 11 = .ok (.goto 4, 3) := by decide +kernel
theorem dX11_isSlot_14 : decode cX11_isSlot 14 = .ok (.iconst 0, 1) := by decide +kernel
theorem dX11_isSlot_15 : decode cX11_isSlot 15 = .ok (.ireturn, 1) := by decide +kernel
theorem dX11_isKind_0 : decode cX11_isKind 0 = .ok (.iload_n 0, 1) := by decide +kernel
theorem dX11_isKind_1 : decode cX11_isKind 1 = .ok (.ifCond .lt 13, 3) := by decide +kernel
theorem dX11_isKind_4 : decode cX11_isKind 4 = .ok (.iload_n 0, 1) := by decide +kernel
theorem dX11_isKind_5 : decode cX11_isKind 5 = .ok (.bipush 6, 2) := by decide +kernel
theorem dX11_isKind_7 : decode cX11_isKind 7 = .ok (.if_icmp .ge 7, 3) := by decide +kernel
theorem dX11_isKind_10 : decode cX11_isKind 10 = .ok (.iconst 1, 1) := by decide +kernel
theorem dX11_isKind_11 : decode cX11_isKind 11 = .ok (.goto 4, 3) := by decide +kernel
theorem dX11_isKind_14 : decode cX11_isKind 14 = .ok (.iconst 0, 1) := by decide +kernel
theorem dX11_isKind_15 : decode cX11_isKind 15 = .ok (.ireturn, 1) := by decide +kernel
theorem dX11_operandPart_0 : decode cX11_operandPart 0 = .ok (.iload_n 1, 1) := by decide +kernel
theorem dX11_operandPart_1 : decode cX11_operandPart 1 = .ok (.iconst 3, 1) := by decide +kernel
theorem dX11_operandPart_2 : decode cX11_operandPart 2 = .ok (.imul, 1) := by decide +kernel
theorem dX11_operandPart_3 : decode cX11_operandPart 3 = .ok (.iload_n 2, 1) := by decide +kernel
theorem dX11_operandPart_4 : decode cX11_operandPart 4 = .ok (.iconst 2, 1) := by decide +kernel
theorem dX11_operandPart_5 : decode cX11_operandPart 5 = .ok (.idiv, 1) := by decide +kernel
theorem dX11_operandPart_6 : decode cX11_operandPart 6 = .ok (.iadd, 1) := by decide +kernel
theorem dX11_operandPart_7 : decode cX11_operandPart 7 = .ok (.istore_n 3, 1) := by decide +kernel
theorem dX11_operandPart_8 : decode cX11_operandPart 8 = .ok (.iload_n 2, 1) := by decide +kernel
theorem dX11_operandPart_9 : decode cX11_operandPart 9 = .ok (.iconst 2, 1) := by decide +kernel
theorem dX11_operandPart_10 : decode cX11_operandPart 10 = .ok (.irem, 1) := by decide +kernel
theorem dX11_operandPart_11 : decode cX11_operandPart 11 = .ok (.ifCond .ne 15, 3) := by decide +kernel
theorem dX11_operandPart_14 : decode cX11_operandPart 14 = .ok (.aload_n 0, 1) := by decide +kernel
theorem dX11_operandPart_15 : decode cX11_operandPart 15 = .ok (.getfield 10, 3) := by decide +kernel
theorem dX11_operandPart_18 : decode cX11_operandPart 18 = .ok (.getfield 342, 3) := by decide +kernel
theorem dX11_operandPart_21 : decode cX11_operandPart 21 = .ok (.iload_n 3, 1) := by decide +kernel
theorem dX11_operandPart_22 : decode cX11_operandPart 22 = .ok (.iaload, 1) := by decide +kernel
theorem dX11_operandPart_23 : decode cX11_operandPart 23 = .ok (.goto 12, 3) := by decide +kernel
theorem dX11_operandPart_26 : decode cX11_operandPart 26 = .ok (.aload_n 0, 1) := by decide +kernel
theorem dX11_operandPart_27 : decode cX11_operandPart 27 = .ok (.getfield 10, 3) := by decide +kernel
theorem dX11_operandPart_30 : decode cX11_operandPart 30 = .ok (.getfield 345, 3) := by decide +kernel
theorem dX11_operandPart_33 : decode cX11_operandPart 33 = .ok (.iload_n 3, 1) := by decide +kernel
theorem dX11_operandPart_34 : decode cX11_operandPart 34 = .ok (.iaload, 1) := by decide +kernel
theorem dX11_operandPart_35 : decode cX11_operandPart 35 = .ok (.ireturn, 1) := by decide +kernel
theorem dX11_lowestBeat_0 : decode cX11_lowestBeat 0 = .ok (.aload_n 0, 1) := by decide +kernel
theorem dX11_lowestBeat_1 : decode cX11_lowestBeat 1 = .ok (.getfield 10, 3) := by decide +kernel
theorem dX11_lowestBeat_4 : decode cX11_lowestBeat 4 = .ok (.invokevirtual 232, 3) := by decide +kernel
theorem dX11_lowestBeat_7 : decode cX11_lowestBeat 7 = .ok (.ifCond .ne 6, 3) := by decide +kernel
theorem dX11_lowestBeat_10 : decode cX11_lowestBeat 10 = .ok (.bipush (-2), 2) := by decide +kernel
theorem dX11_lowestBeat_12 : decode cX11_lowestBeat 12 = .ok (.ireturn, 1) := by decide +kernel
theorem dX11_lowestBeat_13 : decode cX11_lowestBeat 13 = .ok (.aload_n 0, 1) := by decide +kernel
theorem dX11_lowestBeat_14 : decode cX11_lowestBeat 14 = .ok (.getfield 10, 3) := by decide +kernel
theorem dX11_lowestBeat_17 : decode cX11_lowestBeat 17 = .ok (.invokevirtual 235, 3) := by decide +kernel
theorem dX11_lowestBeat_20 : decode cX11_lowestBeat 20 = .ok (.istore_n 1, 1) := by decide +kernel
theorem dX11_lowestBeat_21 : decode cX11_lowestBeat 21 = .ok (.iload_n 1, 1) := by decide +kernel
theorem dX11_lowestBeat_22 : decode cX11_lowestBeat 22 = .ok (.bipush 60, 2) := by decide +kernel
theorem dX11_lowestBeat_24 : decode cX11_lowestBeat 24 = .ok (.if_icmp .le 6, 3) := by decide +kernel
theorem dX11_lowestBeat_27 : decode cX11_lowestBeat 27 = .ok (.bipush (-9), 2) := by decide +kernel
theorem dX11_lowestBeat_29 : decode cX11_lowestBeat 29 = .ok (.ireturn, 1) := by decide +kernel
theorem dX11_lowestBeat_30 : decode cX11_lowestBeat 30 = .ok (.aload_n 0, 1) := by decide +kernel
theorem dX11_lowestBeat_31 : decode cX11_lowestBeat 31 = .ok (.getfield 19, 3) := by decide +kernel
theorem dX11_lowestBeat_34 : decode cX11_lowestBeat 34 = .ok (.aload_n 0, 1) := by decide +kernel
theorem dX11_lowestBeat_35 : decode cX11_lowestBeat 35 = .ok (.getfield 10, 3) := by decide +kernel
theorem dX11_lowestBeat_38 : decode cX11_lowestBeat 38 = .ok (.invokevirtual 166, 3) := by decide +kernel
theorem dX11_lowestBeat_41 : decode cX11_lowestBeat 41 = .ok (.aload_n 0, 1) := by decide +kernel
theorem dX11_lowestBeat_42 : decode cX11_lowestBeat 42 = .ok (.bipush 60, 2) := by decide +kernel
theorem dX11_lowestBeat_44 : decode cX11_lowestBeat 44 = .ok (.invokevirtual 238, 3) := by decide +kernel
theorem dX11_lowestBeat_47 : decode cX11_lowestBeat 47 = .ok (.ifCond .eq 6, 3) := by decide +kernel
theorem dX11_lowestBeat_50 : decode cX11_lowestBeat 50 = .ok (.bipush (-9), 2) := by decide +kernel
theorem dX11_lowestBeat_52 : decode cX11_lowestBeat 52 = .ok (.ireturn, 1) := by decide +kernel
theorem dX11_lowestBeat_53 : decode cX11_lowestBeat 53 = .ok (.bipush 60, 2) := by decide +kernel
theorem dX11_lowestBeat_55 : decode cX11_lowestBeat 55 = .ok (.istore_n 2, 1) := by decide +kernel
theorem dX11_lowestBeat_56 : decode cX11_lowestBeat 56 = .ok (.iconst 0, 1) := by decide +kernel
theorem dX11_lowestBeat_57 : decode cX11_lowestBeat 57 = .ok (.istore_n 3, 1) := by decide +kernel
theorem dX11_lowestBeat_58 : decode cX11_lowestBeat 58 = .ok (.iload_n 3, 1) := by decide +kernel
theorem dX11_lowestBeat_59 : decode cX11_lowestBeat 59 = .ok (.bipush 60, 2) := by decide +kernel
theorem dX11_lowestBeat_61 : decode cX11_lowestBeat 61 = .ok (.if_icmp .ge 41, 3) := by decide +kernel
theorem dX11_lowestBeat_64 : decode cX11_lowestBeat 64 = .ok (.iload_n 1, 1) := by decide +kernel
theorem dX11_lowestBeat_65 : decode cX11_lowestBeat 65 = .ok (.iload_n 2, 1) := by decide +kernel
theorem dX11_lowestBeat_66 : decode cX11_lowestBeat 66 = .ok (.if_icmp .ge 36, 3) := by decide +kernel
theorem dX11_lowestBeat_69 : decode cX11_lowestBeat 69 = .ok (.iload_n 1, 1) := by decide +kernel
theorem dX11_lowestBeat_70 : decode cX11_lowestBeat 70 = .ok (.iload_n 2, 1) := by decide +kernel
theorem dX11_lowestBeat_71 : decode cX11_lowestBeat 71 = .ok (.iadd, 1) := by decide +kernel
theorem dX11_lowestBeat_72 : decode cX11_lowestBeat 72 = .ok (.iconst 2, 1) := by decide +kernel
theorem dX11_lowestBeat_73 : decode cX11_lowestBeat 73 = .ok (.idiv, 1) := by decide +kernel
theorem dX11_lowestBeat_74 : decode cX11_lowestBeat 74 = .ok (.istore 4, 2) := by decide +kernel
theorem dX11_lowestBeat_76 : decode cX11_lowestBeat 76 = .ok (.aload_n 0, 1) := by decide +kernel
theorem dX11_lowestBeat_77 : decode cX11_lowestBeat 77 = .ok (.iload 4, 2) := by decide +kernel
theorem dX11_lowestBeat_79 : decode cX11_lowestBeat 79 = .ok (.invokevirtual 238, 3) := by decide +kernel
theorem dX11_lowestBeat_82 : decode cX11_lowestBeat 82 = .ok (.ifCond .eq 11, 3) := by decide +kernel
theorem dX11_lowestBeat_85 : decode cX11_lowestBeat 85 = .ok (.iload 4, 2) := by decide +kernel
theorem dX11_lowestBeat_87 : decode cX11_lowestBeat 87 = .ok (.iconst 1, 1) := by decide +kernel
theorem dX11_lowestBeat_88 : decode cX11_lowestBeat 88 = .ok (.iadd, 1) := by decide +kernel
theorem dX11_lowestBeat_89 : decode cX11_lowestBeat 89 = .ok (.istore_n 1, 1) := by decide +kernel
theorem dX11_lowestBeat_90 : decode cX11_lowestBeat 90 = .ok (.goto 6, 3) := by decide +kernel
theorem dX11_lowestBeat_93 : decode cX11_lowestBeat 93 = .ok (.iload 4, 2) := by decide +kernel
theorem dX11_lowestBeat_95 : decode cX11_lowestBeat 95 = .ok (.istore_n 2, 1) := by decide +kernel
theorem dX11_lowestBeat_96 : decode cX11_lowestBeat 96 = .ok (.iinc 3 1, 3) := by decide +kernel
theorem dX11_lowestBeat_99 : decode cX11_lowestBeat 99 = .ok (.goto (-41), 3) := by decide +kernel
theorem dX11_lowestBeat_102 : decode cX11_lowestBeat 102 = .ok (.iload_n 1, 1) := by decide +kernel
theorem dX11_lowestBeat_103 : decode cX11_lowestBeat 103 = .ok (.ireturn, 1) := by decide +kernel
theorem dX11_hasRingAt_0 : decode cX11_hasRingAt 0 = .ok (.aload_n 0, 1) := by decide +kernel
theorem dX11_hasRingAt_1 : decode cX11_hasRingAt 1 = .ok (.getfield 33, 3) := by decide +kernel
theorem dX11_hasRingAt_4 : decode cX11_hasRingAt 4 = .ok (.aload_n 0, 1) := by decide +kernel
theorem dX11_hasRingAt_5 : decode cX11_hasRingAt 5 = .ok (.getfield 19, 3) := by decide +kernel
theorem dX11_hasRingAt_8 : decode cX11_hasRingAt 8 = .ok (.getfield 291, 3) := by decide +kernel
theorem dX11_hasRingAt_11 : decode cX11_hasRingAt 11 = .ok (.iload_n 1, 1) := by decide +kernel
theorem dX11_hasRingAt_12 : decode cX11_hasRingAt 12 = .ok (.invokevirtual 348, 3) := by decide +kernel
theorem dX11_hasRingAt_15 : decode cX11_hasRingAt 15 = .ok (.aload_n 0, 1) := by decide +kernel
theorem dX11_hasRingAt_16 : decode cX11_hasRingAt 16 = .ok (.getfield 33, 3) := by decide +kernel
theorem dX11_hasRingAt_19 : decode cX11_hasRingAt 19 = .ok (.aload_n 0, 1) := by decide +kernel
theorem dX11_hasRingAt_20 : decode cX11_hasRingAt 20 = .ok (.getfield 10, 3) := by decide +kernel
theorem dX11_hasRingAt_23 : decode cX11_hasRingAt 23 = .ok (.getfield 149, 3) := by decide +kernel
theorem dX11_hasRingAt_26 : decode cX11_hasRingAt 26 = .ok (.invokevirtual 226, 3) := by decide +kernel
theorem dX11_hasRingAt_29 : decode cX11_hasRingAt 29 = .ok (.ifCond .ne 7, 3) := by decide +kernel
theorem dX11_hasRingAt_32 : decode cX11_hasRingAt 32 = .ok (.iconst 1, 1) := by decide +kernel
theorem dX11_hasRingAt_33 : decode cX11_hasRingAt 33 = .ok (.goto 4, 3) := by decide +kernel
theorem dX11_hasRingAt_36 : decode cX11_hasRingAt 36 = .ok (.iconst 0, 1) := by decide +kernel
theorem dX11_hasRingAt_37 : decode cX11_hasRingAt 37 = .ok (.ireturn, 1) := by decide +kernel
theorem dX11_seekAt_0 : decode cX11_seekAt 0 = .ok (.aload_n 0, 1) := by decide +kernel
theorem dX11_seekAt_1 : decode cX11_seekAt 1 = .ok (.getfield 33, 3) := by decide +kernel
theorem dX11_seekAt_4 : decode cX11_seekAt 4 = .ok (.aload_n 0, 1) := by decide +kernel
theorem dX11_seekAt_5 : decode cX11_seekAt 5 = .ok (.getfield 19, 3) := by decide +kernel
theorem dX11_seekAt_8 : decode cX11_seekAt 8 = .ok (.getfield 291, 3) := by decide +kernel
theorem dX11_seekAt_11 : decode cX11_seekAt 11 = .ok (.iload_n 1, 1) := by decide +kernel
theorem dX11_seekAt_12 : decode cX11_seekAt 12 = .ok (.invokevirtual 348, 3) := by decide +kernel
theorem dX11_seekAt_15 : decode cX11_seekAt 15 = .ok (.aload_n 0, 1) := by decide +kernel
theorem dX11_seekAt_16 : decode cX11_seekAt 16 = .ok (.getfield 42, 3) := by decide +kernel
theorem dX11_seekAt_19 : decode cX11_seekAt 19 = .ok (.iload_n 1, 1) := by decide +kernel
theorem dX11_seekAt_20 : decode cX11_seekAt 20 = .ok (.invokevirtual 352, 3) := by decide +kernel
theorem dX11_seekAt_23 : decode cX11_seekAt 23 = .ok (.ireturn, 1) := by decide +kernel
theorem dX11_refusalOfRun_0 : decode cX11_refusalOfRun 0 = .ok (.aload_n 0, 1) := by decide +kernel
theorem dX11_refusalOfRun_1 : decode cX11_refusalOfRun 1 = .ok (.getfield 10, 3) := by decide +kernel
theorem dX11_refusalOfRun_4 : decode cX11_refusalOfRun 4 = .ok (.invokevirtual 232, 3) := by decide +kernel
theorem dX11_refusalOfRun_7 : decode cX11_refusalOfRun 7 = .ok (.ifCond .eq 17, 3) := by decide +kernel
theorem dX11_refusalOfRun_10 : decode cX11_refusalOfRun 10 = .ok (.iload_n 2, 1) := by decide +kernel
theorem dX11_refusalOfRun_11 : decode cX11_refusalOfRun 11 = .ok (.ifCond .eq 16, 3) := by decide +kernel
theorem dX11_refusalOfRun_14 : decode cX11_refusalOfRun 14 = .ok (.aload_n 0, 1) := by decide +kernel
theorem dX11_refusalOfRun_15 : decode cX11_refusalOfRun 15 = .ok (.getfield 49, 3) := by decide +kernel
theorem dX11_refusalOfRun_18 : decode cX11_refusalOfRun 18 = .ok (.getfield 241, 3) := by decide +kernel
theorem dX11_refusalOfRun_21 : decode cX11_refusalOfRun 21 = .ok (.ifCond .ne 6, 3) := by decide +kernel
theorem dX11_refusalOfRun_24 : decode cX11_refusalOfRun 24 = .ok (.bipush (-2), 2) := by decide +kernel
theorem dX11_refusalOfRun_26 : decode cX11_refusalOfRun 26 = .ok (.ireturn, 1) := by decide +kernel
theorem dX11_refusalOfRun_27 : decode cX11_refusalOfRun 27 = .ok (.iload_n 1, 1) := by decide +kernel
theorem dX11_refusalOfRun_28 : decode cX11_refusalOfRun 28 = .ok (.ifCond .ge 6, 3) := by decide +kernel
theorem dX11_refusalOfRun_31 : decode cX11_refusalOfRun 31 = .ok (.bipush (-4), 2) := by decide +kernel
theorem dX11_refusalOfRun_33 : decode cX11_refusalOfRun 33 = .ok (.ireturn, 1) := by decide +kernel
theorem dX11_refusalOfRun_34 : decode cX11_refusalOfRun 34 = .ok (.iload_n 1, 1) := by decide +kernel
theorem dX11_refusalOfRun_35 : decode cX11_refusalOfRun 35 = .ok (.sipush 200, 3) := by decide +kernel
theorem dX11_refusalOfRun_38 : decode cX11_refusalOfRun 38 = .ok (.if_icmp .le 8, 3) := by decide +kernel
theorem dX11_refusalOfRun_41 : decode cX11_refusalOfRun 41 = .ok (.bipush (-9), 2) := by decide +kernel
theorem dX11_refusalOfRun_43 : decode cX11_refusalOfRun 43 = .ok (.goto 4, 3) := by decide +kernel
theorem dX11_refusalOfRun_46 : decode cX11_refusalOfRun 46 = .ok (.iconst 0, 1) := by decide +kernel
theorem dX11_refusalOfRun_47 : decode cX11_refusalOfRun 47 = .ok (.ireturn, 1) := by decide +kernel
theorem dX12_init_0 : decode cX12_init 0 = .ok (.aload_n 0, 1) := by decide +kernel
theorem dX12_init_1 : decode cX12_init 1 = .ok (.invokespecial 1, 3) := by decide +kernel
theorem dX12_init_4 : decode cX12_init 4 = .ok (.aload_n 0, 1) := by decide +kernel
theorem dX12_init_5 : decode cX12_init 5 = .ok (.bipush 16, 2) := by decide +kernel
theorem dX12_init_7 : decode cX12_init 7 = .ok (.newarray .int, 2) := by decide +kernel
theorem dX12_init_9 : decode cX12_init 9 = .ok (.putfield 7, 3) := by decide +kernel
theorem dX12_init_12 : decode cX12_init 12 = .ok (.aload_n 0, 1) := by decide +kernel
theorem dX12_init_13 : decode cX12_init 13 = .ok (.bipush 16, 2) := by decide +kernel
theorem dX12_init_15 : decode cX12_init 15 = .ok (.newarray .int, 2) := by decide +kernel
theorem dX12_init_17 : decode cX12_init 17 = .ok (.putfield 13, 3) := by decide +kernel
theorem dX12_init_20 : decode cX12_init 20 = .ok (.aload_n 0, 1) := by decide +kernel
theorem dX12_init_21 : decode cX12_init 21 = .ok (.bipush 16, 2) := by decide +kernel
theorem dX12_init_23 : decode cX12_init 23 = .ok (.newarray .int, 2) := by decide +kernel
theorem dX12_init_25 : decode cX12_init 25 = .ok (.putfield 16, 3) := by decide +kernel
theorem dX12_init_28 : decode cX12_init 28 = .ok (.aload_n 0, 1) := by decide +kernel
theorem dX12_init_29 : decode cX12_init 29 = .ok (.bipush 16, 2) := by decide +kernel
theorem dX12_init_31 : decode cX12_init 31 = .ok (.newarray .int, 2) := by decide +kernel
theorem dX12_init_33 : decode cX12_init 33 = .ok (.putfield 19, 3) := by decide +kernel
theorem dX12_init_36 : decode cX12_init 36 = .ok (.aload_n 0, 1) := by decide +kernel
theorem dX12_init_37 : decode cX12_init 37 = .ok (.bipush 16, 2) := by decide +kernel
theorem dX12_init_39 : decode cX12_init 39 = .ok (.newarray .int, 2) := by decide +kernel
theorem dX12_init_41 : decode cX12_init 41 = .ok (.putfield 22, 3) := by decide +kernel
theorem dX12_init_44 : decode cX12_init 44 = .ok (.aload_n 0, 1) := by decide +kernel
theorem dX12_init_45 : decode cX12_init 45 = .ok (.bipush 48, 2) := by decide +kernel
theorem dX12_init_47 : decode cX12_init 47 = .ok (.newarray .int, 2) := by decide +kernel
theorem dX12_init_49 : decode cX12_init 49 = .ok (.putfield 25, 3) := by decide +kernel
theorem dX12_init_52 : decode cX12_init 52 = .ok (.aload_n 0, 1) := by decide +kernel
theorem dX12_init_53 : decode cX12_init 53 = .ok (.bipush 48, 2) := by decide +kernel
theorem dX12_init_55 : decode cX12_init 55 = .ok (.newarray .int, 2) := by decide +kernel
theorem dX12_init_57 : decode cX12_init 57 = .ok (.putfield 28, 3) := by decide +kernel
theorem dX12_init_60 : decode cX12_init 60 = .ok (.aload_n 0, 1) := by decide +kernel
theorem dX12_init_61 : decode cX12_init 61 = .ok (.bipush 16, 2) := by decide +kernel
theorem dX12_init_63 : decode cX12_init 63 = .ok (.newarray .long, 2) := by decide +kernel
theorem dX12_init_65 : decode cX12_init 65 = .ok (.putfield 31, 3) := by decide +kernel
theorem dX12_init_68 : decode cX12_init 68 = .ok (.aload_n 0, 1) := by decide +kernel
theorem dX12_init_69 : decode cX12_init 69 = .ok (.bipush 16, 2) := by decide +kernel
theorem dX12_init_71 : decode cX12_init 71 = .ok (.newarray .long, 2) := by decide +kernel
theorem dX12_init_73 : decode cX12_init 73 = .ok (.putfield 35, 3) := by decide +kernel
theorem dX12_init_76 : decode cX12_init 76 = .ok (.aload_n 0, 1) := by decide +kernel
theorem dX12_init_77 : decode cX12_init 77 = .ok (.bipush 6, 2) := by decide +kernel
theorem dX12_init_79 : decode cX12_init 79 = .ok (.newarray .int, 2) := by decide +kernel
theorem dX12_init_81 : decode cX12_init 81 = .ok (.putfield 38, 3) := by decide +kernel
theorem dX12_init_84 : decode cX12_init 84 = .ok (.aload_n 0, 1) := by decide +kernel
theorem dX12_init_85 : decode cX12_init 85 = .ok (.bipush 40, 2) := by decide +kernel
theorem dX12_init_87 : decode cX12_init 87 = .ok (.newarray .int, 2) := by decide +kernel
theorem dX12_init_89 : decode cX12_init 89 = .ok (.putfield 41, 3) := by decide +kernel
theorem dX12_init_92 : decode cX12_init 92 = .ok (.aload_n 0, 1) := by decide +kernel
theorem dX12_init_93 : decode cX12_init 93 = .ok (.bipush 40, 2) := by decide +kernel
theorem dX12_init_95 : decode cX12_init 95 = .ok (.newarray .int, 2) := by decide +kernel
theorem dX12_init_97 : decode cX12_init 97 = .ok (.putfield 44, 3) := by decide +kernel
theorem dX12_init_100 : decode cX12_init 100 = .ok (.aload_n 0, 1) := by decide +kernel
theorem dX12_init_101 : decode cX12_init 101 = .ok (.bipush 40, 2) := by decide +kernel
theorem dX12_init_103 : decode cX12_init 103 = .ok (.newarray .int, 2) := by decide +kernel
theorem dX12_init_105 : decode cX12_init 105 = .ok (.putfield 47, 3) := by decide +kernel
theorem dX12_init_108 : decode cX12_init 108 = .ok (.aload_n 0, 1) := by decide +kernel
theorem dX12_init_109 : decode cX12_init 109 = .ok (.bipush 40, 2) := by decide +kernel
theorem dX12_init_111 : decode cX12_init 111 = .ok (.newarray .int, 2) := by decide +kernel
theorem dX12_init_113 : decode cX12_init 113 = .ok (.putfield 50, 3) := by decide +kernel
theorem dX12_init_116 : decode cX12_init 116 = .ok (.aload_n 0, 1) := by decide +kernel
theorem dX12_init_117 : decode cX12_init 117 = .ok (.sipush 704, 3) := by decide +kernel
theorem dX12_init_120 : decode cX12_init 120 = .ok (.newarray .int, 2) := by decide +kernel
theorem dX12_init_122 : decode cX12_init 122 = .ok (.putfield 53, 3) := by decide +kernel
theorem dX12_init_125 : decode cX12_init 125 = .ok (.aload_n 0, 1) := by decide +kernel
theorem dX12_init_126 : decode cX12_init 126 = .ok (.sipush 704, 3) := by decide +kernel
theorem dX12_init_129 : decode cX12_init 129 = .ok (.newarray .int, 2) := by decide +kernel
theorem dX12_init_131 : decode cX12_init 131 = .ok (.putfield 56, 3) := by decide +kernel
theorem dX12_init_134 : decode cX12_init 134 = .ok (.aload_n 0, 1) := by decide +kernel
theorem dX12_init_135 : decode cX12_init 135 = .ok (.sipush 704, 3) := by decide +kernel
theorem dX12_init_138 : decode cX12_init 138 = .ok (.newarray .int, 2) := by decide +kernel
theorem dX12_init_140 : decode cX12_init 140 = .ok (.putfield 59, 3) := by decide +kernel
theorem dX12_init_143 : decode cX12_init 143 = .ok (.aload_n 0, 1) := by decide +kernel
theorem dX12_init_144 : decode cX12_init 144 = .ok (.sipush 704, 3) := by decide +kernel
theorem dX12_init_147 : decode cX12_init 147 = .ok (.newarray .int, 2) := by decide +kernel
theorem dX12_init_149 : decode cX12_init 149 = .ok (.putfield 62, 3) := by decide +kernel
theorem dX12_init_152 : decode cX12_init 152 = .ok (.aload_n 0, 1) := by decide +kernel
theorem dX12_init_153 : decode cX12_init 153 = .ok (.sipush 320, 3) := by decide +kernel
theorem dX12_init_156 : decode cX12_init 156 = .ok (.newarray .long, 2) := by decide +kernel
theorem dX12_init_158 : decode cX12_init 158 = .ok (.putfield 65, 3) := by decide +kernel
theorem dX12_init_161 : decode cX12_init 161 = .ok (.aload_n 0, 1) := by decide +kernel
theorem dX12_init_162 : decode cX12_init 162 = .ok (.sipush 320, 3) := by decide +kernel
theorem dX12_init_165 : decode cX12_init 165 = .ok (.newarray .long, 2) := by decide +kernel
theorem dX12_init_167 : decode cX12_init 167 = .ok (.putfield 68, 3) := by decide +kernel
theorem dX12_init_170 : decode cX12_init 170 = .ok (.aload_n 0, 1) := by decide +kernel
theorem dX12_init_171 : decode cX12_init 171 = .ok (.bipush 8, 2) := by decide +kernel
theorem dX12_init_173 : decode cX12_init 173 = .ok (.newarray .int, 2) := by decide +kernel
theorem dX12_init_175 : decode cX12_init 175 = .ok (.putfield 71, 3) := by decide +kernel
theorem dX12_init_178 : decode cX12_init 178 = .ok (.aload_n 0, 1) := by decide +kernel
theorem dX12_init_179 : decode cX12_init 179 = .ok (.bipush 8, 2) := by decide +kernel
theorem dX12_init_181 : decode cX12_init 181 = .ok (.newarray .boolean, 2) := by decide +kernel
theorem dX12_init_183 : decode cX12_init 183 = .ok (.putfield 74, 3) := by decide +kernel
theorem dX12_init_186 : decode cX12_init 186 = .ok (.aload_n 0, 1) := by decide +kernel
theorem dX12_init_187 : decode cX12_init 187 = .ok (.bipush 12, 2) := by decide +kernel
theorem dX12_init_189 : decode cX12_init 189 = .ok (.newarray .int, 2) := by decide +kernel
theorem dX12_init_191 : decode cX12_init 191 = .ok (.putfield 78, 3) := by decide +kernel
theorem dX12_init_194 : decode cX12_init 194 = .ok (.aload_n 0, 1) := by decide +kernel
theorem dX12_init_195 : decode cX12_init 195 = .ok (.bipush 16, 2) := by decide +kernel
theorem dX12_init_197 : decode cX12_init 197 = .ok (.newarray .int, 2) := by decide +kernel
theorem dX12_init_199 : decode cX12_init 199 = .ok (.putfield 81, 3) := by decide +kernel
theorem dX12_init_202 : decode cX12_init 202 = .ok (.aload_n 0, 1) := by decide +kernel
theorem dX12_init_203 : decode cX12_init 203 = .ok (.bipush 16, 2) := by decide +kernel
theorem dX12_init_205 : decode cX12_init 205 = .ok (.newarray .int, 2) := by decide +kernel
theorem dX12_init_207 : decode cX12_init 207 = .ok (.putfield 84, 3) := by decide +kernel
theorem dX12_init_210 : decode cX12_init 210 = .ok (.aload_n 0, 1) := by decide +kernel
theorem dX12_init_211 : decode cX12_init 211 = .ok (.bipush 16, 2) := by decide +kernel
theorem dX12_init_213 : decode cX12_init 213 = .ok (.newarray .int, 2) := by decide +kernel
theorem dX12_init_215 : decode cX12_init 215 = .ok (.putfield 87, 3) := by decide +kernel
theorem dX12_init_218 : decode cX12_init 218 = .ok (.aload_n 0, 1) := by decide +kernel
theorem dX12_init_219 : decode cX12_init 219 = .ok (.bipush 16, 2) := by decide +kernel
theorem dX12_init_221 : decode cX12_init 221 = .ok (.newarray .int, 2) := by decide +kernel
theorem dX12_init_223 : decode cX12_init 223 = .ok (.putfield 90, 3) := by decide +kernel
theorem dX12_init_226 : decode cX12_init 226 = .ok (.aload_n 0, 1) := by decide +kernel
theorem dX12_init_227 : decode cX12_init 227 = .ok (.bipush 16, 2) := by decide +kernel
theorem dX12_init_229 : decode cX12_init 229 = .ok (.newarray .int, 2) := by decide +kernel
theorem dX12_init_231 : decode cX12_init 231 = .ok (.putfield 93, 3) := by decide +kernel
theorem dX12_init_234 : decode cX12_init 234 = .ok (.aload_n 0, 1) := by decide +kernel
theorem dX12_init_235 : decode cX12_init 235 = .ok (.bipush 16, 2) := by decide +kernel
end
section
theorem dX12_init_237 : decode cX12_init 237 = .ok (.newarray .int, 2) := by decide +kernel
theorem dX12_init_239 : decode cX12_init 239 = .ok (.putfield 96, 3) := by decide +kernel
theorem dX12_init_242 : decode cX12_init 242 = .ok (.aload_n 0, 1) := by decide +kernel
theorem dX12_init_243 : decode cX12_init 243 = .ok (.bipush 60, 2) := by decide +kernel
theorem dX12_init_245 : decode cX12_init 245 = .ok (.newarray .int, 2) := by decide +kernel
theorem dX12_init_247 : decode cX12_init 247 = .ok (.putfield 99, 3) := by decide +kernel
theorem dX12_init_250 : decode cX12_init 250 = .ok (.aload_n 0, 1) := by decide +kernel
theorem dX12_init_251 : decode cX12_init 251 = .ok (.bipush 6, 2) := by decide +kernel
theorem dX12_init_253 : decode cX12_init 253 = .ok (.newarray .int, 2) := by decide +kernel
theorem dX12_init_255 : decode cX12_init 255 = .ok (.putfield 102, 3) := by decide +kernel
theorem dX12_init_258 : decode cX12_init 258 = .ok (.aload_n 0, 1) := by decide +kernel
theorem dX12_init_259 : decode cX12_init 259 = .ok (.sipush 3216, 3) := by decide +kernel
theorem dX12_init_262 : decode cX12_init 262 = .ok (.newarray .long, 2) := by decide +kernel
theorem dX12_init_264 : decode cX12_init 264 = .ok (.putfield 105, 3) := by decide +kernel
theorem dX12_init_267 : decode cX12_init 267 = .ok (.iconst 0, 1) := by decide +kernel
theorem dX12_init_268 : decode cX12_init 268 = .ok (.istore_n 1, 1) := by decide +kernel
theorem dX12_init_269 : decode cX12_init 269 = .ok (.iload_n 1, 1) := by decide +kernel
theorem dX12_init_270 : decode cX12_init 270 = .ok (.bipush 6, 2) := by decide +kernel
theorem dX12_init_272 : decode cX12_init 272 = .ok (.if_icmp .ge 16, 3) := by decide +kernel
theorem dX12_init_275 : decode cX12_init 275 = .ok (.aload_n 0, 1) := by decide +kernel
theorem dX12_init_276 : decode cX12_init 276 = .ok (.getfield 38, 3) := by decide +kernel
theorem dX12_init_279 : decode cX12_init 279 = .ok (.iload_n 1, 1) := by decide +kernel
theorem dX12_init_280 : decode cX12_init 280 = .ok (.iconst 1, 1) := by decide +kernel
theorem dX12_init_281 : decode cX12_init 281 = .ok (.iastore, 1) := by decide +kernel
theorem dX12_init_282 : decode cX12_init 282 = .ok (.iinc 1 1, 3) := by decide +kernel
theorem dX12_init_285 : decode cX12_init 285 = .ok (.goto (-16), 3) := by decide +kernel
theorem dX12_init_288 : decode cX12_init 288 = .ok (.aload_n 0, 1) := by decide +kernel
theorem dX12_init_289 : decode cX12_init 289 = .ok (.invokevirtual 108, 3) := by decide +kernel
theorem dX12_init_292 : decode cX12_init 292 = .ok (.aload_n 0, 1) := by decide +kernel
theorem dX12_init_293 : decode cX12_init 293 = .ok (.invokevirtual 111, 3) := by decide +kernel
theorem dX12_init_296 : decode cX12_init 296 = .ok (.return_, 1) := by decide +kernel
theorem dX12_isIn_0 : decode cX12_isIn 0 = .ok (.lload_n 0, 1) := by decide +kernel
theorem dX12_isIn_1 : decode cX12_isIn 1 = .ok (.lload_n 2, 1) := by decide +kernel
theorem dX12_isIn_2 : decode cX12_isIn 2 = .ok (.lcmp, 1) := by decide +kernel
theorem dX12_isIn_3 : decode cX12_isIn 3 = .ok (.ifCond .lt 14, 3) := by decide +kernel
theorem dX12_isIn_6 : decode cX12_isIn 6 = .ok (.lload_n 0, 1) := by decide +kernel
theorem dX12_isIn_7 : decode cX12_isIn 7 = .ok (.lload 4, 2) := by decide +kernel
theorem dX12_isIn_9 : decode cX12_isIn 9 = .ok (.lcmp, 1) := by decide +kernel
theorem dX12_isIn_10 : decode cX12_isIn 10 = .ok (.ifCond .gt 7, 3) := by decide +kernel
theorem dX12_isIn_13 : decode cX12_isIn 13 = .ok (.iconst 1, 1) := by decide +kernel
theorem dX12_isIn_14 : decode cX12_isIn 14 = .ok (.goto 4, 3) := by decide +kernel
theorem dX12_isIn_17 : decode cX12_isIn 17 = .ok (.iconst 0, 1) := by decide +kernel
theorem dX12_isIn_18 : decode cX12_isIn 18 = .ok (.ireturn, 1) := by decide +kernel
theorem dX12_no_0 : decode cX12_no 0 = .ok (.aload_n 0, 1) := by decide +kernel
theorem dX12_no_1 : decode cX12_no 1 = .ok (.getfield 78, 3) := by decide +kernel
theorem dX12_no_4 : decode cX12_no 4 = .ok (.iload_n 1, 1) := by decide +kernel
theorem dX12_no_5 : decode cX12_no 5 = .ok (.ineg, 1) := by decide +kernel
theorem dX12_no_6 : decode cX12_no 6 = .ok (.dup2, 1) := by decide +kernel
theorem dX12_no_7 : decode cX12_no 7 = .ok (.iaload, 1) := by decide +kernel
theorem dX12_no_8 : decode cX12_no 8 = .ok (.iconst 1, 1) := by decide +kernel
theorem dX12_no_9 : decode cX12_no 9 = .ok (.iadd, 1) := by decide +kernel
theorem dX12_no_10 : decode cX12_no 10 = .ok (.iastore, 1) := by decide +kernel
theorem dX12_no_11 : decode cX12_no 11 = .ok (.aload_n 0, 1) := by decide +kernel
theorem dX12_no_12 : decode cX12_no 12 = .ok (.iload_n 1, 1) := by decide +kernel
theorem dX12_no_13 : decode cX12_no 13 = .ok (.putfield 114, 3) := by decide +kernel
theorem dX12_no_16 : decode cX12_no 16 = .ok (.iload_n 1, 1) := by decide +kernel
theorem dX12_no_17 : decode cX12_no 17 = .ok (.ireturn, 1) := by decide +kernel
theorem dX12_isAct_0 : decode cX12_isAct 0 = .ok (.iload_n 1, 1) := by decide +kernel
theorem dX12_isAct_1 : decode cX12_isAct 1 = .ok (.ifCond .lt 15, 3) := by decide +kernel
theorem dX12_isAct_4 : decode cX12_isAct 4 = .ok (.iload_n 1, 1) := by decide +kernel
theorem dX12_isAct_5 : decode cX12_isAct 5 = .ok (.aload_n 0, 1) := by decide +kernel
theorem dX12_isAct_6 : decode cX12_isAct 6 = .ok (.getfield 118, 3) := by decide +kernel
theorem dX12_isAct_9 : decode cX12_isAct 9 = .ok (.if_icmp .ge 7, 3) := by decide +kernel
theorem dX12_isAct_12 : decode cX12_isAct 12 = .ok (.iconst 1, 1) := by decide +kernel
theorem dX12_isAct_13 : decode cX12_isAct 13 = .ok (.goto 4, 3) := by decide +kernel
theorem dX12_isAct_16 : decode cX12_isAct 16 = .ok (.iconst 0, 1) := by decide +kernel
theorem dX12_isAct_17 : decode cX12_isAct 17 = .ok (.ireturn, 1) := by decide +kernel
theorem dX12_changes_0 : decode cX12_changes 0 = .ok (.aload_n 0, 1) := by decide +kernel
theorem dX12_changes_1 : decode cX12_changes 1 = .ok (.iconst 0, 1) := by decide +kernel
theorem dX12_changes_2 : decode cX12_changes 2 = .ok (.putfield 121, 3) := by decide +kernel
theorem dX12_changes_5 : decode cX12_changes 5 = .ok (.aload_n 0, 1) := by decide +kernel
theorem dX12_changes_6 : decode cX12_changes 6 = .ok (.invokevirtual 108, 3) := by decide +kernel
theorem dX12_changes_9 : decode cX12_changes 9 = .ok (.return_, 1) := by decide +kernel
theorem dX12_adds_0 : decode cX12_adds 0 = .ok (.aload_n 0, 1) := by decide +kernel
theorem dX12_adds_1 : decode cX12_adds 1 = .ok (.getfield 118, 3) := by decide +kernel
theorem dX12_adds_4 : decode cX12_adds 4 = .ok (.bipush 16, 2) := by decide +kernel
theorem dX12_adds_6 : decode cX12_adds 6 = .ok (.if_icmp .ne 10, 3) := by decide +kernel
theorem dX12_adds_9 : decode cX12_adds 9 = .ok (.aload_n 0, 1) := by decide +kernel
theorem dX12_adds_10 : decode cX12_adds 10 = .ok (.bipush (-10), 2) := by decide +kernel
theorem dX12_adds_12 : decode cX12_adds 12 = .ok (.invokevirtual 124, 3) := by decide +kernel
theorem dX12_adds_15 : decode cX12_adds 15 = .ok (.ireturn, 1) := by decide +kernel
theorem dX12_adds_16 : decode cX12_adds 16 = .ok (.aload_n 0, 1) := by decide +kernel
theorem dX12_adds_17 : decode cX12_adds 17 = .ok (.getfield 118, 3) := by decide +kernel
theorem dX12_adds_20 : decode cX12_adds 20 = .ok (.istore 7, 2) := by decide +kernel
theorem dX12_adds_22 : decode cX12_adds 22 = .ok (.aload_n 0, 1) := by decide +kernel
theorem dX12_adds_23 : decode cX12_adds 23 = .ok (.dup, 1) := by decide +kernel
theorem dX12_adds_24 : decode cX12_adds 24 = .ok (.getfield 118, 3) := by decide +kernel
theorem dX12_adds_27 : decode cX12_adds 27 = .ok (.iconst 1, 1) := by decide +kernel
theorem dX12_adds_28 : decode cX12_adds 28 = .ok (.iadd, 1) := by decide +kernel
theorem dX12_adds_29 : decode cX12_adds 29 = .ok (.putfield 118, 3) := by decide +kernel
theorem dX12_adds_32 : decode cX12_adds 32 = .ok (.aload_n 0, 1) := by decide +kernel
theorem dX12_adds_33 : decode cX12_adds 33 = .ok (.getfield 7, 3) := by decide +kernel
theorem dX12_adds_36 : decode cX12_adds 36 = .ok (.iload 7, 2) := by decide +kernel
theorem dX12_adds_38 : decode cX12_adds 38 = .ok (.iload_n 1, 1) := by decide +kernel
theorem dX12_adds_39 : decode cX12_adds 39 = .ok (.iastore, 1) := by decide +kernel
theorem dX12_adds_40 : decode cX12_adds 40 = .ok (.aload_n 0, 1) := by decide +kernel
theorem dX12_adds_41 : decode cX12_adds 41 = .ok (.getfield 13, 3) := by decide +kernel
theorem dX12_adds_44 : decode cX12_adds 44 = .ok (.iload 7, 2) := by decide +kernel
theorem dX12_adds_46 : decode cX12_adds 46 = .ok (.iconst 1, 1) := by decide +kernel
theorem dX12_adds_47 : decode cX12_adds 47 = .ok (.iastore, 1) := by decide +kernel
theorem dX12_adds_48 : decode cX12_adds 48 = .ok (.aload_n 0, 1) := by decide +kernel
theorem dX12_adds_49 : decode cX12_adds 49 = .ok (.getfield 16, 3) := by decide +kernel
theorem dX12_adds_52 : decode cX12_adds 52 = .ok (.iload 7, 2) := by decide +kernel
theorem dX12_adds_54 : decode cX12_adds 54 = .ok (.iconst 0, 1) := by decide +kernel
theorem dX12_adds_55 : decode cX12_adds 55 = .ok (.iastore, 1) := by decide +kernel
theorem dX12_adds_56 : decode cX12_adds 56 = .ok (.aload_n 0, 1) := by decide +kernel
theorem dX12_adds_57 : decode cX12_adds 57 = .ok (.getfield 19, 3) := by decide +kernel
theorem dX12_adds_60 : decode cX12_adds 60 = .ok (.iload 7, 2) := by decide +kernel
theorem dX12_adds_62 : decode cX12_adds 62 = .ok (.iconst 1, 1) := by decide +kernel
theorem dX12_adds_63 : decode cX12_adds 63 = .ok (.iastore, 1) := by decide +kernel
theorem dX12_adds_64 : decode cX12_adds 64 = .ok (.aload_n 0, 1) := by decide +kernel
theorem dX12_adds_65 : decode cX12_adds 65 = .ok (.getfield 22, 3) := by decide +kernel
theorem dX12_adds_68 : decode cX12_adds 68 = .ok (.iload 7, 2) := by decide +kernel
theorem dX12_adds_70 : decode cX12_adds 70 = .ok (.iload_n 2, 1) := by decide +kernel
theorem dX12_adds_71 : decode cX12_adds 71 = .ok (.iastore, 1) := by decide +kernel
theorem dX12_adds_72 : decode cX12_adds 72 = .ok (.aload_n 0, 1) := by decide +kernel
theorem dX12_adds_73 : decode cX12_adds 73 = .ok (.getfield 31, 3) := by decide +kernel
theorem dX12_adds_76 : decode cX12_adds 76 = .ok (.iload 7, 2) := by decide +kernel
theorem dX12_adds_78 : decode cX12_adds 78 = .ok (.lconst 0, 1) := by decide +kernel
theorem dX12_adds_79 : decode cX12_adds 79 = .ok (.lastore, 1) := by decide +kernel
theorem dX12_adds_80 : decode cX12_adds 80 = .ok (.aload_n 0, 1) := by decide +kernel
theorem dX12_adds_81 : decode cX12_adds 81 = .ok (.getfield 35, 3) := by decide +kernel
theorem dX12_adds_84 : decode cX12_adds 84 = .ok (.iload 7, 2) := by decide +kernel
theorem dX12_adds_86 : decode cX12_adds 86 = .ok (.lconst 0, 1) := by decide +kernel
theorem dX12_adds_87 : decode cX12_adds 87 = .ok (.lastore, 1) := by decide +kernel
theorem dX12_adds_88 : decode cX12_adds 88 = .ok (.aload_n 0, 1) := by decide +kernel
theorem dX12_adds_89 : decode cX12_adds 89 = .ok (.iload 7, 2) := by decide +kernel
theorem dX12_adds_91 : decode cX12_adds 91 = .ok (.iconst 0, 1) := by decide +kernel
theorem dX12_adds_92 : decode cX12_adds 92 = .ok (.iload_n 3, 1) := by decide +kernel
theorem dX12_adds_93 : decode cX12_adds 93 = .ok (.iload 4, 2) := by decide +kernel
theorem dX12_adds_95 : decode cX12_adds 95 = .ok (.invokevirtual 128, 3) := by decide +kernel
theorem dX12_adds_98 : decode cX12_adds 98 = .ok (.aload_n 0, 1) := by decide +kernel
theorem dX12_adds_99 : decode cX12_adds 99 = .ok (.iload 7, 2) := by decide +kernel
theorem dX12_adds_101 : decode cX12_adds 101 = .ok (.iconst 1, 1) := by decide +kernel
theorem dX12_adds_102 : decode cX12_adds 102 = .ok (.iload 5, 2) := by decide +kernel
theorem dX12_adds_104 : decode cX12_adds 104 = .ok (.iload 6, 2) := by decide +kernel
theorem dX12_adds_106 : decode cX12_adds 106 = .ok (.invokevirtual 128, 3) := by decide +kernel
theorem dX12_adds_109 : decode cX12_adds 109 = .ok (.aload_n 0, 1) := by decide +kernel
theorem dX12_adds_110 : decode cX12_adds 110 = .ok (.iload 7, 2) := by decide +kernel
theorem dX12_adds_112 : decode cX12_adds 112 = .ok (.iconst 2, 1) := by decide +kernel
theorem dX12_adds_113 : decode cX12_adds 113 = .ok (.iconst (-1), 1) := by decide +kernel
theorem dX12_adds_114 : decode cX12_adds 114 = .ok (.iconst (-1), 1) := by decide +kernel
theorem dX12_adds_115 : decode cX12_adds 115 = .ok (.invokevirtual 128, 3) := by decide +kernel
theorem dX12_adds_118 : decode cX12_adds 118 = .ok (.aload_n 0, 1) := by decide +kernel
theorem dX12_adds_119 : decode cX12_adds 119 = .ok (.invokevirtual 132, 3) := by decide +kernel
theorem dX12_adds_122 : decode cX12_adds 122 = .ok (.iload 7, 2) := by decide +kernel
theorem dX12_adds_124 : decode cX12_adds 124 = .ok (.ireturn, 1) := by decide +kernel
theorem dX12_operand_0 : decode cX12_operand 0 = .ok (.aload_n 0, 1) := by decide +kernel
theorem dX12_operand_1 : decode cX12_operand 1 = .ok (.getfield 25, 3) := by decide +kernel
theorem dX12_operand_4 : decode cX12_operand 4 = .ok (.iconst 3, 1) := by decide +kernel
theorem dX12_operand_5 : decode cX12_operand 5 = .ok (.iload_n 1, 1) := by decide +kernel
theorem dX12_operand_6 : decode cX12_operand 6 = .ok (.imul, 1) := by decide +kernel
theorem dX12_operand_7 : decode cX12_operand 7 = .ok (.iload_n 2, 1) := by decide +kernel
theorem dX12_operand_8 : decode cX12_operand 8 = .ok (.iadd, 1) := by decide +kernel
theorem dX12_operand_9 : decode cX12_operand 9 = .ok (.iload_n 3, 1) := by decide +kernel
theorem dX12_operand_10 : decode cX12_operand 10 = .ok (.iastore, 1) := by decide +kernel
theorem dX12_operand_11 : decode cX12_operand 11 = .ok (.aload_n 0, 1) := by decide +kernel
theorem dX12_operand_12 : decode cX12_operand 12 = .ok (.getfield 28, 3) := by decide +kernel
theorem dX12_operand_15 : decode cX12_operand 15 = .ok (.iconst 3, 1) := by decide +kernel
theorem dX12_operand_16 : decode cX12_operand 16 = .ok (.iload_n 1, 1) := by decide +kernel
theorem dX12_operand_17 : decode cX12_operand 17 = .ok (.imul, 1) := by decide +kernel
theorem dX12_operand_18 : decode cX12_operand 18 = .ok (.iload_n 2, 1) := by decide +kernel
theorem dX12_operand_19 : decode cX12_operand 19 = .ok (.iadd, 1) := by decide +kernel
theorem dX12_operand_20 : decode cX12_operand 20 = .ok (.iload 4, 2) := by decide +kernel
theorem dX12_operand_22 : decode cX12_operand 22 = .ok (.iastore, 1) := by decide +kernel
theorem dX12_operand_23 : decode cX12_operand 23 = .ok (.return_, 1) := by decide +kernel
theorem dX12_areTurns_0 : decode cX12_areTurns 0 = .ok (.iload_n 0, 1) := by decide +kernel
theorem dX12_areTurns_1 : decode cX12_areTurns 1 = .ok (.i2l, 1) := by decide +kernel
theorem dX12_areTurns_2 : decode cX12_areTurns 2 = .ok (.lconst 0, 1) := by decide +kernel
theorem dX12_areTurns_3 : decode cX12_areTurns 3 = .ok (.ldc2_w 135, 3) := by decide +kernel
theorem dX12_areTurns_6 : decode cX12_areTurns 6 = .ok (.invokestatic 137, 3) := by decide +kernel
theorem dX12_areTurns_9 : decode cX12_areTurns 9 = .ok (.ireturn, 1) := by decide +kernel
theorem dX12_isBeyond_0 : decode cX12_isBeyond 0 = .ok (.iload_n 1, 1) := by decide +kernel
theorem dX12_isBeyond_1 : decode cX12_isBeyond 1 = .ok (.i2l, 1) := by decide +kernel
theorem dX12_isBeyond_2 : decode cX12_isBeyond 2 = .ok (.lconst 0, 1) := by decide +kernel
theorem dX12_isBeyond_3 : decode cX12_isBeyond 3 = .ok (.ldc2_w 141, 3) := by decide +kernel
theorem dX12_isBeyond_6 : decode cX12_isBeyond 6 = .ok (.invokestatic 137, 3) := by decide +kernel
theorem dX12_isBeyond_9 : decode cX12_isBeyond 9 = .ok (.ifCond .eq 15, 3) := by decide +kernel
theorem dX12_isBeyond_12 : decode cX12_isBeyond 12 = .ok (.iload_n 2, 1) := by decide +kernel
theorem dX12_isBeyond_13 : decode cX12_isBeyond 13 = .ok (.ifCond .ne 15, 3) := by decide +kernel
theorem dX12_isBeyond_16 : decode cX12_isBeyond 16 = .ok (.iload_n 1, 1) := by decide +kernel
theorem dX12_isBeyond_17 : decode cX12_isBeyond 17 = .ok (.aload_n 0, 1) := by decide +kernel
theorem dX12_isBeyond_18 : decode cX12_isBeyond 18 = .ok (.getfield 118, 3) := by decide +kernel
theorem dX12_isBeyond_21 : decode cX12_isBeyond 21 = .ok (.if_icmp .lt 7, 3) := by decide +kernel
theorem dX12_isBeyond_24 : decode cX12_isBeyond 24 = .ok (.iconst 1, 1) := by decide +kernel
theorem dX12_isBeyond_25 : decode cX12_isBeyond 25 = .ok (.goto 4, 3) := by decide +kernel
theorem dX12_isBeyond_28 : decode cX12_isBeyond 28 = .ok (.iconst 0, 1) := by decide +kernel
theorem dX12_isBeyond_29 : decode cX12_isBeyond 29 = .ok (.ireturn, 1) := by decide +kernel
theorem dX12_put_0 : decode cX12_put 0 = .ok (.aload_n 0, 1) := by decide +kernel
theorem dX12_put_1 : decode cX12_put 1 = .ok (.iconst 0, 1) := by decide +kernel
theorem dX12_put_2 : decode cX12_put 2 = .ok (.iconst (-1), 1) := by decide +kernel
theorem dX12_put_3 : decode cX12_put 3 = .ok (.iconst (-1), 1) := by decide +kernel
theorem dX12_put_4 : decode cX12_put 4 = .ok (.iconst (-1), 1) := by decide +kernel
theorem dX12_put_5 : decode cX12_put 5 = .ok (.iconst (-1), 1) := by decide +kernel
theorem dX12_put_6 : decode cX12_put 6 = .ok (.iconst (-1), 1) := by decide +kernel
theorem dX12_put_7 : decode cX12_put 7 = .ok (.invokevirtual 143, 3) := by decide +kernel
theorem dX12_put_10 : decode cX12_put 10 = .ok (.istore_n 3, 1) := by decide +kernel
theorem dX12_put_11 : decode cX12_put 11 = .ok (.iload_n 3, 1) := by decide +kernel
theorem dX12_put_12 : decode cX12_put 12 = .ok (.ifCond .lt 10, 3) := by decide +kernel
theorem dX12_put_15 : decode cX12_put 15 = .ok (.aload_n 0, 1) := by decide +kernel
theorem dX12_put_16 : decode cX12_put 16 = .ok (.getfield 35, 3) := by decide +kernel
theorem dX12_put_19 : decode cX12_put 19 = .ok (.iload_n 3, 1) := by decide +kernel
theorem dX12_put_20 : decode cX12_put 20 = .ok (.lload_n 1, 1) := by decide +kernel
theorem dX12_put_21 : decode cX12_put 21 = .ok (.lastore, 1) := by decide +kernel
theorem dX12_put_22 : decode cX12_put 22 = .ok (.iload_n 3, 1) := by decide +kernel
theorem dX12_put_23 : decode cX12_put 23 = .ok (.ireturn, 1) := by decide +kernel
theorem dX12_reckon_0 : decode cX12_reckon 0 = .ok (.iload_n 1, 1) := by decide +kernel
theorem dX12_reckon_1 : decode cX12_reckon 1 = .ok (.i2l, 1) := by decide +kernel
theorem dX12_reckon_2 : decode cX12_reckon 2 = .ok (.lconst 1, 1) := by decide +kernel
theorem dX12_reckon_3 : decode cX12_reckon 3 = .ok (.ldc2_w 147, 3) := by decide +kernel
theorem dX12_reckon_6 : decode cX12_reckon 6 = .ok (.invokestatic 137, 3) := by decide +kernel
theorem dX12_reckon_9 : decode cX12_reckon 9 = .ok (.ifCond .eq 18, 3) := by decide +kernel
theorem dX12_reckon_12 : decode cX12_reckon 12 = .ok (.iload_n 3, 1) := by decide +kernel
theorem dX12_reckon_13 : decode cX12_reckon 13 = .ok (.invokestatic 149, 3) := by decide +kernel
theorem dX12_reckon_16 : decode cX12_reckon 16 = .ok (.ifCond .eq 11, 3) := by decide +kernel
theorem dX12_reckon_19 : decode cX12_reckon 19 = .ok (.iload 5, 2) := by decide +kernel
theorem dX12_reckon_21 : decode cX12_reckon 21 = .ok (.invokestatic 149, 3) := by decide +kernel
theorem dX12_reckon_24 : decode cX12_reckon 24 = .ok (.ifCond .ne 10, 3) := by decide +kernel
theorem dX12_reckon_27 : decode cX12_reckon 27 = .ok (.aload_n 0, 1) := by decide +kernel
theorem dX12_reckon_28 : decode cX12_reckon 28 = .ok (.bipush (-9), 2) := by decide +kernel
theorem dX12_reckon_30 : decode cX12_reckon 30 = .ok (.invokevirtual 124, 3) := by decide +kernel
theorem dX12_reckon_33 : decode cX12_reckon 33 = .ok (.ireturn, 1) := by decide +kernel
theorem dX12_reckon_34 : decode cX12_reckon 34 = .ok (.aload_n 0, 1) := by decide +kernel
theorem dX12_reckon_35 : decode cX12_reckon 35 = .ok (.iload_n 2, 1) := by decide +kernel
theorem dX12_reckon_36 : decode cX12_reckon 36 = .ok (.iload_n 3, 1) := by decide +kernel
theorem dX12_reckon_37 : decode cX12_reckon 37 = .ok (.invokevirtual 153, 3) := by decide +kernel
theorem dX12_reckon_40 : decode cX12_reckon 40 = .ok (.ifCond .ne 14, 3) := by decide +kernel
theorem dX12_reckon_43 : decode cX12_reckon 43 = .ok (.aload_n 0, 1) := by decide +kernel
theorem dX12_reckon_44 : decode cX12_reckon 44 = .ok (.iload 4, 2) := by decide +kernel
theorem dX12_reckon_46 : decode cX12_reckon 46 = .ok (.iload 5, 2) := by decide +kernel
theorem dX12_reckon_48 : decode cX12_reckon 48 = .ok (.invokevirtual 153, 3) := by decide +kernel
theorem dX12_reckon_51 : decode cX12_reckon 51 = .ok (.ifCond .eq 10, 3) := by decide +kernel
theorem dX12_reckon_54 : decode cX12_reckon 54 = .ok (.aload_n 0, 1) := by decide +kernel
theorem dX12_reckon_55 : decode cX12_reckon 55 = .ok (.bipush (-3), 2) := by decide +kernel
theorem dX12_reckon_57 : decode cX12_reckon 57 = .ok (.invokevirtual 124, 3) := by decide +kernel
theorem dX12_reckon_60 : decode cX12_reckon 60 = .ok (.ireturn, 1) := by decide +kernel
theorem dX12_reckon_61 : decode cX12_reckon 61 = .ok (.aload_n 0, 1) := by decide +kernel
theorem dX12_reckon_62 : decode cX12_reckon 62 = .ok (.iload_n 1, 1) := by decide +kernel
theorem dX12_reckon_63 : decode cX12_reckon 63 = .ok (.iconst (-1), 1) := by decide +kernel
theorem dX12_reckon_64 : decode cX12_reckon 64 = .ok (.iload_n 2, 1) := by decide +kernel
theorem dX12_reckon_65 : decode cX12_reckon 65 = .ok (.iload_n 3, 1) := by decide +kernel
theorem dX12_reckon_66 : decode cX12_reckon 66 = .ok (.iload 4, 2) := by decide +kernel
theorem dX12_reckon_68 : decode cX12_reckon 68 = .ok (.iload 5, 2) := by decide +kernel
theorem dX12_reckon_70 : decode cX12_reckon 70 = .ok (.invokevirtual 143, 3) := by decide +kernel
theorem dX12_reckon_73 : decode cX12_reckon 73 = .ok (.ireturn, 1) := by decide +kernel
theorem dX12_fetch_0 : decode cX12_fetch 0 = .ok (.iload_n 3, 1) := by decide +kernel
theorem dX12_fetch_1 : decode cX12_fetch 1 = .ok (.invokestatic 149, 3) := by decide +kernel
theorem dX12_fetch_4 : decode cX12_fetch 4 = .ok (.ifCond .ne 10, 3) := by decide +kernel
theorem dX12_fetch_7 : decode cX12_fetch 7 = .ok (.aload_n 0, 1) := by decide +kernel
theorem dX12_fetch_8 : decode cX12_fetch 8 = .ok (.bipush (-9), 2) := by decide +kernel
theorem dX12_fetch_10 : decode cX12_fetch 10 = .ok (.invokevirtual 124, 3) := by decide +kernel
theorem dX12_fetch_13 : decode cX12_fetch 13 = .ok (.ireturn, 1) := by decide +kernel
theorem dX12_fetch_14 : decode cX12_fetch 14 = .ok (.iload_n 1, 1) := by decide +kernel
theorem dX12_fetch_15 : decode cX12_fetch 15 = .ok (.i2l, 1) := by decide +kernel
theorem dX12_fetch_16 : decode cX12_fetch 16 = .ok (.lconst 0, 1) := by decide +kernel
theorem dX12_fetch_17 : decode cX12_fetch 17 = .ok (.ldc2_w 157, 3) := by decide +kernel
theorem dX12_fetch_20 : decode cX12_fetch 20 = .ok (.invokestatic 137, 3) := by decide +kernel
theorem dX12_fetch_23 : decode cX12_fetch 23 = .ok (.ifCond .eq 12, 3) := by decide +kernel
theorem dX12_fetch_26 : decode cX12_fetch 26 = .ok (.aload_n 0, 1) := by decide +kernel
theorem dX12_fetch_27 : decode cX12_fetch 27 = .ok (.iload_n 2, 1) := by decide +kernel
theorem dX12_fetch_28 : decode cX12_fetch 28 = .ok (.iload_n 3, 1) := by decide +kernel
theorem dX12_fetch_29 : decode cX12_fetch 29 = .ok (.invokevirtual 153, 3) := by decide +kernel
theorem dX12_fetch_32 : decode cX12_fetch 32 = .ok (.ifCond .eq 10, 3) := by decide +kernel
theorem dX12_fetch_35 : decode cX12_fetch 35 = .ok (.aload_n 0, 1) := by decide +kernel
theorem dX12_fetch_36 : decode cX12_fetch 36 = .ok (.bipush (-3), 2) := by decide +kernel
theorem dX12_fetch_38 : decode cX12_fetch 38 = .ok (.invokevirtual 124, 3) := by decide +kernel
theorem dX12_fetch_41 : decode cX12_fetch 41 = .ok (.ireturn, 1) := by decide +kernel
theorem dX12_fetch_42 : decode cX12_fetch 42 = .ok (.aload_n 0, 1) := by decide +kernel
theorem dX12_fetch_43 : decode cX12_fetch 43 = .ok (.iconst 4, 1) := by decide +kernel
theorem dX12_fetch_44 : decode cX12_fetch 44 = .ok (.iload_n 1, 1) := by decide +kernel
theorem dX12_fetch_45 : decode cX12_fetch 45 = .ok (.iload_n 2, 1) := by decide +kernel
theorem dX12_fetch_46 : decode cX12_fetch 46 = .ok (.iload_n 3, 1) := by decide +kernel
theorem dX12_fetch_47 : decode cX12_fetch 47 = .ok (.iconst (-1), 1) := by decide +kernel
theorem dX12_fetch_48 : decode cX12_fetch 48 = .ok (.iconst (-1), 1) := by decide +kernel
theorem dX12_fetch_49 : decode cX12_fetch 49 = .ok (.invokevirtual 143, 3) := by decide +kernel
theorem dX12_fetch_52 : decode cX12_fetch 52 = .ok (.ireturn, 1) := by decide +kernel
theorem dX12_store_0 : decode cX12_store 0 = .ok (.iload_n 3, 1) := by decide +kernel
theorem dX12_store_1 : decode cX12_store 1 = .ok (.invokestatic 149, 3) := by decide +kernel
theorem dX12_store_4 : decode cX12_store 4 = .ok (.ifCond .eq 11, 3) := by decide +kernel
theorem dX12_store_7 : decode cX12_store 7 = .ok (.iload 5, 2) := by decide +kernel
theorem dX12_store_9 : decode cX12_store 9 = .ok (.invokestatic 149, 3) := by decide +kernel
theorem dX12_store_12 : decode cX12_store 12 = .ok (.ifCond .ne 10, 3) := by decide +kernel
theorem dX12_store_15 : decode cX12_store 15 = .ok (.aload_n 0, 1) := by decide +kernel
theorem dX12_store_16 : decode cX12_store 16 = .ok (.bipush (-9), 2) := by decide +kernel
theorem dX12_store_18 : decode cX12_store 18 = .ok (.invokevirtual 124, 3) := by decide +kernel
theorem dX12_store_21 : decode cX12_store 21 = .ok (.ireturn, 1) := by decide +kernel
theorem dX12_store_22 : decode cX12_store 22 = .ok (.iload_n 1, 1) := by decide +kernel
theorem dX12_store_23 : decode cX12_store 23 = .ok (.i2l, 1) := by decide +kernel
theorem dX12_store_24 : decode cX12_store 24 = .ok (.lconst 0, 1) := by decide +kernel
theorem dX12_store_25 : decode cX12_store 25 = .ok (.ldc2_w 157, 3) := by decide +kernel
theorem dX12_store_28 : decode cX12_store 28 = .ok (.invokestatic 137, 3) := by decide +kernel
theorem dX12_store_31 : decode cX12_store 31 = .ok (.ifCond .eq 23, 3) := by decide +kernel
theorem dX12_store_34 : decode cX12_store 34 = .ok (.aload_n 0, 1) := by decide +kernel
theorem dX12_store_35 : decode cX12_store 35 = .ok (.iload_n 2, 1) := by decide +kernel
theorem dX12_store_36 : decode cX12_store 36 = .ok (.iload_n 3, 1) := by decide +kernel
theorem dX12_store_37 : decode cX12_store 37 = .ok (.invokevirtual 153, 3) := by decide +kernel
theorem dX12_store_40 : decode cX12_store 40 = .ok (.ifCond .ne 14, 3) := by decide +kernel
theorem dX12_store_43 : decode cX12_store 43 = .ok (.aload_n 0, 1) := by decide +kernel
theorem dX12_store_44 : decode cX12_store 44 = .ok (.iload 4, 2) := by decide +kernel
theorem dX12_store_46 : decode cX12_store 46 = .ok (.iload 5, 2) := by decide +kernel
theorem dX12_store_48 : decode cX12_store 48 = .ok (.invokevirtual 153, 3) := by decide +kernel
theorem dX12_store_51 : decode cX12_store 51 = .ok (.ifCond .eq 10, 3) := by decide +kernel
theorem dX12_store_54 : decode cX12_store 54 = .ok (.aload_n 0, 1) := by decide +kernel
theorem dX12_store_55 : decode cX12_store 55 = .ok (.bipush (-3), 2) := by decide +kernel
theorem dX12_store_57 : decode cX12_store 57 = .ok (.invokevirtual 124, 3) := by decide +kernel
theorem dX12_store_60 : decode cX12_store 60 = .ok (.ireturn, 1) := by decide +kernel
theorem dX12_store_61 : decode cX12_store 61 = .ok (.aload_n 0, 1) := by decide +kernel
theorem dX12_store_62 : decode cX12_store 62 = .ok (.iconst 5, 1) := by decide +kernel
theorem dX12_store_63 : decode cX12_store 63 = .ok (.iload_n 1, 1) := by decide +kernel
theorem dX12_store_64 : decode cX12_store 64 = .ok (.iload_n 2, 1) := by decide +kernel
theorem dX12_store_65 : decode cX12_store 65 = .ok (.iload_n 3, 1) := by decide +kernel
theorem dX12_store_66 : decode cX12_store 66 = .ok (.iload 4, 2) := by decide +kernel
theorem dX12_store_68 : decode cX12_store 68 = .ok (.iload 5, 2) := by decide +kernel
theorem dX12_store_70 : decode cX12_store 70 = .ok (.invokevirtual 143, 3) := by decide +kernel
theorem dX12_store_73 : decode cX12_store 73 = .ok (.ireturn, 1) := by decide +kernel
theorem dX12_pick_0 : decode cX12_pick 0 = .ok (.iload 4, 2) := by decide +kernel
theorem dX12_pick_2 : decode cX12_pick 2 = .ok (.invokestatic 149, 3) := by decide +kernel
theorem dX12_pick_5 : decode cX12_pick 5 = .ok (.ifCond .ne 10, 3) := by decide +kernel
theorem dX12_pick_8 : decode cX12_pick 8 = .ok (.aload_n 0, 1) := by decide +kernel
theorem dX12_pick_9 : decode cX12_pick 9 = .ok (.bipush (-9), 2) := by decide +kernel
theorem dX12_pick_11 : decode cX12_pick 11 = .ok (.invokevirtual 124, 3) := by decide +kernel
theorem dX12_pick_14 : decode cX12_pick 14 = .ok (.ireturn, 1) := by decide +kernel
theorem dX12_pick_15 : decode cX12_pick 15 = .ok (.aload_n 0, 1) := by decide +kernel
theorem dX12_pick_16 : decode cX12_pick 16 = .ok (.iload_n 1, 1) := by decide +kernel
theorem dX12_pick_17 : decode cX12_pick 17 = .ok (.iconst 0, 1) := by decide +kernel
theorem dX12_pick_18 : decode cX12_pick 18 = .ok (.invokevirtual 153, 3) := by decide +kernel
theorem dX12_pick_21 : decode cX12_pick 21 = .ok (.ifCond .ne 22, 3) := by decide +kernel
theorem dX12_pick_24 : decode cX12_pick 24 = .ok (.aload_n 0, 1) := by decide +kernel
theorem dX12_pick_25 : decode cX12_pick 25 = .ok (.iload_n 2, 1) := by decide +kernel
theorem dX12_pick_26 : decode cX12_pick 26 = .ok (.iconst 0, 1) := by decide +kernel
theorem dX12_pick_27 : decode cX12_pick 27 = .ok (.invokevirtual 153, 3) := by decide +kernel
theorem dX12_pick_30 : decode cX12_pick 30 = .ok (.ifCond .ne 13, 3) := by decide +kernel
theorem dX12_pick_33 : decode cX12_pick 33 = .ok (.aload_n 0, 1) := by decide +kernel
theorem dX12_pick_34 : decode cX12_pick 34 = .ok (.iload_n 3, 1) := by decide +kernel
theorem dX12_pick_35 : decode cX12_pick 35 = .ok (.iload 4, 2) := by decide +kernel
theorem dX12_pick_37 : decode cX12_pick 37 = .ok (.invokevirtual 153, 3) := by decide +kernel
theorem dX12_pick_40 : decode cX12_pick 40 = .ok (.ifCond .eq 10, 3) := by decide +kernel
theorem dX12_pick_43 : decode cX12_pick 43 = .ok (.aload_n 0, 1) := by decide +kernel
theorem dX12_pick_44 : decode cX12_pick 44 = .ok (.bipush (-3), 2) := by decide +kernel
theorem dX12_pick_46 : decode cX12_pick 46 = .ok (.invokevirtual 124, 3) := by decide +kernel
theorem dX12_pick_49 : decode cX12_pick 49 = .ok (.ireturn, 1) := by decide +kernel
theorem dX12_pick_50 : decode cX12_pick 50 = .ok (.aload_n 0, 1) := by decide +kernel
theorem dX12_pick_51 : decode cX12_pick 51 = .ok (.bipush 6, 2) := by decide +kernel
theorem dX12_pick_53 : decode cX12_pick 53 = .ok (.iconst (-1), 1) := by decide +kernel
theorem dX12_pick_54 : decode cX12_pick 54 = .ok (.iload_n 1, 1) := by decide +kernel
theorem dX12_pick_55 : decode cX12_pick 55 = .ok (.iconst 0, 1) := by decide +kernel
theorem dX12_pick_56 : decode cX12_pick 56 = .ok (.iload_n 2, 1) := by decide +kernel
theorem dX12_pick_57 : decode cX12_pick 57 = .ok (.iconst 0, 1) := by decide +kernel
theorem dX12_pick_58 : decode cX12_pick 58 = .ok (.invokevirtual 143, 3) := by decide +kernel
theorem dX12_pick_61 : decode cX12_pick 61 = .ok (.istore 5, 2) := by decide +kernel
theorem dX12_pick_63 : decode cX12_pick 63 = .ok (.iload 5, 2) := by decide +kernel
theorem dX12_pick_65 : decode cX12_pick 65 = .ok (.ifCond .lt 13, 3) := by decide +kernel
theorem dX12_pick_68 : decode cX12_pick 68 = .ok (.aload_n 0, 1) := by decide +kernel
theorem dX12_pick_69 : decode cX12_pick 69 = .ok (.iload 5, 2) := by decide +kernel
theorem dX12_pick_71 : decode cX12_pick 71 = .ok (.iconst 2, 1) := by decide +kernel
theorem dX12_pick_72 : decode cX12_pick 72 = .ok (.iload_n 3, 1) := by decide +kernel
theorem dX12_pick_73 : decode cX12_pick 73 = .ok (.iload 4, 2) := by decide +kernel
theorem dX12_pick_75 : decode cX12_pick 75 = .ok (.invokevirtual 128, 3) := by decide +kernel
theorem dX12_pick_78 : decode cX12_pick 78 = .ok (.iload 5, 2) := by decide +kernel
theorem dX12_pick_80 : decode cX12_pick 80 = .ok (.ireturn, 1) := by decide +kernel
theorem dX12_works_0 : decode cX12_works 0 = .ok (.aload_n 0, 1) := by decide +kernel
theorem dX12_works_1 : decode cX12_works 1 = .ok (.iload_n 1, 1) := by decide +kernel
theorem dX12_works_2 : decode cX12_works 2 = .ok (.invokevirtual 159, 3) := by decide +kernel
theorem dX12_works_5 : decode cX12_works 5 = .ok (.ifCond .eq 15, 3) := by decide +kernel
theorem dX12_works_8 : decode cX12_works 8 = .ok (.iload_n 3, 1) := by decide +kernel
theorem dX12_works_9 : decode cX12_works 9 = .ok (.i2l, 1) := by decide +kernel
theorem dX12_works_10 : decode cX12_works 10 = .ok (.lconst 0, 1) := by decide +kernel
theorem dX12_works_11 : decode cX12_works 11 = .ok (.ldc2_w 162, 3) := by decide +kernel
theorem dX12_works_14 : decode cX12_works 14 = .ok (.invokestatic 137, 3) := by decide +kernel
theorem dX12_works_17 : decode cX12_works 17 = .ok (.ifCond .ne 10, 3) := by decide +kernel
theorem dX12_works_20 : decode cX12_works 20 = .ok (.aload_n 0, 1) := by decide +kernel
theorem dX12_works_21 : decode cX12_works 21 = .ok (.bipush (-3), 2) := by decide +kernel
theorem dX12_works_23 : decode cX12_works 23 = .ok (.invokevirtual 124, 3) := by decide +kernel
theorem dX12_works_26 : decode cX12_works 26 = .ok (.ireturn, 1) := by decide +kernel
theorem dX12_works_27 : decode cX12_works 27 = .ok (.iload_n 2, 1) := by decide +kernel
theorem dX12_works_28 : decode cX12_works 28 = .ok (.i2l, 1) := by decide +kernel
theorem dX12_works_29 : decode cX12_works 29 = .ok (.lconst 1, 1) := by decide +kernel
theorem dX12_works_30 : decode cX12_works 30 = .ok (.ldc2_w 164, 3) := by decide +kernel
theorem dX12_works_33 : decode cX12_works 33 = .ok (.invokestatic 137, 3) := by decide +kernel
theorem dX12_works_36 : decode cX12_works 36 = .ok (.ifCond .eq 16, 3) := by decide +kernel
theorem dX12_works_39 : decode cX12_works 39 = .ok (.iload 4, 2) := by decide +kernel
theorem dX12_works_41 : decode cX12_works 41 = .ok (.i2l, 1) := by decide +kernel
theorem dX12_works_42 : decode cX12_works 42 = .ok (.lconst 1, 1) := by decide +kernel
theorem dX12_works_43 : decode cX12_works 43 = .ok (.ldc2_w 166, 3) := by decide +kernel
theorem dX12_works_46 : decode cX12_works 46 = .ok (.invokestatic 137, 3) := by decide +kernel
theorem dX12_works_49 : decode cX12_works 49 = .ok (.ifCond .ne 10, 3) := by decide +kernel
theorem dX12_works_52 : decode cX12_works 52 = .ok (.aload_n 0, 1) := by decide +kernel
theorem dX12_works_53 : decode cX12_works 53 = .ok (.bipush (-9), 2) := by decide +kernel
theorem dX12_works_55 : decode cX12_works 55 = .ok (.invokevirtual 124, 3) := by decide +kernel
theorem dX12_works_58 : decode cX12_works 58 = .ok (.ireturn, 1) := by decide +kernel
theorem dX12_works_59 : decode cX12_works 59 = .ok (.aload_n 0, 1) := by decide +kernel
theorem dX12_works_60 : decode cX12_works 60 = .ok (.getfield 13, 3) := by decide +kernel
theorem dX12_works_63 : decode cX12_works 63 = .ok (.iload_n 1, 1) := by decide +kernel
theorem dX12_works_64 : decode cX12_works 64 = .ok (.iload_n 2, 1) := by decide +kernel
theorem dX12_works_65 : decode cX12_works 65 = .ok (.iastore, 1) := by decide +kernel
theorem dX12_works_66 : decode cX12_works 66 = .ok (.aload_n 0, 1) := by decide +kernel
theorem dX12_works_67 : decode cX12_works 67 = .ok (.getfield 16, 3) := by decide +kernel
theorem dX12_works_70 : decode cX12_works 70 = .ok (.iload_n 1, 1) := by decide +kernel
theorem dX12_works_71 : decode cX12_works 71 = .ok (.iload_n 3, 1) := by decide +kernel
theorem dX12_works_72 : decode cX12_works 72 = .ok (.iastore, 1) := by decide +kernel
theorem dX12_works_73 : decode cX12_works 73 = .ok (.aload_n 0, 1) := by decide +kernel
theorem dX12_works_74 : decode cX12_works 74 = .ok (.getfield 19, 3) := by decide +kernel
theorem dX12_works_77 : decode cX12_works 77 = .ok (.iload_n 1, 1) := by decide +kernel
theorem dX12_works_78 : decode cX12_works 78 = .ok (.iload 4, 2) := by decide +kernel
theorem dX12_works_80 : decode cX12_works 80 = .ok (.iastore, 1) := by decide +kernel
theorem dX12_works_81 : decode cX12_works 81 = .ok (.aload_n 0, 1) := by decide +kernel
theorem dX12_works_82 : decode cX12_works 82 = .ok (.invokevirtual 132, 3) := by decide +kernel
theorem dX12_works_85 : decode cX12_works 85 = .ok (.iconst 1, 1) := by decide +kernel
theorem dX12_works_86 : decode cX12_works 86 = .ok (.ireturn, 1) := by decide +kernel
theorem dX12_first_0 : decode cX12_first 0 = .ok (.aload_n 0, 1) := by decide +kernel
theorem dX12_first_1 : decode cX12_first 1 = .ok (.iload_n 1, 1) := by decide +kernel
theorem dX12_first_2 : decode cX12_first 2 = .ok (.invokevirtual 159, 3) := by decide +kernel
theorem dX12_first_5 : decode cX12_first 5 = .ok (.ifCond .ne 10, 3) := by decide +kernel
theorem dX12_first_8 : decode cX12_first 8 = .ok (.aload_n 0, 1) := by decide +kernel
theorem dX12_first_9 : decode cX12_first 9 = .ok (.bipush (-3), 2) := by decide +kernel
theorem dX12_first_11 : decode cX12_first 11 = .ok (.invokevirtual 124, 3) := by decide +kernel
theorem dX12_first_14 : decode cX12_first 14 = .ok (.ireturn, 1) := by decide +kernel
theorem dX12_first_15 : decode cX12_first 15 = .ok (.aload_n 0, 1) := by decide +kernel
theorem dX12_first_16 : decode cX12_first 16 = .ok (.getfield 31, 3) := by decide +kernel
theorem dX12_first_19 : decode cX12_first 19 = .ok (.iload_n 1, 1) := by decide +kernel
theorem dX12_first_20 : decode cX12_first 20 = .ok (.lload_n 2, 1) := by decide +kernel
theorem dX12_first_21 : decode cX12_first 21 = .ok (.lastore, 1) := by decide +kernel
theorem dX12_first_22 : decode cX12_first 22 = .ok (.iconst 1, 1) := by decide +kernel
theorem dX12_first_23 : decode cX12_first 23 = .ok (.ireturn, 1) := by decide +kernel
theorem dX12_unit_0 : decode cX12_unit 0 = .ok (.iload_n 1, 1) := by decide +kernel
theorem dX12_unit_1 : decode cX12_unit 1 = .ok (.i2l, 1) := by decide +kernel
theorem dX12_unit_2 : decode cX12_unit 2 = .ok (.lconst 0, 1) := by decide +kernel
theorem dX12_unit_3 : decode cX12_unit 3 = .ok (.ldc2_w 162, 3) := by decide +kernel
theorem dX12_unit_6 : decode cX12_unit 6 = .ok (.invokestatic 137, 3) := by decide +kernel
theorem dX12_unit_9 : decode cX12_unit 9 = .ok (.ifCond .ne 10, 3) := by decide +kernel
theorem dX12_unit_12 : decode cX12_unit 12 = .ok (.aload_n 0, 1) := by decide +kernel
theorem dX12_unit_13 : decode cX12_unit 13 = .ok (.bipush (-3), 2) := by decide +kernel
theorem dX12_unit_15 : decode cX12_unit 15 = .ok (.invokevirtual 124, 3) := by decide +kernel
theorem dX12_unit_18 : decode cX12_unit 18 = .ok (.ireturn, 1) := by decide +kernel
theorem dX12_unit_19 : decode cX12_unit 19 = .ok (.iload_n 2, 1) := by decide +kernel
theorem dX12_unit_20 : decode cX12_unit 20 = .ok (.ifCond .ge 10, 3) := by decide +kernel
theorem dX12_unit_23 : decode cX12_unit 23 = .ok (.aload_n 0, 1) := by decide +kernel
theorem dX12_unit_24 : decode cX12_unit 24 = .ok (.bipush (-4), 2) := by decide +kernel
theorem dX12_unit_26 : decode cX12_unit 26 = .ok (.invokevirtual 124, 3) := by decide +kernel
theorem dX12_unit_29 : decode cX12_unit 29 = .ok (.ireturn, 1) := by decide +kernel
theorem dX12_unit_30 : decode cX12_unit 30 = .ok (.iload_n 2, 1) := by decide +kernel
theorem dX12_unit_31 : decode cX12_unit 31 = .ok (.iconst 4, 1) := by decide +kernel
theorem dX12_unit_32 : decode cX12_unit 32 = .ok (.if_icmp .le 10, 3) := by decide +kernel
theorem dX12_unit_35 : decode cX12_unit 35 = .ok (.aload_n 0, 1) := by decide +kernel
theorem dX12_unit_36 : decode cX12_unit 36 = .ok (.bipush (-9), 2) := by decide +kernel
theorem dX12_unit_38 : decode cX12_unit 38 = .ok (.invokevirtual 124, 3) := by decide +kernel
theorem dX12_unit_41 : decode cX12_unit 41 = .ok (.ireturn, 1) := by decide +kernel
theorem dX12_unit_42 : decode cX12_unit 42 = .ok (.aload_n 0, 1) := by decide +kernel
theorem dX12_unit_43 : decode cX12_unit 43 = .ok (.getfield 38, 3) := by decide +kernel
theorem dX12_unit_46 : decode cX12_unit 46 = .ok (.iload_n 1, 1) := by decide +kernel
theorem dX12_unit_47 : decode cX12_unit 47 = .ok (.iaload, 1) := by decide +kernel
theorem dX12_unit_48 : decode cX12_unit 48 = .ok (.istore_n 3, 1) := by decide +kernel
theorem dX12_unit_49 : decode cX12_unit 49 = .ok (.aload_n 0, 1) := by decide +kernel
theorem dX12_unit_50 : decode cX12_unit 50 = .ok (.getfield 38, 3) := by decide +kernel
theorem dX12_unit_53 : decode cX12_unit 53 = .ok (.iload_n 1, 1) := by decide +kernel
theorem dX12_unit_54 : decode cX12_unit 54 = .ok (.iload_n 2, 1) := by decide +kernel
theorem dX12_unit_55 : decode cX12_unit 55 = .ok (.iastore, 1) := by decide +kernel
theorem dX12_unit_56 : decode cX12_unit 56 = .ok (.aload_n 0, 1) := by decide +kernel
theorem dX12_unit_57 : decode cX12_unit 57 = .ok (.invokevirtual 132, 3) := by decide +kernel
theorem dX12_unit_60 : decode cX12_unit 60 = .ok (.iload_n 3, 1) := by decide +kernel
theorem dX12_unit_61 : decode cX12_unit 61 = .ok (.ireturn, 1) := by decide +kernel
theorem dX12_edge_0 : decode cX12_edge 0 = .ok (.aload_n 0, 1) := by decide +kernel
theorem dX12_edge_1 : decode cX12_edge 1 = .ok (.iload_n 1, 1) := by decide +kernel
theorem dX12_edge_2 : decode cX12_edge 2 = .ok (.invokevirtual 159, 3) := by decide +kernel
theorem dX12_edge_5 : decode cX12_edge 5 = .ok (.ifCond .eq 11, 3) := by decide +kernel
theorem dX12_edge_8 : decode cX12_edge 8 = .ok (.aload_n 0, 1) := by decide +kernel
theorem dX12_edge_9 : decode cX12_edge 9 = .ok (.iload_n 2, 1) := by decide +kernel
theorem dX12_edge_10 : decode cX12_edge 10 = .ok (.invokevirtual 159, 3) := by decide +kernel
theorem dX12_edge_13 : decode cX12_edge 13 = .ok (.ifCond .ne 10, 3) := by decide +kernel
theorem dX12_edge_16 : decode cX12_edge 16 = .ok (.aload_n 0, 1) := by decide +kernel
theorem dX12_edge_17 : decode cX12_edge 17 = .ok (.bipush (-3), 2) := by decide +kernel
theorem dX12_edge_19 : decode cX12_edge 19 = .ok (.invokevirtual 124, 3) := by decide +kernel
theorem dX12_edge_22 : decode cX12_edge 22 = .ok (.ireturn, 1) := by decide +kernel
theorem dX12_edge_23 : decode cX12_edge 23 = .ok (.iload_n 3, 1) := by decide +kernel
theorem dX12_edge_24 : decode cX12_edge 24 = .ok (.i2l, 1) := by decide +kernel
theorem dX12_edge_25 : decode cX12_edge 25 = .ok (.ldc2_w 168, 3) := by decide +kernel
theorem dX12_edge_28 : decode cX12_edge 28 = .ok (.ldc2_w 170, 3) := by decide +kernel
theorem dX12_edge_31 : decode cX12_edge 31 = .ok (.invokestatic 137, 3) := by decide +kernel
theorem dX12_edge_34 : decode cX12_edge 34 = .ok (.ifCond .eq 11, 3) := by decide +kernel
theorem dX12_edge_37 : decode cX12_edge 37 = .ok (.iload 4, 2) := by decide +kernel
theorem dX12_edge_39 : decode cX12_edge 39 = .ok (.invokestatic 149, 3) := by decide +kernel
theorem dX12_edge_42 : decode cX12_edge 42 = .ok (.ifCond .ne 10, 3) := by decide +kernel
theorem dX12_edge_45 : decode cX12_edge 45 = .ok (.aload_n 0, 1) := by decide +kernel
theorem dX12_edge_46 : decode cX12_edge 46 = .ok (.bipush (-9), 2) := by decide +kernel
theorem dX12_edge_48 : decode cX12_edge 48 = .ok (.invokevirtual 124, 3) := by decide +kernel
theorem dX12_edge_51 : decode cX12_edge 51 = .ok (.ireturn, 1) := by decide +kernel
theorem dX12_edge_52 : decode cX12_edge 52 = .ok (.aload_n 0, 1) := by decide +kernel
theorem dX12_edge_53 : decode cX12_edge 53 = .ok (.getfield 172, 3) := by decide +kernel
theorem dX12_edge_56 : decode cX12_edge 56 = .ok (.bipush 40, 2) := by decide +kernel
theorem dX12_edge_58 : decode cX12_edge 58 = .ok (.if_icmp .ne 10, 3) := by decide +kernel
theorem dX12_edge_61 : decode cX12_edge 61 = .ok (.aload_n 0, 1) := by decide +kernel
theorem dX12_edge_62 : decode cX12_edge 62 = .ok (.bipush (-10), 2) := by decide +kernel
theorem dX12_edge_64 : decode cX12_edge 64 = .ok (.invokevirtual 124, 3) := by decide +kernel
theorem dX12_edge_67 : decode cX12_edge 67 = .ok (.ireturn, 1) := by decide +kernel
theorem dX12_edge_68 : decode cX12_edge 68 = .ok (.aload_n 0, 1) := by decide +kernel
theorem dX12_edge_69 : decode cX12_edge 69 = .ok (.getfield 41, 3) := by decide +kernel
theorem dX12_edge_72 : decode cX12_edge 72 = .ok (.aload_n 0, 1) := by decide +kernel
theorem dX12_edge_73 : decode cX12_edge 73 = .ok (.getfield 172, 3) := by decide +kernel
theorem dX12_edge_76 : decode cX12_edge 76 = .ok (.iload_n 1, 1) := by decide +kernel
theorem dX12_edge_77 : decode cX12_edge 77 = .ok (.iastore, 1) := by decide +kernel
theorem dX12_edge_78 : decode cX12_edge 78 = .ok (.aload_n 0, 1) := by decide +kernel
theorem dX12_edge_79 : decode cX12_edge 79 = .ok (.getfield 44, 3) := by decide +kernel
theorem dX12_edge_82 : decode cX12_edge 82 = .ok (.aload_n 0, 1) := by decide +kernel
theorem dX12_edge_83 : decode cX12_edge 83 = .ok (.getfield 172, 3) := by decide +kernel
theorem dX12_edge_86 : decode cX12_edge 86 = .ok (.iload_n 2, 1) := by decide +kernel
theorem dX12_edge_87 : decode cX12_edge 87 = .ok (.iastore, 1) := by decide +kernel
theorem dX12_edge_88 : decode cX12_edge 88 = .ok (.aload_n 0, 1) := by decide +kernel
theorem dX12_edge_89 : decode cX12_edge 89 = .ok (.getfield 47, 3) := by decide +kernel
theorem dX12_edge_92 : decode cX12_edge 92 = .ok (.aload_n 0, 1) := by decide +kernel
theorem dX12_edge_93 : decode cX12_edge 93 = .ok (.getfield 172, 3) := by decide +kernel
theorem dX12_edge_96 : decode cX12_edge 96 = .ok (.iload_n 3, 1) := by decide +kernel
theorem dX12_edge_97 : decode cX12_edge 97 = .ok (.iastore, 1) := by decide +kernel
theorem dX12_edge_98 : decode cX12_edge 98 = .ok (.aload_n 0, 1) := by decide +kernel
theorem dX12_edge_99 : decode cX12_edge 99 = .ok (.getfield 50, 3) := by decide +kernel
theorem dX12_edge_102 : decode cX12_edge 102 = .ok (.aload_n 0, 1) := by decide +kernel
theorem dX12_edge_103 : decode cX12_edge 103 = .ok (.getfield 172, 3) := by decide +kernel
theorem dX12_edge_106 : decode cX12_edge 106 = .ok (.iload 4, 2) := by decide +kernel
theorem dX12_edge_108 : decode cX12_edge 108 = .ok (.iastore, 1) := by decide +kernel
theorem dX12_edge_109 : decode cX12_edge 109 = .ok (.aload_n 0, 1) := by decide +kernel
theorem dX12_edge_110 : decode cX12_edge 110 = .ok (.dup, 1) := by decide +kernel
theorem dX12_edge_111 : decode cX12_edge 111 = .ok (.getfield 172, 3) := by decide +kernel
theorem dX12_edge_114 : decode cX12_edge 114 = .ok (.iconst 1, 1) := by decide +kernel
theorem dX12_edge_115 : decode cX12_edge 115 = .ok (.iadd, 1) := by decide +kernel
theorem dX12_edge_116 : decode cX12_edge 116 = .ok (.putfield 172, 3) := by decide +kernel
theorem dX12_edge_119 : decode cX12_edge 119 = .ok (.aload_n 0, 1) := by decide +kernel
theorem dX12_edge_120 : decode cX12_edge 120 = .ok (.invokevirtual 132, 3) := by decide +kernel
theorem dX12_edge_123 : decode cX12_edge 123 = .ok (.aload_n 0, 1) := by decide +kernel
theorem dX12_edge_124 : decode cX12_edge 124 = .ok (.getfield 172, 3) := by decide +kernel
theorem dX12_edge_127 : decode cX12_edge 127 = .ok (.ireturn, 1) := by decide +kernel
theorem dX12_undo_0 : decode cX12_undo 0 = .ok (.aload_n 0, 1) := by decide +kernel
theorem dX12_undo_1 : decode cX12_undo 1 = .ok (.getfield 118, 3) := by decide +kernel
theorem dX12_undo_4 : decode cX12_undo 4 = .ok (.ifCond .ne 10, 3) := by decide +kernel
theorem dX12_undo_7 : decode cX12_undo 7 = .ok (.aload_n 0, 1) := by decide +kernel
theorem dX12_undo_8 : decode cX12_undo 8 = .ok (.bipush (-2), 2) := by decide +kernel
theorem dX12_undo_10 : decode cX12_undo 10 = .ok (.invokevirtual 124, 3) := by decide +kernel
theorem dX12_undo_13 : decode cX12_undo 13 = .ok (.ireturn, 1) := by decide +kernel
theorem dX12_undo_14 : decode cX12_undo 14 = .ok (.aload_n 0, 1) := by decide +kernel
theorem dX12_undo_15 : decode cX12_undo 15 = .ok (.getfield 118, 3) := by decide +kernel
theorem dX12_undo_18 : decode cX12_undo 18 = .ok (.iconst 1, 1) := by decide +kernel
theorem dX12_undo_19 : decode cX12_undo 19 = .ok (.isub, 1) := by decide +kernel
theorem dX12_undo_20 : decode cX12_undo 20 = .ok (.istore_n 1, 1) := by decide +kernel
theorem dX12_undo_21 : decode cX12_undo 21 = .ok (.iconst 0, 1) := by decide +kernel
theorem dX12_undo_22 : decode cX12_undo 22 = .ok (.istore_n 2, 1) := by decide +kernel
theorem dX12_undo_23 : decode cX12_undo 23 = .ok (.iload_n 2, 1) := by decide +kernel
theorem dX12_undo_24 : decode cX12_undo 24 = .ok (.iconst 3, 1) := by decide +kernel
theorem dX12_undo_25 : decode cX12_undo 25 = .ok (.iload_n 1, 1) := by decide +kernel
theorem dX12_undo_26 : decode cX12_undo 26 = .ok (.imul, 1) := by decide +kernel
theorem dX12_undo_27 : decode cX12_undo 27 = .ok (.if_icmp .ge 26, 3) := by decide +kernel
theorem dX12_undo_30 : decode cX12_undo 30 = .ok (.aload_n 0, 1) := by decide +kernel
theorem dX12_undo_31 : decode cX12_undo 31 = .ok (.getfield 25, 3) := by decide +kernel
theorem dX12_undo_34 : decode cX12_undo 34 = .ok (.iload_n 2, 1) := by decide +kernel
theorem dX12_undo_35 : decode cX12_undo 35 = .ok (.iaload, 1) := by decide +kernel
theorem dX12_undo_36 : decode cX12_undo 36 = .ok (.iload_n 1, 1) := by decide +kernel
theorem dX12_undo_37 : decode cX12_undo 37 = .ok (.if_icmp .ne 10, 3) := by decide +kernel
theorem dX12_undo_40 : decode cX12_undo 40 = .ok (.aload_n 0, 1) := by decide +kernel
theorem dX12_undo_41 : decode cX12_undo 41 = .ok (.bipush (-9), 2) := by decide +kernel
theorem dX12_undo_43 : decode cX12_undo 43 = .ok (.invokevirtual 124, 3) := by decide +kernel
theorem dX12_undo_46 : decode cX12_undo 46 = .ok (.ireturn, 1) := by decide +kernel
theorem dX12_undo_47 : decode cX12_undo 47 = .ok (.iinc 2 1, 3) := by decide +kernel
theorem dX12_undo_50 : decode cX12_undo 50 = .ok (.goto (-27), 3) := by decide +kernel
theorem dX12_undo_53 : decode cX12_undo 53 = .ok (.aload_n 0, 1) := by decide +kernel
theorem dX12_undo_54 : decode cX12_undo 54 = .ok (.dup, 1) := by decide +kernel
theorem dX12_undo_55 : decode cX12_undo 55 = .ok (.getfield 118, 3) := by decide +kernel
theorem dX12_undo_58 : decode cX12_undo 58 = .ok (.iconst 1, 1) := by decide +kernel
theorem dX12_undo_59 : decode cX12_undo 59 = .ok (.isub, 1) := by decide +kernel
theorem dX12_undo_60 : decode cX12_undo 60 = .ok (.putfield 118, 3) := by decide +kernel
theorem dX12_undo_63 : decode cX12_undo 63 = .ok (.iconst 0, 1) := by decide +kernel
theorem dX12_undo_64 : decode cX12_undo 64 = .ok (.istore_n 2, 1) := by decide +kernel
theorem dX12_undo_65 : decode cX12_undo 65 = .ok (.iconst 0, 1) := by decide +kernel
theorem dX12_undo_66 : decode cX12_undo 66 = .ok (.istore_n 3, 1) := by decide +kernel
theorem dX12_undo_67 : decode cX12_undo 67 = .ok (.iload_n 3, 1) := by decide +kernel
theorem dX12_undo_68 : decode cX12_undo 68 = .ok (.aload_n 0, 1) := by decide +kernel
theorem dX12_undo_69 : decode cX12_undo 69 = .ok (.getfield 172, 3) := by decide +kernel
theorem dX12_undo_72 : decode cX12_undo 72 = .ok (.if_icmp .ge 83, 3) := by decide +kernel
theorem dX12_undo_75 : decode cX12_undo 75 = .ok (.aload_n 0, 1) := by decide +kernel
theorem dX12_undo_76 : decode cX12_undo 76 = .ok (.getfield 41, 3) := by decide +kernel
theorem dX12_undo_79 : decode cX12_undo 79 = .ok (.iload_n 3, 1) := by decide +kernel
theorem dX12_undo_80 : decode cX12_undo 80 = .ok (.iaload, 1) := by decide +kernel
theorem dX12_undo_81 : decode cX12_undo 81 = .ok (.iload_n 1, 1) := by decide +kernel
theorem dX12_undo_82 : decode cX12_undo 82 = .ok (.if_icmp .eq 67, 3) := by decide +kernel
theorem dX12_undo_85 : decode cX12_undo 85 = .ok (.aload_n 0, 1) := by decide +kernel
theorem dX12_undo_86 : decode cX12_undo 86 = .ok (.getfield 44, 3) := by decide +kernel
theorem dX12_undo_89 : decode cX12_undo 89 = .ok (.iload_n 3, 1) := by decide +kernel
theorem dX12_undo_90 : decode cX12_undo 90 = .ok (.iaload, 1) := by decide +kernel
theorem dX12_undo_91 : decode cX12_undo 91 = .ok (.iload_n 1, 1) := by decide +kernel
theorem dX12_undo_92 : decode cX12_undo 92 = .ok (.if_icmp .ne 6, 3) := by decide +kernel
theorem dX12_undo_95 : decode cX12_undo 95 = .ok (.goto 54, 3) := by decide +kernel
theorem dX12_undo_98 : decode cX12_undo 98 = .ok (.aload_n 0, 1) := by decide +kernel
theorem dX12_undo_99 : decode cX12_undo 99 = .ok (.getfield 41, 3) := by decide +kernel
theorem dX12_undo_102 : decode cX12_undo 102 = .ok (.iload_n 2, 1) := by decide +kernel
theorem dX12_undo_103 : decode cX12_undo 103 = .ok (.aload_n 0, 1) := by decide +kernel
theorem dX12_undo_104 : decode cX12_undo 104 = .ok (.getfield 41, 3) := by decide +kernel
theorem dX12_undo_107 : decode cX12_undo 107 = .ok (.iload_n 3, 1) := by decide +kernel
theorem dX12_undo_108 : decode cX12_undo 108 = .ok (.iaload, 1) := by decide +kernel
theorem dX12_undo_109 : decode cX12_undo 109 = .ok (.iastore, 1) := by decide +kernel
theorem dX12_undo_110 : decode cX12_undo 110 = .ok (.aload_n 0, 1) := by decide +kernel
theorem dX12_undo_111 : decode cX12_undo 111 = .ok (.getfield 44, 3) := by decide +kernel
theorem dX12_undo_114 : decode cX12_undo 114 = .ok (.iload_n 2, 1) := by decide +kernel
theorem dX12_undo_115 : decode cX12_undo 115 = .ok (.aload_n 0, 1) := by decide +kernel
theorem dX12_undo_116 : decode cX12_undo 116 = .ok (.getfield 44, 3) := by decide +kernel
theorem dX12_undo_119 : decode cX12_undo 119 = .ok (.iload_n 3, 1) := by decide +kernel
theorem dX12_undo_120 : decode cX12_undo 120 = .ok (.iaload, 1) := by decide +kernel
theorem dX12_undo_121 : decode cX12_undo 121 = .ok (.iastore, 1) := by decide +kernel
theorem dX12_undo_122 : decode cX12_undo 122 = .ok (.aload_n 0, 1) := by decide +kernel
theorem dX12_undo_123 : decode cX12_undo 123 = .ok (.getfield 47, 3) := by decide +kernel
theorem dX12_undo_126 : decode cX12_undo 126 = .ok (.iload_n 2, 1) := by decide +kernel
theorem dX12_undo_127 : decode cX12_undo 127 = .ok (.aload_n 0, 1) := by decide +kernel
theorem dX12_undo_128 : decode cX12_undo 128 = .ok (.getfield 47, 3) := by decide +kernel
theorem dX12_undo_131 : decode cX12_undo 131 = .ok (.iload_n 3, 1) := by decide +kernel
theorem dX12_undo_132 : decode cX12_undo 132 = .ok (.iaload, 1) := by decide +kernel
theorem dX12_undo_133 : decode cX12_undo 133 = .ok (.iastore, 1) := by decide +kernel
theorem dX12_undo_134 : decode cX12_undo 134 = .ok (.aload_n 0, 1) := by decide +kernel
theorem dX12_undo_135 : decode cX12_undo 135 = .ok (.getfield 50, 3) := by decide +kernel
theorem dX12_undo_138 : decode cX12_undo 138 = .ok (.iload_n 2, 1) := by decide +kernel
theorem dX12_undo_139 : decode cX12_undo 139 = .ok (.aload_n 0, 1) := by decide +kernel
theorem dX12_undo_140 : decode cX12_undo 140 = .ok (.getfield 50, 3) := by decide +kernel
theorem dX12_undo_143 : decode cX12_undo 143 = .ok (.iload_n 3, 1) := by decide +kernel
theorem dX12_undo_144 : decode cX12_undo 144 = .ok (.iaload, 1) := by decide +kernel
theorem dX12_undo_145 : decode cX12_undo 145 = .ok (.iastore, 1) := by decide +kernel
theorem dX12_undo_146 : decode cX12_undo 146 = .ok (.iinc 2 1, 3) := by decide +kernel
theorem dX12_undo_149 : decode cX12_undo 149 = .ok (.iinc 3 1, 3) := by decide +kernel
theorem dX12_undo_152 : decode cX12_undo 152 = .ok (.goto (-85), 3) := by decide +kernel
theorem dX12_undo_155 : decode cX12_undo 155 = .ok (.aload_n 0, 1) := by decide +kernel
theorem dX12_undo_156 : decode cX12_undo 156 = .ok (.iload_n 2, 1) := by decide +kernel
theorem dX12_undo_157 : decode cX12_undo 157 = .ok (.putfield 172, 3) := by decide +kernel
theorem dX12_undo_160 : decode cX12_undo 160 = .ok (.aload_n 0, 1) := by decide +kernel
theorem dX12_undo_161 : decode cX12_undo 161 = .ok (.invokevirtual 132, 3) := by decide +kernel
theorem dX12_undo_164 : decode cX12_undo 164 = .ok (.aload_n 0, 1) := by decide +kernel
theorem dX12_undo_165 : decode cX12_undo 165 = .ok (.getfield 118, 3) := by decide +kernel
theorem dX12_undo_168 : decode cX12_undo 168 = .ok (.ireturn, 1) := by decide +kernel
theorem dX12_act_0 : decode cX12_act 0 = .ok (.aload_n 0, 1) := by decide +kernel
theorem dX12_act_1 : decode cX12_act 1 = .ok (.iload_n 1, 1) := by decide +kernel
theorem dX12_act_2 : decode cX12_act 2 = .ok (.invokevirtual 159, 3) := by decide +kernel
theorem dX12_act_5 : decode cX12_act 5 = .ok (.ifCond .ne 10, 3) := by decide +kernel
theorem dX12_act_8 : decode cX12_act 8 = .ok (.aload_n 0, 1) := by decide +kernel
theorem dX12_act_9 : decode cX12_act 9 = .ok (.bipush (-3), 2) := by decide +kernel
theorem dX12_act_11 : decode cX12_act 11 = .ok (.invokevirtual 124, 3) := by decide +kernel
theorem dX12_act_14 : decode cX12_act 14 = .ok (.ireturn, 1) := by decide +kernel
theorem dX12_act_15 : decode cX12_act 15 = .ok (.iload_n 2, 1) := by decide +kernel
theorem dX12_act_16 : decode cX12_act 16 = .ok (.i2l, 1) := by decide +kernel
theorem dX12_act_17 : decode cX12_act 17 = .ok (.lconst 0, 1) := by decide +kernel
theorem dX12_act_18 : decode cX12_act 18 = .ok (.ldc2_w 175, 3) := by decide +kernel
theorem dX12_act_21 : decode cX12_act 21 = .ok (.invokestatic 137, 3) := by decide +kernel
theorem dX12_act_24 : decode cX12_act 24 = .ok (.ifCond .ne 10, 3) := by decide +kernel
theorem dX12_act_27 : decode cX12_act 27 = .ok (.aload_n 0, 1) := by decide +kernel
theorem dX12_act_28 : decode cX12_act 28 = .ok (.bipush (-9), 2) := by decide +kernel
theorem dX12_act_30 : decode cX12_act 30 = .ok (.invokevirtual 124, 3) := by decide +kernel
theorem dX12_act_33 : decode cX12_act 33 = .ok (.ireturn, 1) := by decide +kernel
theorem dX12_act_34 : decode cX12_act 34 = .ok (.iload_n 2, 1) := by decide +kernel
theorem dX12_act_35 : decode cX12_act 35 = .ok (.tableswitch 68 0 4 #[33, 40, 47, 54, 61], 33) := by decide +kernel
theorem dX12_act_68 : decode cX12_act 68 = .ok (.aload_n 0, 1) := by decide +kernel
theorem dX12_act_69 : decode cX12_act 69 = .ok (.getfield 7, 3) := by decide +kernel
theorem dX12_act_72 : decode cX12_act 72 = .ok (.iload_n 1, 1) := by decide +kernel
theorem dX12_act_73 : decode cX12_act 73 = .ok (.iaload, 1) := by decide +kernel
theorem dX12_act_74 : decode cX12_act 74 = .ok (.ireturn, 1) := by decide +kernel
theorem dX12_act_75 : decode cX12_act 75 = .ok (.aload_n 0, 1) := by decide +kernel
theorem dX12_act_76 : decode cX12_act 76 = .ok (.getfield 13, 3) := by decide +kernel
theorem dX12_act_79 : decode cX12_act 79 = .ok (.iload_n 1, 1) := by decide +kernel
theorem dX12_act_80 : decode cX12_act 80 = .ok (.iaload, 1) := by decide +kernel
theorem dX12_act_81 : decode cX12_act 81 = .ok (.ireturn, 1) := by decide +kernel
theorem dX12_act_82 : decode cX12_act 82 = .ok (.aload_n 0, 1) := by decide +kernel
theorem dX12_act_83 : decode cX12_act 83 = .ok (.getfield 16, 3) := by decide +kernel
theorem dX12_act_86 : decode cX12_act 86 = .ok (.iload_n 1, 1) := by decide +kernel
theorem dX12_act_87 : decode cX12_act 87 = .ok (.iaload, 1) := by decide +kernel
theorem dX12_act_88 : decode cX12_act 88 = .ok (.ireturn, 1) := by decide +kernel
theorem dX12_act_89 : decode cX12_act 89 = .ok (.aload_n 0, 1) := by decide +kernel
theorem dX12_act_90 : decode cX12_act 90 = .ok (.getfield 19, 3) := by decide +kernel
theorem dX12_act_93 : decode cX12_act 93 = .ok (.iload_n 1, 1) := by decide +kernel
theorem dX12_act_94 : decode cX12_act 94 = .ok (.iaload, 1) := by decide +kernel
theorem dX12_act_95 : decode cX12_act 95 = .ok (.ireturn, 1) := by decide +kernel
theorem dX12_act_96 : decode cX12_act 96 = .ok (.aload_n 0, 1) := by decide +kernel
theorem dX12_act_97 : decode cX12_act 97 = .ok (.getfield 22, 3) := by decide +kernel
theorem dX12_act_100 : decode cX12_act 100 = .ok (.iload_n 1, 1) := by decide +kernel
theorem dX12_act_101 : decode cX12_act 101 = .ok (.iaload, 1) := by decide +kernel
theorem dX12_act_102 : decode cX12_act 102 = .ok (.ireturn, 1) := by decide +kernel
theorem dX12_act_103 : decode cX12_act 103 = .ok (.iconst 3, 1) := by decide +kernel
theorem dX12_act_104 : decode cX12_act 104 = .ok (.iload_n 1, 1) := by decide +kernel
theorem dX12_act_105 : decode cX12_act 105 = .ok (.imul, 1) := by decide +kernel
theorem dX12_act_106 : decode cX12_act 106 = .ok (.iload_n 2, 1) := by decide +kernel
theorem dX12_act_107 : decode cX12_act 107 = .ok (.iconst 5, 1) := by decide +kernel
theorem dX12_act_108 : decode cX12_act 108 = .ok (.isub, 1) := by decide +kernel
theorem dX12_act_109 : decode cX12_act 109 = .ok (.iconst 2, 1) := by decide +kernel
theorem dX12_act_110 : decode cX12_act 110 = .ok (.idiv, 1) := by decide +kernel
theorem dX12_act_111 : decode cX12_act 111 = .ok (.iadd, 1) := by decide +kernel
theorem dX12_act_112 : decode cX12_act 112 = .ok (.istore_n 3, 1) := by decide +kernel
theorem dX12_act_113 : decode cX12_act 113 = .ok (.iload_n 2, 1) := by decide +kernel
theorem dX12_act_114 : decode cX12_act 114 = .ok (.iconst 2, 1) := by decide +kernel
theorem dX12_act_115 : decode cX12_act 115 = .ok (.irem, 1) := by decide +kernel
theorem dX12_act_116 : decode cX12_act 116 = .ok (.iconst 1, 1) := by decide +kernel
theorem dX12_act_117 : decode cX12_act 117 = .ok (.if_icmp .ne 12, 3) := by decide +kernel
theorem dX12_act_120 : decode cX12_act 120 = .ok (.aload_n 0, 1) := by decide +kernel
theorem dX12_act_121 : decode cX12_act 121 = .ok (.getfield 25, 3) := by decide +kernel
theorem dX12_act_124 : decode cX12_act 124 = .ok (.iload_n 3, 1) := by decide +kernel
theorem dX12_act_125 : decode cX12_act 125 = .ok (.iaload, 1) := by decide +kernel
theorem dX12_act_126 : decode cX12_act 126 = .ok (.goto 9, 3) := by decide +kernel
theorem dX12_act_129 : decode cX12_act 129 = .ok (.aload_n 0, 1) := by decide +kernel
theorem dX12_act_130 : decode cX12_act 130 = .ok (.getfield 28, 3) := by decide +kernel
theorem dX12_act_133 : decode cX12_act 133 = .ok (.iload_n 3, 1) := by decide +kernel
theorem dX12_act_134 : decode cX12_act 134 = .ok (.iaload, 1) := by decide +kernel
theorem dX12_act_135 : decode cX12_act 135 = .ok (.ireturn, 1) := by decide +kernel
theorem dX12_number_0 : decode cX12_number 0 = .ok (.aload_n 0, 1) := by decide +kernel
theorem dX12_number_1 : decode cX12_number 1 = .ok (.iload_n 1, 1) := by decide +kernel
theorem dX12_number_2 : decode cX12_number 2 = .ok (.invokevirtual 159, 3) := by decide +kernel
theorem dX12_number_5 : decode cX12_number 5 = .ok (.ifCond .ne 8, 3) := by decide +kernel
theorem dX12_number_8 : decode cX12_number 8 = .ok (.bipush (-3), 2) := by decide +kernel
theorem dX12_number_10 : decode cX12_number 10 = .ok (.goto 18, 3) := by decide +kernel
theorem dX12_number_13 : decode cX12_number 13 = .ok (.aload_n 0, 1) := by decide +kernel
theorem dX12_number_14 : decode cX12_number 14 = .ok (.getfield 7, 3) := by decide +kernel
theorem dX12_number_17 : decode cX12_number 17 = .ok (.iload_n 1, 1) := by decide +kernel
theorem dX12_number_18 : decode cX12_number 18 = .ok (.iaload, 1) := by decide +kernel
theorem dX12_number_19 : decode cX12_number 19 = .ok (.ifCond .eq 8, 3) := by decide +kernel
theorem dX12_number_22 : decode cX12_number 22 = .ok (.bipush (-5), 2) := by decide +kernel
theorem dX12_number_24 : decode cX12_number 24 = .ok (.goto 4, 3) := by decide +kernel
theorem dX12_number_27 : decode cX12_number 27 = .ok (.iconst 0, 1) := by decide +kernel
theorem dX12_number_28 : decode cX12_number 28 = .ok (.istore_n 2, 1) := by decide +kernel
theorem dX12_number_29 : decode cX12_number 29 = .ok (.iload_n 2, 1) := by decide +kernel
theorem dX12_number_30 : decode cX12_number 30 = .ok (.ifCond .ne 10, 3) := by decide +kernel
theorem dX12_number_33 : decode cX12_number 33 = .ok (.aload_n 0, 1) := by decide +kernel
theorem dX12_number_34 : decode cX12_number 34 = .ok (.getfield 35, 3) := by decide +kernel
theorem dX12_number_37 : decode cX12_number 37 = .ok (.iload_n 1, 1) := by decide +kernel
theorem dX12_number_38 : decode cX12_number 38 = .ok (.laload, 1) := by decide +kernel
theorem dX12_number_39 : decode cX12_number 39 = .ok (.lreturn, 1) := by decide +kernel
theorem dX12_number_40 : decode cX12_number 40 = .ok (.aload_n 0, 1) := by decide +kernel
theorem dX12_number_41 : decode cX12_number 41 = .ok (.iload_n 2, 1) := by decide +kernel
theorem dX12_number_42 : decode cX12_number 42 = .ok (.invokevirtual 124, 3) := by decide +kernel
theorem dX12_number_45 : decode cX12_number 45 = .ok (.istore_n 3, 1) := by decide +kernel
theorem dX12_number_46 : decode cX12_number 46 = .ok (.lconst 0, 1) := by decide +kernel
theorem dX12_number_47 : decode cX12_number 47 = .ok (.lreturn, 1) := by decide +kernel
theorem dX12_whole_0 : decode cX12_whole 0 = .ok (.iconst 0, 1) := by decide +kernel
theorem dX12_whole_1 : decode cX12_whole 1 = .ok (.istore_n 1, 1) := by decide +kernel
theorem dX12_whole_2 : decode cX12_whole 2 = .ok (.iload_n 1, 1) := by decide +kernel
theorem dX12_whole_3 : decode cX12_whole 3 = .ok (.iconst 3, 1) := by decide +kernel
theorem dX12_whole_4 : decode cX12_whole 4 = .ok (.aload_n 0, 1) := by decide +kernel
theorem dX12_whole_5 : decode cX12_whole 5 = .ok (.getfield 118, 3) := by decide +kernel
theorem dX12_whole_8 : decode cX12_whole 8 = .ok (.imul, 1) := by decide +kernel
theorem dX12_whole_9 : decode cX12_whole 9 = .ok (.if_icmp .ge 24, 3) := by decide +kernel
theorem dX12_whole_12 : decode cX12_whole 12 = .ok (.aload_n 0, 1) := by decide +kernel
theorem dX12_whole_13 : decode cX12_whole 13 = .ok (.getfield 25, 3) := by decide +kernel
theorem dX12_whole_16 : decode cX12_whole 16 = .ok (.iload_n 1, 1) := by decide +kernel
theorem dX12_whole_17 : decode cX12_whole 17 = .ok (.iaload, 1) := by decide +kernel
theorem dX12_whole_18 : decode cX12_whole 18 = .ok (.aload_n 0, 1) := by decide +kernel
theorem dX12_whole_19 : decode cX12_whole 19 = .ok (.getfield 118, 3) := by decide +kernel
theorem dX12_whole_22 : decode cX12_whole 22 = .ok (.if_icmp .lt 5, 3) := by decide +kernel
theorem dX12_whole_25 : decode cX12_whole 25 = .ok (.iconst 0, 1) := by decide +kernel
theorem dX12_whole_26 : decode cX12_whole 26 = .ok (.ireturn, 1) := by decide +kernel
theorem dX12_whole_27 : decode cX12_whole 27 = .ok (.iinc 1 1, 3) := by decide +kernel
theorem dX12_whole_30 : decode cX12_whole 30 = .ok (.goto (-28), 3) := by decide +kernel
theorem dX12_whole_33 : decode cX12_whole 33 = .ok (.iconst 1, 1) := by decide +kernel
theorem dX12_whole_34 : decode cX12_whole 34 = .ok (.ireturn, 1) := by decide +kernel
theorem dX12_count_0 : decode cX12_count 0 = .ok (.iload_n 1, 1) := by decide +kernel
theorem dX12_count_1 : decode cX12_count 1 = .ok (.i2l, 1) := by decide +kernel
theorem dX12_count_2 : decode cX12_count 2 = .ok (.lconst 0, 1) := by decide +kernel
theorem dX12_count_3 : decode cX12_count 3 = .ok (.ldc2_w 135, 3) := by decide +kernel
theorem dX12_count_6 : decode cX12_count 6 = .ok (.invokestatic 137, 3) := by decide +kernel
theorem dX12_count_9 : decode cX12_count 9 = .ok (.ifCond .ne 10, 3) := by decide +kernel
theorem dX12_count_12 : decode cX12_count 12 = .ok (.aload_n 0, 1) := by decide +kernel
theorem dX12_count_13 : decode cX12_count 13 = .ok (.bipush (-9), 2) := by decide +kernel
theorem dX12_count_15 : decode cX12_count 15 = .ok (.invokevirtual 124, 3) := by decide +kernel
theorem dX12_count_18 : decode cX12_count 18 = .ok (.ireturn, 1) := by decide +kernel
theorem dX12_count_19 : decode cX12_count 19 = .ok (.iload_n 1, 1) := by decide +kernel
theorem dX12_count_20 : decode cX12_count 20 = .ok (.ifCond .ne 8, 3) := by decide +kernel
theorem dX12_count_23 : decode cX12_count 23 = .ok (.aload_n 0, 1) := by decide +kernel
theorem dX12_count_24 : decode cX12_count 24 = .ok (.getfield 118, 3) := by decide +kernel
theorem dX12_count_27 : decode cX12_count 27 = .ok (.ireturn, 1) := by decide +kernel
theorem dX12_count_28 : decode cX12_count 28 = .ok (.iload_n 1, 1) := by decide +kernel
theorem dX12_count_29 : decode cX12_count 29 = .ok (.iconst 1, 1) := by decide +kernel
theorem dX12_count_30 : decode cX12_count 30 = .ok (.if_icmp .ne 8, 3) := by decide +kernel
theorem dX12_count_33 : decode cX12_count 33 = .ok (.aload_n 0, 1) := by decide +kernel
theorem dX12_count_34 : decode cX12_count 34 = .ok (.getfield 172, 3) := by decide +kernel
theorem dX12_count_37 : decode cX12_count 37 = .ok (.ireturn, 1) := by decide +kernel
theorem dX12_count_38 : decode cX12_count 38 = .ok (.aload_n 0, 1) := by decide +kernel
theorem dX12_count_39 : decode cX12_count 39 = .ok (.invokevirtual 177, 3) := by decide +kernel
theorem dX12_count_42 : decode cX12_count 42 = .ok (.iload_n 1, 1) := by decide +kernel
theorem dX12_count_43 : decode cX12_count 43 = .ok (.iconst 2, 1) := by decide +kernel
theorem dX12_count_44 : decode cX12_count 44 = .ok (.if_icmp .ne 13, 3) := by decide +kernel
theorem dX12_count_47 : decode cX12_count 47 = .ok (.aload_n 0, 1) := by decide +kernel
theorem dX12_count_48 : decode cX12_count 48 = .ok (.getfield 180, 3) := by decide +kernel
theorem dX12_count_51 : decode cX12_count 51 = .ok (.aload_n 0, 1) := by decide +kernel
theorem dX12_count_52 : decode cX12_count 52 = .ok (.getfield 172, 3) := by decide +kernel
theorem dX12_count_55 : decode cX12_count 55 = .ok (.isub, 1) := by decide +kernel
theorem dX12_count_56 : decode cX12_count 56 = .ok (.ireturn, 1) := by decide +kernel
theorem dX12_count_57 : decode cX12_count 57 = .ok (.iconst 0, 1) := by decide +kernel
theorem dX12_count_58 : decode cX12_count 58 = .ok (.istore_n 2, 1) := by decide +kernel
theorem dX12_count_59 : decode cX12_count 59 = .ok (.iconst 0, 1) := by decide +kernel
theorem dX12_count_60 : decode cX12_count 60 = .ok (.istore_n 3, 1) := by decide +kernel
theorem dX12_count_61 : decode cX12_count 61 = .ok (.iload_n 3, 1) := by decide +kernel
theorem dX12_count_62 : decode cX12_count 62 = .ok (.aload_n 0, 1) := by decide +kernel
theorem dX12_count_63 : decode cX12_count 63 = .ok (.getfield 118, 3) := by decide +kernel
theorem dX12_count_66 : decode cX12_count 66 = .ok (.if_icmp .ge 27, 3) := by decide +kernel
theorem dX12_count_69 : decode cX12_count 69 = .ok (.iload_n 2, 1) := by decide +kernel
theorem dX12_count_70 : decode cX12_count 70 = .ok (.aload_n 0, 1) := by decide +kernel
theorem dX12_count_71 : decode cX12_count 71 = .ok (.getfield 7, 3) := by decide +kernel
theorem dX12_count_74 : decode cX12_count 74 = .ok (.iload_n 3, 1) := by decide +kernel
theorem dX12_count_75 : decode cX12_count 75 = .ok (.iaload, 1) := by decide +kernel
theorem dX12_count_76 : decode cX12_count 76 = .ok (.iconst 5, 1) := by decide +kernel
theorem dX12_count_77 : decode cX12_count 77 = .ok (.if_icmp .ne 7, 3) := by decide +kernel
theorem dX12_count_80 : decode cX12_count 80 = .ok (.iconst 1, 1) := by decide +kernel
theorem dX12_count_81 : decode cX12_count 81 = .ok (.goto 4, 3) := by decide +kernel
theorem dX12_count_84 : decode cX12_count 84 = .ok (.iconst 0, 1) := by decide +kernel
theorem dX12_count_85 : decode cX12_count 85 = .ok (.iadd, 1) := by decide +kernel
theorem dX12_count_86 : decode cX12_count 86 = .ok (.istore_n 2, 1) := by decide +kernel
theorem dX12_count_87 : decode cX12_count 87 = .ok (.iinc 3 1, 3) := by decide +kernel
theorem dX12_count_90 : decode cX12_count 90 = .ok (.goto (-29), 3) := by decide +kernel
theorem dX12_count_93 : decode cX12_count 93 = .ok (.iload_n 1, 1) := by decide +kernel
theorem dX12_count_94 : decode cX12_count 94 = .ok (.iconst 3, 1) := by decide +kernel
theorem dX12_count_95 : decode cX12_count 95 = .ok (.if_icmp .ne 7, 3) := by decide +kernel
theorem dX12_count_98 : decode cX12_count 98 = .ok (.iload_n 2, 1) := by decide +kernel
theorem dX12_count_99 : decode cX12_count 99 = .ok (.goto 44, 3) := by decide +kernel
theorem dX12_count_102 : decode cX12_count 102 = .ok (.aload_n 0, 1) := by decide +kernel
theorem dX12_count_103 : decode cX12_count 103 = .ok (.getfield 38, 3) := by decide +kernel
theorem dX12_count_106 : decode cX12_count 106 = .ok (.iconst 0, 1) := by decide +kernel
theorem dX12_count_107 : decode cX12_count 107 = .ok (.iaload, 1) := by decide +kernel
theorem dX12_count_108 : decode cX12_count 108 = .ok (.aload_n 0, 1) := by decide +kernel
theorem dX12_count_109 : decode cX12_count 109 = .ok (.getfield 38, 3) := by decide +kernel
theorem dX12_count_112 : decode cX12_count 112 = .ok (.iconst 1, 1) := by decide +kernel
theorem dX12_count_113 : decode cX12_count 113 = .ok (.iaload, 1) := by decide +kernel
theorem dX12_count_114 : decode cX12_count 114 = .ok (.iadd, 1) := by decide +kernel
theorem dX12_count_115 : decode cX12_count 115 = .ok (.aload_n 0, 1) := by decide +kernel
theorem dX12_count_116 : decode cX12_count 116 = .ok (.getfield 38, 3) := by decide +kernel
theorem dX12_count_119 : decode cX12_count 119 = .ok (.iconst 2, 1) := by decide +kernel
theorem dX12_count_120 : decode cX12_count 120 = .ok (.iaload, 1) := by decide +kernel
theorem dX12_count_121 : decode cX12_count 121 = .ok (.iadd, 1) := by decide +kernel
theorem dX12_count_122 : decode cX12_count 122 = .ok (.aload_n 0, 1) := by decide +kernel
theorem dX12_count_123 : decode cX12_count 123 = .ok (.getfield 38, 3) := by decide +kernel
theorem dX12_count_126 : decode cX12_count 126 = .ok (.iconst 3, 1) := by decide +kernel
theorem dX12_count_127 : decode cX12_count 127 = .ok (.iaload, 1) := by decide +kernel
theorem dX12_count_128 : decode cX12_count 128 = .ok (.iadd, 1) := by decide +kernel
theorem dX12_count_129 : decode cX12_count 129 = .ok (.aload_n 0, 1) := by decide +kernel
theorem dX12_count_130 : decode cX12_count 130 = .ok (.getfield 38, 3) := by decide +kernel
theorem dX12_count_133 : decode cX12_count 133 = .ok (.iconst 4, 1) := by decide +kernel
theorem dX12_count_134 : decode cX12_count 134 = .ok (.iaload, 1) := by decide +kernel
theorem dX12_count_135 : decode cX12_count 135 = .ok (.iadd, 1) := by decide +kernel
theorem dX12_count_136 : decode cX12_count 136 = .ok (.aload_n 0, 1) := by decide +kernel
theorem dX12_count_137 : decode cX12_count 137 = .ok (.getfield 38, 3) := by decide +kernel
theorem dX12_count_140 : decode cX12_count 140 = .ok (.iconst 5, 1) := by decide +kernel
theorem dX12_count_141 : decode cX12_count 141 = .ok (.iaload, 1) := by decide +kernel
theorem dX12_count_142 : decode cX12_count 142 = .ok (.iadd, 1) := by decide +kernel
theorem dX12_count_143 : decode cX12_count 143 = .ok (.ireturn, 1) := by decide +kernel
theorem dX12_enter_0 : decode cX12_enter 0 = .ok (.aload_n 0, 1) := by decide +kernel
theorem dX12_enter_1 : decode cX12_enter 1 = .ok (.getfield 53, 3) := by decide +kernel
theorem dX12_enter_4 : decode cX12_enter 4 = .ok (.aload_n 0, 1) := by decide +kernel
theorem dX12_enter_5 : decode cX12_enter 5 = .ok (.getfield 180, 3) := by decide +kernel
theorem dX12_enter_8 : decode cX12_enter 8 = .ok (.iload_n 1, 1) := by decide +kernel
theorem dX12_enter_9 : decode cX12_enter 9 = .ok (.iastore, 1) := by decide +kernel
theorem dX12_enter_10 : decode cX12_enter 10 = .ok (.aload_n 0, 1) := by decide +kernel
theorem dX12_enter_11 : decode cX12_enter 11 = .ok (.getfield 56, 3) := by decide +kernel
theorem dX12_enter_14 : decode cX12_enter 14 = .ok (.aload_n 0, 1) := by decide +kernel
theorem dX12_enter_15 : decode cX12_enter 15 = .ok (.getfield 180, 3) := by decide +kernel
theorem dX12_enter_18 : decode cX12_enter 18 = .ok (.iload_n 2, 1) := by decide +kernel
theorem dX12_enter_19 : decode cX12_enter 19 = .ok (.iastore, 1) := by decide +kernel
theorem dX12_enter_20 : decode cX12_enter 20 = .ok (.aload_n 0, 1) := by decide +kernel
theorem dX12_enter_21 : decode cX12_enter 21 = .ok (.getfield 59, 3) := by decide +kernel
theorem dX12_enter_24 : decode cX12_enter 24 = .ok (.aload_n 0, 1) := by decide +kernel
theorem dX12_enter_25 : decode cX12_enter 25 = .ok (.getfield 180, 3) := by decide +kernel
theorem dX12_enter_28 : decode cX12_enter 28 = .ok (.iload_n 3, 1) := by decide +kernel
theorem dX12_enter_29 : decode cX12_enter 29 = .ok (.iastore, 1) := by decide +kernel
theorem dX12_enter_30 : decode cX12_enter 30 = .ok (.aload_n 0, 1) := by decide +kernel
theorem dX12_enter_31 : decode cX12_enter 31 = .ok (.getfield 62, 3) := by decide +kernel
theorem dX12_enter_34 : decode cX12_enter 34 = .ok (.aload_n 0, 1) := by decide +kernel
theorem dX12_enter_35 : decode cX12_enter 35 = .ok (.getfield 180, 3) := by decide +kernel
theorem dX12_enter_38 : decode cX12_enter 38 = .ok (.iload 4, 2) := by decide +kernel
theorem dX12_enter_40 : decode cX12_enter 40 = .ok (.iastore, 1) := by decide +kernel
theorem dX12_enter_41 : decode cX12_enter 41 = .ok (.aload_n 0, 1) := by decide +kernel
theorem dX12_enter_42 : decode cX12_enter 42 = .ok (.dup, 1) := by decide +kernel
theorem dX12_enter_43 : decode cX12_enter 43 = .ok (.getfield 180, 3) := by decide +kernel
theorem dX12_enter_46 : decode cX12_enter 46 = .ok (.iconst 1, 1) := by decide +kernel
theorem dX12_enter_47 : decode cX12_enter 47 = .ok (.iadd, 1) := by decide +kernel
theorem dX12_enter_48 : decode cX12_enter 48 = .ok (.putfield 180, 3) := by decide +kernel
theorem dX12_enter_51 : decode cX12_enter 51 = .ok (.return_, 1) := by decide +kernel
theorem dX12_isOfRow_0 : decode cX12_isOfRow 0 = .ok (.aload_n 0, 1) := by decide +kernel
theorem dX12_isOfRow_1 : decode cX12_isOfRow 1 = .ok (.getfield 7, 3) := by decide +kernel
theorem dX12_isOfRow_4 : decode cX12_isOfRow 4 = .ok (.iload_n 1, 1) := by decide +kernel
theorem dX12_isOfRow_5 : decode cX12_isOfRow 5 = .ok (.iaload, 1) := by decide +kernel
theorem dX12_isOfRow_6 : decode cX12_isOfRow 6 = .ok (.iconst 4, 1) := by decide +kernel
theorem dX12_isOfRow_7 : decode cX12_isOfRow 7 = .ok (.if_icmp .eq 13, 3) := by decide +kernel
theorem dX12_isOfRow_10 : decode cX12_isOfRow 10 = .ok (.aload_n 0, 1) := by decide +kernel
theorem dX12_isOfRow_11 : decode cX12_isOfRow 11 = .ok (.getfield 7, 3) := by decide +kernel
theorem dX12_isOfRow_14 : decode cX12_isOfRow 14 = .ok (.iload_n 1, 1) := by decide +kernel
theorem dX12_isOfRow_15 : decode cX12_isOfRow 15 = .ok (.iaload, 1) := by decide +kernel
theorem dX12_isOfRow_16 : decode cX12_isOfRow 16 = .ok (.iconst 5, 1) := by decide +kernel
theorem dX12_isOfRow_17 : decode cX12_isOfRow 17 = .ok (.if_icmp .ne 7, 3) := by decide +kernel
theorem dX12_isOfRow_20 : decode cX12_isOfRow 20 = .ok (.iconst 1, 1) := by decide +kernel
theorem dX12_isOfRow_21 : decode cX12_isOfRow 21 = .ok (.goto 4, 3) := by decide +kernel
theorem dX12_isOfRow_24 : decode cX12_isOfRow 24 = .ok (.iconst 0, 1) := by decide +kernel
theorem dX12_isOfRow_25 : decode cX12_isOfRow 25 = .ok (.ireturn, 1) := by decide +kernel
theorem dX12_gather_0 : decode cX12_gather 0 = .ok (.aload_n 0, 1) := by decide +kernel
theorem dX12_gather_1 : decode cX12_gather 1 = .ok (.iconst 0, 1) := by decide +kernel
theorem dX12_gather_2 : decode cX12_gather 2 = .ok (.putfield 180, 3) := by decide +kernel
theorem dX12_gather_5 : decode cX12_gather 5 = .ok (.iconst 0, 1) := by decide +kernel
theorem dX12_gather_6 : decode cX12_gather 6 = .ok (.istore_n 1, 1) := by decide +kernel
theorem dX12_gather_7 : decode cX12_gather 7 = .ok (.iload_n 1, 1) := by decide +kernel
theorem dX12_gather_8 : decode cX12_gather 8 = .ok (.aload_n 0, 1) := by decide +kernel
theorem dX12_gather_9 : decode cX12_gather 9 = .ok (.getfield 118, 3) := by decide +kernel
theorem dX12_gather_12 : decode cX12_gather 12 = .ok (.if_icmp .ge 118, 3) := by decide +kernel
theorem dX12_gather_15 : decode cX12_gather 15 = .ok (.iconst 3, 1) := by decide +kernel
theorem dX12_gather_16 : decode cX12_gather 16 = .ok (.iload_n 1, 1) := by decide +kernel
theorem dX12_gather_17 : decode cX12_gather 17 = .ok (.imul, 1) := by decide +kernel
theorem dX12_gather_18 : decode cX12_gather 18 = .ok (.istore_n 2, 1) := by decide +kernel
theorem dX12_gather_19 : decode cX12_gather 19 = .ok (.iload_n 2, 1) := by decide +kernel
theorem dX12_gather_20 : decode cX12_gather 20 = .ok (.iconst 3, 1) := by decide +kernel
theorem dX12_gather_21 : decode cX12_gather 21 = .ok (.iload_n 1, 1) := by decide +kernel
theorem dX12_gather_22 : decode cX12_gather 22 = .ok (.imul, 1) := by decide +kernel
theorem dX12_gather_23 : decode cX12_gather 23 = .ok (.iconst 3, 1) := by decide +kernel
theorem dX12_gather_24 : decode cX12_gather 24 = .ok (.iadd, 1) := by decide +kernel
theorem dX12_gather_25 : decode cX12_gather 25 = .ok (.if_icmp .ge 59, 3) := by decide +kernel
theorem dX12_gather_28 : decode cX12_gather 28 = .ok (.aload_n 0, 1) := by decide +kernel
theorem dX12_gather_29 : decode cX12_gather 29 = .ok (.getfield 25, 3) := by decide +kernel
theorem dX12_gather_32 : decode cX12_gather 32 = .ok (.iload_n 2, 1) := by decide +kernel
theorem dX12_gather_33 : decode cX12_gather 33 = .ok (.iaload, 1) := by decide +kernel
theorem dX12_gather_34 : decode cX12_gather 34 = .ok (.ifCond .lt 44, 3) := by decide +kernel
theorem dX12_gather_37 : decode cX12_gather 37 = .ok (.aload_n 0, 1) := by decide +kernel
theorem dX12_gather_38 : decode cX12_gather 38 = .ok (.getfield 25, 3) := by decide +kernel
theorem dX12_gather_41 : decode cX12_gather 41 = .ok (.iload_n 2, 1) := by decide +kernel
theorem dX12_gather_42 : decode cX12_gather 42 = .ok (.iaload, 1) := by decide +kernel
theorem dX12_gather_43 : decode cX12_gather 43 = .ok (.aload_n 0, 1) := by decide +kernel
theorem dX12_gather_44 : decode cX12_gather 44 = .ok (.getfield 118, 3) := by decide +kernel
theorem dX12_gather_47 : decode cX12_gather 47 = .ok (.if_icmp .ge 31, 3) := by decide +kernel
theorem dX12_gather_50 : decode cX12_gather 50 = .ok (.aload_n 0, 1) := by decide +kernel
theorem dX12_gather_51 : decode cX12_gather 51 = .ok (.aload_n 0, 1) := by decide +kernel
theorem dX12_gather_52 : decode cX12_gather 52 = .ok (.getfield 25, 3) := by decide +kernel
theorem dX12_gather_55 : decode cX12_gather 55 = .ok (.iload_n 2, 1) := by decide +kernel
theorem dX12_gather_56 : decode cX12_gather 56 = .ok (.iaload, 1) := by decide +kernel
theorem dX12_gather_57 : decode cX12_gather 57 = .ok (.iload_n 1, 1) := by decide +kernel
theorem dX12_gather_58 : decode cX12_gather 58 = .ok (.aload_n 0, 1) := by decide +kernel
theorem dX12_gather_59 : decode cX12_gather 59 = .ok (.getfield 13, 3) := by decide +kernel
theorem dX12_gather_62 : decode cX12_gather 62 = .ok (.aload_n 0, 1) := by decide +kernel
theorem dX12_gather_63 : decode cX12_gather 63 = .ok (.getfield 25, 3) := by decide +kernel
theorem dX12_gather_66 : decode cX12_gather 66 = .ok (.iload_n 2, 1) := by decide +kernel
theorem dX12_gather_67 : decode cX12_gather 67 = .ok (.iaload, 1) := by decide +kernel
theorem dX12_gather_68 : decode cX12_gather 68 = .ok (.iaload, 1) := by decide +kernel
theorem dX12_gather_69 : decode cX12_gather 69 = .ok (.aload_n 0, 1) := by decide +kernel
theorem dX12_gather_70 : decode cX12_gather 70 = .ok (.getfield 28, 3) := by decide +kernel
theorem dX12_gather_73 : decode cX12_gather 73 = .ok (.iload_n 2, 1) := by decide +kernel
theorem dX12_gather_74 : decode cX12_gather 74 = .ok (.iaload, 1) := by decide +kernel
theorem dX12_gather_75 : decode cX12_gather 75 = .ok (.invokevirtual 183, 3) := by decide +kernel
theorem dX12_gather_78 : decode cX12_gather 78 = .ok (.iinc 2 1, 3) := by decide +kernel
theorem dX12_gather_81 : decode cX12_gather 81 = .ok (.goto (-62), 3) := by decide +kernel
theorem dX12_gather_84 : decode cX12_gather 84 = .ok (.aload_n 0, 1) := by decide +kernel
theorem dX12_gather_85 : decode cX12_gather 85 = .ok (.getfield 7, 3) := by decide +kernel
theorem dX12_gather_88 : decode cX12_gather 88 = .ok (.iload_n 1, 1) := by decide +kernel
theorem dX12_gather_89 : decode cX12_gather 89 = .ok (.iaload, 1) := by decide +kernel
theorem dX12_gather_90 : decode cX12_gather 90 = .ok (.iconst 5, 1) := by decide +kernel
theorem dX12_gather_91 : decode cX12_gather 91 = .ok (.if_icmp .ne 11, 3) := by decide +kernel
theorem dX12_gather_94 : decode cX12_gather 94 = .ok (.aload_n 0, 1) := by decide +kernel
theorem dX12_gather_95 : decode cX12_gather 95 = .ok (.iload_n 1, 1) := by decide +kernel
theorem dX12_gather_96 : decode cX12_gather 96 = .ok (.iload_n 1, 1) := by decide +kernel
theorem dX12_gather_97 : decode cX12_gather 97 = .ok (.iconst 1, 1) := by decide +kernel
theorem dX12_gather_98 : decode cX12_gather 98 = .ok (.iconst 1, 1) := by decide +kernel
theorem dX12_gather_99 : decode cX12_gather 99 = .ok (.invokevirtual 183, 3) := by decide +kernel
theorem dX12_gather_102 : decode cX12_gather 102 = .ok (.iconst 0, 1) := by decide +kernel
theorem dX12_gather_103 : decode cX12_gather 103 = .ok (.istore_n 2, 1) := by decide +kernel
theorem dX12_gather_104 : decode cX12_gather 104 = .ok (.iload_n 2, 1) := by decide +kernel
theorem dX12_gather_105 : decode cX12_gather 105 = .ok (.aload_n 0, 1) := by decide +kernel
theorem dX12_gather_106 : decode cX12_gather 106 = .ok (.getfield 118, 3) := by decide +kernel
theorem dX12_gather_109 : decode cX12_gather 109 = .ok (.if_icmp .ge 15, 3) := by decide +kernel
theorem dX12_gather_112 : decode cX12_gather 112 = .ok (.aload_n 0, 1) := by decide +kernel
theorem dX12_gather_113 : decode cX12_gather 113 = .ok (.iload_n 2, 1) := by decide +kernel
theorem dX12_gather_114 : decode cX12_gather 114 = .ok (.iload_n 1, 1) := by decide +kernel
theorem dX12_gather_115 : decode cX12_gather 115 = .ok (.invokevirtual 186, 3) := by decide +kernel
theorem dX12_gather_118 : decode cX12_gather 118 = .ok (.iinc 2 1, 3) := by decide +kernel
theorem dX12_gather_121 : decode cX12_gather 121 = .ok (.goto (-17), 3) := by decide +kernel
theorem dX12_gather_124 : decode cX12_gather 124 = .ok (.iinc 1 1, 3) := by decide +kernel
theorem dX12_gather_127 : decode cX12_gather 127 = .ok (.goto (-120), 3) := by decide +kernel
theorem dX12_gather_130 : decode cX12_gather 130 = .ok (.iconst 0, 1) := by decide +kernel
theorem dX12_gather_131 : decode cX12_gather 131 = .ok (.istore_n 1, 1) := by decide +kernel
theorem dX12_gather_132 : decode cX12_gather 132 = .ok (.iload_n 1, 1) := by decide +kernel
theorem dX12_gather_133 : decode cX12_gather 133 = .ok (.aload_n 0, 1) := by decide +kernel
theorem dX12_gather_134 : decode cX12_gather 134 = .ok (.getfield 172, 3) := by decide +kernel
theorem dX12_gather_137 : decode cX12_gather 137 = .ok (.if_icmp .ge 37, 3) := by decide +kernel
theorem dX12_gather_140 : decode cX12_gather 140 = .ok (.aload_n 0, 1) := by decide +kernel
theorem dX12_gather_141 : decode cX12_gather 141 = .ok (.aload_n 0, 1) := by decide +kernel
theorem dX12_gather_142 : decode cX12_gather 142 = .ok (.getfield 41, 3) := by decide +kernel
theorem dX12_gather_145 : decode cX12_gather 145 = .ok (.iload_n 1, 1) := by decide +kernel
theorem dX12_gather_146 : decode cX12_gather 146 = .ok (.iaload, 1) := by decide +kernel
theorem dX12_gather_147 : decode cX12_gather 147 = .ok (.aload_n 0, 1) := by decide +kernel
theorem dX12_gather_148 : decode cX12_gather 148 = .ok (.getfield 44, 3) := by decide +kernel
theorem dX12_gather_151 : decode cX12_gather 151 = .ok (.iload_n 1, 1) := by decide +kernel
theorem dX12_gather_152 : decode cX12_gather 152 = .ok (.iaload, 1) := by decide +kernel
theorem dX12_gather_153 : decode cX12_gather 153 = .ok (.aload_n 0, 1) := by decide +kernel
theorem dX12_gather_154 : decode cX12_gather 154 = .ok (.getfield 47, 3) := by decide +kernel
theorem dX12_gather_157 : decode cX12_gather 157 = .ok (.iload_n 1, 1) := by decide +kernel
theorem dX12_gather_158 : decode cX12_gather 158 = .ok (.iaload, 1) := by decide +kernel
theorem dX12_gather_159 : decode cX12_gather 159 = .ok (.aload_n 0, 1) := by decide +kernel
theorem dX12_gather_160 : decode cX12_gather 160 = .ok (.getfield 50, 3) := by decide +kernel
theorem dX12_gather_163 : decode cX12_gather 163 = .ok (.iload_n 1, 1) := by decide +kernel
theorem dX12_gather_164 : decode cX12_gather 164 = .ok (.iaload, 1) := by decide +kernel
theorem dX12_gather_165 : decode cX12_gather 165 = .ok (.invokevirtual 183, 3) := by decide +kernel
theorem dX12_gather_168 : decode cX12_gather 168 = .ok (.iinc 1 1, 3) := by decide +kernel
theorem dX12_gather_171 : decode cX12_gather 171 = .ok (.goto (-39), 3) := by decide +kernel
theorem dX12_gather_174 : decode cX12_gather 174 = .ok (.return_, 1) := by decide +kernel
theorem dX12_gatherTwo_0 : decode cX12_gatherTwo 0 = .ok (.iload_n 1, 1) := by decide +kernel
theorem dX12_gatherTwo_1 : decode cX12_gatherTwo 1 = .ok (.iload_n 2, 1) := by decide +kernel
theorem dX12_gatherTwo_2 : decode cX12_gatherTwo 2 = .ok (.if_icmp .ge 58, 3) := by decide +kernel
theorem dX12_gatherTwo_5 : decode cX12_gatherTwo 5 = .ok (.aload_n 0, 1) := by decide +kernel
theorem dX12_gatherTwo_6 : decode cX12_gatherTwo 6 = .ok (.iload_n 1, 1) := by decide +kernel
theorem dX12_gatherTwo_7 : decode cX12_gatherTwo 7 = .ok (.invokevirtual 190, 3) := by decide +kernel
theorem dX12_gatherTwo_10 : decode cX12_gatherTwo 10 = .ok (.ifCond .eq 50, 3) := by decide +kernel
theorem dX12_gatherTwo_13 : decode cX12_gatherTwo 13 = .ok (.aload_n 0, 1) := by decide +kernel
theorem dX12_gatherTwo_14 : decode cX12_gatherTwo 14 = .ok (.iload_n 2, 1) := by decide +kernel
theorem dX12_gatherTwo_15 : decode cX12_gatherTwo 15 = .ok (.invokevirtual 190, 3) := by decide +kernel
theorem dX12_gatherTwo_18 : decode cX12_gatherTwo 18 = .ok (.ifCond .eq 42, 3) := by decide +kernel
theorem dX12_gatherTwo_21 : decode cX12_gatherTwo 21 = .ok (.aload_n 0, 1) := by decide +kernel
theorem dX12_gatherTwo_22 : decode cX12_gatherTwo 22 = .ok (.getfield 22, 3) := by decide +kernel
theorem dX12_gatherTwo_25 : decode cX12_gatherTwo 25 = .ok (.iload_n 1, 1) := by decide +kernel
theorem dX12_gatherTwo_26 : decode cX12_gatherTwo 26 = .ok (.iaload, 1) := by decide +kernel
theorem dX12_gatherTwo_27 : decode cX12_gatherTwo 27 = .ok (.aload_n 0, 1) := by decide +kernel
theorem dX12_gatherTwo_28 : decode cX12_gatherTwo 28 = .ok (.getfield 22, 3) := by decide +kernel
theorem dX12_gatherTwo_31 : decode cX12_gatherTwo 31 = .ok (.iload_n 2, 1) := by decide +kernel
theorem dX12_gatherTwo_32 : decode cX12_gatherTwo 32 = .ok (.iaload, 1) := by decide +kernel
theorem dX12_gatherTwo_33 : decode cX12_gatherTwo 33 = .ok (.if_icmp .ne 27, 3) := by decide +kernel
theorem dX12_gatherTwo_36 : decode cX12_gatherTwo 36 = .ok (.aload_n 0, 1) := by decide +kernel
theorem dX12_gatherTwo_37 : decode cX12_gatherTwo 37 = .ok (.getfield 7, 3) := by decide +kernel
theorem dX12_gatherTwo_40 : decode cX12_gatherTwo 40 = .ok (.iload_n 1, 1) := by decide +kernel
theorem dX12_gatherTwo_41 : decode cX12_gatherTwo 41 = .ok (.iaload, 1) := by decide +kernel
theorem dX12_gatherTwo_42 : decode cX12_gatherTwo 42 = .ok (.iconst 5, 1) := by decide +kernel
theorem dX12_gatherTwo_43 : decode cX12_gatherTwo 43 = .ok (.if_icmp .eq 13, 3) := by decide +kernel
theorem dX12_gatherTwo_46 : decode cX12_gatherTwo 46 = .ok (.aload_n 0, 1) := by decide +kernel
theorem dX12_gatherTwo_47 : decode cX12_gatherTwo 47 = .ok (.getfield 7, 3) := by decide +kernel
theorem dX12_gatherTwo_50 : decode cX12_gatherTwo 50 = .ok (.iload_n 2, 1) := by decide +kernel
theorem dX12_gatherTwo_51 : decode cX12_gatherTwo 51 = .ok (.iaload, 1) := by decide +kernel
theorem dX12_gatherTwo_52 : decode cX12_gatherTwo 52 = .ok (.iconst 5, 1) := by decide +kernel
theorem dX12_gatherTwo_53 : decode cX12_gatherTwo 53 = .ok (.if_icmp .ne 7, 3) := by decide +kernel
theorem dX12_gatherTwo_56 : decode cX12_gatherTwo 56 = .ok (.iconst 1, 1) := by decide +kernel
theorem dX12_gatherTwo_57 : decode cX12_gatherTwo 57 = .ok (.goto 4, 3) := by decide +kernel
theorem dX12_gatherTwo_60 : decode cX12_gatherTwo 60 = .ok (.iconst 0, 1) := by decide +kernel
theorem dX12_gatherTwo_61 : decode cX12_gatherTwo 61 = .ok (.istore_n 3, 1) := by decide +kernel
theorem dX12_gatherTwo_62 : decode cX12_gatherTwo 62 = .ok (.iload_n 3, 1) := by decide +kernel
theorem dX12_gatherTwo_63 : decode cX12_gatherTwo 63 = .ok (.ifCond .eq 11, 3) := by decide +kernel
theorem dX12_gatherTwo_66 : decode cX12_gatherTwo 66 = .ok (.aload_n 0, 1) := by decide +kernel
theorem dX12_gatherTwo_67 : decode cX12_gatherTwo 67 = .ok (.iload_n 1, 1) := by decide +kernel
theorem dX12_gatherTwo_68 : decode cX12_gatherTwo 68 = .ok (.iload_n 2, 1) := by decide +kernel
theorem dX12_gatherTwo_69 : decode cX12_gatherTwo 69 = .ok (.iconst 1, 1) := by decide +kernel
theorem dX12_gatherTwo_70 : decode cX12_gatherTwo 70 = .ok (.iconst 0, 1) := by decide +kernel
theorem dX12_gatherTwo_71 : decode cX12_gatherTwo 71 = .ok (.invokevirtual 183, 3) := by decide +kernel
theorem dX12_gatherTwo_74 : decode cX12_gatherTwo 74 = .ok (.iload_n 3, 1) := by decide +kernel
theorem dX12_gatherTwo_75 : decode cX12_gatherTwo 75 = .ok (.ifCond .eq 11, 3) := by decide +kernel
theorem dX12_gatherTwo_78 : decode cX12_gatherTwo 78 = .ok (.aload_n 0, 1) := by decide +kernel
theorem dX12_gatherTwo_79 : decode cX12_gatherTwo 79 = .ok (.iload_n 2, 1) := by decide +kernel
theorem dX12_gatherTwo_80 : decode cX12_gatherTwo 80 = .ok (.iload_n 1, 1) := by decide +kernel
theorem dX12_gatherTwo_81 : decode cX12_gatherTwo 81 = .ok (.iconst 1, 1) := by decide +kernel
theorem dX12_gatherTwo_82 : decode cX12_gatherTwo 82 = .ok (.iconst 1, 1) := by decide +kernel
theorem dX12_gatherTwo_83 : decode cX12_gatherTwo 83 = .ok (.invokevirtual 183, 3) := by decide +kernel
theorem dX12_gatherTwo_86 : decode cX12_gatherTwo 86 = .ok (.aload_n 0, 1) := by decide +kernel
theorem dX12_gatherTwo_87 : decode cX12_gatherTwo 87 = .ok (.getfield 7, 3) := by decide +kernel
theorem dX12_gatherTwo_90 : decode cX12_gatherTwo 90 = .ok (.iload_n 2, 1) := by decide +kernel
theorem dX12_gatherTwo_91 : decode cX12_gatherTwo 91 = .ok (.iaload, 1) := by decide +kernel
theorem dX12_gatherTwo_92 : decode cX12_gatherTwo 92 = .ok (.iconst 5, 1) := by decide +kernel
theorem dX12_gatherTwo_93 : decode cX12_gatherTwo 93 = .ok (.if_icmp .ne 32, 3) := by decide +kernel
theorem dX12_gatherTwo_96 : decode cX12_gatherTwo 96 = .ok (.iload_n 1, 1) := by decide +kernel
theorem dX12_gatherTwo_97 : decode cX12_gatherTwo 97 = .ok (.iload_n 2, 1) := by decide +kernel
theorem dX12_gatherTwo_98 : decode cX12_gatherTwo 98 = .ok (.if_icmp .eq 27, 3) := by decide +kernel
theorem dX12_gatherTwo_101 : decode cX12_gatherTwo 101 = .ok (.aload_n 0, 1) := by decide +kernel
theorem dX12_gatherTwo_102 : decode cX12_gatherTwo 102 = .ok (.getfield 7, 3) := by decide +kernel
theorem dX12_gatherTwo_105 : decode cX12_gatherTwo 105 = .ok (.iload_n 1, 1) := by decide +kernel
theorem dX12_gatherTwo_106 : decode cX12_gatherTwo 106 = .ok (.iaload, 1) := by decide +kernel
theorem dX12_gatherTwo_107 : decode cX12_gatherTwo 107 = .ok (.iconst 3, 1) := by decide +kernel
theorem dX12_gatherTwo_108 : decode cX12_gatherTwo 108 = .ok (.if_icmp .lt 17, 3) := by decide +kernel
theorem dX12_gatherTwo_111 : decode cX12_gatherTwo 111 = .ok (.aload_n 0, 1) := by decide +kernel
theorem dX12_gatherTwo_112 : decode cX12_gatherTwo 112 = .ok (.getfield 7, 3) := by decide +kernel
theorem dX12_gatherTwo_115 : decode cX12_gatherTwo 115 = .ok (.iload_n 1, 1) := by decide +kernel
theorem dX12_gatherTwo_116 : decode cX12_gatherTwo 116 = .ok (.iaload, 1) := by decide +kernel
theorem dX12_gatherTwo_117 : decode cX12_gatherTwo 117 = .ok (.iconst 5, 1) := by decide +kernel
theorem dX12_gatherTwo_118 : decode cX12_gatherTwo 118 = .ok (.if_icmp .gt 7, 3) := by decide +kernel
theorem dX12_gatherTwo_121 : decode cX12_gatherTwo 121 = .ok (.iconst 1, 1) := by decide +kernel
theorem dX12_gatherTwo_122 : decode cX12_gatherTwo 122 = .ok (.goto 4, 3) := by decide +kernel
theorem dX12_gatherTwo_125 : decode cX12_gatherTwo 125 = .ok (.iconst 0, 1) := by decide +kernel
theorem dX12_gatherTwo_126 : decode cX12_gatherTwo 126 = .ok (.istore 4, 2) := by decide +kernel
theorem dX12_gatherTwo_128 : decode cX12_gatherTwo 128 = .ok (.iload 4, 2) := by decide +kernel
theorem dX12_gatherTwo_130 : decode cX12_gatherTwo 130 = .ok (.ifCond .eq 16, 3) := by decide +kernel
theorem dX12_gatherTwo_133 : decode cX12_gatherTwo 133 = .ok (.iload_n 1, 1) := by decide +kernel
theorem dX12_gatherTwo_134 : decode cX12_gatherTwo 134 = .ok (.iload_n 2, 1) := by decide +kernel
theorem dX12_gatherTwo_135 : decode cX12_gatherTwo 135 = .ok (.if_icmp .ge 11, 3) := by decide +kernel
theorem dX12_gatherTwo_138 : decode cX12_gatherTwo 138 = .ok (.aload_n 0, 1) := by decide +kernel
theorem dX12_gatherTwo_139 : decode cX12_gatherTwo 139 = .ok (.iload_n 1, 1) := by decide +kernel
theorem dX12_gatherTwo_140 : decode cX12_gatherTwo 140 = .ok (.iload_n 2, 1) := by decide +kernel
theorem dX12_gatherTwo_141 : decode cX12_gatherTwo 141 = .ok (.iconst 1, 1) := by decide +kernel
theorem dX12_gatherTwo_142 : decode cX12_gatherTwo 142 = .ok (.iconst 0, 1) := by decide +kernel
theorem dX12_gatherTwo_143 : decode cX12_gatherTwo 143 = .ok (.invokevirtual 183, 3) := by decide +kernel
theorem dX12_gatherTwo_146 : decode cX12_gatherTwo 146 = .ok (.iload 4, 2) := by decide +kernel
theorem dX12_gatherTwo_148 : decode cX12_gatherTwo 148 = .ok (.ifCond .eq 11, 3) := by decide +kernel
theorem dX12_gatherTwo_151 : decode cX12_gatherTwo 151 = .ok (.aload_n 0, 1) := by decide +kernel
theorem dX12_gatherTwo_152 : decode cX12_gatherTwo 152 = .ok (.iload_n 1, 1) := by decide +kernel
theorem dX12_gatherTwo_153 : decode cX12_gatherTwo 153 = .ok (.iload_n 2, 1) := by decide +kernel
theorem dX12_gatherTwo_154 : decode cX12_gatherTwo 154 = .ok (.iconst 1, 1) := by decide +kernel
theorem dX12_gatherTwo_155 : decode cX12_gatherTwo 155 = .ok (.iconst 1, 1) := by decide +kernel
theorem dX12_gatherTwo_156 : decode cX12_gatherTwo 156 = .ok (.invokevirtual 183, 3) := by decide +kernel
theorem dX12_gatherTwo_159 : decode cX12_gatherTwo 159 = .ok (.return_, 1) := by decide +kernel
theorem dX12_bits_0 : decode cX12_bits 0 = .ok (.iconst 0, 1) := by decide +kernel
theorem dX12_bits_1 : decode cX12_bits 1 = .ok (.istore_n 1, 1) := by decide +kernel
theorem dX12_bits_2 : decode cX12_bits 2 = .ok (.iconst 0, 1) := by decide +kernel
theorem dX12_bits_3 : decode cX12_bits 3 = .ok (.istore_n 2, 1) := by decide +kernel
theorem dX12_bits_4 : decode cX12_bits 4 = .ok (.iload_n 2, 1) := by decide +kernel
theorem dX12_bits_5 : decode cX12_bits 5 = .ok (.bipush 8, 2) := by decide +kernel
theorem dX12_bits_7 : decode cX12_bits 7 = .ok (.if_icmp .ge 17, 3) := by decide +kernel
theorem dX12_bits_10 : decode cX12_bits 10 = .ok (.iload_n 1, 1) := by decide +kernel
theorem dX12_bits_11 : decode cX12_bits 11 = .ok (.iload_n 0, 1) := by decide +kernel
theorem dX12_bits_12 : decode cX12_bits 12 = .ok (.iload_n 2, 1) := by decide +kernel
theorem dX12_bits_13 : decode cX12_bits 13 = .ok (.ishr, 1) := by decide +kernel
theorem dX12_bits_14 : decode cX12_bits 14 = .ok (.iconst 1, 1) := by decide +kernel
theorem dX12_bits_15 : decode cX12_bits 15 = .ok (.iand, 1) := by decide +kernel
theorem dX12_bits_16 : decode cX12_bits 16 = .ok (.iadd, 1) := by decide +kernel
theorem dX12_bits_17 : decode cX12_bits 17 = .ok (.istore_n 1, 1) := by decide +kernel
theorem dX12_bits_18 : decode cX12_bits 18 = .ok (.iinc 2 1, 3) := by decide +kernel
theorem dX12_bits_21 : decode cX12_bits 21 = .ok (.goto (-17), 3) := by decide +kernel
theorem dX12_bits_24 : decode cX12_bits 24 = .ok (.iload_n 1, 1) := by decide +kernel
theorem dX12_bits_25 : decode cX12_bits 25 = .ok (.ireturn, 1) := by decide +kernel
theorem dX12_byUnits_0 : decode cX12_byUnits 0 = .ok (.iconst 1, 1) := by decide +kernel
theorem dX12_byUnits_1 : decode cX12_byUnits 1 = .ok (.istore_n 1, 1) := by decide +kernel
theorem dX12_byUnits_2 : decode cX12_byUnits 2 = .ok (.iconst 0, 1) := by decide +kernel
theorem dX12_byUnits_3 : decode cX12_byUnits 3 = .ok (.istore_n 2, 1) := by decide +kernel
theorem dX12_byUnits_4 : decode cX12_byUnits 4 = .ok (.iload_n 2, 1) := by decide +kernel
theorem dX12_byUnits_5 : decode cX12_byUnits 5 = .ok (.bipush 6, 2) := by decide +kernel
theorem dX12_byUnits_7 : decode cX12_byUnits 7 = .ok (.if_icmp .ge 107, 3) := by decide +kernel
theorem dX12_byUnits_10 : decode cX12_byUnits 10 = .ok (.iconst 0, 1) := by decide +kernel
theorem dX12_byUnits_11 : decode cX12_byUnits 11 = .ok (.istore_n 3, 1) := by decide +kernel
theorem dX12_byUnits_12 : decode cX12_byUnits 12 = .ok (.iconst 0, 1) := by decide +kernel
theorem dX12_byUnits_13 : decode cX12_byUnits 13 = .ok (.istore 4, 2) := by decide +kernel
theorem dX12_byUnits_15 : decode cX12_byUnits 15 = .ok (.iload 4, 2) := by decide +kernel
theorem dX12_byUnits_17 : decode cX12_byUnits 17 = .ok (.aload_n 0, 1) := by decide +kernel
theorem dX12_byUnits_18 : decode cX12_byUnits 18 = .ok (.getfield 118, 3) := by decide +kernel
theorem dX12_byUnits_21 : decode cX12_byUnits 21 = .ok (.if_icmp .ge 37, 3) := by decide +kernel
theorem dX12_byUnits_24 : decode cX12_byUnits 24 = .ok (.iload_n 3, 1) := by decide +kernel
theorem dX12_byUnits_25 : decode cX12_byUnits 25 = .ok (.aload_n 0, 1) := by decide +kernel
theorem dX12_byUnits_26 : decode cX12_byUnits 26 = .ok (.getfield 16, 3) := by decide +kernel
theorem dX12_byUnits_29 : decode cX12_byUnits 29 = .ok (.iload 4, 2) := by decide +kernel
theorem dX12_byUnits_31 : decode cX12_byUnits 31 = .ok (.iaload, 1) := by decide +kernel
theorem dX12_byUnits_32 : decode cX12_byUnits 32 = .ok (.iload_n 2, 1) := by decide +kernel
theorem dX12_byUnits_33 : decode cX12_byUnits 33 = .ok (.if_icmp .ne 16, 3) := by decide +kernel
theorem dX12_byUnits_36 : decode cX12_byUnits 36 = .ok (.aload_n 0, 1) := by decide +kernel
theorem dX12_byUnits_37 : decode cX12_byUnits 37 = .ok (.getfield 19, 3) := by decide +kernel
theorem dX12_byUnits_40 : decode cX12_byUnits 40 = .ok (.iload 4, 2) := by decide +kernel
theorem dX12_byUnits_42 : decode cX12_byUnits 42 = .ok (.iaload, 1) := by decide +kernel
theorem dX12_byUnits_43 : decode cX12_byUnits 43 = .ok (.invokestatic 193, 3) := by decide +kernel
theorem dX12_byUnits_46 : decode cX12_byUnits 46 = .ok (.goto 4, 3) := by decide +kernel
theorem dX12_byUnits_49 : decode cX12_byUnits 49 = .ok (.iconst 0, 1) := by decide +kernel
theorem dX12_byUnits_50 : decode cX12_byUnits 50 = .ok (.iadd, 1) := by decide +kernel
theorem dX12_byUnits_51 : decode cX12_byUnits 51 = .ok (.istore_n 3, 1) := by decide +kernel
theorem dX12_byUnits_52 : decode cX12_byUnits 52 = .ok (.iinc 4 1, 3) := by decide +kernel
theorem dX12_byUnits_55 : decode cX12_byUnits 55 = .ok (.goto (-40), 3) := by decide +kernel
theorem dX12_byUnits_58 : decode cX12_byUnits 58 = .ok (.iload_n 3, 1) := by decide +kernel
theorem dX12_byUnits_59 : decode cX12_byUnits 59 = .ok (.ifCond .ne 7, 3) := by decide +kernel
theorem dX12_byUnits_62 : decode cX12_byUnits 62 = .ok (.iconst 1, 1) := by decide +kernel
theorem dX12_byUnits_63 : decode cX12_byUnits 63 = .ok (.goto 34, 3) := by decide +kernel
theorem dX12_byUnits_66 : decode cX12_byUnits 66 = .ok (.aload_n 0, 1) := by decide +kernel
theorem dX12_byUnits_67 : decode cX12_byUnits 67 = .ok (.getfield 38, 3) := by decide +kernel
theorem dX12_byUnits_70 : decode cX12_byUnits 70 = .ok (.iload_n 2, 1) := by decide +kernel
theorem dX12_byUnits_71 : decode cX12_byUnits 71 = .ok (.iaload, 1) := by decide +kernel
theorem dX12_byUnits_72 : decode cX12_byUnits 72 = .ok (.ifCond .ne 8, 3) := by decide +kernel
theorem dX12_byUnits_75 : decode cX12_byUnits 75 = .ok (.ldc 196, 2) := by decide +kernel
theorem dX12_byUnits_77 : decode cX12_byUnits 77 = .ok (.goto 20, 3) := by decide +kernel
theorem dX12_byUnits_80 : decode cX12_byUnits 80 = .ok (.iload_n 3, 1) := by decide +kernel
theorem dX12_byUnits_81 : decode cX12_byUnits 81 = .ok (.aload_n 0, 1) := by decide +kernel
theorem dX12_byUnits_82 : decode cX12_byUnits 82 = .ok (.getfield 38, 3) := by decide +kernel
theorem dX12_byUnits_85 : decode cX12_byUnits 85 = .ok (.iload_n 2, 1) := by decide +kernel
theorem dX12_byUnits_86 : decode cX12_byUnits 86 = .ok (.iaload, 1) := by decide +kernel
theorem dX12_byUnits_87 : decode cX12_byUnits 87 = .ok (.iadd, 1) := by decide +kernel
theorem dX12_byUnits_88 : decode cX12_byUnits 88 = .ok (.iconst 1, 1) := by decide +kernel
theorem dX12_byUnits_89 : decode cX12_byUnits 89 = .ok (.isub, 1) := by decide +kernel
theorem dX12_byUnits_90 : decode cX12_byUnits 90 = .ok (.aload_n 0, 1) := by decide +kernel
theorem dX12_byUnits_91 : decode cX12_byUnits 91 = .ok (.getfield 38, 3) := by decide +kernel
theorem dX12_byUnits_94 : decode cX12_byUnits 94 = .ok (.iload_n 2, 1) := by decide +kernel
theorem dX12_byUnits_95 : decode cX12_byUnits 95 = .ok (.iaload, 1) := by decide +kernel
theorem dX12_byUnits_96 : decode cX12_byUnits 96 = .ok (.idiv, 1) := by decide +kernel
theorem dX12_byUnits_97 : decode cX12_byUnits 97 = .ok (.istore 4, 2) := by decide +kernel
theorem dX12_byUnits_99 : decode cX12_byUnits 99 = .ok (.iload 4, 2) := by decide +kernel
theorem dX12_byUnits_101 : decode cX12_byUnits 101 = .ok (.iload_n 1, 1) := by decide +kernel
theorem dX12_byUnits_102 : decode cX12_byUnits 102 = .ok (.if_icmp .le 6, 3) := by decide +kernel
theorem dX12_byUnits_105 : decode cX12_byUnits 105 = .ok (.iload 4, 2) := by decide +kernel
theorem dX12_byUnits_107 : decode cX12_byUnits 107 = .ok (.istore_n 1, 1) := by decide +kernel
theorem dX12_byUnits_108 : decode cX12_byUnits 108 = .ok (.iinc 2 1, 3) := by decide +kernel
theorem dX12_byUnits_111 : decode cX12_byUnits 111 = .ok (.goto (-107), 3) := by decide +kernel
theorem dX12_byUnits_114 : decode cX12_byUnits 114 = .ok (.iload_n 1, 1) := by decide +kernel
theorem dX12_byUnits_115 : decode cX12_byUnits 115 = .ok (.ireturn, 1) := by decide +kernel
theorem dX12_rests_0 : decode cX12_rests 0 = .ok (.iconst 0, 1) := by decide +kernel
theorem dX12_rests_1 : decode cX12_rests 1 = .ok (.istore_n 2, 1) := by decide +kernel
theorem dX12_rests_2 : decode cX12_rests 2 = .ok (.iload_n 2, 1) := by decide +kernel
theorem dX12_rests_3 : decode cX12_rests 3 = .ok (.aload_n 0, 1) := by decide +kernel
theorem dX12_rests_4 : decode cX12_rests 4 = .ok (.getfield 118, 3) := by decide +kernel
theorem dX12_rests_7 : decode cX12_rests 7 = .ok (.if_icmp .ge 16, 3) := by decide +kernel
theorem dX12_rests_10 : decode cX12_rests 10 = .ok (.aload_n 0, 1) := by decide +kernel
theorem dX12_rests_11 : decode cX12_rests 11 = .ok (.getfield 93, 3) := by decide +kernel
theorem dX12_rests_14 : decode cX12_rests 14 = .ok (.iload_n 2, 1) := by decide +kernel
theorem dX12_rests_15 : decode cX12_rests 15 = .ok (.iconst 0, 1) := by decide +kernel
theorem dX12_rests_16 : decode cX12_rests 16 = .ok (.iastore, 1) := by decide +kernel
theorem dX12_rests_17 : decode cX12_rests 17 = .ok (.iinc 2 1, 3) := by decide +kernel
theorem dX12_rests_20 : decode cX12_rests 20 = .ok (.goto (-18), 3) := by decide +kernel
theorem dX12_rests_23 : decode cX12_rests 23 = .ok (.iconst 0, 1) := by decide +kernel
theorem dX12_rests_24 : decode cX12_rests 24 = .ok (.istore_n 2, 1) := by decide +kernel
theorem dX12_rests_25 : decode cX12_rests 25 = .ok (.iload_n 2, 1) := by decide +kernel
theorem dX12_rests_26 : decode cX12_rests 26 = .ok (.aload_n 0, 1) := by decide +kernel
theorem dX12_rests_27 : decode cX12_rests 27 = .ok (.getfield 118, 3) := by decide +kernel
theorem dX12_rests_30 : decode cX12_rests 30 = .ok (.if_icmp .gt 103, 3) := by decide +kernel
theorem dX12_rests_33 : decode cX12_rests 33 = .ok (.iconst 0, 1) := by decide +kernel
theorem dX12_rests_34 : decode cX12_rests 34 = .ok (.istore_n 3, 1) := by decide +kernel
theorem dX12_rests_35 : decode cX12_rests 35 = .ok (.iconst 0, 1) := by decide +kernel
theorem dX12_rests_36 : decode cX12_rests 36 = .ok (.istore 4, 2) := by decide +kernel
theorem dX12_rests_38 : decode cX12_rests 38 = .ok (.iload 4, 2) := by decide +kernel
theorem dX12_rests_40 : decode cX12_rests 40 = .ok (.aload_n 0, 1) := by decide +kernel
theorem dX12_rests_41 : decode cX12_rests 41 = .ok (.getfield 180, 3) := by decide +kernel
theorem dX12_rests_44 : decode cX12_rests 44 = .ok (.if_icmp .ge 77, 3) := by decide +kernel
theorem dX12_rests_47 : decode cX12_rests 47 = .ok (.aload_n 0, 1) := by decide +kernel
theorem dX12_rests_48 : decode cX12_rests 48 = .ok (.getfield 93, 3) := by decide +kernel
theorem dX12_rests_51 : decode cX12_rests 51 = .ok (.aload_n 0, 1) := by decide +kernel
theorem dX12_rests_52 : decode cX12_rests 52 = .ok (.getfield 53, 3) := by decide +kernel
theorem dX12_rests_55 : decode cX12_rests 55 = .ok (.iload 4, 2) := by decide +kernel
theorem dX12_rests_57 : decode cX12_rests 57 = .ok (.iaload, 1) := by decide +kernel
theorem dX12_rests_58 : decode cX12_rests 58 = .ok (.iaload, 1) := by decide +kernel
theorem dX12_rests_59 : decode cX12_rests 59 = .ok (.aload_n 0, 1) := by decide +kernel
theorem dX12_rests_60 : decode cX12_rests 60 = .ok (.getfield 59, 3) := by decide +kernel
theorem dX12_rests_63 : decode cX12_rests 63 = .ok (.iload 4, 2) := by decide +kernel
theorem dX12_rests_65 : decode cX12_rests 65 = .ok (.iaload, 1) := by decide +kernel
theorem dX12_rests_66 : decode cX12_rests 66 = .ok (.iadd, 1) := by decide +kernel
theorem dX12_rests_67 : decode cX12_rests 67 = .ok (.iload_n 1, 1) := by decide +kernel
theorem dX12_rests_68 : decode cX12_rests 68 = .ok (.aload_n 0, 1) := by decide +kernel
theorem dX12_rests_69 : decode cX12_rests 69 = .ok (.getfield 62, 3) := by decide +kernel
theorem dX12_rests_72 : decode cX12_rests 72 = .ok (.iload 4, 2) := by decide +kernel
theorem dX12_rests_74 : decode cX12_rests 74 = .ok (.iaload, 1) := by decide +kernel
theorem dX12_rests_75 : decode cX12_rests 75 = .ok (.imul, 1) := by decide +kernel
theorem dX12_rests_76 : decode cX12_rests 76 = .ok (.isub, 1) := by decide +kernel
theorem dX12_rests_77 : decode cX12_rests 77 = .ok (.istore 5, 2) := by decide +kernel
theorem dX12_rests_79 : decode cX12_rests 79 = .ok (.aload_n 0, 1) := by decide +kernel
theorem dX12_rests_80 : decode cX12_rests 80 = .ok (.getfield 93, 3) := by decide +kernel
theorem dX12_rests_83 : decode cX12_rests 83 = .ok (.aload_n 0, 1) := by decide +kernel
theorem dX12_rests_84 : decode cX12_rests 84 = .ok (.getfield 56, 3) := by decide +kernel
theorem dX12_rests_87 : decode cX12_rests 87 = .ok (.iload 4, 2) := by decide +kernel
theorem dX12_rests_89 : decode cX12_rests 89 = .ok (.iaload, 1) := by decide +kernel
theorem dX12_rests_90 : decode cX12_rests 90 = .ok (.iaload, 1) := by decide +kernel
theorem dX12_rests_91 : decode cX12_rests 91 = .ok (.iload 5, 2) := by decide +kernel
theorem dX12_rests_93 : decode cX12_rests 93 = .ok (.if_icmp .lt 6, 3) := by decide +kernel
theorem dX12_rests_96 : decode cX12_rests 96 = .ok (.goto 19, 3) := by decide +kernel
theorem dX12_rests_99 : decode cX12_rests 99 = .ok (.aload_n 0, 1) := by decide +kernel
theorem dX12_rests_100 : decode cX12_rests 100 = .ok (.getfield 93, 3) := by decide +kernel
theorem dX12_rests_103 : decode cX12_rests 103 = .ok (.aload_n 0, 1) := by decide +kernel
theorem dX12_rests_104 : decode cX12_rests 104 = .ok (.getfield 56, 3) := by decide +kernel
theorem dX12_rests_107 : decode cX12_rests 107 = .ok (.iload 4, 2) := by decide +kernel
theorem dX12_rests_109 : decode cX12_rests 109 = .ok (.iaload, 1) := by decide +kernel
theorem dX12_rests_110 : decode cX12_rests 110 = .ok (.iload 5, 2) := by decide +kernel
theorem dX12_rests_112 : decode cX12_rests 112 = .ok (.iastore, 1) := by decide +kernel
theorem dX12_rests_113 : decode cX12_rests 113 = .ok (.iconst 1, 1) := by decide +kernel
theorem dX12_rests_114 : decode cX12_rests 114 = .ok (.istore_n 3, 1) := by decide +kernel
theorem dX12_rests_115 : decode cX12_rests 115 = .ok (.iinc 4 1, 3) := by decide +kernel
theorem dX12_rests_118 : decode cX12_rests 118 = .ok (.goto (-80), 3) := by decide +kernel
theorem dX12_rests_121 : decode cX12_rests 121 = .ok (.iload_n 3, 1) := by decide +kernel
theorem dX12_rests_122 : decode cX12_rests 122 = .ok (.ifCond .ne 5, 3) := by decide +kernel
theorem dX12_rests_125 : decode cX12_rests 125 = .ok (.iconst 1, 1) := by decide +kernel
theorem dX12_rests_126 : decode cX12_rests 126 = .ok (.ireturn, 1) := by decide +kernel
theorem dX12_rests_127 : decode cX12_rests 127 = .ok (.iinc 2 1, 3) := by decide +kernel
theorem dX12_rests_130 : decode cX12_rests 130 = .ok (.goto (-105), 3) := by decide +kernel
theorem dX12_rests_133 : decode cX12_rests 133 = .ok (.iconst 0, 1) := by decide +kernel
theorem dX12_rests_134 : decode cX12_rests 134 = .ok (.ireturn, 1) := by decide +kernel
theorem dX12_byRings_0 : decode cX12_byRings 0 = .ok (.iconst 1, 1) := by decide +kernel
theorem dX12_byRings_1 : decode cX12_byRings 1 = .ok (.istore_n 1, 1) := by decide +kernel
theorem dX12_byRings_2 : decode cX12_byRings 2 = .ok (.iload_n 1, 1) := by decide +kernel
theorem dX12_byRings_3 : decode cX12_byRings 3 = .ok (.bipush 60, 2) := by decide +kernel
theorem dX12_byRings_5 : decode cX12_byRings 5 = .ok (.if_icmp .gt 19, 3) := by decide +kernel
theorem dX12_byRings_8 : decode cX12_byRings 8 = .ok (.aload_n 0, 1) := by decide +kernel
theorem dX12_byRings_9 : decode cX12_byRings 9 = .ok (.iload_n 1, 1) := by decide +kernel
theorem dX12_byRings_10 : decode cX12_byRings 10 = .ok (.invokevirtual 197, 3) := by decide +kernel
theorem dX12_byRings_13 : decode cX12_byRings 13 = .ok (.ifCond .eq 5, 3) := by decide +kernel
theorem dX12_byRings_16 : decode cX12_byRings 16 = .ok (.iload_n 1, 1) := by decide +kernel
theorem dX12_byRings_17 : decode cX12_byRings 17 = .ok (.ireturn, 1) := by decide +kernel
theorem dX12_byRings_18 : decode cX12_byRings 18 = .ok (.iinc 1 1, 3) := by decide +kernel
theorem dX12_byRings_21 : decode cX12_byRings 21 = .ok (.goto (-19), 3) := by decide +kernel
theorem dX12_byRings_24 : decode cX12_byRings 24 = .ok (.ldc 196, 2) := by decide +kernel
theorem dX12_byRings_26 : decode cX12_byRings 26 = .ok (.ireturn, 1) := by decide +kernel
theorem dX12_isReady_0 : decode cX12_isReady 0 = .ok (.aload_n 0, 1) := by decide +kernel
theorem dX12_isReady_1 : decode cX12_isReady 1 = .ok (.getfield 118, 3) := by decide +kernel
theorem dX12_isReady_4 : decode cX12_isReady 4 = .ok (.ifCond .le 15, 3) := by decide +kernel
theorem dX12_isReady_7 : decode cX12_isReady 7 = .ok (.aload_n 0, 1) := by decide +kernel
theorem dX12_isReady_8 : decode cX12_isReady 8 = .ok (.invokevirtual 200, 3) := by decide +kernel
theorem dX12_isReady_11 : decode cX12_isReady 11 = .ok (.iconst 1, 1) := by decide +kernel
theorem dX12_isReady_12 : decode cX12_isReady 12 = .ok (.if_icmp .ne 7, 3) := by decide +kernel
theorem dX12_isReady_15 : decode cX12_isReady 15 = .ok (.iconst 1, 1) := by decide +kernel
theorem dX12_isReady_16 : decode cX12_isReady 16 = .ok (.goto 4, 3) := by decide +kernel
theorem dX12_isReady_19 : decode cX12_isReady 19 = .ok (.iconst 0, 1) := by decide +kernel
theorem dX12_isReady_20 : decode cX12_isReady 20 = .ok (.ireturn, 1) := by decide +kernel
theorem dX12_lowestBeat_0 : decode cX12_lowestBeat 0 = .ok (.aload_n 0, 1) := by decide +kernel
theorem dX12_lowestBeat_1 : decode cX12_lowestBeat 1 = .ok (.invokevirtual 177, 3) := by decide +kernel
theorem dX12_lowestBeat_4 : decode cX12_lowestBeat 4 = .ok (.aload_n 0, 1) := by decide +kernel
theorem dX12_lowestBeat_5 : decode cX12_lowestBeat 5 = .ok (.invokevirtual 204, 3) := by decide +kernel
theorem dX12_lowestBeat_8 : decode cX12_lowestBeat 8 = .ok (.istore_n 1, 1) := by decide +kernel
theorem dX12_lowestBeat_9 : decode cX12_lowestBeat 9 = .ok (.aload_n 0, 1) := by decide +kernel
theorem dX12_lowestBeat_10 : decode cX12_lowestBeat 10 = .ok (.invokevirtual 207, 3) := by decide +kernel
theorem dX12_lowestBeat_13 : decode cX12_lowestBeat 13 = .ok (.istore_n 2, 1) := by decide +kernel
theorem dX12_lowestBeat_14 : decode cX12_lowestBeat 14 = .ok (.iload_n 1, 1) := by decide +kernel
theorem dX12_lowestBeat_15 : decode cX12_lowestBeat 15 = .ok (.iload_n 2, 1) := by decide +kernel
theorem dX12_lowestBeat_16 : decode cX12_lowestBeat 16 = .ok (.if_icmp .le 7, 3) := by decide +kernel
theorem dX12_lowestBeat_19 : decode cX12_lowestBeat 19 = .ok (.iload_n 1, 1) := by decide +kernel
theorem dX12_lowestBeat_20 : decode cX12_lowestBeat 20 = .ok (.goto 4, 3) := by decide +kernel
theorem dX12_lowestBeat_23 : decode cX12_lowestBeat 23 = .ok (.iload_n 2, 1) := by decide +kernel
theorem dX12_lowestBeat_24 : decode cX12_lowestBeat 24 = .ok (.ireturn, 1) := by decide +kernel
theorem dX12_lowest_0 : decode cX12_lowest 0 = .ok (.aload_n 0, 1) := by decide +kernel
theorem dX12_lowest_1 : decode cX12_lowest 1 = .ok (.invokevirtual 210, 3) := by decide +kernel
theorem dX12_lowest_4 : decode cX12_lowest 4 = .ok (.ifCond .ne 10, 3) := by decide +kernel
theorem dX12_lowest_7 : decode cX12_lowest 7 = .ok (.aload_n 0, 1) := by decide +kernel
theorem dX12_lowest_8 : decode cX12_lowest 8 = .ok (.bipush (-2), 2) := by decide +kernel
theorem dX12_lowest_10 : decode cX12_lowest 10 = .ok (.invokevirtual 124, 3) := by decide +kernel
theorem dX12_lowest_13 : decode cX12_lowest 13 = .ok (.ireturn, 1) := by decide +kernel
theorem dX12_lowest_14 : decode cX12_lowest 14 = .ok (.aload_n 0, 1) := by decide +kernel
theorem dX12_lowest_15 : decode cX12_lowest 15 = .ok (.invokevirtual 214, 3) := by decide +kernel
theorem dX12_lowest_18 : decode cX12_lowest 18 = .ok (.istore_n 1, 1) := by decide +kernel
theorem dX12_lowest_19 : decode cX12_lowest 19 = .ok (.iload_n 1, 1) := by decide +kernel
theorem dX12_lowest_20 : decode cX12_lowest 20 = .ok (.bipush 60, 2) := by decide +kernel
theorem dX12_lowest_22 : decode cX12_lowest 22 = .ok (.if_icmp .le 12, 3) := by decide +kernel
theorem dX12_lowest_25 : decode cX12_lowest 25 = .ok (.aload_n 0, 1) := by decide +kernel
theorem dX12_lowest_26 : decode cX12_lowest 26 = .ok (.bipush (-9), 2) := by decide +kernel
theorem dX12_lowest_28 : decode cX12_lowest 28 = .ok (.invokevirtual 124, 3) := by decide +kernel
theorem dX12_lowest_31 : decode cX12_lowest 31 = .ok (.goto 4, 3) := by decide +kernel
theorem dX12_lowest_34 : decode cX12_lowest 34 = .ok (.iload_n 1, 1) := by decide +kernel
theorem dX12_lowest_35 : decode cX12_lowest 35 = .ok (.ireturn, 1) := by decide +kernel
theorem dX12_fits_0 : decode cX12_fits 0 = .ok (.iconst 0, 1) := by decide +kernel
theorem dX12_fits_1 : decode cX12_fits 1 = .ok (.istore_n 3, 1) := by decide +kernel
theorem dX12_fits_2 : decode cX12_fits 2 = .ok (.iload_n 3, 1) := by decide +kernel
theorem dX12_fits_3 : decode cX12_fits 3 = .ok (.bipush 6, 2) := by decide +kernel
theorem dX12_fits_5 : decode cX12_fits 5 = .ok (.if_icmp .ge 139, 3) := by decide +kernel
theorem dX12_fits_8 : decode cX12_fits 8 = .ok (.iconst 0, 1) := by decide +kernel
theorem dX12_fits_9 : decode cX12_fits 9 = .ok (.istore 4, 2) := by decide +kernel
theorem dX12_fits_11 : decode cX12_fits 11 = .ok (.iload 4, 2) := by decide +kernel
theorem dX12_fits_13 : decode cX12_fits 13 = .ok (.iload_n 2, 1) := by decide +kernel
theorem dX12_fits_14 : decode cX12_fits 14 = .ok (.if_icmp .ge 17, 3) := by decide +kernel
theorem dX12_fits_17 : decode cX12_fits 17 = .ok (.aload_n 0, 1) := by decide +kernel
theorem dX12_fits_18 : decode cX12_fits 18 = .ok (.getfield 99, 3) := by decide +kernel
theorem dX12_fits_21 : decode cX12_fits 21 = .ok (.iload 4, 2) := by decide +kernel
theorem dX12_fits_23 : decode cX12_fits 23 = .ok (.iconst 0, 1) := by decide +kernel
theorem dX12_fits_24 : decode cX12_fits 24 = .ok (.iastore, 1) := by decide +kernel
theorem dX12_fits_25 : decode cX12_fits 25 = .ok (.iinc 4 1, 3) := by decide +kernel
theorem dX12_fits_28 : decode cX12_fits 28 = .ok (.goto (-17), 3) := by decide +kernel
theorem dX12_fits_31 : decode cX12_fits 31 = .ok (.iconst 0, 1) := by decide +kernel
theorem dX12_fits_32 : decode cX12_fits 32 = .ok (.istore 4, 2) := by decide +kernel
theorem dX12_fits_34 : decode cX12_fits 34 = .ok (.iload 4, 2) := by decide +kernel
theorem dX12_fits_36 : decode cX12_fits 36 = .ok (.iload_n 1, 1) := by decide +kernel
theorem dX12_fits_37 : decode cX12_fits 37 = .ok (.if_icmp .ge 68, 3) := by decide +kernel
theorem dX12_fits_40 : decode cX12_fits 40 = .ok (.iconst 0, 1) := by decide +kernel
theorem dX12_fits_41 : decode cX12_fits 41 = .ok (.istore 5, 2) := by decide +kernel
theorem dX12_fits_43 : decode cX12_fits 43 = .ok (.iload 5, 2) := by decide +kernel
theorem dX12_fits_45 : decode cX12_fits 45 = .ok (.bipush 8, 2) := by decide +kernel
theorem dX12_fits_47 : decode cX12_fits 47 = .ok (.if_icmp .ge 52, 3) := by decide +kernel
theorem dX12_fits_50 : decode cX12_fits 50 = .ok (.aload_n 0, 1) := by decide +kernel
theorem dX12_fits_51 : decode cX12_fits 51 = .ok (.getfield 16, 3) := by decide +kernel
theorem dX12_fits_54 : decode cX12_fits 54 = .ok (.iload 4, 2) := by decide +kernel
theorem dX12_fits_56 : decode cX12_fits 56 = .ok (.iaload, 1) := by decide +kernel
theorem dX12_fits_57 : decode cX12_fits 57 = .ok (.iload_n 3, 1) := by decide +kernel
theorem dX12_fits_58 : decode cX12_fits 58 = .ok (.if_icmp .ne 41, 3) := by decide +kernel
theorem dX12_fits_61 : decode cX12_fits 61 = .ok (.aload_n 0, 1) := by decide +kernel
theorem dX12_fits_62 : decode cX12_fits 62 = .ok (.getfield 99, 3) := by decide +kernel
theorem dX12_fits_65 : decode cX12_fits 65 = .ok (.aload_n 0, 1) := by decide +kernel
theorem dX12_fits_66 : decode cX12_fits 66 = .ok (.getfield 96, 3) := by decide +kernel
theorem dX12_fits_69 : decode cX12_fits 69 = .ok (.iload 4, 2) := by decide +kernel
theorem dX12_fits_71 : decode cX12_fits 71 = .ok (.iaload, 1) := by decide +kernel
theorem dX12_fits_72 : decode cX12_fits 72 = .ok (.iload 5, 2) := by decide +kernel
theorem dX12_fits_74 : decode cX12_fits 74 = .ok (.iadd, 1) := by decide +kernel
theorem dX12_fits_75 : decode cX12_fits 75 = .ok (.iload_n 2, 1) := by decide +kernel
theorem dX12_fits_76 : decode cX12_fits 76 = .ok (.irem, 1) := by decide +kernel
theorem dX12_fits_77 : decode cX12_fits 77 = .ok (.dup2, 1) := by decide +kernel
theorem dX12_fits_78 : decode cX12_fits 78 = .ok (.iaload, 1) := by decide +kernel
theorem dX12_fits_79 : decode cX12_fits 79 = .ok (.aload_n 0, 1) := by decide +kernel
theorem dX12_fits_80 : decode cX12_fits 80 = .ok (.getfield 19, 3) := by decide +kernel
theorem dX12_fits_83 : decode cX12_fits 83 = .ok (.iload 4, 2) := by decide +kernel
theorem dX12_fits_85 : decode cX12_fits 85 = .ok (.iaload, 1) := by decide +kernel
theorem dX12_fits_86 : decode cX12_fits 86 = .ok (.iload 5, 2) := by decide +kernel
theorem dX12_fits_88 : decode cX12_fits 88 = .ok (.ishr, 1) := by decide +kernel
theorem dX12_fits_89 : decode cX12_fits 89 = .ok (.iconst 1, 1) := by decide +kernel
theorem dX12_fits_90 : decode cX12_fits 90 = .ok (.iand, 1) := by decide +kernel
theorem dX12_fits_91 : decode cX12_fits 91 = .ok (.iadd, 1) := by decide +kernel
theorem dX12_fits_92 : decode cX12_fits 92 = .ok (.iastore, 1) := by decide +kernel
theorem dX12_fits_93 : decode cX12_fits 93 = .ok (.iinc 5 1, 3) := by decide +kernel
theorem dX12_fits_96 : decode cX12_fits 96 = .ok (.goto (-53), 3) := by decide +kernel
theorem dX12_fits_99 : decode cX12_fits 99 = .ok (.iinc 4 1, 3) := by decide +kernel
theorem dX12_fits_102 : decode cX12_fits 102 = .ok (.goto (-68), 3) := by decide +kernel
theorem dX12_fits_105 : decode cX12_fits 105 = .ok (.iconst 0, 1) := by decide +kernel
theorem dX12_fits_106 : decode cX12_fits 106 = .ok (.istore 4, 2) := by decide +kernel
theorem dX12_fits_108 : decode cX12_fits 108 = .ok (.iload 4, 2) := by decide +kernel
theorem dX12_fits_110 : decode cX12_fits 110 = .ok (.iload_n 2, 1) := by decide +kernel
theorem dX12_fits_111 : decode cX12_fits 111 = .ok (.if_icmp .ge 27, 3) := by decide +kernel
theorem dX12_fits_114 : decode cX12_fits 114 = .ok (.aload_n 0, 1) := by decide +kernel
theorem dX12_fits_115 : decode cX12_fits 115 = .ok (.getfield 99, 3) := by decide +kernel
theorem dX12_fits_118 : decode cX12_fits 118 = .ok (.iload 4, 2) := by decide +kernel
theorem dX12_fits_120 : decode cX12_fits 120 = .ok (.iaload, 1) := by decide +kernel
theorem dX12_fits_121 : decode cX12_fits 121 = .ok (.aload_n 0, 1) := by decide +kernel
theorem dX12_fits_122 : decode cX12_fits 122 = .ok (.getfield 38, 3) := by decide +kernel
theorem dX12_fits_125 : decode cX12_fits 125 = .ok (.iload_n 3, 1) := by decide +kernel
theorem dX12_fits_126 : decode cX12_fits 126 = .ok (.iaload, 1) := by decide +kernel
theorem dX12_fits_127 : decode cX12_fits 127 = .ok (.if_icmp .le 5, 3) := by decide +kernel
theorem dX12_fits_130 : decode cX12_fits 130 = .ok (.iconst 0, 1) := by decide +kernel
theorem dX12_fits_131 : decode cX12_fits 131 = .ok (.ireturn, 1) := by decide +kernel
theorem dX12_fits_132 : decode cX12_fits 132 = .ok (.iinc 4 1, 3) := by decide +kernel
theorem dX12_fits_135 : decode cX12_fits 135 = .ok (.goto (-27), 3) := by decide +kernel
theorem dX12_fits_138 : decode cX12_fits 138 = .ok (.iinc 3 1, 3) := by decide +kernel
theorem dX12_fits_141 : decode cX12_fits 141 = .ok (.goto (-139), 3) := by decide +kernel
theorem dX12_fits_144 : decode cX12_fits 144 = .ok (.iconst 1, 1) := by decide +kernel
theorem dX12_fits_145 : decode cX12_fits 145 = .ok (.ireturn, 1) := by decide +kernel
theorem dX12_cut_0 : decode cX12_cut 0 = .ok (.iload_n 0, 1) := by decide +kernel
theorem dX12_cut_1 : decode cX12_cut 1 = .ok (.ifCond .lt 9, 3) := by decide +kernel
theorem dX12_cut_4 : decode cX12_cut 4 = .ok (.iload_n 0, 1) := by decide +kernel
theorem dX12_cut_5 : decode cX12_cut 5 = .ok (.iload_n 1, 1) := by decide +kernel
theorem dX12_cut_6 : decode cX12_cut 6 = .ok (.idiv, 1) := by decide +kernel
theorem dX12_cut_7 : decode cX12_cut 7 = .ok (.goto 11, 3) := by decide +kernel
theorem dX12_cut_10 : decode cX12_cut 10 = .ok (.iload_n 1, 1) := by decide +kernel
theorem dX12_cut_11 : decode cX12_cut 11 = .ok (.iconst 1, 1) := by decide +kernel
theorem dX12_cut_12 : decode cX12_cut 12 = .ok (.isub, 1) := by decide +kernel
theorem dX12_cut_13 : decode cX12_cut 13 = .ok (.iload_n 0, 1) := by decide +kernel
theorem dX12_cut_14 : decode cX12_cut 14 = .ok (.isub, 1) := by decide +kernel
theorem dX12_cut_15 : decode cX12_cut 15 = .ok (.iload_n 1, 1) := by decide +kernel
theorem dX12_cut_16 : decode cX12_cut 16 = .ok (.idiv, 1) := by decide +kernel
theorem dX12_cut_17 : decode cX12_cut 17 = .ok (.ineg, 1) := by decide +kernel
theorem dX12_cut_18 : decode cX12_cut 18 = .ok (.ireturn, 1) := by decide +kernel
theorem dX12_holds_0 : decode cX12_holds 0 = .ok (.iconst 0, 1) := by decide +kernel
theorem dX12_holds_1 : decode cX12_holds 1 = .ok (.istore_n 3, 1) := by decide +kernel
theorem dX12_holds_2 : decode cX12_holds 2 = .ok (.iload_n 3, 1) := by decide +kernel
theorem dX12_holds_3 : decode cX12_holds 3 = .ok (.iload_n 1, 1) := by decide +kernel
theorem dX12_holds_4 : decode cX12_holds 4 = .ok (.if_icmp .ge 16, 3) := by decide +kernel
theorem dX12_holds_7 : decode cX12_holds 7 = .ok (.aload_n 0, 1) := by decide +kernel
theorem dX12_holds_8 : decode cX12_holds 8 = .ok (.getfield 93, 3) := by decide +kernel
theorem dX12_holds_11 : decode cX12_holds 11 = .ok (.iload_n 3, 1) := by decide +kernel
theorem dX12_holds_12 : decode cX12_holds 12 = .ok (.iconst 0, 1) := by decide +kernel
theorem dX12_holds_13 : decode cX12_holds 13 = .ok (.iastore, 1) := by decide +kernel
theorem dX12_holds_14 : decode cX12_holds 14 = .ok (.iinc 3 1, 3) := by decide +kernel
theorem dX12_holds_17 : decode cX12_holds 17 = .ok (.goto (-15), 3) := by decide +kernel
theorem dX12_holds_20 : decode cX12_holds 20 = .ok (.iconst 0, 1) := by decide +kernel
theorem dX12_holds_21 : decode cX12_holds 21 = .ok (.istore_n 3, 1) := by decide +kernel
theorem dX12_holds_22 : decode cX12_holds 22 = .ok (.iload_n 3, 1) := by decide +kernel
theorem dX12_holds_23 : decode cX12_holds 23 = .ok (.iload_n 1, 1) := by decide +kernel
theorem dX12_holds_24 : decode cX12_holds 24 = .ok (.if_icmp .gt 142, 3) := by decide +kernel
theorem dX12_holds_27 : decode cX12_holds 27 = .ok (.iconst 0, 1) := by decide +kernel
theorem dX12_holds_28 : decode cX12_holds 28 = .ok (.istore 4, 2) := by decide +kernel
theorem dX12_holds_30 : decode cX12_holds 30 = .ok (.iconst 0, 1) := by decide +kernel
theorem dX12_holds_31 : decode cX12_holds 31 = .ok (.istore 5, 2) := by decide +kernel
theorem dX12_holds_33 : decode cX12_holds 33 = .ok (.iload 5, 2) := by decide +kernel
theorem dX12_holds_35 : decode cX12_holds 35 = .ok (.aload_n 0, 1) := by decide +kernel
theorem dX12_holds_36 : decode cX12_holds 36 = .ok (.getfield 180, 3) := by decide +kernel
theorem dX12_holds_39 : decode cX12_holds 39 = .ok (.if_icmp .ge 114, 3) := by decide +kernel
theorem dX12_holds_42 : decode cX12_holds 42 = .ok (.aload_n 0, 1) := by decide +kernel
theorem dX12_holds_43 : decode cX12_holds 43 = .ok (.getfield 53, 3) := by decide +kernel
theorem dX12_holds_46 : decode cX12_holds 46 = .ok (.iload 5, 2) := by decide +kernel
theorem dX12_holds_48 : decode cX12_holds 48 = .ok (.iaload, 1) := by decide +kernel
theorem dX12_holds_49 : decode cX12_holds 49 = .ok (.istore 6, 2) := by decide +kernel
theorem dX12_holds_51 : decode cX12_holds 51 = .ok (.aload_n 0, 1) := by decide +kernel
theorem dX12_holds_52 : decode cX12_holds 52 = .ok (.getfield 56, 3) := by decide +kernel
theorem dX12_holds_55 : decode cX12_holds 55 = .ok (.iload 5, 2) := by decide +kernel
theorem dX12_holds_57 : decode cX12_holds 57 = .ok (.iaload, 1) := by decide +kernel
theorem dX12_holds_58 : decode cX12_holds 58 = .ok (.istore 7, 2) := by decide +kernel
theorem dX12_holds_60 : decode cX12_holds 60 = .ok (.iload 6, 2) := by decide +kernel
theorem dX12_holds_62 : decode cX12_holds 62 = .ok (.iload_n 1, 1) := by decide +kernel
theorem dX12_holds_63 : decode cX12_holds 63 = .ok (.if_icmp .ge 84, 3) := by decide +kernel
theorem dX12_holds_66 : decode cX12_holds 66 = .ok (.iload 7, 2) := by decide +kernel
theorem dX12_holds_68 : decode cX12_holds 68 = .ok (.iload_n 1, 1) := by decide +kernel
theorem dX12_holds_69 : decode cX12_holds 69 = .ok (.if_icmp .lt 6, 3) := by decide +kernel
theorem dX12_holds_72 : decode cX12_holds 72 = .ok (.goto 75, 3) := by decide +kernel
theorem dX12_holds_75 : decode cX12_holds 75 = .ok (.aload_n 0, 1) := by decide +kernel
theorem dX12_holds_76 : decode cX12_holds 76 = .ok (.getfield 93, 3) := by decide +kernel
theorem dX12_holds_79 : decode cX12_holds 79 = .ok (.iload 6, 2) := by decide +kernel
theorem dX12_holds_81 : decode cX12_holds 81 = .ok (.iaload, 1) := by decide +kernel
theorem dX12_holds_82 : decode cX12_holds 82 = .ok (.aload_n 0, 1) := by decide +kernel
theorem dX12_holds_83 : decode cX12_holds 83 = .ok (.getfield 62, 3) := by decide +kernel
theorem dX12_holds_86 : decode cX12_holds 86 = .ok (.iload 5, 2) := by decide +kernel
theorem dX12_holds_88 : decode cX12_holds 88 = .ok (.iaload, 1) := by decide +kernel
theorem dX12_holds_89 : decode cX12_holds 89 = .ok (.isub, 1) := by decide +kernel
theorem dX12_holds_90 : decode cX12_holds 90 = .ok (.aload_n 0, 1) := by decide +kernel
theorem dX12_holds_91 : decode cX12_holds 91 = .ok (.getfield 96, 3) := by decide +kernel
theorem dX12_holds_94 : decode cX12_holds 94 = .ok (.iload 7, 2) := by decide +kernel
theorem dX12_holds_96 : decode cX12_holds 96 = .ok (.iaload, 1) := by decide +kernel
theorem dX12_holds_97 : decode cX12_holds 97 = .ok (.aload_n 0, 1) := by decide +kernel
theorem dX12_holds_98 : decode cX12_holds 98 = .ok (.getfield 96, 3) := by decide +kernel
theorem dX12_holds_101 : decode cX12_holds 101 = .ok (.iload 6, 2) := by decide +kernel
theorem dX12_holds_103 : decode cX12_holds 103 = .ok (.iaload, 1) := by decide +kernel
theorem dX12_holds_104 : decode cX12_holds 104 = .ok (.isub, 1) := by decide +kernel
theorem dX12_holds_105 : decode cX12_holds 105 = .ok (.aload_n 0, 1) := by decide +kernel
theorem dX12_holds_106 : decode cX12_holds 106 = .ok (.getfield 59, 3) := by decide +kernel
theorem dX12_holds_109 : decode cX12_holds 109 = .ok (.iload 5, 2) := by decide +kernel
theorem dX12_holds_111 : decode cX12_holds 111 = .ok (.iaload, 1) := by decide +kernel
theorem dX12_holds_112 : decode cX12_holds 112 = .ok (.isub, 1) := by decide +kernel
theorem dX12_holds_113 : decode cX12_holds 113 = .ok (.iload_n 2, 1) := by decide +kernel
theorem dX12_holds_114 : decode cX12_holds 114 = .ok (.invokestatic 217, 3) := by decide +kernel
theorem dX12_holds_117 : decode cX12_holds 117 = .ok (.isub, 1) := by decide +kernel
theorem dX12_holds_118 : decode cX12_holds 118 = .ok (.istore 8, 2) := by decide +kernel
theorem dX12_holds_120 : decode cX12_holds 120 = .ok (.aload_n 0, 1) := by decide +kernel
theorem dX12_holds_121 : decode cX12_holds 121 = .ok (.getfield 93, 3) := by decide +kernel
theorem dX12_holds_124 : decode cX12_holds 124 = .ok (.iload 7, 2) := by decide +kernel
theorem dX12_holds_126 : decode cX12_holds 126 = .ok (.iaload, 1) := by decide +kernel
theorem dX12_holds_127 : decode cX12_holds 127 = .ok (.iload 8, 2) := by decide +kernel
theorem dX12_holds_129 : decode cX12_holds 129 = .ok (.if_icmp .lt 6, 3) := by decide +kernel
theorem dX12_holds_132 : decode cX12_holds 132 = .ok (.goto 15, 3) := by decide +kernel
theorem dX12_holds_135 : decode cX12_holds 135 = .ok (.aload_n 0, 1) := by decide +kernel
theorem dX12_holds_136 : decode cX12_holds 136 = .ok (.getfield 93, 3) := by decide +kernel
theorem dX12_holds_139 : decode cX12_holds 139 = .ok (.iload 7, 2) := by decide +kernel
theorem dX12_holds_141 : decode cX12_holds 141 = .ok (.iload 8, 2) := by decide +kernel
theorem dX12_holds_143 : decode cX12_holds 143 = .ok (.iastore, 1) := by decide +kernel
theorem dX12_holds_144 : decode cX12_holds 144 = .ok (.iconst 1, 1) := by decide +kernel
theorem dX12_holds_145 : decode cX12_holds 145 = .ok (.istore 4, 2) := by decide +kernel
theorem dX12_holds_147 : decode cX12_holds 147 = .ok (.iinc 5 1, 3) := by decide +kernel
theorem dX12_holds_150 : decode cX12_holds 150 = .ok (.goto (-117), 3) := by decide +kernel
theorem dX12_holds_153 : decode cX12_holds 153 = .ok (.iload 4, 2) := by decide +kernel
theorem dX12_holds_155 : decode cX12_holds 155 = .ok (.ifCond .ne 5, 3) := by decide +kernel
theorem dX12_holds_158 : decode cX12_holds 158 = .ok (.iconst 1, 1) := by decide +kernel
theorem dX12_holds_159 : decode cX12_holds 159 = .ok (.ireturn, 1) := by decide +kernel
theorem dX12_holds_160 : decode cX12_holds 160 = .ok (.iinc 3 1, 3) := by decide +kernel
theorem dX12_holds_163 : decode cX12_holds 163 = .ok (.goto (-141), 3) := by decide +kernel
theorem dX12_holds_166 : decode cX12_holds 166 = .ok (.iconst 0, 1) := by decide +kernel
theorem dX12_holds_167 : decode cX12_holds 167 = .ok (.ireturn, 1) := by decide +kernel
theorem dX12_tries_0 : decode cX12_tries 0 = .ok (.iconst 0, 1) := by decide +kernel
theorem dX12_tries_1 : decode cX12_tries 1 = .ok (.istore_n 2, 1) := by decide +kernel
theorem dX12_tries_2 : decode cX12_tries 2 = .ok (.aload_n 0, 1) := by decide +kernel
theorem dX12_tries_3 : decode cX12_tries 3 = .ok (.getfield 96, 3) := by decide +kernel
theorem dX12_tries_6 : decode cX12_tries 6 = .ok (.iconst 0, 1) := by decide +kernel
theorem dX12_tries_7 : decode cX12_tries 7 = .ok (.iconst 0, 1) := by decide +kernel
theorem dX12_tries_8 : decode cX12_tries 8 = .ok (.iastore, 1) := by decide +kernel
theorem dX12_tries_9 : decode cX12_tries 9 = .ok (.iload_n 2, 1) := by decide +kernel
theorem dX12_tries_10 : decode cX12_tries 10 = .ok (.ifCond .lt 121, 3) := by decide +kernel
theorem dX12_tries_13 : decode cX12_tries 13 = .ok (.aload_n 0, 1) := by decide +kernel
theorem dX12_tries_14 : decode cX12_tries 14 = .ok (.getfield 96, 3) := by decide +kernel
theorem dX12_tries_17 : decode cX12_tries 17 = .ok (.iload_n 2, 1) := by decide +kernel
theorem dX12_tries_18 : decode cX12_tries 18 = .ok (.iaload, 1) := by decide +kernel
theorem dX12_tries_19 : decode cX12_tries 19 = .ok (.iload_n 2, 1) := by decide +kernel
theorem dX12_tries_20 : decode cX12_tries 20 = .ok (.ifCond .ne 7, 3) := by decide +kernel
theorem dX12_tries_23 : decode cX12_tries 23 = .ok (.iconst 1, 1) := by decide +kernel
theorem dX12_tries_24 : decode cX12_tries 24 = .ok (.goto 4, 3) := by decide +kernel
theorem dX12_tries_27 : decode cX12_tries 27 = .ok (.iload_n 1, 1) := by decide +kernel
theorem dX12_tries_28 : decode cX12_tries 28 = .ok (.if_icmp .ne 23, 3) := by decide +kernel
theorem dX12_tries_31 : decode cX12_tries 31 = .ok (.iinc 2 (-1), 3) := by decide +kernel
theorem dX12_tries_34 : decode cX12_tries 34 = .ok (.iload_n 2, 1) := by decide +kernel
theorem dX12_tries_35 : decode cX12_tries 35 = .ok (.ifCond .lt (-26), 3) := by decide +kernel
theorem dX12_tries_38 : decode cX12_tries 38 = .ok (.aload_n 0, 1) := by decide +kernel
theorem dX12_tries_39 : decode cX12_tries 39 = .ok (.getfield 96, 3) := by decide +kernel
theorem dX12_tries_42 : decode cX12_tries 42 = .ok (.iload_n 2, 1) := by decide +kernel
theorem dX12_tries_43 : decode cX12_tries 43 = .ok (.dup2, 1) := by decide +kernel
theorem dX12_tries_44 : decode cX12_tries 44 = .ok (.iaload, 1) := by decide +kernel
theorem dX12_tries_45 : decode cX12_tries 45 = .ok (.iconst 1, 1) := by decide +kernel
theorem dX12_tries_46 : decode cX12_tries 46 = .ok (.iadd, 1) := by decide +kernel
theorem dX12_tries_47 : decode cX12_tries 47 = .ok (.iastore, 1) := by decide +kernel
theorem dX12_tries_48 : decode cX12_tries 48 = .ok (.goto (-39), 3) := by decide +kernel
theorem dX12_tries_51 : decode cX12_tries 51 = .ok (.aload_n 0, 1) := by decide +kernel
theorem dX12_tries_52 : decode cX12_tries 52 = .ok (.getfield 221, 3) := by decide +kernel
theorem dX12_tries_55 : decode cX12_tries 55 = .ok (.sipush 3000, 3) := by decide +kernel
theorem dX12_tries_58 : decode cX12_tries 58 = .ok (.if_icmp .ne 5, 3) := by decide +kernel
theorem dX12_tries_61 : decode cX12_tries 61 = .ok (.iconst 4, 1) := by decide +kernel
theorem dX12_tries_62 : decode cX12_tries 62 = .ok (.ireturn, 1) := by decide +kernel
theorem dX12_tries_63 : decode cX12_tries 63 = .ok (.aload_n 0, 1) := by decide +kernel
theorem dX12_tries_64 : decode cX12_tries 64 = .ok (.dup, 1) := by decide +kernel
theorem dX12_tries_65 : decode cX12_tries 65 = .ok (.getfield 221, 3) := by decide +kernel
theorem dX12_tries_68 : decode cX12_tries 68 = .ok (.iconst 1, 1) := by decide +kernel
theorem dX12_tries_69 : decode cX12_tries 69 = .ok (.iadd, 1) := by decide +kernel
theorem dX12_tries_70 : decode cX12_tries 70 = .ok (.putfield 221, 3) := by decide +kernel
theorem dX12_tries_73 : decode cX12_tries 73 = .ok (.aload_n 0, 1) := by decide +kernel
theorem dX12_tries_74 : decode cX12_tries 74 = .ok (.iload_n 2, 1) := by decide +kernel
theorem dX12_tries_75 : decode cX12_tries 75 = .ok (.iconst 1, 1) := by decide +kernel
theorem dX12_tries_76 : decode cX12_tries 76 = .ok (.iadd, 1) := by decide +kernel
theorem dX12_tries_77 : decode cX12_tries 77 = .ok (.iload_n 1, 1) := by decide +kernel
theorem dX12_tries_78 : decode cX12_tries 78 = .ok (.invokevirtual 224, 3) := by decide +kernel
theorem dX12_tries_81 : decode cX12_tries 81 = .ok (.ifCond .eq 14, 3) := by decide +kernel
theorem dX12_tries_84 : decode cX12_tries 84 = .ok (.aload_n 0, 1) := by decide +kernel
theorem dX12_tries_85 : decode cX12_tries 85 = .ok (.iload_n 2, 1) := by decide +kernel
theorem dX12_tries_86 : decode cX12_tries 86 = .ok (.iconst 1, 1) := by decide +kernel
theorem dX12_tries_87 : decode cX12_tries 87 = .ok (.iadd, 1) := by decide +kernel
theorem dX12_tries_88 : decode cX12_tries 88 = .ok (.iload_n 1, 1) := by decide +kernel
theorem dX12_tries_89 : decode cX12_tries 89 = .ok (.invokevirtual 227, 3) := by decide +kernel
theorem dX12_tries_92 : decode cX12_tries 92 = .ok (.ifCond .ne 16, 3) := by decide +kernel
theorem dX12_tries_95 : decode cX12_tries 95 = .ok (.aload_n 0, 1) := by decide +kernel
theorem dX12_tries_96 : decode cX12_tries 96 = .ok (.getfield 96, 3) := by decide +kernel
theorem dX12_tries_99 : decode cX12_tries 99 = .ok (.iload_n 2, 1) := by decide +kernel
theorem dX12_tries_100 : decode cX12_tries 100 = .ok (.dup2, 1) := by decide +kernel
theorem dX12_tries_101 : decode cX12_tries 101 = .ok (.iaload, 1) := by decide +kernel
theorem dX12_tries_102 : decode cX12_tries 102 = .ok (.iconst 1, 1) := by decide +kernel
theorem dX12_tries_103 : decode cX12_tries 103 = .ok (.iadd, 1) := by decide +kernel
theorem dX12_tries_104 : decode cX12_tries 104 = .ok (.iastore, 1) := by decide +kernel
theorem dX12_tries_105 : decode cX12_tries 105 = .ok (.goto (-96), 3) := by decide +kernel
theorem dX12_tries_108 : decode cX12_tries 108 = .ok (.iinc 2 1, 3) := by decide +kernel
theorem dX12_tries_111 : decode cX12_tries 111 = .ok (.iload_n 2, 1) := by decide +kernel
theorem dX12_tries_112 : decode cX12_tries 112 = .ok (.aload_n 0, 1) := by decide +kernel
theorem dX12_tries_113 : decode cX12_tries 113 = .ok (.getfield 118, 3) := by decide +kernel
theorem dX12_tries_116 : decode cX12_tries 116 = .ok (.if_icmp .ne 5, 3) := by decide +kernel
theorem dX12_tries_119 : decode cX12_tries 119 = .ok (.iconst 0, 1) := by decide +kernel
theorem dX12_tries_120 : decode cX12_tries 120 = .ok (.ireturn, 1) := by decide +kernel
theorem dX12_tries_121 : decode cX12_tries 121 = .ok (.aload_n 0, 1) := by decide +kernel
theorem dX12_tries_122 : decode cX12_tries 122 = .ok (.getfield 96, 3) := by decide +kernel
theorem dX12_tries_125 : decode cX12_tries 125 = .ok (.iload_n 2, 1) := by decide +kernel
theorem dX12_tries_126 : decode cX12_tries 126 = .ok (.iconst 0, 1) := by decide +kernel
theorem dX12_tries_127 : decode cX12_tries 127 = .ok (.iastore, 1) := by decide +kernel
theorem dX12_tries_128 : decode cX12_tries 128 = .ok (.goto (-119), 3) := by decide +kernel
theorem dX12_tries_131 : decode cX12_tries 131 = .ok (.iconst 3, 1) := by decide +kernel
theorem dX12_tries_132 : decode cX12_tries 132 = .ok (.ireturn, 1) := by decide +kernel
theorem dX12_lay_0 : decode cX12_lay 0 = .ok (.aload_n 0, 1) := by decide +kernel
theorem dX12_lay_1 : decode cX12_lay 1 = .ok (.iconst 0, 1) := by decide +kernel
theorem dX12_lay_2 : decode cX12_lay 2 = .ok (.putfield 221, 3) := by decide +kernel
theorem dX12_lay_5 : decode cX12_lay 5 = .ok (.aload_n 0, 1) := by decide +kernel
theorem dX12_lay_6 : decode cX12_lay 6 = .ok (.invokevirtual 210, 3) := by decide +kernel
theorem dX12_lay_9 : decode cX12_lay 9 = .ok (.ifCond .ne 10, 3) := by decide +kernel
theorem dX12_lay_12 : decode cX12_lay 12 = .ok (.aload_n 0, 1) := by decide +kernel
theorem dX12_lay_13 : decode cX12_lay 13 = .ok (.bipush (-2), 2) := by decide +kernel
theorem dX12_lay_15 : decode cX12_lay 15 = .ok (.invokevirtual 124, 3) := by decide +kernel
theorem dX12_lay_18 : decode cX12_lay 18 = .ok (.ireturn, 1) := by decide +kernel
theorem dX12_lay_19 : decode cX12_lay 19 = .ok (.iconst 3, 1) := by decide +kernel
theorem dX12_lay_20 : decode cX12_lay 20 = .ok (.istore_n 1, 1) := by decide +kernel
theorem dX12_lay_21 : decode cX12_lay 21 = .ok (.aload_n 0, 1) := by decide +kernel
theorem dX12_lay_22 : decode cX12_lay 22 = .ok (.invokevirtual 214, 3) := by decide +kernel
theorem dX12_lay_25 : decode cX12_lay 25 = .ok (.istore_n 2, 1) := by decide +kernel
theorem dX12_lay_26 : decode cX12_lay 26 = .ok (.iload_n 2, 1) := by decide +kernel
theorem dX12_lay_27 : decode cX12_lay 27 = .ok (.bipush 60, 2) := by decide +kernel
theorem dX12_lay_29 : decode cX12_lay 29 = .ok (.if_icmp .gt 25, 3) := by decide +kernel
theorem dX12_lay_32 : decode cX12_lay 32 = .ok (.iload_n 1, 1) := by decide +kernel
theorem dX12_lay_33 : decode cX12_lay 33 = .ok (.iconst 3, 1) := by decide +kernel
theorem dX12_lay_34 : decode cX12_lay 34 = .ok (.if_icmp .ne 20, 3) := by decide +kernel
theorem dX12_lay_37 : decode cX12_lay 37 = .ok (.aload_n 0, 1) := by decide +kernel
theorem dX12_lay_38 : decode cX12_lay 38 = .ok (.iload_n 2, 1) := by decide +kernel
theorem dX12_lay_39 : decode cX12_lay 39 = .ok (.invokevirtual 230, 3) := by decide +kernel
theorem dX12_lay_42 : decode cX12_lay 42 = .ok (.istore_n 1, 1) := by decide +kernel
theorem dX12_lay_43 : decode cX12_lay 43 = .ok (.iload_n 1, 1) := by decide +kernel
theorem dX12_lay_44 : decode cX12_lay 44 = .ok (.iconst 3, 1) := by decide +kernel
theorem dX12_lay_45 : decode cX12_lay 45 = .ok (.if_icmp .ne (-19), 3) := by decide +kernel
theorem dX12_lay_48 : decode cX12_lay 48 = .ok (.iinc 2 1, 3) := by decide +kernel
theorem dX12_lay_51 : decode cX12_lay 51 = .ok (.goto (-25), 3) := by decide +kernel
theorem dX12_lay_54 : decode cX12_lay 54 = .ok (.iload_n 1, 1) := by decide +kernel
theorem dX12_lay_55 : decode cX12_lay 55 = .ok (.ifCond .eq 20, 3) := by decide +kernel
theorem dX12_lay_58 : decode cX12_lay 58 = .ok (.aload_n 0, 1) := by decide +kernel
theorem dX12_lay_59 : decode cX12_lay 59 = .ok (.iload_n 1, 1) := by decide +kernel
theorem dX12_lay_60 : decode cX12_lay 60 = .ok (.iconst 4, 1) := by decide +kernel
theorem dX12_lay_61 : decode cX12_lay 61 = .ok (.if_icmp .ne 8, 3) := by decide +kernel
theorem dX12_lay_64 : decode cX12_lay 64 = .ok (.bipush (-11), 2) := by decide +kernel
theorem dX12_lay_66 : decode cX12_lay 66 = .ok (.goto 5, 3) := by decide +kernel
theorem dX12_lay_69 : decode cX12_lay 69 = .ok (.bipush (-9), 2) := by decide +kernel
theorem dX12_lay_71 : decode cX12_lay 71 = .ok (.invokevirtual 124, 3) := by decide +kernel
theorem dX12_lay_74 : decode cX12_lay 74 = .ok (.ireturn, 1) := by decide +kernel
theorem dX12_lay_75 : decode cX12_lay 75 = .ok (.aload_n 0, 1) := by decide +kernel
theorem dX12_lay_76 : decode cX12_lay 76 = .ok (.iload_n 2, 1) := by decide +kernel
theorem dX12_lay_77 : decode cX12_lay 77 = .ok (.putfield 121, 3) := by decide +kernel
theorem dX12_lay_80 : decode cX12_lay 80 = .ok (.iconst 0, 1) := by decide +kernel
theorem dX12_lay_81 : decode cX12_lay 81 = .ok (.istore_n 3, 1) := by decide +kernel
theorem dX12_lay_82 : decode cX12_lay 82 = .ok (.iload_n 3, 1) := by decide +kernel
theorem dX12_lay_83 : decode cX12_lay 83 = .ok (.aload_n 0, 1) := by decide +kernel
theorem dX12_lay_84 : decode cX12_lay 84 = .ok (.getfield 118, 3) := by decide +kernel
theorem dX12_lay_87 : decode cX12_lay 87 = .ok (.if_icmp .ge 66, 3) := by decide +kernel
theorem dX12_lay_90 : decode cX12_lay 90 = .ok (.aload_n 0, 1) := by decide +kernel
theorem dX12_lay_91 : decode cX12_lay 91 = .ok (.getfield 81, 3) := by decide +kernel
theorem dX12_lay_94 : decode cX12_lay 94 = .ok (.iload_n 3, 1) := by decide +kernel
theorem dX12_lay_95 : decode cX12_lay 95 = .ok (.aload_n 0, 1) := by decide +kernel
theorem dX12_lay_96 : decode cX12_lay 96 = .ok (.getfield 96, 3) := by decide +kernel
theorem dX12_lay_99 : decode cX12_lay 99 = .ok (.iload_n 3, 1) := by decide +kernel
theorem dX12_lay_100 : decode cX12_lay 100 = .ok (.iaload, 1) := by decide +kernel
theorem dX12_lay_101 : decode cX12_lay 101 = .ok (.iastore, 1) := by decide +kernel
theorem dX12_lay_102 : decode cX12_lay 102 = .ok (.aload_n 0, 1) := by decide +kernel
theorem dX12_lay_103 : decode cX12_lay 103 = .ok (.getfield 84, 3) := by decide +kernel
theorem dX12_lay_106 : decode cX12_lay 106 = .ok (.iload_n 3, 1) := by decide +kernel
theorem dX12_lay_107 : decode cX12_lay 107 = .ok (.aload_n 0, 1) := by decide +kernel
theorem dX12_lay_108 : decode cX12_lay 108 = .ok (.getfield 93, 3) := by decide +kernel
theorem dX12_lay_111 : decode cX12_lay 111 = .ok (.iload_n 3, 1) := by decide +kernel
theorem dX12_lay_112 : decode cX12_lay 112 = .ok (.iaload, 1) := by decide +kernel
theorem dX12_lay_113 : decode cX12_lay 113 = .ok (.iastore, 1) := by decide +kernel
theorem dX12_lay_114 : decode cX12_lay 114 = .ok (.aload_n 0, 1) := by decide +kernel
theorem dX12_lay_115 : decode cX12_lay 115 = .ok (.getfield 87, 3) := by decide +kernel
theorem dX12_lay_118 : decode cX12_lay 118 = .ok (.iload_n 3, 1) := by decide +kernel
theorem dX12_lay_119 : decode cX12_lay 119 = .ok (.iload_n 2, 1) := by decide +kernel
theorem dX12_lay_120 : decode cX12_lay 120 = .ok (.aload_n 0, 1) := by decide +kernel
theorem dX12_lay_121 : decode cX12_lay 121 = .ok (.getfield 93, 3) := by decide +kernel
theorem dX12_lay_124 : decode cX12_lay 124 = .ok (.iload_n 3, 1) := by decide +kernel
theorem dX12_lay_125 : decode cX12_lay 125 = .ok (.iaload, 1) := by decide +kernel
theorem dX12_lay_126 : decode cX12_lay 126 = .ok (.imul, 1) := by decide +kernel
theorem dX12_lay_127 : decode cX12_lay 127 = .ok (.aload_n 0, 1) := by decide +kernel
theorem dX12_lay_128 : decode cX12_lay 128 = .ok (.getfield 96, 3) := by decide +kernel
theorem dX12_lay_131 : decode cX12_lay 131 = .ok (.iload_n 3, 1) := by decide +kernel
theorem dX12_lay_132 : decode cX12_lay 132 = .ok (.iaload, 1) := by decide +kernel
theorem dX12_lay_133 : decode cX12_lay 133 = .ok (.iadd, 1) := by decide +kernel
theorem dX12_lay_134 : decode cX12_lay 134 = .ok (.iastore, 1) := by decide +kernel
theorem dX12_lay_135 : decode cX12_lay 135 = .ok (.aload_n 0, 1) := by decide +kernel
theorem dX12_lay_136 : decode cX12_lay 136 = .ok (.getfield 90, 3) := by decide +kernel
theorem dX12_lay_139 : decode cX12_lay 139 = .ok (.iload_n 3, 1) := by decide +kernel
theorem dX12_lay_140 : decode cX12_lay 140 = .ok (.aload_n 0, 1) := by decide +kernel
theorem dX12_lay_141 : decode cX12_lay 141 = .ok (.getfield 87, 3) := by decide +kernel
theorem dX12_lay_144 : decode cX12_lay 144 = .ok (.iload_n 3, 1) := by decide +kernel
theorem dX12_lay_145 : decode cX12_lay 145 = .ok (.iaload, 1) := by decide +kernel
theorem dX12_lay_146 : decode cX12_lay 146 = .ok (.iastore, 1) := by decide +kernel
theorem dX12_lay_147 : decode cX12_lay 147 = .ok (.iinc 3 1, 3) := by decide +kernel
theorem dX12_lay_150 : decode cX12_lay 150 = .ok (.goto (-68), 3) := by decide +kernel
theorem dX12_lay_153 : decode cX12_lay 153 = .ok (.iload_n 2, 1) := by decide +kernel
theorem dX12_lay_154 : decode cX12_lay 154 = .ok (.ireturn, 1) := by decide +kernel
theorem dX12_prove_0 : decode cX12_prove 0 = .ok (.aload_n 0, 1) := by decide +kernel
theorem dX12_prove_1 : decode cX12_prove 1 = .ok (.iconst 0, 1) := by decide +kernel
theorem dX12_prove_2 : decode cX12_prove 2 = .ok (.putfield 221, 3) := by decide +kernel
theorem dX12_prove_5 : decode cX12_prove 5 = .ok (.aload_n 0, 1) := by decide +kernel
theorem dX12_prove_6 : decode cX12_prove 6 = .ok (.invokevirtual 210, 3) := by decide +kernel
theorem dX12_prove_9 : decode cX12_prove 9 = .ok (.ifCond .ne 10, 3) := by decide +kernel
theorem dX12_prove_12 : decode cX12_prove 12 = .ok (.aload_n 0, 1) := by decide +kernel
theorem dX12_prove_13 : decode cX12_prove 13 = .ok (.bipush (-2), 2) := by decide +kernel
theorem dX12_prove_15 : decode cX12_prove 15 = .ok (.invokevirtual 124, 3) := by decide +kernel
theorem dX12_prove_18 : decode cX12_prove 18 = .ok (.ireturn, 1) := by decide +kernel
theorem dX12_prove_19 : decode cX12_prove 19 = .ok (.iload_n 1, 1) := by decide +kernel
theorem dX12_prove_20 : decode cX12_prove 20 = .ok (.ifCond .ge 10, 3) := by decide +kernel
theorem dX12_prove_23 : decode cX12_prove 23 = .ok (.aload_n 0, 1) := by decide +kernel
theorem dX12_prove_24 : decode cX12_prove 24 = .ok (.bipush (-4), 2) := by decide +kernel
theorem dX12_prove_26 : decode cX12_prove 26 = .ok (.invokevirtual 124, 3) := by decide +kernel
theorem dX12_prove_29 : decode cX12_prove 29 = .ok (.ireturn, 1) := by decide +kernel
theorem dX12_prove_30 : decode cX12_prove 30 = .ok (.iload_n 1, 1) := by decide +kernel
theorem dX12_prove_31 : decode cX12_prove 31 = .ok (.i2l, 1) := by decide +kernel
theorem dX12_prove_32 : decode cX12_prove 32 = .ok (.lconst 1, 1) := by decide +kernel
theorem dX12_prove_33 : decode cX12_prove 33 = .ok (.ldc2_w 233, 3) := by decide +kernel
theorem dX12_prove_36 : decode cX12_prove 36 = .ok (.invokestatic 137, 3) := by decide +kernel
theorem dX12_prove_39 : decode cX12_prove 39 = .ok (.ifCond .ne 10, 3) := by decide +kernel
theorem dX12_prove_42 : decode cX12_prove 42 = .ok (.aload_n 0, 1) := by decide +kernel
theorem dX12_prove_43 : decode cX12_prove 43 = .ok (.bipush (-9), 2) := by decide +kernel
theorem dX12_prove_45 : decode cX12_prove 45 = .ok (.invokevirtual 124, 3) := by decide +kernel
theorem dX12_prove_48 : decode cX12_prove 48 = .ok (.ireturn, 1) := by decide +kernel
theorem dX12_prove_49 : decode cX12_prove 49 = .ok (.aload_n 0, 1) := by decide +kernel
theorem dX12_prove_50 : decode cX12_prove 50 = .ok (.invokevirtual 177, 3) := by decide +kernel
theorem dX12_prove_53 : decode cX12_prove 53 = .ok (.aload_n 0, 1) := by decide +kernel
theorem dX12_prove_54 : decode cX12_prove 54 = .ok (.invokevirtual 204, 3) := by decide +kernel
theorem dX12_prove_57 : decode cX12_prove 57 = .ok (.iload_n 1, 1) := by decide +kernel
theorem dX12_prove_58 : decode cX12_prove 58 = .ok (.if_icmp .le 5, 3) := by decide +kernel
theorem dX12_prove_61 : decode cX12_prove 61 = .ok (.iconst 1, 1) := by decide +kernel
theorem dX12_prove_62 : decode cX12_prove 62 = .ok (.ireturn, 1) := by decide +kernel
theorem dX12_prove_63 : decode cX12_prove 63 = .ok (.aload_n 0, 1) := by decide +kernel
theorem dX12_prove_64 : decode cX12_prove 64 = .ok (.iload_n 1, 1) := by decide +kernel
theorem dX12_prove_65 : decode cX12_prove 65 = .ok (.invokevirtual 197, 3) := by decide +kernel
theorem dX12_prove_68 : decode cX12_prove 68 = .ok (.ifCond .eq 11, 3) := by decide +kernel
theorem dX12_prove_71 : decode cX12_prove 71 = .ok (.aload_n 0, 1) := by decide +kernel
theorem dX12_prove_72 : decode cX12_prove 72 = .ok (.iload_n 1, 1) := by decide +kernel
theorem dX12_prove_73 : decode cX12_prove 73 = .ok (.invokevirtual 230, 3) := by decide +kernel
theorem dX12_prove_76 : decode cX12_prove 76 = .ok (.goto 4, 3) := by decide +kernel
theorem dX12_prove_79 : decode cX12_prove 79 = .ok (.iconst 2, 1) := by decide +kernel
theorem dX12_prove_80 : decode cX12_prove 80 = .ok (.ireturn, 1) := by decide +kernel
theorem dX12_trials_0 : decode cX12_trials 0 = .ok (.aload_n 0, 1) := by decide +kernel
theorem dX12_trials_1 : decode cX12_trials 1 = .ok (.getfield 221, 3) := by decide +kernel
theorem dX12_trials_4 : decode cX12_trials 4 = .ok (.ireturn, 1) := by decide +kernel
theorem dX12_laying_0 : decode cX12_laying 0 = .ok (.aload_n 0, 1) := by decide +kernel
theorem dX12_laying_1 : decode cX12_laying 1 = .ok (.getfield 121, 3) := by decide +kernel
theorem dX12_laying_4 : decode cX12_laying 4 = .ok (.ifCond .ne 10, 3) := by decide +kernel
theorem dX12_laying_7 : decode cX12_laying 7 = .ok (.aload_n 0, 1) := by decide +kernel
theorem dX12_laying_8 : decode cX12_laying 8 = .ok (.bipush (-2), 2) := by decide +kernel
theorem dX12_laying_10 : decode cX12_laying 10 = .ok (.invokevirtual 124, 3) := by decide +kernel
theorem dX12_laying_13 : decode cX12_laying 13 = .ok (.ireturn, 1) := by decide +kernel
theorem dX12_laying_14 : decode cX12_laying 14 = .ok (.iload_n 1, 1) := by decide +kernel
theorem dX12_laying_15 : decode cX12_laying 15 = .ok (.i2l, 1) := by decide +kernel
theorem dX12_laying_16 : decode cX12_laying 16 = .ok (.lconst 0, 1) := by decide +kernel
theorem dX12_laying_17 : decode cX12_laying 17 = .ok (.ldc2_w 235, 3) := by decide +kernel
theorem dX12_laying_20 : decode cX12_laying 20 = .ok (.invokestatic 137, 3) := by decide +kernel
theorem dX12_laying_23 : decode cX12_laying 23 = .ok (.ifCond .ne 10, 3) := by decide +kernel
theorem dX12_laying_26 : decode cX12_laying 26 = .ok (.aload_n 0, 1) := by decide +kernel
theorem dX12_laying_27 : decode cX12_laying 27 = .ok (.bipush (-9), 2) := by decide +kernel
theorem dX12_laying_29 : decode cX12_laying 29 = .ok (.invokevirtual 124, 3) := by decide +kernel
theorem dX12_laying_32 : decode cX12_laying 32 = .ok (.ireturn, 1) := by decide +kernel
theorem dX12_laying_33 : decode cX12_laying 33 = .ok (.iconst 0, 1) := by decide +kernel
theorem dX12_laying_34 : decode cX12_laying 34 = .ok (.istore_n 2, 1) := by decide +kernel
theorem dX12_laying_35 : decode cX12_laying 35 = .ok (.iconst 0, 1) := by decide +kernel
theorem dX12_laying_36 : decode cX12_laying 36 = .ok (.istore_n 3, 1) := by decide +kernel
theorem dX12_laying_37 : decode cX12_laying 37 = .ok (.iconst 0, 1) := by decide +kernel
theorem dX12_laying_38 : decode cX12_laying 38 = .ok (.istore 4, 2) := by decide +kernel
theorem dX12_laying_40 : decode cX12_laying 40 = .ok (.iload 4, 2) := by decide +kernel
theorem dX12_laying_42 : decode cX12_laying 42 = .ok (.aload_n 0, 1) := by decide +kernel
theorem dX12_laying_43 : decode cX12_laying 43 = .ok (.getfield 118, 3) := by decide +kernel
theorem dX12_laying_46 : decode cX12_laying 46 = .ok (.if_icmp .ge 63, 3) := by decide +kernel
theorem dX12_laying_49 : decode cX12_laying 49 = .ok (.aload_n 0, 1) := by decide +kernel
theorem dX12_laying_50 : decode cX12_laying 50 = .ok (.getfield 84, 3) := by decide +kernel
theorem dX12_laying_53 : decode cX12_laying 53 = .ok (.iload 4, 2) := by decide +kernel
theorem dX12_laying_55 : decode cX12_laying 55 = .ok (.iaload, 1) := by decide +kernel
theorem dX12_laying_56 : decode cX12_laying 56 = .ok (.iload_n 2, 1) := by decide +kernel
theorem dX12_laying_57 : decode cX12_laying 57 = .ok (.if_icmp .le 11, 3) := by decide +kernel
theorem dX12_laying_60 : decode cX12_laying 60 = .ok (.aload_n 0, 1) := by decide +kernel
theorem dX12_laying_61 : decode cX12_laying 61 = .ok (.getfield 84, 3) := by decide +kernel
theorem dX12_laying_64 : decode cX12_laying 64 = .ok (.iload 4, 2) := by decide +kernel
theorem dX12_laying_66 : decode cX12_laying 66 = .ok (.iaload, 1) := by decide +kernel
theorem dX12_laying_67 : decode cX12_laying 67 = .ok (.istore_n 2, 1) := by decide +kernel
theorem dX12_laying_68 : decode cX12_laying 68 = .ok (.aload_n 0, 1) := by decide +kernel
theorem dX12_laying_69 : decode cX12_laying 69 = .ok (.getfield 87, 3) := by decide +kernel
theorem dX12_laying_72 : decode cX12_laying 72 = .ok (.iload 4, 2) := by decide +kernel
theorem dX12_laying_74 : decode cX12_laying 74 = .ok (.iaload, 1) := by decide +kernel
theorem dX12_laying_75 : decode cX12_laying 75 = .ok (.aload_n 0, 1) := by decide +kernel
theorem dX12_laying_76 : decode cX12_laying 76 = .ok (.getfield 13, 3) := by decide +kernel
theorem dX12_laying_79 : decode cX12_laying 79 = .ok (.iload 4, 2) := by decide +kernel
theorem dX12_laying_81 : decode cX12_laying 81 = .ok (.iaload, 1) := by decide +kernel
theorem dX12_laying_82 : decode cX12_laying 82 = .ok (.iadd, 1) := by decide +kernel
theorem dX12_laying_83 : decode cX12_laying 83 = .ok (.iload_n 3, 1) := by decide +kernel
theorem dX12_laying_84 : decode cX12_laying 84 = .ok (.if_icmp .le 19, 3) := by decide +kernel
theorem dX12_laying_87 : decode cX12_laying 87 = .ok (.aload_n 0, 1) := by decide +kernel
theorem dX12_laying_88 : decode cX12_laying 88 = .ok (.getfield 87, 3) := by decide +kernel
theorem dX12_laying_91 : decode cX12_laying 91 = .ok (.iload 4, 2) := by decide +kernel
theorem dX12_laying_93 : decode cX12_laying 93 = .ok (.iaload, 1) := by decide +kernel
theorem dX12_laying_94 : decode cX12_laying 94 = .ok (.aload_n 0, 1) := by decide +kernel
theorem dX12_laying_95 : decode cX12_laying 95 = .ok (.getfield 13, 3) := by decide +kernel
theorem dX12_laying_98 : decode cX12_laying 98 = .ok (.iload 4, 2) := by decide +kernel
theorem dX12_laying_100 : decode cX12_laying 100 = .ok (.iaload, 1) := by decide +kernel
theorem dX12_laying_101 : decode cX12_laying 101 = .ok (.iadd, 1) := by decide +kernel
theorem dX12_laying_102 : decode cX12_laying 102 = .ok (.istore_n 3, 1) := by decide +kernel
theorem dX12_laying_103 : decode cX12_laying 103 = .ok (.iinc 4 1, 3) := by decide +kernel
theorem dX12_laying_106 : decode cX12_laying 106 = .ok (.goto (-66), 3) := by decide +kernel
theorem dX12_laying_109 : decode cX12_laying 109 = .ok (.iload_n 1, 1) := by decide +kernel
theorem dX12_laying_110 : decode cX12_laying 110 = .ok (.ifCond .ne 10, 3) := by decide +kernel
theorem dX12_laying_113 : decode cX12_laying 113 = .ok (.aload_n 0, 1) := by decide +kernel
theorem dX12_laying_114 : decode cX12_laying 114 = .ok (.getfield 121, 3) := by decide +kernel
theorem dX12_laying_117 : decode cX12_laying 117 = .ok (.goto 15, 3) := by decide +kernel
theorem dX12_laying_120 : decode cX12_laying 120 = .ok (.iload_n 1, 1) := by decide +kernel
theorem dX12_laying_121 : decode cX12_laying 121 = .ok (.iconst 1, 1) := by decide +kernel
theorem dX12_laying_122 : decode cX12_laying 122 = .ok (.if_icmp .ne 9, 3) := by decide +kernel
theorem dX12_laying_125 : decode cX12_laying 125 = .ok (.iload_n 2, 1) := by decide +kernel
theorem dX12_laying_126 : decode cX12_laying 126 = .ok (.iconst 1, 1) := by decide +kernel
theorem dX12_laying_127 : decode cX12_laying 127 = .ok (.iadd, 1) := by decide +kernel
theorem dX12_laying_128 : decode cX12_laying 128 = .ok (.goto 4, 3) := by decide +kernel
theorem dX12_laying_131 : decode cX12_laying 131 = .ok (.iload_n 3, 1) := by decide +kernel
theorem dX12_laying_132 : decode cX12_laying 132 = .ok (.ireturn, 1) := by decide +kernel
theorem dX12_latestBegin_0 : decode cX12_latestBegin 0 = .ok (.aload_n 0, 1) := by decide +kernel
theorem dX12_latestBegin_1 : decode cX12_latestBegin 1 = .ok (.invokevirtual 177, 3) := by decide +kernel
theorem dX12_latestBegin_4 : decode cX12_latestBegin 4 = .ok (.aload_n 0, 1) := by decide +kernel
theorem dX12_latestBegin_5 : decode cX12_latestBegin 5 = .ok (.aload_n 0, 1) := by decide +kernel
theorem dX12_latestBegin_6 : decode cX12_latestBegin 6 = .ok (.getfield 121, 3) := by decide +kernel
theorem dX12_latestBegin_9 : decode cX12_latestBegin 9 = .ok (.invokevirtual 197, 3) := by decide +kernel
theorem dX12_latestBegin_12 : decode cX12_latestBegin 12 = .ok (.istore_n 2, 1) := by decide +kernel
theorem dX12_latestBegin_13 : decode cX12_latestBegin 13 = .ok (.iconst 0, 1) := by decide +kernel
theorem dX12_latestBegin_14 : decode cX12_latestBegin 14 = .ok (.istore_n 3, 1) := by decide +kernel
theorem dX12_latestBegin_15 : decode cX12_latestBegin 15 = .ok (.iconst 0, 1) := by decide +kernel
theorem dX12_latestBegin_16 : decode cX12_latestBegin 16 = .ok (.istore 4, 2) := by decide +kernel
theorem dX12_latestBegin_18 : decode cX12_latestBegin 18 = .ok (.iload 4, 2) := by decide +kernel
theorem dX12_latestBegin_20 : decode cX12_latestBegin 20 = .ok (.aload_n 0, 1) := by decide +kernel
theorem dX12_latestBegin_21 : decode cX12_latestBegin 21 = .ok (.getfield 118, 3) := by decide +kernel
theorem dX12_latestBegin_24 : decode cX12_latestBegin 24 = .ok (.if_icmp .ge 32, 3) := by decide +kernel
theorem dX12_latestBegin_27 : decode cX12_latestBegin 27 = .ok (.aload_n 0, 1) := by decide +kernel
theorem dX12_latestBegin_28 : decode cX12_latestBegin 28 = .ok (.getfield 93, 3) := by decide +kernel
theorem dX12_latestBegin_31 : decode cX12_latestBegin 31 = .ok (.iload 4, 2) := by decide +kernel
theorem dX12_latestBegin_33 : decode cX12_latestBegin 33 = .ok (.iaload, 1) := by decide +kernel
theorem dX12_latestBegin_34 : decode cX12_latestBegin 34 = .ok (.iload_n 3, 1) := by decide +kernel
theorem dX12_latestBegin_35 : decode cX12_latestBegin 35 = .ok (.if_icmp .le 13, 3) := by decide +kernel
theorem dX12_latestBegin_38 : decode cX12_latestBegin 38 = .ok (.aload_n 0, 1) := by decide +kernel
theorem dX12_latestBegin_39 : decode cX12_latestBegin 39 = .ok (.getfield 93, 3) := by decide +kernel
theorem dX12_latestBegin_42 : decode cX12_latestBegin 42 = .ok (.iload 4, 2) := by decide +kernel
theorem dX12_latestBegin_44 : decode cX12_latestBegin 44 = .ok (.iaload, 1) := by decide +kernel
theorem dX12_latestBegin_45 : decode cX12_latestBegin 45 = .ok (.goto 4, 3) := by decide +kernel
theorem dX12_latestBegin_48 : decode cX12_latestBegin 48 = .ok (.iload_n 3, 1) := by decide +kernel
theorem dX12_latestBegin_49 : decode cX12_latestBegin 49 = .ok (.istore_n 3, 1) := by decide +kernel
theorem dX12_latestBegin_50 : decode cX12_latestBegin 50 = .ok (.iinc 4 1, 3) := by decide +kernel
theorem dX12_latestBegin_53 : decode cX12_latestBegin 53 = .ok (.goto (-35), 3) := by decide +kernel
theorem dX12_latestBegin_56 : decode cX12_latestBegin 56 = .ok (.iconst 0, 1) := by decide +kernel
theorem dX12_latestBegin_57 : decode cX12_latestBegin 57 = .ok (.istore 4, 2) := by decide +kernel
theorem dX12_latestBegin_59 : decode cX12_latestBegin 59 = .ok (.iload 4, 2) := by decide +kernel
theorem dX12_latestBegin_61 : decode cX12_latestBegin 61 = .ok (.aload_n 0, 1) := by decide +kernel
theorem dX12_latestBegin_62 : decode cX12_latestBegin 62 = .ok (.getfield 118, 3) := by decide +kernel
theorem dX12_latestBegin_65 : decode cX12_latestBegin 65 = .ok (.if_icmp .ge 17, 3) := by decide +kernel
theorem dX12_latestBegin_68 : decode cX12_latestBegin 68 = .ok (.aload_n 0, 1) := by decide +kernel
theorem dX12_latestBegin_69 : decode cX12_latestBegin 69 = .ok (.getfield 93, 3) := by decide +kernel
theorem dX12_latestBegin_72 : decode cX12_latestBegin 72 = .ok (.iload 4, 2) := by decide +kernel
theorem dX12_latestBegin_74 : decode cX12_latestBegin 74 = .ok (.iload_n 3, 1) := by decide +kernel
theorem dX12_latestBegin_75 : decode cX12_latestBegin 75 = .ok (.iastore, 1) := by decide +kernel
theorem dX12_latestBegin_76 : decode cX12_latestBegin 76 = .ok (.iinc 4 1, 3) := by decide +kernel
theorem dX12_latestBegin_79 : decode cX12_latestBegin 79 = .ok (.goto (-20), 3) := by decide +kernel
theorem dX12_latestBegin_82 : decode cX12_latestBegin 82 = .ok (.iconst 1, 1) := by decide +kernel
theorem dX12_latestBegin_83 : decode cX12_latestBegin 83 = .ok (.istore 4, 2) := by decide +kernel
theorem dX12_latestBegin_85 : decode cX12_latestBegin 85 = .ok (.iconst 0, 1) := by decide +kernel
theorem dX12_latestBegin_86 : decode cX12_latestBegin 86 = .ok (.istore 5, 2) := by decide +kernel
theorem dX12_latestBegin_88 : decode cX12_latestBegin 88 = .ok (.iload 4, 2) := by decide +kernel
theorem dX12_latestBegin_90 : decode cX12_latestBegin 90 = .ok (.ifCond .eq 111, 3) := by decide +kernel
theorem dX12_latestBegin_93 : decode cX12_latestBegin 93 = .ok (.iload 5, 2) := by decide +kernel
theorem dX12_latestBegin_95 : decode cX12_latestBegin 95 = .ok (.aload_n 0, 1) := by decide +kernel
theorem dX12_latestBegin_96 : decode cX12_latestBegin 96 = .ok (.getfield 118, 3) := by decide +kernel
theorem dX12_latestBegin_99 : decode cX12_latestBegin 99 = .ok (.if_icmp .gt 102, 3) := by decide +kernel
theorem dX12_latestBegin_102 : decode cX12_latestBegin 102 = .ok (.iconst 0, 1) := by decide +kernel
theorem dX12_latestBegin_103 : decode cX12_latestBegin 103 = .ok (.istore 4, 2) := by decide +kernel
theorem dX12_latestBegin_105 : decode cX12_latestBegin 105 = .ok (.iconst 0, 1) := by decide +kernel
theorem dX12_latestBegin_106 : decode cX12_latestBegin 106 = .ok (.istore 6, 2) := by decide +kernel
theorem dX12_latestBegin_108 : decode cX12_latestBegin 108 = .ok (.iload 6, 2) := by decide +kernel
theorem dX12_latestBegin_110 : decode cX12_latestBegin 110 = .ok (.aload_n 0, 1) := by decide +kernel
theorem dX12_latestBegin_111 : decode cX12_latestBegin 111 = .ok (.getfield 180, 3) := by decide +kernel
theorem dX12_latestBegin_114 : decode cX12_latestBegin 114 = .ok (.if_icmp .ge 81, 3) := by decide +kernel
theorem dX12_latestBegin_117 : decode cX12_latestBegin 117 = .ok (.aload_n 0, 1) := by decide +kernel
theorem dX12_latestBegin_118 : decode cX12_latestBegin 118 = .ok (.getfield 93, 3) := by decide +kernel
theorem dX12_latestBegin_121 : decode cX12_latestBegin 121 = .ok (.aload_n 0, 1) := by decide +kernel
theorem dX12_latestBegin_122 : decode cX12_latestBegin 122 = .ok (.getfield 56, 3) := by decide +kernel
theorem dX12_latestBegin_125 : decode cX12_latestBegin 125 = .ok (.iload 6, 2) := by decide +kernel
theorem dX12_latestBegin_127 : decode cX12_latestBegin 127 = .ok (.iaload, 1) := by decide +kernel
theorem dX12_latestBegin_128 : decode cX12_latestBegin 128 = .ok (.iaload, 1) := by decide +kernel
theorem dX12_latestBegin_129 : decode cX12_latestBegin 129 = .ok (.aload_n 0, 1) := by decide +kernel
theorem dX12_latestBegin_130 : decode cX12_latestBegin 130 = .ok (.getfield 59, 3) := by decide +kernel
theorem dX12_latestBegin_133 : decode cX12_latestBegin 133 = .ok (.iload 6, 2) := by decide +kernel
theorem dX12_latestBegin_135 : decode cX12_latestBegin 135 = .ok (.iaload, 1) := by decide +kernel
theorem dX12_latestBegin_136 : decode cX12_latestBegin 136 = .ok (.isub, 1) := by decide +kernel
theorem dX12_latestBegin_137 : decode cX12_latestBegin 137 = .ok (.aload_n 0, 1) := by decide +kernel
theorem dX12_latestBegin_138 : decode cX12_latestBegin 138 = .ok (.getfield 121, 3) := by decide +kernel
theorem dX12_latestBegin_141 : decode cX12_latestBegin 141 = .ok (.aload_n 0, 1) := by decide +kernel
theorem dX12_latestBegin_142 : decode cX12_latestBegin 142 = .ok (.getfield 62, 3) := by decide +kernel
theorem dX12_latestBegin_145 : decode cX12_latestBegin 145 = .ok (.iload 6, 2) := by decide +kernel
theorem dX12_latestBegin_147 : decode cX12_latestBegin 147 = .ok (.iaload, 1) := by decide +kernel
theorem dX12_latestBegin_148 : decode cX12_latestBegin 148 = .ok (.imul, 1) := by decide +kernel
theorem dX12_latestBegin_149 : decode cX12_latestBegin 149 = .ok (.iadd, 1) := by decide +kernel
theorem dX12_latestBegin_150 : decode cX12_latestBegin 150 = .ok (.istore 7, 2) := by decide +kernel
theorem dX12_latestBegin_152 : decode cX12_latestBegin 152 = .ok (.aload_n 0, 1) := by decide +kernel
theorem dX12_latestBegin_153 : decode cX12_latestBegin 153 = .ok (.getfield 93, 3) := by decide +kernel
theorem dX12_latestBegin_156 : decode cX12_latestBegin 156 = .ok (.aload_n 0, 1) := by decide +kernel
theorem dX12_latestBegin_157 : decode cX12_latestBegin 157 = .ok (.getfield 53, 3) := by decide +kernel
theorem dX12_latestBegin_160 : decode cX12_latestBegin 160 = .ok (.iload 6, 2) := by decide +kernel
theorem dX12_latestBegin_162 : decode cX12_latestBegin 162 = .ok (.iaload, 1) := by decide +kernel
theorem dX12_latestBegin_163 : decode cX12_latestBegin 163 = .ok (.iaload, 1) := by decide +kernel
theorem dX12_latestBegin_164 : decode cX12_latestBegin 164 = .ok (.iload 7, 2) := by decide +kernel
theorem dX12_latestBegin_166 : decode cX12_latestBegin 166 = .ok (.if_icmp .gt 6, 3) := by decide +kernel
theorem dX12_latestBegin_169 : decode cX12_latestBegin 169 = .ok (.goto 20, 3) := by decide +kernel
theorem dX12_latestBegin_172 : decode cX12_latestBegin 172 = .ok (.aload_n 0, 1) := by decide +kernel
theorem dX12_latestBegin_173 : decode cX12_latestBegin 173 = .ok (.getfield 93, 3) := by decide +kernel
theorem dX12_latestBegin_176 : decode cX12_latestBegin 176 = .ok (.aload_n 0, 1) := by decide +kernel
theorem dX12_latestBegin_177 : decode cX12_latestBegin 177 = .ok (.getfield 53, 3) := by decide +kernel
theorem dX12_latestBegin_180 : decode cX12_latestBegin 180 = .ok (.iload 6, 2) := by decide +kernel
theorem dX12_latestBegin_182 : decode cX12_latestBegin 182 = .ok (.iaload, 1) := by decide +kernel
theorem dX12_latestBegin_183 : decode cX12_latestBegin 183 = .ok (.iload 7, 2) := by decide +kernel
theorem dX12_latestBegin_185 : decode cX12_latestBegin 185 = .ok (.iastore, 1) := by decide +kernel
theorem dX12_latestBegin_186 : decode cX12_latestBegin 186 = .ok (.iconst 1, 1) := by decide +kernel
theorem dX12_latestBegin_187 : decode cX12_latestBegin 187 = .ok (.istore 4, 2) := by decide +kernel
theorem dX12_latestBegin_189 : decode cX12_latestBegin 189 = .ok (.iinc 6 1, 3) := by decide +kernel
theorem dX12_latestBegin_192 : decode cX12_latestBegin 192 = .ok (.goto (-84), 3) := by decide +kernel
theorem dX12_latestBegin_195 : decode cX12_latestBegin 195 = .ok (.iinc 5 1, 3) := by decide +kernel
theorem dX12_latestBegin_198 : decode cX12_latestBegin 198 = .ok (.goto (-110), 3) := by decide +kernel
theorem dX12_latestBegin_201 : decode cX12_latestBegin 201 = .ok (.aload_n 0, 1) := by decide +kernel
theorem dX12_latestBegin_202 : decode cX12_latestBegin 202 = .ok (.getfield 93, 3) := by decide +kernel
theorem dX12_latestBegin_205 : decode cX12_latestBegin 205 = .ok (.iload_n 1, 1) := by decide +kernel
theorem dX12_latestBegin_206 : decode cX12_latestBegin 206 = .ok (.iaload, 1) := by decide +kernel
theorem dX12_latestBegin_207 : decode cX12_latestBegin 207 = .ok (.ireturn, 1) := by decide +kernel
theorem dX12_tick_0 : decode cX12_tick 0 = .ok (.aload_n 0, 1) := by decide +kernel
theorem dX12_tick_1 : decode cX12_tick 1 = .ok (.getfield 121, 3) := by decide +kernel
theorem dX12_tick_4 : decode cX12_tick 4 = .ok (.ifCond .ne 10, 3) := by decide +kernel
theorem dX12_tick_7 : decode cX12_tick 7 = .ok (.aload_n 0, 1) := by decide +kernel
theorem dX12_tick_8 : decode cX12_tick 8 = .ok (.bipush (-2), 2) := by decide +kernel
theorem dX12_tick_10 : decode cX12_tick 10 = .ok (.invokevirtual 124, 3) := by decide +kernel
theorem dX12_tick_13 : decode cX12_tick 13 = .ok (.ireturn, 1) := by decide +kernel
theorem dX12_tick_14 : decode cX12_tick 14 = .ok (.aload_n 0, 1) := by decide +kernel
theorem dX12_tick_15 : decode cX12_tick 15 = .ok (.iload_n 1, 1) := by decide +kernel
theorem dX12_tick_16 : decode cX12_tick 16 = .ok (.invokevirtual 159, 3) := by decide +kernel
theorem dX12_tick_19 : decode cX12_tick 19 = .ok (.ifCond .ne 10, 3) := by decide +kernel
theorem dX12_tick_22 : decode cX12_tick 22 = .ok (.aload_n 0, 1) := by decide +kernel
theorem dX12_tick_23 : decode cX12_tick 23 = .ok (.bipush (-3), 2) := by decide +kernel
theorem dX12_tick_25 : decode cX12_tick 25 = .ok (.invokevirtual 124, 3) := by decide +kernel
theorem dX12_tick_28 : decode cX12_tick 28 = .ok (.ireturn, 1) := by decide +kernel
theorem dX12_tick_29 : decode cX12_tick 29 = .ok (.iload_n 2, 1) := by decide +kernel
theorem dX12_tick_30 : decode cX12_tick 30 = .ok (.i2l, 1) := by decide +kernel
theorem dX12_tick_31 : decode cX12_tick 31 = .ok (.lconst 0, 1) := by decide +kernel
theorem dX12_tick_32 : decode cX12_tick 32 = .ok (.ldc2_w 135, 3) := by decide +kernel
theorem dX12_tick_35 : decode cX12_tick 35 = .ok (.invokestatic 137, 3) := by decide +kernel
theorem dX12_tick_38 : decode cX12_tick 38 = .ok (.ifCond .ne 10, 3) := by decide +kernel
theorem dX12_tick_41 : decode cX12_tick 41 = .ok (.aload_n 0, 1) := by decide +kernel
theorem dX12_tick_42 : decode cX12_tick 42 = .ok (.bipush (-9), 2) := by decide +kernel
theorem dX12_tick_44 : decode cX12_tick 44 = .ok (.invokevirtual 124, 3) := by decide +kernel
theorem dX12_tick_47 : decode cX12_tick 47 = .ok (.ireturn, 1) := by decide +kernel
theorem dX12_tick_48 : decode cX12_tick 48 = .ok (.iload_n 2, 1) := by decide +kernel
theorem dX12_tick_49 : decode cX12_tick 49 = .ok (.iconst 4, 1) := by decide +kernel
theorem dX12_tick_50 : decode cX12_tick 50 = .ok (.if_icmp .ne 9, 3) := by decide +kernel
theorem dX12_tick_53 : decode cX12_tick 53 = .ok (.aload_n 0, 1) := by decide +kernel
theorem dX12_tick_54 : decode cX12_tick 54 = .ok (.iload_n 1, 1) := by decide +kernel
theorem dX12_tick_55 : decode cX12_tick 55 = .ok (.invokevirtual 237, 3) := by decide +kernel
theorem dX12_tick_58 : decode cX12_tick 58 = .ok (.ireturn, 1) := by decide +kernel
theorem dX12_tick_59 : decode cX12_tick 59 = .ok (.iload_n 2, 1) := by decide +kernel
theorem dX12_tick_60 : decode cX12_tick 60 = .ok (.iconst 3, 1) := by decide +kernel
theorem dX12_tick_61 : decode cX12_tick 61 = .ok (.if_icmp .ne 23, 3) := by decide +kernel
theorem dX12_tick_64 : decode cX12_tick 64 = .ok (.aload_n 0, 1) := by decide +kernel
theorem dX12_tick_65 : decode cX12_tick 65 = .ok (.invokevirtual 177, 3) := by decide +kernel
theorem dX12_tick_68 : decode cX12_tick 68 = .ok (.aload_n 0, 1) := by decide +kernel
theorem dX12_tick_69 : decode cX12_tick 69 = .ok (.aload_n 0, 1) := by decide +kernel
theorem dX12_tick_70 : decode cX12_tick 70 = .ok (.getfield 121, 3) := by decide +kernel
theorem dX12_tick_73 : decode cX12_tick 73 = .ok (.invokevirtual 197, 3) := by decide +kernel
theorem dX12_tick_76 : decode cX12_tick 76 = .ok (.istore_n 3, 1) := by decide +kernel
theorem dX12_tick_77 : decode cX12_tick 77 = .ok (.aload_n 0, 1) := by decide +kernel
theorem dX12_tick_78 : decode cX12_tick 78 = .ok (.getfield 93, 3) := by decide +kernel
theorem dX12_tick_81 : decode cX12_tick 81 = .ok (.iload_n 1, 1) := by decide +kernel
theorem dX12_tick_82 : decode cX12_tick 82 = .ok (.iaload, 1) := by decide +kernel
theorem dX12_tick_83 : decode cX12_tick 83 = .ok (.ireturn, 1) := by decide +kernel
theorem dX12_tick_84 : decode cX12_tick 84 = .ok (.iload_n 2, 1) := by decide +kernel
theorem dX12_tick_85 : decode cX12_tick 85 = .ok (.ifCond .ne 12, 3) := by decide +kernel
theorem dX12_tick_88 : decode cX12_tick 88 = .ok (.aload_n 0, 1) := by decide +kernel
theorem dX12_tick_89 : decode cX12_tick 89 = .ok (.getfield 81, 3) := by decide +kernel
theorem dX12_tick_92 : decode cX12_tick 92 = .ok (.iload_n 1, 1) := by decide +kernel
theorem dX12_tick_93 : decode cX12_tick 93 = .ok (.iaload, 1) := by decide +kernel
theorem dX12_tick_94 : decode cX12_tick 94 = .ok (.goto 23, 3) := by decide +kernel
theorem dX12_tick_97 : decode cX12_tick 97 = .ok (.iload_n 2, 1) := by decide +kernel
theorem dX12_tick_98 : decode cX12_tick 98 = .ok (.iconst 1, 1) := by decide +kernel
theorem dX12_tick_99 : decode cX12_tick 99 = .ok (.if_icmp .ne 12, 3) := by decide +kernel
theorem dX12_tick_102 : decode cX12_tick 102 = .ok (.aload_n 0, 1) := by decide +kernel
theorem dX12_tick_103 : decode cX12_tick 103 = .ok (.getfield 84, 3) := by decide +kernel
theorem dX12_tick_106 : decode cX12_tick 106 = .ok (.iload_n 1, 1) := by decide +kernel
theorem dX12_tick_107 : decode cX12_tick 107 = .ok (.iaload, 1) := by decide +kernel
theorem dX12_tick_108 : decode cX12_tick 108 = .ok (.goto 9, 3) := by decide +kernel
theorem dX12_tick_111 : decode cX12_tick 111 = .ok (.aload_n 0, 1) := by decide +kernel
theorem dX12_tick_112 : decode cX12_tick 112 = .ok (.getfield 87, 3) := by decide +kernel
theorem dX12_tick_115 : decode cX12_tick 115 = .ok (.iload_n 1, 1) := by decide +kernel
theorem dX12_tick_116 : decode cX12_tick 116 = .ok (.iaload, 1) := by decide +kernel
theorem dX12_tick_117 : decode cX12_tick 117 = .ok (.ireturn, 1) := by decide +kernel
theorem dX12_filled_0 : decode cX12_filled 0 = .ok (.aload_n 0, 1) := by decide +kernel
theorem dX12_filled_1 : decode cX12_filled 1 = .ok (.getfield 121, 3) := by decide +kernel
theorem dX12_filled_4 : decode cX12_filled 4 = .ok (.ifCond .ne 10, 3) := by decide +kernel
theorem dX12_filled_7 : decode cX12_filled 7 = .ok (.aload_n 0, 1) := by decide +kernel
theorem dX12_filled_8 : decode cX12_filled 8 = .ok (.bipush (-2), 2) := by decide +kernel
theorem dX12_filled_10 : decode cX12_filled 10 = .ok (.invokevirtual 124, 3) := by decide +kernel
theorem dX12_filled_13 : decode cX12_filled 13 = .ok (.ireturn, 1) := by decide +kernel
theorem dX12_filled_14 : decode cX12_filled 14 = .ok (.iload_n 1, 1) := by decide +kernel
theorem dX12_filled_15 : decode cX12_filled 15 = .ok (.i2l, 1) := by decide +kernel
theorem dX12_filled_16 : decode cX12_filled 16 = .ok (.lconst 0, 1) := by decide +kernel
theorem dX12_filled_17 : decode cX12_filled 17 = .ok (.ldc2_w 162, 3) := by decide +kernel
theorem dX12_filled_20 : decode cX12_filled 20 = .ok (.invokestatic 137, 3) := by decide +kernel
theorem dX12_filled_23 : decode cX12_filled 23 = .ok (.ifCond .eq 15, 3) := by decide +kernel
theorem dX12_filled_26 : decode cX12_filled 26 = .ok (.iload_n 2, 1) := by decide +kernel
theorem dX12_filled_27 : decode cX12_filled 27 = .ok (.ifCond .lt 11, 3) := by decide +kernel
theorem dX12_filled_30 : decode cX12_filled 30 = .ok (.iload_n 2, 1) := by decide +kernel
theorem dX12_filled_31 : decode cX12_filled 31 = .ok (.aload_n 0, 1) := by decide +kernel
theorem dX12_filled_32 : decode cX12_filled 32 = .ok (.getfield 121, 3) := by decide +kernel
theorem dX12_filled_35 : decode cX12_filled 35 = .ok (.if_icmp .lt 10, 3) := by decide +kernel
theorem dX12_filled_38 : decode cX12_filled 38 = .ok (.aload_n 0, 1) := by decide +kernel
theorem dX12_filled_39 : decode cX12_filled 39 = .ok (.bipush (-3), 2) := by decide +kernel
theorem dX12_filled_41 : decode cX12_filled 41 = .ok (.invokevirtual 124, 3) := by decide +kernel
theorem dX12_filled_44 : decode cX12_filled 44 = .ok (.ireturn, 1) := by decide +kernel
theorem dX12_filled_45 : decode cX12_filled 45 = .ok (.iconst 0, 1) := by decide +kernel
theorem dX12_filled_46 : decode cX12_filled 46 = .ok (.istore_n 3, 1) := by decide +kernel
theorem dX12_filled_47 : decode cX12_filled 47 = .ok (.iconst 0, 1) := by decide +kernel
theorem dX12_filled_48 : decode cX12_filled 48 = .ok (.istore 4, 2) := by decide +kernel
theorem dX12_filled_50 : decode cX12_filled 50 = .ok (.iload 4, 2) := by decide +kernel
theorem dX12_filled_52 : decode cX12_filled 52 = .ok (.aload_n 0, 1) := by decide +kernel
theorem dX12_filled_53 : decode cX12_filled 53 = .ok (.getfield 118, 3) := by decide +kernel
theorem dX12_filled_56 : decode cX12_filled 56 = .ok (.if_icmp .ge 74, 3) := by decide +kernel
theorem dX12_filled_59 : decode cX12_filled 59 = .ok (.iconst 0, 1) := by decide +kernel
theorem dX12_filled_60 : decode cX12_filled 60 = .ok (.istore 5, 2) := by decide +kernel
theorem dX12_filled_62 : decode cX12_filled 62 = .ok (.iload 5, 2) := by decide +kernel
theorem dX12_filled_64 : decode cX12_filled 64 = .ok (.bipush 8, 2) := by decide +kernel
theorem dX12_filled_66 : decode cX12_filled 66 = .ok (.if_icmp .ge 58, 3) := by decide +kernel
theorem dX12_filled_69 : decode cX12_filled 69 = .ok (.aload_n 0, 1) := by decide +kernel
theorem dX12_filled_70 : decode cX12_filled 70 = .ok (.getfield 16, 3) := by decide +kernel
theorem dX12_filled_73 : decode cX12_filled 73 = .ok (.iload 4, 2) := by decide +kernel
theorem dX12_filled_75 : decode cX12_filled 75 = .ok (.iaload, 1) := by decide +kernel
theorem dX12_filled_76 : decode cX12_filled 76 = .ok (.iload_n 1, 1) := by decide +kernel
theorem dX12_filled_77 : decode cX12_filled 77 = .ok (.if_icmp .ne 47, 3) := by decide +kernel
theorem dX12_filled_80 : decode cX12_filled 80 = .ok (.iload_n 3, 1) := by decide +kernel
theorem dX12_filled_81 : decode cX12_filled 81 = .ok (.aload_n 0, 1) := by decide +kernel
theorem dX12_filled_82 : decode cX12_filled 82 = .ok (.getfield 81, 3) := by decide +kernel
theorem dX12_filled_85 : decode cX12_filled 85 = .ok (.iload 4, 2) := by decide +kernel
theorem dX12_filled_87 : decode cX12_filled 87 = .ok (.iaload, 1) := by decide +kernel
theorem dX12_filled_88 : decode cX12_filled 88 = .ok (.iload 5, 2) := by decide +kernel
theorem dX12_filled_90 : decode cX12_filled 90 = .ok (.iadd, 1) := by decide +kernel
theorem dX12_filled_91 : decode cX12_filled 91 = .ok (.aload_n 0, 1) := by decide +kernel
theorem dX12_filled_92 : decode cX12_filled 92 = .ok (.getfield 121, 3) := by decide +kernel
theorem dX12_filled_95 : decode cX12_filled 95 = .ok (.irem, 1) := by decide +kernel
theorem dX12_filled_96 : decode cX12_filled 96 = .ok (.iload_n 2, 1) := by decide +kernel
theorem dX12_filled_97 : decode cX12_filled 97 = .ok (.if_icmp .ne 18, 3) := by decide +kernel
theorem dX12_filled_100 : decode cX12_filled 100 = .ok (.aload_n 0, 1) := by decide +kernel
theorem dX12_filled_101 : decode cX12_filled 101 = .ok (.getfield 19, 3) := by decide +kernel
theorem dX12_filled_104 : decode cX12_filled 104 = .ok (.iload 4, 2) := by decide +kernel
theorem dX12_filled_106 : decode cX12_filled 106 = .ok (.iaload, 1) := by decide +kernel
theorem dX12_filled_107 : decode cX12_filled 107 = .ok (.iload 5, 2) := by decide +kernel
theorem dX12_filled_109 : decode cX12_filled 109 = .ok (.ishr, 1) := by decide +kernel
theorem dX12_filled_110 : decode cX12_filled 110 = .ok (.iconst 1, 1) := by decide +kernel
theorem dX12_filled_111 : decode cX12_filled 111 = .ok (.iand, 1) := by decide +kernel
theorem dX12_filled_112 : decode cX12_filled 112 = .ok (.goto 4, 3) := by decide +kernel
theorem dX12_filled_115 : decode cX12_filled 115 = .ok (.iconst 0, 1) := by decide +kernel
theorem dX12_filled_116 : decode cX12_filled 116 = .ok (.iadd, 1) := by decide +kernel
theorem dX12_filled_117 : decode cX12_filled 117 = .ok (.istore_n 3, 1) := by decide +kernel
theorem dX12_filled_118 : decode cX12_filled 118 = .ok (.iinc 5 1, 3) := by decide +kernel
theorem dX12_filled_121 : decode cX12_filled 121 = .ok (.goto (-59), 3) := by decide +kernel
theorem dX12_filled_124 : decode cX12_filled 124 = .ok (.iinc 4 1, 3) := by decide +kernel
theorem dX12_filled_127 : decode cX12_filled 127 = .ok (.goto (-77), 3) := by decide +kernel
theorem dX12_filled_130 : decode cX12_filled 130 = .ok (.iload_n 3, 1) := by decide +kernel
theorem dX12_filled_131 : decode cX12_filled 131 = .ok (.ireturn, 1) := by decide +kernel
theorem dX12_placesOf_0 : decode cX12_placesOf 0 = .ok (.iconst 0, 1) := by decide +kernel
theorem dX12_placesOf_1 : decode cX12_placesOf 1 = .ok (.istore_n 2, 1) := by decide +kernel
theorem dX12_placesOf_2 : decode cX12_placesOf 2 = .ok (.iconst 0, 1) := by decide +kernel
theorem dX12_placesOf_3 : decode cX12_placesOf 3 = .ok (.istore_n 3, 1) := by decide +kernel
theorem dX12_placesOf_4 : decode cX12_placesOf 4 = .ok (.iload_n 3, 1) := by decide +kernel
theorem dX12_placesOf_5 : decode cX12_placesOf 5 = .ok (.iconst 3, 1) := by decide +kernel
theorem dX12_placesOf_6 : decode cX12_placesOf 6 = .ok (.aload_n 0, 1) := by decide +kernel
theorem dX12_placesOf_7 : decode cX12_placesOf 7 = .ok (.getfield 118, 3) := by decide +kernel
theorem dX12_placesOf_10 : decode cX12_placesOf 10 = .ok (.imul, 1) := by decide +kernel
theorem dX12_placesOf_11 : decode cX12_placesOf 11 = .ok (.if_icmp .ge 60, 3) := by decide +kernel
theorem dX12_placesOf_14 : decode cX12_placesOf 14 = .ok (.aload_n 0, 1) := by decide +kernel
theorem dX12_placesOf_15 : decode cX12_placesOf 15 = .ok (.getfield 25, 3) := by decide +kernel
theorem dX12_placesOf_18 : decode cX12_placesOf 18 = .ok (.iload_n 3, 1) := by decide +kernel
theorem dX12_placesOf_19 : decode cX12_placesOf 19 = .ok (.iaload, 1) := by decide +kernel
theorem dX12_placesOf_20 : decode cX12_placesOf 20 = .ok (.iload_n 1, 1) := by decide +kernel
theorem dX12_placesOf_21 : decode cX12_placesOf 21 = .ok (.if_icmp .eq 6, 3) := by decide +kernel
theorem dX12_placesOf_24 : decode cX12_placesOf 24 = .ok (.goto 41, 3) := by decide +kernel
theorem dX12_placesOf_27 : decode cX12_placesOf 27 = .ok (.aload_n 0, 1) := by decide +kernel
theorem dX12_placesOf_28 : decode cX12_placesOf 28 = .ok (.getfield 87, 3) := by decide +kernel
theorem dX12_placesOf_31 : decode cX12_placesOf 31 = .ok (.iload_n 3, 1) := by decide +kernel
theorem dX12_placesOf_32 : decode cX12_placesOf 32 = .ok (.iconst 3, 1) := by decide +kernel
theorem dX12_placesOf_33 : decode cX12_placesOf 33 = .ok (.idiv, 1) := by decide +kernel
theorem dX12_placesOf_34 : decode cX12_placesOf 34 = .ok (.iaload, 1) := by decide +kernel
theorem dX12_placesOf_35 : decode cX12_placesOf 35 = .ok (.aload_n 0, 1) := by decide +kernel
theorem dX12_placesOf_36 : decode cX12_placesOf 36 = .ok (.getfield 121, 3) := by decide +kernel
theorem dX12_placesOf_39 : decode cX12_placesOf 39 = .ok (.aload_n 0, 1) := by decide +kernel
theorem dX12_placesOf_40 : decode cX12_placesOf 40 = .ok (.getfield 28, 3) := by decide +kernel
theorem dX12_placesOf_43 : decode cX12_placesOf 43 = .ok (.iload_n 3, 1) := by decide +kernel
theorem dX12_placesOf_44 : decode cX12_placesOf 44 = .ok (.iaload, 1) := by decide +kernel
theorem dX12_placesOf_45 : decode cX12_placesOf 45 = .ok (.imul, 1) := by decide +kernel
theorem dX12_placesOf_46 : decode cX12_placesOf 46 = .ok (.iadd, 1) := by decide +kernel
theorem dX12_placesOf_47 : decode cX12_placesOf 47 = .ok (.aload_n 0, 1) := by decide +kernel
theorem dX12_placesOf_48 : decode cX12_placesOf 48 = .ok (.getfield 87, 3) := by decide +kernel
theorem dX12_placesOf_51 : decode cX12_placesOf 51 = .ok (.iload_n 1, 1) := by decide +kernel
theorem dX12_placesOf_52 : decode cX12_placesOf 52 = .ok (.iaload, 1) := by decide +kernel
theorem dX12_placesOf_53 : decode cX12_placesOf 53 = .ok (.isub, 1) := by decide +kernel
theorem dX12_placesOf_54 : decode cX12_placesOf 54 = .ok (.istore 4, 2) := by decide +kernel
theorem dX12_placesOf_56 : decode cX12_placesOf 56 = .ok (.iload 4, 2) := by decide +kernel
theorem dX12_placesOf_58 : decode cX12_placesOf 58 = .ok (.iload_n 2, 1) := by decide +kernel
theorem dX12_placesOf_59 : decode cX12_placesOf 59 = .ok (.if_icmp .le 6, 3) := by decide +kernel
theorem dX12_placesOf_62 : decode cX12_placesOf 62 = .ok (.iload 4, 2) := by decide +kernel
theorem dX12_placesOf_64 : decode cX12_placesOf 64 = .ok (.istore_n 2, 1) := by decide +kernel
theorem dX12_placesOf_65 : decode cX12_placesOf 65 = .ok (.iinc 3 1, 3) := by decide +kernel
theorem dX12_placesOf_68 : decode cX12_placesOf 68 = .ok (.goto (-64), 3) := by decide +kernel
theorem dX12_placesOf_71 : decode cX12_placesOf 71 = .ok (.iload_n 2, 1) := by decide +kernel
theorem dX12_placesOf_72 : decode cX12_placesOf 72 = .ok (.aload_n 0, 1) := by decide +kernel
theorem dX12_placesOf_73 : decode cX12_placesOf 73 = .ok (.getfield 121, 3) := by decide +kernel
theorem dX12_placesOf_76 : decode cX12_placesOf 76 = .ok (.idiv, 1) := by decide +kernel
theorem dX12_placesOf_77 : decode cX12_placesOf 77 = .ok (.iconst 1, 1) := by decide +kernel
theorem dX12_placesOf_78 : decode cX12_placesOf 78 = .ok (.iadd, 1) := by decide +kernel
theorem dX12_placesOf_79 : decode cX12_placesOf 79 = .ok (.ireturn, 1) := by decide +kernel
theorem dX12_names_0 : decode cX12_names 0 = .ok (.aload_n 0, 1) := by decide +kernel
theorem dX12_names_1 : decode cX12_names 1 = .ok (.getfield 121, 3) := by decide +kernel
theorem dX12_names_4 : decode cX12_names 4 = .ok (.ifCond .ne 10, 3) := by decide +kernel
theorem dX12_names_7 : decode cX12_names 7 = .ok (.aload_n 0, 1) := by decide +kernel
theorem dX12_names_8 : decode cX12_names 8 = .ok (.bipush (-2), 2) := by decide +kernel
theorem dX12_names_10 : decode cX12_names 10 = .ok (.invokevirtual 124, 3) := by decide +kernel
theorem dX12_names_13 : decode cX12_names 13 = .ok (.ireturn, 1) := by decide +kernel
theorem dX12_names_14 : decode cX12_names 14 = .ok (.aload_n 0, 1) := by decide +kernel
theorem dX12_names_15 : decode cX12_names 15 = .ok (.iload_n 1, 1) := by decide +kernel
theorem dX12_names_16 : decode cX12_names 16 = .ok (.invokevirtual 159, 3) := by decide +kernel
theorem dX12_names_19 : decode cX12_names 19 = .ok (.ifCond .eq 11, 3) := by decide +kernel
theorem dX12_names_22 : decode cX12_names 22 = .ok (.aload_n 0, 1) := by decide +kernel
theorem dX12_names_23 : decode cX12_names 23 = .ok (.iload_n 1, 1) := by decide +kernel
theorem dX12_names_24 : decode cX12_names 24 = .ok (.invokevirtual 240, 3) := by decide +kernel
theorem dX12_names_27 : decode cX12_names 27 = .ok (.goto 9, 3) := by decide +kernel
theorem dX12_names_30 : decode cX12_names 30 = .ok (.aload_n 0, 1) := by decide +kernel
theorem dX12_names_31 : decode cX12_names 31 = .ok (.bipush (-3), 2) := by decide +kernel
theorem dX12_names_33 : decode cX12_names 33 = .ok (.invokevirtual 124, 3) := by decide +kernel
theorem dX12_names_36 : decode cX12_names 36 = .ok (.ireturn, 1) := by decide +kernel
theorem dX12_fewest_0 : decode cX12_fewest 0 = .ok (.aload_n 0, 1) := by decide +kernel
theorem dX12_fewest_1 : decode cX12_fewest 1 = .ok (.getfield 121, 3) := by decide +kernel
theorem dX12_fewest_4 : decode cX12_fewest 4 = .ok (.ifCond .ne 10, 3) := by decide +kernel
theorem dX12_fewest_7 : decode cX12_fewest 7 = .ok (.aload_n 0, 1) := by decide +kernel
theorem dX12_fewest_8 : decode cX12_fewest 8 = .ok (.bipush (-2), 2) := by decide +kernel
theorem dX12_fewest_10 : decode cX12_fewest 10 = .ok (.invokevirtual 124, 3) := by decide +kernel
theorem dX12_fewest_13 : decode cX12_fewest 13 = .ok (.ireturn, 1) := by decide +kernel
theorem dX12_fewest_14 : decode cX12_fewest 14 = .ok (.iload_n 1, 1) := by decide +kernel
theorem dX12_fewest_15 : decode cX12_fewest 15 = .ok (.i2l, 1) := by decide +kernel
theorem dX12_fewest_16 : decode cX12_fewest 16 = .ok (.lconst 0, 1) := by decide +kernel
theorem dX12_fewest_17 : decode cX12_fewest 17 = .ok (.lconst 1, 1) := by decide +kernel
theorem dX12_fewest_18 : decode cX12_fewest 18 = .ok (.invokestatic 137, 3) := by decide +kernel
theorem dX12_fewest_21 : decode cX12_fewest 21 = .ok (.ifCond .ne 10, 3) := by decide +kernel
theorem dX12_fewest_24 : decode cX12_fewest 24 = .ok (.aload_n 0, 1) := by decide +kernel
theorem dX12_fewest_25 : decode cX12_fewest 25 = .ok (.bipush (-9), 2) := by decide +kernel
theorem dX12_fewest_27 : decode cX12_fewest 27 = .ok (.invokevirtual 124, 3) := by decide +kernel
theorem dX12_fewest_30 : decode cX12_fewest 30 = .ok (.ireturn, 1) := by decide +kernel
theorem dX12_fewest_31 : decode cX12_fewest 31 = .ok (.iconst 0, 1) := by decide +kernel
theorem dX12_fewest_32 : decode cX12_fewest 32 = .ok (.istore_n 2, 1) := by decide +kernel
theorem dX12_fewest_33 : decode cX12_fewest 33 = .ok (.iconst 0, 1) := by decide +kernel
theorem dX12_fewest_34 : decode cX12_fewest 34 = .ok (.istore_n 3, 1) := by decide +kernel
theorem dX12_fewest_35 : decode cX12_fewest 35 = .ok (.iconst 0, 1) := by decide +kernel
theorem dX12_fewest_36 : decode cX12_fewest 36 = .ok (.istore 4, 2) := by decide +kernel
theorem dX12_fewest_38 : decode cX12_fewest 38 = .ok (.iload 4, 2) := by decide +kernel
theorem dX12_fewest_40 : decode cX12_fewest 40 = .ok (.aload_n 0, 1) := by decide +kernel
theorem dX12_fewest_41 : decode cX12_fewest 41 = .ok (.getfield 118, 3) := by decide +kernel
theorem dX12_fewest_44 : decode cX12_fewest 44 = .ok (.if_icmp .ge 31, 3) := by decide +kernel
theorem dX12_fewest_47 : decode cX12_fewest 47 = .ok (.aload_n 0, 1) := by decide +kernel
theorem dX12_fewest_48 : decode cX12_fewest 48 = .ok (.iload 4, 2) := by decide +kernel
theorem dX12_fewest_50 : decode cX12_fewest 50 = .ok (.invokevirtual 240, 3) := by decide +kernel
theorem dX12_fewest_53 : decode cX12_fewest 53 = .ok (.istore 5, 2) := by decide +kernel
theorem dX12_fewest_55 : decode cX12_fewest 55 = .ok (.iload_n 2, 1) := by decide +kernel
theorem dX12_fewest_56 : decode cX12_fewest 56 = .ok (.iload 5, 2) := by decide +kernel
theorem dX12_fewest_58 : decode cX12_fewest 58 = .ok (.iadd, 1) := by decide +kernel
theorem dX12_fewest_59 : decode cX12_fewest 59 = .ok (.istore_n 2, 1) := by decide +kernel
theorem dX12_fewest_60 : decode cX12_fewest 60 = .ok (.iload 5, 2) := by decide +kernel
theorem dX12_fewest_62 : decode cX12_fewest 62 = .ok (.iload_n 3, 1) := by decide +kernel
theorem dX12_fewest_63 : decode cX12_fewest 63 = .ok (.if_icmp .le 6, 3) := by decide +kernel
theorem dX12_fewest_66 : decode cX12_fewest 66 = .ok (.iload 5, 2) := by decide +kernel
theorem dX12_fewest_68 : decode cX12_fewest 68 = .ok (.istore_n 3, 1) := by decide +kernel
theorem dX12_fewest_69 : decode cX12_fewest 69 = .ok (.iinc 4 1, 3) := by decide +kernel
theorem dX12_fewest_72 : decode cX12_fewest 72 = .ok (.goto (-34), 3) := by decide +kernel
theorem dX12_fewest_75 : decode cX12_fewest 75 = .ok (.iload_n 1, 1) := by decide +kernel
theorem dX12_fewest_76 : decode cX12_fewest 76 = .ok (.ifCond .ne 7, 3) := by decide +kernel
theorem dX12_fewest_79 : decode cX12_fewest 79 = .ok (.iload_n 2, 1) := by decide +kernel
theorem dX12_fewest_80 : decode cX12_fewest 80 = .ok (.goto 9, 3) := by decide +kernel
theorem dX12_fewest_83 : decode cX12_fewest 83 = .ok (.aload_n 0, 1) := by decide +kernel
theorem dX12_fewest_84 : decode cX12_fewest 84 = .ok (.getfield 118, 3) := by decide +kernel
theorem dX12_fewest_87 : decode cX12_fewest 87 = .ok (.iload_n 3, 1) := by decide +kernel
theorem dX12_fewest_88 : decode cX12_fewest 88 = .ok (.imul, 1) := by decide +kernel
theorem dX12_fewest_89 : decode cX12_fewest 89 = .ok (.ireturn, 1) := by decide +kernel
theorem dX12_forge_0 : decode cX12_forge 0 = .ok (.aload_n 0, 1) := by decide +kernel
theorem dX12_forge_1 : decode cX12_forge 1 = .ok (.getfield 121, 3) := by decide +kernel
theorem dX12_forge_4 : decode cX12_forge 4 = .ok (.ifCond .ne 10, 3) := by decide +kernel
theorem dX12_forge_7 : decode cX12_forge 7 = .ok (.aload_n 0, 1) := by decide +kernel
theorem dX12_forge_8 : decode cX12_forge 8 = .ok (.bipush (-2), 2) := by decide +kernel
theorem dX12_forge_10 : decode cX12_forge 10 = .ok (.invokevirtual 124, 3) := by decide +kernel
theorem dX12_forge_13 : decode cX12_forge 13 = .ok (.ireturn, 1) := by decide +kernel
theorem dX12_forge_14 : decode cX12_forge 14 = .ok (.aload_n 0, 1) := by decide +kernel
theorem dX12_forge_15 : decode cX12_forge 15 = .ok (.iload_n 1, 1) := by decide +kernel
theorem dX12_forge_16 : decode cX12_forge 16 = .ok (.invokevirtual 159, 3) := by decide +kernel
theorem dX12_forge_19 : decode cX12_forge 19 = .ok (.ifCond .ne 10, 3) := by decide +kernel
theorem dX12_forge_22 : decode cX12_forge 22 = .ok (.aload_n 0, 1) := by decide +kernel
theorem dX12_forge_23 : decode cX12_forge 23 = .ok (.bipush (-3), 2) := by decide +kernel
theorem dX12_forge_25 : decode cX12_forge 25 = .ok (.invokevirtual 124, 3) := by decide +kernel
theorem dX12_forge_28 : decode cX12_forge 28 = .ok (.ireturn, 1) := by decide +kernel
theorem dX12_forge_29 : decode cX12_forge 29 = .ok (.iload_n 2, 1) := by decide +kernel
theorem dX12_forge_30 : decode cX12_forge 30 = .ok (.ifCond .ge 10, 3) := by decide +kernel
theorem dX12_forge_33 : decode cX12_forge 33 = .ok (.aload_n 0, 1) := by decide +kernel
theorem dX12_forge_34 : decode cX12_forge 34 = .ok (.bipush (-4), 2) := by decide +kernel
theorem dX12_forge_36 : decode cX12_forge 36 = .ok (.invokevirtual 124, 3) := by decide +kernel
theorem dX12_forge_39 : decode cX12_forge 39 = .ok (.ireturn, 1) := by decide +kernel
theorem dX12_forge_40 : decode cX12_forge 40 = .ok (.iload_n 2, 1) := by decide +kernel
theorem dX12_forge_41 : decode cX12_forge 41 = .ok (.sipush 3000, 3) := by decide +kernel
theorem dX12_forge_44 : decode cX12_forge 44 = .ok (.if_icmp .le 10, 3) := by decide +kernel
theorem dX12_forge_47 : decode cX12_forge 47 = .ok (.aload_n 0, 1) := by decide +kernel
theorem dX12_forge_48 : decode cX12_forge 48 = .ok (.bipush (-9), 2) := by decide +kernel
theorem dX12_forge_50 : decode cX12_forge 50 = .ok (.invokevirtual 124, 3) := by decide +kernel
theorem dX12_forge_53 : decode cX12_forge 53 = .ok (.ireturn, 1) := by decide +kernel
theorem dX12_forge_54 : decode cX12_forge 54 = .ok (.aload_n 0, 1) := by decide +kernel
theorem dX12_forge_55 : decode cX12_forge 55 = .ok (.getfield 90, 3) := by decide +kernel
theorem dX12_forge_58 : decode cX12_forge 58 = .ok (.iload_n 1, 1) := by decide +kernel
theorem dX12_forge_59 : decode cX12_forge 59 = .ok (.iaload, 1) := by decide +kernel
theorem dX12_forge_60 : decode cX12_forge 60 = .ok (.istore_n 3, 1) := by decide +kernel
theorem dX12_forge_61 : decode cX12_forge 61 = .ok (.aload_n 0, 1) := by decide +kernel
theorem dX12_forge_62 : decode cX12_forge 62 = .ok (.getfield 90, 3) := by decide +kernel
theorem dX12_forge_65 : decode cX12_forge 65 = .ok (.iload_n 1, 1) := by decide +kernel
theorem dX12_forge_66 : decode cX12_forge 66 = .ok (.iload_n 2, 1) := by decide +kernel
theorem dX12_forge_67 : decode cX12_forge 67 = .ok (.iastore, 1) := by decide +kernel
theorem dX12_forge_68 : decode cX12_forge 68 = .ok (.iload_n 3, 1) := by decide +kernel
theorem dX12_forge_69 : decode cX12_forge 69 = .ok (.ireturn, 1) := by decide +kernel
theorem dX12_unwrong_0 : decode cX12_unwrong 0 = .ok (.iconst 0, 1) := by decide +kernel
theorem dX12_unwrong_1 : decode cX12_unwrong 1 = .ok (.istore_n 1, 1) := by decide +kernel
theorem dX12_unwrong_2 : decode cX12_unwrong 2 = .ok (.iload_n 1, 1) := by decide +kernel
theorem dX12_unwrong_3 : decode cX12_unwrong 3 = .ok (.bipush 6, 2) := by decide +kernel
theorem dX12_unwrong_5 : decode cX12_unwrong 5 = .ok (.if_icmp .ge 16, 3) := by decide +kernel
theorem dX12_unwrong_8 : decode cX12_unwrong 8 = .ok (.aload_n 0, 1) := by decide +kernel
theorem dX12_unwrong_9 : decode cX12_unwrong 9 = .ok (.getfield 102, 3) := by decide +kernel
theorem dX12_unwrong_12 : decode cX12_unwrong 12 = .ok (.iload_n 1, 1) := by decide +kernel
theorem dX12_unwrong_13 : decode cX12_unwrong 13 = .ok (.iconst (-1), 1) := by decide +kernel
theorem dX12_unwrong_14 : decode cX12_unwrong 14 = .ok (.iastore, 1) := by decide +kernel
theorem dX12_unwrong_15 : decode cX12_unwrong 15 = .ok (.iinc 1 1, 3) := by decide +kernel
theorem dX12_unwrong_18 : decode cX12_unwrong 18 = .ok (.goto (-16), 3) := by decide +kernel
theorem dX12_unwrong_21 : decode cX12_unwrong 21 = .ok (.return_, 1) := by decide +kernel
theorem dX12_isAhead_0 : decode cX12_isAhead 0 = .ok (.aload_n 0, 1) := by decide +kernel
theorem dX12_isAhead_1 : decode cX12_isAhead 1 = .ok (.getfield 102, 3) := by decide +kernel
theorem dX12_isAhead_4 : decode cX12_isAhead 4 = .ok (.iconst 1, 1) := by decide +kernel
theorem dX12_isAhead_5 : decode cX12_isAhead 5 = .ok (.iaload, 1) := by decide +kernel
theorem dX12_isAhead_6 : decode cX12_isAhead 6 = .ok (.ifCond .lt 18, 3) := by decide +kernel
theorem dX12_isAhead_9 : decode cX12_isAhead 9 = .ok (.aload_n 0, 1) := by decide +kernel
theorem dX12_isAhead_10 : decode cX12_isAhead 10 = .ok (.getfield 56, 3) := by decide +kernel
theorem dX12_isAhead_13 : decode cX12_isAhead 13 = .ok (.iload_n 1, 1) := by decide +kernel
theorem dX12_isAhead_14 : decode cX12_isAhead 14 = .ok (.iaload, 1) := by decide +kernel
theorem dX12_isAhead_15 : decode cX12_isAhead 15 = .ok (.aload_n 0, 1) := by decide +kernel
theorem dX12_isAhead_16 : decode cX12_isAhead 16 = .ok (.getfield 102, 3) := by decide +kernel
theorem dX12_isAhead_19 : decode cX12_isAhead 19 = .ok (.iconst 1, 1) := by decide +kernel
theorem dX12_isAhead_20 : decode cX12_isAhead 20 = .ok (.iaload, 1) := by decide +kernel
theorem dX12_isAhead_21 : decode cX12_isAhead 21 = .ok (.if_icmp .eq 33, 3) := by decide +kernel
theorem dX12_isAhead_24 : decode cX12_isAhead 24 = .ok (.aload_n 0, 1) := by decide +kernel
theorem dX12_isAhead_25 : decode cX12_isAhead 25 = .ok (.getfield 102, 3) := by decide +kernel
theorem dX12_isAhead_28 : decode cX12_isAhead 28 = .ok (.iconst 1, 1) := by decide +kernel
theorem dX12_isAhead_29 : decode cX12_isAhead 29 = .ok (.iaload, 1) := by decide +kernel
theorem dX12_isAhead_30 : decode cX12_isAhead 30 = .ok (.ifCond .lt 18, 3) := by decide +kernel
theorem dX12_isAhead_33 : decode cX12_isAhead 33 = .ok (.aload_n 0, 1) := by decide +kernel
theorem dX12_isAhead_34 : decode cX12_isAhead 34 = .ok (.getfield 56, 3) := by decide +kernel
theorem dX12_isAhead_37 : decode cX12_isAhead 37 = .ok (.iload_n 1, 1) := by decide +kernel
theorem dX12_isAhead_38 : decode cX12_isAhead 38 = .ok (.iaload, 1) := by decide +kernel
theorem dX12_isAhead_39 : decode cX12_isAhead 39 = .ok (.aload_n 0, 1) := by decide +kernel
theorem dX12_isAhead_40 : decode cX12_isAhead 40 = .ok (.getfield 102, 3) := by decide +kernel
theorem dX12_isAhead_43 : decode cX12_isAhead 43 = .ok (.iconst 1, 1) := by decide +kernel
theorem dX12_isAhead_44 : decode cX12_isAhead 44 = .ok (.iaload, 1) := by decide +kernel
theorem dX12_isAhead_45 : decode cX12_isAhead 45 = .ok (.if_icmp .ge 7, 3) := by decide +kernel
theorem dX12_isAhead_48 : decode cX12_isAhead 48 = .ok (.iconst 1, 1) := by decide +kernel
theorem dX12_isAhead_49 : decode cX12_isAhead 49 = .ok (.goto 4, 3) := by decide +kernel
theorem dX12_isAhead_52 : decode cX12_isAhead 52 = .ok (.iconst 0, 1) := by decide +kernel
theorem dX12_isAhead_53 : decode cX12_isAhead 53 = .ok (.ireturn, 1) := by decide +kernel
theorem dX12_isAhead_54 : decode cX12_isAhead 54 = .ok (.aload_n 0, 1) := by decide +kernel
theorem dX12_isAhead_55 : decode cX12_isAhead 55 = .ok (.getfield 53, 3) := by decide +kernel
theorem dX12_isAhead_58 : decode cX12_isAhead 58 = .ok (.iload_n 1, 1) := by decide +kernel
theorem dX12_isAhead_59 : decode cX12_isAhead 59 = .ok (.iaload, 1) := by decide +kernel
theorem dX12_isAhead_60 : decode cX12_isAhead 60 = .ok (.aload_n 0, 1) := by decide +kernel
theorem dX12_isAhead_61 : decode cX12_isAhead 61 = .ok (.getfield 102, 3) := by decide +kernel
theorem dX12_isAhead_64 : decode cX12_isAhead 64 = .ok (.iconst 0, 1) := by decide +kernel
theorem dX12_isAhead_65 : decode cX12_isAhead 65 = .ok (.iaload, 1) := by decide +kernel
theorem dX12_isAhead_66 : decode cX12_isAhead 66 = .ok (.if_icmp .eq 24, 3) := by decide +kernel
theorem dX12_isAhead_69 : decode cX12_isAhead 69 = .ok (.aload_n 0, 1) := by decide +kernel
theorem dX12_isAhead_70 : decode cX12_isAhead 70 = .ok (.getfield 53, 3) := by decide +kernel
theorem dX12_isAhead_73 : decode cX12_isAhead 73 = .ok (.iload_n 1, 1) := by decide +kernel
theorem dX12_isAhead_74 : decode cX12_isAhead 74 = .ok (.iaload, 1) := by decide +kernel
theorem dX12_isAhead_75 : decode cX12_isAhead 75 = .ok (.aload_n 0, 1) := by decide +kernel
theorem dX12_isAhead_76 : decode cX12_isAhead 76 = .ok (.getfield 102, 3) := by decide +kernel
theorem dX12_isAhead_79 : decode cX12_isAhead 79 = .ok (.iconst 0, 1) := by decide +kernel
theorem dX12_isAhead_80 : decode cX12_isAhead 80 = .ok (.iaload, 1) := by decide +kernel
theorem dX12_isAhead_81 : decode cX12_isAhead 81 = .ok (.if_icmp .ge 7, 3) := by decide +kernel
theorem dX12_isAhead_84 : decode cX12_isAhead 84 = .ok (.iconst 1, 1) := by decide +kernel
theorem dX12_isAhead_85 : decode cX12_isAhead 85 = .ok (.goto 4, 3) := by decide +kernel
theorem dX12_isAhead_88 : decode cX12_isAhead 88 = .ok (.iconst 0, 1) := by decide +kernel
theorem dX12_isAhead_89 : decode cX12_isAhead 89 = .ok (.ireturn, 1) := by decide +kernel
theorem dX12_isAhead_90 : decode cX12_isAhead 90 = .ok (.aload_n 0, 1) := by decide +kernel
theorem dX12_isAhead_91 : decode cX12_isAhead 91 = .ok (.getfield 59, 3) := by decide +kernel
theorem dX12_isAhead_94 : decode cX12_isAhead 94 = .ok (.iload_n 1, 1) := by decide +kernel
theorem dX12_isAhead_95 : decode cX12_isAhead 95 = .ok (.iaload, 1) := by decide +kernel
theorem dX12_isAhead_96 : decode cX12_isAhead 96 = .ok (.aload_n 0, 1) := by decide +kernel
theorem dX12_isAhead_97 : decode cX12_isAhead 97 = .ok (.getfield 102, 3) := by decide +kernel
theorem dX12_isAhead_100 : decode cX12_isAhead 100 = .ok (.iconst 2, 1) := by decide +kernel
theorem dX12_isAhead_101 : decode cX12_isAhead 101 = .ok (.iaload, 1) := by decide +kernel
theorem dX12_isAhead_102 : decode cX12_isAhead 102 = .ok (.if_icmp .eq 26, 3) := by decide +kernel
theorem dX12_isAhead_105 : decode cX12_isAhead 105 = .ok (.aload_n 0, 1) := by decide +kernel
theorem dX12_isAhead_106 : decode cX12_isAhead 106 = .ok (.getfield 59, 3) := by decide +kernel
theorem dX12_isAhead_109 : decode cX12_isAhead 109 = .ok (.iload_n 1, 1) := by decide +kernel
theorem dX12_isAhead_110 : decode cX12_isAhead 110 = .ok (.iaload, 1) := by decide +kernel
theorem dX12_isAhead_111 : decode cX12_isAhead 111 = .ok (.aload_n 0, 1) := by decide +kernel
theorem dX12_isAhead_112 : decode cX12_isAhead 112 = .ok (.getfield 102, 3) := by decide +kernel
theorem dX12_isAhead_115 : decode cX12_isAhead 115 = .ok (.iconst 2, 1) := by decide +kernel
theorem dX12_isAhead_116 : decode cX12_isAhead 116 = .ok (.iaload, 1) := by decide +kernel
theorem dX12_isAhead_117 : decode cX12_isAhead 117 = .ok (.if_icmp .ge 7, 3) := by decide +kernel
theorem dX12_isAhead_120 : decode cX12_isAhead 120 = .ok (.iconst 1, 1) := by decide +kernel
theorem dX12_isAhead_121 : decode cX12_isAhead 121 = .ok (.goto 27, 3) := by decide +kernel
theorem dX12_isAhead_124 : decode cX12_isAhead 124 = .ok (.iconst 0, 1) := by decide +kernel
theorem dX12_isAhead_125 : decode cX12_isAhead 125 = .ok (.goto 23, 3) := by decide +kernel
theorem dX12_isAhead_128 : decode cX12_isAhead 128 = .ok (.aload_n 0, 1) := by decide +kernel
theorem dX12_isAhead_129 : decode cX12_isAhead 129 = .ok (.getfield 62, 3) := by decide +kernel
theorem dX12_isAhead_132 : decode cX12_isAhead 132 = .ok (.iload_n 1, 1) := by decide +kernel
theorem dX12_isAhead_133 : decode cX12_isAhead 133 = .ok (.iaload, 1) := by decide +kernel
theorem dX12_isAhead_134 : decode cX12_isAhead 134 = .ok (.aload_n 0, 1) := by decide +kernel
end
section
theorem dX12_isAhead_135 : decode cX12_isAhead 135 = .ok (.getfield 102, 3) := by decide +kernel
theorem dX12_isAhead_138 : decode cX12_isAhead 138 = .ok (.iconst 3, 1) := by decide +kernel
theorem dX12_isAhead_139 : decode cX12_isAhead 139 = .ok (.iaload, 1) := by decide +kernel
theorem dX12_isAhead_140 : decode cX12_isAhead 140 = .ok (.if_icmp .ge 7, 3) := by decide +kernel
theorem dX12_isAhead_143 : decode cX12_isAhead 143 = .ok (.iconst 1, 1) := by decide +kernel
theorem dX12_isAhead_144 : decode cX12_isAhead 144 = .ok (.goto 4, 3) := by decide +kernel
theorem dX12_isAhead_147 : decode cX12_isAhead 147 = .ok (.iconst 0, 1) := by decide +kernel
theorem dX12_isAhead_148 : decode cX12_isAhead 148 = .ok (.ireturn, 1) := by decide +kernel
theorem dX12_check_0 : decode cX12_check 0 = .ok (.aload_n 0, 1) := by decide +kernel
theorem dX12_check_1 : decode cX12_check 1 = .ok (.getfield 121, 3) := by decide +kernel
theorem dX12_check_4 : decode cX12_check 4 = .ok (.ifCond .ne 10, 3) := by decide +kernel
theorem dX12_check_7 : decode cX12_check 7 = .ok (.aload_n 0, 1) := by decide +kernel
theorem dX12_check_8 : decode cX12_check 8 = .ok (.bipush (-2), 2) := by decide +kernel
theorem dX12_check_10 : decode cX12_check 10 = .ok (.invokevirtual 124, 3) := by decide +kernel
theorem dX12_check_13 : decode cX12_check 13 = .ok (.ireturn, 1) := by decide +kernel
theorem dX12_check_14 : decode cX12_check 14 = .ok (.aload_n 0, 1) := by decide +kernel
theorem dX12_check_15 : decode cX12_check 15 = .ok (.invokevirtual 111, 3) := by decide +kernel
theorem dX12_check_18 : decode cX12_check 18 = .ok (.aload_n 0, 1) := by decide +kernel
theorem dX12_check_19 : decode cX12_check 19 = .ok (.invokevirtual 177, 3) := by decide +kernel
theorem dX12_check_22 : decode cX12_check 22 = .ok (.iconst 0, 1) := by decide +kernel
theorem dX12_check_23 : decode cX12_check 23 = .ok (.istore_n 1, 1) := by decide +kernel
theorem dX12_check_24 : decode cX12_check 24 = .ok (.iload_n 1, 1) := by decide +kernel
theorem dX12_check_25 : decode cX12_check 25 = .ok (.aload_n 0, 1) := by decide +kernel
theorem dX12_check_26 : decode cX12_check 26 = .ok (.getfield 180, 3) := by decide +kernel
theorem dX12_check_29 : decode cX12_check 29 = .ok (.if_icmp .ge 122, 3) := by decide +kernel
theorem dX12_check_32 : decode cX12_check 32 = .ok (.aload_n 0, 1) := by decide +kernel
theorem dX12_check_33 : decode cX12_check 33 = .ok (.getfield 90, 3) := by decide +kernel
theorem dX12_check_36 : decode cX12_check 36 = .ok (.aload_n 0, 1) := by decide +kernel
theorem dX12_check_37 : decode cX12_check 37 = .ok (.getfield 56, 3) := by decide +kernel
theorem dX12_check_40 : decode cX12_check 40 = .ok (.iload_n 1, 1) := by decide +kernel
theorem dX12_check_41 : decode cX12_check 41 = .ok (.iaload, 1) := by decide +kernel
theorem dX12_check_42 : decode cX12_check 42 = .ok (.iaload, 1) := by decide +kernel
theorem dX12_check_43 : decode cX12_check 43 = .ok (.aload_n 0, 1) := by decide +kernel
theorem dX12_check_44 : decode cX12_check 44 = .ok (.getfield 121, 3) := by decide +kernel
theorem dX12_check_47 : decode cX12_check 47 = .ok (.aload_n 0, 1) := by decide +kernel
theorem dX12_check_48 : decode cX12_check 48 = .ok (.getfield 62, 3) := by decide +kernel
theorem dX12_check_51 : decode cX12_check 51 = .ok (.iload_n 1, 1) := by decide +kernel
theorem dX12_check_52 : decode cX12_check 52 = .ok (.iaload, 1) := by decide +kernel
theorem dX12_check_53 : decode cX12_check 53 = .ok (.imul, 1) := by decide +kernel
theorem dX12_check_54 : decode cX12_check 54 = .ok (.iadd, 1) := by decide +kernel
theorem dX12_check_55 : decode cX12_check 55 = .ok (.aload_n 0, 1) := by decide +kernel
theorem dX12_check_56 : decode cX12_check 56 = .ok (.getfield 90, 3) := by decide +kernel
theorem dX12_check_59 : decode cX12_check 59 = .ok (.aload_n 0, 1) := by decide +kernel
theorem dX12_check_60 : decode cX12_check 60 = .ok (.getfield 53, 3) := by decide +kernel
theorem dX12_check_63 : decode cX12_check 63 = .ok (.iload_n 1, 1) := by decide +kernel
theorem dX12_check_64 : decode cX12_check 64 = .ok (.iaload, 1) := by decide +kernel
theorem dX12_check_65 : decode cX12_check 65 = .ok (.iaload, 1) := by decide +kernel
theorem dX12_check_66 : decode cX12_check 66 = .ok (.aload_n 0, 1) := by decide +kernel
theorem dX12_check_67 : decode cX12_check 67 = .ok (.getfield 59, 3) := by decide +kernel
theorem dX12_check_70 : decode cX12_check 70 = .ok (.iload_n 1, 1) := by decide +kernel
theorem dX12_check_71 : decode cX12_check 71 = .ok (.iaload, 1) := by decide +kernel
theorem dX12_check_72 : decode cX12_check 72 = .ok (.iadd, 1) := by decide +kernel
theorem dX12_check_73 : decode cX12_check 73 = .ok (.if_icmp .lt 7, 3) := by decide +kernel
theorem dX12_check_76 : decode cX12_check 76 = .ok (.iconst 1, 1) := by decide +kernel
theorem dX12_check_77 : decode cX12_check 77 = .ok (.goto 4, 3) := by decide +kernel
theorem dX12_check_80 : decode cX12_check 80 = .ok (.iconst 0, 1) := by decide +kernel
theorem dX12_check_81 : decode cX12_check 81 = .ok (.istore_n 2, 1) := by decide +kernel
theorem dX12_check_82 : decode cX12_check 82 = .ok (.iload_n 2, 1) := by decide +kernel
theorem dX12_check_83 : decode cX12_check 83 = .ok (.ifCond .ne 62, 3) := by decide +kernel
theorem dX12_check_86 : decode cX12_check 86 = .ok (.aload_n 0, 1) := by decide +kernel
theorem dX12_check_87 : decode cX12_check 87 = .ok (.iload_n 1, 1) := by decide +kernel
theorem dX12_check_88 : decode cX12_check 88 = .ok (.invokevirtual 243, 3) := by decide +kernel
theorem dX12_check_91 : decode cX12_check 91 = .ok (.ifCond .ne 6, 3) := by decide +kernel
theorem dX12_check_94 : decode cX12_check 94 = .ok (.goto 51, 3) := by decide +kernel
theorem dX12_check_97 : decode cX12_check 97 = .ok (.aload_n 0, 1) := by decide +kernel
theorem dX12_check_98 : decode cX12_check 98 = .ok (.getfield 102, 3) := by decide +kernel
theorem dX12_check_101 : decode cX12_check 101 = .ok (.iconst 0, 1) := by decide +kernel
theorem dX12_check_102 : decode cX12_check 102 = .ok (.aload_n 0, 1) := by decide +kernel
theorem dX12_check_103 : decode cX12_check 103 = .ok (.getfield 53, 3) := by decide +kernel
theorem dX12_check_106 : decode cX12_check 106 = .ok (.iload_n 1, 1) := by decide +kernel
theorem dX12_check_107 : decode cX12_check 107 = .ok (.iaload, 1) := by decide +kernel
theorem dX12_check_108 : decode cX12_check 108 = .ok (.iastore, 1) := by decide +kernel
theorem dX12_check_109 : decode cX12_check 109 = .ok (.aload_n 0, 1) := by decide +kernel
theorem dX12_check_110 : decode cX12_check 110 = .ok (.getfield 102, 3) := by decide +kernel
theorem dX12_check_113 : decode cX12_check 113 = .ok (.iconst 1, 1) := by decide +kernel
theorem dX12_check_114 : decode cX12_check 114 = .ok (.aload_n 0, 1) := by decide +kernel
theorem dX12_check_115 : decode cX12_check 115 = .ok (.getfield 56, 3) := by decide +kernel
theorem dX12_check_118 : decode cX12_check 118 = .ok (.iload_n 1, 1) := by decide +kernel
theorem dX12_check_119 : decode cX12_check 119 = .ok (.iaload, 1) := by decide +kernel
theorem dX12_check_120 : decode cX12_check 120 = .ok (.iastore, 1) := by decide +kernel
theorem dX12_check_121 : decode cX12_check 121 = .ok (.aload_n 0, 1) := by decide +kernel
theorem dX12_check_122 : decode cX12_check 122 = .ok (.getfield 102, 3) := by decide +kernel
theorem dX12_check_125 : decode cX12_check 125 = .ok (.iconst 2, 1) := by decide +kernel
theorem dX12_check_126 : decode cX12_check 126 = .ok (.aload_n 0, 1) := by decide +kernel
theorem dX12_check_127 : decode cX12_check 127 = .ok (.getfield 59, 3) := by decide +kernel
theorem dX12_check_130 : decode cX12_check 130 = .ok (.iload_n 1, 1) := by decide +kernel
theorem dX12_check_131 : decode cX12_check 131 = .ok (.iaload, 1) := by decide +kernel
theorem dX12_check_132 : decode cX12_check 132 = .ok (.iastore, 1) := by decide +kernel
theorem dX12_check_133 : decode cX12_check 133 = .ok (.aload_n 0, 1) := by decide +kernel
theorem dX12_check_134 : decode cX12_check 134 = .ok (.getfield 102, 3) := by decide +kernel
theorem dX12_check_137 : decode cX12_check 137 = .ok (.iconst 3, 1) := by decide +kernel
theorem dX12_check_138 : decode cX12_check 138 = .ok (.aload_n 0, 1) := by decide +kernel
theorem dX12_check_139 : decode cX12_check 139 = .ok (.getfield 62, 3) := by decide +kernel
theorem dX12_check_142 : decode cX12_check 142 = .ok (.iload_n 1, 1) := by decide +kernel
theorem dX12_check_143 : decode cX12_check 143 = .ok (.iaload, 1) := by decide +kernel
theorem dX12_check_144 : decode cX12_check 144 = .ok (.iastore, 1) := by decide +kernel
theorem dX12_check_145 : decode cX12_check 145 = .ok (.iinc 1 1, 3) := by decide +kernel
theorem dX12_check_148 : decode cX12_check 148 = .ok (.goto (-124), 3) := by decide +kernel
theorem dX12_check_151 : decode cX12_check 151 = .ok (.aload_n 0, 1) := by decide +kernel
theorem dX12_check_152 : decode cX12_check 152 = .ok (.getfield 102, 3) := by decide +kernel
theorem dX12_check_155 : decode cX12_check 155 = .ok (.iconst 1, 1) := by decide +kernel
theorem dX12_check_156 : decode cX12_check 156 = .ok (.iaload, 1) := by decide +kernel
theorem dX12_check_157 : decode cX12_check 157 = .ok (.ifCond .lt 5, 3) := by decide +kernel
theorem dX12_check_160 : decode cX12_check 160 = .ok (.iconst 1, 1) := by decide +kernel
theorem dX12_check_161 : decode cX12_check 161 = .ok (.ireturn, 1) := by decide +kernel
theorem dX12_check_162 : decode cX12_check 162 = .ok (.iconst 0, 1) := by decide +kernel
theorem dX12_check_163 : decode cX12_check 163 = .ok (.istore_n 1, 1) := by decide +kernel
theorem dX12_check_164 : decode cX12_check 164 = .ok (.iload_n 1, 1) := by decide +kernel
theorem dX12_check_165 : decode cX12_check 165 = .ok (.bipush 6, 2) := by decide +kernel
theorem dX12_check_167 : decode cX12_check 167 = .ok (.if_icmp .ge 59, 3) := by decide +kernel
theorem dX12_check_170 : decode cX12_check 170 = .ok (.iconst 0, 1) := by decide +kernel
theorem dX12_check_171 : decode cX12_check 171 = .ok (.istore_n 2, 1) := by decide +kernel
theorem dX12_check_172 : decode cX12_check 172 = .ok (.iload_n 2, 1) := by decide +kernel
theorem dX12_check_173 : decode cX12_check 173 = .ok (.aload_n 0, 1) := by decide +kernel
theorem dX12_check_174 : decode cX12_check 174 = .ok (.getfield 121, 3) := by decide +kernel
theorem dX12_check_177 : decode cX12_check 177 = .ok (.if_icmp .ge 43, 3) := by decide +kernel
theorem dX12_check_180 : decode cX12_check 180 = .ok (.aload_n 0, 1) := by decide +kernel
theorem dX12_check_181 : decode cX12_check 181 = .ok (.iload_n 1, 1) := by decide +kernel
theorem dX12_check_182 : decode cX12_check 182 = .ok (.iload_n 2, 1) := by decide +kernel
theorem dX12_check_183 : decode cX12_check 183 = .ok (.invokevirtual 246, 3) := by decide +kernel
theorem dX12_check_186 : decode cX12_check 186 = .ok (.aload_n 0, 1) := by decide +kernel
theorem dX12_check_187 : decode cX12_check 187 = .ok (.getfield 38, 3) := by decide +kernel
theorem dX12_check_190 : decode cX12_check 190 = .ok (.iload_n 1, 1) := by decide +kernel
theorem dX12_check_191 : decode cX12_check 191 = .ok (.iaload, 1) := by decide +kernel
theorem dX12_check_192 : decode cX12_check 192 = .ok (.if_icmp .gt 6, 3) := by decide +kernel
theorem dX12_check_195 : decode cX12_check 195 = .ok (.goto 19, 3) := by decide +kernel
theorem dX12_check_198 : decode cX12_check 198 = .ok (.aload_n 0, 1) := by decide +kernel
theorem dX12_check_199 : decode cX12_check 199 = .ok (.getfield 102, 3) := by decide +kernel
theorem dX12_check_202 : decode cX12_check 202 = .ok (.iconst 4, 1) := by decide +kernel
theorem dX12_check_203 : decode cX12_check 203 = .ok (.iload_n 1, 1) := by decide +kernel
theorem dX12_check_204 : decode cX12_check 204 = .ok (.iastore, 1) := by decide +kernel
theorem dX12_check_205 : decode cX12_check 205 = .ok (.aload_n 0, 1) := by decide +kernel
theorem dX12_check_206 : decode cX12_check 206 = .ok (.getfield 102, 3) := by decide +kernel
theorem dX12_check_209 : decode cX12_check 209 = .ok (.iconst 5, 1) := by decide +kernel
theorem dX12_check_210 : decode cX12_check 210 = .ok (.iload_n 2, 1) := by decide +kernel
theorem dX12_check_211 : decode cX12_check 211 = .ok (.iastore, 1) := by decide +kernel
theorem dX12_check_212 : decode cX12_check 212 = .ok (.iconst 2, 1) := by decide +kernel
theorem dX12_check_213 : decode cX12_check 213 = .ok (.ireturn, 1) := by decide +kernel
theorem dX12_check_214 : decode cX12_check 214 = .ok (.iinc 2 1, 3) := by decide +kernel
theorem dX12_check_217 : decode cX12_check 217 = .ok (.goto (-45), 3) := by decide +kernel
theorem dX12_check_220 : decode cX12_check 220 = .ok (.iinc 1 1, 3) := by decide +kernel
theorem dX12_check_223 : decode cX12_check 223 = .ok (.goto (-59), 3) := by decide +kernel
theorem dX12_check_226 : decode cX12_check 226 = .ok (.iconst 0, 1) := by decide +kernel
theorem dX12_check_227 : decode cX12_check 227 = .ok (.ireturn, 1) := by decide +kernel
theorem dX12_filledAs_0 : decode cX12_filledAs 0 = .ok (.iconst 0, 1) := by decide +kernel
theorem dX12_filledAs_1 : decode cX12_filledAs 1 = .ok (.istore_n 3, 1) := by decide +kernel
theorem dX12_filledAs_2 : decode cX12_filledAs 2 = .ok (.iconst 0, 1) := by decide +kernel
theorem dX12_filledAs_3 : decode cX12_filledAs 3 = .ok (.istore 4, 2) := by decide +kernel
theorem dX12_filledAs_5 : decode cX12_filledAs 5 = .ok (.iload 4, 2) := by decide +kernel
theorem dX12_filledAs_7 : decode cX12_filledAs 7 = .ok (.aload_n 0, 1) := by decide +kernel
theorem dX12_filledAs_8 : decode cX12_filledAs 8 = .ok (.getfield 118, 3) := by decide +kernel
theorem dX12_filledAs_11 : decode cX12_filledAs 11 = .ok (.if_icmp .ge 74, 3) := by decide +kernel
theorem dX12_filledAs_14 : decode cX12_filledAs 14 = .ok (.iconst 0, 1) := by decide +kernel
theorem dX12_filledAs_15 : decode cX12_filledAs 15 = .ok (.istore 5, 2) := by decide +kernel
theorem dX12_filledAs_17 : decode cX12_filledAs 17 = .ok (.iload 5, 2) := by decide +kernel
theorem dX12_filledAs_19 : decode cX12_filledAs 19 = .ok (.bipush 8, 2) := by decide +kernel
theorem dX12_filledAs_21 : decode cX12_filledAs 21 = .ok (.if_icmp .ge 58, 3) := by decide +kernel
theorem dX12_filledAs_24 : decode cX12_filledAs 24 = .ok (.aload_n 0, 1) := by decide +kernel
theorem dX12_filledAs_25 : decode cX12_filledAs 25 = .ok (.getfield 16, 3) := by decide +kernel
theorem dX12_filledAs_28 : decode cX12_filledAs 28 = .ok (.iload 4, 2) := by decide +kernel
theorem dX12_filledAs_30 : decode cX12_filledAs 30 = .ok (.iaload, 1) := by decide +kernel
theorem dX12_filledAs_31 : decode cX12_filledAs 31 = .ok (.iload_n 1, 1) := by decide +kernel
theorem dX12_filledAs_32 : decode cX12_filledAs 32 = .ok (.if_icmp .ne 47, 3) := by decide +kernel
theorem dX12_filledAs_35 : decode cX12_filledAs 35 = .ok (.iload_n 3, 1) := by decide +kernel
theorem dX12_filledAs_36 : decode cX12_filledAs 36 = .ok (.aload_n 0, 1) := by decide +kernel
theorem dX12_filledAs_37 : decode cX12_filledAs 37 = .ok (.getfield 90, 3) := by decide +kernel
theorem dX12_filledAs_40 : decode cX12_filledAs 40 = .ok (.iload 4, 2) := by decide +kernel
theorem dX12_filledAs_42 : decode cX12_filledAs 42 = .ok (.iaload, 1) := by decide +kernel
theorem dX12_filledAs_43 : decode cX12_filledAs 43 = .ok (.iload 5, 2) := by decide +kernel
theorem dX12_filledAs_45 : decode cX12_filledAs 45 = .ok (.iadd, 1) := by decide +kernel
theorem dX12_filledAs_46 : decode cX12_filledAs 46 = .ok (.aload_n 0, 1) := by decide +kernel
theorem dX12_filledAs_47 : decode cX12_filledAs 47 = .ok (.getfield 121, 3) := by decide +kernel
theorem dX12_filledAs_50 : decode cX12_filledAs 50 = .ok (.irem, 1) := by decide +kernel
theorem dX12_filledAs_51 : decode cX12_filledAs 51 = .ok (.iload_n 2, 1) := by decide +kernel
theorem dX12_filledAs_52 : decode cX12_filledAs 52 = .ok (.if_icmp .ne 18, 3) := by decide +kernel
theorem dX12_filledAs_55 : decode cX12_filledAs 55 = .ok (.aload_n 0, 1) := by decide +kernel
theorem dX12_filledAs_56 : decode cX12_filledAs 56 = .ok (.getfield 19, 3) := by decide +kernel
theorem dX12_filledAs_59 : decode cX12_filledAs 59 = .ok (.iload 4, 2) := by decide +kernel
theorem dX12_filledAs_61 : decode cX12_filledAs 61 = .ok (.iaload, 1) := by decide +kernel
theorem dX12_filledAs_62 : decode cX12_filledAs 62 = .ok (.iload 5, 2) := by decide +kernel
theorem dX12_filledAs_64 : decode cX12_filledAs 64 = .ok (.ishr, 1) := by decide +kernel
theorem dX12_filledAs_65 : decode cX12_filledAs 65 = .ok (.iconst 1, 1) := by decide +kernel
theorem dX12_filledAs_66 : decode cX12_filledAs 66 = .ok (.iand, 1) := by decide +kernel
theorem dX12_filledAs_67 : decode cX12_filledAs 67 = .ok (.goto 4, 3) := by decide +kernel
theorem dX12_filledAs_70 : decode cX12_filledAs 70 = .ok (.iconst 0, 1) := by decide +kernel
theorem dX12_filledAs_71 : decode cX12_filledAs 71 = .ok (.iadd, 1) := by decide +kernel
theorem dX12_filledAs_72 : decode cX12_filledAs 72 = .ok (.istore_n 3, 1) := by decide +kernel
theorem dX12_filledAs_73 : decode cX12_filledAs 73 = .ok (.iinc 5 1, 3) := by decide +kernel
theorem dX12_filledAs_76 : decode cX12_filledAs 76 = .ok (.goto (-59), 3) := by decide +kernel
theorem dX12_filledAs_79 : decode cX12_filledAs 79 = .ok (.iinc 4 1, 3) := by decide +kernel
theorem dX12_filledAs_82 : decode cX12_filledAs 82 = .ok (.goto (-77), 3) := by decide +kernel
theorem dX12_filledAs_85 : decode cX12_filledAs 85 = .ok (.iload_n 3, 1) := by decide +kernel
theorem dX12_filledAs_86 : decode cX12_filledAs 86 = .ok (.ireturn, 1) := by decide +kernel
theorem dX12_wrong_0 : decode cX12_wrong 0 = .ok (.iload_n 1, 1) := by decide +kernel
theorem dX12_wrong_1 : decode cX12_wrong 1 = .ok (.i2l, 1) := by decide +kernel
theorem dX12_wrong_2 : decode cX12_wrong 2 = .ok (.lconst 0, 1) := by decide +kernel
theorem dX12_wrong_3 : decode cX12_wrong 3 = .ok (.ldc2_w 162, 3) := by decide +kernel
theorem dX12_wrong_6 : decode cX12_wrong 6 = .ok (.invokestatic 137, 3) := by decide +kernel
theorem dX12_wrong_9 : decode cX12_wrong 9 = .ok (.ifCond .eq 12, 3) := by decide +kernel
theorem dX12_wrong_12 : decode cX12_wrong 12 = .ok (.aload_n 0, 1) := by decide +kernel
theorem dX12_wrong_13 : decode cX12_wrong 13 = .ok (.getfield 102, 3) := by decide +kernel
theorem dX12_wrong_16 : decode cX12_wrong 16 = .ok (.iload_n 1, 1) := by decide +kernel
theorem dX12_wrong_17 : decode cX12_wrong 17 = .ok (.iaload, 1) := by decide +kernel
theorem dX12_wrong_18 : decode cX12_wrong 18 = .ok (.goto 9, 3) := by decide +kernel
theorem dX12_wrong_21 : decode cX12_wrong 21 = .ok (.aload_n 0, 1) := by decide +kernel
theorem dX12_wrong_22 : decode cX12_wrong 22 = .ok (.bipush (-9), 2) := by decide +kernel
theorem dX12_wrong_24 : decode cX12_wrong 24 = .ok (.invokevirtual 124, 3) := by decide +kernel
theorem dX12_wrong_27 : decode cX12_wrong 27 = .ok (.ireturn, 1) := by decide +kernel
theorem dX12_isSlot_0 : decode cX12_isSlot 0 = .ok (.iload_n 0, 1) := by decide +kernel
theorem dX12_isSlot_1 : decode cX12_isSlot 1 = .ok (.ifCond .lt 13, 3) := by decide +kernel
theorem dX12_isSlot_4 : decode cX12_isSlot 4 = .ok (.iload_n 0, 1) := by decide +kernel
theorem dX12_isSlot_5 : decode cX12_isSlot 5 = .ok (.bipush 8, 2) := by decide +kernel
theorem dX12_isSlot_7 : decode cX12_isSlot 7 = .ok (.if_icmp .ge 7, 3) := by decide +kernel
theorem dX12_isSlot_10 : decode cX12_isSlot 10 = .ok (.iconst 1, 1) := by decide +kernel
theorem dX12_isSlot_11 : decode cX12_isSlot 11 = .ok (.goto 4, 3) := by decide +kernel
theorem dX12_isSlot_14 : decode cX12_isSlot 14 = .ok (.iconst 0, 1) := by decide +kernel
theorem dX12_isSlot_15 : decode cX12_isSlot 15 = .ok (.ireturn, 1) := by decide +kernel
theorem dX12_row_0 : decode cX12_row 0 = .ok (.iload_n 1, 1) := by decide +kernel
theorem dX12_row_1 : decode cX12_row 1 = .ok (.invokestatic 249, 3) := by decide +kernel
theorem dX12_row_4 : decode cX12_row 4 = .ok (.ifCond .ne 10, 3) := by decide +kernel
theorem dX12_row_7 : decode cX12_row 7 = .ok (.aload_n 0, 1) := by decide +kernel
theorem dX12_row_8 : decode cX12_row 8 = .ok (.bipush (-3), 2) := by decide +kernel
theorem dX12_row_10 : decode cX12_row 10 = .ok (.invokevirtual 124, 3) := by decide +kernel
theorem dX12_row_13 : decode cX12_row 13 = .ok (.ireturn, 1) := by decide +kernel
theorem dX12_row_14 : decode cX12_row 14 = .ok (.iload_n 2, 1) := by decide +kernel
theorem dX12_row_15 : decode cX12_row 15 = .ok (.ifCond .ge 10, 3) := by decide +kernel
theorem dX12_row_18 : decode cX12_row 18 = .ok (.aload_n 0, 1) := by decide +kernel
theorem dX12_row_19 : decode cX12_row 19 = .ok (.bipush (-4), 2) := by decide +kernel
theorem dX12_row_21 : decode cX12_row 21 = .ok (.invokevirtual 124, 3) := by decide +kernel
theorem dX12_row_24 : decode cX12_row 24 = .ok (.ireturn, 1) := by decide +kernel
theorem dX12_row_25 : decode cX12_row 25 = .ok (.iload_n 2, 1) := by decide +kernel
theorem dX12_row_26 : decode cX12_row 26 = .ok (.i2l, 1) := by decide +kernel
theorem dX12_row_27 : decode cX12_row 27 = .ok (.lconst 1, 1) := by decide +kernel
theorem dX12_row_28 : decode cX12_row 28 = .ok (.ldc2_w 252, 3) := by decide +kernel
theorem dX12_row_31 : decode cX12_row 31 = .ok (.invokestatic 137, 3) := by decide +kernel
theorem dX12_row_34 : decode cX12_row 34 = .ok (.ifCond .ne 10, 3) := by decide +kernel
theorem dX12_row_37 : decode cX12_row 37 = .ok (.aload_n 0, 1) := by decide +kernel
theorem dX12_row_38 : decode cX12_row 38 = .ok (.bipush (-9), 2) := by decide +kernel
theorem dX12_row_40 : decode cX12_row 40 = .ok (.invokevirtual 124, 3) := by decide +kernel
theorem dX12_row_43 : decode cX12_row 43 = .ok (.ireturn, 1) := by decide +kernel
theorem dX12_row_44 : decode cX12_row 44 = .ok (.aload_n 0, 1) := by decide +kernel
theorem dX12_row_45 : decode cX12_row 45 = .ok (.getfield 71, 3) := by decide +kernel
theorem dX12_row_48 : decode cX12_row 48 = .ok (.iload_n 1, 1) := by decide +kernel
theorem dX12_row_49 : decode cX12_row 49 = .ok (.iload_n 2, 1) := by decide +kernel
theorem dX12_row_50 : decode cX12_row 50 = .ok (.iastore, 1) := by decide +kernel
theorem dX12_row_51 : decode cX12_row 51 = .ok (.aload_n 0, 1) := by decide +kernel
theorem dX12_row_52 : decode cX12_row 52 = .ok (.getfield 74, 3) := by decide +kernel
theorem dX12_row_55 : decode cX12_row 55 = .ok (.iload_n 1, 1) := by decide +kernel
theorem dX12_row_56 : decode cX12_row 56 = .ok (.iload_n 3, 1) := by decide +kernel
theorem dX12_row_57 : decode cX12_row 57 = .ok (.bastore, 1) := by decide +kernel
theorem dX12_row_58 : decode cX12_row 58 = .ok (.iconst 0, 1) := by decide +kernel
theorem dX12_row_59 : decode cX12_row 59 = .ok (.istore 4, 2) := by decide +kernel
theorem dX12_row_61 : decode cX12_row 61 = .ok (.iload 4, 2) := by decide +kernel
theorem dX12_row_63 : decode cX12_row 63 = .ok (.iload_n 2, 1) := by decide +kernel
theorem dX12_row_64 : decode cX12_row 64 = .ok (.if_icmp .ge 22, 3) := by decide +kernel
theorem dX12_row_67 : decode cX12_row 67 = .ok (.aload_n 0, 1) := by decide +kernel
theorem dX12_row_68 : decode cX12_row 68 = .ok (.getfield 65, 3) := by decide +kernel
theorem dX12_row_71 : decode cX12_row 71 = .ok (.bipush 40, 2) := by decide +kernel
theorem dX12_row_73 : decode cX12_row 73 = .ok (.iload_n 1, 1) := by decide +kernel
theorem dX12_row_74 : decode cX12_row 74 = .ok (.imul, 1) := by decide +kernel
theorem dX12_row_75 : decode cX12_row 75 = .ok (.iload 4, 2) := by decide +kernel
theorem dX12_row_77 : decode cX12_row 77 = .ok (.iadd, 1) := by decide +kernel
theorem dX12_row_78 : decode cX12_row 78 = .ok (.lconst 0, 1) := by decide +kernel
theorem dX12_row_79 : decode cX12_row 79 = .ok (.lastore, 1) := by decide +kernel
theorem dX12_row_80 : decode cX12_row 80 = .ok (.iinc 4 1, 3) := by decide +kernel
theorem dX12_row_83 : decode cX12_row 83 = .ok (.goto (-22), 3) := by decide +kernel
theorem dX12_row_86 : decode cX12_row 86 = .ok (.iconst 1, 1) := by decide +kernel
theorem dX12_row_87 : decode cX12_row 87 = .ok (.ireturn, 1) := by decide +kernel
theorem dX12_empty_0 : decode cX12_empty 0 = .ok (.iload_n 1, 1) := by decide +kernel
theorem dX12_empty_1 : decode cX12_empty 1 = .ok (.invokestatic 249, 3) := by decide +kernel
theorem dX12_empty_4 : decode cX12_empty 4 = .ok (.ifCond .ne 10, 3) := by decide +kernel
theorem dX12_empty_7 : decode cX12_empty 7 = .ok (.aload_n 0, 1) := by decide +kernel
theorem dX12_empty_8 : decode cX12_empty 8 = .ok (.bipush (-3), 2) := by decide +kernel
theorem dX12_empty_10 : decode cX12_empty 10 = .ok (.invokevirtual 124, 3) := by decide +kernel
theorem dX12_empty_13 : decode cX12_empty 13 = .ok (.ireturn, 1) := by decide +kernel
theorem dX12_empty_14 : decode cX12_empty 14 = .ok (.aload_n 0, 1) := by decide +kernel
theorem dX12_empty_15 : decode cX12_empty 15 = .ok (.getfield 71, 3) := by decide +kernel
theorem dX12_empty_18 : decode cX12_empty 18 = .ok (.iload_n 1, 1) := by decide +kernel
theorem dX12_empty_19 : decode cX12_empty 19 = .ok (.iaload, 1) := by decide +kernel
theorem dX12_empty_20 : decode cX12_empty 20 = .ok (.ifCond .le 7, 3) := by decide +kernel
theorem dX12_empty_23 : decode cX12_empty 23 = .ok (.iconst 1, 1) := by decide +kernel
theorem dX12_empty_24 : decode cX12_empty 24 = .ok (.goto 4, 3) := by decide +kernel
theorem dX12_empty_27 : decode cX12_empty 27 = .ok (.iconst 0, 1) := by decide +kernel
theorem dX12_empty_28 : decode cX12_empty 28 = .ok (.istore_n 2, 1) := by decide +kernel
theorem dX12_empty_29 : decode cX12_empty 29 = .ok (.aload_n 0, 1) := by decide +kernel
theorem dX12_empty_30 : decode cX12_empty 30 = .ok (.getfield 71, 3) := by decide +kernel
theorem dX12_empty_33 : decode cX12_empty 33 = .ok (.iload_n 1, 1) := by decide +kernel
theorem dX12_empty_34 : decode cX12_empty 34 = .ok (.iconst 0, 1) := by decide +kernel
theorem dX12_empty_35 : decode cX12_empty 35 = .ok (.iastore, 1) := by decide +kernel
theorem dX12_empty_36 : decode cX12_empty 36 = .ok (.iload_n 2, 1) := by decide +kernel
theorem dX12_empty_37 : decode cX12_empty 37 = .ok (.ireturn, 1) := by decide +kernel
theorem dX12_why_0 : decode cX12_why 0 = .ok (.aload_n 0, 1) := by decide +kernel
theorem dX12_why_1 : decode cX12_why 1 = .ok (.getfield 71, 3) := by decide +kernel
theorem dX12_why_4 : decode cX12_why 4 = .ok (.iload_n 1, 1) := by decide +kernel
theorem dX12_why_5 : decode cX12_why 5 = .ok (.iaload, 1) := by decide +kernel
theorem dX12_why_6 : decode cX12_why 6 = .ok (.ifCond .ne 6, 3) := by decide +kernel
theorem dX12_why_9 : decode cX12_why 9 = .ok (.bipush (-2), 2) := by decide +kernel
theorem dX12_why_11 : decode cX12_why 11 = .ok (.ireturn, 1) := by decide +kernel
theorem dX12_why_12 : decode cX12_why 12 = .ok (.aload_n 0, 1) := by decide +kernel
theorem dX12_why_13 : decode cX12_why 13 = .ok (.getfield 74, 3) := by decide +kernel
theorem dX12_why_16 : decode cX12_why 16 = .ok (.iload_n 1, 1) := by decide +kernel
theorem dX12_why_17 : decode cX12_why 17 = .ok (.baload, 1) := by decide +kernel
theorem dX12_why_18 : decode cX12_why 18 = .ok (.ifCond .ne 6, 3) := by decide +kernel
theorem dX12_why_21 : decode cX12_why 21 = .ok (.bipush (-5), 2) := by decide +kernel
theorem dX12_why_23 : decode cX12_why 23 = .ok (.ireturn, 1) := by decide +kernel
theorem dX12_why_24 : decode cX12_why 24 = .ok (.lload_n 2, 1) := by decide +kernel
theorem dX12_why_25 : decode cX12_why 25 = .ok (.lconst 0, 1) := by decide +kernel
theorem dX12_why_26 : decode cX12_why 26 = .ok (.aload_n 0, 1) := by decide +kernel
theorem dX12_why_27 : decode cX12_why 27 = .ok (.getfield 71, 3) := by decide +kernel
theorem dX12_why_30 : decode cX12_why 30 = .ok (.iload_n 1, 1) := by decide +kernel
theorem dX12_why_31 : decode cX12_why 31 = .ok (.iaload, 1) := by decide +kernel
theorem dX12_why_32 : decode cX12_why 32 = .ok (.iconst 1, 1) := by decide +kernel
theorem dX12_why_33 : decode cX12_why 33 = .ok (.isub, 1) := by decide +kernel
theorem dX12_why_34 : decode cX12_why 34 = .ok (.i2l, 1) := by decide +kernel
theorem dX12_why_35 : decode cX12_why 35 = .ok (.invokestatic 137, 3) := by decide +kernel
theorem dX12_why_38 : decode cX12_why 38 = .ok (.ifCond .eq 7, 3) := by decide +kernel
theorem dX12_why_41 : decode cX12_why 41 = .ok (.iconst 0, 1) := by decide +kernel
theorem dX12_why_42 : decode cX12_why 42 = .ok (.goto 5, 3) := by decide +kernel
theorem dX12_why_45 : decode cX12_why 45 = .ok (.bipush (-3), 2) := by decide +kernel
theorem dX12_why_47 : decode cX12_why 47 = .ok (.ireturn, 1) := by decide +kernel
theorem dX12_set_0 : decode cX12_set 0 = .ok (.iload_n 1, 1) := by decide +kernel
theorem dX12_set_1 : decode cX12_set 1 = .ok (.invokestatic 249, 3) := by decide +kernel
theorem dX12_set_4 : decode cX12_set 4 = .ok (.ifCond .eq 13, 3) := by decide +kernel
theorem dX12_set_7 : decode cX12_set 7 = .ok (.aload_n 0, 1) := by decide +kernel
theorem dX12_set_8 : decode cX12_set 8 = .ok (.iload_n 1, 1) := by decide +kernel
theorem dX12_set_9 : decode cX12_set 9 = .ok (.iload_n 2, 1) := by decide +kernel
theorem dX12_set_10 : decode cX12_set 10 = .ok (.i2l, 1) := by decide +kernel
theorem dX12_set_11 : decode cX12_set 11 = .ok (.invokevirtual 254, 3) := by decide +kernel
theorem dX12_set_14 : decode cX12_set 14 = .ok (.goto 5, 3) := by decide +kernel
theorem dX12_set_17 : decode cX12_set 17 = .ok (.bipush (-3), 2) := by decide +kernel
theorem dX12_set_19 : decode cX12_set 19 = .ok (.istore 5, 2) := by decide +kernel
theorem dX12_set_21 : decode cX12_set 21 = .ok (.iload 5, 2) := by decide +kernel
theorem dX12_set_23 : decode cX12_set 23 = .ok (.ifCond .eq 10, 3) := by decide +kernel
theorem dX12_set_26 : decode cX12_set 26 = .ok (.aload_n 0, 1) := by decide +kernel
theorem dX12_set_27 : decode cX12_set 27 = .ok (.iload 5, 2) := by decide +kernel
theorem dX12_set_29 : decode cX12_set 29 = .ok (.invokevirtual 124, 3) := by decide +kernel
theorem dX12_set_32 : decode cX12_set 32 = .ok (.ireturn, 1) := by decide +kernel
theorem dX12_set_33 : decode cX12_set 33 = .ok (.aload_n 0, 1) := by decide +kernel
theorem dX12_set_34 : decode cX12_set 34 = .ok (.getfield 65, 3) := by decide +kernel
theorem dX12_set_37 : decode cX12_set 37 = .ok (.bipush 40, 2) := by decide +kernel
theorem dX12_set_39 : decode cX12_set 39 = .ok (.iload_n 1, 1) := by decide +kernel
theorem dX12_set_40 : decode cX12_set 40 = .ok (.imul, 1) := by decide +kernel
theorem dX12_set_41 : decode cX12_set 41 = .ok (.iload_n 2, 1) := by decide +kernel
theorem dX12_set_42 : decode cX12_set 42 = .ok (.iadd, 1) := by decide +kernel
theorem dX12_set_43 : decode cX12_set 43 = .ok (.lload_n 3, 1) := by decide +kernel
theorem dX12_set_44 : decode cX12_set 44 = .ok (.lastore, 1) := by decide +kernel
theorem dX12_set_45 : decode cX12_set 45 = .ok (.iconst 1, 1) := by decide +kernel
theorem dX12_set_46 : decode cX12_set 46 = .ok (.ireturn, 1) := by decide +kernel
theorem dX12_get_0 : decode cX12_get 0 = .ok (.iload_n 1, 1) := by decide +kernel
theorem dX12_get_1 : decode cX12_get 1 = .ok (.invokestatic 249, 3) := by decide +kernel
theorem dX12_get_4 : decode cX12_get 4 = .ok (.ifCond .eq 13, 3) := by decide +kernel
theorem dX12_get_7 : decode cX12_get 7 = .ok (.aload_n 0, 1) := by decide +kernel
theorem dX12_get_8 : decode cX12_get 8 = .ok (.iload_n 1, 1) := by decide +kernel
theorem dX12_get_9 : decode cX12_get 9 = .ok (.iload_n 2, 1) := by decide +kernel
theorem dX12_get_10 : decode cX12_get 10 = .ok (.i2l, 1) := by decide +kernel
theorem dX12_get_11 : decode cX12_get 11 = .ok (.invokevirtual 254, 3) := by decide +kernel
theorem dX12_get_14 : decode cX12_get 14 = .ok (.goto 5, 3) := by decide +kernel
theorem dX12_get_17 : decode cX12_get 17 = .ok (.bipush (-3), 2) := by decide +kernel
theorem dX12_get_19 : decode cX12_get 19 = .ok (.istore_n 3, 1) := by decide +kernel
theorem dX12_get_20 : decode cX12_get 20 = .ok (.iload_n 3, 1) := by decide +kernel
theorem dX12_get_21 : decode cX12_get 21 = .ok (.ifCond .ne 15, 3) := by decide +kernel
theorem dX12_get_24 : decode cX12_get 24 = .ok (.aload_n 0, 1) := by decide +kernel
theorem dX12_get_25 : decode cX12_get 25 = .ok (.getfield 65, 3) := by decide +kernel
theorem dX12_get_28 : decode cX12_get 28 = .ok (.bipush 40, 2) := by decide +kernel
theorem dX12_get_30 : decode cX12_get 30 = .ok (.iload_n 1, 1) := by decide +kernel
theorem dX12_get_31 : decode cX12_get 31 = .ok (.imul, 1) := by decide +kernel
theorem dX12_get_32 : decode cX12_get 32 = .ok (.iload_n 2, 1) := by decide +kernel
theorem dX12_get_33 : decode cX12_get 33 = .ok (.iadd, 1) := by decide +kernel
theorem dX12_get_34 : decode cX12_get 34 = .ok (.laload, 1) := by decide +kernel
theorem dX12_get_35 : decode cX12_get 35 = .ok (.lreturn, 1) := by decide +kernel
theorem dX12_get_36 : decode cX12_get 36 = .ok (.aload_n 0, 1) := by decide +kernel
theorem dX12_get_37 : decode cX12_get 37 = .ok (.iload_n 3, 1) := by decide +kernel
theorem dX12_get_38 : decode cX12_get 38 = .ok (.invokevirtual 124, 3) := by decide +kernel
theorem dX12_get_41 : decode cX12_get 41 = .ok (.istore 4, 2) := by decide +kernel
theorem dX12_get_43 : decode cX12_get 43 = .ok (.lconst 0, 1) := by decide +kernel
theorem dX12_get_44 : decode cX12_get 44 = .ok (.lreturn, 1) := by decide +kernel
theorem dX12_copy_0 : decode cX12_copy 0 = .ok (.iload_n 1, 1) := by decide +kernel
theorem dX12_copy_1 : decode cX12_copy 1 = .ok (.invokestatic 249, 3) := by decide +kernel
theorem dX12_copy_4 : decode cX12_copy 4 = .ok (.ifCond .eq 10, 3) := by decide +kernel
theorem dX12_copy_7 : decode cX12_copy 7 = .ok (.iload_n 3, 1) := by decide +kernel
theorem dX12_copy_8 : decode cX12_copy 8 = .ok (.invokestatic 249, 3) := by decide +kernel
theorem dX12_copy_11 : decode cX12_copy 11 = .ok (.ifCond .ne 10, 3) := by decide +kernel
theorem dX12_copy_14 : decode cX12_copy 14 = .ok (.aload_n 0, 1) := by decide +kernel
theorem dX12_copy_15 : decode cX12_copy 15 = .ok (.bipush (-3), 2) := by decide +kernel
theorem dX12_copy_17 : decode cX12_copy 17 = .ok (.invokevirtual 124, 3) := by decide +kernel
theorem dX12_copy_20 : decode cX12_copy 20 = .ok (.ireturn, 1) := by decide +kernel
theorem dX12_copy_21 : decode cX12_copy 21 = .ok (.aload_n 0, 1) := by decide +kernel
theorem dX12_copy_22 : decode cX12_copy 22 = .ok (.getfield 71, 3) := by decide +kernel
theorem dX12_copy_25 : decode cX12_copy 25 = .ok (.iload_n 1, 1) := by decide +kernel
theorem dX12_copy_26 : decode cX12_copy 26 = .ok (.iaload, 1) := by decide +kernel
theorem dX12_copy_27 : decode cX12_copy 27 = .ok (.ifCond .eq 12, 3) := by decide +kernel
theorem dX12_copy_30 : decode cX12_copy 30 = .ok (.aload_n 0, 1) := by decide +kernel
theorem dX12_copy_31 : decode cX12_copy 31 = .ok (.getfield 71, 3) := by decide +kernel
theorem dX12_copy_34 : decode cX12_copy 34 = .ok (.iload_n 3, 1) := by decide +kernel
theorem dX12_copy_35 : decode cX12_copy 35 = .ok (.iaload, 1) := by decide +kernel
theorem dX12_copy_36 : decode cX12_copy 36 = .ok (.ifCond .ne 10, 3) := by decide +kernel
theorem dX12_copy_39 : decode cX12_copy 39 = .ok (.aload_n 0, 1) := by decide +kernel
theorem dX12_copy_40 : decode cX12_copy 40 = .ok (.bipush (-2), 2) := by decide +kernel
theorem dX12_copy_42 : decode cX12_copy 42 = .ok (.invokevirtual 124, 3) := by decide +kernel
theorem dX12_copy_45 : decode cX12_copy 45 = .ok (.ireturn, 1) := by decide +kernel
theorem dX12_copy_46 : decode cX12_copy 46 = .ok (.aload_n 0, 1) := by decide +kernel
theorem dX12_copy_47 : decode cX12_copy 47 = .ok (.getfield 74, 3) := by decide +kernel
theorem dX12_copy_50 : decode cX12_copy 50 = .ok (.iload_n 1, 1) := by decide +kernel
theorem dX12_copy_51 : decode cX12_copy 51 = .ok (.baload, 1) := by decide +kernel
theorem dX12_copy_52 : decode cX12_copy 52 = .ok (.ifCond .eq 12, 3) := by decide +kernel
theorem dX12_copy_55 : decode cX12_copy 55 = .ok (.aload_n 0, 1) := by decide +kernel
theorem dX12_copy_56 : decode cX12_copy 56 = .ok (.getfield 74, 3) := by decide +kernel
theorem dX12_copy_59 : decode cX12_copy 59 = .ok (.iload_n 3, 1) := by decide +kernel
theorem dX12_copy_60 : decode cX12_copy 60 = .ok (.baload, 1) := by decide +kernel
theorem dX12_copy_61 : decode cX12_copy 61 = .ok (.ifCond .ne 10, 3) := by decide +kernel
theorem dX12_copy_64 : decode cX12_copy 64 = .ok (.aload_n 0, 1) := by decide +kernel
theorem dX12_copy_65 : decode cX12_copy 65 = .ok (.bipush (-5), 2) := by decide +kernel
theorem dX12_copy_67 : decode cX12_copy 67 = .ok (.invokevirtual 124, 3) := by decide +kernel
theorem dX12_copy_70 : decode cX12_copy 70 = .ok (.ireturn, 1) := by decide +kernel
theorem dX12_copy_71 : decode cX12_copy 71 = .ok (.iload 5, 2) := by decide +kernel
theorem dX12_copy_73 : decode cX12_copy 73 = .ok (.ifCond .ge 10, 3) := by decide +kernel
theorem dX12_copy_76 : decode cX12_copy 76 = .ok (.aload_n 0, 1) := by decide +kernel
theorem dX12_copy_77 : decode cX12_copy 77 = .ok (.bipush (-4), 2) := by decide +kernel
theorem dX12_copy_79 : decode cX12_copy 79 = .ok (.invokevirtual 124, 3) := by decide +kernel
theorem dX12_copy_82 : decode cX12_copy 82 = .ok (.ireturn, 1) := by decide +kernel
theorem dX12_copy_83 : decode cX12_copy 83 = .ok (.iload_n 2, 1) := by decide +kernel
theorem dX12_copy_84 : decode cX12_copy 84 = .ok (.ifCond .lt 43, 3) := by decide +kernel
theorem dX12_copy_87 : decode cX12_copy 87 = .ok (.iload 4, 2) := by decide +kernel
theorem dX12_copy_89 : decode cX12_copy 89 = .ok (.ifCond .lt 38, 3) := by decide +kernel
theorem dX12_copy_92 : decode cX12_copy 92 = .ok (.iload_n 2, 1) := by decide +kernel
theorem dX12_copy_93 : decode cX12_copy 93 = .ok (.i2l, 1) := by decide +kernel
theorem dX12_copy_94 : decode cX12_copy 94 = .ok (.iload 5, 2) := by decide +kernel
theorem dX12_copy_96 : decode cX12_copy 96 = .ok (.i2l, 1) := by decide +kernel
theorem dX12_copy_97 : decode cX12_copy 97 = .ok (.ladd, 1) := by decide +kernel
theorem dX12_copy_98 : decode cX12_copy 98 = .ok (.aload_n 0, 1) := by decide +kernel
theorem dX12_copy_99 : decode cX12_copy 99 = .ok (.getfield 71, 3) := by decide +kernel
theorem dX12_copy_102 : decode cX12_copy 102 = .ok (.iload_n 1, 1) := by decide +kernel
theorem dX12_copy_103 : decode cX12_copy 103 = .ok (.iaload, 1) := by decide +kernel
theorem dX12_copy_104 : decode cX12_copy 104 = .ok (.i2l, 1) := by decide +kernel
theorem dX12_copy_105 : decode cX12_copy 105 = .ok (.lcmp, 1) := by decide +kernel
theorem dX12_copy_106 : decode cX12_copy 106 = .ok (.ifCond .gt 21, 3) := by decide +kernel
theorem dX12_copy_109 : decode cX12_copy 109 = .ok (.iload 4, 2) := by decide +kernel
theorem dX12_copy_111 : decode cX12_copy 111 = .ok (.i2l, 1) := by decide +kernel
theorem dX12_copy_112 : decode cX12_copy 112 = .ok (.iload 5, 2) := by decide +kernel
theorem dX12_copy_114 : decode cX12_copy 114 = .ok (.i2l, 1) := by decide +kernel
theorem dX12_copy_115 : decode cX12_copy 115 = .ok (.ladd, 1) := by decide +kernel
theorem dX12_copy_116 : decode cX12_copy 116 = .ok (.aload_n 0, 1) := by decide +kernel
theorem dX12_copy_117 : decode cX12_copy 117 = .ok (.getfield 71, 3) := by decide +kernel
theorem dX12_copy_120 : decode cX12_copy 120 = .ok (.iload_n 3, 1) := by decide +kernel
theorem dX12_copy_121 : decode cX12_copy 121 = .ok (.iaload, 1) := by decide +kernel
theorem dX12_copy_122 : decode cX12_copy 122 = .ok (.i2l, 1) := by decide +kernel
theorem dX12_copy_123 : decode cX12_copy 123 = .ok (.lcmp, 1) := by decide +kernel
theorem dX12_copy_124 : decode cX12_copy 124 = .ok (.ifCond .le 10, 3) := by decide +kernel
theorem dX12_copy_127 : decode cX12_copy 127 = .ok (.aload_n 0, 1) := by decide +kernel
theorem dX12_copy_128 : decode cX12_copy 128 = .ok (.bipush (-6), 2) := by decide +kernel
theorem dX12_copy_130 : decode cX12_copy 130 = .ok (.invokevirtual 124, 3) := by decide +kernel
theorem dX12_copy_133 : decode cX12_copy 133 = .ok (.ireturn, 1) := by decide +kernel
theorem dX12_copy_134 : decode cX12_copy 134 = .ok (.iconst 0, 1) := by decide +kernel
theorem dX12_copy_135 : decode cX12_copy 135 = .ok (.istore 6, 2) := by decide +kernel
theorem dX12_copy_137 : decode cX12_copy 137 = .ok (.iload 6, 2) := by decide +kernel
theorem dX12_copy_139 : decode cX12_copy 139 = .ok (.sipush 320, 3) := by decide +kernel
theorem dX12_copy_142 : decode cX12_copy 142 = .ok (.if_icmp .ge 23, 3) := by decide +kernel
theorem dX12_copy_145 : decode cX12_copy 145 = .ok (.aload_n 0, 1) := by decide +kernel
theorem dX12_copy_146 : decode cX12_copy 146 = .ok (.getfield 68, 3) := by decide +kernel
theorem dX12_copy_149 : decode cX12_copy 149 = .ok (.iload 6, 2) := by decide +kernel
theorem dX12_copy_151 : decode cX12_copy 151 = .ok (.aload_n 0, 1) := by decide +kernel
theorem dX12_copy_152 : decode cX12_copy 152 = .ok (.getfield 65, 3) := by decide +kernel
theorem dX12_copy_155 : decode cX12_copy 155 = .ok (.iload 6, 2) := by decide +kernel
theorem dX12_copy_157 : decode cX12_copy 157 = .ok (.laload, 1) := by decide +kernel
theorem dX12_copy_158 : decode cX12_copy 158 = .ok (.lastore, 1) := by decide +kernel
theorem dX12_copy_159 : decode cX12_copy 159 = .ok (.iinc 6 1, 3) := by decide +kernel
theorem dX12_copy_162 : decode cX12_copy 162 = .ok (.goto (-25), 3) := by decide +kernel
theorem dX12_copy_165 : decode cX12_copy 165 = .ok (.iconst 0, 1) := by decide +kernel
theorem dX12_copy_166 : decode cX12_copy 166 = .ok (.istore 6, 2) := by decide +kernel
theorem dX12_copy_168 : decode cX12_copy 168 = .ok (.iload 6, 2) := by decide +kernel
theorem dX12_copy_170 : decode cX12_copy 170 = .ok (.iload 5, 2) := by decide +kernel
theorem dX12_copy_172 : decode cX12_copy 172 = .ok (.if_icmp .ge 38, 3) := by decide +kernel
theorem dX12_copy_175 : decode cX12_copy 175 = .ok (.aload_n 0, 1) := by decide +kernel
theorem dX12_copy_176 : decode cX12_copy 176 = .ok (.getfield 65, 3) := by decide +kernel
theorem dX12_copy_179 : decode cX12_copy 179 = .ok (.bipush 40, 2) := by decide +kernel
theorem dX12_copy_181 : decode cX12_copy 181 = .ok (.iload_n 3, 1) := by decide +kernel
theorem dX12_copy_182 : decode cX12_copy 182 = .ok (.imul, 1) := by decide +kernel
theorem dX12_copy_183 : decode cX12_copy 183 = .ok (.iload 4, 2) := by decide +kernel
theorem dX12_copy_185 : decode cX12_copy 185 = .ok (.iadd, 1) := by decide +kernel
theorem dX12_copy_186 : decode cX12_copy 186 = .ok (.iload 6, 2) := by decide +kernel
theorem dX12_copy_188 : decode cX12_copy 188 = .ok (.iadd, 1) := by decide +kernel
theorem dX12_copy_189 : decode cX12_copy 189 = .ok (.aload_n 0, 1) := by decide +kernel
theorem dX12_copy_190 : decode cX12_copy 190 = .ok (.getfield 68, 3) := by decide +kernel
theorem dX12_copy_193 : decode cX12_copy 193 = .ok (.bipush 40, 2) := by decide +kernel
theorem dX12_copy_195 : decode cX12_copy 195 = .ok (.iload_n 1, 1) := by decide +kernel
theorem dX12_copy_196 : decode cX12_copy 196 = .ok (.imul, 1) := by decide +kernel
theorem dX12_copy_197 : decode cX12_copy 197 = .ok (.iload_n 2, 1) := by decide +kernel
theorem dX12_copy_198 : decode cX12_copy 198 = .ok (.iadd, 1) := by decide +kernel
theorem dX12_copy_199 : decode cX12_copy 199 = .ok (.iload 6, 2) := by decide +kernel
theorem dX12_copy_201 : decode cX12_copy 201 = .ok (.iadd, 1) := by decide +kernel
theorem dX12_copy_202 : decode cX12_copy 202 = .ok (.laload, 1) := by decide +kernel
theorem dX12_copy_203 : decode cX12_copy 203 = .ok (.lastore, 1) := by decide +kernel
theorem dX12_copy_204 : decode cX12_copy 204 = .ok (.iinc 6 1, 3) := by decide +kernel
theorem dX12_copy_207 : decode cX12_copy 207 = .ok (.goto (-39), 3) := by decide +kernel
theorem dX12_copy_210 : decode cX12_copy 210 = .ok (.iload 5, 2) := by decide +kernel
theorem dX12_copy_212 : decode cX12_copy 212 = .ok (.ireturn, 1) := by decide +kernel
theorem dX12_forget_0 : decode cX12_forget 0 = .ok (.aload_n 0, 1) := by decide +kernel
theorem dX12_forget_1 : decode cX12_forget 1 = .ok (.iconst 0, 1) := by decide +kernel
theorem dX12_forget_2 : decode cX12_forget 2 = .ok (.putfield 258, 3) := by decide +kernel
theorem dX12_forget_5 : decode cX12_forget 5 = .ok (.aload_n 0, 1) := by decide +kernel
theorem dX12_forget_6 : decode cX12_forget 6 = .ok (.iconst (-1), 1) := by decide +kernel
theorem dX12_forget_7 : decode cX12_forget 7 = .ok (.putfield 261, 3) := by decide +kernel
theorem dX12_forget_10 : decode cX12_forget 10 = .ok (.aload_n 0, 1) := by decide +kernel
theorem dX12_forget_11 : decode cX12_forget 11 = .ok (.iconst (-1), 1) := by decide +kernel
theorem dX12_forget_12 : decode cX12_forget 12 = .ok (.putfield 264, 3) := by decide +kernel
theorem dX12_forget_15 : decode cX12_forget 15 = .ok (.aload_n 0, 1) := by decide +kernel
theorem dX12_forget_16 : decode cX12_forget 16 = .ok (.iconst 0, 1) := by decide +kernel
theorem dX12_forget_17 : decode cX12_forget 17 = .ok (.putfield 267, 3) := by decide +kernel
theorem dX12_forget_20 : decode cX12_forget 20 = .ok (.aload_n 0, 1) := by decide +kernel
theorem dX12_forget_21 : decode cX12_forget 21 = .ok (.iconst 0, 1) := by decide +kernel
theorem dX12_forget_22 : decode cX12_forget 22 = .ok (.putfield 270, 3) := by decide +kernel
theorem dX12_forget_25 : decode cX12_forget 25 = .ok (.aload_n 0, 1) := by decide +kernel
theorem dX12_forget_26 : decode cX12_forget 26 = .ok (.iconst 0, 1) := by decide +kernel
theorem dX12_forget_27 : decode cX12_forget 27 = .ok (.putfield 273, 3) := by decide +kernel
theorem dX12_forget_30 : decode cX12_forget 30 = .ok (.aload_n 0, 1) := by decide +kernel
theorem dX12_forget_31 : decode cX12_forget 31 = .ok (.iconst 0, 1) := by decide +kernel
theorem dX12_forget_32 : decode cX12_forget 32 = .ok (.putfield 276, 3) := by decide +kernel
theorem dX12_forget_35 : decode cX12_forget 35 = .ok (.return_, 1) := by decide +kernel
theorem dX12_value_0 : decode cX12_value 0 = .ok (.aload_n 0, 1) := by decide +kernel
theorem dX12_value_1 : decode cX12_value 1 = .ok (.getfield 25, 3) := by decide +kernel
theorem dX12_value_4 : decode cX12_value 4 = .ok (.iconst 3, 1) := by decide +kernel
theorem dX12_value_5 : decode cX12_value 5 = .ok (.iload_n 1, 1) := by decide +kernel
theorem dX12_value_6 : decode cX12_value 6 = .ok (.imul, 1) := by decide +kernel
theorem dX12_value_7 : decode cX12_value 7 = .ok (.iload_n 2, 1) := by decide +kernel
theorem dX12_value_8 : decode cX12_value 8 = .ok (.iadd, 1) := by decide +kernel
theorem dX12_value_9 : decode cX12_value 9 = .ok (.iaload, 1) := by decide +kernel
theorem dX12_value_10 : decode cX12_value 10 = .ok (.istore 4, 2) := by decide +kernel
theorem dX12_value_12 : decode cX12_value 12 = .ok (.iload_n 3, 1) := by decide +kernel
theorem dX12_value_13 : decode cX12_value 13 = .ok (.aload_n 0, 1) := by decide +kernel
theorem dX12_value_14 : decode cX12_value 14 = .ok (.getfield 28, 3) := by decide +kernel
theorem dX12_value_17 : decode cX12_value 17 = .ok (.iconst 3, 1) := by decide +kernel
theorem dX12_value_18 : decode cX12_value 18 = .ok (.iload_n 1, 1) := by decide +kernel
theorem dX12_value_19 : decode cX12_value 19 = .ok (.imul, 1) := by decide +kernel
theorem dX12_value_20 : decode cX12_value 20 = .ok (.iload_n 2, 1) := by decide +kernel
theorem dX12_value_21 : decode cX12_value 21 = .ok (.iadd, 1) := by decide +kernel
theorem dX12_value_22 : decode cX12_value 22 = .ok (.iaload, 1) := by decide +kernel
theorem dX12_value_23 : decode cX12_value 23 = .ok (.isub, 1) := by decide +kernel
theorem dX12_value_24 : decode cX12_value 24 = .ok (.istore 5, 2) := by decide +kernel
theorem dX12_value_26 : decode cX12_value 26 = .ok (.iload 5, 2) := by decide +kernel
theorem dX12_value_28 : decode cX12_value 28 = .ok (.ifCond .ge 13, 3) := by decide +kernel
theorem dX12_value_31 : decode cX12_value 31 = .ok (.aload_n 0, 1) := by decide +kernel
theorem dX12_value_32 : decode cX12_value 32 = .ok (.getfield 31, 3) := by decide +kernel
theorem dX12_value_35 : decode cX12_value 35 = .ok (.iload 4, 2) := by decide +kernel
theorem dX12_value_37 : decode cX12_value 37 = .ok (.laload, 1) := by decide +kernel
theorem dX12_value_38 : decode cX12_value 38 = .ok (.goto 16, 3) := by decide +kernel
theorem dX12_value_41 : decode cX12_value 41 = .ok (.aload_n 0, 1) := by decide +kernel
theorem dX12_value_42 : decode cX12_value 42 = .ok (.getfield 105, 3) := by decide +kernel
theorem dX12_value_45 : decode cX12_value 45 = .ok (.bipush 16, 2) := by decide +kernel
theorem dX12_value_47 : decode cX12_value 47 = .ok (.iload 5, 2) := by decide +kernel
theorem dX12_value_49 : decode cX12_value 49 = .ok (.imul, 1) := by decide +kernel
theorem dX12_value_50 : decode cX12_value 50 = .ok (.iload 4, 2) := by decide +kernel
theorem dX12_value_52 : decode cX12_value 52 = .ok (.iadd, 1) := by decide +kernel
theorem dX12_value_53 : decode cX12_value 53 = .ok (.laload, 1) := by decide +kernel
theorem dX12_value_54 : decode cX12_value 54 = .ok (.lreturn, 1) := by decide +kernel
theorem dX12_does_0 : decode cX12_does 0 = .ok (.aload_n 0, 1) := by decide +kernel
theorem dX12_does_1 : decode cX12_does 1 = .ok (.getfield 7, 3) := by decide +kernel
theorem dX12_does_4 : decode cX12_does 4 = .ok (.iload_n 1, 1) := by decide +kernel
theorem dX12_does_5 : decode cX12_does 5 = .ok (.iaload, 1) := by decide +kernel
theorem dX12_does_6 : decode cX12_does 6 = .ok (.ifCond .ne 12, 3) := by decide +kernel
theorem dX12_does_9 : decode cX12_does 9 = .ok (.aload_n 0, 1) := by decide +kernel
theorem dX12_does_10 : decode cX12_does 10 = .ok (.getfield 35, 3) := by decide +kernel
theorem dX12_does_13 : decode cX12_does 13 = .ok (.iload_n 1, 1) := by decide +kernel
theorem dX12_does_14 : decode cX12_does 14 = .ok (.laload, 1) := by decide +kernel
theorem dX12_does_15 : decode cX12_does 15 = .ok (.goto 10, 3) := by decide +kernel
theorem dX12_does_18 : decode cX12_does 18 = .ok (.aload_n 0, 1) := by decide +kernel
theorem dX12_does_19 : decode cX12_does 19 = .ok (.iload_n 1, 1) := by decide +kernel
theorem dX12_does_20 : decode cX12_does 20 = .ok (.iconst 0, 1) := by decide +kernel
theorem dX12_does_21 : decode cX12_does 21 = .ok (.iload_n 2, 1) := by decide +kernel
theorem dX12_does_22 : decode cX12_does 22 = .ok (.invokevirtual 279, 3) := by decide +kernel
theorem dX12_does_25 : decode cX12_does 25 = .ok (.lstore_n 3, 1) := by decide +kernel
theorem dX12_does_26 : decode cX12_does 26 = .ok (.aload_n 0, 1) := by decide +kernel
theorem dX12_does_27 : decode cX12_does 27 = .ok (.getfield 25, 3) := by decide +kernel
theorem dX12_does_30 : decode cX12_does 30 = .ok (.iconst 3, 1) := by decide +kernel
theorem dX12_does_31 : decode cX12_does 31 = .ok (.iload_n 1, 1) := by decide +kernel
theorem dX12_does_32 : decode cX12_does 32 = .ok (.imul, 1) := by decide +kernel
theorem dX12_does_33 : decode cX12_does 33 = .ok (.iconst 1, 1) := by decide +kernel
theorem dX12_does_34 : decode cX12_does 34 = .ok (.iadd, 1) := by decide +kernel
theorem dX12_does_35 : decode cX12_does 35 = .ok (.iaload, 1) := by decide +kernel
theorem dX12_does_36 : decode cX12_does 36 = .ok (.ifCond .ge 7, 3) := by decide +kernel
theorem dX12_does_39 : decode cX12_does 39 = .ok (.lconst 0, 1) := by decide +kernel
theorem dX12_does_40 : decode cX12_does 40 = .ok (.goto 10, 3) := by decide +kernel
theorem dX12_does_43 : decode cX12_does 43 = .ok (.aload_n 0, 1) := by decide +kernel
theorem dX12_does_44 : decode cX12_does 44 = .ok (.iload_n 1, 1) := by decide +kernel
theorem dX12_does_45 : decode cX12_does 45 = .ok (.iconst 1, 1) := by decide +kernel
theorem dX12_does_46 : decode cX12_does 46 = .ok (.iload_n 2, 1) := by decide +kernel
theorem dX12_does_47 : decode cX12_does 47 = .ok (.invokevirtual 279, 3) := by decide +kernel
theorem dX12_does_50 : decode cX12_does 50 = .ok (.lstore 5, 2) := by decide +kernel
theorem dX12_does_52 : decode cX12_does 52 = .ok (.lload_n 3, 1) := by decide +kernel
theorem dX12_does_53 : decode cX12_does 53 = .ok (.lstore 7, 2) := by decide +kernel
theorem dX12_does_55 : decode cX12_does 55 = .ok (.iconst 0, 1) := by decide +kernel
theorem dX12_does_56 : decode cX12_does 56 = .ok (.istore 9, 2) := by decide +kernel
theorem dX12_does_58 : decode cX12_does 58 = .ok (.aload_n 0, 1) := by decide +kernel
theorem dX12_does_59 : decode cX12_does 59 = .ok (.getfield 7, 3) := by decide +kernel
theorem dX12_does_62 : decode cX12_does 62 = .ok (.iload_n 1, 1) := by decide +kernel
theorem dX12_does_63 : decode cX12_does 63 = .ok (.iaload, 1) := by decide +kernel
theorem dX12_does_64 : decode cX12_does 64 = .ok (.iconst 1, 1) := by decide +kernel
theorem dX12_does_65 : decode cX12_does 65 = .ok (.if_icmp .ne 9, 3) := by decide +kernel
theorem dX12_does_68 : decode cX12_does 68 = .ok (.lload_n 3, 1) := by decide +kernel
theorem dX12_does_69 : decode cX12_does 69 = .ok (.lload 5, 2) := by decide +kernel
theorem dX12_does_71 : decode cX12_does 71 = .ok (.ladd, 1) := by decide +kernel
theorem dX12_does_72 : decode cX12_does 72 = .ok (.lstore 7, 2) := by decide +kernel
theorem dX12_does_74 : decode cX12_does 74 = .ok (.aload_n 0, 1) := by decide +kernel
theorem dX12_does_75 : decode cX12_does 75 = .ok (.getfield 7, 3) := by decide +kernel
theorem dX12_does_78 : decode cX12_does 78 = .ok (.iload_n 1, 1) := by decide +kernel
theorem dX12_does_79 : decode cX12_does 79 = .ok (.iaload, 1) := by decide +kernel
theorem dX12_does_80 : decode cX12_does 80 = .ok (.iconst 2, 1) := by decide +kernel
theorem dX12_does_81 : decode cX12_does 81 = .ok (.if_icmp .ne 9, 3) := by decide +kernel
theorem dX12_does_84 : decode cX12_does 84 = .ok (.lload_n 3, 1) := by decide +kernel
theorem dX12_does_85 : decode cX12_does 85 = .ok (.lload 5, 2) := by decide +kernel
theorem dX12_does_87 : decode cX12_does 87 = .ok (.lmul, 1) := by decide +kernel
theorem dX12_does_88 : decode cX12_does 88 = .ok (.lstore 7, 2) := by decide +kernel
theorem dX12_does_90 : decode cX12_does 90 = .ok (.aload_n 0, 1) := by decide +kernel
theorem dX12_does_91 : decode cX12_does 91 = .ok (.getfield 7, 3) := by decide +kernel
theorem dX12_does_94 : decode cX12_does 94 = .ok (.iload_n 1, 1) := by decide +kernel
theorem dX12_does_95 : decode cX12_does 95 = .ok (.iaload, 1) := by decide +kernel
theorem dX12_does_96 : decode cX12_does 96 = .ok (.bipush 6, 2) := by decide +kernel
theorem dX12_does_98 : decode cX12_does 98 = .ok (.if_icmp .ne 23, 3) := by decide +kernel
theorem dX12_does_101 : decode cX12_does 101 = .ok (.lload_n 3, 1) := by decide +kernel
theorem dX12_does_102 : decode cX12_does 102 = .ok (.lconst 0, 1) := by decide +kernel
theorem dX12_does_103 : decode cX12_does 103 = .ok (.lcmp, 1) := by decide +kernel
theorem dX12_does_104 : decode cX12_does 104 = .ok (.ifCond .eq 8, 3) := by decide +kernel
theorem dX12_does_107 : decode cX12_does 107 = .ok (.lload 5, 2) := by decide +kernel
theorem dX12_does_109 : decode cX12_does 109 = .ok (.goto 10, 3) := by decide +kernel
theorem dX12_does_112 : decode cX12_does 112 = .ok (.aload_n 0, 1) := by decide +kernel
theorem dX12_does_113 : decode cX12_does 113 = .ok (.iload_n 1, 1) := by decide +kernel
theorem dX12_does_114 : decode cX12_does 114 = .ok (.iconst 2, 1) := by decide +kernel
theorem dX12_does_115 : decode cX12_does 115 = .ok (.iload_n 2, 1) := by decide +kernel
theorem dX12_does_116 : decode cX12_does 116 = .ok (.invokevirtual 279, 3) := by decide +kernel
theorem dX12_does_119 : decode cX12_does 119 = .ok (.lstore 7, 2) := by decide +kernel
theorem dX12_does_121 : decode cX12_does 121 = .ok (.aload_n 0, 1) := by decide +kernel
theorem dX12_does_122 : decode cX12_does 122 = .ok (.getfield 7, 3) := by decide +kernel
theorem dX12_does_125 : decode cX12_does 125 = .ok (.iload_n 1, 1) := by decide +kernel
theorem dX12_does_126 : decode cX12_does 126 = .ok (.iaload, 1) := by decide +kernel
theorem dX12_does_127 : decode cX12_does 127 = .ok (.iconst 3, 1) := by decide +kernel
theorem dX12_does_128 : decode cX12_does 128 = .ok (.if_icmp .ne 13, 3) := by decide +kernel
theorem dX12_does_131 : decode cX12_does 131 = .ok (.lload 5, 2) := by decide +kernel
theorem dX12_does_133 : decode cX12_does 133 = .ok (.lconst 0, 1) := by decide +kernel
theorem dX12_does_134 : decode cX12_does 134 = .ok (.lcmp, 1) := by decide +kernel
theorem dX12_does_135 : decode cX12_does 135 = .ok (.ifCond .ne 6, 3) := by decide +kernel
theorem dX12_does_138 : decode cX12_does 138 = .ok (.bipush (-8), 2) := by decide +kernel
theorem dX12_does_140 : decode cX12_does 140 = .ok (.ireturn, 1) := by decide +kernel
theorem dX12_does_141 : decode cX12_does 141 = .ok (.aload_n 0, 1) := by decide +kernel
theorem dX12_does_142 : decode cX12_does 142 = .ok (.getfield 7, 3) := by decide +kernel
theorem dX12_does_145 : decode cX12_does 145 = .ok (.iload_n 1, 1) := by decide +kernel
theorem dX12_does_146 : decode cX12_does 146 = .ok (.iaload, 1) := by decide +kernel
theorem dX12_does_147 : decode cX12_does 147 = .ok (.iconst 3, 1) := by decide +kernel
theorem dX12_does_148 : decode cX12_does 148 = .ok (.if_icmp .ne 9, 3) := by decide +kernel
theorem dX12_does_151 : decode cX12_does 151 = .ok (.lload_n 3, 1) := by decide +kernel
theorem dX12_does_152 : decode cX12_does 152 = .ok (.lload 5, 2) := by decide +kernel
theorem dX12_does_154 : decode cX12_does 154 = .ok (.ldiv, 1) := by decide +kernel
theorem dX12_does_155 : decode cX12_does 155 = .ok (.lstore 7, 2) := by decide +kernel
theorem dX12_does_157 : decode cX12_does 157 = .ok (.aload_n 0, 1) := by decide +kernel
theorem dX12_does_158 : decode cX12_does 158 = .ok (.iload_n 1, 1) := by decide +kernel
theorem dX12_does_159 : decode cX12_does 159 = .ok (.invokevirtual 190, 3) := by decide +kernel
theorem dX12_does_162 : decode cX12_does 162 = .ok (.ifCond .eq 66, 3) := by decide +kernel
theorem dX12_does_165 : decode cX12_does 165 = .ok (.aload_n 0, 1) := by decide +kernel
theorem dX12_does_166 : decode cX12_does 166 = .ok (.aload_n 0, 1) := by decide +kernel
theorem dX12_does_167 : decode cX12_does 167 = .ok (.getfield 22, 3) := by decide +kernel
theorem dX12_does_170 : decode cX12_does 170 = .ok (.iload_n 1, 1) := by decide +kernel
theorem dX12_does_171 : decode cX12_does 171 = .ok (.iaload, 1) := by decide +kernel
theorem dX12_does_172 : decode cX12_does 172 = .ok (.lload_n 3, 1) := by decide +kernel
theorem dX12_does_173 : decode cX12_does 173 = .ok (.invokevirtual 254, 3) := by decide +kernel
theorem dX12_does_176 : decode cX12_does 176 = .ok (.istore 9, 2) := by decide +kernel
theorem dX12_does_178 : decode cX12_does 178 = .ok (.iload 9, 2) := by decide +kernel
theorem dX12_does_180 : decode cX12_does 180 = .ok (.ifCond .eq 6, 3) := by decide +kernel
theorem dX12_does_183 : decode cX12_does 183 = .ok (.iload 9, 2) := by decide +kernel
theorem dX12_does_185 : decode cX12_does 185 = .ok (.ireturn, 1) := by decide +kernel
theorem dX12_does_186 : decode cX12_does 186 = .ok (.bipush 40, 2) := by decide +kernel
theorem dX12_does_188 : decode cX12_does 188 = .ok (.aload_n 0, 1) := by decide +kernel
theorem dX12_does_189 : decode cX12_does 189 = .ok (.getfield 22, 3) := by decide +kernel
theorem dX12_does_192 : decode cX12_does 192 = .ok (.iload_n 1, 1) := by decide +kernel
theorem dX12_does_193 : decode cX12_does 193 = .ok (.iaload, 1) := by decide +kernel
theorem dX12_does_194 : decode cX12_does 194 = .ok (.imul, 1) := by decide +kernel
theorem dX12_does_195 : decode cX12_does 195 = .ok (.lload_n 3, 1) := by decide +kernel
theorem dX12_does_196 : decode cX12_does 196 = .ok (.l2i, 1) := by decide +kernel
theorem dX12_does_197 : decode cX12_does 197 = .ok (.iadd, 1) := by decide +kernel
theorem dX12_does_198 : decode cX12_does 198 = .ok (.istore 10, 2) := by decide +kernel
theorem dX12_does_200 : decode cX12_does 200 = .ok (.aload_n 0, 1) := by decide +kernel
theorem dX12_does_201 : decode cX12_does 201 = .ok (.getfield 65, 3) := by decide +kernel
theorem dX12_does_204 : decode cX12_does 204 = .ok (.iload 10, 2) := by decide +kernel
theorem dX12_does_206 : decode cX12_does 206 = .ok (.laload, 1) := by decide +kernel
theorem dX12_does_207 : decode cX12_does 207 = .ok (.lstore 7, 2) := by decide +kernel
theorem dX12_does_209 : decode cX12_does 209 = .ok (.aload_n 0, 1) := by decide +kernel
theorem dX12_does_210 : decode cX12_does 210 = .ok (.getfield 7, 3) := by decide +kernel
theorem dX12_does_213 : decode cX12_does 213 = .ok (.iload_n 1, 1) := by decide +kernel
theorem dX12_does_214 : decode cX12_does 214 = .ok (.iaload, 1) := by decide +kernel
theorem dX12_does_215 : decode cX12_does 215 = .ok (.iconst 5, 1) := by decide +kernel
theorem dX12_does_216 : decode cX12_does 216 = .ok (.if_icmp .ne 12, 3) := by decide +kernel
theorem dX12_does_219 : decode cX12_does 219 = .ok (.aload_n 0, 1) := by decide +kernel
theorem dX12_does_220 : decode cX12_does 220 = .ok (.getfield 65, 3) := by decide +kernel
theorem dX12_does_223 : decode cX12_does 223 = .ok (.iload 10, 2) := by decide +kernel
theorem dX12_does_225 : decode cX12_does 225 = .ok (.lload 5, 2) := by decide +kernel
theorem dX12_does_227 : decode cX12_does 227 = .ok (.lastore, 1) := by decide +kernel
theorem dX12_does_228 : decode cX12_does 228 = .ok (.aload_n 0, 1) := by decide +kernel
theorem dX12_does_229 : decode cX12_does 229 = .ok (.getfield 105, 3) := by decide +kernel
theorem dX12_does_232 : decode cX12_does 232 = .ok (.bipush 16, 2) := by decide +kernel
theorem dX12_does_234 : decode cX12_does 234 = .ok (.iload_n 2, 1) := by decide +kernel
theorem dX12_does_235 : decode cX12_does 235 = .ok (.imul, 1) := by decide +kernel
theorem dX12_does_236 : decode cX12_does 236 = .ok (.iload_n 1, 1) := by decide +kernel
theorem dX12_does_237 : decode cX12_does 237 = .ok (.iadd, 1) := by decide +kernel
theorem dX12_does_238 : decode cX12_does 238 = .ok (.lload 7, 2) := by decide +kernel
theorem dX12_does_240 : decode cX12_does 240 = .ok (.lastore, 1) := by decide +kernel
theorem dX12_does_241 : decode cX12_does 241 = .ok (.iconst 0, 1) := by decide +kernel
theorem dX12_does_242 : decode cX12_does 242 = .ok (.ireturn, 1) := by decide +kernel
theorem dX12_plain_0 : decode cX12_plain 0 = .ok (.iconst 0, 1) := by decide +kernel
theorem dX12_plain_1 : decode cX12_plain 1 = .ok (.istore_n 2, 1) := by decide +kernel
theorem dX12_plain_2 : decode cX12_plain 2 = .ok (.iload_n 2, 1) := by decide +kernel
theorem dX12_plain_3 : decode cX12_plain 3 = .ok (.iload_n 1, 1) := by decide +kernel
theorem dX12_plain_4 : decode cX12_plain 4 = .ok (.if_icmp .ge 88, 3) := by decide +kernel
theorem dX12_plain_7 : decode cX12_plain 7 = .ok (.iconst 0, 1) := by decide +kernel
theorem dX12_plain_8 : decode cX12_plain 8 = .ok (.istore_n 3, 1) := by decide +kernel
theorem dX12_plain_9 : decode cX12_plain 9 = .ok (.iload_n 3, 1) := by decide +kernel
theorem dX12_plain_10 : decode cX12_plain 10 = .ok (.aload_n 0, 1) := by decide +kernel
theorem dX12_plain_11 : decode cX12_plain 11 = .ok (.getfield 118, 3) := by decide +kernel
theorem dX12_plain_14 : decode cX12_plain 14 = .ok (.if_icmp .ge 65, 3) := by decide +kernel
theorem dX12_plain_17 : decode cX12_plain 17 = .ok (.aload_n 0, 1) := by decide +kernel
theorem dX12_plain_18 : decode cX12_plain 18 = .ok (.dup, 1) := by decide +kernel
theorem dX12_plain_19 : decode cX12_plain 19 = .ok (.getfield 267, 3) := by decide +kernel
theorem dX12_plain_22 : decode cX12_plain 22 = .ok (.iconst 1, 1) := by decide +kernel
theorem dX12_plain_23 : decode cX12_plain 23 = .ok (.iadd, 1) := by decide +kernel
theorem dX12_plain_24 : decode cX12_plain 24 = .ok (.putfield 267, 3) := by decide +kernel
theorem dX12_plain_27 : decode cX12_plain 27 = .ok (.aload_n 0, 1) := by decide +kernel
theorem dX12_plain_28 : decode cX12_plain 28 = .ok (.dup, 1) := by decide +kernel
theorem dX12_plain_29 : decode cX12_plain 29 = .ok (.getfield 270, 3) := by decide +kernel
theorem dX12_plain_32 : decode cX12_plain 32 = .ok (.aload_n 0, 1) := by decide +kernel
theorem dX12_plain_33 : decode cX12_plain 33 = .ok (.getfield 13, 3) := by decide +kernel
theorem dX12_plain_36 : decode cX12_plain 36 = .ok (.iload_n 3, 1) := by decide +kernel
theorem dX12_plain_37 : decode cX12_plain 37 = .ok (.iaload, 1) := by decide +kernel
theorem dX12_plain_38 : decode cX12_plain 38 = .ok (.iadd, 1) := by decide +kernel
theorem dX12_plain_39 : decode cX12_plain 39 = .ok (.putfield 270, 3) := by decide +kernel
theorem dX12_plain_42 : decode cX12_plain 42 = .ok (.aload_n 0, 1) := by decide +kernel
theorem dX12_plain_43 : decode cX12_plain 43 = .ok (.aload_n 0, 1) := by decide +kernel
theorem dX12_plain_44 : decode cX12_plain 44 = .ok (.iload_n 3, 1) := by decide +kernel
theorem dX12_plain_45 : decode cX12_plain 45 = .ok (.iload_n 2, 1) := by decide +kernel
theorem dX12_plain_46 : decode cX12_plain 46 = .ok (.invokevirtual 283, 3) := by decide +kernel
theorem dX12_plain_49 : decode cX12_plain 49 = .ok (.putfield 258, 3) := by decide +kernel
theorem dX12_plain_52 : decode cX12_plain 52 = .ok (.aload_n 0, 1) := by decide +kernel
theorem dX12_plain_53 : decode cX12_plain 53 = .ok (.getfield 258, 3) := by decide +kernel
theorem dX12_plain_56 : decode cX12_plain 56 = .ok (.ifCond .ne 6, 3) := by decide +kernel
theorem dX12_plain_59 : decode cX12_plain 59 = .ok (.goto 14, 3) := by decide +kernel
theorem dX12_plain_62 : decode cX12_plain 62 = .ok (.aload_n 0, 1) := by decide +kernel
theorem dX12_plain_63 : decode cX12_plain 63 = .ok (.iload_n 3, 1) := by decide +kernel
theorem dX12_plain_64 : decode cX12_plain 64 = .ok (.putfield 261, 3) := by decide +kernel
theorem dX12_plain_67 : decode cX12_plain 67 = .ok (.aload_n 0, 1) := by decide +kernel
theorem dX12_plain_68 : decode cX12_plain 68 = .ok (.iload_n 2, 1) := by decide +kernel
theorem dX12_plain_69 : decode cX12_plain 69 = .ok (.putfield 264, 3) := by decide +kernel
theorem dX12_plain_72 : decode cX12_plain 72 = .ok (.return_, 1) := by decide +kernel
theorem dX12_plain_73 : decode cX12_plain 73 = .ok (.iinc 3 1, 3) := by decide +kernel
theorem dX12_plain_76 : decode cX12_plain 76 = .ok (.goto (-67), 3) := by decide +kernel
theorem dX12_plain_79 : decode cX12_plain 79 = .ok (.aload_n 0, 1) := by decide +kernel
theorem dX12_plain_80 : decode cX12_plain 80 = .ok (.iload_n 2, 1) := by decide +kernel
theorem dX12_plain_81 : decode cX12_plain 81 = .ok (.iconst 1, 1) := by decide +kernel
theorem dX12_plain_82 : decode cX12_plain 82 = .ok (.iadd, 1) := by decide +kernel
theorem dX12_plain_83 : decode cX12_plain 83 = .ok (.putfield 276, 3) := by decide +kernel
theorem dX12_plain_86 : decode cX12_plain 86 = .ok (.iinc 2 1, 3) := by decide +kernel
theorem dX12_plain_89 : decode cX12_plain 89 = .ok (.goto (-87), 3) := by decide +kernel
theorem dX12_plain_92 : decode cX12_plain 92 = .ok (.return_, 1) := by decide +kernel
theorem dX12_laid_0 : decode cX12_laid 0 = .ok (.bipush 16, 2) := by decide +kernel
theorem dX12_laid_2 : decode cX12_laid 2 = .ok (.iload_n 1, 1) := by decide +kernel
theorem dX12_laid_3 : decode cX12_laid 3 = .ok (.imul, 1) := by decide +kernel
theorem dX12_laid_4 : decode cX12_laid 4 = .ok (.istore_n 2, 1) := by decide +kernel
theorem dX12_laid_5 : decode cX12_laid 5 = .ok (.iconst 0, 1) := by decide +kernel
theorem dX12_laid_6 : decode cX12_laid 6 = .ok (.istore_n 3, 1) := by decide +kernel
theorem dX12_laid_7 : decode cX12_laid 7 = .ok (.iconst 0, 1) := by decide +kernel
theorem dX12_laid_8 : decode cX12_laid 8 = .ok (.istore 4, 2) := by decide +kernel
theorem dX12_laid_10 : decode cX12_laid 10 = .ok (.iload 4, 2) := by decide +kernel
theorem dX12_laid_12 : decode cX12_laid 12 = .ok (.aload_n 0, 1) := by decide +kernel
theorem dX12_laid_13 : decode cX12_laid 13 = .ok (.getfield 118, 3) := by decide +kernel
theorem dX12_laid_16 : decode cX12_laid 16 = .ok (.if_icmp .ge 32, 3) := by decide +kernel
theorem dX12_laid_19 : decode cX12_laid 19 = .ok (.aload_n 0, 1) := by decide +kernel
theorem dX12_laid_20 : decode cX12_laid 20 = .ok (.getfield 87, 3) := by decide +kernel
theorem dX12_laid_23 : decode cX12_laid 23 = .ok (.iload 4, 2) := by decide +kernel
theorem dX12_laid_25 : decode cX12_laid 25 = .ok (.iaload, 1) := by decide +kernel
theorem dX12_laid_26 : decode cX12_laid 26 = .ok (.iload_n 3, 1) := by decide +kernel
theorem dX12_laid_27 : decode cX12_laid 27 = .ok (.if_icmp .le 13, 3) := by decide +kernel
theorem dX12_laid_30 : decode cX12_laid 30 = .ok (.aload_n 0, 1) := by decide +kernel
theorem dX12_laid_31 : decode cX12_laid 31 = .ok (.getfield 87, 3) := by decide +kernel
theorem dX12_laid_34 : decode cX12_laid 34 = .ok (.iload 4, 2) := by decide +kernel
theorem dX12_laid_36 : decode cX12_laid 36 = .ok (.iaload, 1) := by decide +kernel
theorem dX12_laid_37 : decode cX12_laid 37 = .ok (.goto 4, 3) := by decide +kernel
theorem dX12_laid_40 : decode cX12_laid 40 = .ok (.iload_n 3, 1) := by decide +kernel
theorem dX12_laid_41 : decode cX12_laid 41 = .ok (.istore_n 3, 1) := by decide +kernel
theorem dX12_laid_42 : decode cX12_laid 42 = .ok (.iinc 4 1, 3) := by decide +kernel
theorem dX12_laid_45 : decode cX12_laid 45 = .ok (.goto (-35), 3) := by decide +kernel
theorem dX12_laid_48 : decode cX12_laid 48 = .ok (.iconst 0, 1) := by decide +kernel
theorem dX12_laid_49 : decode cX12_laid 49 = .ok (.istore 4, 2) := by decide +kernel
theorem dX12_laid_51 : decode cX12_laid 51 = .ok (.iload 4, 2) := by decide +kernel
theorem dX12_laid_53 : decode cX12_laid 53 = .ok (.iload_n 3, 1) := by decide +kernel
theorem dX12_laid_54 : decode cX12_laid 54 = .ok (.aload_n 0, 1) := by decide +kernel
theorem dX12_laid_55 : decode cX12_laid 55 = .ok (.getfield 121, 3) := by decide +kernel
theorem dX12_laid_58 : decode cX12_laid 58 = .ok (.iload_n 1, 1) := by decide +kernel
theorem dX12_laid_59 : decode cX12_laid 59 = .ok (.iconst 1, 1) := by decide +kernel
theorem dX12_laid_60 : decode cX12_laid 60 = .ok (.isub, 1) := by decide +kernel
theorem dX12_laid_61 : decode cX12_laid 61 = .ok (.imul, 1) := by decide +kernel
theorem dX12_laid_62 : decode cX12_laid 62 = .ok (.iadd, 1) := by decide +kernel
theorem dX12_laid_63 : decode cX12_laid 63 = .ok (.if_icmp .gt 152, 3) := by decide +kernel
theorem dX12_laid_66 : decode cX12_laid 66 = .ok (.iconst 0, 1) := by decide +kernel
theorem dX12_laid_67 : decode cX12_laid 67 = .ok (.istore 5, 2) := by decide +kernel
theorem dX12_laid_69 : decode cX12_laid 69 = .ok (.iload 5, 2) := by decide +kernel
theorem dX12_laid_71 : decode cX12_laid 71 = .ok (.aload_n 0, 1) := by decide +kernel
theorem dX12_laid_72 : decode cX12_laid 72 = .ok (.getfield 118, 3) := by decide +kernel
theorem dX12_laid_75 : decode cX12_laid 75 = .ok (.if_icmp .ge 134, 3) := by decide +kernel
theorem dX12_laid_78 : decode cX12_laid 78 = .ok (.iload 4, 2) := by decide +kernel
theorem dX12_laid_80 : decode cX12_laid 80 = .ok (.aload_n 0, 1) := by decide +kernel
theorem dX12_laid_81 : decode cX12_laid 81 = .ok (.getfield 87, 3) := by decide +kernel
theorem dX12_laid_84 : decode cX12_laid 84 = .ok (.iload 5, 2) := by decide +kernel
theorem dX12_laid_86 : decode cX12_laid 86 = .ok (.iaload, 1) := by decide +kernel
theorem dX12_laid_87 : decode cX12_laid 87 = .ok (.isub, 1) := by decide +kernel
theorem dX12_laid_88 : decode cX12_laid 88 = .ok (.istore 6, 2) := by decide +kernel
theorem dX12_laid_90 : decode cX12_laid 90 = .ok (.iload 6, 2) := by decide +kernel
theorem dX12_laid_92 : decode cX12_laid 92 = .ok (.ifCond .lt 111, 3) := by decide +kernel
theorem dX12_laid_95 : decode cX12_laid 95 = .ok (.iload 6, 2) := by decide +kernel
theorem dX12_laid_97 : decode cX12_laid 97 = .ok (.aload_n 0, 1) := by decide +kernel
theorem dX12_laid_98 : decode cX12_laid 98 = .ok (.getfield 121, 3) := by decide +kernel
theorem dX12_laid_101 : decode cX12_laid 101 = .ok (.irem, 1) := by decide +kernel
theorem dX12_laid_102 : decode cX12_laid 102 = .ok (.ifCond .ne 101, 3) := by decide +kernel
theorem dX12_laid_105 : decode cX12_laid 105 = .ok (.bipush 16, 2) := by decide +kernel
theorem dX12_laid_107 : decode cX12_laid 107 = .ok (.iload 6, 2) := by decide +kernel
theorem dX12_laid_109 : decode cX12_laid 109 = .ok (.aload_n 0, 1) := by decide +kernel
theorem dX12_laid_110 : decode cX12_laid 110 = .ok (.getfield 121, 3) := by decide +kernel
theorem dX12_laid_113 : decode cX12_laid 113 = .ok (.idiv, 1) := by decide +kernel
theorem dX12_laid_114 : decode cX12_laid 114 = .ok (.imul, 1) := by decide +kernel
theorem dX12_laid_115 : decode cX12_laid 115 = .ok (.iload 5, 2) := by decide +kernel
theorem dX12_laid_117 : decode cX12_laid 117 = .ok (.iadd, 1) := by decide +kernel
theorem dX12_laid_118 : decode cX12_laid 118 = .ok (.iload_n 2, 1) := by decide +kernel
theorem dX12_laid_119 : decode cX12_laid 119 = .ok (.if_icmp .lt 6, 3) := by decide +kernel
theorem dX12_laid_122 : decode cX12_laid 122 = .ok (.goto 81, 3) := by decide +kernel
theorem dX12_laid_125 : decode cX12_laid 125 = .ok (.aload_n 0, 1) := by decide +kernel
theorem dX12_laid_126 : decode cX12_laid 126 = .ok (.dup, 1) := by decide +kernel
theorem dX12_laid_127 : decode cX12_laid 127 = .ok (.getfield 267, 3) := by decide +kernel
theorem dX12_laid_130 : decode cX12_laid 130 = .ok (.iconst 1, 1) := by decide +kernel
theorem dX12_laid_131 : decode cX12_laid 131 = .ok (.iadd, 1) := by decide +kernel
theorem dX12_laid_132 : decode cX12_laid 132 = .ok (.putfield 267, 3) := by decide +kernel
theorem dX12_laid_135 : decode cX12_laid 135 = .ok (.aload_n 0, 1) := by decide +kernel
theorem dX12_laid_136 : decode cX12_laid 136 = .ok (.iload 4, 2) := by decide +kernel
theorem dX12_laid_138 : decode cX12_laid 138 = .ok (.iconst 1, 1) := by decide +kernel
theorem dX12_laid_139 : decode cX12_laid 139 = .ok (.iadd, 1) := by decide +kernel
theorem dX12_laid_140 : decode cX12_laid 140 = .ok (.putfield 270, 3) := by decide +kernel
theorem dX12_laid_143 : decode cX12_laid 143 = .ok (.aload_n 0, 1) := by decide +kernel
theorem dX12_laid_144 : decode cX12_laid 144 = .ok (.iload 5, 2) := by decide +kernel
theorem dX12_laid_146 : decode cX12_laid 146 = .ok (.iload 6, 2) := by decide +kernel
theorem dX12_laid_148 : decode cX12_laid 148 = .ok (.aload_n 0, 1) := by decide +kernel
theorem dX12_laid_149 : decode cX12_laid 149 = .ok (.getfield 121, 3) := by decide +kernel
theorem dX12_laid_152 : decode cX12_laid 152 = .ok (.idiv, 1) := by decide +kernel
theorem dX12_laid_153 : decode cX12_laid 153 = .ok (.invokevirtual 283, 3) := by decide +kernel
theorem dX12_laid_156 : decode cX12_laid 156 = .ok (.istore 7, 2) := by decide +kernel
theorem dX12_laid_158 : decode cX12_laid 158 = .ok (.iload 7, 2) := by decide +kernel
theorem dX12_laid_160 : decode cX12_laid 160 = .ok (.ifCond .ne 6, 3) := by decide +kernel
theorem dX12_laid_163 : decode cX12_laid 163 = .ok (.goto 40, 3) := by decide +kernel
theorem dX12_laid_166 : decode cX12_laid 166 = .ok (.bipush 16, 2) := by decide +kernel
theorem dX12_laid_168 : decode cX12_laid 168 = .ok (.iload 6, 2) := by decide +kernel
theorem dX12_laid_170 : decode cX12_laid 170 = .ok (.aload_n 0, 1) := by decide +kernel
theorem dX12_laid_171 : decode cX12_laid 171 = .ok (.getfield 121, 3) := by decide +kernel
theorem dX12_laid_174 : decode cX12_laid 174 = .ok (.idiv, 1) := by decide +kernel
theorem dX12_laid_175 : decode cX12_laid 175 = .ok (.imul, 1) := by decide +kernel
theorem dX12_laid_176 : decode cX12_laid 176 = .ok (.iload 5, 2) := by decide +kernel
theorem dX12_laid_178 : decode cX12_laid 178 = .ok (.iadd, 1) := by decide +kernel
theorem dX12_laid_179 : decode cX12_laid 179 = .ok (.istore_n 2, 1) := by decide +kernel
theorem dX12_laid_180 : decode cX12_laid 180 = .ok (.aload_n 0, 1) := by decide +kernel
theorem dX12_laid_181 : decode cX12_laid 181 = .ok (.iload 7, 2) := by decide +kernel
theorem dX12_laid_183 : decode cX12_laid 183 = .ok (.putfield 258, 3) := by decide +kernel
theorem dX12_laid_186 : decode cX12_laid 186 = .ok (.aload_n 0, 1) := by decide +kernel
theorem dX12_laid_187 : decode cX12_laid 187 = .ok (.iload 5, 2) := by decide +kernel
theorem dX12_laid_189 : decode cX12_laid 189 = .ok (.putfield 261, 3) := by decide +kernel
theorem dX12_laid_192 : decode cX12_laid 192 = .ok (.aload_n 0, 1) := by decide +kernel
theorem dX12_laid_193 : decode cX12_laid 193 = .ok (.iload 6, 2) := by decide +kernel
theorem dX12_laid_195 : decode cX12_laid 195 = .ok (.aload_n 0, 1) := by decide +kernel
theorem dX12_laid_196 : decode cX12_laid 196 = .ok (.getfield 121, 3) := by decide +kernel
theorem dX12_laid_199 : decode cX12_laid 199 = .ok (.idiv, 1) := by decide +kernel
theorem dX12_laid_200 : decode cX12_laid 200 = .ok (.putfield 264, 3) := by decide +kernel
theorem dX12_laid_203 : decode cX12_laid 203 = .ok (.iinc 5 1, 3) := by decide +kernel
theorem dX12_laid_206 : decode cX12_laid 206 = .ok (.goto (-137), 3) := by decide +kernel
theorem dX12_laid_209 : decode cX12_laid 209 = .ok (.iinc 4 1, 3) := by decide +kernel
theorem dX12_laid_212 : decode cX12_laid 212 = .ok (.goto (-161), 3) := by decide +kernel
theorem dX12_laid_215 : decode cX12_laid 215 = .ok (.aload_n 0, 1) := by decide +kernel
theorem dX12_laid_216 : decode cX12_laid 216 = .ok (.aload_n 0, 1) := by decide +kernel
theorem dX12_laid_217 : decode cX12_laid 217 = .ok (.getfield 258, 3) := by decide +kernel
theorem dX12_laid_220 : decode cX12_laid 220 = .ok (.ifCond .ne 7, 3) := by decide +kernel
theorem dX12_laid_223 : decode cX12_laid 223 = .ok (.iload_n 1, 1) := by decide +kernel
theorem dX12_laid_224 : decode cX12_laid 224 = .ok (.goto 7, 3) := by decide +kernel
theorem dX12_laid_227 : decode cX12_laid 227 = .ok (.aload_n 0, 1) := by decide +kernel
theorem dX12_laid_228 : decode cX12_laid 228 = .ok (.getfield 264, 3) := by decide +kernel
theorem dX12_laid_231 : decode cX12_laid 231 = .ok (.putfield 276, 3) := by decide +kernel
theorem dX12_laid_234 : decode cX12_laid 234 = .ok (.return_, 1) := by decide +kernel
theorem dX12_whyNoRun_0 : decode cX12_whyNoRun 0 = .ok (.aload_n 0, 1) := by decide +kernel
theorem dX12_whyNoRun_1 : decode cX12_whyNoRun 1 = .ok (.invokevirtual 210, 3) := by decide +kernel
theorem dX12_whyNoRun_4 : decode cX12_whyNoRun 4 = .ok (.ifCond .eq 14, 3) := by decide +kernel
theorem dX12_whyNoRun_7 : decode cX12_whyNoRun 7 = .ok (.iload_n 2, 1) := by decide +kernel
theorem dX12_whyNoRun_8 : decode cX12_whyNoRun 8 = .ok (.ifCond .eq 13, 3) := by decide +kernel
theorem dX12_whyNoRun_11 : decode cX12_whyNoRun 11 = .ok (.aload_n 0, 1) := by decide +kernel
theorem dX12_whyNoRun_12 : decode cX12_whyNoRun 12 = .ok (.getfield 121, 3) := by decide +kernel
theorem dX12_whyNoRun_15 : decode cX12_whyNoRun 15 = .ok (.ifCond .ne 6, 3) := by decide +kernel
theorem dX12_whyNoRun_18 : decode cX12_whyNoRun 18 = .ok (.bipush (-2), 2) := by decide +kernel
theorem dX12_whyNoRun_20 : decode cX12_whyNoRun 20 = .ok (.ireturn, 1) := by decide +kernel
theorem dX12_whyNoRun_21 : decode cX12_whyNoRun 21 = .ok (.iload_n 1, 1) := by decide +kernel
theorem dX12_whyNoRun_22 : decode cX12_whyNoRun 22 = .ok (.ifCond .ge 6, 3) := by decide +kernel
theorem dX12_whyNoRun_25 : decode cX12_whyNoRun 25 = .ok (.bipush (-4), 2) := by decide +kernel
theorem dX12_whyNoRun_27 : decode cX12_whyNoRun 27 = .ok (.ireturn, 1) := by decide +kernel
theorem dX12_whyNoRun_28 : decode cX12_whyNoRun 28 = .ok (.iload_n 1, 1) := by decide +kernel
theorem dX12_whyNoRun_29 : decode cX12_whyNoRun 29 = .ok (.sipush 200, 3) := by decide +kernel
theorem dX12_whyNoRun_32 : decode cX12_whyNoRun 32 = .ok (.if_icmp .le 8, 3) := by decide +kernel
theorem dX12_whyNoRun_35 : decode cX12_whyNoRun 35 = .ok (.bipush (-9), 2) := by decide +kernel
theorem dX12_whyNoRun_37 : decode cX12_whyNoRun 37 = .ok (.goto 4, 3) := by decide +kernel
theorem dX12_whyNoRun_40 : decode cX12_whyNoRun 40 = .ok (.iconst 0, 1) := by decide +kernel
theorem dX12_whyNoRun_41 : decode cX12_whyNoRun 41 = .ok (.ireturn, 1) := by decide +kernel
theorem dX12_run_0 : decode cX12_run 0 = .ok (.aload_n 0, 1) := by decide +kernel
theorem dX12_run_1 : decode cX12_run 1 = .ok (.iload_n 1, 1) := by decide +kernel
theorem dX12_run_2 : decode cX12_run 2 = .ok (.iload_n 2, 1) := by decide +kernel
theorem dX12_run_3 : decode cX12_run 3 = .ok (.invokevirtual 286, 3) := by decide +kernel
theorem dX12_run_6 : decode cX12_run 6 = .ok (.istore_n 3, 1) := by decide +kernel
theorem dX12_run_7 : decode cX12_run 7 = .ok (.iload_n 3, 1) := by decide +kernel
theorem dX12_run_8 : decode cX12_run 8 = .ok (.ifCond .eq 9, 3) := by decide +kernel
theorem dX12_run_11 : decode cX12_run 11 = .ok (.aload_n 0, 1) := by decide +kernel
theorem dX12_run_12 : decode cX12_run 12 = .ok (.iload_n 3, 1) := by decide +kernel
theorem dX12_run_13 : decode cX12_run 13 = .ok (.invokevirtual 124, 3) := by decide +kernel
theorem dX12_run_16 : decode cX12_run 16 = .ok (.ireturn, 1) := by decide +kernel
theorem dX12_run_17 : decode cX12_run 17 = .ok (.aload_n 0, 1) := by decide +kernel
theorem dX12_run_18 : decode cX12_run 18 = .ok (.invokevirtual 108, 3) := by decide +kernel
theorem dX12_run_21 : decode cX12_run 21 = .ok (.iload_n 2, 1) := by decide +kernel
theorem dX12_run_22 : decode cX12_run 22 = .ok (.ifCond .eq 16, 3) := by decide +kernel
theorem dX12_run_25 : decode cX12_run 25 = .ok (.iload_n 1, 1) := by decide +kernel
theorem dX12_run_26 : decode cX12_run 26 = .ok (.aload_n 0, 1) := by decide +kernel
theorem dX12_run_27 : decode cX12_run 27 = .ok (.iconst 1, 1) := by decide +kernel
theorem dX12_run_28 : decode cX12_run 28 = .ok (.invokevirtual 290, 3) := by decide +kernel
theorem dX12_run_31 : decode cX12_run 31 = .ok (.if_icmp .lt 7, 3) := by decide +kernel
theorem dX12_run_34 : decode cX12_run 34 = .ok (.iconst 1, 1) := by decide +kernel
theorem dX12_run_35 : decode cX12_run 35 = .ok (.goto 4, 3) := by decide +kernel
theorem dX12_run_38 : decode cX12_run 38 = .ok (.iconst 0, 1) := by decide +kernel
theorem dX12_run_39 : decode cX12_run 39 = .ok (.istore 4, 2) := by decide +kernel
theorem dX12_run_41 : decode cX12_run 41 = .ok (.iload 4, 2) := by decide +kernel
theorem dX12_run_43 : decode cX12_run 43 = .ok (.ifCond .eq 11, 3) := by decide +kernel
theorem dX12_run_46 : decode cX12_run 46 = .ok (.aload_n 0, 1) := by decide +kernel
theorem dX12_run_47 : decode cX12_run 47 = .ok (.iload_n 1, 1) := by decide +kernel
theorem dX12_run_48 : decode cX12_run 48 = .ok (.invokevirtual 293, 3) := by decide +kernel
theorem dX12_run_51 : decode cX12_run 51 = .ok (.goto 8, 3) := by decide +kernel
theorem dX12_run_54 : decode cX12_run 54 = .ok (.aload_n 0, 1) := by decide +kernel
theorem dX12_run_55 : decode cX12_run 55 = .ok (.iload_n 1, 1) := by decide +kernel
theorem dX12_run_56 : decode cX12_run 56 = .ok (.invokevirtual 297, 3) := by decide +kernel
theorem dX12_run_59 : decode cX12_run 59 = .ok (.aload_n 0, 1) := by decide +kernel
theorem dX12_run_60 : decode cX12_run 60 = .ok (.iload 4, 2) := by decide +kernel
theorem dX12_run_62 : decode cX12_run 62 = .ok (.ifCond .eq 7, 3) := by decide +kernel
theorem dX12_run_65 : decode cX12_run 65 = .ok (.iconst 1, 1) := by decide +kernel
theorem dX12_run_66 : decode cX12_run 66 = .ok (.goto 4, 3) := by decide +kernel
theorem dX12_run_69 : decode cX12_run 69 = .ok (.iconst 0, 1) := by decide +kernel
theorem dX12_run_70 : decode cX12_run 70 = .ok (.putfield 273, 3) := by decide +kernel
theorem dX12_run_73 : decode cX12_run 73 = .ok (.aload_n 0, 1) := by decide +kernel
theorem dX12_run_74 : decode cX12_run 74 = .ok (.getfield 276, 3) := by decide +kernel
theorem dX12_run_77 : decode cX12_run 77 = .ok (.ireturn, 1) := by decide +kernel
theorem dX12_compare_0 : decode cX12_compare 0 = .ok (.aload_n 0, 1) := by decide +kernel
theorem dX12_compare_1 : decode cX12_compare 1 = .ok (.iload_n 1, 1) := by decide +kernel
theorem dX12_compare_2 : decode cX12_compare 2 = .ok (.iconst 1, 1) := by decide +kernel
theorem dX12_compare_3 : decode cX12_compare 3 = .ok (.invokevirtual 286, 3) := by decide +kernel
theorem dX12_compare_6 : decode cX12_compare 6 = .ok (.istore_n 2, 1) := by decide +kernel
theorem dX12_compare_7 : decode cX12_compare 7 = .ok (.iload_n 2, 1) := by decide +kernel
theorem dX12_compare_8 : decode cX12_compare 8 = .ok (.ifCond .eq 11, 3) := by decide +kernel
theorem dX12_compare_11 : decode cX12_compare 11 = .ok (.aload_n 0, 1) := by decide +kernel
theorem dX12_compare_12 : decode cX12_compare 12 = .ok (.iload_n 2, 1) := by decide +kernel
theorem dX12_compare_13 : decode cX12_compare 13 = .ok (.invokevirtual 124, 3) := by decide +kernel
theorem dX12_compare_16 : decode cX12_compare 16 = .ok (.goto 4, 3) := by decide +kernel
theorem dX12_compare_19 : decode cX12_compare 19 = .ok (.iconst 1, 1) := by decide +kernel
theorem dX12_compare_20 : decode cX12_compare 20 = .ok (.ireturn, 1) := by decide +kernel
theorem dX12_told_0 : decode cX12_told 0 = .ok (.iload_n 1, 1) := by decide +kernel
theorem dX12_told_1 : decode cX12_told 1 = .ok (.tableswitch 69 0 5 #[39, 44, 49, 54, 59, 64], 39) := by decide +kernel
theorem dX12_told_40 : decode cX12_told 40 = .ok (.aload_n 0, 1) := by decide +kernel
theorem dX12_told_41 : decode cX12_told 41 = .ok (.getfield 258, 3) := by decide +kernel
theorem dX12_told_44 : decode cX12_told 44 = .ok (.ireturn, 1) := by decide +kernel
theorem dX12_told_45 : decode cX12_told 45 = .ok (.aload_n 0, 1) := by decide +kernel
theorem dX12_told_46 : decode cX12_told 46 = .ok (.getfield 261, 3) := by decide +kernel
theorem dX12_told_49 : decode cX12_told 49 = .ok (.ireturn, 1) := by decide +kernel
theorem dX12_told_50 : decode cX12_told 50 = .ok (.aload_n 0, 1) := by decide +kernel
theorem dX12_told_51 : decode cX12_told 51 = .ok (.getfield 264, 3) := by decide +kernel
theorem dX12_told_54 : decode cX12_told 54 = .ok (.ireturn, 1) := by decide +kernel
theorem dX12_told_55 : decode cX12_told 55 = .ok (.aload_n 0, 1) := by decide +kernel
theorem dX12_told_56 : decode cX12_told 56 = .ok (.getfield 267, 3) := by decide +kernel
theorem dX12_told_59 : decode cX12_told 59 = .ok (.ireturn, 1) := by decide +kernel
theorem dX12_told_60 : decode cX12_told 60 = .ok (.aload_n 0, 1) := by decide +kernel
theorem dX12_told_61 : decode cX12_told 61 = .ok (.getfield 270, 3) := by decide +kernel
theorem dX12_told_64 : decode cX12_told 64 = .ok (.ireturn, 1) := by decide +kernel
theorem dX12_told_65 : decode cX12_told 65 = .ok (.aload_n 0, 1) := by decide +kernel
theorem dX12_told_66 : decode cX12_told 66 = .ok (.getfield 273, 3) := by decide +kernel
theorem dX12_told_69 : decode cX12_told 69 = .ok (.ireturn, 1) := by decide +kernel
theorem dX12_told_70 : decode cX12_told 70 = .ok (.aload_n 0, 1) := by decide +kernel
theorem dX12_told_71 : decode cX12_told 71 = .ok (.bipush (-9), 2) := by decide +kernel
theorem dX12_told_73 : decode cX12_told 73 = .ok (.invokevirtual 124, 3) := by decide +kernel
theorem dX12_told_76 : decode cX12_told 76 = .ok (.ireturn, 1) := by decide +kernel
theorem dX12_end_0 : decode cX12_end 0 = .ok (.aload_n 0, 1) := by decide +kernel
theorem dX12_end_1 : decode cX12_end 1 = .ok (.iload_n 1, 1) := by decide +kernel
theorem dX12_end_2 : decode cX12_end 2 = .ok (.invokevirtual 159, 3) := by decide +kernel
theorem dX12_end_5 : decode cX12_end 5 = .ok (.ifCond .eq 36, 3) := by decide +kernel
theorem dX12_end_8 : decode cX12_end 8 = .ok (.aload_n 0, 1) := by decide +kernel
theorem dX12_end_9 : decode cX12_end 9 = .ok (.getfield 276, 3) := by decide +kernel
theorem dX12_end_12 : decode cX12_end 12 = .ok (.ifCond .ne 12, 3) := by decide +kernel
theorem dX12_end_15 : decode cX12_end 15 = .ok (.aload_n 0, 1) := by decide +kernel
theorem dX12_end_16 : decode cX12_end 16 = .ok (.getfield 31, 3) := by decide +kernel
theorem dX12_end_19 : decode cX12_end 19 = .ok (.iload_n 1, 1) := by decide +kernel
theorem dX12_end_20 : decode cX12_end 20 = .ok (.laload, 1) := by decide +kernel
theorem dX12_end_21 : decode cX12_end 21 = .ok (.goto 19, 3) := by decide +kernel
theorem dX12_end_24 : decode cX12_end 24 = .ok (.aload_n 0, 1) := by decide +kernel
theorem dX12_end_25 : decode cX12_end 25 = .ok (.getfield 105, 3) := by decide +kernel
theorem dX12_end_28 : decode cX12_end 28 = .ok (.bipush 16, 2) := by decide +kernel
theorem dX12_end_30 : decode cX12_end 30 = .ok (.aload_n 0, 1) := by decide +kernel
theorem dX12_end_31 : decode cX12_end 31 = .ok (.getfield 276, 3) := by decide +kernel
theorem dX12_end_34 : decode cX12_end 34 = .ok (.iconst 1, 1) := by decide +kernel
theorem dX12_end_35 : decode cX12_end 35 = .ok (.isub, 1) := by decide +kernel
theorem dX12_end_36 : decode cX12_end 36 = .ok (.imul, 1) := by decide +kernel
theorem dX12_end_37 : decode cX12_end 37 = .ok (.iload_n 1, 1) := by decide +kernel
theorem dX12_end_38 : decode cX12_end 38 = .ok (.iadd, 1) := by decide +kernel
theorem dX12_end_39 : decode cX12_end 39 = .ok (.laload, 1) := by decide +kernel
theorem dX12_end_40 : decode cX12_end 40 = .ok (.lreturn, 1) := by decide +kernel
theorem dX12_end_41 : decode cX12_end 41 = .ok (.aload_n 0, 1) := by decide +kernel
theorem dX12_end_42 : decode cX12_end 42 = .ok (.bipush (-3), 2) := by decide +kernel
theorem dX12_end_44 : decode cX12_end 44 = .ok (.invokevirtual 124, 3) := by decide +kernel
theorem dX12_end_47 : decode cX12_end 47 = .ok (.istore_n 2, 1) := by decide +kernel
theorem dX12_end_48 : decode cX12_end 48 = .ok (.lconst 0, 1) := by decide +kernel
theorem dX12_end_49 : decode cX12_end 49 = .ok (.lreturn, 1) := by decide +kernel
theorem dX12_again_0 : decode cX12_again 0 = .ok (.aload_n 0, 1) := by decide +kernel
theorem dX12_again_1 : decode cX12_again 1 = .ok (.getfield 114, 3) := by decide +kernel
theorem dX12_again_4 : decode cX12_again 4 = .ok (.ifCond .ne 6, 3) := by decide +kernel
theorem dX12_again_7 : decode cX12_again 7 = .ok (.bipush (-7), 2) := by decide +kernel
theorem dX12_again_9 : decode cX12_again 9 = .ok (.ireturn, 1) := by decide +kernel
theorem dX12_again_10 : decode cX12_again 10 = .ok (.aload_n 0, 1) := by decide +kernel
theorem dX12_again_11 : decode cX12_again 11 = .ok (.getfield 114, 3) := by decide +kernel
theorem dX12_again_14 : decode cX12_again 14 = .ok (.istore_n 1, 1) := by decide +kernel
theorem dX12_again_15 : decode cX12_again 15 = .ok (.aload_n 0, 1) := by decide +kernel
theorem dX12_again_16 : decode cX12_again 16 = .ok (.iconst 0, 1) := by decide +kernel
theorem dX12_again_17 : decode cX12_again 17 = .ok (.putfield 114, 3) := by decide +kernel
theorem dX12_again_20 : decode cX12_again 20 = .ok (.iload_n 1, 1) := by decide +kernel
theorem dX12_again_21 : decode cX12_again 21 = .ok (.ireturn, 1) := by decide +kernel
theorem dX12_status_0 : decode cX12_status 0 = .ok (.iload_n 1, 1) := by decide +kernel
theorem dX12_status_1 : decode cX12_status 1 = .ok (.i2l, 1) := by decide +kernel
theorem dX12_status_2 : decode cX12_status 2 = .ok (.ldc2_w 300, 3) := by decide +kernel
theorem dX12_status_5 : decode cX12_status 5 = .ok (.ldc2_w 302, 3) := by decide +kernel
theorem dX12_status_8 : decode cX12_status 8 = .ok (.invokestatic 137, 3) := by decide +kernel
theorem dX12_status_11 : decode cX12_status 11 = .ok (.ifCond .eq 13, 3) := by decide +kernel
theorem dX12_status_14 : decode cX12_status 14 = .ok (.aload_n 0, 1) := by decide +kernel
theorem dX12_status_15 : decode cX12_status 15 = .ok (.getfield 78, 3) := by decide +kernel
theorem dX12_status_18 : decode cX12_status 18 = .ok (.iload_n 1, 1) := by decide +kernel
theorem dX12_status_19 : decode cX12_status 19 = .ok (.ineg, 1) := by decide +kernel
theorem dX12_status_20 : decode cX12_status 20 = .ok (.iaload, 1) := by decide +kernel
theorem dX12_status_21 : decode cX12_status 21 = .ok (.goto 9, 3) := by decide +kernel
theorem dX12_status_24 : decode cX12_status 24 = .ok (.aload_n 0, 1) := by decide +kernel
theorem dX12_status_25 : decode cX12_status 25 = .ok (.bipush (-9), 2) := by decide +kernel
theorem dX12_status_27 : decode cX12_status 27 = .ok (.invokevirtual 124, 3) := by decide +kernel
theorem dX12_status_30 : decode cX12_status 30 = .ok (.ireturn, 1) := by decide +kernel
theorem dJ6_bitCount_0f7a4_0 : decode cJ6_bitCount_0f7a4 0 = .ok (.iload_n 0, 1) := by decide +kernel
theorem dJ6_bitCount_0f7a4_1 : decode cJ6_bitCount_0f7a4 1 = .ok (.iload_n 0, 1) := by decide +kernel
theorem dJ6_bitCount_0f7a4_2 : decode cJ6_bitCount_0f7a4 2 = .ok (.iconst 1, 1) := by decide +kernel
theorem dJ6_bitCount_0f7a4_3 : decode cJ6_bitCount_0f7a4 3 = .ok (.iushr, 1) := by decide +kernel
theorem dJ6_bitCount_0f7a4_4 : decode cJ6_bitCount_0f7a4 4 = .ok (.ldc_w 265, 3) := by decide +kernel
theorem dJ6_bitCount_0f7a4_7 : decode cJ6_bitCount_0f7a4 7 = .ok (.iand, 1) := by decide +kernel
theorem dJ6_bitCount_0f7a4_8 : decode cJ6_bitCount_0f7a4 8 = .ok (.isub, 1) := by decide +kernel
theorem dJ6_bitCount_0f7a4_9 : decode cJ6_bitCount_0f7a4 9 = .ok (.istore_n 0, 1) := by decide +kernel
theorem dJ6_bitCount_0f7a4_10 : decode cJ6_bitCount_0f7a4 10 = .ok (.iload_n 0, 1) := by decide +kernel
theorem dJ6_bitCount_0f7a4_11 : decode cJ6_bitCount_0f7a4 11 = .ok (.ldc_w 266, 3) := by decide +kernel
theorem dJ6_bitCount_0f7a4_14 : decode cJ6_bitCount_0f7a4 14 = .ok (.iand, 1) := by decide +kernel
theorem dJ6_bitCount_0f7a4_15 : decode cJ6_bitCount_0f7a4 15 = .ok (.iload_n 0, 1) := by decide +kernel
theorem dJ6_bitCount_0f7a4_16 : decode cJ6_bitCount_0f7a4 16 = .ok (.iconst 2, 1) := by decide +kernel
theorem dJ6_bitCount_0f7a4_17 : decode cJ6_bitCount_0f7a4 17 = .ok (.iushr, 1) := by decide +kernel
theorem dJ6_bitCount_0f7a4_18 : decode cJ6_bitCount_0f7a4 18 = .ok (.ldc_w 266, 3) := by decide +kernel
theorem dJ6_bitCount_0f7a4_21 : decode cJ6_bitCount_0f7a4 21 = .ok (.iand, 1) := by decide +kernel
theorem dJ6_bitCount_0f7a4_22 : decode cJ6_bitCount_0f7a4 22 = .ok (.iadd, 1) := by decide +kernel
theorem dJ6_bitCount_0f7a4_23 : decode cJ6_bitCount_0f7a4 23 = .ok (.istore_n 0, 1) := by decide +kernel
theorem dJ6_bitCount_0f7a4_24 : decode cJ6_bitCount_0f7a4 24 = .ok (.iload_n 0, 1) := by decide +kernel
theorem dJ6_bitCount_0f7a4_25 : decode cJ6_bitCount_0f7a4 25 = .ok (.iload_n 0, 1) := by decide +kernel
theorem dJ6_bitCount_0f7a4_26 : decode cJ6_bitCount_0f7a4 26 = .ok (.iconst 4, 1) := by decide +kernel
theorem dJ6_bitCount_0f7a4_27 : decode cJ6_bitCount_0f7a4 27 = .ok (.iushr, 1) := by decide +kernel
theorem dJ6_bitCount_0f7a4_28 : decode cJ6_bitCount_0f7a4 28 = .ok (.iadd, 1) := by decide +kernel
theorem dJ6_bitCount_0f7a4_29 : decode cJ6_bitCount_0f7a4 29 = .ok (.ldc_w 267, 3) := by decide +kernel
theorem dJ6_bitCount_0f7a4_32 : decode cJ6_bitCount_0f7a4 32 = .ok (.iand, 1) := by decide +kernel
theorem dJ6_bitCount_0f7a4_33 : decode cJ6_bitCount_0f7a4 33 = .ok (.istore_n 0, 1) := by decide +kernel
theorem dJ6_bitCount_0f7a4_34 : decode cJ6_bitCount_0f7a4 34 = .ok (.iload_n 0, 1) := by decide +kernel
theorem dJ6_bitCount_0f7a4_35 : decode cJ6_bitCount_0f7a4 35 = .ok (.iload_n 0, 1) := by decide +kernel
theorem dJ6_bitCount_0f7a4_36 : decode cJ6_bitCount_0f7a4 36 = .ok (.bipush 8, 2) := by decide +kernel
theorem dJ6_bitCount_0f7a4_38 : decode cJ6_bitCount_0f7a4 38 = .ok (.iushr, 1) := by decide +kernel
theorem dJ6_bitCount_0f7a4_39 : decode cJ6_bitCount_0f7a4 39 = .ok (.iadd, 1) := by decide +kernel
theorem dJ6_bitCount_0f7a4_40 : decode cJ6_bitCount_0f7a4 40 = .ok (.istore_n 0, 1) := by decide +kernel
theorem dJ6_bitCount_0f7a4_41 : decode cJ6_bitCount_0f7a4 41 = .ok (.iload_n 0, 1) := by decide +kernel
theorem dJ6_bitCount_0f7a4_42 : decode cJ6_bitCount_0f7a4 42 = .ok (.iload_n 0, 1) := by decide +kernel
theorem dJ6_bitCount_0f7a4_43 : decode cJ6_bitCount_0f7a4 43 = .ok (.bipush 16, 2) := by decide +kernel
theorem dJ6_bitCount_0f7a4_45 : decode cJ6_bitCount_0f7a4 45 = .ok (.iushr, 1) := by decide +kernel
theorem dJ6_bitCount_0f7a4_46 : decode cJ6_bitCount_0f7a4 46 = .ok (.iadd, 1) := by decide +kernel
theorem dJ6_bitCount_0f7a4_47 : decode cJ6_bitCount_0f7a4 47 = .ok (.istore_n 0, 1) := by decide +kernel
theorem dJ6_bitCount_0f7a4_48 : decode cJ6_bitCount_0f7a4 48 = .ok (.iload_n 0, 1) := by decide +kernel
theorem dJ6_bitCount_0f7a4_49 : decode cJ6_bitCount_0f7a4 49 = .ok (.bipush 63, 2) := by decide +kernel
theorem dJ6_bitCount_0f7a4_51 : decode cJ6_bitCount_0f7a4 51 = .ok (.iand, 1) := by decide +kernel
theorem dJ6_bitCount_0f7a4_52 : decode cJ6_bitCount_0f7a4 52 = .ok (.ireturn, 1) := by decide +kernel
theorem dJ9_floorDiv_7cf53_0 : decode cJ9_floorDiv_7cf53 0 = .ok (.iload_n 0, 1) := by decide +kernel
theorem dJ9_floorDiv_7cf53_1 : decode cJ9_floorDiv_7cf53 1 = .ok (.iload_n 1, 1) := by decide +kernel
theorem dJ9_floorDiv_7cf53_2 : decode cJ9_floorDiv_7cf53 2 = .ok (.idiv, 1) := by decide +kernel
theorem dJ9_floorDiv_7cf53_3 : decode cJ9_floorDiv_7cf53 3 = .ok (.istore_n 2, 1) := by decide +kernel
theorem dJ9_floorDiv_7cf53_4 : decode cJ9_floorDiv_7cf53 4 = .ok (.iload_n 0, 1) := by decide +kernel
theorem dJ9_floorDiv_7cf53_5 : decode cJ9_floorDiv_7cf53 5 = .ok (.iload_n 1, 1) := by decide +kernel
theorem dJ9_floorDiv_7cf53_6 : decode cJ9_floorDiv_7cf53 6 = .ok (.ixor, 1) := by decide +kernel
theorem dJ9_floorDiv_7cf53_7 : decode cJ9_floorDiv_7cf53 7 = .ok (.ifCond .ge 14, 3) := by decide +kernel
theorem dJ9_floorDiv_7cf53_10 : decode cJ9_floorDiv_7cf53 10 = .ok (.iload_n 2, 1) := by decide +kernel
theorem dJ9_floorDiv_7cf53_11 : decode cJ9_floorDiv_7cf53 11 = .ok (.iload_n 1, 1) := by decide +kernel
theorem dJ9_floorDiv_7cf53_12 : decode cJ9_floorDiv_7cf53 12 = .ok (.imul, 1) := by decide +kernel
theorem dJ9_floorDiv_7cf53_13 : decode cJ9_floorDiv_7cf53 13 = .ok (.iload_n 0, 1) := by decide +kernel
theorem dJ9_floorDiv_7cf53_14 : decode cJ9_floorDiv_7cf53 14 = .ok (.if_icmp .eq 7, 3) := by decide +kernel
theorem dJ9_floorDiv_7cf53_17 : decode cJ9_floorDiv_7cf53 17 = .ok (.iload_n 2, 1) := by decide +kernel
theorem dJ9_floorDiv_7cf53_18 : decode cJ9_floorDiv_7cf53 18 = .ok (.iconst 1, 1) := by decide +kernel
theorem dJ9_floorDiv_7cf53_19 : decode cJ9_floorDiv_7cf53 19 = .ok (.isub, 1) := by decide +kernel
theorem dJ9_floorDiv_7cf53_20 : decode cJ9_floorDiv_7cf53 20 = .ok (.ireturn, 1) := by decide +kernel
theorem dJ9_floorDiv_7cf53_21 : decode cJ9_floorDiv_7cf53 21 = .ok (.iload_n 2, 1) := by decide +kernel
theorem dJ9_floorDiv_7cf53_22 : decode cJ9_floorDiv_7cf53 22 = .ok (.ireturn, 1) := by decide +kernel
theorem dJ9_max_7cf53_0 : decode cJ9_max_7cf53 0 = .ok (.iload_n 0, 1) := by decide +kernel
theorem dJ9_max_7cf53_1 : decode cJ9_max_7cf53 1 = .ok (.iload_n 1, 1) := by decide +kernel
theorem dJ9_max_7cf53_2 : decode cJ9_max_7cf53 2 = .ok (.if_icmp .lt 7, 3) := by decide +kernel
theorem dJ9_max_7cf53_5 : decode cJ9_max_7cf53 5 = .ok (.iload_n 0, 1) := by decide +kernel
theorem dJ9_max_7cf53_6 : decode cJ9_max_7cf53 6 = .ok (.goto 4, 3) := by decide +kernel
theorem dJ9_max_7cf53_9 : decode cJ9_max_7cf53 9 = .ok (.iload_n 1, 1) := by decide +kernel
theorem dJ9_max_7cf53_10 : decode cJ9_max_7cf53 10 = .ok (.ireturn, 1) := by decide +kernel
theorem dJ7_fill_53178_0 : decode cJ7_fill_53178 0 = .ok (.iconst 0, 1) := by decide +kernel
theorem dJ7_fill_53178_1 : decode cJ7_fill_53178 1 = .ok (.istore_n 2, 1) := by decide +kernel
theorem dJ7_fill_53178_2 : decode cJ7_fill_53178 2 = .ok (.aload_n 0, 1) := by decide +kernel
theorem dJ7_fill_53178_3 : decode cJ7_fill_53178 3 = .ok (.arraylength, 1) := by decide +kernel
theorem dJ7_fill_53178_4 : decode cJ7_fill_53178 4 = .ok (.istore_n 3, 1) := by decide +kernel
theorem dJ7_fill_53178_5 : decode cJ7_fill_53178 5 = .ok (.iload_n 2, 1) := by decide +kernel
theorem dJ7_fill_53178_6 : decode cJ7_fill_53178 6 = .ok (.iload_n 3, 1) := by decide +kernel
theorem dJ7_fill_53178_7 : decode cJ7_fill_53178 7 = .ok (.if_icmp .ge 13, 3) := by decide +kernel
theorem dJ7_fill_53178_10 : decode cJ7_fill_53178 10 = .ok (.aload_n 0, 1) := by decide +kernel
theorem dJ7_fill_53178_11 : decode cJ7_fill_53178 11 = .ok (.iload_n 2, 1) := by decide +kernel
theorem dJ7_fill_53178_12 : decode cJ7_fill_53178 12 = .ok (.iload_n 1, 1) := by decide +kernel
theorem dJ7_fill_53178_13 : decode cJ7_fill_53178 13 = .ok (.iastore, 1) := by decide +kernel
theorem dJ7_fill_53178_14 : decode cJ7_fill_53178 14 = .ok (.iinc 2 1, 3) := by decide +kernel
theorem dJ7_fill_53178_17 : decode cJ7_fill_53178 17 = .ok (.goto (-12), 3) := by decide +kernel
theorem dJ7_fill_53178_20 : decode cJ7_fill_53178 20 = .ok (.return_, 1) := by decide +kernel
theorem dL_law_0 : decode cL_law 0 = .ok (.new 7, 3) := by decide +kernel
theorem dL_law_3 : decode cL_law 3 = .ok (.dup, 1) := by decide +kernel
theorem dL_law_4 : decode cL_law 4 = .ok (.invokespecial 9, 3) := by decide +kernel
theorem dL_law_7 : decode cL_law 7 = .ok (.astore_n 1, 1) := by decide +kernel
theorem dL_law_8 : decode cL_law 8 = .ok (.new 10, 3) := by decide +kernel
theorem dL_law_11 : decode cL_law 11 = .ok (.dup, 1) := by decide +kernel
theorem dL_law_12 : decode cL_law 12 = .ok (.invokespecial 12, 3) := by decide +kernel
theorem dL_law_15 : decode cL_law 15 = .ok (.astore_n 2, 1) := by decide +kernel
theorem dL_law_16 : decode cL_law 16 = .ok (.iconst 0, 1) := by decide +kernel
theorem dL_law_17 : decode cL_law 17 = .ok (.istore_n 3, 1) := by decide +kernel
theorem dL_law_18 : decode cL_law 18 = .ok (.iload_n 3, 1) := by decide +kernel
theorem dL_law_19 : decode cL_law 19 = .ok (.aload_n 0, 1) := by decide +kernel
theorem dL_law_20 : decode cL_law 20 = .ok (.arraylength, 1) := by decide +kernel
theorem dL_law_21 : decode cL_law 21 = .ok (.bipush 6, 2) := by decide +kernel
theorem dL_law_23 : decode cL_law 23 = .ok (.isub, 1) := by decide +kernel
theorem dL_law_24 : decode cL_law 24 = .ok (.if_icmp .gt 1434, 3) := by decide +kernel
theorem dL_law_27 : decode cL_law 27 = .ok (.aload_n 0, 1) := by decide +kernel
theorem dL_law_28 : decode cL_law 28 = .ok (.iload_n 3, 1) := by decide +kernel
theorem dL_law_29 : decode cL_law 29 = .ok (.iaload, 1) := by decide +kernel
theorem dL_law_30 : decode cL_law 30 = .ok (.bipush 63, 2) := by decide +kernel
theorem dL_law_32 : decode cL_law 32 = .ok (.iand, 1) := by decide +kernel
theorem dL_law_33 : decode cL_law 33 = .ok (.tableswitch 1419 0 36 #[163, 216, 279, 322, 385, 438, 491, 554, 587, 640, 653, 686, 710, 733, 746, 805, 828, 901, 935, 998, 1011, 1024, 1047, 1060, 1083, 1116, 1149, 1172, 1195, 1228, 1241, 1264, 1313, 1336, 1359, 1383, 1396], 163) := by decide +kernel
theorem dL_law_196 : decode cL_law 196 = .ok (.aload_n 1, 1) := by decide +kernel
theorem dL_law_197 : decode cL_law 197 = .ok (.aload_n 0, 1) := by decide +kernel
theorem dL_law_198 : decode cL_law 198 = .ok (.iload_n 3, 1) := by decide +kernel
theorem dL_law_199 : decode cL_law 199 = .ok (.iconst 1, 1) := by decide +kernel
theorem dL_law_200 : decode cL_law 200 = .ok (.iadd, 1) := by decide +kernel
theorem dL_law_201 : decode cL_law 201 = .ok (.iaload, 1) := by decide +kernel
theorem dL_law_202 : decode cL_law 202 = .ok (.i2l, 1) := by decide +kernel
theorem dL_law_203 : decode cL_law 203 = .ok (.bipush 32, 2) := by decide +kernel
theorem dL_law_205 : decode cL_law 205 = .ok (.lshl, 1) := by decide +kernel
theorem dL_law_206 : decode cL_law 206 = .ok (.aload_n 0, 1) := by decide +kernel
theorem dL_law_207 : decode cL_law 207 = .ok (.iload_n 3, 1) := by decide +kernel
theorem dL_law_208 : decode cL_law 208 = .ok (.iconst 2, 1) := by decide +kernel
theorem dL_law_209 : decode cL_law 209 = .ok (.iadd, 1) := by decide +kernel
theorem dL_law_210 : decode cL_law 210 = .ok (.iaload, 1) := by decide +kernel
theorem dL_law_211 : decode cL_law 211 = .ok (.i2l, 1) := by decide +kernel
theorem dL_law_212 : decode cL_law 212 = .ok (.ldc2_w 13, 3) := by decide +kernel
theorem dL_law_215 : decode cL_law 215 = .ok (.land, 1) := by decide +kernel
theorem dL_law_216 : decode cL_law 216 = .ok (.lor, 1) := by decide +kernel
theorem dL_law_217 : decode cL_law 217 = .ok (.invokevirtual 15, 3) := by decide +kernel
theorem dL_law_220 : decode cL_law 220 = .ok (.aload_n 2, 1) := by decide +kernel
theorem dL_law_221 : decode cL_law 221 = .ok (.aload_n 0, 1) := by decide +kernel
theorem dL_law_222 : decode cL_law 222 = .ok (.iload_n 3, 1) := by decide +kernel
theorem dL_law_223 : decode cL_law 223 = .ok (.iconst 1, 1) := by decide +kernel
theorem dL_law_224 : decode cL_law 224 = .ok (.iadd, 1) := by decide +kernel
theorem dL_law_225 : decode cL_law 225 = .ok (.iaload, 1) := by decide +kernel
theorem dL_law_226 : decode cL_law 226 = .ok (.i2l, 1) := by decide +kernel
theorem dL_law_227 : decode cL_law 227 = .ok (.bipush 32, 2) := by decide +kernel
theorem dL_law_229 : decode cL_law 229 = .ok (.lshl, 1) := by decide +kernel
theorem dL_law_230 : decode cL_law 230 = .ok (.aload_n 0, 1) := by decide +kernel
theorem dL_law_231 : decode cL_law 231 = .ok (.iload_n 3, 1) := by decide +kernel
theorem dL_law_232 : decode cL_law 232 = .ok (.iconst 2, 1) := by decide +kernel
theorem dL_law_233 : decode cL_law 233 = .ok (.iadd, 1) := by decide +kernel
theorem dL_law_234 : decode cL_law 234 = .ok (.iaload, 1) := by decide +kernel
theorem dL_law_235 : decode cL_law 235 = .ok (.i2l, 1) := by decide +kernel
theorem dL_law_236 : decode cL_law 236 = .ok (.ldc2_w 13, 3) := by decide +kernel
theorem dL_law_239 : decode cL_law 239 = .ok (.land, 1) := by decide +kernel
theorem dL_law_240 : decode cL_law 240 = .ok (.lor, 1) := by decide +kernel
theorem dL_law_241 : decode cL_law 241 = .ok (.invokevirtual 19, 3) := by decide +kernel
theorem dL_law_244 : decode cL_law 244 = .ok (.if_icmp .eq 1208, 3) := by decide +kernel
theorem dL_law_247 : decode cL_law 247 = .ok (.iconst 0, 1) := by decide +kernel
theorem dL_law_248 : decode cL_law 248 = .ok (.ireturn, 1) := by decide +kernel
theorem dL_law_249 : decode cL_law 249 = .ok (.aload_n 1, 1) := by decide +kernel
theorem dL_law_250 : decode cL_law 250 = .ok (.aload_n 0, 1) := by decide +kernel
theorem dL_law_251 : decode cL_law 251 = .ok (.iload_n 3, 1) := by decide +kernel
theorem dL_law_252 : decode cL_law 252 = .ok (.iconst 1, 1) := by decide +kernel
theorem dL_law_253 : decode cL_law 253 = .ok (.iadd, 1) := by decide +kernel
theorem dL_law_254 : decode cL_law 254 = .ok (.iaload, 1) := by decide +kernel
theorem dL_law_255 : decode cL_law 255 = .ok (.aload_n 0, 1) := by decide +kernel
theorem dL_law_256 : decode cL_law 256 = .ok (.iload_n 3, 1) := by decide +kernel
theorem dL_law_257 : decode cL_law 257 = .ok (.iconst 2, 1) := by decide +kernel
theorem dL_law_258 : decode cL_law 258 = .ok (.iadd, 1) := by decide +kernel
theorem dL_law_259 : decode cL_law 259 = .ok (.iaload, 1) := by decide +kernel
theorem dL_law_260 : decode cL_law 260 = .ok (.aload_n 0, 1) := by decide +kernel
theorem dL_law_261 : decode cL_law 261 = .ok (.iload_n 3, 1) := by decide +kernel
theorem dL_law_262 : decode cL_law 262 = .ok (.iconst 3, 1) := by decide +kernel
theorem dL_law_263 : decode cL_law 263 = .ok (.iadd, 1) := by decide +kernel
theorem dL_law_264 : decode cL_law 264 = .ok (.iaload, 1) := by decide +kernel
theorem dL_law_265 : decode cL_law 265 = .ok (.aload_n 0, 1) := by decide +kernel
theorem dL_law_266 : decode cL_law 266 = .ok (.iload_n 3, 1) := by decide +kernel
theorem dL_law_267 : decode cL_law 267 = .ok (.iconst 4, 1) := by decide +kernel
theorem dL_law_268 : decode cL_law 268 = .ok (.iadd, 1) := by decide +kernel
theorem dL_law_269 : decode cL_law 269 = .ok (.iaload, 1) := by decide +kernel
theorem dL_law_270 : decode cL_law 270 = .ok (.aload_n 0, 1) := by decide +kernel
theorem dL_law_271 : decode cL_law 271 = .ok (.iload_n 3, 1) := by decide +kernel
theorem dL_law_272 : decode cL_law 272 = .ok (.iconst 5, 1) := by decide +kernel
theorem dL_law_273 : decode cL_law 273 = .ok (.iadd, 1) := by decide +kernel
theorem dL_law_274 : decode cL_law 274 = .ok (.iaload, 1) := by decide +kernel
theorem dL_law_275 : decode cL_law 275 = .ok (.invokevirtual 20, 3) := by decide +kernel
theorem dL_law_278 : decode cL_law 278 = .ok (.aload_n 2, 1) := by decide +kernel
theorem dL_law_279 : decode cL_law 279 = .ok (.aload_n 0, 1) := by decide +kernel
theorem dL_law_280 : decode cL_law 280 = .ok (.iload_n 3, 1) := by decide +kernel
theorem dL_law_281 : decode cL_law 281 = .ok (.iconst 1, 1) := by decide +kernel
theorem dL_law_282 : decode cL_law 282 = .ok (.iadd, 1) := by decide +kernel
theorem dL_law_283 : decode cL_law 283 = .ok (.iaload, 1) := by decide +kernel
theorem dL_law_284 : decode cL_law 284 = .ok (.aload_n 0, 1) := by decide +kernel
theorem dL_law_285 : decode cL_law 285 = .ok (.iload_n 3, 1) := by decide +kernel
theorem dL_law_286 : decode cL_law 286 = .ok (.iconst 2, 1) := by decide +kernel
theorem dL_law_287 : decode cL_law 287 = .ok (.iadd, 1) := by decide +kernel
theorem dL_law_288 : decode cL_law 288 = .ok (.iaload, 1) := by decide +kernel
theorem dL_law_289 : decode cL_law 289 = .ok (.aload_n 0, 1) := by decide +kernel
theorem dL_law_290 : decode cL_law 290 = .ok (.iload_n 3, 1) := by decide +kernel
theorem dL_law_291 : decode cL_law 291 = .ok (.iconst 3, 1) := by decide +kernel
theorem dL_law_292 : decode cL_law 292 = .ok (.iadd, 1) := by decide +kernel
theorem dL_law_293 : decode cL_law 293 = .ok (.iaload, 1) := by decide +kernel
theorem dL_law_294 : decode cL_law 294 = .ok (.aload_n 0, 1) := by decide +kernel
theorem dL_law_295 : decode cL_law 295 = .ok (.iload_n 3, 1) := by decide +kernel
theorem dL_law_296 : decode cL_law 296 = .ok (.iconst 4, 1) := by decide +kernel
theorem dL_law_297 : decode cL_law 297 = .ok (.iadd, 1) := by decide +kernel
theorem dL_law_298 : decode cL_law 298 = .ok (.iaload, 1) := by decide +kernel
theorem dL_law_299 : decode cL_law 299 = .ok (.aload_n 0, 1) := by decide +kernel
theorem dL_law_300 : decode cL_law 300 = .ok (.iload_n 3, 1) := by decide +kernel
theorem dL_law_301 : decode cL_law 301 = .ok (.iconst 5, 1) := by decide +kernel
theorem dL_law_302 : decode cL_law 302 = .ok (.iadd, 1) := by decide +kernel
theorem dL_law_303 : decode cL_law 303 = .ok (.iaload, 1) := by decide +kernel
theorem dL_law_304 : decode cL_law 304 = .ok (.invokevirtual 24, 3) := by decide +kernel
theorem dL_law_307 : decode cL_law 307 = .ok (.if_icmp .eq 1145, 3) := by decide +kernel
theorem dL_law_310 : decode cL_law 310 = .ok (.iconst 0, 1) := by decide +kernel
theorem dL_law_311 : decode cL_law 311 = .ok (.ireturn, 1) := by decide +kernel
theorem dL_law_312 : decode cL_law 312 = .ok (.aload_n 1, 1) := by decide +kernel
theorem dL_law_313 : decode cL_law 313 = .ok (.aload_n 0, 1) := by decide +kernel
theorem dL_law_314 : decode cL_law 314 = .ok (.iload_n 3, 1) := by decide +kernel
theorem dL_law_315 : decode cL_law 315 = .ok (.iconst 1, 1) := by decide +kernel
theorem dL_law_316 : decode cL_law 316 = .ok (.iadd, 1) := by decide +kernel
theorem dL_law_317 : decode cL_law 317 = .ok (.iaload, 1) := by decide +kernel
theorem dL_law_318 : decode cL_law 318 = .ok (.aload_n 0, 1) := by decide +kernel
theorem dL_law_319 : decode cL_law 319 = .ok (.iload_n 3, 1) := by decide +kernel
theorem dL_law_320 : decode cL_law 320 = .ok (.iconst 2, 1) := by decide +kernel
theorem dL_law_321 : decode cL_law 321 = .ok (.iadd, 1) := by decide +kernel
theorem dL_law_322 : decode cL_law 322 = .ok (.iaload, 1) := by decide +kernel
theorem dL_law_323 : decode cL_law 323 = .ok (.aload_n 0, 1) := by decide +kernel
theorem dL_law_324 : decode cL_law 324 = .ok (.iload_n 3, 1) := by decide +kernel
theorem dL_law_325 : decode cL_law 325 = .ok (.iconst 3, 1) := by decide +kernel
theorem dL_law_326 : decode cL_law 326 = .ok (.iadd, 1) := by decide +kernel
theorem dL_law_327 : decode cL_law 327 = .ok (.iaload, 1) := by decide +kernel
theorem dL_law_328 : decode cL_law 328 = .ok (.invokevirtual 25, 3) := by decide +kernel
theorem dL_law_331 : decode cL_law 331 = .ok (.aload_n 2, 1) := by decide +kernel
theorem dL_law_332 : decode cL_law 332 = .ok (.aload_n 0, 1) := by decide +kernel
theorem dL_law_333 : decode cL_law 333 = .ok (.iload_n 3, 1) := by decide +kernel
theorem dL_law_334 : decode cL_law 334 = .ok (.iconst 1, 1) := by decide +kernel
theorem dL_law_335 : decode cL_law 335 = .ok (.iadd, 1) := by decide +kernel
theorem dL_law_336 : decode cL_law 336 = .ok (.iaload, 1) := by decide +kernel
theorem dL_law_337 : decode cL_law 337 = .ok (.aload_n 0, 1) := by decide +kernel
theorem dL_law_338 : decode cL_law 338 = .ok (.iload_n 3, 1) := by decide +kernel
theorem dL_law_339 : decode cL_law 339 = .ok (.iconst 2, 1) := by decide +kernel
theorem dL_law_340 : decode cL_law 340 = .ok (.iadd, 1) := by decide +kernel
theorem dL_law_341 : decode cL_law 341 = .ok (.iaload, 1) := by decide +kernel
theorem dL_law_342 : decode cL_law 342 = .ok (.aload_n 0, 1) := by decide +kernel
theorem dL_law_343 : decode cL_law 343 = .ok (.iload_n 3, 1) := by decide +kernel
theorem dL_law_344 : decode cL_law 344 = .ok (.iconst 3, 1) := by decide +kernel
theorem dL_law_345 : decode cL_law 345 = .ok (.iadd, 1) := by decide +kernel
theorem dL_law_346 : decode cL_law 346 = .ok (.iaload, 1) := by decide +kernel
theorem dL_law_347 : decode cL_law 347 = .ok (.invokevirtual 29, 3) := by decide +kernel
theorem dL_law_350 : decode cL_law 350 = .ok (.if_icmp .eq 1102, 3) := by decide +kernel
theorem dL_law_353 : decode cL_law 353 = .ok (.iconst 0, 1) := by decide +kernel
theorem dL_law_354 : decode cL_law 354 = .ok (.ireturn, 1) := by decide +kernel
theorem dL_law_355 : decode cL_law 355 = .ok (.aload_n 1, 1) := by decide +kernel
theorem dL_law_356 : decode cL_law 356 = .ok (.aload_n 0, 1) := by decide +kernel
theorem dL_law_357 : decode cL_law 357 = .ok (.iload_n 3, 1) := by decide +kernel
theorem dL_law_358 : decode cL_law 358 = .ok (.iconst 1, 1) := by decide +kernel
theorem dL_law_359 : decode cL_law 359 = .ok (.iadd, 1) := by decide +kernel
theorem dL_law_360 : decode cL_law 360 = .ok (.iaload, 1) := by decide +kernel
theorem dL_law_361 : decode cL_law 361 = .ok (.aload_n 0, 1) := by decide +kernel
theorem dL_law_362 : decode cL_law 362 = .ok (.iload_n 3, 1) := by decide +kernel
theorem dL_law_363 : decode cL_law 363 = .ok (.iconst 2, 1) := by decide +kernel
theorem dL_law_364 : decode cL_law 364 = .ok (.iadd, 1) := by decide +kernel
theorem dL_law_365 : decode cL_law 365 = .ok (.iaload, 1) := by decide +kernel
theorem dL_law_366 : decode cL_law 366 = .ok (.aload_n 0, 1) := by decide +kernel
theorem dL_law_367 : decode cL_law 367 = .ok (.iload_n 3, 1) := by decide +kernel
theorem dL_law_368 : decode cL_law 368 = .ok (.iconst 3, 1) := by decide +kernel
theorem dL_law_369 : decode cL_law 369 = .ok (.iadd, 1) := by decide +kernel
theorem dL_law_370 : decode cL_law 370 = .ok (.iaload, 1) := by decide +kernel
theorem dL_law_371 : decode cL_law 371 = .ok (.aload_n 0, 1) := by decide +kernel
theorem dL_law_372 : decode cL_law 372 = .ok (.iload_n 3, 1) := by decide +kernel
theorem dL_law_373 : decode cL_law 373 = .ok (.iconst 4, 1) := by decide +kernel
theorem dL_law_374 : decode cL_law 374 = .ok (.iadd, 1) := by decide +kernel
theorem dL_law_375 : decode cL_law 375 = .ok (.iaload, 1) := by decide +kernel
theorem dL_law_376 : decode cL_law 376 = .ok (.aload_n 0, 1) := by decide +kernel
theorem dL_law_377 : decode cL_law 377 = .ok (.iload_n 3, 1) := by decide +kernel
theorem dL_law_378 : decode cL_law 378 = .ok (.iconst 5, 1) := by decide +kernel
theorem dL_law_379 : decode cL_law 379 = .ok (.iadd, 1) := by decide +kernel
theorem dL_law_380 : decode cL_law 380 = .ok (.iaload, 1) := by decide +kernel
theorem dL_law_381 : decode cL_law 381 = .ok (.invokevirtual 30, 3) := by decide +kernel
theorem dL_law_384 : decode cL_law 384 = .ok (.aload_n 2, 1) := by decide +kernel
theorem dL_law_385 : decode cL_law 385 = .ok (.aload_n 0, 1) := by decide +kernel
theorem dL_law_386 : decode cL_law 386 = .ok (.iload_n 3, 1) := by decide +kernel
theorem dL_law_387 : decode cL_law 387 = .ok (.iconst 1, 1) := by decide +kernel
theorem dL_law_388 : decode cL_law 388 = .ok (.iadd, 1) := by decide +kernel
theorem dL_law_389 : decode cL_law 389 = .ok (.iaload, 1) := by decide +kernel
theorem dL_law_390 : decode cL_law 390 = .ok (.aload_n 0, 1) := by decide +kernel
theorem dL_law_391 : decode cL_law 391 = .ok (.iload_n 3, 1) := by decide +kernel
theorem dL_law_392 : decode cL_law 392 = .ok (.iconst 2, 1) := by decide +kernel
theorem dL_law_393 : decode cL_law 393 = .ok (.iadd, 1) := by decide +kernel
theorem dL_law_394 : decode cL_law 394 = .ok (.iaload, 1) := by decide +kernel
theorem dL_law_395 : decode cL_law 395 = .ok (.aload_n 0, 1) := by decide +kernel
theorem dL_law_396 : decode cL_law 396 = .ok (.iload_n 3, 1) := by decide +kernel
theorem dL_law_397 : decode cL_law 397 = .ok (.iconst 3, 1) := by decide +kernel
theorem dL_law_398 : decode cL_law 398 = .ok (.iadd, 1) := by decide +kernel
theorem dL_law_399 : decode cL_law 399 = .ok (.iaload, 1) := by decide +kernel
theorem dL_law_400 : decode cL_law 400 = .ok (.aload_n 0, 1) := by decide +kernel
theorem dL_law_401 : decode cL_law 401 = .ok (.iload_n 3, 1) := by decide +kernel
theorem dL_law_402 : decode cL_law 402 = .ok (.iconst 4, 1) := by decide +kernel
theorem dL_law_403 : decode cL_law 403 = .ok (.iadd, 1) := by decide +kernel
theorem dL_law_404 : decode cL_law 404 = .ok (.iaload, 1) := by decide +kernel
theorem dL_law_405 : decode cL_law 405 = .ok (.aload_n 0, 1) := by decide +kernel
theorem dL_law_406 : decode cL_law 406 = .ok (.iload_n 3, 1) := by decide +kernel
theorem dL_law_407 : decode cL_law 407 = .ok (.iconst 5, 1) := by decide +kernel
theorem dL_law_408 : decode cL_law 408 = .ok (.iadd, 1) := by decide +kernel
theorem dL_law_409 : decode cL_law 409 = .ok (.iaload, 1) := by decide +kernel
theorem dL_law_410 : decode cL_law 410 = .ok (.invokevirtual 33, 3) := by decide +kernel
theorem dL_law_413 : decode cL_law 413 = .ok (.if_icmp .eq 1039, 3) := by decide +kernel
theorem dL_law_416 : decode cL_law 416 = .ok (.iconst 0, 1) := by decide +kernel
theorem dL_law_417 : decode cL_law 417 = .ok (.ireturn, 1) := by decide +kernel
theorem dL_law_418 : decode cL_law 418 = .ok (.aload_n 1, 1) := by decide +kernel
theorem dL_law_419 : decode cL_law 419 = .ok (.aload_n 0, 1) := by decide +kernel
theorem dL_law_420 : decode cL_law 420 = .ok (.iload_n 3, 1) := by decide +kernel
theorem dL_law_421 : decode cL_law 421 = .ok (.iconst 1, 1) := by decide +kernel
theorem dL_law_422 : decode cL_law 422 = .ok (.iadd, 1) := by decide +kernel
theorem dL_law_423 : decode cL_law 423 = .ok (.iaload, 1) := by decide +kernel
theorem dL_law_424 : decode cL_law 424 = .ok (.aload_n 0, 1) := by decide +kernel
theorem dL_law_425 : decode cL_law 425 = .ok (.iload_n 3, 1) := by decide +kernel
theorem dL_law_426 : decode cL_law 426 = .ok (.iconst 2, 1) := by decide +kernel
theorem dL_law_427 : decode cL_law 427 = .ok (.iadd, 1) := by decide +kernel
theorem dL_law_428 : decode cL_law 428 = .ok (.iaload, 1) := by decide +kernel
theorem dL_law_429 : decode cL_law 429 = .ok (.aload_n 0, 1) := by decide +kernel
theorem dL_law_430 : decode cL_law 430 = .ok (.iload_n 3, 1) := by decide +kernel
theorem dL_law_431 : decode cL_law 431 = .ok (.iconst 3, 1) := by decide +kernel
theorem dL_law_432 : decode cL_law 432 = .ok (.iadd, 1) := by decide +kernel
theorem dL_law_433 : decode cL_law 433 = .ok (.iaload, 1) := by decide +kernel
theorem dL_law_434 : decode cL_law 434 = .ok (.aload_n 0, 1) := by decide +kernel
theorem dL_law_435 : decode cL_law 435 = .ok (.iload_n 3, 1) := by decide +kernel
theorem dL_law_436 : decode cL_law 436 = .ok (.iconst 4, 1) := by decide +kernel
theorem dL_law_437 : decode cL_law 437 = .ok (.iadd, 1) := by decide +kernel
theorem dL_law_438 : decode cL_law 438 = .ok (.iaload, 1) := by decide +kernel
theorem dL_law_439 : decode cL_law 439 = .ok (.invokevirtual 34, 3) := by decide +kernel
theorem dL_law_442 : decode cL_law 442 = .ok (.aload_n 2, 1) := by decide +kernel
theorem dL_law_443 : decode cL_law 443 = .ok (.aload_n 0, 1) := by decide +kernel
theorem dL_law_444 : decode cL_law 444 = .ok (.iload_n 3, 1) := by decide +kernel
theorem dL_law_445 : decode cL_law 445 = .ok (.iconst 1, 1) := by decide +kernel
theorem dL_law_446 : decode cL_law 446 = .ok (.iadd, 1) := by decide +kernel
theorem dL_law_447 : decode cL_law 447 = .ok (.iaload, 1) := by decide +kernel
theorem dL_law_448 : decode cL_law 448 = .ok (.aload_n 0, 1) := by decide +kernel
theorem dL_law_449 : decode cL_law 449 = .ok (.iload_n 3, 1) := by decide +kernel
theorem dL_law_450 : decode cL_law 450 = .ok (.iconst 2, 1) := by decide +kernel
theorem dL_law_451 : decode cL_law 451 = .ok (.iadd, 1) := by decide +kernel
theorem dL_law_452 : decode cL_law 452 = .ok (.iaload, 1) := by decide +kernel
theorem dL_law_453 : decode cL_law 453 = .ok (.aload_n 0, 1) := by decide +kernel
theorem dL_law_454 : decode cL_law 454 = .ok (.iload_n 3, 1) := by decide +kernel
theorem dL_law_455 : decode cL_law 455 = .ok (.iconst 3, 1) := by decide +kernel
theorem dL_law_456 : decode cL_law 456 = .ok (.iadd, 1) := by decide +kernel
theorem dL_law_457 : decode cL_law 457 = .ok (.iaload, 1) := by decide +kernel
theorem dL_law_458 : decode cL_law 458 = .ok (.aload_n 0, 1) := by decide +kernel
theorem dL_law_459 : decode cL_law 459 = .ok (.iload_n 3, 1) := by decide +kernel
theorem dL_law_460 : decode cL_law 460 = .ok (.iconst 4, 1) := by decide +kernel
theorem dL_law_461 : decode cL_law 461 = .ok (.iadd, 1) := by decide +kernel
theorem dL_law_462 : decode cL_law 462 = .ok (.iaload, 1) := by decide +kernel
theorem dL_law_463 : decode cL_law 463 = .ok (.invokevirtual 38, 3) := by decide +kernel
theorem dL_law_466 : decode cL_law 466 = .ok (.if_icmp .eq 986, 3) := by decide +kernel
theorem dL_law_469 : decode cL_law 469 = .ok (.iconst 0, 1) := by decide +kernel
theorem dL_law_470 : decode cL_law 470 = .ok (.ireturn, 1) := by decide +kernel
theorem dL_law_471 : decode cL_law 471 = .ok (.aload_n 1, 1) := by decide +kernel
theorem dL_law_472 : decode cL_law 472 = .ok (.aload_n 0, 1) := by decide +kernel
theorem dL_law_473 : decode cL_law 473 = .ok (.iload_n 3, 1) := by decide +kernel
theorem dL_law_474 : decode cL_law 474 = .ok (.iconst 1, 1) := by decide +kernel
theorem dL_law_475 : decode cL_law 475 = .ok (.iadd, 1) := by decide +kernel
theorem dL_law_476 : decode cL_law 476 = .ok (.iaload, 1) := by decide +kernel
theorem dL_law_477 : decode cL_law 477 = .ok (.aload_n 0, 1) := by decide +kernel
theorem dL_law_478 : decode cL_law 478 = .ok (.iload_n 3, 1) := by decide +kernel
theorem dL_law_479 : decode cL_law 479 = .ok (.iconst 2, 1) := by decide +kernel
theorem dL_law_480 : decode cL_law 480 = .ok (.iadd, 1) := by decide +kernel
theorem dL_law_481 : decode cL_law 481 = .ok (.iaload, 1) := by decide +kernel
theorem dL_law_482 : decode cL_law 482 = .ok (.aload_n 0, 1) := by decide +kernel
theorem dL_law_483 : decode cL_law 483 = .ok (.iload_n 3, 1) := by decide +kernel
theorem dL_law_484 : decode cL_law 484 = .ok (.iconst 3, 1) := by decide +kernel
theorem dL_law_485 : decode cL_law 485 = .ok (.iadd, 1) := by decide +kernel
theorem dL_law_486 : decode cL_law 486 = .ok (.iaload, 1) := by decide +kernel
theorem dL_law_487 : decode cL_law 487 = .ok (.aload_n 0, 1) := by decide +kernel
theorem dL_law_488 : decode cL_law 488 = .ok (.iload_n 3, 1) := by decide +kernel
theorem dL_law_489 : decode cL_law 489 = .ok (.iconst 4, 1) := by decide +kernel
theorem dL_law_490 : decode cL_law 490 = .ok (.iadd, 1) := by decide +kernel
theorem dL_law_491 : decode cL_law 491 = .ok (.iaload, 1) := by decide +kernel
theorem dL_law_492 : decode cL_law 492 = .ok (.invokevirtual 39, 3) := by decide +kernel
theorem dL_law_495 : decode cL_law 495 = .ok (.aload_n 2, 1) := by decide +kernel
theorem dL_law_496 : decode cL_law 496 = .ok (.aload_n 0, 1) := by decide +kernel
theorem dL_law_497 : decode cL_law 497 = .ok (.iload_n 3, 1) := by decide +kernel
theorem dL_law_498 : decode cL_law 498 = .ok (.iconst 1, 1) := by decide +kernel
theorem dL_law_499 : decode cL_law 499 = .ok (.iadd, 1) := by decide +kernel
theorem dL_law_500 : decode cL_law 500 = .ok (.iaload, 1) := by decide +kernel
theorem dL_law_501 : decode cL_law 501 = .ok (.aload_n 0, 1) := by decide +kernel
theorem dL_law_502 : decode cL_law 502 = .ok (.iload_n 3, 1) := by decide +kernel
theorem dL_law_503 : decode cL_law 503 = .ok (.iconst 2, 1) := by decide +kernel
theorem dL_law_504 : decode cL_law 504 = .ok (.iadd, 1) := by decide +kernel
theorem dL_law_505 : decode cL_law 505 = .ok (.iaload, 1) := by decide +kernel
theorem dL_law_506 : decode cL_law 506 = .ok (.aload_n 0, 1) := by decide +kernel
theorem dL_law_507 : decode cL_law 507 = .ok (.iload_n 3, 1) := by decide +kernel
theorem dL_law_508 : decode cL_law 508 = .ok (.iconst 3, 1) := by decide +kernel
theorem dL_law_509 : decode cL_law 509 = .ok (.iadd, 1) := by decide +kernel
theorem dL_law_510 : decode cL_law 510 = .ok (.iaload, 1) := by decide +kernel
theorem dL_law_511 : decode cL_law 511 = .ok (.aload_n 0, 1) := by decide +kernel
theorem dL_law_512 : decode cL_law 512 = .ok (.iload_n 3, 1) := by decide +kernel
theorem dL_law_513 : decode cL_law 513 = .ok (.iconst 4, 1) := by decide +kernel
theorem dL_law_514 : decode cL_law 514 = .ok (.iadd, 1) := by decide +kernel
theorem dL_law_515 : decode cL_law 515 = .ok (.iaload, 1) := by decide +kernel
theorem dL_law_516 : decode cL_law 516 = .ok (.invokevirtual 42, 3) := by decide +kernel
theorem dL_law_519 : decode cL_law 519 = .ok (.if_icmp .eq 933, 3) := by decide +kernel
theorem dL_law_522 : decode cL_law 522 = .ok (.iconst 0, 1) := by decide +kernel
theorem dL_law_523 : decode cL_law 523 = .ok (.ireturn, 1) := by decide +kernel
theorem dL_law_524 : decode cL_law 524 = .ok (.aload_n 1, 1) := by decide +kernel
theorem dL_law_525 : decode cL_law 525 = .ok (.aload_n 0, 1) := by decide +kernel
theorem dL_law_526 : decode cL_law 526 = .ok (.iload_n 3, 1) := by decide +kernel
theorem dL_law_527 : decode cL_law 527 = .ok (.iconst 1, 1) := by decide +kernel
theorem dL_law_528 : decode cL_law 528 = .ok (.iadd, 1) := by decide +kernel
theorem dL_law_529 : decode cL_law 529 = .ok (.iaload, 1) := by decide +kernel
theorem dL_law_530 : decode cL_law 530 = .ok (.aload_n 0, 1) := by decide +kernel
theorem dL_law_531 : decode cL_law 531 = .ok (.iload_n 3, 1) := by decide +kernel
theorem dL_law_532 : decode cL_law 532 = .ok (.iconst 2, 1) := by decide +kernel
theorem dL_law_533 : decode cL_law 533 = .ok (.iadd, 1) := by decide +kernel
theorem dL_law_534 : decode cL_law 534 = .ok (.iaload, 1) := by decide +kernel
theorem dL_law_535 : decode cL_law 535 = .ok (.i2l, 1) := by decide +kernel
theorem dL_law_536 : decode cL_law 536 = .ok (.bipush 32, 2) := by decide +kernel
theorem dL_law_538 : decode cL_law 538 = .ok (.lshl, 1) := by decide +kernel
theorem dL_law_539 : decode cL_law 539 = .ok (.aload_n 0, 1) := by decide +kernel
theorem dL_law_540 : decode cL_law 540 = .ok (.iload_n 3, 1) := by decide +kernel
theorem dL_law_541 : decode cL_law 541 = .ok (.iconst 3, 1) := by decide +kernel
theorem dL_law_542 : decode cL_law 542 = .ok (.iadd, 1) := by decide +kernel
theorem dL_law_543 : decode cL_law 543 = .ok (.iaload, 1) := by decide +kernel
theorem dL_law_544 : decode cL_law 544 = .ok (.i2l, 1) := by decide +kernel
theorem dL_law_545 : decode cL_law 545 = .ok (.ldc2_w 13, 3) := by decide +kernel
theorem dL_law_548 : decode cL_law 548 = .ok (.land, 1) := by decide +kernel
theorem dL_law_549 : decode cL_law 549 = .ok (.lor, 1) := by decide +kernel
theorem dL_law_550 : decode cL_law 550 = .ok (.invokevirtual 43, 3) := by decide +kernel
theorem dL_law_553 : decode cL_law 553 = .ok (.aload_n 2, 1) := by decide +kernel
theorem dL_law_554 : decode cL_law 554 = .ok (.aload_n 0, 1) := by decide +kernel
theorem dL_law_555 : decode cL_law 555 = .ok (.iload_n 3, 1) := by decide +kernel
theorem dL_law_556 : decode cL_law 556 = .ok (.iconst 1, 1) := by decide +kernel
theorem dL_law_557 : decode cL_law 557 = .ok (.iadd, 1) := by decide +kernel
theorem dL_law_558 : decode cL_law 558 = .ok (.iaload, 1) := by decide +kernel
theorem dL_law_559 : decode cL_law 559 = .ok (.aload_n 0, 1) := by decide +kernel
theorem dL_law_560 : decode cL_law 560 = .ok (.iload_n 3, 1) := by decide +kernel
theorem dL_law_561 : decode cL_law 561 = .ok (.iconst 2, 1) := by decide +kernel
theorem dL_law_562 : decode cL_law 562 = .ok (.iadd, 1) := by decide +kernel
theorem dL_law_563 : decode cL_law 563 = .ok (.iaload, 1) := by decide +kernel
theorem dL_law_564 : decode cL_law 564 = .ok (.i2l, 1) := by decide +kernel
theorem dL_law_565 : decode cL_law 565 = .ok (.bipush 32, 2) := by decide +kernel
theorem dL_law_567 : decode cL_law 567 = .ok (.lshl, 1) := by decide +kernel
theorem dL_law_568 : decode cL_law 568 = .ok (.aload_n 0, 1) := by decide +kernel
theorem dL_law_569 : decode cL_law 569 = .ok (.iload_n 3, 1) := by decide +kernel
theorem dL_law_570 : decode cL_law 570 = .ok (.iconst 3, 1) := by decide +kernel
theorem dL_law_571 : decode cL_law 571 = .ok (.iadd, 1) := by decide +kernel
theorem dL_law_572 : decode cL_law 572 = .ok (.iaload, 1) := by decide +kernel
theorem dL_law_573 : decode cL_law 573 = .ok (.i2l, 1) := by decide +kernel
theorem dL_law_574 : decode cL_law 574 = .ok (.ldc2_w 13, 3) := by decide +kernel
theorem dL_law_577 : decode cL_law 577 = .ok (.land, 1) := by decide +kernel
theorem dL_law_578 : decode cL_law 578 = .ok (.lor, 1) := by decide +kernel
theorem dL_law_579 : decode cL_law 579 = .ok (.invokevirtual 47, 3) := by decide +kernel
theorem dL_law_582 : decode cL_law 582 = .ok (.if_icmp .eq 870, 3) := by decide +kernel
theorem dL_law_585 : decode cL_law 585 = .ok (.iconst 0, 1) := by decide +kernel
theorem dL_law_586 : decode cL_law 586 = .ok (.ireturn, 1) := by decide +kernel
theorem dL_law_587 : decode cL_law 587 = .ok (.aload_n 1, 1) := by decide +kernel
theorem dL_law_588 : decode cL_law 588 = .ok (.aload_n 0, 1) := by decide +kernel
theorem dL_law_589 : decode cL_law 589 = .ok (.iload_n 3, 1) := by decide +kernel
theorem dL_law_590 : decode cL_law 590 = .ok (.iconst 1, 1) := by decide +kernel
theorem dL_law_591 : decode cL_law 591 = .ok (.iadd, 1) := by decide +kernel
theorem dL_law_592 : decode cL_law 592 = .ok (.iaload, 1) := by decide +kernel
theorem dL_law_593 : decode cL_law 593 = .ok (.aload_n 0, 1) := by decide +kernel
theorem dL_law_594 : decode cL_law 594 = .ok (.iload_n 3, 1) := by decide +kernel
theorem dL_law_595 : decode cL_law 595 = .ok (.iconst 2, 1) := by decide +kernel
theorem dL_law_596 : decode cL_law 596 = .ok (.iadd, 1) := by decide +kernel
theorem dL_law_597 : decode cL_law 597 = .ok (.iaload, 1) := by decide +kernel
theorem dL_law_598 : decode cL_law 598 = .ok (.invokevirtual 48, 3) := by decide +kernel
theorem dL_law_601 : decode cL_law 601 = .ok (.aload_n 2, 1) := by decide +kernel
theorem dL_law_602 : decode cL_law 602 = .ok (.aload_n 0, 1) := by decide +kernel
theorem dL_law_603 : decode cL_law 603 = .ok (.iload_n 3, 1) := by decide +kernel
theorem dL_law_604 : decode cL_law 604 = .ok (.iconst 1, 1) := by decide +kernel
theorem dL_law_605 : decode cL_law 605 = .ok (.iadd, 1) := by decide +kernel
theorem dL_law_606 : decode cL_law 606 = .ok (.iaload, 1) := by decide +kernel
theorem dL_law_607 : decode cL_law 607 = .ok (.aload_n 0, 1) := by decide +kernel
theorem dL_law_608 : decode cL_law 608 = .ok (.iload_n 3, 1) := by decide +kernel
theorem dL_law_609 : decode cL_law 609 = .ok (.iconst 2, 1) := by decide +kernel
theorem dL_law_610 : decode cL_law 610 = .ok (.iadd, 1) := by decide +kernel
theorem dL_law_611 : decode cL_law 611 = .ok (.iaload, 1) := by decide +kernel
theorem dL_law_612 : decode cL_law 612 = .ok (.invokevirtual 52, 3) := by decide +kernel
theorem dL_law_615 : decode cL_law 615 = .ok (.if_icmp .eq 837, 3) := by decide +kernel
theorem dL_law_618 : decode cL_law 618 = .ok (.iconst 0, 1) := by decide +kernel
theorem dL_law_619 : decode cL_law 619 = .ok (.ireturn, 1) := by decide +kernel
theorem dL_law_620 : decode cL_law 620 = .ok (.aload_n 1, 1) := by decide +kernel
theorem dL_law_621 : decode cL_law 621 = .ok (.aload_n 0, 1) := by decide +kernel
theorem dL_law_622 : decode cL_law 622 = .ok (.iload_n 3, 1) := by decide +kernel
theorem dL_law_623 : decode cL_law 623 = .ok (.iconst 1, 1) := by decide +kernel
theorem dL_law_624 : decode cL_law 624 = .ok (.iadd, 1) := by decide +kernel
theorem dL_law_625 : decode cL_law 625 = .ok (.iaload, 1) := by decide +kernel
theorem dL_law_626 : decode cL_law 626 = .ok (.aload_n 0, 1) := by decide +kernel
theorem dL_law_627 : decode cL_law 627 = .ok (.iload_n 3, 1) := by decide +kernel
theorem dL_law_628 : decode cL_law 628 = .ok (.iconst 2, 1) := by decide +kernel
theorem dL_law_629 : decode cL_law 629 = .ok (.iadd, 1) := by decide +kernel
theorem dL_law_630 : decode cL_law 630 = .ok (.iaload, 1) := by decide +kernel
theorem dL_law_631 : decode cL_law 631 = .ok (.aload_n 0, 1) := by decide +kernel
theorem dL_law_632 : decode cL_law 632 = .ok (.iload_n 3, 1) := by decide +kernel
theorem dL_law_633 : decode cL_law 633 = .ok (.iconst 3, 1) := by decide +kernel
theorem dL_law_634 : decode cL_law 634 = .ok (.iadd, 1) := by decide +kernel
theorem dL_law_635 : decode cL_law 635 = .ok (.iaload, 1) := by decide +kernel
theorem dL_law_636 : decode cL_law 636 = .ok (.aload_n 0, 1) := by decide +kernel
theorem dL_law_637 : decode cL_law 637 = .ok (.iload_n 3, 1) := by decide +kernel
theorem dL_law_638 : decode cL_law 638 = .ok (.iconst 4, 1) := by decide +kernel
theorem dL_law_639 : decode cL_law 639 = .ok (.iadd, 1) := by decide +kernel
theorem dL_law_640 : decode cL_law 640 = .ok (.iaload, 1) := by decide +kernel
theorem dL_law_641 : decode cL_law 641 = .ok (.invokevirtual 53, 3) := by decide +kernel
theorem dL_law_644 : decode cL_law 644 = .ok (.aload_n 2, 1) := by decide +kernel
theorem dL_law_645 : decode cL_law 645 = .ok (.aload_n 0, 1) := by decide +kernel
theorem dL_law_646 : decode cL_law 646 = .ok (.iload_n 3, 1) := by decide +kernel
theorem dL_law_647 : decode cL_law 647 = .ok (.iconst 1, 1) := by decide +kernel
theorem dL_law_648 : decode cL_law 648 = .ok (.iadd, 1) := by decide +kernel
theorem dL_law_649 : decode cL_law 649 = .ok (.iaload, 1) := by decide +kernel
theorem dL_law_650 : decode cL_law 650 = .ok (.aload_n 0, 1) := by decide +kernel
theorem dL_law_651 : decode cL_law 651 = .ok (.iload_n 3, 1) := by decide +kernel
theorem dL_law_652 : decode cL_law 652 = .ok (.iconst 2, 1) := by decide +kernel
theorem dL_law_653 : decode cL_law 653 = .ok (.iadd, 1) := by decide +kernel
theorem dL_law_654 : decode cL_law 654 = .ok (.iaload, 1) := by decide +kernel
theorem dL_law_655 : decode cL_law 655 = .ok (.aload_n 0, 1) := by decide +kernel
theorem dL_law_656 : decode cL_law 656 = .ok (.iload_n 3, 1) := by decide +kernel
theorem dL_law_657 : decode cL_law 657 = .ok (.iconst 3, 1) := by decide +kernel
theorem dL_law_658 : decode cL_law 658 = .ok (.iadd, 1) := by decide +kernel
theorem dL_law_659 : decode cL_law 659 = .ok (.iaload, 1) := by decide +kernel
theorem dL_law_660 : decode cL_law 660 = .ok (.aload_n 0, 1) := by decide +kernel
theorem dL_law_661 : decode cL_law 661 = .ok (.iload_n 3, 1) := by decide +kernel
theorem dL_law_662 : decode cL_law 662 = .ok (.iconst 4, 1) := by decide +kernel
theorem dL_law_663 : decode cL_law 663 = .ok (.iadd, 1) := by decide +kernel
theorem dL_law_664 : decode cL_law 664 = .ok (.iaload, 1) := by decide +kernel
theorem dL_law_665 : decode cL_law 665 = .ok (.invokevirtual 56, 3) := by decide +kernel
theorem dL_law_668 : decode cL_law 668 = .ok (.if_icmp .eq 784, 3) := by decide +kernel
theorem dL_law_671 : decode cL_law 671 = .ok (.iconst 0, 1) := by decide +kernel
theorem dL_law_672 : decode cL_law 672 = .ok (.ireturn, 1) := by decide +kernel
theorem dL_law_673 : decode cL_law 673 = .ok (.aload_n 1, 1) := by decide +kernel
theorem dL_law_674 : decode cL_law 674 = .ok (.invokevirtual 57, 3) := by decide +kernel
theorem dL_law_677 : decode cL_law 677 = .ok (.aload_n 2, 1) := by decide +kernel
theorem dL_law_678 : decode cL_law 678 = .ok (.invokevirtual 61, 3) := by decide +kernel
theorem dL_law_681 : decode cL_law 681 = .ok (.if_icmp .eq 771, 3) := by decide +kernel
theorem dL_law_684 : decode cL_law 684 = .ok (.iconst 0, 1) := by decide +kernel
theorem dL_law_685 : decode cL_law 685 = .ok (.ireturn, 1) := by decide +kernel
theorem dL_law_686 : decode cL_law 686 = .ok (.aload_n 1, 1) := by decide +kernel
theorem dL_law_687 : decode cL_law 687 = .ok (.aload_n 0, 1) := by decide +kernel
theorem dL_law_688 : decode cL_law 688 = .ok (.iload_n 3, 1) := by decide +kernel
theorem dL_law_689 : decode cL_law 689 = .ok (.iconst 1, 1) := by decide +kernel
theorem dL_law_690 : decode cL_law 690 = .ok (.iadd, 1) := by decide +kernel
theorem dL_law_691 : decode cL_law 691 = .ok (.iaload, 1) := by decide +kernel
theorem dL_law_692 : decode cL_law 692 = .ok (.aload_n 0, 1) := by decide +kernel
theorem dL_law_693 : decode cL_law 693 = .ok (.iload_n 3, 1) := by decide +kernel
theorem dL_law_694 : decode cL_law 694 = .ok (.iconst 2, 1) := by decide +kernel
theorem dL_law_695 : decode cL_law 695 = .ok (.iadd, 1) := by decide +kernel
theorem dL_law_696 : decode cL_law 696 = .ok (.iaload, 1) := by decide +kernel
theorem dL_law_697 : decode cL_law 697 = .ok (.invokevirtual 62, 3) := by decide +kernel
theorem dL_law_700 : decode cL_law 700 = .ok (.aload_n 2, 1) := by decide +kernel
theorem dL_law_701 : decode cL_law 701 = .ok (.aload_n 0, 1) := by decide +kernel
theorem dL_law_702 : decode cL_law 702 = .ok (.iload_n 3, 1) := by decide +kernel
theorem dL_law_703 : decode cL_law 703 = .ok (.iconst 1, 1) := by decide +kernel
theorem dL_law_704 : decode cL_law 704 = .ok (.iadd, 1) := by decide +kernel
theorem dL_law_705 : decode cL_law 705 = .ok (.iaload, 1) := by decide +kernel
theorem dL_law_706 : decode cL_law 706 = .ok (.aload_n 0, 1) := by decide +kernel
theorem dL_law_707 : decode cL_law 707 = .ok (.iload_n 3, 1) := by decide +kernel
theorem dL_law_708 : decode cL_law 708 = .ok (.iconst 2, 1) := by decide +kernel
theorem dL_law_709 : decode cL_law 709 = .ok (.iadd, 1) := by decide +kernel
theorem dL_law_710 : decode cL_law 710 = .ok (.iaload, 1) := by decide +kernel
theorem dL_law_711 : decode cL_law 711 = .ok (.invokevirtual 65, 3) := by decide +kernel
theorem dL_law_714 : decode cL_law 714 = .ok (.if_icmp .eq 738, 3) := by decide +kernel
theorem dL_law_717 : decode cL_law 717 = .ok (.iconst 0, 1) := by decide +kernel
theorem dL_law_718 : decode cL_law 718 = .ok (.ireturn, 1) := by decide +kernel
theorem dL_law_719 : decode cL_law 719 = .ok (.aload_n 1, 1) := by decide +kernel
theorem dL_law_720 : decode cL_law 720 = .ok (.aload_n 0, 1) := by decide +kernel
theorem dL_law_721 : decode cL_law 721 = .ok (.iload_n 3, 1) := by decide +kernel
theorem dL_law_722 : decode cL_law 722 = .ok (.iconst 1, 1) := by decide +kernel
theorem dL_law_723 : decode cL_law 723 = .ok (.iadd, 1) := by decide +kernel
theorem dL_law_724 : decode cL_law 724 = .ok (.iaload, 1) := by decide +kernel
theorem dL_law_725 : decode cL_law 725 = .ok (.invokevirtual 66, 3) := by decide +kernel
theorem dL_law_728 : decode cL_law 728 = .ok (.aload_n 2, 1) := by decide +kernel
theorem dL_law_729 : decode cL_law 729 = .ok (.aload_n 0, 1) := by decide +kernel
theorem dL_law_730 : decode cL_law 730 = .ok (.iload_n 3, 1) := by decide +kernel
theorem dL_law_731 : decode cL_law 731 = .ok (.iconst 1, 1) := by decide +kernel
theorem dL_law_732 : decode cL_law 732 = .ok (.iadd, 1) := by decide +kernel
theorem dL_law_733 : decode cL_law 733 = .ok (.iaload, 1) := by decide +kernel
theorem dL_law_734 : decode cL_law 734 = .ok (.invokevirtual 70, 3) := by decide +kernel
theorem dL_law_737 : decode cL_law 737 = .ok (.lcmp, 1) := by decide +kernel
theorem dL_law_738 : decode cL_law 738 = .ok (.ifCond .eq 714, 3) := by decide +kernel
theorem dL_law_741 : decode cL_law 741 = .ok (.iconst 0, 1) := by decide +kernel
theorem dL_law_742 : decode cL_law 742 = .ok (.ireturn, 1) := by decide +kernel
theorem dL_law_743 : decode cL_law 743 = .ok (.aload_n 1, 1) := by decide +kernel
theorem dL_law_744 : decode cL_law 744 = .ok (.aload_n 0, 1) := by decide +kernel
theorem dL_law_745 : decode cL_law 745 = .ok (.iload_n 3, 1) := by decide +kernel
theorem dL_law_746 : decode cL_law 746 = .ok (.iconst 1, 1) := by decide +kernel
theorem dL_law_747 : decode cL_law 747 = .ok (.iadd, 1) := by decide +kernel
theorem dL_law_748 : decode cL_law 748 = .ok (.iaload, 1) := by decide +kernel
theorem dL_law_749 : decode cL_law 749 = .ok (.invokevirtual 71, 3) := by decide +kernel
theorem dL_law_752 : decode cL_law 752 = .ok (.aload_n 2, 1) := by decide +kernel
theorem dL_law_753 : decode cL_law 753 = .ok (.aload_n 0, 1) := by decide +kernel
theorem dL_law_754 : decode cL_law 754 = .ok (.iload_n 3, 1) := by decide +kernel
theorem dL_law_755 : decode cL_law 755 = .ok (.iconst 1, 1) := by decide +kernel
theorem dL_law_756 : decode cL_law 756 = .ok (.iadd, 1) := by decide +kernel
theorem dL_law_757 : decode cL_law 757 = .ok (.iaload, 1) := by decide +kernel
theorem dL_law_758 : decode cL_law 758 = .ok (.invokevirtual 75, 3) := by decide +kernel
theorem dL_law_761 : decode cL_law 761 = .ok (.if_icmp .eq 691, 3) := by decide +kernel
theorem dL_law_764 : decode cL_law 764 = .ok (.iconst 0, 1) := by decide +kernel
theorem dL_law_765 : decode cL_law 765 = .ok (.ireturn, 1) := by decide +kernel
theorem dL_law_766 : decode cL_law 766 = .ok (.aload_n 1, 1) := by decide +kernel
theorem dL_law_767 : decode cL_law 767 = .ok (.invokevirtual 76, 3) := by decide +kernel
theorem dL_law_770 : decode cL_law 770 = .ok (.aload_n 2, 1) := by decide +kernel
theorem dL_law_771 : decode cL_law 771 = .ok (.invokevirtual 79, 3) := by decide +kernel
theorem dL_law_774 : decode cL_law 774 = .ok (.if_icmp .eq 678, 3) := by decide +kernel
theorem dL_law_777 : decode cL_law 777 = .ok (.iconst 0, 1) := by decide +kernel
theorem dL_law_778 : decode cL_law 778 = .ok (.ireturn, 1) := by decide +kernel
theorem dL_law_779 : decode cL_law 779 = .ok (.aload_n 1, 1) := by decide +kernel
theorem dL_law_780 : decode cL_law 780 = .ok (.aload_n 0, 1) := by decide +kernel
theorem dL_law_781 : decode cL_law 781 = .ok (.iload_n 3, 1) := by decide +kernel
theorem dL_law_782 : decode cL_law 782 = .ok (.iconst 1, 1) := by decide +kernel
theorem dL_law_783 : decode cL_law 783 = .ok (.iadd, 1) := by decide +kernel
theorem dL_law_784 : decode cL_law 784 = .ok (.iaload, 1) := by decide +kernel
theorem dL_law_785 : decode cL_law 785 = .ok (.aload_n 0, 1) := by decide +kernel
theorem dL_law_786 : decode cL_law 786 = .ok (.iload_n 3, 1) := by decide +kernel
theorem dL_law_787 : decode cL_law 787 = .ok (.iconst 2, 1) := by decide +kernel
theorem dL_law_788 : decode cL_law 788 = .ok (.iadd, 1) := by decide +kernel
theorem dL_law_789 : decode cL_law 789 = .ok (.iaload, 1) := by decide +kernel
theorem dL_law_790 : decode cL_law 790 = .ok (.aload_n 0, 1) := by decide +kernel
theorem dL_law_791 : decode cL_law 791 = .ok (.iload_n 3, 1) := by decide +kernel
theorem dL_law_792 : decode cL_law 792 = .ok (.iconst 3, 1) := by decide +kernel
theorem dL_law_793 : decode cL_law 793 = .ok (.iadd, 1) := by decide +kernel
theorem dL_law_794 : decode cL_law 794 = .ok (.iaload, 1) := by decide +kernel
theorem dL_law_795 : decode cL_law 795 = .ok (.ifCond .eq 7, 3) := by decide +kernel
theorem dL_law_798 : decode cL_law 798 = .ok (.iconst 1, 1) := by decide +kernel
theorem dL_law_799 : decode cL_law 799 = .ok (.goto 4, 3) := by decide +kernel
theorem dL_law_802 : decode cL_law 802 = .ok (.iconst 0, 1) := by decide +kernel
theorem dL_law_803 : decode cL_law 803 = .ok (.invokevirtual 80, 3) := by decide +kernel
theorem dL_law_806 : decode cL_law 806 = .ok (.aload_n 2, 1) := by decide +kernel
theorem dL_law_807 : decode cL_law 807 = .ok (.aload_n 0, 1) := by decide +kernel
theorem dL_law_808 : decode cL_law 808 = .ok (.iload_n 3, 1) := by decide +kernel
theorem dL_law_809 : decode cL_law 809 = .ok (.iconst 1, 1) := by decide +kernel
theorem dL_law_810 : decode cL_law 810 = .ok (.iadd, 1) := by decide +kernel
theorem dL_law_811 : decode cL_law 811 = .ok (.iaload, 1) := by decide +kernel
theorem dL_law_812 : decode cL_law 812 = .ok (.aload_n 0, 1) := by decide +kernel
theorem dL_law_813 : decode cL_law 813 = .ok (.iload_n 3, 1) := by decide +kernel
theorem dL_law_814 : decode cL_law 814 = .ok (.iconst 2, 1) := by decide +kernel
theorem dL_law_815 : decode cL_law 815 = .ok (.iadd, 1) := by decide +kernel
theorem dL_law_816 : decode cL_law 816 = .ok (.iaload, 1) := by decide +kernel
theorem dL_law_817 : decode cL_law 817 = .ok (.aload_n 0, 1) := by decide +kernel
theorem dL_law_818 : decode cL_law 818 = .ok (.iload_n 3, 1) := by decide +kernel
theorem dL_law_819 : decode cL_law 819 = .ok (.iconst 3, 1) := by decide +kernel
theorem dL_law_820 : decode cL_law 820 = .ok (.iadd, 1) := by decide +kernel
theorem dL_law_821 : decode cL_law 821 = .ok (.iaload, 1) := by decide +kernel
theorem dL_law_822 : decode cL_law 822 = .ok (.ifCond .eq 7, 3) := by decide +kernel
theorem dL_law_825 : decode cL_law 825 = .ok (.iconst 1, 1) := by decide +kernel
theorem dL_law_826 : decode cL_law 826 = .ok (.goto 4, 3) := by decide +kernel
theorem dL_law_829 : decode cL_law 829 = .ok (.iconst 0, 1) := by decide +kernel
theorem dL_law_830 : decode cL_law 830 = .ok (.invokevirtual 84, 3) := by decide +kernel
theorem dL_law_833 : decode cL_law 833 = .ok (.if_icmp .eq 619, 3) := by decide +kernel
theorem dL_law_836 : decode cL_law 836 = .ok (.iconst 0, 1) := by decide +kernel
theorem dL_law_837 : decode cL_law 837 = .ok (.ireturn, 1) := by decide +kernel
theorem dL_law_838 : decode cL_law 838 = .ok (.aload_n 1, 1) := by decide +kernel
theorem dL_law_839 : decode cL_law 839 = .ok (.aload_n 0, 1) := by decide +kernel
theorem dL_law_840 : decode cL_law 840 = .ok (.iload_n 3, 1) := by decide +kernel
theorem dL_law_841 : decode cL_law 841 = .ok (.iconst 1, 1) := by decide +kernel
theorem dL_law_842 : decode cL_law 842 = .ok (.iadd, 1) := by decide +kernel
theorem dL_law_843 : decode cL_law 843 = .ok (.iaload, 1) := by decide +kernel
theorem dL_law_844 : decode cL_law 844 = .ok (.invokevirtual 85, 3) := by decide +kernel
theorem dL_law_847 : decode cL_law 847 = .ok (.aload_n 2, 1) := by decide +kernel
theorem dL_law_848 : decode cL_law 848 = .ok (.aload_n 0, 1) := by decide +kernel
theorem dL_law_849 : decode cL_law 849 = .ok (.iload_n 3, 1) := by decide +kernel
theorem dL_law_850 : decode cL_law 850 = .ok (.iconst 1, 1) := by decide +kernel
theorem dL_law_851 : decode cL_law 851 = .ok (.iadd, 1) := by decide +kernel
theorem dL_law_852 : decode cL_law 852 = .ok (.iaload, 1) := by decide +kernel
theorem dL_law_853 : decode cL_law 853 = .ok (.invokevirtual 88, 3) := by decide +kernel
theorem dL_law_856 : decode cL_law 856 = .ok (.if_icmp .eq 596, 3) := by decide +kernel
theorem dL_law_859 : decode cL_law 859 = .ok (.iconst 0, 1) := by decide +kernel
theorem dL_law_860 : decode cL_law 860 = .ok (.ireturn, 1) := by decide +kernel
theorem dL_law_861 : decode cL_law 861 = .ok (.aload_n 1, 1) := by decide +kernel
theorem dL_law_862 : decode cL_law 862 = .ok (.aload_n 0, 1) := by decide +kernel
theorem dL_law_863 : decode cL_law 863 = .ok (.iload_n 3, 1) := by decide +kernel
theorem dL_law_864 : decode cL_law 864 = .ok (.iconst 1, 1) := by decide +kernel
theorem dL_law_865 : decode cL_law 865 = .ok (.iadd, 1) := by decide +kernel
theorem dL_law_866 : decode cL_law 866 = .ok (.iaload, 1) := by decide +kernel
theorem dL_law_867 : decode cL_law 867 = .ok (.aload_n 0, 1) := by decide +kernel
theorem dL_law_868 : decode cL_law 868 = .ok (.iload_n 3, 1) := by decide +kernel
theorem dL_law_869 : decode cL_law 869 = .ok (.iconst 2, 1) := by decide +kernel
theorem dL_law_870 : decode cL_law 870 = .ok (.iadd, 1) := by decide +kernel
theorem dL_law_871 : decode cL_law 871 = .ok (.iaload, 1) := by decide +kernel
theorem dL_law_872 : decode cL_law 872 = .ok (.aload_n 0, 1) := by decide +kernel
theorem dL_law_873 : decode cL_law 873 = .ok (.iload_n 3, 1) := by decide +kernel
theorem dL_law_874 : decode cL_law 874 = .ok (.iconst 3, 1) := by decide +kernel
theorem dL_law_875 : decode cL_law 875 = .ok (.iadd, 1) := by decide +kernel
theorem dL_law_876 : decode cL_law 876 = .ok (.iaload, 1) := by decide +kernel
theorem dL_law_877 : decode cL_law 877 = .ok (.i2l, 1) := by decide +kernel
theorem dL_law_878 : decode cL_law 878 = .ok (.bipush 32, 2) := by decide +kernel
theorem dL_law_880 : decode cL_law 880 = .ok (.lshl, 1) := by decide +kernel
theorem dL_law_881 : decode cL_law 881 = .ok (.aload_n 0, 1) := by decide +kernel
theorem dL_law_882 : decode cL_law 882 = .ok (.iload_n 3, 1) := by decide +kernel
theorem dL_law_883 : decode cL_law 883 = .ok (.iconst 4, 1) := by decide +kernel
theorem dL_law_884 : decode cL_law 884 = .ok (.iadd, 1) := by decide +kernel
theorem dL_law_885 : decode cL_law 885 = .ok (.iaload, 1) := by decide +kernel
theorem dL_law_886 : decode cL_law 886 = .ok (.i2l, 1) := by decide +kernel
theorem dL_law_887 : decode cL_law 887 = .ok (.ldc2_w 13, 3) := by decide +kernel
theorem dL_law_890 : decode cL_law 890 = .ok (.land, 1) := by decide +kernel
theorem dL_law_891 : decode cL_law 891 = .ok (.lor, 1) := by decide +kernel
theorem dL_law_892 : decode cL_law 892 = .ok (.invokevirtual 89, 3) := by decide +kernel
theorem dL_law_895 : decode cL_law 895 = .ok (.aload_n 2, 1) := by decide +kernel
theorem dL_law_896 : decode cL_law 896 = .ok (.aload_n 0, 1) := by decide +kernel
theorem dL_law_897 : decode cL_law 897 = .ok (.iload_n 3, 1) := by decide +kernel
theorem dL_law_898 : decode cL_law 898 = .ok (.iconst 1, 1) := by decide +kernel
theorem dL_law_899 : decode cL_law 899 = .ok (.iadd, 1) := by decide +kernel
theorem dL_law_900 : decode cL_law 900 = .ok (.iaload, 1) := by decide +kernel
theorem dL_law_901 : decode cL_law 901 = .ok (.aload_n 0, 1) := by decide +kernel
theorem dL_law_902 : decode cL_law 902 = .ok (.iload_n 3, 1) := by decide +kernel
theorem dL_law_903 : decode cL_law 903 = .ok (.iconst 2, 1) := by decide +kernel
theorem dL_law_904 : decode cL_law 904 = .ok (.iadd, 1) := by decide +kernel
theorem dL_law_905 : decode cL_law 905 = .ok (.iaload, 1) := by decide +kernel
theorem dL_law_906 : decode cL_law 906 = .ok (.aload_n 0, 1) := by decide +kernel
theorem dL_law_907 : decode cL_law 907 = .ok (.iload_n 3, 1) := by decide +kernel
theorem dL_law_908 : decode cL_law 908 = .ok (.iconst 3, 1) := by decide +kernel
theorem dL_law_909 : decode cL_law 909 = .ok (.iadd, 1) := by decide +kernel
theorem dL_law_910 : decode cL_law 910 = .ok (.iaload, 1) := by decide +kernel
theorem dL_law_911 : decode cL_law 911 = .ok (.i2l, 1) := by decide +kernel
theorem dL_law_912 : decode cL_law 912 = .ok (.bipush 32, 2) := by decide +kernel
theorem dL_law_914 : decode cL_law 914 = .ok (.lshl, 1) := by decide +kernel
theorem dL_law_915 : decode cL_law 915 = .ok (.aload_n 0, 1) := by decide +kernel
theorem dL_law_916 : decode cL_law 916 = .ok (.iload_n 3, 1) := by decide +kernel
theorem dL_law_917 : decode cL_law 917 = .ok (.iconst 4, 1) := by decide +kernel
theorem dL_law_918 : decode cL_law 918 = .ok (.iadd, 1) := by decide +kernel
theorem dL_law_919 : decode cL_law 919 = .ok (.iaload, 1) := by decide +kernel
theorem dL_law_920 : decode cL_law 920 = .ok (.i2l, 1) := by decide +kernel
theorem dL_law_921 : decode cL_law 921 = .ok (.ldc2_w 13, 3) := by decide +kernel
theorem dL_law_924 : decode cL_law 924 = .ok (.land, 1) := by decide +kernel
theorem dL_law_925 : decode cL_law 925 = .ok (.lor, 1) := by decide +kernel
theorem dL_law_926 : decode cL_law 926 = .ok (.invokevirtual 93, 3) := by decide +kernel
theorem dL_law_929 : decode cL_law 929 = .ok (.if_icmp .eq 523, 3) := by decide +kernel
theorem dL_law_932 : decode cL_law 932 = .ok (.iconst 0, 1) := by decide +kernel
theorem dL_law_933 : decode cL_law 933 = .ok (.ireturn, 1) := by decide +kernel
theorem dL_law_934 : decode cL_law 934 = .ok (.aload_n 1, 1) := by decide +kernel
theorem dL_law_935 : decode cL_law 935 = .ok (.aload_n 0, 1) := by decide +kernel
theorem dL_law_936 : decode cL_law 936 = .ok (.iload_n 3, 1) := by decide +kernel
theorem dL_law_937 : decode cL_law 937 = .ok (.iconst 1, 1) := by decide +kernel
theorem dL_law_938 : decode cL_law 938 = .ok (.iadd, 1) := by decide +kernel
theorem dL_law_939 : decode cL_law 939 = .ok (.iaload, 1) := by decide +kernel
theorem dL_law_940 : decode cL_law 940 = .ok (.aload_n 0, 1) := by decide +kernel
theorem dL_law_941 : decode cL_law 941 = .ok (.iload_n 3, 1) := by decide +kernel
theorem dL_law_942 : decode cL_law 942 = .ok (.iconst 2, 1) := by decide +kernel
theorem dL_law_943 : decode cL_law 943 = .ok (.iadd, 1) := by decide +kernel
theorem dL_law_944 : decode cL_law 944 = .ok (.iaload, 1) := by decide +kernel
theorem dL_law_945 : decode cL_law 945 = .ok (.invokevirtual 94, 3) := by decide +kernel
theorem dL_law_948 : decode cL_law 948 = .ok (.aload_n 2, 1) := by decide +kernel
theorem dL_law_949 : decode cL_law 949 = .ok (.aload_n 0, 1) := by decide +kernel
theorem dL_law_950 : decode cL_law 950 = .ok (.iload_n 3, 1) := by decide +kernel
theorem dL_law_951 : decode cL_law 951 = .ok (.iconst 1, 1) := by decide +kernel
theorem dL_law_952 : decode cL_law 952 = .ok (.iadd, 1) := by decide +kernel
theorem dL_law_953 : decode cL_law 953 = .ok (.iaload, 1) := by decide +kernel
theorem dL_law_954 : decode cL_law 954 = .ok (.aload_n 0, 1) := by decide +kernel
theorem dL_law_955 : decode cL_law 955 = .ok (.iload_n 3, 1) := by decide +kernel
theorem dL_law_956 : decode cL_law 956 = .ok (.iconst 2, 1) := by decide +kernel
theorem dL_law_957 : decode cL_law 957 = .ok (.iadd, 1) := by decide +kernel
theorem dL_law_958 : decode cL_law 958 = .ok (.iaload, 1) := by decide +kernel
theorem dL_law_959 : decode cL_law 959 = .ok (.invokevirtual 98, 3) := by decide +kernel
theorem dL_law_962 : decode cL_law 962 = .ok (.lcmp, 1) := by decide +kernel
theorem dL_law_963 : decode cL_law 963 = .ok (.ifCond .eq 489, 3) := by decide +kernel
theorem dL_law_966 : decode cL_law 966 = .ok (.iconst 0, 1) := by decide +kernel
theorem dL_law_967 : decode cL_law 967 = .ok (.ireturn, 1) := by decide +kernel
theorem dL_law_968 : decode cL_law 968 = .ok (.aload_n 1, 1) := by decide +kernel
theorem dL_law_969 : decode cL_law 969 = .ok (.aload_n 0, 1) := by decide +kernel
theorem dL_law_970 : decode cL_law 970 = .ok (.iload_n 3, 1) := by decide +kernel
theorem dL_law_971 : decode cL_law 971 = .ok (.iconst 1, 1) := by decide +kernel
theorem dL_law_972 : decode cL_law 972 = .ok (.iadd, 1) := by decide +kernel
theorem dL_law_973 : decode cL_law 973 = .ok (.iaload, 1) := by decide +kernel
theorem dL_law_974 : decode cL_law 974 = .ok (.aload_n 0, 1) := by decide +kernel
theorem dL_law_975 : decode cL_law 975 = .ok (.iload_n 3, 1) := by decide +kernel
theorem dL_law_976 : decode cL_law 976 = .ok (.iconst 2, 1) := by decide +kernel
theorem dL_law_977 : decode cL_law 977 = .ok (.iadd, 1) := by decide +kernel
theorem dL_law_978 : decode cL_law 978 = .ok (.iaload, 1) := by decide +kernel
theorem dL_law_979 : decode cL_law 979 = .ok (.aload_n 0, 1) := by decide +kernel
theorem dL_law_980 : decode cL_law 980 = .ok (.iload_n 3, 1) := by decide +kernel
theorem dL_law_981 : decode cL_law 981 = .ok (.iconst 3, 1) := by decide +kernel
theorem dL_law_982 : decode cL_law 982 = .ok (.iadd, 1) := by decide +kernel
theorem dL_law_983 : decode cL_law 983 = .ok (.iaload, 1) := by decide +kernel
theorem dL_law_984 : decode cL_law 984 = .ok (.aload_n 0, 1) := by decide +kernel
theorem dL_law_985 : decode cL_law 985 = .ok (.iload_n 3, 1) := by decide +kernel
theorem dL_law_986 : decode cL_law 986 = .ok (.iconst 4, 1) := by decide +kernel
theorem dL_law_987 : decode cL_law 987 = .ok (.iadd, 1) := by decide +kernel
theorem dL_law_988 : decode cL_law 988 = .ok (.iaload, 1) := by decide +kernel
theorem dL_law_989 : decode cL_law 989 = .ok (.aload_n 0, 1) := by decide +kernel
theorem dL_law_990 : decode cL_law 990 = .ok (.iload_n 3, 1) := by decide +kernel
theorem dL_law_991 : decode cL_law 991 = .ok (.iconst 5, 1) := by decide +kernel
theorem dL_law_992 : decode cL_law 992 = .ok (.iadd, 1) := by decide +kernel
theorem dL_law_993 : decode cL_law 993 = .ok (.iaload, 1) := by decide +kernel
theorem dL_law_994 : decode cL_law 994 = .ok (.invokevirtual 99, 3) := by decide +kernel
theorem dL_law_997 : decode cL_law 997 = .ok (.aload_n 2, 1) := by decide +kernel
theorem dL_law_998 : decode cL_law 998 = .ok (.aload_n 0, 1) := by decide +kernel
theorem dL_law_999 : decode cL_law 999 = .ok (.iload_n 3, 1) := by decide +kernel
theorem dL_law_1000 : decode cL_law 1000 = .ok (.iconst 1, 1) := by decide +kernel
theorem dL_law_1001 : decode cL_law 1001 = .ok (.iadd, 1) := by decide +kernel
theorem dL_law_1002 : decode cL_law 1002 = .ok (.iaload, 1) := by decide +kernel
theorem dL_law_1003 : decode cL_law 1003 = .ok (.aload_n 0, 1) := by decide +kernel
theorem dL_law_1004 : decode cL_law 1004 = .ok (.iload_n 3, 1) := by decide +kernel
theorem dL_law_1005 : decode cL_law 1005 = .ok (.iconst 2, 1) := by decide +kernel
theorem dL_law_1006 : decode cL_law 1006 = .ok (.iadd, 1) := by decide +kernel
theorem dL_law_1007 : decode cL_law 1007 = .ok (.iaload, 1) := by decide +kernel
theorem dL_law_1008 : decode cL_law 1008 = .ok (.aload_n 0, 1) := by decide +kernel
theorem dL_law_1009 : decode cL_law 1009 = .ok (.iload_n 3, 1) := by decide +kernel
theorem dL_law_1010 : decode cL_law 1010 = .ok (.iconst 3, 1) := by decide +kernel
theorem dL_law_1011 : decode cL_law 1011 = .ok (.iadd, 1) := by decide +kernel
theorem dL_law_1012 : decode cL_law 1012 = .ok (.iaload, 1) := by decide +kernel
theorem dL_law_1013 : decode cL_law 1013 = .ok (.aload_n 0, 1) := by decide +kernel
theorem dL_law_1014 : decode cL_law 1014 = .ok (.iload_n 3, 1) := by decide +kernel
theorem dL_law_1015 : decode cL_law 1015 = .ok (.iconst 4, 1) := by decide +kernel
theorem dL_law_1016 : decode cL_law 1016 = .ok (.iadd, 1) := by decide +kernel
theorem dL_law_1017 : decode cL_law 1017 = .ok (.iaload, 1) := by decide +kernel
theorem dL_law_1018 : decode cL_law 1018 = .ok (.aload_n 0, 1) := by decide +kernel
theorem dL_law_1019 : decode cL_law 1019 = .ok (.iload_n 3, 1) := by decide +kernel
theorem dL_law_1020 : decode cL_law 1020 = .ok (.iconst 5, 1) := by decide +kernel
theorem dL_law_1021 : decode cL_law 1021 = .ok (.iadd, 1) := by decide +kernel
theorem dL_law_1022 : decode cL_law 1022 = .ok (.iaload, 1) := by decide +kernel
theorem dL_law_1023 : decode cL_law 1023 = .ok (.invokevirtual 102, 3) := by decide +kernel
theorem dL_law_1026 : decode cL_law 1026 = .ok (.if_icmp .eq 426, 3) := by decide +kernel
theorem dL_law_1029 : decode cL_law 1029 = .ok (.iconst 0, 1) := by decide +kernel
theorem dL_law_1030 : decode cL_law 1030 = .ok (.ireturn, 1) := by decide +kernel
theorem dL_law_1031 : decode cL_law 1031 = .ok (.aload_n 1, 1) := by decide +kernel
theorem dL_law_1032 : decode cL_law 1032 = .ok (.invokevirtual 103, 3) := by decide +kernel
theorem dL_law_1035 : decode cL_law 1035 = .ok (.aload_n 2, 1) := by decide +kernel
theorem dL_law_1036 : decode cL_law 1036 = .ok (.invokevirtual 106, 3) := by decide +kernel
theorem dL_law_1039 : decode cL_law 1039 = .ok (.if_icmp .eq 413, 3) := by decide +kernel
theorem dL_law_1042 : decode cL_law 1042 = .ok (.iconst 0, 1) := by decide +kernel
theorem dL_law_1043 : decode cL_law 1043 = .ok (.ireturn, 1) := by decide +kernel
theorem dL_law_1044 : decode cL_law 1044 = .ok (.aload_n 1, 1) := by decide +kernel
theorem dL_law_1045 : decode cL_law 1045 = .ok (.invokevirtual 107, 3) := by decide +kernel
theorem dL_law_1048 : decode cL_law 1048 = .ok (.aload_n 2, 1) := by decide +kernel
theorem dL_law_1049 : decode cL_law 1049 = .ok (.invokevirtual 110, 3) := by decide +kernel
theorem dL_law_1052 : decode cL_law 1052 = .ok (.if_icmp .eq 400, 3) := by decide +kernel
theorem dL_law_1055 : decode cL_law 1055 = .ok (.iconst 0, 1) := by decide +kernel
theorem dL_law_1056 : decode cL_law 1056 = .ok (.ireturn, 1) := by decide +kernel
theorem dL_law_1057 : decode cL_law 1057 = .ok (.aload_n 1, 1) := by decide +kernel
theorem dL_law_1058 : decode cL_law 1058 = .ok (.aload_n 0, 1) := by decide +kernel
theorem dL_law_1059 : decode cL_law 1059 = .ok (.iload_n 3, 1) := by decide +kernel
theorem dL_law_1060 : decode cL_law 1060 = .ok (.iconst 1, 1) := by decide +kernel
theorem dL_law_1061 : decode cL_law 1061 = .ok (.iadd, 1) := by decide +kernel
theorem dL_law_1062 : decode cL_law 1062 = .ok (.iaload, 1) := by decide +kernel
theorem dL_law_1063 : decode cL_law 1063 = .ok (.invokevirtual 111, 3) := by decide +kernel
theorem dL_law_1066 : decode cL_law 1066 = .ok (.aload_n 2, 1) := by decide +kernel
theorem dL_law_1067 : decode cL_law 1067 = .ok (.aload_n 0, 1) := by decide +kernel
theorem dL_law_1068 : decode cL_law 1068 = .ok (.iload_n 3, 1) := by decide +kernel
theorem dL_law_1069 : decode cL_law 1069 = .ok (.iconst 1, 1) := by decide +kernel
theorem dL_law_1070 : decode cL_law 1070 = .ok (.iadd, 1) := by decide +kernel
theorem dL_law_1071 : decode cL_law 1071 = .ok (.iaload, 1) := by decide +kernel
theorem dL_law_1072 : decode cL_law 1072 = .ok (.invokevirtual 114, 3) := by decide +kernel
theorem dL_law_1075 : decode cL_law 1075 = .ok (.if_icmp .eq 377, 3) := by decide +kernel
theorem dL_law_1078 : decode cL_law 1078 = .ok (.iconst 0, 1) := by decide +kernel
theorem dL_law_1079 : decode cL_law 1079 = .ok (.ireturn, 1) := by decide +kernel
theorem dL_law_1080 : decode cL_law 1080 = .ok (.aload_n 1, 1) := by decide +kernel
theorem dL_law_1081 : decode cL_law 1081 = .ok (.invokevirtual 115, 3) := by decide +kernel
theorem dL_law_1084 : decode cL_law 1084 = .ok (.aload_n 2, 1) := by decide +kernel
theorem dL_law_1085 : decode cL_law 1085 = .ok (.invokevirtual 118, 3) := by decide +kernel
theorem dL_law_1088 : decode cL_law 1088 = .ok (.if_icmp .eq 364, 3) := by decide +kernel
theorem dL_law_1091 : decode cL_law 1091 = .ok (.iconst 0, 1) := by decide +kernel
theorem dL_law_1092 : decode cL_law 1092 = .ok (.ireturn, 1) := by decide +kernel
theorem dL_law_1093 : decode cL_law 1093 = .ok (.aload_n 1, 1) := by decide +kernel
theorem dL_law_1094 : decode cL_law 1094 = .ok (.aload_n 0, 1) := by decide +kernel
theorem dL_law_1095 : decode cL_law 1095 = .ok (.iload_n 3, 1) := by decide +kernel
theorem dL_law_1096 : decode cL_law 1096 = .ok (.iconst 1, 1) := by decide +kernel
theorem dL_law_1097 : decode cL_law 1097 = .ok (.iadd, 1) := by decide +kernel
theorem dL_law_1098 : decode cL_law 1098 = .ok (.iaload, 1) := by decide +kernel
theorem dL_law_1099 : decode cL_law 1099 = .ok (.invokevirtual 119, 3) := by decide +kernel
theorem dL_law_1102 : decode cL_law 1102 = .ok (.aload_n 2, 1) := by decide +kernel
theorem dL_law_1103 : decode cL_law 1103 = .ok (.aload_n 0, 1) := by decide +kernel
theorem dL_law_1104 : decode cL_law 1104 = .ok (.iload_n 3, 1) := by decide +kernel
theorem dL_law_1105 : decode cL_law 1105 = .ok (.iconst 1, 1) := by decide +kernel
theorem dL_law_1106 : decode cL_law 1106 = .ok (.iadd, 1) := by decide +kernel
theorem dL_law_1107 : decode cL_law 1107 = .ok (.iaload, 1) := by decide +kernel
theorem dL_law_1108 : decode cL_law 1108 = .ok (.invokevirtual 122, 3) := by decide +kernel
theorem dL_law_1111 : decode cL_law 1111 = .ok (.if_icmp .eq 341, 3) := by decide +kernel
theorem dL_law_1114 : decode cL_law 1114 = .ok (.iconst 0, 1) := by decide +kernel
theorem dL_law_1115 : decode cL_law 1115 = .ok (.ireturn, 1) := by decide +kernel
theorem dL_law_1116 : decode cL_law 1116 = .ok (.aload_n 1, 1) := by decide +kernel
theorem dL_law_1117 : decode cL_law 1117 = .ok (.aload_n 0, 1) := by decide +kernel
theorem dL_law_1118 : decode cL_law 1118 = .ok (.iload_n 3, 1) := by decide +kernel
theorem dL_law_1119 : decode cL_law 1119 = .ok (.iconst 1, 1) := by decide +kernel
theorem dL_law_1120 : decode cL_law 1120 = .ok (.iadd, 1) := by decide +kernel
theorem dL_law_1121 : decode cL_law 1121 = .ok (.iaload, 1) := by decide +kernel
theorem dL_law_1122 : decode cL_law 1122 = .ok (.aload_n 0, 1) := by decide +kernel
theorem dL_law_1123 : decode cL_law 1123 = .ok (.iload_n 3, 1) := by decide +kernel
theorem dL_law_1124 : decode cL_law 1124 = .ok (.iconst 2, 1) := by decide +kernel
theorem dL_law_1125 : decode cL_law 1125 = .ok (.iadd, 1) := by decide +kernel
theorem dL_law_1126 : decode cL_law 1126 = .ok (.iaload, 1) := by decide +kernel
theorem dL_law_1127 : decode cL_law 1127 = .ok (.invokevirtual 123, 3) := by decide +kernel
theorem dL_law_1130 : decode cL_law 1130 = .ok (.aload_n 2, 1) := by decide +kernel
theorem dL_law_1131 : decode cL_law 1131 = .ok (.aload_n 0, 1) := by decide +kernel
theorem dL_law_1132 : decode cL_law 1132 = .ok (.iload_n 3, 1) := by decide +kernel
theorem dL_law_1133 : decode cL_law 1133 = .ok (.iconst 1, 1) := by decide +kernel
theorem dL_law_1134 : decode cL_law 1134 = .ok (.iadd, 1) := by decide +kernel
theorem dL_law_1135 : decode cL_law 1135 = .ok (.iaload, 1) := by decide +kernel
theorem dL_law_1136 : decode cL_law 1136 = .ok (.aload_n 0, 1) := by decide +kernel
theorem dL_law_1137 : decode cL_law 1137 = .ok (.iload_n 3, 1) := by decide +kernel
theorem dL_law_1138 : decode cL_law 1138 = .ok (.iconst 2, 1) := by decide +kernel
theorem dL_law_1139 : decode cL_law 1139 = .ok (.iadd, 1) := by decide +kernel
theorem dL_law_1140 : decode cL_law 1140 = .ok (.iaload, 1) := by decide +kernel
theorem dL_law_1141 : decode cL_law 1141 = .ok (.invokevirtual 126, 3) := by decide +kernel
theorem dL_law_1144 : decode cL_law 1144 = .ok (.if_icmp .eq 308, 3) := by decide +kernel
theorem dL_law_1147 : decode cL_law 1147 = .ok (.iconst 0, 1) := by decide +kernel
theorem dL_law_1148 : decode cL_law 1148 = .ok (.ireturn, 1) := by decide +kernel
theorem dL_law_1149 : decode cL_law 1149 = .ok (.aload_n 1, 1) := by decide +kernel
theorem dL_law_1150 : decode cL_law 1150 = .ok (.aload_n 0, 1) := by decide +kernel
theorem dL_law_1151 : decode cL_law 1151 = .ok (.iload_n 3, 1) := by decide +kernel
theorem dL_law_1152 : decode cL_law 1152 = .ok (.iconst 1, 1) := by decide +kernel
theorem dL_law_1153 : decode cL_law 1153 = .ok (.iadd, 1) := by decide +kernel
theorem dL_law_1154 : decode cL_law 1154 = .ok (.iaload, 1) := by decide +kernel
theorem dL_law_1155 : decode cL_law 1155 = .ok (.aload_n 0, 1) := by decide +kernel
theorem dL_law_1156 : decode cL_law 1156 = .ok (.iload_n 3, 1) := by decide +kernel
theorem dL_law_1157 : decode cL_law 1157 = .ok (.iconst 2, 1) := by decide +kernel
theorem dL_law_1158 : decode cL_law 1158 = .ok (.iadd, 1) := by decide +kernel
theorem dL_law_1159 : decode cL_law 1159 = .ok (.iaload, 1) := by decide +kernel
theorem dL_law_1160 : decode cL_law 1160 = .ok (.invokevirtual 127, 3) := by decide +kernel
theorem dL_law_1163 : decode cL_law 1163 = .ok (.aload_n 2, 1) := by decide +kernel
theorem dL_law_1164 : decode cL_law 1164 = .ok (.aload_n 0, 1) := by decide +kernel
theorem dL_law_1165 : decode cL_law 1165 = .ok (.iload_n 3, 1) := by decide +kernel
theorem dL_law_1166 : decode cL_law 1166 = .ok (.iconst 1, 1) := by decide +kernel
theorem dL_law_1167 : decode cL_law 1167 = .ok (.iadd, 1) := by decide +kernel
theorem dL_law_1168 : decode cL_law 1168 = .ok (.iaload, 1) := by decide +kernel
theorem dL_law_1169 : decode cL_law 1169 = .ok (.aload_n 0, 1) := by decide +kernel
theorem dL_law_1170 : decode cL_law 1170 = .ok (.iload_n 3, 1) := by decide +kernel
theorem dL_law_1171 : decode cL_law 1171 = .ok (.iconst 2, 1) := by decide +kernel
theorem dL_law_1172 : decode cL_law 1172 = .ok (.iadd, 1) := by decide +kernel
theorem dL_law_1173 : decode cL_law 1173 = .ok (.iaload, 1) := by decide +kernel
theorem dL_law_1174 : decode cL_law 1174 = .ok (.invokevirtual 130, 3) := by decide +kernel
theorem dL_law_1177 : decode cL_law 1177 = .ok (.if_icmp .eq 275, 3) := by decide +kernel
theorem dL_law_1180 : decode cL_law 1180 = .ok (.iconst 0, 1) := by decide +kernel
theorem dL_law_1181 : decode cL_law 1181 = .ok (.ireturn, 1) := by decide +kernel
theorem dL_law_1182 : decode cL_law 1182 = .ok (.aload_n 1, 1) := by decide +kernel
theorem dL_law_1183 : decode cL_law 1183 = .ok (.aload_n 0, 1) := by decide +kernel
theorem dL_law_1184 : decode cL_law 1184 = .ok (.iload_n 3, 1) := by decide +kernel
theorem dL_law_1185 : decode cL_law 1185 = .ok (.iconst 1, 1) := by decide +kernel
theorem dL_law_1186 : decode cL_law 1186 = .ok (.iadd, 1) := by decide +kernel
theorem dL_law_1187 : decode cL_law 1187 = .ok (.iaload, 1) := by decide +kernel
theorem dL_law_1188 : decode cL_law 1188 = .ok (.invokevirtual 131, 3) := by decide +kernel
theorem dL_law_1191 : decode cL_law 1191 = .ok (.aload_n 2, 1) := by decide +kernel
theorem dL_law_1192 : decode cL_law 1192 = .ok (.aload_n 0, 1) := by decide +kernel
theorem dL_law_1193 : decode cL_law 1193 = .ok (.iload_n 3, 1) := by decide +kernel
theorem dL_law_1194 : decode cL_law 1194 = .ok (.iconst 1, 1) := by decide +kernel
theorem dL_law_1195 : decode cL_law 1195 = .ok (.iadd, 1) := by decide +kernel
theorem dL_law_1196 : decode cL_law 1196 = .ok (.iaload, 1) := by decide +kernel
theorem dL_law_1197 : decode cL_law 1197 = .ok (.invokevirtual 134, 3) := by decide +kernel
theorem dL_law_1200 : decode cL_law 1200 = .ok (.if_icmp .eq 252, 3) := by decide +kernel
theorem dL_law_1203 : decode cL_law 1203 = .ok (.iconst 0, 1) := by decide +kernel
theorem dL_law_1204 : decode cL_law 1204 = .ok (.ireturn, 1) := by decide +kernel
theorem dL_law_1205 : decode cL_law 1205 = .ok (.aload_n 1, 1) := by decide +kernel
theorem dL_law_1206 : decode cL_law 1206 = .ok (.aload_n 0, 1) := by decide +kernel
theorem dL_law_1207 : decode cL_law 1207 = .ok (.iload_n 3, 1) := by decide +kernel
theorem dL_law_1208 : decode cL_law 1208 = .ok (.iconst 1, 1) := by decide +kernel
theorem dL_law_1209 : decode cL_law 1209 = .ok (.iadd, 1) := by decide +kernel
theorem dL_law_1210 : decode cL_law 1210 = .ok (.iaload, 1) := by decide +kernel
theorem dL_law_1211 : decode cL_law 1211 = .ok (.invokevirtual 135, 3) := by decide +kernel
theorem dL_law_1214 : decode cL_law 1214 = .ok (.aload_n 2, 1) := by decide +kernel
theorem dL_law_1215 : decode cL_law 1215 = .ok (.aload_n 0, 1) := by decide +kernel
theorem dL_law_1216 : decode cL_law 1216 = .ok (.iload_n 3, 1) := by decide +kernel
theorem dL_law_1217 : decode cL_law 1217 = .ok (.iconst 1, 1) := by decide +kernel
theorem dL_law_1218 : decode cL_law 1218 = .ok (.iadd, 1) := by decide +kernel
theorem dL_law_1219 : decode cL_law 1219 = .ok (.iaload, 1) := by decide +kernel
theorem dL_law_1220 : decode cL_law 1220 = .ok (.invokevirtual 138, 3) := by decide +kernel
theorem dL_law_1223 : decode cL_law 1223 = .ok (.if_icmp .eq 229, 3) := by decide +kernel
theorem dL_law_1226 : decode cL_law 1226 = .ok (.iconst 0, 1) := by decide +kernel
theorem dL_law_1227 : decode cL_law 1227 = .ok (.ireturn, 1) := by decide +kernel
theorem dL_law_1228 : decode cL_law 1228 = .ok (.aload_n 1, 1) := by decide +kernel
theorem dL_law_1229 : decode cL_law 1229 = .ok (.aload_n 0, 1) := by decide +kernel
theorem dL_law_1230 : decode cL_law 1230 = .ok (.iload_n 3, 1) := by decide +kernel
theorem dL_law_1231 : decode cL_law 1231 = .ok (.iconst 1, 1) := by decide +kernel
theorem dL_law_1232 : decode cL_law 1232 = .ok (.iadd, 1) := by decide +kernel
theorem dL_law_1233 : decode cL_law 1233 = .ok (.iaload, 1) := by decide +kernel
theorem dL_law_1234 : decode cL_law 1234 = .ok (.aload_n 0, 1) := by decide +kernel
theorem dL_law_1235 : decode cL_law 1235 = .ok (.iload_n 3, 1) := by decide +kernel
theorem dL_law_1236 : decode cL_law 1236 = .ok (.iconst 2, 1) := by decide +kernel
theorem dL_law_1237 : decode cL_law 1237 = .ok (.iadd, 1) := by decide +kernel
theorem dL_law_1238 : decode cL_law 1238 = .ok (.iaload, 1) := by decide +kernel
theorem dL_law_1239 : decode cL_law 1239 = .ok (.invokevirtual 139, 3) := by decide +kernel
theorem dL_law_1242 : decode cL_law 1242 = .ok (.aload_n 2, 1) := by decide +kernel
theorem dL_law_1243 : decode cL_law 1243 = .ok (.aload_n 0, 1) := by decide +kernel
theorem dL_law_1244 : decode cL_law 1244 = .ok (.iload_n 3, 1) := by decide +kernel
theorem dL_law_1245 : decode cL_law 1245 = .ok (.iconst 1, 1) := by decide +kernel
theorem dL_law_1246 : decode cL_law 1246 = .ok (.iadd, 1) := by decide +kernel
theorem dL_law_1247 : decode cL_law 1247 = .ok (.iaload, 1) := by decide +kernel
theorem dL_law_1248 : decode cL_law 1248 = .ok (.aload_n 0, 1) := by decide +kernel
theorem dL_law_1249 : decode cL_law 1249 = .ok (.iload_n 3, 1) := by decide +kernel
theorem dL_law_1250 : decode cL_law 1250 = .ok (.iconst 2, 1) := by decide +kernel
theorem dL_law_1251 : decode cL_law 1251 = .ok (.iadd, 1) := by decide +kernel
theorem dL_law_1252 : decode cL_law 1252 = .ok (.iaload, 1) := by decide +kernel
theorem dL_law_1253 : decode cL_law 1253 = .ok (.invokevirtual 142, 3) := by decide +kernel
theorem dL_law_1256 : decode cL_law 1256 = .ok (.if_icmp .eq 196, 3) := by decide +kernel
theorem dL_law_1259 : decode cL_law 1259 = .ok (.iconst 0, 1) := by decide +kernel
theorem dL_law_1260 : decode cL_law 1260 = .ok (.ireturn, 1) := by decide +kernel
theorem dL_law_1261 : decode cL_law 1261 = .ok (.aload_n 1, 1) := by decide +kernel
theorem dL_law_1262 : decode cL_law 1262 = .ok (.invokevirtual 143, 3) := by decide +kernel
theorem dL_law_1265 : decode cL_law 1265 = .ok (.aload_n 2, 1) := by decide +kernel
theorem dL_law_1266 : decode cL_law 1266 = .ok (.invokevirtual 146, 3) := by decide +kernel
theorem dL_law_1269 : decode cL_law 1269 = .ok (.if_icmp .eq 183, 3) := by decide +kernel
theorem dL_law_1272 : decode cL_law 1272 = .ok (.iconst 0, 1) := by decide +kernel
theorem dL_law_1273 : decode cL_law 1273 = .ok (.ireturn, 1) := by decide +kernel
theorem dL_law_1274 : decode cL_law 1274 = .ok (.aload_n 1, 1) := by decide +kernel
theorem dL_law_1275 : decode cL_law 1275 = .ok (.aload_n 0, 1) := by decide +kernel
theorem dL_law_1276 : decode cL_law 1276 = .ok (.iload_n 3, 1) := by decide +kernel
theorem dL_law_1277 : decode cL_law 1277 = .ok (.iconst 1, 1) := by decide +kernel
theorem dL_law_1278 : decode cL_law 1278 = .ok (.iadd, 1) := by decide +kernel
theorem dL_law_1279 : decode cL_law 1279 = .ok (.iaload, 1) := by decide +kernel
theorem dL_law_1280 : decode cL_law 1280 = .ok (.invokevirtual 147, 3) := by decide +kernel
theorem dL_law_1283 : decode cL_law 1283 = .ok (.aload_n 2, 1) := by decide +kernel
theorem dL_law_1284 : decode cL_law 1284 = .ok (.aload_n 0, 1) := by decide +kernel
theorem dL_law_1285 : decode cL_law 1285 = .ok (.iload_n 3, 1) := by decide +kernel
theorem dL_law_1286 : decode cL_law 1286 = .ok (.iconst 1, 1) := by decide +kernel
theorem dL_law_1287 : decode cL_law 1287 = .ok (.iadd, 1) := by decide +kernel
theorem dL_law_1288 : decode cL_law 1288 = .ok (.iaload, 1) := by decide +kernel
theorem dL_law_1289 : decode cL_law 1289 = .ok (.invokevirtual 150, 3) := by decide +kernel
theorem dL_law_1292 : decode cL_law 1292 = .ok (.if_icmp .eq 160, 3) := by decide +kernel
theorem dL_law_1295 : decode cL_law 1295 = .ok (.iconst 0, 1) := by decide +kernel
theorem dL_law_1296 : decode cL_law 1296 = .ok (.ireturn, 1) := by decide +kernel
theorem dL_law_1297 : decode cL_law 1297 = .ok (.aload_n 1, 1) := by decide +kernel
theorem dL_law_1298 : decode cL_law 1298 = .ok (.aload_n 0, 1) := by decide +kernel
theorem dL_law_1299 : decode cL_law 1299 = .ok (.iload_n 3, 1) := by decide +kernel
theorem dL_law_1300 : decode cL_law 1300 = .ok (.iconst 1, 1) := by decide +kernel
theorem dL_law_1301 : decode cL_law 1301 = .ok (.iadd, 1) := by decide +kernel
theorem dL_law_1302 : decode cL_law 1302 = .ok (.iaload, 1) := by decide +kernel
theorem dL_law_1303 : decode cL_law 1303 = .ok (.aload_n 0, 1) := by decide +kernel
theorem dL_law_1304 : decode cL_law 1304 = .ok (.iload_n 3, 1) := by decide +kernel
theorem dL_law_1305 : decode cL_law 1305 = .ok (.iconst 2, 1) := by decide +kernel
theorem dL_law_1306 : decode cL_law 1306 = .ok (.iadd, 1) := by decide +kernel
theorem dL_law_1307 : decode cL_law 1307 = .ok (.iaload, 1) := by decide +kernel
theorem dL_law_1308 : decode cL_law 1308 = .ok (.ifCond .eq 7, 3) := by decide +kernel
theorem dL_law_1311 : decode cL_law 1311 = .ok (.iconst 1, 1) := by decide +kernel
theorem dL_law_1312 : decode cL_law 1312 = .ok (.goto 4, 3) := by decide +kernel
theorem dL_law_1315 : decode cL_law 1315 = .ok (.iconst 0, 1) := by decide +kernel
theorem dL_law_1316 : decode cL_law 1316 = .ok (.invokevirtual 151, 3) := by decide +kernel
theorem dL_law_1319 : decode cL_law 1319 = .ok (.aload_n 2, 1) := by decide +kernel
theorem dL_law_1320 : decode cL_law 1320 = .ok (.aload_n 0, 1) := by decide +kernel
theorem dL_law_1321 : decode cL_law 1321 = .ok (.iload_n 3, 1) := by decide +kernel
theorem dL_law_1322 : decode cL_law 1322 = .ok (.iconst 1, 1) := by decide +kernel
theorem dL_law_1323 : decode cL_law 1323 = .ok (.iadd, 1) := by decide +kernel
theorem dL_law_1324 : decode cL_law 1324 = .ok (.iaload, 1) := by decide +kernel
theorem dL_law_1325 : decode cL_law 1325 = .ok (.aload_n 0, 1) := by decide +kernel
theorem dL_law_1326 : decode cL_law 1326 = .ok (.iload_n 3, 1) := by decide +kernel
theorem dL_law_1327 : decode cL_law 1327 = .ok (.iconst 2, 1) := by decide +kernel
theorem dL_law_1328 : decode cL_law 1328 = .ok (.iadd, 1) := by decide +kernel
theorem dL_law_1329 : decode cL_law 1329 = .ok (.iaload, 1) := by decide +kernel
theorem dL_law_1330 : decode cL_law 1330 = .ok (.ifCond .eq 7, 3) := by decide +kernel
theorem dL_law_1333 : decode cL_law 1333 = .ok (.iconst 1, 1) := by decide +kernel
theorem dL_law_1334 : decode cL_law 1334 = .ok (.goto 4, 3) := by decide +kernel
theorem dL_law_1337 : decode cL_law 1337 = .ok (.iconst 0, 1) := by decide +kernel
theorem dL_law_1338 : decode cL_law 1338 = .ok (.invokevirtual 155, 3) := by decide +kernel
theorem dL_law_1341 : decode cL_law 1341 = .ok (.if_icmp .eq 111, 3) := by decide +kernel
theorem dL_law_1344 : decode cL_law 1344 = .ok (.iconst 0, 1) := by decide +kernel
theorem dL_law_1345 : decode cL_law 1345 = .ok (.ireturn, 1) := by decide +kernel
theorem dL_law_1346 : decode cL_law 1346 = .ok (.aload_n 1, 1) := by decide +kernel
theorem dL_law_1347 : decode cL_law 1347 = .ok (.aload_n 0, 1) := by decide +kernel
theorem dL_law_1348 : decode cL_law 1348 = .ok (.iload_n 3, 1) := by decide +kernel
theorem dL_law_1349 : decode cL_law 1349 = .ok (.iconst 1, 1) := by decide +kernel
theorem dL_law_1350 : decode cL_law 1350 = .ok (.iadd, 1) := by decide +kernel
theorem dL_law_1351 : decode cL_law 1351 = .ok (.iaload, 1) := by decide +kernel
theorem dL_law_1352 : decode cL_law 1352 = .ok (.invokevirtual 156, 3) := by decide +kernel
theorem dL_law_1355 : decode cL_law 1355 = .ok (.aload_n 2, 1) := by decide +kernel
theorem dL_law_1356 : decode cL_law 1356 = .ok (.aload_n 0, 1) := by decide +kernel
theorem dL_law_1357 : decode cL_law 1357 = .ok (.iload_n 3, 1) := by decide +kernel
theorem dL_law_1358 : decode cL_law 1358 = .ok (.iconst 1, 1) := by decide +kernel
theorem dL_law_1359 : decode cL_law 1359 = .ok (.iadd, 1) := by decide +kernel
theorem dL_law_1360 : decode cL_law 1360 = .ok (.iaload, 1) := by decide +kernel
theorem dL_law_1361 : decode cL_law 1361 = .ok (.invokevirtual 159, 3) := by decide +kernel
theorem dL_law_1364 : decode cL_law 1364 = .ok (.if_icmp .eq 88, 3) := by decide +kernel
theorem dL_law_1367 : decode cL_law 1367 = .ok (.iconst 0, 1) := by decide +kernel
theorem dL_law_1368 : decode cL_law 1368 = .ok (.ireturn, 1) := by decide +kernel
theorem dL_law_1369 : decode cL_law 1369 = .ok (.aload_n 1, 1) := by decide +kernel
theorem dL_law_1370 : decode cL_law 1370 = .ok (.aload_n 0, 1) := by decide +kernel
theorem dL_law_1371 : decode cL_law 1371 = .ok (.iload_n 3, 1) := by decide +kernel
theorem dL_law_1372 : decode cL_law 1372 = .ok (.iconst 1, 1) := by decide +kernel
theorem dL_law_1373 : decode cL_law 1373 = .ok (.iadd, 1) := by decide +kernel
theorem dL_law_1374 : decode cL_law 1374 = .ok (.iaload, 1) := by decide +kernel
theorem dL_law_1375 : decode cL_law 1375 = .ok (.invokevirtual 160, 3) := by decide +kernel
theorem dL_law_1378 : decode cL_law 1378 = .ok (.aload_n 2, 1) := by decide +kernel
theorem dL_law_1379 : decode cL_law 1379 = .ok (.aload_n 0, 1) := by decide +kernel
theorem dL_law_1380 : decode cL_law 1380 = .ok (.iload_n 3, 1) := by decide +kernel
theorem dL_law_1381 : decode cL_law 1381 = .ok (.iconst 1, 1) := by decide +kernel
theorem dL_law_1382 : decode cL_law 1382 = .ok (.iadd, 1) := by decide +kernel
theorem dL_law_1383 : decode cL_law 1383 = .ok (.iaload, 1) := by decide +kernel
theorem dL_law_1384 : decode cL_law 1384 = .ok (.invokevirtual 163, 3) := by decide +kernel
theorem dL_law_1387 : decode cL_law 1387 = .ok (.if_icmp .eq 65, 3) := by decide +kernel
theorem dL_law_1390 : decode cL_law 1390 = .ok (.iconst 0, 1) := by decide +kernel
theorem dL_law_1391 : decode cL_law 1391 = .ok (.ireturn, 1) := by decide +kernel
theorem dL_law_1392 : decode cL_law 1392 = .ok (.aload_n 1, 1) := by decide +kernel
theorem dL_law_1393 : decode cL_law 1393 = .ok (.aload_n 0, 1) := by decide +kernel
theorem dL_law_1394 : decode cL_law 1394 = .ok (.iload_n 3, 1) := by decide +kernel
theorem dL_law_1395 : decode cL_law 1395 = .ok (.iconst 1, 1) := by decide +kernel
theorem dL_law_1396 : decode cL_law 1396 = .ok (.iadd, 1) := by decide +kernel
theorem dL_law_1397 : decode cL_law 1397 = .ok (.iaload, 1) := by decide +kernel
theorem dL_law_1398 : decode cL_law 1398 = .ok (.invokevirtual 164, 3) := by decide +kernel
theorem dL_law_1401 : decode cL_law 1401 = .ok (.aload_n 2, 1) := by decide +kernel
theorem dL_law_1402 : decode cL_law 1402 = .ok (.aload_n 0, 1) := by decide +kernel
theorem dL_law_1403 : decode cL_law 1403 = .ok (.iload_n 3, 1) := by decide +kernel
theorem dL_law_1404 : decode cL_law 1404 = .ok (.iconst 1, 1) := by decide +kernel
theorem dL_law_1405 : decode cL_law 1405 = .ok (.iadd, 1) := by decide +kernel
theorem dL_law_1406 : decode cL_law 1406 = .ok (.iaload, 1) := by decide +kernel
theorem dL_law_1407 : decode cL_law 1407 = .ok (.invokevirtual 167, 3) := by decide +kernel
theorem dL_law_1410 : decode cL_law 1410 = .ok (.lcmp, 1) := by decide +kernel
theorem dL_law_1411 : decode cL_law 1411 = .ok (.ifCond .eq 41, 3) := by decide +kernel
theorem dL_law_1414 : decode cL_law 1414 = .ok (.iconst 0, 1) := by decide +kernel
theorem dL_law_1415 : decode cL_law 1415 = .ok (.ireturn, 1) := by decide +kernel
theorem dL_law_1416 : decode cL_law 1416 = .ok (.aload_n 1, 1) := by decide +kernel
theorem dL_law_1417 : decode cL_law 1417 = .ok (.invokevirtual 168, 3) := by decide +kernel
theorem dL_law_1420 : decode cL_law 1420 = .ok (.aload_n 2, 1) := by decide +kernel
theorem dL_law_1421 : decode cL_law 1421 = .ok (.invokevirtual 171, 3) := by decide +kernel
theorem dL_law_1424 : decode cL_law 1424 = .ok (.if_icmp .eq 28, 3) := by decide +kernel
theorem dL_law_1427 : decode cL_law 1427 = .ok (.iconst 0, 1) := by decide +kernel
theorem dL_law_1428 : decode cL_law 1428 = .ok (.ireturn, 1) := by decide +kernel
theorem dL_law_1429 : decode cL_law 1429 = .ok (.aload_n 1, 1) := by decide +kernel
theorem dL_law_1430 : decode cL_law 1430 = .ok (.aload_n 0, 1) := by decide +kernel
theorem dL_law_1431 : decode cL_law 1431 = .ok (.iload_n 3, 1) := by decide +kernel
theorem dL_law_1432 : decode cL_law 1432 = .ok (.iconst 1, 1) := by decide +kernel
theorem dL_law_1433 : decode cL_law 1433 = .ok (.iadd, 1) := by decide +kernel
theorem dL_law_1434 : decode cL_law 1434 = .ok (.iaload, 1) := by decide +kernel
theorem dL_law_1435 : decode cL_law 1435 = .ok (.invokevirtual 172, 3) := by decide +kernel
theorem dL_law_1438 : decode cL_law 1438 = .ok (.aload_n 2, 1) := by decide +kernel
theorem dL_law_1439 : decode cL_law 1439 = .ok (.aload_n 0, 1) := by decide +kernel
theorem dL_law_1440 : decode cL_law 1440 = .ok (.iload_n 3, 1) := by decide +kernel
theorem dL_law_1441 : decode cL_law 1441 = .ok (.iconst 1, 1) := by decide +kernel
theorem dL_law_1442 : decode cL_law 1442 = .ok (.iadd, 1) := by decide +kernel
theorem dL_law_1443 : decode cL_law 1443 = .ok (.iaload, 1) := by decide +kernel
theorem dL_law_1444 : decode cL_law 1444 = .ok (.invokevirtual 175, 3) := by decide +kernel
theorem dL_law_1447 : decode cL_law 1447 = .ok (.if_icmp .eq 5, 3) := by decide +kernel
theorem dL_law_1450 : decode cL_law 1450 = .ok (.iconst 0, 1) := by decide +kernel
theorem dL_law_1451 : decode cL_law 1451 = .ok (.ireturn, 1) := by decide +kernel
theorem dL_law_1452 : decode cL_law 1452 = .ok (.iinc 3 6, 3) := by decide +kernel
theorem dL_law_1455 : decode cL_law 1455 = .ok (.goto (-1437), 3) := by decide +kernel
theorem dL_law_1458 : decode cL_law 1458 = .ok (.iconst 1, 1) := by decide +kernel
theorem dL_law_1459 : decode cL_law 1459 = .ok (.ireturn, 1) := by decide +kernel
end
section
-- 02.base: the state of a world (Sg), the judgement Vat (the machine at a frame, over a world), its rules; all by the kit's rows
/-- the tables' words that go through calls -/
def lwg : List Cond := lw_tbl.filter goodWord
theorem lwg_of {w : Cond} (h : w ∈ lw_tbl) (g : goodWord w = true) : w ∈ lwg := List.mem_filter.mpr ⟨h, g⟩
abbrev Sg : Type := (Nat → Nat → Int32) × (Nat → Nat → Nat → Int32) × (Nat → Nat → Nat → Int64)
def gI (s : Sg) (j k : Nat) : Int32 := s.1 j k
def gA (s : Sg) (j k : Nat) : Nat → Int32 := s.2.1 j k
def gL (s : Sg) (j k : Nat) : Nat → Int64 := s.2.2 j k
def pI (s : Sg) (j k : Nat) (v : Int32) : Sg := (fun a b => if a = j then (if b = k then v else s.1 a b) else s.1 a b, s.2)
def pA (s : Sg) (j k : Nat) (v : Nat → Int32) : Sg := (s.1, fun a b => if a = j then (if b = k then v else s.2.1 a b) else s.2.1 a b, s.2.2)
def pL (s : Sg) (j k : Nat) (v : Nat → Int64) : Sg := (s.1, s.2.1, fun a b => if a = j then (if b = k then v else s.2.2 a b) else s.2.2 a b)
def vpb (i : Int32) (n : Nat) : Bool := !(decide (i < 0)) && decide (i.toNatClampNeg < n)
theorem vpb_in {i : Int32} {n : Nat} (h : vpb i n = true) : vp_in i n := by
  unfold vpb at h
  unfold vp_in
  simp at h
  intro q
  rcases q with q | q
  · exact absurd q (by simpa using h.1)
  · omega
-- the words of a mirror: each is one step of the machine that may fail, with what follows it
def lAk {β : Type} (st : Sg) (j k n : Nat) (i : Int32) (f : Int32 → Option β) : Option β := if vpb i n = true then f (gA st j k i.toNatClampNeg) else none
def lLk {β : Type} (st : Sg) (j k n : Nat) (i : Int32) (f : Int64 → Option β) : Option β := if vpb i n = true then f (gL st j k i.toNatClampNeg) else none
def sAk {β : Type} (st : Sg) (j k n : Nat) (i x : Int32) (f : Sg → Option β) : Option β := if vpb i n = true then f (pA st j k (upd (gA st j k) i.toNatClampNeg x)) else none
def sZk {β : Type} (st : Sg) (j k n : Nat) (i x : Int32) (f : Sg → Option β) : Option β := if vpb i n = true then f (pA st j k (upd (gA st j k) i.toNatClampNeg (vp_nar .boolean x))) else none
def sLk {β : Type} (st : Sg) (j k n : Nat) (i : Int32) (x : Int64) (f : Sg → Option β) : Option β := if vpb i n = true then f (pL st j k (vp_updL (gL st j k) i.toNatClampNeg x)) else none
def gIk {β : Type} (st : Sg) (j k : Nat) (f : Int32 → Option β) : Option β := f (gI st j k)
def sIk {β : Type} (st : Sg) (j k : Nat) (v : Int32) (f : Sg → Option β) : Option β := f (pI st j k v)
def nmk {β α : Type} (e : α) (f : α → Option β) : Option β := f e
def dvk {β : Type} (y : Int32) (f : Option β) : Option β := if y = 0 then none else f
def dlk {β : Type} (y : Int64) (f : Option β) : Option β := if y = 0 then none else f
def bok {β : Type} (v : Int32) (f : Option β) : Option β := if v = 0 then f else if v = 1 then f else none
def clk {β ρ : Type} (m : Option (ρ × Sg)) (f : ρ → Sg → Option β) : Option β := match m with
  | none => none
  | some q => f q.1 q.2
def cpAk {β : Type} (st : Sg) (j0 k0 n0 : Nat) (sp : Int32) (j1 k1 n1 : Nat) (dp n : Int32) (f : Sg → Option β) : Option β := if sp < 0 then none else if dp < 0 then none else if n < 0 then none else if sp.toNatClampNeg + n.toNatClampNeg ≤ n0 then if dp.toNatClampNeg + n.toNatClampNeg ≤ n1 then f (pA st j1 k1 (va_cpy (gA st j0 k0) (gA st j1 k1) sp.toNatClampNeg dp.toNatClampNeg n.toNatClampNeg)) else none else none
def cpLk {β : Type} (st : Sg) (j0 k0 n0 : Nat) (sp : Int32) (j1 k1 n1 : Nat) (dp n : Int32) (f : Sg → Option β) : Option β := if sp < 0 then none else if dp < 0 then none else if n < 0 then none else if sp.toNatClampNeg + n.toNatClampNeg ≤ n0 then if dp.toNatClampNeg + n.toNatClampNeg ≤ n1 then f (pL st j1 k1 (va_cpy (gL st j0 k0) (gL st j1 k1) sp.toNatClampNeg dp.toNatClampNeg n.toNatClampNeg)) else none else none
def lp {σ ρ : Type} (step : σ → Option (σ ⊕ ρ)) : Nat → σ → Option ρ
  | 0, _ => none
  | n + 1, s => match step s with
    | none => none
    | some (.inl s') => lp step n s'
    | some (.inr r) => some r
def FU : Nat := 1000000
def lpk {σ ρ β : Type} (step : σ → Option (σ ⊕ ρ)) (n : Nat) (s : σ) (f : ρ → Option β) : Option β := match lp step n s with
  | none => none
  | some r => f r
abbrev mx (x y : Int32) : Int32 := if x < y then y else x
theorem lp_ind {σ ρ : Type} {step : σ → Option (σ ⊕ ρ)} (V : σ → Prop) (K : ρ → Prop) (hb : ∀ s out, step s = some out → Sum.elim V K out → V s) : ∀ n s r, lp step n s = some r → K r → V s := by
  intro n
  induction n with
  | zero => intro s r h; cases h
  | succ n ih =>
    intro s r h hk
    unfold lp at h
    cases hs : step s with
    | none => rw [hs] at h; cases h
    | some out =>
      rw [hs] at h
      cases out with
      | inl s' => exact hb s _ hs (ih s' r h hk)
      | inr q => cases h; exact hb s _ hs hk
theorem v_loop {σ ρ β : Type} {step : σ → Option (σ ⊕ ρ)} {n : Nat} {s0 : σ} {f : ρ → Option β} {o : β} (V : σ → Prop) (K : ρ → Prop) (h : lpk step n s0 f = some o) (hb : ∀ s out, step s = some out → Sum.elim V K out → V s) (hK : ∀ r, f r = some o → K r) : V s0 := by
  unfold lpk at h
  cases hl : lp step n s0 with
  | none => rw [hl] at h; cases h
  | some r => rw [hl] at h; exact lp_ind V K hb n s0 r hl (hK r h)
-- the machine's fixed things: program, launch, env, room, state at entry, method, args, below, method, code, goal, classes' numbers, the cells that may change
abbrev Cm : Type := Program × Launch × Env × Room × State × MethodId × Array Value × List Frame × Method × Code × (State → Prop) × va_G × (Nat → Prop)
def Wo (C : Cm) (ws : va_W) (H : Heap) (locs : List Loc) : Prop := va_P C.2.2.2.2.2.2.2.2.2.2.2.1 vwCl ws H ∧ va_D C.2.2.2.2.2.2.2.2.2.2.2.2 ws ∧ va_S C.2.2.2.2.2.2.2.2.2.2.2.2 C.2.2.2.2.1.heap H locs
def Vat (C : Cm) (wl : Sg → va_W) (nL pc : Nat) (lv : List (Nat × Value)) (stk : List Value) (st : Sg) : Prop := ∀ (H : Heap) (locs : List Loc) (ls : Array Slot), Wo C (wl st) H locs → lv_has ls nL lv → W C.1 C.2.1 C.2.2.1 C.2.2.2.1 C.2.2.2.2.1 C.2.2.2.2.2.1 C.2.2.2.2.2.2.1 C.2.2.2.2.2.2.2.1 C.2.2.2.2.2.2.2.2.1 C.2.2.2.2.2.2.2.2.2.1 H locs 0 0 C.2.2.2.2.2.2.2.2.2.2.1 (F0 C.2.2.2.2.2.1 pc ls stk)
def Cx (C : Cm) (tys : List (ClassId × FieldType)) (cc : ByteArray) (own : String) (nL fr lo : Nat) : Prop := C.1.tables.exec = Jvm.exec ∧ C.2.2.2.2.2.2.2.2.2.1.code = cc ∧ C.2.2.2.2.2.2.2.2.2.1.maxLocals = nL ∧ C.2.2.2.2.1.vm.findClass own = some C.2.2.2.2.2.1.cls ∧ (∀ w ∈ lwg, w.before C.2.2.2.2.2.2.1 C.2.2.2.2.1 = true) ∧ va_K C.2.2.2.2.2.2.2.2.2.2.2.1 vwCl tys C.2.2.2.2.1 ∧ (∀ q, C.2.2.2.2.1.heap.size ≤ q → C.2.2.2.2.2.2.2.2.2.2.2.2 q) ∧ C.2.2.2.1.frames = fr ∧ C.2.2.2.1.locals = lo
section VR
variable {C : Cm} {wl : Sg → va_W} {nL pc fr lo : Nat} {lv lv' : List (Nat × Value)} {stk : List Value} {st : Sg} {tys : List (ClassId × FieldType)} {cc : ByteArray} {own : String} {β : Type} {o : β}
theorem v_lsub (ks : List Nat) (h : lv_pick lv ks = lv') (k : Vat C wl nL pc lv' stk st) : Vat C wl nL pc lv stk st := fun H locs ls hW hl => k H locs ls hW (lv_sub hl ks h)
theorem v_iconst (pc' : Nat) {n : Int} {v : Int32} (cx : Cx C tys cc own nL fr lo) (hd : decode cc pc = .ok (.iconst n, 1)) (hv : Int32.ofInt n = v) (hp : pc + 1 = pc') (k : Vat C wl nL pc' lv (.int v :: stk) st) : Vat C wl nL pc lv stk st := by
  subst hp
  exact fun H locs ls hW hl => lv_iconst cx.1 cx.2.1 hd hv (k H locs ls hW hl)
theorem v_bipush (pc' : Nat) {n : Int} {v : Int32} (cx : Cx C tys cc own nL fr lo) (hd : decode cc pc = .ok (.bipush n, 2)) (hv : (Int8.ofInt n).toInt32 = v) (hp : pc + 2 = pc') (k : Vat C wl nL pc' lv (.int v :: stk) st) : Vat C wl nL pc lv stk st := by
  subst hp
  exact fun H locs ls hW hl => lv_bipush cx.1 cx.2.1 hd hv (k H locs ls hW hl)
theorem v_sipush (pc' : Nat) {n : Int} {v : Int32} (cx : Cx C tys cc own nL fr lo) (hd : decode cc pc = .ok (.sipush n, 3)) (hv : (Int16.ofInt n).toInt32 = v) (hp : pc + 3 = pc') (k : Vat C wl nL pc' lv (.int v :: stk) st) : Vat C wl nL pc lv stk st := by
  subst hp
  exact fun H locs ls hW hl => lv_sipush cx.1 cx.2.1 hd hv (k H locs ls hW hl)
theorem v_lconst (pc' : Nat) {n : Fin 2} {v : Int64} (cx : Cx C tys cc own nL fr lo) (hd : decode cc pc = .ok (.lconst n, 1)) (hv : Int64.ofNat (n : Nat) = v) (hp : pc + 1 = pc') (k : Vat C wl nL pc' lv (.long v :: stk) st) : Vat C wl nL pc lv stk st := by
  subst hp
  exact fun H locs ls hW hl => lv_lconst cx.1 cx.2.1 hd hv (k H locs ls hW hl)
theorem v_ldc (pc' : Nat) {index : Nat} {v : Int32} (cx : Cx C tys cc own nL fr lo) (hd : decode cc pc = .ok (.ldc index, 2)) (hm : Jvm.Cond.constant own index v ∈ lwg) (hp : pc + 2 = pc') (k : Vat C wl nL pc' lv (.int v :: stk) st) : Vat C wl nL pc lv stk st := by
  subst hp
  exact fun H locs ls hW hl => lv_ldc cx.1 cx.2.1 cx.2.2.2.1 (cx.2.2.2.2.1 _ hm) hd (k H locs ls hW hl)
theorem v_ldc2 (pc' : Nat) {index : Nat} {v : Int64} (cx : Cx C tys cc own nL fr lo) (hd : decode cc pc = .ok (.ldc2_w index, 3)) (hm : Jvm.Cond.constantLong own index v ∈ lwg) (hp : pc + 3 = pc') (k : Vat C wl nL pc' lv (.long v :: stk) st) : Vat C wl nL pc lv stk st := by
  subst hp
  exact fun H locs ls hW hl => lv_ldc2 cx.1 cx.2.1 cx.2.2.2.1 (cx.2.2.2.2.1 _ hm) hd (k H locs ls hW hl)
theorem v_iload_n (pc' : Nat) (q : Nat) {k : Fin 4} {i : Nat} {x : Int32} (cx : Cx C tys cc own nL fr lo) (hd : decode cc pc = .ok (.iload_n k, 1)) (hi : (k : Nat) = i) (hk : lv[q]? = some (i, .int x)) (hp : pc + 1 = pc') (k : Vat C wl nL pc' lv (.int x :: stk) st) : Vat C wl nL pc lv stk st := by
  subst hp
  exact fun H locs ls hW hl => lv_iload_n cx.1 cx.2.1 hd hi (lv_at hl q hk) (k H locs ls hW hl)
theorem v_iload (pc' : Nat) (q : Nat) {i : Nat} {x : Int32} (cx : Cx C tys cc own nL fr lo) (hd : decode cc pc = .ok (.iload i, 2)) (hk : lv[q]? = some (i, .int x)) (hp : pc + 2 = pc') (k : Vat C wl nL pc' lv (.int x :: stk) st) : Vat C wl nL pc lv stk st := by
  subst hp
  exact fun H locs ls hW hl => lv_iload cx.1 cx.2.1 hd (lv_at hl q hk) (k H locs ls hW hl)
theorem v_lload_n (pc' : Nat) (q : Nat) {k : Fin 4} {i : Nat} {x : Int64} (cx : Cx C tys cc own nL fr lo) (hd : decode cc pc = .ok (.lload_n k, 1)) (hi : (k : Nat) = i) (hk : lv[q]? = some (i, .long x)) (hp : pc + 1 = pc') (k : Vat C wl nL pc' lv (.long x :: stk) st) : Vat C wl nL pc lv stk st := by
  subst hp
  exact fun H locs ls hW hl => lv_lload_n cx.1 cx.2.1 hd hi (lv_at hl q hk) (k H locs ls hW hl)
theorem v_lload (pc' : Nat) (q : Nat) {i : Nat} {x : Int64} (cx : Cx C tys cc own nL fr lo) (hd : decode cc pc = .ok (.lload i, 2)) (hk : lv[q]? = some (i, .long x)) (hp : pc + 2 = pc') (k : Vat C wl nL pc' lv (.long x :: stk) st) : Vat C wl nL pc lv stk st := by
  subst hp
  exact fun H locs ls hW hl => lv_lload cx.1 cx.2.1 hd (lv_at hl q hk) (k H locs ls hW hl)
theorem v_aload_n (pc' : Nat) (q : Nat) {k : Fin 4} {i : Nat} {x : Nat} (cx : Cx C tys cc own nL fr lo) (hd : decode cc pc = .ok (.aload_n k, 1)) (hi : (k : Nat) = i) (hk : lv[q]? = some (i, .ref x)) (hp : pc + 1 = pc') (k : Vat C wl nL pc' lv (.ref x :: stk) st) : Vat C wl nL pc lv stk st := by
  subst hp
  exact fun H locs ls hW hl => lv_aload_n cx.1 cx.2.1 hd hi (lv_at hl q hk) (k H locs ls hW hl)
theorem v_aload (pc' : Nat) (q : Nat) {i : Nat} {x : Nat} (cx : Cx C tys cc own nL fr lo) (hd : decode cc pc = .ok (.aload i, 2)) (hk : lv[q]? = some (i, .ref x)) (hp : pc + 2 = pc') (k : Vat C wl nL pc' lv (.ref x :: stk) st) : Vat C wl nL pc lv stk st := by
  subst hp
  exact fun H locs ls hW hl => lv_aload cx.1 cx.2.1 hd (lv_at hl q hk) (k H locs ls hW hl)
theorem v_istore_n (pc' : Nat) {k : Fin 4} {i : Nat} {x : Int32} {f : Int32 → Option β} (lf : Int32 → List (Nat × Value)) (cx : Cx C tys cc own nL fr lo) (hd : decode cc pc = .ok (.istore_n k, 1)) (hi : (k : Nat) = i) (hn : i < nL) (hl : ∀ v, (i, Value.int v) :: lv.filter (fun q => !(q.1 == i) && !(q.1 + 1 == i && q.2.category == 2)) = lf v) (hp : pc + 1 = pc') (h : nmk x f = some o) (k : ∀ v, f v = some o → Vat C wl nL pc' (lf v) stk st) : Vat C wl nL pc lv (.int x :: stk) st := by
  subst hp
  exact fun H locs ls hW hq => lv_istore_n cx.1 cx.2.1 hd hi hq hn (hl x) (fun ls' hl' => k x h H locs ls' hW hl')
theorem v_istore (pc' : Nat) {i : Nat} {x : Int32} {f : Int32 → Option β} (lf : Int32 → List (Nat × Value)) (cx : Cx C tys cc own nL fr lo) (hd : decode cc pc = .ok (.istore i, 2)) (hn : i < nL) (hl : ∀ v, (i, Value.int v) :: lv.filter (fun q => !(q.1 == i) && !(q.1 + 1 == i && q.2.category == 2)) = lf v) (hp : pc + 2 = pc') (h : nmk x f = some o) (k : ∀ v, f v = some o → Vat C wl nL pc' (lf v) stk st) : Vat C wl nL pc lv (.int x :: stk) st := by
  subst hp
  exact fun H locs ls hW hq => lv_istore cx.1 cx.2.1 hd hq hn (hl x) (fun ls' hl' => k x h H locs ls' hW hl')
theorem v_lstore_n (pc' : Nat) {k : Fin 4} {i : Nat} {x : Int64} {f : Int64 → Option β} (lf : Int64 → List (Nat × Value)) (cx : Cx C tys cc own nL fr lo) (hd : decode cc pc = .ok (.lstore_n k, 1)) (hi : (k : Nat) = i) (hn : i + 1 < nL) (hl : ∀ v, (i, Value.long v) :: lv.filter (fun q => !(q.1 == i) && (!(q.1 == i + 1) && !(q.1 + 1 == i && q.2.category == 2))) = lf v) (hp : pc + 1 = pc') (h : nmk x f = some o) (k : ∀ v, f v = some o → Vat C wl nL pc' (lf v) stk st) : Vat C wl nL pc lv (.long x :: stk) st := by
  subst hp
  exact fun H locs ls hW hq => lv_lstore_n cx.1 cx.2.1 hd hi hq hn (hl x) (fun ls' hl' => k x h H locs ls' hW hl')
theorem v_lstore (pc' : Nat) {i : Nat} {x : Int64} {f : Int64 → Option β} (lf : Int64 → List (Nat × Value)) (cx : Cx C tys cc own nL fr lo) (hd : decode cc pc = .ok (.lstore i, 2)) (hn : i + 1 < nL) (hl : ∀ v, (i, Value.long v) :: lv.filter (fun q => !(q.1 == i) && (!(q.1 == i + 1) && !(q.1 + 1 == i && q.2.category == 2))) = lf v) (hp : pc + 2 = pc') (h : nmk x f = some o) (k : ∀ v, f v = some o → Vat C wl nL pc' (lf v) stk st) : Vat C wl nL pc lv (.long x :: stk) st := by
  subst hp
  exact fun H locs ls hW hq => lv_lstore cx.1 cx.2.1 hd hq hn (hl x) (fun ls' hl' => k x h H locs ls' hW hl')
theorem v_iinc (pc' q : Nat) {i : Nat} {n : Int} {x d : Int32} {f : Int32 → Option β} (lf : Int32 → List (Nat × Value)) (cx : Cx C tys cc own nL fr lo) (hd : decode cc pc = .ok (.iinc i n, 3)) (hk : lv[q]? = some (i, .int x)) (hd2 : Int32.ofInt n = d) (hn : i < nL) (hl : ∀ v, (i, Value.int v) :: lv.filter (fun q => !(q.1 == i) && !(q.1 + 1 == i && q.2.category == 2)) = lf v) (hp : pc + 3 = pc') (h : nmk (x + d) f = some o) (k : ∀ v, f v = some o → Vat C wl nL pc' (lf v) stk st) : Vat C wl nL pc lv stk st := by
  subst hp
  exact fun H locs ls hW hq => lv_iinc cx.1 cx.2.1 hd hq hk rfl hn (hl _) (fun ls' hl' => k _ (by rw [hd2]; exact h) H locs ls' hW hl')
theorem v_iadd (pc' : Nat) {x y : Int32} (cx : Cx C tys cc own nL fr lo) (hd : decode cc pc = .ok (.iadd, 1)) (hp : pc + 1 = pc') (k : Vat C wl nL pc' lv (.int (x + y) :: stk) st) : Vat C wl nL pc lv (.int y :: .int x :: stk) st := by
  subst hp
  exact fun H locs ls hW hl => lv_iadd cx.1 cx.2.1 hd (k H locs ls hW hl)
theorem v_isub (pc' : Nat) {x y : Int32} (cx : Cx C tys cc own nL fr lo) (hd : decode cc pc = .ok (.isub, 1)) (hp : pc + 1 = pc') (k : Vat C wl nL pc' lv (.int (x - y) :: stk) st) : Vat C wl nL pc lv (.int y :: .int x :: stk) st := by
  subst hp
  exact fun H locs ls hW hl => lv_isub cx.1 cx.2.1 hd (k H locs ls hW hl)
theorem v_imul (pc' : Nat) {x y : Int32} (cx : Cx C tys cc own nL fr lo) (hd : decode cc pc = .ok (.imul, 1)) (hp : pc + 1 = pc') (k : Vat C wl nL pc' lv (.int (x * y) :: stk) st) : Vat C wl nL pc lv (.int y :: .int x :: stk) st := by
  subst hp
  exact fun H locs ls hW hl => lv_imul cx.1 cx.2.1 hd (k H locs ls hW hl)
theorem v_iand (pc' : Nat) {x y : Int32} (cx : Cx C tys cc own nL fr lo) (hd : decode cc pc = .ok (.iand, 1)) (hp : pc + 1 = pc') (k : Vat C wl nL pc' lv (.int (x &&& y) :: stk) st) : Vat C wl nL pc lv (.int y :: .int x :: stk) st := by
  subst hp
  exact fun H locs ls hW hl => lv_iand cx.1 cx.2.1 hd (k H locs ls hW hl)
theorem v_ixor (pc' : Nat) {x y : Int32} (cx : Cx C tys cc own nL fr lo) (hd : decode cc pc = .ok (.ixor, 1)) (hp : pc + 1 = pc') (k : Vat C wl nL pc' lv (.int (x ^^^ y) :: stk) st) : Vat C wl nL pc lv (.int y :: .int x :: stk) st := by
  subst hp
  exact fun H locs ls hW hl => lv_ixor cx.1 cx.2.1 hd (k H locs ls hW hl)
theorem v_ishr (pc' : Nat) {x y : Int32} (cx : Cx C tys cc own nL fr lo) (hd : decode cc pc = .ok (.ishr, 1)) (hp : pc + 1 = pc') (k : Vat C wl nL pc' lv (.int (x >>> (y &&& 31)) :: stk) st) : Vat C wl nL pc lv (.int y :: .int x :: stk) st := by
  subst hp
  exact fun H locs ls hW hl => lv_ishr cx.1 cx.2.1 hd (k H locs ls hW hl)
theorem v_iushr (pc' : Nat) {x y : Int32} (cx : Cx C tys cc own nL fr lo) (hd : decode cc pc = .ok (.iushr, 1)) (hp : pc + 1 = pc') (k : Vat C wl nL pc' lv (.int ((x.toUInt32 >>> (y.toUInt32 &&& Int32.toUInt32 31)).toInt32) :: stk) st) : Vat C wl nL pc lv (.int y :: .int x :: stk) st := by
  subst hp
  exact fun H locs ls hW hl => lv_iushr cx.1 cx.2.1 hd rfl (k H locs ls hW hl)
theorem v_ladd (pc' : Nat) {x y : Int64} (cx : Cx C tys cc own nL fr lo) (hd : decode cc pc = .ok (.ladd, 1)) (hp : pc + 1 = pc') (k : Vat C wl nL pc' lv (.long (x + y) :: stk) st) : Vat C wl nL pc lv (.long y :: .long x :: stk) st := by
  subst hp
  exact fun H locs ls hW hl => lv_ladd cx.1 cx.2.1 hd (k H locs ls hW hl)
theorem v_lmul (pc' : Nat) {x y : Int64} (cx : Cx C tys cc own nL fr lo) (hd : decode cc pc = .ok (.lmul, 1)) (hp : pc + 1 = pc') (k : Vat C wl nL pc' lv (.long (x * y) :: stk) st) : Vat C wl nL pc lv (.long y :: .long x :: stk) st := by
  subst hp
  exact fun H locs ls hW hl => lv_lmul cx.1 cx.2.1 hd (k H locs ls hW hl)
theorem v_land (pc' : Nat) {x y : Int64} (cx : Cx C tys cc own nL fr lo) (hd : decode cc pc = .ok (.land, 1)) (hp : pc + 1 = pc') (k : Vat C wl nL pc' lv (.long (x &&& y) :: stk) st) : Vat C wl nL pc lv (.long y :: .long x :: stk) st := by
  subst hp
  exact fun H locs ls hW hl => lv_land cx.1 cx.2.1 hd (k H locs ls hW hl)
theorem v_lor (pc' : Nat) {x y : Int64} (cx : Cx C tys cc own nL fr lo) (hd : decode cc pc = .ok (.lor, 1)) (hp : pc + 1 = pc') (k : Vat C wl nL pc' lv (.long (x ||| y) :: stk) st) : Vat C wl nL pc lv (.long y :: .long x :: stk) st := by
  subst hp
  exact fun H locs ls hW hl => lv_lor cx.1 cx.2.1 hd (k H locs ls hW hl)
theorem v_lshl (pc' : Nat) {x : Int64} {y : Int32} (cx : Cx C tys cc own nL fr lo) (hd : decode cc pc = .ok (.lshl, 1)) (hp : pc + 1 = pc') (k : Vat C wl nL pc' lv (.long (x <<< (y.toInt64 &&& 63)) :: stk) st) : Vat C wl nL pc lv (.int y :: .long x :: stk) st := by
  subst hp
  exact fun H locs ls hW hl => lv_lshl cx.1 cx.2.1 hd rfl (k H locs ls hW hl)
theorem v_ineg (pc' : Nat) {x : Int32} (cx : Cx C tys cc own nL fr lo) (hd : decode cc pc = .ok (.ineg, 1)) (hp : pc + 1 = pc') (k : Vat C wl nL pc' lv (.int (-x) :: stk) st) : Vat C wl nL pc lv (.int x :: stk) st := by
  subst hp
  exact fun H locs ls hW hl => lv_ineg cx.1 cx.2.1 hd (k H locs ls hW hl)
theorem v_i2l (pc' : Nat) {x : Int32} (cx : Cx C tys cc own nL fr lo) (hd : decode cc pc = .ok (.i2l, 1)) (hp : pc + 1 = pc') (k : Vat C wl nL pc' lv (.long x.toInt64 :: stk) st) : Vat C wl nL pc lv (.int x :: stk) st := by
  subst hp
  exact fun H locs ls hW hl => lv_i2l cx.1 cx.2.1 hd rfl (k H locs ls hW hl)
theorem v_l2i (pc' : Nat) {x : Int64} (cx : Cx C tys cc own nL fr lo) (hd : decode cc pc = .ok (.l2i, 1)) (hp : pc + 1 = pc') (k : Vat C wl nL pc' lv (.int x.toInt32 :: stk) st) : Vat C wl nL pc lv (.long x :: stk) st := by
  subst hp
  exact fun H locs ls hW hl => lv_l2i cx.1 cx.2.1 hd rfl (k H locs ls hW hl)
theorem v_lcmp (pc' : Nat) {x y : Int64} (cx : Cx C tys cc own nL fr lo) (hd : decode cc pc = .ok (.lcmp, 1)) (hp : pc + 1 = pc') (k : Vat C wl nL pc' lv (.int (lg_cmp x y) :: stk) st) : Vat C wl nL pc lv (.long y :: .long x :: stk) st := by
  subst hp
  exact fun H locs ls hW hl => W.lcmp cx.1 cx.2.1 hd (k H locs ls hW hl)
theorem v_dup (pc' : Nat) {a : Value} (cx : Cx C tys cc own nL fr lo) (hd : decode cc pc = .ok (.dup, 1)) (ha : a.category = 1) (hp : pc + 1 = pc') (k : Vat C wl nL pc' lv (a :: a :: stk) st) : Vat C wl nL pc lv (a :: stk) st := by
  subst hp
  exact fun H locs ls hW hl => lv_dup cx.1 cx.2.1 hd ha (k H locs ls hW hl)
theorem v_pop (pc' : Nat) {a : Value} (cx : Cx C tys cc own nL fr lo) (hd : decode cc pc = .ok (.pop, 1)) (ha : a.category = 1) (hp : pc + 1 = pc') (k : Vat C wl nL pc' lv stk st) : Vat C wl nL pc lv (a :: stk) st := by
  subst hp
  exact fun H locs ls hW hl => lv_pop cx.1 cx.2.1 hd ha (k H locs ls hW hl)
theorem v_pop2 (pc' : Nat) {a : Value} (cx : Cx C tys cc own nL fr lo) (hd : decode cc pc = .ok (.pop2, 1)) (ha : a.category = 2) (hp : pc + 1 = pc') (k : Vat C wl nL pc' lv stk st) : Vat C wl nL pc lv (a :: stk) st := by
  subst hp
  exact fun H locs ls hW hl => lv_pop2_2 cx.1 cx.2.1 hd ha (k H locs ls hW hl)
theorem v_dup2 (pc' : Nat) {a b : Value} (cx : Cx C tys cc own nL fr lo) (hd : decode cc pc = .ok (.dup2, 1)) (ha : a.category = 1) (hb : b.category = 1) (hp : pc + 1 = pc') (k : Vat C wl nL pc' lv (a :: b :: a :: b :: stk) st) : Vat C wl nL pc lv (a :: b :: stk) st := by
  subst hp
  exact fun H locs ls hW hl => lv_dup2_11 cx.1 cx.2.1 hd ha hb (k H locs ls hW hl)
theorem v_idiv (pc' : Nat) {x y : Int32} {f : Option β} (cx : Cx C tys cc own nL fr lo) (hd : decode cc pc = .ok (.idiv, 1)) (hp : pc + 1 = pc') (h : dvk y f = some o) (k : f = some o → Vat C wl nL pc' lv (.int (x / y) :: stk) st) : Vat C wl nL pc lv (.int y :: .int x :: stk) st := by
  subst hp
  unfold dvk at h
  by_cases h0 : y = 0
  · rw [if_pos h0] at h; cases h
  · rw [if_neg h0] at h
    exact fun H locs ls hW hl => lv_idiv cx.1 cx.2.1 hd h0 (k h H locs ls hW hl)
theorem v_irem (pc' : Nat) {x y : Int32} {f : Option β} (cx : Cx C tys cc own nL fr lo) (hd : decode cc pc = .ok (.irem, 1)) (hp : pc + 1 = pc') (h : dvk y f = some o) (k : f = some o → Vat C wl nL pc' lv (.int (x - x / y * y) :: stk) st) : Vat C wl nL pc lv (.int y :: .int x :: stk) st := by
  subst hp
  unfold dvk at h
  by_cases h0 : y = 0
  · rw [if_pos h0] at h; cases h
  · rw [if_neg h0] at h
    exact fun H locs ls hW hl => lv_irem cx.1 cx.2.1 hd h0 (k h H locs ls hW hl)
theorem v_ldiv (pc' : Nat) {x y : Int64} {f : Option β} (cx : Cx C tys cc own nL fr lo) (hd : decode cc pc = .ok (.ldiv, 1)) (hp : pc + 1 = pc') (h : dlk y f = some o) (k : f = some o → Vat C wl nL pc' lv (.long (x / y) :: stk) st) : Vat C wl nL pc lv (.long y :: .long x :: stk) st := by
  subst hp
  unfold dlk at h
  by_cases h0 : y = 0
  · rw [if_pos h0] at h; cases h
  · rw [if_neg h0] at h
    exact fun H locs ls hW hl => lv_ldiv cx.1 cx.2.1 hd h0 (k h H locs ls hW hl)
theorem v_if_eq (tgt pc' : Nat) {x : Int32} {off : Int} {E1 E2 : Option β} (cx : Cx C tys cc own nL fr lo) (hd : decode cc pc = .ok (.ifCond .eq off, 3)) (ht : (pc : Int) + off = (tgt : Int)) (hp : pc + 3 = pc') (h : (if x = 0 then E1 else E2) = some o) (k1 : E1 = some o → Vat C wl nL tgt lv stk st) (k2 : E2 = some o → Vat C wl nL pc' lv stk st) : Vat C wl nL pc lv (.int x :: stk) st := by
  subst hp
  exact fun H locs ls hW hl => lv_if_eq cx.1 cx.2.1 hd ht (fun q => k1 (by rw [if_pos q] at h; exact h) H locs ls hW hl) (fun q => k2 (by rw [if_neg q] at h; exact h) H locs ls hW hl)
theorem v_if_lt (tgt pc' : Nat) {x : Int32} {off : Int} {E1 E2 : Option β} (cx : Cx C tys cc own nL fr lo) (hd : decode cc pc = .ok (.ifCond .lt off, 3)) (ht : (pc : Int) + off = (tgt : Int)) (hp : pc + 3 = pc') (h : (if x < 0 then E1 else E2) = some o) (k1 : E1 = some o → Vat C wl nL tgt lv stk st) (k2 : E2 = some o → Vat C wl nL pc' lv stk st) : Vat C wl nL pc lv (.int x :: stk) st := by
  subst hp
  exact fun H locs ls hW hl => lv_if_lt cx.1 cx.2.1 hd ht (fun q => k1 (by rw [if_pos q] at h; exact h) H locs ls hW hl) (fun q => k2 (by rw [if_neg q] at h; exact h) H locs ls hW hl)
theorem v_if_ge (tgt pc' : Nat) {x : Int32} {off : Int} {E1 E2 : Option β} (cx : Cx C tys cc own nL fr lo) (hd : decode cc pc = .ok (.ifCond .ge off, 3)) (ht : (pc : Int) + off = (tgt : Int)) (hp : pc + 3 = pc') (h : (if 0 ≤ x then E1 else E2) = some o) (k1 : E1 = some o → Vat C wl nL tgt lv stk st) (k2 : E2 = some o → Vat C wl nL pc' lv stk st) : Vat C wl nL pc lv (.int x :: stk) st := by
  subst hp
  exact fun H locs ls hW hl => lv_if_ge cx.1 cx.2.1 hd ht (fun q => k1 (by rw [if_pos q] at h; exact h) H locs ls hW hl) (fun q => k2 (by rw [if_neg q] at h; exact h) H locs ls hW hl)
theorem v_if_gt (tgt pc' : Nat) {x : Int32} {off : Int} {E1 E2 : Option β} (cx : Cx C tys cc own nL fr lo) (hd : decode cc pc = .ok (.ifCond .gt off, 3)) (ht : (pc : Int) + off = (tgt : Int)) (hp : pc + 3 = pc') (h : (if 0 < x then E1 else E2) = some o) (k1 : E1 = some o → Vat C wl nL tgt lv stk st) (k2 : E2 = some o → Vat C wl nL pc' lv stk st) : Vat C wl nL pc lv (.int x :: stk) st := by
  subst hp
  exact fun H locs ls hW hl => lv_if_gt cx.1 cx.2.1 hd ht (fun q => k1 (by rw [if_pos q] at h; exact h) H locs ls hW hl) (fun q => k2 (by rw [if_neg q] at h; exact h) H locs ls hW hl)
theorem v_if_le (tgt pc' : Nat) {x : Int32} {off : Int} {E1 E2 : Option β} (cx : Cx C tys cc own nL fr lo) (hd : decode cc pc = .ok (.ifCond .le off, 3)) (ht : (pc : Int) + off = (tgt : Int)) (hp : pc + 3 = pc') (h : (if x ≤ 0 then E1 else E2) = some o) (k1 : E1 = some o → Vat C wl nL tgt lv stk st) (k2 : E2 = some o → Vat C wl nL pc' lv stk st) : Vat C wl nL pc lv (.int x :: stk) st := by
  subst hp
  exact fun H locs ls hW hl => lv_if_le cx.1 cx.2.1 hd ht (fun q => k1 (by rw [if_pos q] at h; exact h) H locs ls hW hl) (fun q => k2 (by rw [if_neg q] at h; exact h) H locs ls hW hl)
theorem v_icmp_eq (tgt pc' : Nat) {x y : Int32} {off : Int} {E1 E2 : Option β} (cx : Cx C tys cc own nL fr lo) (hd : decode cc pc = .ok (.if_icmp .eq off, 3)) (ht : (pc : Int) + off = (tgt : Int)) (hp : pc + 3 = pc') (h : (if x = y then E1 else E2) = some o) (k1 : E1 = some o → Vat C wl nL tgt lv stk st) (k2 : E2 = some o → Vat C wl nL pc' lv stk st) : Vat C wl nL pc lv (.int y :: .int x :: stk) st := by
  subst hp
  exact fun H locs ls hW hl => lv_icmp_eq cx.1 cx.2.1 hd ht (fun q => k1 (by rw [if_pos q] at h; exact h) H locs ls hW hl) (fun q => k2 (by rw [if_neg q] at h; exact h) H locs ls hW hl)
theorem v_icmp_lt (tgt pc' : Nat) {x y : Int32} {off : Int} {E1 E2 : Option β} (cx : Cx C tys cc own nL fr lo) (hd : decode cc pc = .ok (.if_icmp .lt off, 3)) (ht : (pc : Int) + off = (tgt : Int)) (hp : pc + 3 = pc') (h : (if x < y then E1 else E2) = some o) (k1 : E1 = some o → Vat C wl nL tgt lv stk st) (k2 : E2 = some o → Vat C wl nL pc' lv stk st) : Vat C wl nL pc lv (.int y :: .int x :: stk) st := by
  subst hp
  exact fun H locs ls hW hl => lv_icmp_lt cx.1 cx.2.1 hd ht (fun q => k1 (by rw [if_pos q] at h; exact h) H locs ls hW hl) (fun q => k2 (by rw [if_neg q] at h; exact h) H locs ls hW hl)
theorem v_icmp_ge (tgt pc' : Nat) {x y : Int32} {off : Int} {E1 E2 : Option β} (cx : Cx C tys cc own nL fr lo) (hd : decode cc pc = .ok (.if_icmp .ge off, 3)) (ht : (pc : Int) + off = (tgt : Int)) (hp : pc + 3 = pc') (h : (if y ≤ x then E1 else E2) = some o) (k1 : E1 = some o → Vat C wl nL tgt lv stk st) (k2 : E2 = some o → Vat C wl nL pc' lv stk st) : Vat C wl nL pc lv (.int y :: .int x :: stk) st := by
  subst hp
  exact fun H locs ls hW hl => lv_icmp_ge cx.1 cx.2.1 hd ht (fun q => k1 (by rw [if_pos q] at h; exact h) H locs ls hW hl) (fun q => k2 (by rw [if_neg q] at h; exact h) H locs ls hW hl)
theorem v_icmp_gt (tgt pc' : Nat) {x y : Int32} {off : Int} {E1 E2 : Option β} (cx : Cx C tys cc own nL fr lo) (hd : decode cc pc = .ok (.if_icmp .gt off, 3)) (ht : (pc : Int) + off = (tgt : Int)) (hp : pc + 3 = pc') (h : (if y < x then E1 else E2) = some o) (k1 : E1 = some o → Vat C wl nL tgt lv stk st) (k2 : E2 = some o → Vat C wl nL pc' lv stk st) : Vat C wl nL pc lv (.int y :: .int x :: stk) st := by
  subst hp
  exact fun H locs ls hW hl => lv_icmp_gt cx.1 cx.2.1 hd ht (fun q => k1 (by rw [if_pos q] at h; exact h) H locs ls hW hl) (fun q => k2 (by rw [if_neg q] at h; exact h) H locs ls hW hl)
theorem v_icmp_le (tgt pc' : Nat) {x y : Int32} {off : Int} {E1 E2 : Option β} (cx : Cx C tys cc own nL fr lo) (hd : decode cc pc = .ok (.if_icmp .le off, 3)) (ht : (pc : Int) + off = (tgt : Int)) (hp : pc + 3 = pc') (h : (if x ≤ y then E1 else E2) = some o) (k1 : E1 = some o → Vat C wl nL tgt lv stk st) (k2 : E2 = some o → Vat C wl nL pc' lv stk st) : Vat C wl nL pc lv (.int y :: .int x :: stk) st := by
  subst hp
  exact fun H locs ls hW hl => lv_icmp_le cx.1 cx.2.1 hd ht (fun q => k1 (by rw [if_pos q] at h; exact h) H locs ls hW hl) (fun q => k2 (by rw [if_neg q] at h; exact h) H locs ls hW hl)
theorem v_if_ne (tgt pc' : Nat) {x : Int32} {off : Int} {E1 E2 : Option β} (cx : Cx C tys cc own nL fr lo) (hd : decode cc pc = .ok (.ifCond .ne off, 3)) (ht : (pc : Int) + off = (tgt : Int)) (hp : pc + 3 = pc') (h : (if x = 0 then E2 else E1) = some o) (k1 : E1 = some o → Vat C wl nL tgt lv stk st) (k2 : E2 = some o → Vat C wl nL pc' lv stk st) : Vat C wl nL pc lv (.int x :: stk) st := by
  subst hp
  exact fun H locs ls hW hl => lv_if_ne cx.1 cx.2.1 hd ht (fun q => k1 (by rw [if_neg q] at h; exact h) H locs ls hW hl) (fun q => k2 (by rw [if_pos q] at h; exact h) H locs ls hW hl)
theorem v_icmp_ne (tgt pc' : Nat) {x y : Int32} {off : Int} {E1 E2 : Option β} (cx : Cx C tys cc own nL fr lo) (hd : decode cc pc = .ok (.if_icmp .ne off, 3)) (ht : (pc : Int) + off = (tgt : Int)) (hp : pc + 3 = pc') (h : (if x = y then E2 else E1) = some o) (k1 : E1 = some o → Vat C wl nL tgt lv stk st) (k2 : E2 = some o → Vat C wl nL pc' lv stk st) : Vat C wl nL pc lv (.int y :: .int x :: stk) st := by
  subst hp
  exact fun H locs ls hW hl => lv_icmp_ne cx.1 cx.2.1 hd ht (fun q => k1 (by rw [if_neg q] at h; exact h) H locs ls hW hl) (fun q => k2 (by rw [if_pos q] at h; exact h) H locs ls hW hl)
theorem v_goto (tgt : Nat) {off : Int} (cx : Cx C tys cc own nL fr lo) (hd : decode cc pc = .ok (.goto off, 3)) (ht : (pc : Int) + off = (tgt : Int)) (k : Vat C wl nL tgt lv stk st) : Vat C wl nL pc lv stk st := fun H locs ls hW hl => lv_goto cx.1 cx.2.1 hd ht (k H locs ls hW hl)
theorem v_tabC (tgt k : Nat) {x ck : Int32} {dflt l0 h0 off : Int} {offs : Array Int} {len : Nat} {E1 E2 : Option β} (cx : Cx C tys cc own nL fr lo) (hd : decode cc pc = .ok (.tableswitch dflt l0 h0 offs, len)) (hc : ck.toInt = l0 + (k : Int)) (hh : l0 + (k : Int) ≤ h0) (ho : offs[k]? = some off) (ht : (pc : Int) + off = (tgt : Int)) (hn : ∀ i : Nat, i < k → x.toInt ≠ l0 + (i : Int)) (h : (if x = ck then E1 else E2) = some o) (k1 : E1 = some o → Vat C wl nL tgt lv stk st) (k2 : (∀ i : Nat, i < k + 1 → x.toInt ≠ l0 + (i : Int)) → E2 = some o → Vat C wl nL pc lv (.int x :: stk) st) : Vat C wl nL pc lv (.int x :: stk) st := by
  by_cases q : x = ck
  · rw [if_pos q] at h
    subst q
    exact fun H locs ls hW hl => lv_tableIn cx.1 cx.2.1 hd (by omega) (by omega) (by rw [hc, show (l0 + (k : Int) - l0).toNat = k by omega]; exact ho) ht (k1 h H locs ls hW hl)
  · rw [if_neg q] at h
    refine k2 (fun i hi => ?_) h
    rcases Nat.lt_succ_iff_lt_or_eq.mp hi with g | g
    · exact hn i g
    · subst g
      intro e
      exact q (Int32.toInt_inj.mp (e.trans hc.symm))
theorem v_tabD (tgt k : Nat) {x : Int32} {dflt l0 h0 : Int} {offs : Array Int} {len : Nat} (cx : Cx C tys cc own nL fr lo) (hd : decode cc pc = .ok (.tableswitch dflt l0 h0 offs, len)) (hh : h0 < l0 + (k : Int)) (ht : (pc : Int) + dflt = (tgt : Int)) (hn : ∀ i : Nat, i < k → x.toInt ≠ l0 + (i : Int)) (kk : Vat C wl nL tgt lv stk st) : Vat C wl nL pc lv (.int x :: stk) st := by
  have hx : x.toInt < l0 ∨ h0 < x.toInt := by
    by_cases a : x.toInt < l0
    · exact Or.inl a
    · refine Or.inr ?_
      by_cases b : h0 < x.toInt
      · exact b
      · exact absurd (show x.toInt = l0 + (((x.toInt - l0).toNat : Nat) : Int) by omega) (hn _ (by omega))
  exact fun H locs ls hW hl => lv_tableOut cx.1 cx.2.1 hd hx ht (kk H locs ls hW hl)
theorem v_mmax (pc' : Nat) {index : Nat} {x y : Int32} (cx : Cx C tys cc own nL fr lo) (hd : decode cc pc = .ok (.invokestatic index, 3)) (hm : Cond.methodLink own index Lib.Math.max.name ∈ lwg) (h1 : Cond.static Lib.Math.max.name ∈ lwg) (h2 : Cond.initialized "java/lang/Math" ∈ lwg) (h3 : Cond.code Lib.Math.max.name Lib.Math.max.code 2 (some .int) ∈ lwg) (hf : 1 ≤ fr) (hlo : (stk.map fun v => v.category).sum + 13 ≤ lo) (hp : pc + 3 = pc') (k : Vat C wl nL pc' lv (.int (mx x y) :: stk) st) : Vat C wl nL pc lv (.int y :: .int x :: stk) st := by
  subst hp
  obtain ⟨a1, a2, a3, a4, a5, a6, a7, a8, a9⟩ := cx
  subst a8; subst a9
  exact fun H locs ls hW hl => va_mmax a1 a2 (a3.trans hl.1.symm) a4 (a5 _ hm) (a5 _ h1) (a5 _ h2) (a5 _ h3) hf hlo (Nat.zero_le _) (Nat.zero_le _) hd (k H locs ls hW hl)
theorem v_get (pc' q0 k : Nat) {C0 ref : String} {T : u_T} {N ci index a : Nat} {fs : List Value} {v : Value} (cx : Cx C tys cc own nL fr lo) (hd : decode cc pc = .ok (.getfield index, 3)) (hin : ∀ w ∈ u_ws C0 T N, w ∈ lwg) (he : (wl st)[q0]? = some (a, .inr (ci, fs))) (hc : vwCl[ci]? = some (C0, T, N)) (hk : k < N) (hr : (T k).1 = ref) (hm : Cond.fieldLink own index ref (T k).2.1 (T k).2.2.1 ∈ lwg) (hv : fs[k]? = some v) (hp : pc + 3 = pc') (kk : Vat C wl nL pc' lv (v :: stk) st) : Vat C wl nL pc lv (.ref a :: stk) st := by
  subst hp
  subst hr
  exact fun H locs ls hW hl => va_get cx.1 cx.2.1 cx.2.2.2.2.1 hin cx.2.2.2.1 cx.2.2.2.2.2.1 hW.1 q0 he hc k hk (cx.2.2.2.2.1 _ hm) (fun _ h9 => h9) hv hd (kk H locs ls hW hl)
theorem v_put (pc' q0 k : Nat) {C0 ref : String} {T : u_T} {N ci index a : Nat} {fs : List Value} {v : Value} {ty : FieldType} {tyf : Nat → FieldType} {st' : Sg} (cx : Cx C tys cc own nL fr lo) (hd : decode cc pc = .ok (.putfield index, 3)) (hin : ∀ w ∈ u_ws C0 T N, w ∈ lwg) (hty : ∀ k, k < N → parseFieldDescriptor (T k).2.2.1 = some (tyf k)) (hnm : ∀ a, a < N → ∀ b, b < N → a ≠ b → (T a).2.1 ≠ (T b).2.1) (he : (wl st)[q0]? = some (a, .inr (ci, fs))) (hc : vwCl[ci]? = some (C0, T, N)) (hk : k < N) (hr : (T k).1 = ref) (hm : Cond.fieldLink own index ref (T k).2.1 (T k).2.2.1 ∈ lwg) (hfin : (T k).2.2.2 = false) (ht : tyf k = ty) (hn : narrow ty v = v) (hfit : fits ty v = true) (hlen : k < fs.length) (hs : (wl st).set q0 (a, .inr (ci, fs.set k v)) = wl st') (hp : pc + 3 = pc') (kk : Vat C wl nL pc' lv stk st') : Vat C wl nL pc lv (v :: .ref a :: stk) st := by
  subst hp
  subst hr
  exact fun H locs ls hW hl => va_put cx.1 cx.2.1 cx.2.2.2.2.1 hin tyf hty hnm cx.2.2.2.1 cx.2.2.2.2.2.1 hW.1 hW.2.1 hW.2.2 q0 he hc k hk (cx.2.2.2.2.1 _ hm) (fun _ h9 => h9) hfin ((hty k hk).trans (by rw [ht])) hn hfit hlen hd (fun H1 locs1 g1 g2 g3 => kk H1 locs1 ls (by rw [hs] at g1 g2; exact ⟨g1, g2, g3⟩) hl)
theorem v_iald (pc' q0 t0 : Nat) {cA : ClassId} {j k n a : Nat} {i : Int32} {f : Int32 → Option β} (cx : Cx C tys cc own nL fr lo) (hd : decode cc pc = .ok (.iaload, 1)) (ha : (wl st)[q0]? = some (a, .inl (cA, n, .inl (gA st j k)))) (ht : tys[t0]? = some (cA, .int)) (hp : pc + 1 = pc') (h : lAk st j k n i f = some o) (kk : ∀ v, f v = some o → Vat C wl nL pc' lv (.int v :: stk) st) : Vat C wl nL pc lv (.int i :: .ref a :: stk) st := by
  subst hp
  unfold lAk at h
  by_cases q : vpb i n = true
  · rw [if_pos q] at h
    exact fun H locs ls hW hl => va_iald cx.1 cx.2.1 cx.2.2.2.2.2.1 hW.1 q0 t0 ha ht (vpb_in q) hd (kk _ h H locs ls hW hl)
  · rw [if_neg q] at h; cases h
theorem v_zald (pc' q0 t0 : Nat) {cA : ClassId} {j k n a : Nat} {i : Int32} {f : Int32 → Option β} (cx : Cx C tys cc own nL fr lo) (hd : decode cc pc = .ok (.baload, 1)) (ha : (wl st)[q0]? = some (a, .inl (cA, n, .inl (gA st j k)))) (ht : tys[t0]? = some (cA, .boolean)) (hp : pc + 1 = pc') (h : lAk st j k n i f = some o) (kk : ∀ v, f v = some o → Vat C wl nL pc' lv (.int v :: stk) st) : Vat C wl nL pc lv (.int i :: .ref a :: stk) st := by
  subst hp
  unfold lAk at h
  by_cases q : vpb i n = true
  · rw [if_pos q] at h
    exact fun H locs ls hW hl => va_zald cx.1 cx.2.1 cx.2.2.2.2.2.1 hW.1 q0 t0 ha ht (vpb_in q) hd (kk _ h H locs ls hW hl)
  · rw [if_neg q] at h; cases h
theorem v_lald (pc' q0 t0 : Nat) {cA : ClassId} {j k n a : Nat} {i : Int32} {f : Int64 → Option β} (cx : Cx C tys cc own nL fr lo) (hd : decode cc pc = .ok (.laload, 1)) (ha : (wl st)[q0]? = some (a, .inl (cA, n, .inr (.inl (gL st j k))))) (ht : tys[t0]? = some (cA, .long)) (hp : pc + 1 = pc') (h : lLk st j k n i f = some o) (kk : ∀ v, f v = some o → Vat C wl nL pc' lv (.long v :: stk) st) : Vat C wl nL pc lv (.int i :: .ref a :: stk) st := by
  subst hp
  unfold lLk at h
  by_cases q : vpb i n = true
  · rw [if_pos q] at h
    exact fun H locs ls hW hl => va_lald cx.1 cx.2.1 cx.2.2.2.2.2.1 hW.1 q0 t0 ha ht (vpb_in q) hd (kk _ h H locs ls hW hl)
  · rw [if_neg q] at h; cases h
theorem v_iast (pc' q0 t0 : Nat) {cA : ClassId} {j k n a : Nat} {i : Int32} {x : Int32} {f : Sg → Option β} (cx : Cx C tys cc own nL fr lo) (hd : decode cc pc = .ok (.iastore, 1)) (ha : (wl st)[q0]? = some (a, .inl (cA, n, .inl (gA st j k)))) (ht : tys[t0]? = some (cA, .int)) (hs : ∀ z, (wl st).set q0 (a, .inl (cA, n, .inl z)) = wl (pA st j k z)) (hp : pc + 1 = pc') (h : sAk st j k n i x f = some o) (kk : ∀ st', f st' = some o → Vat C wl nL pc' lv stk st') : Vat C wl nL pc lv (.int x :: .int i :: .ref a :: stk) st := by
  subst hp
  unfold sAk at h
  by_cases q : vpb i n = true
  · rw [if_pos q] at h
    exact fun H locs ls hW hl => va_iast cx.1 cx.2.1 cx.2.2.2.2.2.1 hW.1 hW.2.1 hW.2.2 q0 t0 ha ht (vpb_in q) hd (fun H1 locs1 g1 g2 g3 => kk _ h H1 locs1 ls (by rw [hs] at g1 g2; exact ⟨g1, g2, g3⟩) hl)
  · rw [if_neg q] at h; cases h
theorem v_zast (pc' q0 t0 : Nat) {cA : ClassId} {j k n a : Nat} {i : Int32} {x : Int32} {f : Sg → Option β} (cx : Cx C tys cc own nL fr lo) (hd : decode cc pc = .ok (.bastore, 1)) (ha : (wl st)[q0]? = some (a, .inl (cA, n, .inl (gA st j k)))) (ht : tys[t0]? = some (cA, .boolean)) (hs : ∀ z, (wl st).set q0 (a, .inl (cA, n, .inl z)) = wl (pA st j k z)) (hp : pc + 1 = pc') (h : sZk st j k n i x f = some o) (kk : ∀ st', f st' = some o → Vat C wl nL pc' lv stk st') : Vat C wl nL pc lv (.int x :: .int i :: .ref a :: stk) st := by
  subst hp
  unfold sZk at h
  by_cases q : vpb i n = true
  · rw [if_pos q] at h
    exact fun H locs ls hW hl => va_zast cx.1 cx.2.1 cx.2.2.2.2.2.1 hW.1 hW.2.1 hW.2.2 q0 t0 ha ht (vpb_in q) hd (fun H1 locs1 g1 g2 g3 => kk _ h H1 locs1 ls (by rw [hs] at g1 g2; exact ⟨g1, g2, g3⟩) hl)
  · rw [if_neg q] at h; cases h
theorem v_last (pc' q0 t0 : Nat) {cA : ClassId} {j k n a : Nat} {i : Int32} {x : Int64} {f : Sg → Option β} (cx : Cx C tys cc own nL fr lo) (hd : decode cc pc = .ok (.lastore, 1)) (ha : (wl st)[q0]? = some (a, .inl (cA, n, .inr (.inl (gL st j k))))) (ht : tys[t0]? = some (cA, .long)) (hs : ∀ z, (wl st).set q0 (a, .inl (cA, n, .inr (.inl z))) = wl (pL st j k z)) (hp : pc + 1 = pc') (h : sLk st j k n i x f = some o) (kk : ∀ st', f st' = some o → Vat C wl nL pc' lv stk st') : Vat C wl nL pc lv (.long x :: .int i :: .ref a :: stk) st := by
  subst hp
  unfold sLk at h
  by_cases q : vpb i n = true
  · rw [if_pos q] at h
    exact fun H locs ls hW hl => va_last cx.1 cx.2.1 cx.2.2.2.2.2.1 hW.1 hW.2.1 hW.2.2 q0 t0 ha ht (vpb_in q) hd (fun H1 locs1 g1 g2 g3 => kk _ h H1 locs1 ls (by rw [hs] at g1 g2; exact ⟨g1, g2, g3⟩) hl)
  · rw [if_neg q] at h; cases h
theorem v_alen (pc' q0 t0 : Nat) {cA : ClassId} {a : Nat} {x : vp_A} {ty : FieldType} {v : Int32} (cx : Cx C tys cc own nL fr lo) (hd : decode cc pc = .ok (.arraylength, 1)) (ha : (wl st)[q0]? = some (a, .inl (cA, x))) (ht : tys[t0]? = some (cA, ty)) (hv : Int32.ofNat x.1 = v) (hp : pc + 1 = pc') (kk : Vat C wl nL pc' lv (.int v :: stk) st) : Vat C wl nL pc lv (.ref a :: stk) st := by
  subst hp
  exact fun H locs ls hW hl => va_alen cx.1 cx.2.1 cx.2.2.2.2.2.1 hW.1 q0 t0 ha ht hv hd (kk H locs ls hW hl)
theorem v_copyi (pc' q0 q1 t0 : Nat) {cA : ClassId} {index j0 k0 n0 a0 j1 k1 n1 a1 : Nat} {sp dp n : Int32} {f : Sg → Option β} (cx : Cx C tys cc own nL fr lo) (hd : decode cc pc = .ok (.invokestatic index, 3)) (hm : Cond.methodLink own index arraycopyName ∈ lwg) (h1 : Cond.native arraycopyName ∈ lwg) (h2 : Cond.static arraycopyName ∈ lwg) (h3 : Cond.initialized "java/lang/System" ∈ lwg) (ha0 : (wl st)[q0]? = some (a0, .inl (cA, n0, .inl (gA st j0 k0)))) (ha1 : (wl st)[q1]? = some (a1, .inl (cA, n1, .inl (gA st j1 k1)))) (ht : tys[t0]? = some (cA, .int)) (hs : ∀ z, (wl st).set q1 (a1, .inl (cA, n1, .inl z)) = wl (pA st j1 k1 z)) (hf : 1 ≤ fr) (hlo : (stk.map fun v => v.category).sum + (nativeFrameWords "java/lang/System" "arraycopy" 5 + 11) ≤ lo) (hp : pc + 3 = pc') (h : cpAk st j0 k0 n0 sp j1 k1 n1 dp n f = some o) (kk : ∀ st', f st' = some o → Vat C wl nL pc' lv stk st') : Vat C wl nL pc lv (.int n :: .int dp :: .ref a1 :: .int sp :: .ref a0 :: stk) st := by
  subst hp
  obtain ⟨c1, c2, c3, c4, c5, c6, c7, c8, c9⟩ := cx
  subst c8; subst c9
  unfold cpAk at h
  by_cases b1 : sp < 0
  · rw [if_pos b1] at h; cases h
  rw [if_neg b1] at h
  by_cases b2 : dp < 0
  · rw [if_pos b2] at h; cases h
  rw [if_neg b2] at h
  by_cases b3 : n < 0
  · rw [if_pos b3] at h; cases h
  rw [if_neg b3] at h
  by_cases b4 : sp.toNatClampNeg + n.toNatClampNeg ≤ n0
  · rw [if_pos b4] at h
    by_cases b5 : dp.toNatClampNeg + n.toNatClampNeg ≤ n1
    · rw [if_pos b5] at h
      exact fun H locs ls hW hl => va_copyi c1 c2 (c3.trans hl.1.symm) c4 (c5 _ hm) (c5 _ h1) (c5 _ h2) (c5 _ h3) c6 hW.1 hW.2.1 hW.2.2 q0 q1 t0 t0 ha0 ha1 ht ht rfl b1 b2 b3 b4 b5 (fun _ _ => rfl) hf hlo hd (fun H1 locs1 g1 g2 g3 => kk _ h H1 locs1 ls (by rw [hs] at g1 g2; exact ⟨g1, g2, g3⟩) hl)
    · rw [if_neg b5] at h; cases h
  · rw [if_neg b4] at h; cases h
theorem v_copyl (pc' q0 q1 t0 : Nat) {cA : ClassId} {index j0 k0 n0 a0 j1 k1 n1 a1 : Nat} {sp dp n : Int32} {f : Sg → Option β} (cx : Cx C tys cc own nL fr lo) (hd : decode cc pc = .ok (.invokestatic index, 3)) (hm : Cond.methodLink own index arraycopyName ∈ lwg) (h1 : Cond.native arraycopyName ∈ lwg) (h2 : Cond.static arraycopyName ∈ lwg) (h3 : Cond.initialized "java/lang/System" ∈ lwg) (ha0 : (wl st)[q0]? = some (a0, .inl (cA, n0, .inr (.inl (gL st j0 k0))))) (ha1 : (wl st)[q1]? = some (a1, .inl (cA, n1, .inr (.inl (gL st j1 k1))))) (ht : tys[t0]? = some (cA, .long)) (hs : ∀ z, (wl st).set q1 (a1, .inl (cA, n1, .inr (.inl z))) = wl (pL st j1 k1 z)) (hf : 1 ≤ fr) (hlo : (stk.map fun v => v.category).sum + (nativeFrameWords "java/lang/System" "arraycopy" 5 + 11) ≤ lo) (hp : pc + 3 = pc') (h : cpLk st j0 k0 n0 sp j1 k1 n1 dp n f = some o) (kk : ∀ st', f st' = some o → Vat C wl nL pc' lv stk st') : Vat C wl nL pc lv (.int n :: .int dp :: .ref a1 :: .int sp :: .ref a0 :: stk) st := by
  subst hp
  obtain ⟨c1, c2, c3, c4, c5, c6, c7, c8, c9⟩ := cx
  subst c8; subst c9
  unfold cpLk at h
  by_cases b1 : sp < 0
  · rw [if_pos b1] at h; cases h
  rw [if_neg b1] at h
  by_cases b2 : dp < 0
  · rw [if_pos b2] at h; cases h
  rw [if_neg b2] at h
  by_cases b3 : n < 0
  · rw [if_pos b3] at h; cases h
  rw [if_neg b3] at h
  by_cases b4 : sp.toNatClampNeg + n.toNatClampNeg ≤ n0
  · rw [if_pos b4] at h
    by_cases b5 : dp.toNatClampNeg + n.toNatClampNeg ≤ n1
    · rw [if_pos b5] at h
      exact fun H locs ls hW hl => va_copyl c1 c2 (c3.trans hl.1.symm) c4 (c5 _ hm) (c5 _ h1) (c5 _ h2) (c5 _ h3) c6 hW.1 hW.2.1 hW.2.2 q0 q1 t0 t0 ha0 ha1 ht ht rfl b1 b2 b3 b4 b5 (fun _ _ => rfl) hf hlo hd (fun H1 locs1 g1 g2 g3 => kk _ h H1 locs1 ls (by rw [hs] at g1 g2; exact ⟨g1, g2, g3⟩) hl)
    · rw [if_neg b5] at h; cases h
  · rw [if_neg b4] at h; cases h
end VR
/-- the words of a method -/
abbrev wsm (y : MethodName) (cc : ByteArray) (nL : Nat) (ret : Option FieldType) : List Cond := Cond.code y cc nL ret :: lwg
def rmN (fr lo : Nat) : Room := { frames := fr, cells := 0, slots := 0, locals := lo }
def PcW (D : va_G) (wl : Sg → va_W) (tys : List (ClassId × FieldType)) (as : List Value) (st : Sg) (sz : Nat) : Array Value → State → Prop := va_Pc as (fun U => U.heap.size = sz ∧ va_P D vwCl (wl st) U.heap ∧ va_K D vwCl tys U ∧ va_D (fun _ => True) (wl st))
def PoW (D : va_G) (wl : Sg → va_W) (tys : List (ClassId × FieldType)) (A : Nat → Prop) (u : Sg) (t : State) : Prop := va_P D vwCl (wl u) t.heap ∧ va_K D vwCl tys t ∧ va_D A (wl u)
def CtI (l : Launch) (wl : Sg → va_W) (tys : List (ClassId × FieldType)) (y : MethodName) (cc : ByteArray) (nL : Nat) (ret : Option FieldType) (fr lo : Nat) (as : List Value) (st : Sg) (o : Int32 × Sg) : Prop := ∀ (D : va_G) (sz : Nat), Met l y (wsm y cc nL ret) (rmN fr lo) (PcW D wl tys as st sz) (va_Qi (fun r u => (r, u) = o) (PoW D wl tys (va_A (wl st) sz)) (va_A (wl st) sz)) 0 0 (va_A (wl st) sz)
def CtL (l : Launch) (wl : Sg → va_W) (tys : List (ClassId × FieldType)) (y : MethodName) (cc : ByteArray) (nL : Nat) (ret : Option FieldType) (fr lo : Nat) (as : List Value) (st : Sg) (o : Int64 × Sg) : Prop := ∀ (D : va_G) (sz : Nat), Met l y (wsm y cc nL ret) (rmN fr lo) (PcW D wl tys as st sz) (va_Ql (fun r u => (r, u) = o) (PoW D wl tys (va_A (wl st) sz)) (va_A (wl st) sz)) 0 0 (va_A (wl st) sz)
def CtV (l : Launch) (wl : Sg → va_W) (tys : List (ClassId × FieldType)) (y : MethodName) (cc : ByteArray) (nL : Nat) (ret : Option FieldType) (fr lo : Nat) (as : List Value) (st : Sg) (o : Unit × Sg) : Prop := ∀ (D : va_G) (sz : Nat), Met l y (wsm y cc nL ret) (rmN fr lo) (PcW D wl tys as st sz) (va_Qv (fun u => ((), u) = o) (PoW D wl tys (va_A (wl st) sz)) (va_A (wl st) sz)) 0 0 (va_A (wl st) sz)
theorem pcw_blind {D : va_G} {wl : Sg → va_W} {tys : List (ClassId × FieldType)} {as : List Value} {st : Sg} {sz : Nat} : FrameBlind (PcW D wl tys as st sz) := fun a U g mk q => by
  obtain ⟨q0, q1, qP, qK, qD⟩ := q
  exact ⟨q0, q1, qP, va_K.moved (u := U) (U := U.calling g mk a) (Vm.Alike.refl U.vm) qK, qD⟩
theorem wa_in {A : Nat → Prop} {ws : va_W} {H0 H : Heap} {locs : List Loc} (hD : va_D A ws) (hS : va_S A H0 H locs) (hA : ∀ q, H0.size ≤ q → A q) : ∀ q, va_A ws H.size q → A q := by
  intro q h
  rcases h with ⟨k, e, h⟩ | h
  · exact hD.2 k (q, e) h
  · exact hA q (Nat.le_trans hS.1 h)
/-- what the tables say of a method that is called -/
def CaV (y : MethodName) (cc : ByteArray) (nL : Nat) (ret : Option FieldType) (n : Nat) : Prop := Cond.code y cc nL ret ∈ lwg ∧ Cond.initialized y.cls ∈ lwg ∧ Cond.instanceMethod y ∈ lwg ∧ Cond.selects y.cls y y ∈ lwg ∧ (y.cls ≠ "java/lang/invoke/MethodHandle" ∧ y.cls ≠ "java/lang/invoke/VarHandle" ∧ (parseMethodDescriptor y.desc).map (fun d => d.parameters.length) = some n)
def CaS (y : MethodName) (cc : ByteArray) (nL : Nat) (ret : Option FieldType) (n : Nat) : Prop := Cond.code y cc nL ret ∈ lwg ∧ Cond.initialized y.cls ∈ lwg ∧ Cond.static y ∈ lwg ∧ (y.cls ≠ "java/lang/invoke/MethodHandle" ∧ y.cls ≠ "java/lang/invoke/VarHandle" ∧ (parseMethodDescriptor y.desc).map (fun d => d.parameters.length) = some n)
theorem tbl_good : ∀ w ∈ lwg, goodWord w = true := fun w h => (List.mem_filter.mp h).2
theorem wsm_good {y : MethodName} {cc : ByteArray} {nL : Nat} {ret : Option FieldType} (h : Cond.code y cc nL ret ∈ lwg) : GoodIn lwg (wsm y cc nL ret) := fun w hw => by
  rcases List.mem_cons.mp hw with e | e
  · subst e; exact ⟨h, good_of_word (tbl_good _ h)⟩
  · exact ⟨e, good_of_word (tbl_good _ e)⟩
section VC
variable {C : Cm} {wl : Sg → va_W} {nL pc fr lo : Nat} {lv lv' : List (Nat × Value)} {stk : List Value} {st : Sg} {tys : List (ClassId × FieldType)} {cc : ByteArray} {own : String} {β : Type} {o : β}
theorem v_callVI (pc' : Nat) (q0 : Nat) {b ci N : Nat} {fs : List Value} {T : u_T} {index nL2 n fr2 lo2 : Nat} {y : MethodName} {cc2 : ByteArray} {ret : Option FieldType} {as S : List Value} {mf : Option (Int32 × Sg)} {f : Int32 → Sg → Option β} (cx : Cx C tys cc own nL fr lo) (hd : decode cc pc = .ok (.invokevirtual index, 3)) (hm : Cond.methodLink own index y ∈ lwg) (cb : CaV y cc2 nL2 ret n) (he : (wl st)[q0]? = some (b, .inr (ci, fs))) (hc : vwCl[ci]? = some (y.cls, T, N)) (hM : ∀ q, mf = some q → CtI C.2.1 wl tys y cc2 nL2 ret fr2 lo2 (.ref b :: as) st q) (hn : as.length = n) (hR : fr2 + 1 ≤ fr ∧ 8 + (nL2 + 11) + lo2 ≤ lo) (hs : S = as.reverse ++ .ref b :: stk) (hw : (stk.map fun v => v.category).sum ≤ 8) (hp : pc + 3 = pc') (h : clk mf f = some o) (kk : ∀ r st', f r st' = some o → Vat C wl nL pc' lv (.int r :: stk) st') : Vat C wl nL pc lv S st := by
  subst hp
  subst hs
  cases hmf : mf with
  | none => rw [hmf] at h; cases h
  | some q =>
    rw [hmf] at h
    obtain ⟨r, st'⟩ := q
    have h : f r st' = some o := h
    obtain ⟨c1, c2, c3, c4, c5, c6, c7, c8, c9⟩ := cx
    subst c8; subst c9
    intro H locs ls hW hl
    obtain ⟨hP, hD, hS⟩ := hW
    have hM1 := hM _ hmf C.2.2.2.2.2.2.2.2.2.2.2.1 H.size
    have cw : CallW C.2.2.2.1 C.2.2.2.2.1 C.2.2.2.2.2.2.1 own y.cls index y cc2 nL2 ret (wsm y cc2 nL2 ret) (rmN fr2 lo2) 0 0 n := ⟨callB_of n c5 (wsm_good cb.1) rfl rfl rfl (c5 _ cb.2.1) (c5 _ hm) cb.2.2.2.2 hR, c5 _ cb.2.2.1, c5 _ cb.2.2.2.1⟩
    have pre : PreV C.2.2.2.2.1 H y.cls b (PcW C.2.2.2.2.2.2.2.2.2.2.2.1 wl tys (.ref b :: as) st H.size) as := ⟨pcw_blind, va_recv c6 hP (q0 := q0) hc he, fun U hU hW => ⟨rfl, by rw [hU], by rw [hU]; exact hP, va_K.moved hW.alike c6, hD.weaken (fun _ _ _ _ => trivial)⟩⟩
    have run := va_runV (locs := locs) (cells := 0) (slots := 0) (below := C.2.2.2.2.2.2.2.1) (meth := C.2.2.2.2.2.2.2.2.1) (e := C.2.2.1) (g := F0 C.2.2.2.2.2.1 pc ls (as.reverse ++ .ref b :: stk)) (rest := stk) ⟨c1, c2, c3, c4, c5⟩ hM1 cw pre rfl hn hl.1 rfl (lv_room hw) hd ⟨Nat.zero_le _, Nat.zero_le _⟩
    refine va_calli run hS (fun q _ h => wa_in hD hS c7 q h) (wa_in hD hS c7) (fun r1 u t H1 locs1 ht hvm hw2 hB hz1 hk1 hS1 => ?_)
    cases hw2
    obtain ⟨hP1, hK1, hD1⟩ := hB
    rw [ht] at hP1
    exact kk _ _ h H1 locs1 ls ⟨hP1, hD1.weaken (fun _ x _ hx => wa_in hD hS c7 x.1 hx), hS1⟩ hl
theorem v_callVL (pc' : Nat) (q0 : Nat) {b ci N : Nat} {fs : List Value} {T : u_T} {index nL2 n fr2 lo2 : Nat} {y : MethodName} {cc2 : ByteArray} {ret : Option FieldType} {as S : List Value} {mf : Option (Int64 × Sg)} {f : Int64 → Sg → Option β} (cx : Cx C tys cc own nL fr lo) (hd : decode cc pc = .ok (.invokevirtual index, 3)) (hm : Cond.methodLink own index y ∈ lwg) (cb : CaV y cc2 nL2 ret n) (he : (wl st)[q0]? = some (b, .inr (ci, fs))) (hc : vwCl[ci]? = some (y.cls, T, N)) (hM : ∀ q, mf = some q → CtL C.2.1 wl tys y cc2 nL2 ret fr2 lo2 (.ref b :: as) st q) (hn : as.length = n) (hR : fr2 + 1 ≤ fr ∧ 8 + (nL2 + 11) + lo2 ≤ lo) (hs : S = as.reverse ++ .ref b :: stk) (hw : (stk.map fun v => v.category).sum ≤ 8) (hp : pc + 3 = pc') (h : clk mf f = some o) (kk : ∀ r st', f r st' = some o → Vat C wl nL pc' lv (.long r :: stk) st') : Vat C wl nL pc lv S st := by
  subst hp
  subst hs
  cases hmf : mf with
  | none => rw [hmf] at h; cases h
  | some q =>
    rw [hmf] at h
    obtain ⟨r, st'⟩ := q
    have h : f r st' = some o := h
    obtain ⟨c1, c2, c3, c4, c5, c6, c7, c8, c9⟩ := cx
    subst c8; subst c9
    intro H locs ls hW hl
    obtain ⟨hP, hD, hS⟩ := hW
    have hM1 := hM _ hmf C.2.2.2.2.2.2.2.2.2.2.2.1 H.size
    have cw : CallW C.2.2.2.1 C.2.2.2.2.1 C.2.2.2.2.2.2.1 own y.cls index y cc2 nL2 ret (wsm y cc2 nL2 ret) (rmN fr2 lo2) 0 0 n := ⟨callB_of n c5 (wsm_good cb.1) rfl rfl rfl (c5 _ cb.2.1) (c5 _ hm) cb.2.2.2.2 hR, c5 _ cb.2.2.1, c5 _ cb.2.2.2.1⟩
    have pre : PreV C.2.2.2.2.1 H y.cls b (PcW C.2.2.2.2.2.2.2.2.2.2.2.1 wl tys (.ref b :: as) st H.size) as := ⟨pcw_blind, va_recv c6 hP (q0 := q0) hc he, fun U hU hW => ⟨rfl, by rw [hU], by rw [hU]; exact hP, va_K.moved hW.alike c6, hD.weaken (fun _ _ _ _ => trivial)⟩⟩
    have run := va_runV (locs := locs) (cells := 0) (slots := 0) (below := C.2.2.2.2.2.2.2.1) (meth := C.2.2.2.2.2.2.2.2.1) (e := C.2.2.1) (g := F0 C.2.2.2.2.2.1 pc ls (as.reverse ++ .ref b :: stk)) (rest := stk) ⟨c1, c2, c3, c4, c5⟩ hM1 cw pre rfl hn hl.1 rfl (lv_room hw) hd ⟨Nat.zero_le _, Nat.zero_le _⟩
    refine va_calll run hS (fun q _ h => wa_in hD hS c7 q h) (wa_in hD hS c7) (fun r1 u t H1 locs1 ht hvm hw2 hB hz1 hk1 hS1 => ?_)
    cases hw2
    obtain ⟨hP1, hK1, hD1⟩ := hB
    rw [ht] at hP1
    exact kk _ _ h H1 locs1 ls ⟨hP1, hD1.weaken (fun _ x _ hx => wa_in hD hS c7 x.1 hx), hS1⟩ hl
theorem v_callVV (pc' : Nat) (q0 : Nat) {b ci N : Nat} {fs : List Value} {T : u_T} {index nL2 n fr2 lo2 : Nat} {y : MethodName} {cc2 : ByteArray} {ret : Option FieldType} {as S : List Value} {mf : Option (Unit × Sg)} {f : Unit → Sg → Option β} (cx : Cx C tys cc own nL fr lo) (hd : decode cc pc = .ok (.invokevirtual index, 3)) (hm : Cond.methodLink own index y ∈ lwg) (cb : CaV y cc2 nL2 ret n) (he : (wl st)[q0]? = some (b, .inr (ci, fs))) (hc : vwCl[ci]? = some (y.cls, T, N)) (hM : ∀ q, mf = some q → CtV C.2.1 wl tys y cc2 nL2 ret fr2 lo2 (.ref b :: as) st q) (hn : as.length = n) (hR : fr2 + 1 ≤ fr ∧ 8 + (nL2 + 11) + lo2 ≤ lo) (hs : S = as.reverse ++ .ref b :: stk) (hw : (stk.map fun v => v.category).sum ≤ 8) (hp : pc + 3 = pc') (h : clk mf f = some o) (kk : ∀ r st', f r st' = some o → Vat C wl nL pc' lv stk st') : Vat C wl nL pc lv S st := by
  subst hp
  subst hs
  cases hmf : mf with
  | none => rw [hmf] at h; cases h
  | some q =>
    rw [hmf] at h
    obtain ⟨r, st'⟩ := q
    have h : f r st' = some o := h
    obtain ⟨c1, c2, c3, c4, c5, c6, c7, c8, c9⟩ := cx
    subst c8; subst c9
    intro H locs ls hW hl
    obtain ⟨hP, hD, hS⟩ := hW
    have hM1 := hM _ hmf C.2.2.2.2.2.2.2.2.2.2.2.1 H.size
    have cw : CallW C.2.2.2.1 C.2.2.2.2.1 C.2.2.2.2.2.2.1 own y.cls index y cc2 nL2 ret (wsm y cc2 nL2 ret) (rmN fr2 lo2) 0 0 n := ⟨callB_of n c5 (wsm_good cb.1) rfl rfl rfl (c5 _ cb.2.1) (c5 _ hm) cb.2.2.2.2 hR, c5 _ cb.2.2.1, c5 _ cb.2.2.2.1⟩
    have pre : PreV C.2.2.2.2.1 H y.cls b (PcW C.2.2.2.2.2.2.2.2.2.2.2.1 wl tys (.ref b :: as) st H.size) as := ⟨pcw_blind, va_recv c6 hP (q0 := q0) hc he, fun U hU hW => ⟨rfl, by rw [hU], by rw [hU]; exact hP, va_K.moved hW.alike c6, hD.weaken (fun _ _ _ _ => trivial)⟩⟩
    have run := va_runV (locs := locs) (cells := 0) (slots := 0) (below := C.2.2.2.2.2.2.2.1) (meth := C.2.2.2.2.2.2.2.2.1) (e := C.2.2.1) (g := F0 C.2.2.2.2.2.1 pc ls (as.reverse ++ .ref b :: stk)) (rest := stk) ⟨c1, c2, c3, c4, c5⟩ hM1 cw pre rfl hn hl.1 rfl (lv_room hw) hd ⟨Nat.zero_le _, Nat.zero_le _⟩
    refine va_callv run hS (fun q _ h => wa_in hD hS c7 q h) (wa_in hD hS c7) (fun u t H1 locs1 ht hvm hw2 hB hz1 hk1 hS1 => ?_)
    cases hw2
    obtain ⟨hP1, hK1, hD1⟩ := hB
    rw [ht] at hP1
    exact kk _ _ h H1 locs1 ls ⟨hP1, hD1.weaken (fun _ x _ hx => wa_in hD hS c7 x.1 hx), hS1⟩ hl
theorem v_callSI (pc' : Nat)  {index nL2 n fr2 lo2 : Nat} {y : MethodName} {cc2 : ByteArray} {ret : Option FieldType} {as S : List Value} {mf : Option (Int32 × Sg)} {f : Int32 → Sg → Option β} (cx : Cx C tys cc own nL fr lo) (hd : decode cc pc = .ok (.invokestatic index, 3)) (hm : Cond.methodLink own index y ∈ lwg) (cb : CaS y cc2 nL2 ret n) (hM : ∀ q, mf = some q → CtI C.2.1 wl tys y cc2 nL2 ret fr2 lo2 as st q) (hn : as.length = n) (hR : fr2 + 1 ≤ fr ∧ 8 + (nL2 + 11) + lo2 ≤ lo) (hs : S = as.reverse ++ stk) (hw : (stk.map fun v => v.category).sum ≤ 8) (hp : pc + 3 = pc') (h : clk mf f = some o) (kk : ∀ r st', f r st' = some o → Vat C wl nL pc' lv (.int r :: stk) st') : Vat C wl nL pc lv S st := by
  subst hp
  subst hs
  cases hmf : mf with
  | none => rw [hmf] at h; cases h
  | some q =>
    rw [hmf] at h
    obtain ⟨r, st'⟩ := q
    have h : f r st' = some o := h
    obtain ⟨c1, c2, c3, c4, c5, c6, c7, c8, c9⟩ := cx
    subst c8; subst c9
    intro H locs ls hW hl
    obtain ⟨hP, hD, hS⟩ := hW
    have hM1 := hM _ hmf C.2.2.2.2.2.2.2.2.2.2.2.1 H.size
    have cw : CallB C.2.2.2.1 C.2.2.2.2.1 C.2.2.2.2.2.2.1 own index y cc2 nL2 ret (wsm y cc2 nL2 ret) (rmN fr2 lo2) 0 0 n ∧ (Cond.static y).before C.2.2.2.2.2.2.1 C.2.2.2.2.1 = true := ⟨callB_of n c5 (wsm_good cb.1) rfl rfl rfl (c5 _ cb.2.1) (c5 _ hm) cb.2.2.2 hR, c5 _ cb.2.2.1⟩
    have pre : PreS C.2.2.2.2.1 H (PcW C.2.2.2.2.2.2.2.2.2.2.2.1 wl tys as st H.size) as := ⟨pcw_blind, fun U hU hW => ⟨rfl, by rw [hU], by rw [hU]; exact hP, va_K.moved hW.alike c6, hD.weaken (fun _ _ _ _ => trivial)⟩⟩
    have run := va_runS (locs := locs) (cells := 0) (slots := 0) (below := C.2.2.2.2.2.2.2.1) (meth := C.2.2.2.2.2.2.2.2.1) (e := C.2.2.1) (g := F0 C.2.2.2.2.2.1 pc ls (as.reverse ++ stk)) (rest := stk) ⟨c1, c2, c3, c4, c5⟩ hM1 cw pre rfl hn hl.1 rfl (lv_room hw) hd ⟨Nat.zero_le _, Nat.zero_le _⟩
    refine va_calli run hS (fun q _ h => wa_in hD hS c7 q h) (wa_in hD hS c7) (fun r1 u t H1 locs1 ht hvm hw2 hB hz1 hk1 hS1 => ?_)
    cases hw2
    obtain ⟨hP1, hK1, hD1⟩ := hB
    rw [ht] at hP1
    exact kk _ _ h H1 locs1 ls ⟨hP1, hD1.weaken (fun _ x _ hx => wa_in hD hS c7 x.1 hx), hS1⟩ hl
theorem v_callSL (pc' : Nat)  {index nL2 n fr2 lo2 : Nat} {y : MethodName} {cc2 : ByteArray} {ret : Option FieldType} {as S : List Value} {mf : Option (Int64 × Sg)} {f : Int64 → Sg → Option β} (cx : Cx C tys cc own nL fr lo) (hd : decode cc pc = .ok (.invokestatic index, 3)) (hm : Cond.methodLink own index y ∈ lwg) (cb : CaS y cc2 nL2 ret n) (hM : ∀ q, mf = some q → CtL C.2.1 wl tys y cc2 nL2 ret fr2 lo2 as st q) (hn : as.length = n) (hR : fr2 + 1 ≤ fr ∧ 8 + (nL2 + 11) + lo2 ≤ lo) (hs : S = as.reverse ++ stk) (hw : (stk.map fun v => v.category).sum ≤ 8) (hp : pc + 3 = pc') (h : clk mf f = some o) (kk : ∀ r st', f r st' = some o → Vat C wl nL pc' lv (.long r :: stk) st') : Vat C wl nL pc lv S st := by
  subst hp
  subst hs
  cases hmf : mf with
  | none => rw [hmf] at h; cases h
  | some q =>
    rw [hmf] at h
    obtain ⟨r, st'⟩ := q
    have h : f r st' = some o := h
    obtain ⟨c1, c2, c3, c4, c5, c6, c7, c8, c9⟩ := cx
    subst c8; subst c9
    intro H locs ls hW hl
    obtain ⟨hP, hD, hS⟩ := hW
    have hM1 := hM _ hmf C.2.2.2.2.2.2.2.2.2.2.2.1 H.size
    have cw : CallB C.2.2.2.1 C.2.2.2.2.1 C.2.2.2.2.2.2.1 own index y cc2 nL2 ret (wsm y cc2 nL2 ret) (rmN fr2 lo2) 0 0 n ∧ (Cond.static y).before C.2.2.2.2.2.2.1 C.2.2.2.2.1 = true := ⟨callB_of n c5 (wsm_good cb.1) rfl rfl rfl (c5 _ cb.2.1) (c5 _ hm) cb.2.2.2 hR, c5 _ cb.2.2.1⟩
    have pre : PreS C.2.2.2.2.1 H (PcW C.2.2.2.2.2.2.2.2.2.2.2.1 wl tys as st H.size) as := ⟨pcw_blind, fun U hU hW => ⟨rfl, by rw [hU], by rw [hU]; exact hP, va_K.moved hW.alike c6, hD.weaken (fun _ _ _ _ => trivial)⟩⟩
    have run := va_runS (locs := locs) (cells := 0) (slots := 0) (below := C.2.2.2.2.2.2.2.1) (meth := C.2.2.2.2.2.2.2.2.1) (e := C.2.2.1) (g := F0 C.2.2.2.2.2.1 pc ls (as.reverse ++ stk)) (rest := stk) ⟨c1, c2, c3, c4, c5⟩ hM1 cw pre rfl hn hl.1 rfl (lv_room hw) hd ⟨Nat.zero_le _, Nat.zero_le _⟩
    refine va_calll run hS (fun q _ h => wa_in hD hS c7 q h) (wa_in hD hS c7) (fun r1 u t H1 locs1 ht hvm hw2 hB hz1 hk1 hS1 => ?_)
    cases hw2
    obtain ⟨hP1, hK1, hD1⟩ := hB
    rw [ht] at hP1
    exact kk _ _ h H1 locs1 ls ⟨hP1, hD1.weaken (fun _ x _ hx => wa_in hD hS c7 x.1 hx), hS1⟩ hl
theorem v_callSV (pc' : Nat)  {index nL2 n fr2 lo2 : Nat} {y : MethodName} {cc2 : ByteArray} {ret : Option FieldType} {as S : List Value} {mf : Option (Unit × Sg)} {f : Unit → Sg → Option β} (cx : Cx C tys cc own nL fr lo) (hd : decode cc pc = .ok (.invokestatic index, 3)) (hm : Cond.methodLink own index y ∈ lwg) (cb : CaS y cc2 nL2 ret n) (hM : ∀ q, mf = some q → CtV C.2.1 wl tys y cc2 nL2 ret fr2 lo2 as st q) (hn : as.length = n) (hR : fr2 + 1 ≤ fr ∧ 8 + (nL2 + 11) + lo2 ≤ lo) (hs : S = as.reverse ++ stk) (hw : (stk.map fun v => v.category).sum ≤ 8) (hp : pc + 3 = pc') (h : clk mf f = some o) (kk : ∀ r st', f r st' = some o → Vat C wl nL pc' lv stk st') : Vat C wl nL pc lv S st := by
  subst hp
  subst hs
  cases hmf : mf with
  | none => rw [hmf] at h; cases h
  | some q =>
    rw [hmf] at h
    obtain ⟨r, st'⟩ := q
    have h : f r st' = some o := h
    obtain ⟨c1, c2, c3, c4, c5, c6, c7, c8, c9⟩ := cx
    subst c8; subst c9
    intro H locs ls hW hl
    obtain ⟨hP, hD, hS⟩ := hW
    have hM1 := hM _ hmf C.2.2.2.2.2.2.2.2.2.2.2.1 H.size
    have cw : CallB C.2.2.2.1 C.2.2.2.2.1 C.2.2.2.2.2.2.1 own index y cc2 nL2 ret (wsm y cc2 nL2 ret) (rmN fr2 lo2) 0 0 n ∧ (Cond.static y).before C.2.2.2.2.2.2.1 C.2.2.2.2.1 = true := ⟨callB_of n c5 (wsm_good cb.1) rfl rfl rfl (c5 _ cb.2.1) (c5 _ hm) cb.2.2.2 hR, c5 _ cb.2.2.1⟩
    have pre : PreS C.2.2.2.2.1 H (PcW C.2.2.2.2.2.2.2.2.2.2.2.1 wl tys as st H.size) as := ⟨pcw_blind, fun U hU hW => ⟨rfl, by rw [hU], by rw [hU]; exact hP, va_K.moved hW.alike c6, hD.weaken (fun _ _ _ _ => trivial)⟩⟩
    have run := va_runS (locs := locs) (cells := 0) (slots := 0) (below := C.2.2.2.2.2.2.2.1) (meth := C.2.2.2.2.2.2.2.2.1) (e := C.2.2.1) (g := F0 C.2.2.2.2.2.1 pc ls (as.reverse ++ stk)) (rest := stk) ⟨c1, c2, c3, c4, c5⟩ hM1 cw pre rfl hn hl.1 rfl (lv_room hw) hd ⟨Nat.zero_le _, Nat.zero_le _⟩
    refine va_callv run hS (fun q _ h => wa_in hD hS c7 q h) (wa_in hD hS c7) (fun u t H1 locs1 ht hvm hw2 hB hz1 hk1 hS1 => ?_)
    cases hw2
    obtain ⟨hP1, hK1, hD1⟩ := hB
    rw [ht] at hP1
    exact kk _ _ h H1 locs1 ls ⟨hP1, hD1.weaken (fun _ x _ hx => wa_in hD hS c7 x.1 hx), hS1⟩ hl
end VC
section VE
variable {wl : Sg → va_W} {nL fr lo : Nat} {st : Sg} {tys : List (ClassId × FieldType)} {cc : ByteArray} {y : MethodName} {as : List Value} {lv0 : List (Nat × Value)}
/-- the end of a method, with o -/
def ReI (C : Cm) (wl : Sg → va_W) (cc : ByteArray) (nL : Nat) (o : Int32 × Sg) : Prop := ∀ (pc : Nat) (lv : List (Nat × Value)) (v : Int32) (st : Sg), (v, st) = o → decode cc pc = .ok (.ireturn, 1) → Vat C wl nL pc lv [.int v] st
theorem ctI_of {l : Launch} {o : Int32 × Sg} (hy : plainName y.cls = true) (hlv : lv_args 0 as = lv0) (hle : (lg_sl as).length ≤ nL) (body : ∀ C : Cm, C.2.1 = l → Cx C tys cc y.cls nL fr lo → ReI C wl cc nL o → Vat C wl nL 0 lv0 [] st) : CtI l wl tys y cc nL (some .int) fr lo as st o := by
  intro D sz
  refine Met.ofW (cc := cc) (maxL := nL) (ret := (some .int)) hy rfl ?_
  intro p e s m args below meth c s₁ B hml hv
  obtain ⟨rfl, hsz, hP, hK, hD0⟩ := hv
  have hx := B.exec
  have hb := B.bytes
  have hr := B.returns
  have hts0 := atoms_spec (ws := wsm y cc nL (some .int)) B.pre
  have hts : ∀ w ∈ lwg, w.before as.toArray s = true := fun w h => hts0 w (List.mem_cons_of_mem _ h)
  have hown : s.vm.findClass y.cls = some m.cls := findClass_of_methodNamed B.named
  have hlocks := B.notSynchronized
  subst hsz
  have hD := hD0.self (sz := s.heap.size)
  have hl := lv_entry as (n := nL) hle
  rw [hlv] at hl
  rw [lg_entry_eq]
  refine body (p, l, e, (headSpec (wsm y cc nL (some .int)) (rmN fr lo)).room, s, m, as.toArray, below, meth, c, _, D, va_A (wl st) s.heap.size) rfl ⟨hx, hb, hml, hown, hts, hK, fun q h => Or.inr h, rfl, rfl⟩ ?_ s.heap [] _ ⟨hP, hD, va_S.rf⟩ hl
  intro pc lv v st1 heq hd H locs ls hW hl1
  obtain ⟨hP1, hD1, hS1⟩ := hW
  refine W.iret (v := v) hx hb hr (fun t ht hWa => ?_) hS1.2.2 hd
  have PW : PoW D wl tys (va_A (wl st) s.heap.size) st1 t := ⟨by rw [ht]; exact hP1, va_K.moved hWa.alike hK, hD1⟩
  exact ⟨⟨v, st1, rfl, heq, PW⟩, hS1.F ht⟩
/-- the end of a method, with o -/
def ReZ (C : Cm) (wl : Sg → va_W) (cc : ByteArray) (nL : Nat) (o : Int32 × Sg) : Prop := ∀ (pc : Nat) (lv : List (Nat × Value)) (v : Int32) (st : Sg), (v, st) = o → (v = 0 ∨ v = 1) → decode cc pc = .ok (.ireturn, 1) → Vat C wl nL pc lv [.int v] st
theorem ctZ_of {l : Launch} {o : Int32 × Sg} (hy : plainName y.cls = true) (hlv : lv_args 0 as = lv0) (hle : (lg_sl as).length ≤ nL) (body : ∀ C : Cm, C.2.1 = l → Cx C tys cc y.cls nL fr lo → ReZ C wl cc nL o → Vat C wl nL 0 lv0 [] st) : CtI l wl tys y cc nL (some .boolean) fr lo as st o := by
  intro D sz
  refine Met.ofW (cc := cc) (maxL := nL) (ret := (some .boolean)) hy rfl ?_
  intro p e s m args below meth c s₁ B hml hv
  obtain ⟨rfl, hsz, hP, hK, hD0⟩ := hv
  have hx := B.exec
  have hb := B.bytes
  have hr := B.returns
  have hts0 := atoms_spec (ws := wsm y cc nL (some .boolean)) B.pre
  have hts : ∀ w ∈ lwg, w.before as.toArray s = true := fun w h => hts0 w (List.mem_cons_of_mem _ h)
  have hown : s.vm.findClass y.cls = some m.cls := findClass_of_methodNamed B.named
  have hlocks := B.notSynchronized
  subst hsz
  have hD := hD0.self (sz := s.heap.size)
  have hl := lv_entry as (n := nL) hle
  rw [hlv] at hl
  rw [lg_entry_eq]
  refine body (p, l, e, (headSpec (wsm y cc nL (some .boolean)) (rmN fr lo)).room, s, m, as.toArray, below, meth, c, _, D, va_A (wl st) s.heap.size) rfl ⟨hx, hb, hml, hown, hts, hK, fun q h => Or.inr h, rfl, rfl⟩ ?_ s.heap [] _ ⟨hP, hD, va_S.rf⟩ hl
  intro pc lv v st1 heq hz hd H locs ls hW hl1
  obtain ⟨hP1, hD1, hS1⟩ := hW
  refine W.zret (v := v) hx hb hr (by rcases hz with e | e <;> subst e <;> rfl) (fun t ht hWa => ?_) hS1.2.2 hd
  have PW : PoW D wl tys (va_A (wl st) s.heap.size) st1 t := ⟨by rw [ht]; exact hP1, va_K.moved hWa.alike hK, hD1⟩
  exact ⟨⟨v, st1, rfl, heq, PW⟩, hS1.F ht⟩
/-- the end of a method, with o -/
def ReL (C : Cm) (wl : Sg → va_W) (cc : ByteArray) (nL : Nat) (o : Int64 × Sg) : Prop := ∀ (pc : Nat) (lv : List (Nat × Value)) (v : Int64) (st : Sg), (v, st) = o → decode cc pc = .ok (.lreturn, 1) → Vat C wl nL pc lv [.long v] st
theorem ctL_of {l : Launch} {o : Int64 × Sg} (hy : plainName y.cls = true) (hlv : lv_args 0 as = lv0) (hle : (lg_sl as).length ≤ nL) (body : ∀ C : Cm, C.2.1 = l → Cx C tys cc y.cls nL fr lo → ReL C wl cc nL o → Vat C wl nL 0 lv0 [] st) : CtL l wl tys y cc nL (some .long) fr lo as st o := by
  intro D sz
  refine Met.ofW (cc := cc) (maxL := nL) (ret := (some .long)) hy rfl ?_
  intro p e s m args below meth c s₁ B hml hv
  obtain ⟨rfl, hsz, hP, hK, hD0⟩ := hv
  have hx := B.exec
  have hb := B.bytes
  have hr := B.returns
  have hts0 := atoms_spec (ws := wsm y cc nL (some .long)) B.pre
  have hts : ∀ w ∈ lwg, w.before as.toArray s = true := fun w h => hts0 w (List.mem_cons_of_mem _ h)
  have hown : s.vm.findClass y.cls = some m.cls := findClass_of_methodNamed B.named
  have hlocks := B.notSynchronized
  subst hsz
  have hD := hD0.self (sz := s.heap.size)
  have hl := lv_entry as (n := nL) hle
  rw [hlv] at hl
  rw [lg_entry_eq]
  refine body (p, l, e, (headSpec (wsm y cc nL (some .long)) (rmN fr lo)).room, s, m, as.toArray, below, meth, c, _, D, va_A (wl st) s.heap.size) rfl ⟨hx, hb, hml, hown, hts, hK, fun q h => Or.inr h, rfl, rfl⟩ ?_ s.heap [] _ ⟨hP, hD, va_S.rf⟩ hl
  intro pc lv v st1 heq hd H locs ls hW hl1
  obtain ⟨hP1, hD1, hS1⟩ := hW
  refine W.lret (v := v) hx hb hr (fun t ht hWa => ?_) hS1.2.2 hd
  have PW : PoW D wl tys (va_A (wl st) s.heap.size) st1 t := ⟨by rw [ht]; exact hP1, va_K.moved hWa.alike hK, hD1⟩
  exact ⟨⟨v, st1, rfl, heq, PW⟩, hS1.F ht⟩
/-- the end of a method, with o -/
def ReV (C : Cm) (wl : Sg → va_W) (cc : ByteArray) (nL : Nat) (o : Unit × Sg) : Prop := ∀ (pc : Nat) (lv : List (Nat × Value)) (v : Unit) (st : Sg), (v, st) = o → decode cc pc = .ok (.return_, 1) → Vat C wl nL pc lv [] st
theorem ctV_of {l : Launch} {o : Unit × Sg} (hy : plainName y.cls = true) (hlv : lv_args 0 as = lv0) (hle : (lg_sl as).length ≤ nL) (body : ∀ C : Cm, C.2.1 = l → Cx C tys cc y.cls nL fr lo → ReV C wl cc nL o → Vat C wl nL 0 lv0 [] st) : CtV l wl tys y cc nL none fr lo as st o := by
  intro D sz
  refine Met.ofW (cc := cc) (maxL := nL) (ret := none) hy rfl ?_
  intro p e s m args below meth c s₁ B hml hv
  obtain ⟨rfl, hsz, hP, hK, hD0⟩ := hv
  have hx := B.exec
  have hb := B.bytes
  have hr := B.returns
  have hts0 := atoms_spec (ws := wsm y cc nL none) B.pre
  have hts : ∀ w ∈ lwg, w.before as.toArray s = true := fun w h => hts0 w (List.mem_cons_of_mem _ h)
  have hown : s.vm.findClass y.cls = some m.cls := findClass_of_methodNamed B.named
  have hlocks := B.notSynchronized
  subst hsz
  have hD := hD0.self (sz := s.heap.size)
  have hl := lv_entry as (n := nL) hle
  rw [hlv] at hl
  rw [lg_entry_eq]
  refine body (p, l, e, (headSpec (wsm y cc nL none) (rmN fr lo)).room, s, m, as.toArray, below, meth, c, _, D, va_A (wl st) s.heap.size) rfl ⟨hx, hb, hml, hown, hts, hK, fun q h => Or.inr h, rfl, rfl⟩ ?_ s.heap [] _ ⟨hP, hD, va_S.rf⟩ hl
  intro pc lv v st1 heq hd H locs ls hW hl1
  obtain ⟨hP1, hD1, hS1⟩ := hW
  refine W.vret hx hb hr (fun t ht hWa => ?_) hS1.2.2 hd
  have PW : PoW D wl tys (va_A (wl st) s.heap.size) st1 t := ⟨by rw [ht]; exact hP1, va_K.moved hWa.alike hK, hD1⟩
  exact ⟨⟨st1, rfl, heq, PW⟩, hS1.F ht⟩
end VE
end
