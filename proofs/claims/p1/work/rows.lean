section
-- ===== PART A: goes FIRST, ahead of the names: the tables' words, and 'selects' of the private methods out of them =====
/-- a private method of a class that the tables say can be made, by its rows of tables_1 -/
def lw_okq (q : MethodName × Nat) : Prop := (q.1.cls ≠ "java/lang/invoke/MethodHandle" ∧ q.1.cls ≠ "java/lang/invoke/VarHandle") ∧ Cond.instantiable q.1.cls q.2 ∈ tables_1 ∧ Cond.privateMethod q.1 ∈ tables_1 ∧ Cond.instanceMethod q.1 ∈ tables_1
theorem lw_p0 : lw_okq (⟨"BagTree", "lowerBound", "()I"⟩, 8) := ⟨⟨by decide +kernel, by decide +kernel⟩, List.mem_of_getElem? (i := 16) (by decide +kernel), List.mem_of_getElem? (i := 392) (by decide +kernel), List.mem_of_getElem? (i := 393) (by decide +kernel)⟩
theorem lw_p1 : lw_okq (⟨"BagTree$Search", "netFits", "(LBagTree$Net;I)Z"⟩, 4) := ⟨⟨by decide +kernel, by decide +kernel⟩, List.mem_of_getElem? (i := 369) (by decide +kernel), List.mem_of_getElem? (i := 401) (by decide +kernel), List.mem_of_getElem? (i := 402) (by decide +kernel)⟩
theorem lw_p2 : lw_okq (⟨"BagTree$Search", "fits", "(I)Z"⟩, 4) := ⟨⟨by decide +kernel, by decide +kernel⟩, List.mem_of_getElem? (i := 369) (by decide +kernel), List.mem_of_getElem? (i := 409) (by decide +kernel), List.mem_of_getElem? (i := 410) (by decide +kernel)⟩
theorem lw_p3 : lw_okq (⟨"BagTree$Going", "isNearlyJoined", "(I)Z"⟩, 3) := ⟨⟨by decide +kernel, by decide +kernel⟩, List.mem_of_getElem? (i := 131) (by decide +kernel), List.mem_of_getElem? (i := 417) (by decide +kernel), List.mem_of_getElem? (i := 418) (by decide +kernel)⟩
theorem lw_p4 : lw_okq (⟨"BagTree$Search", "isStuck", "(I)Z"⟩, 4) := ⟨⟨by decide +kernel, by decide +kernel⟩, List.mem_of_getElem? (i := 369) (by decide +kernel), List.mem_of_getElem? (i := 424) (by decide +kernel), List.mem_of_getElem? (i := 425) (by decide +kernel)⟩
theorem lw_p5 : lw_okq (⟨"BagTree$Search", "fitsBehind", "(LBagTree$Going;II)Z"⟩, 4) := ⟨⟨by decide +kernel, by decide +kernel⟩, List.mem_of_getElem? (i := 369) (by decide +kernel), List.mem_of_getElem? (i := 428) (by decide +kernel), List.mem_of_getElem? (i := 429) (by decide +kernel)⟩
theorem lw_p6 : lw_okq (⟨"BagTree$Bags", "looseEdge", "(LBagTree$Net;)I"⟩, 3) := ⟨⟨by decide +kernel, by decide +kernel⟩, List.mem_of_getElem? (i := 80) (by decide +kernel), List.mem_of_getElem? (i := 483) (by decide +kernel), List.mem_of_getElem? (i := 484) (by decide +kernel)⟩
theorem lw_p7 : lw_okq (⟨"BagTree$Bags", "holdTogether", "(I)Z"⟩, 3) := ⟨⟨by decide +kernel, by decide +kernel⟩, List.mem_of_getElem? (i := 80) (by decide +kernel), List.mem_of_getElem? (i := 488) (by decide +kernel), List.mem_of_getElem? (i := 489) (by decide +kernel)⟩
theorem lw_p8 : lw_okq (⟨"BagTree$Bags", "missingKnot", "(LBagTree$Net;)I"⟩, 3) := ⟨⟨by decide +kernel, by decide +kernel⟩, List.mem_of_getElem? (i := 80) (by decide +kernel), List.mem_of_getElem? (i := 492) (by decide +kernel), List.mem_of_getElem? (i := 493) (by decide +kernel)⟩
theorem lw_p9 : lw_okq (⟨"BagTree$Bags", "scatteredKnot", "(LBagTree$Net;)I"⟩, 3) := ⟨⟨by decide +kernel, by decide +kernel⟩, List.mem_of_getElem? (i := 80) (by decide +kernel), List.mem_of_getElem? (i := 496) (by decide +kernel), List.mem_of_getElem? (i := 497) (by decide +kernel)⟩
theorem lw_p10 : lw_okq (⟨"BagTree", "isSound", "()Z"⟩, 8) := ⟨⟨by decide +kernel, by decide +kernel⟩, List.mem_of_getElem? (i := 16) (by decide +kernel), List.mem_of_getElem? (i := 514) (by decide +kernel), List.mem_of_getElem? (i := 515) (by decide +kernel)⟩
theorem lw_p11 : lw_okq (⟨"BagTree$Net", "reached", "(II)I"⟩, 5) := ⟨⟨by decide +kernel, by decide +kernel⟩, List.mem_of_getElem? (i := 24) (by decide +kernel), List.mem_of_getElem? (i := 522) (by decide +kernel), List.mem_of_getElem? (i := 523) (by decide +kernel)⟩
theorem lw_p12 : lw_okq (⟨"BagTree", "canAsk", "()Z"⟩, 8) := ⟨⟨by decide +kernel, by decide +kernel⟩, List.mem_of_getElem? (i := 16) (by decide +kernel), List.mem_of_getElem? (i := 563) (by decide +kernel), List.mem_of_getElem? (i := 564) (by decide +kernel)⟩
theorem lw_p13 : lw_okq (⟨"BagTree", "freshTally", "()LBagTree$Tally;"⟩, 8) := ⟨⟨by decide +kernel, by decide +kernel⟩, List.mem_of_getElem? (i := 16) (by decide +kernel), List.mem_of_getElem? (i := 568) (by decide +kernel), List.mem_of_getElem? (i := 569) (by decide +kernel)⟩
theorem lw_p14 : lw_okq (⟨"BagTree$Plan", "mostJoined", "(I)I"⟩, 11) := ⟨⟨by decide +kernel, by decide +kernel⟩, List.mem_of_getElem? (i := 153) (by decide +kernel), List.mem_of_getElem? (i := 641) (by decide +kernel), List.mem_of_getElem? (i := 642) (by decide +kernel)⟩
theorem lw_p15 : lw_okq (⟨"BagTree$Plan", "takeStep", "(I)V"⟩, 11) := ⟨⟨by decide +kernel, by decide +kernel⟩, List.mem_of_getElem? (i := 153) (by decide +kernel), List.mem_of_getElem? (i := 648) (by decide +kernel), List.mem_of_getElem? (i := 649) (by decide +kernel)⟩
def lw_privs_1 : List (MethodName × Nat) := [(⟨"BagTree", "lowerBound", "()I"⟩, 8), (⟨"BagTree$Search", "netFits", "(LBagTree$Net;I)Z"⟩, 4), (⟨"BagTree$Search", "fits", "(I)Z"⟩, 4), (⟨"BagTree$Going", "isNearlyJoined", "(I)Z"⟩, 3), (⟨"BagTree$Search", "isStuck", "(I)Z"⟩, 4), (⟨"BagTree$Search", "fitsBehind", "(LBagTree$Going;II)Z"⟩, 4), (⟨"BagTree$Bags", "looseEdge", "(LBagTree$Net;)I"⟩, 3), (⟨"BagTree$Bags", "holdTogether", "(I)Z"⟩, 3), (⟨"BagTree$Bags", "missingKnot", "(LBagTree$Net;)I"⟩, 3), (⟨"BagTree$Bags", "scatteredKnot", "(LBagTree$Net;)I"⟩, 3), (⟨"BagTree", "isSound", "()Z"⟩, 8), (⟨"BagTree$Net", "reached", "(II)I"⟩, 5), (⟨"BagTree", "canAsk", "()Z"⟩, 8), (⟨"BagTree", "freshTally", "()LBagTree$Tally;"⟩, 8), (⟨"BagTree$Plan", "mostJoined", "(I)I"⟩, 11), (⟨"BagTree$Plan", "takeStep", "(I)V"⟩, 11)]
theorem lw_r1 : ∀ q ∈ lw_privs_1, lw_okq q := List.forall_mem_cons.mpr ⟨lw_p0, List.forall_mem_cons.mpr ⟨lw_p1, List.forall_mem_cons.mpr ⟨lw_p2, List.forall_mem_cons.mpr ⟨lw_p3, List.forall_mem_cons.mpr ⟨lw_p4, List.forall_mem_cons.mpr ⟨lw_p5, List.forall_mem_cons.mpr ⟨lw_p6, List.forall_mem_cons.mpr ⟨lw_p7, List.forall_mem_cons.mpr ⟨lw_p8, List.forall_mem_cons.mpr ⟨lw_p9, List.forall_mem_cons.mpr ⟨lw_p10, List.forall_mem_cons.mpr ⟨lw_p11, List.forall_mem_cons.mpr ⟨lw_p12, List.forall_mem_cons.mpr ⟨lw_p13, List.forall_mem_cons.mpr ⟨lw_p14, List.forall_mem_cons.mpr ⟨lw_p15, fun _ h => absurd h List.not_mem_nil⟩⟩⟩⟩⟩⟩⟩⟩⟩⟩⟩⟩⟩⟩⟩⟩
theorem lw_p16 : lw_okq (⟨"BagTree$Tally", "sweepAgain", "()V"⟩, 17) := ⟨⟨by decide +kernel, by decide +kernel⟩, List.mem_of_getElem? (i := 572) (by decide +kernel), List.mem_of_getElem? (i := 669) (by decide +kernel), List.mem_of_getElem? (i := 670) (by decide +kernel)⟩
theorem lw_p17 : lw_okq (⟨"BagTree$Tally", "listOpenStates", "(I)V"⟩, 17) := ⟨⟨by decide +kernel, by decide +kernel⟩, List.mem_of_getElem? (i := 572) (by decide +kernel), List.mem_of_getElem? (i := 674) (by decide +kernel), List.mem_of_getElem? (i := 675) (by decide +kernel)⟩
theorem lw_p18 : lw_okq (⟨"BagTree$Tally", "fillTable", "(I)V"⟩, 17) := ⟨⟨by decide +kernel, by decide +kernel⟩, List.mem_of_getElem? (i := 572) (by decide +kernel), List.mem_of_getElem? (i := 678) (by decide +kernel), List.mem_of_getElem? (i := 679) (by decide +kernel)⟩
theorem lw_p19 : lw_okq (⟨"BagTree$Tally", "fillEntry", "(II)V"⟩, 17) := ⟨⟨by decide +kernel, by decide +kernel⟩, List.mem_of_getElem? (i := 572) (by decide +kernel), List.mem_of_getElem? (i := 682) (by decide +kernel), List.mem_of_getElem? (i := 683) (by decide +kernel)⟩
theorem lw_p20 : lw_okq (⟨"BagTree$Tally", "addEdges", "(II)Z"⟩, 17) := ⟨⟨by decide +kernel, by decide +kernel⟩, List.mem_of_getElem? (i := 572) (by decide +kernel), List.mem_of_getElem? (i := 686) (by decide +kernel), List.mem_of_getElem? (i := 687) (by decide +kernel)⟩
theorem lw_p21 : lw_okq (⟨"BagTree$Tally", "pickedState", "(I)I"⟩, 17) := ⟨⟨by decide +kernel, by decide +kernel⟩, List.mem_of_getElem? (i := 572) (by decide +kernel), List.mem_of_getElem? (i := 690) (by decide +kernel), List.mem_of_getElem? (i := 691) (by decide +kernel)⟩
theorem lw_p22 : lw_okq (⟨"BagTree$Tally", "addTables", "(I)I"⟩, 17) := ⟨⟨by decide +kernel, by decide +kernel⟩, List.mem_of_getElem? (i := 572) (by decide +kernel), List.mem_of_getElem? (i := 694) (by decide +kernel), List.mem_of_getElem? (i := 695) (by decide +kernel)⟩
theorem lw_p23 : lw_okq (⟨"BagTree$Tally", "entryOf", "(I)I"⟩, 17) := ⟨⟨by decide +kernel, by decide +kernel⟩, List.mem_of_getElem? (i := 572) (by decide +kernel), List.mem_of_getElem? (i := 698) (by decide +kernel), List.mem_of_getElem? (i := 699) (by decide +kernel)⟩
theorem lw_p24 : lw_okq (⟨"BagTree$Tally", "pickNext", "(I)V"⟩, 17) := ⟨⟨by decide +kernel, by decide +kernel⟩, List.mem_of_getElem? (i := 572) (by decide +kernel), List.mem_of_getElem? (i := 702) (by decide +kernel), List.mem_of_getElem? (i := 703) (by decide +kernel)⟩
theorem lw_p25 : lw_okq (⟨"BagTree$Tally", "settle", "(I)I"⟩, 17) := ⟨⟨by decide +kernel, by decide +kernel⟩, List.mem_of_getElem? (i := 572) (by decide +kernel), List.mem_of_getElem? (i := 726) (by decide +kernel), List.mem_of_getElem? (i := 727) (by decide +kernel)⟩
theorem lw_p26 : lw_okq (⟨"BagTreeModel", "isWeight", "(I)Z"⟩, 23) := ⟨⟨by decide +kernel, by decide +kernel⟩, List.mem_of_getElem? (i := 742) (by decide +kernel), List.mem_of_getElem? (i := 822) (by decide +kernel), List.mem_of_getElem? (i := 823) (by decide +kernel)⟩
theorem lw_p27 : lw_okq (⟨"BagTreeModel", "isKnot", "(I)Z"⟩, 23) := ⟨⟨by decide +kernel, by decide +kernel⟩, List.mem_of_getElem? (i := 742) (by decide +kernel), List.mem_of_getElem? (i := 830) (by decide +kernel), List.mem_of_getElem? (i := 831) (by decide +kernel)⟩
theorem lw_p28 : lw_okq (⟨"BagTreeModel", "isEdge", "(II)Z"⟩, 23) := ⟨⟨by decide +kernel, by decide +kernel⟩, List.mem_of_getElem? (i := 742) (by decide +kernel), List.mem_of_getElem? (i := 838) (by decide +kernel), List.mem_of_getElem? (i := 839) (by decide +kernel)⟩
theorem lw_p29 : lw_okq (⟨"BagTreeModel", "rowMask", "()I"⟩, 23) := ⟨⟨by decide +kernel, by decide +kernel⟩, List.mem_of_getElem? (i := 742) (by decide +kernel), List.mem_of_getElem? (i := 858) (by decide +kernel), List.mem_of_getElem? (i := 859) (by decide +kernel)⟩
theorem lw_p30 : lw_okq (⟨"BagTreeModel", "isOrder", "()Z"⟩, 23) := ⟨⟨by decide +kernel, by decide +kernel⟩, List.mem_of_getElem? (i := 742) (by decide +kernel), List.mem_of_getElem? (i := 874) (by decide +kernel), List.mem_of_getElem? (i := 875) (by decide +kernel)⟩
theorem lw_p31 : lw_okq (⟨"BagTreeModel", "around", "(II)I"⟩, 23) := ⟨⟨by decide +kernel, by decide +kernel⟩, List.mem_of_getElem? (i := 742) (by decide +kernel), List.mem_of_getElem? (i := 878) (by decide +kernel), List.mem_of_getElem? (i := 879) (by decide +kernel)⟩
def lw_privs_2 : List (MethodName × Nat) := [(⟨"BagTree$Tally", "sweepAgain", "()V"⟩, 17), (⟨"BagTree$Tally", "listOpenStates", "(I)V"⟩, 17), (⟨"BagTree$Tally", "fillTable", "(I)V"⟩, 17), (⟨"BagTree$Tally", "fillEntry", "(II)V"⟩, 17), (⟨"BagTree$Tally", "addEdges", "(II)Z"⟩, 17), (⟨"BagTree$Tally", "pickedState", "(I)I"⟩, 17), (⟨"BagTree$Tally", "addTables", "(I)I"⟩, 17), (⟨"BagTree$Tally", "entryOf", "(I)I"⟩, 17), (⟨"BagTree$Tally", "pickNext", "(I)V"⟩, 17), (⟨"BagTree$Tally", "settle", "(I)I"⟩, 17), (⟨"BagTreeModel", "isWeight", "(I)Z"⟩, 23), (⟨"BagTreeModel", "isKnot", "(I)Z"⟩, 23), (⟨"BagTreeModel", "isEdge", "(II)Z"⟩, 23), (⟨"BagTreeModel", "rowMask", "()I"⟩, 23), (⟨"BagTreeModel", "isOrder", "()Z"⟩, 23), (⟨"BagTreeModel", "around", "(II)I"⟩, 23)]
theorem lw_r2 : ∀ q ∈ lw_privs_2, lw_okq q := List.forall_mem_cons.mpr ⟨lw_p16, List.forall_mem_cons.mpr ⟨lw_p17, List.forall_mem_cons.mpr ⟨lw_p18, List.forall_mem_cons.mpr ⟨lw_p19, List.forall_mem_cons.mpr ⟨lw_p20, List.forall_mem_cons.mpr ⟨lw_p21, List.forall_mem_cons.mpr ⟨lw_p22, List.forall_mem_cons.mpr ⟨lw_p23, List.forall_mem_cons.mpr ⟨lw_p24, List.forall_mem_cons.mpr ⟨lw_p25, List.forall_mem_cons.mpr ⟨lw_p26, List.forall_mem_cons.mpr ⟨lw_p27, List.forall_mem_cons.mpr ⟨lw_p28, List.forall_mem_cons.mpr ⟨lw_p29, List.forall_mem_cons.mpr ⟨lw_p30, List.forall_mem_cons.mpr ⟨lw_p31, fun _ h => absurd h List.not_mem_nil⟩⟩⟩⟩⟩⟩⟩⟩⟩⟩⟩⟩⟩⟩⟩⟩
theorem lw_p32 : lw_okq (⟨"BagTreeModel", "bits", "(I)I"⟩, 23) := ⟨⟨by decide +kernel, by decide +kernel⟩, List.mem_of_getElem? (i := 742) (by decide +kernel), List.mem_of_getElem? (i := 886) (by decide +kernel), List.mem_of_getElem? (i := 887) (by decide +kernel)⟩
theorem lw_p33 : lw_okq (⟨"BagTreeModel", "rowWidth", "()I"⟩, 23) := ⟨⟨by decide +kernel, by decide +kernel⟩, List.mem_of_getElem? (i := 742) (by decide +kernel), List.mem_of_getElem? (i := 898) (by decide +kernel), List.mem_of_getElem? (i := 899) (by decide +kernel)⟩
theorem lw_p34 : lw_okq (⟨"BagTreeModel", "all", "()I"⟩, 23) := ⟨⟨by decide +kernel, by decide +kernel⟩, List.mem_of_getElem? (i := 742) (by decide +kernel), List.mem_of_getElem? (i := 906) (by decide +kernel), List.mem_of_getElem? (i := 907) (by decide +kernel)⟩
theorem lw_p35 : lw_okq (⟨"BagTreeModel", "inOne", "(I)Z"⟩, 23) := ⟨⟨by decide +kernel, by decide +kernel⟩, List.mem_of_getElem? (i := 742) (by decide +kernel), List.mem_of_getElem? (i := 934) (by decide +kernel), List.mem_of_getElem? (i := 935) (by decide +kernel)⟩
theorem lw_p36 : lw_okq (⟨"BagTreeModel", "isState", "(I)Z"⟩, 23) := ⟨⟨by decide +kernel, by decide +kernel⟩, List.mem_of_getElem? (i := 742) (by decide +kernel), List.mem_of_getElem? (i := 952) (by decide +kernel), List.mem_of_getElem? (i := 953) (by decide +kernel)⟩
theorem lw_p37 : lw_okq (⟨"BagTreeModel", "isFactor", "(I)Z"⟩, 23) := ⟨⟨by decide +kernel, by decide +kernel⟩, List.mem_of_getElem? (i := 742) (by decide +kernel), List.mem_of_getElem? (i := 956) (by decide +kernel), List.mem_of_getElem? (i := 957) (by decide +kernel)⟩
theorem lw_p38 : lw_okq (⟨"BagTreeModel", "isAsked", "()Z"⟩, 23) := ⟨⟨by decide +kernel, by decide +kernel⟩, List.mem_of_getElem? (i := 742) (by decide +kernel), List.mem_of_getElem? (i := 972) (by decide +kernel), List.mem_of_getElem? (i := 973) (by decide +kernel)⟩
theorem lw_p39 : lw_okq (⟨"BagTreeModel", "free", "()V"⟩, 23) := ⟨⟨by decide +kernel, by decide +kernel⟩, List.mem_of_getElem? (i := 742) (by decide +kernel), List.mem_of_getElem? (i := 977) (by decide +kernel), List.mem_of_getElem? (i := 978) (by decide +kernel)⟩
theorem lw_p40 : lw_okq (⟨"BagTreeModel", "ask", "(Z)V"⟩, 23) := ⟨⟨by decide +kernel, by decide +kernel⟩, List.mem_of_getElem? (i := 742) (by decide +kernel), List.mem_of_getElem? (i := 981) (by decide +kernel), List.mem_of_getElem? (i := 982) (by decide +kernel)⟩
theorem lw_p41 : lw_okq (⟨"BagTreeModel", "take", "(II)Z"⟩, 23) := ⟨⟨by decide +kernel, by decide +kernel⟩, List.mem_of_getElem? (i := 742) (by decide +kernel), List.mem_of_getElem? (i := 985) (by decide +kernel), List.mem_of_getElem? (i := 986) (by decide +kernel)⟩
theorem lw_p42 : lw_okq (⟨"BagTreeModel", "mayBe", "(II)Z"⟩, 23) := ⟨⟨by decide +kernel, by decide +kernel⟩, List.mem_of_getElem? (i := 742) (by decide +kernel), List.mem_of_getElem? (i := 989) (by decide +kernel), List.mem_of_getElem? (i := 990) (by decide +kernel)⟩
theorem lw_p43 : lw_okq (⟨"BagTreeModel", "own", "(I)J"⟩, 23) := ⟨⟨by decide +kernel, by decide +kernel⟩, List.mem_of_getElem? (i := 742) (by decide +kernel), List.mem_of_getElem? (i := 993) (by decide +kernel), List.mem_of_getElem? (i := 994) (by decide +kernel)⟩
theorem lw_p44 : lw_okq (⟨"BagTreeModel", "isFirst", "(II)Z"⟩, 23) := ⟨⟨by decide +kernel, by decide +kernel⟩, List.mem_of_getElem? (i := 742) (by decide +kernel), List.mem_of_getElem? (i := 997) (by decide +kernel), List.mem_of_getElem? (i := 998) (by decide +kernel)⟩
theorem lw_p45 : lw_okq (⟨"BagTreeModel", "code", "(I)I"⟩, 23) := ⟨⟨by decide +kernel, by decide +kernel⟩, List.mem_of_getElem? (i := 742) (by decide +kernel), List.mem_of_getElem? (i := 1001) (by decide +kernel), List.mem_of_getElem? (i := 1002) (by decide +kernel)⟩
theorem lw_p46 : lw_okq (⟨"BagTreeModel", "put", "(IJJJZ)V"⟩, 23) := ⟨⟨by decide +kernel, by decide +kernel⟩, List.mem_of_getElem? (i := 742) (by decide +kernel), List.mem_of_getElem? (i := 1005) (by decide +kernel), List.mem_of_getElem? (i := 1006) (by decide +kernel)⟩
def lw_privs_3 : List (MethodName × Nat) := [(⟨"BagTreeModel", "bits", "(I)I"⟩, 23), (⟨"BagTreeModel", "rowWidth", "()I"⟩, 23), (⟨"BagTreeModel", "all", "()I"⟩, 23), (⟨"BagTreeModel", "inOne", "(I)Z"⟩, 23), (⟨"BagTreeModel", "isState", "(I)Z"⟩, 23), (⟨"BagTreeModel", "isFactor", "(I)Z"⟩, 23), (⟨"BagTreeModel", "isAsked", "()Z"⟩, 23), (⟨"BagTreeModel", "free", "()V"⟩, 23), (⟨"BagTreeModel", "ask", "(Z)V"⟩, 23), (⟨"BagTreeModel", "take", "(II)Z"⟩, 23), (⟨"BagTreeModel", "mayBe", "(II)Z"⟩, 23), (⟨"BagTreeModel", "own", "(I)J"⟩, 23), (⟨"BagTreeModel", "isFirst", "(II)Z"⟩, 23), (⟨"BagTreeModel", "code", "(I)I"⟩, 23), (⟨"BagTreeModel", "put", "(IJJJZ)V"⟩, 23)]
theorem lw_r3 : ∀ q ∈ lw_privs_3, lw_okq q := List.forall_mem_cons.mpr ⟨lw_p32, List.forall_mem_cons.mpr ⟨lw_p33, List.forall_mem_cons.mpr ⟨lw_p34, List.forall_mem_cons.mpr ⟨lw_p35, List.forall_mem_cons.mpr ⟨lw_p36, List.forall_mem_cons.mpr ⟨lw_p37, List.forall_mem_cons.mpr ⟨lw_p38, List.forall_mem_cons.mpr ⟨lw_p39, List.forall_mem_cons.mpr ⟨lw_p40, List.forall_mem_cons.mpr ⟨lw_p41, List.forall_mem_cons.mpr ⟨lw_p42, List.forall_mem_cons.mpr ⟨lw_p43, List.forall_mem_cons.mpr ⟨lw_p44, List.forall_mem_cons.mpr ⟨lw_p45, List.forall_mem_cons.mpr ⟨lw_p46, fun _ h => absurd h List.not_mem_nil⟩⟩⟩⟩⟩⟩⟩⟩⟩⟩⟩⟩⟩⟩⟩
def lw_privs : List (MethodName × Nat) := lw_privs_1 ++ (lw_privs_2 ++ (lw_privs_3))
def lw_tbl : List Cond := k2_sels lw_privs ++ tables_1
theorem lw_privs_ok : ∀ q ∈ lw_privs, lw_okq q := by
  show ∀ q ∈ lw_privs_1 ++ (lw_privs_2 ++ (lw_privs_3)), lw_okq q
  exact List.forall_mem_append.mpr ⟨lw_r1, List.forall_mem_append.mpr ⟨lw_r2, lw_r3⟩⟩
end
section
def RX0 : String := "BagTree$Bags"
def TX0 : u_T := fun k => match k with
  | 0 => ("BagTree$Bags", "masks", "[I", true)
  | 1 => ("BagTree$Bags", "ups", "[I", true)
  | _ => ("BagTree$Bags", "size", "I", false)
def tyX0 : Nat → FieldType := fun k => match k with
  | 0 => .array .int
  | 1 => .array .int
  | _ => .int
abbrev wsX00 : List Cond := u_ws RX0 TX0 3
theorem nmX0 : ∀ a, a < 3 → ∀ b, b < 3 → a ≠ b → (TX0 a).2.1 ≠ (TX0 b).2.1 := by decide +kernel
theorem tyX0_ok : ∀ k, k < 3 → parseFieldDescriptor (TX0 k).2.2.1 = some (tyX0 k) := by decide +kernel
abbrev cX0_init : ByteArray := prog_2_method_1_code
def yX0_init : MethodName := ⟨RX0, "<init>", "()V"⟩
abbrev cX0_has : ByteArray := prog_2_method_2_code
def yX0_has : MethodName := ⟨RX0, "has", "(I)Z"⟩
abbrev cX0_empty : ByteArray := prog_2_method_3_code
def yX0_empty : MethodName := ⟨RX0, "empty", "()V"⟩
abbrev cX0_append : ByteArray := prog_2_method_4_code
def yX0_append : MethodName := ⟨RX0, "append", "(I)I"⟩
abbrev cX0_takeApart : ByteArray := prog_2_method_5_code
def yX0_takeApart : MethodName := ⟨RX0, "takeApart", "(LBagTree$KnotRow;LBagTree$Going;)V"⟩
abbrev cX0_mostKnots : ByteArray := prog_2_method_6_code
def yX0_mostKnots : MethodName := ⟨RX0, "mostKnots", "()I"⟩
abbrev cX0_hangingOn : ByteArray := prog_2_method_7_code
def yX0_hangingOn : MethodName := ⟨RX0, "hangingOn", "(I)I"⟩
abbrev cX0_endingIn : ByteArray := prog_2_method_8_code
def yX0_endingIn : MethodName := ⟨RX0, "endingIn", "(I)I"⟩
abbrev cX0_matesOf : ByteArray := prog_2_method_9_code
def yX0_matesOf : MethodName := ⟨RX0, "matesOf", "(I)I"⟩
abbrev cX0_fault : ByteArray := prog_2_method_10_code
def yX0_fault : MethodName := ⟨RX0, "fault", "(LBagTree$Net;)I"⟩
abbrev cX0_looseEdge : ByteArray := prog_2_method_11_code
def yX0_looseEdge : MethodName := ⟨RX0, "looseEdge", "(LBagTree$Net;)I"⟩
abbrev cX0_holdTogether : ByteArray := prog_2_method_12_code
def yX0_holdTogether : MethodName := ⟨RX0, "holdTogether", "(I)Z"⟩
abbrev cX0_missingKnot : ByteArray := prog_2_method_13_code
def yX0_missingKnot : MethodName := ⟨RX0, "missingKnot", "(LBagTree$Net;)I"⟩
abbrev cX0_scatteredKnot : ByteArray := prog_2_method_14_code
def yX0_scatteredKnot : MethodName := ⟨RX0, "scatteredKnot", "(LBagTree$Net;)I"⟩
def RX1 : String := "BagTree$Going"
def TX1 : u_T := fun k => match k with
  | 0 => ("BagTree$Going", "near", "[I", true)
  | 1 => ("BagTree$Going", "left", "I", false)
  | _ => ("BagTree$Going", "newEnds", "I", false)
def tyX1 : Nat → FieldType := fun k => match k with
  | 0 => .array .int
  | 1 => .int
  | _ => .int
abbrev wsX10 : List Cond := u_ws RX1 TX1 3
theorem nmX1 : ∀ a, a < 3 → ∀ b, b < 3 → a ≠ b → (TX1 a).2.1 ≠ (TX1 b).2.1 := by decide +kernel
theorem tyX1_ok : ∀ k, k < 3 → parseFieldDescriptor (TX1 k).2.2.1 = some (tyX1 k) := by decide +kernel
abbrev cX1_init : ByteArray := prog_3_method_1_code
def yX1_init : MethodName := ⟨RX1, "<init>", "()V"⟩
abbrev cX1_start : ByteArray := prog_3_method_2_code
def yX1_start : MethodName := ⟨RX1, "start", "(LBagTree$Net;)V"⟩
abbrev cX1_startAs : ByteArray := prog_3_method_3_code
def yX1_startAs : MethodName := ⟨RX1, "startAs", "(LBagTree$Going;)V"⟩
abbrev cX1_letGo : ByteArray := prog_3_method_4_code
def yX1_letGo : MethodName := ⟨RX1, "letGo", "(I)V"⟩
abbrev cX1_takeAway : ByteArray := prog_3_method_5_code
def yX1_takeAway : MethodName := ⟨RX1, "takeAway", "(I)V"⟩
abbrev cX1_loneliest : ByteArray := prog_3_method_6_code
def yX1_loneliest : MethodName := ⟨RX1, "loneliest", "()I"⟩
abbrev cX1_harmless : ByteArray := prog_3_method_7_code
def yX1_harmless : MethodName := ⟨RX1, "harmless", "(I)I"⟩
abbrev cX1_isNearlyJoined : ByteArray := prog_3_method_8_code
def yX1_isNearlyJoined : MethodName := ⟨RX1, "isNearlyJoined", "(I)Z"⟩
def RX2 : String := "BagTree$KnotRow"
def TX2 : u_T := fun k => match k with
  | 0 => ("BagTree$KnotRow", "knots", "[I", true)
  | 1 => ("BagTree$KnotRow", "size", "I", false)
  | _ => ("BagTree$KnotRow", "held", "I", false)
def tyX2 : Nat → FieldType := fun k => match k with
  | 0 => .array .int
  | 1 => .int
  | _ => .int
abbrev wsX20 : List Cond := u_ws RX2 TX2 3
theorem nmX2 : ∀ a, a < 3 → ∀ b, b < 3 → a ≠ b → (TX2 a).2.1 ≠ (TX2 b).2.1 := by decide +kernel
theorem tyX2_ok : ∀ k, k < 3 → parseFieldDescriptor (TX2 k).2.2.1 = some (tyX2 k) := by decide +kernel
abbrev cX2_init : ByteArray := prog_4_method_1_code
def yX2_init : MethodName := ⟨RX2, "<init>", "()V"⟩
abbrev cX2_holds : ByteArray := prog_4_method_2_code
def yX2_holds : MethodName := ⟨RX2, "holds", "(I)Z"⟩
abbrev cX2_append : ByteArray := prog_4_method_3_code
def yX2_append : MethodName := ⟨RX2, "append", "(I)V"⟩
abbrev cX2_empty : ByteArray := prog_4_method_4_code
def yX2_empty : MethodName := ⟨RX2, "empty", "()V"⟩
abbrev cX2_nextPlace : ByteArray := prog_4_method_5_code
def yX2_nextPlace : MethodName := ⟨RX2, "nextPlace", "(II)I"⟩
def RX3 : String := "BagTree$Law"
def TX3 : u_T := fun k => match k with
  | 0 => ("BagTree$Law", "size", "I", false)
  | 1 => ("BagTree$Law", "factors", "[I", true)
  | 2 => ("BagTree$Law", "pairFactors", "[I", true)
  | 3 => ("BagTree$Law", "barred", "[Z", true)
  | _ => ("BagTree$Law", "forbidden", "[I", true)
def tyX3 : Nat → FieldType := fun k => match k with
  | 0 => .int
  | 1 => .array .int
  | 2 => .array .int
  | 3 => .array .boolean
  | _ => .array .int
abbrev wsX30 : List Cond := u_ws RX3 TX3 5
theorem nmX3 : ∀ a, a < 5 → ∀ b, b < 5 → a ≠ b → (TX3 a).2.1 ≠ (TX3 b).2.1 := by decide +kernel
theorem tyX3_ok : ∀ k, k < 5 → parseFieldDescriptor (TX3 k).2.2.1 = some (tyX3 k) := by decide +kernel
abbrev cX3_init : ByteArray := prog_5_method_1_code
def yX3_init : MethodName := ⟨RX3, "<init>", "()V"⟩
abbrev cX3_has : ByteArray := prog_5_method_2_code
def yX3_has : MethodName := ⟨RX3, "has", "(I)Z"⟩
abbrev cX3_startAgain : ByteArray := prog_5_method_3_code
def yX3_startAgain : MethodName := ⟨RX3, "startAgain", "(I)V"⟩
abbrev cX3_setPair : ByteArray := prog_5_method_4_code
def yX3_setPair : MethodName := ⟨RX3, "setPair", "(IIZI)V"⟩
abbrev cX3_openFor : ByteArray := prog_5_method_5_code
def yX3_openFor : MethodName := ⟨RX3, "openFor", "(I)I"⟩
def RX4 : String := "BagTree$Net"
def TX4 : u_T := fun k => match k with
  | 0 => ("BagTree$Net", "loads", "[I", true)
  | 1 => ("BagTree$Net", "near", "[I", true)
  | 2 => ("BagTree$Net", "ties", "[I", true)
  | 3 => ("BagTree$Net", "size", "I", false)
  | _ => ("BagTree$Net", "edges", "I", false)
def tyX4 : Nat → FieldType := fun k => match k with
  | 0 => .array .int
  | 1 => .array .int
  | 2 => .array .int
  | 3 => .int
  | _ => .int
abbrev wsX40 : List Cond := u_ws RX4 TX4 5
theorem nmX4 : ∀ a, a < 5 → ∀ b, b < 5 → a ≠ b → (TX4 a).2.1 ≠ (TX4 b).2.1 := by decide +kernel
theorem tyX4_ok : ∀ k, k < 5 → parseFieldDescriptor (TX4 k).2.2.1 = some (tyX4 k) := by decide +kernel
abbrev cX4_init : ByteArray := prog_6_method_1_code
def yX4_init : MethodName := ⟨RX4, "<init>", "()V"⟩
abbrev cX4_has : ByteArray := prog_6_method_2_code
def yX4_has : MethodName := ⟨RX4, "has", "(I)Z"⟩
abbrev cX4_everyKnot : ByteArray := prog_6_method_3_code
def yX4_everyKnot : MethodName := ⟨RX4, "everyKnot", "()I"⟩
abbrev cX4_joined : ByteArray := prog_6_method_4_code
def yX4_joined : MethodName := ⟨RX4, "joined", "(II)Z"⟩
abbrev cX4_addKnot : ByteArray := prog_6_method_5_code
def yX4_addKnot : MethodName := ⟨RX4, "addKnot", "(I)I"⟩
abbrev cX4_join : ByteArray := prog_6_method_6_code
def yX4_join : MethodName := ⟨RX4, "join", "(III)Z"⟩
abbrev cX4_part : ByteArray := prog_6_method_7_code
def yX4_part : MethodName := ⟨RX4, "part", "(II)I"⟩
abbrev cX4_largestPart : ByteArray := prog_6_method_8_code
def yX4_largestPart : MethodName := ⟨RX4, "largestPart", "(I)I"⟩
abbrev cX4_reached : ByteArray := prog_6_method_9_code
def yX4_reached : MethodName := ⟨RX4, "reached", "(II)I"⟩
def RX5 : String := "BagTree$Plan"
def TX5 : u_T := fun k => match k with
  | 0 => ("BagTree$Plan", "knots", "[I", true)
  | 1 => ("BagTree$Plan", "others", "[I", true)
  | 2 => ("BagTree$Plan", "otherCount", "[I", true)
  | 3 => ("BagTree$Plan", "scopes", "[I", true)
  | 4 => ("BagTree$Plan", "users", "[I", true)
  | 5 => ("BagTree$Plan", "feeders", "[I", true)
  | 6 => ("BagTree$Plan", "feederCount", "[I", true)
  | 7 => ("BagTree$Plan", "size", "I", false)
  | 8 => ("BagTree$Plan", "places", "[I", true)
  | 9 => ("BagTree$Plan", "bagMates", "[I", true)
  | _ => ("BagTree$Plan", "going", "LBagTree$Going;", true)
def tyX5 : Nat → FieldType := fun k => match k with
  | 0 => .array .int
  | 1 => .array .int
  | 2 => .array .int
  | 3 => .array .int
  | 4 => .array .int
  | 5 => .array .int
  | 6 => .array .int
  | 7 => .int
  | 8 => .array .int
  | 9 => .array .int
  | _ => .object "BagTree$Going"
abbrev wsX50 : List Cond := u_ws RX5 TX5 11
theorem nmX5 : ∀ a, a < 11 → ∀ b, b < 11 → a ≠ b → (TX5 a).2.1 ≠ (TX5 b).2.1 := by decide +kernel
theorem tyX5_ok : ∀ k, k < 11 → parseFieldDescriptor (TX5 k).2.2.1 = some (tyX5 k) := by decide +kernel
abbrev cX5_init : ByteArray := prog_7_method_1_code
def yX5_init : MethodName := ⟨RX5, "<init>", "()V"⟩
abbrev cX5_lay : ByteArray := prog_7_method_2_code
def yX5_lay : MethodName := ⟨RX5, "lay", "(LBagTree$Net;LBagTree$Bags;)V"⟩
abbrev cX5_mostJoined : ByteArray := prog_7_method_3_code
def yX5_mostJoined : MethodName := ⟨RX5, "mostJoined", "(I)I"⟩
abbrev cX5_takeStep : ByteArray := prog_7_method_4_code
def yX5_takeStep : MethodName := ⟨RX5, "takeStep", "(I)V"⟩
def RX6 : String := "BagTree$Search"
def TX6 : u_T := fun k => match k with
  | 0 => ("BagTree$Search", "rest", "LBagTree$Going;", true)
  | 1 => ("BagTree$Search", "levels", "[LBagTree$Going;", true)
  | 2 => ("BagTree$Search", "stuck", "[J", true)
  | _ => ("BagTree$Search", "limit", "I", false)
def tyX6 : Nat → FieldType := fun k => match k with
  | 0 => .object "BagTree$Going"
  | 1 => .array (.object "BagTree$Going")
  | 2 => .array .long
  | _ => .int
abbrev wsX60 : List Cond := u_ws RX6 TX6 4
theorem nmX6 : ∀ a, a < 4 → ∀ b, b < 4 → a ≠ b → (TX6 a).2.1 ≠ (TX6 b).2.1 := by decide +kernel
theorem tyX6_ok : ∀ k, k < 4 → parseFieldDescriptor (TX6 k).2.2.1 = some (tyX6 k) := by decide +kernel
abbrev cX6_init : ByteArray := prog_8_method_1_code
def yX6_init : MethodName := ⟨RX6, "<init>", "()V"⟩
abbrev cX6_bestOrder : ByteArray := prog_8_method_2_code
def yX6_bestOrder : MethodName := ⟨RX6, "bestOrder", "(LBagTree$Net;LBagTree$KnotRow;I)I"⟩
abbrev cX6_netFits : ByteArray := prog_8_method_3_code
def yX6_netFits : MethodName := ⟨RX6, "netFits", "(LBagTree$Net;I)Z"⟩
abbrev cX6_fitsBehind : ByteArray := prog_8_method_4_code
def yX6_fitsBehind : MethodName := ⟨RX6, "fitsBehind", "(LBagTree$Going;II)Z"⟩
abbrev cX6_fits : ByteArray := prog_8_method_5_code
def yX6_fits : MethodName := ⟨RX6, "fits", "(I)Z"⟩
abbrev cX6_isStuck : ByteArray := prog_8_method_6_code
def yX6_isStuck : MethodName := ⟨RX6, "isStuck", "(I)Z"⟩
def RX7 : String := "BagTree$Tally"
def TX7 : u_T := fun k => match k with
  | 0 => ("BagTree$Tally", "open", "[I", true)
  | 1 => ("BagTree$Tally", "sum", "I", false)
  | 2 => ("BagTree$Tally", "many", "I", false)
  | 3 => ("BagTree$Tally", "net", "LBagTree$Net;", true)
  | 4 => ("BagTree$Tally", "law", "LBagTree$Law;", true)
  | 5 => ("BagTree$Tally", "plan", "LBagTree$Plan;", true)
  | 6 => ("BagTree$Tally", "openStates", "[I", true)
  | 7 => ("BagTree$Tally", "openCount", "[I", true)
  | 8 => ("BagTree$Tally", "picks", "[I", true)
  | 9 => ("BagTree$Tally", "strides", "[I", true)
  | 10 => ("BagTree$Tally", "sums", "[I", true)
  | 11 => ("BagTree$Tally", "counts", "[I", true)
  | 12 => ("BagTree$Tally", "sign", "I", false)
  | 13 => ("BagTree$Tally", "changed", "I", false)
  | 14 => ("BagTree$Tally", "pickedSum", "I", false)
  | 15 => ("BagTree$Tally", "aim", "I", false)
  | _ => ("BagTree$Tally", "before", "J", false)
def tyX7 : Nat → FieldType := fun k => match k with
  | 0 => .array .int
  | 1 => .int
  | 2 => .int
  | 3 => .object "BagTree$Net"
  | 4 => .object "BagTree$Law"
  | 5 => .object "BagTree$Plan"
  | 6 => .array .int
  | 7 => .array .int
  | 8 => .array .int
  | 9 => .array .int
  | 10 => .array .int
  | 11 => .array .int
  | 12 => .int
  | 13 => .int
  | 14 => .int
  | 15 => .int
  | _ => .long
abbrev wsX70 : List Cond := u_ws RX7 TX7 17
theorem nmX7 : ∀ a, a < 17 → ∀ b, b < 17 → a ≠ b → (TX7 a).2.1 ≠ (TX7 b).2.1 := by decide +kernel
theorem tyX7_ok : ∀ k, k < 17 → parseFieldDescriptor (TX7 k).2.2.1 = some (tyX7 k) := by decide +kernel
abbrev cX7_init : ByteArray := prog_9_method_1_code
def yX7_init : MethodName := ⟨RX7, "<init>", "(LBagTree$Net;LBagTree$Law;LBagTree$Plan;)V"⟩
abbrev cX7_openAll : ByteArray := prog_9_method_2_code
def yX7_openAll : MethodName := ⟨RX7, "openAll", "()V"⟩
abbrev cX7_sweep : ByteArray := prog_9_method_3_code
def yX7_sweep : MethodName := ⟨RX7, "sweep", "(I)V"⟩
abbrev cX7_sweepAgain : ByteArray := prog_9_method_4_code
def yX7_sweepAgain : MethodName := ⟨RX7, "sweepAgain", "()V"⟩
abbrev cX7_stateInWay : ByteArray := prog_9_method_5_code
def yX7_stateInWay : MethodName := ⟨RX7, "stateInWay", "(IJI)I"⟩
abbrev cX7_settle : ByteArray := prog_9_method_6_code
def yX7_settle : MethodName := ⟨RX7, "settle", "(I)I"⟩
abbrev cX7_listOpenStates : ByteArray := prog_9_method_7_code
def yX7_listOpenStates : MethodName := ⟨RX7, "listOpenStates", "(I)V"⟩
abbrev cX7_fillTable : ByteArray := prog_9_method_8_code
def yX7_fillTable : MethodName := ⟨RX7, "fillTable", "(I)V"⟩
abbrev cX7_pickNext : ByteArray := prog_9_method_9_code
def yX7_pickNext : MethodName := ⟨RX7, "pickNext", "(I)V"⟩
abbrev cX7_fillEntry : ByteArray := prog_9_method_10_code
def yX7_fillEntry : MethodName := ⟨RX7, "fillEntry", "(II)V"⟩
abbrev cX7_addEdges : ByteArray := prog_9_method_11_code
def yX7_addEdges : MethodName := ⟨RX7, "addEdges", "(II)Z"⟩
abbrev cX7_pickedState : ByteArray := prog_9_method_12_code
def yX7_pickedState : MethodName := ⟨RX7, "pickedState", "(I)I"⟩
abbrev cX7_addTables : ByteArray := prog_9_method_13_code
def yX7_addTables : MethodName := ⟨RX7, "addTables", "(I)I"⟩
abbrev cX7_entryOf : ByteArray := prog_9_method_14_code
def yX7_entryOf : MethodName := ⟨RX7, "entryOf", "(I)I"⟩
def RX8 : String := "BagTree"
def TX8 : u_T := fun k => match k with
  | 0 => ("BagTree", "net", "LBagTree$Net;", true)
  | 1 => ("BagTree", "order", "LBagTree$KnotRow;", true)
  | 2 => ("BagTree", "bags", "LBagTree$Bags;", true)
  | 3 => ("BagTree", "law", "LBagTree$Law;", true)
  | 4 => ("BagTree", "going", "LBagTree$Going;", true)
  | 5 => ("BagTree", "plan", "LBagTree$Plan;", true)
  | 6 => ("BagTree", "search", "LBagTree$Search;", false)
  | _ => ("BagTree", "tally", "LBagTree$Tally;", false)
def tyX8 : Nat → FieldType := fun k => match k with
  | 0 => .object "BagTree$Net"
  | 1 => .object "BagTree$KnotRow"
  | 2 => .object "BagTree$Bags"
  | 3 => .object "BagTree$Law"
  | 4 => .object "BagTree$Going"
  | 5 => .object "BagTree$Plan"
  | 6 => .object "BagTree$Search"
  | _ => .object "BagTree$Tally"
abbrev wsX80 : List Cond := u_ws RX8 TX8 8
theorem nmX8 : ∀ a, a < 8 → ∀ b, b < 8 → a ≠ b → (TX8 a).2.1 ≠ (TX8 b).2.1 := by decide +kernel
theorem tyX8_ok : ∀ k, k < 8 → parseFieldDescriptor (TX8 k).2.2.1 = some (tyX8 k) := by decide +kernel
abbrev cX8_init : ByteArray := prog_1_method_1_code
def yX8_init : MethodName := ⟨RX8, "<init>", "()V"⟩
abbrev cX8_knot : ByteArray := prog_1_method_2_code
def yX8_knot : MethodName := ⟨RX8, "knot", "(I)I"⟩
abbrev cX8_edge : ByteArray := prog_1_method_3_code
def yX8_edge : MethodName := ⟨RX8, "edge", "(III)I"⟩
abbrev cX8_cut : ByteArray := prog_1_method_4_code
def yX8_cut : MethodName := ⟨RX8, "cut", "(II)I"⟩
abbrev cX8_weigh : ByteArray := prog_1_method_5_code
def yX8_weigh : MethodName := ⟨RX8, "weigh", "(II)I"⟩
abbrev cX8_weight : ByteArray := prog_1_method_6_code
def yX8_weight : MethodName := ⟨RX8, "weight", "(II)I"⟩
abbrev cX8_beside : ByteArray := prog_1_method_7_code
def yX8_beside : MethodName := ⟨RX8, "beside", "(I)I"⟩
abbrev cX8_put : ByteArray := prog_1_method_8_code
def yX8_put : MethodName := ⟨RX8, "put", "(I)I"⟩
abbrev cX8_wipe : ByteArray := prog_1_method_9_code
def yX8_wipe : MethodName := ⟨RX8, "wipe", "()I"⟩
abbrev cX8_make : ByteArray := prog_1_method_10_code
def yX8_make : MethodName := ⟨RX8, "make", "()I"⟩
abbrev cX8_fills : ByteArray := prog_1_method_11_code
def yX8_fills : MethodName := ⟨RX8, "fills", "()I"⟩
abbrev cX8_fewest : ByteArray := prog_1_method_12_code
def yX8_fewest : MethodName := ⟨RX8, "fewest", "()I"⟩
abbrev cX8_least : ByteArray := prog_1_method_13_code
def yX8_least : MethodName := ⟨RX8, "least", "()I"⟩
abbrev cX8_row : ByteArray := prog_1_method_14_code
def yX8_row : MethodName := ⟨RX8, "row", "(I)I"⟩
abbrev cX8_below : ByteArray := prog_1_method_15_code
def yX8_below : MethodName := ⟨RX8, "below", "()I"⟩
abbrev cX8_clear : ByteArray := prog_1_method_16_code
def yX8_clear : MethodName := ⟨RX8, "clear", "()I"⟩
abbrev cX8_bag : ByteArray := prog_1_method_17_code
def yX8_bag : MethodName := ⟨RX8, "bag", "(I)I"⟩
abbrev cX8_hang : ByteArray := prog_1_method_18_code
def yX8_hang : MethodName := ⟨RX8, "hang", "(II)I"⟩
abbrev cX8_bagged : ByteArray := prog_1_method_19_code
def yX8_bagged : MethodName := ⟨RX8, "bagged", "(II)I"⟩
abbrev cX8_sound : ByteArray := prog_1_method_20_code
def yX8_sound : MethodName := ⟨RX8, "sound", "()I"⟩
abbrev cX8_width : ByteArray := prog_1_method_21_code
def yX8_width : MethodName := ⟨RX8, "width", "()I"⟩
abbrev cX8_separator : ByteArray := prog_1_method_22_code
def yX8_separator : MethodName := ⟨RX8, "separator", "()I"⟩
abbrev cX8_states : ByteArray := prog_1_method_23_code
def yX8_states : MethodName := ⟨RX8, "states", "(I)I"⟩
abbrev cX8_factor : ByteArray := prog_1_method_24_code
def yX8_factor : MethodName := ⟨RX8, "factor", "(II)I"⟩
abbrev cX8_pair : ByteArray := prog_1_method_25_code
def yX8_pair : MethodName := ⟨RX8, "pair", "(IIII)I"⟩
abbrev cX8_forbid : ByteArray := prog_1_method_26_code
def yX8_forbid : MethodName := ⟨RX8, "forbid", "(II)I"⟩
abbrev cX8_ways : ByteArray := prog_1_method_27_code
def yX8_ways : MethodName := ⟨RX8, "ways", "()J"⟩
abbrev cX8_best : ByteArray := prog_1_method_28_code
def yX8_best : MethodName := ⟨RX8, "best", "(Z)J"⟩
abbrev cX8_bests : ByteArray := prog_1_method_29_code
def yX8_bests : MethodName := ⟨RX8, "bests", "(Z)J"⟩
abbrev cX8_choice : ByteArray := prog_1_method_30_code
def yX8_choice : MethodName := ⟨RX8, "choice", "(ZI)I"⟩
abbrev cX8_drawn : ByteArray := prog_1_method_31_code
def yX8_drawn : MethodName := ⟨RX8, "drawn", "(JI)I"⟩
abbrev cX8_share : ByteArray := prog_1_method_32_code
def yX8_share : MethodName := ⟨RX8, "share", "(II)J"⟩
abbrev cX8_count : ByteArray := prog_1_method_33_code
def yX8_count : MethodName := ⟨RX8, "count", "(I)I"⟩
abbrev cX8_isWeight : ByteArray := prog_1_method_34_code
def yX8_isWeight : MethodName := ⟨RX8, "isWeight", "(I)Z"⟩
abbrev cX8_isFactor : ByteArray := prog_1_method_35_code
def yX8_isFactor : MethodName := ⟨RX8, "isFactor", "(I)Z"⟩
abbrev cX8_signOf : ByteArray := prog_1_method_36_code
def yX8_signOf : MethodName := ⟨RX8, "signOf", "(Z)I"⟩
abbrev cX8_hasBit : ByteArray := prog_1_method_37_code
def yX8_hasBit : MethodName := ⟨RX8, "hasBit", "(II)Z"⟩
abbrev cX8_isSound : ByteArray := prog_1_method_38_code
def yX8_isSound : MethodName := ⟨RX8, "isSound", "()Z"⟩
abbrev cX8_canAsk : ByteArray := prog_1_method_39_code
def yX8_canAsk : MethodName := ⟨RX8, "canAsk", "()Z"⟩
abbrev cX8_freshTally : ByteArray := prog_1_method_40_code
def yX8_freshTally : MethodName := ⟨RX8, "freshTally", "()LBagTree$Tally;"⟩
abbrev cX8_lowerBound : ByteArray := prog_1_method_41_code
def yX8_lowerBound : MethodName := ⟨RX8, "lowerBound", "()I"⟩
def RX9 : String := "BagTreeModel"
def TX9 : u_T := fun k => match k with
  | 0 => ("BagTreeModel", "knots", "I", false)
  | 1 => ("BagTreeModel", "weight", "[I", true)
  | 2 => ("BagTreeModel", "beside", "[I", true)
  | 3 => ("BagTreeModel", "edge", "[I", true)
  | 4 => ("BagTreeModel", "rowed", "I", false)
  | 5 => ("BagTreeModel", "row", "[I", true)
  | 6 => ("BagTreeModel", "bags", "I", false)
  | 7 => ("BagTreeModel", "bag", "[I", true)
  | 8 => ("BagTreeModel", "up", "[I", true)
  | 9 => ("BagTreeModel", "least", "[I", true)
  | 10 => ("BagTreeModel", "q", "I", false)
  | 11 => ("BagTreeModel", "factor", "[I", true)
  | 12 => ("BagTreeModel", "pairFactor", "[I", true)
  | 13 => ("BagTreeModel", "forbidden", "[I", true)
  | 14 => ("BagTreeModel", "mayNot", "[Z", true)
  | 15 => ("BagTreeModel", "fixed", "[I", true)
  | 16 => ("BagTreeModel", "state", "[I", true)
  | 17 => ("BagTreeModel", "count", "[J", true)
  | 18 => ("BagTreeModel", "best", "[J", true)
  | 19 => ("BagTreeModel", "bests", "[J", true)
  | 20 => ("BagTreeModel", "allCount", "J", false)
  | 21 => ("BagTreeModel", "allBest", "J", false)
  | _ => ("BagTreeModel", "allBests", "J", false)
def tyX9 : Nat → FieldType := fun k => match k with
  | 0 => .int
  | 1 => .array .int
  | 2 => .array .int
  | 3 => .array .int
  | 4 => .int
  | 5 => .array .int
  | 6 => .int
  | 7 => .array .int
  | 8 => .array .int
  | 9 => .array .int
  | 10 => .int
  | 11 => .array .int
  | 12 => .array .int
  | 13 => .array .int
  | 14 => .array .boolean
  | 15 => .array .int
  | 16 => .array .int
  | 17 => .array .long
  | 18 => .array .long
  | 19 => .array .long
  | 20 => .long
  | 21 => .long
  | _ => .long
abbrev wsX90 : List Cond := u_ws RX9 TX9 23
theorem nmX9 : ∀ a, a < 23 → ∀ b, b < 23 → a ≠ b → (TX9 a).2.1 ≠ (TX9 b).2.1 := by decide +kernel
theorem tyX9_ok : ∀ k, k < 23 → parseFieldDescriptor (TX9 k).2.2.1 = some (tyX9 k) := by decide +kernel
abbrev cX9_init : ByteArray := prog_11_method_1_code
def yX9_init : MethodName := ⟨RX9, "<init>", "()V"⟩
abbrev cX9_isKnot : ByteArray := prog_11_method_2_code
def yX9_isKnot : MethodName := ⟨RX9, "isKnot", "(I)Z"⟩
abbrev cX9_isWeight : ByteArray := prog_11_method_3_code
def yX9_isWeight : MethodName := ⟨RX9, "isWeight", "(I)Z"⟩
abbrev cX9_all : ByteArray := prog_11_method_4_code
def yX9_all : MethodName := ⟨RX9, "all", "()I"⟩
abbrev cX9_bits : ByteArray := prog_11_method_5_code
def yX9_bits : MethodName := ⟨RX9, "bits", "(I)I"⟩
abbrev cX9_knot : ByteArray := prog_11_method_6_code
def yX9_knot : MethodName := ⟨RX9, "knot", "(I)I"⟩
abbrev cX9_edge : ByteArray := prog_11_method_7_code
def yX9_edge : MethodName := ⟨RX9, "edge", "(III)I"⟩
abbrev cX9_isEdge : ByteArray := prog_11_method_8_code
def yX9_isEdge : MethodName := ⟨RX9, "isEdge", "(II)Z"⟩
abbrev cX9_cut : ByteArray := prog_11_method_9_code
def yX9_cut : MethodName := ⟨RX9, "cut", "(II)I"⟩
abbrev cX9_weigh : ByteArray := prog_11_method_10_code
def yX9_weigh : MethodName := ⟨RX9, "weigh", "(II)I"⟩
abbrev cX9_weight : ByteArray := prog_11_method_11_code
def yX9_weight : MethodName := ⟨RX9, "weight", "(II)I"⟩
abbrev cX9_beside : ByteArray := prog_11_method_12_code
def yX9_beside : MethodName := ⟨RX9, "beside", "(I)I"⟩
abbrev cX9_rowMask : ByteArray := prog_11_method_13_code
def yX9_rowMask : MethodName := ⟨RX9, "rowMask", "()I"⟩
abbrev cX9_put : ByteArray := prog_11_method_14_code
def yX9_put : MethodName := ⟨RX9, "put", "(I)I"⟩
abbrev cX9_wipe : ByteArray := prog_11_method_15_code
def yX9_wipe : MethodName := ⟨RX9, "wipe", "()I"⟩
abbrev cX9_row : ByteArray := prog_11_method_16_code
def yX9_row : MethodName := ⟨RX9, "row", "(I)I"⟩
abbrev cX9_around : ByteArray := prog_11_method_17_code
def yX9_around : MethodName := ⟨RX9, "around", "(II)I"⟩
abbrev cX9_isOrder : ByteArray := prog_11_method_18_code
def yX9_isOrder : MethodName := ⟨RX9, "isOrder", "()Z"⟩
abbrev cX9_rowWidth : ByteArray := prog_11_method_19_code
def yX9_rowWidth : MethodName := ⟨RX9, "rowWidth", "()I"⟩
abbrev cX9_make : ByteArray := prog_11_method_20_code
def yX9_make : MethodName := ⟨RX9, "make", "()I"⟩
abbrev cX9_fills : ByteArray := prog_11_method_21_code
def yX9_fills : MethodName := ⟨RX9, "fills", "()I"⟩
abbrev cX9_fewest : ByteArray := prog_11_method_22_code
def yX9_fewest : MethodName := ⟨RX9, "fewest", "()I"⟩
abbrev cX9_least : ByteArray := prog_11_method_23_code
def yX9_least : MethodName := ⟨RX9, "least", "()I"⟩
abbrev cX9_below : ByteArray := prog_11_method_24_code
def yX9_below : MethodName := ⟨RX9, "below", "()I"⟩
abbrev cX9_clear : ByteArray := prog_11_method_25_code
def yX9_clear : MethodName := ⟨RX9, "clear", "()I"⟩
abbrev cX9_bag : ByteArray := prog_11_method_26_code
def yX9_bag : MethodName := ⟨RX9, "bag", "(I)I"⟩
abbrev cX9_hang : ByteArray := prog_11_method_27_code
def yX9_hang : MethodName := ⟨RX9, "hang", "(II)I"⟩
abbrev cX9_bagged : ByteArray := prog_11_method_28_code
def yX9_bagged : MethodName := ⟨RX9, "bagged", "(II)I"⟩
abbrev cX9_inOne : ByteArray := prog_11_method_29_code
def yX9_inOne : MethodName := ⟨RX9, "inOne", "(I)Z"⟩
abbrev cX9_sound : ByteArray := prog_11_method_30_code
def yX9_sound : MethodName := ⟨RX9, "sound", "()I"⟩
abbrev cX9_width : ByteArray := prog_11_method_31_code
def yX9_width : MethodName := ⟨RX9, "width", "()I"⟩
abbrev cX9_separator : ByteArray := prog_11_method_32_code
def yX9_separator : MethodName := ⟨RX9, "separator", "()I"⟩
abbrev cX9_states : ByteArray := prog_11_method_33_code
def yX9_states : MethodName := ⟨RX9, "states", "(I)I"⟩
abbrev cX9_isFactor : ByteArray := prog_11_method_34_code
def yX9_isFactor : MethodName := ⟨RX9, "isFactor", "(I)Z"⟩
abbrev cX9_isState : ByteArray := prog_11_method_35_code
def yX9_isState : MethodName := ⟨RX9, "isState", "(I)Z"⟩
abbrev cX9_factor : ByteArray := prog_11_method_36_code
def yX9_factor : MethodName := ⟨RX9, "factor", "(II)I"⟩
abbrev cX9_pair : ByteArray := prog_11_method_37_code
def yX9_pair : MethodName := ⟨RX9, "pair", "(IIII)I"⟩
abbrev cX9_forbid : ByteArray := prog_11_method_38_code
def yX9_forbid : MethodName := ⟨RX9, "forbid", "(II)I"⟩
abbrev cX9_isAsked : ByteArray := prog_11_method_39_code
def yX9_isAsked : MethodName := ⟨RX9, "isAsked", "()Z"⟩
abbrev cX9_free : ByteArray := prog_11_method_40_code
def yX9_free : MethodName := ⟨RX9, "free", "()V"⟩
abbrev cX9_mayBe : ByteArray := prog_11_method_41_code
def yX9_mayBe : MethodName := ⟨RX9, "mayBe", "(II)Z"⟩
abbrev cX9_code : ByteArray := prog_11_method_42_code
def yX9_code : MethodName := ⟨RX9, "code", "(I)I"⟩
abbrev cX9_take : ByteArray := prog_11_method_43_code
def yX9_take : MethodName := ⟨RX9, "take", "(II)Z"⟩
abbrev cX9_isFirst : ByteArray := prog_11_method_44_code
def yX9_isFirst : MethodName := ⟨RX9, "isFirst", "(II)Z"⟩
abbrev cX9_own : ByteArray := prog_11_method_45_code
def yX9_own : MethodName := ⟨RX9, "own", "(I)J"⟩
abbrev cX9_ask : ByteArray := prog_11_method_46_code
def yX9_ask : MethodName := ⟨RX9, "ask", "(Z)V"⟩
abbrev cX9_put_ : ByteArray := prog_11_method_47_code
def yX9_put_ : MethodName := ⟨RX9, "put", "(IJJJZ)V"⟩
abbrev cX9_ways : ByteArray := prog_11_method_48_code
def yX9_ways : MethodName := ⟨RX9, "ways", "()J"⟩
abbrev cX9_best : ByteArray := prog_11_method_49_code
def yX9_best : MethodName := ⟨RX9, "best", "(Z)J"⟩
abbrev cX9_bests : ByteArray := prog_11_method_50_code
def yX9_bests : MethodName := ⟨RX9, "bests", "(Z)J"⟩
abbrev cX9_choice : ByteArray := prog_11_method_51_code
def yX9_choice : MethodName := ⟨RX9, "choice", "(ZI)I"⟩
abbrev cX9_drawn : ByteArray := prog_11_method_52_code
def yX9_drawn : MethodName := ⟨RX9, "drawn", "(JI)I"⟩
abbrev cX9_share : ByteArray := prog_11_method_53_code
def yX9_share : MethodName := ⟨RX9, "share", "(II)J"⟩
abbrev cX9_count : ByteArray := prog_11_method_54_code
def yX9_count : MethodName := ⟨RX9, "count", "(I)I"⟩
def RJ6 : String := "java/lang/Integer"
def TJ6 : u_T := fun k => match k with
  | _ => ("", "", "", false)
def tyJ6 : Nat → FieldType := fun k => match k with
  | _ => .int
abbrev wsJ60 : List Cond := u_ws RJ6 TJ6 0
theorem nmJ6 : ∀ a, a < 0 → ∀ b, b < 0 → a ≠ b → (TJ6 a).2.1 ≠ (TJ6 b).2.1 := by decide +kernel
theorem tyJ6_ok : ∀ k, k < 0 → parseFieldDescriptor (TJ6 k).2.2.1 = some (tyJ6 k) := by decide +kernel
abbrev cJ6_bitCount_0f7a4 : ByteArray := prog_12_method_49_code
def yJ6_bitCount_0f7a4 : MethodName := ⟨RJ6, "bitCount", "(I)I"⟩
def RJ9 : String := "java/lang/Math"
def TJ9 : u_T := fun k => match k with
  | _ => ("", "", "", false)
def tyJ9 : Nat → FieldType := fun k => match k with
  | _ => .int
abbrev wsJ90 : List Cond := u_ws RJ9 TJ9 0
theorem nmJ9 : ∀ a, a < 0 → ∀ b, b < 0 → a ≠ b → (TJ9 a).2.1 ≠ (TJ9 b).2.1 := by decide +kernel
theorem tyJ9_ok : ∀ k, k < 0 → parseFieldDescriptor (TJ9 k).2.2.1 = some (tyJ9 k) := by decide +kernel
abbrev cJ9_max_7cf53 : ByteArray := prog_13_method_65_code
def yJ9_max_7cf53 : MethodName := ⟨RJ9, "max", "(II)I"⟩
abbrev cJ9_min_7cf53 : ByteArray := prog_13_method_69_code
def yJ9_min_7cf53 : MethodName := ⟨RJ9, "min", "(II)I"⟩
def RJ10 : String := "java/lang/System"
def TJ10 : u_T := fun k => match k with
  | _ => ("", "", "", false)
def tyJ10 : Nat → FieldType := fun k => match k with
  | _ => .int
abbrev wsJ100 : List Cond := u_ws RJ10 TJ10 0
theorem nmJ10 : ∀ a, a < 0 → ∀ b, b < 0 → a ≠ b → (TJ10 a).2.1 ≠ (TJ10 b).2.1 := by decide +kernel
theorem tyJ10_ok : ∀ k, k < 0 → parseFieldDescriptor (TJ10 k).2.2.1 = some (tyJ10 k) := by decide +kernel
def RJ7 : String := "java/util/Arrays"
def TJ7 : u_T := fun k => match k with
  | _ => ("", "", "", false)
def tyJ7 : Nat → FieldType := fun k => match k with
  | _ => .int
abbrev wsJ70 : List Cond := u_ws RJ7 TJ7 0
theorem nmJ7 : ∀ a, a < 0 → ∀ b, b < 0 → a ≠ b → (TJ7 a).2.1 ≠ (TJ7 b).2.1 := by decide +kernel
theorem tyJ7_ok : ∀ k, k < 0 → parseFieldDescriptor (TJ7 k).2.2.1 = some (tyJ7 k) := by decide +kernel
abbrev cJ7_fill_d0a16 : ByteArray := prog_15_method_101_code
def yJ7_fill_d0a16 : MethodName := ⟨RJ7, "fill", "([JJ)V"⟩
def RL : String := "BagTreeLaw"
abbrev cL_law : ByteArray := code
def yL_law : MethodName := ⟨RL, "law", "([I)Z"⟩
abbrev vwCl : List vw_C := [(RX0, TX0, 3), (RX1, TX1, 3), (RX2, TX2, 3), (RX3, TX3, 5), (RX4, TX4, 5), (RX5, TX5, 11), (RX6, TX6, 4), (RX7, TX7, 17), (RX8, TX8, 8), (RX9, TX9, 23)]
end
section
/-! The words that every method may use: the tables' good ones. -/
def G : List Cond := lw_tbl.filter goodWord
theorem G_in : ∀ w ∈ G, w ∈ lw_tbl := fun _ h => (List.mem_filter.mp h).1
theorem G_good : ∀ w ∈ G, (w.onTables && w.keeps) = true ∨ ∃ ty, w = .arrayClass ty := fun _ h => good_of_word (List.mem_filter.mp h).2
theorem inG {w : Cond} (h : w ∈ lw_tbl) (hg : goodWord w = true) : w ∈ G := List.mem_filter.mpr ⟨h, hg⟩
theorem inT {w : Cond} (h : w ∈ tables_1) : w ∈ lw_tbl := List.mem_append_right _ h
theorem inS {w : Cond} (h : w ∈ k2_sels lw_privs) : w ∈ lw_tbl := List.mem_append_left _ h
theorem gi_all {b : Cond} {ws : List Cond} (h : ∀ w ∈ ws, w ∈ G) : GoodIn (b :: G) ws := fun w hw => ⟨List.mem_cons_of_mem _ (h w hw), G_good w (h w hw)⟩
theorem gi_G {ws : List Cond} (h : ∀ w ∈ ws, w ∈ G) : GoodIn G ws := fun w hw => ⟨h w hw, G_good w (h w hw)⟩
/-- what the tables say of private methods of nest mates -/
def nwT : List (String × Nat × MethodName × String) := [("BagTree", 11, ⟨"BagTree$Net", "<init>", "()V"⟩, "BagTree"), ("BagTree", 20, ⟨"BagTree$KnotRow", "<init>", "()V"⟩, "BagTree"), ("BagTree", 27, ⟨"BagTree$Bags", "<init>", "()V"⟩, "BagTree"), ("BagTree", 34, ⟨"BagTree$Law", "<init>", "()V"⟩, "BagTree"), ("BagTree", 41, ⟨"BagTree$Going", "<init>", "()V"⟩, "BagTree"), ("BagTree", 48, ⟨"BagTree$Plan", "<init>", "()V"⟩, "BagTree"), ("BagTree$Plan", 41, ⟨"BagTree$Going", "<init>", "()V"⟩, "BagTree"), ("BagTree$Net", 29, ⟨"BagTree", "hasBit", "(II)Z"⟩, "BagTree"), ("BagTree$KnotRow", 19, ⟨"BagTree", "hasBit", "(II)Z"⟩, "BagTree"), ("BagTree$Going", 39, ⟨"BagTree", "hasBit", "(II)Z"⟩, "BagTree"), ("BagTree$Search", 11, ⟨"BagTree$Going", "<init>", "()V"⟩, "BagTree"), ("BagTree$Search", 69, ⟨"BagTree", "hasBit", "(II)Z"⟩, "BagTree"), ("BagTree$Bags", 56, ⟨"BagTree", "hasBit", "(II)Z"⟩, "BagTree"), ("BagTree$Plan", 70, ⟨"BagTree", "hasBit", "(II)Z"⟩, "BagTree"), ("BagTree$Tally", 70, ⟨"BagTree", "hasBit", "(II)Z"⟩, "BagTree")]
def NW (U : State) : Prop := (∀ q ∈ nwT, va_Nw (.methodLinkNest q.1 q.2.1 q.2.2.1 q.2.2.2) U) ∧ va_AO RX1 U
theorem NW.warm {s U : State} (hW : s.WarmedH U.vm) (h : NW s) : NW U := ⟨fun q hq => va_Nw.warmM hW (h.1 q hq), h.2.moved hW.alike⟩
theorem NW.same {s U : State} (hv : s.vm = U.vm) (h : NW s) : NW U := ⟨fun q hq => va_Nw.same rfl hv (h.1 q hq), h.2.moved (by rw [hv]; exact Vm.Alike.refl _)⟩
abbrev TY (cA : Nat → ClassId) : List (ClassId × FieldType) := [(cA 0, .int), (cA 1, .long), (cA 2, .boolean), (cA 3, .object RX1)]
/-! Cells. -/
abbrev aI (cA : Nat → ClassId) (q n : Nat) (f : Nat → Int32) : Nat × va_E := (q, .inl (cA 0, n, .inl f))
abbrev aZ (cA : Nat → ClassId) (q n : Nat) (f : Nat → Int32) : Nat × va_E := (q, .inl (cA 2, n, .inl f))
abbrev aJ (cA : Nat → ClassId) (q n : Nat) (f : Nat → Int64) : Nat × va_E := (q, .inl (cA 1, n, .inr (.inl f)))
abbrev aG (cA : Nat → ClassId) (q n : Nat) (f : Nat → Option Nat) : Nat × va_E := (q, .inl (cA 3, n, .inr (.inr (.inr (.inr f)))))
abbrev oB (q ci : Nat) (fs : List Value) : Nat × va_E := (q, .inr (ci, fs))
/-! The functions' own words. -/
def bnd {α β : Type} (a : α) (k : α → β) : β := k a
abbrev okI (i : Int32) (n : Nat) : Prop := ¬ (i < 0 ∨ n ≤ i.toNatClampNeg)
def ldA {α β : Type} (f : Nat → α) (n : Nat) (i : Int32) (k : α → Option β) : Option β := if okI i n then k (f i.toNatClampNeg) else none
def stI {β : Type} (f : Nat → Int32) (n : Nat) (i x : Int32) (k : (Nat → Int32) → Option β) : Option β := if okI i n then k (upd f i.toNatClampNeg x) else none
def stZ {β : Type} (f : Nat → Int32) (n : Nat) (i x : Int32) (k : (Nat → Int32) → Option β) : Option β := if okI i n then k (upd f i.toNatClampNeg (vp_nar .boolean x)) else none
def stJ {β : Type} (f : Nat → Int64) (n : Nat) (i : Int32) (x : Int64) (k : (Nat → Int64) → Option β) : Option β := if okI i n then k (vp_updL f i.toNatClampNeg x) else none
def cal {α β : Type} (o : Option α) (k : α → Option β) : Option β := match o with
  | none => none
  | some a => k a
def chk {β : Type} (c : Prop) [Decidable c] (k : Option β) : Option β := if c then k else none
theorem ldA_some {α β : Type} {f : Nat → α} {n : Nat} {i : Int32} {k : α → Option β} {r : β} (h : ldA f n i k = some r) : vp_in i n ∧ k (f i.toNatClampNeg) = some r := by
  unfold ldA at h; split at h
  · exact ⟨‹_›, h⟩
  · cases h
theorem stI_some {β : Type} {f : Nat → Int32} {n : Nat} {i x : Int32} {k : (Nat → Int32) → Option β} {r : β} (h : stI f n i x k = some r) : vp_in i n ∧ k (upd f i.toNatClampNeg x) = some r := by
  unfold stI at h; split at h
  · exact ⟨‹_›, h⟩
  · cases h
theorem stZ_some {β : Type} {f : Nat → Int32} {n : Nat} {i x : Int32} {k : (Nat → Int32) → Option β} {r : β} (h : stZ f n i x k = some r) : vp_in i n ∧ k (upd f i.toNatClampNeg (vp_nar .boolean x)) = some r := by
  unfold stZ at h; split at h
  · exact ⟨‹_›, h⟩
  · cases h
theorem stJ_some {β : Type} {f : Nat → Int64} {n : Nat} {i : Int32} {x : Int64} {k : (Nat → Int64) → Option β} {r : β} (h : stJ f n i x k = some r) : vp_in i n ∧ k (vp_updL f i.toNatClampNeg x) = some r := by
  unfold stJ at h; split at h
  · exact ⟨‹_›, h⟩
  · cases h
theorem cal_some {α β : Type} {o : Option α} {k : α → Option β} {r : β} (h : cal o k = some r) : ∃ a, o = some a ∧ k a = some r := by
  cases o with
  | none => cases h
  | some a => exact ⟨a, rfl, h⟩
theorem chk_some {β : Type} {c : Prop} [Decidable c] {k : Option β} {r : β} (h : chk c k = some r) : c ∧ k = some r := by
  unfold chk at h; split at h
  · exact ⟨‹_›, h⟩
  · cases h
theorem ite_t {β : Type} {c : Prop} [Decidable c] {x y : Option β} {r : β} (h : (if c then x else y) = some r) (hc : c) : x = some r := by rwa [if_pos hc] at h
theorem ite_f {β : Type} {c : Prop} [Decidable c] {x y : Option β} {r : β} (h : (if c then x else y) = some r) (hc : ¬ c) : y = some r := by rwa [if_neg hc] at h
/-! A walk's fixed things in one. -/
abbrev XT : Type := Program × Launch × Env × Room × State × MethodId × Array Value × List Frame × Method × Code × va_G × (Nat → Prop) × Heap × (State → Prop)
abbrev x_p (X : XT) : Program := X.1
abbrev x_l (X : XT) : Launch := X.2.1
abbrev x_e (X : XT) : Env := X.2.2.1
abbrev x_R (X : XT) : Room := X.2.2.2.1
abbrev x_s (X : XT) : State := X.2.2.2.2.1
abbrev x_m (X : XT) : MethodId := X.2.2.2.2.2.1
abbrev x_a (X : XT) : Array Value := X.2.2.2.2.2.2.1
abbrev x_b (X : XT) : List Frame := X.2.2.2.2.2.2.2.1
abbrev x_me (X : XT) : Method := X.2.2.2.2.2.2.2.2.1
abbrev x_c (X : XT) : Code := X.2.2.2.2.2.2.2.2.2.1
abbrev x_D (X : XT) : va_G := X.2.2.2.2.2.2.2.2.2.2.1
abbrev x_A (X : XT) : Nat → Prop := X.2.2.2.2.2.2.2.2.2.2.2.1
abbrev x_H (X : XT) : Heap := X.2.2.2.2.2.2.2.2.2.2.2.2.1
abbrev x_Q (X : XT) : State → Prop := X.2.2.2.2.2.2.2.2.2.2.2.2.2
def XW (X : XT) (H : Heap) (locs : List Loc) (k n : Nat) (g : JFrame) : Prop := W (x_p X) (x_l X) (x_e X) (x_R X) (x_s X) (x_m X) (x_a X) (x_b X) (x_me X) (x_c X) H locs k n (x_Q X) g
def Go (X : XT) (nL k n pc : Nat) (ws : va_W) (lv : List (Nat × Value)) (st : List Value) : Prop :=
  ∀ (H : Heap) (locs : List Loc) (ls : Array Slot), va_P (x_D X) vwCl ws H → va_D (x_A X) ws → va_S (x_A X) (x_H X) H locs → lv_has ls (nL) lv → XW X H locs k n (F0 (x_m X) pc ls st)
/-- what a walk rests on: own class, code, answer's type, array classes, room -/
def Cx (X : XT) (cc : ByteArray) (own : String) (ret : Option FieldType) (cA : Nat → ClassId) (fr lo nL : Nat) : Prop :=
  (x_p X).tables.exec = Jvm.exec ∧ (x_c X).code = cc ∧ (x_c X).maxLocals = nL ∧ (x_s X).vm.findClass own = some (x_m X).cls ∧ (∀ w ∈ G, w.before (x_a X) (x_s X) = true) ∧ (x_me X).sig.returnType = ret ∧ (x_me X).locks = false ∧ va_K (x_D X) vwCl (TY cA) (x_s X) ∧ NW (x_s X) ∧ (fr ≤ (x_R X).frames ∧ lo ≤ (x_R X).locals) ∧ (∀ q, (x_H X).size ≤ q → x_A X q)
section GR
variable {X : XT} {cc : ByteArray} {own : String} {ret : Option FieldType} {cA : Nat → ClassId} {fr lo nL k n : Nat} {ws : va_W} {lv : List (Nat × Value)} {st : List Value} {ρ : Type} {r : ρ}
theorem Cx.ex (C : Cx X cc own ret cA fr lo nL) : (x_p X).tables.exec = Jvm.exec := C.1
theorem Cx.by (C : Cx X cc own ret cA fr lo nL) : (x_c X).code = cc := C.2.1
theorem Cx.ml (C : Cx X cc own ret cA fr lo nL) : (x_c X).maxLocals = nL := C.2.2.1
theorem Cx.ow (C : Cx X cc own ret cA fr lo nL) : (x_s X).vm.findClass own = some (x_m X).cls := C.2.2.2.1
theorem Cx.ts (C : Cx X cc own ret cA fr lo nL) : ∀ w ∈ G, w.before (x_a X) (x_s X) = true := C.2.2.2.2.1
theorem Cx.rt (C : Cx X cc own ret cA fr lo nL) : (x_me X).sig.returnType = ret := C.2.2.2.2.2.1
theorem Cx.lk (C : Cx X cc own ret cA fr lo nL) : (x_me X).locks = false := C.2.2.2.2.2.2.1
theorem Cx.K (C : Cx X cc own ret cA fr lo nL) : va_K (x_D X) vwCl (TY cA) (x_s X) := C.2.2.2.2.2.2.2.1
theorem Cx.nw (C : Cx X cc own ret cA fr lo nL) : NW (x_s X) := C.2.2.2.2.2.2.2.2.1
theorem Cx.rm (C : Cx X cc own ret cA fr lo nL) : fr ≤ (x_R X).frames ∧ lo ≤ (x_R X).locals := C.2.2.2.2.2.2.2.2.2.1
theorem Cx.hA (C : Cx X cc own ret cA fr lo nL) : ∀ q, (x_H X).size ≤ q → x_A X q := C.2.2.2.2.2.2.2.2.2.2
theorem g_lv (ks : List Nat) {lv' : List (Nat × Value)} {pc : Nat} (h : lv_pick lv ks = lv') (K : Go X nL k n pc ws lv' st) : Go X nL k n pc ws lv st := fun H locs ls hP hD hS hl => K H locs ls hP hD hS (lv_sub hl ks h)
theorem g_iconst (C : Cx X cc own ret cA fr lo nL) (pc : Nat) {i : Int} (v : Int32) (d : decode cc pc = .ok (.iconst i, 1)) (hv : Int32.ofInt i = v) (K : Go X nL k n (pc + 1) ws lv (.int v :: st)) : Go X nL k n pc ws lv st := fun H locs ls hP hD hS hl => lv_iconst C.ex C.by d hv (K H locs ls hP hD hS hl)
theorem g_bipush (C : Cx X cc own ret cA fr lo nL) (pc : Nat) {i : Int} (v : Int32) (d : decode cc pc = .ok (.bipush i, 2)) (hv : (Int8.ofInt i).toInt32 = v) (K : Go X nL k n (pc + 2) ws lv (.int v :: st)) : Go X nL k n pc ws lv st := fun H locs ls hP hD hS hl => lv_bipush C.ex C.by d hv (K H locs ls hP hD hS hl)
theorem g_sipush (C : Cx X cc own ret cA fr lo nL) (pc : Nat) {i : Int} (v : Int32) (d : decode cc pc = .ok (.sipush i, 3)) (hv : (Int16.ofInt i).toInt32 = v) (K : Go X nL k n (pc + 3) ws lv (.int v :: st)) : Go X nL k n pc ws lv st := fun H locs ls hP hD hS hl => lv_sipush C.ex C.by d hv (K H locs ls hP hD hS hl)
theorem g_lconst (C : Cx X cc own ret cA fr lo nL) (pc : Nat) {i : Fin 2} (v : Int64) (d : decode cc pc = .ok (.lconst i, 1)) (hv : Int64.ofNat (i : Nat) = v) (K : Go X nL k n (pc + 1) ws lv (.long v :: st)) : Go X nL k n pc ws lv st := fun H locs ls hP hD hS hl => lv_lconst C.ex C.by d hv (K H locs ls hP hD hS hl)
theorem g_ldcw (C : Cx X cc own ret cA fr lo nL) (pc : Nat) {i : Nat} {v : Int32} (d : decode cc pc = .ok (.ldc_w i, 3)) (hw : Cond.constant own i v ∈ G) (K : Go X nL k n (pc + 3) ws lv (.int v :: st)) : Go X nL k n pc ws lv st := fun H locs ls hP hD hS hl => lv_ldcw C.ex C.by C.ow (C.ts _ hw) d (K H locs ls hP hD hS hl)
theorem g_ldc2 (C : Cx X cc own ret cA fr lo nL) (pc : Nat) {i : Nat} {v : Int64} (d : decode cc pc = .ok (.ldc2_w i, 3)) (hw : Cond.constantLong own i v ∈ G) (K : Go X nL k n (pc + 3) ws lv (.long v :: st)) : Go X nL k n pc ws lv st := fun H locs ls hP hD hS hl => lv_ldc2 C.ex C.by C.ow (C.ts _ hw) d (K H locs ls hP hD hS hl)
theorem g_iload_n (C : Cx X cc own ret cA fr lo nL) (pc q : Nat) {i : Fin 4} {j : Nat} {x : Int32} (d : decode cc pc = .ok (.iload_n i, 1)) (hi : (i : Nat) = j) (hl0 : lv[q]? = some (j, .int x)) (K : Go X nL k n (pc + 1) ws lv (.int x :: st)) : Go X nL k n pc ws lv st := fun H locs ls hP hD hS hl => lv_iload_n C.ex C.by d hi (lv_at hl q hl0) (K H locs ls hP hD hS hl)
theorem g_iload (C : Cx X cc own ret cA fr lo nL) (pc q : Nat) {i : Nat} {x : Int32} (d : decode cc pc = .ok (.iload i, 2)) (hl0 : lv[q]? = some (i, .int x)) (K : Go X nL k n (pc + 2) ws lv (.int x :: st)) : Go X nL k n pc ws lv st := fun H locs ls hP hD hS hl => lv_iload C.ex C.by d (lv_at hl q hl0) (K H locs ls hP hD hS hl)
theorem g_lload_n (C : Cx X cc own ret cA fr lo nL) (pc q : Nat) {i : Fin 4} {j : Nat} {x : Int64} (d : decode cc pc = .ok (.lload_n i, 1)) (hi : (i : Nat) = j) (hl0 : lv[q]? = some (j, .long x)) (K : Go X nL k n (pc + 1) ws lv (.long x :: st)) : Go X nL k n pc ws lv st := fun H locs ls hP hD hS hl => lv_lload_n C.ex C.by d hi (lv_at hl q hl0) (K H locs ls hP hD hS hl)
theorem g_lload (C : Cx X cc own ret cA fr lo nL) (pc q : Nat) {i : Nat} {x : Int64} (d : decode cc pc = .ok (.lload i, 2)) (hl0 : lv[q]? = some (i, .long x)) (K : Go X nL k n (pc + 2) ws lv (.long x :: st)) : Go X nL k n pc ws lv st := fun H locs ls hP hD hS hl => lv_lload C.ex C.by d (lv_at hl q hl0) (K H locs ls hP hD hS hl)
theorem g_aload_n (C : Cx X cc own ret cA fr lo nL) (pc q : Nat) {i : Fin 4} {j x : Nat} (d : decode cc pc = .ok (.aload_n i, 1)) (hi : (i : Nat) = j) (hl0 : lv[q]? = some (j, .ref x)) (K : Go X nL k n (pc + 1) ws lv (.ref x :: st)) : Go X nL k n pc ws lv st := fun H locs ls hP hD hS hl => lv_aload_n C.ex C.by d hi (lv_at hl q hl0) (K H locs ls hP hD hS hl)
theorem g_aload (C : Cx X cc own ret cA fr lo nL) (pc q : Nat) {i x : Nat} (d : decode cc pc = .ok (.aload i, 2)) (hl0 : lv[q]? = some (i, .ref x)) (K : Go X nL k n (pc + 2) ws lv (.ref x :: st)) : Go X nL k n pc ws lv st := fun H locs ls hP hD hS hl => lv_aload C.ex C.by d (lv_at hl q hl0) (K H locs ls hP hD hS hl)
theorem g_istore_n (C : Cx X cc own ret cA fr lo nL) (pc : Nat) {i : Fin 4} {j : Nat} {x : Int32} (lvF : Int32 → List (Nat × Value)) {kf : Int32 → Option ρ} (d : decode cc pc = .ok (.istore_n i, 1)) (hi : (i : Nat) = j) (hn : j < nL) (hl1 : ∀ z : Int32, (j, Value.int z) :: lv.filter (fun q => !(q.1 == j) && !(q.1 + 1 == j && q.2.category == 2)) = lvF z) (hf : bnd x kf = some r) (K : ∀ z : Int32, kf z = some r → Go X nL k n (pc + 1) ws (lvF z) st) : Go X nL k n pc ws lv (.int x :: st) := fun H locs ls hP hD hS hl => lv_istore_n C.ex C.by d hi hl hn (hl1 x) (fun ls' hl' => K x hf H locs ls' hP hD hS hl')
theorem g_istore (C : Cx X cc own ret cA fr lo nL) (pc : Nat) {i : Nat} {x : Int32} (lvF : Int32 → List (Nat × Value)) {kf : Int32 → Option ρ} (d : decode cc pc = .ok (.istore i, 2)) (hn : i < nL) (hl1 : ∀ z : Int32, (i, Value.int z) :: lv.filter (fun q => !(q.1 == i) && !(q.1 + 1 == i && q.2.category == 2)) = lvF z) (hf : bnd x kf = some r) (K : ∀ z : Int32, kf z = some r → Go X nL k n (pc + 2) ws (lvF z) st) : Go X nL k n pc ws lv (.int x :: st) := fun H locs ls hP hD hS hl => lv_istore C.ex C.by d hl hn (hl1 x) (fun ls' hl' => K x hf H locs ls' hP hD hS hl')
theorem g_lstore_n (C : Cx X cc own ret cA fr lo nL) (pc : Nat) {i : Fin 4} {j : Nat} {x : Int64} (lvF : Int64 → List (Nat × Value)) {kf : Int64 → Option ρ} (d : decode cc pc = .ok (.lstore_n i, 1)) (hi : (i : Nat) = j) (hn : j + 1 < nL) (hl1 : ∀ z : Int64, (j, Value.long z) :: lv.filter (fun q => !(q.1 == j) && (!(q.1 == j + 1) && !(q.1 + 1 == j && q.2.category == 2))) = lvF z) (hf : bnd x kf = some r) (K : ∀ z : Int64, kf z = some r → Go X nL k n (pc + 1) ws (lvF z) st) : Go X nL k n pc ws lv (.long x :: st) := fun H locs ls hP hD hS hl => lv_lstore_n C.ex C.by d hi hl hn (hl1 x) (fun ls' hl' => K x hf H locs ls' hP hD hS hl')
theorem g_lstore (C : Cx X cc own ret cA fr lo nL) (pc : Nat) {i : Nat} {x : Int64} (lvF : Int64 → List (Nat × Value)) {kf : Int64 → Option ρ} (d : decode cc pc = .ok (.lstore i, 2)) (hn : i + 1 < nL) (hl1 : ∀ z : Int64, (i, Value.long z) :: lv.filter (fun q => !(q.1 == i) && (!(q.1 == i + 1) && !(q.1 + 1 == i && q.2.category == 2))) = lvF z) (hf : bnd x kf = some r) (K : ∀ z : Int64, kf z = some r → Go X nL k n (pc + 2) ws (lvF z) st) : Go X nL k n pc ws lv (.long x :: st) := fun H locs ls hP hD hS hl => lv_lstore C.ex C.by d hl hn (hl1 x) (fun ls' hl' => K x hf H locs ls' hP hD hS hl')
theorem g_astore_n (C : Cx X cc own ret cA fr lo nL) (pc : Nat) {i : Fin 4} {j x : Nat} {lv' : List (Nat × Value)} (d : decode cc pc = .ok (.astore_n i, 1)) (hi : (i : Nat) = j) (hn : j < nL) (hl1 : (j, Value.ref x) :: lv.filter (fun q => !(q.1 == j) && !(q.1 + 1 == j && q.2.category == 2)) = lv') (K : Go X nL k n (pc + 1) ws lv' st) : Go X nL k n pc ws lv (.ref x :: st) := fun H locs ls hP hD hS hl => lv_astore_n C.ex C.by d hi hl hn hl1 (fun ls' hl' => K H locs ls' hP hD hS hl')
theorem g_iinc (C : Cx X cc own ret cA fr lo nL) (pc q : Nat) {i : Nat} {c : Int} {x v : Int32} (lvF : Int32 → List (Nat × Value)) {kf : Int32 → Option ρ} (d : decode cc pc = .ok (.iinc i c, 3)) (hq : lv[q]? = some (i, .int x)) (hv : x + Int32.ofInt c = v) (hn : i < nL) (hl1 : ∀ z : Int32, (i, Value.int z) :: lv.filter (fun q => !(q.1 == i) && !(q.1 + 1 == i && q.2.category == 2)) = lvF z) (hf : bnd v kf = some r) (K : ∀ z : Int32, kf z = some r → Go X nL k n (pc + 3) ws (lvF z) st) : Go X nL k n pc ws lv st := fun H locs ls hP hD hS hl => lv_iinc C.ex C.by d hl hq hv hn (hl1 v) (fun ls' hl' => K v hf H locs ls' hP hD hS hl')
theorem g_iadd (C : Cx X cc own ret cA fr lo nL) (pc : Nat) {x y : Int32} (d : decode cc pc = .ok (.iadd, 1)) (K : Go X nL k n (pc + 1) ws lv (.int (x + y) :: st)) : Go X nL k n pc ws lv (.int y :: .int x :: st) := fun H locs ls hP hD hS hl => lv_iadd C.ex C.by d (K H locs ls hP hD hS hl)
theorem g_isub (C : Cx X cc own ret cA fr lo nL) (pc : Nat) {x y : Int32} (d : decode cc pc = .ok (.isub, 1)) (K : Go X nL k n (pc + 1) ws lv (.int (x - y) :: st)) : Go X nL k n pc ws lv (.int y :: .int x :: st) := fun H locs ls hP hD hS hl => lv_isub C.ex C.by d (K H locs ls hP hD hS hl)
theorem g_imul (C : Cx X cc own ret cA fr lo nL) (pc : Nat) {x y : Int32} (d : decode cc pc = .ok (.imul, 1)) (K : Go X nL k n (pc + 1) ws lv (.int (x * y) :: st)) : Go X nL k n pc ws lv (.int y :: .int x :: st) := fun H locs ls hP hD hS hl => lv_imul C.ex C.by d (K H locs ls hP hD hS hl)
theorem g_iand (C : Cx X cc own ret cA fr lo nL) (pc : Nat) {x y : Int32} (d : decode cc pc = .ok (.iand, 1)) (K : Go X nL k n (pc + 1) ws lv (.int (x &&& y) :: st)) : Go X nL k n pc ws lv (.int y :: .int x :: st) := fun H locs ls hP hD hS hl => lv_iand C.ex C.by d (K H locs ls hP hD hS hl)
theorem g_ior (C : Cx X cc own ret cA fr lo nL) (pc : Nat) {x y : Int32} (d : decode cc pc = .ok (.ior, 1)) (K : Go X nL k n (pc + 1) ws lv (.int (x ||| y) :: st)) : Go X nL k n pc ws lv (.int y :: .int x :: st) := fun H locs ls hP hD hS hl => lv_ior C.ex C.by d (K H locs ls hP hD hS hl)
theorem g_ixor (C : Cx X cc own ret cA fr lo nL) (pc : Nat) {x y : Int32} (d : decode cc pc = .ok (.ixor, 1)) (K : Go X nL k n (pc + 1) ws lv (.int (x ^^^ y) :: st)) : Go X nL k n pc ws lv (.int y :: .int x :: st) := fun H locs ls hP hD hS hl => lv_ixor C.ex C.by d (K H locs ls hP hD hS hl)
theorem g_idiv (C : Cx X cc own ret cA fr lo nL) (pc : Nat) {x y : Int32} (d : decode cc pc = .ok (.idiv, 1)) (hne : ¬ y = 0) (K : Go X nL k n (pc + 1) ws lv (.int (x / y) :: st)) : Go X nL k n pc ws lv (.int y :: .int x :: st) := fun H locs ls hP hD hS hl => lv_idiv C.ex C.by d hne (K H locs ls hP hD hS hl)
theorem g_irem (C : Cx X cc own ret cA fr lo nL) (pc : Nat) {x y : Int32} (d : decode cc pc = .ok (.irem, 1)) (hne : ¬ y = 0) (K : Go X nL k n (pc + 1) ws lv (.int (x - x / y * y) :: st)) : Go X nL k n pc ws lv (.int y :: .int x :: st) := fun H locs ls hP hD hS hl => lv_irem C.ex C.by d hne (K H locs ls hP hD hS hl)
theorem g_ineg (C : Cx X cc own ret cA fr lo nL) (pc : Nat) {x : Int32} (d : decode cc pc = .ok (.ineg, 1)) (K : Go X nL k n (pc + 1) ws lv (.int (-x) :: st)) : Go X nL k n pc ws lv (.int x :: st) := fun H locs ls hP hD hS hl => lv_ineg C.ex C.by d (K H locs ls hP hD hS hl)
theorem g_ishl (C : Cx X cc own ret cA fr lo nL) (pc : Nat) {x y : Int32} (d : decode cc pc = .ok (.ishl, 1)) (K : Go X nL k n (pc + 1) ws lv (.int (x <<< (y &&& 31)) :: st)) : Go X nL k n pc ws lv (.int y :: .int x :: st) := fun H locs ls hP hD hS hl => lv_ishl C.ex C.by d (K H locs ls hP hD hS hl)
theorem g_ishr (C : Cx X cc own ret cA fr lo nL) (pc : Nat) {x y : Int32} (d : decode cc pc = .ok (.ishr, 1)) (K : Go X nL k n (pc + 1) ws lv (.int (x >>> (y &&& 31)) :: st)) : Go X nL k n pc ws lv (.int y :: .int x :: st) := fun H locs ls hP hD hS hl => lv_ishr C.ex C.by d (K H locs ls hP hD hS hl)
theorem g_iushr (C : Cx X cc own ret cA fr lo nL) (pc : Nat) {x y : Int32} (d : decode cc pc = .ok (.iushr, 1)) (K : Go X nL k n (pc + 1) ws lv (.int ((x.toUInt32 >>> (y.toUInt32 &&& Int32.toUInt32 31)).toInt32) :: st)) : Go X nL k n pc ws lv (.int y :: .int x :: st) := fun H locs ls hP hD hS hl => lv_iushr C.ex C.by d rfl (K H locs ls hP hD hS hl)
theorem g_ladd (C : Cx X cc own ret cA fr lo nL) (pc : Nat) {x y : Int64} (d : decode cc pc = .ok (.ladd, 1)) (K : Go X nL k n (pc + 1) ws lv (.long (x + y) :: st)) : Go X nL k n pc ws lv (.long y :: .long x :: st) := fun H locs ls hP hD hS hl => lv_ladd C.ex C.by d (K H locs ls hP hD hS hl)
theorem g_lsub (C : Cx X cc own ret cA fr lo nL) (pc : Nat) {x y : Int64} (d : decode cc pc = .ok (.lsub, 1)) (K : Go X nL k n (pc + 1) ws lv (.long (x - y) :: st)) : Go X nL k n pc ws lv (.long y :: .long x :: st) := fun H locs ls hP hD hS hl => lv_lsub C.ex C.by d (K H locs ls hP hD hS hl)
theorem g_lmul (C : Cx X cc own ret cA fr lo nL) (pc : Nat) {x y : Int64} (d : decode cc pc = .ok (.lmul, 1)) (K : Go X nL k n (pc + 1) ws lv (.long (x * y) :: st)) : Go X nL k n pc ws lv (.long y :: .long x :: st) := fun H locs ls hP hD hS hl => lv_lmul C.ex C.by d (K H locs ls hP hD hS hl)
theorem g_land (C : Cx X cc own ret cA fr lo nL) (pc : Nat) {x y : Int64} (d : decode cc pc = .ok (.land, 1)) (K : Go X nL k n (pc + 1) ws lv (.long (x &&& y) :: st)) : Go X nL k n pc ws lv (.long y :: .long x :: st) := fun H locs ls hP hD hS hl => lv_land C.ex C.by d (K H locs ls hP hD hS hl)
theorem g_lor (C : Cx X cc own ret cA fr lo nL) (pc : Nat) {x y : Int64} (d : decode cc pc = .ok (.lor, 1)) (K : Go X nL k n (pc + 1) ws lv (.long (x ||| y) :: st)) : Go X nL k n pc ws lv (.long y :: .long x :: st) := fun H locs ls hP hD hS hl => lv_lor C.ex C.by d (K H locs ls hP hD hS hl)
theorem g_lshl (C : Cx X cc own ret cA fr lo nL) (pc : Nat) {x : Int64} {y : Int32} (d : decode cc pc = .ok (.lshl, 1)) (K : Go X nL k n (pc + 1) ws lv (.long (x <<< (y.toInt64 &&& 63)) :: st)) : Go X nL k n pc ws lv (.int y :: .long x :: st) := fun H locs ls hP hD hS hl => lv_lshl C.ex C.by d rfl (K H locs ls hP hD hS hl)
theorem g_lshr (C : Cx X cc own ret cA fr lo nL) (pc : Nat) {x : Int64} {y : Int32} (d : decode cc pc = .ok (.lshr, 1)) (K : Go X nL k n (pc + 1) ws lv (.long (x >>> (y.toInt64 &&& 63)) :: st)) : Go X nL k n pc ws lv (.int y :: .long x :: st) := fun H locs ls hP hD hS hl => lv_lshr C.ex C.by d rfl (K H locs ls hP hD hS hl)
theorem g_i2l (C : Cx X cc own ret cA fr lo nL) (pc : Nat) {x : Int32} (d : decode cc pc = .ok (.i2l, 1)) (K : Go X nL k n (pc + 1) ws lv (.long x.toInt64 :: st)) : Go X nL k n pc ws lv (.int x :: st) := fun H locs ls hP hD hS hl => lv_i2l C.ex C.by d rfl (K H locs ls hP hD hS hl)
theorem g_lcmp (C : Cx X cc own ret cA fr lo nL) (pc : Nat) {x y : Int64} (d : decode cc pc = .ok (.lcmp, 1)) (K : Go X nL k n (pc + 1) ws lv (.int (lg_cmp x y) :: st)) : Go X nL k n pc ws lv (.long y :: .long x :: st) := fun H locs ls hP hD hS hl => W.lcmp C.ex C.by d (K H locs ls hP hD hS hl)
theorem g_dup (C : Cx X cc own ret cA fr lo nL) (pc : Nat) {v : Value} (d : decode cc pc = .ok (.dup, 1)) (hv : v.category = 1) (K : Go X nL k n (pc + 1) ws lv (v :: v :: st)) : Go X nL k n pc ws lv (v :: st) := fun H locs ls hP hD hS hl => lv_dup C.ex C.by d hv (K H locs ls hP hD hS hl)
theorem g_dup2 (C : Cx X cc own ret cA fr lo nL) (pc : Nat) {v w : Value} (d : decode cc pc = .ok (.dup2, 1)) (hv : v.category = 1) (hw : w.category = 1) (K : Go X nL k n (pc + 1) ws lv (v :: w :: v :: w :: st)) : Go X nL k n pc ws lv (v :: w :: st) := fun H locs ls hP hD hS hl => lv_dup2_11 C.ex C.by d hv hw (K H locs ls hP hD hS hl)
theorem g_dup_x1 (C : Cx X cc own ret cA fr lo nL) (pc : Nat) {v w : Value} (d : decode cc pc = .ok (.dup_x1, 1)) (hv : v.category = 1) (hw : w.category = 1) (K : Go X nL k n (pc + 1) ws lv (v :: w :: v :: st)) : Go X nL k n pc ws lv (v :: w :: st) := fun H locs ls hP hD hS hl => lv_dup_x1 C.ex C.by d hv hw (K H locs ls hP hD hS hl)
theorem g_pop (C : Cx X cc own ret cA fr lo nL) (pc : Nat) {v : Value} (d : decode cc pc = .ok (.pop, 1)) (hv : v.category = 1) (K : Go X nL k n (pc + 1) ws lv st) : Go X nL k n pc ws lv (v :: st) := fun H locs ls hP hD hS hl => lv_pop C.ex C.by d hv (K H locs ls hP hD hS hl)
theorem g_pop2 (C : Cx X cc own ret cA fr lo nL) (pc : Nat) {v : Value} (d : decode cc pc = .ok (.pop2, 1)) (hv : v.category = 2) (K : Go X nL k n (pc + 1) ws lv st) : Go X nL k n pc ws lv (v :: st) := fun H locs ls hP hD hS hl => lv_pop2_2 C.ex C.by d hv (K H locs ls hP hD hS hl)
theorem g_goto (C : Cx X cc own ret cA fr lo nL) (pc : Nat) {o : Int} (t : Nat) (d : decode cc pc = .ok (.goto o, 3)) (ht : (pc : Int) + o = (t : Int)) (K : Go X nL k n t ws lv st) : Go X nL k n pc ws lv st := fun H locs ls hP hD hS hl => lv_goto C.ex C.by d ht (K H locs ls hP hD hS hl)
theorem g_if_eq (C : Cx X cc own ret cA fr lo nL) (pc : Nat) {x : Int32} {o : Int} (t : Nat) {y z : Option ρ} (d : decode cc pc = .ok (.ifCond .eq o, 3)) (ht : (pc : Int) + o = (t : Int)) (hf : (if x = 0 then y else z) = some r) (A : y = some r → Go X nL k n t ws lv st) (B : z = some r → Go X nL k n (pc + 3) ws lv st) : Go X nL k n pc ws lv (.int x :: st) := fun H locs ls hP hD hS hl => lv_if_eq C.ex C.by d ht (fun c => A (ite_t hf c) H locs ls hP hD hS hl) (fun c => B (ite_f hf c) H locs ls hP hD hS hl)
theorem g_if_ne (C : Cx X cc own ret cA fr lo nL) (pc : Nat) {x : Int32} {o : Int} (t : Nat) {y z : Option ρ} (d : decode cc pc = .ok (.ifCond .ne o, 3)) (ht : (pc : Int) + o = (t : Int)) (hf : (if x = 0 then y else z) = some r) (A : z = some r → Go X nL k n t ws lv st) (B : y = some r → Go X nL k n (pc + 3) ws lv st) : Go X nL k n pc ws lv (.int x :: st) := fun H locs ls hP hD hS hl => lv_if_ne C.ex C.by d ht (fun c => A (ite_f hf c) H locs ls hP hD hS hl) (fun c => B (ite_t hf c) H locs ls hP hD hS hl)
theorem g_if_lt (C : Cx X cc own ret cA fr lo nL) (pc : Nat) {x : Int32} {o : Int} (t : Nat) {y z : Option ρ} (d : decode cc pc = .ok (.ifCond .lt o, 3)) (ht : (pc : Int) + o = (t : Int)) (hf : (if x < 0 then y else z) = some r) (A : y = some r → Go X nL k n t ws lv st) (B : z = some r → Go X nL k n (pc + 3) ws lv st) : Go X nL k n pc ws lv (.int x :: st) := fun H locs ls hP hD hS hl => lv_if_lt C.ex C.by d ht (fun c => A (ite_t hf c) H locs ls hP hD hS hl) (fun c => B (ite_f hf c) H locs ls hP hD hS hl)
theorem g_if_ge (C : Cx X cc own ret cA fr lo nL) (pc : Nat) {x : Int32} {o : Int} (t : Nat) {y z : Option ρ} (d : decode cc pc = .ok (.ifCond .ge o, 3)) (ht : (pc : Int) + o = (t : Int)) (hf : (if 0 ≤ x then y else z) = some r) (A : y = some r → Go X nL k n t ws lv st) (B : z = some r → Go X nL k n (pc + 3) ws lv st) : Go X nL k n pc ws lv (.int x :: st) := fun H locs ls hP hD hS hl => lv_if_ge C.ex C.by d ht (fun c => A (ite_t hf c) H locs ls hP hD hS hl) (fun c => B (ite_f hf c) H locs ls hP hD hS hl)
theorem g_if_gt (C : Cx X cc own ret cA fr lo nL) (pc : Nat) {x : Int32} {o : Int} (t : Nat) {y z : Option ρ} (d : decode cc pc = .ok (.ifCond .gt o, 3)) (ht : (pc : Int) + o = (t : Int)) (hf : (if 0 < x then y else z) = some r) (A : y = some r → Go X nL k n t ws lv st) (B : z = some r → Go X nL k n (pc + 3) ws lv st) : Go X nL k n pc ws lv (.int x :: st) := fun H locs ls hP hD hS hl => lv_if_gt C.ex C.by d ht (fun c => A (ite_t hf c) H locs ls hP hD hS hl) (fun c => B (ite_f hf c) H locs ls hP hD hS hl)
theorem g_if_le (C : Cx X cc own ret cA fr lo nL) (pc : Nat) {x : Int32} {o : Int} (t : Nat) {y z : Option ρ} (d : decode cc pc = .ok (.ifCond .le o, 3)) (ht : (pc : Int) + o = (t : Int)) (hf : (if x ≤ 0 then y else z) = some r) (A : y = some r → Go X nL k n t ws lv st) (B : z = some r → Go X nL k n (pc + 3) ws lv st) : Go X nL k n pc ws lv (.int x :: st) := fun H locs ls hP hD hS hl => lv_if_le C.ex C.by d ht (fun c => A (ite_t hf c) H locs ls hP hD hS hl) (fun c => B (ite_f hf c) H locs ls hP hD hS hl)
theorem g_icmp_eq (C : Cx X cc own ret cA fr lo nL) (pc : Nat) {x w : Int32} {o : Int} (t : Nat) {y z : Option ρ} (d : decode cc pc = .ok (.if_icmp .eq o, 3)) (ht : (pc : Int) + o = (t : Int)) (hf : (if x = w then y else z) = some r) (A : y = some r → Go X nL k n t ws lv st) (B : z = some r → Go X nL k n (pc + 3) ws lv st) : Go X nL k n pc ws lv (.int w :: .int x :: st) := fun H locs ls hP hD hS hl => lv_icmp_eq C.ex C.by d ht (fun c => A (ite_t hf c) H locs ls hP hD hS hl) (fun c => B (ite_f hf c) H locs ls hP hD hS hl)
theorem g_icmp_ne (C : Cx X cc own ret cA fr lo nL) (pc : Nat) {x w : Int32} {o : Int} (t : Nat) {y z : Option ρ} (d : decode cc pc = .ok (.if_icmp .ne o, 3)) (ht : (pc : Int) + o = (t : Int)) (hf : (if x = w then y else z) = some r) (A : z = some r → Go X nL k n t ws lv st) (B : y = some r → Go X nL k n (pc + 3) ws lv st) : Go X nL k n pc ws lv (.int w :: .int x :: st) := fun H locs ls hP hD hS hl => lv_icmp_ne C.ex C.by d ht (fun c => A (ite_f hf c) H locs ls hP hD hS hl) (fun c => B (ite_t hf c) H locs ls hP hD hS hl)
theorem g_icmp_lt (C : Cx X cc own ret cA fr lo nL) (pc : Nat) {x w : Int32} {o : Int} (t : Nat) {y z : Option ρ} (d : decode cc pc = .ok (.if_icmp .lt o, 3)) (ht : (pc : Int) + o = (t : Int)) (hf : (if x < w then y else z) = some r) (A : y = some r → Go X nL k n t ws lv st) (B : z = some r → Go X nL k n (pc + 3) ws lv st) : Go X nL k n pc ws lv (.int w :: .int x :: st) := fun H locs ls hP hD hS hl => lv_icmp_lt C.ex C.by d ht (fun c => A (ite_t hf c) H locs ls hP hD hS hl) (fun c => B (ite_f hf c) H locs ls hP hD hS hl)
theorem g_icmp_ge (C : Cx X cc own ret cA fr lo nL) (pc : Nat) {x w : Int32} {o : Int} (t : Nat) {y z : Option ρ} (d : decode cc pc = .ok (.if_icmp .ge o, 3)) (ht : (pc : Int) + o = (t : Int)) (hf : (if w ≤ x then y else z) = some r) (A : y = some r → Go X nL k n t ws lv st) (B : z = some r → Go X nL k n (pc + 3) ws lv st) : Go X nL k n pc ws lv (.int w :: .int x :: st) := fun H locs ls hP hD hS hl => lv_icmp_ge C.ex C.by d ht (fun c => A (ite_t hf c) H locs ls hP hD hS hl) (fun c => B (ite_f hf c) H locs ls hP hD hS hl)
theorem g_icmp_gt (C : Cx X cc own ret cA fr lo nL) (pc : Nat) {x w : Int32} {o : Int} (t : Nat) {y z : Option ρ} (d : decode cc pc = .ok (.if_icmp .gt o, 3)) (ht : (pc : Int) + o = (t : Int)) (hf : (if w < x then y else z) = some r) (A : y = some r → Go X nL k n t ws lv st) (B : z = some r → Go X nL k n (pc + 3) ws lv st) : Go X nL k n pc ws lv (.int w :: .int x :: st) := fun H locs ls hP hD hS hl => lv_icmp_gt C.ex C.by d ht (fun c => A (ite_t hf c) H locs ls hP hD hS hl) (fun c => B (ite_f hf c) H locs ls hP hD hS hl)
theorem g_icmp_le (C : Cx X cc own ret cA fr lo nL) (pc : Nat) {x w : Int32} {o : Int} (t : Nat) {y z : Option ρ} (d : decode cc pc = .ok (.if_icmp .le o, 3)) (ht : (pc : Int) + o = (t : Int)) (hf : (if x ≤ w then y else z) = some r) (A : y = some r → Go X nL k n t ws lv st) (B : z = some r → Go X nL k n (pc + 3) ws lv st) : Go X nL k n pc ws lv (.int w :: .int x :: st) := fun H locs ls hP hD hS hl => lv_icmp_le C.ex C.by d ht (fun c => A (ite_t hf c) H locs ls hP hD hS hl) (fun c => B (ite_f hf c) H locs ls hP hD hS hl)
theorem g_iald (C : Cx X cc own ret cA fr lo nL) (pc q : Nat) {a m : Nat} {f : Nat → Int32} {i : Int32} {kf : Int32 → Option ρ} (d : decode cc pc = .ok (.iaload, 1)) (ha : ws[q]? = some (aI cA a m f)) (hf : ldA f m i kf = some r) (K : ∀ z : Int32, kf z = some r → Go X nL k n (pc + 1) ws lv (.int z :: st)) : Go X nL k n pc ws lv (.int i :: .ref a :: st) := fun H locs ls hP hD hS hl => va_iald C.ex C.by C.K hP q 0 ha rfl (ldA_some hf).1 d (K _ (ldA_some hf).2 H locs ls hP hD hS hl)
theorem g_zald (C : Cx X cc own ret cA fr lo nL) (pc q : Nat) {a m : Nat} {f : Nat → Int32} {i : Int32} {kf : Int32 → Option ρ} (d : decode cc pc = .ok (.baload, 1)) (ha : ws[q]? = some (aZ cA a m f)) (hf : ldA f m i kf = some r) (K : ∀ z : Int32, kf z = some r → Go X nL k n (pc + 1) ws lv (.int z :: st)) : Go X nL k n pc ws lv (.int i :: .ref a :: st) := fun H locs ls hP hD hS hl => va_zald C.ex C.by C.K hP q 2 ha rfl (ldA_some hf).1 d (K _ (ldA_some hf).2 H locs ls hP hD hS hl)
theorem g_lald (C : Cx X cc own ret cA fr lo nL) (pc q : Nat) {a m : Nat} {f : Nat → Int64} {i : Int32} {kf : Int64 → Option ρ} (d : decode cc pc = .ok (.laload, 1)) (ha : ws[q]? = some (aJ cA a m f)) (hf : ldA f m i kf = some r) (K : ∀ z : Int64, kf z = some r → Go X nL k n (pc + 1) ws lv (.long z :: st)) : Go X nL k n pc ws lv (.int i :: .ref a :: st) := fun H locs ls hP hD hS hl => va_lald C.ex C.by C.K hP q 1 ha rfl (ldA_some hf).1 d (K _ (ldA_some hf).2 H locs ls hP hD hS hl)
theorem g_iast (C : Cx X cc own ret cA fr lo nL) (pc q : Nat) {a m : Nat} {f : Nat → Int32} {i x : Int32} (wsF : (Nat → Int32) → va_W) {kf : (Nat → Int32) → Option ρ} (d : decode cc pc = .ok (.iastore, 1)) (ha : ws[q]? = some (aI cA a m f)) (hw : ∀ z, ws.set q (aI cA a m z) = wsF z) (hf : stI f m i x kf = some r) (K : ∀ z : Nat → Int32, kf z = some r → Go X nL k n (pc + 1) (wsF z) lv st) : Go X nL k n pc ws lv (.int x :: .int i :: .ref a :: st) := fun H locs ls hP hD hS hl => va_iast C.ex C.by C.K hP hD hS q 0 ha rfl (stI_some hf).1 d (fun H1 l1 hP hD hS => K _ (stI_some hf).2 H1 l1 ls (hw _ ▸ hP) (hw _ ▸ hD) hS hl)
theorem g_zast (C : Cx X cc own ret cA fr lo nL) (pc q : Nat) {a m : Nat} {f : Nat → Int32} {i x : Int32} (wsF : (Nat → Int32) → va_W) {kf : (Nat → Int32) → Option ρ} (d : decode cc pc = .ok (.bastore, 1)) (ha : ws[q]? = some (aZ cA a m f)) (hw : ∀ z, ws.set q (aZ cA a m z) = wsF z) (hf : stZ f m i x kf = some r) (K : ∀ z : Nat → Int32, kf z = some r → Go X nL k n (pc + 1) (wsF z) lv st) : Go X nL k n pc ws lv (.int x :: .int i :: .ref a :: st) := fun H locs ls hP hD hS hl => va_zast C.ex C.by C.K hP hD hS q 2 ha rfl (stZ_some hf).1 d (fun H1 l1 hP hD hS => K _ (stZ_some hf).2 H1 l1 ls (hw _ ▸ hP) (hw _ ▸ hD) hS hl)
theorem g_last (C : Cx X cc own ret cA fr lo nL) (pc q : Nat) {a m : Nat} {f : Nat → Int64} {i : Int32} {x : Int64} (wsF : (Nat → Int64) → va_W) {kf : (Nat → Int64) → Option ρ} (d : decode cc pc = .ok (.lastore, 1)) (ha : ws[q]? = some (aJ cA a m f)) (hw : ∀ z, ws.set q (aJ cA a m z) = wsF z) (hf : stJ f m i x kf = some r) (K : ∀ z : Nat → Int64, kf z = some r → Go X nL k n (pc + 1) (wsF z) lv st) : Go X nL k n pc ws lv (.long x :: .int i :: .ref a :: st) := fun H locs ls hP hD hS hl => va_last C.ex C.by C.K hP hD hS q 1 ha rfl (stJ_some hf).1 d (fun H1 l1 hP hD hS => K _ (stJ_some hf).2 H1 l1 ls (hw _ ▸ hP) (hw _ ▸ hD) hS hl)
theorem g_alen (C : Cx X cc own ret cA fr lo nL) (pc q t : Nat) {a : Nat} {c : ClassId} {x : vp_A} {ty : FieldType} (v : Int32) (d : decode cc pc = .ok (.arraylength, 1)) (ha : ws[q]? = some (a, .inl (c, x))) (ht : (TY cA)[t]? = some (c, ty)) (hv : Int32.ofNat x.1 = v) (K : Go X nL k n (pc + 1) ws lv (.int v :: st)) : Go X nL k n pc ws lv (.ref a :: st) := fun H locs ls hP hD hS hl => va_alen C.ex C.by C.K hP q t ha ht hv d (K H locs ls hP hD hS hl)
theorem g_get (C : Cx X cc own ret cA fr lo nL) (pc q j : Nat) {a ci i N : Nat} {Cn : String} {T : u_T} {fs : List Value} {v : Value} (d : decode cc pc = .ok (.getfield i, 3)) (hin : ∀ w ∈ u_ws Cn T N, w ∈ G) (ha : ws[q]? = some (oB a ci fs)) (hc : vwCl[ci]? = some (Cn, T, N)) (hj : j < N) (hw : Cond.fieldLink own i (T j).1 (T j).2.1 (T j).2.2.1 ∈ G) (hv : fs[j]? = some v) (K : Go X nL k n (pc + 3) ws lv (v :: st)) : Go X nL k n pc ws lv (.ref a :: st) := fun H locs ls hP hD hS hl => va_get C.ex C.by C.ts hin C.ow C.K hP q ha hc j hj (C.ts _ hw) (fun _ h => h) hv d (K H locs ls hP hD hS hl)
theorem g_puti (C : Cx X cc own ret cA fr lo nL) (pc q j : Nat) {a ci i N : Nat} {Cn : String} {T : u_T} {fs : List Value} {x : Int32} (ty0 : Nat → FieldType) (wsF : Int32 → va_W) {kf : Int32 → Option ρ} (d : decode cc pc = .ok (.putfield i, 3)) (hin : ∀ w ∈ u_ws Cn T N, w ∈ G) (hty : ∀ k, k < N → parseFieldDescriptor (T k).2.2.1 = some (ty0 k)) (hnm : ∀ a, a < N → ∀ b, b < N → a ≠ b → (T a).2.1 ≠ (T b).2.1) (ha : ws[q]? = some (oB a ci fs)) (hc : vwCl[ci]? = some (Cn, T, N)) (hj : j < N) (hw : Cond.fieldLink own i (T j).1 (T j).2.1 (T j).2.2.1 ∈ G) (hfin : (T j).2.2.2 = false) (ht0 : ty0 j = .int) (hl : j < fs.length) (hws : ∀ z : Int32, ws.set q (oB a ci (fs.set j (.int z))) = wsF z) (hf : bnd x kf = some r) (K : ∀ z : Int32, kf z = some r → Go X nL k n (pc + 3) (wsF z) lv st) : Go X nL k n pc ws lv (.int x :: .ref a :: st) := fun H locs ls hP hD hS hl' => va_put C.ex C.by C.ts hin ty0 hty hnm C.ow C.K hP hD hS q ha hc j hj (C.ts _ hw) (fun _ h => h) hfin ((hty j hj).trans (congrArg some ht0)) rfl rfl hl d (fun H1 l1 hP hD hS => K x hf H1 l1 ls (hws _ ▸ hP) (hws _ ▸ hD) hS hl')
theorem g_putl (C : Cx X cc own ret cA fr lo nL) (pc q j : Nat) {a ci i N : Nat} {Cn : String} {T : u_T} {fs : List Value} {x : Int64} (ty0 : Nat → FieldType) (wsF : Int64 → va_W) {kf : Int64 → Option ρ} (d : decode cc pc = .ok (.putfield i, 3)) (hin : ∀ w ∈ u_ws Cn T N, w ∈ G) (hty : ∀ k, k < N → parseFieldDescriptor (T k).2.2.1 = some (ty0 k)) (hnm : ∀ a, a < N → ∀ b, b < N → a ≠ b → (T a).2.1 ≠ (T b).2.1) (ha : ws[q]? = some (oB a ci fs)) (hc : vwCl[ci]? = some (Cn, T, N)) (hj : j < N) (hw : Cond.fieldLink own i (T j).1 (T j).2.1 (T j).2.2.1 ∈ G) (hfin : (T j).2.2.2 = false) (ht0 : ty0 j = .long) (hl : j < fs.length) (hws : ∀ z : Int64, ws.set q (oB a ci (fs.set j (.long z))) = wsF z) (hf : bnd x kf = some r) (K : ∀ z : Int64, kf z = some r → Go X nL k n (pc + 3) (wsF z) lv st) : Go X nL k n pc ws lv (.long x :: .ref a :: st) := fun H locs ls hP hD hS hl' => va_put C.ex C.by C.ts hin ty0 hty hnm C.ow C.K hP hD hS q ha hc j hj (C.ts _ hw) (fun _ h => h) hfin ((hty j hj).trans (congrArg some ht0)) rfl rfl hl d (fun H1 l1 hP hD hS => K x hf H1 l1 ls (hws _ ▸ hP) (hws _ ▸ hD) hS hl')
theorem g_max (C : Cx X cc own ret cA fr lo nL) (pc : Nat) {i : Nat} {x y : Int32} (d : decode cc pc = .ok (.invokestatic i, 3)) (h1 : Cond.methodLink own i Lib.Math.max.name ∈ G) (h2 : Cond.static Lib.Math.max.name ∈ G) (h3 : Cond.initialized "java/lang/Math" ∈ G) (h4 : Cond.code Lib.Math.max.name Lib.Math.max.code 2 (some .int) ∈ G) (hfr : 1 ≤ fr) (hlo : (st.map fun v => v.category).sum + 13 ≤ lo) (hk : k ≤ (x_R X).cells) (hn : n ≤ (x_R X).slots) (K : Go X nL k n (pc + 3) ws lv (.int (if x < y then y else x) :: st)) : Go X nL k n pc ws lv (.int y :: .int x :: st) := fun H locs ls hP hD hS hl => va_mmax C.ex C.by (C.ml.trans hl.1.symm) C.ow (C.ts _ h1) (C.ts _ h2) (C.ts _ h3) (C.ts _ h4) (Nat.le_trans hfr C.rm.1) (Nat.le_trans hlo C.rm.2) hk hn d (K H locs ls hP hD hS hl)
end GR
end
section
/-! Contracts: what a method's start and end are. -/
def Px (D : va_G) (cA : Nat → ClassId) (sz : Nat) (ws : va_W) (U : State) : Prop := U.heap.size = sz ∧ va_P D vwCl ws U.heap ∧ va_K D vwCl (TY cA) U ∧ va_D (fun _ => True) ws ∧ NW U
def Qx (D : va_G) (A : Nat → Prop) (B : Option Value → va_W → Prop) : Array Value → State → Outcome → State → Prop := fun _ st oc t => (∃ (res : Option Value) (ws' : va_W), B res ws' ∧ oc = .returned res ∧ va_P D vwCl ws' t.heap ∧ va_D A ws') ∧ va_F A st t
def MT (l : Launch) (cA : Nat → ClassId) (y : MethodName) (cc : ByteArray) (nL : Nat) (ret : Option FieldType) (rm : Room) (av : List Value) (ws : va_W) (B : Option Value → va_W → Prop) : Prop :=
  ∀ (sz : Nat) (D : va_G), Met l y (.code y cc nL ret :: G) rm (va_Pc av (Px D cA sz ws)) (Qx D (va_A ws sz) B) rm.cells rm.slots (va_A ws sz)
abbrev sB (res : Option Value) (ws' : va_W) : Option Value → va_W → Prop := fun r w => r = res ∧ w = ws'
def Fx (X : XT) (B : Option Value → va_W → Prop) (k n : Nat) : Prop := x_Q X = MQ (x_b X) (Qx (x_D X) (x_A X) B) (x_a X) (x_s X) k n (x_A X) ∧ x_H X = (x_s X).heap
theorem Px_blind {D : va_G} {cA : Nat → ClassId} {sz : Nat} {ws : va_W} {av : List Value} : FrameBlind (va_Pc av (Px D cA sz ws)) := by
  intro a U g mk ⟨h0, h1, h2, h3, h4, h5⟩
  exact ⟨h0, h1, h2, va_K.moved (u := U) (U := U.calling g mk a) (Vm.Alike.refl U.vm) h3, h4, NW.same (s := U) (U := U.calling g mk a) rfl h5⟩
theorem MT.of {l : Launch} {cA : Nat → ClassId} {y : MethodName} {cc : ByteArray} {nL : Nat} {ret : Option FieldType} {rm : Room} {av : List Value} {ws : va_W} {B : Option Value → va_W → Prop} (hy : plainName y.cls = true) (hlen : (lg_sl av).length ≤ nL)
    (h : ∀ X : XT, x_l X = l → Cx X cc y.cls ret cA rm.frames rm.locals nL → Fx X B rm.cells rm.slots → (x_me X).name = y.name → (x_R X).cells = rm.cells → (x_R X).slots = rm.slots → Go X nL 0 0 0 ws (lv_args 0 av) []) : MT l cA y cc nL ret rm av ws B := by
  intro sz D
  refine Met.ofW (cc := cc) (maxL := nL) (ret := ret) hy rfl ?_
  intro p e s m args below meth c s₁ B' hml hv
  obtain ⟨rfl, hsz, hP, hK, hD0, hN⟩ := hv
  subst hsz
  have hD := hD0.self (sz := s.heap.size)
  have hts := atoms_spec (ws := .code y cc nL ret :: G) B'.pre
  rw [lg_entry_eq]
  have hl := lv_entry av (n := nL) hlen
  exact h (p, l, e, (headSpec (.code y cc nL ret :: G) rm).room, s, m, av.toArray, below, meth, c, D, va_A ws s.heap.size, s.heap, MQ below (Qx D (va_A ws s.heap.size) B) av.toArray s rm.cells rm.slots (va_A ws s.heap.size)) rfl
    ⟨B'.exec, B'.bytes, hml, findClass_of_methodNamed B'.named, fun w hw => hts w (List.mem_cons_of_mem _ hw), B'.returns, B'.notSynchronized, hK, hN, ⟨Nat.le_refl _, Nat.le_refl _⟩, fun q h => Or.inr h⟩ ⟨rfl, rfl⟩ ((name_of_methodNamed B'.named B'.method).1) rfl rfl s.heap [] _ hP hD va_S.rf hl
/-! A callee's cells put back at their places; what is left over is new. -/
def putAt (ws : va_W) : List Nat → va_W → va_W
  | i :: is, c :: cs => putAt (ws.set i c) is cs
  | _, cs => ws ++ cs
theorem putAt_nil (ws cs : va_W) : putAt ws [] cs = ws ++ cs := by cases cs <;> rfl
theorem putAt_get : ∀ (is : List Nat) (cs ws : va_W), is.length ≤ cs.length → va_nd is = true → (∀ i ∈ is, i < ws.length) → ∀ (k : Nat) (q : Nat × va_E), (putAt ws is cs)[k]? = some q →
    (∃ j, cs[j]? = some q ∧ (is[j]? = some k ∨ (is.length ≤ j ∧ k = ws.length + (j - is.length)))) ∨ (k ∉ is ∧ k < ws.length ∧ ws[k]? = some q)
  | [], cs, ws, _, _, _, k, q, h => by
    rw [putAt_nil] at h
    by_cases hk : k < ws.length
    · rw [List.getElem?_append_left hk] at h
      exact Or.inr ⟨List.not_mem_nil, hk, h⟩
    · rw [List.getElem?_append_right (by omega)] at h
      exact Or.inl ⟨k - ws.length, h, Or.inr ⟨Nat.zero_le _, by simp; omega⟩⟩
  | i :: is, [], ws, hl, _, _, k, q, h => by simp at hl
  | i :: is, c :: cs, ws, hl, hn, hi, k, q, h => by
    simp only [va_nd, Bool.and_eq_true, decide_eq_true_eq] at hn
    have h' : (putAt (ws.set i c) is cs)[k]? = some q := h
    have hlen : (ws.set i c).length = ws.length := List.length_set
    rcases putAt_get is cs (ws.set i c) (by simpa using hl) hn.2 (fun j hj => by rw [hlen]; exact hi j (List.mem_cons_of_mem _ hj)) k q h' with ⟨j, h1, h2⟩ | ⟨h1, h2, h3⟩
    · refine Or.inl ⟨j + 1, by simpa using h1, ?_⟩
      rcases h2 with h2 | ⟨h2, h3⟩
      · exact Or.inl (by simpa using h2)
      · exact Or.inr ⟨by simp; exact h2, by rw [h3, hlen]; simp⟩
    · by_cases hki : k = i
      · subst hki
        rw [List.getElem?_set_self (hi k List.mem_cons_self)] at h3
        cases h3
        exact Or.inl ⟨0, rfl, Or.inl rfl⟩
      · rw [List.getElem?_set_ne (Ne.symm hki)] at h3
        exact Or.inr ⟨fun hm => by
          rcases List.mem_cons.mp hm with h | h
          · exact hki h
          · exact h1 h, by rw [hlen] at h2; exact h2, h3⟩
theorem kjoin {A0 : Nat → Prop} {D : va_G} {cl : List vw_C} {ws wc w1 : va_W} {H H1 : Heap} (hP : va_P D cl ws H) (hD : va_D A0 ws) (isC : List Nat) (hC : isC.map (fun i => ws[i]?) = wc.map some) (hn : va_nd isC = true) (hle : isC.length ≤ w1.length)
    (hk : ∀ q : Nat, q < H.size → ¬ va_A wc H.size q → H1[q]? = H[q]?) (hF : ∀ q, va_A wc H.size q → A0 q) (hP1 : va_P D cl w1 H1) (hD1 : va_D (va_A wc H.size) w1) : va_P D cl (putAt ws isC w1) H1 ∧ va_D A0 (putAt ws isC w1) := by
  have at' : ∀ (k : Nat) (q : Nat × va_E), wc[k]? = some q → ∃ i, isC[k]? = some i ∧ ws[i]? = some q := by
    intro k q hq
    have h1 : (isC.map (fun i => ws[i]?))[k]? = some (some q) := by rw [hC, List.getElem?_map, hq]; rfl
    rw [List.getElem?_map] at h1
    cases hi : isC[k]? with
    | none => rw [hi] at h1; cases h1
    | some i => rw [hi] at h1; exact ⟨i, rfl, Option.some.inj h1⟩
  have hlt : ∀ i ∈ isC, i < ws.length := by
    intro i hi
    obtain ⟨k, hk⟩ := List.getElem?_of_mem hi
    have h1 : (isC.map (fun i => ws[i]?))[k]? = some (ws[i]?) := by rw [List.getElem?_map, hk]; rfl
    rw [hC, List.getElem?_map] at h1
    cases hw : wc[k]? with
    | none => rw [hw] at h1; cases h1
    | some q => rw [hw] at h1; exact (List.getElem?_eq_some_iff.mp (Option.some.inj h1).symm).1
  have apart : ∀ (k : Nat) (q : Nat × va_E), k ∉ isC → ws[k]? = some q → q.1 < H.size ∧ ¬ va_A wc H.size q.1 := by
    intro k q hki hq
    have hl := (hP k q hq).lt
    refine ⟨hl, fun h => ?_⟩
    rcases h with ⟨k2, e, h⟩ | h
    · obtain ⟨j, h3, h4⟩ := at' k2 (q.1, e) h
      have hij := hD.1 k j q (q.1, e) hq h4 rfl
      subst hij
      exact hki (List.mem_of_getElem? h3)
    · omega
  refine ⟨fun k q hq => ?_, fun i j x y hx hy hxy => ?_, fun k q hq => ?_⟩
  · rcases putAt_get isC w1 ws hle hn hlt k q hq with ⟨j, h1, -⟩ | ⟨h1, -, h3⟩
    · exact hP1 j q h1
    · obtain ⟨g1, g2⟩ := apart k q h1 h3
      exact (hP k q h3).kept (hk q.1 g1 g2)
  · rcases putAt_get isC w1 ws hle hn hlt i x hx with ⟨a, h1, h2⟩ | ⟨h1, h1', h2⟩ <;> rcases putAt_get isC w1 ws hle hn hlt j y hy with ⟨b, h3, h4⟩ | ⟨h3, h3', h4⟩
    · have hab := hD1.1 a b x y h1 h3 hxy
      subst hab
      rcases h2 with h2 | ⟨h2, h5⟩ <;> rcases h4 with h4 | ⟨h4, h6⟩
      · exact Option.some.inj (h2.symm.trans h4)
      · have := (List.getElem?_eq_some_iff.mp h2).1; omega
      · have := (List.getElem?_eq_some_iff.mp h4).1; omega
      · omega
    · exact absurd (by rw [← hxy]; exact hD1.2 a x h1) (apart j y h3 h4).2
    · exact absurd (by rw [hxy]; exact hD1.2 b y h3) (apart i x h1 h2).2
    · exact hD.1 i j x y h2 h4 hxy
  · rcases putAt_get isC w1 ws hle hn hlt k q hq with ⟨j, h1, -⟩ | ⟨h1, -, h3⟩
    · exact hF _ (hD1.2 j q h1)
    · exact hD.2 k q h3
section KC
variable {p : Program} {l : Launch} {e : Env} {R : Room} {s : State} {m : MethodId} {args : Array Value} {below : List Frame} {meth : Method} {c : Code} {H : Heap} {locs : List Loc} {cells slots : Nat} {Q : State → Prop}
variable {pc : Nat} {ls : Array Slot} {rest st0 : List Value} {a : Array Value} {A0 A1 : Nat → Prop} {H0 : Heap} {mc ms : Nat} {free : Addr → Prop}
theorem kcall {D : va_G} {B : Option Value → va_W → Prop} (hr : va_Run p l e R s m args below meth c H locs cells slots mc ms (F0 m pc ls st0) rest (Qx D A1 B a) free) (hS : va_S A0 H0 H locs) (hA : ∀ q, q < H.size → A1 q → A0 q) (hf : ∀ q, free q → A0 q)
    (kk : ∀ (res : Option Value) (ws' : va_W) (H1 : Heap) (locs1 : List Loc), B res ws' → va_P D vwCl ws' H1 → va_D A1 ws' → (∀ q : Nat, q < H.size → ¬ A1 q → H1[q]? = H[q]?) → va_S A0 H0 H1 locs1 → W p l e R s m args below meth c H1 locs1 (cells + mc) (slots + ms) Q (F0 m (pc + 3) ls (res.toList ++ rest))) : W p l e R s m args below meth c H locs cells slots Q (F0 m pc ls st0) := by
  intro T hT X
  obtain ⟨v, st₀, t, T', L, h0, X', hL, e1, e2, ⟨⟨res, ws', hB, hv, hp, hd⟩, hz, hk⟩, st⟩ := hr T hT X
  cases hv
  rw [h0] at hz hk
  obtain ⟨t2, a1, b1⟩ := kk v ws' T'.heap (locs ++ L) hB (by rw [e1]; exact hp) hd (fun q h1 h2 => by rw [e1]; exact hk q h1 h2)
    ⟨Nat.le_trans hS.1 (by rw [e1]; exact hz), fun q h1 h2 => by rw [e1, hk q (Nat.lt_of_lt_of_le h1 hS.1) (fun z => h2 (hA q (Nat.lt_of_lt_of_le h1 hS.1) z))]; exact hS.2.1 q h1 h2, fun q hq => by
      rcases List.mem_append.mp hq with h | h
      · exact hS.2.2 q h
      · exact hf _ (hL q h)⟩ T' rfl X'
  exact ⟨t2, st t2 a1, b1⟩
end KC
section GC
variable {X : XT} {cc : ByteArray} {own : String} {ret : Option FieldType} {cA : Nat → ClassId} {fr lo nL k n : Nat} {ws : va_W} {lv : List (Nat × Value)} {st rest : List Value}
abbrev okY (y : MethodName) (j : Nat) : Prop := y.cls ≠ "java/lang/invoke/MethodHandle" ∧ y.cls ≠ "java/lang/invoke/VarHandle" ∧ (parseMethodDescriptor y.desc).map (fun d => d.parameters.length) = some j
theorem g_callV (C : Cx X cc own ret cA fr lo nL) (pc : Nat) {y : MethodName} {cc' : ByteArray} {nL' : Nat} {ret' : Option FieldType} {rm : Room} {b : Nat} {As : List Value} {wc : va_W} {B : Option Value → va_W → Prop} {i ci N : Nat} {fs : List Value} {T : u_T} (isC : List Nat) (q0 : Nat) (d : decode cc pc = .ok (.invokevirtual i, 3)) (hM : MT (x_l X) cA y cc' nL' ret' rm (.ref b :: As) wc B)
    (h1 : Cond.methodLink own i y ∈ G) (h2 : Cond.instanceMethod y ∈ G) (h3 : Cond.selects y.cls y y ∈ G) (h4 : Cond.initialized y.cls ∈ G) (h5 : Cond.code y cc' nL' ret' ∈ G) (hd : okY y As.length) (hR : rm.frames + 1 ≤ fr ∧ 8 + (nL' + 11) + rm.locals ≤ lo) (hrc : k + rm.cells ≤ (x_R X).cells ∧ n + rm.slots ≤ (x_R X).slots)
    (hq0 : ws[q0]? = some (oB b ci fs)) (hc : vwCl[ci]? = some (y.cls, T, N)) (hC : isC.map (fun i => ws[i]?) = wc.map some) (hnd : va_nd isC = true) (hst : st = As.reverse ++ .ref b :: rest) (hsum : (rest.map fun v => v.category).sum ≤ 8)
    (K : ∀ (res : Option Value) (w1 : va_W), B res w1 → isC.length ≤ w1.length ∧ Go X nL (k + rm.cells) (n + rm.slots) (pc + 3) (putAt ws isC w1) lv (res.toList ++ rest)) : Go X nL k n pc ws lv st := by
  intro H locs ls hP hD hS hl
  have hFc := va_free (wc := wc) hD hS C.hA isC hC
  have hPc := hP.sub (ws' := wc) isC (by
    have := congrArg (List.filterMap id) hC
    simpa [List.filterMap_map] using this)
  have hDc := hD.sub (ws' := wc) isC hnd hC
  have hG : GoodIn G (wsV own i y.cls y (.code y cc' nL' ret' :: G)) := gi_G (fun w hw => by
    simp only [wsV, List.cons_append, List.nil_append, List.mem_cons] at hw
    rcases hw with rfl | rfl | rfl | rfl | rfl | hw
    · exact h1
    · exact h2
    · exact h3
    · exact h4
    · exact h5
    · exact hw)
  refine kcall (va_runV (As := As) (rest := rest) ⟨C.ex, C.by, C.ml, C.ow, C.ts⟩ (hM H.size (x_D X)) (cwV As.length C.ts hG rfl rfl rfl ⟨rfl, hd⟩ ⟨Nat.le_trans hR.1 C.rm.1, Nat.le_trans hR.2 C.rm.2⟩) ⟨Px_blind, va_recv C.K hP hc hq0, fun U hU hW => ⟨rfl, by rw [hU], by rw [hU]; exact hPc, va_K.moved hW.alike C.K, hDc.weaken (fun _ _ _ _ => trivial), NW.warm hW C.nw⟩⟩ rfl rfl hl.1 hst (lv_room hsum) d hrc) hS (fun q _ h => hFc q h) hFc ?_
  intro res w1 H1 locs1 hB hP1 hD1 hk1 hS1
  obtain ⟨hle, hgo⟩ := K res w1 hB
  obtain ⟨hP2, hD2⟩ := kjoin hP hD isC hC hnd hle hk1 hFc hP1 hD1
  exact hgo H1 locs1 ls hP2 hD2 hS1 hl
theorem g_callV1 (C : Cx X cc own ret cA fr lo nL) (pc : Nat) {y : MethodName} {cc' : ByteArray} {nL' : Nat} {ret' : Option FieldType} {rm : Room} {b : Nat} {As : List Value} {wc w1 ws' : va_W} {res : Option Value} {i ci N : Nat} {fs : List Value} {T : u_T} (isC : List Nat) (q0 : Nat) (d : decode cc pc = .ok (.invokevirtual i, 3)) (hM : MT (x_l X) cA y cc' nL' ret' rm (.ref b :: As) wc (sB res w1))
    (h1 : Cond.methodLink own i y ∈ G) (h2 : Cond.instanceMethod y ∈ G) (h3 : Cond.selects y.cls y y ∈ G) (h4 : Cond.initialized y.cls ∈ G) (h5 : Cond.code y cc' nL' ret' ∈ G) (hd : okY y As.length) (hR : rm.frames + 1 ≤ fr ∧ 8 + (nL' + 11) + rm.locals ≤ lo) (hrc : k ≤ (x_R X).cells ∧ n ≤ (x_R X).slots) (hz : rm.cells = 0 ∧ rm.slots = 0)
    (hq0 : ws[q0]? = some (oB b ci fs)) (hc : vwCl[ci]? = some (y.cls, T, N)) (hC : isC.map (fun i => ws[i]?) = wc.map some) (hnd : va_nd isC = true) (hst : st = As.reverse ++ .ref b :: rest) (hsum : (rest.map fun v => v.category).sum ≤ 8) (hle : isC.length ≤ w1.length) (hws : putAt ws isC w1 = ws')
    (K : Go X nL k n (pc + 3) ws' lv (res.toList ++ rest)) : Go X nL k n pc ws lv st := by
  refine g_callV C pc isC q0 d hM h1 h2 h3 h4 h5 hd hR (by rw [hz.1, hz.2]; exact hrc) hq0 hc hC hnd hst hsum (fun r w h => ?_)
  obtain ⟨rfl, rfl⟩ := h
  refine ⟨hle, ?_⟩
  rw [hz.1, hz.2, hws]
  exact K
theorem g_callS (C : Cx X cc own ret cA fr lo nL) (pc : Nat) {y : MethodName} {cc' : ByteArray} {nL' : Nat} {ret' : Option FieldType} {rm : Room} {As : List Value} {wc w1 ws' : va_W} {res : Option Value} {i : Nat} (isC : List Nat) (d : decode cc pc = .ok (.invokestatic i, 3)) (hM : MT (x_l X) cA y cc' nL' ret' rm As wc (sB res w1))
    (h1 : Cond.methodLink own i y ∈ G) (h2 : Cond.static y ∈ G) (h4 : Cond.initialized y.cls ∈ G) (h5 : Cond.code y cc' nL' ret' ∈ G) (hd : okY y As.length) (hR : rm.frames + 1 ≤ fr ∧ 8 + (nL' + 11) + rm.locals ≤ lo) (hrc : k ≤ (x_R X).cells ∧ n ≤ (x_R X).slots) (hz : rm.cells = 0 ∧ rm.slots = 0)
    (hC : isC.map (fun i => ws[i]?) = wc.map some) (hnd : va_nd isC = true) (hst : st = As.reverse ++ rest) (hsum : (rest.map fun v => v.category).sum ≤ 8) (hle : isC.length ≤ w1.length) (hws : putAt ws isC w1 = ws')
    (K : Go X nL k n (pc + 3) ws' lv (res.toList ++ rest)) : Go X nL k n pc ws lv st := by
  intro H locs ls hP hD hS hl
  have hFc := va_free (wc := wc) hD hS C.hA isC hC
  have hPc := hP.sub (ws' := wc) isC (by
    have := congrArg (List.filterMap id) hC
    simpa [List.filterMap_map] using this)
  have hDc := hD.sub (ws' := wc) isC hnd hC
  have hG : GoodIn G (va_wsS own i y (.code y cc' nL' ret' :: G)) := gi_G (fun w hw => by
    simp only [va_wsS, List.cons_append, List.nil_append, List.mem_cons] at hw
    rcases hw with rfl | rfl | rfl | rfl | hw
    · exact h1
    · exact h2
    · exact h4
    · exact h5
    · exact hw)
  refine kcall (va_runS (As := As) (rest := rest) ⟨C.ex, C.by, C.ml, C.ow, C.ts⟩ (hM H.size (x_D X)) (va_cwS As.length C.ts hG rfl rfl rfl hd ⟨Nat.le_trans hR.1 C.rm.1, Nat.le_trans hR.2 C.rm.2⟩) ⟨Px_blind, fun U hU hW => ⟨rfl, by rw [hU], by rw [hU]; exact hPc, va_K.moved hW.alike C.K, hDc.weaken (fun _ _ _ _ => trivial), NW.warm hW C.nw⟩⟩ rfl rfl hl.1 hst (lv_room hsum) d (by rw [hz.1, hz.2]; exact hrc)) hS (fun q _ h => hFc q h) hFc ?_
  intro r w H1 locs1 hB hP1 hD1 hk1 hS1
  obtain ⟨rfl, rfl⟩ := hB
  obtain ⟨hP2, hD2⟩ := kjoin hP hD isC hC hnd hle hk1 hFc hP1 hD1
  rw [hws] at hP2 hD2
  rw [hz.1, hz.2]
  exact K H1 locs1 ls hP2 hD2 hS1 hl
theorem g_callSN (C : Cx X cc own ret cA fr lo nL) (pc : Nat) {y : MethodName} {cc' : ByteArray} {nL' : Nat} {ret' : Option FieldType} {rm : Room} {As : List Value} {wc w1 ws' : va_W} {res : Option Value} {i : Nat} {host : String} (isC : List Nat) (d : decode cc pc = .ok (.invokestatic i, 3)) (hM : MT (x_l X) cA y cc' nL' ret' rm As wc (sB res w1))
    (h1 : (own, i, y, host) ∈ nwT) (h2 : Cond.static y ∈ G) (h4 : Cond.initialized y.cls ∈ G) (h5 : Cond.code y cc' nL' ret' ∈ G) (hd : okY y As.length) (hR : rm.frames + 1 ≤ fr ∧ 8 + (nL' + 11) + rm.locals ≤ lo) (hrc : k ≤ (x_R X).cells ∧ n ≤ (x_R X).slots) (hz : rm.cells = 0 ∧ rm.slots = 0)
    (hC : isC.map (fun i => ws[i]?) = wc.map some) (hnd : va_nd isC = true) (hst : st = As.reverse ++ rest) (hsum : (rest.map fun v => v.category).sum ≤ 8) (hle : isC.length ≤ w1.length) (hws : putAt ws isC w1 = ws')
    (K : Go X nL k n (pc + 3) ws' lv (res.toList ++ rest)) : Go X nL k n pc ws lv st := by
  intro H locs ls hP hD hS hl
  have hFc := va_free (wc := wc) hD hS C.hA isC hC
  have hPc := hP.sub (ws' := wc) isC (by
    have := congrArg (List.filterMap id) hC
    simpa [List.filterMap_map] using this)
  have hDc := hD.sub (ws' := wc) isC hnd hC
  have hG : GoodIn G (.code y cc' nL' ret' :: G) := gi_G (fun w hw => by
    rcases List.mem_cons.mp hw with rfl | hw
    · exact h5
    · exact hw)
  refine kcall (va_runSN (As := As) (rest := rest) (host := host) ⟨C.ex, C.by, C.ml, C.ow, C.ts⟩ (hM H.size (x_D X)) ⟨va_cnB As.length C.ts hG rfl rfl rfl (C.nw.1 _ h1) (C.ts _ h4) hd ⟨Nat.le_trans hR.1 C.rm.1, Nat.le_trans hR.2 C.rm.2⟩, C.ts _ h2, trivial⟩ ⟨Px_blind, fun U hU hW => ⟨rfl, by rw [hU], by rw [hU]; exact hPc, va_K.moved hW.alike C.K, hDc.weaken (fun _ _ _ _ => trivial), NW.warm hW C.nw⟩⟩ rfl rfl hl.1 hst (lv_room hsum) d (by rw [hz.1, hz.2]; exact hrc)) hS (fun q _ h => hFc q h) hFc ?_
  intro r w H1 locs1 hB hP1 hD1 hk1 hS1
  obtain ⟨rfl, rfl⟩ := hB
  obtain ⟨hP2, hD2⟩ := kjoin hP hD isC hC hnd hle hk1 hFc hP1 hD1
  rw [hws] at hP2 hD2
  rw [hz.1, hz.2]
  exact K H1 locs1 ls hP2 hD2 hS1 hl
variable {B : Option Value → va_W → Prop}
theorem g_iret (C : Cx X cc own (some .int) cA fr lo nL) (pc : Nat) {v : Int32} (d : decode cc pc = .ok (.ireturn, 1)) (F : Fx X B k n) (hB : B (some (.int v)) ws) : Go X nL k n pc ws lv [.int v] := by
  intro H locs ls hP hD hS hl
  unfold XW
  rw [F.1]
  exact W.iret C.ex C.by C.rt (fun t ht hW => ⟨⟨_, _, hB, rfl, by rw [ht]; exact hP, hD⟩, va_S.F (F.2 ▸ hS) ht⟩) hS.2.2 d C.lk
theorem g_zret (C : Cx X cc own (some .boolean) cA fr lo nL) (pc : Nat) {v : Int32} (d : decode cc pc = .ok (.ireturn, 1)) (hv : v = 0 ∨ v = 1) (F : Fx X B k n) (hB : B (some (.int v)) ws) : Go X nL k n pc ws lv [.int v] := by
  intro H locs ls hP hD hS hl
  unfold XW
  rw [F.1]
  exact W.zret C.ex C.by C.rt (by rcases hv with rfl | rfl <;> rfl) (fun t ht hW => ⟨⟨_, _, hB, rfl, by rw [ht]; exact hP, hD⟩, va_S.F (F.2 ▸ hS) ht⟩) hS.2.2 d C.lk
theorem g_lret (C : Cx X cc own (some .long) cA fr lo nL) (pc : Nat) {v : Int64} (d : decode cc pc = .ok (.lreturn, 1)) (F : Fx X B k n) (hB : B (some (.long v)) ws) : Go X nL k n pc ws lv [.long v] := by
  intro H locs ls hP hD hS hl
  unfold XW
  rw [F.1]
  exact W.lret C.ex C.by C.rt (fun t ht hW => ⟨⟨_, _, hB, rfl, by rw [ht]; exact hP, hD⟩, va_S.F (F.2 ▸ hS) ht⟩) hS.2.2 d C.lk
theorem g_vret (C : Cx X cc own none cA fr lo nL) (pc : Nat) (d : decode cc pc = .ok (.return_, 1)) (F : Fx X B k n) (hB : B none ws) : Go X nL k n pc ws lv [] := by
  intro H locs ls hP hD hS hl
  unfold XW
  rw [F.1]
  exact W.vret C.ex C.by C.rt (fun t ht hW => ⟨⟨_, _, hB, rfl, by rw [ht]; exact hP, hD⟩, va_S.F (F.2 ▸ hS) ht⟩) hS.2.2 d C.lk
end GC
end
