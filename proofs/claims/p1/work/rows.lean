section
-- ===== PART A: goes FIRST, ahead of the names: the tables' words, and 'selects' of the private methods out of them =====
/-- a private method of a class that the tables say can be made, by its rows of tables_1 -/
def lw_okq (q : MethodName × Nat) : Prop := (q.1.cls ≠ "java/lang/invoke/MethodHandle" ∧ q.1.cls ≠ "java/lang/invoke/VarHandle") ∧ Cond.instantiable q.1.cls q.2 ∈ tables_1 ∧ Cond.privateMethod q.1 ∈ tables_1 ∧ Cond.instanceMethod q.1 ∈ tables_1
theorem lw_p0 : lw_okq (⟨"BagTree", "lowerBound", "()I"⟩, 8) := ⟨⟨by decide +kernel, by decide +kernel⟩, List.mem_of_getElem? (i := 16) (by decide +kernel), List.mem_of_getElem? (i := 392) (by decide +kernel), List.mem_of_getElem? (i := 393) (by decide +kernel)⟩
theorem lw_p1 : lw_okq (⟨"BagTree$Search", "netFits", "(LBagTree$Net;I)Z"⟩, 4) := ⟨⟨by decide +kernel, by decide +kernel⟩, List.mem_of_getElem? (i := 369) (by decide +kernel), List.mem_of_getElem? (i := 401) (by decide +kernel), List.mem_of_getElem? (i := 402) (by decide +kernel)⟩
theorem lw_p2 : lw_okq (⟨"BagTree$Search", "fits", "(I)Z"⟩, 4) := ⟨⟨by decide +kernel, by decide +kernel⟩, List.mem_of_getElem? (i := 369) (by decide +kernel), List.mem_of_getElem? (i := 409) (by decide +kernel), List.mem_of_getElem? (i := 410) (by decide +kernel)⟩
theorem lw_p3 : lw_okq (⟨"BagTree$Going", "isNearlyJoined", "(I)Z"⟩, 3) := ⟨⟨by decide +kernel, by decide +kernel⟩, List.mem_of_getElem? (i := 131) (by decide +kernel), List.mem_of_getElem? (i := 417) (by decide +kernel), List.mem_of_getElem? (i := 418) (by decide +kernel)⟩
theorem lw_p4 : lw_okq (⟨"BagTree$Search", "isStuck", "(I)Z"⟩, 4) := ⟨⟨by decide +kernel, by decide +kernel⟩, List.mem_of_getElem? (i := 369) (by decide +kernel), List.mem_of_getElem? (i := 424) (by decide +kernel), List.mem_of_getElem? (i := 425) (by decide +kernel)⟩
theorem lw_p5 : lw_okq (⟨"BagTree$Search", "fitsBehind", "(LBagTree$Going;II)Z"⟩, 4) := ⟨⟨by decide +kernel, by decide +kernel⟩, List.mem_of_getElem? (i := 369) (by decide +kernel), List.mem_of_getElem? (i := 428) (by decide +kernel), List.mem_of_getElem? (i := 429) (by decide +kernel)⟩
theorem lw_p6 : lw_okq (⟨"BagTree$Bags", "looseEdge", "(LBagTree$Net;)I"⟩, 3) := ⟨⟨by decide +kernel, by decide +kernel⟩, List.mem_of_getElem? (i := 80) (by decide +kernel), List.mem_of_getElem? (i := 483) (by decide +kernel), List.mem_of_getElem? (i := 484) (by decide +kernel)⟩
theorem lw_p7 : lw_okq (⟨"BagTree$Bags", "holdTogether", "(I)Z"⟩, 3) := ⟨⟨by decide +kernel, by decide +kernel⟩, List.mem_of_getElem? (i := 80) (by decide +kernel), List.mem_of_getElem? (i := 488) (by decide +kernel), List.mem_of_getElem? (i := 489) (by decide +kernel)⟩
theorem lw_p8 : lw_okq (⟨"BagTree$Bags", "missingKnot", "(LBagTree$Net;)I"⟩, 3) := ⟨⟨by decide +kernel, by decide +kernel⟩, List.mem_of_getElem? (i := 80) (by decide +kernel), List.mem_of_getElem? (i := 492) (by decide +kernel), List.mem_of_getElem? (i := 493) (by decide +kernel)⟩
theorem lw_p9 : lw_okq (⟨"BagTree$Bags", "scatteredKnot", "(LBagTree$Net;)I"⟩, 3) := ⟨⟨by decide +kernel, by decide +kernel⟩, List.mem_of_getElem? (i := 80) (by decide +kernel), List.mem_of_getElem? (i := 496) (by decide +kernel), List.mem_of_getElem? (i := 497) (by decide +kernel)⟩
theorem lw_p10 : lw_okq (⟨"BagTree", "isSound", "()Z"⟩, 8) := ⟨⟨by decide +kernel, by decide +kernel⟩, List.mem_of_getElem? (i := 16) (by decide +kernel), List.mem_of_getElem? (i := 514) (by decide +kernel), List.mem_of_getElem? (i := 515) (by decide +kernel)⟩
theorem lw_p11 : lw_okq (⟨"BagTree$Net", "reached", "(II)I"⟩, 5) := ⟨⟨by decide +kernel, by decide +kernel⟩, List.mem_of_getElem? (i := 24) (by decide +kernel), List.mem_of_getElem? (i := 522) (by decide +kernel), List.mem_of_getElem? (i := 523) (by decide +kernel)⟩
theorem lw_p12 : lw_okq (⟨"BagTree", "canAsk", "()Z"⟩, 8) := ⟨⟨by decide +kernel, by decide +kernel⟩, List.mem_of_getElem? (i := 16) (by decide +kernel), List.mem_of_getElem? (i := 563) (by decide +kernel), List.mem_of_getElem? (i := 564) (by decide +kernel)⟩
theorem lw_p13 : lw_okq (⟨"BagTree", "freshTally", "()LBagTree$Tally;"⟩, 8) := ⟨⟨by decide +kernel, by decide +kernel⟩, List.mem_of_getElem? (i := 16) (by decide +kernel), List.mem_of_getElem? (i := 568) (by decide +kernel), List.mem_of_getElem? (i := 569) (by decide +kernel)⟩
theorem lw_p14 : lw_okq (⟨"BagTree$Plan", "mostJoined", "(I)I"⟩, 11) := ⟨⟨by decide +kernel, by decide +kernel⟩, List.mem_of_getElem? (i := 153) (by decide +kernel), List.mem_of_getElem? (i := 641) (by decide +kernel), List.mem_of_getElem? (i := 642) (by decide +kernel)⟩
theorem lw_p15 : lw_okq (⟨"BagTree$Plan", "takeStep", "(I)V"⟩, 11) := ⟨⟨by decide +kernel, by decide +kernel⟩, List.mem_of_getElem? (i := 153) (by decide +kernel), List.mem_of_getElem? (i := 648) (by decide +kernel), List.mem_of_getElem? (i := 649) (by decide +kernel)⟩
def lw_privs_1 : List (MethodName × Nat) := [(⟨"BagTree", "lowerBound", "()I"⟩, 8), (⟨"BagTree$Search", "netFits", "(LBagTree$Net;I)Z"⟩, 4), (⟨"BagTree$Search", "fits", "(I)Z"⟩, 4), (⟨"BagTree$Going", "isNearlyJoined", "(I)Z"⟩, 3), (⟨"BagTree$Search", "isStuck", "(I)Z"⟩, 4), (⟨"BagTree$Search", "fitsBehind", "(LBagTree$Going;II)Z"⟩, 4), (⟨"BagTree$Bags", "looseEdge", "(LBagTree$Net;)I"⟩, 3), (⟨"BagTree$Bags", "holdTogether", "(I)Z"⟩, 3), (⟨"BagTree$Bags", "missingKnot", "(LBagTree$Net;)I"⟩, 3), (⟨"BagTree$Bags", "scatteredKnot", "(LBagTree$Net;)I"⟩, 3), (⟨"BagTree", "isSound", "()Z"⟩, 8), (⟨"BagTree$Net", "reached", "(II)I"⟩, 5), (⟨"BagTree", "canAsk", "()Z"⟩, 8), (⟨"BagTree", "freshTally", "()LBagTree$Tally;"⟩, 8), (⟨"BagTree$Plan", "mostJoined", "(I)I"⟩, 11), (⟨"BagTree$Plan", "takeStep", "(I)V"⟩, 11)]
theorem lw_r1 : ∀ q ∈ lw_privs_1, lw_okq q := List.forall_mem_cons.mpr ⟨lw_p0, List.forall_mem_cons.mpr ⟨lw_p1, List.forall_mem_cons.mpr ⟨lw_p2, List.forall_mem_cons.mpr ⟨lw_p3, List.forall_mem_cons.mpr ⟨lw_p4, List.forall_mem_cons.mpr ⟨lw_p5, List.forall_mem_cons.mpr ⟨lw_p6, List.forall_mem_cons.mpr ⟨lw_p7, List.forall_mem_cons.mpr ⟨lw_p8, List.forall_mem_cons.mpr ⟨lw_p9, List.forall_mem_cons.mpr ⟨lw_p10, List.forall_mem_cons.mpr ⟨lw_p11, List.forall_mem_cons.mpr ⟨lw_p12, List.forall_mem_cons.mpr ⟨lw_p13, List.forall_mem_cons.mpr ⟨lw_p14, List.forall_mem_cons.mpr ⟨lw_p15, fun _ h => absurd h List.not_mem_nil⟩⟩⟩⟩⟩⟩⟩⟩⟩⟩⟩⟩⟩⟩⟩⟩
theorem lw_p16 : lw_okq (⟨"BagTree$Tally", "sweepAgain", "()V"⟩, 17) := ⟨⟨by decide +kernel, by decide +kernel⟩, List.mem_of_getElem? (i := 572) (by decide +kernel), List.mem_of_getElem? (i := 669) (by decide +kernel), List.mem_of_getElem? (i := 670) (by decide +kernel)⟩
theorem lw_p17 : lw_okq (⟨"BagTree$Tally", "listOpenStates", "(I)V"⟩, 17) := ⟨⟨by decide +kernel, by decide +kernel⟩, List.mem_of_getElem? (i := 572) (by decide +kernel), List.mem_of_getElem? (i := 674) (by decide +kernel), List.mem_of_getElem? (i := 675) (by decide +kernel)⟩
theorem lw_p18 : lw_okq (⟨"BagTree$Tally", "fillTable", "(I)V"⟩, 17) := ⟨⟨by decide +kernel, by decide +kernel⟩, List.mem_of_getElem? (i := 572) (by decide +kernel), List.mem_of_getElem? (i := 678) (by decide +kernel), List.mem_of_getElem? (i := 679) (by decide +kernel)⟩
theorem lw_p19 : lw_okq (⟨"BagTree$Tally", "fillEntry", "(II)V"⟩, 17) := ⟨⟨by decide +kernel, by decide +kernel⟩, List.mem_of_getElem? (i := 572) (by decide +kernel), List.mem_of_getElem? (i := 682) (by decide +kernel), List.mem_of_getElem? (i := 683) (by decide +kernel)⟩
theorem lw_p20 : lw_okq (⟨"BagTree$Tally", "addEdges", "(II)Z"⟩, 17) := ⟨⟨by decide +kernel, by decide +kernel⟩, List.mem_of_getElem? (i := 572) (by decide +kernel), List.mem_of_getElem? (i := 686) (by decide +kernel), List.mem_of_getElem? (i := 687) (by decide +kernel)⟩
theorem lw_p21 : lw_okq (⟨"BagTree$Tally", "pickedState", "(I)I"⟩, 17) := ⟨⟨by decide +kernel, by decide +kernel⟩, List.mem_of_getElem? (i := 572) (by decide +kernel), List.mem_of_getElem? (i := 690) (by decide +kernel), List.mem_of_getElem? (i := 691) (by decide +kernel)⟩
theorem lw_p22 : lw_okq (⟨"BagTree$Tally", "addTables", "(I)I"⟩, 17) := ⟨⟨by decide +kernel, by decide +kernel⟩, List.mem_of_getElem? (i := 572) (by decide +kernel), List.mem_of_getElem? (i := 694) (by decide +kernel), List.mem_of_getElem? (i := 695) (by decide +kernel)⟩
theorem lw_p23 : lw_okq (⟨"BagTree$Tally", "entryOf", "(I)I"⟩, 17) := ⟨⟨by decide +kernel, by decide +kernel⟩, List.mem_of_getElem? (i := 572) (by decide +kernel), List.mem_of_getElem? (i := 698) (by decide +kernel), List.mem_of_getElem? (i := 699) (by decide +kernel)⟩
theorem lw_p24 : lw_okq (⟨"BagTree$Tally", "pickNext", "(I)V"⟩, 17) := ⟨⟨by decide +kernel, by decide +kernel⟩, List.mem_of_getElem? (i := 572) (by decide +kernel), List.mem_of_getElem? (i := 702) (by decide +kernel), List.mem_of_getElem? (i := 703) (by decide +kernel)⟩
theorem lw_p25 : lw_okq (⟨"BagTree$Tally", "settle", "(I)I"⟩, 17) := ⟨⟨by decide +kernel, by decide +kernel⟩, List.mem_of_getElem? (i := 572) (by decide +kernel), List.mem_of_getElem? (i := 726) (by decide +kernel), List.mem_of_getElem? (i := 727) (by decide +kernel)⟩
theorem lw_p26 : lw_okq (⟨"BagTreeModel", "isWeight", "(I)Z"⟩, 23) := ⟨⟨by decide +kernel, by decide +kernel⟩, List.mem_of_getElem? (i := 742) (by decide +kernel), List.mem_of_getElem? (i := 822) (by decide +kernel), List.mem_of_getElem? (i := 823) (by decide +kernel)⟩
theorem lw_p27 : lw_okq (⟨"BagTreeModel", "isKnot", "(I)Z"⟩, 23) := ⟨⟨by decide +kernel, by decide +kernel⟩, List.mem_of_getElem? (i := 742) (by decide +kernel), List.mem_of_getElem? (i := 830) (by decide +kernel), List.mem_of_getElem? (i := 831) (by decide +kernel)⟩
theorem lw_p28 : lw_okq (⟨"BagTreeModel", "isEdge", "(II)Z"⟩, 23) := ⟨⟨by decide +kernel, by decide +kernel⟩, List.mem_of_getElem? (i := 742) (by decide +kernel), List.mem_of_getElem? (i := 838) (by decide +kernel), List.mem_of_getElem? (i := 839) (by decide +kernel)⟩
theorem lw_p29 : lw_okq (⟨"BagTreeModel", "rowMask", "()I"⟩, 23) := ⟨⟨by decide +kernel, by decide +kernel⟩, List.mem_of_getElem? (i := 742) (by decide +kernel), List.mem_of_getElem? (i := 858) (by decide +kernel), List.mem_of_getElem? (i := 859) (by decide +kernel)⟩
theorem lw_p30 : lw_okq (⟨"BagTreeModel", "isOrder", "()Z"⟩, 23) := ⟨⟨by decide +kernel, by decide +kernel⟩, List.mem_of_getElem? (i := 742) (by decide +kernel), List.mem_of_getElem? (i := 874) (by decide +kernel), List.mem_of_getElem? (i := 875) (by decide +kernel)⟩
theorem lw_p31 : lw_okq (⟨"BagTreeModel", "around", "(II)I"⟩, 23) := ⟨⟨by decide +kernel, by decide +kernel⟩, List.mem_of_getElem? (i := 742) (by decide +kernel), List.mem_of_getElem? (i := 878) (by decide +kernel), List.mem_of_getElem? (i := 879) (by decide +kernel)⟩
def lw_privs_2 : List (MethodName × Nat) := [(⟨"BagTree$Tally", "sweepAgain", "()V"⟩, 17), (⟨"BagTree$Tally", "listOpenStates", "(I)V"⟩, 17), (⟨"BagTree$Tally", "fillTable", "(I)V"⟩, 17), (⟨"BagTree$Tally", "fillEntry", "(II)V"⟩, 17), (⟨"BagTree$Tally", "addEdges", "(II)Z"⟩, 17), (⟨"BagTree$Tally", "pickedState", "(I)I"⟩, 17), (⟨"BagTree$Tally", "addTables", "(I)I"⟩, 17), (⟨"BagTree$Tally", "entryOf", "(I)I"⟩, 17), (⟨"BagTree$Tally", "pickNext", "(I)V"⟩, 17), (⟨"BagTree$Tally", "settle", "(I)I"⟩, 17), (⟨"BagTreeModel", "isWeight", "(I)Z"⟩, 23), (⟨"BagTreeModel", "isKnot", "(I)Z"⟩, 23), (⟨"BagTreeModel", "isEdge", "(II)Z"⟩, 23), (⟨"BagTreeModel", "rowMask", "()I"⟩, 23), (⟨"BagTreeModel", "isOrder", "()Z"⟩, 23), (⟨"BagTreeModel", "around", "(II)I"⟩, 23)]
theorem lw_r2 : ∀ q ∈ lw_privs_2, lw_okq q := List.forall_mem_cons.mpr ⟨lw_p16, List.forall_mem_cons.mpr ⟨lw_p17, List.forall_mem_cons.mpr ⟨lw_p18, List.forall_mem_cons.mpr ⟨lw_p19, List.forall_mem_cons.mpr ⟨lw_p20, List.forall_mem_cons.mpr ⟨lw_p21, List.forall_mem_cons.mpr ⟨lw_p22, List.forall_mem_cons.mpr ⟨lw_p23, List.forall_mem_cons.mpr ⟨lw_p24, List.forall_mem_cons.mpr ⟨lw_p25, List.forall_mem_cons.mpr ⟨lw_p26, List.forall_mem_cons.mpr ⟨lw_p27, List.forall_mem_cons.mpr ⟨lw_p28, List.forall_mem_cons.mpr ⟨lw_p29, List.forall_mem_cons.mpr ⟨lw_p30, List.forall_mem_cons.mpr ⟨lw_p31, fun _ h => absurd h List.not_mem_nil⟩⟩⟩⟩⟩⟩⟩⟩⟩⟩⟩⟩⟩⟩⟩⟩
theorem lw_p32 : lw_okq (⟨"BagTreeModel", "bits", "(I)I"⟩, 23) := ⟨⟨by decide +kernel, by decide +kernel⟩, List.mem_of_getElem? (i := 742) (by decide +kernel), List.mem_of_getElem? (i := 886) (by decide +kernel), List.mem_of_getElem? (i := 887) (by decide +kernel)⟩
theorem lw_p33 : lw_okq (⟨"BagTreeModel", "rowWidth", "()I"⟩, 23) := ⟨⟨by decide +kernel, by decide +kernel⟩, List.mem_of_getElem? (i := 742) (by decide +kernel), List.mem_of_getElem? (i := 898) (by decide +kernel), List.mem_of_getElem? (i := 899) (by decide +kernel)⟩
theorem lw_p34 : lw_okq (⟨"BagTreeModel", "all", "()I"⟩, 23) := ⟨⟨by decide +kernel, by decide +kernel⟩, List.mem_of_getElem? (i := 742) (by decide +kernel), List.mem_of_getElem? (i := 906) (by decide +kernel), List.mem_of_getElem? (i := 907) (by decide +kernel)⟩
theorem lw_p35 : lw_okq (⟨"BagTreeModel", "inOne", "(I)Z"⟩, 23) := ⟨⟨by decide +kernel, by decide +kernel⟩, List.mem_of_getElem? (i := 742) (by decide +kernel), List.mem_of_getElem? (i := 934) (by decide +kernel), List.mem_of_getElem? (i := 935) (by decide +kernel)⟩
theorem lw_p36 : lw_okq (⟨"BagTreeModel", "isState", "(I)Z"⟩, 23) := ⟨⟨by decide +kernel, by decide +kernel⟩, List.mem_of_getElem? (i := 742) (by decide +kernel), List.mem_of_getElem? (i := 952) (by decide +kernel), List.mem_of_getElem? (i := 953) (by decide +kernel)⟩
theorem lw_p37 : lw_okq (⟨"BagTreeModel", "isFactor", "(I)Z"⟩, 23) := ⟨⟨by decide +kernel, by decide +kernel⟩, List.mem_of_getElem? (i := 742) (by decide +kernel), List.mem_of_getElem? (i := 956) (by decide +kernel), List.mem_of_getElem? (i := 957) (by decide +kernel)⟩
theorem lw_p38 : lw_okq (⟨"BagTreeModel", "isAsked", "()Z"⟩, 23) := ⟨⟨by decide +kernel, by decide +kernel⟩, List.mem_of_getElem? (i := 742) (by decide +kernel), List.mem_of_getElem? (i := 972) (by decide +kernel), List.mem_of_getElem? (i := 973) (by decide +kernel)⟩
theorem lw_p39 : lw_okq (⟨"BagTreeModel", "free", "()V"⟩, 23) := ⟨⟨by decide +kernel, by decide +kernel⟩, List.mem_of_getElem? (i := 742) (by decide +kernel), List.mem_of_getElem? (i := 977) (by decide +kernel), List.mem_of_getElem? (i := 978) (by decide +kernel)⟩
theorem lw_p40 : lw_okq (⟨"BagTreeModel", "ask", "(Z)V"⟩, 23) := ⟨⟨by decide +kernel, by decide +kernel⟩, List.mem_of_getElem? (i := 742) (by decide +kernel), List.mem_of_getElem? (i := 981) (by decide +kernel), List.mem_of_getElem? (i := 982) (by decide +kernel)⟩
theorem lw_p41 : lw_okq (⟨"BagTreeModel", "take", "(II)Z"⟩, 23) := ⟨⟨by decide +kernel, by decide +kernel⟩, List.mem_of_getElem? (i := 742) (by decide +kernel), List.mem_of_getElem? (i := 985) (by decide +kernel), List.mem_of_getElem? (i := 986) (by decide +kernel)⟩
theorem lw_p42 : lw_okq (⟨"BagTreeModel", "mayBe", "(II)Z"⟩, 23) := ⟨⟨by decide +kernel, by decide +kernel⟩, List.mem_of_getElem? (i := 742) (by decide +kernel), List.mem_of_getElem? (i := 989) (by decide +kernel), List.mem_of_getElem? (i := 990) (by decide +kernel)⟩
theorem lw_p43 : lw_okq (⟨"BagTreeModel", "own", "(I)J"⟩, 23) := ⟨⟨by decide +kernel, by decide +kernel⟩, List.mem_of_getElem? (i := 742) (by decide +kernel), List.mem_of_getElem? (i := 993) (by decide +kernel), List.mem_of_getElem? (i := 994) (by decide +kernel)⟩
theorem lw_p44 : lw_okq (⟨"BagTreeModel", "isFirst", "(II)Z"⟩, 23) := ⟨⟨by decide +kernel, by decide +kernel⟩, List.mem_of_getElem? (i := 742) (by decide +kernel), List.mem_of_getElem? (i := 997) (by decide +kernel), List.mem_of_getElem? (i := 998) (by decide +kernel)⟩
theorem lw_p45 : lw_okq (⟨"BagTreeModel", "code", "(I)I"⟩, 23) := ⟨⟨by decide +kernel, by decide +kernel⟩, List.mem_of_getElem? (i := 742) (by decide +kernel), List.mem_of_getElem? (i := 1001) (by decide +kernel), List.mem_of_getElem? (i := 1002) (by decide +kernel)⟩
theorem lw_p46 : lw_okq (⟨"BagTreeModel", "put", "(IJJJZ)V"⟩, 23) := ⟨⟨by decide +kernel, by decide +kernel⟩, List.mem_of_getElem? (i := 742) (by decide +kernel), List.mem_of_getElem? (i := 1005) (by decide +kernel), List.mem_of_getElem? (i := 1006) (by decide +kernel)⟩
def lw_privs_3 : List (MethodName × Nat) := [(⟨"BagTreeModel", "bits", "(I)I"⟩, 23), (⟨"BagTreeModel", "rowWidth", "()I"⟩, 23), (⟨"BagTreeModel", "all", "()I"⟩, 23), (⟨"BagTreeModel", "inOne", "(I)Z"⟩, 23), (⟨"BagTreeModel", "isState", "(I)Z"⟩, 23), (⟨"BagTreeModel", "isFactor", "(I)Z"⟩, 23), (⟨"BagTreeModel", "isAsked", "()Z"⟩, 23), (⟨"BagTreeModel", "free", "()V"⟩, 23), (⟨"BagTreeModel", "ask", "(Z)V"⟩, 23), (⟨"BagTreeModel", "take", "(II)Z"⟩, 23), (⟨"BagTreeModel", "mayBe", "(II)Z"⟩, 23), (⟨"BagTreeModel", "own", "(I)J"⟩, 23), (⟨"BagTreeModel", "isFirst", "(II)Z"⟩, 23), (⟨"BagTreeModel", "code", "(I)I"⟩, 23), (⟨"BagTreeModel", "put", "(IJJJZ)V"⟩, 23)]
theorem lw_r3 : ∀ q ∈ lw_privs_3, lw_okq q := List.forall_mem_cons.mpr ⟨lw_p32, List.forall_mem_cons.mpr ⟨lw_p33, List.forall_mem_cons.mpr ⟨lw_p34, List.forall_mem_cons.mpr ⟨lw_p35, List.forall_mem_cons.mpr ⟨lw_p36, List.forall_mem_cons.mpr ⟨lw_p37, List.forall_mem_cons.mpr ⟨lw_p38, List.forall_mem_cons.mpr ⟨lw_p39, List.forall_mem_cons.mpr ⟨lw_p40, List.forall_mem_cons.mpr ⟨lw_p41, List.forall_mem_cons.mpr ⟨lw_p42, List.forall_mem_cons.mpr ⟨lw_p43, List.forall_mem_cons.mpr ⟨lw_p44, List.forall_mem_cons.mpr ⟨lw_p45, List.forall_mem_cons.mpr ⟨lw_p46, fun _ h => absurd h List.not_mem_nil⟩⟩⟩⟩⟩⟩⟩⟩⟩⟩⟩⟩⟩⟩⟩
def lw_privs : List (MethodName × Nat) := lw_privs_1 ++ (lw_privs_2 ++ (lw_privs_3))
def lw_tbl : List Cond := k2_sels lw_privs ++ tables_1
theorem lw_privs_ok : ∀ q ∈ lw_privs, lw_okq q := by
  show ∀ q ∈ lw_privs_1 ++ (lw_privs_2 ++ (lw_privs_3)), lw_okq q
  exact List.forall_mem_append.mpr ⟨lw_r1, List.forall_mem_append.mpr ⟨lw_r2, lw_r3⟩⟩
end
section
def RX0 : String := "BagTree$Bags"
def TX0 : u_T := fun k => match k with
  | 0 => ("BagTree$Bags", "masks", "[I", true)
  | 1 => ("BagTree$Bags", "ups", "[I", true)
  | _ => ("BagTree$Bags", "size", "I", false)
def tyX0 : Nat → FieldType := fun k => match k with
  | 0 => .array .int
  | 1 => .array .int
  | _ => .int
abbrev wsX00 : List Cond := u_ws RX0 TX0 3
theorem nmX0 : ∀ a, a < 3 → ∀ b, b < 3 → a ≠ b → (TX0 a).2.1 ≠ (TX0 b).2.1 := by decide +kernel
theorem tyX0_ok : ∀ k, k < 3 → parseFieldDescriptor (TX0 k).2.2.1 = some (tyX0 k) := by decide +kernel
abbrev cX0_init : ByteArray := prog_2_method_1_code
def yX0_init : MethodName := ⟨RX0, "<init>", "()V"⟩
abbrev cX0_has : ByteArray := prog_2_method_2_code
def yX0_has : MethodName := ⟨RX0, "has", "(I)Z"⟩
abbrev cX0_empty : ByteArray := prog_2_method_3_code
def yX0_empty : MethodName := ⟨RX0, "empty", "()V"⟩
abbrev cX0_append : ByteArray := prog_2_method_4_code
def yX0_append : MethodName := ⟨RX0, "append", "(I)I"⟩
abbrev cX0_takeApart : ByteArray := prog_2_method_5_code
def yX0_takeApart : MethodName := ⟨RX0, "takeApart", "(LBagTree$KnotRow;LBagTree$Going;)V"⟩
abbrev cX0_mostKnots : ByteArray := prog_2_method_6_code
def yX0_mostKnots : MethodName := ⟨RX0, "mostKnots", "()I"⟩
abbrev cX0_hangingOn : ByteArray := prog_2_method_7_code
def yX0_hangingOn : MethodName := ⟨RX0, "hangingOn", "(I)I"⟩
abbrev cX0_endingIn : ByteArray := prog_2_method_8_code
def yX0_endingIn : MethodName := ⟨RX0, "endingIn", "(I)I"⟩
abbrev cX0_matesOf : ByteArray := prog_2_method_9_code
def yX0_matesOf : MethodName := ⟨RX0, "matesOf", "(I)I"⟩
abbrev cX0_fault : ByteArray := prog_2_method_10_code
def yX0_fault : MethodName := ⟨RX0, "fault", "(LBagTree$Net;)I"⟩
abbrev cX0_looseEdge : ByteArray := prog_2_method_11_code
def yX0_looseEdge : MethodName := ⟨RX0, "looseEdge", "(LBagTree$Net;)I"⟩
abbrev cX0_holdTogether : ByteArray := prog_2_method_12_code
def yX0_holdTogether : MethodName := ⟨RX0, "holdTogether", "(I)Z"⟩
abbrev cX0_missingKnot : ByteArray := prog_2_method_13_code
def yX0_missingKnot : MethodName := ⟨RX0, "missingKnot", "(LBagTree$Net;)I"⟩
abbrev cX0_scatteredKnot : ByteArray := prog_2_method_14_code
def yX0_scatteredKnot : MethodName := ⟨RX0, "scatteredKnot", "(LBagTree$Net;)I"⟩
def RX1 : String := "BagTree$Going"
def TX1 : u_T := fun k => match k with
  | 0 => ("BagTree$Going", "near", "[I", true)
  | 1 => ("BagTree$Going", "left", "I", false)
  | _ => ("BagTree$Going", "newEnds", "I", false)
def tyX1 : Nat → FieldType := fun k => match k with
  | 0 => .array .int
  | 1 => .int
  | _ => .int
abbrev wsX10 : List Cond := u_ws RX1 TX1 3
theorem nmX1 : ∀ a, a < 3 → ∀ b, b < 3 → a ≠ b → (TX1 a).2.1 ≠ (TX1 b).2.1 := by decide +kernel
theorem tyX1_ok : ∀ k, k < 3 → parseFieldDescriptor (TX1 k).2.2.1 = some (tyX1 k) := by decide +kernel
abbrev cX1_init : ByteArray := prog_3_method_1_code
def yX1_init : MethodName := ⟨RX1, "<init>", "()V"⟩
abbrev cX1_start : ByteArray := prog_3_method_2_code
def yX1_start : MethodName := ⟨RX1, "start", "(LBagTree$Net;)V"⟩
abbrev cX1_startAs : ByteArray := prog_3_method_3_code
def yX1_startAs : MethodName := ⟨RX1, "startAs", "(LBagTree$Going;)V"⟩
abbrev cX1_letGo : ByteArray := prog_3_method_4_code
def yX1_letGo : MethodName := ⟨RX1, "letGo", "(I)V"⟩
abbrev cX1_takeAway : ByteArray := prog_3_method_5_code
def yX1_takeAway : MethodName := ⟨RX1, "takeAway", "(I)V"⟩
abbrev cX1_loneliest : ByteArray := prog_3_method_6_code
def yX1_loneliest : MethodName := ⟨RX1, "loneliest", "()I"⟩
abbrev cX1_harmless : ByteArray := prog_3_method_7_code
def yX1_harmless : MethodName := ⟨RX1, "harmless", "(I)I"⟩
abbrev cX1_isNearlyJoined : ByteArray := prog_3_method_8_code
def yX1_isNearlyJoined : MethodName := ⟨RX1, "isNearlyJoined", "(I)Z"⟩
def RX2 : String := "BagTree$KnotRow"
def TX2 : u_T := fun k => match k with
  | 0 => ("BagTree$KnotRow", "knots", "[I", true)
  | 1 => ("BagTree$KnotRow", "size", "I", false)
  | _ => ("BagTree$KnotRow", "held", "I", false)
def tyX2 : Nat → FieldType := fun k => match k with
  | 0 => .array .int
  | 1 => .int
  | _ => .int
abbrev wsX20 : List Cond := u_ws RX2 TX2 3
theorem nmX2 : ∀ a, a < 3 → ∀ b, b < 3 → a ≠ b → (TX2 a).2.1 ≠ (TX2 b).2.1 := by decide +kernel
theorem tyX2_ok : ∀ k, k < 3 → parseFieldDescriptor (TX2 k).2.2.1 = some (tyX2 k) := by decide +kernel
abbrev cX2_init : ByteArray := prog_4_method_1_code
def yX2_init : MethodName := ⟨RX2, "<init>", "()V"⟩
abbrev cX2_holds : ByteArray := prog_4_method_2_code
def yX2_holds : MethodName := ⟨RX2, "holds", "(I)Z"⟩
abbrev cX2_append : ByteArray := prog_4_method_3_code
def yX2_append : MethodName := ⟨RX2, "append", "(I)V"⟩
abbrev cX2_empty : ByteArray := prog_4_method_4_code
def yX2_empty : MethodName := ⟨RX2, "empty", "()V"⟩
abbrev cX2_nextPlace : ByteArray := prog_4_method_5_code
def yX2_nextPlace : MethodName := ⟨RX2, "nextPlace", "(II)I"⟩
def RX3 : String := "BagTree$Law"
def TX3 : u_T := fun k => match k with
  | 0 => ("BagTree$Law", "size", "I", false)
  | 1 => ("BagTree$Law", "factors", "[I", true)
  | 2 => ("BagTree$Law", "pairFactors", "[I", true)
  | 3 => ("BagTree$Law", "barred", "[Z", true)
  | _ => ("BagTree$Law", "forbidden", "[I", true)
def tyX3 : Nat → FieldType := fun k => match k with
  | 0 => .int
  | 1 => .array .int
  | 2 => .array .int
  | 3 => .array .boolean
  | _ => .array .int
abbrev wsX30 : List Cond := u_ws RX3 TX3 5
theorem nmX3 : ∀ a, a < 5 → ∀ b, b < 5 → a ≠ b → (TX3 a).2.1 ≠ (TX3 b).2.1 := by decide +kernel
theorem tyX3_ok : ∀ k, k < 5 → parseFieldDescriptor (TX3 k).2.2.1 = some (tyX3 k) := by decide +kernel
abbrev cX3_init : ByteArray := prog_5_method_1_code
def yX3_init : MethodName := ⟨RX3, "<init>", "()V"⟩
abbrev cX3_has : ByteArray := prog_5_method_2_code
def yX3_has : MethodName := ⟨RX3, "has", "(I)Z"⟩
abbrev cX3_startAgain : ByteArray := prog_5_method_3_code
def yX3_startAgain : MethodName := ⟨RX3, "startAgain", "(I)V"⟩
abbrev cX3_setPair : ByteArray := prog_5_method_4_code
def yX3_setPair : MethodName := ⟨RX3, "setPair", "(IIZI)V"⟩
abbrev cX3_openFor : ByteArray := prog_5_method_5_code
def yX3_openFor : MethodName := ⟨RX3, "openFor", "(I)I"⟩
def RX4 : String := "BagTree$Net"
def TX4 : u_T := fun k => match k with
  | 0 => ("BagTree$Net", "loads", "[I", true)
  | 1 => ("BagTree$Net", "near", "[I", true)
  | 2 => ("BagTree$Net", "ties", "[I", true)
  | 3 => ("BagTree$Net", "size", "I", false)
  | _ => ("BagTree$Net", "edges", "I", false)
def tyX4 : Nat → FieldType := fun k => match k with
  | 0 => .array .int
  | 1 => .array .int
  | 2 => .array .int
  | 3 => .int
  | _ => .int
abbrev wsX40 : List Cond := u_ws RX4 TX4 5
theorem nmX4 : ∀ a, a < 5 → ∀ b, b < 5 → a ≠ b → (TX4 a).2.1 ≠ (TX4 b).2.1 := by decide +kernel
theorem tyX4_ok : ∀ k, k < 5 → parseFieldDescriptor (TX4 k).2.2.1 = some (tyX4 k) := by decide +kernel
abbrev cX4_init : ByteArray := prog_6_method_1_code
def yX4_init : MethodName := ⟨RX4, "<init>", "()V"⟩
abbrev cX4_has : ByteArray := prog_6_method_2_code
def yX4_has : MethodName := ⟨RX4, "has", "(I)Z"⟩
abbrev cX4_everyKnot : ByteArray := prog_6_method_3_code
def yX4_everyKnot : MethodName := ⟨RX4, "everyKnot", "()I"⟩
abbrev cX4_joined : ByteArray := prog_6_method_4_code
def yX4_joined : MethodName := ⟨RX4, "joined", "(II)Z"⟩
abbrev cX4_addKnot : ByteArray := prog_6_method_5_code
def yX4_addKnot : MethodName := ⟨RX4, "addKnot", "(I)I"⟩
abbrev cX4_join : ByteArray := prog_6_method_6_code
def yX4_join : MethodName := ⟨RX4, "join", "(III)Z"⟩
abbrev cX4_part : ByteArray := prog_6_method_7_code
def yX4_part : MethodName := ⟨RX4, "part", "(II)I"⟩
abbrev cX4_largestPart : ByteArray := prog_6_method_8_code
def yX4_largestPart : MethodName := ⟨RX4, "largestPart", "(I)I"⟩
abbrev cX4_reached : ByteArray := prog_6_method_9_code
def yX4_reached : MethodName := ⟨RX4, "reached", "(II)I"⟩
def RX5 : String := "BagTree$Plan"
def TX5 : u_T := fun k => match k with
  | 0 => ("BagTree$Plan", "knots", "[I", true)
  | 1 => ("BagTree$Plan", "others", "[I", true)
  | 2 => ("BagTree$Plan", "otherCount", "[I", true)
  | 3 => ("BagTree$Plan", "scopes", "[I", true)
  | 4 => ("BagTree$Plan", "users", "[I", true)
  | 5 => ("BagTree$Plan", "feeders", "[I", true)
  | 6 => ("BagTree$Plan", "feederCount", "[I", true)
  | 7 => ("BagTree$Plan", "size", "I", false)
  | 8 => ("BagTree$Plan", "places", "[I", true)
  | 9 => ("BagTree$Plan", "bagMates", "[I", true)
  | _ => ("BagTree$Plan", "going", "LBagTree$Going;", true)
def tyX5 : Nat → FieldType := fun k => match k with
  | 0 => .array .int
  | 1 => .array .int
  | 2 => .array .int
  | 3 => .array .int
  | 4 => .array .int
  | 5 => .array .int
  | 6 => .array .int
  | 7 => .int
  | 8 => .array .int
  | 9 => .array .int
  | _ => .object "BagTree$Going"
abbrev wsX50 : List Cond := u_ws RX5 TX5 11
theorem nmX5 : ∀ a, a < 11 → ∀ b, b < 11 → a ≠ b → (TX5 a).2.1 ≠ (TX5 b).2.1 := by decide +kernel
theorem tyX5_ok : ∀ k, k < 11 → parseFieldDescriptor (TX5 k).2.2.1 = some (tyX5 k) := by decide +kernel
abbrev cX5_init : ByteArray := prog_7_method_1_code
def yX5_init : MethodName := ⟨RX5, "<init>", "()V"⟩
abbrev cX5_lay : ByteArray := prog_7_method_2_code
def yX5_lay : MethodName := ⟨RX5, "lay", "(LBagTree$Net;LBagTree$Bags;)V"⟩
abbrev cX5_mostJoined : ByteArray := prog_7_method_3_code
def yX5_mostJoined : MethodName := ⟨RX5, "mostJoined", "(I)I"⟩
abbrev cX5_takeStep : ByteArray := prog_7_method_4_code
def yX5_takeStep : MethodName := ⟨RX5, "takeStep", "(I)V"⟩
def RX6 : String := "BagTree$Search"
def TX6 : u_T := fun k => match k with
  | 0 => ("BagTree$Search", "rest", "LBagTree$Going;", true)
  | 1 => ("BagTree$Search", "levels", "[LBagTree$Going;", true)
  | 2 => ("BagTree$Search", "stuck", "[J", true)
  | _ => ("BagTree$Search", "limit", "I", false)
def tyX6 : Nat → FieldType := fun k => match k with
  | 0 => .object "BagTree$Going"
  | 1 => .array (.object "BagTree$Going")
  | 2 => .array .long
  | _ => .int
abbrev wsX60 : List Cond := u_ws RX6 TX6 4
theorem nmX6 : ∀ a, a < 4 → ∀ b, b < 4 → a ≠ b → (TX6 a).2.1 ≠ (TX6 b).2.1 := by decide +kernel
theorem tyX6_ok : ∀ k, k < 4 → parseFieldDescriptor (TX6 k).2.2.1 = some (tyX6 k) := by decide +kernel
abbrev cX6_init : ByteArray := prog_8_method_1_code
def yX6_init : MethodName := ⟨RX6, "<init>", "()V"⟩
abbrev cX6_bestOrder : ByteArray := prog_8_method_2_code
def yX6_bestOrder : MethodName := ⟨RX6, "bestOrder", "(LBagTree$Net;LBagTree$KnotRow;I)I"⟩
abbrev cX6_netFits : ByteArray := prog_8_method_3_code
def yX6_netFits : MethodName := ⟨RX6, "netFits", "(LBagTree$Net;I)Z"⟩
abbrev cX6_fitsBehind : ByteArray := prog_8_method_4_code
def yX6_fitsBehind : MethodName := ⟨RX6, "fitsBehind", "(LBagTree$Going;II)Z"⟩
abbrev cX6_fits : ByteArray := prog_8_method_5_code
def yX6_fits : MethodName := ⟨RX6, "fits", "(I)Z"⟩
abbrev cX6_isStuck : ByteArray := prog_8_method_6_code
def yX6_isStuck : MethodName := ⟨RX6, "isStuck", "(I)Z"⟩
def RX7 : String := "BagTree$Tally"
def TX7 : u_T := fun k => match k with
  | 0 => ("BagTree$Tally", "open", "[I", true)
  | 1 => ("BagTree$Tally", "sum", "I", false)
  | 2 => ("BagTree$Tally", "many", "I", false)
  | 3 => ("BagTree$Tally", "net", "LBagTree$Net;", true)
  | 4 => ("BagTree$Tally", "law", "LBagTree$Law;", true)
  | 5 => ("BagTree$Tally", "plan", "LBagTree$Plan;", true)
  | 6 => ("BagTree$Tally", "openStates", "[I", true)
  | 7 => ("BagTree$Tally", "openCount", "[I", true)
  | 8 => ("BagTree$Tally", "picks", "[I", true)
  | 9 => ("BagTree$Tally", "strides", "[I", true)
  | 10 => ("BagTree$Tally", "sums", "[I", true)
  | 11 => ("BagTree$Tally", "counts", "[I", true)
  | 12 => ("BagTree$Tally", "sign", "I", false)
  | 13 => ("BagTree$Tally", "changed", "I", false)
  | 14 => ("BagTree$Tally", "pickedSum", "I", false)
  | 15 => ("BagTree$Tally", "aim", "I", false)
  | _ => ("BagTree$Tally", "before", "J", false)
def tyX7 : Nat → FieldType := fun k => match k with
  | 0 => .array .int
  | 1 => .int
  | 2 => .int
  | 3 => .object "BagTree$Net"
  | 4 => .object "BagTree$Law"
  | 5 => .object "BagTree$Plan"
  | 6 => .array .int
  | 7 => .array .int
  | 8 => .array .int
  | 9 => .array .int
  | 10 => .array .int
  | 11 => .array .int
  | 12 => .int
  | 13 => .int
  | 14 => .int
  | 15 => .int
  | _ => .long
abbrev wsX70 : List Cond := u_ws RX7 TX7 17
theorem nmX7 : ∀ a, a < 17 → ∀ b, b < 17 → a ≠ b → (TX7 a).2.1 ≠ (TX7 b).2.1 := by decide +kernel
theorem tyX7_ok : ∀ k, k < 17 → parseFieldDescriptor (TX7 k).2.2.1 = some (tyX7 k) := by decide +kernel
abbrev cX7_init : ByteArray := prog_9_method_1_code
def yX7_init : MethodName := ⟨RX7, "<init>", "(LBagTree$Net;LBagTree$Law;LBagTree$Plan;)V"⟩
abbrev cX7_openAll : ByteArray := prog_9_method_2_code
def yX7_openAll : MethodName := ⟨RX7, "openAll", "()V"⟩
abbrev cX7_sweep : ByteArray := prog_9_method_3_code
def yX7_sweep : MethodName := ⟨RX7, "sweep", "(I)V"⟩
abbrev cX7_sweepAgain : ByteArray := prog_9_method_4_code
def yX7_sweepAgain : MethodName := ⟨RX7, "sweepAgain", "()V"⟩
abbrev cX7_stateInWay : ByteArray := prog_9_method_5_code
def yX7_stateInWay : MethodName := ⟨RX7, "stateInWay", "(IJI)I"⟩
abbrev cX7_settle : ByteArray := prog_9_method_6_code
def yX7_settle : MethodName := ⟨RX7, "settle", "(I)I"⟩
abbrev cX7_listOpenStates : ByteArray := prog_9_method_7_code
def yX7_listOpenStates : MethodName := ⟨RX7, "listOpenStates", "(I)V"⟩
abbrev cX7_fillTable : ByteArray := prog_9_method_8_code
def yX7_fillTable : MethodName := ⟨RX7, "fillTable", "(I)V"⟩
abbrev cX7_pickNext : ByteArray := prog_9_method_9_code
def yX7_pickNext : MethodName := ⟨RX7, "pickNext", "(I)V"⟩
abbrev cX7_fillEntry : ByteArray := prog_9_method_10_code
def yX7_fillEntry : MethodName := ⟨RX7, "fillEntry", "(II)V"⟩
abbrev cX7_addEdges : ByteArray := prog_9_method_11_code
def yX7_addEdges : MethodName := ⟨RX7, "addEdges", "(II)Z"⟩
abbrev cX7_pickedState : ByteArray := prog_9_method_12_code
def yX7_pickedState : MethodName := ⟨RX7, "pickedState", "(I)I"⟩
abbrev cX7_addTables : ByteArray := prog_9_method_13_code
def yX7_addTables : MethodName := ⟨RX7, "addTables", "(I)I"⟩
abbrev cX7_entryOf : ByteArray := prog_9_method_14_code
def yX7_entryOf : MethodName := ⟨RX7, "entryOf", "(I)I"⟩
def RX8 : String := "BagTree"
def TX8 : u_T := fun k => match k with
  | 0 => ("BagTree", "net", "LBagTree$Net;", true)
  | 1 => ("BagTree", "order", "LBagTree$KnotRow;", true)
  | 2 => ("BagTree", "bags", "LBagTree$Bags;", true)
  | 3 => ("BagTree", "law", "LBagTree$Law;", true)
  | 4 => ("BagTree", "going", "LBagTree$Going;", true)
  | 5 => ("BagTree", "plan", "LBagTree$Plan;", true)
  | 6 => ("BagTree", "search", "LBagTree$Search;", false)
  | _ => ("BagTree", "tally", "LBagTree$Tally;", false)
def tyX8 : Nat → FieldType := fun k => match k with
  | 0 => .object "BagTree$Net"
  | 1 => .object "BagTree$KnotRow"
  | 2 => .object "BagTree$Bags"
  | 3 => .object "BagTree$Law"
  | 4 => .object "BagTree$Going"
  | 5 => .object "BagTree$Plan"
  | 6 => .object "BagTree$Search"
  | _ => .object "BagTree$Tally"
abbrev wsX80 : List Cond := u_ws RX8 TX8 8
theorem nmX8 : ∀ a, a < 8 → ∀ b, b < 8 → a ≠ b → (TX8 a).2.1 ≠ (TX8 b).2.1 := by decide +kernel
theorem tyX8_ok : ∀ k, k < 8 → parseFieldDescriptor (TX8 k).2.2.1 = some (tyX8 k) := by decide +kernel
abbrev cX8_init : ByteArray := prog_1_method_1_code
def yX8_init : MethodName := ⟨RX8, "<init>", "()V"⟩
abbrev cX8_knot : ByteArray := prog_1_method_2_code
def yX8_knot : MethodName := ⟨RX8, "knot", "(I)I"⟩
abbrev cX8_edge : ByteArray := prog_1_method_3_code
def yX8_edge : MethodName := ⟨RX8, "edge", "(III)I"⟩
abbrev cX8_cut : ByteArray := prog_1_method_4_code
def yX8_cut : MethodName := ⟨RX8, "cut", "(II)I"⟩
abbrev cX8_weigh : ByteArray := prog_1_method_5_code
def yX8_weigh : MethodName := ⟨RX8, "weigh", "(II)I"⟩
abbrev cX8_weight : ByteArray := prog_1_method_6_code
def yX8_weight : MethodName := ⟨RX8, "weight", "(II)I"⟩
abbrev cX8_beside : ByteArray := prog_1_method_7_code
def yX8_beside : MethodName := ⟨RX8, "beside", "(I)I"⟩
abbrev cX8_put : ByteArray := prog_1_method_8_code
def yX8_put : MethodName := ⟨RX8, "put", "(I)I"⟩
abbrev cX8_wipe : ByteArray := prog_1_method_9_code
def yX8_wipe : MethodName := ⟨RX8, "wipe", "()I"⟩
abbrev cX8_make : ByteArray := prog_1_method_10_code
def yX8_make : MethodName := ⟨RX8, "make", "()I"⟩
abbrev cX8_fills : ByteArray := prog_1_method_11_code
def yX8_fills : MethodName := ⟨RX8, "fills", "()I"⟩
abbrev cX8_fewest : ByteArray := prog_1_method_12_code
def yX8_fewest : MethodName := ⟨RX8, "fewest", "()I"⟩
abbrev cX8_least : ByteArray := prog_1_method_13_code
def yX8_least : MethodName := ⟨RX8, "least", "()I"⟩
abbrev cX8_row : ByteArray := prog_1_method_14_code
def yX8_row : MethodName := ⟨RX8, "row", "(I)I"⟩
abbrev cX8_below : ByteArray := prog_1_method_15_code
def yX8_below : MethodName := ⟨RX8, "below", "()I"⟩
abbrev cX8_clear : ByteArray := prog_1_method_16_code
def yX8_clear : MethodName := ⟨RX8, "clear", "()I"⟩
abbrev cX8_bag : ByteArray := prog_1_method_17_code
def yX8_bag : MethodName := ⟨RX8, "bag", "(I)I"⟩
abbrev cX8_hang : ByteArray := prog_1_method_18_code
def yX8_hang : MethodName := ⟨RX8, "hang", "(II)I"⟩
abbrev cX8_bagged : ByteArray := prog_1_method_19_code
def yX8_bagged : MethodName := ⟨RX8, "bagged", "(II)I"⟩
abbrev cX8_sound : ByteArray := prog_1_method_20_code
def yX8_sound : MethodName := ⟨RX8, "sound", "()I"⟩
abbrev cX8_width : ByteArray := prog_1_method_21_code
def yX8_width : MethodName := ⟨RX8, "width", "()I"⟩
abbrev cX8_separator : ByteArray := prog_1_method_22_code
def yX8_separator : MethodName := ⟨RX8, "separator", "()I"⟩
abbrev cX8_states : ByteArray := prog_1_method_23_code
def yX8_states : MethodName := ⟨RX8, "states", "(I)I"⟩
abbrev cX8_factor : ByteArray := prog_1_method_24_code
def yX8_factor : MethodName := ⟨RX8, "factor", "(II)I"⟩
abbrev cX8_pair : ByteArray := prog_1_method_25_code
def yX8_pair : MethodName := ⟨RX8, "pair", "(IIII)I"⟩
abbrev cX8_forbid : ByteArray := prog_1_method_26_code
def yX8_forbid : MethodName := ⟨RX8, "forbid", "(II)I"⟩
abbrev cX8_ways : ByteArray := prog_1_method_27_code
def yX8_ways : MethodName := ⟨RX8, "ways", "()J"⟩
abbrev cX8_best : ByteArray := prog_1_method_28_code
def yX8_best : MethodName := ⟨RX8, "best", "(Z)J"⟩
abbrev cX8_bests : ByteArray := prog_1_method_29_code
def yX8_bests : MethodName := ⟨RX8, "bests", "(Z)J"⟩
abbrev cX8_choice : ByteArray := prog_1_method_30_code
def yX8_choice : MethodName := ⟨RX8, "choice", "(ZI)I"⟩
abbrev cX8_drawn : ByteArray := prog_1_method_31_code
def yX8_drawn : MethodName := ⟨RX8, "drawn", "(JI)I"⟩
abbrev cX8_share : ByteArray := prog_1_method_32_code
def yX8_share : MethodName := ⟨RX8, "share", "(II)J"⟩
abbrev cX8_count : ByteArray := prog_1_method_33_code
def yX8_count : MethodName := ⟨RX8, "count", "(I)I"⟩
abbrev cX8_isWeight : ByteArray := prog_1_method_34_code
def yX8_isWeight : MethodName := ⟨RX8, "isWeight", "(I)Z"⟩
abbrev cX8_isFactor : ByteArray := prog_1_method_35_code
def yX8_isFactor : MethodName := ⟨RX8, "isFactor", "(I)Z"⟩
abbrev cX8_signOf : ByteArray := prog_1_method_36_code
def yX8_signOf : MethodName := ⟨RX8, "signOf", "(Z)I"⟩
abbrev cX8_hasBit : ByteArray := prog_1_method_37_code
def yX8_hasBit : MethodName := ⟨RX8, "hasBit", "(II)Z"⟩
abbrev cX8_isSound : ByteArray := prog_1_method_38_code
def yX8_isSound : MethodName := ⟨RX8, "isSound", "()Z"⟩
abbrev cX8_canAsk : ByteArray := prog_1_method_39_code
def yX8_canAsk : MethodName := ⟨RX8, "canAsk", "()Z"⟩
abbrev cX8_freshTally : ByteArray := prog_1_method_40_code
def yX8_freshTally : MethodName := ⟨RX8, "freshTally", "()LBagTree$Tally;"⟩
abbrev cX8_lowerBound : ByteArray := prog_1_method_41_code
def yX8_lowerBound : MethodName := ⟨RX8, "lowerBound", "()I"⟩
def RX9 : String := "BagTreeModel"
def TX9 : u_T := fun k => match k with
  | 0 => ("BagTreeModel", "knots", "I", false)
  | 1 => ("BagTreeModel", "weight", "[I", true)
  | 2 => ("BagTreeModel", "beside", "[I", true)
  | 3 => ("BagTreeModel", "edge", "[I", true)
  | 4 => ("BagTreeModel", "rowed", "I", false)
  | 5 => ("BagTreeModel", "row", "[I", true)
  | 6 => ("BagTreeModel", "bags", "I", false)
  | 7 => ("BagTreeModel", "bag", "[I", true)
  | 8 => ("BagTreeModel", "up", "[I", true)
  | 9 => ("BagTreeModel", "least", "[I", true)
  | 10 => ("BagTreeModel", "q", "I", false)
  | 11 => ("BagTreeModel", "factor", "[I", true)
  | 12 => ("BagTreeModel", "pairFactor", "[I", true)
  | 13 => ("BagTreeModel", "forbidden", "[I", true)
  | 14 => ("BagTreeModel", "mayNot", "[Z", true)
  | 15 => ("BagTreeModel", "fixed", "[I", true)
  | 16 => ("BagTreeModel", "state", "[I", true)
  | 17 => ("BagTreeModel", "count", "[J", true)
  | 18 => ("BagTreeModel", "best", "[J", true)
  | 19 => ("BagTreeModel", "bests", "[J", true)
  | 20 => ("BagTreeModel", "allCount", "J", false)
  | 21 => ("BagTreeModel", "allBest", "J", false)
  | _ => ("BagTreeModel", "allBests", "J", false)
def tyX9 : Nat → FieldType := fun k => match k with
  | 0 => .int
  | 1 => .array .int
  | 2 => .array .int
  | 3 => .array .int
  | 4 => .int
  | 5 => .array .int
  | 6 => .int
  | 7 => .array .int
  | 8 => .array .int
  | 9 => .array .int
  | 10 => .int
  | 11 => .array .int
  | 12 => .array .int
  | 13 => .array .int
  | 14 => .array .boolean
  | 15 => .array .int
  | 16 => .array .int
  | 17 => .array .long
  | 18 => .array .long
  | 19 => .array .long
  | 20 => .long
  | 21 => .long
  | _ => .long
abbrev wsX90 : List Cond := u_ws RX9 TX9 23
theorem nmX9 : ∀ a, a < 23 → ∀ b, b < 23 → a ≠ b → (TX9 a).2.1 ≠ (TX9 b).2.1 := by decide +kernel
theorem tyX9_ok : ∀ k, k < 23 → parseFieldDescriptor (TX9 k).2.2.1 = some (tyX9 k) := by decide +kernel
abbrev cX9_init : ByteArray := prog_11_method_1_code
def yX9_init : MethodName := ⟨RX9, "<init>", "()V"⟩
abbrev cX9_isKnot : ByteArray := prog_11_method_2_code
def yX9_isKnot : MethodName := ⟨RX9, "isKnot", "(I)Z"⟩
abbrev cX9_isWeight : ByteArray := prog_11_method_3_code
def yX9_isWeight : MethodName := ⟨RX9, "isWeight", "(I)Z"⟩
abbrev cX9_all : ByteArray := prog_11_method_4_code
def yX9_all : MethodName := ⟨RX9, "all", "()I"⟩
abbrev cX9_bits : ByteArray := prog_11_method_5_code
def yX9_bits : MethodName := ⟨RX9, "bits", "(I)I"⟩
abbrev cX9_knot : ByteArray := prog_11_method_6_code
def yX9_knot : MethodName := ⟨RX9, "knot", "(I)I"⟩
abbrev cX9_edge : ByteArray := prog_11_method_7_code
def yX9_edge : MethodName := ⟨RX9, "edge", "(III)I"⟩
abbrev cX9_isEdge : ByteArray := prog_11_method_8_code
def yX9_isEdge : MethodName := ⟨RX9, "isEdge", "(II)Z"⟩
abbrev cX9_cut : ByteArray := prog_11_method_9_code
def yX9_cut : MethodName := ⟨RX9, "cut", "(II)I"⟩
abbrev cX9_weigh : ByteArray := prog_11_method_10_code
def yX9_weigh : MethodName := ⟨RX9, "weigh", "(II)I"⟩
abbrev cX9_weight : ByteArray := prog_11_method_11_code
def yX9_weight : MethodName := ⟨RX9, "weight", "(II)I"⟩
abbrev cX9_beside : ByteArray := prog_11_method_12_code
def yX9_beside : MethodName := ⟨RX9, "beside", "(I)I"⟩
abbrev cX9_rowMask : ByteArray := prog_11_method_13_code
def yX9_rowMask : MethodName := ⟨RX9, "rowMask", "()I"⟩
abbrev cX9_put : ByteArray := prog_11_method_14_code
def yX9_put : MethodName := ⟨RX9, "put", "(I)I"⟩
abbrev cX9_wipe : ByteArray := prog_11_method_15_code
def yX9_wipe : MethodName := ⟨RX9, "wipe", "()I"⟩
abbrev cX9_row : ByteArray := prog_11_method_16_code
def yX9_row : MethodName := ⟨RX9, "row", "(I)I"⟩
abbrev cX9_around : ByteArray := prog_11_method_17_code
def yX9_around : MethodName := ⟨RX9, "around", "(II)I"⟩
abbrev cX9_isOrder : ByteArray := prog_11_method_18_code
def yX9_isOrder : MethodName := ⟨RX9, "isOrder", "()Z"⟩
abbrev cX9_rowWidth : ByteArray := prog_11_method_19_code
def yX9_rowWidth : MethodName := ⟨RX9, "rowWidth", "()I"⟩
abbrev cX9_make : ByteArray := prog_11_method_20_code
def yX9_make : MethodName := ⟨RX9, "make", "()I"⟩
abbrev cX9_fills : ByteArray := prog_11_method_21_code
def yX9_fills : MethodName := ⟨RX9, "fills", "()I"⟩
abbrev cX9_fewest : ByteArray := prog_11_method_22_code
def yX9_fewest : MethodName := ⟨RX9, "fewest", "()I"⟩
abbrev cX9_least : ByteArray := prog_11_method_23_code
def yX9_least : MethodName := ⟨RX9, "least", "()I"⟩
abbrev cX9_below : ByteArray := prog_11_method_24_code
def yX9_below : MethodName := ⟨RX9, "below", "()I"⟩
abbrev cX9_clear : ByteArray := prog_11_method_25_code
def yX9_clear : MethodName := ⟨RX9, "clear", "()I"⟩
abbrev cX9_bag : ByteArray := prog_11_method_26_code
def yX9_bag : MethodName := ⟨RX9, "bag", "(I)I"⟩
abbrev cX9_hang : ByteArray := prog_11_method_27_code
def yX9_hang : MethodName := ⟨RX9, "hang", "(II)I"⟩
abbrev cX9_bagged : ByteArray := prog_11_method_28_code
def yX9_bagged : MethodName := ⟨RX9, "bagged", "(II)I"⟩
abbrev cX9_inOne : ByteArray := prog_11_method_29_code
def yX9_inOne : MethodName := ⟨RX9, "inOne", "(I)Z"⟩
abbrev cX9_sound : ByteArray := prog_11_method_30_code
def yX9_sound : MethodName := ⟨RX9, "sound", "()I"⟩
abbrev cX9_width : ByteArray := prog_11_method_31_code
def yX9_width : MethodName := ⟨RX9, "width", "()I"⟩
abbrev cX9_separator : ByteArray := prog_11_method_32_code
def yX9_separator : MethodName := ⟨RX9, "separator", "()I"⟩
abbrev cX9_states : ByteArray := prog_11_method_33_code
def yX9_states : MethodName := ⟨RX9, "states", "(I)I"⟩
abbrev cX9_isFactor : ByteArray := prog_11_method_34_code
def yX9_isFactor : MethodName := ⟨RX9, "isFactor", "(I)Z"⟩
abbrev cX9_isState : ByteArray := prog_11_method_35_code
def yX9_isState : MethodName := ⟨RX9, "isState", "(I)Z"⟩
abbrev cX9_factor : ByteArray := prog_11_method_36_code
def yX9_factor : MethodName := ⟨RX9, "factor", "(II)I"⟩
abbrev cX9_pair : ByteArray := prog_11_method_37_code
def yX9_pair : MethodName := ⟨RX9, "pair", "(IIII)I"⟩
abbrev cX9_forbid : ByteArray := prog_11_method_38_code
def yX9_forbid : MethodName := ⟨RX9, "forbid", "(II)I"⟩
abbrev cX9_isAsked : ByteArray := prog_11_method_39_code
def yX9_isAsked : MethodName := ⟨RX9, "isAsked", "()Z"⟩
abbrev cX9_free : ByteArray := prog_11_method_40_code
def yX9_free : MethodName := ⟨RX9, "free", "()V"⟩
abbrev cX9_mayBe : ByteArray := prog_11_method_41_code
def yX9_mayBe : MethodName := ⟨RX9, "mayBe", "(II)Z"⟩
abbrev cX9_code : ByteArray := prog_11_method_42_code
def yX9_code : MethodName := ⟨RX9, "code", "(I)I"⟩
abbrev cX9_take : ByteArray := prog_11_method_43_code
def yX9_take : MethodName := ⟨RX9, "take", "(II)Z"⟩
abbrev cX9_isFirst : ByteArray := prog_11_method_44_code
def yX9_isFirst : MethodName := ⟨RX9, "isFirst", "(II)Z"⟩
abbrev cX9_own : ByteArray := prog_11_method_45_code
def yX9_own : MethodName := ⟨RX9, "own", "(I)J"⟩
abbrev cX9_ask : ByteArray := prog_11_method_46_code
def yX9_ask : MethodName := ⟨RX9, "ask", "(Z)V"⟩
abbrev cX9_put_ : ByteArray := prog_11_method_47_code
def yX9_put_ : MethodName := ⟨RX9, "put", "(IJJJZ)V"⟩
abbrev cX9_ways : ByteArray := prog_11_method_48_code
def yX9_ways : MethodName := ⟨RX9, "ways", "()J"⟩
abbrev cX9_best : ByteArray := prog_11_method_49_code
def yX9_best : MethodName := ⟨RX9, "best", "(Z)J"⟩
abbrev cX9_bests : ByteArray := prog_11_method_50_code
def yX9_bests : MethodName := ⟨RX9, "bests", "(Z)J"⟩
abbrev cX9_choice : ByteArray := prog_11_method_51_code
def yX9_choice : MethodName := ⟨RX9, "choice", "(ZI)I"⟩
abbrev cX9_drawn : ByteArray := prog_11_method_52_code
def yX9_drawn : MethodName := ⟨RX9, "drawn", "(JI)I"⟩
abbrev cX9_share : ByteArray := prog_11_method_53_code
def yX9_share : MethodName := ⟨RX9, "share", "(II)J"⟩
abbrev cX9_count : ByteArray := prog_11_method_54_code
def yX9_count : MethodName := ⟨RX9, "count", "(I)I"⟩
def RJ6 : String := "java/lang/Integer"
def TJ6 : u_T := fun k => match k with
  | _ => ("", "", "", false)
def tyJ6 : Nat → FieldType := fun k => match k with
  | _ => .int
abbrev wsJ60 : List Cond := u_ws RJ6 TJ6 0
theorem nmJ6 : ∀ a, a < 0 → ∀ b, b < 0 → a ≠ b → (TJ6 a).2.1 ≠ (TJ6 b).2.1 := by decide +kernel
theorem tyJ6_ok : ∀ k, k < 0 → parseFieldDescriptor (TJ6 k).2.2.1 = some (tyJ6 k) := by decide +kernel
abbrev cJ6_bitCount_0f7a4 : ByteArray := prog_12_method_49_code
def yJ6_bitCount_0f7a4 : MethodName := ⟨RJ6, "bitCount", "(I)I"⟩
def RJ9 : String := "java/lang/Math"
def TJ9 : u_T := fun k => match k with
  | _ => ("", "", "", false)
def tyJ9 : Nat → FieldType := fun k => match k with
  | _ => .int
abbrev wsJ90 : List Cond := u_ws RJ9 TJ9 0
theorem nmJ9 : ∀ a, a < 0 → ∀ b, b < 0 → a ≠ b → (TJ9 a).2.1 ≠ (TJ9 b).2.1 := by decide +kernel
theorem tyJ9_ok : ∀ k, k < 0 → parseFieldDescriptor (TJ9 k).2.2.1 = some (tyJ9 k) := by decide +kernel
abbrev cJ9_max_7cf53 : ByteArray := prog_13_method_65_code
def yJ9_max_7cf53 : MethodName := ⟨RJ9, "max", "(II)I"⟩
abbrev cJ9_min_7cf53 : ByteArray := prog_13_method_69_code
def yJ9_min_7cf53 : MethodName := ⟨RJ9, "min", "(II)I"⟩
def RJ10 : String := "java/lang/System"
def TJ10 : u_T := fun k => match k with
  | _ => ("", "", "", false)
def tyJ10 : Nat → FieldType := fun k => match k with
  | _ => .int
abbrev wsJ100 : List Cond := u_ws RJ10 TJ10 0
theorem nmJ10 : ∀ a, a < 0 → ∀ b, b < 0 → a ≠ b → (TJ10 a).2.1 ≠ (TJ10 b).2.1 := by decide +kernel
theorem tyJ10_ok : ∀ k, k < 0 → parseFieldDescriptor (TJ10 k).2.2.1 = some (tyJ10 k) := by decide +kernel
def RJ7 : String := "java/util/Arrays"
def TJ7 : u_T := fun k => match k with
  | _ => ("", "", "", false)
def tyJ7 : Nat → FieldType := fun k => match k with
  | _ => .int
abbrev wsJ70 : List Cond := u_ws RJ7 TJ7 0
theorem nmJ7 : ∀ a, a < 0 → ∀ b, b < 0 → a ≠ b → (TJ7 a).2.1 ≠ (TJ7 b).2.1 := by decide +kernel
theorem tyJ7_ok : ∀ k, k < 0 → parseFieldDescriptor (TJ7 k).2.2.1 = some (tyJ7 k) := by decide +kernel
abbrev cJ7_fill_d0a16 : ByteArray := prog_15_method_101_code
def yJ7_fill_d0a16 : MethodName := ⟨RJ7, "fill", "([JJ)V"⟩
def RL : String := "BagTreeLaw"
abbrev cL_law : ByteArray := code
def yL_law : MethodName := ⟨RL, "law", "([I)Z"⟩
abbrev vwCl : List vw_C := [(RX0, TX0, 3), (RX1, TX1, 3), (RX2, TX2, 3), (RX3, TX3, 5), (RX4, TX4, 5), (RX5, TX5, 11), (RX6, TX6, 4), (RX7, TX7, 17), (RX8, TX8, 8), (RX9, TX9, 23)]
end
section
/-! The words that every method may use: the tables' good ones. -/
def G : List Cond := lw_tbl.filter goodWord
theorem G_in : ∀ w ∈ G, w ∈ lw_tbl := fun _ h => (List.mem_filter.mp h).1
theorem G_good : ∀ w ∈ G, (w.onTables && w.keeps) = true ∨ ∃ ty, w = .arrayClass ty := fun _ h => good_of_word (List.mem_filter.mp h).2
theorem inG {w : Cond} (h : w ∈ lw_tbl) (hg : goodWord w = true) : w ∈ G := List.mem_filter.mpr ⟨h, hg⟩
theorem inT {w : Cond} (h : w ∈ tables_1) : w ∈ lw_tbl := List.mem_append_right _ h
theorem inS {w : Cond} (h : w ∈ k2_sels lw_privs) : w ∈ lw_tbl := List.mem_append_left _ h
theorem gi_all {b : Cond} {ws : List Cond} (h : ∀ w ∈ ws, w ∈ G) : GoodIn (b :: G) ws := fun w hw => ⟨List.mem_cons_of_mem _ (h w hw), G_good w (h w hw)⟩
theorem gi_G {ws : List Cond} (h : ∀ w ∈ ws, w ∈ G) : GoodIn G ws := fun w hw => ⟨h w hw, G_good w (h w hw)⟩
/-- what the tables say of private methods of nest mates -/
def nwT : List (String × Nat × MethodName × String) := [("BagTree", 11, ⟨"BagTree$Net", "<init>", "()V"⟩, "BagTree"), ("BagTree", 20, ⟨"BagTree$KnotRow", "<init>", "()V"⟩, "BagTree"), ("BagTree", 27, ⟨"BagTree$Bags", "<init>", "()V"⟩, "BagTree"), ("BagTree", 34, ⟨"BagTree$Law", "<init>", "()V"⟩, "BagTree"), ("BagTree", 41, ⟨"BagTree$Going", "<init>", "()V"⟩, "BagTree"), ("BagTree", 48, ⟨"BagTree$Plan", "<init>", "()V"⟩, "BagTree"), ("BagTree$Plan", 41, ⟨"BagTree$Going", "<init>", "()V"⟩, "BagTree"), ("BagTree$Net", 29, ⟨"BagTree", "hasBit", "(II)Z"⟩, "BagTree"), ("BagTree$KnotRow", 19, ⟨"BagTree", "hasBit", "(II)Z"⟩, "BagTree"), ("BagTree$Going", 39, ⟨"BagTree", "hasBit", "(II)Z"⟩, "BagTree"), ("BagTree$Search", 11, ⟨"BagTree$Going", "<init>", "()V"⟩, "BagTree"), ("BagTree$Search", 69, ⟨"BagTree", "hasBit", "(II)Z"⟩, "BagTree"), ("BagTree$Bags", 56, ⟨"BagTree", "hasBit", "(II)Z"⟩, "BagTree"), ("BagTree$Plan", 70, ⟨"BagTree", "hasBit", "(II)Z"⟩, "BagTree"), ("BagTree$Tally", 70, ⟨"BagTree", "hasBit", "(II)Z"⟩, "BagTree")]
def NW (U : State) : Prop := (∀ q ∈ nwT, va_Nw (.methodLinkNest q.1 q.2.1 q.2.2.1 q.2.2.2) U) ∧ va_AO RX1 U
theorem NW.warm {s U : State} (hW : s.WarmedH U.vm) (h : NW s) : NW U := ⟨fun q hq => va_Nw.warmM hW (h.1 q hq), h.2.moved hW.alike⟩
theorem NW.same {s U : State} (hv : s.vm = U.vm) (h : NW s) : NW U := ⟨fun q hq => va_Nw.same rfl hv (h.1 q hq), h.2.moved (by rw [hv]; exact Vm.Alike.refl _)⟩
abbrev TY (cA : Nat → ClassId) : List (ClassId × FieldType) := [(cA 0, .int), (cA 1, .long), (cA 2, .boolean), (cA 3, .object RX1)]
/-! Cells. -/
abbrev aI (cA : Nat → ClassId) (q n : Nat) (f : Nat → Int32) : Nat × va_E := (q, .inl (cA 0, n, .inl f))
abbrev aZ (cA : Nat → ClassId) (q n : Nat) (f : Nat → Int32) : Nat × va_E := (q, .inl (cA 2, n, .inl f))
abbrev aJ (cA : Nat → ClassId) (q n : Nat) (f : Nat → Int64) : Nat × va_E := (q, .inl (cA 1, n, .inr (.inl f)))
abbrev aG (cA : Nat → ClassId) (q n : Nat) (f : Nat → Option Nat) : Nat × va_E := (q, .inl (cA 3, n, .inr (.inr (.inr (.inr f)))))
abbrev oB (q ci : Nat) (fs : List Value) : Nat × va_E := (q, .inr (ci, fs))
/-! The functions' own words. -/
def bnd {α β : Type} (a : α) (k : α → β) : β := k a
abbrev okI (i : Int32) (n : Nat) : Prop := ¬ (i < 0 ∨ n ≤ i.toNatClampNeg)
def ldA {α β : Type} (f : Nat → α) (n : Nat) (i : Int32) (k : α → Option β) : Option β := if okI i n then k (f i.toNatClampNeg) else none
def stI {β : Type} (f : Nat → Int32) (n : Nat) (i x : Int32) (k : (Nat → Int32) → Option β) : Option β := if okI i n then k (upd f i.toNatClampNeg x) else none
def stZ {β : Type} (f : Nat → Int32) (n : Nat) (i x : Int32) (k : (Nat → Int32) → Option β) : Option β := if okI i n then k (upd f i.toNatClampNeg (vp_nar .boolean x)) else none
def stJ {β : Type} (f : Nat → Int64) (n : Nat) (i : Int32) (x : Int64) (k : (Nat → Int64) → Option β) : Option β := if okI i n then k (vp_updL f i.toNatClampNeg x) else none
def cal {α β : Type} (o : Option α) (k : α → Option β) : Option β := match o with
  | none => none
  | some a => k a
def chk {β : Type} (c : Prop) [Decidable c] (k : Option β) : Option β := if c then k else none
theorem ldA_some {α β : Type} {f : Nat → α} {n : Nat} {i : Int32} {k : α → Option β} {r : β} (h : ldA f n i k = some r) : vp_in i n ∧ k (f i.toNatClampNeg) = some r := by
  unfold ldA at h; split at h
  · exact ⟨‹_›, h⟩
  · cases h
theorem stI_some {β : Type} {f : Nat → Int32} {n : Nat} {i x : Int32} {k : (Nat → Int32) → Option β} {r : β} (h : stI f n i x k = some r) : vp_in i n ∧ k (upd f i.toNatClampNeg x) = some r := by
  unfold stI at h; split at h
  · exact ⟨‹_›, h⟩
  · cases h
theorem stZ_some {β : Type} {f : Nat → Int32} {n : Nat} {i x : Int32} {k : (Nat → Int32) → Option β} {r : β} (h : stZ f n i x k = some r) : vp_in i n ∧ k (upd f i.toNatClampNeg (vp_nar .boolean x)) = some r := by
  unfold stZ at h; split at h
  · exact ⟨‹_›, h⟩
  · cases h
theorem stJ_some {β : Type} {f : Nat → Int64} {n : Nat} {i : Int32} {x : Int64} {k : (Nat → Int64) → Option β} {r : β} (h : stJ f n i x k = some r) : vp_in i n ∧ k (vp_updL f i.toNatClampNeg x) = some r := by
  unfold stJ at h; split at h
  · exact ⟨‹_›, h⟩
  · cases h
theorem cal_some {α β : Type} {o : Option α} {k : α → Option β} {r : β} (h : cal o k = some r) : ∃ a, o = some a ∧ k a = some r := by
  cases o with
  | none => cases h
  | some a => exact ⟨a, rfl, h⟩
theorem chk_some {β : Type} {c : Prop} [Decidable c] {k : Option β} {r : β} (h : chk c k = some r) : c ∧ k = some r := by
  unfold chk at h; split at h
  · exact ⟨‹_›, h⟩
  · cases h
theorem ite_t {β : Type} {c : Prop} [Decidable c] {x y : Option β} {r : β} (h : (if c then x else y) = some r) (hc : c) : x = some r := by rwa [if_pos hc] at h
theorem ite_f {β : Type} {c : Prop} [Decidable c] {x y : Option β} {r : β} (h : (if c then x else y) = some r) (hc : ¬ c) : y = some r := by rwa [if_neg hc] at h
/-! A walk's fixed things in one. -/
abbrev XT : Type := Program × Launch × Env × Room × State × MethodId × Array Value × List Frame × Method × Code × va_G × (Nat → Prop) × Heap × (State → Prop)
abbrev x_p (X : XT) : Program := X.1
abbrev x_l (X : XT) : Launch := X.2.1
abbrev x_e (X : XT) : Env := X.2.2.1
abbrev x_R (X : XT) : Room := X.2.2.2.1
abbrev x_s (X : XT) : State := X.2.2.2.2.1
abbrev x_m (X : XT) : MethodId := X.2.2.2.2.2.1
abbrev x_a (X : XT) : Array Value := X.2.2.2.2.2.2.1
abbrev x_b (X : XT) : List Frame := X.2.2.2.2.2.2.2.1
abbrev x_me (X : XT) : Method := X.2.2.2.2.2.2.2.2.1
abbrev x_c (X : XT) : Code := X.2.2.2.2.2.2.2.2.2.1
abbrev x_D (X : XT) : va_G := X.2.2.2.2.2.2.2.2.2.2.1
abbrev x_A (X : XT) : Nat → Prop := X.2.2.2.2.2.2.2.2.2.2.2.1
abbrev x_H (X : XT) : Heap := X.2.2.2.2.2.2.2.2.2.2.2.2.1
abbrev x_Q (X : XT) : State → Prop := X.2.2.2.2.2.2.2.2.2.2.2.2.2
def XW (X : XT) (H : Heap) (locs : List Loc) (k n : Nat) (g : JFrame) : Prop := W (x_p X) (x_l X) (x_e X) (x_R X) (x_s X) (x_m X) (x_a X) (x_b X) (x_me X) (x_c X) H locs k n (x_Q X) g
def Go (X : XT) (nL k n pc : Nat) (ws : va_W) (lv : List (Nat × Value)) (st : List Value) : Prop :=
  ∀ (H : Heap) (locs : List Loc) (ls : Array Slot), va_P (x_D X) vwCl ws H → va_D (x_A X) ws → va_S (x_A X) (x_H X) H locs → lv_has ls (nL) lv → XW X H locs k n (F0 (x_m X) pc ls st)
/-- what a walk rests on: own class, code, answer's type, array classes, room -/
def Cx (X : XT) (cc : ByteArray) (own : String) (ret : Option FieldType) (cA : Nat → ClassId) (fr lo nL : Nat) : Prop :=
  (x_p X).tables.exec = Jvm.exec ∧ (x_c X).code = cc ∧ (x_c X).maxLocals = nL ∧ (x_s X).vm.findClass own = some (x_m X).cls ∧ (∀ w ∈ G, w.before (x_a X) (x_s X) = true) ∧ (x_me X).sig.returnType = ret ∧ (x_me X).locks = false ∧ va_K (x_D X) vwCl (TY cA) (x_s X) ∧ NW (x_s X) ∧ (fr ≤ (x_R X).frames ∧ lo ≤ (x_R X).locals) ∧ (∀ q, (x_H X).size ≤ q → x_A X q)
section GR
variable {X : XT} {cc : ByteArray} {own : String} {ret : Option FieldType} {cA : Nat → ClassId} {fr lo nL k n : Nat} {ws : va_W} {lv : List (Nat × Value)} {st : List Value} {ρ : Type} {r : ρ}
theorem Cx.ex (C : Cx X cc own ret cA fr lo nL) : (x_p X).tables.exec = Jvm.exec := C.1
theorem Cx.by (C : Cx X cc own ret cA fr lo nL) : (x_c X).code = cc := C.2.1
theorem Cx.ml (C : Cx X cc own ret cA fr lo nL) : (x_c X).maxLocals = nL := C.2.2.1
theorem Cx.ow (C : Cx X cc own ret cA fr lo nL) : (x_s X).vm.findClass own = some (x_m X).cls := C.2.2.2.1
theorem Cx.ts (C : Cx X cc own ret cA fr lo nL) : ∀ w ∈ G, w.before (x_a X) (x_s X) = true := C.2.2.2.2.1
theorem Cx.rt (C : Cx X cc own ret cA fr lo nL) : (x_me X).sig.returnType = ret := C.2.2.2.2.2.1
theorem Cx.lk (C : Cx X cc own ret cA fr lo nL) : (x_me X).locks = false := C.2.2.2.2.2.2.1
theorem Cx.K (C : Cx X cc own ret cA fr lo nL) : va_K (x_D X) vwCl (TY cA) (x_s X) := C.2.2.2.2.2.2.2.1
theorem Cx.nw (C : Cx X cc own ret cA fr lo nL) : NW (x_s X) := C.2.2.2.2.2.2.2.2.1
theorem Cx.rm (C : Cx X cc own ret cA fr lo nL) : fr ≤ (x_R X).frames ∧ lo ≤ (x_R X).locals := C.2.2.2.2.2.2.2.2.2.1
theorem Cx.hA (C : Cx X cc own ret cA fr lo nL) : ∀ q, (x_H X).size ≤ q → x_A X q := C.2.2.2.2.2.2.2.2.2.2
theorem g_lv (ks : List Nat) {lv' : List (Nat × Value)} {pc : Nat} (h : lv_pick lv ks = lv') (K : Go X nL k n pc ws lv' st) : Go X nL k n pc ws lv st := fun H locs ls hP hD hS hl => K H locs ls hP hD hS (lv_sub hl ks h)
theorem g_iconst (C : Cx X cc own ret cA fr lo nL) (pc : Nat) {i : Int} (v : Int32) (d : decode cc pc = .ok (.iconst i, 1)) (hv : Int32.ofInt i = v) (K : Go X nL k n (pc + 1) ws lv (.int v :: st)) : Go X nL k n pc ws lv st := fun H locs ls hP hD hS hl => lv_iconst C.ex C.by d hv (K H locs ls hP hD hS hl)
theorem g_bipush (C : Cx X cc own ret cA fr lo nL) (pc : Nat) {i : Int} (v : Int32) (d : decode cc pc = .ok (.bipush i, 2)) (hv : (Int8.ofInt i).toInt32 = v) (K : Go X nL k n (pc + 2) ws lv (.int v :: st)) : Go X nL k n pc ws lv st := fun H locs ls hP hD hS hl => lv_bipush C.ex C.by d hv (K H locs ls hP hD hS hl)
theorem g_sipush (C : Cx X cc own ret cA fr lo nL) (pc : Nat) {i : Int} (v : Int32) (d : decode cc pc = .ok (.sipush i, 3)) (hv : (Int16.ofInt i).toInt32 = v) (K : Go X nL k n (pc + 3) ws lv (.int v :: st)) : Go X nL k n pc ws lv st := fun H locs ls hP hD hS hl => lv_sipush C.ex C.by d hv (K H locs ls hP hD hS hl)
theorem g_lconst (C : Cx X cc own ret cA fr lo nL) (pc : Nat) {i : Fin 2} (v : Int64) (d : decode cc pc = .ok (.lconst i, 1)) (hv : Int64.ofNat (i : Nat) = v) (K : Go X nL k n (pc + 1) ws lv (.long v :: st)) : Go X nL k n pc ws lv st := fun H locs ls hP hD hS hl => lv_lconst C.ex C.by d hv (K H locs ls hP hD hS hl)
theorem g_ldcw (C : Cx X cc own ret cA fr lo nL) (pc : Nat) {i : Nat} {v : Int32} (d : decode cc pc = .ok (.ldc_w i, 3)) (hw : Cond.constant own i v ∈ G) (K : Go X nL k n (pc + 3) ws lv (.int v :: st)) : Go X nL k n pc ws lv st := fun H locs ls hP hD hS hl => lv_ldcw C.ex C.by C.ow (C.ts _ hw) d (K H locs ls hP hD hS hl)
theorem g_ldc2 (C : Cx X cc own ret cA fr lo nL) (pc : Nat) {i : Nat} {v : Int64} (d : decode cc pc = .ok (.ldc2_w i, 3)) (hw : Cond.constantLong own i v ∈ G) (K : Go X nL k n (pc + 3) ws lv (.long v :: st)) : Go X nL k n pc ws lv st := fun H locs ls hP hD hS hl => lv_ldc2 C.ex C.by C.ow (C.ts _ hw) d (K H locs ls hP hD hS hl)
theorem g_iload_n (C : Cx X cc own ret cA fr lo nL) (pc q : Nat) {i : Fin 4} {j : Nat} {x : Int32} (d : decode cc pc = .ok (.iload_n i, 1)) (hi : (i : Nat) = j) (hl0 : lv[q]? = some (j, .int x)) (K : Go X nL k n (pc + 1) ws lv (.int x :: st)) : Go X nL k n pc ws lv st := fun H locs ls hP hD hS hl => lv_iload_n C.ex C.by d hi (lv_at hl q hl0) (K H locs ls hP hD hS hl)
theorem g_iload (C : Cx X cc own ret cA fr lo nL) (pc q : Nat) {i : Nat} {x : Int32} (d : decode cc pc = .ok (.iload i, 2)) (hl0 : lv[q]? = some (i, .int x)) (K : Go X nL k n (pc + 2) ws lv (.int x :: st)) : Go X nL k n pc ws lv st := fun H locs ls hP hD hS hl => lv_iload C.ex C.by d (lv_at hl q hl0) (K H locs ls hP hD hS hl)
theorem g_lload_n (C : Cx X cc own ret cA fr lo nL) (pc q : Nat) {i : Fin 4} {j : Nat} {x : Int64} (d : decode cc pc = .ok (.lload_n i, 1)) (hi : (i : Nat) = j) (hl0 : lv[q]? = some (j, .long x)) (K : Go X nL k n (pc + 1) ws lv (.long x :: st)) : Go X nL k n pc ws lv st := fun H locs ls hP hD hS hl => lv_lload_n C.ex C.by d hi (lv_at hl q hl0) (K H locs ls hP hD hS hl)
theorem g_lload (C : Cx X cc own ret cA fr lo nL) (pc q : Nat) {i : Nat} {x : Int64} (d : decode cc pc = .ok (.lload i, 2)) (hl0 : lv[q]? = some (i, .long x)) (K : Go X nL k n (pc + 2) ws lv (.long x :: st)) : Go X nL k n pc ws lv st := fun H locs ls hP hD hS hl => lv_lload C.ex C.by d (lv_at hl q hl0) (K H locs ls hP hD hS hl)
theorem g_aload_n (C : Cx X cc own ret cA fr lo nL) (pc q : Nat) {i : Fin 4} {j x : Nat} (d : decode cc pc = .ok (.aload_n i, 1)) (hi : (i : Nat) = j) (hl0 : lv[q]? = some (j, .ref x)) (K : Go X nL k n (pc + 1) ws lv (.ref x :: st)) : Go X nL k n pc ws lv st := fun H locs ls hP hD hS hl => lv_aload_n C.ex C.by d hi (lv_at hl q hl0) (K H locs ls hP hD hS hl)
theorem g_aload (C : Cx X cc own ret cA fr lo nL) (pc q : Nat) {i x : Nat} (d : decode cc pc = .ok (.aload i, 2)) (hl0 : lv[q]? = some (i, .ref x)) (K : Go X nL k n (pc + 2) ws lv (.ref x :: st)) : Go X nL k n pc ws lv st := fun H locs ls hP hD hS hl => lv_aload C.ex C.by d (lv_at hl q hl0) (K H locs ls hP hD hS hl)
theorem g_istore_n (C : Cx X cc own ret cA fr lo nL) (pc : Nat) {i : Fin 4} {j : Nat} {x : Int32} (lvF : Int32 → List (Nat × Value)) {kf : Int32 → Option ρ} (d : decode cc pc = .ok (.istore_n i, 1)) (hi : (i : Nat) = j) (hn : j < nL) (hl1 : ∀ z : Int32, (j, Value.int z) :: lv.filter (fun q => !(q.1 == j) && !(q.1 + 1 == j && q.2.category == 2)) = lvF z) (hf : bnd x kf = some r) (K : ∀ z : Int32, kf z = some r → Go X nL k n (pc + 1) ws (lvF z) st) : Go X nL k n pc ws lv (.int x :: st) := fun H locs ls hP hD hS hl => lv_istore_n C.ex C.by d hi hl hn (hl1 x) (fun ls' hl' => K x hf H locs ls' hP hD hS hl')
theorem g_istore (C : Cx X cc own ret cA fr lo nL) (pc : Nat) {i : Nat} {x : Int32} (lvF : Int32 → List (Nat × Value)) {kf : Int32 → Option ρ} (d : decode cc pc = .ok (.istore i, 2)) (hn : i < nL) (hl1 : ∀ z : Int32, (i, Value.int z) :: lv.filter (fun q => !(q.1 == i) && !(q.1 + 1 == i && q.2.category == 2)) = lvF z) (hf : bnd x kf = some r) (K : ∀ z : Int32, kf z = some r → Go X nL k n (pc + 2) ws (lvF z) st) : Go X nL k n pc ws lv (.int x :: st) := fun H locs ls hP hD hS hl => lv_istore C.ex C.by d hl hn (hl1 x) (fun ls' hl' => K x hf H locs ls' hP hD hS hl')
theorem g_lstore_n (C : Cx X cc own ret cA fr lo nL) (pc : Nat) {i : Fin 4} {j : Nat} {x : Int64} (lvF : Int64 → List (Nat × Value)) {kf : Int64 → Option ρ} (d : decode cc pc = .ok (.lstore_n i, 1)) (hi : (i : Nat) = j) (hn : j + 1 < nL) (hl1 : ∀ z : Int64, (j, Value.long z) :: lv.filter (fun q => !(q.1 == j) && (!(q.1 == j + 1) && !(q.1 + 1 == j && q.2.category == 2))) = lvF z) (hf : bnd x kf = some r) (K : ∀ z : Int64, kf z = some r → Go X nL k n (pc + 1) ws (lvF z) st) : Go X nL k n pc ws lv (.long x :: st) := fun H locs ls hP hD hS hl => lv_lstore_n C.ex C.by d hi hl hn (hl1 x) (fun ls' hl' => K x hf H locs ls' hP hD hS hl')
theorem g_lstore (C : Cx X cc own ret cA fr lo nL) (pc : Nat) {i : Nat} {x : Int64} (lvF : Int64 → List (Nat × Value)) {kf : Int64 → Option ρ} (d : decode cc pc = .ok (.lstore i, 2)) (hn : i + 1 < nL) (hl1 : ∀ z : Int64, (i, Value.long z) :: lv.filter (fun q => !(q.1 == i) && (!(q.1 == i + 1) && !(q.1 + 1 == i && q.2.category == 2))) = lvF z) (hf : bnd x kf = some r) (K : ∀ z : Int64, kf z = some r → Go X nL k n (pc + 2) ws (lvF z) st) : Go X nL k n pc ws lv (.long x :: st) := fun H locs ls hP hD hS hl => lv_lstore C.ex C.by d hl hn (hl1 x) (fun ls' hl' => K x hf H locs ls' hP hD hS hl')
theorem g_astore_n (C : Cx X cc own ret cA fr lo nL) (pc : Nat) {i : Fin 4} {j x : Nat} {lv' : List (Nat × Value)} (d : decode cc pc = .ok (.astore_n i, 1)) (hi : (i : Nat) = j) (hn : j < nL) (hl1 : (j, Value.ref x) :: lv.filter (fun q => !(q.1 == j) && !(q.1 + 1 == j && q.2.category == 2)) = lv') (K : Go X nL k n (pc + 1) ws lv' st) : Go X nL k n pc ws lv (.ref x :: st) := fun H locs ls hP hD hS hl => lv_astore_n C.ex C.by d hi hl hn hl1 (fun ls' hl' => K H locs ls' hP hD hS hl')
theorem g_iinc (C : Cx X cc own ret cA fr lo nL) (pc q : Nat) {i : Nat} {c : Int} {x v : Int32} (lvF : Int32 → List (Nat × Value)) {kf : Int32 → Option ρ} (d : decode cc pc = .ok (.iinc i c, 3)) (hq : lv[q]? = some (i, .int x)) (hv : x + Int32.ofInt c = v) (hn : i < nL) (hl1 : ∀ z : Int32, (i, Value.int z) :: lv.filter (fun q => !(q.1 == i) && !(q.1 + 1 == i && q.2.category == 2)) = lvF z) (hf : bnd v kf = some r) (K : ∀ z : Int32, kf z = some r → Go X nL k n (pc + 3) ws (lvF z) st) : Go X nL k n pc ws lv st := fun H locs ls hP hD hS hl => lv_iinc C.ex C.by d hl hq hv hn (hl1 v) (fun ls' hl' => K v hf H locs ls' hP hD hS hl')
theorem g_iadd (C : Cx X cc own ret cA fr lo nL) (pc : Nat) {x y : Int32} (d : decode cc pc = .ok (.iadd, 1)) (K : Go X nL k n (pc + 1) ws lv (.int (x + y) :: st)) : Go X nL k n pc ws lv (.int y :: .int x :: st) := fun H locs ls hP hD hS hl => lv_iadd C.ex C.by d (K H locs ls hP hD hS hl)
theorem g_isub (C : Cx X cc own ret cA fr lo nL) (pc : Nat) {x y : Int32} (d : decode cc pc = .ok (.isub, 1)) (K : Go X nL k n (pc + 1) ws lv (.int (x - y) :: st)) : Go X nL k n pc ws lv (.int y :: .int x :: st) := fun H locs ls hP hD hS hl => lv_isub C.ex C.by d (K H locs ls hP hD hS hl)
theorem g_imul (C : Cx X cc own ret cA fr lo nL) (pc : Nat) {x y : Int32} (d : decode cc pc = .ok (.imul, 1)) (K : Go X nL k n (pc + 1) ws lv (.int (x * y) :: st)) : Go X nL k n pc ws lv (.int y :: .int x :: st) := fun H locs ls hP hD hS hl => lv_imul C.ex C.by d (K H locs ls hP hD hS hl)
theorem g_iand (C : Cx X cc own ret cA fr lo nL) (pc : Nat) {x y : Int32} (d : decode cc pc = .ok (.iand, 1)) (K : Go X nL k n (pc + 1) ws lv (.int (x &&& y) :: st)) : Go X nL k n pc ws lv (.int y :: .int x :: st) := fun H locs ls hP hD hS hl => lv_iand C.ex C.by d (K H locs ls hP hD hS hl)
theorem g_ior (C : Cx X cc own ret cA fr lo nL) (pc : Nat) {x y : Int32} (d : decode cc pc = .ok (.ior, 1)) (K : Go X nL k n (pc + 1) ws lv (.int (x ||| y) :: st)) : Go X nL k n pc ws lv (.int y :: .int x :: st) := fun H locs ls hP hD hS hl => lv_ior C.ex C.by d (K H locs ls hP hD hS hl)
theorem g_ixor (C : Cx X cc own ret cA fr lo nL) (pc : Nat) {x y : Int32} (d : decode cc pc = .ok (.ixor, 1)) (K : Go X nL k n (pc + 1) ws lv (.int (x ^^^ y) :: st)) : Go X nL k n pc ws lv (.int y :: .int x :: st) := fun H locs ls hP hD hS hl => lv_ixor C.ex C.by d (K H locs ls hP hD hS hl)
theorem g_idiv (C : Cx X cc own ret cA fr lo nL) (pc : Nat) {x y : Int32} (d : decode cc pc = .ok (.idiv, 1)) (hne : ¬ y = 0) (K : Go X nL k n (pc + 1) ws lv (.int (x / y) :: st)) : Go X nL k n pc ws lv (.int y :: .int x :: st) := fun H locs ls hP hD hS hl => lv_idiv C.ex C.by d hne (K H locs ls hP hD hS hl)
theorem g_irem (C : Cx X cc own ret cA fr lo nL) (pc : Nat) {x y : Int32} (d : decode cc pc = .ok (.irem, 1)) (hne : ¬ y = 0) (K : Go X nL k n (pc + 1) ws lv (.int (x - x / y * y) :: st)) : Go X nL k n pc ws lv (.int y :: .int x :: st) := fun H locs ls hP hD hS hl => lv_irem C.ex C.by d hne (K H locs ls hP hD hS hl)
theorem g_ineg (C : Cx X cc own ret cA fr lo nL) (pc : Nat) {x : Int32} (d : decode cc pc = .ok (.ineg, 1)) (K : Go X nL k n (pc + 1) ws lv (.int (-x) :: st)) : Go X nL k n pc ws lv (.int x :: st) := fun H locs ls hP hD hS hl => lv_ineg C.ex C.by d (K H locs ls hP hD hS hl)
theorem g_ishl (C : Cx X cc own ret cA fr lo nL) (pc : Nat) {x y : Int32} (d : decode cc pc = .ok (.ishl, 1)) (K : Go X nL k n (pc + 1) ws lv (.int (x <<< (y &&& 31)) :: st)) : Go X nL k n pc ws lv (.int y :: .int x :: st) := fun H locs ls hP hD hS hl => lv_ishl C.ex C.by d (K H locs ls hP hD hS hl)
theorem g_ishr (C : Cx X cc own ret cA fr lo nL) (pc : Nat) {x y : Int32} (d : decode cc pc = .ok (.ishr, 1)) (K : Go X nL k n (pc + 1) ws lv (.int (x >>> (y &&& 31)) :: st)) : Go X nL k n pc ws lv (.int y :: .int x :: st) := fun H locs ls hP hD hS hl => lv_ishr C.ex C.by d (K H locs ls hP hD hS hl)
theorem g_iushr (C : Cx X cc own ret cA fr lo nL) (pc : Nat) {x y : Int32} (d : decode cc pc = .ok (.iushr, 1)) (K : Go X nL k n (pc + 1) ws lv (.int ((x.toUInt32 >>> (y.toUInt32 &&& Int32.toUInt32 31)).toInt32) :: st)) : Go X nL k n pc ws lv (.int y :: .int x :: st) := fun H locs ls hP hD hS hl => lv_iushr C.ex C.by d rfl (K H locs ls hP hD hS hl)
theorem g_ladd (C : Cx X cc own ret cA fr lo nL) (pc : Nat) {x y : Int64} (d : decode cc pc = .ok (.ladd, 1)) (K : Go X nL k n (pc + 1) ws lv (.long (x + y) :: st)) : Go X nL k n pc ws lv (.long y :: .long x :: st) := fun H locs ls hP hD hS hl => lv_ladd C.ex C.by d (K H locs ls hP hD hS hl)
theorem g_lsub (C : Cx X cc own ret cA fr lo nL) (pc : Nat) {x y : Int64} (d : decode cc pc = .ok (.lsub, 1)) (K : Go X nL k n (pc + 1) ws lv (.long (x - y) :: st)) : Go X nL k n pc ws lv (.long y :: .long x :: st) := fun H locs ls hP hD hS hl => lv_lsub C.ex C.by d (K H locs ls hP hD hS hl)
theorem g_lmul (C : Cx X cc own ret cA fr lo nL) (pc : Nat) {x y : Int64} (d : decode cc pc = .ok (.lmul, 1)) (K : Go X nL k n (pc + 1) ws lv (.long (x * y) :: st)) : Go X nL k n pc ws lv (.long y :: .long x :: st) := fun H locs ls hP hD hS hl => lv_lmul C.ex C.by d (K H locs ls hP hD hS hl)
theorem g_land (C : Cx X cc own ret cA fr lo nL) (pc : Nat) {x y : Int64} (d : decode cc pc = .ok (.land, 1)) (K : Go X nL k n (pc + 1) ws lv (.long (x &&& y) :: st)) : Go X nL k n pc ws lv (.long y :: .long x :: st) := fun H locs ls hP hD hS hl => lv_land C.ex C.by d (K H locs ls hP hD hS hl)
theorem g_lor (C : Cx X cc own ret cA fr lo nL) (pc : Nat) {x y : Int64} (d : decode cc pc = .ok (.lor, 1)) (K : Go X nL k n (pc + 1) ws lv (.long (x ||| y) :: st)) : Go X nL k n pc ws lv (.long y :: .long x :: st) := fun H locs ls hP hD hS hl => lv_lor C.ex C.by d (K H locs ls hP hD hS hl)
theorem g_lshl (C : Cx X cc own ret cA fr lo nL) (pc : Nat) {x : Int64} {y : Int32} (d : decode cc pc = .ok (.lshl, 1)) (K : Go X nL k n (pc + 1) ws lv (.long (x <<< (y.toInt64 &&& 63)) :: st)) : Go X nL k n pc ws lv (.int y :: .long x :: st) := fun H locs ls hP hD hS hl => lv_lshl C.ex C.by d rfl (K H locs ls hP hD hS hl)
theorem g_lshr (C : Cx X cc own ret cA fr lo nL) (pc : Nat) {x : Int64} {y : Int32} (d : decode cc pc = .ok (.lshr, 1)) (K : Go X nL k n (pc + 1) ws lv (.long (x >>> (y.toInt64 &&& 63)) :: st)) : Go X nL k n pc ws lv (.int y :: .long x :: st) := fun H locs ls hP hD hS hl => lv_lshr C.ex C.by d rfl (K H locs ls hP hD hS hl)
theorem g_i2l (C : Cx X cc own ret cA fr lo nL) (pc : Nat) {x : Int32} (d : decode cc pc = .ok (.i2l, 1)) (K : Go X nL k n (pc + 1) ws lv (.long x.toInt64 :: st)) : Go X nL k n pc ws lv (.int x :: st) := fun H locs ls hP hD hS hl => lv_i2l C.ex C.by d rfl (K H locs ls hP hD hS hl)
theorem g_lcmp (C : Cx X cc own ret cA fr lo nL) (pc : Nat) {x y : Int64} (d : decode cc pc = .ok (.lcmp, 1)) (K : Go X nL k n (pc + 1) ws lv (.int (lg_cmp x y) :: st)) : Go X nL k n pc ws lv (.long y :: .long x :: st) := fun H locs ls hP hD hS hl => W.lcmp C.ex C.by d (K H locs ls hP hD hS hl)
theorem g_dup (C : Cx X cc own ret cA fr lo nL) (pc : Nat) {v : Value} (d : decode cc pc = .ok (.dup, 1)) (hv : v.category = 1) (K : Go X nL k n (pc + 1) ws lv (v :: v :: st)) : Go X nL k n pc ws lv (v :: st) := fun H locs ls hP hD hS hl => lv_dup C.ex C.by d hv (K H locs ls hP hD hS hl)
theorem g_dup2 (C : Cx X cc own ret cA fr lo nL) (pc : Nat) {v w : Value} (d : decode cc pc = .ok (.dup2, 1)) (hv : v.category = 1) (hw : w.category = 1) (K : Go X nL k n (pc + 1) ws lv (v :: w :: v :: w :: st)) : Go X nL k n pc ws lv (v :: w :: st) := fun H locs ls hP hD hS hl => lv_dup2_11 C.ex C.by d hv hw (K H locs ls hP hD hS hl)
theorem g_dup_x1 (C : Cx X cc own ret cA fr lo nL) (pc : Nat) {v w : Value} (d : decode cc pc = .ok (.dup_x1, 1)) (hv : v.category = 1) (hw : w.category = 1) (K : Go X nL k n (pc + 1) ws lv (v :: w :: v :: st)) : Go X nL k n pc ws lv (v :: w :: st) := fun H locs ls hP hD hS hl => lv_dup_x1 C.ex C.by d hv hw (K H locs ls hP hD hS hl)
theorem g_pop (C : Cx X cc own ret cA fr lo nL) (pc : Nat) {v : Value} (d : decode cc pc = .ok (.pop, 1)) (hv : v.category = 1) (K : Go X nL k n (pc + 1) ws lv st) : Go X nL k n pc ws lv (v :: st) := fun H locs ls hP hD hS hl => lv_pop C.ex C.by d hv (K H locs ls hP hD hS hl)
theorem g_pop2 (C : Cx X cc own ret cA fr lo nL) (pc : Nat) {v : Value} (d : decode cc pc = .ok (.pop2, 1)) (hv : v.category = 2) (K : Go X nL k n (pc + 1) ws lv st) : Go X nL k n pc ws lv (v :: st) := fun H locs ls hP hD hS hl => lv_pop2_2 C.ex C.by d hv (K H locs ls hP hD hS hl)
theorem g_goto (C : Cx X cc own ret cA fr lo nL) (pc : Nat) {o : Int} (t : Nat) (d : decode cc pc = .ok (.goto o, 3)) (ht : (pc : Int) + o = (t : Int)) (K : Go X nL k n t ws lv st) : Go X nL k n pc ws lv st := fun H locs ls hP hD hS hl => lv_goto C.ex C.by d ht (K H locs ls hP hD hS hl)
theorem g_if_eq (C : Cx X cc own ret cA fr lo nL) (pc : Nat) {x : Int32} {o : Int} (t : Nat) {y z : Option ρ} (d : decode cc pc = .ok (.ifCond .eq o, 3)) (ht : (pc : Int) + o = (t : Int)) (hf : (if x = 0 then y else z) = some r) (A : y = some r → Go X nL k n t ws lv st) (B : z = some r → Go X nL k n (pc + 3) ws lv st) : Go X nL k n pc ws lv (.int x :: st) := fun H locs ls hP hD hS hl => lv_if_eq C.ex C.by d ht (fun c => A (ite_t hf c) H locs ls hP hD hS hl) (fun c => B (ite_f hf c) H locs ls hP hD hS hl)
theorem g_if_ne (C : Cx X cc own ret cA fr lo nL) (pc : Nat) {x : Int32} {o : Int} (t : Nat) {y z : Option ρ} (d : decode cc pc = .ok (.ifCond .ne o, 3)) (ht : (pc : Int) + o = (t : Int)) (hf : (if x = 0 then y else z) = some r) (A : z = some r → Go X nL k n t ws lv st) (B : y = some r → Go X nL k n (pc + 3) ws lv st) : Go X nL k n pc ws lv (.int x :: st) := fun H locs ls hP hD hS hl => lv_if_ne C.ex C.by d ht (fun c => A (ite_f hf c) H locs ls hP hD hS hl) (fun c => B (ite_t hf c) H locs ls hP hD hS hl)
theorem g_if_lt (C : Cx X cc own ret cA fr lo nL) (pc : Nat) {x : Int32} {o : Int} (t : Nat) {y z : Option ρ} (d : decode cc pc = .ok (.ifCond .lt o, 3)) (ht : (pc : Int) + o = (t : Int)) (hf : (if x < 0 then y else z) = some r) (A : y = some r → Go X nL k n t ws lv st) (B : z = some r → Go X nL k n (pc + 3) ws lv st) : Go X nL k n pc ws lv (.int x :: st) := fun H locs ls hP hD hS hl => lv_if_lt C.ex C.by d ht (fun c => A (ite_t hf c) H locs ls hP hD hS hl) (fun c => B (ite_f hf c) H locs ls hP hD hS hl)
theorem g_if_ge (C : Cx X cc own ret cA fr lo nL) (pc : Nat) {x : Int32} {o : Int} (t : Nat) {y z : Option ρ} (d : decode cc pc = .ok (.ifCond .ge o, 3)) (ht : (pc : Int) + o = (t : Int)) (hf : (if 0 ≤ x then y else z) = some r) (A : y = some r → Go X nL k n t ws lv st) (B : z = some r → Go X nL k n (pc + 3) ws lv st) : Go X nL k n pc ws lv (.int x :: st) := fun H locs ls hP hD hS hl => lv_if_ge C.ex C.by d ht (fun c => A (ite_t hf c) H locs ls hP hD hS hl) (fun c => B (ite_f hf c) H locs ls hP hD hS hl)
theorem g_if_gt (C : Cx X cc own ret cA fr lo nL) (pc : Nat) {x : Int32} {o : Int} (t : Nat) {y z : Option ρ} (d : decode cc pc = .ok (.ifCond .gt o, 3)) (ht : (pc : Int) + o = (t : Int)) (hf : (if 0 < x then y else z) = some r) (A : y = some r → Go X nL k n t ws lv st) (B : z = some r → Go X nL k n (pc + 3) ws lv st) : Go X nL k n pc ws lv (.int x :: st) := fun H locs ls hP hD hS hl => lv_if_gt C.ex C.by d ht (fun c => A (ite_t hf c) H locs ls hP hD hS hl) (fun c => B (ite_f hf c) H locs ls hP hD hS hl)
theorem g_if_le (C : Cx X cc own ret cA fr lo nL) (pc : Nat) {x : Int32} {o : Int} (t : Nat) {y z : Option ρ} (d : decode cc pc = .ok (.ifCond .le o, 3)) (ht : (pc : Int) + o = (t : Int)) (hf : (if x ≤ 0 then y else z) = some r) (A : y = some r → Go X nL k n t ws lv st) (B : z = some r → Go X nL k n (pc + 3) ws lv st) : Go X nL k n pc ws lv (.int x :: st) := fun H locs ls hP hD hS hl => lv_if_le C.ex C.by d ht (fun c => A (ite_t hf c) H locs ls hP hD hS hl) (fun c => B (ite_f hf c) H locs ls hP hD hS hl)
theorem g_icmp_eq (C : Cx X cc own ret cA fr lo nL) (pc : Nat) {x w : Int32} {o : Int} (t : Nat) {y z : Option ρ} (d : decode cc pc = .ok (.if_icmp .eq o, 3)) (ht : (pc : Int) + o = (t : Int)) (hf : (if x = w then y else z) = some r) (A : y = some r → Go X nL k n t ws lv st) (B : z = some r → Go X nL k n (pc + 3) ws lv st) : Go X nL k n pc ws lv (.int w :: .int x :: st) := fun H locs ls hP hD hS hl => lv_icmp_eq C.ex C.by d ht (fun c => A (ite_t hf c) H locs ls hP hD hS hl) (fun c => B (ite_f hf c) H locs ls hP hD hS hl)
theorem g_icmp_ne (C : Cx X cc own ret cA fr lo nL) (pc : Nat) {x w : Int32} {o : Int} (t : Nat) {y z : Option ρ} (d : decode cc pc = .ok (.if_icmp .ne o, 3)) (ht : (pc : Int) + o = (t : Int)) (hf : (if x = w then y else z) = some r) (A : z = some r → Go X nL k n t ws lv st) (B : y = some r → Go X nL k n (pc + 3) ws lv st) : Go X nL k n pc ws lv (.int w :: .int x :: st) := fun H locs ls hP hD hS hl => lv_icmp_ne C.ex C.by d ht (fun c => A (ite_f hf c) H locs ls hP hD hS hl) (fun c => B (ite_t hf c) H locs ls hP hD hS hl)
theorem g_icmp_lt (C : Cx X cc own ret cA fr lo nL) (pc : Nat) {x w : Int32} {o : Int} (t : Nat) {y z : Option ρ} (d : decode cc pc = .ok (.if_icmp .lt o, 3)) (ht : (pc : Int) + o = (t : Int)) (hf : (if x < w then y else z) = some r) (A : y = some r → Go X nL k n t ws lv st) (B : z = some r → Go X nL k n (pc + 3) ws lv st) : Go X nL k n pc ws lv (.int w :: .int x :: st) := fun H locs ls hP hD hS hl => lv_icmp_lt C.ex C.by d ht (fun c => A (ite_t hf c) H locs ls hP hD hS hl) (fun c => B (ite_f hf c) H locs ls hP hD hS hl)
theorem g_icmp_ge (C : Cx X cc own ret cA fr lo nL) (pc : Nat) {x w : Int32} {o : Int} (t : Nat) {y z : Option ρ} (d : decode cc pc = .ok (.if_icmp .ge o, 3)) (ht : (pc : Int) + o = (t : Int)) (hf : (if w ≤ x then y else z) = some r) (A : y = some r → Go X nL k n t ws lv st) (B : z = some r → Go X nL k n (pc + 3) ws lv st) : Go X nL k n pc ws lv (.int w :: .int x :: st) := fun H locs ls hP hD hS hl => lv_icmp_ge C.ex C.by d ht (fun c => A (ite_t hf c) H locs ls hP hD hS hl) (fun c => B (ite_f hf c) H locs ls hP hD hS hl)
theorem g_icmp_gt (C : Cx X cc own ret cA fr lo nL) (pc : Nat) {x w : Int32} {o : Int} (t : Nat) {y z : Option ρ} (d : decode cc pc = .ok (.if_icmp .gt o, 3)) (ht : (pc : Int) + o = (t : Int)) (hf : (if w < x then y else z) = some r) (A : y = some r → Go X nL k n t ws lv st) (B : z = some r → Go X nL k n (pc + 3) ws lv st) : Go X nL k n pc ws lv (.int w :: .int x :: st) := fun H locs ls hP hD hS hl => lv_icmp_gt C.ex C.by d ht (fun c => A (ite_t hf c) H locs ls hP hD hS hl) (fun c => B (ite_f hf c) H locs ls hP hD hS hl)
theorem g_icmp_le (C : Cx X cc own ret cA fr lo nL) (pc : Nat) {x w : Int32} {o : Int} (t : Nat) {y z : Option ρ} (d : decode cc pc = .ok (.if_icmp .le o, 3)) (ht : (pc : Int) + o = (t : Int)) (hf : (if x ≤ w then y else z) = some r) (A : y = some r → Go X nL k n t ws lv st) (B : z = some r → Go X nL k n (pc + 3) ws lv st) : Go X nL k n pc ws lv (.int w :: .int x :: st) := fun H locs ls hP hD hS hl => lv_icmp_le C.ex C.by d ht (fun c => A (ite_t hf c) H locs ls hP hD hS hl) (fun c => B (ite_f hf c) H locs ls hP hD hS hl)
theorem g_iald (C : Cx X cc own ret cA fr lo nL) (pc q : Nat) {a m : Nat} {f : Nat → Int32} {i : Int32} {kf : Int32 → Option ρ} (d : decode cc pc = .ok (.iaload, 1)) (ha : ws[q]? = some (aI cA a m f)) (hf : ldA f m i kf = some r) (K : ∀ z : Int32, kf z = some r → Go X nL k n (pc + 1) ws lv (.int z :: st)) : Go X nL k n pc ws lv (.int i :: .ref a :: st) := fun H locs ls hP hD hS hl => va_iald C.ex C.by C.K hP q 0 ha rfl (ldA_some hf).1 d (K _ (ldA_some hf).2 H locs ls hP hD hS hl)
theorem g_zald (C : Cx X cc own ret cA fr lo nL) (pc q : Nat) {a m : Nat} {f : Nat → Int32} {i : Int32} {kf : Int32 → Option ρ} (d : decode cc pc = .ok (.baload, 1)) (ha : ws[q]? = some (aZ cA a m f)) (hf : ldA f m i kf = some r) (K : ∀ z : Int32, kf z = some r → Go X nL k n (pc + 1) ws lv (.int z :: st)) : Go X nL k n pc ws lv (.int i :: .ref a :: st) := fun H locs ls hP hD hS hl => va_zald C.ex C.by C.K hP q 2 ha rfl (ldA_some hf).1 d (K _ (ldA_some hf).2 H locs ls hP hD hS hl)
theorem g_lald (C : Cx X cc own ret cA fr lo nL) (pc q : Nat) {a m : Nat} {f : Nat → Int64} {i : Int32} {kf : Int64 → Option ρ} (d : decode cc pc = .ok (.laload, 1)) (ha : ws[q]? = some (aJ cA a m f)) (hf : ldA f m i kf = some r) (K : ∀ z : Int64, kf z = some r → Go X nL k n (pc + 1) ws lv (.long z :: st)) : Go X nL k n pc ws lv (.int i :: .ref a :: st) := fun H locs ls hP hD hS hl => va_lald C.ex C.by C.K hP q 1 ha rfl (ldA_some hf).1 d (K _ (ldA_some hf).2 H locs ls hP hD hS hl)
theorem g_iast (C : Cx X cc own ret cA fr lo nL) (pc q : Nat) {a m : Nat} {f : Nat → Int32} {i x : Int32} (wsF : (Nat → Int32) → va_W) {kf : (Nat → Int32) → Option ρ} (d : decode cc pc = .ok (.iastore, 1)) (ha : ws[q]? = some (aI cA a m f)) (hw : ∀ z, ws.set q (aI cA a m z) = wsF z) (hf : stI f m i x kf = some r) (K : ∀ z : Nat → Int32, kf z = some r → Go X nL k n (pc + 1) (wsF z) lv st) : Go X nL k n pc ws lv (.int x :: .int i :: .ref a :: st) := fun H locs ls hP hD hS hl => va_iast C.ex C.by C.K hP hD hS q 0 ha rfl (stI_some hf).1 d (fun H1 l1 hP hD hS => K _ (stI_some hf).2 H1 l1 ls (hw _ ▸ hP) (hw _ ▸ hD) hS hl)
theorem g_zast (C : Cx X cc own ret cA fr lo nL) (pc q : Nat) {a m : Nat} {f : Nat → Int32} {i x : Int32} (wsF : (Nat → Int32) → va_W) {kf : (Nat → Int32) → Option ρ} (d : decode cc pc = .ok (.bastore, 1)) (ha : ws[q]? = some (aZ cA a m f)) (hw : ∀ z, ws.set q (aZ cA a m z) = wsF z) (hf : stZ f m i x kf = some r) (K : ∀ z : Nat → Int32, kf z = some r → Go X nL k n (pc + 1) (wsF z) lv st) : Go X nL k n pc ws lv (.int x :: .int i :: .ref a :: st) := fun H locs ls hP hD hS hl => va_zast C.ex C.by C.K hP hD hS q 2 ha rfl (stZ_some hf).1 d (fun H1 l1 hP hD hS => K _ (stZ_some hf).2 H1 l1 ls (hw _ ▸ hP) (hw _ ▸ hD) hS hl)
theorem g_last (C : Cx X cc own ret cA fr lo nL) (pc q : Nat) {a m : Nat} {f : Nat → Int64} {i : Int32} {x : Int64} (wsF : (Nat → Int64) → va_W) {kf : (Nat → Int64) → Option ρ} (d : decode cc pc = .ok (.lastore, 1)) (ha : ws[q]? = some (aJ cA a m f)) (hw : ∀ z, ws.set q (aJ cA a m z) = wsF z) (hf : stJ f m i x kf = some r) (K : ∀ z : Nat → Int64, kf z = some r → Go X nL k n (pc + 1) (wsF z) lv st) : Go X nL k n pc ws lv (.long x :: .int i :: .ref a :: st) := fun H locs ls hP hD hS hl => va_last C.ex C.by C.K hP hD hS q 1 ha rfl (stJ_some hf).1 d (fun H1 l1 hP hD hS => K _ (stJ_some hf).2 H1 l1 ls (hw _ ▸ hP) (hw _ ▸ hD) hS hl)
theorem g_alen (C : Cx X cc own ret cA fr lo nL) (pc q t : Nat) {a : Nat} {c : ClassId} {x : vp_A} {ty : FieldType} (v : Int32) (d : decode cc pc = .ok (.arraylength, 1)) (ha : ws[q]? = some (a, .inl (c, x))) (ht : (TY cA)[t]? = some (c, ty)) (hv : Int32.ofNat x.1 = v) (K : Go X nL k n (pc + 1) ws lv (.int v :: st)) : Go X nL k n pc ws lv (.ref a :: st) := fun H locs ls hP hD hS hl => va_alen C.ex C.by C.K hP q t ha ht hv d (K H locs ls hP hD hS hl)
theorem g_get (C : Cx X cc own ret cA fr lo nL) (pc q j : Nat) {a ci i N : Nat} {Cn : String} {T : u_T} {fs : List Value} {v : Value} (d : decode cc pc = .ok (.getfield i, 3)) (hin : ∀ w ∈ u_ws Cn T N, w ∈ G) (ha : ws[q]? = some (oB a ci fs)) (hc : vwCl[ci]? = some (Cn, T, N)) (hj : j < N) (hw : Cond.fieldLink own i (T j).1 (T j).2.1 (T j).2.2.1 ∈ G) (hv : fs[j]? = some v) (K : Go X nL k n (pc + 3) ws lv (v :: st)) : Go X nL k n pc ws lv (.ref a :: st) := fun H locs ls hP hD hS hl => va_get C.ex C.by C.ts hin C.ow C.K hP q ha hc j hj (C.ts _ hw) (fun _ h => h) hv d (K H locs ls hP hD hS hl)
theorem g_puti (C : Cx X cc own ret cA fr lo nL) (pc q j : Nat) {a ci i N : Nat} {Cn : String} {T : u_T} {fs : List Value} {x : Int32} (ty0 : Nat → FieldType) (wsF : Int32 → va_W) {kf : Int32 → Option ρ} (d : decode cc pc = .ok (.putfield i, 3)) (hin : ∀ w ∈ u_ws Cn T N, w ∈ G) (hty : ∀ k, k < N → parseFieldDescriptor (T k).2.2.1 = some (ty0 k)) (hnm : ∀ a, a < N → ∀ b, b < N → a ≠ b → (T a).2.1 ≠ (T b).2.1) (ha : ws[q]? = some (oB a ci fs)) (hc : vwCl[ci]? = some (Cn, T, N)) (hj : j < N) (hw : Cond.fieldLink own i (T j).1 (T j).2.1 (T j).2.2.1 ∈ G) (hfin : (T j).2.2.2 = false) (ht0 : ty0 j = .int) (hl : j < fs.length) (hws : ∀ z : Int32, ws.set q (oB a ci (fs.set j (.int z))) = wsF z) (hf : bnd x kf = some r) (K : ∀ z : Int32, kf z = some r → Go X nL k n (pc + 3) (wsF z) lv st) : Go X nL k n pc ws lv (.int x :: .ref a :: st) := fun H locs ls hP hD hS hl' => va_put C.ex C.by C.ts hin ty0 hty hnm C.ow C.K hP hD hS q ha hc j hj (C.ts _ hw) (fun _ h => h) hfin ((hty j hj).trans (congrArg some ht0)) rfl rfl hl d (fun H1 l1 hP hD hS => K x hf H1 l1 ls (hws _ ▸ hP) (hws _ ▸ hD) hS hl')
theorem g_putl (C : Cx X cc own ret cA fr lo nL) (pc q j : Nat) {a ci i N : Nat} {Cn : String} {T : u_T} {fs : List Value} {x : Int64} (ty0 : Nat → FieldType) (wsF : Int64 → va_W) {kf : Int64 → Option ρ} (d : decode cc pc = .ok (.putfield i, 3)) (hin : ∀ w ∈ u_ws Cn T N, w ∈ G) (hty : ∀ k, k < N → parseFieldDescriptor (T k).2.2.1 = some (ty0 k)) (hnm : ∀ a, a < N → ∀ b, b < N → a ≠ b → (T a).2.1 ≠ (T b).2.1) (ha : ws[q]? = some (oB a ci fs)) (hc : vwCl[ci]? = some (Cn, T, N)) (hj : j < N) (hw : Cond.fieldLink own i (T j).1 (T j).2.1 (T j).2.2.1 ∈ G) (hfin : (T j).2.2.2 = false) (ht0 : ty0 j = .long) (hl : j < fs.length) (hws : ∀ z : Int64, ws.set q (oB a ci (fs.set j (.long z))) = wsF z) (hf : bnd x kf = some r) (K : ∀ z : Int64, kf z = some r → Go X nL k n (pc + 3) (wsF z) lv st) : Go X nL k n pc ws lv (.long x :: .ref a :: st) := fun H locs ls hP hD hS hl' => va_put C.ex C.by C.ts hin ty0 hty hnm C.ow C.K hP hD hS q ha hc j hj (C.ts _ hw) (fun _ h => h) hfin ((hty j hj).trans (congrArg some ht0)) rfl rfl hl d (fun H1 l1 hP hD hS => K x hf H1 l1 ls (hws _ ▸ hP) (hws _ ▸ hD) hS hl')
theorem g_max (C : Cx X cc own ret cA fr lo nL) (pc : Nat) {i : Nat} {x y : Int32} (d : decode cc pc = .ok (.invokestatic i, 3)) (h1 : Cond.methodLink own i Lib.Math.max.name ∈ G) (h2 : Cond.static Lib.Math.max.name ∈ G) (h3 : Cond.initialized "java/lang/Math" ∈ G) (h4 : Cond.code Lib.Math.max.name Lib.Math.max.code 2 (some .int) ∈ G) (hfr : 1 ≤ fr) (hlo : (st.map fun v => v.category).sum + 13 ≤ lo) (hk : k ≤ (x_R X).cells) (hn : n ≤ (x_R X).slots) (K : Go X nL k n (pc + 3) ws lv (.int (if x < y then y else x) :: st)) : Go X nL k n pc ws lv (.int y :: .int x :: st) := fun H locs ls hP hD hS hl => va_mmax C.ex C.by (C.ml.trans hl.1.symm) C.ow (C.ts _ h1) (C.ts _ h2) (C.ts _ h3) (C.ts _ h4) (Nat.le_trans hfr C.rm.1) (Nat.le_trans hlo C.rm.2) hk hn d (K H locs ls hP hD hS hl)
end GR
end
section
/-! Contracts: what a method's start and end are. -/
def Px (D : va_G) (cA : Nat → ClassId) (sz : Nat) (ws : va_W) (U : State) : Prop := U.heap.size = sz ∧ va_P D vwCl ws U.heap ∧ va_K D vwCl (TY cA) U ∧ va_D (fun _ => True) ws ∧ NW U
def Qx (D : va_G) (A : Nat → Prop) (B : Option Value → va_W → Prop) : Array Value → State → Outcome → State → Prop := fun _ st oc t => (∃ (res : Option Value) (ws' : va_W), B res ws' ∧ oc = .returned res ∧ va_P D vwCl ws' t.heap ∧ va_D A ws') ∧ va_F A st t
def MT (l : Launch) (cA : Nat → ClassId) (y : MethodName) (cc : ByteArray) (nL : Nat) (ret : Option FieldType) (rm : Room) (av : List Value) (ws : va_W) (B : Option Value → va_W → Prop) : Prop :=
  ∀ (sz : Nat) (D : va_G), Met l y (.code y cc nL ret :: G) rm (va_Pc av (Px D cA sz ws)) (Qx D (va_A ws sz) B) rm.cells rm.slots (va_A ws sz)
abbrev sB (res : Option Value) (ws' : va_W) : Option Value → va_W → Prop := fun r w => r = res ∧ w = ws'
def Fx (X : XT) (B : Option Value → va_W → Prop) (k n : Nat) : Prop := x_Q X = MQ (x_b X) (Qx (x_D X) (x_A X) B) (x_a X) (x_s X) k n (x_A X) ∧ x_H X = (x_s X).heap
theorem Px_blind {D : va_G} {cA : Nat → ClassId} {sz : Nat} {ws : va_W} {av : List Value} : FrameBlind (va_Pc av (Px D cA sz ws)) := by
  intro a U g mk ⟨h0, h1, h2, h3, h4, h5⟩
  exact ⟨h0, h1, h2, va_K.moved (u := U) (U := U.calling g mk a) (Vm.Alike.refl U.vm) h3, h4, NW.same (s := U) (U := U.calling g mk a) rfl h5⟩
theorem MT.of {l : Launch} {cA : Nat → ClassId} {y : MethodName} {cc : ByteArray} {nL : Nat} {ret : Option FieldType} {rm : Room} {av : List Value} {ws : va_W} {B : Option Value → va_W → Prop} (hy : plainName y.cls = true) (hlen : (lg_sl av).length ≤ nL)
    (h : ∀ X : XT, x_l X = l → Cx X cc y.cls ret cA rm.frames rm.locals nL → Fx X B rm.cells rm.slots → (x_me X).name = y.name → (x_R X).cells = rm.cells → (x_R X).slots = rm.slots → Go X nL 0 0 0 ws (lv_args 0 av) []) : MT l cA y cc nL ret rm av ws B := by
  intro sz D
  refine Met.ofW (cc := cc) (maxL := nL) (ret := ret) hy rfl ?_
  intro p e s m args below meth c s₁ B' hml hv
  obtain ⟨rfl, hsz, hP, hK, hD0, hN⟩ := hv
  subst hsz
  have hD := hD0.self (sz := s.heap.size)
  have hts := atoms_spec (ws := .code y cc nL ret :: G) B'.pre
  rw [lg_entry_eq]
  have hl := lv_entry av (n := nL) hlen
  exact h (p, l, e, (headSpec (.code y cc nL ret :: G) rm).room, s, m, av.toArray, below, meth, c, D, va_A ws s.heap.size, s.heap, MQ below (Qx D (va_A ws s.heap.size) B) av.toArray s rm.cells rm.slots (va_A ws s.heap.size)) rfl
    ⟨B'.exec, B'.bytes, hml, findClass_of_methodNamed B'.named, fun w hw => hts w (List.mem_cons_of_mem _ hw), B'.returns, B'.notSynchronized, hK, hN, ⟨Nat.le_refl _, Nat.le_refl _⟩, fun q h => Or.inr h⟩ ⟨rfl, rfl⟩ ((name_of_methodNamed B'.named B'.method).1) rfl rfl s.heap [] _ hP hD va_S.rf hl
/-! A callee's cells put back at their places; what is left over is new. -/
def putAt (ws : va_W) : List Nat → va_W → va_W
  | i :: is, c :: cs => putAt (ws.set i c) is cs
  | _, cs => ws ++ cs
theorem putAt_nil (ws cs : va_W) : putAt ws [] cs = ws ++ cs := by cases cs <;> rfl
theorem putAt_get : ∀ (is : List Nat) (cs ws : va_W), is.length ≤ cs.length → va_nd is = true → (∀ i ∈ is, i < ws.length) → ∀ (k : Nat) (q : Nat × va_E), (putAt ws is cs)[k]? = some q →
    (∃ j, cs[j]? = some q ∧ (is[j]? = some k ∨ (is.length ≤ j ∧ k = ws.length + (j - is.length)))) ∨ (k ∉ is ∧ k < ws.length ∧ ws[k]? = some q)
  | [], cs, ws, _, _, _, k, q, h => by
    rw [putAt_nil] at h
    by_cases hk : k < ws.length
    · rw [List.getElem?_append_left hk] at h
      exact Or.inr ⟨List.not_mem_nil, hk, h⟩
    · rw [List.getElem?_append_right (by omega)] at h
      exact Or.inl ⟨k - ws.length, h, Or.inr ⟨Nat.zero_le _, by simp; omega⟩⟩
  | i :: is, [], ws, hl, _, _, k, q, h => by simp at hl
  | i :: is, c :: cs, ws, hl, hn, hi, k, q, h => by
    simp only [va_nd, Bool.and_eq_true, decide_eq_true_eq] at hn
    have h' : (putAt (ws.set i c) is cs)[k]? = some q := h
    have hlen : (ws.set i c).length = ws.length := List.length_set
    rcases putAt_get is cs (ws.set i c) (by simpa using hl) hn.2 (fun j hj => by rw [hlen]; exact hi j (List.mem_cons_of_mem _ hj)) k q h' with ⟨j, h1, h2⟩ | ⟨h1, h2, h3⟩
    · refine Or.inl ⟨j + 1, by simpa using h1, ?_⟩
      rcases h2 with h2 | ⟨h2, h3⟩
      · exact Or.inl (by simpa using h2)
      · exact Or.inr ⟨by simp; exact h2, by rw [h3, hlen]; simp⟩
    · by_cases hki : k = i
      · subst hki
        rw [List.getElem?_set_self (hi k List.mem_cons_self)] at h3
        cases h3
        exact Or.inl ⟨0, rfl, Or.inl rfl⟩
      · rw [List.getElem?_set_ne (Ne.symm hki)] at h3
        exact Or.inr ⟨fun hm => by
          rcases List.mem_cons.mp hm with h | h
          · exact hki h
          · exact h1 h, by rw [hlen] at h2; exact h2, h3⟩
theorem kjoin {A0 : Nat → Prop} {D : va_G} {cl : List vw_C} {ws wc w1 : va_W} {H H1 : Heap} (hP : va_P D cl ws H) (hD : va_D A0 ws) (isC : List Nat) (hC : isC.map (fun i => ws[i]?) = wc.map some) (hn : va_nd isC = true) (hle : isC.length ≤ w1.length)
    (hk : ∀ q : Nat, q < H.size → ¬ va_A wc H.size q → H1[q]? = H[q]?) (hF : ∀ q, va_A wc H.size q → A0 q) (hP1 : va_P D cl w1 H1) (hD1 : va_D (va_A wc H.size) w1) : va_P D cl (putAt ws isC w1) H1 ∧ va_D A0 (putAt ws isC w1) := by
  have at' : ∀ (k : Nat) (q : Nat × va_E), wc[k]? = some q → ∃ i, isC[k]? = some i ∧ ws[i]? = some q := by
    intro k q hq
    have h1 : (isC.map (fun i => ws[i]?))[k]? = some (some q) := by rw [hC, List.getElem?_map, hq]; rfl
    rw [List.getElem?_map] at h1
    cases hi : isC[k]? with
    | none => rw [hi] at h1; cases h1
    | some i => rw [hi] at h1; exact ⟨i, rfl, Option.some.inj h1⟩
  have hlt : ∀ i ∈ isC, i < ws.length := by
    intro i hi
    obtain ⟨k, hk⟩ := List.getElem?_of_mem hi
    have h1 : (isC.map (fun i => ws[i]?))[k]? = some (ws[i]?) := by rw [List.getElem?_map, hk]; rfl
    rw [hC, List.getElem?_map] at h1
    cases hw : wc[k]? with
    | none => rw [hw] at h1; cases h1
    | some q => rw [hw] at h1; exact (List.getElem?_eq_some_iff.mp (Option.some.inj h1).symm).1
  have apart : ∀ (k : Nat) (q : Nat × va_E), k ∉ isC → ws[k]? = some q → q.1 < H.size ∧ ¬ va_A wc H.size q.1 := by
    intro k q hki hq
    have hl := (hP k q hq).lt
    refine ⟨hl, fun h => ?_⟩
    rcases h with ⟨k2, e, h⟩ | h
    · obtain ⟨j, h3, h4⟩ := at' k2 (q.1, e) h
      have hij := hD.1 k j q (q.1, e) hq h4 rfl
      subst hij
      exact hki (List.mem_of_getElem? h3)
    · omega
  refine ⟨fun k q hq => ?_, fun i j x y hx hy hxy => ?_, fun k q hq => ?_⟩
  · rcases putAt_get isC w1 ws hle hn hlt k q hq with ⟨j, h1, -⟩ | ⟨h1, -, h3⟩
    · exact hP1 j q h1
    · obtain ⟨g1, g2⟩ := apart k q h1 h3
      exact (hP k q h3).kept (hk q.1 g1 g2)
  · rcases putAt_get isC w1 ws hle hn hlt i x hx with ⟨a, h1, h2⟩ | ⟨h1, h1', h2⟩ <;> rcases putAt_get isC w1 ws hle hn hlt j y hy with ⟨b, h3, h4⟩ | ⟨h3, h3', h4⟩
    · have hab := hD1.1 a b x y h1 h3 hxy
      subst hab
      rcases h2 with h2 | ⟨h2, h5⟩ <;> rcases h4 with h4 | ⟨h4, h6⟩
      · exact Option.some.inj (h2.symm.trans h4)
      · have := (List.getElem?_eq_some_iff.mp h2).1; omega
      · have := (List.getElem?_eq_some_iff.mp h4).1; omega
      · omega
    · exact absurd (by rw [← hxy]; exact hD1.2 a x h1) (apart j y h3 h4).2
    · exact absurd (by rw [hxy]; exact hD1.2 b y h3) (apart i x h1 h2).2
    · exact hD.1 i j x y h2 h4 hxy
  · rcases putAt_get isC w1 ws hle hn hlt k q hq with ⟨j, h1, -⟩ | ⟨h1, -, h3⟩
    · exact hF _ (hD1.2 j q h1)
    · exact hD.2 k q h3
theorem putAt_at2 : ∀ (is : List Nat) (cs ws : va_W) (k : Nat), is.length ≤ cs.length → k ∉ is → k < ws.length → (putAt ws is cs)[k]? = ws[k]?
  | [], cs, ws, k, _, _, hk => by rw [putAt_nil, List.getElem?_append_left hk]
  | i :: is, [], ws, k, hl, _, _ => by simp at hl
  | i :: is, c :: cs, ws, k, hl, hn, hk => by
    have h1 : k ≠ i := fun e => hn (by rw [e]; exact List.mem_cons_self)
    have h := putAt_at2 is cs (ws.set i c) k (by simpa using hl) (fun h => hn (List.mem_cons_of_mem _ h)) (by rw [List.length_set]; exact hk)
    exact h.trans (List.getElem?_set_ne (Ne.symm h1))
theorem putAt_at1 : ∀ (is : List Nat) (cs ws : va_W) (j k : Nat), is.length ≤ cs.length → va_nd is = true → is[j]? = some k → k < ws.length → (putAt ws is cs)[k]? = cs[j]?
  | [], cs, ws, j, k, _, _, h, _ => by simp at h
  | i :: is, [], ws, j, k, hl, _, _, _ => by simp at hl
  | i :: is, c :: cs, ws, 0, k, hl, hn, h, hk => by
    simp only [va_nd, Bool.and_eq_true, decide_eq_true_eq] at hn
    simp at h
    subst h
    have h := putAt_at2 is cs (ws.set i c) i (by simpa using hl) hn.1 (by rw [List.length_set]; exact hk)
    exact h.trans (by rw [List.getElem?_set_self hk]; rfl)
  | i :: is, c :: cs, ws, j + 1, k, hl, hn, h, hk => by
    simp only [va_nd, Bool.and_eq_true, decide_eq_true_eq] at hn
    have h := putAt_at1 is cs (ws.set i c) j k (by simpa using hl) hn.2 (by simpa using h) (by rw [List.length_set]; exact hk)
    exact h.trans (by simp)
def idxI (k : Nat) : List Nat → Option Nat
  | [] => none
  | i :: is => if i = k then some 0 else (idxI k is).map (· + 1)
theorem idxI_some : ∀ (is : List Nat) (k j : Nat), idxI k is = some j → is[j]? = some k
  | [], k, j, h => by simp [idxI] at h
  | i :: is, k, j, h => by
    unfold idxI at h
    split at h
    · cases h; simp; assumption
    · cases hh : idxI k is with
      | none => rw [hh] at h; cases h
      | some a => rw [hh] at h; cases h; simpa using idxI_some is k a hh
theorem idxI_none : ∀ (is : List Nat) (k : Nat), idxI k is = none → k ∉ is
  | [], k, h => List.not_mem_nil
  | i :: is, k, h => by
    unfold idxI at h
    split at h
    · cases h
    · cases hh : idxI k is with
      | none =>
        intro hm
        rcases List.mem_cons.mp hm with e | hm
        · rename_i hne; exact hne e.symm
        · exact idxI_none is k hh hm
      | some a => rw [hh] at h; cases h
def planOf (N : Nat) (is : List Nat) : List (Option Nat) := (List.range N).map (fun k => idxI k is)
def mkW (w1 : va_W) : va_W → List (Option Nat) → va_W
  | c :: cs, none :: ps => c :: mkW w1 cs ps
  | c :: cs, some j :: ps => w1.getD j c :: mkW w1 cs ps
  | _, _ => []
theorem mkW_get (w1 : va_W) : ∀ (ws : va_W) (ps : List (Option Nat)) (k : Nat) (q : Nat × va_E), (mkW w1 ws ps)[k]? = some q → (∃ j c, ps[k]? = some (some j) ∧ ws[k]? = some c ∧ q = w1.getD j c) ∨ (ps[k]? = some none ∧ ws[k]? = some q)
  | [], ps, k, q, h => by simp [mkW] at h
  | c :: cs, [], k, q, h => by simp [mkW] at h
  | c :: cs, none :: ps, 0, q, h => by
    simp [mkW] at h
    exact Or.inr ⟨rfl, by simp [h]⟩
  | c :: cs, some j :: ps, 0, q, h => by
    simp only [mkW, List.getElem?_cons_zero, Option.some.injEq] at h
    exact Or.inl ⟨j, c, rfl, rfl, h.symm⟩
  | c :: cs, none :: ps, k + 1, q, h => by
    have h' : (mkW w1 cs ps)[k]? = some q := by simpa [mkW] using h
    simpa using mkW_get w1 cs ps k q h'
  | c :: cs, some j :: ps, k + 1, q, h => by
    have h' : (mkW w1 cs ps)[k]? = some q := by simpa [mkW] using h
    simpa using mkW_get w1 cs ps k q h'
theorem mk_put {ws w1 : va_W} {isC : List Nat} {N : Nat} {ps : List (Option Nat)} (hN : ws.length = N) (hps : planOf N isC = ps) (hnd : va_nd isC = true) (hlt : isC.length = w1.length) (k : Nat) (q : Nat × va_E) (h : (mkW w1 ws ps)[k]? = some q) : (putAt ws isC w1)[k]? = some q := by
  have hp : ∀ o, ps[k]? = some o → k < ws.length ∧ idxI k isC = o := by
    intro o ho
    rw [← hps, planOf, List.getElem?_map] at ho
    cases hr : (List.range N)[k]? with
    | none => rw [hr] at ho; cases ho
    | some a =>
      rw [hr] at ho
      obtain ⟨h1, h2⟩ := List.getElem?_eq_some_iff.mp hr
      simp at h1 h2
      subst h2
      exact ⟨by omega, Option.some.inj ho⟩
  rcases mkW_get w1 ws ps k q h with ⟨j, c, h1, h2, h3⟩ | ⟨h1, h2⟩
  · obtain ⟨hk, hi⟩ := hp _ h1
    have hj := idxI_some isC k j hi
    have hjl : j < w1.length := by rw [← hlt]; exact (List.getElem?_eq_some_iff.mp hj).1
    rw [putAt_at1 isC w1 ws j k (Nat.le_of_eq hlt) hnd hj hk, h3, List.getD_eq_getElem?_getD, List.getElem?_eq_getElem hjl]
    rfl
  · obtain ⟨hk, hi⟩ := hp _ h1
    rw [putAt_at2 isC w1 ws k (Nat.le_of_eq hlt) (idxI_none isC k hi) hk]
    exact h2
theorem g_sub {X : XT} {nL k n pc : Nat} {ws ws2 : va_W} {lv : List (Nat × Value)} {st : List Value} (h : ∀ (k : Nat) (q : Nat × va_E), ws2[k]? = some q → ws[k]? = some q) (K : Go X nL k n pc ws2 lv st) : Go X nL k n pc ws lv st := fun H locs ls hP hD hS hl => K H locs ls (fun k q hk => hP k q (h k q hk)) ⟨fun i j p q hi hj e => hD.1 i j p q (h _ _ hi) (h _ _ hj) e, fun k q hk => hD.2 k q (h k q hk)⟩ hS hl
section KC
variable {p : Program} {l : Launch} {e : Env} {R : Room} {s : State} {m : MethodId} {args : Array Value} {below : List Frame} {meth : Method} {c : Code} {H : Heap} {locs : List Loc} {cells slots : Nat} {Q : State → Prop}
variable {pc : Nat} {ls : Array Slot} {rest st0 : List Value} {a : Array Value} {A0 A1 : Nat → Prop} {H0 : Heap} {mc ms : Nat} {free : Addr → Prop}
theorem kcall {D : va_G} {B : Option Value → va_W → Prop} (hr : va_Run p l e R s m args below meth c H locs cells slots mc ms (F0 m pc ls st0) rest (Qx D A1 B a) free) (hS : va_S A0 H0 H locs) (hA : ∀ q, q < H.size → A1 q → A0 q) (hf : ∀ q, free q → A0 q)
    (kk : ∀ (res : Option Value) (ws' : va_W) (H1 : Heap) (locs1 : List Loc), B res ws' → va_P D vwCl ws' H1 → va_D A1 ws' → (∀ q : Nat, q < H.size → ¬ A1 q → H1[q]? = H[q]?) → va_S A0 H0 H1 locs1 → W p l e R s m args below meth c H1 locs1 (cells + mc) (slots + ms) Q (F0 m (pc + 3) ls (res.toList ++ rest))) : W p l e R s m args below meth c H locs cells slots Q (F0 m pc ls st0) := by
  intro T hT X
  obtain ⟨v, st₀, t, T', L, h0, X', hL, e1, e2, ⟨⟨res, ws', hB, hv, hp, hd⟩, hz, hk⟩, st⟩ := hr T hT X
  cases hv
  rw [h0] at hz hk
  obtain ⟨t2, a1, b1⟩ := kk v ws' T'.heap (locs ++ L) hB (by rw [e1]; exact hp) hd (fun q h1 h2 => by rw [e1]; exact hk q h1 h2)
    ⟨Nat.le_trans hS.1 (by rw [e1]; exact hz), fun q h1 h2 => by rw [e1, hk q (Nat.lt_of_lt_of_le h1 hS.1) (fun z => h2 (hA q (Nat.lt_of_lt_of_le h1 hS.1) z))]; exact hS.2.1 q h1 h2, fun q hq => by
      rcases List.mem_append.mp hq with h | h
      · exact hS.2.2 q h
      · exact hf _ (hL q h)⟩ T' rfl X'
  exact ⟨t2, st t2 a1, b1⟩
end KC
section GC
variable {X : XT} {cc : ByteArray} {own : String} {ret : Option FieldType} {cA : Nat → ClassId} {fr lo nL k n : Nat} {ws : va_W} {lv : List (Nat × Value)} {st rest : List Value}
abbrev okY (y : MethodName) (j : Nat) : Prop := y.cls ≠ "java/lang/invoke/MethodHandle" ∧ y.cls ≠ "java/lang/invoke/VarHandle" ∧ (parseMethodDescriptor y.desc).map (fun d => d.parameters.length) = some j
theorem g_callV (C : Cx X cc own ret cA fr lo nL) (pc : Nat) {y : MethodName} {cc' : ByteArray} {nL' : Nat} {ret' : Option FieldType} {rm : Room} {b : Nat} {As : List Value} {wc : va_W} {B : Option Value → va_W → Prop} {i ci N : Nat} {fs : List Value} {T : u_T} (isC : List Nat) (q0 : Nat) (d : decode cc pc = .ok (.invokevirtual i, 3)) (hM : MT (x_l X) cA y cc' nL' ret' rm (.ref b :: As) wc B)
    (h1 : Cond.methodLink own i y ∈ G) (h2 : Cond.instanceMethod y ∈ G) (h3 : Cond.selects y.cls y y ∈ G) (h4 : Cond.initialized y.cls ∈ G) (h5 : Cond.code y cc' nL' ret' ∈ G) (hd : okY y As.length) (hR : rm.frames + 1 ≤ fr ∧ 8 + (nL' + 11) + rm.locals ≤ lo) (hrc : k + rm.cells ≤ (x_R X).cells ∧ n + rm.slots ≤ (x_R X).slots)
    (hq0 : ws[q0]? = some (oB b ci fs)) (hc : vwCl[ci]? = some (y.cls, T, N)) (hC : isC.map (fun i => ws[i]?) = wc.map some) (hnd : va_nd isC = true) (hst : st = As.reverse ++ .ref b :: rest) (hsum : (rest.map fun v => v.category).sum ≤ 8)
    (K : ∀ (res : Option Value) (w1 : va_W), B res w1 → isC.length ≤ w1.length ∧ Go X nL (k + rm.cells) (n + rm.slots) (pc + 3) (putAt ws isC w1) lv (res.toList ++ rest)) : Go X nL k n pc ws lv st := by
  intro H locs ls hP hD hS hl
  have hFc := va_free (wc := wc) hD hS C.hA isC hC
  have hPc := hP.sub (ws' := wc) isC (by
    have := congrArg (List.filterMap id) hC
    simpa [List.filterMap_map] using this)
  have hDc := hD.sub (ws' := wc) isC hnd hC
  have hG : GoodIn G (wsV own i y.cls y (.code y cc' nL' ret' :: G)) := gi_G (fun w hw => by
    simp only [wsV, List.cons_append, List.nil_append, List.mem_cons] at hw
    rcases hw with rfl | rfl | rfl | rfl | rfl | hw
    · exact h1
    · exact h2
    · exact h3
    · exact h4
    · exact h5
    · exact hw)
  refine kcall (va_runV (As := As) (rest := rest) ⟨C.ex, C.by, C.ml, C.ow, C.ts⟩ (hM H.size (x_D X)) (cwV As.length C.ts hG rfl rfl rfl ⟨rfl, hd⟩ ⟨Nat.le_trans hR.1 C.rm.1, Nat.le_trans hR.2 C.rm.2⟩) ⟨Px_blind, va_recv C.K hP hc hq0, fun U hU hW => ⟨rfl, by rw [hU], by rw [hU]; exact hPc, va_K.moved hW.alike C.K, hDc.weaken (fun _ _ _ _ => trivial), NW.warm hW C.nw⟩⟩ rfl rfl hl.1 hst (lv_room hsum) d hrc) hS (fun q _ h => hFc q h) hFc ?_
  intro res w1 H1 locs1 hB hP1 hD1 hk1 hS1
  obtain ⟨hle, hgo⟩ := K res w1 hB
  obtain ⟨hP2, hD2⟩ := kjoin hP hD isC hC hnd hle hk1 hFc hP1 hD1
  exact hgo H1 locs1 ls hP2 hD2 hS1 hl
theorem g_callV1 (C : Cx X cc own ret cA fr lo nL) (pc : Nat) {y : MethodName} {cc' : ByteArray} {nL' : Nat} {ret' : Option FieldType} {rm : Room} {b : Nat} {As : List Value} {wc w1 ws' : va_W} {res : Option Value} {i ci N : Nat} {fs : List Value} {T : u_T} (isC : List Nat) (q0 : Nat) (d : decode cc pc = .ok (.invokevirtual i, 3)) (hM : MT (x_l X) cA y cc' nL' ret' rm (.ref b :: As) wc (sB res w1))
    (h1 : Cond.methodLink own i y ∈ G) (h2 : Cond.instanceMethod y ∈ G) (h3 : Cond.selects y.cls y y ∈ G) (h4 : Cond.initialized y.cls ∈ G) (h5 : Cond.code y cc' nL' ret' ∈ G) (hd : okY y As.length) (hR : rm.frames + 1 ≤ fr ∧ 8 + (nL' + 11) + rm.locals ≤ lo) (hrc : k ≤ (x_R X).cells ∧ n ≤ (x_R X).slots) (hz : rm.cells = 0 ∧ rm.slots = 0)
    (hq0 : ws[q0]? = some (oB b ci fs)) (hc : vwCl[ci]? = some (y.cls, T, N)) (hC : isC.map (fun i => ws[i]?) = wc.map some) (hnd : va_nd isC = true) (hst : st = As.reverse ++ .ref b :: rest) (hsum : (rest.map fun v => v.category).sum ≤ 8) (hle : isC.length = w1.length) {N0 : Nat} (hN : ws.length = N0) (ps : List (Option Nat)) (hps : planOf N0 isC = ps) (hws : mkW w1 ws ps = ws') {st' : List Value} (hst' : res.toList ++ rest = st')
    (K : Go X nL k n (pc + 3) ws' lv st') : Go X nL k n pc ws lv st := by
  refine g_callV C pc isC q0 d hM h1 h2 h3 h4 h5 hd hR (by rw [hz.1, hz.2]; exact hrc) hq0 hc hC hnd hst hsum (fun r w h => ?_)
  obtain ⟨rfl, rfl⟩ := h
  refine ⟨Nat.le_of_eq hle, ?_⟩
  rw [hz.1, hz.2, hst']
  exact g_sub (fun k q h => mk_put hN hps hnd hle k q (by rw [hws]; exact h)) K
theorem g_callS (C : Cx X cc own ret cA fr lo nL) (pc : Nat) {y : MethodName} {cc' : ByteArray} {nL' : Nat} {ret' : Option FieldType} {rm : Room} {As : List Value} {wc w1 ws' : va_W} {res : Option Value} {i : Nat} (isC : List Nat) (d : decode cc pc = .ok (.invokestatic i, 3)) (hM : MT (x_l X) cA y cc' nL' ret' rm As wc (sB res w1))
    (h1 : Cond.methodLink own i y ∈ G) (h2 : Cond.static y ∈ G) (h4 : Cond.initialized y.cls ∈ G) (h5 : Cond.code y cc' nL' ret' ∈ G) (hd : okY y As.length) (hR : rm.frames + 1 ≤ fr ∧ 8 + (nL' + 11) + rm.locals ≤ lo) (hrc : k ≤ (x_R X).cells ∧ n ≤ (x_R X).slots) (hz : rm.cells = 0 ∧ rm.slots = 0)
    (hC : isC.map (fun i => ws[i]?) = wc.map some) (hnd : va_nd isC = true) (hst : st = As.reverse ++ rest) (hsum : (rest.map fun v => v.category).sum ≤ 8) (hle : isC.length = w1.length) {N0 : Nat} (hN : ws.length = N0) (ps : List (Option Nat)) (hps : planOf N0 isC = ps) (hws : mkW w1 ws ps = ws') {st' : List Value} (hst' : res.toList ++ rest = st')
    (K : Go X nL k n (pc + 3) ws' lv st') : Go X nL k n pc ws lv st := by
  intro H locs ls hP hD hS hl
  have hFc := va_free (wc := wc) hD hS C.hA isC hC
  have hPc := hP.sub (ws' := wc) isC (by
    have := congrArg (List.filterMap id) hC
    simpa [List.filterMap_map] using this)
  have hDc := hD.sub (ws' := wc) isC hnd hC
  have hG : GoodIn G (va_wsS own i y (.code y cc' nL' ret' :: G)) := gi_G (fun w hw => by
    simp only [va_wsS, List.cons_append, List.nil_append, List.mem_cons] at hw
    rcases hw with rfl | rfl | rfl | rfl | hw
    · exact h1
    · exact h2
    · exact h4
    · exact h5
    · exact hw)
  refine kcall (va_runS (As := As) (rest := rest) ⟨C.ex, C.by, C.ml, C.ow, C.ts⟩ (hM H.size (x_D X)) (va_cwS As.length C.ts hG rfl rfl rfl hd ⟨Nat.le_trans hR.1 C.rm.1, Nat.le_trans hR.2 C.rm.2⟩) ⟨Px_blind, fun U hU hW => ⟨rfl, by rw [hU], by rw [hU]; exact hPc, va_K.moved hW.alike C.K, hDc.weaken (fun _ _ _ _ => trivial), NW.warm hW C.nw⟩⟩ rfl rfl hl.1 hst (lv_room hsum) d (by rw [hz.1, hz.2]; exact hrc)) hS (fun q _ h => hFc q h) hFc ?_
  intro r w H1 locs1 hB hP1 hD1 hk1 hS1
  obtain ⟨rfl, rfl⟩ := hB
  obtain ⟨hP2, hD2⟩ := kjoin hP hD isC hC hnd (Nat.le_of_eq hle) hk1 hFc hP1 hD1
  rw [hz.1, hz.2, hst']
  exact g_sub (fun k q h => mk_put hN hps hnd hle k q (by rw [hws]; exact h)) K H1 locs1 ls hP2 hD2 hS1 hl
theorem g_callSN (C : Cx X cc own ret cA fr lo nL) (pc : Nat) {y : MethodName} {cc' : ByteArray} {nL' : Nat} {ret' : Option FieldType} {rm : Room} {As : List Value} {wc w1 ws' : va_W} {res : Option Value} {i : Nat} {host : String} (isC : List Nat) (d : decode cc pc = .ok (.invokestatic i, 3)) (hM : MT (x_l X) cA y cc' nL' ret' rm As wc (sB res w1))
    (h1 : (own, i, y, host) ∈ nwT) (h2 : Cond.static y ∈ G) (h4 : Cond.initialized y.cls ∈ G) (h5 : Cond.code y cc' nL' ret' ∈ G) (hd : okY y As.length) (hR : rm.frames + 1 ≤ fr ∧ 8 + (nL' + 11) + rm.locals ≤ lo) (hrc : k ≤ (x_R X).cells ∧ n ≤ (x_R X).slots) (hz : rm.cells = 0 ∧ rm.slots = 0)
    (hC : isC.map (fun i => ws[i]?) = wc.map some) (hnd : va_nd isC = true) (hst : st = As.reverse ++ rest) (hsum : (rest.map fun v => v.category).sum ≤ 8) (hle : isC.length = w1.length) {N0 : Nat} (hN : ws.length = N0) (ps : List (Option Nat)) (hps : planOf N0 isC = ps) (hws : mkW w1 ws ps = ws') {st' : List Value} (hst' : res.toList ++ rest = st')
    (K : Go X nL k n (pc + 3) ws' lv st') : Go X nL k n pc ws lv st := by
  intro H locs ls hP hD hS hl
  have hFc := va_free (wc := wc) hD hS C.hA isC hC
  have hPc := hP.sub (ws' := wc) isC (by
    have := congrArg (List.filterMap id) hC
    simpa [List.filterMap_map] using this)
  have hDc := hD.sub (ws' := wc) isC hnd hC
  have hG : GoodIn G (.code y cc' nL' ret' :: G) := gi_G (fun w hw => by
    rcases List.mem_cons.mp hw with rfl | hw
    · exact h5
    · exact hw)
  refine kcall (va_runSN (As := As) (rest := rest) (host := host) ⟨C.ex, C.by, C.ml, C.ow, C.ts⟩ (hM H.size (x_D X)) ⟨va_cnB As.length C.ts hG rfl rfl rfl (C.nw.1 _ h1) (C.ts _ h4) hd ⟨Nat.le_trans hR.1 C.rm.1, Nat.le_trans hR.2 C.rm.2⟩, C.ts _ h2, trivial⟩ ⟨Px_blind, fun U hU hW => ⟨rfl, by rw [hU], by rw [hU]; exact hPc, va_K.moved hW.alike C.K, hDc.weaken (fun _ _ _ _ => trivial), NW.warm hW C.nw⟩⟩ rfl rfl hl.1 hst (lv_room hsum) d (by rw [hz.1, hz.2]; exact hrc)) hS (fun q _ h => hFc q h) hFc ?_
  intro r w H1 locs1 hB hP1 hD1 hk1 hS1
  obtain ⟨rfl, rfl⟩ := hB
  obtain ⟨hP2, hD2⟩ := kjoin hP hD isC hC hnd (Nat.le_of_eq hle) hk1 hFc hP1 hD1
  rw [hz.1, hz.2, hst']
  exact g_sub (fun k q h => mk_put hN hps hnd hle k q (by rw [hws]; exact h)) K H1 locs1 ls hP2 hD2 hS1 hl
variable {B : Option Value → va_W → Prop}
theorem g_iret (C : Cx X cc own (some .int) cA fr lo nL) (pc : Nat) {v : Int32} (d : decode cc pc = .ok (.ireturn, 1)) (F : Fx X B k n) (hB : B (some (.int v)) ws) : Go X nL k n pc ws lv [.int v] := by
  intro H locs ls hP hD hS hl
  unfold XW
  rw [F.1]
  exact W.iret C.ex C.by C.rt (fun t ht hW => ⟨⟨_, _, hB, rfl, by rw [ht]; exact hP, hD⟩, va_S.F (F.2 ▸ hS) ht⟩) hS.2.2 d C.lk
theorem g_zret (C : Cx X cc own (some .boolean) cA fr lo nL) (pc : Nat) {v : Int32} (d : decode cc pc = .ok (.ireturn, 1)) (hv : v = 0 ∨ v = 1) (F : Fx X B k n) (hB : B (some (.int v)) ws) : Go X nL k n pc ws lv [.int v] := by
  intro H locs ls hP hD hS hl
  unfold XW
  rw [F.1]
  exact W.zret C.ex C.by C.rt (by rcases hv with rfl | rfl <;> rfl) (fun t ht hW => ⟨⟨_, _, hB, rfl, by rw [ht]; exact hP, hD⟩, va_S.F (F.2 ▸ hS) ht⟩) hS.2.2 d C.lk
theorem g_lret (C : Cx X cc own (some .long) cA fr lo nL) (pc : Nat) {v : Int64} (d : decode cc pc = .ok (.lreturn, 1)) (F : Fx X B k n) (hB : B (some (.long v)) ws) : Go X nL k n pc ws lv [.long v] := by
  intro H locs ls hP hD hS hl
  unfold XW
  rw [F.1]
  exact W.lret C.ex C.by C.rt (fun t ht hW => ⟨⟨_, _, hB, rfl, by rw [ht]; exact hP, hD⟩, va_S.F (F.2 ▸ hS) ht⟩) hS.2.2 d C.lk
theorem g_vret (C : Cx X cc own none cA fr lo nL) (pc : Nat) (d : decode cc pc = .ok (.return_, 1)) (F : Fx X B k n) (hB : B none ws) : Go X nL k n pc ws lv [] := by
  intro H locs ls hP hD hS hl
  unfold XW
  rw [F.1]
  exact W.vret C.ex C.by C.rt (fun t ht hW => ⟨⟨_, _, hB, rfl, by rw [ht]; exact hP, hD⟩, va_S.F (F.2 ▸ hS) ht⟩) hS.2.2 d C.lk
end GC
end
section
theorem inT1 {w : Cond} (i : Nat) (h : tables_1_1[i]? = some w) : w ∈ lw_tbl := inT (List.mem_append_left _ (List.mem_of_getElem? h))
theorem inT2 {w : Cond} (i : Nat) (h : tables_1_2[i]? = some w) : w ∈ lw_tbl := inT (List.mem_append_right _ (List.mem_append_left _ (List.mem_of_getElem? h)))
theorem inT3 {w : Cond} (i : Nat) (h : tables_1_3[i]? = some w) : w ∈ lw_tbl := inT (List.mem_append_right _ (List.mem_append_right _ (List.mem_append_left _ (List.mem_of_getElem? h))))
theorem inT4 {w : Cond} (i : Nat) (h : tables_1_4[i]? = some w) : w ∈ lw_tbl := inT (List.mem_append_right _ (List.mem_append_right _ (List.mem_append_right _ (List.mem_append_left _ (List.mem_of_getElem? h)))))
theorem inT5 {w : Cond} (i : Nat) (h : tables_1_5[i]? = some w) : w ∈ lw_tbl := inT (List.mem_append_right _ (List.mem_append_right _ (List.mem_append_right _ (List.mem_append_right _ (List.mem_of_getElem? h)))))
theorem no_some {α : Type} {r : α} {P : Prop} (h : (none : Option α) = some r) : P := by cases h
theorem ite_or {β : Type} {c : Prop} [Decidable c] {x y : Option β} {r : β} (h : (if c then x else y) = some r) : (c ∧ x = some r) ∨ (¬ c ∧ y = some r) := by
  by_cases hc : c
  · exact Or.inl ⟨hc, ite_t h hc⟩
  · exact Or.inr ⟨hc, ite_f h hc⟩
/-- loops' fuel: more than any loop here takes -/
def NN : Nat := 32768
theorem i32_ne {x k : Int32} (h : ¬ x = k) : x.toInt ≠ k.toInt := fun e => h (Int32.toInt_inj.mp e)
theorem tsw_out3 {x : Int32} (h0 : ¬ x = 0) (h1 : ¬ x = 1) (h2 : ¬ x = 2) : x.toInt < 0 ∨ 2 < x.toInt := by
  have a := i32_ne h0; have b := i32_ne h1; have c := i32_ne h2
  have e0 : (0 : Int32).toInt = 0 := rfl
  have e1 : (1 : Int32).toInt = 1 := rfl
  have e2 : (2 : Int32).toInt = 2 := rfl
  omega
theorem tsw_out6 {x : Int32} (h0 : ¬ x = 0) (h1 : ¬ x = 1) (h2 : ¬ x = 2) (h3 : ¬ x = 3) (h4 : ¬ x = 4) (h5 : ¬ x = 5) : x.toInt < 0 ∨ 5 < x.toInt := by
  have a := i32_ne h0; have b := i32_ne h1; have c := i32_ne h2; have d := i32_ne h3; have e := i32_ne h4; have f := i32_ne h5
  have e0 : (0 : Int32).toInt = 0 := rfl
  have e1 : (1 : Int32).toInt = 1 := rfl
  have e2 : (2 : Int32).toInt = 2 := rfl
  have e3 : (3 : Int32).toInt = 3 := rfl
  have e4 : (4 : Int32).toInt = 4 := rfl
  have e5 : (5 : Int32).toInt = 5 := rfl
  omega
section GT
variable {X : XT} {cc : ByteArray} {own : String} {ret : Option FieldType} {cA : Nat → ClassId} {fr lo nL k n : Nat} {ws : va_W} {lv : List (Nat × Value)} {st : List Value} {ρ : Type} {r : ρ}
theorem g_tsw (C : Cx X cc own ret cA fr lo nL) (pc t : Nat) {x v : Int32} {df l h o : Int} {offs : Array Int} {len : Nat} (d : decode cc pc = .ok (.tableswitch df l h offs, len)) (hx : x = v) (h1 : ¬ v.toInt < l) (h2 : ¬ h < v.toInt) (ho : offs[(v.toInt - l).toNat]? = some o) (ht : (pc : Int) + o = (t : Int)) (K : Go X nL k n t ws lv st) : Go X nL k n pc ws lv (.int x :: st) := fun H locs ls hP hD hS hl => lv_tableIn C.ex C.by d (by rw [hx]; exact h1) (by rw [hx]; exact h2) (by rw [hx]; exact ho) ht (K H locs ls hP hD hS hl)
theorem g_tswO (C : Cx X cc own ret cA fr lo nL) (pc t : Nat) {x : Int32} {df l h : Int} {offs : Array Int} {len : Nat} (d : decode cc pc = .ok (.tableswitch df l h offs, len)) (hx : x.toInt < l ∨ h < x.toInt) (ht : (pc : Int) + df = (t : Int)) (K : Go X nL k n t ws lv st) : Go X nL k n pc ws lv (.int x :: st) := fun H locs ls hP hD hS hl => lv_tableOut C.ex C.by d hx ht (K H locs ls hP hD hS hl)
theorem g_min (C : Cx X cc own ret cA fr lo nL) (pc : Nat) {i : Nat} {x y : Int32} (d : decode cc pc = .ok (.invokestatic i, 3)) (h1 : Cond.methodLink own i Lib.Math.min.name ∈ G) (h2 : Cond.static Lib.Math.min.name ∈ G) (h3 : Cond.initialized "java/lang/Math" ∈ G) (h4 : Cond.code Lib.Math.min.name Lib.Math.min.code 2 (some .int) ∈ G) (hfr : 1 ≤ fr) (hlo : (st.map fun v => v.category).sum + 13 ≤ lo) (hk : k ≤ (x_R X).cells) (hn : n ≤ (x_R X).slots) (K : Go X nL k n (pc + 3) ws lv (.int (if y < x then y else x) :: st)) : Go X nL k n pc ws lv (.int y :: .int x :: st) := fun H locs ls hP hD hS hl => va_mmin C.ex C.by (C.ml.trans hl.1.symm) C.ow (C.ts _ h1) (C.ts _ h2) (C.ts _ h3) (C.ts _ h4) (Nat.le_trans hfr C.rm.1) (Nat.le_trans hlo C.rm.2) hk hn d (K H locs ls hP hD hS hl)
theorem g_copy (C : Cx X cc own ret cA fr lo nL) (pc q0 q1 : Nat) {i a0 a : Nat} {f g : Nat → Int32} (wsF : (Nat → Int32) → va_W) {kf : (Nat → Int32) → Option ρ} (d : decode cc pc = .ok (.invokestatic i, 3)) (h1 : Cond.methodLink own i arraycopyName ∈ G) (h2 : Cond.native arraycopyName ∈ G) (h3 : Cond.static arraycopyName ∈ G) (h4 : Cond.initialized "java/lang/System" ∈ G) (ha0 : ws[q0]? = some (aI cA a0 14 f)) (ha1 : ws[q1]? = some (aI cA a 14 g)) (hfr : 1 ≤ fr) (hst : (nativeFrameWords "java/lang/System" "arraycopy" 5 + 11) ≤ 40) (hlo : (st.map fun v => v.category).sum + 40 ≤ lo) (hw : ∀ z, ws.set q1 (aI cA a 14 z) = wsF z) (hf : bnd (va_cpy f g 0 0 14) kf = some r) (K : ∀ z : Nat → Int32, kf z = some r → Go X nL k n (pc + 3) (wsF z) lv st) : Go X nL k n pc ws lv (.int 14 :: .int 0 :: .ref a :: .int 0 :: .ref a0 :: st) := fun H locs ls hP hD hS hl => va_copyi (ty := .int) C.ex C.by (C.ml.trans hl.1.symm) C.ow (C.ts _ h1) (C.ts _ h2) (C.ts _ h3) (C.ts _ h4) C.K hP hD hS q0 q1 0 0 ha0 ha1 rfl rfl rfl (by decide) (by decide) (by decide) (by decide) (by decide) (fun _ _ => rfl) (Nat.le_trans hfr C.rm.1) (Nat.le_trans (Nat.le_trans (Nat.add_le_add_left hst _) hlo) C.rm.2) d (fun H1 l1 hP hD hS => K _ hf H1 l1 ls (hw _ ▸ hP) (hw _ ▸ hD) hS hl)
end GT
theorem inX0 : ∀ w ∈ u_ws RX0 TX0 3, w ∈ G := fun w h => inG ((by decide +kernel : ∀ w ∈ u_ws RX0 TX0 3, w ∈ lw_tbl) w h) ((by decide +kernel : ∀ w ∈ u_ws RX0 TX0 3, goodWord w = true) w h)
theorem inX1 : ∀ w ∈ u_ws RX1 TX1 3, w ∈ G := fun w h => inG ((by decide +kernel : ∀ w ∈ u_ws RX1 TX1 3, w ∈ lw_tbl) w h) ((by decide +kernel : ∀ w ∈ u_ws RX1 TX1 3, goodWord w = true) w h)
theorem inX2 : ∀ w ∈ u_ws RX2 TX2 3, w ∈ G := fun w h => inG ((by decide +kernel : ∀ w ∈ u_ws RX2 TX2 3, w ∈ lw_tbl) w h) ((by decide +kernel : ∀ w ∈ u_ws RX2 TX2 3, goodWord w = true) w h)
theorem inX3 : ∀ w ∈ u_ws RX3 TX3 5, w ∈ G := fun w h => inG ((by decide +kernel : ∀ w ∈ u_ws RX3 TX3 5, w ∈ lw_tbl) w h) ((by decide +kernel : ∀ w ∈ u_ws RX3 TX3 5, goodWord w = true) w h)
theorem inX4 : ∀ w ∈ u_ws RX4 TX4 5, w ∈ G := fun w h => inG ((by decide +kernel : ∀ w ∈ u_ws RX4 TX4 5, w ∈ lw_tbl) w h) ((by decide +kernel : ∀ w ∈ u_ws RX4 TX4 5, goodWord w = true) w h)
theorem inX5 : ∀ w ∈ u_ws RX5 TX5 11, w ∈ G := fun w h => inG ((by decide +kernel : ∀ w ∈ u_ws RX5 TX5 11, w ∈ lw_tbl) w h) ((by decide +kernel : ∀ w ∈ u_ws RX5 TX5 11, goodWord w = true) w h)
theorem inX6 : ∀ w ∈ u_ws RX6 TX6 4, w ∈ G := fun w h => inG ((by decide +kernel : ∀ w ∈ u_ws RX6 TX6 4, w ∈ lw_tbl) w h) ((by decide +kernel : ∀ w ∈ u_ws RX6 TX6 4, goodWord w = true) w h)
theorem inX7 : ∀ w ∈ u_ws RX7 TX7 17, w ∈ G := fun w h => inG ((by decide +kernel : ∀ w ∈ u_ws RX7 TX7 17, w ∈ lw_tbl) w h) ((by decide +kernel : ∀ w ∈ u_ws RX7 TX7 17, goodWord w = true) w h)
theorem inX8 : ∀ w ∈ u_ws RX8 TX8 8, w ∈ G := fun w h => inG ((by decide +kernel : ∀ w ∈ u_ws RX8 TX8 8, w ∈ lw_tbl) w h) ((by decide +kernel : ∀ w ∈ u_ws RX8 TX8 8, goodWord w = true) w h)
theorem inX9 : ∀ w ∈ u_ws RX9 TX9 23, w ∈ G := fun w h => inG ((by decide +kernel : ∀ w ∈ u_ws RX9 TX9 23, w ∈ lw_tbl) w h) ((by decide +kernel : ∀ w ∈ u_ws RX9 TX9 23, goodWord w = true) w h)
end
section
theorem kw_0 : Cond.fieldLink RX0 18 "BagTree$Bags" "size" "I" ∈ G := inG (inT1 89 rfl) rfl
theorem kw_1 : Cond.fieldLink RX0 9 "BagTree$Bags" "masks" "[I" ∈ G := inG (inT1 85 rfl) rfl
theorem kw_2 : Cond.fieldLink RX0 15 "BagTree$Bags" "ups" "[I" ∈ G := inG (inT1 87 rfl) rfl
theorem kw_3 : Cond.fieldLink RX2 23 "BagTree$KnotRow" "size" "I" ∈ G := inG (inT1 68 rfl) rfl
theorem kw_4 : Cond.fieldLink RX2 9 "BagTree$KnotRow" "knots" "[I" ∈ G := inG (inT1 65 rfl) rfl
theorem kw_5 : Cond.static yX8_hasBit ∈ G := inG (inT2 19 rfl) rfl
theorem kw_6 : Cond.initialized RX8 ∈ G := inG (inT1 1 rfl) rfl
theorem kw_7 : Cond.code yX8_hasBit cX8_hasBit 2 (some .boolean) ∈ G := inG (inT2 20 rfl) rfl
theorem kw_8 : Cond.fieldLink RX1 9 "BagTree$Going" "near" "[I" ∈ G := inG (inT1 136 rfl) rfl
theorem kw_9 : Cond.fieldLink RX1 28 "BagTree$Going" "left" "I" ∈ G := inG (inT1 141 rfl) rfl
theorem kw_10 : Cond.constant RJ6 265 (1431655765) ∈ G := inG (inT2 98 rfl) rfl
theorem kw_11 : Cond.constant RJ6 266 (858993459) ∈ G := inG (inT2 99 rfl) rfl
theorem kw_12 : Cond.constant RJ6 267 (252645135) ∈ G := inG (inT2 100 rfl) rfl
theorem kw_13 : Cond.methodLink RX1 35 yX1_takeAway ∈ G := inG (inT2 90 rfl) rfl
theorem kw_14 : Cond.instanceMethod yX1_takeAway ∈ G := inG (inT2 91 rfl) rfl
theorem kw_15 : Cond.selects yX1_takeAway.cls yX1_takeAway yX1_takeAway ∈ G := inG (inT2 92 rfl) rfl
theorem kw_16 : Cond.initialized RX1 ∈ G := inG (inT1 6 rfl) rfl
theorem kw_17 : Cond.code yX1_takeAway cX1_takeAway 4 none ∈ G := inG (inT2 93 rfl) rfl
theorem kw_18 : Cond.fieldLink RX1 32 "BagTree$Going" "newEnds" "I" ∈ G := inG (inT1 143 rfl) rfl
theorem kw_19 : Cond.methodLink RX1 43 yJ6_bitCount_0f7a4 ∈ G := inG (inT2 95 rfl) rfl
theorem kw_20 : Cond.static yJ6_bitCount_0f7a4 ∈ G := inG (inT2 96 rfl) rfl
theorem kw_21 : Cond.initialized RJ6 ∈ G := inG (inT1 10 rfl) rfl
theorem kw_22 : Cond.code yJ6_bitCount_0f7a4 cJ6_bitCount_0f7a4 1 (some .int) ∈ G := inG (inT2 97 rfl) rfl
theorem kw_23 : Cond.fieldLink RX0 22 "BagTree$KnotRow" "size" "I" ∈ G := inG (inT1 69 rfl) rfl
theorem kw_24 : Cond.fieldLink RX0 25 "BagTree$KnotRow" "knots" "[I" ∈ G := inG (inT1 66 rfl) rfl
theorem kw_25 : Cond.fieldLink RX0 28 "BagTree$Going" "near" "[I" ∈ G := inG (inT1 139 rfl) rfl
theorem kw_26 : Cond.methodLink RX0 33 yX2_nextPlace ∈ G := inG (inT2 82 rfl) rfl
theorem kw_27 : Cond.instanceMethod yX2_nextPlace ∈ G := inG (inT2 83 rfl) rfl
theorem kw_28 : Cond.selects yX2_nextPlace.cls yX2_nextPlace yX2_nextPlace ∈ G := inG (inT2 84 rfl) rfl
theorem kw_29 : Cond.initialized RX2 ∈ G := inG (inT1 3 rfl) rfl
theorem kw_30 : Cond.code yX2_nextPlace cX2_nextPlace 4 (some .int) ∈ G := inG (inT2 85 rfl) rfl
theorem kw_31 : Cond.methodLink RX0 37 yX1_letGo ∈ G := inG (inT2 86 rfl) rfl
theorem kw_32 : Cond.instanceMethod yX1_letGo ∈ G := inG (inT2 87 rfl) rfl
theorem kw_33 : Cond.selects yX1_letGo.cls yX1_letGo yX1_letGo ∈ G := inG (inT2 88 rfl) rfl
theorem kw_34 : Cond.code yX1_letGo cX1_letGo 5 none ∈ G := inG (inT2 89 rfl) rfl
theorem kw_35 : Cond.methodLink RX0 41 yJ6_bitCount_0f7a4 ∈ G := inG (inT2 105 rfl) rfl
theorem kw_36 : Cond.methodLink RX0 47 yJ9_max_7cf53 ∈ G := inG (inT2 106 rfl) rfl
theorem kw_37 : Cond.static yJ9_max_7cf53 ∈ G := inG (inT2 107 rfl) rfl
theorem kw_38 : Cond.initialized RJ9 ∈ G := inG (inT1 11 rfl) rfl
theorem kw_39 : Cond.code Lib.Math.max.name Lib.Math.max.code 2 (some .int) ∈ G := inG (inT2 108 rfl) rfl
theorem kw_40 : Cond.methodLink RX0 52 yX0_has ∈ G := inG (inT3 23 rfl) rfl
theorem kw_41 : Cond.instanceMethod yX0_has ∈ G := inG (inT2 223 rfl) rfl
theorem kw_42 : Cond.selects yX0_has.cls yX0_has yX0_has ∈ G := inG (inT2 224 rfl) rfl
theorem kw_43 : Cond.initialized RX0 ∈ G := inG (inT1 4 rfl) rfl
theorem kw_44 : Cond.code yX0_has cX0_has 2 (some .boolean) ∈ G := inG (inT2 225 rfl) rfl
theorem kw_45 : Cond.fieldLink RX4 21 "BagTree$Net" "size" "I" ∈ G := inG (inT1 40 rfl) rfl
theorem kw_46 : Cond.methodLink RX4 25 yX4_has ∈ G := inG (inT2 29 rfl) rfl
theorem kw_47 : Cond.instanceMethod yX4_has ∈ G := inG (inT2 11 rfl) rfl
theorem kw_48 : Cond.selects yX4_has.cls yX4_has yX4_has ∈ G := inG (inT2 12 rfl) rfl
theorem kw_49 : Cond.initialized RX4 ∈ G := inG (inT1 2 rfl) rfl
theorem kw_50 : Cond.code yX4_has cX4_has 2 (some .boolean) ∈ G := inG (inT2 13 rfl) rfl
theorem kw_51 : Cond.fieldLink RX4 15 "BagTree$Net" "near" "[I" ∈ G := inG (inT1 32 rfl) rfl
theorem kw_52 : Cond.fieldLink RX0 70 "BagTree$Net" "size" "I" ∈ G := inG (inT1 44 rfl) rfl
theorem kw_53 : Cond.methodLink RX0 73 yX4_joined ∈ G := inG (inT3 6 rfl) rfl
theorem kw_54 : Cond.instanceMethod yX4_joined ∈ G := inG (inT2 26 rfl) rfl
theorem kw_55 : Cond.selects yX4_joined.cls yX4_joined yX4_joined ∈ G := inG (inT2 27 rfl) rfl
theorem kw_56 : Cond.code yX4_joined cX4_joined 3 (some .boolean) ∈ G := inG (inT2 28 rfl) rfl
theorem kw_57 : Cond.methodLink RX0 76 yX0_holdTogether ∈ G := inG (inT3 7 rfl) rfl
theorem kw_58 : Cond.instanceMethod yX0_holdTogether ∈ G := inG (inT3 9 rfl) rfl
theorem kw_59 : Cond.selects yX0_holdTogether.cls yX0_holdTogether yX0_holdTogether ∈ G := inG (inS (List.mem_of_getElem? (i := 7) rfl)) rfl
theorem kw_60 : Cond.code yX0_holdTogether cX0_holdTogether 3 (some .boolean) ∈ G := inG (inT3 10 rfl) rfl
theorem kw_61 : Cond.methodLink RX0 79 yX0_endingIn ∈ G := inG (inT3 19 rfl) rfl
theorem kw_62 : Cond.instanceMethod yX0_endingIn ∈ G := inG (inT3 20 rfl) rfl
theorem kw_63 : Cond.selects yX0_endingIn.cls yX0_endingIn yX0_endingIn ∈ G := inG (inT3 21 rfl) rfl
theorem kw_64 : Cond.code yX0_endingIn cX0_endingIn 3 (some .int) ∈ G := inG (inT3 22 rfl) rfl
theorem kw_65 : Cond.methodLink RX0 60 yX0_looseEdge ∈ G := inG (inT3 2 rfl) rfl
theorem kw_66 : Cond.instanceMethod yX0_looseEdge ∈ G := inG (inT3 4 rfl) rfl
theorem kw_67 : Cond.selects yX0_looseEdge.cls yX0_looseEdge yX0_looseEdge ∈ G := inG (inS (List.mem_of_getElem? (i := 6) rfl)) rfl
theorem kw_68 : Cond.code yX0_looseEdge cX0_looseEdge 4 (some .int) ∈ G := inG (inT3 5 rfl) rfl
theorem kw_69 : Cond.methodLink RX0 67 yX0_scatteredKnot ∈ G := inG (inT3 15 rfl) rfl
theorem kw_70 : Cond.instanceMethod yX0_scatteredKnot ∈ G := inG (inT3 17 rfl) rfl
theorem kw_71 : Cond.selects yX0_scatteredKnot.cls yX0_scatteredKnot yX0_scatteredKnot ∈ G := inG (inS (List.mem_of_getElem? (i := 9) rfl)) rfl
theorem kw_72 : Cond.code yX0_scatteredKnot cX0_scatteredKnot 6 (some .int) ∈ G := inG (inT3 18 rfl) rfl
theorem kw_73 : Cond.methodLink RX0 64 yX0_missingKnot ∈ G := inG (inT3 11 rfl) rfl
theorem kw_74 : Cond.instanceMethod yX0_missingKnot ∈ G := inG (inT3 13 rfl) rfl
theorem kw_75 : Cond.selects yX0_missingKnot.cls yX0_missingKnot yX0_missingKnot ∈ G := inG (inS (List.mem_of_getElem? (i := 8) rfl)) rfl
theorem kw_76 : Cond.code yX0_missingKnot cX0_missingKnot 3 (some .int) ∈ G := inG (inT3 14 rfl) rfl
theorem kw_77 : Cond.fieldLink RX1 15 "BagTree$Net" "near" "[I" ∈ G := inG (inT1 33 rfl) rfl
theorem kw_78 : Cond.methodLink RX1 18 arraycopyName ∈ G := inG (inT2 71 rfl) rfl
theorem kw_79 : Cond.native arraycopyName ∈ G := inG (inT2 73 rfl) rfl
theorem kw_80 : Cond.static arraycopyName ∈ G := inG (inT2 72 rfl) rfl
theorem kw_81 : Cond.initialized RJ10 ∈ G := inG (inT1 9 rfl) rfl
theorem kw_82 : Cond.methodLink RX1 24 yX4_everyKnot ∈ G := inG (inT2 74 rfl) rfl
theorem kw_83 : Cond.instanceMethod yX4_everyKnot ∈ G := inG (inT2 75 rfl) rfl
theorem kw_84 : Cond.selects yX4_everyKnot.cls yX4_everyKnot yX4_everyKnot ∈ G := inG (inT2 76 rfl) rfl
theorem kw_85 : Cond.code yX4_everyKnot cX4_everyKnot 1 (some .int) ∈ G := inG (inT2 77 rfl) rfl
theorem kw_86 : Cond.methodLink RX1 53 yJ9_max_7cf53 ∈ G := inG (inT2 180 rfl) rfl
theorem kw_87 : Cond.methodLink RX1 49 yX1_isNearlyJoined ∈ G := inG (inT2 176 rfl) rfl
theorem kw_88 : Cond.instanceMethod yX1_isNearlyJoined ∈ G := inG (inT2 178 rfl) rfl
theorem kw_89 : Cond.selects yX1_isNearlyJoined.cls yX1_isNearlyJoined yX1_isNearlyJoined ∈ G := inG (inS (List.mem_of_getElem? (i := 3) rfl)) rfl
theorem kw_90 : Cond.code yX1_isNearlyJoined cX1_isNearlyJoined 6 (some .boolean) ∈ G := inG (inT2 179 rfl) rfl
theorem kw_91 : Cond.fieldLink RX2 15 "BagTree$KnotRow" "held" "I" ∈ G := inG (inT1 71 rfl) rfl
theorem kw_92 : Cond.fieldLink RX3 9 "BagTree$Law" "size" "I" ∈ G := inG (inT1 104 rfl) rfl
theorem kw_93 : Cond.fieldLink RX3 15 "BagTree$Law" "factors" "[I" ∈ G := inG (inT1 107 rfl) rfl
theorem kw_94 : Cond.fieldLink RX3 19 "BagTree$Law" "pairFactors" "[I" ∈ G := inG (inT1 110 rfl) rfl
theorem kw_95 : Cond.fieldLink RX3 26 "BagTree$Law" "forbidden" "[I" ∈ G := inG (inT1 116 rfl) rfl
theorem kw_96 : Cond.fieldLink RX3 22 "BagTree$Law" "barred" "[Z" ∈ G := inG (inT1 113 rfl) rfl
theorem kw_97 : Cond.fieldLink RX4 9 "BagTree$Net" "loads" "[I" ∈ G := inG (inT1 29 rfl) rfl
theorem kw_98 : Cond.fieldLink RX4 18 "BagTree$Net" "ties" "[I" ∈ G := inG (inT1 36 rfl) rfl
theorem kw_99 : Cond.fieldLink RX4 33 "BagTree$Net" "edges" "I" ∈ G := inG (inT1 45 rfl) rfl
theorem kw_100 : Cond.methodLink RX4 36 yX4_reached ∈ G := inG (inT3 41 rfl) rfl
theorem kw_101 : Cond.instanceMethod yX4_reached ∈ G := inG (inT3 43 rfl) rfl
theorem kw_102 : Cond.selects yX4_reached.cls yX4_reached yX4_reached ∈ G := inG (inS (List.mem_of_getElem? (i := 11) rfl)) rfl
theorem kw_103 : Cond.code yX4_reached cX4_reached 7 (some .int) ∈ G := inG (inT3 44 rfl) rfl
theorem kw_104 : Cond.methodLink RX4 40 yJ6_bitCount_0f7a4 ∈ G := inG (inT3 45 rfl) rfl
theorem kw_105 : Cond.methodLink RX4 46 yJ9_max_7cf53 ∈ G := inG (inT3 46 rfl) rfl
theorem kw_106 : Cond.fieldLink RX5 52 "BagTree$Plan" "size" "I" ∈ G := inG (inT1 174 rfl) rfl
theorem kw_107 : Cond.fieldLink RX5 36 "BagTree$Plan" "bagMates" "[I" ∈ G := inG (inT1 177 rfl) rfl
theorem kw_108 : Cond.methodLink RX5 74 yJ6_bitCount_0f7a4 ∈ G := inG (inT3 165 rfl) rfl
theorem kw_109 : Cond.fieldLink RX5 9 "BagTree$Plan" "knots" "[I" ∈ G := inG (inT1 160 rfl) rfl
theorem kw_110 : Cond.fieldLink RX5 42 "BagTree$Plan" "going" "LBagTree$Going;" ∈ G := inG (inT1 178 rfl) rfl
theorem kw_111 : Cond.fieldLink RX5 79 "BagTree$Going" "near" "[I" ∈ G := inG (inT1 137 rfl) rfl
theorem kw_112 : Cond.fieldLink RX5 18 "BagTree$Plan" "otherCount" "[I" ∈ G := inG (inT1 164 rfl) rfl
theorem kw_113 : Cond.fieldLink RX5 21 "BagTree$Plan" "scopes" "[I" ∈ G := inG (inT1 166 rfl) rfl
theorem kw_114 : Cond.fieldLink RX5 24 "BagTree$Plan" "users" "[I" ∈ G := inG (inT1 168 rfl) rfl
theorem kw_115 : Cond.methodLink RX5 88 yX1_letGo ∈ G := inG (inT3 174 rfl) rfl
theorem kw_116 : Cond.fieldLink RX5 27 "BagTree$Plan" "feeders" "[I" ∈ G := inG (inT1 170 rfl) rfl
theorem kw_117 : Cond.fieldLink RX5 30 "BagTree$Plan" "feederCount" "[I" ∈ G := inG (inT1 172 rfl) rfl
theorem kw_118 : Cond.fieldLink RX5 15 "BagTree$Plan" "others" "[I" ∈ G := inG (inT1 162 rfl) rfl
theorem kw_119 : Cond.fieldLink RX5 33 "BagTree$Plan" "places" "[I" ∈ G := inG (inT1 176 rfl) rfl
theorem kw_120 : Cond.methodLink RX5 82 yJ9_min_7cf53 ∈ G := inG (inT3 171 rfl) rfl
theorem kw_121 : Cond.static yJ9_min_7cf53 ∈ G := inG (inT3 172 rfl) rfl
theorem kw_122 : Cond.code Lib.Math.min.name Lib.Math.min.code 2 (some .int) ∈ G := inG (inT3 173 rfl) rfl
theorem kw_123 : Cond.fieldLink RX5 46 "BagTree$Net" "size" "I" ∈ G := inG (inT1 39 rfl) rfl
theorem kw_124 : Cond.methodLink RX5 62 yX1_start ∈ G := inG (inT3 166 rfl) rfl
theorem kw_125 : Cond.instanceMethod yX1_start ∈ G := inG (inT2 68 rfl) rfl
theorem kw_126 : Cond.selects yX1_start.cls yX1_start yX1_start ∈ G := inG (inT2 69 rfl) rfl
theorem kw_127 : Cond.code yX1_start cX1_start 2 none ∈ G := inG (inT2 70 rfl) rfl
theorem kw_128 : Cond.methodLink RX5 66 yX5_takeStep ∈ G := inG (inT3 167 rfl) rfl
theorem kw_129 : Cond.instanceMethod yX5_takeStep ∈ G := inG (inT3 169 rfl) rfl
theorem kw_130 : Cond.selects yX5_takeStep.cls yX5_takeStep yX5_takeStep ∈ G := inG (inS (List.mem_of_getElem? (i := 15) rfl)) rfl
theorem kw_131 : Cond.initialized RX5 ∈ G := inG (inT1 7 rfl) rfl
theorem kw_132 : Cond.code yX5_takeStep cX5_takeStep 7 none ∈ G := inG (inT3 170 rfl) rfl
theorem kw_133 : Cond.methodLink RX5 59 yX5_mostJoined ∈ G := inG (inT3 160 rfl) rfl
theorem kw_134 : Cond.instanceMethod yX5_mostJoined ∈ G := inG (inT3 162 rfl) rfl
theorem kw_135 : Cond.selects yX5_mostJoined.cls yX5_mostJoined yX5_mostJoined ∈ G := inG (inS (List.mem_of_getElem? (i := 14) rfl)) rfl
theorem kw_136 : Cond.code yX5_mostJoined cX5_mostJoined 6 (some .int) ∈ G := inG (inT3 163 rfl) rfl
theorem kw_137 : Cond.methodLink RX5 53 yX0_matesOf ∈ G := inG (inT3 156 rfl) rfl
theorem kw_138 : Cond.instanceMethod yX0_matesOf ∈ G := inG (inT3 157 rfl) rfl
theorem kw_139 : Cond.selects yX0_matesOf.cls yX0_matesOf yX0_matesOf ∈ G := inG (inT3 158 rfl) rfl
theorem kw_140 : Cond.code yX0_matesOf cX0_matesOf 4 (some .int) ∈ G := inG (inT3 159 rfl) rfl
theorem kw_141 : Cond.fieldLink RX6 22 "BagTree$Search" "stuck" "[J" ∈ G := inG (inT2 139 rfl) rfl
theorem kw_142 : Cond.fieldLink RX7 33 "BagTree$Tally" "net" "LBagTree$Net;" ∈ G := inG (inT3 103 rfl) rfl
theorem kw_143 : Cond.fieldLink RX7 45 "BagTree$Net" "size" "I" ∈ G := inG (inT1 42 rfl) rfl
theorem kw_144 : Cond.fieldLink RX7 9 "BagTree$Tally" "open" "[I" ∈ G := inG (inT3 97 rfl) rfl
theorem kw_145 : Cond.fieldLink RX7 37 "BagTree$Tally" "law" "LBagTree$Law;" ∈ G := inG (inT3 104 rfl) rfl
theorem kw_146 : Cond.methodLink RX7 51 yX3_openFor ∈ G := inG (inT3 179 rfl) rfl
theorem kw_147 : Cond.instanceMethod yX3_openFor ∈ G := inG (inT3 180 rfl) rfl
theorem kw_148 : Cond.selects yX3_openFor.cls yX3_openFor yX3_openFor ∈ G := inG (inT3 181 rfl) rfl
theorem kw_149 : Cond.initialized RX3 ∈ G := inG (inT1 5 rfl) rfl
theorem kw_150 : Cond.code yX3_openFor cX3_openFor 2 (some .int) ∈ G := inG (inT3 182 rfl) rfl
theorem kw_151 : Cond.fieldLink RX7 112 "BagTree$Law" "size" "I" ∈ G := inG (inT1 105 rfl) rfl
theorem kw_152 : Cond.fieldLink RX7 18 "BagTree$Tally" "openCount" "[I" ∈ G := inG (inT3 107 rfl) rfl
theorem kw_153 : Cond.fieldLink RX7 15 "BagTree$Tally" "openStates" "[I" ∈ G := inG (inT3 106 rfl) rfl
theorem kw_154 : Cond.fieldLink RX7 21 "BagTree$Tally" "picks" "[I" ∈ G := inG (inT3 108 rfl) rfl
theorem kw_155 : Cond.methodLink RX7 135 yX7_pickedState ∈ G := inG (inT3 209 rfl) rfl
theorem kw_156 : Cond.instanceMethod yX7_pickedState ∈ G := inG (inT3 211 rfl) rfl
theorem kw_157 : Cond.selects yX7_pickedState.cls yX7_pickedState yX7_pickedState ∈ G := inG (inS (List.mem_of_getElem? (i := 21) rfl)) rfl
theorem kw_158 : Cond.initialized RX7 ∈ G := inG (inT1 14 rfl) rfl
theorem kw_159 : Cond.code yX7_pickedState cX7_pickedState 2 (some .int) ∈ G := inG (inT3 212 rfl) rfl
theorem kw_160 : Cond.fieldLink RX7 138 "BagTree$Net" "near" "[I" ∈ G := inG (inT1 35 rfl) rfl
theorem kw_161 : Cond.fieldLink RX7 141 "BagTree$Net" "loads" "[I" ∈ G := inG (inT1 31 rfl) rfl
theorem kw_162 : Cond.fieldLink RX7 144 "BagTree$Law" "factors" "[I" ∈ G := inG (inT1 108 rfl) rfl
theorem kw_163 : Cond.fieldLink RX7 41 "BagTree$Tally" "plan" "LBagTree$Plan;" ∈ G := inG (inT3 105 rfl) rfl
theorem kw_164 : Cond.fieldLink RX7 96 "BagTree$Plan" "otherCount" "[I" ∈ G := inG (inT1 165 rfl) rfl
theorem kw_165 : Cond.fieldLink RX7 57 "BagTree$Tally" "sign" "I" ∈ G := inG (inT3 112 rfl) rfl
theorem kw_166 : Cond.fieldLink RX7 132 "BagTree$Tally" "pickedSum" "I" ∈ G := inG (inT3 114 rfl) rfl
theorem kw_167 : Cond.fieldLink RX7 113 "BagTree$Plan" "others" "[I" ∈ G := inG (inT1 163 rfl) rfl
theorem kw_168 : Cond.fieldLink RX7 147 "BagTree$Law" "barred" "[Z" ∈ G := inG (inT1 114 rfl) rfl
theorem kw_169 : Cond.fieldLink RX7 151 "BagTree$Net" "ties" "[I" ∈ G := inG (inT1 38 rfl) rfl
theorem kw_170 : Cond.fieldLink RX7 154 "BagTree$Law" "pairFactors" "[I" ∈ G := inG (inT1 111 rfl) rfl
theorem kw_171 : Cond.fieldLink RX7 24 "BagTree$Tally" "strides" "[I" ∈ G := inG (inT3 109 rfl) rfl
theorem kw_172 : Cond.fieldLink RX7 157 "BagTree$Plan" "feederCount" "[I" ∈ G := inG (inT1 173 rfl) rfl
theorem kw_173 : Cond.fieldLink RX7 160 "BagTree$Plan" "feeders" "[I" ∈ G := inG (inT1 171 rfl) rfl
theorem kw_174 : Cond.methodLink RX7 163 yX7_entryOf ∈ G := inG (inT3 217 rfl) rfl
theorem kw_175 : Cond.instanceMethod yX7_entryOf ∈ G := inG (inT3 219 rfl) rfl
theorem kw_176 : Cond.selects yX7_entryOf.cls yX7_entryOf yX7_entryOf ∈ G := inG (inS (List.mem_of_getElem? (i := 23) rfl)) rfl
theorem kw_177 : Cond.code yX7_entryOf cX7_entryOf 4 (some .int) ∈ G := inG (inT3 220 rfl) rfl
theorem kw_178 : Cond.fieldLink RX7 30 "BagTree$Tally" "counts" "[I" ∈ G := inG (inT3 111 rfl) rfl
theorem kw_179 : Cond.fieldLink RX7 27 "BagTree$Tally" "sums" "[I" ∈ G := inG (inT3 110 rfl) rfl
theorem kw_180 : Cond.fieldLink RX7 123 "BagTree$Plan" "knots" "[I" ∈ G := inG (inT1 161 rfl) rfl
theorem kw_181 : Cond.methodLink RX7 126 yX7_addEdges ∈ G := inG (inT3 205 rfl) rfl
theorem kw_182 : Cond.instanceMethod yX7_addEdges ∈ G := inG (inT3 207 rfl) rfl
theorem kw_183 : Cond.selects yX7_addEdges.cls yX7_addEdges yX7_addEdges ∈ G := inG (inS (List.mem_of_getElem? (i := 20) rfl)) rfl
theorem kw_184 : Cond.code yX7_addEdges cX7_addEdges 9 (some .boolean) ∈ G := inG (inT3 208 rfl) rfl
theorem kw_185 : Cond.methodLink RX7 129 yX7_addTables ∈ G := inG (inT3 213 rfl) rfl
theorem kw_186 : Cond.instanceMethod yX7_addTables ∈ G := inG (inT3 215 rfl) rfl
theorem kw_187 : Cond.selects yX7_addTables.cls yX7_addTables yX7_addTables ∈ G := inG (inS (List.mem_of_getElem? (i := 22) rfl)) rfl
theorem kw_188 : Cond.code yX7_addTables cX7_addTables 5 (some .int) ∈ G := inG (inT3 216 rfl) rfl
theorem kw_189 : Cond.methodLink RX7 116 yX7_fillEntry ∈ G := inG (inT3 201 rfl) rfl
theorem kw_190 : Cond.instanceMethod yX7_fillEntry ∈ G := inG (inT3 203 rfl) rfl
theorem kw_191 : Cond.selects yX7_fillEntry.cls yX7_fillEntry yX7_fillEntry ∈ G := inG (inS (List.mem_of_getElem? (i := 19) rfl)) rfl
theorem kw_192 : Cond.code yX7_fillEntry cX7_fillEntry 8 none ∈ G := inG (inT3 204 rfl) rfl
theorem kw_193 : Cond.methodLink RX7 120 yX7_pickNext ∈ G := inG (inT3 221 rfl) rfl
theorem kw_194 : Cond.instanceMethod yX7_pickNext ∈ G := inG (inT3 223 rfl) rfl
theorem kw_195 : Cond.selects yX7_pickNext.cls yX7_pickNext yX7_pickNext ∈ G := inG (inS (List.mem_of_getElem? (i := 24) rfl)) rfl
theorem kw_196 : Cond.code yX7_pickNext cX7_pickNext 4 none ∈ G := inG (inT3 224 rfl) rfl
theorem kw_197 : Cond.fieldLink RX7 78 "BagTree$Tally" "sum" "I" ∈ G := inG (inT3 99 rfl) rfl
theorem kw_198 : Cond.fieldLink RX7 81 "BagTree$Tally" "many" "I" ∈ G := inG (inT3 101 rfl) rfl
theorem kw_199 : Cond.fieldLink RX7 84 "BagTree$Plan" "size" "I" ∈ G := inG (inT1 175 rfl) rfl
theorem kw_200 : Cond.fieldLink RX7 64 "BagTree$Tally" "changed" "I" ∈ G := inG (inT3 113 rfl) rfl
theorem kw_201 : Cond.fieldLink RX7 87 "BagTree$Plan" "scopes" "[I" ∈ G := inG (inT1 167 rfl) rfl
theorem kw_202 : Cond.methodLink RX7 90 yX7_fillTable ∈ G := inG (inT3 197 rfl) rfl
theorem kw_203 : Cond.instanceMethod yX7_fillTable ∈ G := inG (inT3 199 rfl) rfl
theorem kw_204 : Cond.selects yX7_fillTable.cls yX7_fillTable yX7_fillTable ∈ G := inG (inS (List.mem_of_getElem? (i := 18) rfl)) rfl
theorem kw_205 : Cond.code yX7_fillTable cX7_fillTable 5 none ∈ G := inG (inT3 200 rfl) rfl
theorem kw_206 : Cond.fieldLink RX7 93 "BagTree$Plan" "users" "[I" ∈ G := inG (inT1 169 rfl) rfl
theorem kw_207 : Cond.methodLink RX7 74 yX7_listOpenStates ∈ G := inG (inT3 193 rfl) rfl
theorem kw_208 : Cond.instanceMethod yX7_listOpenStates ∈ G := inG (inT3 195 rfl) rfl
theorem kw_209 : Cond.selects yX7_listOpenStates.cls yX7_listOpenStates yX7_listOpenStates ∈ G := inG (inS (List.mem_of_getElem? (i := 17) rfl)) rfl
theorem kw_210 : Cond.code yX7_listOpenStates cX7_listOpenStates 4 none ∈ G := inG (inT3 196 rfl) rfl
theorem kw_211 : Cond.methodLink RX7 60 yX4_everyKnot ∈ G := inG (inT3 187 rfl) rfl
theorem kw_212 : Cond.methodLink RX7 67 yX7_sweepAgain ∈ G := inG (inT3 188 rfl) rfl
theorem kw_213 : Cond.instanceMethod yX7_sweepAgain ∈ G := inG (inT3 190 rfl) rfl
theorem kw_214 : Cond.selects yX7_sweepAgain.cls yX7_sweepAgain yX7_sweepAgain ∈ G := inG (inS (List.mem_of_getElem? (i := 16) rfl)) rfl
theorem kw_215 : Cond.code yX7_sweepAgain cX7_sweepAgain 3 none ∈ G := inG (inT3 191 rfl) rfl
theorem kw_216 : Cond.fieldLink RX7 102 "BagTree$Tally" "aim" "I" ∈ G := inG (inT3 115 rfl) rfl
theorem kw_217 : Cond.fieldLink RX7 105 "BagTree$Tally" "before" "J" ∈ G := inG (inT3 116 rfl) rfl
theorem kw_218 : Cond.methodLink RX7 99 yX7_sweep ∈ G := inG (inT4 4 rfl) rfl
theorem kw_219 : Cond.instanceMethod yX7_sweep ∈ G := inG (inT3 184 rfl) rfl
theorem kw_220 : Cond.selects yX7_sweep.cls yX7_sweep yX7_sweep ∈ G := inG (inT3 185 rfl) rfl
theorem kw_221 : Cond.code yX7_sweep cX7_sweep 2 none ∈ G := inG (inT3 186 rfl) rfl
theorem kw_222 : Cond.methodLink RX7 109 yX7_settle ∈ G := inG (inT4 5 rfl) rfl
theorem kw_223 : Cond.instanceMethod yX7_settle ∈ G := inG (inT4 7 rfl) rfl
theorem kw_224 : Cond.selects yX7_settle.cls yX7_settle yX7_settle ∈ G := inG (inS (List.mem_of_getElem? (i := 25) rfl)) rfl
theorem kw_225 : Cond.code yX7_settle cX7_settle 5 (some .int) ∈ G := inG (inT4 8 rfl) rfl
theorem kw_226 : Cond.methodLink RX8 53 yX8_isWeight ∈ G := inG (inT1 231 rfl) rfl
theorem kw_227 : Cond.static yX8_isWeight ∈ G := inG (inT1 232 rfl) rfl
theorem kw_228 : Cond.code yX8_isWeight cX8_isWeight 1 (some .boolean) ∈ G := inG (inT1 233 rfl) rfl
theorem kw_229 : Cond.fieldLink RX8 12 "BagTree" "net" "LBagTree$Net;" ∈ G := inG (inT1 202 rfl) rfl
theorem kw_230 : Cond.fieldLink RX8 57 "BagTree$Net" "size" "I" ∈ G := inG (inT1 43 rfl) rfl
theorem kw_231 : Cond.fieldLink RX8 21 "BagTree" "order" "LBagTree$KnotRow;" ∈ G := inG (inT1 203 rfl) rfl
theorem kw_232 : Cond.methodLink RX8 61 yX2_empty ∈ G := inG (inT1 234 rfl) rfl
theorem kw_233 : Cond.instanceMethod yX2_empty ∈ G := inG (inT1 235 rfl) rfl
theorem kw_234 : Cond.selects yX2_empty.cls yX2_empty yX2_empty ∈ G := inG (inT1 236 rfl) rfl
theorem kw_235 : Cond.code yX2_empty cX2_empty 1 none ∈ G := inG (inT1 237 rfl) rfl
theorem kw_236 : Cond.fieldLink RX8 28 "BagTree" "bags" "LBagTree$Bags;" ∈ G := inG (inT1 204 rfl) rfl
theorem kw_237 : Cond.methodLink RX8 64 yX0_empty ∈ G := inG (inT1 238 rfl) rfl
theorem kw_238 : Cond.instanceMethod yX0_empty ∈ G := inG (inT1 239 rfl) rfl
theorem kw_239 : Cond.selects yX0_empty.cls yX0_empty yX0_empty ∈ G := inG (inT2 0 rfl) rfl
theorem kw_240 : Cond.code yX0_empty cX0_empty 1 none ∈ G := inG (inT2 1 rfl) rfl
theorem kw_241 : Cond.methodLink RX8 65 yX4_addKnot ∈ G := inG (inT2 2 rfl) rfl
theorem kw_242 : Cond.instanceMethod yX4_addKnot ∈ G := inG (inT2 3 rfl) rfl
theorem kw_243 : Cond.selects yX4_addKnot.cls yX4_addKnot yX4_addKnot ∈ G := inG (inT2 4 rfl) rfl
theorem kw_244 : Cond.code yX4_addKnot cX4_addKnot 2 (some .int) ∈ G := inG (inT2 5 rfl) rfl
theorem kw_245 : Cond.methodLink RX8 69 yX4_has ∈ G := inG (inT2 10 rfl) rfl
theorem kw_246 : Cond.methodLink RX8 72 yX4_join ∈ G := inG (inT2 14 rfl) rfl
theorem kw_247 : Cond.instanceMethod yX4_join ∈ G := inG (inT2 15 rfl) rfl
theorem kw_248 : Cond.selects yX4_join.cls yX4_join yX4_join ∈ G := inG (inT2 16 rfl) rfl
theorem kw_249 : Cond.code yX4_join cX4_join 5 (some .boolean) ∈ G := inG (inT2 17 rfl) rfl
theorem kw_250 : Cond.methodLink RX8 76 yX4_joined ∈ G := inG (inT2 25 rfl) rfl
theorem kw_251 : Cond.methodLink RX8 80 yX4_part ∈ G := inG (inT2 30 rfl) rfl
theorem kw_252 : Cond.instanceMethod yX4_part ∈ G := inG (inT2 31 rfl) rfl
theorem kw_253 : Cond.selects yX4_part.cls yX4_part yX4_part ∈ G := inG (inT2 32 rfl) rfl
theorem kw_254 : Cond.code yX4_part cX4_part 3 (some .int) ∈ G := inG (inT2 33 rfl) rfl
theorem kw_255 : Cond.fieldLink RX8 84 "BagTree$Net" "loads" "[I" ∈ G := inG (inT1 30 rfl) rfl
theorem kw_256 : Cond.fieldLink RX8 88 "BagTree$Net" "ties" "[I" ∈ G := inG (inT1 37 rfl) rfl
theorem kw_257 : Cond.fieldLink RX8 91 "BagTree$Net" "near" "[I" ∈ G := inG (inT1 34 rfl) rfl
theorem kw_258 : Cond.methodLink RX8 94 yX2_holds ∈ G := inG (inT2 50 rfl) rfl
theorem kw_259 : Cond.instanceMethod yX2_holds ∈ G := inG (inT2 51 rfl) rfl
theorem kw_260 : Cond.selects yX2_holds.cls yX2_holds yX2_holds ∈ G := inG (inT2 52 rfl) rfl
theorem kw_261 : Cond.code yX2_holds cX2_holds 2 (some .boolean) ∈ G := inG (inT2 53 rfl) rfl
theorem kw_262 : Cond.methodLink RX8 97 yX2_append ∈ G := inG (inT2 55 rfl) rfl
theorem kw_263 : Cond.instanceMethod yX2_append ∈ G := inG (inT2 56 rfl) rfl
theorem kw_264 : Cond.selects yX2_append.cls yX2_append yX2_append ∈ G := inG (inT2 57 rfl) rfl
theorem kw_265 : Cond.code yX2_append cX2_append 2 none ∈ G := inG (inT2 58 rfl) rfl
theorem kw_266 : Cond.fieldLink RX8 101 "BagTree$KnotRow" "size" "I" ∈ G := inG (inT1 70 rfl) rfl
theorem kw_267 : Cond.fieldLink RX8 42 "BagTree" "going" "LBagTree$Going;" ∈ G := inG (inT1 206 rfl) rfl
theorem kw_268 : Cond.methodLink RX8 102 yX1_start ∈ G := inG (inT2 67 rfl) rfl
theorem kw_269 : Cond.methodLink RX8 106 yX0_takeApart ∈ G := inG (inT2 78 rfl) rfl
theorem kw_270 : Cond.instanceMethod yX0_takeApart ∈ G := inG (inT2 79 rfl) rfl
theorem kw_271 : Cond.selects yX0_takeApart.cls yX0_takeApart yX0_takeApart ∈ G := inG (inT2 80 rfl) rfl
theorem kw_272 : Cond.code yX0_takeApart cX0_takeApart 6 none ∈ G := inG (inT2 81 rfl) rfl
theorem kw_273 : Cond.methodLink RX8 110 yX0_mostKnots ∈ G := inG (inT2 101 rfl) rfl
theorem kw_274 : Cond.instanceMethod yX0_mostKnots ∈ G := inG (inT2 102 rfl) rfl
theorem kw_275 : Cond.selects yX0_mostKnots.cls yX0_mostKnots yX0_mostKnots ∈ G := inG (inT2 103 rfl) rfl
theorem kw_276 : Cond.code yX0_mostKnots cX0_mostKnots 3 (some .int) ∈ G := inG (inT2 104 rfl) rfl
theorem kw_277 : Cond.fieldLink RX8 120 "BagTree$Going" "newEnds" "I" ∈ G := inG (inT1 144 rfl) rfl
theorem kw_278 : Cond.fieldLink RX8 114 "BagTree$KnotRow" "knots" "[I" ∈ G := inG (inT1 67 rfl) rfl
theorem kw_279 : Cond.methodLink RX8 117 yX1_letGo ∈ G := inG (inT2 113 rfl) rfl
theorem kw_280 : Cond.methodLink RX8 123 yX1_loneliest ∈ G := inG (inT2 118 rfl) rfl
theorem kw_281 : Cond.instanceMethod yX1_loneliest ∈ G := inG (inT2 119 rfl) rfl
theorem kw_282 : Cond.selects yX1_loneliest.cls yX1_loneliest yX1_loneliest ∈ G := inG (inT2 120 rfl) rfl
theorem kw_283 : Cond.code yX1_loneliest cX1_loneliest 5 (some .int) ∈ G := inG (inT2 121 rfl) rfl
theorem kw_284 : Cond.fieldLink RX8 126 "BagTree$Going" "near" "[I" ∈ G := inG (inT1 140 rfl) rfl
theorem kw_285 : Cond.methodLink RX8 127 yJ6_bitCount_0f7a4 ∈ G := inG (inT2 122 rfl) rfl
theorem kw_286 : Cond.methodLink RX8 132 yJ9_max_7cf53 ∈ G := inG (inT2 123 rfl) rfl
theorem kw_287 : Cond.methodLink RX8 251 yX1_takeAway ∈ G := inG (inT2 155 rfl) rfl
theorem kw_288 : Cond.methodLink RX8 144 yX8_lowerBound ∈ G := inG (inT2 151 rfl) rfl
theorem kw_289 : Cond.instanceMethod yX8_lowerBound ∈ G := inG (inT2 153 rfl) rfl
theorem kw_290 : Cond.selects yX8_lowerBound.cls yX8_lowerBound yX8_lowerBound ∈ G := inG (inS (List.mem_of_getElem? (i := 0) rfl)) rfl
theorem kw_291 : Cond.code yX8_lowerBound cX8_lowerBound 4 (some .int) ∈ G := inG (inT2 154 rfl) rfl
theorem kw_292 : Cond.fieldLink RX8 151 "BagTree$Bags" "size" "I" ∈ G := inG (inT1 90 rfl) rfl
theorem kw_293 : Cond.methodLink RX8 152 yX4_everyKnot ∈ G := inG (inT2 213 rfl) rfl
theorem kw_294 : Cond.methodLink RX8 155 yX0_append ∈ G := inG (inT2 214 rfl) rfl
theorem kw_295 : Cond.instanceMethod yX0_append ∈ G := inG (inT2 215 rfl) rfl
theorem kw_296 : Cond.selects yX0_append.cls yX0_append yX0_append ∈ G := inG (inT2 216 rfl) rfl
theorem kw_297 : Cond.code yX0_append cX0_append 2 (some .int) ∈ G := inG (inT2 217 rfl) rfl
theorem kw_298 : Cond.methodLink RX8 157 yX0_has ∈ G := inG (inT2 222 rfl) rfl
theorem kw_299 : Cond.fieldLink RX8 158 "BagTree$Bags" "ups" "[I" ∈ G := inG (inT1 88 rfl) rfl
theorem kw_300 : Cond.fieldLink RX8 161 "BagTree$Bags" "masks" "[I" ∈ G := inG (inT1 86 rfl) rfl
theorem kw_301 : Cond.methodLink RX8 164 yX0_hangingOn ∈ G := inG (inT2 230 rfl) rfl
theorem kw_302 : Cond.instanceMethod yX0_hangingOn ∈ G := inG (inT2 231 rfl) rfl
theorem kw_303 : Cond.selects yX0_hangingOn.cls yX0_hangingOn yX0_hangingOn ∈ G := inG (inT2 232 rfl) rfl
theorem kw_304 : Cond.code yX0_hangingOn cX0_hangingOn 4 (some .int) ∈ G := inG (inT2 233 rfl) rfl
theorem kw_305 : Cond.methodLink RX8 167 yX0_fault ∈ G := inG (inT2 238 rfl) rfl
theorem kw_306 : Cond.instanceMethod yX0_fault ∈ G := inG (inT2 239 rfl) rfl
theorem kw_307 : Cond.selects yX0_fault.cls yX0_fault yX0_fault ∈ G := inG (inT3 0 rfl) rfl
theorem kw_308 : Cond.code yX0_fault cX0_fault 3 (some .int) ∈ G := inG (inT3 1 rfl) rfl
theorem kw_309 : Cond.methodLink RX8 171 yX8_isSound ∈ G := inG (inT3 33 rfl) rfl
theorem kw_310 : Cond.instanceMethod yX8_isSound ∈ G := inG (inT3 35 rfl) rfl
theorem kw_311 : Cond.selects yX8_isSound.cls yX8_isSound yX8_isSound ∈ G := inG (inS (List.mem_of_getElem? (i := 10) rfl)) rfl
theorem kw_312 : Cond.code yX8_isSound cX8_isSound 1 (some .boolean) ∈ G := inG (inT3 36 rfl) rfl
theorem kw_313 : Cond.methodLink RX8 175 yX4_largestPart ∈ G := inG (inT3 37 rfl) rfl
theorem kw_314 : Cond.instanceMethod yX4_largestPart ∈ G := inG (inT3 38 rfl) rfl
theorem kw_315 : Cond.selects yX4_largestPart.cls yX4_largestPart yX4_largestPart ∈ G := inG (inT3 39 rfl) rfl
theorem kw_316 : Cond.code yX4_largestPart cX4_largestPart 6 (some .int) ∈ G := inG (inT3 40 rfl) rfl
theorem kw_317 : Cond.fieldLink RX8 35 "BagTree" "law" "LBagTree$Law;" ∈ G := inG (inT1 205 rfl) rfl
theorem kw_318 : Cond.fieldLink RX8 178 "BagTree$Law" "size" "I" ∈ G := inG (inT1 106 rfl) rfl
theorem kw_319 : Cond.methodLink RX8 179 yX3_startAgain ∈ G := inG (inT3 51 rfl) rfl
theorem kw_320 : Cond.instanceMethod yX3_startAgain ∈ G := inG (inT3 52 rfl) rfl
theorem kw_321 : Cond.selects yX3_startAgain.cls yX3_startAgain yX3_startAgain ∈ G := inG (inT3 53 rfl) rfl
theorem kw_322 : Cond.code yX3_startAgain cX3_startAgain 3 none ∈ G := inG (inT3 54 rfl) rfl
theorem kw_323 : Cond.methodLink RX8 182 yX3_has ∈ G := inG (inT3 59 rfl) rfl
theorem kw_324 : Cond.instanceMethod yX3_has ∈ G := inG (inT3 60 rfl) rfl
theorem kw_325 : Cond.selects yX3_has.cls yX3_has yX3_has ∈ G := inG (inT3 61 rfl) rfl
theorem kw_326 : Cond.code yX3_has cX3_has 2 (some .boolean) ∈ G := inG (inT3 62 rfl) rfl
theorem kw_327 : Cond.methodLink RX8 183 yX8_isFactor ∈ G := inG (inT3 63 rfl) rfl
theorem kw_328 : Cond.static yX8_isFactor ∈ G := inG (inT3 64 rfl) rfl
theorem kw_329 : Cond.code yX8_isFactor cX8_isFactor 1 (some .boolean) ∈ G := inG (inT3 65 rfl) rfl
theorem kw_330 : Cond.fieldLink RX8 186 "BagTree$Law" "factors" "[I" ∈ G := inG (inT1 109 rfl) rfl
theorem kw_331 : Cond.fieldLink RX8 189 "BagTree$Law" "barred" "[Z" ∈ G := inG (inT1 115 rfl) rfl
theorem kw_332 : Cond.fieldLink RX8 193 "BagTree$Law" "pairFactors" "[I" ∈ G := inG (inT1 112 rfl) rfl
theorem kw_333 : Cond.methodLink RX8 196 yX3_setPair ∈ G := inG (inT3 70 rfl) rfl
theorem kw_334 : Cond.instanceMethod yX3_setPair ∈ G := inG (inT3 71 rfl) rfl
theorem kw_335 : Cond.selects yX3_setPair.cls yX3_setPair yX3_setPair ∈ G := inG (inT3 72 rfl) rfl
theorem kw_336 : Cond.code yX3_setPair cX3_setPair 5 none ∈ G := inG (inT3 73 rfl) rfl
theorem kw_337 : Cond.fieldLink RX8 200 "BagTree$Law" "forbidden" "[I" ∈ G := inG (inT1 117 rfl) rfl
theorem kw_338 : Cond.fieldLink RX8 234 "BagTree$Net" "edges" "I" ∈ G := inG (inT1 46 rfl) rfl
theorem kw_339 : Cond.fieldLink RX9 7 "BagTreeModel" "knots" "I" ∈ G := inG (inT4 27 rfl) rfl
theorem kw_340 : Cond.methodLink RX9 83 yX9_isWeight ∈ G := inG (inT4 101 rfl) rfl
theorem kw_341 : Cond.instanceMethod yX9_isWeight ∈ G := inG (inT4 103 rfl) rfl
theorem kw_342 : Cond.selects yX9_isWeight.cls yX9_isWeight yX9_isWeight ∈ G := inG (inS (List.mem_of_getElem? (i := 26) rfl)) rfl
theorem kw_343 : Cond.initialized RX9 ∈ G := inG (inT1 8 rfl) rfl
theorem kw_344 : Cond.code yX9_isWeight cX9_isWeight 2 (some .boolean) ∈ G := inG (inT4 104 rfl) rfl
theorem kw_345 : Cond.fieldLink RX9 13 "BagTreeModel" "weight" "[I" ∈ G := inG (inT4 28 rfl) rfl
theorem kw_346 : Cond.fieldLink RX9 17 "BagTreeModel" "beside" "[I" ∈ G := inG (inT4 29 rfl) rfl
theorem kw_347 : Cond.fieldLink RX9 23 "BagTreeModel" "rowed" "I" ∈ G := inG (inT4 31 rfl) rfl
theorem kw_348 : Cond.fieldLink RX9 29 "BagTreeModel" "bags" "I" ∈ G := inG (inT4 33 rfl) rfl
theorem kw_349 : Cond.methodLink RX9 87 yX9_isKnot ∈ G := inG (inT4 109 rfl) rfl
theorem kw_350 : Cond.instanceMethod yX9_isKnot ∈ G := inG (inT4 111 rfl) rfl
theorem kw_351 : Cond.selects yX9_isKnot.cls yX9_isKnot yX9_isKnot ∈ G := inG (inS (List.mem_of_getElem? (i := 27) rfl)) rfl
theorem kw_352 : Cond.code yX9_isKnot cX9_isKnot 2 (some .boolean) ∈ G := inG (inT4 112 rfl) rfl
theorem kw_353 : Cond.fieldLink RX9 20 "BagTreeModel" "edge" "[I" ∈ G := inG (inT4 30 rfl) rfl
theorem kw_354 : Cond.methodLink RX9 90 yX9_isEdge ∈ G := inG (inT4 117 rfl) rfl
theorem kw_355 : Cond.instanceMethod yX9_isEdge ∈ G := inG (inT4 119 rfl) rfl
theorem kw_356 : Cond.selects yX9_isEdge.cls yX9_isEdge yX9_isEdge ∈ G := inG (inS (List.mem_of_getElem? (i := 28) rfl)) rfl
theorem kw_357 : Cond.code yX9_isEdge cX9_isEdge 3 (some .boolean) ∈ G := inG (inT4 120 rfl) rfl
theorem kw_358 : Cond.fieldLink RX9 26 "BagTreeModel" "row" "[I" ∈ G := inG (inT4 32 rfl) rfl
theorem kw_359 : Cond.methodLink RX9 94 yX9_rowMask ∈ G := inG (inT4 137 rfl) rfl
theorem kw_360 : Cond.instanceMethod yX9_rowMask ∈ G := inG (inT4 139 rfl) rfl
theorem kw_361 : Cond.selects yX9_rowMask.cls yX9_rowMask yX9_rowMask ∈ G := inG (inS (List.mem_of_getElem? (i := 29) rfl)) rfl
theorem kw_362 : Cond.code yX9_rowMask cX9_rowMask 3 (some .int) ∈ G := inG (inT4 140 rfl) rfl
theorem kw_363 : Cond.methodLink RX9 98 yX9_around ∈ G := inG (inT4 157 rfl) rfl
theorem kw_364 : Cond.instanceMethod yX9_around ∈ G := inG (inT4 159 rfl) rfl
theorem kw_365 : Cond.selects yX9_around.cls yX9_around yX9_around ∈ G := inG (inS (List.mem_of_getElem? (i := 31) rfl)) rfl
theorem kw_366 : Cond.code yX9_around cX9_around 7 (some .int) ∈ G := inG (inT4 160 rfl) rfl
theorem kw_367 : Cond.methodLink RX9 102 yX9_bits ∈ G := inG (inT4 165 rfl) rfl
theorem kw_368 : Cond.instanceMethod yX9_bits ∈ G := inG (inT4 167 rfl) rfl
theorem kw_369 : Cond.selects yX9_bits.cls yX9_bits yX9_bits ∈ G := inG (inS (List.mem_of_getElem? (i := 32) rfl)) rfl
theorem kw_370 : Cond.code yX9_bits cX9_bits 4 (some .int) ∈ G := inG (inT4 168 rfl) rfl
theorem kw_371 : Cond.fieldLink RX9 32 "BagTreeModel" "bag" "[I" ∈ G := inG (inT4 34 rfl) rfl
theorem kw_372 : Cond.methodLink RX9 106 yX9_isOrder ∈ G := inG (inT4 153 rfl) rfl
theorem kw_373 : Cond.instanceMethod yX9_isOrder ∈ G := inG (inT4 155 rfl) rfl
theorem kw_374 : Cond.selects yX9_isOrder.cls yX9_isOrder yX9_isOrder ∈ G := inG (inS (List.mem_of_getElem? (i := 30) rfl)) rfl
theorem kw_375 : Cond.code yX9_isOrder cX9_isOrder 1 (some .boolean) ∈ G := inG (inT4 156 rfl) rfl
theorem kw_376 : Cond.methodLink RX9 110 yX9_width ∈ G := inG (inT4 161 rfl) rfl
theorem kw_377 : Cond.instanceMethod yX9_width ∈ G := inG (inT4 162 rfl) rfl
theorem kw_378 : Cond.selects yX9_width.cls yX9_width yX9_width ∈ G := inG (inT4 163 rfl) rfl
theorem kw_379 : Cond.code yX9_width cX9_width 3 (some .int) ∈ G := inG (inT4 164 rfl) rfl
theorem kw_380 : Cond.fieldLink RX9 35 "BagTreeModel" "up" "[I" ∈ G := inG (inT4 35 rfl) rfl
theorem kw_381 : Cond.methodLink RX9 113 yX9_rowWidth ∈ G := inG (inT4 177 rfl) rfl
theorem kw_382 : Cond.instanceMethod yX9_rowWidth ∈ G := inG (inT4 179 rfl) rfl
theorem kw_383 : Cond.selects yX9_rowWidth.cls yX9_rowWidth yX9_rowWidth ∈ G := inG (inS (List.mem_of_getElem? (i := 33) rfl)) rfl
theorem kw_384 : Cond.code yX9_rowWidth cX9_rowWidth 5 (some .int) ∈ G := inG (inT4 180 rfl) rfl
theorem kw_385 : Cond.methodLink RX9 116 yX9_all ∈ G := inG (inT4 185 rfl) rfl
theorem kw_386 : Cond.instanceMethod yX9_all ∈ G := inG (inT4 187 rfl) rfl
theorem kw_387 : Cond.selects yX9_all.cls yX9_all yX9_all ∈ G := inG (inS (List.mem_of_getElem? (i := 34) rfl)) rfl
theorem kw_388 : Cond.code yX9_all cX9_all 1 (some .int) ∈ G := inG (inT4 188 rfl) rfl
theorem kw_389 : Cond.fieldLink RX9 38 "BagTreeModel" "least" "[I" ∈ G := inG (inT4 36 rfl) rfl
theorem kw_390 : Cond.methodLink RX9 119 yX9_inOne ∈ G := inG (inT4 213 rfl) rfl
theorem kw_391 : Cond.instanceMethod yX9_inOne ∈ G := inG (inT4 215 rfl) rfl
theorem kw_392 : Cond.selects yX9_inOne.cls yX9_inOne yX9_inOne ∈ G := inG (inS (List.mem_of_getElem? (i := 35) rfl)) rfl
theorem kw_393 : Cond.code yX9_inOne cX9_inOne 3 (some .boolean) ∈ G := inG (inT4 216 rfl) rfl
theorem kw_394 : Cond.methodLink RX9 122 yX9_sound ∈ G := inG (inT4 222 rfl) rfl
theorem kw_395 : Cond.instanceMethod yX9_sound ∈ G := inG (inT4 210 rfl) rfl
theorem kw_396 : Cond.selects yX9_sound.cls yX9_sound yX9_sound ∈ G := inG (inT4 211 rfl) rfl
theorem kw_397 : Cond.code yX9_sound cX9_sound 4 (some .int) ∈ G := inG (inT4 212 rfl) rfl
theorem kw_398 : Cond.fieldLink RX9 41 "BagTreeModel" "q" "I" ∈ G := inG (inT4 37 rfl) rfl
theorem kw_399 : Cond.fieldLink RX9 50 "BagTreeModel" "forbidden" "[I" ∈ G := inG (inT4 40 rfl) rfl
theorem kw_400 : Cond.fieldLink RX9 47 "BagTreeModel" "pairFactor" "[I" ∈ G := inG (inT4 39 rfl) rfl
theorem kw_401 : Cond.fieldLink RX9 53 "BagTreeModel" "mayNot" "[Z" ∈ G := inG (inT4 41 rfl) rfl
theorem kw_402 : Cond.fieldLink RX9 44 "BagTreeModel" "factor" "[I" ∈ G := inG (inT4 38 rfl) rfl
theorem kw_403 : Cond.methodLink RX9 125 yX9_isState ∈ G := inG (inT4 231 rfl) rfl
theorem kw_404 : Cond.instanceMethod yX9_isState ∈ G := inG (inT4 233 rfl) rfl
theorem kw_405 : Cond.selects yX9_isState.cls yX9_isState yX9_isState ∈ G := inG (inS (List.mem_of_getElem? (i := 36) rfl)) rfl
theorem kw_406 : Cond.code yX9_isState cX9_isState 2 (some .boolean) ∈ G := inG (inT4 234 rfl) rfl
theorem kw_407 : Cond.methodLink RX9 128 yX9_isFactor ∈ G := inG (inT4 235 rfl) rfl
theorem kw_408 : Cond.instanceMethod yX9_isFactor ∈ G := inG (inT4 237 rfl) rfl
theorem kw_409 : Cond.selects yX9_isFactor.cls yX9_isFactor yX9_isFactor ∈ G := inG (inS (List.mem_of_getElem? (i := 37) rfl)) rfl
theorem kw_410 : Cond.code yX9_isFactor cX9_isFactor 2 (some .boolean) ∈ G := inG (inT4 238 rfl) rfl
theorem kw_411 : Cond.fieldLink RX9 57 "BagTreeModel" "fixed" "[I" ∈ G := inG (inT4 42 rfl) rfl
theorem kw_412 : Cond.fieldLink RX9 60 "BagTreeModel" "state" "[I" ∈ G := inG (inT4 43 rfl) rfl
theorem kw_413 : Cond.methodLink RX9 131 yX9_mayBe ∈ G := inG (inT5 28 rfl) rfl
theorem kw_414 : Cond.instanceMethod yX9_mayBe ∈ G := inG (inT5 30 rfl) rfl
theorem kw_415 : Cond.selects yX9_mayBe.cls yX9_mayBe yX9_mayBe ∈ G := inG (inS (List.mem_of_getElem? (i := 42) rfl)) rfl
theorem kw_416 : Cond.code yX9_mayBe cX9_mayBe 3 (some .boolean) ∈ G := inG (inT5 31 rfl) rfl
theorem kw_417 : Cond.methodLink RX9 134 yX9_isFirst ∈ G := inG (inT5 36 rfl) rfl
theorem kw_418 : Cond.instanceMethod yX9_isFirst ∈ G := inG (inT5 38 rfl) rfl
theorem kw_419 : Cond.selects yX9_isFirst.cls yX9_isFirst yX9_isFirst ∈ G := inG (inS (List.mem_of_getElem? (i := 44) rfl)) rfl
theorem kw_420 : Cond.code yX9_isFirst cX9_isFirst 4 (some .boolean) ∈ G := inG (inT5 39 rfl) rfl
theorem kw_421 : Cond.fieldLink RX9 63 "BagTreeModel" "count" "[J" ∈ G := inG (inT4 44 rfl) rfl
theorem kw_422 : Cond.fieldLink RX9 67 "BagTreeModel" "best" "[J" ∈ G := inG (inT4 45 rfl) rfl
theorem kw_423 : Cond.fieldLink RX9 70 "BagTreeModel" "bests" "[J" ∈ G := inG (inT4 46 rfl) rfl
theorem kw_424 : Cond.fieldLink RX9 73 "BagTreeModel" "allCount" "J" ∈ G := inG (inT4 47 rfl) rfl
theorem kw_425 : Cond.fieldLink RX9 77 "BagTreeModel" "allBest" "J" ∈ G := inG (inT4 48 rfl) rfl
theorem kw_426 : Cond.fieldLink RX9 80 "BagTreeModel" "allBests" "J" ∈ G := inG (inT4 49 rfl) rfl
theorem kw_427 : Cond.methodLink RX9 137 yX9_take ∈ G := inG (inT5 24 rfl) rfl
theorem kw_428 : Cond.instanceMethod yX9_take ∈ G := inG (inT5 26 rfl) rfl
theorem kw_429 : Cond.selects yX9_take.cls yX9_take yX9_take ∈ G := inG (inS (List.mem_of_getElem? (i := 41) rfl)) rfl
theorem kw_430 : Cond.code yX9_take cX9_take 7 (some .boolean) ∈ G := inG (inT5 27 rfl) rfl
theorem kw_431 : Cond.methodLink RX9 140 yX9_own ∈ G := inG (inT5 32 rfl) rfl
theorem kw_432 : Cond.instanceMethod yX9_own ∈ G := inG (inT5 34 rfl) rfl
theorem kw_433 : Cond.selects yX9_own.cls yX9_own yX9_own ∈ G := inG (inS (List.mem_of_getElem? (i := 43) rfl)) rfl
theorem kw_434 : Cond.code yX9_own cX9_own 6 (some .long) ∈ G := inG (inT5 35 rfl) rfl
theorem kw_435 : Cond.methodLink RX9 144 yX9_code ∈ G := inG (inT5 40 rfl) rfl
theorem kw_436 : Cond.instanceMethod yX9_code ∈ G := inG (inT5 42 rfl) rfl
theorem kw_437 : Cond.selects yX9_code.cls yX9_code yX9_code ∈ G := inG (inS (List.mem_of_getElem? (i := 45) rfl)) rfl
theorem kw_438 : Cond.code yX9_code cX9_code 4 (some .int) ∈ G := inG (inT5 43 rfl) rfl
theorem kw_439 : Cond.methodLink RX9 147 yX9_put_ ∈ G := inG (inT5 44 rfl) rfl
theorem kw_440 : Cond.instanceMethod yX9_put_ ∈ G := inG (inT5 46 rfl) rfl
theorem kw_441 : Cond.selects yX9_put_.cls yX9_put_ yX9_put_ ∈ G := inG (inS (List.mem_of_getElem? (i := 46) rfl)) rfl
theorem kw_442 : Cond.code yX9_put_ cX9_put_ 10 none ∈ G := inG (inT5 47 rfl) rfl
theorem kw_443 : Cond.methodLink RX9 151 yX9_isAsked ∈ G := inG (inT5 11 rfl) rfl
theorem kw_444 : Cond.instanceMethod yX9_isAsked ∈ G := inG (inT5 13 rfl) rfl
theorem kw_445 : Cond.selects yX9_isAsked.cls yX9_isAsked yX9_isAsked ∈ G := inG (inS (List.mem_of_getElem? (i := 38) rfl)) rfl
theorem kw_446 : Cond.code yX9_isAsked cX9_isAsked 1 (some .boolean) ∈ G := inG (inT5 14 rfl) rfl
theorem kw_447 : Cond.methodLink RX9 156 yX9_free ∈ G := inG (inT5 16 rfl) rfl
theorem kw_448 : Cond.instanceMethod yX9_free ∈ G := inG (inT5 18 rfl) rfl
theorem kw_449 : Cond.selects yX9_free.cls yX9_free yX9_free ∈ G := inG (inS (List.mem_of_getElem? (i := 39) rfl)) rfl
theorem kw_450 : Cond.code yX9_free cX9_free 2 none ∈ G := inG (inT5 19 rfl) rfl
theorem kw_451 : Cond.methodLink RX9 159 yX9_ask ∈ G := inG (inT5 20 rfl) rfl
theorem kw_452 : Cond.instanceMethod yX9_ask ∈ G := inG (inT5 22 rfl) rfl
theorem kw_453 : Cond.selects yX9_ask.cls yX9_ask yX9_ask ∈ G := inG (inS (List.mem_of_getElem? (i := 40) rfl)) rfl
theorem kw_454 : Cond.code yX9_ask cX9_ask 14 none ∈ G := inG (inT5 23 rfl) rfl
theorem kw_455 : Cond.constantLong RX9 154 (-9223372036854775808) ∈ G := inG (inT5 15 rfl) rfl
theorem kw_456 : Cond.methodLink RX0 3 objectInit ∈ G := inG (inT1 84 rfl) rfl
theorem kw_457 : Cond.instanceMethod objectInit ∈ G := inG (inT1 21 rfl) rfl
theorem kw_458 : Cond.code objectInit ⟨#[0xb1]⟩ 1 none ∈ G := inG (inT1 22 rfl) rfl
theorem kw_459 : Cond.arrayClass .int ∈ G := inG (inT1 58 rfl) rfl
theorem kw_460 : Cond.methodLink RX1 3 objectInit ∈ G := inG (inT1 135 rfl) rfl
theorem kw_461 : Cond.methodLink RX2 3 objectInit ∈ G := inG (inT1 64 rfl) rfl
theorem kw_462 : Cond.methodLink RX3 3 objectInit ∈ G := inG (inT1 103 rfl) rfl
theorem kw_463 : Cond.arrayClass .boolean ∈ G := inG (inT1 129 rfl) rfl
theorem kw_464 : Cond.methodLink RX4 3 objectInit ∈ G := inG (inT1 28 rfl) rfl
theorem kw_465 : Cond.methodLink RX5 3 objectInit ∈ G := inG (inT1 157 rfl) rfl
theorem kw_466 : Cond.classLink RX5 39 RX1 ∈ G := inG (inT1 158 rfl) rfl
theorem kw_467 : Cond.instantiable RX1 3 ∈ G := inG (inT1 131 rfl) rfl
theorem kw_468 : Cond.instanceMethod yX1_init ∈ G := inG (inT1 133 rfl) rfl
theorem kw_469 : Cond.code yX1_init cX1_init 1 none ∈ G := inG (inT1 134 rfl) rfl
theorem kw_470 : Cond.methodLink RX7 3 objectInit ∈ G := inG (inT3 96 rfl) rfl
theorem kw_471 : Cond.methodLink RX8 3 objectInit ∈ G := inG (inT1 20 rfl) rfl
theorem kw_472 : Cond.classLink RX8 9 RX4 ∈ G := inG (inT1 23 rfl) rfl
theorem kw_473 : Cond.instantiable RX4 5 ∈ G := inG (inT1 24 rfl) rfl
theorem kw_474 : Cond.instanceMethod yX4_init ∈ G := inG (inT1 26 rfl) rfl
theorem kw_475 : Cond.code yX4_init cX4_init 1 none ∈ G := inG (inT1 27 rfl) rfl
theorem kw_476 : Cond.classLink RX8 18 RX2 ∈ G := inG (inT1 59 rfl) rfl
theorem kw_477 : Cond.instantiable RX2 3 ∈ G := inG (inT1 60 rfl) rfl
theorem kw_478 : Cond.instanceMethod yX2_init ∈ G := inG (inT1 62 rfl) rfl
theorem kw_479 : Cond.code yX2_init cX2_init 1 none ∈ G := inG (inT1 63 rfl) rfl
theorem kw_480 : Cond.classLink RX8 25 RX0 ∈ G := inG (inT1 79 rfl) rfl
theorem kw_481 : Cond.instantiable RX0 3 ∈ G := inG (inT1 80 rfl) rfl
theorem kw_482 : Cond.instanceMethod yX0_init ∈ G := inG (inT1 82 rfl) rfl
theorem kw_483 : Cond.code yX0_init cX0_init 1 none ∈ G := inG (inT1 83 rfl) rfl
theorem kw_484 : Cond.classLink RX8 32 RX3 ∈ G := inG (inT1 98 rfl) rfl
theorem kw_485 : Cond.instantiable RX3 5 ∈ G := inG (inT1 99 rfl) rfl
theorem kw_486 : Cond.instanceMethod yX3_init ∈ G := inG (inT1 101 rfl) rfl
theorem kw_487 : Cond.code yX3_init cX3_init 1 none ∈ G := inG (inT1 102 rfl) rfl
theorem kw_488 : Cond.classLink RX8 39 RX1 ∈ G := inG (inT1 130 rfl) rfl
theorem kw_489 : Cond.classLink RX8 46 RX5 ∈ G := inG (inT1 152 rfl) rfl
theorem kw_490 : Cond.instantiable RX5 11 ∈ G := inG (inT1 153 rfl) rfl
theorem kw_491 : Cond.instanceMethod yX5_init ∈ G := inG (inT1 155 rfl) rfl
theorem kw_492 : Cond.code yX5_init cX5_init 1 none ∈ G := inG (inT1 156 rfl) rfl
theorem kw_493 : Cond.fieldLink RX8 49 "BagTree" "plan" "LBagTree$Plan;" ∈ G := inG (inT1 207 rfl) rfl
theorem kw_494 : Cond.methodLink RX9 1 objectInit ∈ G := inG (inT4 26 rfl) rfl
theorem kw_495 : Cond.arrayClass .long ∈ G := inG (inT2 150 rfl) rfl
theorem ok_J6_bitCount_0f7a4 : okY yJ6_bitCount_0f7a4 1 := by decide +kernel
theorem ok_X0_append : okY yX0_append 1 := by decide +kernel
theorem ok_X0_empty : okY yX0_empty 0 := by decide +kernel
theorem ok_X0_endingIn : okY yX0_endingIn 1 := by decide +kernel
theorem ok_X0_fault : okY yX0_fault 1 := by decide +kernel
theorem ok_X0_hangingOn : okY yX0_hangingOn 1 := by decide +kernel
theorem ok_X0_has : okY yX0_has 1 := by decide +kernel
theorem ok_X0_holdTogether : okY yX0_holdTogether 1 := by decide +kernel
theorem ok_X0_init : okY yX0_init 0 := by decide +kernel
theorem ok_X0_looseEdge : okY yX0_looseEdge 1 := by decide +kernel
theorem ok_X0_matesOf : okY yX0_matesOf 1 := by decide +kernel
theorem ok_X0_missingKnot : okY yX0_missingKnot 1 := by decide +kernel
theorem ok_X0_mostKnots : okY yX0_mostKnots 0 := by decide +kernel
theorem ok_X0_scatteredKnot : okY yX0_scatteredKnot 1 := by decide +kernel
theorem ok_X0_takeApart : okY yX0_takeApart 2 := by decide +kernel
theorem ok_X1_init : okY yX1_init 0 := by decide +kernel
theorem ok_X1_isNearlyJoined : okY yX1_isNearlyJoined 1 := by decide +kernel
theorem ok_X1_letGo : okY yX1_letGo 1 := by decide +kernel
theorem ok_X1_loneliest : okY yX1_loneliest 0 := by decide +kernel
theorem ok_X1_start : okY yX1_start 1 := by decide +kernel
theorem ok_X1_takeAway : okY yX1_takeAway 1 := by decide +kernel
theorem ok_X2_append : okY yX2_append 1 := by decide +kernel
theorem ok_X2_empty : okY yX2_empty 0 := by decide +kernel
theorem ok_X2_holds : okY yX2_holds 1 := by decide +kernel
theorem ok_X2_init : okY yX2_init 0 := by decide +kernel
theorem ok_X2_nextPlace : okY yX2_nextPlace 2 := by decide +kernel
theorem ok_X3_has : okY yX3_has 1 := by decide +kernel
theorem ok_X3_init : okY yX3_init 0 := by decide +kernel
theorem ok_X3_openFor : okY yX3_openFor 1 := by decide +kernel
theorem ok_X3_setPair : okY yX3_setPair 4 := by decide +kernel
theorem ok_X3_startAgain : okY yX3_startAgain 1 := by decide +kernel
theorem ok_X4_addKnot : okY yX4_addKnot 1 := by decide +kernel
theorem ok_X4_everyKnot : okY yX4_everyKnot 0 := by decide +kernel
theorem ok_X4_has : okY yX4_has 1 := by decide +kernel
theorem ok_X4_init : okY yX4_init 0 := by decide +kernel
theorem ok_X4_join : okY yX4_join 3 := by decide +kernel
theorem ok_X4_joined : okY yX4_joined 2 := by decide +kernel
theorem ok_X4_largestPart : okY yX4_largestPart 1 := by decide +kernel
theorem ok_X4_part : okY yX4_part 2 := by decide +kernel
theorem ok_X4_reached : okY yX4_reached 2 := by decide +kernel
theorem ok_X5_init : okY yX5_init 0 := by decide +kernel
theorem ok_X5_mostJoined : okY yX5_mostJoined 1 := by decide +kernel
theorem ok_X5_takeStep : okY yX5_takeStep 1 := by decide +kernel
theorem ok_X7_addEdges : okY yX7_addEdges 2 := by decide +kernel
theorem ok_X7_addTables : okY yX7_addTables 1 := by decide +kernel
theorem ok_X7_entryOf : okY yX7_entryOf 1 := by decide +kernel
theorem ok_X7_fillEntry : okY yX7_fillEntry 2 := by decide +kernel
theorem ok_X7_fillTable : okY yX7_fillTable 1 := by decide +kernel
theorem ok_X7_listOpenStates : okY yX7_listOpenStates 1 := by decide +kernel
theorem ok_X7_pickNext : okY yX7_pickNext 1 := by decide +kernel
theorem ok_X7_pickedState : okY yX7_pickedState 1 := by decide +kernel
theorem ok_X7_settle : okY yX7_settle 1 := by decide +kernel
theorem ok_X7_sweep : okY yX7_sweep 1 := by decide +kernel
theorem ok_X7_sweepAgain : okY yX7_sweepAgain 0 := by decide +kernel
theorem ok_X8_hasBit : okY yX8_hasBit 2 := by decide +kernel
theorem ok_X8_isFactor : okY yX8_isFactor 1 := by decide +kernel
theorem ok_X8_isSound : okY yX8_isSound 0 := by decide +kernel
theorem ok_X8_isWeight : okY yX8_isWeight 1 := by decide +kernel
theorem ok_X8_lowerBound : okY yX8_lowerBound 0 := by decide +kernel
theorem ok_X9_all : okY yX9_all 0 := by decide +kernel
theorem ok_X9_around : okY yX9_around 2 := by decide +kernel
theorem ok_X9_ask : okY yX9_ask 1 := by decide +kernel
theorem ok_X9_bits : okY yX9_bits 1 := by decide +kernel
theorem ok_X9_code : okY yX9_code 1 := by decide +kernel
theorem ok_X9_free : okY yX9_free 0 := by decide +kernel
theorem ok_X9_inOne : okY yX9_inOne 1 := by decide +kernel
theorem ok_X9_isAsked : okY yX9_isAsked 0 := by decide +kernel
theorem ok_X9_isEdge : okY yX9_isEdge 2 := by decide +kernel
theorem ok_X9_isFactor : okY yX9_isFactor 1 := by decide +kernel
theorem ok_X9_isFirst : okY yX9_isFirst 2 := by decide +kernel
theorem ok_X9_isKnot : okY yX9_isKnot 1 := by decide +kernel
theorem ok_X9_isOrder : okY yX9_isOrder 0 := by decide +kernel
theorem ok_X9_isState : okY yX9_isState 1 := by decide +kernel
theorem ok_X9_isWeight : okY yX9_isWeight 1 := by decide +kernel
theorem ok_X9_mayBe : okY yX9_mayBe 2 := by decide +kernel
theorem ok_X9_own : okY yX9_own 1 := by decide +kernel
theorem ok_X9_put_ : okY yX9_put_ 5 := by decide +kernel
theorem ok_X9_rowMask : okY yX9_rowMask 0 := by decide +kernel
theorem ok_X9_rowWidth : okY yX9_rowWidth 0 := by decide +kernel
theorem ok_X9_sound : okY yX9_sound 0 := by decide +kernel
theorem ok_X9_take : okY yX9_take 2 := by decide +kernel
theorem ok_X9_width : okY yX9_width 0 := by decide +kernel
end
section
/-! Rows that make cells, constructors, null. -/
theorem arr_same {cA : Nat → ClassId} {D : va_G} {s : State} (hK : va_K D vwCl (TY cA) s) {c : ClassId} {ty : FieldType} (hK2 : va_K D vwCl (TY cA ++ [(c, ty)]) s) (t : Nat) (ht : (TY cA)[t]? = some (cA t, ty)) : c = cA t := by
  have h1 := (hK.2 t _ ht).2
  have h2 := (hK2.2 4 (c, ty) rfl).2
  cases ty with
  | object C =>
    obtain ⟨k1, c1, a1, a2, a3, a4⟩ := h1
    obtain ⟨k2, c2, b1, b2, b3, b4⟩ := h2
    exact Option.some.inj (b4.symm.trans a4)
  | _ => exact Option.some.inj (h2.symm.trans h1)
section GN
variable {X : XT} {cc : ByteArray} {own : String} {ret : Option FieldType} {cA : Nat → ClassId} {fr lo nL k n : Nat} {ws : va_W} {lv : List (Nat × Value)} {st : List Value}
theorem g_newI (C : Cx X cc own ret cA fr lo nL) (pc : Nat) {m : Int32} (N : Nat) (k' n' : Nat) (wsF : Nat → va_W) (d : decode cc pc = .ok (.newarray .int, 2)) (hw : Cond.arrayClass .int ∈ G) (hm : ¬ m < 0) (hN : m.toNatClampNeg = N) (hb : N * 4 ≤ 536870912) (hk : k' ≤ (x_R X).cells) (hn : n' ≤ (x_R X).slots) (hk' : k + 1 = k') (hn' : n + N = n') (hws : ∀ q, ws ++ [aI cA q N (fun _ => 0)] = wsF q) (K : ∀ q : Nat, Go X nL k' n' (pc + 2) (wsF q) lv (.ref q :: st)) : Go X nL k n pc ws lv (.int m :: st) := by
  intro H locs ls hP hD hS hl
  subst hk'; subst hn'
  refine va_newa (atype := .int) (ty := .int) (a0 := (N, .inl (fun _ => 0))) C.ex C.by (C.ts _ hw) rfl C.K hP hD hS C.hA (fun _ => rfl) hm hN hb hk hn d ?_
  intro q c H1 hK2 hP1 hD1 hS1
  have hc := arr_same C.K hK2 0 rfl
  subst hc
  exact K q H1 locs ls (hws q ▸ hP1) (hws q ▸ hD1) hS1 hl
theorem g_newJ (C : Cx X cc own ret cA fr lo nL) (pc : Nat) {m : Int32} (N : Nat) (k' n' : Nat) (wsF : Nat → va_W) (d : decode cc pc = .ok (.newarray .long, 2)) (hw : Cond.arrayClass .long ∈ G) (hm : ¬ m < 0) (hN : m.toNatClampNeg = N) (hb : N * 8 ≤ 536870912) (hk : k' ≤ (x_R X).cells) (hn : n' ≤ (x_R X).slots) (hk' : k + 1 = k') (hn' : n + N = n') (hws : ∀ q, ws ++ [aJ cA q N (fun _ => 0)] = wsF q) (K : ∀ q : Nat, Go X nL k' n' (pc + 2) (wsF q) lv (.ref q :: st)) : Go X nL k n pc ws lv (.int m :: st) := by
  intro H locs ls hP hD hS hl
  subst hk'; subst hn'
  refine va_newa (atype := .long) (ty := .long) (a0 := (N, .inr (.inl (fun _ => 0)))) C.ex C.by (C.ts _ hw) rfl C.K hP hD hS C.hA (fun _ => rfl) hm hN hb hk hn d ?_
  intro q c H1 hK2 hP1 hD1 hS1
  have hc := arr_same C.K hK2 1 rfl
  subst hc
  exact K q H1 locs ls (hws q ▸ hP1) (hws q ▸ hD1) hS1 hl
theorem g_newZ (C : Cx X cc own ret cA fr lo nL) (pc : Nat) {m : Int32} (N : Nat) (k' n' : Nat) (wsF : Nat → va_W) (d : decode cc pc = .ok (.newarray .boolean, 2)) (hw : Cond.arrayClass .boolean ∈ G) (hm : ¬ m < 0) (hN : m.toNatClampNeg = N) (hb : N * 1 ≤ 536870912) (hk : k' ≤ (x_R X).cells) (hn : n' ≤ (x_R X).slots) (hk' : k + 1 = k') (hn' : n + N = n') (hws : ∀ q, ws ++ [aZ cA q N (fun _ => 0)] = wsF q) (K : ∀ q : Nat, Go X nL k' n' (pc + 2) (wsF q) lv (.ref q :: st)) : Go X nL k n pc ws lv (.int m :: st) := by
  intro H locs ls hP hD hS hl
  subst hk'; subst hn'
  refine va_newa (atype := .boolean) (ty := .boolean) (a0 := (N, .inl (fun _ => 0))) C.ex C.by (C.ts _ hw) rfl C.K hP hD hS C.hA (fun _ => rfl) hm hN hb hk hn d ?_
  intro q c H1 hK2 hP1 hD1 hS1
  have hc := arr_same C.K hK2 2 rfl
  subst hc
  exact K q H1 locs ls (hws q ▸ hP1) (hws q ▸ hD1) hS1 hl
theorem g_newG (C : Cx X cc own ret cA fr lo nL) (pc : Nat) {m : Int32} {i : Nat} (N : Nat) (k' n' : Nat) (wsF : Nat → va_W) (d : decode cc pc = .ok (.anewarray i, 3)) (hw : Cond.classLink own i RX1 ∈ G) (hm : ¬ m < 0) (hN : m.toNatClampNeg = N) (hb : N * 4 ≤ 536870912) (hk : k' ≤ (x_R X).cells) (hn : n' ≤ (x_R X).slots) (hk' : k + 1 = k') (hn' : n + N = n') (hws : ∀ q, ws ++ [aG cA q N (fun _ => none)] = wsF q) (K : ∀ q : Nat, Go X nL k' n' (pc + 3) (wsF q) lv (.ref q :: st)) : Go X nL k n pc ws lv (.int m :: st) := by
  intro H locs ls hP hD hS hl
  subst hk'; subst hn'
  refine va_newq C.ex C.by C.ow (C.ts _ hw) C.nw.2 C.K hP hD hS C.hA hm hN hb hk hn d ?_
  intro q c H1 hK2 hP1 hD1 hS1
  have hc := arr_same C.K hK2 3 rfl
  subst hc
  exact K q H1 locs ls (hws q ▸ hP1) (hws q ▸ hD1) hS1 hl
theorem g_new (C : Cx X cc own ret cA fr lo nL) (pc : Nat) {i ci N : Nat} {Cn : String} {T : u_T} (ty : Nat → FieldType) (fs : List Value) (k' n' : Nat) (wsF : Nat → va_W) (d : decode cc pc = .ok (.new i, 3)) (hin : ∀ w ∈ u_ws Cn T N, w ∈ G) (hty : ∀ k, k < N → parseFieldDescriptor (T k).2.2.1 = some (ty k)) (h1 : Cond.classLink own i Cn ∈ G) (h2 : Cond.instantiable Cn N ∈ G) (h3 : Cond.initialized Cn ∈ G) (hc : vwCl[ci]? = some (Cn, T, N)) (hfs : ∀ j, j < N → defaultValue (ty j) = vp_V fs j) (hk : k' ≤ (x_R X).cells) (hn : n' ≤ (x_R X).slots) (hk' : k + 1 = k') (hn' : n + N = n') (hws : ∀ q, ws ++ [oB q ci fs] = wsF q) (K : ∀ q : Nat, Go X nL k' n' (pc + 3) (wsF q) lv (.ref q :: st)) : Go X nL k n pc ws lv st := by
  intro H locs ls hP hD hS hl
  subst hk'; subst hn'
  refine va_new (fs := fs) C.ex C.by C.ts hin ty hty C.ow (C.ts _ h1) (C.ts _ h2) (C.ts _ h3) C.K hP hD hS C.hA hc hfs hk hn d ?_
  intro q H1 hP1 hD1 hS1
  exact K q H1 locs ls (hws q ▸ hP1) (hws q ▸ hD1) hS1 hl
theorem g_putF (C : Cx X cc own ret cA fr lo nL) (pc q j : Nat) {a ci i N : Nat} {Cn : String} {T : u_T} {fs : List Value} {v : Value} {ws' : va_W} (ty0 : Nat → FieldType) (d : decode cc pc = .ok (.putfield i, 3)) (hin : ∀ w ∈ u_ws Cn T N, w ∈ G) (hty : ∀ k, k < N → parseFieldDescriptor (T k).2.2.1 = some (ty0 k)) (hnm : ∀ a, a < N → ∀ b, b < N → a ≠ b → (T a).2.1 ≠ (T b).2.1) (ha : ws[q]? = some (oB a ci fs)) (hc : vwCl[ci]? = some (Cn, T, N)) (hj : j < N) (hw : Cond.fieldLink own i (T j).1 (T j).2.1 (T j).2.2.1 ∈ G) (hfin : (T j).2.2.2 = true) (hme : (x_me X).name = "<init>") (hdecl : (T j).1 = own) (hnar : narrow (ty0 j) v = v) (hfit : fits (ty0 j) v = true) (hl : j < fs.length) (hws : ws.set q (oB a ci (fs.set j v)) = ws') (K : Go X nL k n (pc + 3) ws' lv st) : Go X nL k n pc ws lv (v :: .ref a :: st) := fun H locs ls hP hD hS hl' => va_putF C.ex C.by C.ts hin ty0 hty hnm C.ow C.K hP hD hS q ha hc j hj (C.ts _ hw) (fun _ h => h) hfin hme hdecl (hty j hj) hnar hfit hl d (fun H1 l1 hP hD hS => K H1 l1 ls (hws ▸ hP) (hws ▸ hD) hS hl')
theorem g_putV (C : Cx X cc own ret cA fr lo nL) (pc q j : Nat) {a ci i N : Nat} {Cn : String} {T : u_T} {fs : List Value} {v : Value} {ws' : va_W} (ty0 : Nat → FieldType) (d : decode cc pc = .ok (.putfield i, 3)) (hin : ∀ w ∈ u_ws Cn T N, w ∈ G) (hty : ∀ k, k < N → parseFieldDescriptor (T k).2.2.1 = some (ty0 k)) (hnm : ∀ a, a < N → ∀ b, b < N → a ≠ b → (T a).2.1 ≠ (T b).2.1) (ha : ws[q]? = some (oB a ci fs)) (hc : vwCl[ci]? = some (Cn, T, N)) (hj : j < N) (hw : Cond.fieldLink own i (T j).1 (T j).2.1 (T j).2.2.1 ∈ G) (hfin : (T j).2.2.2 = false) (hnar : narrow (ty0 j) v = v) (hfit : fits (ty0 j) v = true) (hl : j < fs.length) (hws : ws.set q (oB a ci (fs.set j v)) = ws') (K : Go X nL k n (pc + 3) ws' lv st) : Go X nL k n pc ws lv (v :: .ref a :: st) := fun H locs ls hP hD hS hl' => va_put C.ex C.by C.ts hin ty0 hty hnm C.ow C.K hP hD hS q ha hc j hj (C.ts _ hw) (fun _ h => h) hfin (hty j hj) hnar hfit hl d (fun H1 l1 hP hD hS => K H1 l1 ls (hws ▸ hP) (hws ▸ hD) hS hl')
theorem g_obj (C : Cx X cc own ret cA fr lo nL) (pc : Nat) {i a : Nat} (d : decode cc pc = .ok (.invokespecial i, 3)) (h1 : Cond.methodLink own i objectInit ∈ G) (h2 : Cond.instanceMethod objectInit ∈ G) (h3 : Cond.code objectInit ⟨#[0xb1]⟩ 1 none ∈ G) (hfr : 1 ≤ fr) (hlo : (st.map fun v => v.category).sum + 12 ≤ lo) (K : Go X nL k n (pc + 3) ws lv st) : Go X nL k n pc ws lv (.ref a :: st) := fun H locs ls hP hD hS hl => W.objInit C.ex C.by C.ow (C.ts _ h1) (C.ts _ h2) (C.ts _ h3) rfl (hl.1.trans C.ml.symm) rfl d (Nat.le_trans hfr C.rm.1) (by
    have h := Nat.le_trans hlo C.rm.2
    show 2 * 0 + _ + 12 ≤ _
    omega) (K H locs ls hP hD hS hl)
theorem g_nonnull (C : Cx X cc own ret cA fr lo nL) (pc : Nat) {o : Int} {a : Nat} (t : Nat) (d : decode cc pc = .ok (.ifnonnull o, 3)) (ht : (pc : Int) + o = (t : Int)) (K : Go X nL k n t ws lv st) : Go X nL k n pc ws lv (.ref a :: st) := fun H locs ls hP hD hS hl => lv_ifnonnull C.ex C.by d ht (K H locs ls hP hD hS hl)
theorem g_nonnullN (C : Cx X cc own ret cA fr lo nL) (pc : Nat) {o : Int} (d : decode cc pc = .ok (.ifnonnull o, 3)) (K : Go X nL k n (pc + 3) ws lv st) : Go X nL k n pc ws lv (.null :: st) := fun H locs ls hP hD hS hl => lv_ifnonnullN C.ex C.by d (K H locs ls hP hD hS hl)
variable {rest : List Value}
/-- a constructor, of a nest mate (private) -/
theorem g_callIN (C : Cx X cc own ret cA fr lo nL) (pc : Nat) {y : MethodName} {cc' : ByteArray} {nL' : Nat} {rm : Room} {b : Nat} {As : List Value} {wc : va_W} {B : Option Value → va_W → Prop} {i : Nat} {host : String} (isC : List Nat) (k' n' : Nat) (d : decode cc pc = .ok (.invokespecial i, 3)) (hM : MT (x_l X) cA y cc' nL' none rm (.ref b :: As) wc B)
    (h1 : (own, i, y, host) ∈ nwT) (h2 : Cond.instanceMethod y ∈ G) (h4 : Cond.initialized y.cls ∈ G) (h5 : Cond.code y cc' nL' none ∈ G) (hy : y.name = "<init>") (hd : okY y As.length) (hR : rm.frames + 1 ≤ fr ∧ 8 + (nL' + 11) + rm.locals ≤ lo) (hk : k' ≤ (x_R X).cells) (hn : n' ≤ (x_R X).slots) (hk' : k + rm.cells = k') (hn' : n + rm.slots = n')
    (hC : isC.map (fun i => ws[i]?) = wc.map some) (hnd : va_nd isC = true) (hst : st = As.reverse ++ .ref b :: rest) (hsum : (rest.map fun v => v.category).sum ≤ 8)
    (K : ∀ (res : Option Value) (w1 : va_W), B res w1 → isC.length ≤ w1.length ∧ Go X nL k' n' (pc + 3) (putAt ws isC w1) lv (res.toList ++ rest)) : Go X nL k n pc ws lv st := by
  intro H locs ls hP hD hS hl
  subst hk'; subst hn'
  have hFc := va_free (wc := wc) hD hS C.hA isC hC
  have hPc := hP.sub (ws' := wc) isC (by
    have := congrArg (List.filterMap id) hC
    simpa [List.filterMap_map] using this)
  have hDc := hD.sub (ws' := wc) isC hnd hC
  have hG : GoodIn G (.code y cc' nL' none :: G) := gi_G (fun w hw => by
    rcases List.mem_cons.mp hw with rfl | hw
    · exact h5
    · exact hw)
  refine kcall (va_runIN (As := As) (rest := rest) (host := host) ⟨C.ex, C.by, C.ml, C.ow, C.ts⟩ (hM H.size (x_D X)) ⟨va_cnB As.length C.ts hG rfl rfl rfl (C.nw.1 _ h1) (C.ts _ h4) hd ⟨Nat.le_trans hR.1 C.rm.1, Nat.le_trans hR.2 C.rm.2⟩, hy, C.ts _ h2⟩ ⟨Px_blind, fun U hU hW => ⟨rfl, by rw [hU], by rw [hU]; exact hPc, va_K.moved hW.alike C.K, hDc.weaken (fun _ _ _ _ => trivial), NW.warm hW C.nw⟩⟩ rfl rfl hl.1 hst (lv_room hsum) d ⟨hk, hn⟩) hS (fun q _ h => hFc q h) hFc ?_
  intro res w1 H1 locs1 hB hP1 hD1 hk1 hS1
  obtain ⟨hle, hgo⟩ := K res w1 hB
  obtain ⟨hP2, hD2⟩ := kjoin hP hD isC hC hnd hle hk1 hFc hP1 hD1
  exact hgo H1 locs1 ls hP2 hD2 hS1 hl
/-- a constructor that isn't private -/
theorem g_callI (C : Cx X cc own ret cA fr lo nL) (pc : Nat) {y : MethodName} {cc' : ByteArray} {nL' : Nat} {rm : Room} {b : Nat} {As : List Value} {wc : va_W} {B : Option Value → va_W → Prop} {i : Nat} (isC : List Nat) (k' n' : Nat) (d : decode cc pc = .ok (.invokespecial i, 3)) (hM : MT (x_l X) cA y cc' nL' none rm (.ref b :: As) wc B)
    (h1 : Cond.methodLink own i y ∈ G) (h2 : Cond.instanceMethod y ∈ G) (h4 : Cond.initialized y.cls ∈ G) (h5 : Cond.code y cc' nL' none ∈ G) (hy : y.name = "<init>") (hd : okY y As.length) (hR : rm.frames + 1 ≤ fr ∧ 8 + (nL' + 11) + rm.locals ≤ lo) (hk : k' ≤ (x_R X).cells) (hn : n' ≤ (x_R X).slots) (hk' : k + rm.cells = k') (hn' : n + rm.slots = n')
    (hC : isC.map (fun i => ws[i]?) = wc.map some) (hnd : va_nd isC = true) (hst : st = As.reverse ++ .ref b :: rest) (hsum : (rest.map fun v => v.category).sum ≤ 8)
    (K : ∀ (res : Option Value) (w1 : va_W), B res w1 → isC.length ≤ w1.length ∧ Go X nL k' n' (pc + 3) (putAt ws isC w1) lv (res.toList ++ rest)) : Go X nL k n pc ws lv st := by
  intro H locs ls hP hD hS hl
  subst hk'; subst hn'
  have hFc := va_free (wc := wc) hD hS C.hA isC hC
  have hPc := hP.sub (ws' := wc) isC (by
    have := congrArg (List.filterMap id) hC
    simpa [List.filterMap_map] using this)
  have hDc := hD.sub (ws' := wc) isC hnd hC
  have hG : GoodIn G (.code y cc' nL' none :: G) := gi_G (fun w hw => by
    rcases List.mem_cons.mp hw with rfl | hw
    · exact h5
    · exact hw)
  refine kcall (va_runI (As := As) (rest := rest) ⟨C.ex, C.by, C.ml, C.ow, C.ts⟩ (hM H.size (x_D X)) (cwI As.length C.ts hG rfl rfl rfl (C.ts _ h4) (C.ts _ h1) (C.ts _ h2) hy hd ⟨Nat.le_trans hR.1 C.rm.1, Nat.le_trans hR.2 C.rm.2⟩) ⟨Px_blind, fun U hU hW => ⟨rfl, by rw [hU], by rw [hU]; exact hPc, va_K.moved hW.alike C.K, hDc.weaken (fun _ _ _ _ => trivial), NW.warm hW C.nw⟩⟩ rfl rfl hl.1 hst (lv_room hsum) d ⟨hk, hn⟩) hS (fun q _ h => hFc q h) hFc ?_
  intro res w1 H1 locs1 hB hP1 hD1 hk1 hS1
  obtain ⟨hle, hgo⟩ := K res w1 hB
  obtain ⟨hP2, hD2⟩ := kjoin hP hD isC hC hnd hle hk1 hFc hP1 hD1
  exact hgo H1 locs1 ls hP2 hD2 hS1 hl
theorem g_aret {B : Option Value → va_W → Prop} {Cn : String} {a : Nat} (C : Cx X cc own (some (.object Cn)) cA fr lo nL) (pc : Nat) (d : decode cc pc = .ok (.areturn, 1)) (F : Fx X B k n) (hB : B (some (.ref a)) ws) : Go X nL k n pc ws lv [.ref a] := by
  intro H locs ls hP hD hS hl
  unfold XW
  rw [F.1]
  exact W.aret C.ex C.by C.rt (Or.inl ⟨_, rfl⟩) (Or.inr ⟨_, rfl⟩) (fun t ht hW => ⟨⟨_, _, hB, rfl, by rw [ht]; exact hP, hD⟩, va_S.F (F.2 ▸ hS) ht⟩) hS.2.2 d C.lk
end GN
end
section
theorem dX0_init_0 : decode cX0_init 0 = .ok (.aload_n 0, 1) := by decide +kernel
theorem dX0_init_1 : decode cX0_init 1 = .ok (.invokespecial 3, 3) := by decide +kernel
theorem dX0_init_4 : decode cX0_init 4 = .ok (.aload_n 0, 1) := by decide +kernel
theorem dX0_init_5 : decode cX0_init 5 = .ok (.bipush 14, 2) := by decide +kernel
theorem dX0_init_7 : decode cX0_init 7 = .ok (.newarray .int, 2) := by decide +kernel
theorem dX0_init_9 : decode cX0_init 9 = .ok (.putfield 9, 3) := by decide +kernel
theorem dX0_init_12 : decode cX0_init 12 = .ok (.aload_n 0, 1) := by decide +kernel
theorem dX0_init_13 : decode cX0_init 13 = .ok (.bipush 14, 2) := by decide +kernel
theorem dX0_init_15 : decode cX0_init 15 = .ok (.newarray .int, 2) := by decide +kernel
theorem dX0_init_17 : decode cX0_init 17 = .ok (.putfield 15, 3) := by decide +kernel
theorem dX0_init_20 : decode cX0_init 20 = .ok (.return_, 1) := by decide +kernel
theorem dX1_init_0 : decode cX1_init 0 = .ok (.aload_n 0, 1) := by decide +kernel
theorem dX1_init_1 : decode cX1_init 1 = .ok (.invokespecial 3, 3) := by decide +kernel
theorem dX1_init_4 : decode cX1_init 4 = .ok (.aload_n 0, 1) := by decide +kernel
theorem dX1_init_5 : decode cX1_init 5 = .ok (.bipush 14, 2) := by decide +kernel
theorem dX1_init_7 : decode cX1_init 7 = .ok (.newarray .int, 2) := by decide +kernel
theorem dX1_init_9 : decode cX1_init 9 = .ok (.putfield 9, 3) := by decide +kernel
theorem dX1_init_12 : decode cX1_init 12 = .ok (.return_, 1) := by decide +kernel
theorem dX2_init_0 : decode cX2_init 0 = .ok (.aload_n 0, 1) := by decide +kernel
theorem dX2_init_1 : decode cX2_init 1 = .ok (.invokespecial 3, 3) := by decide +kernel
theorem dX2_init_4 : decode cX2_init 4 = .ok (.aload_n 0, 1) := by decide +kernel
theorem dX2_init_5 : decode cX2_init 5 = .ok (.bipush 14, 2) := by decide +kernel
theorem dX2_init_7 : decode cX2_init 7 = .ok (.newarray .int, 2) := by decide +kernel
theorem dX2_init_9 : decode cX2_init 9 = .ok (.putfield 9, 3) := by decide +kernel
theorem dX2_init_12 : decode cX2_init 12 = .ok (.return_, 1) := by decide +kernel
theorem dX3_init_0 : decode cX3_init 0 = .ok (.aload_n 0, 1) := by decide +kernel
theorem dX3_init_1 : decode cX3_init 1 = .ok (.invokespecial 3, 3) := by decide +kernel
theorem dX3_init_4 : decode cX3_init 4 = .ok (.aload_n 0, 1) := by decide +kernel
theorem dX3_init_5 : decode cX3_init 5 = .ok (.iconst 2, 1) := by decide +kernel
theorem dX3_init_6 : decode cX3_init 6 = .ok (.putfield 9, 3) := by decide +kernel
theorem dX3_init_9 : decode cX3_init 9 = .ok (.aload_n 0, 1) := by decide +kernel
theorem dX3_init_10 : decode cX3_init 10 = .ok (.iconst 4, 1) := by decide +kernel
theorem dX3_init_11 : decode cX3_init 11 = .ok (.newarray .int, 2) := by decide +kernel
theorem dX3_init_13 : decode cX3_init 13 = .ok (.putfield 15, 3) := by decide +kernel
theorem dX3_init_16 : decode cX3_init 16 = .ok (.aload_n 0, 1) := by decide +kernel
theorem dX3_init_17 : decode cX3_init 17 = .ok (.bipush 16, 2) := by decide +kernel
theorem dX3_init_19 : decode cX3_init 19 = .ok (.newarray .int, 2) := by decide +kernel
theorem dX3_init_21 : decode cX3_init 21 = .ok (.putfield 19, 3) := by decide +kernel
theorem dX3_init_24 : decode cX3_init 24 = .ok (.aload_n 0, 1) := by decide +kernel
theorem dX3_init_25 : decode cX3_init 25 = .ok (.bipush 16, 2) := by decide +kernel
theorem dX3_init_27 : decode cX3_init 27 = .ok (.newarray .boolean, 2) := by decide +kernel
theorem dX3_init_29 : decode cX3_init 29 = .ok (.putfield 22, 3) := by decide +kernel
theorem dX3_init_32 : decode cX3_init 32 = .ok (.aload_n 0, 1) := by decide +kernel
theorem dX3_init_33 : decode cX3_init 33 = .ok (.bipush 14, 2) := by decide +kernel
theorem dX3_init_35 : decode cX3_init 35 = .ok (.newarray .int, 2) := by decide +kernel
theorem dX3_init_37 : decode cX3_init 37 = .ok (.putfield 26, 3) := by decide +kernel
theorem dX3_init_40 : decode cX3_init 40 = .ok (.return_, 1) := by decide +kernel
theorem dX4_init_0 : decode cX4_init 0 = .ok (.aload_n 0, 1) := by decide +kernel
theorem dX4_init_1 : decode cX4_init 1 = .ok (.invokespecial 3, 3) := by decide +kernel
theorem dX4_init_4 : decode cX4_init 4 = .ok (.aload_n 0, 1) := by decide +kernel
theorem dX4_init_5 : decode cX4_init 5 = .ok (.bipush 14, 2) := by decide +kernel
theorem dX4_init_7 : decode cX4_init 7 = .ok (.newarray .int, 2) := by decide +kernel
theorem dX4_init_9 : decode cX4_init 9 = .ok (.putfield 9, 3) := by decide +kernel
theorem dX4_init_12 : decode cX4_init 12 = .ok (.aload_n 0, 1) := by decide +kernel
theorem dX4_init_13 : decode cX4_init 13 = .ok (.bipush 14, 2) := by decide +kernel
theorem dX4_init_15 : decode cX4_init 15 = .ok (.newarray .int, 2) := by decide +kernel
theorem dX4_init_17 : decode cX4_init 17 = .ok (.putfield 15, 3) := by decide +kernel
theorem dX4_init_20 : decode cX4_init 20 = .ok (.aload_n 0, 1) := by decide +kernel
theorem dX4_init_21 : decode cX4_init 21 = .ok (.sipush 196, 3) := by decide +kernel
theorem dX4_init_24 : decode cX4_init 24 = .ok (.newarray .int, 2) := by decide +kernel
theorem dX4_init_26 : decode cX4_init 26 = .ok (.putfield 18, 3) := by decide +kernel
theorem dX4_init_29 : decode cX4_init 29 = .ok (.return_, 1) := by decide +kernel
theorem dX5_init_0 : decode cX5_init 0 = .ok (.aload_n 0, 1) := by decide +kernel
theorem dX5_init_1 : decode cX5_init 1 = .ok (.invokespecial 3, 3) := by decide +kernel
theorem dX5_init_4 : decode cX5_init 4 = .ok (.aload_n 0, 1) := by decide +kernel
theorem dX5_init_5 : decode cX5_init 5 = .ok (.bipush 14, 2) := by decide +kernel
theorem dX5_init_7 : decode cX5_init 7 = .ok (.newarray .int, 2) := by decide +kernel
theorem dX5_init_9 : decode cX5_init 9 = .ok (.putfield 9, 3) := by decide +kernel
theorem dX5_init_12 : decode cX5_init 12 = .ok (.aload_n 0, 1) := by decide +kernel
theorem dX5_init_13 : decode cX5_init 13 = .ok (.bipush 56, 2) := by decide +kernel
theorem dX5_init_15 : decode cX5_init 15 = .ok (.newarray .int, 2) := by decide +kernel
theorem dX5_init_17 : decode cX5_init 17 = .ok (.putfield 15, 3) := by decide +kernel
theorem dX5_init_20 : decode cX5_init 20 = .ok (.aload_n 0, 1) := by decide +kernel
theorem dX5_init_21 : decode cX5_init 21 = .ok (.bipush 14, 2) := by decide +kernel
theorem dX5_init_23 : decode cX5_init 23 = .ok (.newarray .int, 2) := by decide +kernel
theorem dX5_init_25 : decode cX5_init 25 = .ok (.putfield 18, 3) := by decide +kernel
theorem dX5_init_28 : decode cX5_init 28 = .ok (.aload_n 0, 1) := by decide +kernel
theorem dX5_init_29 : decode cX5_init 29 = .ok (.bipush 14, 2) := by decide +kernel
theorem dX5_init_31 : decode cX5_init 31 = .ok (.newarray .int, 2) := by decide +kernel
theorem dX5_init_33 : decode cX5_init 33 = .ok (.putfield 21, 3) := by decide +kernel
theorem dX5_init_36 : decode cX5_init 36 = .ok (.aload_n 0, 1) := by decide +kernel
theorem dX5_init_37 : decode cX5_init 37 = .ok (.bipush 14, 2) := by decide +kernel
theorem dX5_init_39 : decode cX5_init 39 = .ok (.newarray .int, 2) := by decide +kernel
theorem dX5_init_41 : decode cX5_init 41 = .ok (.putfield 24, 3) := by decide +kernel
theorem dX5_init_44 : decode cX5_init 44 = .ok (.aload_n 0, 1) := by decide +kernel
theorem dX5_init_45 : decode cX5_init 45 = .ok (.sipush 196, 3) := by decide +kernel
theorem dX5_init_48 : decode cX5_init 48 = .ok (.newarray .int, 2) := by decide +kernel
theorem dX5_init_50 : decode cX5_init 50 = .ok (.putfield 27, 3) := by decide +kernel
theorem dX5_init_53 : decode cX5_init 53 = .ok (.aload_n 0, 1) := by decide +kernel
theorem dX5_init_54 : decode cX5_init 54 = .ok (.bipush 14, 2) := by decide +kernel
theorem dX5_init_56 : decode cX5_init 56 = .ok (.newarray .int, 2) := by decide +kernel
theorem dX5_init_58 : decode cX5_init 58 = .ok (.putfield 30, 3) := by decide +kernel
theorem dX5_init_61 : decode cX5_init 61 = .ok (.aload_n 0, 1) := by decide +kernel
theorem dX5_init_62 : decode cX5_init 62 = .ok (.bipush 14, 2) := by decide +kernel
theorem dX5_init_64 : decode cX5_init 64 = .ok (.newarray .int, 2) := by decide +kernel
theorem dX5_init_66 : decode cX5_init 66 = .ok (.putfield 33, 3) := by decide +kernel
theorem dX5_init_69 : decode cX5_init 69 = .ok (.aload_n 0, 1) := by decide +kernel
theorem dX5_init_70 : decode cX5_init 70 = .ok (.bipush 14, 2) := by decide +kernel
theorem dX5_init_72 : decode cX5_init 72 = .ok (.newarray .int, 2) := by decide +kernel
theorem dX5_init_74 : decode cX5_init 74 = .ok (.putfield 36, 3) := by decide +kernel
theorem dX5_init_77 : decode cX5_init 77 = .ok (.aload_n 0, 1) := by decide +kernel
theorem dX5_init_78 : decode cX5_init 78 = .ok (.new 39, 3) := by decide +kernel
theorem dX5_init_81 : decode cX5_init 81 = .ok (.dup, 1) := by decide +kernel
theorem dX5_init_82 : decode cX5_init 82 = .ok (.invokespecial 41, 3) := by decide +kernel
theorem dX5_init_85 : decode cX5_init 85 = .ok (.putfield 42, 3) := by decide +kernel
theorem dX5_init_88 : decode cX5_init 88 = .ok (.return_, 1) := by decide +kernel
theorem dX7_init_0 : decode cX7_init 0 = .ok (.aload_n 0, 1) := by decide +kernel
theorem dX7_init_1 : decode cX7_init 1 = .ok (.invokespecial 3, 3) := by decide +kernel
theorem dX7_init_4 : decode cX7_init 4 = .ok (.aload_n 0, 1) := by decide +kernel
theorem dX7_init_5 : decode cX7_init 5 = .ok (.bipush 14, 2) := by decide +kernel
theorem dX7_init_7 : decode cX7_init 7 = .ok (.newarray .int, 2) := by decide +kernel
theorem dX7_init_9 : decode cX7_init 9 = .ok (.putfield 9, 3) := by decide +kernel
theorem dX7_init_12 : decode cX7_init 12 = .ok (.aload_n 0, 1) := by decide +kernel
theorem dX7_init_13 : decode cX7_init 13 = .ok (.bipush 56, 2) := by decide +kernel
theorem dX7_init_15 : decode cX7_init 15 = .ok (.newarray .int, 2) := by decide +kernel
theorem dX7_init_17 : decode cX7_init 17 = .ok (.putfield 15, 3) := by decide +kernel
theorem dX7_init_20 : decode cX7_init 20 = .ok (.aload_n 0, 1) := by decide +kernel
theorem dX7_init_21 : decode cX7_init 21 = .ok (.bipush 14, 2) := by decide +kernel
theorem dX7_init_23 : decode cX7_init 23 = .ok (.newarray .int, 2) := by decide +kernel
theorem dX7_init_25 : decode cX7_init 25 = .ok (.putfield 18, 3) := by decide +kernel
theorem dX7_init_28 : decode cX7_init 28 = .ok (.aload_n 0, 1) := by decide +kernel
theorem dX7_init_29 : decode cX7_init 29 = .ok (.bipush 14, 2) := by decide +kernel
theorem dX7_init_31 : decode cX7_init 31 = .ok (.newarray .int, 2) := by decide +kernel
theorem dX7_init_33 : decode cX7_init 33 = .ok (.putfield 21, 3) := by decide +kernel
theorem dX7_init_36 : decode cX7_init 36 = .ok (.aload_n 0, 1) := by decide +kernel
theorem dX7_init_37 : decode cX7_init 37 = .ok (.bipush 56, 2) := by decide +kernel
theorem dX7_init_39 : decode cX7_init 39 = .ok (.newarray .int, 2) := by decide +kernel
theorem dX7_init_41 : decode cX7_init 41 = .ok (.putfield 24, 3) := by decide +kernel
theorem dX7_init_44 : decode cX7_init 44 = .ok (.aload_n 0, 1) := by decide +kernel
theorem dX7_init_45 : decode cX7_init 45 = .ok (.sipush 3584, 3) := by decide +kernel
theorem dX7_init_48 : decode cX7_init 48 = .ok (.newarray .int, 2) := by decide +kernel
theorem dX7_init_50 : decode cX7_init 50 = .ok (.putfield 27, 3) := by decide +kernel
theorem dX7_init_53 : decode cX7_init 53 = .ok (.aload_n 0, 1) := by decide +kernel
theorem dX7_init_54 : decode cX7_init 54 = .ok (.sipush 3584, 3) := by decide +kernel
theorem dX7_init_57 : decode cX7_init 57 = .ok (.newarray .int, 2) := by decide +kernel
theorem dX7_init_59 : decode cX7_init 59 = .ok (.putfield 30, 3) := by decide +kernel
theorem dX7_init_62 : decode cX7_init 62 = .ok (.aload_n 0, 1) := by decide +kernel
theorem dX7_init_63 : decode cX7_init 63 = .ok (.aload_n 1, 1) := by decide +kernel
theorem dX7_init_64 : decode cX7_init 64 = .ok (.putfield 33, 3) := by decide +kernel
theorem dX7_init_67 : decode cX7_init 67 = .ok (.aload_n 0, 1) := by decide +kernel
theorem dX7_init_68 : decode cX7_init 68 = .ok (.aload_n 2, 1) := by decide +kernel
theorem dX7_init_69 : decode cX7_init 69 = .ok (.putfield 37, 3) := by decide +kernel
theorem dX7_init_72 : decode cX7_init 72 = .ok (.aload_n 0, 1) := by decide +kernel
theorem dX7_init_73 : decode cX7_init 73 = .ok (.aload_n 3, 1) := by decide +kernel
theorem dX7_init_74 : decode cX7_init 74 = .ok (.putfield 41, 3) := by decide +kernel
theorem dX7_init_77 : decode cX7_init 77 = .ok (.return_, 1) := by decide +kernel
theorem dX8_init_0 : decode cX8_init 0 = .ok (.aload_n 0, 1) := by decide +kernel
theorem dX8_init_1 : decode cX8_init 1 = .ok (.invokespecial 3, 3) := by decide +kernel
theorem dX8_init_4 : decode cX8_init 4 = .ok (.aload_n 0, 1) := by decide +kernel
theorem dX8_init_5 : decode cX8_init 5 = .ok (.new 9, 3) := by decide +kernel
theorem dX8_init_8 : decode cX8_init 8 = .ok (.dup, 1) := by decide +kernel
theorem dX8_init_9 : decode cX8_init 9 = .ok (.invokespecial 11, 3) := by decide +kernel
theorem dX8_init_12 : decode cX8_init 12 = .ok (.putfield 12, 3) := by decide +kernel
theorem dX8_init_15 : decode cX8_init 15 = .ok (.aload_n 0, 1) := by decide +kernel
theorem dX8_init_16 : decode cX8_init 16 = .ok (.new 18, 3) := by decide +kernel
theorem dX8_init_19 : decode cX8_init 19 = .ok (.dup, 1) := by decide +kernel
theorem dX8_init_20 : decode cX8_init 20 = .ok (.invokespecial 20, 3) := by decide +kernel
theorem dX8_init_23 : decode cX8_init 23 = .ok (.putfield 21, 3) := by decide +kernel
theorem dX8_init_26 : decode cX8_init 26 = .ok (.aload_n 0, 1) := by decide +kernel
theorem dX8_init_27 : decode cX8_init 27 = .ok (.new 25, 3) := by decide +kernel
theorem dX8_init_30 : decode cX8_init 30 = .ok (.dup, 1) := by decide +kernel
theorem dX8_init_31 : decode cX8_init 31 = .ok (.invokespecial 27, 3) := by decide +kernel
theorem dX8_init_34 : decode cX8_init 34 = .ok (.putfield 28, 3) := by decide +kernel
theorem dX8_init_37 : decode cX8_init 37 = .ok (.aload_n 0, 1) := by decide +kernel
theorem dX8_init_38 : decode cX8_init 38 = .ok (.new 32, 3) := by decide +kernel
theorem dX8_init_41 : decode cX8_init 41 = .ok (.dup, 1) := by decide +kernel
theorem dX8_init_42 : decode cX8_init 42 = .ok (.invokespecial 34, 3) := by decide +kernel
theorem dX8_init_45 : decode cX8_init 45 = .ok (.putfield 35, 3) := by decide +kernel
theorem dX8_init_48 : decode cX8_init 48 = .ok (.aload_n 0, 1) := by decide +kernel
theorem dX8_init_49 : decode cX8_init 49 = .ok (.new 39, 3) := by decide +kernel
theorem dX8_init_52 : decode cX8_init 52 = .ok (.dup, 1) := by decide +kernel
theorem dX8_init_53 : decode cX8_init 53 = .ok (.invokespecial 41, 3) := by decide +kernel
theorem dX8_init_56 : decode cX8_init 56 = .ok (.putfield 42, 3) := by decide +kernel
theorem dX8_init_59 : decode cX8_init 59 = .ok (.aload_n 0, 1) := by decide +kernel
theorem dX8_init_60 : decode cX8_init 60 = .ok (.new 46, 3) := by decide +kernel
theorem dX8_init_63 : decode cX8_init 63 = .ok (.dup, 1) := by decide +kernel
theorem dX8_init_64 : decode cX8_init 64 = .ok (.invokespecial 48, 3) := by decide +kernel
theorem dX8_init_67 : decode cX8_init 67 = .ok (.putfield 49, 3) := by decide +kernel
theorem dX8_init_70 : decode cX8_init 70 = .ok (.return_, 1) := by decide +kernel
theorem dX9_init_0 : decode cX9_init 0 = .ok (.aload_n 0, 1) := by decide +kernel
theorem dX9_init_1 : decode cX9_init 1 = .ok (.invokespecial 1, 3) := by decide +kernel
theorem dX9_init_4 : decode cX9_init 4 = .ok (.aload_n 0, 1) := by decide +kernel
theorem dX9_init_5 : decode cX9_init 5 = .ok (.iconst 0, 1) := by decide +kernel
theorem dX9_init_6 : decode cX9_init 6 = .ok (.putfield 7, 3) := by decide +kernel
theorem dX9_init_9 : decode cX9_init 9 = .ok (.aload_n 0, 1) := by decide +kernel
theorem dX9_init_10 : decode cX9_init 10 = .ok (.bipush 14, 2) := by decide +kernel
theorem dX9_init_12 : decode cX9_init 12 = .ok (.newarray .int, 2) := by decide +kernel
theorem dX9_init_14 : decode cX9_init 14 = .ok (.putfield 13, 3) := by decide +kernel
theorem dX9_init_17 : decode cX9_init 17 = .ok (.aload_n 0, 1) := by decide +kernel
theorem dX9_init_18 : decode cX9_init 18 = .ok (.bipush 14, 2) := by decide +kernel
theorem dX9_init_20 : decode cX9_init 20 = .ok (.newarray .int, 2) := by decide +kernel
theorem dX9_init_22 : decode cX9_init 22 = .ok (.putfield 17, 3) := by decide +kernel
theorem dX9_init_25 : decode cX9_init 25 = .ok (.aload_n 0, 1) := by decide +kernel
theorem dX9_init_26 : decode cX9_init 26 = .ok (.sipush 196, 3) := by decide +kernel
theorem dX9_init_29 : decode cX9_init 29 = .ok (.newarray .int, 2) := by decide +kernel
theorem dX9_init_31 : decode cX9_init 31 = .ok (.putfield 20, 3) := by decide +kernel
theorem dX9_init_34 : decode cX9_init 34 = .ok (.aload_n 0, 1) := by decide +kernel
theorem dX9_init_35 : decode cX9_init 35 = .ok (.iconst 0, 1) := by decide +kernel
theorem dX9_init_36 : decode cX9_init 36 = .ok (.putfield 23, 3) := by decide +kernel
theorem dX9_init_39 : decode cX9_init 39 = .ok (.aload_n 0, 1) := by decide +kernel
theorem dX9_init_40 : decode cX9_init 40 = .ok (.bipush 14, 2) := by decide +kernel
theorem dX9_init_42 : decode cX9_init 42 = .ok (.newarray .int, 2) := by decide +kernel
theorem dX9_init_44 : decode cX9_init 44 = .ok (.putfield 26, 3) := by decide +kernel
theorem dX9_init_47 : decode cX9_init 47 = .ok (.aload_n 0, 1) := by decide +kernel
theorem dX9_init_48 : decode cX9_init 48 = .ok (.iconst 0, 1) := by decide +kernel
theorem dX9_init_49 : decode cX9_init 49 = .ok (.putfield 29, 3) := by decide +kernel
theorem dX9_init_52 : decode cX9_init 52 = .ok (.aload_n 0, 1) := by decide +kernel
theorem dX9_init_53 : decode cX9_init 53 = .ok (.bipush 14, 2) := by decide +kernel
theorem dX9_init_55 : decode cX9_init 55 = .ok (.newarray .int, 2) := by decide +kernel
theorem dX9_init_57 : decode cX9_init 57 = .ok (.putfield 32, 3) := by decide +kernel
theorem dX9_init_60 : decode cX9_init 60 = .ok (.aload_n 0, 1) := by decide +kernel
theorem dX9_init_61 : decode cX9_init 61 = .ok (.bipush 14, 2) := by decide +kernel
theorem dX9_init_63 : decode cX9_init 63 = .ok (.newarray .int, 2) := by decide +kernel
theorem dX9_init_65 : decode cX9_init 65 = .ok (.putfield 35, 3) := by decide +kernel
theorem dX9_init_68 : decode cX9_init 68 = .ok (.aload_n 0, 1) := by decide +kernel
theorem dX9_init_69 : decode cX9_init 69 = .ok (.sipush 16384, 3) := by decide +kernel
theorem dX9_init_72 : decode cX9_init 72 = .ok (.newarray .int, 2) := by decide +kernel
theorem dX9_init_74 : decode cX9_init 74 = .ok (.putfield 38, 3) := by decide +kernel
theorem dX9_init_77 : decode cX9_init 77 = .ok (.aload_n 0, 1) := by decide +kernel
theorem dX9_init_78 : decode cX9_init 78 = .ok (.iconst 2, 1) := by decide +kernel
theorem dX9_init_79 : decode cX9_init 79 = .ok (.putfield 41, 3) := by decide +kernel
theorem dX9_init_82 : decode cX9_init 82 = .ok (.aload_n 0, 1) := by decide +kernel
theorem dX9_init_83 : decode cX9_init 83 = .ok (.iconst 4, 1) := by decide +kernel
theorem dX9_init_84 : decode cX9_init 84 = .ok (.newarray .int, 2) := by decide +kernel
theorem dX9_init_86 : decode cX9_init 86 = .ok (.putfield 44, 3) := by decide +kernel
theorem dX9_init_89 : decode cX9_init 89 = .ok (.aload_n 0, 1) := by decide +kernel
theorem dX9_init_90 : decode cX9_init 90 = .ok (.bipush 16, 2) := by decide +kernel
theorem dX9_init_92 : decode cX9_init 92 = .ok (.newarray .int, 2) := by decide +kernel
theorem dX9_init_94 : decode cX9_init 94 = .ok (.putfield 47, 3) := by decide +kernel
theorem dX9_init_97 : decode cX9_init 97 = .ok (.aload_n 0, 1) := by decide +kernel
theorem dX9_init_98 : decode cX9_init 98 = .ok (.bipush 14, 2) := by decide +kernel
theorem dX9_init_100 : decode cX9_init 100 = .ok (.newarray .int, 2) := by decide +kernel
theorem dX9_init_102 : decode cX9_init 102 = .ok (.putfield 50, 3) := by decide +kernel
theorem dX9_init_105 : decode cX9_init 105 = .ok (.aload_n 0, 1) := by decide +kernel
theorem dX9_init_106 : decode cX9_init 106 = .ok (.bipush 16, 2) := by decide +kernel
theorem dX9_init_108 : decode cX9_init 108 = .ok (.newarray .boolean, 2) := by decide +kernel
theorem dX9_init_110 : decode cX9_init 110 = .ok (.putfield 53, 3) := by decide +kernel
theorem dX9_init_113 : decode cX9_init 113 = .ok (.aload_n 0, 1) := by decide +kernel
theorem dX9_init_114 : decode cX9_init 114 = .ok (.bipush 14, 2) := by decide +kernel
theorem dX9_init_116 : decode cX9_init 116 = .ok (.newarray .int, 2) := by decide +kernel
theorem dX9_init_118 : decode cX9_init 118 = .ok (.putfield 57, 3) := by decide +kernel
theorem dX9_init_121 : decode cX9_init 121 = .ok (.aload_n 0, 1) := by decide +kernel
theorem dX9_init_122 : decode cX9_init 122 = .ok (.bipush 14, 2) := by decide +kernel
theorem dX9_init_124 : decode cX9_init 124 = .ok (.newarray .int, 2) := by decide +kernel
theorem dX9_init_126 : decode cX9_init 126 = .ok (.putfield 60, 3) := by decide +kernel
theorem dX9_init_129 : decode cX9_init 129 = .ok (.aload_n 0, 1) := by decide +kernel
theorem dX9_init_130 : decode cX9_init 130 = .ok (.sipush 14336, 3) := by decide +kernel
theorem dX9_init_133 : decode cX9_init 133 = .ok (.newarray .long, 2) := by decide +kernel
theorem dX9_init_135 : decode cX9_init 135 = .ok (.putfield 63, 3) := by decide +kernel
theorem dX9_init_138 : decode cX9_init 138 = .ok (.aload_n 0, 1) := by decide +kernel
theorem dX9_init_139 : decode cX9_init 139 = .ok (.sipush 14336, 3) := by decide +kernel
theorem dX9_init_142 : decode cX9_init 142 = .ok (.newarray .long, 2) := by decide +kernel
theorem dX9_init_144 : decode cX9_init 144 = .ok (.putfield 67, 3) := by decide +kernel
theorem dX9_init_147 : decode cX9_init 147 = .ok (.aload_n 0, 1) := by decide +kernel
theorem dX9_init_148 : decode cX9_init 148 = .ok (.sipush 14336, 3) := by decide +kernel
theorem dX9_init_151 : decode cX9_init 151 = .ok (.newarray .long, 2) := by decide +kernel
theorem dX9_init_153 : decode cX9_init 153 = .ok (.putfield 70, 3) := by decide +kernel
theorem dX9_init_156 : decode cX9_init 156 = .ok (.aload_n 0, 1) := by decide +kernel
theorem dX9_init_157 : decode cX9_init 157 = .ok (.lconst 0, 1) := by decide +kernel
theorem dX9_init_158 : decode cX9_init 158 = .ok (.putfield 73, 3) := by decide +kernel
theorem dX9_init_161 : decode cX9_init 161 = .ok (.aload_n 0, 1) := by decide +kernel
theorem dX9_init_162 : decode cX9_init 162 = .ok (.lconst 0, 1) := by decide +kernel
theorem dX9_init_163 : decode cX9_init 163 = .ok (.putfield 77, 3) := by decide +kernel
theorem dX9_init_166 : decode cX9_init 166 = .ok (.aload_n 0, 1) := by decide +kernel
theorem dX9_init_167 : decode cX9_init 167 = .ok (.lconst 0, 1) := by decide +kernel
theorem dX9_init_168 : decode cX9_init 168 = .ok (.putfield 80, 3) := by decide +kernel
theorem dX9_init_171 : decode cX9_init 171 = .ok (.return_, 1) := by decide +kernel
def iB_X0 (cA : Nat → ClassId) (q_t : Nat) : Option Value → va_W → Prop := fun res w => ∃ (q7 : Nat) (q15 : Nat), res = none ∧ w = [oB q_t 0 [.ref q7, .ref q15, .int 0], aI cA q7 14 (fun _ => 0), aI cA q15 14 (fun _ => 0)]
set_option maxRecDepth 100000 in
set_option maxHeartbeats 1000000 in
theorem c_X0_init (l : Launch) (cA : Nat → ClassId) (q_t : Nat) : MT l cA yX0_init cX0_init 1 none ({ frames := 1, cells := 2, slots := 28, locals := 20 } : Room) [.ref q_t] [oB q_t 0 [.null, .null, .int 0]] (iB_X0 cA q_t) := by
  refine MT.of (by decide) (Nat.le_of_ble_eq_true rfl) ?_
  intro X hXl C F hnm hrc hrs
  subst hXl
  have C : Cx X cX0_init RX0 none cA 1 20 1 := C
  show Go X 1 0 0 0 [oB q_t 0 [.null, .null, .int 0]] [(0, .ref q_t)] []
  refine g_aload_n C 0 0 dX0_init_0 rfl rfl ?_
  refine g_obj C 1 dX0_init_1 kw_456 kw_457 kw_458 (by decide) (Nat.le_of_ble_eq_true rfl) ?_
  refine g_aload_n C 4 0 dX0_init_4 rfl rfl ?_
  refine g_bipush C 5 (14 : Int32) dX0_init_5 (by decide) ?_
  refine g_newI C 7 14 1 14 (fun z => [oB q_t 0 [.null, .null, .int 0], aI cA z 14 (fun _ => 0)]) dX0_init_7 kw_459 (by decide) (by decide) (by decide) (by rw [hrc]; exact Nat.le_of_ble_eq_true rfl) (by rw [hrs]; exact Nat.le_of_ble_eq_true rfl) rfl rfl (fun _ => rfl) (fun q7 => ?_)
  refine g_putF C 9 0 0 (ws' := [oB q_t 0 [.ref q7, .null, .int 0], aI cA q7 14 (fun _ => 0)]) tyX0 dX0_init_9 inX0 tyX0_ok nmX0 rfl rfl (by decide) kw_1 rfl hnm rfl rfl rfl (Nat.le_of_ble_eq_true rfl) rfl ?_
  refine g_aload_n C 12 0 dX0_init_12 rfl rfl ?_
  refine g_bipush C 13 (14 : Int32) dX0_init_13 (by decide) ?_
  refine g_newI C 15 14 2 28 (fun z => [oB q_t 0 [.ref q7, .null, .int 0], aI cA q7 14 (fun _ => 0), aI cA z 14 (fun _ => 0)]) dX0_init_15 kw_459 (by decide) (by decide) (by decide) (by rw [hrc]; exact Nat.le_of_ble_eq_true rfl) (by rw [hrs]; exact Nat.le_of_ble_eq_true rfl) rfl rfl (fun _ => rfl) (fun q15 => ?_)
  refine g_putF C 17 0 1 (ws' := [oB q_t 0 [.ref q7, .ref q15, .int 0], aI cA q7 14 (fun _ => 0), aI cA q15 14 (fun _ => 0)]) tyX0 dX0_init_17 inX0 tyX0_ok nmX0 rfl rfl (by decide) kw_2 rfl hnm rfl rfl rfl (Nat.le_of_ble_eq_true rfl) rfl ?_
  exact g_vret C 20 dX0_init_20 F ⟨q7, q15, rfl, rfl⟩
def iB_X1 (cA : Nat → ClassId) (q_t : Nat) : Option Value → va_W → Prop := fun res w => ∃ (q7 : Nat), res = none ∧ w = [oB q_t 1 [.ref q7, .int 0, .int 0], aI cA q7 14 (fun _ => 0)]
set_option maxRecDepth 100000 in
set_option maxHeartbeats 1000000 in
theorem c_X1_init (l : Launch) (cA : Nat → ClassId) (q_t : Nat) : MT l cA yX1_init cX1_init 1 none ({ frames := 1, cells := 1, slots := 14, locals := 20 } : Room) [.ref q_t] [oB q_t 1 [.null, .int 0, .int 0]] (iB_X1 cA q_t) := by
  refine MT.of (by decide) (Nat.le_of_ble_eq_true rfl) ?_
  intro X hXl C F hnm hrc hrs
  subst hXl
  have C : Cx X cX1_init RX1 none cA 1 20 1 := C
  show Go X 1 0 0 0 [oB q_t 1 [.null, .int 0, .int 0]] [(0, .ref q_t)] []
  refine g_aload_n C 0 0 dX1_init_0 rfl rfl ?_
  refine g_obj C 1 dX1_init_1 kw_460 kw_457 kw_458 (by decide) (Nat.le_of_ble_eq_true rfl) ?_
  refine g_aload_n C 4 0 dX1_init_4 rfl rfl ?_
  refine g_bipush C 5 (14 : Int32) dX1_init_5 (by decide) ?_
  refine g_newI C 7 14 1 14 (fun z => [oB q_t 1 [.null, .int 0, .int 0], aI cA z 14 (fun _ => 0)]) dX1_init_7 kw_459 (by decide) (by decide) (by decide) (by rw [hrc]; exact Nat.le_of_ble_eq_true rfl) (by rw [hrs]; exact Nat.le_of_ble_eq_true rfl) rfl rfl (fun _ => rfl) (fun q7 => ?_)
  refine g_putF C 9 0 0 (ws' := [oB q_t 1 [.ref q7, .int 0, .int 0], aI cA q7 14 (fun _ => 0)]) tyX1 dX1_init_9 inX1 tyX1_ok nmX1 rfl rfl (by decide) kw_8 rfl hnm rfl rfl rfl (Nat.le_of_ble_eq_true rfl) rfl ?_
  exact g_vret C 12 dX1_init_12 F ⟨q7, rfl, rfl⟩
def iB_X2 (cA : Nat → ClassId) (q_t : Nat) : Option Value → va_W → Prop := fun res w => ∃ (q7 : Nat), res = none ∧ w = [oB q_t 2 [.ref q7, .int 0, .int 0], aI cA q7 14 (fun _ => 0)]
set_option maxRecDepth 100000 in
set_option maxHeartbeats 1000000 in
theorem c_X2_init (l : Launch) (cA : Nat → ClassId) (q_t : Nat) : MT l cA yX2_init cX2_init 1 none ({ frames := 1, cells := 1, slots := 14, locals := 20 } : Room) [.ref q_t] [oB q_t 2 [.null, .int 0, .int 0]] (iB_X2 cA q_t) := by
  refine MT.of (by decide) (Nat.le_of_ble_eq_true rfl) ?_
  intro X hXl C F hnm hrc hrs
  subst hXl
  have C : Cx X cX2_init RX2 none cA 1 20 1 := C
  show Go X 1 0 0 0 [oB q_t 2 [.null, .int 0, .int 0]] [(0, .ref q_t)] []
  refine g_aload_n C 0 0 dX2_init_0 rfl rfl ?_
  refine g_obj C 1 dX2_init_1 kw_461 kw_457 kw_458 (by decide) (Nat.le_of_ble_eq_true rfl) ?_
  refine g_aload_n C 4 0 dX2_init_4 rfl rfl ?_
  refine g_bipush C 5 (14 : Int32) dX2_init_5 (by decide) ?_
  refine g_newI C 7 14 1 14 (fun z => [oB q_t 2 [.null, .int 0, .int 0], aI cA z 14 (fun _ => 0)]) dX2_init_7 kw_459 (by decide) (by decide) (by decide) (by rw [hrc]; exact Nat.le_of_ble_eq_true rfl) (by rw [hrs]; exact Nat.le_of_ble_eq_true rfl) rfl rfl (fun _ => rfl) (fun q7 => ?_)
  refine g_putF C 9 0 0 (ws' := [oB q_t 2 [.ref q7, .int 0, .int 0], aI cA q7 14 (fun _ => 0)]) tyX2 dX2_init_9 inX2 tyX2_ok nmX2 rfl rfl (by decide) kw_4 rfl hnm rfl rfl rfl (Nat.le_of_ble_eq_true rfl) rfl ?_
  exact g_vret C 12 dX2_init_12 F ⟨q7, rfl, rfl⟩
def iB_X3 (cA : Nat → ClassId) (q_t : Nat) : Option Value → va_W → Prop := fun res w => ∃ (q11 : Nat) (q19 : Nat) (q27 : Nat) (q35 : Nat), res = none ∧ w = [oB q_t 3 [.int (2 : Int32), .ref q11, .ref q19, .ref q27, .ref q35], aI cA q11 4 (fun _ => 0), aI cA q19 16 (fun _ => 0), aZ cA q27 16 (fun _ => 0), aI cA q35 14 (fun _ => 0)]
set_option maxRecDepth 100000 in
set_option maxHeartbeats 1000000 in
theorem c_X3_init (l : Launch) (cA : Nat → ClassId) (q_t : Nat) : MT l cA yX3_init cX3_init 1 none ({ frames := 1, cells := 4, slots := 50, locals := 20 } : Room) [.ref q_t] [oB q_t 3 [.int 0, .null, .null, .null, .null]] (iB_X3 cA q_t) := by
  refine MT.of (by decide) (Nat.le_of_ble_eq_true rfl) ?_
  intro X hXl C F hnm hrc hrs
  subst hXl
  have C : Cx X cX3_init RX3 none cA 1 20 1 := C
  show Go X 1 0 0 0 [oB q_t 3 [.int 0, .null, .null, .null, .null]] [(0, .ref q_t)] []
  refine g_aload_n C 0 0 dX3_init_0 rfl rfl ?_
  refine g_obj C 1 dX3_init_1 kw_462 kw_457 kw_458 (by decide) (Nat.le_of_ble_eq_true rfl) ?_
  refine g_aload_n C 4 0 dX3_init_4 rfl rfl ?_
  refine g_iconst C 5 (2 : Int32) dX3_init_5 (by decide) ?_
  refine g_putV C 6 0 0 (ws' := [oB q_t 3 [.int (2 : Int32), .null, .null, .null, .null]]) tyX3 dX3_init_6 inX3 tyX3_ok nmX3 rfl rfl (by decide) kw_92 rfl rfl rfl (Nat.le_of_ble_eq_true rfl) rfl ?_
  refine g_aload_n C 9 0 dX3_init_9 rfl rfl ?_
  refine g_iconst C 10 (4 : Int32) dX3_init_10 (by decide) ?_
  refine g_newI C 11 4 1 4 (fun z => [oB q_t 3 [.int (2 : Int32), .null, .null, .null, .null], aI cA z 4 (fun _ => 0)]) dX3_init_11 kw_459 (by decide) (by decide) (by decide) (by rw [hrc]; exact Nat.le_of_ble_eq_true rfl) (by rw [hrs]; exact Nat.le_of_ble_eq_true rfl) rfl rfl (fun _ => rfl) (fun q11 => ?_)
  refine g_putF C 13 0 1 (ws' := [oB q_t 3 [.int (2 : Int32), .ref q11, .null, .null, .null], aI cA q11 4 (fun _ => 0)]) tyX3 dX3_init_13 inX3 tyX3_ok nmX3 rfl rfl (by decide) kw_93 rfl hnm rfl rfl rfl (Nat.le_of_ble_eq_true rfl) rfl ?_
  refine g_aload_n C 16 0 dX3_init_16 rfl rfl ?_
  refine g_bipush C 17 (16 : Int32) dX3_init_17 (by decide) ?_
  refine g_newI C 19 16 2 20 (fun z => [oB q_t 3 [.int (2 : Int32), .ref q11, .null, .null, .null], aI cA q11 4 (fun _ => 0), aI cA z 16 (fun _ => 0)]) dX3_init_19 kw_459 (by decide) (by decide) (by decide) (by rw [hrc]; exact Nat.le_of_ble_eq_true rfl) (by rw [hrs]; exact Nat.le_of_ble_eq_true rfl) rfl rfl (fun _ => rfl) (fun q19 => ?_)
  refine g_putF C 21 0 2 (ws' := [oB q_t 3 [.int (2 : Int32), .ref q11, .ref q19, .null, .null], aI cA q11 4 (fun _ => 0), aI cA q19 16 (fun _ => 0)]) tyX3 dX3_init_21 inX3 tyX3_ok nmX3 rfl rfl (by decide) kw_94 rfl hnm rfl rfl rfl (Nat.le_of_ble_eq_true rfl) rfl ?_
  refine g_aload_n C 24 0 dX3_init_24 rfl rfl ?_
  refine g_bipush C 25 (16 : Int32) dX3_init_25 (by decide) ?_
  refine g_newZ C 27 16 3 36 (fun z => [oB q_t 3 [.int (2 : Int32), .ref q11, .ref q19, .null, .null], aI cA q11 4 (fun _ => 0), aI cA q19 16 (fun _ => 0), aZ cA z 16 (fun _ => 0)]) dX3_init_27 kw_463 (by decide) (by decide) (by decide) (by rw [hrc]; exact Nat.le_of_ble_eq_true rfl) (by rw [hrs]; exact Nat.le_of_ble_eq_true rfl) rfl rfl (fun _ => rfl) (fun q27 => ?_)
  refine g_putF C 29 0 3 (ws' := [oB q_t 3 [.int (2 : Int32), .ref q11, .ref q19, .ref q27, .null], aI cA q11 4 (fun _ => 0), aI cA q19 16 (fun _ => 0), aZ cA q27 16 (fun _ => 0)]) tyX3 dX3_init_29 inX3 tyX3_ok nmX3 rfl rfl (by decide) kw_96 rfl hnm rfl rfl rfl (Nat.le_of_ble_eq_true rfl) rfl ?_
  refine g_aload_n C 32 0 dX3_init_32 rfl rfl ?_
  refine g_bipush C 33 (14 : Int32) dX3_init_33 (by decide) ?_
  refine g_newI C 35 14 4 50 (fun z => [oB q_t 3 [.int (2 : Int32), .ref q11, .ref q19, .ref q27, .null], aI cA q11 4 (fun _ => 0), aI cA q19 16 (fun _ => 0), aZ cA q27 16 (fun _ => 0), aI cA z 14 (fun _ => 0)]) dX3_init_35 kw_459 (by decide) (by decide) (by decide) (by rw [hrc]; exact Nat.le_of_ble_eq_true rfl) (by rw [hrs]; exact Nat.le_of_ble_eq_true rfl) rfl rfl (fun _ => rfl) (fun q35 => ?_)
  refine g_putF C 37 0 4 (ws' := [oB q_t 3 [.int (2 : Int32), .ref q11, .ref q19, .ref q27, .ref q35], aI cA q11 4 (fun _ => 0), aI cA q19 16 (fun _ => 0), aZ cA q27 16 (fun _ => 0), aI cA q35 14 (fun _ => 0)]) tyX3 dX3_init_37 inX3 tyX3_ok nmX3 rfl rfl (by decide) kw_95 rfl hnm rfl rfl rfl (Nat.le_of_ble_eq_true rfl) rfl ?_
  exact g_vret C 40 dX3_init_40 F ⟨q11, q19, q27, q35, rfl, rfl⟩
def iB_X4 (cA : Nat → ClassId) (q_t : Nat) : Option Value → va_W → Prop := fun res w => ∃ (q7 : Nat) (q15 : Nat) (q24 : Nat), res = none ∧ w = [oB q_t 4 [.ref q7, .ref q15, .ref q24, .int 0, .int 0], aI cA q7 14 (fun _ => 0), aI cA q15 14 (fun _ => 0), aI cA q24 196 (fun _ => 0)]
set_option maxRecDepth 100000 in
set_option maxHeartbeats 1000000 in
theorem c_X4_init (l : Launch) (cA : Nat → ClassId) (q_t : Nat) : MT l cA yX4_init cX4_init 1 none ({ frames := 1, cells := 3, slots := 224, locals := 20 } : Room) [.ref q_t] [oB q_t 4 [.null, .null, .null, .int 0, .int 0]] (iB_X4 cA q_t) := by
  refine MT.of (by decide) (Nat.le_of_ble_eq_true rfl) ?_
  intro X hXl C F hnm hrc hrs
  subst hXl
  have C : Cx X cX4_init RX4 none cA 1 20 1 := C
  show Go X 1 0 0 0 [oB q_t 4 [.null, .null, .null, .int 0, .int 0]] [(0, .ref q_t)] []
  refine g_aload_n C 0 0 dX4_init_0 rfl rfl ?_
  refine g_obj C 1 dX4_init_1 kw_464 kw_457 kw_458 (by decide) (Nat.le_of_ble_eq_true rfl) ?_
  refine g_aload_n C 4 0 dX4_init_4 rfl rfl ?_
  refine g_bipush C 5 (14 : Int32) dX4_init_5 (by decide) ?_
  refine g_newI C 7 14 1 14 (fun z => [oB q_t 4 [.null, .null, .null, .int 0, .int 0], aI cA z 14 (fun _ => 0)]) dX4_init_7 kw_459 (by decide) (by decide) (by decide) (by rw [hrc]; exact Nat.le_of_ble_eq_true rfl) (by rw [hrs]; exact Nat.le_of_ble_eq_true rfl) rfl rfl (fun _ => rfl) (fun q7 => ?_)
  refine g_putF C 9 0 0 (ws' := [oB q_t 4 [.ref q7, .null, .null, .int 0, .int 0], aI cA q7 14 (fun _ => 0)]) tyX4 dX4_init_9 inX4 tyX4_ok nmX4 rfl rfl (by decide) kw_97 rfl hnm rfl rfl rfl (Nat.le_of_ble_eq_true rfl) rfl ?_
  refine g_aload_n C 12 0 dX4_init_12 rfl rfl ?_
  refine g_bipush C 13 (14 : Int32) dX4_init_13 (by decide) ?_
  refine g_newI C 15 14 2 28 (fun z => [oB q_t 4 [.ref q7, .null, .null, .int 0, .int 0], aI cA q7 14 (fun _ => 0), aI cA z 14 (fun _ => 0)]) dX4_init_15 kw_459 (by decide) (by decide) (by decide) (by rw [hrc]; exact Nat.le_of_ble_eq_true rfl) (by rw [hrs]; exact Nat.le_of_ble_eq_true rfl) rfl rfl (fun _ => rfl) (fun q15 => ?_)
  refine g_putF C 17 0 1 (ws' := [oB q_t 4 [.ref q7, .ref q15, .null, .int 0, .int 0], aI cA q7 14 (fun _ => 0), aI cA q15 14 (fun _ => 0)]) tyX4 dX4_init_17 inX4 tyX4_ok nmX4 rfl rfl (by decide) kw_51 rfl hnm rfl rfl rfl (Nat.le_of_ble_eq_true rfl) rfl ?_
  refine g_aload_n C 20 0 dX4_init_20 rfl rfl ?_
  refine g_sipush C 21 (196 : Int32) dX4_init_21 (by decide) ?_
  refine g_newI C 24 196 3 224 (fun z => [oB q_t 4 [.ref q7, .ref q15, .null, .int 0, .int 0], aI cA q7 14 (fun _ => 0), aI cA q15 14 (fun _ => 0), aI cA z 196 (fun _ => 0)]) dX4_init_24 kw_459 (by decide) (by decide) (by decide) (by rw [hrc]; exact Nat.le_of_ble_eq_true rfl) (by rw [hrs]; exact Nat.le_of_ble_eq_true rfl) rfl rfl (fun _ => rfl) (fun q24 => ?_)
  refine g_putF C 26 0 2 (ws' := [oB q_t 4 [.ref q7, .ref q15, .ref q24, .int 0, .int 0], aI cA q7 14 (fun _ => 0), aI cA q15 14 (fun _ => 0), aI cA q24 196 (fun _ => 0)]) tyX4 dX4_init_26 inX4 tyX4_ok nmX4 rfl rfl (by decide) kw_98 rfl hnm rfl rfl rfl (Nat.le_of_ble_eq_true rfl) rfl ?_
  exact g_vret C 29 dX4_init_29 F ⟨q7, q15, q24, rfl, rfl⟩
def iB_X5 (cA : Nat → ClassId) (q_t : Nat) : Option Value → va_W → Prop := fun res w => ∃ (q7 : Nat) (q15 : Nat) (q23 : Nat) (q31 : Nat) (q39 : Nat) (q48 : Nat) (q56 : Nat) (q64 : Nat) (q72 : Nat) (q78 : Nat) (q78_q7 : Nat), res = none ∧ w = [oB q_t 5 [.ref q7, .ref q15, .ref q23, .ref q31, .ref q39, .ref q48, .ref q56, .int 0, .ref q64, .ref q72, .ref q78], aI cA q7 14 (fun _ => 0), aI cA q15 56 (fun _ => 0), aI cA q23 14 (fun _ => 0), aI cA q31 14 (fun _ => 0), aI cA q39 14 (fun _ => 0), aI cA q48 196 (fun _ => 0), aI cA q56 14 (fun _ => 0), aI cA q64 14 (fun _ => 0), aI cA q72 14 (fun _ => 0), oB q78 1 [.ref q78_q7, .int 0, .int 0], aI cA q78_q7 14 (fun _ => 0)]
set_option maxRecDepth 100000 in
set_option maxHeartbeats 1000000 in
theorem c_X5_init (l : Launch) (cA : Nat → ClassId) (q_t : Nat) : MT l cA yX5_init cX5_init 1 none ({ frames := 2, cells := 11, slots := 367, locals := 40 } : Room) [.ref q_t] [oB q_t 5 [.null, .null, .null, .null, .null, .null, .null, .int 0, .null, .null, .null]] (iB_X5 cA q_t) := by
  refine MT.of (by decide) (Nat.le_of_ble_eq_true rfl) ?_
  intro X hXl C F hnm hrc hrs
  subst hXl
  have C : Cx X cX5_init RX5 none cA 2 40 1 := C
  show Go X 1 0 0 0 [oB q_t 5 [.null, .null, .null, .null, .null, .null, .null, .int 0, .null, .null, .null]] [(0, .ref q_t)] []
  refine g_aload_n C 0 0 dX5_init_0 rfl rfl ?_
  refine g_obj C 1 dX5_init_1 kw_465 kw_457 kw_458 (by decide) (Nat.le_of_ble_eq_true rfl) ?_
  refine g_aload_n C 4 0 dX5_init_4 rfl rfl ?_
  refine g_bipush C 5 (14 : Int32) dX5_init_5 (by decide) ?_
  refine g_newI C 7 14 1 14 (fun z => [oB q_t 5 [.null, .null, .null, .null, .null, .null, .null, .int 0, .null, .null, .null], aI cA z 14 (fun _ => 0)]) dX5_init_7 kw_459 (by decide) (by decide) (by decide) (by rw [hrc]; exact Nat.le_of_ble_eq_true rfl) (by rw [hrs]; exact Nat.le_of_ble_eq_true rfl) rfl rfl (fun _ => rfl) (fun q7 => ?_)
  refine g_putF C 9 0 0 (ws' := [oB q_t 5 [.ref q7, .null, .null, .null, .null, .null, .null, .int 0, .null, .null, .null], aI cA q7 14 (fun _ => 0)]) tyX5 dX5_init_9 inX5 tyX5_ok nmX5 rfl rfl (by decide) kw_109 rfl hnm rfl rfl rfl (Nat.le_of_ble_eq_true rfl) rfl ?_
  refine g_aload_n C 12 0 dX5_init_12 rfl rfl ?_
  refine g_bipush C 13 (56 : Int32) dX5_init_13 (by decide) ?_
  refine g_newI C 15 56 2 70 (fun z => [oB q_t 5 [.ref q7, .null, .null, .null, .null, .null, .null, .int 0, .null, .null, .null], aI cA q7 14 (fun _ => 0), aI cA z 56 (fun _ => 0)]) dX5_init_15 kw_459 (by decide) (by decide) (by decide) (by rw [hrc]; exact Nat.le_of_ble_eq_true rfl) (by rw [hrs]; exact Nat.le_of_ble_eq_true rfl) rfl rfl (fun _ => rfl) (fun q15 => ?_)
  refine g_putF C 17 0 1 (ws' := [oB q_t 5 [.ref q7, .ref q15, .null, .null, .null, .null, .null, .int 0, .null, .null, .null], aI cA q7 14 (fun _ => 0), aI cA q15 56 (fun _ => 0)]) tyX5 dX5_init_17 inX5 tyX5_ok nmX5 rfl rfl (by decide) kw_118 rfl hnm rfl rfl rfl (Nat.le_of_ble_eq_true rfl) rfl ?_
  refine g_aload_n C 20 0 dX5_init_20 rfl rfl ?_
  refine g_bipush C 21 (14 : Int32) dX5_init_21 (by decide) ?_
  refine g_newI C 23 14 3 84 (fun z => [oB q_t 5 [.ref q7, .ref q15, .null, .null, .null, .null, .null, .int 0, .null, .null, .null], aI cA q7 14 (fun _ => 0), aI cA q15 56 (fun _ => 0), aI cA z 14 (fun _ => 0)]) dX5_init_23 kw_459 (by decide) (by decide) (by decide) (by rw [hrc]; exact Nat.le_of_ble_eq_true rfl) (by rw [hrs]; exact Nat.le_of_ble_eq_true rfl) rfl rfl (fun _ => rfl) (fun q23 => ?_)
  refine g_putF C 25 0 2 (ws' := [oB q_t 5 [.ref q7, .ref q15, .ref q23, .null, .null, .null, .null, .int 0, .null, .null, .null], aI cA q7 14 (fun _ => 0), aI cA q15 56 (fun _ => 0), aI cA q23 14 (fun _ => 0)]) tyX5 dX5_init_25 inX5 tyX5_ok nmX5 rfl rfl (by decide) kw_112 rfl hnm rfl rfl rfl (Nat.le_of_ble_eq_true rfl) rfl ?_
  refine g_aload_n C 28 0 dX5_init_28 rfl rfl ?_
  refine g_bipush C 29 (14 : Int32) dX5_init_29 (by decide) ?_
  refine g_newI C 31 14 4 98 (fun z => [oB q_t 5 [.ref q7, .ref q15, .ref q23, .null, .null, .null, .null, .int 0, .null, .null, .null], aI cA q7 14 (fun _ => 0), aI cA q15 56 (fun _ => 0), aI cA q23 14 (fun _ => 0), aI cA z 14 (fun _ => 0)]) dX5_init_31 kw_459 (by decide) (by decide) (by decide) (by rw [hrc]; exact Nat.le_of_ble_eq_true rfl) (by rw [hrs]; exact Nat.le_of_ble_eq_true rfl) rfl rfl (fun _ => rfl) (fun q31 => ?_)
  refine g_putF C 33 0 3 (ws' := [oB q_t 5 [.ref q7, .ref q15, .ref q23, .ref q31, .null, .null, .null, .int 0, .null, .null, .null], aI cA q7 14 (fun _ => 0), aI cA q15 56 (fun _ => 0), aI cA q23 14 (fun _ => 0), aI cA q31 14 (fun _ => 0)]) tyX5 dX5_init_33 inX5 tyX5_ok nmX5 rfl rfl (by decide) kw_113 rfl hnm rfl rfl rfl (Nat.le_of_ble_eq_true rfl) rfl ?_
  refine g_aload_n C 36 0 dX5_init_36 rfl rfl ?_
  refine g_bipush C 37 (14 : Int32) dX5_init_37 (by decide) ?_
  refine g_newI C 39 14 5 112 (fun z => [oB q_t 5 [.ref q7, .ref q15, .ref q23, .ref q31, .null, .null, .null, .int 0, .null, .null, .null], aI cA q7 14 (fun _ => 0), aI cA q15 56 (fun _ => 0), aI cA q23 14 (fun _ => 0), aI cA q31 14 (fun _ => 0), aI cA z 14 (fun _ => 0)]) dX5_init_39 kw_459 (by decide) (by decide) (by decide) (by rw [hrc]; exact Nat.le_of_ble_eq_true rfl) (by rw [hrs]; exact Nat.le_of_ble_eq_true rfl) rfl rfl (fun _ => rfl) (fun q39 => ?_)
  refine g_putF C 41 0 4 (ws' := [oB q_t 5 [.ref q7, .ref q15, .ref q23, .ref q31, .ref q39, .null, .null, .int 0, .null, .null, .null], aI cA q7 14 (fun _ => 0), aI cA q15 56 (fun _ => 0), aI cA q23 14 (fun _ => 0), aI cA q31 14 (fun _ => 0), aI cA q39 14 (fun _ => 0)]) tyX5 dX5_init_41 inX5 tyX5_ok nmX5 rfl rfl (by decide) kw_114 rfl hnm rfl rfl rfl (Nat.le_of_ble_eq_true rfl) rfl ?_
  refine g_aload_n C 44 0 dX5_init_44 rfl rfl ?_
  refine g_sipush C 45 (196 : Int32) dX5_init_45 (by decide) ?_
  refine g_newI C 48 196 6 308 (fun z => [oB q_t 5 [.ref q7, .ref q15, .ref q23, .ref q31, .ref q39, .null, .null, .int 0, .null, .null, .null], aI cA q7 14 (fun _ => 0), aI cA q15 56 (fun _ => 0), aI cA q23 14 (fun _ => 0), aI cA q31 14 (fun _ => 0), aI cA q39 14 (fun _ => 0), aI cA z 196 (fun _ => 0)]) dX5_init_48 kw_459 (by decide) (by decide) (by decide) (by rw [hrc]; exact Nat.le_of_ble_eq_true rfl) (by rw [hrs]; exact Nat.le_of_ble_eq_true rfl) rfl rfl (fun _ => rfl) (fun q48 => ?_)
  refine g_putF C 50 0 5 (ws' := [oB q_t 5 [.ref q7, .ref q15, .ref q23, .ref q31, .ref q39, .ref q48, .null, .int 0, .null, .null, .null], aI cA q7 14 (fun _ => 0), aI cA q15 56 (fun _ => 0), aI cA q23 14 (fun _ => 0), aI cA q31 14 (fun _ => 0), aI cA q39 14 (fun _ => 0), aI cA q48 196 (fun _ => 0)]) tyX5 dX5_init_50 inX5 tyX5_ok nmX5 rfl rfl (by decide) kw_116 rfl hnm rfl rfl rfl (Nat.le_of_ble_eq_true rfl) rfl ?_
  refine g_aload_n C 53 0 dX5_init_53 rfl rfl ?_
  refine g_bipush C 54 (14 : Int32) dX5_init_54 (by decide) ?_
  refine g_newI C 56 14 7 322 (fun z => [oB q_t 5 [.ref q7, .ref q15, .ref q23, .ref q31, .ref q39, .ref q48, .null, .int 0, .null, .null, .null], aI cA q7 14 (fun _ => 0), aI cA q15 56 (fun _ => 0), aI cA q23 14 (fun _ => 0), aI cA q31 14 (fun _ => 0), aI cA q39 14 (fun _ => 0), aI cA q48 196 (fun _ => 0), aI cA z 14 (fun _ => 0)]) dX5_init_56 kw_459 (by decide) (by decide) (by decide) (by rw [hrc]; exact Nat.le_of_ble_eq_true rfl) (by rw [hrs]; exact Nat.le_of_ble_eq_true rfl) rfl rfl (fun _ => rfl) (fun q56 => ?_)
  refine g_putF C 58 0 6 (ws' := [oB q_t 5 [.ref q7, .ref q15, .ref q23, .ref q31, .ref q39, .ref q48, .ref q56, .int 0, .null, .null, .null], aI cA q7 14 (fun _ => 0), aI cA q15 56 (fun _ => 0), aI cA q23 14 (fun _ => 0), aI cA q31 14 (fun _ => 0), aI cA q39 14 (fun _ => 0), aI cA q48 196 (fun _ => 0), aI cA q56 14 (fun _ => 0)]) tyX5 dX5_init_58 inX5 tyX5_ok nmX5 rfl rfl (by decide) kw_117 rfl hnm rfl rfl rfl (Nat.le_of_ble_eq_true rfl) rfl ?_
  refine g_aload_n C 61 0 dX5_init_61 rfl rfl ?_
  refine g_bipush C 62 (14 : Int32) dX5_init_62 (by decide) ?_
  refine g_newI C 64 14 8 336 (fun z => [oB q_t 5 [.ref q7, .ref q15, .ref q23, .ref q31, .ref q39, .ref q48, .ref q56, .int 0, .null, .null, .null], aI cA q7 14 (fun _ => 0), aI cA q15 56 (fun _ => 0), aI cA q23 14 (fun _ => 0), aI cA q31 14 (fun _ => 0), aI cA q39 14 (fun _ => 0), aI cA q48 196 (fun _ => 0), aI cA q56 14 (fun _ => 0), aI cA z 14 (fun _ => 0)]) dX5_init_64 kw_459 (by decide) (by decide) (by decide) (by rw [hrc]; exact Nat.le_of_ble_eq_true rfl) (by rw [hrs]; exact Nat.le_of_ble_eq_true rfl) rfl rfl (fun _ => rfl) (fun q64 => ?_)
  refine g_putF C 66 0 8 (ws' := [oB q_t 5 [.ref q7, .ref q15, .ref q23, .ref q31, .ref q39, .ref q48, .ref q56, .int 0, .ref q64, .null, .null], aI cA q7 14 (fun _ => 0), aI cA q15 56 (fun _ => 0), aI cA q23 14 (fun _ => 0), aI cA q31 14 (fun _ => 0), aI cA q39 14 (fun _ => 0), aI cA q48 196 (fun _ => 0), aI cA q56 14 (fun _ => 0), aI cA q64 14 (fun _ => 0)]) tyX5 dX5_init_66 inX5 tyX5_ok nmX5 rfl rfl (by decide) kw_119 rfl hnm rfl rfl rfl (Nat.le_of_ble_eq_true rfl) rfl ?_
  refine g_aload_n C 69 0 dX5_init_69 rfl rfl ?_
  refine g_bipush C 70 (14 : Int32) dX5_init_70 (by decide) ?_
  refine g_newI C 72 14 9 350 (fun z => [oB q_t 5 [.ref q7, .ref q15, .ref q23, .ref q31, .ref q39, .ref q48, .ref q56, .int 0, .ref q64, .null, .null], aI cA q7 14 (fun _ => 0), aI cA q15 56 (fun _ => 0), aI cA q23 14 (fun _ => 0), aI cA q31 14 (fun _ => 0), aI cA q39 14 (fun _ => 0), aI cA q48 196 (fun _ => 0), aI cA q56 14 (fun _ => 0), aI cA q64 14 (fun _ => 0), aI cA z 14 (fun _ => 0)]) dX5_init_72 kw_459 (by decide) (by decide) (by decide) (by rw [hrc]; exact Nat.le_of_ble_eq_true rfl) (by rw [hrs]; exact Nat.le_of_ble_eq_true rfl) rfl rfl (fun _ => rfl) (fun q72 => ?_)
  refine g_putF C 74 0 9 (ws' := [oB q_t 5 [.ref q7, .ref q15, .ref q23, .ref q31, .ref q39, .ref q48, .ref q56, .int 0, .ref q64, .ref q72, .null], aI cA q7 14 (fun _ => 0), aI cA q15 56 (fun _ => 0), aI cA q23 14 (fun _ => 0), aI cA q31 14 (fun _ => 0), aI cA q39 14 (fun _ => 0), aI cA q48 196 (fun _ => 0), aI cA q56 14 (fun _ => 0), aI cA q64 14 (fun _ => 0), aI cA q72 14 (fun _ => 0)]) tyX5 dX5_init_74 inX5 tyX5_ok nmX5 rfl rfl (by decide) kw_107 rfl hnm rfl rfl rfl (Nat.le_of_ble_eq_true rfl) rfl ?_
  refine g_aload_n C 77 0 dX5_init_77 rfl rfl ?_
  refine g_new C 78 tyX1 [.null, .int 0, .int 0] 10 353 (fun z => [oB q_t 5 [.ref q7, .ref q15, .ref q23, .ref q31, .ref q39, .ref q48, .ref q56, .int 0, .ref q64, .ref q72, .null], aI cA q7 14 (fun _ => 0), aI cA q15 56 (fun _ => 0), aI cA q23 14 (fun _ => 0), aI cA q31 14 (fun _ => 0), aI cA q39 14 (fun _ => 0), aI cA q48 196 (fun _ => 0), aI cA q56 14 (fun _ => 0), aI cA q64 14 (fun _ => 0), aI cA q72 14 (fun _ => 0), oB z 1 [.null, .int 0, .int 0]]) dX5_init_78 inX1 tyX1_ok kw_466 kw_467 kw_16 rfl (by decide) (by rw [hrc]; exact Nat.le_of_ble_eq_true rfl) (by rw [hrs]; exact Nat.le_of_ble_eq_true rfl) rfl rfl (fun _ => rfl) (fun q78 => ?_)
  refine g_dup C 81 dX5_init_81 rfl ?_
  refine g_callIN C 82 [10] (rest := [.ref q78, .ref q_t]) 11 367 dX5_init_82 (c_X1_init (x_l X) cA q78) (List.mem_of_getElem? (i := 6) rfl) kw_468 kw_16 kw_469 rfl ok_X1_init ⟨Nat.le_of_ble_eq_true rfl, Nat.le_of_ble_eq_true rfl⟩ (by rw [hrc]; exact Nat.le_of_ble_eq_true rfl) (by rw [hrs]; exact Nat.le_of_ble_eq_true rfl) rfl rfl rfl rfl rfl (Nat.le_of_ble_eq_true rfl) ?_
  intro res w1 hB; obtain ⟨q78_q7, rfl, rfl⟩ := hB
  refine ⟨Nat.le_of_ble_eq_true rfl, ?_⟩
  show Go X 1 11 367 85 [oB q_t 5 [.ref q7, .ref q15, .ref q23, .ref q31, .ref q39, .ref q48, .ref q56, .int 0, .ref q64, .ref q72, .null], aI cA q7 14 (fun _ => 0), aI cA q15 56 (fun _ => 0), aI cA q23 14 (fun _ => 0), aI cA q31 14 (fun _ => 0), aI cA q39 14 (fun _ => 0), aI cA q48 196 (fun _ => 0), aI cA q56 14 (fun _ => 0), aI cA q64 14 (fun _ => 0), aI cA q72 14 (fun _ => 0), oB q78 1 [.ref q78_q7, .int 0, .int 0], aI cA q78_q7 14 (fun _ => 0)] [(0, .ref q_t)] [.ref q78, .ref q_t]
  refine g_putF C 85 0 10 (ws' := [oB q_t 5 [.ref q7, .ref q15, .ref q23, .ref q31, .ref q39, .ref q48, .ref q56, .int 0, .ref q64, .ref q72, .ref q78], aI cA q7 14 (fun _ => 0), aI cA q15 56 (fun _ => 0), aI cA q23 14 (fun _ => 0), aI cA q31 14 (fun _ => 0), aI cA q39 14 (fun _ => 0), aI cA q48 196 (fun _ => 0), aI cA q56 14 (fun _ => 0), aI cA q64 14 (fun _ => 0), aI cA q72 14 (fun _ => 0), oB q78 1 [.ref q78_q7, .int 0, .int 0], aI cA q78_q7 14 (fun _ => 0)]) tyX5 dX5_init_85 inX5 tyX5_ok nmX5 rfl rfl (by decide) kw_110 rfl hnm rfl rfl rfl (Nat.le_of_ble_eq_true rfl) rfl ?_
  exact g_vret C 88 dX5_init_88 F ⟨q7, q15, q23, q31, q39, q48, q56, q64, q72, q78, q78_q7, rfl, rfl⟩
def iB_X7 (cA : Nat → ClassId) (q_t : Nat) (q_u : Nat) (q_v : Nat) (q_w : Nat) : Option Value → va_W → Prop := fun res w => ∃ (q7 : Nat) (q15 : Nat) (q23 : Nat) (q31 : Nat) (q39 : Nat) (q48 : Nat) (q57 : Nat), res = none ∧ w = [oB q_t 7 [.ref q7, .int 0, .int 0, .ref q_u, .ref q_v, .ref q_w, .ref q15, .ref q23, .ref q31, .ref q39, .ref q48, .ref q57, .int 0, .int 0, .int 0, .int 0, .long 0], aI cA q7 14 (fun _ => 0), aI cA q15 56 (fun _ => 0), aI cA q23 14 (fun _ => 0), aI cA q31 14 (fun _ => 0), aI cA q39 56 (fun _ => 0), aI cA q48 3584 (fun _ => 0), aI cA q57 3584 (fun _ => 0)]
set_option maxRecDepth 100000 in
set_option maxHeartbeats 1000000 in
theorem c_X7_init (l : Launch) (cA : Nat → ClassId) (q_t : Nat) (q_u : Nat) (q_v : Nat) (q_w : Nat) : MT l cA yX7_init cX7_init 4 none ({ frames := 1, cells := 7, slots := 7322, locals := 20 } : Room) [.ref q_t, .ref q_u, .ref q_v, .ref q_w] [oB q_t 7 [.null, .int 0, .int 0, .null, .null, .null, .null, .null, .null, .null, .null, .null, .int 0, .int 0, .int 0, .int 0, .long 0]] (iB_X7 cA q_t q_u q_v q_w) := by
  refine MT.of (by decide) (Nat.le_of_ble_eq_true rfl) ?_
  intro X hXl C F hnm hrc hrs
  subst hXl
  have C : Cx X cX7_init RX7 none cA 1 20 4 := C
  show Go X 4 0 0 0 [oB q_t 7 [.null, .int 0, .int 0, .null, .null, .null, .null, .null, .null, .null, .null, .null, .int 0, .int 0, .int 0, .int 0, .long 0]] [(0, .ref q_t), (1, .ref q_u), (2, .ref q_v), (3, .ref q_w)] []
  refine g_aload_n C 0 0 dX7_init_0 rfl rfl ?_
  refine g_obj C 1 dX7_init_1 kw_470 kw_457 kw_458 (by decide) (Nat.le_of_ble_eq_true rfl) ?_
  refine g_aload_n C 4 0 dX7_init_4 rfl rfl ?_
  refine g_bipush C 5 (14 : Int32) dX7_init_5 (by decide) ?_
  refine g_newI C 7 14 1 14 (fun z => [oB q_t 7 [.null, .int 0, .int 0, .null, .null, .null, .null, .null, .null, .null, .null, .null, .int 0, .int 0, .int 0, .int 0, .long 0], aI cA z 14 (fun _ => 0)]) dX7_init_7 kw_459 (by decide) (by decide) (by decide) (by rw [hrc]; exact Nat.le_of_ble_eq_true rfl) (by rw [hrs]; exact Nat.le_of_ble_eq_true rfl) rfl rfl (fun _ => rfl) (fun q7 => ?_)
  refine g_putF C 9 0 0 (ws' := [oB q_t 7 [.ref q7, .int 0, .int 0, .null, .null, .null, .null, .null, .null, .null, .null, .null, .int 0, .int 0, .int 0, .int 0, .long 0], aI cA q7 14 (fun _ => 0)]) tyX7 dX7_init_9 inX7 tyX7_ok nmX7 rfl rfl (by decide) kw_144 rfl hnm rfl rfl rfl (Nat.le_of_ble_eq_true rfl) rfl ?_
  refine g_aload_n C 12 0 dX7_init_12 rfl rfl ?_
  refine g_bipush C 13 (56 : Int32) dX7_init_13 (by decide) ?_
  refine g_newI C 15 56 2 70 (fun z => [oB q_t 7 [.ref q7, .int 0, .int 0, .null, .null, .null, .null, .null, .null, .null, .null, .null, .int 0, .int 0, .int 0, .int 0, .long 0], aI cA q7 14 (fun _ => 0), aI cA z 56 (fun _ => 0)]) dX7_init_15 kw_459 (by decide) (by decide) (by decide) (by rw [hrc]; exact Nat.le_of_ble_eq_true rfl) (by rw [hrs]; exact Nat.le_of_ble_eq_true rfl) rfl rfl (fun _ => rfl) (fun q15 => ?_)
  refine g_putF C 17 0 6 (ws' := [oB q_t 7 [.ref q7, .int 0, .int 0, .null, .null, .null, .ref q15, .null, .null, .null, .null, .null, .int 0, .int 0, .int 0, .int 0, .long 0], aI cA q7 14 (fun _ => 0), aI cA q15 56 (fun _ => 0)]) tyX7 dX7_init_17 inX7 tyX7_ok nmX7 rfl rfl (by decide) kw_153 rfl hnm rfl rfl rfl (Nat.le_of_ble_eq_true rfl) rfl ?_
  refine g_aload_n C 20 0 dX7_init_20 rfl rfl ?_
  refine g_bipush C 21 (14 : Int32) dX7_init_21 (by decide) ?_
  refine g_newI C 23 14 3 84 (fun z => [oB q_t 7 [.ref q7, .int 0, .int 0, .null, .null, .null, .ref q15, .null, .null, .null, .null, .null, .int 0, .int 0, .int 0, .int 0, .long 0], aI cA q7 14 (fun _ => 0), aI cA q15 56 (fun _ => 0), aI cA z 14 (fun _ => 0)]) dX7_init_23 kw_459 (by decide) (by decide) (by decide) (by rw [hrc]; exact Nat.le_of_ble_eq_true rfl) (by rw [hrs]; exact Nat.le_of_ble_eq_true rfl) rfl rfl (fun _ => rfl) (fun q23 => ?_)
  refine g_putF C 25 0 7 (ws' := [oB q_t 7 [.ref q7, .int 0, .int 0, .null, .null, .null, .ref q15, .ref q23, .null, .null, .null, .null, .int 0, .int 0, .int 0, .int 0, .long 0], aI cA q7 14 (fun _ => 0), aI cA q15 56 (fun _ => 0), aI cA q23 14 (fun _ => 0)]) tyX7 dX7_init_25 inX7 tyX7_ok nmX7 rfl rfl (by decide) kw_152 rfl hnm rfl rfl rfl (Nat.le_of_ble_eq_true rfl) rfl ?_
  refine g_aload_n C 28 0 dX7_init_28 rfl rfl ?_
  refine g_bipush C 29 (14 : Int32) dX7_init_29 (by decide) ?_
  refine g_newI C 31 14 4 98 (fun z => [oB q_t 7 [.ref q7, .int 0, .int 0, .null, .null, .null, .ref q15, .ref q23, .null, .null, .null, .null, .int 0, .int 0, .int 0, .int 0, .long 0], aI cA q7 14 (fun _ => 0), aI cA q15 56 (fun _ => 0), aI cA q23 14 (fun _ => 0), aI cA z 14 (fun _ => 0)]) dX7_init_31 kw_459 (by decide) (by decide) (by decide) (by rw [hrc]; exact Nat.le_of_ble_eq_true rfl) (by rw [hrs]; exact Nat.le_of_ble_eq_true rfl) rfl rfl (fun _ => rfl) (fun q31 => ?_)
  refine g_putF C 33 0 8 (ws' := [oB q_t 7 [.ref q7, .int 0, .int 0, .null, .null, .null, .ref q15, .ref q23, .ref q31, .null, .null, .null, .int 0, .int 0, .int 0, .int 0, .long 0], aI cA q7 14 (fun _ => 0), aI cA q15 56 (fun _ => 0), aI cA q23 14 (fun _ => 0), aI cA q31 14 (fun _ => 0)]) tyX7 dX7_init_33 inX7 tyX7_ok nmX7 rfl rfl (by decide) kw_154 rfl hnm rfl rfl rfl (Nat.le_of_ble_eq_true rfl) rfl ?_
  refine g_aload_n C 36 0 dX7_init_36 rfl rfl ?_
  refine g_bipush C 37 (56 : Int32) dX7_init_37 (by decide) ?_
  refine g_newI C 39 56 5 154 (fun z => [oB q_t 7 [.ref q7, .int 0, .int 0, .null, .null, .null, .ref q15, .ref q23, .ref q31, .null, .null, .null, .int 0, .int 0, .int 0, .int 0, .long 0], aI cA q7 14 (fun _ => 0), aI cA q15 56 (fun _ => 0), aI cA q23 14 (fun _ => 0), aI cA q31 14 (fun _ => 0), aI cA z 56 (fun _ => 0)]) dX7_init_39 kw_459 (by decide) (by decide) (by decide) (by rw [hrc]; exact Nat.le_of_ble_eq_true rfl) (by rw [hrs]; exact Nat.le_of_ble_eq_true rfl) rfl rfl (fun _ => rfl) (fun q39 => ?_)
  refine g_putF C 41 0 9 (ws' := [oB q_t 7 [.ref q7, .int 0, .int 0, .null, .null, .null, .ref q15, .ref q23, .ref q31, .ref q39, .null, .null, .int 0, .int 0, .int 0, .int 0, .long 0], aI cA q7 14 (fun _ => 0), aI cA q15 56 (fun _ => 0), aI cA q23 14 (fun _ => 0), aI cA q31 14 (fun _ => 0), aI cA q39 56 (fun _ => 0)]) tyX7 dX7_init_41 inX7 tyX7_ok nmX7 rfl rfl (by decide) kw_171 rfl hnm rfl rfl rfl (Nat.le_of_ble_eq_true rfl) rfl ?_
  refine g_aload_n C 44 0 dX7_init_44 rfl rfl ?_
  refine g_sipush C 45 (3584 : Int32) dX7_init_45 (by decide) ?_
  refine g_newI C 48 3584 6 3738 (fun z => [oB q_t 7 [.ref q7, .int 0, .int 0, .null, .null, .null, .ref q15, .ref q23, .ref q31, .ref q39, .null, .null, .int 0, .int 0, .int 0, .int 0, .long 0], aI cA q7 14 (fun _ => 0), aI cA q15 56 (fun _ => 0), aI cA q23 14 (fun _ => 0), aI cA q31 14 (fun _ => 0), aI cA q39 56 (fun _ => 0), aI cA z 3584 (fun _ => 0)]) dX7_init_48 kw_459 (by decide) (by decide) (by decide) (by rw [hrc]; exact Nat.le_of_ble_eq_true rfl) (by rw [hrs]; exact Nat.le_of_ble_eq_true rfl) rfl rfl (fun _ => rfl) (fun q48 => ?_)
  refine g_putF C 50 0 10 (ws' := [oB q_t 7 [.ref q7, .int 0, .int 0, .null, .null, .null, .ref q15, .ref q23, .ref q31, .ref q39, .ref q48, .null, .int 0, .int 0, .int 0, .int 0, .long 0], aI cA q7 14 (fun _ => 0), aI cA q15 56 (fun _ => 0), aI cA q23 14 (fun _ => 0), aI cA q31 14 (fun _ => 0), aI cA q39 56 (fun _ => 0), aI cA q48 3584 (fun _ => 0)]) tyX7 dX7_init_50 inX7 tyX7_ok nmX7 rfl rfl (by decide) kw_179 rfl hnm rfl rfl rfl (Nat.le_of_ble_eq_true rfl) rfl ?_
  refine g_aload_n C 53 0 dX7_init_53 rfl rfl ?_
  refine g_sipush C 54 (3584 : Int32) dX7_init_54 (by decide) ?_
  refine g_newI C 57 3584 7 7322 (fun z => [oB q_t 7 [.ref q7, .int 0, .int 0, .null, .null, .null, .ref q15, .ref q23, .ref q31, .ref q39, .ref q48, .null, .int 0, .int 0, .int 0, .int 0, .long 0], aI cA q7 14 (fun _ => 0), aI cA q15 56 (fun _ => 0), aI cA q23 14 (fun _ => 0), aI cA q31 14 (fun _ => 0), aI cA q39 56 (fun _ => 0), aI cA q48 3584 (fun _ => 0), aI cA z 3584 (fun _ => 0)]) dX7_init_57 kw_459 (by decide) (by decide) (by decide) (by rw [hrc]; exact Nat.le_of_ble_eq_true rfl) (by rw [hrs]; exact Nat.le_of_ble_eq_true rfl) rfl rfl (fun _ => rfl) (fun q57 => ?_)
  refine g_putF C 59 0 11 (ws' := [oB q_t 7 [.ref q7, .int 0, .int 0, .null, .null, .null, .ref q15, .ref q23, .ref q31, .ref q39, .ref q48, .ref q57, .int 0, .int 0, .int 0, .int 0, .long 0], aI cA q7 14 (fun _ => 0), aI cA q15 56 (fun _ => 0), aI cA q23 14 (fun _ => 0), aI cA q31 14 (fun _ => 0), aI cA q39 56 (fun _ => 0), aI cA q48 3584 (fun _ => 0), aI cA q57 3584 (fun _ => 0)]) tyX7 dX7_init_59 inX7 tyX7_ok nmX7 rfl rfl (by decide) kw_178 rfl hnm rfl rfl rfl (Nat.le_of_ble_eq_true rfl) rfl ?_
  refine g_aload_n C 62 0 dX7_init_62 rfl rfl ?_
  refine g_aload_n C 63 1 dX7_init_63 rfl rfl ?_
  refine g_putF C 64 0 3 (ws' := [oB q_t 7 [.ref q7, .int 0, .int 0, .ref q_u, .null, .null, .ref q15, .ref q23, .ref q31, .ref q39, .ref q48, .ref q57, .int 0, .int 0, .int 0, .int 0, .long 0], aI cA q7 14 (fun _ => 0), aI cA q15 56 (fun _ => 0), aI cA q23 14 (fun _ => 0), aI cA q31 14 (fun _ => 0), aI cA q39 56 (fun _ => 0), aI cA q48 3584 (fun _ => 0), aI cA q57 3584 (fun _ => 0)]) tyX7 dX7_init_64 inX7 tyX7_ok nmX7 rfl rfl (by decide) kw_142 rfl hnm rfl rfl rfl (Nat.le_of_ble_eq_true rfl) rfl ?_
  refine g_aload_n C 67 0 dX7_init_67 rfl rfl ?_
  refine g_aload_n C 68 2 dX7_init_68 rfl rfl ?_
  refine g_putF C 69 0 4 (ws' := [oB q_t 7 [.ref q7, .int 0, .int 0, .ref q_u, .ref q_v, .null, .ref q15, .ref q23, .ref q31, .ref q39, .ref q48, .ref q57, .int 0, .int 0, .int 0, .int 0, .long 0], aI cA q7 14 (fun _ => 0), aI cA q15 56 (fun _ => 0), aI cA q23 14 (fun _ => 0), aI cA q31 14 (fun _ => 0), aI cA q39 56 (fun _ => 0), aI cA q48 3584 (fun _ => 0), aI cA q57 3584 (fun _ => 0)]) tyX7 dX7_init_69 inX7 tyX7_ok nmX7 rfl rfl (by decide) kw_145 rfl hnm rfl rfl rfl (Nat.le_of_ble_eq_true rfl) rfl ?_
  refine g_aload_n C 72 0 dX7_init_72 rfl rfl ?_
  refine g_aload_n C 73 3 dX7_init_73 rfl rfl ?_
  refine g_putF C 74 0 5 (ws' := [oB q_t 7 [.ref q7, .int 0, .int 0, .ref q_u, .ref q_v, .ref q_w, .ref q15, .ref q23, .ref q31, .ref q39, .ref q48, .ref q57, .int 0, .int 0, .int 0, .int 0, .long 0], aI cA q7 14 (fun _ => 0), aI cA q15 56 (fun _ => 0), aI cA q23 14 (fun _ => 0), aI cA q31 14 (fun _ => 0), aI cA q39 56 (fun _ => 0), aI cA q48 3584 (fun _ => 0), aI cA q57 3584 (fun _ => 0)]) tyX7 dX7_init_74 inX7 tyX7_ok nmX7 rfl rfl (by decide) kw_163 rfl hnm rfl rfl rfl (Nat.le_of_ble_eq_true rfl) rfl ?_
  exact g_vret C 77 dX7_init_77 F ⟨q7, q15, q23, q31, q39, q48, q57, rfl, rfl⟩
def iB_X8 (cA : Nat → ClassId) (q_t : Nat) : Option Value → va_W → Prop := fun res w => ∃ (q5 : Nat) (q5_q7 : Nat) (q5_q15 : Nat) (q5_q24 : Nat) (q16 : Nat) (q16_q7 : Nat) (q27 : Nat) (q27_q7 : Nat) (q27_q15 : Nat) (q38 : Nat) (q38_q11 : Nat) (q38_q19 : Nat) (q38_q27 : Nat) (q38_q35 : Nat) (q49 : Nat) (q49_q7 : Nat) (q60 : Nat) (q60_q7 : Nat) (q60_q15 : Nat) (q60_q23 : Nat) (q60_q31 : Nat) (q60_q39 : Nat) (q60_q48 : Nat) (q60_q56 : Nat) (q60_q64 : Nat) (q60_q72 : Nat) (q60_q78 : Nat) (q60_q78_q7 : Nat), res = none ∧ w = [oB q_t 8 [.ref q5, .ref q16, .ref q27, .ref q38, .ref q49, .ref q60, .null, .null], oB q5 4 [.ref q5_q7, .ref q5_q15, .ref q5_q24, .int 0, .int 0], aI cA q5_q7 14 (fun _ => 0), aI cA q5_q15 14 (fun _ => 0), aI cA q5_q24 196 (fun _ => 0), oB q16 2 [.ref q16_q7, .int 0, .int 0], aI cA q16_q7 14 (fun _ => 0), oB q27 0 [.ref q27_q7, .ref q27_q15, .int 0], aI cA q27_q7 14 (fun _ => 0), aI cA q27_q15 14 (fun _ => 0), oB q38 3 [.int (2 : Int32), .ref q38_q11, .ref q38_q19, .ref q38_q27, .ref q38_q35], aI cA q38_q11 4 (fun _ => 0), aI cA q38_q19 16 (fun _ => 0), aZ cA q38_q27 16 (fun _ => 0), aI cA q38_q35 14 (fun _ => 0), oB q49 1 [.ref q49_q7, .int 0, .int 0], aI cA q49_q7 14 (fun _ => 0), oB q60 5 [.ref q60_q7, .ref q60_q15, .ref q60_q23, .ref q60_q31, .ref q60_q39, .ref q60_q48, .ref q60_q56, .int 0, .ref q60_q64, .ref q60_q72, .ref q60_q78], aI cA q60_q7 14 (fun _ => 0), aI cA q60_q15 56 (fun _ => 0), aI cA q60_q23 14 (fun _ => 0), aI cA q60_q31 14 (fun _ => 0), aI cA q60_q39 14 (fun _ => 0), aI cA q60_q48 196 (fun _ => 0), aI cA q60_q56 14 (fun _ => 0), aI cA q60_q64 14 (fun _ => 0), aI cA q60_q72 14 (fun _ => 0), oB q60_q78 1 [.ref q60_q78_q7, .int 0, .int 0], aI cA q60_q78_q7 14 (fun _ => 0)]
set_option maxRecDepth 100000 in
set_option maxHeartbeats 1000000 in
theorem c_X8_init (l : Launch) (cA : Nat → ClassId) (q_t : Nat) : MT l cA yX8_init cX8_init 1 none ({ frames := 3, cells := 28, slots := 727, locals := 60 } : Room) [.ref q_t] [oB q_t 8 [.null, .null, .null, .null, .null, .null, .null, .null]] (iB_X8 cA q_t) := by
  refine MT.of (by decide) (Nat.le_of_ble_eq_true rfl) ?_
  intro X hXl C F hnm hrc hrs
  subst hXl
  have C : Cx X cX8_init RX8 none cA 3 60 1 := C
  show Go X 1 0 0 0 [oB q_t 8 [.null, .null, .null, .null, .null, .null, .null, .null]] [(0, .ref q_t)] []
  refine g_aload_n C 0 0 dX8_init_0 rfl rfl ?_
  refine g_obj C 1 dX8_init_1 kw_471 kw_457 kw_458 (by decide) (Nat.le_of_ble_eq_true rfl) ?_
  refine g_aload_n C 4 0 dX8_init_4 rfl rfl ?_
  refine g_new C 5 tyX4 [.null, .null, .null, .int 0, .int 0] 1 5 (fun z => [oB q_t 8 [.null, .null, .null, .null, .null, .null, .null, .null], oB z 4 [.null, .null, .null, .int 0, .int 0]]) dX8_init_5 inX4 tyX4_ok kw_472 kw_473 kw_49 rfl (by decide) (by rw [hrc]; exact Nat.le_of_ble_eq_true rfl) (by rw [hrs]; exact Nat.le_of_ble_eq_true rfl) rfl rfl (fun _ => rfl) (fun q5 => ?_)
  refine g_dup C 8 dX8_init_8 rfl ?_
  refine g_callIN C 9 [1] (rest := [.ref q5, .ref q_t]) 4 229 dX8_init_9 (c_X4_init (x_l X) cA q5) (List.mem_of_getElem? (i := 0) rfl) kw_474 kw_49 kw_475 rfl ok_X4_init ⟨Nat.le_of_ble_eq_true rfl, Nat.le_of_ble_eq_true rfl⟩ (by rw [hrc]; exact Nat.le_of_ble_eq_true rfl) (by rw [hrs]; exact Nat.le_of_ble_eq_true rfl) rfl rfl rfl rfl rfl (Nat.le_of_ble_eq_true rfl) ?_
  intro res w1 hB; obtain ⟨q5_q7, q5_q15, q5_q24, rfl, rfl⟩ := hB
  refine ⟨Nat.le_of_ble_eq_true rfl, ?_⟩
  show Go X 1 4 229 12 [oB q_t 8 [.null, .null, .null, .null, .null, .null, .null, .null], oB q5 4 [.ref q5_q7, .ref q5_q15, .ref q5_q24, .int 0, .int 0], aI cA q5_q7 14 (fun _ => 0), aI cA q5_q15 14 (fun _ => 0), aI cA q5_q24 196 (fun _ => 0)] [(0, .ref q_t)] [.ref q5, .ref q_t]
  refine g_putF C 12 0 0 (ws' := [oB q_t 8 [.ref q5, .null, .null, .null, .null, .null, .null, .null], oB q5 4 [.ref q5_q7, .ref q5_q15, .ref q5_q24, .int 0, .int 0], aI cA q5_q7 14 (fun _ => 0), aI cA q5_q15 14 (fun _ => 0), aI cA q5_q24 196 (fun _ => 0)]) tyX8 dX8_init_12 inX8 tyX8_ok nmX8 rfl rfl (by decide) kw_229 rfl hnm rfl rfl rfl (Nat.le_of_ble_eq_true rfl) rfl ?_
  refine g_aload_n C 15 0 dX8_init_15 rfl rfl ?_
  refine g_new C 16 tyX2 [.null, .int 0, .int 0] 5 232 (fun z => [oB q_t 8 [.ref q5, .null, .null, .null, .null, .null, .null, .null], oB q5 4 [.ref q5_q7, .ref q5_q15, .ref q5_q24, .int 0, .int 0], aI cA q5_q7 14 (fun _ => 0), aI cA q5_q15 14 (fun _ => 0), aI cA q5_q24 196 (fun _ => 0), oB z 2 [.null, .int 0, .int 0]]) dX8_init_16 inX2 tyX2_ok kw_476 kw_477 kw_29 rfl (by decide) (by rw [hrc]; exact Nat.le_of_ble_eq_true rfl) (by rw [hrs]; exact Nat.le_of_ble_eq_true rfl) rfl rfl (fun _ => rfl) (fun q16 => ?_)
  refine g_dup C 19 dX8_init_19 rfl ?_
  refine g_callIN C 20 [5] (rest := [.ref q16, .ref q_t]) 6 246 dX8_init_20 (c_X2_init (x_l X) cA q16) (List.mem_of_getElem? (i := 1) rfl) kw_478 kw_29 kw_479 rfl ok_X2_init ⟨Nat.le_of_ble_eq_true rfl, Nat.le_of_ble_eq_true rfl⟩ (by rw [hrc]; exact Nat.le_of_ble_eq_true rfl) (by rw [hrs]; exact Nat.le_of_ble_eq_true rfl) rfl rfl rfl rfl rfl (Nat.le_of_ble_eq_true rfl) ?_
  intro res w1 hB; obtain ⟨q16_q7, rfl, rfl⟩ := hB
  refine ⟨Nat.le_of_ble_eq_true rfl, ?_⟩
  show Go X 1 6 246 23 [oB q_t 8 [.ref q5, .null, .null, .null, .null, .null, .null, .null], oB q5 4 [.ref q5_q7, .ref q5_q15, .ref q5_q24, .int 0, .int 0], aI cA q5_q7 14 (fun _ => 0), aI cA q5_q15 14 (fun _ => 0), aI cA q5_q24 196 (fun _ => 0), oB q16 2 [.ref q16_q7, .int 0, .int 0], aI cA q16_q7 14 (fun _ => 0)] [(0, .ref q_t)] [.ref q16, .ref q_t]
  refine g_putF C 23 0 1 (ws' := [oB q_t 8 [.ref q5, .ref q16, .null, .null, .null, .null, .null, .null], oB q5 4 [.ref q5_q7, .ref q5_q15, .ref q5_q24, .int 0, .int 0], aI cA q5_q7 14 (fun _ => 0), aI cA q5_q15 14 (fun _ => 0), aI cA q5_q24 196 (fun _ => 0), oB q16 2 [.ref q16_q7, .int 0, .int 0], aI cA q16_q7 14 (fun _ => 0)]) tyX8 dX8_init_23 inX8 tyX8_ok nmX8 rfl rfl (by decide) kw_231 rfl hnm rfl rfl rfl (Nat.le_of_ble_eq_true rfl) rfl ?_
  refine g_aload_n C 26 0 dX8_init_26 rfl rfl ?_
  refine g_new C 27 tyX0 [.null, .null, .int 0] 7 249 (fun z => [oB q_t 8 [.ref q5, .ref q16, .null, .null, .null, .null, .null, .null], oB q5 4 [.ref q5_q7, .ref q5_q15, .ref q5_q24, .int 0, .int 0], aI cA q5_q7 14 (fun _ => 0), aI cA q5_q15 14 (fun _ => 0), aI cA q5_q24 196 (fun _ => 0), oB q16 2 [.ref q16_q7, .int 0, .int 0], aI cA q16_q7 14 (fun _ => 0), oB z 0 [.null, .null, .int 0]]) dX8_init_27 inX0 tyX0_ok kw_480 kw_481 kw_43 rfl (by decide) (by rw [hrc]; exact Nat.le_of_ble_eq_true rfl) (by rw [hrs]; exact Nat.le_of_ble_eq_true rfl) rfl rfl (fun _ => rfl) (fun q27 => ?_)
  refine g_dup C 30 dX8_init_30 rfl ?_
  refine g_callIN C 31 [7] (rest := [.ref q27, .ref q_t]) 9 277 dX8_init_31 (c_X0_init (x_l X) cA q27) (List.mem_of_getElem? (i := 2) rfl) kw_482 kw_43 kw_483 rfl ok_X0_init ⟨Nat.le_of_ble_eq_true rfl, Nat.le_of_ble_eq_true rfl⟩ (by rw [hrc]; exact Nat.le_of_ble_eq_true rfl) (by rw [hrs]; exact Nat.le_of_ble_eq_true rfl) rfl rfl rfl rfl rfl (Nat.le_of_ble_eq_true rfl) ?_
  intro res w1 hB; obtain ⟨q27_q7, q27_q15, rfl, rfl⟩ := hB
  refine ⟨Nat.le_of_ble_eq_true rfl, ?_⟩
  show Go X 1 9 277 34 [oB q_t 8 [.ref q5, .ref q16, .null, .null, .null, .null, .null, .null], oB q5 4 [.ref q5_q7, .ref q5_q15, .ref q5_q24, .int 0, .int 0], aI cA q5_q7 14 (fun _ => 0), aI cA q5_q15 14 (fun _ => 0), aI cA q5_q24 196 (fun _ => 0), oB q16 2 [.ref q16_q7, .int 0, .int 0], aI cA q16_q7 14 (fun _ => 0), oB q27 0 [.ref q27_q7, .ref q27_q15, .int 0], aI cA q27_q7 14 (fun _ => 0), aI cA q27_q15 14 (fun _ => 0)] [(0, .ref q_t)] [.ref q27, .ref q_t]
  refine g_putF C 34 0 2 (ws' := [oB q_t 8 [.ref q5, .ref q16, .ref q27, .null, .null, .null, .null, .null], oB q5 4 [.ref q5_q7, .ref q5_q15, .ref q5_q24, .int 0, .int 0], aI cA q5_q7 14 (fun _ => 0), aI cA q5_q15 14 (fun _ => 0), aI cA q5_q24 196 (fun _ => 0), oB q16 2 [.ref q16_q7, .int 0, .int 0], aI cA q16_q7 14 (fun _ => 0), oB q27 0 [.ref q27_q7, .ref q27_q15, .int 0], aI cA q27_q7 14 (fun _ => 0), aI cA q27_q15 14 (fun _ => 0)]) tyX8 dX8_init_34 inX8 tyX8_ok nmX8 rfl rfl (by decide) kw_236 rfl hnm rfl rfl rfl (Nat.le_of_ble_eq_true rfl) rfl ?_
  refine g_aload_n C 37 0 dX8_init_37 rfl rfl ?_
  refine g_new C 38 tyX3 [.int 0, .null, .null, .null, .null] 10 282 (fun z => [oB q_t 8 [.ref q5, .ref q16, .ref q27, .null, .null, .null, .null, .null], oB q5 4 [.ref q5_q7, .ref q5_q15, .ref q5_q24, .int 0, .int 0], aI cA q5_q7 14 (fun _ => 0), aI cA q5_q15 14 (fun _ => 0), aI cA q5_q24 196 (fun _ => 0), oB q16 2 [.ref q16_q7, .int 0, .int 0], aI cA q16_q7 14 (fun _ => 0), oB q27 0 [.ref q27_q7, .ref q27_q15, .int 0], aI cA q27_q7 14 (fun _ => 0), aI cA q27_q15 14 (fun _ => 0), oB z 3 [.int 0, .null, .null, .null, .null]]) dX8_init_38 inX3 tyX3_ok kw_484 kw_485 kw_149 rfl (by decide) (by rw [hrc]; exact Nat.le_of_ble_eq_true rfl) (by rw [hrs]; exact Nat.le_of_ble_eq_true rfl) rfl rfl (fun _ => rfl) (fun q38 => ?_)
  refine g_dup C 41 dX8_init_41 rfl ?_
  refine g_callIN C 42 [10] (rest := [.ref q38, .ref q_t]) 14 332 dX8_init_42 (c_X3_init (x_l X) cA q38) (List.mem_of_getElem? (i := 3) rfl) kw_486 kw_149 kw_487 rfl ok_X3_init ⟨Nat.le_of_ble_eq_true rfl, Nat.le_of_ble_eq_true rfl⟩ (by rw [hrc]; exact Nat.le_of_ble_eq_true rfl) (by rw [hrs]; exact Nat.le_of_ble_eq_true rfl) rfl rfl rfl rfl rfl (Nat.le_of_ble_eq_true rfl) ?_
  intro res w1 hB; obtain ⟨q38_q11, q38_q19, q38_q27, q38_q35, rfl, rfl⟩ := hB
  refine ⟨Nat.le_of_ble_eq_true rfl, ?_⟩
  show Go X 1 14 332 45 [oB q_t 8 [.ref q5, .ref q16, .ref q27, .null, .null, .null, .null, .null], oB q5 4 [.ref q5_q7, .ref q5_q15, .ref q5_q24, .int 0, .int 0], aI cA q5_q7 14 (fun _ => 0), aI cA q5_q15 14 (fun _ => 0), aI cA q5_q24 196 (fun _ => 0), oB q16 2 [.ref q16_q7, .int 0, .int 0], aI cA q16_q7 14 (fun _ => 0), oB q27 0 [.ref q27_q7, .ref q27_q15, .int 0], aI cA q27_q7 14 (fun _ => 0), aI cA q27_q15 14 (fun _ => 0), oB q38 3 [.int (2 : Int32), .ref q38_q11, .ref q38_q19, .ref q38_q27, .ref q38_q35], aI cA q38_q11 4 (fun _ => 0), aI cA q38_q19 16 (fun _ => 0), aZ cA q38_q27 16 (fun _ => 0), aI cA q38_q35 14 (fun _ => 0)] [(0, .ref q_t)] [.ref q38, .ref q_t]
  refine g_putF C 45 0 3 (ws' := [oB q_t 8 [.ref q5, .ref q16, .ref q27, .ref q38, .null, .null, .null, .null], oB q5 4 [.ref q5_q7, .ref q5_q15, .ref q5_q24, .int 0, .int 0], aI cA q5_q7 14 (fun _ => 0), aI cA q5_q15 14 (fun _ => 0), aI cA q5_q24 196 (fun _ => 0), oB q16 2 [.ref q16_q7, .int 0, .int 0], aI cA q16_q7 14 (fun _ => 0), oB q27 0 [.ref q27_q7, .ref q27_q15, .int 0], aI cA q27_q7 14 (fun _ => 0), aI cA q27_q15 14 (fun _ => 0), oB q38 3 [.int (2 : Int32), .ref q38_q11, .ref q38_q19, .ref q38_q27, .ref q38_q35], aI cA q38_q11 4 (fun _ => 0), aI cA q38_q19 16 (fun _ => 0), aZ cA q38_q27 16 (fun _ => 0), aI cA q38_q35 14 (fun _ => 0)]) tyX8 dX8_init_45 inX8 tyX8_ok nmX8 rfl rfl (by decide) kw_317 rfl hnm rfl rfl rfl (Nat.le_of_ble_eq_true rfl) rfl ?_
  refine g_aload_n C 48 0 dX8_init_48 rfl rfl ?_
  refine g_new C 49 tyX1 [.null, .int 0, .int 0] 15 335 (fun z => [oB q_t 8 [.ref q5, .ref q16, .ref q27, .ref q38, .null, .null, .null, .null], oB q5 4 [.ref q5_q7, .ref q5_q15, .ref q5_q24, .int 0, .int 0], aI cA q5_q7 14 (fun _ => 0), aI cA q5_q15 14 (fun _ => 0), aI cA q5_q24 196 (fun _ => 0), oB q16 2 [.ref q16_q7, .int 0, .int 0], aI cA q16_q7 14 (fun _ => 0), oB q27 0 [.ref q27_q7, .ref q27_q15, .int 0], aI cA q27_q7 14 (fun _ => 0), aI cA q27_q15 14 (fun _ => 0), oB q38 3 [.int (2 : Int32), .ref q38_q11, .ref q38_q19, .ref q38_q27, .ref q38_q35], aI cA q38_q11 4 (fun _ => 0), aI cA q38_q19 16 (fun _ => 0), aZ cA q38_q27 16 (fun _ => 0), aI cA q38_q35 14 (fun _ => 0), oB z 1 [.null, .int 0, .int 0]]) dX8_init_49 inX1 tyX1_ok kw_488 kw_467 kw_16 rfl (by decide) (by rw [hrc]; exact Nat.le_of_ble_eq_true rfl) (by rw [hrs]; exact Nat.le_of_ble_eq_true rfl) rfl rfl (fun _ => rfl) (fun q49 => ?_)
  refine g_dup C 52 dX8_init_52 rfl ?_
  refine g_callIN C 53 [15] (rest := [.ref q49, .ref q_t]) 16 349 dX8_init_53 (c_X1_init (x_l X) cA q49) (List.mem_of_getElem? (i := 4) rfl) kw_468 kw_16 kw_469 rfl ok_X1_init ⟨Nat.le_of_ble_eq_true rfl, Nat.le_of_ble_eq_true rfl⟩ (by rw [hrc]; exact Nat.le_of_ble_eq_true rfl) (by rw [hrs]; exact Nat.le_of_ble_eq_true rfl) rfl rfl rfl rfl rfl (Nat.le_of_ble_eq_true rfl) ?_
  intro res w1 hB; obtain ⟨q49_q7, rfl, rfl⟩ := hB
  refine ⟨Nat.le_of_ble_eq_true rfl, ?_⟩
  show Go X 1 16 349 56 [oB q_t 8 [.ref q5, .ref q16, .ref q27, .ref q38, .null, .null, .null, .null], oB q5 4 [.ref q5_q7, .ref q5_q15, .ref q5_q24, .int 0, .int 0], aI cA q5_q7 14 (fun _ => 0), aI cA q5_q15 14 (fun _ => 0), aI cA q5_q24 196 (fun _ => 0), oB q16 2 [.ref q16_q7, .int 0, .int 0], aI cA q16_q7 14 (fun _ => 0), oB q27 0 [.ref q27_q7, .ref q27_q15, .int 0], aI cA q27_q7 14 (fun _ => 0), aI cA q27_q15 14 (fun _ => 0), oB q38 3 [.int (2 : Int32), .ref q38_q11, .ref q38_q19, .ref q38_q27, .ref q38_q35], aI cA q38_q11 4 (fun _ => 0), aI cA q38_q19 16 (fun _ => 0), aZ cA q38_q27 16 (fun _ => 0), aI cA q38_q35 14 (fun _ => 0), oB q49 1 [.ref q49_q7, .int 0, .int 0], aI cA q49_q7 14 (fun _ => 0)] [(0, .ref q_t)] [.ref q49, .ref q_t]
  refine g_putF C 56 0 4 (ws' := [oB q_t 8 [.ref q5, .ref q16, .ref q27, .ref q38, .ref q49, .null, .null, .null], oB q5 4 [.ref q5_q7, .ref q5_q15, .ref q5_q24, .int 0, .int 0], aI cA q5_q7 14 (fun _ => 0), aI cA q5_q15 14 (fun _ => 0), aI cA q5_q24 196 (fun _ => 0), oB q16 2 [.ref q16_q7, .int 0, .int 0], aI cA q16_q7 14 (fun _ => 0), oB q27 0 [.ref q27_q7, .ref q27_q15, .int 0], aI cA q27_q7 14 (fun _ => 0), aI cA q27_q15 14 (fun _ => 0), oB q38 3 [.int (2 : Int32), .ref q38_q11, .ref q38_q19, .ref q38_q27, .ref q38_q35], aI cA q38_q11 4 (fun _ => 0), aI cA q38_q19 16 (fun _ => 0), aZ cA q38_q27 16 (fun _ => 0), aI cA q38_q35 14 (fun _ => 0), oB q49 1 [.ref q49_q7, .int 0, .int 0], aI cA q49_q7 14 (fun _ => 0)]) tyX8 dX8_init_56 inX8 tyX8_ok nmX8 rfl rfl (by decide) kw_267 rfl hnm rfl rfl rfl (Nat.le_of_ble_eq_true rfl) rfl ?_
  refine g_aload_n C 59 0 dX8_init_59 rfl rfl ?_
  refine g_new C 60 tyX5 [.null, .null, .null, .null, .null, .null, .null, .int 0, .null, .null, .null] 17 360 (fun z => [oB q_t 8 [.ref q5, .ref q16, .ref q27, .ref q38, .ref q49, .null, .null, .null], oB q5 4 [.ref q5_q7, .ref q5_q15, .ref q5_q24, .int 0, .int 0], aI cA q5_q7 14 (fun _ => 0), aI cA q5_q15 14 (fun _ => 0), aI cA q5_q24 196 (fun _ => 0), oB q16 2 [.ref q16_q7, .int 0, .int 0], aI cA q16_q7 14 (fun _ => 0), oB q27 0 [.ref q27_q7, .ref q27_q15, .int 0], aI cA q27_q7 14 (fun _ => 0), aI cA q27_q15 14 (fun _ => 0), oB q38 3 [.int (2 : Int32), .ref q38_q11, .ref q38_q19, .ref q38_q27, .ref q38_q35], aI cA q38_q11 4 (fun _ => 0), aI cA q38_q19 16 (fun _ => 0), aZ cA q38_q27 16 (fun _ => 0), aI cA q38_q35 14 (fun _ => 0), oB q49 1 [.ref q49_q7, .int 0, .int 0], aI cA q49_q7 14 (fun _ => 0), oB z 5 [.null, .null, .null, .null, .null, .null, .null, .int 0, .null, .null, .null]]) dX8_init_60 inX5 tyX5_ok kw_489 kw_490 kw_131 rfl (by decide) (by rw [hrc]; exact Nat.le_of_ble_eq_true rfl) (by rw [hrs]; exact Nat.le_of_ble_eq_true rfl) rfl rfl (fun _ => rfl) (fun q60 => ?_)
  refine g_dup C 63 dX8_init_63 rfl ?_
  refine g_callIN C 64 [17] (rest := [.ref q60, .ref q_t]) 28 727 dX8_init_64 (c_X5_init (x_l X) cA q60) (List.mem_of_getElem? (i := 5) rfl) kw_491 kw_131 kw_492 rfl ok_X5_init ⟨Nat.le_of_ble_eq_true rfl, Nat.le_of_ble_eq_true rfl⟩ (by rw [hrc]; exact Nat.le_of_ble_eq_true rfl) (by rw [hrs]; exact Nat.le_of_ble_eq_true rfl) rfl rfl rfl rfl rfl (Nat.le_of_ble_eq_true rfl) ?_
  intro res w1 hB; obtain ⟨q60_q7, q60_q15, q60_q23, q60_q31, q60_q39, q60_q48, q60_q56, q60_q64, q60_q72, q60_q78, q60_q78_q7, rfl, rfl⟩ := hB
  refine ⟨Nat.le_of_ble_eq_true rfl, ?_⟩
  show Go X 1 28 727 67 [oB q_t 8 [.ref q5, .ref q16, .ref q27, .ref q38, .ref q49, .null, .null, .null], oB q5 4 [.ref q5_q7, .ref q5_q15, .ref q5_q24, .int 0, .int 0], aI cA q5_q7 14 (fun _ => 0), aI cA q5_q15 14 (fun _ => 0), aI cA q5_q24 196 (fun _ => 0), oB q16 2 [.ref q16_q7, .int 0, .int 0], aI cA q16_q7 14 (fun _ => 0), oB q27 0 [.ref q27_q7, .ref q27_q15, .int 0], aI cA q27_q7 14 (fun _ => 0), aI cA q27_q15 14 (fun _ => 0), oB q38 3 [.int (2 : Int32), .ref q38_q11, .ref q38_q19, .ref q38_q27, .ref q38_q35], aI cA q38_q11 4 (fun _ => 0), aI cA q38_q19 16 (fun _ => 0), aZ cA q38_q27 16 (fun _ => 0), aI cA q38_q35 14 (fun _ => 0), oB q49 1 [.ref q49_q7, .int 0, .int 0], aI cA q49_q7 14 (fun _ => 0), oB q60 5 [.ref q60_q7, .ref q60_q15, .ref q60_q23, .ref q60_q31, .ref q60_q39, .ref q60_q48, .ref q60_q56, .int 0, .ref q60_q64, .ref q60_q72, .ref q60_q78], aI cA q60_q7 14 (fun _ => 0), aI cA q60_q15 56 (fun _ => 0), aI cA q60_q23 14 (fun _ => 0), aI cA q60_q31 14 (fun _ => 0), aI cA q60_q39 14 (fun _ => 0), aI cA q60_q48 196 (fun _ => 0), aI cA q60_q56 14 (fun _ => 0), aI cA q60_q64 14 (fun _ => 0), aI cA q60_q72 14 (fun _ => 0), oB q60_q78 1 [.ref q60_q78_q7, .int 0, .int 0], aI cA q60_q78_q7 14 (fun _ => 0)] [(0, .ref q_t)] [.ref q60, .ref q_t]
  refine g_putF C 67 0 5 (ws' := [oB q_t 8 [.ref q5, .ref q16, .ref q27, .ref q38, .ref q49, .ref q60, .null, .null], oB q5 4 [.ref q5_q7, .ref q5_q15, .ref q5_q24, .int 0, .int 0], aI cA q5_q7 14 (fun _ => 0), aI cA q5_q15 14 (fun _ => 0), aI cA q5_q24 196 (fun _ => 0), oB q16 2 [.ref q16_q7, .int 0, .int 0], aI cA q16_q7 14 (fun _ => 0), oB q27 0 [.ref q27_q7, .ref q27_q15, .int 0], aI cA q27_q7 14 (fun _ => 0), aI cA q27_q15 14 (fun _ => 0), oB q38 3 [.int (2 : Int32), .ref q38_q11, .ref q38_q19, .ref q38_q27, .ref q38_q35], aI cA q38_q11 4 (fun _ => 0), aI cA q38_q19 16 (fun _ => 0), aZ cA q38_q27 16 (fun _ => 0), aI cA q38_q35 14 (fun _ => 0), oB q49 1 [.ref q49_q7, .int 0, .int 0], aI cA q49_q7 14 (fun _ => 0), oB q60 5 [.ref q60_q7, .ref q60_q15, .ref q60_q23, .ref q60_q31, .ref q60_q39, .ref q60_q48, .ref q60_q56, .int 0, .ref q60_q64, .ref q60_q72, .ref q60_q78], aI cA q60_q7 14 (fun _ => 0), aI cA q60_q15 56 (fun _ => 0), aI cA q60_q23 14 (fun _ => 0), aI cA q60_q31 14 (fun _ => 0), aI cA q60_q39 14 (fun _ => 0), aI cA q60_q48 196 (fun _ => 0), aI cA q60_q56 14 (fun _ => 0), aI cA q60_q64 14 (fun _ => 0), aI cA q60_q72 14 (fun _ => 0), oB q60_q78 1 [.ref q60_q78_q7, .int 0, .int 0], aI cA q60_q78_q7 14 (fun _ => 0)]) tyX8 dX8_init_67 inX8 tyX8_ok nmX8 rfl rfl (by decide) kw_493 rfl hnm rfl rfl rfl (Nat.le_of_ble_eq_true rfl) rfl ?_
  exact g_vret C 70 dX8_init_70 F ⟨q5, q5_q7, q5_q15, q5_q24, q16, q16_q7, q27, q27_q7, q27_q15, q38, q38_q11, q38_q19, q38_q27, q38_q35, q49, q49_q7, q60, q60_q7, q60_q15, q60_q23, q60_q31, q60_q39, q60_q48, q60_q56, q60_q64, q60_q72, q60_q78, q60_q78_q7, rfl, rfl⟩
def iB_X9 (cA : Nat → ClassId) (q_t : Nat) : Option Value → va_W → Prop := fun res w => ∃ (q12 : Nat) (q20 : Nat) (q29 : Nat) (q42 : Nat) (q55 : Nat) (q63 : Nat) (q72 : Nat) (q84 : Nat) (q92 : Nat) (q100 : Nat) (q108 : Nat) (q116 : Nat) (q124 : Nat) (q133 : Nat) (q142 : Nat) (q151 : Nat), res = none ∧ w = [oB q_t 9 [.int (0 : Int32), .ref q12, .ref q20, .ref q29, .int (0 : Int32), .ref q42, .int (0 : Int32), .ref q55, .ref q63, .ref q72, .int (2 : Int32), .ref q84, .ref q92, .ref q100, .ref q108, .ref q116, .ref q124, .ref q133, .ref q142, .ref q151, .long (0 : Int64), .long (0 : Int64), .long (0 : Int64)], aI cA q12 14 (fun _ => 0), aI cA q20 14 (fun _ => 0), aI cA q29 196 (fun _ => 0), aI cA q42 14 (fun _ => 0), aI cA q55 14 (fun _ => 0), aI cA q63 14 (fun _ => 0), aI cA q72 16384 (fun _ => 0), aI cA q84 4 (fun _ => 0), aI cA q92 16 (fun _ => 0), aI cA q100 14 (fun _ => 0), aZ cA q108 16 (fun _ => 0), aI cA q116 14 (fun _ => 0), aI cA q124 14 (fun _ => 0), aJ cA q133 14336 (fun _ => 0), aJ cA q142 14336 (fun _ => 0), aJ cA q151 14336 (fun _ => 0)]
set_option maxRecDepth 100000 in
set_option maxHeartbeats 1000000 in
theorem c_X9_init (l : Launch) (cA : Nat → ClassId) (q_t : Nat) : MT l cA yX9_init cX9_init 1 none ({ frames := 1, cells := 16, slots := 59736, locals := 20 } : Room) [.ref q_t] [oB q_t 9 [.int 0, .null, .null, .null, .int 0, .null, .int 0, .null, .null, .null, .int 0, .null, .null, .null, .null, .null, .null, .null, .null, .null, .long 0, .long 0, .long 0]] (iB_X9 cA q_t) := by
  refine MT.of (by decide) (Nat.le_of_ble_eq_true rfl) ?_
  intro X hXl C F hnm hrc hrs
  subst hXl
  have C : Cx X cX9_init RX9 none cA 1 20 1 := C
  show Go X 1 0 0 0 [oB q_t 9 [.int 0, .null, .null, .null, .int 0, .null, .int 0, .null, .null, .null, .int 0, .null, .null, .null, .null, .null, .null, .null, .null, .null, .long 0, .long 0, .long 0]] [(0, .ref q_t)] []
  refine g_aload_n C 0 0 dX9_init_0 rfl rfl ?_
  refine g_obj C 1 dX9_init_1 kw_494 kw_457 kw_458 (by decide) (Nat.le_of_ble_eq_true rfl) ?_
  refine g_aload_n C 4 0 dX9_init_4 rfl rfl ?_
  refine g_iconst C 5 (0 : Int32) dX9_init_5 (by decide) ?_
  refine g_putV C 6 0 0 (ws' := [oB q_t 9 [.int (0 : Int32), .null, .null, .null, .int 0, .null, .int 0, .null, .null, .null, .int 0, .null, .null, .null, .null, .null, .null, .null, .null, .null, .long 0, .long 0, .long 0]]) tyX9 dX9_init_6 inX9 tyX9_ok nmX9 rfl rfl (by decide) kw_339 rfl rfl rfl (Nat.le_of_ble_eq_true rfl) rfl ?_
  refine g_aload_n C 9 0 dX9_init_9 rfl rfl ?_
  refine g_bipush C 10 (14 : Int32) dX9_init_10 (by decide) ?_
  refine g_newI C 12 14 1 14 (fun z => [oB q_t 9 [.int (0 : Int32), .null, .null, .null, .int 0, .null, .int 0, .null, .null, .null, .int 0, .null, .null, .null, .null, .null, .null, .null, .null, .null, .long 0, .long 0, .long 0], aI cA z 14 (fun _ => 0)]) dX9_init_12 kw_459 (by decide) (by decide) (by decide) (by rw [hrc]; exact Nat.le_of_ble_eq_true rfl) (by rw [hrs]; exact Nat.le_of_ble_eq_true rfl) rfl rfl (fun _ => rfl) (fun q12 => ?_)
  refine g_putF C 14 0 1 (ws' := [oB q_t 9 [.int (0 : Int32), .ref q12, .null, .null, .int 0, .null, .int 0, .null, .null, .null, .int 0, .null, .null, .null, .null, .null, .null, .null, .null, .null, .long 0, .long 0, .long 0], aI cA q12 14 (fun _ => 0)]) tyX9 dX9_init_14 inX9 tyX9_ok nmX9 rfl rfl (by decide) kw_345 rfl hnm rfl rfl rfl (Nat.le_of_ble_eq_true rfl) rfl ?_
  refine g_aload_n C 17 0 dX9_init_17 rfl rfl ?_
  refine g_bipush C 18 (14 : Int32) dX9_init_18 (by decide) ?_
  refine g_newI C 20 14 2 28 (fun z => [oB q_t 9 [.int (0 : Int32), .ref q12, .null, .null, .int 0, .null, .int 0, .null, .null, .null, .int 0, .null, .null, .null, .null, .null, .null, .null, .null, .null, .long 0, .long 0, .long 0], aI cA q12 14 (fun _ => 0), aI cA z 14 (fun _ => 0)]) dX9_init_20 kw_459 (by decide) (by decide) (by decide) (by rw [hrc]; exact Nat.le_of_ble_eq_true rfl) (by rw [hrs]; exact Nat.le_of_ble_eq_true rfl) rfl rfl (fun _ => rfl) (fun q20 => ?_)
  refine g_putF C 22 0 2 (ws' := [oB q_t 9 [.int (0 : Int32), .ref q12, .ref q20, .null, .int 0, .null, .int 0, .null, .null, .null, .int 0, .null, .null, .null, .null, .null, .null, .null, .null, .null, .long 0, .long 0, .long 0], aI cA q12 14 (fun _ => 0), aI cA q20 14 (fun _ => 0)]) tyX9 dX9_init_22 inX9 tyX9_ok nmX9 rfl rfl (by decide) kw_346 rfl hnm rfl rfl rfl (Nat.le_of_ble_eq_true rfl) rfl ?_
  refine g_aload_n C 25 0 dX9_init_25 rfl rfl ?_
  refine g_sipush C 26 (196 : Int32) dX9_init_26 (by decide) ?_
  refine g_newI C 29 196 3 224 (fun z => [oB q_t 9 [.int (0 : Int32), .ref q12, .ref q20, .null, .int 0, .null, .int 0, .null, .null, .null, .int 0, .null, .null, .null, .null, .null, .null, .null, .null, .null, .long 0, .long 0, .long 0], aI cA q12 14 (fun _ => 0), aI cA q20 14 (fun _ => 0), aI cA z 196 (fun _ => 0)]) dX9_init_29 kw_459 (by decide) (by decide) (by decide) (by rw [hrc]; exact Nat.le_of_ble_eq_true rfl) (by rw [hrs]; exact Nat.le_of_ble_eq_true rfl) rfl rfl (fun _ => rfl) (fun q29 => ?_)
  refine g_putF C 31 0 3 (ws' := [oB q_t 9 [.int (0 : Int32), .ref q12, .ref q20, .ref q29, .int 0, .null, .int 0, .null, .null, .null, .int 0, .null, .null, .null, .null, .null, .null, .null, .null, .null, .long 0, .long 0, .long 0], aI cA q12 14 (fun _ => 0), aI cA q20 14 (fun _ => 0), aI cA q29 196 (fun _ => 0)]) tyX9 dX9_init_31 inX9 tyX9_ok nmX9 rfl rfl (by decide) kw_353 rfl hnm rfl rfl rfl (Nat.le_of_ble_eq_true rfl) rfl ?_
  refine g_aload_n C 34 0 dX9_init_34 rfl rfl ?_
  refine g_iconst C 35 (0 : Int32) dX9_init_35 (by decide) ?_
  refine g_putV C 36 0 4 (ws' := [oB q_t 9 [.int (0 : Int32), .ref q12, .ref q20, .ref q29, .int (0 : Int32), .null, .int 0, .null, .null, .null, .int 0, .null, .null, .null, .null, .null, .null, .null, .null, .null, .long 0, .long 0, .long 0], aI cA q12 14 (fun _ => 0), aI cA q20 14 (fun _ => 0), aI cA q29 196 (fun _ => 0)]) tyX9 dX9_init_36 inX9 tyX9_ok nmX9 rfl rfl (by decide) kw_347 rfl rfl rfl (Nat.le_of_ble_eq_true rfl) rfl ?_
  refine g_aload_n C 39 0 dX9_init_39 rfl rfl ?_
  refine g_bipush C 40 (14 : Int32) dX9_init_40 (by decide) ?_
  refine g_newI C 42 14 4 238 (fun z => [oB q_t 9 [.int (0 : Int32), .ref q12, .ref q20, .ref q29, .int (0 : Int32), .null, .int 0, .null, .null, .null, .int 0, .null, .null, .null, .null, .null, .null, .null, .null, .null, .long 0, .long 0, .long 0], aI cA q12 14 (fun _ => 0), aI cA q20 14 (fun _ => 0), aI cA q29 196 (fun _ => 0), aI cA z 14 (fun _ => 0)]) dX9_init_42 kw_459 (by decide) (by decide) (by decide) (by rw [hrc]; exact Nat.le_of_ble_eq_true rfl) (by rw [hrs]; exact Nat.le_of_ble_eq_true rfl) rfl rfl (fun _ => rfl) (fun q42 => ?_)
  refine g_putF C 44 0 5 (ws' := [oB q_t 9 [.int (0 : Int32), .ref q12, .ref q20, .ref q29, .int (0 : Int32), .ref q42, .int 0, .null, .null, .null, .int 0, .null, .null, .null, .null, .null, .null, .null, .null, .null, .long 0, .long 0, .long 0], aI cA q12 14 (fun _ => 0), aI cA q20 14 (fun _ => 0), aI cA q29 196 (fun _ => 0), aI cA q42 14 (fun _ => 0)]) tyX9 dX9_init_44 inX9 tyX9_ok nmX9 rfl rfl (by decide) kw_358 rfl hnm rfl rfl rfl (Nat.le_of_ble_eq_true rfl) rfl ?_
  refine g_aload_n C 47 0 dX9_init_47 rfl rfl ?_
  refine g_iconst C 48 (0 : Int32) dX9_init_48 (by decide) ?_
  refine g_putV C 49 0 6 (ws' := [oB q_t 9 [.int (0 : Int32), .ref q12, .ref q20, .ref q29, .int (0 : Int32), .ref q42, .int (0 : Int32), .null, .null, .null, .int 0, .null, .null, .null, .null, .null, .null, .null, .null, .null, .long 0, .long 0, .long 0], aI cA q12 14 (fun _ => 0), aI cA q20 14 (fun _ => 0), aI cA q29 196 (fun _ => 0), aI cA q42 14 (fun _ => 0)]) tyX9 dX9_init_49 inX9 tyX9_ok nmX9 rfl rfl (by decide) kw_348 rfl rfl rfl (Nat.le_of_ble_eq_true rfl) rfl ?_
  refine g_aload_n C 52 0 dX9_init_52 rfl rfl ?_
  refine g_bipush C 53 (14 : Int32) dX9_init_53 (by decide) ?_
  refine g_newI C 55 14 5 252 (fun z => [oB q_t 9 [.int (0 : Int32), .ref q12, .ref q20, .ref q29, .int (0 : Int32), .ref q42, .int (0 : Int32), .null, .null, .null, .int 0, .null, .null, .null, .null, .null, .null, .null, .null, .null, .long 0, .long 0, .long 0], aI cA q12 14 (fun _ => 0), aI cA q20 14 (fun _ => 0), aI cA q29 196 (fun _ => 0), aI cA q42 14 (fun _ => 0), aI cA z 14 (fun _ => 0)]) dX9_init_55 kw_459 (by decide) (by decide) (by decide) (by rw [hrc]; exact Nat.le_of_ble_eq_true rfl) (by rw [hrs]; exact Nat.le_of_ble_eq_true rfl) rfl rfl (fun _ => rfl) (fun q55 => ?_)
  refine g_putF C 57 0 7 (ws' := [oB q_t 9 [.int (0 : Int32), .ref q12, .ref q20, .ref q29, .int (0 : Int32), .ref q42, .int (0 : Int32), .ref q55, .null, .null, .int 0, .null, .null, .null, .null, .null, .null, .null, .null, .null, .long 0, .long 0, .long 0], aI cA q12 14 (fun _ => 0), aI cA q20 14 (fun _ => 0), aI cA q29 196 (fun _ => 0), aI cA q42 14 (fun _ => 0), aI cA q55 14 (fun _ => 0)]) tyX9 dX9_init_57 inX9 tyX9_ok nmX9 rfl rfl (by decide) kw_371 rfl hnm rfl rfl rfl (Nat.le_of_ble_eq_true rfl) rfl ?_
  refine g_aload_n C 60 0 dX9_init_60 rfl rfl ?_
  refine g_bipush C 61 (14 : Int32) dX9_init_61 (by decide) ?_
  refine g_newI C 63 14 6 266 (fun z => [oB q_t 9 [.int (0 : Int32), .ref q12, .ref q20, .ref q29, .int (0 : Int32), .ref q42, .int (0 : Int32), .ref q55, .null, .null, .int 0, .null, .null, .null, .null, .null, .null, .null, .null, .null, .long 0, .long 0, .long 0], aI cA q12 14 (fun _ => 0), aI cA q20 14 (fun _ => 0), aI cA q29 196 (fun _ => 0), aI cA q42 14 (fun _ => 0), aI cA q55 14 (fun _ => 0), aI cA z 14 (fun _ => 0)]) dX9_init_63 kw_459 (by decide) (by decide) (by decide) (by rw [hrc]; exact Nat.le_of_ble_eq_true rfl) (by rw [hrs]; exact Nat.le_of_ble_eq_true rfl) rfl rfl (fun _ => rfl) (fun q63 => ?_)
  refine g_putF C 65 0 8 (ws' := [oB q_t 9 [.int (0 : Int32), .ref q12, .ref q20, .ref q29, .int (0 : Int32), .ref q42, .int (0 : Int32), .ref q55, .ref q63, .null, .int 0, .null, .null, .null, .null, .null, .null, .null, .null, .null, .long 0, .long 0, .long 0], aI cA q12 14 (fun _ => 0), aI cA q20 14 (fun _ => 0), aI cA q29 196 (fun _ => 0), aI cA q42 14 (fun _ => 0), aI cA q55 14 (fun _ => 0), aI cA q63 14 (fun _ => 0)]) tyX9 dX9_init_65 inX9 tyX9_ok nmX9 rfl rfl (by decide) kw_380 rfl hnm rfl rfl rfl (Nat.le_of_ble_eq_true rfl) rfl ?_
  refine g_aload_n C 68 0 dX9_init_68 rfl rfl ?_
  refine g_sipush C 69 (16384 : Int32) dX9_init_69 (by decide) ?_
  refine g_newI C 72 16384 7 16650 (fun z => [oB q_t 9 [.int (0 : Int32), .ref q12, .ref q20, .ref q29, .int (0 : Int32), .ref q42, .int (0 : Int32), .ref q55, .ref q63, .null, .int 0, .null, .null, .null, .null, .null, .null, .null, .null, .null, .long 0, .long 0, .long 0], aI cA q12 14 (fun _ => 0), aI cA q20 14 (fun _ => 0), aI cA q29 196 (fun _ => 0), aI cA q42 14 (fun _ => 0), aI cA q55 14 (fun _ => 0), aI cA q63 14 (fun _ => 0), aI cA z 16384 (fun _ => 0)]) dX9_init_72 kw_459 (by decide) (by decide) (by decide) (by rw [hrc]; exact Nat.le_of_ble_eq_true rfl) (by rw [hrs]; exact Nat.le_of_ble_eq_true rfl) rfl rfl (fun _ => rfl) (fun q72 => ?_)
  refine g_putF C 74 0 9 (ws' := [oB q_t 9 [.int (0 : Int32), .ref q12, .ref q20, .ref q29, .int (0 : Int32), .ref q42, .int (0 : Int32), .ref q55, .ref q63, .ref q72, .int 0, .null, .null, .null, .null, .null, .null, .null, .null, .null, .long 0, .long 0, .long 0], aI cA q12 14 (fun _ => 0), aI cA q20 14 (fun _ => 0), aI cA q29 196 (fun _ => 0), aI cA q42 14 (fun _ => 0), aI cA q55 14 (fun _ => 0), aI cA q63 14 (fun _ => 0), aI cA q72 16384 (fun _ => 0)]) tyX9 dX9_init_74 inX9 tyX9_ok nmX9 rfl rfl (by decide) kw_389 rfl hnm rfl rfl rfl (Nat.le_of_ble_eq_true rfl) rfl ?_
  refine g_aload_n C 77 0 dX9_init_77 rfl rfl ?_
  refine g_iconst C 78 (2 : Int32) dX9_init_78 (by decide) ?_
  refine g_putV C 79 0 10 (ws' := [oB q_t 9 [.int (0 : Int32), .ref q12, .ref q20, .ref q29, .int (0 : Int32), .ref q42, .int (0 : Int32), .ref q55, .ref q63, .ref q72, .int (2 : Int32), .null, .null, .null, .null, .null, .null, .null, .null, .null, .long 0, .long 0, .long 0], aI cA q12 14 (fun _ => 0), aI cA q20 14 (fun _ => 0), aI cA q29 196 (fun _ => 0), aI cA q42 14 (fun _ => 0), aI cA q55 14 (fun _ => 0), aI cA q63 14 (fun _ => 0), aI cA q72 16384 (fun _ => 0)]) tyX9 dX9_init_79 inX9 tyX9_ok nmX9 rfl rfl (by decide) kw_398 rfl rfl rfl (Nat.le_of_ble_eq_true rfl) rfl ?_
  refine g_aload_n C 82 0 dX9_init_82 rfl rfl ?_
  refine g_iconst C 83 (4 : Int32) dX9_init_83 (by decide) ?_
  refine g_newI C 84 4 8 16654 (fun z => [oB q_t 9 [.int (0 : Int32), .ref q12, .ref q20, .ref q29, .int (0 : Int32), .ref q42, .int (0 : Int32), .ref q55, .ref q63, .ref q72, .int (2 : Int32), .null, .null, .null, .null, .null, .null, .null, .null, .null, .long 0, .long 0, .long 0], aI cA q12 14 (fun _ => 0), aI cA q20 14 (fun _ => 0), aI cA q29 196 (fun _ => 0), aI cA q42 14 (fun _ => 0), aI cA q55 14 (fun _ => 0), aI cA q63 14 (fun _ => 0), aI cA q72 16384 (fun _ => 0), aI cA z 4 (fun _ => 0)]) dX9_init_84 kw_459 (by decide) (by decide) (by decide) (by rw [hrc]; exact Nat.le_of_ble_eq_true rfl) (by rw [hrs]; exact Nat.le_of_ble_eq_true rfl) rfl rfl (fun _ => rfl) (fun q84 => ?_)
  refine g_putF C 86 0 11 (ws' := [oB q_t 9 [.int (0 : Int32), .ref q12, .ref q20, .ref q29, .int (0 : Int32), .ref q42, .int (0 : Int32), .ref q55, .ref q63, .ref q72, .int (2 : Int32), .ref q84, .null, .null, .null, .null, .null, .null, .null, .null, .long 0, .long 0, .long 0], aI cA q12 14 (fun _ => 0), aI cA q20 14 (fun _ => 0), aI cA q29 196 (fun _ => 0), aI cA q42 14 (fun _ => 0), aI cA q55 14 (fun _ => 0), aI cA q63 14 (fun _ => 0), aI cA q72 16384 (fun _ => 0), aI cA q84 4 (fun _ => 0)]) tyX9 dX9_init_86 inX9 tyX9_ok nmX9 rfl rfl (by decide) kw_402 rfl hnm rfl rfl rfl (Nat.le_of_ble_eq_true rfl) rfl ?_
  refine g_aload_n C 89 0 dX9_init_89 rfl rfl ?_
  refine g_bipush C 90 (16 : Int32) dX9_init_90 (by decide) ?_
  refine g_newI C 92 16 9 16670 (fun z => [oB q_t 9 [.int (0 : Int32), .ref q12, .ref q20, .ref q29, .int (0 : Int32), .ref q42, .int (0 : Int32), .ref q55, .ref q63, .ref q72, .int (2 : Int32), .ref q84, .null, .null, .null, .null, .null, .null, .null, .null, .long 0, .long 0, .long 0], aI cA q12 14 (fun _ => 0), aI cA q20 14 (fun _ => 0), aI cA q29 196 (fun _ => 0), aI cA q42 14 (fun _ => 0), aI cA q55 14 (fun _ => 0), aI cA q63 14 (fun _ => 0), aI cA q72 16384 (fun _ => 0), aI cA q84 4 (fun _ => 0), aI cA z 16 (fun _ => 0)]) dX9_init_92 kw_459 (by decide) (by decide) (by decide) (by rw [hrc]; exact Nat.le_of_ble_eq_true rfl) (by rw [hrs]; exact Nat.le_of_ble_eq_true rfl) rfl rfl (fun _ => rfl) (fun q92 => ?_)
  refine g_putF C 94 0 12 (ws' := [oB q_t 9 [.int (0 : Int32), .ref q12, .ref q20, .ref q29, .int (0 : Int32), .ref q42, .int (0 : Int32), .ref q55, .ref q63, .ref q72, .int (2 : Int32), .ref q84, .ref q92, .null, .null, .null, .null, .null, .null, .null, .long 0, .long 0, .long 0], aI cA q12 14 (fun _ => 0), aI cA q20 14 (fun _ => 0), aI cA q29 196 (fun _ => 0), aI cA q42 14 (fun _ => 0), aI cA q55 14 (fun _ => 0), aI cA q63 14 (fun _ => 0), aI cA q72 16384 (fun _ => 0), aI cA q84 4 (fun _ => 0), aI cA q92 16 (fun _ => 0)]) tyX9 dX9_init_94 inX9 tyX9_ok nmX9 rfl rfl (by decide) kw_400 rfl hnm rfl rfl rfl (Nat.le_of_ble_eq_true rfl) rfl ?_
  refine g_aload_n C 97 0 dX9_init_97 rfl rfl ?_
  refine g_bipush C 98 (14 : Int32) dX9_init_98 (by decide) ?_
  refine g_newI C 100 14 10 16684 (fun z => [oB q_t 9 [.int (0 : Int32), .ref q12, .ref q20, .ref q29, .int (0 : Int32), .ref q42, .int (0 : Int32), .ref q55, .ref q63, .ref q72, .int (2 : Int32), .ref q84, .ref q92, .null, .null, .null, .null, .null, .null, .null, .long 0, .long 0, .long 0], aI cA q12 14 (fun _ => 0), aI cA q20 14 (fun _ => 0), aI cA q29 196 (fun _ => 0), aI cA q42 14 (fun _ => 0), aI cA q55 14 (fun _ => 0), aI cA q63 14 (fun _ => 0), aI cA q72 16384 (fun _ => 0), aI cA q84 4 (fun _ => 0), aI cA q92 16 (fun _ => 0), aI cA z 14 (fun _ => 0)]) dX9_init_100 kw_459 (by decide) (by decide) (by decide) (by rw [hrc]; exact Nat.le_of_ble_eq_true rfl) (by rw [hrs]; exact Nat.le_of_ble_eq_true rfl) rfl rfl (fun _ => rfl) (fun q100 => ?_)
  refine g_putF C 102 0 13 (ws' := [oB q_t 9 [.int (0 : Int32), .ref q12, .ref q20, .ref q29, .int (0 : Int32), .ref q42, .int (0 : Int32), .ref q55, .ref q63, .ref q72, .int (2 : Int32), .ref q84, .ref q92, .ref q100, .null, .null, .null, .null, .null, .null, .long 0, .long 0, .long 0], aI cA q12 14 (fun _ => 0), aI cA q20 14 (fun _ => 0), aI cA q29 196 (fun _ => 0), aI cA q42 14 (fun _ => 0), aI cA q55 14 (fun _ => 0), aI cA q63 14 (fun _ => 0), aI cA q72 16384 (fun _ => 0), aI cA q84 4 (fun _ => 0), aI cA q92 16 (fun _ => 0), aI cA q100 14 (fun _ => 0)]) tyX9 dX9_init_102 inX9 tyX9_ok nmX9 rfl rfl (by decide) kw_399 rfl hnm rfl rfl rfl (Nat.le_of_ble_eq_true rfl) rfl ?_
  refine g_aload_n C 105 0 dX9_init_105 rfl rfl ?_
  refine g_bipush C 106 (16 : Int32) dX9_init_106 (by decide) ?_
  refine g_newZ C 108 16 11 16700 (fun z => [oB q_t 9 [.int (0 : Int32), .ref q12, .ref q20, .ref q29, .int (0 : Int32), .ref q42, .int (0 : Int32), .ref q55, .ref q63, .ref q72, .int (2 : Int32), .ref q84, .ref q92, .ref q100, .null, .null, .null, .null, .null, .null, .long 0, .long 0, .long 0], aI cA q12 14 (fun _ => 0), aI cA q20 14 (fun _ => 0), aI cA q29 196 (fun _ => 0), aI cA q42 14 (fun _ => 0), aI cA q55 14 (fun _ => 0), aI cA q63 14 (fun _ => 0), aI cA q72 16384 (fun _ => 0), aI cA q84 4 (fun _ => 0), aI cA q92 16 (fun _ => 0), aI cA q100 14 (fun _ => 0), aZ cA z 16 (fun _ => 0)]) dX9_init_108 kw_463 (by decide) (by decide) (by decide) (by rw [hrc]; exact Nat.le_of_ble_eq_true rfl) (by rw [hrs]; exact Nat.le_of_ble_eq_true rfl) rfl rfl (fun _ => rfl) (fun q108 => ?_)
  refine g_putF C 110 0 14 (ws' := [oB q_t 9 [.int (0 : Int32), .ref q12, .ref q20, .ref q29, .int (0 : Int32), .ref q42, .int (0 : Int32), .ref q55, .ref q63, .ref q72, .int (2 : Int32), .ref q84, .ref q92, .ref q100, .ref q108, .null, .null, .null, .null, .null, .long 0, .long 0, .long 0], aI cA q12 14 (fun _ => 0), aI cA q20 14 (fun _ => 0), aI cA q29 196 (fun _ => 0), aI cA q42 14 (fun _ => 0), aI cA q55 14 (fun _ => 0), aI cA q63 14 (fun _ => 0), aI cA q72 16384 (fun _ => 0), aI cA q84 4 (fun _ => 0), aI cA q92 16 (fun _ => 0), aI cA q100 14 (fun _ => 0), aZ cA q108 16 (fun _ => 0)]) tyX9 dX9_init_110 inX9 tyX9_ok nmX9 rfl rfl (by decide) kw_401 rfl hnm rfl rfl rfl (Nat.le_of_ble_eq_true rfl) rfl ?_
  refine g_aload_n C 113 0 dX9_init_113 rfl rfl ?_
  refine g_bipush C 114 (14 : Int32) dX9_init_114 (by decide) ?_
  refine g_newI C 116 14 12 16714 (fun z => [oB q_t 9 [.int (0 : Int32), .ref q12, .ref q20, .ref q29, .int (0 : Int32), .ref q42, .int (0 : Int32), .ref q55, .ref q63, .ref q72, .int (2 : Int32), .ref q84, .ref q92, .ref q100, .ref q108, .null, .null, .null, .null, .null, .long 0, .long 0, .long 0], aI cA q12 14 (fun _ => 0), aI cA q20 14 (fun _ => 0), aI cA q29 196 (fun _ => 0), aI cA q42 14 (fun _ => 0), aI cA q55 14 (fun _ => 0), aI cA q63 14 (fun _ => 0), aI cA q72 16384 (fun _ => 0), aI cA q84 4 (fun _ => 0), aI cA q92 16 (fun _ => 0), aI cA q100 14 (fun _ => 0), aZ cA q108 16 (fun _ => 0), aI cA z 14 (fun _ => 0)]) dX9_init_116 kw_459 (by decide) (by decide) (by decide) (by rw [hrc]; exact Nat.le_of_ble_eq_true rfl) (by rw [hrs]; exact Nat.le_of_ble_eq_true rfl) rfl rfl (fun _ => rfl) (fun q116 => ?_)
  refine g_putF C 118 0 15 (ws' := [oB q_t 9 [.int (0 : Int32), .ref q12, .ref q20, .ref q29, .int (0 : Int32), .ref q42, .int (0 : Int32), .ref q55, .ref q63, .ref q72, .int (2 : Int32), .ref q84, .ref q92, .ref q100, .ref q108, .ref q116, .null, .null, .null, .null, .long 0, .long 0, .long 0], aI cA q12 14 (fun _ => 0), aI cA q20 14 (fun _ => 0), aI cA q29 196 (fun _ => 0), aI cA q42 14 (fun _ => 0), aI cA q55 14 (fun _ => 0), aI cA q63 14 (fun _ => 0), aI cA q72 16384 (fun _ => 0), aI cA q84 4 (fun _ => 0), aI cA q92 16 (fun _ => 0), aI cA q100 14 (fun _ => 0), aZ cA q108 16 (fun _ => 0), aI cA q116 14 (fun _ => 0)]) tyX9 dX9_init_118 inX9 tyX9_ok nmX9 rfl rfl (by decide) kw_411 rfl hnm rfl rfl rfl (Nat.le_of_ble_eq_true rfl) rfl ?_
  refine g_aload_n C 121 0 dX9_init_121 rfl rfl ?_
  refine g_bipush C 122 (14 : Int32) dX9_init_122 (by decide) ?_
  refine g_newI C 124 14 13 16728 (fun z => [oB q_t 9 [.int (0 : Int32), .ref q12, .ref q20, .ref q29, .int (0 : Int32), .ref q42, .int (0 : Int32), .ref q55, .ref q63, .ref q72, .int (2 : Int32), .ref q84, .ref q92, .ref q100, .ref q108, .ref q116, .null, .null, .null, .null, .long 0, .long 0, .long 0], aI cA q12 14 (fun _ => 0), aI cA q20 14 (fun _ => 0), aI cA q29 196 (fun _ => 0), aI cA q42 14 (fun _ => 0), aI cA q55 14 (fun _ => 0), aI cA q63 14 (fun _ => 0), aI cA q72 16384 (fun _ => 0), aI cA q84 4 (fun _ => 0), aI cA q92 16 (fun _ => 0), aI cA q100 14 (fun _ => 0), aZ cA q108 16 (fun _ => 0), aI cA q116 14 (fun _ => 0), aI cA z 14 (fun _ => 0)]) dX9_init_124 kw_459 (by decide) (by decide) (by decide) (by rw [hrc]; exact Nat.le_of_ble_eq_true rfl) (by rw [hrs]; exact Nat.le_of_ble_eq_true rfl) rfl rfl (fun _ => rfl) (fun q124 => ?_)
  refine g_putF C 126 0 16 (ws' := [oB q_t 9 [.int (0 : Int32), .ref q12, .ref q20, .ref q29, .int (0 : Int32), .ref q42, .int (0 : Int32), .ref q55, .ref q63, .ref q72, .int (2 : Int32), .ref q84, .ref q92, .ref q100, .ref q108, .ref q116, .ref q124, .null, .null, .null, .long 0, .long 0, .long 0], aI cA q12 14 (fun _ => 0), aI cA q20 14 (fun _ => 0), aI cA q29 196 (fun _ => 0), aI cA q42 14 (fun _ => 0), aI cA q55 14 (fun _ => 0), aI cA q63 14 (fun _ => 0), aI cA q72 16384 (fun _ => 0), aI cA q84 4 (fun _ => 0), aI cA q92 16 (fun _ => 0), aI cA q100 14 (fun _ => 0), aZ cA q108 16 (fun _ => 0), aI cA q116 14 (fun _ => 0), aI cA q124 14 (fun _ => 0)]) tyX9 dX9_init_126 inX9 tyX9_ok nmX9 rfl rfl (by decide) kw_412 rfl hnm rfl rfl rfl (Nat.le_of_ble_eq_true rfl) rfl ?_
  refine g_aload_n C 129 0 dX9_init_129 rfl rfl ?_
  refine g_sipush C 130 (14336 : Int32) dX9_init_130 (by decide) ?_
  refine g_newJ C 133 14336 14 31064 (fun z => [oB q_t 9 [.int (0 : Int32), .ref q12, .ref q20, .ref q29, .int (0 : Int32), .ref q42, .int (0 : Int32), .ref q55, .ref q63, .ref q72, .int (2 : Int32), .ref q84, .ref q92, .ref q100, .ref q108, .ref q116, .ref q124, .null, .null, .null, .long 0, .long 0, .long 0], aI cA q12 14 (fun _ => 0), aI cA q20 14 (fun _ => 0), aI cA q29 196 (fun _ => 0), aI cA q42 14 (fun _ => 0), aI cA q55 14 (fun _ => 0), aI cA q63 14 (fun _ => 0), aI cA q72 16384 (fun _ => 0), aI cA q84 4 (fun _ => 0), aI cA q92 16 (fun _ => 0), aI cA q100 14 (fun _ => 0), aZ cA q108 16 (fun _ => 0), aI cA q116 14 (fun _ => 0), aI cA q124 14 (fun _ => 0), aJ cA z 14336 (fun _ => 0)]) dX9_init_133 kw_495 (by decide) (by decide) (by decide) (by rw [hrc]; exact Nat.le_of_ble_eq_true rfl) (by rw [hrs]; exact Nat.le_of_ble_eq_true rfl) rfl rfl (fun _ => rfl) (fun q133 => ?_)
  refine g_putF C 135 0 17 (ws' := [oB q_t 9 [.int (0 : Int32), .ref q12, .ref q20, .ref q29, .int (0 : Int32), .ref q42, .int (0 : Int32), .ref q55, .ref q63, .ref q72, .int (2 : Int32), .ref q84, .ref q92, .ref q100, .ref q108, .ref q116, .ref q124, .ref q133, .null, .null, .long 0, .long 0, .long 0], aI cA q12 14 (fun _ => 0), aI cA q20 14 (fun _ => 0), aI cA q29 196 (fun _ => 0), aI cA q42 14 (fun _ => 0), aI cA q55 14 (fun _ => 0), aI cA q63 14 (fun _ => 0), aI cA q72 16384 (fun _ => 0), aI cA q84 4 (fun _ => 0), aI cA q92 16 (fun _ => 0), aI cA q100 14 (fun _ => 0), aZ cA q108 16 (fun _ => 0), aI cA q116 14 (fun _ => 0), aI cA q124 14 (fun _ => 0), aJ cA q133 14336 (fun _ => 0)]) tyX9 dX9_init_135 inX9 tyX9_ok nmX9 rfl rfl (by decide) kw_421 rfl hnm rfl rfl rfl (Nat.le_of_ble_eq_true rfl) rfl ?_
  refine g_aload_n C 138 0 dX9_init_138 rfl rfl ?_
  refine g_sipush C 139 (14336 : Int32) dX9_init_139 (by decide) ?_
  refine g_newJ C 142 14336 15 45400 (fun z => [oB q_t 9 [.int (0 : Int32), .ref q12, .ref q20, .ref q29, .int (0 : Int32), .ref q42, .int (0 : Int32), .ref q55, .ref q63, .ref q72, .int (2 : Int32), .ref q84, .ref q92, .ref q100, .ref q108, .ref q116, .ref q124, .ref q133, .null, .null, .long 0, .long 0, .long 0], aI cA q12 14 (fun _ => 0), aI cA q20 14 (fun _ => 0), aI cA q29 196 (fun _ => 0), aI cA q42 14 (fun _ => 0), aI cA q55 14 (fun _ => 0), aI cA q63 14 (fun _ => 0), aI cA q72 16384 (fun _ => 0), aI cA q84 4 (fun _ => 0), aI cA q92 16 (fun _ => 0), aI cA q100 14 (fun _ => 0), aZ cA q108 16 (fun _ => 0), aI cA q116 14 (fun _ => 0), aI cA q124 14 (fun _ => 0), aJ cA q133 14336 (fun _ => 0), aJ cA z 14336 (fun _ => 0)]) dX9_init_142 kw_495 (by decide) (by decide) (by decide) (by rw [hrc]; exact Nat.le_of_ble_eq_true rfl) (by rw [hrs]; exact Nat.le_of_ble_eq_true rfl) rfl rfl (fun _ => rfl) (fun q142 => ?_)
  refine g_putF C 144 0 18 (ws' := [oB q_t 9 [.int (0 : Int32), .ref q12, .ref q20, .ref q29, .int (0 : Int32), .ref q42, .int (0 : Int32), .ref q55, .ref q63, .ref q72, .int (2 : Int32), .ref q84, .ref q92, .ref q100, .ref q108, .ref q116, .ref q124, .ref q133, .ref q142, .null, .long 0, .long 0, .long 0], aI cA q12 14 (fun _ => 0), aI cA q20 14 (fun _ => 0), aI cA q29 196 (fun _ => 0), aI cA q42 14 (fun _ => 0), aI cA q55 14 (fun _ => 0), aI cA q63 14 (fun _ => 0), aI cA q72 16384 (fun _ => 0), aI cA q84 4 (fun _ => 0), aI cA q92 16 (fun _ => 0), aI cA q100 14 (fun _ => 0), aZ cA q108 16 (fun _ => 0), aI cA q116 14 (fun _ => 0), aI cA q124 14 (fun _ => 0), aJ cA q133 14336 (fun _ => 0), aJ cA q142 14336 (fun _ => 0)]) tyX9 dX9_init_144 inX9 tyX9_ok nmX9 rfl rfl (by decide) kw_422 rfl hnm rfl rfl rfl (Nat.le_of_ble_eq_true rfl) rfl ?_
  refine g_aload_n C 147 0 dX9_init_147 rfl rfl ?_
  refine g_sipush C 148 (14336 : Int32) dX9_init_148 (by decide) ?_
  refine g_newJ C 151 14336 16 59736 (fun z => [oB q_t 9 [.int (0 : Int32), .ref q12, .ref q20, .ref q29, .int (0 : Int32), .ref q42, .int (0 : Int32), .ref q55, .ref q63, .ref q72, .int (2 : Int32), .ref q84, .ref q92, .ref q100, .ref q108, .ref q116, .ref q124, .ref q133, .ref q142, .null, .long 0, .long 0, .long 0], aI cA q12 14 (fun _ => 0), aI cA q20 14 (fun _ => 0), aI cA q29 196 (fun _ => 0), aI cA q42 14 (fun _ => 0), aI cA q55 14 (fun _ => 0), aI cA q63 14 (fun _ => 0), aI cA q72 16384 (fun _ => 0), aI cA q84 4 (fun _ => 0), aI cA q92 16 (fun _ => 0), aI cA q100 14 (fun _ => 0), aZ cA q108 16 (fun _ => 0), aI cA q116 14 (fun _ => 0), aI cA q124 14 (fun _ => 0), aJ cA q133 14336 (fun _ => 0), aJ cA q142 14336 (fun _ => 0), aJ cA z 14336 (fun _ => 0)]) dX9_init_151 kw_495 (by decide) (by decide) (by decide) (by rw [hrc]; exact Nat.le_of_ble_eq_true rfl) (by rw [hrs]; exact Nat.le_of_ble_eq_true rfl) rfl rfl (fun _ => rfl) (fun q151 => ?_)
  refine g_putF C 153 0 19 (ws' := [oB q_t 9 [.int (0 : Int32), .ref q12, .ref q20, .ref q29, .int (0 : Int32), .ref q42, .int (0 : Int32), .ref q55, .ref q63, .ref q72, .int (2 : Int32), .ref q84, .ref q92, .ref q100, .ref q108, .ref q116, .ref q124, .ref q133, .ref q142, .ref q151, .long 0, .long 0, .long 0], aI cA q12 14 (fun _ => 0), aI cA q20 14 (fun _ => 0), aI cA q29 196 (fun _ => 0), aI cA q42 14 (fun _ => 0), aI cA q55 14 (fun _ => 0), aI cA q63 14 (fun _ => 0), aI cA q72 16384 (fun _ => 0), aI cA q84 4 (fun _ => 0), aI cA q92 16 (fun _ => 0), aI cA q100 14 (fun _ => 0), aZ cA q108 16 (fun _ => 0), aI cA q116 14 (fun _ => 0), aI cA q124 14 (fun _ => 0), aJ cA q133 14336 (fun _ => 0), aJ cA q142 14336 (fun _ => 0), aJ cA q151 14336 (fun _ => 0)]) tyX9 dX9_init_153 inX9 tyX9_ok nmX9 rfl rfl (by decide) kw_423 rfl hnm rfl rfl rfl (Nat.le_of_ble_eq_true rfl) rfl ?_
  refine g_aload_n C 156 0 dX9_init_156 rfl rfl ?_
  refine g_lconst C 157 (0 : Int64) dX9_init_157 (by decide) ?_
  refine g_putV C 158 0 20 (ws' := [oB q_t 9 [.int (0 : Int32), .ref q12, .ref q20, .ref q29, .int (0 : Int32), .ref q42, .int (0 : Int32), .ref q55, .ref q63, .ref q72, .int (2 : Int32), .ref q84, .ref q92, .ref q100, .ref q108, .ref q116, .ref q124, .ref q133, .ref q142, .ref q151, .long (0 : Int64), .long 0, .long 0], aI cA q12 14 (fun _ => 0), aI cA q20 14 (fun _ => 0), aI cA q29 196 (fun _ => 0), aI cA q42 14 (fun _ => 0), aI cA q55 14 (fun _ => 0), aI cA q63 14 (fun _ => 0), aI cA q72 16384 (fun _ => 0), aI cA q84 4 (fun _ => 0), aI cA q92 16 (fun _ => 0), aI cA q100 14 (fun _ => 0), aZ cA q108 16 (fun _ => 0), aI cA q116 14 (fun _ => 0), aI cA q124 14 (fun _ => 0), aJ cA q133 14336 (fun _ => 0), aJ cA q142 14336 (fun _ => 0), aJ cA q151 14336 (fun _ => 0)]) tyX9 dX9_init_158 inX9 tyX9_ok nmX9 rfl rfl (by decide) kw_424 rfl rfl rfl (Nat.le_of_ble_eq_true rfl) rfl ?_
  refine g_aload_n C 161 0 dX9_init_161 rfl rfl ?_
  refine g_lconst C 162 (0 : Int64) dX9_init_162 (by decide) ?_
  refine g_putV C 163 0 21 (ws' := [oB q_t 9 [.int (0 : Int32), .ref q12, .ref q20, .ref q29, .int (0 : Int32), .ref q42, .int (0 : Int32), .ref q55, .ref q63, .ref q72, .int (2 : Int32), .ref q84, .ref q92, .ref q100, .ref q108, .ref q116, .ref q124, .ref q133, .ref q142, .ref q151, .long (0 : Int64), .long (0 : Int64), .long 0], aI cA q12 14 (fun _ => 0), aI cA q20 14 (fun _ => 0), aI cA q29 196 (fun _ => 0), aI cA q42 14 (fun _ => 0), aI cA q55 14 (fun _ => 0), aI cA q63 14 (fun _ => 0), aI cA q72 16384 (fun _ => 0), aI cA q84 4 (fun _ => 0), aI cA q92 16 (fun _ => 0), aI cA q100 14 (fun _ => 0), aZ cA q108 16 (fun _ => 0), aI cA q116 14 (fun _ => 0), aI cA q124 14 (fun _ => 0), aJ cA q133 14336 (fun _ => 0), aJ cA q142 14336 (fun _ => 0), aJ cA q151 14336 (fun _ => 0)]) tyX9 dX9_init_163 inX9 tyX9_ok nmX9 rfl rfl (by decide) kw_425 rfl rfl rfl (Nat.le_of_ble_eq_true rfl) rfl ?_
  refine g_aload_n C 166 0 dX9_init_166 rfl rfl ?_
  refine g_lconst C 167 (0 : Int64) dX9_init_167 (by decide) ?_
  refine g_putV C 168 0 22 (ws' := [oB q_t 9 [.int (0 : Int32), .ref q12, .ref q20, .ref q29, .int (0 : Int32), .ref q42, .int (0 : Int32), .ref q55, .ref q63, .ref q72, .int (2 : Int32), .ref q84, .ref q92, .ref q100, .ref q108, .ref q116, .ref q124, .ref q133, .ref q142, .ref q151, .long (0 : Int64), .long (0 : Int64), .long (0 : Int64)], aI cA q12 14 (fun _ => 0), aI cA q20 14 (fun _ => 0), aI cA q29 196 (fun _ => 0), aI cA q42 14 (fun _ => 0), aI cA q55 14 (fun _ => 0), aI cA q63 14 (fun _ => 0), aI cA q72 16384 (fun _ => 0), aI cA q84 4 (fun _ => 0), aI cA q92 16 (fun _ => 0), aI cA q100 14 (fun _ => 0), aZ cA q108 16 (fun _ => 0), aI cA q116 14 (fun _ => 0), aI cA q124 14 (fun _ => 0), aJ cA q133 14336 (fun _ => 0), aJ cA q142 14336 (fun _ => 0), aJ cA q151 14336 (fun _ => 0)]) tyX9 dX9_init_168 inX9 tyX9_ok nmX9 rfl rfl (by decide) kw_426 rfl rfl rfl (Nat.le_of_ble_eq_true rfl) rfl ?_
  exact g_vret C 171 dX9_init_171 F ⟨q12, q20, q29, q42, q55, q63, q72, q84, q92, q100, q108, q116, q124, q133, q142, q151, rfl, rfl⟩
end
section
/-! The search's levels: fifteen objects of one kind, two cells each. -/
def lvW (cA : Nat → ClassId) (ad an : Nat → Nat) (lf ne : Nat → Int32) (nr : Nat → Nat → Int32) : va_W := (List.range 30).map (fun k => if k % 2 = 0 then oB (ad (k / 2)) 1 [.ref (an (k / 2)), .int (lf (k / 2)), .int (ne (k / 2))] else aI cA (an (k / 2)) 14 (nr (k / 2)))
theorem lvW_len {cA : Nat → ClassId} {ad an : Nat → Nat} {lf ne : Nat → Int32} {nr : Nat → Nat → Int32} : (lvW cA ad an lf ne nr).length = 30 := by simp [lvW]
theorem lvW_get {cA : Nat → ClassId} {ad an : Nat → Nat} {lf ne : Nat → Int32} {nr : Nat → Nat → Int32} {k : Nat} (h : k < 30) : (lvW cA ad an lf ne nr)[k]? = some (if k % 2 = 0 then oB (ad (k / 2)) 1 [.ref (an (k / 2)), .int (lf (k / 2)), .int (ne (k / 2))] else aI cA (an (k / 2)) 14 (nr (k / 2))) := by
  unfold lvW
  rw [List.getElem?_map, List.getElem?_range h]
  rfl
section FAM
variable {B : va_W} {cA : Nat → ClassId} {ad an : Nat → Nat} {lf ne : Nat → Int32} {nr : Nat → Nat → Int32} {n0 j i : Nat}
theorem fam_o (hB : B.length = n0) (hj : j < 15) : (B ++ lvW cA ad an lf ne nr)[n0 + 2 * j]? = some (oB (ad j) 1 [.ref (an j), .int (lf j), .int (ne j)]) := by
  subst hB
  rw [List.getElem?_append_right (by omega), show B.length + 2 * j - B.length = 2 * j by omega, lvW_get (by omega), if_pos (by omega), show 2 * j / 2 = j by omega]
theorem fam_a (hB : B.length = n0) (hj : j < 15) : (B ++ lvW cA ad an lf ne nr)[n0 + 2 * j + 1]? = some (aI cA (an j) 14 (nr j)) := by
  subst hB
  rw [List.getElem?_append_right (by omega), show B.length + 2 * j + 1 - B.length = 2 * j + 1 by omega, lvW_get (by omega), if_neg (by omega), show (2 * j + 1) / 2 = j by omega]
theorem fam_b (hB : B.length = n0) {k : Nat} (hk : k < n0) : (B ++ lvW cA ad an lf ne nr)[k]? = B[k]? := by
  subst hB
  exact List.getElem?_append_left hk
theorem fam_cases (hB : B.length = n0) {k : Nat} {q : Nat × va_E} (h : (B ++ lvW cA ad an lf ne nr)[k]? = some q) : (k < n0 ∧ B[k]? = some q) ∨ (∃ j, j < 15 ∧ k = n0 + 2 * j ∧ q = oB (ad j) 1 [.ref (an j), .int (lf j), .int (ne j)]) ∨ (∃ j, j < 15 ∧ k = n0 + 2 * j + 1 ∧ q = aI cA (an j) 14 (nr j)) := by
  subst hB
  by_cases hk : k < B.length
  · rw [List.getElem?_append_left hk] at h
    exact Or.inl ⟨hk, h⟩
  · rw [List.getElem?_append_right (by omega)] at h
    have hl : k - B.length < 30 := by
      have := (List.getElem?_eq_some_iff.mp h).1
      rwa [lvW_len] at this
    rw [lvW_get hl] at h
    by_cases he : (k - B.length) % 2 = 0
    · rw [if_pos he] at h
      exact Or.inr (Or.inl ⟨(k - B.length) / 2, by omega, by omega, (Option.some.inj h).symm⟩)
    · rw [if_neg he] at h
      exact Or.inr (Or.inr ⟨(k - B.length) / 2, by omega, by omega, (Option.some.inj h).symm⟩)
/-- where a callee's cells came back, and what else is as it was -/
theorem put_sub {ws ws' w1 : va_W} {isC : List Nat} (hnd : va_nd isC = true) (hle : isC.length = w1.length) (hlt : ∀ k ∈ isC, k < ws.length) (h : ∀ (k : Nat) (q : Nat × va_E), ws'[k]? = some q → (∃ a : Nat, isC[a]? = some k ∧ w1[a]? = some q) ∨ (k ∉ isC ∧ ws[k]? = some q)) (k : Nat) (q : Nat × va_E) (hk : ws'[k]? = some q) : (putAt ws isC w1)[k]? = some q := by
  rcases h k q hk with ⟨a, h1, h2⟩ | ⟨h1, h2⟩
  · rw [putAt_at1 isC w1 ws a k (Nat.le_of_eq hle) hnd h1 (hlt k (List.mem_of_getElem? h1))]
    exact h2
  · rw [putAt_at2 isC w1 ws k (Nat.le_of_eq hle) h1 (List.getElem?_eq_some_iff.mp h2).1]
    exact h2
theorem put_same {ws wc : va_W} {isC : List Nat} (hnd : va_nd isC = true) (hC : isC.map (fun i => ws[i]?) = wc.map some) (k : Nat) (q : Nat × va_E) (hk : ws[k]? = some q) : (putAt ws isC wc)[k]? = some q := by
  have hle : isC.length = wc.length := by simpa using congrArg List.length hC
  have hlt : ∀ i ∈ isC, i < ws.length := by
    intro i hi
    obtain ⟨a, ha⟩ := List.getElem?_of_mem hi
    have h1 : (isC.map (fun i => ws[i]?))[a]? = some (ws[i]?) := by rw [List.getElem?_map, ha]; rfl
    rw [hC, List.getElem?_map] at h1
    cases hw : wc[a]? with
    | none => rw [hw] at h1; cases h1
    | some c => rw [hw] at h1; exact (List.getElem?_eq_some_iff.mp (Option.some.inj h1).symm).1
  refine put_sub hnd hle hlt (fun k q h => ?_) k q hk
  by_cases hm : k ∈ isC
  · obtain ⟨a, ha⟩ := List.getElem?_of_mem hm
    refine Or.inl ⟨a, ha, ?_⟩
    have h1 : (isC.map (fun i => ws[i]?))[a]? = some (ws[k]?) := by rw [List.getElem?_map, ha]; rfl
    rw [hC, List.getElem?_map, h] at h1
    cases hw : wc[a]? with
    | none => rw [hw] at h1; cases h1
    | some c => rw [hw] at h1; exact Option.some.inj h1
  · exact Or.inr ⟨hm, h⟩
/-- a level's two cells came back, others that the callee had are as they were -/
theorem fam_sub (hB : B.length = n0) (hj : j < 15) {x y : Int32} {f : Nat → Int32} {is : List Nat} {wc : va_W} (hC : is.map (fun i => (B ++ lvW cA ad an lf ne nr)[i]?) = wc.map some) (hnd : va_nd ((n0 + 2 * j) :: (n0 + 2 * j + 1) :: is) = true) (k : Nat) (q : Nat × va_E) (hk : (B ++ lvW cA ad an (upd lf j x) (upd ne j y) (va_up nr j f))[k]? = some q) : (putAt (B ++ lvW cA ad an lf ne nr) ((n0 + 2 * j) :: (n0 + 2 * j + 1) :: is) (oB (ad j) 1 [.ref (an j), .int x, .int y] :: aI cA (an j) 14 f :: wc))[k]? = some q := by
  have hle : is.length = wc.length := by simpa using congrArg List.length hC
  have at' : ∀ (a i : Nat), is[a]? = some i → ∃ c, wc[a]? = some c ∧ (B ++ lvW cA ad an lf ne nr)[i]? = some c := by
    intro a i ha
    have h1 : (is.map (fun i => (B ++ lvW cA ad an lf ne nr)[i]?))[a]? = some ((B ++ lvW cA ad an lf ne nr)[i]?) := by rw [List.getElem?_map, ha]; rfl
    rw [hC, List.getElem?_map] at h1
    cases hw : wc[a]? with
    | none => rw [hw] at h1; cases h1
    | some c => rw [hw] at h1; exact ⟨c, rfl, (Option.some.inj h1).symm⟩
  have hlen : (B ++ lvW cA ad an lf ne nr).length = n0 + 30 := by rw [List.length_append, lvW_len, hB]
  have hnd' := hnd
  simp only [va_nd, Bool.and_eq_true, decide_eq_true_eq] at hnd'
  obtain ⟨n1, n2, n3⟩ := hnd'
  refine put_sub hnd (by simp [hle]) (fun i hi => ?_) (fun k q hk => ?_) k q hk
  · rw [hlen]
    rcases List.mem_cons.mp hi with rfl | hi
    · omega
    rcases List.mem_cons.mp hi with rfl | hi
    · omega
    obtain ⟨a, ha⟩ := List.getElem?_of_mem hi
    obtain ⟨c, -, h2⟩ := at' a i ha
    have := (List.getElem?_eq_some_iff.mp h2).1
    rwa [hlen] at this
  · have old : k ≠ n0 + 2 * j → k ≠ n0 + 2 * j + 1 → (B ++ lvW cA ad an lf ne nr)[k]? = some q → (∃ a : Nat, ((n0 + 2 * j) :: (n0 + 2 * j + 1) :: is)[a]? = some k ∧ (oB (ad j) 1 [.ref (an j), .int x, .int y] :: aI cA (an j) 14 f :: wc)[a]? = some q) ∨ (k ∉ ((n0 + 2 * j) :: (n0 + 2 * j + 1) :: is) ∧ (B ++ lvW cA ad an lf ne nr)[k]? = some q) := by
      intro h1 h2 h3
      by_cases hm : k ∈ is
      · obtain ⟨a, ha⟩ := List.getElem?_of_mem hm
        obtain ⟨c, h4, h5⟩ := at' a k ha
        rw [h3] at h5
        cases h5
        exact Or.inl ⟨a + 2, by simpa using ha, by simpa using h4⟩
      · exact Or.inr ⟨fun h => by
          rcases List.mem_cons.mp h with h | h
          · exact h1 h
          rcases List.mem_cons.mp h with h | h
          · exact h2 h
          exact hm h, h3⟩
    rcases fam_cases hB hk with ⟨h1, h2⟩ | ⟨i, h1, h2, h3⟩ | ⟨i, h1, h2, h3⟩
    · exact old (by omega) (by omega) (by rw [fam_b hB h1]; exact h2)
    · by_cases hij : i = j
      · subst hij
        refine Or.inl ⟨0, by simp [h2], ?_⟩
        rw [h3]
        simp [upd]
      · refine old (by omega) (by omega) ?_
        rw [h2, fam_o hB h1, h3]
        simp [upd, hij]
    · by_cases hij : i = j
      · subst hij
        refine Or.inl ⟨1, by simp [h2], ?_⟩
        rw [h3]
        simp [va_up]
      · refine old (by omega) (by omega) ?_
        rw [h2, fam_a hB h1, h3]
        simp [va_up, hij]
theorem fam_C (hB : B.length = n0) (hj : j < 15) : [n0 + 2 * j, n0 + 2 * j + 1].map (fun i => (B ++ lvW cA ad an lf ne nr)[i]?) = ([oB (ad j) 1 [.ref (an j), .int (lf j), .int (ne j)], aI cA (an j) 14 (nr j)] : va_W).map some := by
  simp only [List.map_cons, List.map_nil, fam_o hB hj, fam_a hB hj]
theorem fam_C2 (hB : B.length = n0) (hj : j < 15) {is : List Nat} {wc : va_W} (hC : is.map (fun i => (B ++ lvW cA ad an lf ne nr)[i]?) = wc.map some) : ((n0 + 2 * j) :: (n0 + 2 * j + 1) :: is).map (fun i => (B ++ lvW cA ad an lf ne nr)[i]?) = (oB (ad j) 1 [.ref (an j), .int (lf j), .int (ne j)] :: aI cA (an j) 14 (nr j) :: wc).map some := by
  simp only [List.map_cons, fam_o hB hj, fam_a hB hj, hC]
theorem nd2 : va_nd [n0 + 2 * j, n0 + 2 * j + 1] = true := by simp [va_nd]
theorem nd4 (h : i ≠ j) : va_nd [n0 + 2 * j, n0 + 2 * j + 1, n0 + 2 * i, n0 + 2 * i + 1] = true := by
  simp [va_nd]
  omega
theorem ndb {a b : Nat} (ha : a < n0) (hb : b < n0) (hab : a ≠ b) : va_nd [n0 + 2 * j, n0 + 2 * j + 1, a, b] = true := by
  simp [va_nd]
  omega
end FAM
def ckI {β : Type} (i : Int32) (n : Nat) (k : Option β) : Option β := if okI i n then k else none
theorem ckI_some {β : Type} {i : Int32} {n : Nat} {k : Option β} {r : β} (h : ckI i n k = some r) : vp_in i n ∧ k = some r := by
  unfold ckI at h; split at h
  · exact ⟨‹_›, h⟩
  · cases h
section GF
variable {X : XT} {cc : ByteArray} {own : String} {ret : Option FieldType} {cA : Nat → ClassId} {fr lo nL k n : Nat} {ws : va_W} {lv : List (Nat × Value)} {st rest : List Value} {ρ : Type} {r : ρ}
theorem g_ald (C : Cx X cc own ret cA fr lo nL) (pc q : Nat) {a m : Nat} {ad : Nat → Nat} {i : Int32} {kf : Option ρ} (d : decode cc pc = .ok (.aaload, 1)) (ha : ws[q]? = some (aG cA a m (fun i => some (ad i)))) (hf : ckI i m kf = some r) (K : i.toNatClampNeg < m → kf = some r → Go X nL k n (pc + 1) ws lv (.ref (ad i.toNatClampNeg) :: st)) : Go X nL k n pc ws lv (.int i :: .ref a :: st) := fun H locs ls hP hD hS hl => va_aldq C.ex C.by C.K hP q 3 ha rfl (ckI_some hf).1 d (K (Nat.not_le.mp fun h => (ckI_some hf).1 (Or.inr h)) (ckI_some hf).2 H locs ls hP hD hS hl)
/-- a call whose cells come back by any proof -/
theorem g_callP (C : Cx X cc own ret cA fr lo nL) (pc : Nat) {y : MethodName} {cc' : ByteArray} {nL' : Nat} {ret' : Option FieldType} {rm : Room} {b : Nat} {As : List Value} {wc w1 ws' : va_W} {res : Option Value} {i ci N : Nat} {fs : List Value} {T : u_T} (isC : List Nat) (q0 : Nat) (d : decode cc pc = .ok (.invokevirtual i, 3)) (hM : MT (x_l X) cA y cc' nL' ret' rm (.ref b :: As) wc (sB res w1))
    (h1 : Cond.methodLink own i y ∈ G) (h2 : Cond.instanceMethod y ∈ G) (h3 : Cond.selects y.cls y y ∈ G) (h4 : Cond.initialized y.cls ∈ G) (h5 : Cond.code y cc' nL' ret' ∈ G) (hd : okY y As.length) (hR : rm.frames + 1 ≤ fr ∧ 8 + (nL' + 11) + rm.locals ≤ lo) (hrc : k ≤ (x_R X).cells ∧ n ≤ (x_R X).slots) (hz : rm.cells = 0 ∧ rm.slots = 0)
    (hq0 : ws[q0]? = some (oB b ci fs)) (hc : vwCl[ci]? = some (y.cls, T, N)) (hC : isC.map (fun i => ws[i]?) = wc.map some) (hnd : va_nd isC = true) (hst : st = As.reverse ++ .ref b :: rest) (hsum : (rest.map fun v => v.category).sum ≤ 8) (hle : isC.length = w1.length) (hsub : ∀ (k : Nat) (q : Nat × va_E), ws'[k]? = some q → (putAt ws isC w1)[k]? = some q) {st' : List Value} (hst' : res.toList ++ rest = st')
    (K : Go X nL k n (pc + 3) ws' lv st') : Go X nL k n pc ws lv st := by
  refine g_callV C pc isC q0 d hM h1 h2 h3 h4 h5 hd hR (by rw [hz.1, hz.2]; exact hrc) hq0 hc hC hnd hst hsum (fun r w h => ?_)
  obtain ⟨rfl, rfl⟩ := h
  refine ⟨Nat.le_of_eq hle, ?_⟩
  rw [hz.1, hz.2, hst']
  exact g_sub hsub K
theorem all_C (ws : va_W) : (List.range ws.length).map (fun i => ws[i]?) = ws.map some := by
  apply List.ext_getElem?
  intro i
  rw [List.getElem?_map, List.getElem?_map]
  by_cases h : i < ws.length
  · rw [List.getElem?_range h, List.getElem?_eq_getElem h]
    simp [h]
  · rw [List.getElem?_eq_none (by simp; omega), List.getElem?_eq_none (by omega)]
    rfl
theorem nd_of_nodup : ∀ (l : List Nat), l.Nodup → va_nd l = true
  | [], _ => rfl
  | a :: l, h => by
    obtain ⟨h1, h2⟩ := List.nodup_cons.mp h
    simp [va_nd, h1, nd_of_nodup l h2]
theorem all_nd (n : Nat) : va_nd (List.range n) = true := nd_of_nodup _ List.nodup_range
/-- a call that has all cells -/
theorem g_callA (C : Cx X cc own ret cA fr lo nL) (pc : Nat) {y : MethodName} {cc' : ByteArray} {nL' : Nat} {ret' : Option FieldType} {rm : Room} {b : Nat} {As : List Value} {w1 : va_W} {res : Option Value} {i ci N : Nat} {fs : List Value} {T : u_T} (q0 : Nat) (d : decode cc pc = .ok (.invokevirtual i, 3)) (hM : MT (x_l X) cA y cc' nL' ret' rm (.ref b :: As) ws (sB res w1))
    (h1 : Cond.methodLink own i y ∈ G) (h2 : Cond.instanceMethod y ∈ G) (h3 : Cond.selects y.cls y y ∈ G) (h4 : Cond.initialized y.cls ∈ G) (h5 : Cond.code y cc' nL' ret' ∈ G) (hd : okY y As.length) (hR : rm.frames + 1 ≤ fr ∧ 8 + (nL' + 11) + rm.locals ≤ lo) (hrc : k ≤ (x_R X).cells ∧ n ≤ (x_R X).slots) (hz : rm.cells = 0 ∧ rm.slots = 0)
    (hq0 : ws[q0]? = some (oB b ci fs)) (hc : vwCl[ci]? = some (y.cls, T, N)) (hst : st = As.reverse ++ .ref b :: rest) (hsum : (rest.map fun v => v.category).sum ≤ 8) (hle : ws.length = w1.length) {st' : List Value} (hst' : res.toList ++ rest = st')
    (K : Go X nL k n (pc + 3) w1 lv st') : Go X nL k n pc ws lv st := by
  refine g_callP C pc (List.range ws.length) q0 d hM h1 h2 h3 h4 h5 hd hR hrc hz hq0 hc (all_C ws) (all_nd _) hst hsum (by rw [List.length_range]; exact hle) (fun k q h => ?_) hst' K
  have hk : k < ws.length := by rw [hle]; exact (List.getElem?_eq_some_iff.mp h).1
  rw [putAt_at1 (List.range ws.length) w1 ws k k (by rw [List.length_range]; exact Nat.le_of_eq hle) (all_nd _) (List.getElem?_range hk) hk]
  exact h
end GF
end
section
/-! Worlds with a tail: P ++ S. -/
section SUF
variable {P S wcP w1 S1 : va_W} {isP : List Nat} {N0 : Nat} {ps : List (Option Nat)}
theorem mkW_len (w1 : va_W) : ∀ (ws : va_W) (ps : List (Option Nat)), ps.length = ws.length → (mkW w1 ws ps).length = ws.length
  | [], [], _ => rfl
  | [], _ :: _, h => by simp at h
  | _ :: _, [], h => by simp at h
  | c :: cs, none :: ps, h => by simp [mkW, mkW_len w1 cs ps (by simpa using h)]
  | c :: cs, some j :: ps, h => by simp [mkW, mkW_len w1 cs ps (by simpa using h)]
theorem plan_len (N : Nat) (is : List Nat) : (planOf N is).length = N := by simp [planOf]
theorem plan_at {k : Nat} {o : Option Nat} (hps : planOf N0 isP = ps) (ho : ps[k]? = some o) : k < N0 ∧ idxI k isP = o := by
  rw [← hps, planOf, List.getElem?_map] at ho
  cases hr : (List.range N0)[k]? with
  | none => rw [hr] at ho; cases ho
  | some a =>
    rw [hr] at ho
    obtain ⟨h1, h2⟩ := List.getElem?_eq_some_iff.mp hr
    simp at h1 h2
    subst h2
    exact ⟨h1, Option.some.inj ho⟩
theorem lt_of_C (hC : isP.map (fun i => P[i]?) = wcP.map some) : ∀ i ∈ isP, i < P.length := by
  intro i hi
  obtain ⟨a, ha⟩ := List.getElem?_of_mem hi
  have h1 : (isP.map (fun i => P[i]?))[a]? = some (P[i]?) := by rw [List.getElem?_map, ha]; rfl
  rw [hC, List.getElem?_map] at h1
  cases hw : wcP[a]? with
  | none => rw [hw] at h1; cases h1
  | some c => rw [hw] at h1; exact (List.getElem?_eq_some_iff.mp (Option.some.inj h1).symm).1
theorem base_C (hC : isP.map (fun i => P[i]?) = wcP.map some) : isP.map (fun i => (P ++ S)[i]?) = wcP.map some := by
  rw [← hC]
  exact List.map_congr_left (fun i hi => List.getElem?_append_left (lt_of_C hC i hi))
theorem base_sub (hN : P.length = N0) (hps : planOf N0 isP = ps) (hC : isP.map (fun i => P[i]?) = wcP.map some) (hnd : va_nd isP = true) (hle : isP.length = w1.length) (k : Nat) (q : Nat × va_E) (hk : (mkW w1 P ps ++ S)[k]? = some q) : (putAt (P ++ S) isP w1)[k]? = some q := by
  have hlt := lt_of_C hC
  have hml : (mkW w1 P ps).length = P.length := mkW_len w1 P ps (by rw [← hps, plan_len, hN])
  refine put_sub hnd hle (fun i hi => by rw [List.length_append]; exact Nat.lt_of_lt_of_le (hlt i hi) (Nat.le_add_right _ _)) (fun k q hk => ?_) k q hk
  by_cases h : k < P.length
  · rw [List.getElem?_append_left (by rw [hml]; exact h)] at hk
    rcases mkW_get w1 P ps k q hk with ⟨j, c, h1, h2, h3⟩ | ⟨h1, h2⟩
    · obtain ⟨-, hi⟩ := plan_at hps h1
      have hj := idxI_some isP k j hi
      have hjl : j < w1.length := by rw [← hle]; exact (List.getElem?_eq_some_iff.mp hj).1
      exact Or.inl ⟨j, hj, by rw [h3, List.getD_eq_getElem?_getD, List.getElem?_eq_getElem hjl]; rfl⟩
    · obtain ⟨-, hi⟩ := plan_at hps h1
      exact Or.inr ⟨idxI_none isP k hi, by rw [List.getElem?_append_left h]; exact h2⟩
  · rw [List.getElem?_append_right (by rw [hml]; omega), hml] at hk
    exact Or.inr ⟨fun hm => h (hlt k hm), by rw [List.getElem?_append_right (by omega)]; exact hk⟩
def sufI (isP : List Nat) (p s : Nat) : List Nat := isP ++ (List.range s).map (· + p)
theorem suf_C (hC : isP.map (fun i => P[i]?) = wcP.map some) : (sufI isP P.length S.length).map (fun i => (P ++ S)[i]?) = (wcP ++ S).map some := by
  rw [sufI, List.map_append, List.map_append, base_C hC, List.map_map]
  congr 1
  rw [← all_C S]
  refine List.map_congr_left (fun i hi => ?_)
  show (P ++ S)[i + P.length]? = S[i]?
  rw [List.getElem?_append_right (by omega)]
  congr 1
  omega
theorem nd_app : ∀ (a b : List Nat), va_nd a = true → va_nd b = true → (∀ x ∈ a, x ∉ b) → va_nd (a ++ b) = true
  | [], b, _, hb, _ => hb
  | x :: a, b, ha, hb, h => by
    simp only [va_nd, Bool.and_eq_true, decide_eq_true_eq] at ha
    simp only [List.cons_append, va_nd, Bool.and_eq_true, decide_eq_true_eq]
    exact ⟨fun hm => (List.mem_append.mp hm).elim ha.1 (h x List.mem_cons_self), nd_app a b ha.2 hb (fun y hy => h y (List.mem_cons_of_mem _ hy))⟩
theorem suf_nd {p s : Nat} (hnd : va_nd isP = true) (hlt : ∀ i ∈ isP, i < p) : va_nd (sufI isP p s) = true := by
  refine nd_app _ _ hnd (nd_of_nodup _ ?_) (fun x hx hm => ?_)
  · have := @List.nodup_range s
    rw [List.Nodup, List.pairwise_map]
    exact List.Pairwise.imp (fun h e => h (by omega)) this
  · obtain ⟨a, -, ha⟩ := List.mem_map.mp hm
    have := hlt x hx
    omega
theorem suf_sub (hN : P.length = N0) (hps : planOf N0 isP = ps) (hC : isP.map (fun i => P[i]?) = wcP.map some) (hnd : va_nd isP = true) (hle : isP.length = w1.length) (hS : S1.length = S.length) (k : Nat) (q : Nat × va_E) (hk : (mkW w1 P ps ++ S1)[k]? = some q) : (putAt (P ++ S) (sufI isP P.length S.length) (w1 ++ S1))[k]? = some q := by
  have hlt := lt_of_C hC
  have hml : (mkW w1 P ps).length = P.length := mkW_len w1 P ps (by rw [← hps, plan_len, hN])
  refine put_sub (suf_nd hnd hlt) (by simp [sufI, hle, hS]) (fun i hi => ?_) (fun k q hk => ?_) k q hk
  · rw [List.length_append]
    rcases List.mem_append.mp hi with h | h
    · have := hlt i h; omega
    · obtain ⟨a, h1, h2⟩ := List.mem_map.mp h
      have := List.mem_range.mp h1
      omega
  · by_cases h : k < P.length
    · rw [List.getElem?_append_left (by rw [hml]; exact h)] at hk
      rcases mkW_get w1 P ps k q hk with ⟨j, c, h1, h2, h3⟩ | ⟨h1, h2⟩
      · obtain ⟨-, hi⟩ := plan_at hps h1
        have hj := idxI_some isP k j hi
        have hjp : j < isP.length := (List.getElem?_eq_some_iff.mp hj).1
        have hjl : j < w1.length := by rw [← hle]; exact hjp
        exact Or.inl ⟨j, by rw [sufI, List.getElem?_append_left hjp]; exact hj, by rw [List.getElem?_append_left hjl, h3, List.getD_eq_getElem?_getD, List.getElem?_eq_getElem hjl]; rfl⟩
      · obtain ⟨-, hi⟩ := plan_at hps h1
        refine Or.inr ⟨fun hm => ?_, by rw [List.getElem?_append_left h]; exact h2⟩
        rcases List.mem_append.mp hm with hm | hm
        · exact idxI_none isP k hi hm
        · obtain ⟨a, -, h2⟩ := List.mem_map.mp hm
          omega
    · rw [List.getElem?_append_right (by rw [hml]; omega), hml] at hk
      have hl := (List.getElem?_eq_some_iff.mp hk).1
      refine Or.inl ⟨isP.length + (k - P.length), ?_, ?_⟩
      · rw [sufI, List.getElem?_append_right (by omega), List.getElem?_map, List.getElem?_range (by omega)]
        simp
        omega
      · rw [List.getElem?_append_right (by omega), ← hle]
        rw [show isP.length + (k - P.length) - isP.length = k - P.length by omega]
        exact hk
end SUF
section GP
variable {X : XT} {cc : ByteArray} {own : String} {ret : Option FieldType} {cA : Nat → ClassId} {fr lo nL k n : Nat} {lv : List (Nat × Value)} {st rest : List Value}
/-- the callee has cells of P alone -/
theorem g_callB (C : Cx X cc own ret cA fr lo nL) (pc : Nat) {P P' S : va_W} {y : MethodName} {cc' : ByteArray} {nL' : Nat} {ret' : Option FieldType} {rm : Room} {b : Nat} {As : List Value} {wc w1 : va_W} {res : Option Value} {i ci N : Nat} {fs : List Value} {T : u_T} (isP : List Nat) (q0 : Nat) (d : decode cc pc = .ok (.invokevirtual i, 3)) (hM : MT (x_l X) cA y cc' nL' ret' rm (.ref b :: As) wc (sB res w1))
    (h1 : Cond.methodLink own i y ∈ G) (h2 : Cond.instanceMethod y ∈ G) (h3 : Cond.selects y.cls y y ∈ G) (h4 : Cond.initialized y.cls ∈ G) (h5 : Cond.code y cc' nL' ret' ∈ G) (hd : okY y As.length) (hR : rm.frames + 1 ≤ fr ∧ 8 + (nL' + 11) + rm.locals ≤ lo) (hrc : k ≤ (x_R X).cells ∧ n ≤ (x_R X).slots) (hz : rm.cells = 0 ∧ rm.slots = 0)
    (hq0 : (P ++ S)[q0]? = some (oB b ci fs)) (hc : vwCl[ci]? = some (y.cls, T, N)) (hC : isP.map (fun i => P[i]?) = wc.map some) (hnd : va_nd isP = true) (hst : st = As.reverse ++ .ref b :: rest) (hsum : (rest.map fun v => v.category).sum ≤ 8) (hle : isP.length = w1.length) {N0 : Nat} (hN : P.length = N0) (ps : List (Option Nat)) (hps : planOf N0 isP = ps) (hws : mkW w1 P ps = P') {st' : List Value} (hst' : res.toList ++ rest = st')
    (K : Go X nL k n (pc + 3) (P' ++ S) lv st') : Go X nL k n pc (P ++ S) lv st :=
  g_callP C pc isP q0 d hM h1 h2 h3 h4 h5 hd hR hrc hz hq0 hc (base_C hC) hnd hst hsum hle (fun k q h => base_sub hN hps hC hnd hle k q (by rw [hws]; exact h)) hst' K
/-- the callee has cells of P, and all of S -/
theorem g_callT (C : Cx X cc own ret cA fr lo nL) (pc : Nat) {P P' S S1 : va_W} {y : MethodName} {cc' : ByteArray} {nL' : Nat} {ret' : Option FieldType} {rm : Room} {b : Nat} {As : List Value} {wc w1 : va_W} {res : Option Value} {i ci N : Nat} {fs : List Value} {T : u_T} (isP : List Nat) (q0 : Nat) (d : decode cc pc = .ok (.invokevirtual i, 3)) (hM : MT (x_l X) cA y cc' nL' ret' rm (.ref b :: As) (wc ++ S) (sB res (w1 ++ S1)))
    (h1 : Cond.methodLink own i y ∈ G) (h2 : Cond.instanceMethod y ∈ G) (h3 : Cond.selects y.cls y y ∈ G) (h4 : Cond.initialized y.cls ∈ G) (h5 : Cond.code y cc' nL' ret' ∈ G) (hd : okY y As.length) (hR : rm.frames + 1 ≤ fr ∧ 8 + (nL' + 11) + rm.locals ≤ lo) (hrc : k ≤ (x_R X).cells ∧ n ≤ (x_R X).slots) (hz : rm.cells = 0 ∧ rm.slots = 0)
    (hq0 : (P ++ S)[q0]? = some (oB b ci fs)) (hc : vwCl[ci]? = some (y.cls, T, N)) (hC : isP.map (fun i => P[i]?) = wc.map some) (hnd : va_nd isP = true) (hst : st = As.reverse ++ .ref b :: rest) (hsum : (rest.map fun v => v.category).sum ≤ 8) (hle : isP.length = w1.length) (hS : S1.length = S.length) {N0 : Nat} (hN : P.length = N0) (ps : List (Option Nat)) (hps : planOf N0 isP = ps) (hws : mkW w1 P ps = P') {st' : List Value} (hst' : res.toList ++ rest = st')
    (K : Go X nL k n (pc + 3) (P' ++ S1) lv st') : Go X nL k n pc (P ++ S) lv st :=
  g_callP C pc (sufI isP P.length S.length) q0 d hM h1 h2 h3 h4 h5 hd hR hrc hz hq0 hc (suf_C hC) (suf_nd hnd (lt_of_C hC)) hst hsum (by simp [sufI, hle, hS]) (fun k q h => suf_sub hN hps hC hnd hle hS k q (by rw [hws]; exact h)) hst' K
/-- a static method over cells of P -/
theorem g_callSB (C : Cx X cc own ret cA fr lo nL) (pc : Nat) {P P' S : va_W} {y : MethodName} {cc' : ByteArray} {nL' : Nat} {ret' : Option FieldType} {rm : Room} {As : List Value} {wc w1 : va_W} {res : Option Value} {i : Nat} (isP : List Nat) (d : decode cc pc = .ok (.invokestatic i, 3)) (hM : MT (x_l X) cA y cc' nL' ret' rm As wc (sB res w1))
    (h1 : Cond.methodLink own i y ∈ G) (h2 : Cond.static y ∈ G) (h4 : Cond.initialized y.cls ∈ G) (h5 : Cond.code y cc' nL' ret' ∈ G) (hd : okY y As.length) (hR : rm.frames + 1 ≤ fr ∧ 8 + (nL' + 11) + rm.locals ≤ lo) (hrc : k ≤ (x_R X).cells ∧ n ≤ (x_R X).slots) (hz : rm.cells = 0 ∧ rm.slots = 0)
    (hC : isP.map (fun i => P[i]?) = wc.map some) (hnd : va_nd isP = true) (hst : st = As.reverse ++ rest) (hsum : (rest.map fun v => v.category).sum ≤ 8) (hle : isP.length = w1.length) {N0 : Nat} (hN : P.length = N0) (ps : List (Option Nat)) (hps : planOf N0 isP = ps) (hws : mkW w1 P ps = P') {st' : List Value} (hst' : res.toList ++ rest = st')
    (K : Go X nL k n (pc + 3) (P' ++ S) lv st') : Go X nL k n pc (P ++ S) lv st := by
  intro H locs ls hP hD hS hl
  have hC2 : isP.map (fun i => (P ++ S)[i]?) = wc.map some := base_C hC
  have hFc := va_free (wc := wc) hD hS C.hA isP hC2
  have hPc := hP.sub (ws' := wc) isP (by
    have := congrArg (List.filterMap id) hC2
    simpa [List.filterMap_map] using this)
  have hDc := hD.sub (ws' := wc) isP hnd hC2
  have hG : GoodIn G (va_wsS own i y (.code y cc' nL' ret' :: G)) := gi_G (fun w hw => by
    simp only [va_wsS, List.cons_append, List.nil_append, List.mem_cons] at hw
    rcases hw with rfl | rfl | rfl | rfl | hw
    · exact h1
    · exact h2
    · exact h4
    · exact h5
    · exact hw)
  refine kcall (va_runS (As := As) (rest := rest) ⟨C.ex, C.by, C.ml, C.ow, C.ts⟩ (hM H.size (x_D X)) (va_cwS As.length C.ts hG rfl rfl rfl hd ⟨Nat.le_trans hR.1 C.rm.1, Nat.le_trans hR.2 C.rm.2⟩) ⟨Px_blind, fun U hU hW => ⟨rfl, by rw [hU], by rw [hU]; exact hPc, va_K.moved hW.alike C.K, hDc.weaken (fun _ _ _ _ => trivial), NW.warm hW C.nw⟩⟩ rfl rfl hl.1 hst (lv_room hsum) d (by rw [hz.1, hz.2]; exact hrc)) hS (fun q _ h => hFc q h) hFc ?_
  intro r w H1 locs1 hB hP1 hD1 hk1 hS1
  obtain ⟨rfl, rfl⟩ := hB
  obtain ⟨hP2, hD2⟩ := kjoin hP hD isP hC2 hnd (Nat.le_of_eq hle) hk1 hFc hP1 hD1
  rw [hz.1, hz.2, hst']
  exact g_sub (fun k q h => base_sub hN hps hC hnd hle k q (by rw [hws]; exact h)) K H1 locs1 ls hP2 hD2 hS1 hl
/-- a static method of a nest mate without cells -/
theorem g_callSN0 (C : Cx X cc own ret cA fr lo nL) (pc : Nat) {ws : va_W} {y : MethodName} {cc' : ByteArray} {nL' : Nat} {ret' : Option FieldType} {rm : Room} {As : List Value} {res : Option Value} {i : Nat} {host : String} (d : decode cc pc = .ok (.invokestatic i, 3)) (hM : MT (x_l X) cA y cc' nL' ret' rm As [] (sB res []))
    (h1 : (own, i, y, host) ∈ nwT) (h2 : Cond.static y ∈ G) (h4 : Cond.initialized y.cls ∈ G) (h5 : Cond.code y cc' nL' ret' ∈ G) (hd : okY y As.length) (hR : rm.frames + 1 ≤ fr ∧ 8 + (nL' + 11) + rm.locals ≤ lo) (hrc : k ≤ (x_R X).cells ∧ n ≤ (x_R X).slots) (hz : rm.cells = 0 ∧ rm.slots = 0) (hst : st = As.reverse ++ rest) (hsum : (rest.map fun v => v.category).sum ≤ 8) {st' : List Value} (hst' : res.toList ++ rest = st')
    (K : Go X nL k n (pc + 3) ws lv st') : Go X nL k n pc ws lv st := by
  intro H locs ls hP hD hS hl
  have hFc := va_free (wc := []) hD hS C.hA [] rfl
  have hPc : va_P (x_D X) vwCl [] H := fun k q h => by simp at h
  have hDc : va_D (x_A X) [] := ⟨fun i j p q h => by simp at h, fun k q h => by simp at h⟩
  have hG : GoodIn G (.code y cc' nL' ret' :: G) := gi_G (fun w hw => by
    rcases List.mem_cons.mp hw with rfl | hw
    · exact h5
    · exact hw)
  refine kcall (va_runSN (As := As) (rest := rest) (host := host) ⟨C.ex, C.by, C.ml, C.ow, C.ts⟩ (hM H.size (x_D X)) ⟨va_cnB As.length C.ts hG rfl rfl rfl (C.nw.1 _ h1) (C.ts _ h4) hd ⟨Nat.le_trans hR.1 C.rm.1, Nat.le_trans hR.2 C.rm.2⟩, C.ts _ h2, trivial⟩ ⟨Px_blind, fun U hU hW => ⟨rfl, by rw [hU], by rw [hU]; exact hPc, va_K.moved hW.alike C.K, hDc.weaken (fun _ _ _ _ => trivial), NW.warm hW C.nw⟩⟩ rfl rfl hl.1 hst (lv_room hsum) d (by rw [hz.1, hz.2]; exact hrc)) hS (fun q _ h => hFc q h) hFc ?_
  intro r w H1 locs1 hB hP1 hD1 hk1 hS1
  obtain ⟨rfl, rfl⟩ := hB
  obtain ⟨hP2, hD2⟩ := kjoin hP hD [] rfl rfl (Nat.le_refl _) hk1 hFc hP1 hD1
  rw [putAt_nil, List.append_nil] at hP2 hD2
  rw [hz.1, hz.2, hst']
  exact K H1 locs1 ls hP2 hD2 hS1 hl
end GP
end
