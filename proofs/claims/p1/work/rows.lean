section
-- ===== PART A: goes FIRST, ahead of the names: the tables' words, and 'selects' of the private methods out of them =====
/-- a private method of a class that the tables say can be made, by its rows of tables_1 -/
def lw_okq (q : MethodName × Nat) : Prop := (q.1.cls ≠ "java/lang/invoke/MethodHandle" ∧ q.1.cls ≠ "java/lang/invoke/VarHandle") ∧ Cond.instantiable q.1.cls q.2 ∈ tables_1 ∧ Cond.privateMethod q.1 ∈ tables_1 ∧ Cond.instanceMethod q.1 ∈ tables_1
theorem lw_p0 : lw_okq (⟨"BagTree", "lowerBound", "()I"⟩, 8) := ⟨⟨by decide +kernel, by decide +kernel⟩, List.mem_of_getElem? (i := 16) (by decide +kernel), List.mem_of_getElem? (i := 392) (by decide +kernel), List.mem_of_getElem? (i := 393) (by decide +kernel)⟩
theorem lw_p1 : lw_okq (⟨"BagTree$Search", "netFits", "(LBagTree$Net;I)Z"⟩, 4) := ⟨⟨by decide +kernel, by decide +kernel⟩, List.mem_of_getElem? (i := 369) (by decide +kernel), List.mem_of_getElem? (i := 401) (by decide +kernel), List.mem_of_getElem? (i := 402) (by decide +kernel)⟩
theorem lw_p2 : lw_okq (⟨"BagTree$Search", "fits", "(I)Z"⟩, 4) := ⟨⟨by decide +kernel, by decide +kernel⟩, List.mem_of_getElem? (i := 369) (by decide +kernel), List.mem_of_getElem? (i := 409) (by decide +kernel), List.mem_of_getElem? (i := 410) (by decide +kernel)⟩
theorem lw_p3 : lw_okq (⟨"BagTree$Going", "isNearlyJoined", "(I)Z"⟩, 3) := ⟨⟨by decide +kernel, by decide +kernel⟩, List.mem_of_getElem? (i := 131) (by decide +kernel), List.mem_of_getElem? (i := 417) (by decide +kernel), List.mem_of_getElem? (i := 418) (by decide +kernel)⟩
theorem lw_p4 : lw_okq (⟨"BagTree$Search", "isStuck", "(I)Z"⟩, 4) := ⟨⟨by decide +kernel, by decide +kernel⟩, List.mem_of_getElem? (i := 369) (by decide +kernel), List.mem_of_getElem? (i := 424) (by decide +kernel), List.mem_of_getElem? (i := 425) (by decide +kernel)⟩
theorem lw_p5 : lw_okq (⟨"BagTree$Search", "fitsBehind", "(LBagTree$Going;II)Z"⟩, 4) := ⟨⟨by decide +kernel, by decide +kernel⟩, List.mem_of_getElem? (i := 369) (by decide +kernel), List.mem_of_getElem? (i := 428) (by decide +kernel), List.mem_of_getElem? (i := 429) (by decide +kernel)⟩
theorem lw_p6 : lw_okq (⟨"BagTree$Bags", "looseEdge", "(LBagTree$Net;)I"⟩, 3) := ⟨⟨by decide +kernel, by decide +kernel⟩, List.mem_of_getElem? (i := 80) (by decide +kernel), List.mem_of_getElem? (i := 483) (by decide +kernel), List.mem_of_getElem? (i := 484) (by decide +kernel)⟩
theorem lw_p7 : lw_okq (⟨"BagTree$Bags", "holdTogether", "(I)Z"⟩, 3) := ⟨⟨by decide +kernel, by decide +kernel⟩, List.mem_of_getElem? (i := 80) (by decide +kernel), List.mem_of_getElem? (i := 488) (by decide +kernel), List.mem_of_getElem? (i := 489) (by decide +kernel)⟩
theorem lw_p8 : lw_okq (⟨"BagTree$Bags", "missingKnot", "(LBagTree$Net;)I"⟩, 3) := ⟨⟨by decide +kernel, by decide +kernel⟩, List.mem_of_getElem? (i := 80) (by decide +kernel), List.mem_of_getElem? (i := 492) (by decide +kernel), List.mem_of_getElem? (i := 493) (by decide +kernel)⟩
theorem lw_p9 : lw_okq (⟨"BagTree$Bags", "scatteredKnot", "(LBagTree$Net;)I"⟩, 3) := ⟨⟨by decide +kernel, by decide +kernel⟩, List.mem_of_getElem? (i := 80) (by decide +kernel), List.mem_of_getElem? (i := 496) (by decide +kernel), List.mem_of_getElem? (i := 497) (by decide +kernel)⟩
theorem lw_p10 : lw_okq (⟨"BagTree", "isSound", "()Z"⟩, 8) := ⟨⟨by decide +kernel, by decide +kernel⟩, List.mem_of_getElem? (i := 16) (by decide +kernel), List.mem_of_getElem? (i := 514) (by decide +kernel), List.mem_of_getElem? (i := 515) (by decide +kernel)⟩
theorem lw_p11 : lw_okq (⟨"BagTree$Net", "reached", "(II)I"⟩, 5) := ⟨⟨by decide +kernel, by decide +kernel⟩, List.mem_of_getElem? (i := 24) (by decide +kernel), List.mem_of_getElem? (i := 522) (by decide +kernel), List.mem_of_getElem? (i := 523) (by decide +kernel)⟩
theorem lw_p12 : lw_okq (⟨"BagTree", "canAsk", "()Z"⟩, 8) := ⟨⟨by decide +kernel, by decide +kernel⟩, List.mem_of_getElem? (i := 16) (by decide +kernel), List.mem_of_getElem? (i := 563) (by decide +kernel), List.mem_of_getElem? (i := 564) (by decide +kernel)⟩
theorem lw_p13 : lw_okq (⟨"BagTree", "freshTally", "()LBagTree$Tally;"⟩, 8) := ⟨⟨by decide +kernel, by decide +kernel⟩, List.mem_of_getElem? (i := 16) (by decide +kernel), List.mem_of_getElem? (i := 568) (by decide +kernel), List.mem_of_getElem? (i := 569) (by decide +kernel)⟩
theorem lw_p14 : lw_okq (⟨"BagTree$Plan", "mostJoined", "(I)I"⟩, 11) := ⟨⟨by decide +kernel, by decide +kernel⟩, List.mem_of_getElem? (i := 153) (by decide +kernel), List.mem_of_getElem? (i := 641) (by decide +kernel), List.mem_of_getElem? (i := 642) (by decide +kernel)⟩
theorem lw_p15 : lw_okq (⟨"BagTree$Plan", "takeStep", "(I)V"⟩, 11) := ⟨⟨by decide +kernel, by decide +kernel⟩, List.mem_of_getElem? (i := 153) (by decide +kernel), List.mem_of_getElem? (i := 648) (by decide +kernel), List.mem_of_getElem? (i := 649) (by decide +kernel)⟩
def lw_privs_1 : List (MethodName × Nat) := [(⟨"BagTree", "lowerBound", "()I"⟩, 8), (⟨"BagTree$Search", "netFits", "(LBagTree$Net;I)Z"⟩, 4), (⟨"BagTree$Search", "fits", "(I)Z"⟩, 4), (⟨"BagTree$Going", "isNearlyJoined", "(I)Z"⟩, 3), (⟨"BagTree$Search", "isStuck", "(I)Z"⟩, 4), (⟨"BagTree$Search", "fitsBehind", "(LBagTree$Going;II)Z"⟩, 4), (⟨"BagTree$Bags", "looseEdge", "(LBagTree$Net;)I"⟩, 3), (⟨"BagTree$Bags", "holdTogether", "(I)Z"⟩, 3), (⟨"BagTree$Bags", "missingKnot", "(LBagTree$Net;)I"⟩, 3), (⟨"BagTree$Bags", "scatteredKnot", "(LBagTree$Net;)I"⟩, 3), (⟨"BagTree", "isSound", "()Z"⟩, 8), (⟨"BagTree$Net", "reached", "(II)I"⟩, 5), (⟨"BagTree", "canAsk", "()Z"⟩, 8), (⟨"BagTree", "freshTally", "()LBagTree$Tally;"⟩, 8), (⟨"BagTree$Plan", "mostJoined", "(I)I"⟩, 11), (⟨"BagTree$Plan", "takeStep", "(I)V"⟩, 11)]
theorem lw_r1 : ∀ q ∈ lw_privs_1, lw_okq q := List.forall_mem_cons.mpr ⟨lw_p0, List.forall_mem_cons.mpr ⟨lw_p1, List.forall_mem_cons.mpr ⟨lw_p2, List.forall_mem_cons.mpr ⟨lw_p3, List.forall_mem_cons.mpr ⟨lw_p4, List.forall_mem_cons.mpr ⟨lw_p5, List.forall_mem_cons.mpr ⟨lw_p6, List.forall_mem_cons.mpr ⟨lw_p7, List.forall_mem_cons.mpr ⟨lw_p8, List.forall_mem_cons.mpr ⟨lw_p9, List.forall_mem_cons.mpr ⟨lw_p10, List.forall_mem_cons.mpr ⟨lw_p11, List.forall_mem_cons.mpr ⟨lw_p12, List.forall_mem_cons.mpr ⟨lw_p13, List.forall_mem_cons.mpr ⟨lw_p14, List.forall_mem_cons.mpr ⟨lw_p15, fun _ h => absurd h List.not_mem_nil⟩⟩⟩⟩⟩⟩⟩⟩⟩⟩⟩⟩⟩⟩⟩⟩
theorem lw_p16 : lw_okq (⟨"BagTree$Tally", "sweepAgain", "()V"⟩, 17) := ⟨⟨by decide +kernel, by decide +kernel⟩, List.mem_of_getElem? (i := 572) (by decide +kernel), List.mem_of_getElem? (i := 669) (by decide +kernel), List.mem_of_getElem? (i := 670) (by decide +kernel)⟩
theorem lw_p17 : lw_okq (⟨"BagTree$Tally", "listOpenStates", "(I)V"⟩, 17) := ⟨⟨by decide +kernel, by decide +kernel⟩, List.mem_of_getElem? (i := 572) (by decide +kernel), List.mem_of_getElem? (i := 674) (by decide +kernel), List.mem_of_getElem? (i := 675) (by decide +kernel)⟩
theorem lw_p18 : lw_okq (⟨"BagTree$Tally", "fillTable", "(I)V"⟩, 17) := ⟨⟨by decide +kernel, by decide +kernel⟩, List.mem_of_getElem? (i := 572) (by decide +kernel), List.mem_of_getElem? (i := 678) (by decide +kernel), List.mem_of_getElem? (i := 679) (by decide +kernel)⟩
theorem lw_p19 : lw_okq (⟨"BagTree$Tally", "fillEntry", "(II)V"⟩, 17) := ⟨⟨by decide +kernel, by decide +kernel⟩, List.mem_of_getElem? (i := 572) (by decide +kernel), List.mem_of_getElem? (i := 682) (by decide +kernel), List.mem_of_getElem? (i := 683) (by decide +kernel)⟩
theorem lw_p20 : lw_okq (⟨"BagTree$Tally", "addEdges", "(II)Z"⟩, 17) := ⟨⟨by decide +kernel, by decide +kernel⟩, List.mem_of_getElem? (i := 572) (by decide +kernel), List.mem_of_getElem? (i := 686) (by decide +kernel), List.mem_of_getElem? (i := 687) (by decide +kernel)⟩
theorem lw_p21 : lw_okq (⟨"BagTree$Tally", "pickedState", "(I)I"⟩, 17) := ⟨⟨by decide +kernel, by decide +kernel⟩, List.mem_of_getElem? (i := 572) (by decide +kernel), List.mem_of_getElem? (i := 690) (by decide +kernel), List.mem_of_getElem? (i := 691) (by decide +kernel)⟩
theorem lw_p22 : lw_okq (⟨"BagTree$Tally", "addTables", "(I)I"⟩, 17) := ⟨⟨by decide +kernel, by decide +kernel⟩, List.mem_of_getElem? (i := 572) (by decide +kernel), List.mem_of_getElem? (i := 694) (by decide +kernel), List.mem_of_getElem? (i := 695) (by decide +kernel)⟩
theorem lw_p23 : lw_okq (⟨"BagTree$Tally", "entryOf", "(I)I"⟩, 17) := ⟨⟨by decide +kernel, by decide +kernel⟩, List.mem_of_getElem? (i := 572) (by decide +kernel), List.mem_of_getElem? (i := 698) (by decide +kernel), List.mem_of_getElem? (i := 699) (by decide +kernel)⟩
theorem lw_p24 : lw_okq (⟨"BagTree$Tally", "pickNext", "(I)V"⟩, 17) := ⟨⟨by decide +kernel, by decide +kernel⟩, List.mem_of_getElem? (i := 572) (by decide +kernel), List.mem_of_getElem? (i := 702) (by decide +kernel), List.mem_of_getElem? (i := 703) (by decide +kernel)⟩
theorem lw_p25 : lw_okq (⟨"BagTree$Tally", "settle", "(I)I"⟩, 17) := ⟨⟨by decide +kernel, by decide +kernel⟩, List.mem_of_getElem? (i := 572) (by decide +kernel), List.mem_of_getElem? (i := 726) (by decide +kernel), List.mem_of_getElem? (i := 727) (by decide +kernel)⟩
theorem lw_p26 : lw_okq (⟨"BagTreeModel", "isWeight", "(I)Z"⟩, 23) := ⟨⟨by decide +kernel, by decide +kernel⟩, List.mem_of_getElem? (i := 742) (by decide +kernel), List.mem_of_getElem? (i := 822) (by decide +kernel), List.mem_of_getElem? (i := 823) (by decide +kernel)⟩
theorem lw_p27 : lw_okq (⟨"BagTreeModel", "isKnot", "(I)Z"⟩, 23) := ⟨⟨by decide +kernel, by decide +kernel⟩, List.mem_of_getElem? (i := 742) (by decide +kernel), List.mem_of_getElem? (i := 830) (by decide +kernel), List.mem_of_getElem? (i := 831) (by decide +kernel)⟩
theorem lw_p28 : lw_okq (⟨"BagTreeModel", "isEdge", "(II)Z"⟩, 23) := ⟨⟨by decide +kernel, by decide +kernel⟩, List.mem_of_getElem? (i := 742) (by decide +kernel), List.mem_of_getElem? (i := 838) (by decide +kernel), List.mem_of_getElem? (i := 839) (by decide +kernel)⟩
theorem lw_p29 : lw_okq (⟨"BagTreeModel", "rowMask", "()I"⟩, 23) := ⟨⟨by decide +kernel, by decide +kernel⟩, List.mem_of_getElem? (i := 742) (by decide +kernel), List.mem_of_getElem? (i := 858) (by decide +kernel), List.mem_of_getElem? (i := 859) (by decide +kernel)⟩
theorem lw_p30 : lw_okq (⟨"BagTreeModel", "isOrder", "()Z"⟩, 23) := ⟨⟨by decide +kernel, by decide +kernel⟩, List.mem_of_getElem? (i := 742) (by decide +kernel), List.mem_of_getElem? (i := 874) (by decide +kernel), List.mem_of_getElem? (i := 875) (by decide +kernel)⟩
theorem lw_p31 : lw_okq (⟨"BagTreeModel", "around", "(II)I"⟩, 23) := ⟨⟨by decide +kernel, by decide +kernel⟩, List.mem_of_getElem? (i := 742) (by decide +kernel), List.mem_of_getElem? (i := 878) (by decide +kernel), List.mem_of_getElem? (i := 879) (by decide +kernel)⟩
def lw_privs_2 : List (MethodName × Nat) := [(⟨"BagTree$Tally", "sweepAgain", "()V"⟩, 17), (⟨"BagTree$Tally", "listOpenStates", "(I)V"⟩, 17), (⟨"BagTree$Tally", "fillTable", "(I)V"⟩, 17), (⟨"BagTree$Tally", "fillEntry", "(II)V"⟩, 17), (⟨"BagTree$Tally", "addEdges", "(II)Z"⟩, 17), (⟨"BagTree$Tally", "pickedState", "(I)I"⟩, 17), (⟨"BagTree$Tally", "addTables", "(I)I"⟩, 17), (⟨"BagTree$Tally", "entryOf", "(I)I"⟩, 17), (⟨"BagTree$Tally", "pickNext", "(I)V"⟩, 17), (⟨"BagTree$Tally", "settle", "(I)I"⟩, 17), (⟨"BagTreeModel", "isWeight", "(I)Z"⟩, 23), (⟨"BagTreeModel", "isKnot", "(I)Z"⟩, 23), (⟨"BagTreeModel", "isEdge", "(II)Z"⟩, 23), (⟨"BagTreeModel", "rowMask", "()I"⟩, 23), (⟨"BagTreeModel", "isOrder", "()Z"⟩, 23), (⟨"BagTreeModel", "around", "(II)I"⟩, 23)]
theorem lw_r2 : ∀ q ∈ lw_privs_2, lw_okq q := List.forall_mem_cons.mpr ⟨lw_p16, List.forall_mem_cons.mpr ⟨lw_p17, List.forall_mem_cons.mpr ⟨lw_p18, List.forall_mem_cons.mpr ⟨lw_p19, List.forall_mem_cons.mpr ⟨lw_p20, List.forall_mem_cons.mpr ⟨lw_p21, List.forall_mem_cons.mpr ⟨lw_p22, List.forall_mem_cons.mpr ⟨lw_p23, List.forall_mem_cons.mpr ⟨lw_p24, List.forall_mem_cons.mpr ⟨lw_p25, List.forall_mem_cons.mpr ⟨lw_p26, List.forall_mem_cons.mpr ⟨lw_p27, List.forall_mem_cons.mpr ⟨lw_p28, List.forall_mem_cons.mpr ⟨lw_p29, List.forall_mem_cons.mpr ⟨lw_p30, List.forall_mem_cons.mpr ⟨lw_p31, fun _ h => absurd h List.not_mem_nil⟩⟩⟩⟩⟩⟩⟩⟩⟩⟩⟩⟩⟩⟩⟩⟩
theorem lw_p32 : lw_okq (⟨"BagTreeModel", "bits", "(I)I"⟩, 23) := ⟨⟨by decide +kernel, by decide +kernel⟩, List.mem_of_getElem? (i := 742) (by decide +kernel), List.mem_of_getElem? (i := 886) (by decide +kernel), List.mem_of_getElem? (i := 887) (by decide +kernel)⟩
theorem lw_p33 : lw_okq (⟨"BagTreeModel", "rowWidth", "()I"⟩, 23) := ⟨⟨by decide +kernel, by decide +kernel⟩, List.mem_of_getElem? (i := 742) (by decide +kernel), List.mem_of_getElem? (i := 898) (by decide +kernel), List.mem_of_getElem? (i := 899) (by decide +kernel)⟩
theorem lw_p34 : lw_okq (⟨"BagTreeModel", "all", "()I"⟩, 23) := ⟨⟨by decide +kernel, by decide +kernel⟩, List.mem_of_getElem? (i := 742) (by decide +kernel), List.mem_of_getElem? (i := 906) (by decide +kernel), List.mem_of_getElem? (i := 907) (by decide +kernel)⟩
theorem lw_p35 : lw_okq (⟨"BagTreeModel", "inOne", "(I)Z"⟩, 23) := ⟨⟨by decide +kernel, by decide +kernel⟩, List.mem_of_getElem? (i := 742) (by decide +kernel), List.mem_of_getElem? (i := 934) (by decide +kernel), List.mem_of_getElem? (i := 935) (by decide +kernel)⟩
theorem lw_p36 : lw_okq (⟨"BagTreeModel", "isState", "(I)Z"⟩, 23) := ⟨⟨by decide +kernel, by decide +kernel⟩, List.mem_of_getElem? (i := 742) (by decide +kernel), List.mem_of_getElem? (i := 952) (by decide +kernel), List.mem_of_getElem? (i := 953) (by decide +kernel)⟩
theorem lw_p37 : lw_okq (⟨"BagTreeModel", "isFactor", "(I)Z"⟩, 23) := ⟨⟨by decide +kernel, by decide +kernel⟩, List.mem_of_getElem? (i := 742) (by decide +kernel), List.mem_of_getElem? (i := 956) (by decide +kernel), List.mem_of_getElem? (i := 957) (by decide +kernel)⟩
theorem lw_p38 : lw_okq (⟨"BagTreeModel", "isAsked", "()Z"⟩, 23) := ⟨⟨by decide +kernel, by decide +kernel⟩, List.mem_of_getElem? (i := 742) (by decide +kernel), List.mem_of_getElem? (i := 972) (by decide +kernel), List.mem_of_getElem? (i := 973) (by decide +kernel)⟩
theorem lw_p39 : lw_okq (⟨"BagTreeModel", "free", "()V"⟩, 23) := ⟨⟨by decide +kernel, by decide +kernel⟩, List.mem_of_getElem? (i := 742) (by decide +kernel), List.mem_of_getElem? (i := 977) (by decide +kernel), List.mem_of_getElem? (i := 978) (by decide +kernel)⟩
theorem lw_p40 : lw_okq (⟨"BagTreeModel", "ask", "(Z)V"⟩, 23) := ⟨⟨by decide +kernel, by decide +kernel⟩, List.mem_of_getElem? (i := 742) (by decide +kernel), List.mem_of_getElem? (i := 981) (by decide +kernel), List.mem_of_getElem? (i := 982) (by decide +kernel)⟩
theorem lw_p41 : lw_okq (⟨"BagTreeModel", "take", "(II)Z"⟩, 23) := ⟨⟨by decide +kernel, by decide +kernel⟩, List.mem_of_getElem? (i := 742) (by decide +kernel), List.mem_of_getElem? (i := 985) (by decide +kernel), List.mem_of_getElem? (i := 986) (by decide +kernel)⟩
theorem lw_p42 : lw_okq (⟨"BagTreeModel", "mayBe", "(II)Z"⟩, 23) := ⟨⟨by decide +kernel, by decide +kernel⟩, List.mem_of_getElem? (i := 742) (by decide +kernel), List.mem_of_getElem? (i := 989) (by decide +kernel), List.mem_of_getElem? (i := 990) (by decide +kernel)⟩
theorem lw_p43 : lw_okq (⟨"BagTreeModel", "own", "(I)J"⟩, 23) := ⟨⟨by decide +kernel, by decide +kernel⟩, List.mem_of_getElem? (i := 742) (by decide +kernel), List.mem_of_getElem? (i := 993) (by decide +kernel), List.mem_of_getElem? (i := 994) (by decide +kernel)⟩
theorem lw_p44 : lw_okq (⟨"BagTreeModel", "isFirst", "(II)Z"⟩, 23) := ⟨⟨by decide +kernel, by decide +kernel⟩, List.mem_of_getElem? (i := 742) (by decide +kernel), List.mem_of_getElem? (i := 997) (by decide +kernel), List.mem_of_getElem? (i := 998) (by decide +kernel)⟩
theorem lw_p45 : lw_okq (⟨"BagTreeModel", "code", "(I)I"⟩, 23) := ⟨⟨by decide +kernel, by decide +kernel⟩, List.mem_of_getElem? (i := 742) (by decide +kernel), List.mem_of_getElem? (i := 1001) (by decide +kernel), List.mem_of_getElem? (i := 1002) (by decide +kernel)⟩
theorem lw_p46 : lw_okq (⟨"BagTreeModel", "put", "(IJJJZ)V"⟩, 23) := ⟨⟨by decide +kernel, by decide +kernel⟩, List.mem_of_getElem? (i := 742) (by decide +kernel), List.mem_of_getElem? (i := 1005) (by decide +kernel), List.mem_of_getElem? (i := 1006) (by decide +kernel)⟩
def lw_privs_3 : List (MethodName × Nat) := [(⟨"BagTreeModel", "bits", "(I)I"⟩, 23), (⟨"BagTreeModel", "rowWidth", "()I"⟩, 23), (⟨"BagTreeModel", "all", "()I"⟩, 23), (⟨"BagTreeModel", "inOne", "(I)Z"⟩, 23), (⟨"BagTreeModel", "isState", "(I)Z"⟩, 23), (⟨"BagTreeModel", "isFactor", "(I)Z"⟩, 23), (⟨"BagTreeModel", "isAsked", "()Z"⟩, 23), (⟨"BagTreeModel", "free", "()V"⟩, 23), (⟨"BagTreeModel", "ask", "(Z)V"⟩, 23), (⟨"BagTreeModel", "take", "(II)Z"⟩, 23), (⟨"BagTreeModel", "mayBe", "(II)Z"⟩, 23), (⟨"BagTreeModel", "own", "(I)J"⟩, 23), (⟨"BagTreeModel", "isFirst", "(II)Z"⟩, 23), (⟨"BagTreeModel", "code", "(I)I"⟩, 23), (⟨"BagTreeModel", "put", "(IJJJZ)V"⟩, 23)]
theorem lw_r3 : ∀ q ∈ lw_privs_3, lw_okq q := List.forall_mem_cons.mpr ⟨lw_p32, List.forall_mem_cons.mpr ⟨lw_p33, List.forall_mem_cons.mpr ⟨lw_p34, List.forall_mem_cons.mpr ⟨lw_p35, List.forall_mem_cons.mpr ⟨lw_p36, List.forall_mem_cons.mpr ⟨lw_p37, List.forall_mem_cons.mpr ⟨lw_p38, List.forall_mem_cons.mpr ⟨lw_p39, List.forall_mem_cons.mpr ⟨lw_p40, List.forall_mem_cons.mpr ⟨lw_p41, List.forall_mem_cons.mpr ⟨lw_p42, List.forall_mem_cons.mpr ⟨lw_p43, List.forall_mem_cons.mpr ⟨lw_p44, List.forall_mem_cons.mpr ⟨lw_p45, List.forall_mem_cons.mpr ⟨lw_p46, fun _ h => absurd h List.not_mem_nil⟩⟩⟩⟩⟩⟩⟩⟩⟩⟩⟩⟩⟩⟩⟩
def lw_privs : List (MethodName × Nat) := lw_privs_1 ++ (lw_privs_2 ++ (lw_privs_3))
def lw_tbl : List Cond := k2_sels lw_privs ++ tables_1
theorem lw_privs_ok : ∀ q ∈ lw_privs, lw_okq q := by
  show ∀ q ∈ lw_privs_1 ++ (lw_privs_2 ++ (lw_privs_3)), lw_okq q
  exact List.forall_mem_append.mpr ⟨lw_r1, List.forall_mem_append.mpr ⟨lw_r2, lw_r3⟩⟩
end
section
def RX0 : String := "BagTree$Bags"
def TX0 : u_T := fun k => match k with
  | 0 => ("BagTree$Bags", "masks", "[I", true)
  | 1 => ("BagTree$Bags", "ups", "[I", true)
  | _ => ("BagTree$Bags", "size", "I", false)
def tyX0 : Nat → FieldType := fun k => match k with
  | 0 => .array .int
  | 1 => .array .int
  | _ => .int
abbrev wsX00 : List Cond := u_ws RX0 TX0 3
theorem nmX0 : ∀ a, a < 3 → ∀ b, b < 3 → a ≠ b → (TX0 a).2.1 ≠ (TX0 b).2.1 := by decide +kernel
theorem tyX0_ok : ∀ k, k < 3 → parseFieldDescriptor (TX0 k).2.2.1 = some (tyX0 k) := by decide +kernel
abbrev cX0_init : ByteArray := prog_2_method_1_code
def yX0_init : MethodName := ⟨RX0, "<init>", "()V"⟩
abbrev cX0_has : ByteArray := prog_2_method_2_code
def yX0_has : MethodName := ⟨RX0, "has", "(I)Z"⟩
abbrev cX0_empty : ByteArray := prog_2_method_3_code
def yX0_empty : MethodName := ⟨RX0, "empty", "()V"⟩
abbrev cX0_append : ByteArray := prog_2_method_4_code
def yX0_append : MethodName := ⟨RX0, "append", "(I)I"⟩
abbrev cX0_takeApart : ByteArray := prog_2_method_5_code
def yX0_takeApart : MethodName := ⟨RX0, "takeApart", "(LBagTree$KnotRow;LBagTree$Going;)V"⟩
abbrev cX0_mostKnots : ByteArray := prog_2_method_6_code
def yX0_mostKnots : MethodName := ⟨RX0, "mostKnots", "()I"⟩
abbrev cX0_hangingOn : ByteArray := prog_2_method_7_code
def yX0_hangingOn : MethodName := ⟨RX0, "hangingOn", "(I)I"⟩
abbrev cX0_endingIn : ByteArray := prog_2_method_8_code
def yX0_endingIn : MethodName := ⟨RX0, "endingIn", "(I)I"⟩
abbrev cX0_matesOf : ByteArray := prog_2_method_9_code
def yX0_matesOf : MethodName := ⟨RX0, "matesOf", "(I)I"⟩
abbrev cX0_fault : ByteArray := prog_2_method_10_code
def yX0_fault : MethodName := ⟨RX0, "fault", "(LBagTree$Net;)I"⟩
abbrev cX0_looseEdge : ByteArray := prog_2_method_11_code
def yX0_looseEdge : MethodName := ⟨RX0, "looseEdge", "(LBagTree$Net;)I"⟩
abbrev cX0_holdTogether : ByteArray := prog_2_method_12_code
def yX0_holdTogether : MethodName := ⟨RX0, "holdTogether", "(I)Z"⟩
abbrev cX0_missingKnot : ByteArray := prog_2_method_13_code
def yX0_missingKnot : MethodName := ⟨RX0, "missingKnot", "(LBagTree$Net;)I"⟩
abbrev cX0_scatteredKnot : ByteArray := prog_2_method_14_code
def yX0_scatteredKnot : MethodName := ⟨RX0, "scatteredKnot", "(LBagTree$Net;)I"⟩
def RX1 : String := "BagTree$Going"
def TX1 : u_T := fun k => match k with
  | 0 => ("BagTree$Going", "near", "[I", true)
  | 1 => ("BagTree$Going", "left", "I", false)
  | _ => ("BagTree$Going", "newEnds", "I", false)
def tyX1 : Nat → FieldType := fun k => match k with
  | 0 => .array .int
  | 1 => .int
  | _ => .int
abbrev wsX10 : List Cond := u_ws RX1 TX1 3
theorem nmX1 : ∀ a, a < 3 → ∀ b, b < 3 → a ≠ b → (TX1 a).2.1 ≠ (TX1 b).2.1 := by decide +kernel
theorem tyX1_ok : ∀ k, k < 3 → parseFieldDescriptor (TX1 k).2.2.1 = some (tyX1 k) := by decide +kernel
abbrev cX1_init : ByteArray := prog_3_method_1_code
def yX1_init : MethodName := ⟨RX1, "<init>", "()V"⟩
abbrev cX1_start : ByteArray := prog_3_method_2_code
def yX1_start : MethodName := ⟨RX1, "start", "(LBagTree$Net;)V"⟩
abbrev cX1_startAs : ByteArray := prog_3_method_3_code
def yX1_startAs : MethodName := ⟨RX1, "startAs", "(LBagTree$Going;)V"⟩
abbrev cX1_letGo : ByteArray := prog_3_method_4_code
def yX1_letGo : MethodName := ⟨RX1, "letGo", "(I)V"⟩
abbrev cX1_takeAway : ByteArray := prog_3_method_5_code
def yX1_takeAway : MethodName := ⟨RX1, "takeAway", "(I)V"⟩
abbrev cX1_loneliest : ByteArray := prog_3_method_6_code
def yX1_loneliest : MethodName := ⟨RX1, "loneliest", "()I"⟩
abbrev cX1_harmless : ByteArray := prog_3_method_7_code
def yX1_harmless : MethodName := ⟨RX1, "harmless", "(I)I"⟩
abbrev cX1_isNearlyJoined : ByteArray := prog_3_method_8_code
def yX1_isNearlyJoined : MethodName := ⟨RX1, "isNearlyJoined", "(I)Z"⟩
def RX2 : String := "BagTree$KnotRow"
def TX2 : u_T := fun k => match k with
  | 0 => ("BagTree$KnotRow", "knots", "[I", true)
  | 1 => ("BagTree$KnotRow", "size", "I", false)
  | _ => ("BagTree$KnotRow", "held", "I", false)
def tyX2 : Nat → FieldType := fun k => match k with
  | 0 => .array .int
  | 1 => .int
  | _ => .int
abbrev wsX20 : List Cond := u_ws RX2 TX2 3
theorem nmX2 : ∀ a, a < 3 → ∀ b, b < 3 → a ≠ b → (TX2 a).2.1 ≠ (TX2 b).2.1 := by decide +kernel
theorem tyX2_ok : ∀ k, k < 3 → parseFieldDescriptor (TX2 k).2.2.1 = some (tyX2 k) := by decide +kernel
abbrev cX2_init : ByteArray := prog_4_method_1_code
def yX2_init : MethodName := ⟨RX2, "<init>", "()V"⟩
abbrev cX2_holds : ByteArray := prog_4_method_2_code
def yX2_holds : MethodName := ⟨RX2, "holds", "(I)Z"⟩
abbrev cX2_append : ByteArray := prog_4_method_3_code
def yX2_append : MethodName := ⟨RX2, "append", "(I)V"⟩
abbrev cX2_empty : ByteArray := prog_4_method_4_code
def yX2_empty : MethodName := ⟨RX2, "empty", "()V"⟩
abbrev cX2_nextPlace : ByteArray := prog_4_method_5_code
def yX2_nextPlace : MethodName := ⟨RX2, "nextPlace", "(II)I"⟩
def RX3 : String := "BagTree$Law"
def TX3 : u_T := fun k => match k with
  | 0 => ("BagTree$Law", "size", "I", false)
  | 1 => ("BagTree$Law", "factors", "[I", true)
  | 2 => ("BagTree$Law", "pairFactors", "[I", true)
  | 3 => ("BagTree$Law", "barred", "[Z", true)
  | _ => ("BagTree$Law", "forbidden", "[I", true)
def tyX3 : Nat → FieldType := fun k => match k with
  | 0 => .int
  | 1 => .array .int
  | 2 => .array .int
  | 3 => .array .boolean
  | _ => .array .int
abbrev wsX30 : List Cond := u_ws RX3 TX3 5
theorem nmX3 : ∀ a, a < 5 → ∀ b, b < 5 → a ≠ b → (TX3 a).2.1 ≠ (TX3 b).2.1 := by decide +kernel
theorem tyX3_ok : ∀ k, k < 5 → parseFieldDescriptor (TX3 k).2.2.1 = some (tyX3 k) := by decide +kernel
abbrev cX3_init : ByteArray := prog_5_method_1_code
def yX3_init : MethodName := ⟨RX3, "<init>", "()V"⟩
abbrev cX3_has : ByteArray := prog_5_method_2_code
def yX3_has : MethodName := ⟨RX3, "has", "(I)Z"⟩
abbrev cX3_startAgain : ByteArray := prog_5_method_3_code
def yX3_startAgain : MethodName := ⟨RX3, "startAgain", "(I)V"⟩
abbrev cX3_setPair : ByteArray := prog_5_method_4_code
def yX3_setPair : MethodName := ⟨RX3, "setPair", "(IIZI)V"⟩
abbrev cX3_openFor : ByteArray := prog_5_method_5_code
def yX3_openFor : MethodName := ⟨RX3, "openFor", "(I)I"⟩
def RX4 : String := "BagTree$Net"
def TX4 : u_T := fun k => match k with
  | 0 => ("BagTree$Net", "loads", "[I", true)
  | 1 => ("BagTree$Net", "near", "[I", true)
  | 2 => ("BagTree$Net", "ties", "[I", true)
  | 3 => ("BagTree$Net", "size", "I", false)
  | _ => ("BagTree$Net", "edges", "I", false)
def tyX4 : Nat → FieldType := fun k => match k with
  | 0 => .array .int
  | 1 => .array .int
  | 2 => .array .int
  | 3 => .int
  | _ => .int
abbrev wsX40 : List Cond := u_ws RX4 TX4 5
theorem nmX4 : ∀ a, a < 5 → ∀ b, b < 5 → a ≠ b → (TX4 a).2.1 ≠ (TX4 b).2.1 := by decide +kernel
theorem tyX4_ok : ∀ k, k < 5 → parseFieldDescriptor (TX4 k).2.2.1 = some (tyX4 k) := by decide +kernel
abbrev cX4_init : ByteArray := prog_6_method_1_code
def yX4_init : MethodName := ⟨RX4, "<init>", "()V"⟩
abbrev cX4_has : ByteArray := prog_6_method_2_code
def yX4_has : MethodName := ⟨RX4, "has", "(I)Z"⟩
abbrev cX4_everyKnot : ByteArray := prog_6_method_3_code
def yX4_everyKnot : MethodName := ⟨RX4, "everyKnot", "()I"⟩
abbrev cX4_joined : ByteArray := prog_6_method_4_code
def yX4_joined : MethodName := ⟨RX4, "joined", "(II)Z"⟩
abbrev cX4_addKnot : ByteArray := prog_6_method_5_code
def yX4_addKnot : MethodName := ⟨RX4, "addKnot", "(I)I"⟩
abbrev cX4_join : ByteArray := prog_6_method_6_code
def yX4_join : MethodName := ⟨RX4, "join", "(III)Z"⟩
abbrev cX4_part : ByteArray := prog_6_method_7_code
def yX4_part : MethodName := ⟨RX4, "part", "(II)I"⟩
abbrev cX4_largestPart : ByteArray := prog_6_method_8_code
def yX4_largestPart : MethodName := ⟨RX4, "largestPart", "(I)I"⟩
abbrev cX4_reached : ByteArray := prog_6_method_9_code
def yX4_reached : MethodName := ⟨RX4, "reached", "(II)I"⟩
def RX5 : String := "BagTree$Plan"
def TX5 : u_T := fun k => match k with
  | 0 => ("BagTree$Plan", "knots", "[I", true)
  | 1 => ("BagTree$Plan", "others", "[I", true)
  | 2 => ("BagTree$Plan", "otherCount", "[I", true)
  | 3 => ("BagTree$Plan", "scopes", "[I", true)
  | 4 => ("BagTree$Plan", "users", "[I", true)
  | 5 => ("BagTree$Plan", "feeders", "[I", true)
  | 6 => ("BagTree$Plan", "feederCount", "[I", true)
  | 7 => ("BagTree$Plan", "size", "I", false)
  | 8 => ("BagTree$Plan", "places", "[I", true)
  | 9 => ("BagTree$Plan", "bagMates", "[I", true)
  | _ => ("BagTree$Plan", "going", "LBagTree$Going;", true)
def tyX5 : Nat → FieldType := fun k => match k with
  | 0 => .array .int
  | 1 => .array .int
  | 2 => .array .int
  | 3 => .array .int
  | 4 => .array .int
  | 5 => .array .int
  | 6 => .array .int
  | 7 => .int
  | 8 => .array .int
  | 9 => .array .int
  | _ => .object "BagTree$Going"
abbrev wsX50 : List Cond := u_ws RX5 TX5 11
theorem nmX5 : ∀ a, a < 11 → ∀ b, b < 11 → a ≠ b → (TX5 a).2.1 ≠ (TX5 b).2.1 := by decide +kernel
theorem tyX5_ok : ∀ k, k < 11 → parseFieldDescriptor (TX5 k).2.2.1 = some (tyX5 k) := by decide +kernel
abbrev cX5_init : ByteArray := prog_7_method_1_code
def yX5_init : MethodName := ⟨RX5, "<init>", "()V"⟩
abbrev cX5_lay : ByteArray := prog_7_method_2_code
def yX5_lay : MethodName := ⟨RX5, "lay", "(LBagTree$Net;LBagTree$Bags;)V"⟩
abbrev cX5_mostJoined : ByteArray := prog_7_method_3_code
def yX5_mostJoined : MethodName := ⟨RX5, "mostJoined", "(I)I"⟩
abbrev cX5_takeStep : ByteArray := prog_7_method_4_code
def yX5_takeStep : MethodName := ⟨RX5, "takeStep", "(I)V"⟩
def RX6 : String := "BagTree$Search"
def TX6 : u_T := fun k => match k with
  | 0 => ("BagTree$Search", "rest", "LBagTree$Going;", true)
  | 1 => ("BagTree$Search", "levels", "[LBagTree$Going;", true)
  | 2 => ("BagTree$Search", "stuck", "[J", true)
  | _ => ("BagTree$Search", "limit", "I", false)
def tyX6 : Nat → FieldType := fun k => match k with
  | 0 => .object "BagTree$Going"
  | 1 => .array (.object "BagTree$Going")
  | 2 => .array .long
  | _ => .int
abbrev wsX60 : List Cond := u_ws RX6 TX6 4
theorem nmX6 : ∀ a, a < 4 → ∀ b, b < 4 → a ≠ b → (TX6 a).2.1 ≠ (TX6 b).2.1 := by decide +kernel
theorem tyX6_ok : ∀ k, k < 4 → parseFieldDescriptor (TX6 k).2.2.1 = some (tyX6 k) := by decide +kernel
abbrev cX6_init : ByteArray := prog_8_method_1_code
def yX6_init : MethodName := ⟨RX6, "<init>", "()V"⟩
abbrev cX6_bestOrder : ByteArray := prog_8_method_2_code
def yX6_bestOrder : MethodName := ⟨RX6, "bestOrder", "(LBagTree$Net;LBagTree$KnotRow;I)I"⟩
abbrev cX6_netFits : ByteArray := prog_8_method_3_code
def yX6_netFits : MethodName := ⟨RX6, "netFits", "(LBagTree$Net;I)Z"⟩
abbrev cX6_fitsBehind : ByteArray := prog_8_method_4_code
def yX6_fitsBehind : MethodName := ⟨RX6, "fitsBehind", "(LBagTree$Going;II)Z"⟩
abbrev cX6_fits : ByteArray := prog_8_method_5_code
def yX6_fits : MethodName := ⟨RX6, "fits", "(I)Z"⟩
abbrev cX6_isStuck : ByteArray := prog_8_method_6_code
def yX6_isStuck : MethodName := ⟨RX6, "isStuck", "(I)Z"⟩
def RX7 : String := "BagTree$Tally"
def TX7 : u_T := fun k => match k with
  | 0 => ("BagTree$Tally", "open", "[I", true)
  | 1 => ("BagTree$Tally", "sum", "I", false)
  | 2 => ("BagTree$Tally", "many", "I", false)
  | 3 => ("BagTree$Tally", "net", "LBagTree$Net;", true)
  | 4 => ("BagTree$Tally", "law", "LBagTree$Law;", true)
  | 5 => ("BagTree$Tally", "plan", "LBagTree$Plan;", true)
  | 6 => ("BagTree$Tally", "openStates", "[I", true)
  | 7 => ("BagTree$Tally", "openCount", "[I", true)
  | 8 => ("BagTree$Tally", "picks", "[I", true)
  | 9 => ("BagTree$Tally", "strides", "[I", true)
  | 10 => ("BagTree$Tally", "sums", "[I", true)
  | 11 => ("BagTree$Tally", "counts", "[I", true)
  | 12 => ("BagTree$Tally", "sign", "I", false)
  | 13 => ("BagTree$Tally", "changed", "I", false)
  | 14 => ("BagTree$Tally", "pickedSum", "I", false)
  | 15 => ("BagTree$Tally", "aim", "I", false)
  | _ => ("BagTree$Tally", "before", "J", false)
def tyX7 : Nat → FieldType := fun k => match k with
  | 0 => .array .int
  | 1 => .int
  | 2 => .int
  | 3 => .object "BagTree$Net"
  | 4 => .object "BagTree$Law"
  | 5 => .object "BagTree$Plan"
  | 6 => .array .int
  | 7 => .array .int
  | 8 => .array .int
  | 9 => .array .int
  | 10 => .array .int
  | 11 => .array .int
  | 12 => .int
  | 13 => .int
  | 14 => .int
  | 15 => .int
  | _ => .long
abbrev wsX70 : List Cond := u_ws RX7 TX7 17
theorem nmX7 : ∀ a, a < 17 → ∀ b, b < 17 → a ≠ b → (TX7 a).2.1 ≠ (TX7 b).2.1 := by decide +kernel
theorem tyX7_ok : ∀ k, k < 17 → parseFieldDescriptor (TX7 k).2.2.1 = some (tyX7 k) := by decide +kernel
abbrev cX7_init : ByteArray := prog_9_method_1_code
def yX7_init : MethodName := ⟨RX7, "<init>", "(LBagTree$Net;LBagTree$Law;LBagTree$Plan;)V"⟩
abbrev cX7_openAll : ByteArray := prog_9_method_2_code
def yX7_openAll : MethodName := ⟨RX7, "openAll", "()V"⟩
abbrev cX7_sweep : ByteArray := prog_9_method_3_code
def yX7_sweep : MethodName := ⟨RX7, "sweep", "(I)V"⟩
abbrev cX7_sweepAgain : ByteArray := prog_9_method_4_code
def yX7_sweepAgain : MethodName := ⟨RX7, "sweepAgain", "()V"⟩
abbrev cX7_stateInWay : ByteArray := prog_9_method_5_code
def yX7_stateInWay : MethodName := ⟨RX7, "stateInWay", "(IJI)I"⟩
abbrev cX7_settle : ByteArray := prog_9_method_6_code
def yX7_settle : MethodName := ⟨RX7, "settle", "(I)I"⟩
abbrev cX7_listOpenStates : ByteArray := prog_9_method_7_code
def yX7_listOpenStates : MethodName := ⟨RX7, "listOpenStates", "(I)V"⟩
abbrev cX7_fillTable : ByteArray := prog_9_method_8_code
def yX7_fillTable : MethodName := ⟨RX7, "fillTable", "(I)V"⟩
abbrev cX7_pickNext : ByteArray := prog_9_method_9_code
def yX7_pickNext : MethodName := ⟨RX7, "pickNext", "(I)V"⟩
abbrev cX7_fillEntry : ByteArray := prog_9_method_10_code
def yX7_fillEntry : MethodName := ⟨RX7, "fillEntry", "(II)V"⟩
abbrev cX7_addEdges : ByteArray := prog_9_method_11_code
def yX7_addEdges : MethodName := ⟨RX7, "addEdges", "(II)Z"⟩
abbrev cX7_pickedState : ByteArray := prog_9_method_12_code
def yX7_pickedState : MethodName := ⟨RX7, "pickedState", "(I)I"⟩
abbrev cX7_addTables : ByteArray := prog_9_method_13_code
def yX7_addTables : MethodName := ⟨RX7, "addTables", "(I)I"⟩
abbrev cX7_entryOf : ByteArray := prog_9_method_14_code
def yX7_entryOf : MethodName := ⟨RX7, "entryOf", "(I)I"⟩
def RX8 : String := "BagTree"
def TX8 : u_T := fun k => match k with
  | 0 => ("BagTree", "net", "LBagTree$Net;", true)
  | 1 => ("BagTree", "order", "LBagTree$KnotRow;", true)
  | 2 => ("BagTree", "bags", "LBagTree$Bags;", true)
  | 3 => ("BagTree", "law", "LBagTree$Law;", true)
  | 4 => ("BagTree", "going", "LBagTree$Going;", true)
  | 5 => ("BagTree", "plan", "LBagTree$Plan;", true)
  | 6 => ("BagTree", "search", "LBagTree$Search;", false)
  | _ => ("BagTree", "tally", "LBagTree$Tally;", false)
def tyX8 : Nat → FieldType := fun k => match k with
  | 0 => .object "BagTree$Net"
  | 1 => .object "BagTree$KnotRow"
  | 2 => .object "BagTree$Bags"
  | 3 => .object "BagTree$Law"
  | 4 => .object "BagTree$Going"
  | 5 => .object "BagTree$Plan"
  | 6 => .object "BagTree$Search"
  | _ => .object "BagTree$Tally"
abbrev wsX80 : List Cond := u_ws RX8 TX8 8
theorem nmX8 : ∀ a, a < 8 → ∀ b, b < 8 → a ≠ b → (TX8 a).2.1 ≠ (TX8 b).2.1 := by decide +kernel
theorem tyX8_ok : ∀ k, k < 8 → parseFieldDescriptor (TX8 k).2.2.1 = some (tyX8 k) := by decide +kernel
abbrev cX8_init : ByteArray := prog_1_method_1_code
def yX8_init : MethodName := ⟨RX8, "<init>", "()V"⟩
abbrev cX8_knot : ByteArray := prog_1_method_2_code
def yX8_knot : MethodName := ⟨RX8, "knot", "(I)I"⟩
abbrev cX8_edge : ByteArray := prog_1_method_3_code
def yX8_edge : MethodName := ⟨RX8, "edge", "(III)I"⟩
abbrev cX8_cut : ByteArray := prog_1_method_4_code
def yX8_cut : MethodName := ⟨RX8, "cut", "(II)I"⟩
abbrev cX8_weigh : ByteArray := prog_1_method_5_code
def yX8_weigh : MethodName := ⟨RX8, "weigh", "(II)I"⟩
abbrev cX8_weight : ByteArray := prog_1_method_6_code
def yX8_weight : MethodName := ⟨RX8, "weight", "(II)I"⟩
abbrev cX8_beside : ByteArray := prog_1_method_7_code
def yX8_beside : MethodName := ⟨RX8, "beside", "(I)I"⟩
abbrev cX8_put : ByteArray := prog_1_method_8_code
def yX8_put : MethodName := ⟨RX8, "put", "(I)I"⟩
abbrev cX8_wipe : ByteArray := prog_1_method_9_code
def yX8_wipe : MethodName := ⟨RX8, "wipe", "()I"⟩
abbrev cX8_make : ByteArray := prog_1_method_10_code
def yX8_make : MethodName := ⟨RX8, "make", "()I"⟩
abbrev cX8_fills : ByteArray := prog_1_method_11_code
def yX8_fills : MethodName := ⟨RX8, "fills", "()I"⟩
abbrev cX8_fewest : ByteArray := prog_1_method_12_code
def yX8_fewest : MethodName := ⟨RX8, "fewest", "()I"⟩
abbrev cX8_least : ByteArray := prog_1_method_13_code
def yX8_least : MethodName := ⟨RX8, "least", "()I"⟩
abbrev cX8_row : ByteArray := prog_1_method_14_code
def yX8_row : MethodName := ⟨RX8, "row", "(I)I"⟩
abbrev cX8_below : ByteArray := prog_1_method_15_code
def yX8_below : MethodName := ⟨RX8, "below", "()I"⟩
abbrev cX8_clear : ByteArray := prog_1_method_16_code
def yX8_clear : MethodName := ⟨RX8, "clear", "()I"⟩
abbrev cX8_bag : ByteArray := prog_1_method_17_code
def yX8_bag : MethodName := ⟨RX8, "bag", "(I)I"⟩
abbrev cX8_hang : ByteArray := prog_1_method_18_code
def yX8_hang : MethodName := ⟨RX8, "hang", "(II)I"⟩
abbrev cX8_bagged : ByteArray := prog_1_method_19_code
def yX8_bagged : MethodName := ⟨RX8, "bagged", "(II)I"⟩
abbrev cX8_sound : ByteArray := prog_1_method_20_code
def yX8_sound : MethodName := ⟨RX8, "sound", "()I"⟩
abbrev cX8_width : ByteArray := prog_1_method_21_code
def yX8_width : MethodName := ⟨RX8, "width", "()I"⟩
abbrev cX8_separator : ByteArray := prog_1_method_22_code
def yX8_separator : MethodName := ⟨RX8, "separator", "()I"⟩
abbrev cX8_states : ByteArray := prog_1_method_23_code
def yX8_states : MethodName := ⟨RX8, "states", "(I)I"⟩
abbrev cX8_factor : ByteArray := prog_1_method_24_code
def yX8_factor : MethodName := ⟨RX8, "factor", "(II)I"⟩
abbrev cX8_pair : ByteArray := prog_1_method_25_code
def yX8_pair : MethodName := ⟨RX8, "pair", "(IIII)I"⟩
abbrev cX8_forbid : ByteArray := prog_1_method_26_code
def yX8_forbid : MethodName := ⟨RX8, "forbid", "(II)I"⟩
abbrev cX8_ways : ByteArray := prog_1_method_27_code
def yX8_ways : MethodName := ⟨RX8, "ways", "()J"⟩
abbrev cX8_best : ByteArray := prog_1_method_28_code
def yX8_best : MethodName := ⟨RX8, "best", "(Z)J"⟩
abbrev cX8_bests : ByteArray := prog_1_method_29_code
def yX8_bests : MethodName := ⟨RX8, "bests", "(Z)J"⟩
abbrev cX8_choice : ByteArray := prog_1_method_30_code
def yX8_choice : MethodName := ⟨RX8, "choice", "(ZI)I"⟩
abbrev cX8_drawn : ByteArray := prog_1_method_31_code
def yX8_drawn : MethodName := ⟨RX8, "drawn", "(JI)I"⟩
abbrev cX8_share : ByteArray := prog_1_method_32_code
def yX8_share : MethodName := ⟨RX8, "share", "(II)J"⟩
abbrev cX8_count : ByteArray := prog_1_method_33_code
def yX8_count : MethodName := ⟨RX8, "count", "(I)I"⟩
abbrev cX8_isWeight : ByteArray := prog_1_method_34_code
def yX8_isWeight : MethodName := ⟨RX8, "isWeight", "(I)Z"⟩
abbrev cX8_isFactor : ByteArray := prog_1_method_35_code
def yX8_isFactor : MethodName := ⟨RX8, "isFactor", "(I)Z"⟩
abbrev cX8_signOf : ByteArray := prog_1_method_36_code
def yX8_signOf : MethodName := ⟨RX8, "signOf", "(Z)I"⟩
abbrev cX8_hasBit : ByteArray := prog_1_method_37_code
def yX8_hasBit : MethodName := ⟨RX8, "hasBit", "(II)Z"⟩
abbrev cX8_isSound : ByteArray := prog_1_method_38_code
def yX8_isSound : MethodName := ⟨RX8, "isSound", "()Z"⟩
abbrev cX8_canAsk : ByteArray := prog_1_method_39_code
def yX8_canAsk : MethodName := ⟨RX8, "canAsk", "()Z"⟩
abbrev cX8_freshTally : ByteArray := prog_1_method_40_code
def yX8_freshTally : MethodName := ⟨RX8, "freshTally", "()LBagTree$Tally;"⟩
abbrev cX8_lowerBound : ByteArray := prog_1_method_41_code
def yX8_lowerBound : MethodName := ⟨RX8, "lowerBound", "()I"⟩
def RX9 : String := "BagTreeModel"
def TX9 : u_T := fun k => match k with
  | 0 => ("BagTreeModel", "knots", "I", false)
  | 1 => ("BagTreeModel", "weight", "[I", true)
  | 2 => ("BagTreeModel", "beside", "[I", true)
  | 3 => ("BagTreeModel", "edge", "[I", true)
  | 4 => ("BagTreeModel", "rowed", "I", false)
  | 5 => ("BagTreeModel", "row", "[I", true)
  | 6 => ("BagTreeModel", "bags", "I", false)
  | 7 => ("BagTreeModel", "bag", "[I", true)
  | 8 => ("BagTreeModel", "up", "[I", true)
  | 9 => ("BagTreeModel", "least", "[I", true)
  | 10 => ("BagTreeModel", "q", "I", false)
  | 11 => ("BagTreeModel", "factor", "[I", true)
  | 12 => ("BagTreeModel", "pairFactor", "[I", true)
  | 13 => ("BagTreeModel", "forbidden", "[I", true)
  | 14 => ("BagTreeModel", "mayNot", "[Z", true)
  | 15 => ("BagTreeModel", "fixed", "[I", true)
  | 16 => ("BagTreeModel", "state", "[I", true)
  | 17 => ("BagTreeModel", "count", "[J", true)
  | 18 => ("BagTreeModel", "best", "[J", true)
  | 19 => ("BagTreeModel", "bests", "[J", true)
  | 20 => ("BagTreeModel", "allCount", "J", false)
  | 21 => ("BagTreeModel", "allBest", "J", false)
  | _ => ("BagTreeModel", "allBests", "J", false)
def tyX9 : Nat → FieldType := fun k => match k with
  | 0 => .int
  | 1 => .array .int
  | 2 => .array .int
  | 3 => .array .int
  | 4 => .int
  | 5 => .array .int
  | 6 => .int
  | 7 => .array .int
  | 8 => .array .int
  | 9 => .array .int
  | 10 => .int
  | 11 => .array .int
  | 12 => .array .int
  | 13 => .array .int
  | 14 => .array .boolean
  | 15 => .array .int
  | 16 => .array .int
  | 17 => .array .long
  | 18 => .array .long
  | 19 => .array .long
  | 20 => .long
  | 21 => .long
  | _ => .long
abbrev wsX90 : List Cond := u_ws RX9 TX9 23
theorem nmX9 : ∀ a, a < 23 → ∀ b, b < 23 → a ≠ b → (TX9 a).2.1 ≠ (TX9 b).2.1 := by decide +kernel
theorem tyX9_ok : ∀ k, k < 23 → parseFieldDescriptor (TX9 k).2.2.1 = some (tyX9 k) := by decide +kernel
abbrev cX9_init : ByteArray := prog_11_method_1_code
def yX9_init : MethodName := ⟨RX9, "<init>", "()V"⟩
abbrev cX9_isKnot : ByteArray := prog_11_method_2_code
def yX9_isKnot : MethodName := ⟨RX9, "isKnot", "(I)Z"⟩
abbrev cX9_isWeight : ByteArray := prog_11_method_3_code
def yX9_isWeight : MethodName := ⟨RX9, "isWeight", "(I)Z"⟩
abbrev cX9_all : ByteArray := prog_11_method_4_code
def yX9_all : MethodName := ⟨RX9, "all", "()I"⟩
abbrev cX9_bits : ByteArray := prog_11_method_5_code
def yX9_bits : MethodName := ⟨RX9, "bits", "(I)I"⟩
abbrev cX9_knot : ByteArray := prog_11_method_6_code
def yX9_knot : MethodName := ⟨RX9, "knot", "(I)I"⟩
abbrev cX9_edge : ByteArray := prog_11_method_7_code
def yX9_edge : MethodName := ⟨RX9, "edge", "(III)I"⟩
abbrev cX9_isEdge : ByteArray := prog_11_method_8_code
def yX9_isEdge : MethodName := ⟨RX9, "isEdge", "(II)Z"⟩
abbrev cX9_cut : ByteArray := prog_11_method_9_code
def yX9_cut : MethodName := ⟨RX9, "cut", "(II)I"⟩
abbrev cX9_weigh : ByteArray := prog_11_method_10_code
def yX9_weigh : MethodName := ⟨RX9, "weigh", "(II)I"⟩
abbrev cX9_weight : ByteArray := prog_11_method_11_code
def yX9_weight : MethodName := ⟨RX9, "weight", "(II)I"⟩
abbrev cX9_beside : ByteArray := prog_11_method_12_code
def yX9_beside : MethodName := ⟨RX9, "beside", "(I)I"⟩
abbrev cX9_rowMask : ByteArray := prog_11_method_13_code
def yX9_rowMask : MethodName := ⟨RX9, "rowMask", "()I"⟩
abbrev cX9_put : ByteArray := prog_11_method_14_code
def yX9_put : MethodName := ⟨RX9, "put", "(I)I"⟩
abbrev cX9_wipe : ByteArray := prog_11_method_15_code
def yX9_wipe : MethodName := ⟨RX9, "wipe", "()I"⟩
abbrev cX9_row : ByteArray := prog_11_method_16_code
def yX9_row : MethodName := ⟨RX9, "row", "(I)I"⟩
abbrev cX9_around : ByteArray := prog_11_method_17_code
def yX9_around : MethodName := ⟨RX9, "around", "(II)I"⟩
abbrev cX9_isOrder : ByteArray := prog_11_method_18_code
def yX9_isOrder : MethodName := ⟨RX9, "isOrder", "()Z"⟩
abbrev cX9_rowWidth : ByteArray := prog_11_method_19_code
def yX9_rowWidth : MethodName := ⟨RX9, "rowWidth", "()I"⟩
abbrev cX9_make : ByteArray := prog_11_method_20_code
def yX9_make : MethodName := ⟨RX9, "make", "()I"⟩
abbrev cX9_fills : ByteArray := prog_11_method_21_code
def yX9_fills : MethodName := ⟨RX9, "fills", "()I"⟩
abbrev cX9_fewest : ByteArray := prog_11_method_22_code
def yX9_fewest : MethodName := ⟨RX9, "fewest", "()I"⟩
abbrev cX9_least : ByteArray := prog_11_method_23_code
def yX9_least : MethodName := ⟨RX9, "least", "()I"⟩
abbrev cX9_below : ByteArray := prog_11_method_24_code
def yX9_below : MethodName := ⟨RX9, "below", "()I"⟩
abbrev cX9_clear : ByteArray := prog_11_method_25_code
def yX9_clear : MethodName := ⟨RX9, "clear", "()I"⟩
abbrev cX9_bag : ByteArray := prog_11_method_26_code
def yX9_bag : MethodName := ⟨RX9, "bag", "(I)I"⟩
abbrev cX9_hang : ByteArray := prog_11_method_27_code
def yX9_hang : MethodName := ⟨RX9, "hang", "(II)I"⟩
abbrev cX9_bagged : ByteArray := prog_11_method_28_code
def yX9_bagged : MethodName := ⟨RX9, "bagged", "(II)I"⟩
abbrev cX9_inOne : ByteArray := prog_11_method_29_code
def yX9_inOne : MethodName := ⟨RX9, "inOne", "(I)Z"⟩
abbrev cX9_sound : ByteArray := prog_11_method_30_code
def yX9_sound : MethodName := ⟨RX9, "sound", "()I"⟩
abbrev cX9_width : ByteArray := prog_11_method_31_code
def yX9_width : MethodName := ⟨RX9, "width", "()I"⟩
abbrev cX9_separator : ByteArray := prog_11_method_32_code
def yX9_separator : MethodName := ⟨RX9, "separator", "()I"⟩
abbrev cX9_states : ByteArray := prog_11_method_33_code
def yX9_states : MethodName := ⟨RX9, "states", "(I)I"⟩
abbrev cX9_isFactor : ByteArray := prog_11_method_34_code
def yX9_isFactor : MethodName := ⟨RX9, "isFactor", "(I)Z"⟩
abbrev cX9_isState : ByteArray := prog_11_method_35_code
def yX9_isState : MethodName := ⟨RX9, "isState", "(I)Z"⟩
abbrev cX9_factor : ByteArray := prog_11_method_36_code
def yX9_factor : MethodName := ⟨RX9, "factor", "(II)I"⟩
abbrev cX9_pair : ByteArray := prog_11_method_37_code
def yX9_pair : MethodName := ⟨RX9, "pair", "(IIII)I"⟩
abbrev cX9_forbid : ByteArray := prog_11_method_38_code
def yX9_forbid : MethodName := ⟨RX9, "forbid", "(II)I"⟩
abbrev cX9_isAsked : ByteArray := prog_11_method_39_code
def yX9_isAsked : MethodName := ⟨RX9, "isAsked", "()Z"⟩
abbrev cX9_free : ByteArray := prog_11_method_40_code
def yX9_free : MethodName := ⟨RX9, "free", "()V"⟩
abbrev cX9_mayBe : ByteArray := prog_11_method_41_code
def yX9_mayBe : MethodName := ⟨RX9, "mayBe", "(II)Z"⟩
abbrev cX9_code : ByteArray := prog_11_method_42_code
def yX9_code : MethodName := ⟨RX9, "code", "(I)I"⟩
abbrev cX9_take : ByteArray := prog_11_method_43_code
def yX9_take : MethodName := ⟨RX9, "take", "(II)Z"⟩
abbrev cX9_isFirst : ByteArray := prog_11_method_44_code
def yX9_isFirst : MethodName := ⟨RX9, "isFirst", "(II)Z"⟩
abbrev cX9_own : ByteArray := prog_11_method_45_code
def yX9_own : MethodName := ⟨RX9, "own", "(I)J"⟩
abbrev cX9_ask : ByteArray := prog_11_method_46_code
def yX9_ask : MethodName := ⟨RX9, "ask", "(Z)V"⟩
abbrev cX9_put_ : ByteArray := prog_11_method_47_code
def yX9_put_ : MethodName := ⟨RX9, "put", "(IJJJZ)V"⟩
abbrev cX9_ways : ByteArray := prog_11_method_48_code
def yX9_ways : MethodName := ⟨RX9, "ways", "()J"⟩
abbrev cX9_best : ByteArray := prog_11_method_49_code
def yX9_best : MethodName := ⟨RX9, "best", "(Z)J"⟩
abbrev cX9_bests : ByteArray := prog_11_method_50_code
def yX9_bests : MethodName := ⟨RX9, "bests", "(Z)J"⟩
abbrev cX9_choice : ByteArray := prog_11_method_51_code
def yX9_choice : MethodName := ⟨RX9, "choice", "(ZI)I"⟩
abbrev cX9_drawn : ByteArray := prog_11_method_52_code
def yX9_drawn : MethodName := ⟨RX9, "drawn", "(JI)I"⟩
abbrev cX9_share : ByteArray := prog_11_method_53_code
def yX9_share : MethodName := ⟨RX9, "share", "(II)J"⟩
abbrev cX9_count : ByteArray := prog_11_method_54_code
def yX9_count : MethodName := ⟨RX9, "count", "(I)I"⟩
def RJ6 : String := "java/lang/Integer"
def TJ6 : u_T := fun k => match k with
  | _ => ("", "", "", false)
def tyJ6 : Nat → FieldType := fun k => match k with
  | _ => .int
abbrev wsJ60 : List Cond := u_ws RJ6 TJ6 0
theorem nmJ6 : ∀ a, a < 0 → ∀ b, b < 0 → a ≠ b → (TJ6 a).2.1 ≠ (TJ6 b).2.1 := by decide +kernel
theorem tyJ6_ok : ∀ k, k < 0 → parseFieldDescriptor (TJ6 k).2.2.1 = some (tyJ6 k) := by decide +kernel
abbrev cJ6_bitCount_0f7a4 : ByteArray := prog_12_method_49_code
def yJ6_bitCount_0f7a4 : MethodName := ⟨RJ6, "bitCount", "(I)I"⟩
def RJ9 : String := "java/lang/Math"
def TJ9 : u_T := fun k => match k with
  | _ => ("", "", "", false)
def tyJ9 : Nat → FieldType := fun k => match k with
  | _ => .int
abbrev wsJ90 : List Cond := u_ws RJ9 TJ9 0
theorem nmJ9 : ∀ a, a < 0 → ∀ b, b < 0 → a ≠ b → (TJ9 a).2.1 ≠ (TJ9 b).2.1 := by decide +kernel
theorem tyJ9_ok : ∀ k, k < 0 → parseFieldDescriptor (TJ9 k).2.2.1 = some (tyJ9 k) := by decide +kernel
abbrev cJ9_max_7cf53 : ByteArray := prog_13_method_65_code
def yJ9_max_7cf53 : MethodName := ⟨RJ9, "max", "(II)I"⟩
abbrev cJ9_min_7cf53 : ByteArray := prog_13_method_69_code
def yJ9_min_7cf53 : MethodName := ⟨RJ9, "min", "(II)I"⟩
def RJ10 : String := "java/lang/System"
def TJ10 : u_T := fun k => match k with
  | _ => ("", "", "", false)
def tyJ10 : Nat → FieldType := fun k => match k with
  | _ => .int
abbrev wsJ100 : List Cond := u_ws RJ10 TJ10 0
theorem nmJ10 : ∀ a, a < 0 → ∀ b, b < 0 → a ≠ b → (TJ10 a).2.1 ≠ (TJ10 b).2.1 := by decide +kernel
theorem tyJ10_ok : ∀ k, k < 0 → parseFieldDescriptor (TJ10 k).2.2.1 = some (tyJ10 k) := by decide +kernel
def RJ7 : String := "java/util/Arrays"
def TJ7 : u_T := fun k => match k with
  | _ => ("", "", "", false)
def tyJ7 : Nat → FieldType := fun k => match k with
  | _ => .int
abbrev wsJ70 : List Cond := u_ws RJ7 TJ7 0
theorem nmJ7 : ∀ a, a < 0 → ∀ b, b < 0 → a ≠ b → (TJ7 a).2.1 ≠ (TJ7 b).2.1 := by decide +kernel
theorem tyJ7_ok : ∀ k, k < 0 → parseFieldDescriptor (TJ7 k).2.2.1 = some (tyJ7 k) := by decide +kernel
abbrev cJ7_fill_d0a16 : ByteArray := prog_15_method_101_code
def yJ7_fill_d0a16 : MethodName := ⟨RJ7, "fill", "([JJ)V"⟩
def RL : String := "BagTreeLaw"
abbrev cL_law : ByteArray := code
def yL_law : MethodName := ⟨RL, "law", "([I)Z"⟩
abbrev vwCl : List vw_C := [(RX0, TX0, 3), (RX1, TX1, 3), (RX2, TX2, 3), (RX3, TX3, 5), (RX4, TX4, 5), (RX5, TX5, 11), (RX6, TX6, 4), (RX7, TX7, 17), (RX8, TX8, 8), (RX9, TX9, 23)]
end
section
/-! The words that every method may use: the tables' good ones. -/
def G : List Cond := lw_tbl.filter goodWord
theorem G_in : ∀ w ∈ G, w ∈ lw_tbl := fun _ h => (List.mem_filter.mp h).1
theorem G_good : ∀ w ∈ G, (w.onTables && w.keeps) = true ∨ ∃ ty, w = .arrayClass ty := fun _ h => good_of_word (List.mem_filter.mp h).2
theorem inG {w : Cond} (h : w ∈ lw_tbl) (hg : goodWord w = true) : w ∈ G := List.mem_filter.mpr ⟨h, hg⟩
theorem inT {w : Cond} (h : w ∈ tables_1) : w ∈ lw_tbl := List.mem_append_right _ h
theorem inS {w : Cond} (h : w ∈ k2_sels lw_privs) : w ∈ lw_tbl := List.mem_append_left _ h
theorem gi_all {b : Cond} {ws : List Cond} (h : ∀ w ∈ ws, w ∈ G) : GoodIn (b :: G) ws := fun w hw => ⟨List.mem_cons_of_mem _ (h w hw), G_good w (h w hw)⟩
theorem gi_G {ws : List Cond} (h : ∀ w ∈ ws, w ∈ G) : GoodIn G ws := fun w hw => ⟨h w hw, G_good w (h w hw)⟩
/-- what the tables say of private methods of nest mates -/
def nwT : List (String × Nat × MethodName × String) := [("BagTree", 11, ⟨"BagTree$Net", "<init>", "()V"⟩, "BagTree"), ("BagTree", 20, ⟨"BagTree$KnotRow", "<init>", "()V"⟩, "BagTree"), ("BagTree", 27, ⟨"BagTree$Bags", "<init>", "()V"⟩, "BagTree"), ("BagTree", 34, ⟨"BagTree$Law", "<init>", "()V"⟩, "BagTree"), ("BagTree", 41, ⟨"BagTree$Going", "<init>", "()V"⟩, "BagTree"), ("BagTree", 48, ⟨"BagTree$Plan", "<init>", "()V"⟩, "BagTree"), ("BagTree$Plan", 41, ⟨"BagTree$Going", "<init>", "()V"⟩, "BagTree"), ("BagTree$Net", 29, ⟨"BagTree", "hasBit", "(II)Z"⟩, "BagTree"), ("BagTree$KnotRow", 19, ⟨"BagTree", "hasBit", "(II)Z"⟩, "BagTree"), ("BagTree$Going", 39, ⟨"BagTree", "hasBit", "(II)Z"⟩, "BagTree"), ("BagTree$Search", 11, ⟨"BagTree$Going", "<init>", "()V"⟩, "BagTree"), ("BagTree$Search", 69, ⟨"BagTree", "hasBit", "(II)Z"⟩, "BagTree"), ("BagTree$Bags", 56, ⟨"BagTree", "hasBit", "(II)Z"⟩, "BagTree"), ("BagTree$Plan", 70, ⟨"BagTree", "hasBit", "(II)Z"⟩, "BagTree"), ("BagTree$Tally", 70, ⟨"BagTree", "hasBit", "(II)Z"⟩, "BagTree")]
def NW (U : State) : Prop := (∀ q ∈ nwT, va_Nw (.methodLinkNest q.1 q.2.1 q.2.2.1 q.2.2.2) U) ∧ va_AO RX1 U
theorem NW.warm {s U : State} (hW : s.WarmedH U.vm) (h : NW s) : NW U := ⟨fun q hq => va_Nw.warmM hW (h.1 q hq), h.2.moved hW.alike⟩
theorem NW.same {s U : State} (hv : s.vm = U.vm) (h : NW s) : NW U := ⟨fun q hq => va_Nw.same rfl hv (h.1 q hq), h.2.moved (by rw [hv]; exact Vm.Alike.refl _)⟩
abbrev TY (cA : Nat → ClassId) : List (ClassId × FieldType) := [(cA 0, .int), (cA 1, .long), (cA 2, .boolean), (cA 3, .object RX1)]
/-! Cells. -/
abbrev aI (cA : Nat → ClassId) (q n : Nat) (f : Nat → Int32) : Nat × va_E := (q, .inl (cA 0, n, .inl f))
abbrev aZ (cA : Nat → ClassId) (q n : Nat) (f : Nat → Int32) : Nat × va_E := (q, .inl (cA 2, n, .inl f))
abbrev aJ (cA : Nat → ClassId) (q n : Nat) (f : Nat → Int64) : Nat × va_E := (q, .inl (cA 1, n, .inr (.inl f)))
abbrev aG (cA : Nat → ClassId) (q n : Nat) (f : Nat → Option Nat) : Nat × va_E := (q, .inl (cA 3, n, .inr (.inr (.inr (.inr f)))))
abbrev oB (q ci : Nat) (fs : List Value) : Nat × va_E := (q, .inr (ci, fs))
/-! The functions' own words. -/
def bnd {α β : Type} (a : α) (k : α → β) : β := k a
abbrev okI (i : Int32) (n : Nat) : Prop := ¬ (i < 0 ∨ n ≤ i.toNatClampNeg)
def ldA {α β : Type} (f : Nat → α) (n : Nat) (i : Int32) (k : α → Option β) : Option β := if okI i n then k (f i.toNatClampNeg) else none
def stI {β : Type} (f : Nat → Int32) (n : Nat) (i x : Int32) (k : (Nat → Int32) → Option β) : Option β := if okI i n then k (upd f i.toNatClampNeg x) else none
def stZ {β : Type} (f : Nat → Int32) (n : Nat) (i x : Int32) (k : (Nat → Int32) → Option β) : Option β := if okI i n then k (upd f i.toNatClampNeg (vp_nar .boolean x)) else none
def stJ {β : Type} (f : Nat → Int64) (n : Nat) (i : Int32) (x : Int64) (k : (Nat → Int64) → Option β) : Option β := if okI i n then k (vp_updL f i.toNatClampNeg x) else none
def cal {α β : Type} (o : Option α) (k : α → Option β) : Option β := match o with
  | none => none
  | some a => k a
def chk {β : Type} (c : Prop) [Decidable c] (k : Option β) : Option β := if c then k else none
theorem ldA_some {α β : Type} {f : Nat → α} {n : Nat} {i : Int32} {k : α → Option β} {r : β} (h : ldA f n i k = some r) : vp_in i n ∧ k (f i.toNatClampNeg) = some r := by
  unfold ldA at h; split at h
  · exact ⟨‹_›, h⟩
  · cases h
theorem stI_some {β : Type} {f : Nat → Int32} {n : Nat} {i x : Int32} {k : (Nat → Int32) → Option β} {r : β} (h : stI f n i x k = some r) : vp_in i n ∧ k (upd f i.toNatClampNeg x) = some r := by
  unfold stI at h; split at h
  · exact ⟨‹_›, h⟩
  · cases h
theorem stZ_some {β : Type} {f : Nat → Int32} {n : Nat} {i x : Int32} {k : (Nat → Int32) → Option β} {r : β} (h : stZ f n i x k = some r) : vp_in i n ∧ k (upd f i.toNatClampNeg (vp_nar .boolean x)) = some r := by
  unfold stZ at h; split at h
  · exact ⟨‹_›, h⟩
  · cases h
theorem stJ_some {β : Type} {f : Nat → Int64} {n : Nat} {i : Int32} {x : Int64} {k : (Nat → Int64) → Option β} {r : β} (h : stJ f n i x k = some r) : vp_in i n ∧ k (vp_updL f i.toNatClampNeg x) = some r := by
  unfold stJ at h; split at h
  · exact ⟨‹_›, h⟩
  · cases h
theorem cal_some {α β : Type} {o : Option α} {k : α → Option β} {r : β} (h : cal o k = some r) : ∃ a, o = some a ∧ k a = some r := by
  cases o with
  | none => cases h
  | some a => exact ⟨a, rfl, h⟩
theorem chk_some {β : Type} {c : Prop} [Decidable c] {k : Option β} {r : β} (h : chk c k = some r) : c ∧ k = some r := by
  unfold chk at h; split at h
  · exact ⟨‹_›, h⟩
  · cases h
theorem ite_t {β : Type} {c : Prop} [Decidable c] {x y : Option β} {r : β} (h : (if c then x else y) = some r) (hc : c) : x = some r := by rwa [if_pos hc] at h
theorem ite_f {β : Type} {c : Prop} [Decidable c] {x y : Option β} {r : β} (h : (if c then x else y) = some r) (hc : ¬ c) : y = some r := by rwa [if_neg hc] at h
/-! A walk's fixed things in one. -/
abbrev XT : Type := Program × Launch × Env × Room × State × MethodId × Array Value × List Frame × Method × Code × va_G × (Nat → Prop) × Heap × (State → Prop)
abbrev x_p (X : XT) : Program := X.1
abbrev x_l (X : XT) : Launch := X.2.1
abbrev x_e (X : XT) : Env := X.2.2.1
abbrev x_R (X : XT) : Room := X.2.2.2.1
abbrev x_s (X : XT) : State := X.2.2.2.2.1
abbrev x_m (X : XT) : MethodId := X.2.2.2.2.2.1
abbrev x_a (X : XT) : Array Value := X.2.2.2.2.2.2.1
abbrev x_b (X : XT) : List Frame := X.2.2.2.2.2.2.2.1
abbrev x_me (X : XT) : Method := X.2.2.2.2.2.2.2.2.1
abbrev x_c (X : XT) : Code := X.2.2.2.2.2.2.2.2.2.1
abbrev x_D (X : XT) : va_G := X.2.2.2.2.2.2.2.2.2.2.1
abbrev x_A (X : XT) : Nat → Prop := X.2.2.2.2.2.2.2.2.2.2.2.1
abbrev x_H (X : XT) : Heap := X.2.2.2.2.2.2.2.2.2.2.2.2.1
abbrev x_Q (X : XT) : State → Prop := X.2.2.2.2.2.2.2.2.2.2.2.2.2
def XW (X : XT) (H : Heap) (locs : List Loc) (k n : Nat) (g : JFrame) : Prop := W (x_p X) (x_l X) (x_e X) (x_R X) (x_s X) (x_m X) (x_a X) (x_b X) (x_me X) (x_c X) H locs k n (x_Q X) g
def Go (X : XT) (nL k n pc : Nat) (ws : va_W) (lv : List (Nat × Value)) (st : List Value) : Prop :=
  ∀ (H : Heap) (locs : List Loc) (ls : Array Slot), va_P (x_D X) vwCl ws H → va_D (x_A X) ws → va_S (x_A X) (x_H X) H locs → lv_has ls (nL) lv → XW X H locs k n (F0 (x_m X) pc ls st)
/-- what a walk rests on: own class, code, answer's type, array classes, room -/
def Cx (X : XT) (cc : ByteArray) (own : String) (ret : Option FieldType) (cA : Nat → ClassId) (fr lo nL : Nat) : Prop :=
  (x_p X).tables.exec = Jvm.exec ∧ (x_c X).code = cc ∧ (x_c X).maxLocals = nL ∧ (x_s X).vm.findClass own = some (x_m X).cls ∧ (∀ w ∈ G, w.before (x_a X) (x_s X) = true) ∧ (x_me X).sig.returnType = ret ∧ (x_me X).locks = false ∧ va_K (x_D X) vwCl (TY cA) (x_s X) ∧ NW (x_s X) ∧ (fr ≤ (x_R X).frames ∧ lo ≤ (x_R X).locals) ∧ (∀ q, (x_H X).size ≤ q → x_A X q)
section GR
variable {X : XT} {cc : ByteArray} {own : String} {ret : Option FieldType} {cA : Nat → ClassId} {fr lo nL k n : Nat} {ws : va_W} {lv : List (Nat × Value)} {st : List Value} {ρ : Type} {r : ρ}
theorem Cx.ex (C : Cx X cc own ret cA fr lo nL) : (x_p X).tables.exec = Jvm.exec := C.1
theorem Cx.by (C : Cx X cc own ret cA fr lo nL) : (x_c X).code = cc := C.2.1
theorem Cx.ml (C : Cx X cc own ret cA fr lo nL) : (x_c X).maxLocals = nL := C.2.2.1
theorem Cx.ow (C : Cx X cc own ret cA fr lo nL) : (x_s X).vm.findClass own = some (x_m X).cls := C.2.2.2.1
theorem Cx.ts (C : Cx X cc own ret cA fr lo nL) : ∀ w ∈ G, w.before (x_a X) (x_s X) = true := C.2.2.2.2.1
theorem Cx.rt (C : Cx X cc own ret cA fr lo nL) : (x_me X).sig.returnType = ret := C.2.2.2.2.2.1
theorem Cx.lk (C : Cx X cc own ret cA fr lo nL) : (x_me X).locks = false := C.2.2.2.2.2.2.1
theorem Cx.K (C : Cx X cc own ret cA fr lo nL) : va_K (x_D X) vwCl (TY cA) (x_s X) := C.2.2.2.2.2.2.2.1
theorem Cx.nw (C : Cx X cc own ret cA fr lo nL) : NW (x_s X) := C.2.2.2.2.2.2.2.2.1
theorem Cx.rm (C : Cx X cc own ret cA fr lo nL) : fr ≤ (x_R X).frames ∧ lo ≤ (x_R X).locals := C.2.2.2.2.2.2.2.2.2.1
theorem Cx.hA (C : Cx X cc own ret cA fr lo nL) : ∀ q, (x_H X).size ≤ q → x_A X q := C.2.2.2.2.2.2.2.2.2.2
theorem g_lv (ks : List Nat) {lv' : List (Nat × Value)} {pc : Nat} (h : lv_pick lv ks = lv') (K : Go X nL k n pc ws lv' st) : Go X nL k n pc ws lv st := fun H locs ls hP hD hS hl => K H locs ls hP hD hS (lv_sub hl ks h)
theorem g_iconst (C : Cx X cc own ret cA fr lo nL) (pc : Nat) {i : Int} (v : Int32) (d : decode cc pc = .ok (.iconst i, 1)) (hv : Int32.ofInt i = v) (K : Go X nL k n (pc + 1) ws lv (.int v :: st)) : Go X nL k n pc ws lv st := fun H locs ls hP hD hS hl => lv_iconst C.ex C.by d hv (K H locs ls hP hD hS hl)
theorem g_bipush (C : Cx X cc own ret cA fr lo nL) (pc : Nat) {i : Int} (v : Int32) (d : decode cc pc = .ok (.bipush i, 2)) (hv : (Int8.ofInt i).toInt32 = v) (K : Go X nL k n (pc + 2) ws lv (.int v :: st)) : Go X nL k n pc ws lv st := fun H locs ls hP hD hS hl => lv_bipush C.ex C.by d hv (K H locs ls hP hD hS hl)
theorem g_sipush (C : Cx X cc own ret cA fr lo nL) (pc : Nat) {i : Int} (v : Int32) (d : decode cc pc = .ok (.sipush i, 3)) (hv : (Int16.ofInt i).toInt32 = v) (K : Go X nL k n (pc + 3) ws lv (.int v :: st)) : Go X nL k n pc ws lv st := fun H locs ls hP hD hS hl => lv_sipush C.ex C.by d hv (K H locs ls hP hD hS hl)
theorem g_lconst (C : Cx X cc own ret cA fr lo nL) (pc : Nat) {i : Fin 2} (v : Int64) (d : decode cc pc = .ok (.lconst i, 1)) (hv : Int64.ofNat (i : Nat) = v) (K : Go X nL k n (pc + 1) ws lv (.long v :: st)) : Go X nL k n pc ws lv st := fun H locs ls hP hD hS hl => lv_lconst C.ex C.by d hv (K H locs ls hP hD hS hl)
theorem g_ldcw (C : Cx X cc own ret cA fr lo nL) (pc : Nat) {i : Nat} {v : Int32} (d : decode cc pc = .ok (.ldc_w i, 3)) (hw : Cond.constant own i v ∈ G) (K : Go X nL k n (pc + 3) ws lv (.int v :: st)) : Go X nL k n pc ws lv st := fun H locs ls hP hD hS hl => lv_ldcw C.ex C.by C.ow (C.ts _ hw) d (K H locs ls hP hD hS hl)
theorem g_ldc2 (C : Cx X cc own ret cA fr lo nL) (pc : Nat) {i : Nat} {v : Int64} (d : decode cc pc = .ok (.ldc2_w i, 3)) (hw : Cond.constantLong own i v ∈ G) (K : Go X nL k n (pc + 3) ws lv (.long v :: st)) : Go X nL k n pc ws lv st := fun H locs ls hP hD hS hl => lv_ldc2 C.ex C.by C.ow (C.ts _ hw) d (K H locs ls hP hD hS hl)
theorem g_iload_n (C : Cx X cc own ret cA fr lo nL) (pc q : Nat) {i : Fin 4} {j : Nat} {x : Int32} (d : decode cc pc = .ok (.iload_n i, 1)) (hi : (i : Nat) = j) (hl0 : lv[q]? = some (j, .int x)) (K : Go X nL k n (pc + 1) ws lv (.int x :: st)) : Go X nL k n pc ws lv st := fun H locs ls hP hD hS hl => lv_iload_n C.ex C.by d hi (lv_at hl q hl0) (K H locs ls hP hD hS hl)
theorem g_iload (C : Cx X cc own ret cA fr lo nL) (pc q : Nat) {i : Nat} {x : Int32} (d : decode cc pc = .ok (.iload i, 2)) (hl0 : lv[q]? = some (i, .int x)) (K : Go X nL k n (pc + 2) ws lv (.int x :: st)) : Go X nL k n pc ws lv st := fun H locs ls hP hD hS hl => lv_iload C.ex C.by d (lv_at hl q hl0) (K H locs ls hP hD hS hl)
theorem g_lload_n (C : Cx X cc own ret cA fr lo nL) (pc q : Nat) {i : Fin 4} {j : Nat} {x : Int64} (d : decode cc pc = .ok (.lload_n i, 1)) (hi : (i : Nat) = j) (hl0 : lv[q]? = some (j, .long x)) (K : Go X nL k n (pc + 1) ws lv (.long x :: st)) : Go X nL k n pc ws lv st := fun H locs ls hP hD hS hl => lv_lload_n C.ex C.by d hi (lv_at hl q hl0) (K H locs ls hP hD hS hl)
theorem g_lload (C : Cx X cc own ret cA fr lo nL) (pc q : Nat) {i : Nat} {x : Int64} (d : decode cc pc = .ok (.lload i, 2)) (hl0 : lv[q]? = some (i, .long x)) (K : Go X nL k n (pc + 2) ws lv (.long x :: st)) : Go X nL k n pc ws lv st := fun H locs ls hP hD hS hl => lv_lload C.ex C.by d (lv_at hl q hl0) (K H locs ls hP hD hS hl)
theorem g_aload_n (C : Cx X cc own ret cA fr lo nL) (pc q : Nat) {i : Fin 4} {j x : Nat} (d : decode cc pc = .ok (.aload_n i, 1)) (hi : (i : Nat) = j) (hl0 : lv[q]? = some (j, .ref x)) (K : Go X nL k n (pc + 1) ws lv (.ref x :: st)) : Go X nL k n pc ws lv st := fun H locs ls hP hD hS hl => lv_aload_n C.ex C.by d hi (lv_at hl q hl0) (K H locs ls hP hD hS hl)
theorem g_aload (C : Cx X cc own ret cA fr lo nL) (pc q : Nat) {i x : Nat} (d : decode cc pc = .ok (.aload i, 2)) (hl0 : lv[q]? = some (i, .ref x)) (K : Go X nL k n (pc + 2) ws lv (.ref x :: st)) : Go X nL k n pc ws lv st := fun H locs ls hP hD hS hl => lv_aload C.ex C.by d (lv_at hl q hl0) (K H locs ls hP hD hS hl)
theorem g_istore_n (C : Cx X cc own ret cA fr lo nL) (pc : Nat) {i : Fin 4} {j : Nat} {x : Int32} (lvF : Int32 → List (Nat × Value)) {kf : Int32 → Option ρ} (d : decode cc pc = .ok (.istore_n i, 1)) (hi : (i : Nat) = j) (hn : j < nL) (hl1 : ∀ z : Int32, (j, Value.int z) :: lv.filter (fun q => !(q.1 == j) && !(q.1 + 1 == j && q.2.category == 2)) = lvF z) (hf : bnd x kf = some r) (K : ∀ z : Int32, kf z = some r → Go X nL k n (pc + 1) ws (lvF z) st) : Go X nL k n pc ws lv (.int x :: st) := fun H locs ls hP hD hS hl => lv_istore_n C.ex C.by d hi hl hn (hl1 x) (fun ls' hl' => K x hf H locs ls' hP hD hS hl')
theorem g_istore (C : Cx X cc own ret cA fr lo nL) (pc : Nat) {i : Nat} {x : Int32} (lvF : Int32 → List (Nat × Value)) {kf : Int32 → Option ρ} (d : decode cc pc = .ok (.istore i, 2)) (hn : i < nL) (hl1 : ∀ z : Int32, (i, Value.int z) :: lv.filter (fun q => !(q.1 == i) && !(q.1 + 1 == i && q.2.category == 2)) = lvF z) (hf : bnd x kf = some r) (K : ∀ z : Int32, kf z = some r → Go X nL k n (pc + 2) ws (lvF z) st) : Go X nL k n pc ws lv (.int x :: st) := fun H locs ls hP hD hS hl => lv_istore C.ex C.by d hl hn (hl1 x) (fun ls' hl' => K x hf H locs ls' hP hD hS hl')
theorem g_lstore_n (C : Cx X cc own ret cA fr lo nL) (pc : Nat) {i : Fin 4} {j : Nat} {x : Int64} (lvF : Int64 → List (Nat × Value)) {kf : Int64 → Option ρ} (d : decode cc pc = .ok (.lstore_n i, 1)) (hi : (i : Nat) = j) (hn : j + 1 < nL) (hl1 : ∀ z : Int64, (j, Value.long z) :: lv.filter (fun q => !(q.1 == j) && (!(q.1 == j + 1) && !(q.1 + 1 == j && q.2.category == 2))) = lvF z) (hf : bnd x kf = some r) (K : ∀ z : Int64, kf z = some r → Go X nL k n (pc + 1) ws (lvF z) st) : Go X nL k n pc ws lv (.long x :: st) := fun H locs ls hP hD hS hl => lv_lstore_n C.ex C.by d hi hl hn (hl1 x) (fun ls' hl' => K x hf H locs ls' hP hD hS hl')
theorem g_lstore (C : Cx X cc own ret cA fr lo nL) (pc : Nat) {i : Nat} {x : Int64} (lvF : Int64 → List (Nat × Value)) {kf : Int64 → Option ρ} (d : decode cc pc = .ok (.lstore i, 2)) (hn : i + 1 < nL) (hl1 : ∀ z : Int64, (i, Value.long z) :: lv.filter (fun q => !(q.1 == i) && (!(q.1 == i + 1) && !(q.1 + 1 == i && q.2.category == 2))) = lvF z) (hf : bnd x kf = some r) (K : ∀ z : Int64, kf z = some r → Go X nL k n (pc + 2) ws (lvF z) st) : Go X nL k n pc ws lv (.long x :: st) := fun H locs ls hP hD hS hl => lv_lstore C.ex C.by d hl hn (hl1 x) (fun ls' hl' => K x hf H locs ls' hP hD hS hl')
theorem g_astore_n (C : Cx X cc own ret cA fr lo nL) (pc : Nat) {i : Fin 4} {j x : Nat} {lv' : List (Nat × Value)} (d : decode cc pc = .ok (.astore_n i, 1)) (hi : (i : Nat) = j) (hn : j < nL) (hl1 : (j, Value.ref x) :: lv.filter (fun q => !(q.1 == j) && !(q.1 + 1 == j && q.2.category == 2)) = lv') (K : Go X nL k n (pc + 1) ws lv' st) : Go X nL k n pc ws lv (.ref x :: st) := fun H locs ls hP hD hS hl => lv_astore_n C.ex C.by d hi hl hn hl1 (fun ls' hl' => K H locs ls' hP hD hS hl')
theorem g_iinc (C : Cx X cc own ret cA fr lo nL) (pc q : Nat) {i : Nat} {c : Int} {x v : Int32} (lvF : Int32 → List (Nat × Value)) {kf : Int32 → Option ρ} (d : decode cc pc = .ok (.iinc i c, 3)) (hq : lv[q]? = some (i, .int x)) (hv : x + Int32.ofInt c = v) (hn : i < nL) (hl1 : ∀ z : Int32, (i, Value.int z) :: lv.filter (fun q => !(q.1 == i) && !(q.1 + 1 == i && q.2.category == 2)) = lvF z) (hf : bnd v kf = some r) (K : ∀ z : Int32, kf z = some r → Go X nL k n (pc + 3) ws (lvF z) st) : Go X nL k n pc ws lv st := fun H locs ls hP hD hS hl => lv_iinc C.ex C.by d hl hq hv hn (hl1 v) (fun ls' hl' => K v hf H locs ls' hP hD hS hl')
theorem g_iadd (C : Cx X cc own ret cA fr lo nL) (pc : Nat) {x y : Int32} (d : decode cc pc = .ok (.iadd, 1)) (K : Go X nL k n (pc + 1) ws lv (.int (x + y) :: st)) : Go X nL k n pc ws lv (.int y :: .int x :: st) := fun H locs ls hP hD hS hl => lv_iadd C.ex C.by d (K H locs ls hP hD hS hl)
theorem g_isub (C : Cx X cc own ret cA fr lo nL) (pc : Nat) {x y : Int32} (d : decode cc pc = .ok (.isub, 1)) (K : Go X nL k n (pc + 1) ws lv (.int (x - y) :: st)) : Go X nL k n pc ws lv (.int y :: .int x :: st) := fun H locs ls hP hD hS hl => lv_isub C.ex C.by d (K H locs ls hP hD hS hl)
theorem g_imul (C : Cx X cc own ret cA fr lo nL) (pc : Nat) {x y : Int32} (d : decode cc pc = .ok (.imul, 1)) (K : Go X nL k n (pc + 1) ws lv (.int (x * y) :: st)) : Go X nL k n pc ws lv (.int y :: .int x :: st) := fun H locs ls hP hD hS hl => lv_imul C.ex C.by d (K H locs ls hP hD hS hl)
theorem g_iand (C : Cx X cc own ret cA fr lo nL) (pc : Nat) {x y : Int32} (d : decode cc pc = .ok (.iand, 1)) (K : Go X nL k n (pc + 1) ws lv (.int (x &&& y) :: st)) : Go X nL k n pc ws lv (.int y :: .int x :: st) := fun H locs ls hP hD hS hl => lv_iand C.ex C.by d (K H locs ls hP hD hS hl)
theorem g_ior (C : Cx X cc own ret cA fr lo nL) (pc : Nat) {x y : Int32} (d : decode cc pc = .ok (.ior, 1)) (K : Go X nL k n (pc + 1) ws lv (.int (x ||| y) :: st)) : Go X nL k n pc ws lv (.int y :: .int x :: st) := fun H locs ls hP hD hS hl => lv_ior C.ex C.by d (K H locs ls hP hD hS hl)
theorem g_ixor (C : Cx X cc own ret cA fr lo nL) (pc : Nat) {x y : Int32} (d : decode cc pc = .ok (.ixor, 1)) (K : Go X nL k n (pc + 1) ws lv (.int (x ^^^ y) :: st)) : Go X nL k n pc ws lv (.int y :: .int x :: st) := fun H locs ls hP hD hS hl => lv_ixor C.ex C.by d (K H locs ls hP hD hS hl)
theorem g_idiv (C : Cx X cc own ret cA fr lo nL) (pc : Nat) {x y : Int32} (d : decode cc pc = .ok (.idiv, 1)) (hne : ¬ y = 0) (K : Go X nL k n (pc + 1) ws lv (.int (x / y) :: st)) : Go X nL k n pc ws lv (.int y :: .int x :: st) := fun H locs ls hP hD hS hl => lv_idiv C.ex C.by d hne (K H locs ls hP hD hS hl)
theorem g_irem (C : Cx X cc own ret cA fr lo nL) (pc : Nat) {x y : Int32} (d : decode cc pc = .ok (.irem, 1)) (hne : ¬ y = 0) (K : Go X nL k n (pc + 1) ws lv (.int (x - x / y * y) :: st)) : Go X nL k n pc ws lv (.int y :: .int x :: st) := fun H locs ls hP hD hS hl => lv_irem C.ex C.by d hne (K H locs ls hP hD hS hl)
theorem g_ineg (C : Cx X cc own ret cA fr lo nL) (pc : Nat) {x : Int32} (d : decode cc pc = .ok (.ineg, 1)) (K : Go X nL k n (pc + 1) ws lv (.int (-x) :: st)) : Go X nL k n pc ws lv (.int x :: st) := fun H locs ls hP hD hS hl => lv_ineg C.ex C.by d (K H locs ls hP hD hS hl)
theorem g_ishl (C : Cx X cc own ret cA fr lo nL) (pc : Nat) {x y : Int32} (d : decode cc pc = .ok (.ishl, 1)) (K : Go X nL k n (pc + 1) ws lv (.int (x <<< (y &&& 31)) :: st)) : Go X nL k n pc ws lv (.int y :: .int x :: st) := fun H locs ls hP hD hS hl => lv_ishl C.ex C.by d (K H locs ls hP hD hS hl)
theorem g_ishr (C : Cx X cc own ret cA fr lo nL) (pc : Nat) {x y : Int32} (d : decode cc pc = .ok (.ishr, 1)) (K : Go X nL k n (pc + 1) ws lv (.int (x >>> (y &&& 31)) :: st)) : Go X nL k n pc ws lv (.int y :: .int x :: st) := fun H locs ls hP hD hS hl => lv_ishr C.ex C.by d (K H locs ls hP hD hS hl)
theorem g_iushr (C : Cx X cc own ret cA fr lo nL) (pc : Nat) {x y : Int32} (d : decode cc pc = .ok (.iushr, 1)) (K : Go X nL k n (pc + 1) ws lv (.int ((x.toUInt32 >>> (y.toUInt32 &&& Int32.toUInt32 31)).toInt32) :: st)) : Go X nL k n pc ws lv (.int y :: .int x :: st) := fun H locs ls hP hD hS hl => lv_iushr C.ex C.by d rfl (K H locs ls hP hD hS hl)
theorem g_ladd (C : Cx X cc own ret cA fr lo nL) (pc : Nat) {x y : Int64} (d : decode cc pc = .ok (.ladd, 1)) (K : Go X nL k n (pc + 1) ws lv (.long (x + y) :: st)) : Go X nL k n pc ws lv (.long y :: .long x :: st) := fun H locs ls hP hD hS hl => lv_ladd C.ex C.by d (K H locs ls hP hD hS hl)
theorem g_lsub (C : Cx X cc own ret cA fr lo nL) (pc : Nat) {x y : Int64} (d : decode cc pc = .ok (.lsub, 1)) (K : Go X nL k n (pc + 1) ws lv (.long (x - y) :: st)) : Go X nL k n pc ws lv (.long y :: .long x :: st) := fun H locs ls hP hD hS hl => lv_lsub C.ex C.by d (K H locs ls hP hD hS hl)
theorem g_lmul (C : Cx X cc own ret cA fr lo nL) (pc : Nat) {x y : Int64} (d : decode cc pc = .ok (.lmul, 1)) (K : Go X nL k n (pc + 1) ws lv (.long (x * y) :: st)) : Go X nL k n pc ws lv (.long y :: .long x :: st) := fun H locs ls hP hD hS hl => lv_lmul C.ex C.by d (K H locs ls hP hD hS hl)
theorem g_land (C : Cx X cc own ret cA fr lo nL) (pc : Nat) {x y : Int64} (d : decode cc pc = .ok (.land, 1)) (K : Go X nL k n (pc + 1) ws lv (.long (x &&& y) :: st)) : Go X nL k n pc ws lv (.long y :: .long x :: st) := fun H locs ls hP hD hS hl => lv_land C.ex C.by d (K H locs ls hP hD hS hl)
theorem g_lor (C : Cx X cc own ret cA fr lo nL) (pc : Nat) {x y : Int64} (d : decode cc pc = .ok (.lor, 1)) (K : Go X nL k n (pc + 1) ws lv (.long (x ||| y) :: st)) : Go X nL k n pc ws lv (.long y :: .long x :: st) := fun H locs ls hP hD hS hl => lv_lor C.ex C.by d (K H locs ls hP hD hS hl)
theorem g_lshl (C : Cx X cc own ret cA fr lo nL) (pc : Nat) {x : Int64} {y : Int32} (d : decode cc pc = .ok (.lshl, 1)) (K : Go X nL k n (pc + 1) ws lv (.long (x <<< (y.toInt64 &&& 63)) :: st)) : Go X nL k n pc ws lv (.int y :: .long x :: st) := fun H locs ls hP hD hS hl => lv_lshl C.ex C.by d rfl (K H locs ls hP hD hS hl)
theorem g_lshr (C : Cx X cc own ret cA fr lo nL) (pc : Nat) {x : Int64} {y : Int32} (d : decode cc pc = .ok (.lshr, 1)) (K : Go X nL k n (pc + 1) ws lv (.long (x >>> (y.toInt64 &&& 63)) :: st)) : Go X nL k n pc ws lv (.int y :: .long x :: st) := fun H locs ls hP hD hS hl => lv_lshr C.ex C.by d rfl (K H locs ls hP hD hS hl)
theorem g_i2l (C : Cx X cc own ret cA fr lo nL) (pc : Nat) {x : Int32} (d : decode cc pc = .ok (.i2l, 1)) (K : Go X nL k n (pc + 1) ws lv (.long x.toInt64 :: st)) : Go X nL k n pc ws lv (.int x :: st) := fun H locs ls hP hD hS hl => lv_i2l C.ex C.by d rfl (K H locs ls hP hD hS hl)
theorem g_lcmp (C : Cx X cc own ret cA fr lo nL) (pc : Nat) {x y : Int64} (d : decode cc pc = .ok (.lcmp, 1)) (K : Go X nL k n (pc + 1) ws lv (.int (lg_cmp x y) :: st)) : Go X nL k n pc ws lv (.long y :: .long x :: st) := fun H locs ls hP hD hS hl => W.lcmp C.ex C.by d (K H locs ls hP hD hS hl)
theorem g_dup (C : Cx X cc own ret cA fr lo nL) (pc : Nat) {v : Value} (d : decode cc pc = .ok (.dup, 1)) (hv : v.category = 1) (K : Go X nL k n (pc + 1) ws lv (v :: v :: st)) : Go X nL k n pc ws lv (v :: st) := fun H locs ls hP hD hS hl => lv_dup C.ex C.by d hv (K H locs ls hP hD hS hl)
theorem g_dup2 (C : Cx X cc own ret cA fr lo nL) (pc : Nat) {v w : Value} (d : decode cc pc = .ok (.dup2, 1)) (hv : v.category = 1) (hw : w.category = 1) (K : Go X nL k n (pc + 1) ws lv (v :: w :: v :: w :: st)) : Go X nL k n pc ws lv (v :: w :: st) := fun H locs ls hP hD hS hl => lv_dup2_11 C.ex C.by d hv hw (K H locs ls hP hD hS hl)
theorem g_dup_x1 (C : Cx X cc own ret cA fr lo nL) (pc : Nat) {v w : Value} (d : decode cc pc = .ok (.dup_x1, 1)) (hv : v.category = 1) (hw : w.category = 1) (K : Go X nL k n (pc + 1) ws lv (v :: w :: v :: st)) : Go X nL k n pc ws lv (v :: w :: st) := fun H locs ls hP hD hS hl => lv_dup_x1 C.ex C.by d hv hw (K H locs ls hP hD hS hl)
theorem g_pop (C : Cx X cc own ret cA fr lo nL) (pc : Nat) {v : Value} (d : decode cc pc = .ok (.pop, 1)) (hv : v.category = 1) (K : Go X nL k n (pc + 1) ws lv st) : Go X nL k n pc ws lv (v :: st) := fun H locs ls hP hD hS hl => lv_pop C.ex C.by d hv (K H locs ls hP hD hS hl)
theorem g_pop2 (C : Cx X cc own ret cA fr lo nL) (pc : Nat) {v : Value} (d : decode cc pc = .ok (.pop2, 1)) (hv : v.category = 2) (K : Go X nL k n (pc + 1) ws lv st) : Go X nL k n pc ws lv (v :: st) := fun H locs ls hP hD hS hl => lv_pop2_2 C.ex C.by d hv (K H locs ls hP hD hS hl)
theorem g_goto (C : Cx X cc own ret cA fr lo nL) (pc : Nat) {o : Int} (t : Nat) (d : decode cc pc = .ok (.goto o, 3)) (ht : (pc : Int) + o = (t : Int)) (K : Go X nL k n t ws lv st) : Go X nL k n pc ws lv st := fun H locs ls hP hD hS hl => lv_goto C.ex C.by d ht (K H locs ls hP hD hS hl)
theorem g_if_eq (C : Cx X cc own ret cA fr lo nL) (pc : Nat) {x : Int32} {o : Int} (t : Nat) {y z : Option ρ} (d : decode cc pc = .ok (.ifCond .eq o, 3)) (ht : (pc : Int) + o = (t : Int)) (hf : (if x = 0 then y else z) = some r) (A : y = some r → Go X nL k n t ws lv st) (B : z = some r → Go X nL k n (pc + 3) ws lv st) : Go X nL k n pc ws lv (.int x :: st) := fun H locs ls hP hD hS hl => lv_if_eq C.ex C.by d ht (fun c => A (ite_t hf c) H locs ls hP hD hS hl) (fun c => B (ite_f hf c) H locs ls hP hD hS hl)
theorem g_if_ne (C : Cx X cc own ret cA fr lo nL) (pc : Nat) {x : Int32} {o : Int} (t : Nat) {y z : Option ρ} (d : decode cc pc = .ok (.ifCond .ne o, 3)) (ht : (pc : Int) + o = (t : Int)) (hf : (if x = 0 then y else z) = some r) (A : z = some r → Go X nL k n t ws lv st) (B : y = some r → Go X nL k n (pc + 3) ws lv st) : Go X nL k n pc ws lv (.int x :: st) := fun H locs ls hP hD hS hl => lv_if_ne C.ex C.by d ht (fun c => A (ite_f hf c) H locs ls hP hD hS hl) (fun c => B (ite_t hf c) H locs ls hP hD hS hl)
theorem g_if_lt (C : Cx X cc own ret cA fr lo nL) (pc : Nat) {x : Int32} {o : Int} (t : Nat) {y z : Option ρ} (d : decode cc pc = .ok (.ifCond .lt o, 3)) (ht : (pc : Int) + o = (t : Int)) (hf : (if x < 0 then y else z) = some r) (A : y = some r → Go X nL k n t ws lv st) (B : z = some r → Go X nL k n (pc + 3) ws lv st) : Go X nL k n pc ws lv (.int x :: st) := fun H locs ls hP hD hS hl => lv_if_lt C.ex C.by d ht (fun c => A (ite_t hf c) H locs ls hP hD hS hl) (fun c => B (ite_f hf c) H locs ls hP hD hS hl)
theorem g_if_ge (C : Cx X cc own ret cA fr lo nL) (pc : Nat) {x : Int32} {o : Int} (t : Nat) {y z : Option ρ} (d : decode cc pc = .ok (.ifCond .ge o, 3)) (ht : (pc : Int) + o = (t : Int)) (hf : (if 0 ≤ x then y else z) = some r) (A : y = some r → Go X nL k n t ws lv st) (B : z = some r → Go X nL k n (pc + 3) ws lv st) : Go X nL k n pc ws lv (.int x :: st) := fun H locs ls hP hD hS hl => lv_if_ge C.ex C.by d ht (fun c => A (ite_t hf c) H locs ls hP hD hS hl) (fun c => B (ite_f hf c) H locs ls hP hD hS hl)
theorem g_if_gt (C : Cx X cc own ret cA fr lo nL) (pc : Nat) {x : Int32} {o : Int} (t : Nat) {y z : Option ρ} (d : decode cc pc = .ok (.ifCond .gt o, 3)) (ht : (pc : Int) + o = (t : Int)) (hf : (if 0 < x then y else z) = some r) (A : y = some r → Go X nL k n t ws lv st) (B : z = some r → Go X nL k n (pc + 3) ws lv st) : Go X nL k n pc ws lv (.int x :: st) := fun H locs ls hP hD hS hl => lv_if_gt C.ex C.by d ht (fun c => A (ite_t hf c) H locs ls hP hD hS hl) (fun c => B (ite_f hf c) H locs ls hP hD hS hl)
theorem g_if_le (C : Cx X cc own ret cA fr lo nL) (pc : Nat) {x : Int32} {o : Int} (t : Nat) {y z : Option ρ} (d : decode cc pc = .ok (.ifCond .le o, 3)) (ht : (pc : Int) + o = (t : Int)) (hf : (if x ≤ 0 then y else z) = some r) (A : y = some r → Go X nL k n t ws lv st) (B : z = some r → Go X nL k n (pc + 3) ws lv st) : Go X nL k n pc ws lv (.int x :: st) := fun H locs ls hP hD hS hl => lv_if_le C.ex C.by d ht (fun c => A (ite_t hf c) H locs ls hP hD hS hl) (fun c => B (ite_f hf c) H locs ls hP hD hS hl)
theorem g_icmp_eq (C : Cx X cc own ret cA fr lo nL) (pc : Nat) {x w : Int32} {o : Int} (t : Nat) {y z : Option ρ} (d : decode cc pc = .ok (.if_icmp .eq o, 3)) (ht : (pc : Int) + o = (t : Int)) (hf : (if x = w then y else z) = some r) (A : y = some r → Go X nL k n t ws lv st) (B : z = some r → Go X nL k n (pc + 3) ws lv st) : Go X nL k n pc ws lv (.int w :: .int x :: st) := fun H locs ls hP hD hS hl => lv_icmp_eq C.ex C.by d ht (fun c => A (ite_t hf c) H locs ls hP hD hS hl) (fun c => B (ite_f hf c) H locs ls hP hD hS hl)
theorem g_icmp_ne (C : Cx X cc own ret cA fr lo nL) (pc : Nat) {x w : Int32} {o : Int} (t : Nat) {y z : Option ρ} (d : decode cc pc = .ok (.if_icmp .ne o, 3)) (ht : (pc : Int) + o = (t : Int)) (hf : (if x = w then y else z) = some r) (A : z = some r → Go X nL k n t ws lv st) (B : y = some r → Go X nL k n (pc + 3) ws lv st) : Go X nL k n pc ws lv (.int w :: .int x :: st) := fun H locs ls hP hD hS hl => lv_icmp_ne C.ex C.by d ht (fun c => A (ite_f hf c) H locs ls hP hD hS hl) (fun c => B (ite_t hf c) H locs ls hP hD hS hl)
theorem g_icmp_lt (C : Cx X cc own ret cA fr lo nL) (pc : Nat) {x w : Int32} {o : Int} (t : Nat) {y z : Option ρ} (d : decode cc pc = .ok (.if_icmp .lt o, 3)) (ht : (pc : Int) + o = (t : Int)) (hf : (if x < w then y else z) = some r) (A : y = some r → Go X nL k n t ws lv st) (B : z = some r → Go X nL k n (pc + 3) ws lv st) : Go X nL k n pc ws lv (.int w :: .int x :: st) := fun H locs ls hP hD hS hl => lv_icmp_lt C.ex C.by d ht (fun c => A (ite_t hf c) H locs ls hP hD hS hl) (fun c => B (ite_f hf c) H locs ls hP hD hS hl)
theorem g_icmp_ge (C : Cx X cc own ret cA fr lo nL) (pc : Nat) {x w : Int32} {o : Int} (t : Nat) {y z : Option ρ} (d : decode cc pc = .ok (.if_icmp .ge o, 3)) (ht : (pc : Int) + o = (t : Int)) (hf : (if w ≤ x then y else z) = some r) (A : y = some r → Go X nL k n t ws lv st) (B : z = some r → Go X nL k n (pc + 3) ws lv st) : Go X nL k n pc ws lv (.int w :: .int x :: st) := fun H locs ls hP hD hS hl => lv_icmp_ge C.ex C.by d ht (fun c => A (ite_t hf c) H locs ls hP hD hS hl) (fun c => B (ite_f hf c) H locs ls hP hD hS hl)
theorem g_icmp_gt (C : Cx X cc own ret cA fr lo nL) (pc : Nat) {x w : Int32} {o : Int} (t : Nat) {y z : Option ρ} (d : decode cc pc = .ok (.if_icmp .gt o, 3)) (ht : (pc : Int) + o = (t : Int)) (hf : (if w < x then y else z) = some r) (A : y = some r → Go X nL k n t ws lv st) (B : z = some r → Go X nL k n (pc + 3) ws lv st) : Go X nL k n pc ws lv (.int w :: .int x :: st) := fun H locs ls hP hD hS hl => lv_icmp_gt C.ex C.by d ht (fun c => A (ite_t hf c) H locs ls hP hD hS hl) (fun c => B (ite_f hf c) H locs ls hP hD hS hl)
theorem g_icmp_le (C : Cx X cc own ret cA fr lo nL) (pc : Nat) {x w : Int32} {o : Int} (t : Nat) {y z : Option ρ} (d : decode cc pc = .ok (.if_icmp .le o, 3)) (ht : (pc : Int) + o = (t : Int)) (hf : (if x ≤ w then y else z) = some r) (A : y = some r → Go X nL k n t ws lv st) (B : z = some r → Go X nL k n (pc + 3) ws lv st) : Go X nL k n pc ws lv (.int w :: .int x :: st) := fun H locs ls hP hD hS hl => lv_icmp_le C.ex C.by d ht (fun c => A (ite_t hf c) H locs ls hP hD hS hl) (fun c => B (ite_f hf c) H locs ls hP hD hS hl)
theorem g_iald (C : Cx X cc own ret cA fr lo nL) (pc q : Nat) {a m : Nat} {f : Nat → Int32} {i : Int32} {kf : Int32 → Option ρ} (d : decode cc pc = .ok (.iaload, 1)) (ha : ws[q]? = some (aI cA a m f)) (hf : ldA f m i kf = some r) (K : ∀ z : Int32, kf z = some r → Go X nL k n (pc + 1) ws lv (.int z :: st)) : Go X nL k n pc ws lv (.int i :: .ref a :: st) := fun H locs ls hP hD hS hl => va_iald C.ex C.by C.K hP q 0 ha rfl (ldA_some hf).1 d (K _ (ldA_some hf).2 H locs ls hP hD hS hl)
theorem g_zald (C : Cx X cc own ret cA fr lo nL) (pc q : Nat) {a m : Nat} {f : Nat → Int32} {i : Int32} {kf : Int32 → Option ρ} (d : decode cc pc = .ok (.baload, 1)) (ha : ws[q]? = some (aZ cA a m f)) (hf : ldA f m i kf = some r) (K : ∀ z : Int32, kf z = some r → Go X nL k n (pc + 1) ws lv (.int z :: st)) : Go X nL k n pc ws lv (.int i :: .ref a :: st) := fun H locs ls hP hD hS hl => va_zald C.ex C.by C.K hP q 2 ha rfl (ldA_some hf).1 d (K _ (ldA_some hf).2 H locs ls hP hD hS hl)
theorem g_lald (C : Cx X cc own ret cA fr lo nL) (pc q : Nat) {a m : Nat} {f : Nat → Int64} {i : Int32} {kf : Int64 → Option ρ} (d : decode cc pc = .ok (.laload, 1)) (ha : ws[q]? = some (aJ cA a m f)) (hf : ldA f m i kf = some r) (K : ∀ z : Int64, kf z = some r → Go X nL k n (pc + 1) ws lv (.long z :: st)) : Go X nL k n pc ws lv (.int i :: .ref a :: st) := fun H locs ls hP hD hS hl => va_lald C.ex C.by C.K hP q 1 ha rfl (ldA_some hf).1 d (K _ (ldA_some hf).2 H locs ls hP hD hS hl)
theorem g_iast (C : Cx X cc own ret cA fr lo nL) (pc q : Nat) {a m : Nat} {f : Nat → Int32} {i x : Int32} (wsF : (Nat → Int32) → va_W) {kf : (Nat → Int32) → Option ρ} (d : decode cc pc = .ok (.iastore, 1)) (ha : ws[q]? = some (aI cA a m f)) (hw : ∀ z, ws.set q (aI cA a m z) = wsF z) (hf : stI f m i x kf = some r) (K : ∀ z : Nat → Int32, kf z = some r → Go X nL k n (pc + 1) (wsF z) lv st) : Go X nL k n pc ws lv (.int x :: .int i :: .ref a :: st) := fun H locs ls hP hD hS hl => va_iast C.ex C.by C.K hP hD hS q 0 ha rfl (stI_some hf).1 d (fun H1 l1 hP hD hS => K _ (stI_some hf).2 H1 l1 ls (hw _ ▸ hP) (hw _ ▸ hD) hS hl)
theorem g_zast (C : Cx X cc own ret cA fr lo nL) (pc q : Nat) {a m : Nat} {f : Nat → Int32} {i x : Int32} (wsF : (Nat → Int32) → va_W) {kf : (Nat → Int32) → Option ρ} (d : decode cc pc = .ok (.bastore, 1)) (ha : ws[q]? = some (aZ cA a m f)) (hw : ∀ z, ws.set q (aZ cA a m z) = wsF z) (hf : stZ f m i x kf = some r) (K : ∀ z : Nat → Int32, kf z = some r → Go X nL k n (pc + 1) (wsF z) lv st) : Go X nL k n pc ws lv (.int x :: .int i :: .ref a :: st) := fun H locs ls hP hD hS hl => va_zast C.ex C.by C.K hP hD hS q 2 ha rfl (stZ_some hf).1 d (fun H1 l1 hP hD hS => K _ (stZ_some hf).2 H1 l1 ls (hw _ ▸ hP) (hw _ ▸ hD) hS hl)
theorem g_last (C : Cx X cc own ret cA fr lo nL) (pc q : Nat) {a m : Nat} {f : Nat → Int64} {i : Int32} {x : Int64} (wsF : (Nat → Int64) → va_W) {kf : (Nat → Int64) → Option ρ} (d : decode cc pc = .ok (.lastore, 1)) (ha : ws[q]? = some (aJ cA a m f)) (hw : ∀ z, ws.set q (aJ cA a m z) = wsF z) (hf : stJ f m i x kf = some r) (K : ∀ z : Nat → Int64, kf z = some r → Go X nL k n (pc + 1) (wsF z) lv st) : Go X nL k n pc ws lv (.long x :: .int i :: .ref a :: st) := fun H locs ls hP hD hS hl => va_last C.ex C.by C.K hP hD hS q 1 ha rfl (stJ_some hf).1 d (fun H1 l1 hP hD hS => K _ (stJ_some hf).2 H1 l1 ls (hw _ ▸ hP) (hw _ ▸ hD) hS hl)
theorem g_alen (C : Cx X cc own ret cA fr lo nL) (pc q t : Nat) {a : Nat} {c : ClassId} {x : vp_A} {ty : FieldType} (v : Int32) (d : decode cc pc = .ok (.arraylength, 1)) (ha : ws[q]? = some (a, .inl (c, x))) (ht : (TY cA)[t]? = some (c, ty)) (hv : Int32.ofNat x.1 = v) (K : Go X nL k n (pc + 1) ws lv (.int v :: st)) : Go X nL k n pc ws lv (.ref a :: st) := fun H locs ls hP hD hS hl => va_alen C.ex C.by C.K hP q t ha ht hv d (K H locs ls hP hD hS hl)
theorem g_get (C : Cx X cc own ret cA fr lo nL) (pc q j : Nat) {a ci i N : Nat} {Cn : String} {T : u_T} {fs : List Value} {v : Value} (d : decode cc pc = .ok (.getfield i, 3)) (hin : ∀ w ∈ u_ws Cn T N, w ∈ G) (ha : ws[q]? = some (oB a ci fs)) (hc : vwCl[ci]? = some (Cn, T, N)) (hj : j < N) (hw : Cond.fieldLink own i (T j).1 (T j).2.1 (T j).2.2.1 ∈ G) (hv : fs[j]? = some v) (K : Go X nL k n (pc + 3) ws lv (v :: st)) : Go X nL k n pc ws lv (.ref a :: st) := fun H locs ls hP hD hS hl => va_get C.ex C.by C.ts hin C.ow C.K hP q ha hc j hj (C.ts _ hw) (fun _ h => h) hv d (K H locs ls hP hD hS hl)
theorem g_puti (C : Cx X cc own ret cA fr lo nL) (pc q j : Nat) {a ci i N : Nat} {Cn : String} {T : u_T} {fs : List Value} {x : Int32} (ty0 : Nat → FieldType) (wsF : Int32 → va_W) {kf : Int32 → Option ρ} (d : decode cc pc = .ok (.putfield i, 3)) (hin : ∀ w ∈ u_ws Cn T N, w ∈ G) (hty : ∀ k, k < N → parseFieldDescriptor (T k).2.2.1 = some (ty0 k)) (hnm : ∀ a, a < N → ∀ b, b < N → a ≠ b → (T a).2.1 ≠ (T b).2.1) (ha : ws[q]? = some (oB a ci fs)) (hc : vwCl[ci]? = some (Cn, T, N)) (hj : j < N) (hw : Cond.fieldLink own i (T j).1 (T j).2.1 (T j).2.2.1 ∈ G) (hfin : (T j).2.2.2 = false) (ht0 : ty0 j = .int) (hl : j < fs.length) (hws : ∀ z : Int32, ws.set q (oB a ci (fs.set j (.int z))) = wsF z) (hf : bnd x kf = some r) (K : ∀ z : Int32, kf z = some r → Go X nL k n (pc + 3) (wsF z) lv st) : Go X nL k n pc ws lv (.int x :: .ref a :: st) := fun H locs ls hP hD hS hl' => va_put C.ex C.by C.ts hin ty0 hty hnm C.ow C.K hP hD hS q ha hc j hj (C.ts _ hw) (fun _ h => h) hfin ((hty j hj).trans (congrArg some ht0)) rfl rfl hl d (fun H1 l1 hP hD hS => K x hf H1 l1 ls (hws _ ▸ hP) (hws _ ▸ hD) hS hl')
theorem g_putl (C : Cx X cc own ret cA fr lo nL) (pc q j : Nat) {a ci i N : Nat} {Cn : String} {T : u_T} {fs : List Value} {x : Int64} (ty0 : Nat → FieldType) (wsF : Int64 → va_W) {kf : Int64 → Option ρ} (d : decode cc pc = .ok (.putfield i, 3)) (hin : ∀ w ∈ u_ws Cn T N, w ∈ G) (hty : ∀ k, k < N → parseFieldDescriptor (T k).2.2.1 = some (ty0 k)) (hnm : ∀ a, a < N → ∀ b, b < N → a ≠ b → (T a).2.1 ≠ (T b).2.1) (ha : ws[q]? = some (oB a ci fs)) (hc : vwCl[ci]? = some (Cn, T, N)) (hj : j < N) (hw : Cond.fieldLink own i (T j).1 (T j).2.1 (T j).2.2.1 ∈ G) (hfin : (T j).2.2.2 = false) (ht0 : ty0 j = .long) (hl : j < fs.length) (hws : ∀ z : Int64, ws.set q (oB a ci (fs.set j (.long z))) = wsF z) (hf : bnd x kf = some r) (K : ∀ z : Int64, kf z = some r → Go X nL k n (pc + 3) (wsF z) lv st) : Go X nL k n pc ws lv (.long x :: .ref a :: st) := fun H locs ls hP hD hS hl' => va_put C.ex C.by C.ts hin ty0 hty hnm C.ow C.K hP hD hS q ha hc j hj (C.ts _ hw) (fun _ h => h) hfin ((hty j hj).trans (congrArg some ht0)) rfl rfl hl d (fun H1 l1 hP hD hS => K x hf H1 l1 ls (hws _ ▸ hP) (hws _ ▸ hD) hS hl')
theorem g_max (C : Cx X cc own ret cA fr lo nL) (pc : Nat) {i : Nat} {x y : Int32} (d : decode cc pc = .ok (.invokestatic i, 3)) (h1 : Cond.methodLink own i Lib.Math.max.name ∈ G) (h2 : Cond.static Lib.Math.max.name ∈ G) (h3 : Cond.initialized "java/lang/Math" ∈ G) (h4 : Cond.code Lib.Math.max.name Lib.Math.max.code 2 (some .int) ∈ G) (hfr : 1 ≤ fr) (hlo : (st.map fun v => v.category).sum + 13 ≤ lo) (hk : k ≤ (x_R X).cells) (hn : n ≤ (x_R X).slots) (K : Go X nL k n (pc + 3) ws lv (.int (if x < y then y else x) :: st)) : Go X nL k n pc ws lv (.int y :: .int x :: st) := fun H locs ls hP hD hS hl => va_mmax C.ex C.by (C.ml.trans hl.1.symm) C.ow (C.ts _ h1) (C.ts _ h2) (C.ts _ h3) (C.ts _ h4) (Nat.le_trans hfr C.rm.1) (Nat.le_trans hlo C.rm.2) hk hn d (K H locs ls hP hD hS hl)
end GR
end
section
/-! Contracts: what a method's start and end are. -/
def Px (D : va_G) (cA : Nat → ClassId) (sz : Nat) (ws : va_W) (U : State) : Prop := U.heap.size = sz ∧ va_P D vwCl ws U.heap ∧ va_K D vwCl (TY cA) U ∧ va_D (fun _ => True) ws ∧ NW U
def Qx (D : va_G) (A : Nat → Prop) (B : Option Value → va_W → Prop) : Array Value → State → Outcome → State → Prop := fun _ st oc t => (∃ (res : Option Value) (ws' : va_W), B res ws' ∧ oc = .returned res ∧ va_P D vwCl ws' t.heap ∧ va_D A ws') ∧ va_F A st t
def MT (l : Launch) (cA : Nat → ClassId) (y : MethodName) (cc : ByteArray) (nL : Nat) (ret : Option FieldType) (rm : Room) (av : List Value) (ws : va_W) (B : Option Value → va_W → Prop) : Prop :=
  ∀ (sz : Nat) (D : va_G), Met l y (.code y cc nL ret :: G) rm (va_Pc av (Px D cA sz ws)) (Qx D (va_A ws sz) B) rm.cells rm.slots (va_A ws sz)
abbrev sB (res : Option Value) (ws' : va_W) : Option Value → va_W → Prop := fun r w => r = res ∧ w = ws'
def Fx (X : XT) (B : Option Value → va_W → Prop) (k n : Nat) : Prop := x_Q X = MQ (x_b X) (Qx (x_D X) (x_A X) B) (x_a X) (x_s X) k n (x_A X) ∧ x_H X = (x_s X).heap
theorem Px_blind {D : va_G} {cA : Nat → ClassId} {sz : Nat} {ws : va_W} {av : List Value} : FrameBlind (va_Pc av (Px D cA sz ws)) := by
  intro a U g mk ⟨h0, h1, h2, h3, h4, h5⟩
  exact ⟨h0, h1, h2, va_K.moved (u := U) (U := U.calling g mk a) (Vm.Alike.refl U.vm) h3, h4, NW.same (s := U) (U := U.calling g mk a) rfl h5⟩
theorem MT.of {l : Launch} {cA : Nat → ClassId} {y : MethodName} {cc : ByteArray} {nL : Nat} {ret : Option FieldType} {rm : Room} {av : List Value} {ws : va_W} {B : Option Value → va_W → Prop} (hy : plainName y.cls = true) (hlen : (lg_sl av).length ≤ nL)
    (h : ∀ X : XT, x_l X = l → Cx X cc y.cls ret cA rm.frames rm.locals nL → Fx X B rm.cells rm.slots → (x_me X).name = y.name → (x_R X).cells = rm.cells → (x_R X).slots = rm.slots → Go X nL 0 0 0 ws (lv_args 0 av) []) : MT l cA y cc nL ret rm av ws B := by
  intro sz D
  refine Met.ofW (cc := cc) (maxL := nL) (ret := ret) hy rfl ?_
  intro p e s m args below meth c s₁ B' hml hv
  obtain ⟨rfl, hsz, hP, hK, hD0, hN⟩ := hv
  subst hsz
  have hD := hD0.self (sz := s.heap.size)
  have hts := atoms_spec (ws := .code y cc nL ret :: G) B'.pre
  rw [lg_entry_eq]
  have hl := lv_entry av (n := nL) hlen
  exact h (p, l, e, (headSpec (.code y cc nL ret :: G) rm).room, s, m, av.toArray, below, meth, c, D, va_A ws s.heap.size, s.heap, MQ below (Qx D (va_A ws s.heap.size) B) av.toArray s rm.cells rm.slots (va_A ws s.heap.size)) rfl
    ⟨B'.exec, B'.bytes, hml, findClass_of_methodNamed B'.named, fun w hw => hts w (List.mem_cons_of_mem _ hw), B'.returns, B'.notSynchronized, hK, hN, ⟨Nat.le_refl _, Nat.le_refl _⟩, fun q h => Or.inr h⟩ ⟨rfl, rfl⟩ ((name_of_methodNamed B'.named B'.method).1) rfl rfl s.heap [] _ hP hD va_S.rf hl
/-! A callee's cells put back at their places; what is left over is new. -/
def putAt (ws : va_W) : List Nat → va_W → va_W
  | i :: is, c :: cs => putAt (ws.set i c) is cs
  | _, cs => ws ++ cs
theorem putAt_nil (ws cs : va_W) : putAt ws [] cs = ws ++ cs := by cases cs <;> rfl
theorem putAt_get : ∀ (is : List Nat) (cs ws : va_W), is.length ≤ cs.length → va_nd is = true → (∀ i ∈ is, i < ws.length) → ∀ (k : Nat) (q : Nat × va_E), (putAt ws is cs)[k]? = some q →
    (∃ j, cs[j]? = some q ∧ (is[j]? = some k ∨ (is.length ≤ j ∧ k = ws.length + (j - is.length)))) ∨ (k ∉ is ∧ k < ws.length ∧ ws[k]? = some q)
  | [], cs, ws, _, _, _, k, q, h => by
    rw [putAt_nil] at h
    by_cases hk : k < ws.length
    · rw [List.getElem?_append_left hk] at h
      exact Or.inr ⟨List.not_mem_nil, hk, h⟩
    · rw [List.getElem?_append_right (by omega)] at h
      exact Or.inl ⟨k - ws.length, h, Or.inr ⟨Nat.zero_le _, by simp; omega⟩⟩
  | i :: is, [], ws, hl, _, _, k, q, h => by simp at hl
  | i :: is, c :: cs, ws, hl, hn, hi, k, q, h => by
    simp only [va_nd, Bool.and_eq_true, decide_eq_true_eq] at hn
    have h' : (putAt (ws.set i c) is cs)[k]? = some q := h
    have hlen : (ws.set i c).length = ws.length := List.length_set
    rcases putAt_get is cs (ws.set i c) (by simpa using hl) hn.2 (fun j hj => by rw [hlen]; exact hi j (List.mem_cons_of_mem _ hj)) k q h' with ⟨j, h1, h2⟩ | ⟨h1, h2, h3⟩
    · refine Or.inl ⟨j + 1, by simpa using h1, ?_⟩
      rcases h2 with h2 | ⟨h2, h3⟩
      · exact Or.inl (by simpa using h2)
      · exact Or.inr ⟨by simp; exact h2, by rw [h3, hlen]; simp⟩
    · by_cases hki : k = i
      · subst hki
        rw [List.getElem?_set_self (hi k List.mem_cons_self)] at h3
        cases h3
        exact Or.inl ⟨0, rfl, Or.inl rfl⟩
      · rw [List.getElem?_set_ne (Ne.symm hki)] at h3
        exact Or.inr ⟨fun hm => by
          rcases List.mem_cons.mp hm with h | h
          · exact hki h
          · exact h1 h, by rw [hlen] at h2; exact h2, h3⟩
theorem kjoin {A0 : Nat → Prop} {D : va_G} {cl : List vw_C} {ws wc w1 : va_W} {H H1 : Heap} (hP : va_P D cl ws H) (hD : va_D A0 ws) (isC : List Nat) (hC : isC.map (fun i => ws[i]?) = wc.map some) (hn : va_nd isC = true) (hle : isC.length ≤ w1.length)
    (hk : ∀ q : Nat, q < H.size → ¬ va_A wc H.size q → H1[q]? = H[q]?) (hF : ∀ q, va_A wc H.size q → A0 q) (hP1 : va_P D cl w1 H1) (hD1 : va_D (va_A wc H.size) w1) : va_P D cl (putAt ws isC w1) H1 ∧ va_D A0 (putAt ws isC w1) := by
  have at' : ∀ (k : Nat) (q : Nat × va_E), wc[k]? = some q → ∃ i, isC[k]? = some i ∧ ws[i]? = some q := by
    intro k q hq
    have h1 : (isC.map (fun i => ws[i]?))[k]? = some (some q) := by rw [hC, List.getElem?_map, hq]; rfl
    rw [List.getElem?_map] at h1
    cases hi : isC[k]? with
    | none => rw [hi] at h1; cases h1
    | some i => rw [hi] at h1; exact ⟨i, rfl, Option.some.inj h1⟩
  have hlt : ∀ i ∈ isC, i < ws.length := by
    intro i hi
    obtain ⟨k, hk⟩ := List.getElem?_of_mem hi
    have h1 : (isC.map (fun i => ws[i]?))[k]? = some (ws[i]?) := by rw [List.getElem?_map, hk]; rfl
    rw [hC, List.getElem?_map] at h1
    cases hw : wc[k]? with
    | none => rw [hw] at h1; cases h1
    | some q => rw [hw] at h1; exact (List.getElem?_eq_some_iff.mp (Option.some.inj h1).symm).1
  have apart : ∀ (k : Nat) (q : Nat × va_E), k ∉ isC → ws[k]? = some q → q.1 < H.size ∧ ¬ va_A wc H.size q.1 := by
    intro k q hki hq
    have hl := (hP k q hq).lt
    refine ⟨hl, fun h => ?_⟩
    rcases h with ⟨k2, e, h⟩ | h
    · obtain ⟨j, h3, h4⟩ := at' k2 (q.1, e) h
      have hij := hD.1 k j q (q.1, e) hq h4 rfl
      subst hij
      exact hki (List.mem_of_getElem? h3)
    · omega
  refine ⟨fun k q hq => ?_, fun i j x y hx hy hxy => ?_, fun k q hq => ?_⟩
  · rcases putAt_get isC w1 ws hle hn hlt k q hq with ⟨j, h1, -⟩ | ⟨h1, -, h3⟩
    · exact hP1 j q h1
    · obtain ⟨g1, g2⟩ := apart k q h1 h3
      exact (hP k q h3).kept (hk q.1 g1 g2)
  · rcases putAt_get isC w1 ws hle hn hlt i x hx with ⟨a, h1, h2⟩ | ⟨h1, h1', h2⟩ <;> rcases putAt_get isC w1 ws hle hn hlt j y hy with ⟨b, h3, h4⟩ | ⟨h3, h3', h4⟩
    · have hab := hD1.1 a b x y h1 h3 hxy
      subst hab
      rcases h2 with h2 | ⟨h2, h5⟩ <;> rcases h4 with h4 | ⟨h4, h6⟩
      · exact Option.some.inj (h2.symm.trans h4)
      · have := (List.getElem?_eq_some_iff.mp h2).1; omega
      · have := (List.getElem?_eq_some_iff.mp h4).1; omega
      · omega
    · exact absurd (by rw [← hxy]; exact hD1.2 a x h1) (apart j y h3 h4).2
    · exact absurd (by rw [hxy]; exact hD1.2 b y h3) (apart i x h1 h2).2
    · exact hD.1 i j x y h2 h4 hxy
  · rcases putAt_get isC w1 ws hle hn hlt k q hq with ⟨j, h1, -⟩ | ⟨h1, -, h3⟩
    · exact hF _ (hD1.2 j q h1)
    · exact hD.2 k q h3
theorem putAt_at2 : ∀ (is : List Nat) (cs ws : va_W) (k : Nat), is.length ≤ cs.length → k ∉ is → k < ws.length → (putAt ws is cs)[k]? = ws[k]?
  | [], cs, ws, k, _, _, hk => by rw [putAt_nil, List.getElem?_append_left hk]
  | i :: is, [], ws, k, hl, _, _ => by simp at hl
  | i :: is, c :: cs, ws, k, hl, hn, hk => by
    have h1 : k ≠ i := fun e => hn (by rw [e]; exact List.mem_cons_self)
    have h := putAt_at2 is cs (ws.set i c) k (by simpa using hl) (fun h => hn (List.mem_cons_of_mem _ h)) (by rw [List.length_set]; exact hk)
    exact h.trans (List.getElem?_set_ne (Ne.symm h1))
theorem putAt_at1 : ∀ (is : List Nat) (cs ws : va_W) (j k : Nat), is.length ≤ cs.length → va_nd is = true → is[j]? = some k → k < ws.length → (putAt ws is cs)[k]? = cs[j]?
  | [], cs, ws, j, k, _, _, h, _ => by simp at h
  | i :: is, [], ws, j, k, hl, _, _, _ => by simp at hl
  | i :: is, c :: cs, ws, 0, k, hl, hn, h, hk => by
    simp only [va_nd, Bool.and_eq_true, decide_eq_true_eq] at hn
    simp at h
    subst h
    have h := putAt_at2 is cs (ws.set i c) i (by simpa using hl) hn.1 (by rw [List.length_set]; exact hk)
    exact h.trans (by rw [List.getElem?_set_self hk]; rfl)
  | i :: is, c :: cs, ws, j + 1, k, hl, hn, h, hk => by
    simp only [va_nd, Bool.and_eq_true, decide_eq_true_eq] at hn
    have h := putAt_at1 is cs (ws.set i c) j k (by simpa using hl) hn.2 (by simpa using h) (by rw [List.length_set]; exact hk)
    exact h.trans (by simp)
def idxI (k : Nat) : List Nat → Option Nat
  | [] => none
  | i :: is => if i = k then some 0 else (idxI k is).map (· + 1)
theorem idxI_some : ∀ (is : List Nat) (k j : Nat), idxI k is = some j → is[j]? = some k
  | [], k, j, h => by simp [idxI] at h
  | i :: is, k, j, h => by
    unfold idxI at h
    split at h
    · cases h; simp; assumption
    · cases hh : idxI k is with
      | none => rw [hh] at h; cases h
      | some a => rw [hh] at h; cases h; simpa using idxI_some is k a hh
theorem idxI_none : ∀ (is : List Nat) (k : Nat), idxI k is = none → k ∉ is
  | [], k, h => List.not_mem_nil
  | i :: is, k, h => by
    unfold idxI at h
    split at h
    · cases h
    · cases hh : idxI k is with
      | none =>
        intro hm
        rcases List.mem_cons.mp hm with e | hm
        · rename_i hne; exact hne e.symm
        · exact idxI_none is k hh hm
      | some a => rw [hh] at h; cases h
def planOf (N : Nat) (is : List Nat) : List (Option Nat) := (List.range N).map (fun k => idxI k is)
def mkW (w1 : va_W) : va_W → List (Option Nat) → va_W
  | c :: cs, none :: ps => c :: mkW w1 cs ps
  | c :: cs, some j :: ps => w1.getD j c :: mkW w1 cs ps
  | _, _ => []
theorem mkW_get (w1 : va_W) : ∀ (ws : va_W) (ps : List (Option Nat)) (k : Nat) (q : Nat × va_E), (mkW w1 ws ps)[k]? = some q → (∃ j c, ps[k]? = some (some j) ∧ ws[k]? = some c ∧ q = w1.getD j c) ∨ (ps[k]? = some none ∧ ws[k]? = some q)
  | [], ps, k, q, h => by simp [mkW] at h
  | c :: cs, [], k, q, h => by simp [mkW] at h
  | c :: cs, none :: ps, 0, q, h => by
    simp [mkW] at h
    exact Or.inr ⟨rfl, by simp [h]⟩
  | c :: cs, some j :: ps, 0, q, h => by
    simp only [mkW, List.getElem?_cons_zero, Option.some.injEq] at h
    exact Or.inl ⟨j, c, rfl, rfl, h.symm⟩
  | c :: cs, none :: ps, k + 1, q, h => by
    have h' : (mkW w1 cs ps)[k]? = some q := by simpa [mkW] using h
    simpa using mkW_get w1 cs ps k q h'
  | c :: cs, some j :: ps, k + 1, q, h => by
    have h' : (mkW w1 cs ps)[k]? = some q := by simpa [mkW] using h
    simpa using mkW_get w1 cs ps k q h'
theorem mk_put {ws w1 : va_W} {isC : List Nat} {N : Nat} {ps : List (Option Nat)} (hN : ws.length = N) (hps : planOf N isC = ps) (hnd : va_nd isC = true) (hlt : isC.length = w1.length) (k : Nat) (q : Nat × va_E) (h : (mkW w1 ws ps)[k]? = some q) : (putAt ws isC w1)[k]? = some q := by
  have hp : ∀ o, ps[k]? = some o → k < ws.length ∧ idxI k isC = o := by
    intro o ho
    rw [← hps, planOf, List.getElem?_map] at ho
    cases hr : (List.range N)[k]? with
    | none => rw [hr] at ho; cases ho
    | some a =>
      rw [hr] at ho
      obtain ⟨h1, h2⟩ := List.getElem?_eq_some_iff.mp hr
      simp at h1 h2
      subst h2
      exact ⟨by omega, Option.some.inj ho⟩
  rcases mkW_get w1 ws ps k q h with ⟨j, c, h1, h2, h3⟩ | ⟨h1, h2⟩
  · obtain ⟨hk, hi⟩ := hp _ h1
    have hj := idxI_some isC k j hi
    have hjl : j < w1.length := by rw [← hlt]; exact (List.getElem?_eq_some_iff.mp hj).1
    rw [putAt_at1 isC w1 ws j k (Nat.le_of_eq hlt) hnd hj hk, h3, List.getD_eq_getElem?_getD, List.getElem?_eq_getElem hjl]
    rfl
  · obtain ⟨hk, hi⟩ := hp _ h1
    rw [putAt_at2 isC w1 ws k (Nat.le_of_eq hlt) (idxI_none isC k hi) hk]
    exact h2
theorem g_sub {X : XT} {nL k n pc : Nat} {ws ws2 : va_W} {lv : List (Nat × Value)} {st : List Value} (h : ∀ (k : Nat) (q : Nat × va_E), ws2[k]? = some q → ws[k]? = some q) (K : Go X nL k n pc ws2 lv st) : Go X nL k n pc ws lv st := fun H locs ls hP hD hS hl => K H locs ls (fun k q hk => hP k q (h k q hk)) ⟨fun i j p q hi hj e => hD.1 i j p q (h _ _ hi) (h _ _ hj) e, fun k q hk => hD.2 k q (h k q hk)⟩ hS hl
section KC
variable {p : Program} {l : Launch} {e : Env} {R : Room} {s : State} {m : MethodId} {args : Array Value} {below : List Frame} {meth : Method} {c : Code} {H : Heap} {locs : List Loc} {cells slots : Nat} {Q : State → Prop}
variable {pc : Nat} {ls : Array Slot} {rest st0 : List Value} {a : Array Value} {A0 A1 : Nat → Prop} {H0 : Heap} {mc ms : Nat} {free : Addr → Prop}
theorem kcall {D : va_G} {B : Option Value → va_W → Prop} (hr : va_Run p l e R s m args below meth c H locs cells slots mc ms (F0 m pc ls st0) rest (Qx D A1 B a) free) (hS : va_S A0 H0 H locs) (hA : ∀ q, q < H.size → A1 q → A0 q) (hf : ∀ q, free q → A0 q)
    (kk : ∀ (res : Option Value) (ws' : va_W) (H1 : Heap) (locs1 : List Loc), B res ws' → va_P D vwCl ws' H1 → va_D A1 ws' → (∀ q : Nat, q < H.size → ¬ A1 q → H1[q]? = H[q]?) → va_S A0 H0 H1 locs1 → W p l e R s m args below meth c H1 locs1 (cells + mc) (slots + ms) Q (F0 m (pc + 3) ls (res.toList ++ rest))) : W p l e R s m args below meth c H locs cells slots Q (F0 m pc ls st0) := by
  intro T hT X
  obtain ⟨v, st₀, t, T', L, h0, X', hL, e1, e2, ⟨⟨res, ws', hB, hv, hp, hd⟩, hz, hk⟩, st⟩ := hr T hT X
  cases hv
  rw [h0] at hz hk
  obtain ⟨t2, a1, b1⟩ := kk v ws' T'.heap (locs ++ L) hB (by rw [e1]; exact hp) hd (fun q h1 h2 => by rw [e1]; exact hk q h1 h2)
    ⟨Nat.le_trans hS.1 (by rw [e1]; exact hz), fun q h1 h2 => by rw [e1, hk q (Nat.lt_of_lt_of_le h1 hS.1) (fun z => h2 (hA q (Nat.lt_of_lt_of_le h1 hS.1) z))]; exact hS.2.1 q h1 h2, fun q hq => by
      rcases List.mem_append.mp hq with h | h
      · exact hS.2.2 q h
      · exact hf _ (hL q h)⟩ T' rfl X'
  exact ⟨t2, st t2 a1, b1⟩
end KC
section GC
variable {X : XT} {cc : ByteArray} {own : String} {ret : Option FieldType} {cA : Nat → ClassId} {fr lo nL k n : Nat} {ws : va_W} {lv : List (Nat × Value)} {st rest : List Value}
abbrev okY (y : MethodName) (j : Nat) : Prop := y.cls ≠ "java/lang/invoke/MethodHandle" ∧ y.cls ≠ "java/lang/invoke/VarHandle" ∧ (parseMethodDescriptor y.desc).map (fun d => d.parameters.length) = some j
theorem g_callV (C : Cx X cc own ret cA fr lo nL) (pc : Nat) {y : MethodName} {cc' : ByteArray} {nL' : Nat} {ret' : Option FieldType} {rm : Room} {b : Nat} {As : List Value} {wc : va_W} {B : Option Value → va_W → Prop} {i ci N : Nat} {fs : List Value} {T : u_T} (isC : List Nat) (q0 : Nat) (d : decode cc pc = .ok (.invokevirtual i, 3)) (hM : MT (x_l X) cA y cc' nL' ret' rm (.ref b :: As) wc B)
    (h1 : Cond.methodLink own i y ∈ G) (h2 : Cond.instanceMethod y ∈ G) (h3 : Cond.selects y.cls y y ∈ G) (h4 : Cond.initialized y.cls ∈ G) (h5 : Cond.code y cc' nL' ret' ∈ G) (hd : okY y As.length) (hR : rm.frames + 1 ≤ fr ∧ 8 + (nL' + 11) + rm.locals ≤ lo) (hrc : k + rm.cells ≤ (x_R X).cells ∧ n + rm.slots ≤ (x_R X).slots)
    (hq0 : ws[q0]? = some (oB b ci fs)) (hc : vwCl[ci]? = some (y.cls, T, N)) (hC : isC.map (fun i => ws[i]?) = wc.map some) (hnd : va_nd isC = true) (hst : st = As.reverse ++ .ref b :: rest) (hsum : (rest.map fun v => v.category).sum ≤ 8)
    (K : ∀ (res : Option Value) (w1 : va_W), B res w1 → isC.length ≤ w1.length ∧ Go X nL (k + rm.cells) (n + rm.slots) (pc + 3) (putAt ws isC w1) lv (res.toList ++ rest)) : Go X nL k n pc ws lv st := by
  intro H locs ls hP hD hS hl
  have hFc := va_free (wc := wc) hD hS C.hA isC hC
  have hPc := hP.sub (ws' := wc) isC (by
    have := congrArg (List.filterMap id) hC
    simpa [List.filterMap_map] using this)
  have hDc := hD.sub (ws' := wc) isC hnd hC
  have hG : GoodIn G (wsV own i y.cls y (.code y cc' nL' ret' :: G)) := gi_G (fun w hw => by
    simp only [wsV, List.cons_append, List.nil_append, List.mem_cons] at hw
    rcases hw with rfl | rfl | rfl | rfl | rfl | hw
    · exact h1
    · exact h2
    · exact h3
    · exact h4
    · exact h5
    · exact hw)
  refine kcall (va_runV (As := As) (rest := rest) ⟨C.ex, C.by, C.ml, C.ow, C.ts⟩ (hM H.size (x_D X)) (cwV As.length C.ts hG rfl rfl rfl ⟨rfl, hd⟩ ⟨Nat.le_trans hR.1 C.rm.1, Nat.le_trans hR.2 C.rm.2⟩) ⟨Px_blind, va_recv C.K hP hc hq0, fun U hU hW => ⟨rfl, by rw [hU], by rw [hU]; exact hPc, va_K.moved hW.alike C.K, hDc.weaken (fun _ _ _ _ => trivial), NW.warm hW C.nw⟩⟩ rfl rfl hl.1 hst (lv_room hsum) d hrc) hS (fun q _ h => hFc q h) hFc ?_
  intro res w1 H1 locs1 hB hP1 hD1 hk1 hS1
  obtain ⟨hle, hgo⟩ := K res w1 hB
  obtain ⟨hP2, hD2⟩ := kjoin hP hD isC hC hnd hle hk1 hFc hP1 hD1
  exact hgo H1 locs1 ls hP2 hD2 hS1 hl
theorem g_callV1 (C : Cx X cc own ret cA fr lo nL) (pc : Nat) {y : MethodName} {cc' : ByteArray} {nL' : Nat} {ret' : Option FieldType} {rm : Room} {b : Nat} {As : List Value} {wc w1 ws' : va_W} {res : Option Value} {i ci N : Nat} {fs : List Value} {T : u_T} (isC : List Nat) (q0 : Nat) (d : decode cc pc = .ok (.invokevirtual i, 3)) (hM : MT (x_l X) cA y cc' nL' ret' rm (.ref b :: As) wc (sB res w1))
    (h1 : Cond.methodLink own i y ∈ G) (h2 : Cond.instanceMethod y ∈ G) (h3 : Cond.selects y.cls y y ∈ G) (h4 : Cond.initialized y.cls ∈ G) (h5 : Cond.code y cc' nL' ret' ∈ G) (hd : okY y As.length) (hR : rm.frames + 1 ≤ fr ∧ 8 + (nL' + 11) + rm.locals ≤ lo) (hrc : k ≤ (x_R X).cells ∧ n ≤ (x_R X).slots) (hz : rm.cells = 0 ∧ rm.slots = 0)
    (hq0 : ws[q0]? = some (oB b ci fs)) (hc : vwCl[ci]? = some (y.cls, T, N)) (hC : isC.map (fun i => ws[i]?) = wc.map some) (hnd : va_nd isC = true) (hst : st = As.reverse ++ .ref b :: rest) (hsum : (rest.map fun v => v.category).sum ≤ 8) (hle : isC.length = w1.length) {N0 : Nat} (hN : ws.length = N0) (ps : List (Option Nat)) (hps : planOf N0 isC = ps) (hws : mkW w1 ws ps = ws') {st' : List Value} (hst' : res.toList ++ rest = st')
    (K : Go X nL k n (pc + 3) ws' lv st') : Go X nL k n pc ws lv st := by
  refine g_callV C pc isC q0 d hM h1 h2 h3 h4 h5 hd hR (by rw [hz.1, hz.2]; exact hrc) hq0 hc hC hnd hst hsum (fun r w h => ?_)
  obtain ⟨rfl, rfl⟩ := h
  refine ⟨Nat.le_of_eq hle, ?_⟩
  rw [hz.1, hz.2, hst']
  exact g_sub (fun k q h => mk_put hN hps hnd hle k q (by rw [hws]; exact h)) K
theorem g_callS (C : Cx X cc own ret cA fr lo nL) (pc : Nat) {y : MethodName} {cc' : ByteArray} {nL' : Nat} {ret' : Option FieldType} {rm : Room} {As : List Value} {wc w1 ws' : va_W} {res : Option Value} {i : Nat} (isC : List Nat) (d : decode cc pc = .ok (.invokestatic i, 3)) (hM : MT (x_l X) cA y cc' nL' ret' rm As wc (sB res w1))
    (h1 : Cond.methodLink own i y ∈ G) (h2 : Cond.static y ∈ G) (h4 : Cond.initialized y.cls ∈ G) (h5 : Cond.code y cc' nL' ret' ∈ G) (hd : okY y As.length) (hR : rm.frames + 1 ≤ fr ∧ 8 + (nL' + 11) + rm.locals ≤ lo) (hrc : k ≤ (x_R X).cells ∧ n ≤ (x_R X).slots) (hz : rm.cells = 0 ∧ rm.slots = 0)
    (hC : isC.map (fun i => ws[i]?) = wc.map some) (hnd : va_nd isC = true) (hst : st = As.reverse ++ rest) (hsum : (rest.map fun v => v.category).sum ≤ 8) (hle : isC.length = w1.length) {N0 : Nat} (hN : ws.length = N0) (ps : List (Option Nat)) (hps : planOf N0 isC = ps) (hws : mkW w1 ws ps = ws') {st' : List Value} (hst' : res.toList ++ rest = st')
    (K : Go X nL k n (pc + 3) ws' lv st') : Go X nL k n pc ws lv st := by
  intro H locs ls hP hD hS hl
  have hFc := va_free (wc := wc) hD hS C.hA isC hC
  have hPc := hP.sub (ws' := wc) isC (by
    have := congrArg (List.filterMap id) hC
    simpa [List.filterMap_map] using this)
  have hDc := hD.sub (ws' := wc) isC hnd hC
  have hG : GoodIn G (va_wsS own i y (.code y cc' nL' ret' :: G)) := gi_G (fun w hw => by
    simp only [va_wsS, List.cons_append, List.nil_append, List.mem_cons] at hw
    rcases hw with rfl | rfl | rfl | rfl | hw
    · exact h1
    · exact h2
    · exact h4
    · exact h5
    · exact hw)
  refine kcall (va_runS (As := As) (rest := rest) ⟨C.ex, C.by, C.ml, C.ow, C.ts⟩ (hM H.size (x_D X)) (va_cwS As.length C.ts hG rfl rfl rfl hd ⟨Nat.le_trans hR.1 C.rm.1, Nat.le_trans hR.2 C.rm.2⟩) ⟨Px_blind, fun U hU hW => ⟨rfl, by rw [hU], by rw [hU]; exact hPc, va_K.moved hW.alike C.K, hDc.weaken (fun _ _ _ _ => trivial), NW.warm hW C.nw⟩⟩ rfl rfl hl.1 hst (lv_room hsum) d (by rw [hz.1, hz.2]; exact hrc)) hS (fun q _ h => hFc q h) hFc ?_
  intro r w H1 locs1 hB hP1 hD1 hk1 hS1
  obtain ⟨rfl, rfl⟩ := hB
  obtain ⟨hP2, hD2⟩ := kjoin hP hD isC hC hnd (Nat.le_of_eq hle) hk1 hFc hP1 hD1
  rw [hz.1, hz.2, hst']
  exact g_sub (fun k q h => mk_put hN hps hnd hle k q (by rw [hws]; exact h)) K H1 locs1 ls hP2 hD2 hS1 hl
theorem g_callSN (C : Cx X cc own ret cA fr lo nL) (pc : Nat) {y : MethodName} {cc' : ByteArray} {nL' : Nat} {ret' : Option FieldType} {rm : Room} {As : List Value} {wc w1 ws' : va_W} {res : Option Value} {i : Nat} {host : String} (isC : List Nat) (d : decode cc pc = .ok (.invokestatic i, 3)) (hM : MT (x_l X) cA y cc' nL' ret' rm As wc (sB res w1))
    (h1 : (own, i, y, host) ∈ nwT) (h2 : Cond.static y ∈ G) (h4 : Cond.initialized y.cls ∈ G) (h5 : Cond.code y cc' nL' ret' ∈ G) (hd : okY y As.length) (hR : rm.frames + 1 ≤ fr ∧ 8 + (nL' + 11) + rm.locals ≤ lo) (hrc : k ≤ (x_R X).cells ∧ n ≤ (x_R X).slots) (hz : rm.cells = 0 ∧ rm.slots = 0)
    (hC : isC.map (fun i => ws[i]?) = wc.map some) (hnd : va_nd isC = true) (hst : st = As.reverse ++ rest) (hsum : (rest.map fun v => v.category).sum ≤ 8) (hle : isC.length = w1.length) {N0 : Nat} (hN : ws.length = N0) (ps : List (Option Nat)) (hps : planOf N0 isC = ps) (hws : mkW w1 ws ps = ws') {st' : List Value} (hst' : res.toList ++ rest = st')
    (K : Go X nL k n (pc + 3) ws' lv st') : Go X nL k n pc ws lv st := by
  intro H locs ls hP hD hS hl
  have hFc := va_free (wc := wc) hD hS C.hA isC hC
  have hPc := hP.sub (ws' := wc) isC (by
    have := congrArg (List.filterMap id) hC
    simpa [List.filterMap_map] using this)
  have hDc := hD.sub (ws' := wc) isC hnd hC
  have hG : GoodIn G (.code y cc' nL' ret' :: G) := gi_G (fun w hw => by
    rcases List.mem_cons.mp hw with rfl | hw
    · exact h5
    · exact hw)
  refine kcall (va_runSN (As := As) (rest := rest) (host := host) ⟨C.ex, C.by, C.ml, C.ow, C.ts⟩ (hM H.size (x_D X)) ⟨va_cnB As.length C.ts hG rfl rfl rfl (C.nw.1 _ h1) (C.ts _ h4) hd ⟨Nat.le_trans hR.1 C.rm.1, Nat.le_trans hR.2 C.rm.2⟩, C.ts _ h2, trivial⟩ ⟨Px_blind, fun U hU hW => ⟨rfl, by rw [hU], by rw [hU]; exact hPc, va_K.moved hW.alike C.K, hDc.weaken (fun _ _ _ _ => trivial), NW.warm hW C.nw⟩⟩ rfl rfl hl.1 hst (lv_room hsum) d (by rw [hz.1, hz.2]; exact hrc)) hS (fun q _ h => hFc q h) hFc ?_
  intro r w H1 locs1 hB hP1 hD1 hk1 hS1
  obtain ⟨rfl, rfl⟩ := hB
  obtain ⟨hP2, hD2⟩ := kjoin hP hD isC hC hnd (Nat.le_of_eq hle) hk1 hFc hP1 hD1
  rw [hz.1, hz.2, hst']
  exact g_sub (fun k q h => mk_put hN hps hnd hle k q (by rw [hws]; exact h)) K H1 locs1 ls hP2 hD2 hS1 hl
variable {B : Option Value → va_W → Prop}
theorem g_iret (C : Cx X cc own (some .int) cA fr lo nL) (pc : Nat) {v : Int32} (d : decode cc pc = .ok (.ireturn, 1)) (F : Fx X B k n) (hB : B (some (.int v)) ws) : Go X nL k n pc ws lv [.int v] := by
  intro H locs ls hP hD hS hl
  unfold XW
  rw [F.1]
  exact W.iret C.ex C.by C.rt (fun t ht hW => ⟨⟨_, _, hB, rfl, by rw [ht]; exact hP, hD⟩, va_S.F (F.2 ▸ hS) ht⟩) hS.2.2 d C.lk
theorem g_zret (C : Cx X cc own (some .boolean) cA fr lo nL) (pc : Nat) {v : Int32} (d : decode cc pc = .ok (.ireturn, 1)) (hv : v = 0 ∨ v = 1) (F : Fx X B k n) (hB : B (some (.int v)) ws) : Go X nL k n pc ws lv [.int v] := by
  intro H locs ls hP hD hS hl
  unfold XW
  rw [F.1]
  exact W.zret C.ex C.by C.rt (by rcases hv with rfl | rfl <;> rfl) (fun t ht hW => ⟨⟨_, _, hB, rfl, by rw [ht]; exact hP, hD⟩, va_S.F (F.2 ▸ hS) ht⟩) hS.2.2 d C.lk
theorem g_lret (C : Cx X cc own (some .long) cA fr lo nL) (pc : Nat) {v : Int64} (d : decode cc pc = .ok (.lreturn, 1)) (F : Fx X B k n) (hB : B (some (.long v)) ws) : Go X nL k n pc ws lv [.long v] := by
  intro H locs ls hP hD hS hl
  unfold XW
  rw [F.1]
  exact W.lret C.ex C.by C.rt (fun t ht hW => ⟨⟨_, _, hB, rfl, by rw [ht]; exact hP, hD⟩, va_S.F (F.2 ▸ hS) ht⟩) hS.2.2 d C.lk
theorem g_vret (C : Cx X cc own none cA fr lo nL) (pc : Nat) (d : decode cc pc = .ok (.return_, 1)) (F : Fx X B k n) (hB : B none ws) : Go X nL k n pc ws lv [] := by
  intro H locs ls hP hD hS hl
  unfold XW
  rw [F.1]
  exact W.vret C.ex C.by C.rt (fun t ht hW => ⟨⟨_, _, hB, rfl, by rw [ht]; exact hP, hD⟩, va_S.F (F.2 ▸ hS) ht⟩) hS.2.2 d C.lk
end GC
end
section
theorem inT1 {w : Cond} (i : Nat) (h : tables_1_1[i]? = some w) : w ∈ lw_tbl := inT (List.mem_append_left _ (List.mem_of_getElem? h))
theorem inT2 {w : Cond} (i : Nat) (h : tables_1_2[i]? = some w) : w ∈ lw_tbl := inT (List.mem_append_right _ (List.mem_append_left _ (List.mem_of_getElem? h)))
theorem inT3 {w : Cond} (i : Nat) (h : tables_1_3[i]? = some w) : w ∈ lw_tbl := inT (List.mem_append_right _ (List.mem_append_right _ (List.mem_append_left _ (List.mem_of_getElem? h))))
theorem inT4 {w : Cond} (i : Nat) (h : tables_1_4[i]? = some w) : w ∈ lw_tbl := inT (List.mem_append_right _ (List.mem_append_right _ (List.mem_append_right _ (List.mem_append_left _ (List.mem_of_getElem? h)))))
theorem inT5 {w : Cond} (i : Nat) (h : tables_1_5[i]? = some w) : w ∈ lw_tbl := inT (List.mem_append_right _ (List.mem_append_right _ (List.mem_append_right _ (List.mem_append_right _ (List.mem_of_getElem? h)))))
theorem no_some {α : Type} {r : α} {P : Prop} (h : (none : Option α) = some r) : P := by cases h
theorem ite_or {β : Type} {c : Prop} [Decidable c] {x y : Option β} {r : β} (h : (if c then x else y) = some r) : (c ∧ x = some r) ∨ (¬ c ∧ y = some r) := by
  by_cases hc : c
  · exact Or.inl ⟨hc, ite_t h hc⟩
  · exact Or.inr ⟨hc, ite_f h hc⟩
/-- loops' fuel: more than any loop here takes -/
def NN : Nat := 32768
theorem i32_ne {x k : Int32} (h : ¬ x = k) : x.toInt ≠ k.toInt := fun e => h (Int32.toInt_inj.mp e)
theorem tsw_out3 {x : Int32} (h0 : ¬ x = 0) (h1 : ¬ x = 1) (h2 : ¬ x = 2) : x.toInt < 0 ∨ 2 < x.toInt := by
  have a := i32_ne h0; have b := i32_ne h1; have c := i32_ne h2
  have e0 : (0 : Int32).toInt = 0 := rfl
  have e1 : (1 : Int32).toInt = 1 := rfl
  have e2 : (2 : Int32).toInt = 2 := rfl
  omega
theorem tsw_out6 {x : Int32} (h0 : ¬ x = 0) (h1 : ¬ x = 1) (h2 : ¬ x = 2) (h3 : ¬ x = 3) (h4 : ¬ x = 4) (h5 : ¬ x = 5) : x.toInt < 0 ∨ 5 < x.toInt := by
  have a := i32_ne h0; have b := i32_ne h1; have c := i32_ne h2; have d := i32_ne h3; have e := i32_ne h4; have f := i32_ne h5
  have e0 : (0 : Int32).toInt = 0 := rfl
  have e1 : (1 : Int32).toInt = 1 := rfl
  have e2 : (2 : Int32).toInt = 2 := rfl
  have e3 : (3 : Int32).toInt = 3 := rfl
  have e4 : (4 : Int32).toInt = 4 := rfl
  have e5 : (5 : Int32).toInt = 5 := rfl
  omega
section GT
variable {X : XT} {cc : ByteArray} {own : String} {ret : Option FieldType} {cA : Nat → ClassId} {fr lo nL k n : Nat} {ws : va_W} {lv : List (Nat × Value)} {st : List Value} {ρ : Type} {r : ρ}
theorem g_tsw (C : Cx X cc own ret cA fr lo nL) (pc t : Nat) {x v : Int32} {df l h o : Int} {offs : Array Int} {len : Nat} (d : decode cc pc = .ok (.tableswitch df l h offs, len)) (hx : x = v) (h1 : ¬ v.toInt < l) (h2 : ¬ h < v.toInt) (ho : offs[(v.toInt - l).toNat]? = some o) (ht : (pc : Int) + o = (t : Int)) (K : Go X nL k n t ws lv st) : Go X nL k n pc ws lv (.int x :: st) := fun H locs ls hP hD hS hl => lv_tableIn C.ex C.by d (by rw [hx]; exact h1) (by rw [hx]; exact h2) (by rw [hx]; exact ho) ht (K H locs ls hP hD hS hl)
theorem g_tswO (C : Cx X cc own ret cA fr lo nL) (pc t : Nat) {x : Int32} {df l h : Int} {offs : Array Int} {len : Nat} (d : decode cc pc = .ok (.tableswitch df l h offs, len)) (hx : x.toInt < l ∨ h < x.toInt) (ht : (pc : Int) + df = (t : Int)) (K : Go X nL k n t ws lv st) : Go X nL k n pc ws lv (.int x :: st) := fun H locs ls hP hD hS hl => lv_tableOut C.ex C.by d hx ht (K H locs ls hP hD hS hl)
theorem g_min (C : Cx X cc own ret cA fr lo nL) (pc : Nat) {i : Nat} {x y : Int32} (d : decode cc pc = .ok (.invokestatic i, 3)) (h1 : Cond.methodLink own i Lib.Math.min.name ∈ G) (h2 : Cond.static Lib.Math.min.name ∈ G) (h3 : Cond.initialized "java/lang/Math" ∈ G) (h4 : Cond.code Lib.Math.min.name Lib.Math.min.code 2 (some .int) ∈ G) (hfr : 1 ≤ fr) (hlo : (st.map fun v => v.category).sum + 13 ≤ lo) (hk : k ≤ (x_R X).cells) (hn : n ≤ (x_R X).slots) (K : Go X nL k n (pc + 3) ws lv (.int (if y < x then y else x) :: st)) : Go X nL k n pc ws lv (.int y :: .int x :: st) := fun H locs ls hP hD hS hl => va_mmin C.ex C.by (C.ml.trans hl.1.symm) C.ow (C.ts _ h1) (C.ts _ h2) (C.ts _ h3) (C.ts _ h4) (Nat.le_trans hfr C.rm.1) (Nat.le_trans hlo C.rm.2) hk hn d (K H locs ls hP hD hS hl)
theorem g_copy (C : Cx X cc own ret cA fr lo nL) (pc q0 q1 : Nat) {i a0 a : Nat} {f g : Nat → Int32} (wsF : (Nat → Int32) → va_W) {kf : (Nat → Int32) → Option ρ} (d : decode cc pc = .ok (.invokestatic i, 3)) (h1 : Cond.methodLink own i arraycopyName ∈ G) (h2 : Cond.native arraycopyName ∈ G) (h3 : Cond.static arraycopyName ∈ G) (h4 : Cond.initialized "java/lang/System" ∈ G) (ha0 : ws[q0]? = some (aI cA a0 14 f)) (ha1 : ws[q1]? = some (aI cA a 14 g)) (hfr : 1 ≤ fr) (hst : (nativeFrameWords "java/lang/System" "arraycopy" 5 + 11) ≤ 40) (hlo : (st.map fun v => v.category).sum + 40 ≤ lo) (hw : ∀ z, ws.set q1 (aI cA a 14 z) = wsF z) (hf : bnd (va_cpy f g 0 0 14) kf = some r) (K : ∀ z : Nat → Int32, kf z = some r → Go X nL k n (pc + 3) (wsF z) lv st) : Go X nL k n pc ws lv (.int 14 :: .int 0 :: .ref a :: .int 0 :: .ref a0 :: st) := fun H locs ls hP hD hS hl => va_copyi (ty := .int) C.ex C.by (C.ml.trans hl.1.symm) C.ow (C.ts _ h1) (C.ts _ h2) (C.ts _ h3) (C.ts _ h4) C.K hP hD hS q0 q1 0 0 ha0 ha1 rfl rfl rfl (by decide) (by decide) (by decide) (by decide) (by decide) (fun _ _ => rfl) (Nat.le_trans hfr C.rm.1) (Nat.le_trans (Nat.le_trans (Nat.add_le_add_left hst _) hlo) C.rm.2) d (fun H1 l1 hP hD hS => K _ hf H1 l1 ls (hw _ ▸ hP) (hw _ ▸ hD) hS hl)
end GT
theorem inX0 : ∀ w ∈ u_ws RX0 TX0 3, w ∈ G := fun w h => inG ((by decide +kernel : ∀ w ∈ u_ws RX0 TX0 3, w ∈ lw_tbl) w h) ((by decide +kernel : ∀ w ∈ u_ws RX0 TX0 3, goodWord w = true) w h)
theorem inX1 : ∀ w ∈ u_ws RX1 TX1 3, w ∈ G := fun w h => inG ((by decide +kernel : ∀ w ∈ u_ws RX1 TX1 3, w ∈ lw_tbl) w h) ((by decide +kernel : ∀ w ∈ u_ws RX1 TX1 3, goodWord w = true) w h)
theorem inX2 : ∀ w ∈ u_ws RX2 TX2 3, w ∈ G := fun w h => inG ((by decide +kernel : ∀ w ∈ u_ws RX2 TX2 3, w ∈ lw_tbl) w h) ((by decide +kernel : ∀ w ∈ u_ws RX2 TX2 3, goodWord w = true) w h)
theorem inX3 : ∀ w ∈ u_ws RX3 TX3 5, w ∈ G := fun w h => inG ((by decide +kernel : ∀ w ∈ u_ws RX3 TX3 5, w ∈ lw_tbl) w h) ((by decide +kernel : ∀ w ∈ u_ws RX3 TX3 5, goodWord w = true) w h)
theorem inX4 : ∀ w ∈ u_ws RX4 TX4 5, w ∈ G := fun w h => inG ((by decide +kernel : ∀ w ∈ u_ws RX4 TX4 5, w ∈ lw_tbl) w h) ((by decide +kernel : ∀ w ∈ u_ws RX4 TX4 5, goodWord w = true) w h)
theorem inX5 : ∀ w ∈ u_ws RX5 TX5 11, w ∈ G := fun w h => inG ((by decide +kernel : ∀ w ∈ u_ws RX5 TX5 11, w ∈ lw_tbl) w h) ((by decide +kernel : ∀ w ∈ u_ws RX5 TX5 11, goodWord w = true) w h)
theorem inX6 : ∀ w ∈ u_ws RX6 TX6 4, w ∈ G := fun w h => inG ((by decide +kernel : ∀ w ∈ u_ws RX6 TX6 4, w ∈ lw_tbl) w h) ((by decide +kernel : ∀ w ∈ u_ws RX6 TX6 4, goodWord w = true) w h)
theorem inX7 : ∀ w ∈ u_ws RX7 TX7 17, w ∈ G := fun w h => inG ((by decide +kernel : ∀ w ∈ u_ws RX7 TX7 17, w ∈ lw_tbl) w h) ((by decide +kernel : ∀ w ∈ u_ws RX7 TX7 17, goodWord w = true) w h)
theorem inX8 : ∀ w ∈ u_ws RX8 TX8 8, w ∈ G := fun w h => inG ((by decide +kernel : ∀ w ∈ u_ws RX8 TX8 8, w ∈ lw_tbl) w h) ((by decide +kernel : ∀ w ∈ u_ws RX8 TX8 8, goodWord w = true) w h)
theorem inX9 : ∀ w ∈ u_ws RX9 TX9 23, w ∈ G := fun w h => inG ((by decide +kernel : ∀ w ∈ u_ws RX9 TX9 23, w ∈ lw_tbl) w h) ((by decide +kernel : ∀ w ∈ u_ws RX9 TX9 23, goodWord w = true) w h)
end
section
theorem kw_0 : Cond.fieldLink RX0 18 "BagTree$Bags" "size" "I" ∈ G := inG (inT1 89 rfl) rfl
theorem kw_1 : Cond.fieldLink RX0 9 "BagTree$Bags" "masks" "[I" ∈ G := inG (inT1 85 rfl) rfl
theorem kw_2 : Cond.fieldLink RX0 15 "BagTree$Bags" "ups" "[I" ∈ G := inG (inT1 87 rfl) rfl
theorem kw_3 : Cond.fieldLink RX2 23 "BagTree$KnotRow" "size" "I" ∈ G := inG (inT1 68 rfl) rfl
theorem kw_4 : Cond.fieldLink RX2 9 "BagTree$KnotRow" "knots" "[I" ∈ G := inG (inT1 65 rfl) rfl
theorem kw_5 : Cond.static yX8_hasBit ∈ G := inG (inT2 19 rfl) rfl
theorem kw_6 : Cond.initialized RX8 ∈ G := inG (inT1 1 rfl) rfl
theorem kw_7 : Cond.code yX8_hasBit cX8_hasBit 2 (some .boolean) ∈ G := inG (inT2 20 rfl) rfl
theorem kw_8 : Cond.fieldLink RX1 9 "BagTree$Going" "near" "[I" ∈ G := inG (inT1 136 rfl) rfl
theorem kw_9 : Cond.fieldLink RX1 28 "BagTree$Going" "left" "I" ∈ G := inG (inT1 141 rfl) rfl
theorem kw_10 : Cond.constant RJ6 265 (1431655765) ∈ G := inG (inT2 98 rfl) rfl
theorem kw_11 : Cond.constant RJ6 266 (858993459) ∈ G := inG (inT2 99 rfl) rfl
theorem kw_12 : Cond.constant RJ6 267 (252645135) ∈ G := inG (inT2 100 rfl) rfl
theorem kw_13 : Cond.methodLink RX1 35 yX1_takeAway ∈ G := inG (inT2 90 rfl) rfl
theorem kw_14 : Cond.instanceMethod yX1_takeAway ∈ G := inG (inT2 91 rfl) rfl
theorem kw_15 : Cond.selects yX1_takeAway.cls yX1_takeAway yX1_takeAway ∈ G := inG (inT2 92 rfl) rfl
theorem kw_16 : Cond.initialized RX1 ∈ G := inG (inT1 6 rfl) rfl
theorem kw_17 : Cond.code yX1_takeAway cX1_takeAway 4 none ∈ G := inG (inT2 93 rfl) rfl
theorem kw_18 : Cond.fieldLink RX1 32 "BagTree$Going" "newEnds" "I" ∈ G := inG (inT1 143 rfl) rfl
theorem kw_19 : Cond.methodLink RX1 43 yJ6_bitCount_0f7a4 ∈ G := inG (inT2 95 rfl) rfl
theorem kw_20 : Cond.static yJ6_bitCount_0f7a4 ∈ G := inG (inT2 96 rfl) rfl
theorem kw_21 : Cond.initialized RJ6 ∈ G := inG (inT1 10 rfl) rfl
theorem kw_22 : Cond.code yJ6_bitCount_0f7a4 cJ6_bitCount_0f7a4 1 (some .int) ∈ G := inG (inT2 97 rfl) rfl
theorem kw_23 : Cond.fieldLink RX0 22 "BagTree$KnotRow" "size" "I" ∈ G := inG (inT1 69 rfl) rfl
theorem kw_24 : Cond.fieldLink RX0 25 "BagTree$KnotRow" "knots" "[I" ∈ G := inG (inT1 66 rfl) rfl
theorem kw_25 : Cond.fieldLink RX0 28 "BagTree$Going" "near" "[I" ∈ G := inG (inT1 139 rfl) rfl
theorem kw_26 : Cond.methodLink RX0 33 yX2_nextPlace ∈ G := inG (inT2 82 rfl) rfl
theorem kw_27 : Cond.instanceMethod yX2_nextPlace ∈ G := inG (inT2 83 rfl) rfl
theorem kw_28 : Cond.selects yX2_nextPlace.cls yX2_nextPlace yX2_nextPlace ∈ G := inG (inT2 84 rfl) rfl
theorem kw_29 : Cond.initialized RX2 ∈ G := inG (inT1 3 rfl) rfl
theorem kw_30 : Cond.code yX2_nextPlace cX2_nextPlace 4 (some .int) ∈ G := inG (inT2 85 rfl) rfl
theorem kw_31 : Cond.methodLink RX0 37 yX1_letGo ∈ G := inG (inT2 86 rfl) rfl
theorem kw_32 : Cond.instanceMethod yX1_letGo ∈ G := inG (inT2 87 rfl) rfl
theorem kw_33 : Cond.selects yX1_letGo.cls yX1_letGo yX1_letGo ∈ G := inG (inT2 88 rfl) rfl
theorem kw_34 : Cond.code yX1_letGo cX1_letGo 5 none ∈ G := inG (inT2 89 rfl) rfl
theorem kw_35 : Cond.methodLink RX0 41 yJ6_bitCount_0f7a4 ∈ G := inG (inT2 105 rfl) rfl
theorem kw_36 : Cond.methodLink RX0 47 yJ9_max_7cf53 ∈ G := inG (inT2 106 rfl) rfl
theorem kw_37 : Cond.static yJ9_max_7cf53 ∈ G := inG (inT2 107 rfl) rfl
theorem kw_38 : Cond.initialized RJ9 ∈ G := inG (inT1 11 rfl) rfl
theorem kw_39 : Cond.code Lib.Math.max.name Lib.Math.max.code 2 (some .int) ∈ G := inG (inT2 108 rfl) rfl
theorem kw_40 : Cond.methodLink RX0 52 yX0_has ∈ G := inG (inT3 23 rfl) rfl
theorem kw_41 : Cond.instanceMethod yX0_has ∈ G := inG (inT2 223 rfl) rfl
theorem kw_42 : Cond.selects yX0_has.cls yX0_has yX0_has ∈ G := inG (inT2 224 rfl) rfl
theorem kw_43 : Cond.initialized RX0 ∈ G := inG (inT1 4 rfl) rfl
theorem kw_44 : Cond.code yX0_has cX0_has 2 (some .boolean) ∈ G := inG (inT2 225 rfl) rfl
theorem kw_45 : Cond.fieldLink RX4 21 "BagTree$Net" "size" "I" ∈ G := inG (inT1 40 rfl) rfl
theorem kw_46 : Cond.methodLink RX4 25 yX4_has ∈ G := inG (inT2 29 rfl) rfl
theorem kw_47 : Cond.instanceMethod yX4_has ∈ G := inG (inT2 11 rfl) rfl
theorem kw_48 : Cond.selects yX4_has.cls yX4_has yX4_has ∈ G := inG (inT2 12 rfl) rfl
theorem kw_49 : Cond.initialized RX4 ∈ G := inG (inT1 2 rfl) rfl
theorem kw_50 : Cond.code yX4_has cX4_has 2 (some .boolean) ∈ G := inG (inT2 13 rfl) rfl
theorem kw_51 : Cond.fieldLink RX4 15 "BagTree$Net" "near" "[I" ∈ G := inG (inT1 32 rfl) rfl
theorem kw_52 : Cond.fieldLink RX0 70 "BagTree$Net" "size" "I" ∈ G := inG (inT1 44 rfl) rfl
theorem kw_53 : Cond.methodLink RX0 73 yX4_joined ∈ G := inG (inT3 6 rfl) rfl
theorem kw_54 : Cond.instanceMethod yX4_joined ∈ G := inG (inT2 26 rfl) rfl
theorem kw_55 : Cond.selects yX4_joined.cls yX4_joined yX4_joined ∈ G := inG (inT2 27 rfl) rfl
theorem kw_56 : Cond.code yX4_joined cX4_joined 3 (some .boolean) ∈ G := inG (inT2 28 rfl) rfl
theorem kw_57 : Cond.methodLink RX0 76 yX0_holdTogether ∈ G := inG (inT3 7 rfl) rfl
theorem kw_58 : Cond.instanceMethod yX0_holdTogether ∈ G := inG (inT3 9 rfl) rfl
theorem kw_59 : Cond.selects yX0_holdTogether.cls yX0_holdTogether yX0_holdTogether ∈ G := inG (inS (List.mem_of_getElem? (i := 7) rfl)) rfl
theorem kw_60 : Cond.code yX0_holdTogether cX0_holdTogether 3 (some .boolean) ∈ G := inG (inT3 10 rfl) rfl
theorem kw_61 : Cond.methodLink RX0 79 yX0_endingIn ∈ G := inG (inT3 19 rfl) rfl
theorem kw_62 : Cond.instanceMethod yX0_endingIn ∈ G := inG (inT3 20 rfl) rfl
theorem kw_63 : Cond.selects yX0_endingIn.cls yX0_endingIn yX0_endingIn ∈ G := inG (inT3 21 rfl) rfl
theorem kw_64 : Cond.code yX0_endingIn cX0_endingIn 3 (some .int) ∈ G := inG (inT3 22 rfl) rfl
theorem kw_65 : Cond.methodLink RX0 60 yX0_looseEdge ∈ G := inG (inT3 2 rfl) rfl
theorem kw_66 : Cond.instanceMethod yX0_looseEdge ∈ G := inG (inT3 4 rfl) rfl
theorem kw_67 : Cond.selects yX0_looseEdge.cls yX0_looseEdge yX0_looseEdge ∈ G := inG (inS (List.mem_of_getElem? (i := 6) rfl)) rfl
theorem kw_68 : Cond.code yX0_looseEdge cX0_looseEdge 4 (some .int) ∈ G := inG (inT3 5 rfl) rfl
theorem kw_69 : Cond.methodLink RX0 67 yX0_scatteredKnot ∈ G := inG (inT3 15 rfl) rfl
theorem kw_70 : Cond.instanceMethod yX0_scatteredKnot ∈ G := inG (inT3 17 rfl) rfl
theorem kw_71 : Cond.selects yX0_scatteredKnot.cls yX0_scatteredKnot yX0_scatteredKnot ∈ G := inG (inS (List.mem_of_getElem? (i := 9) rfl)) rfl
theorem kw_72 : Cond.code yX0_scatteredKnot cX0_scatteredKnot 6 (some .int) ∈ G := inG (inT3 18 rfl) rfl
theorem kw_73 : Cond.methodLink RX0 64 yX0_missingKnot ∈ G := inG (inT3 11 rfl) rfl
theorem kw_74 : Cond.instanceMethod yX0_missingKnot ∈ G := inG (inT3 13 rfl) rfl
theorem kw_75 : Cond.selects yX0_missingKnot.cls yX0_missingKnot yX0_missingKnot ∈ G := inG (inS (List.mem_of_getElem? (i := 8) rfl)) rfl
theorem kw_76 : Cond.code yX0_missingKnot cX0_missingKnot 3 (some .int) ∈ G := inG (inT3 14 rfl) rfl
theorem kw_77 : Cond.fieldLink RX1 15 "BagTree$Net" "near" "[I" ∈ G := inG (inT1 33 rfl) rfl
theorem kw_78 : Cond.methodLink RX1 18 arraycopyName ∈ G := inG (inT2 71 rfl) rfl
theorem kw_79 : Cond.native arraycopyName ∈ G := inG (inT2 73 rfl) rfl
theorem kw_80 : Cond.static arraycopyName ∈ G := inG (inT2 72 rfl) rfl
theorem kw_81 : Cond.initialized RJ10 ∈ G := inG (inT1 9 rfl) rfl
theorem kw_82 : Cond.methodLink RX1 24 yX4_everyKnot ∈ G := inG (inT2 74 rfl) rfl
theorem kw_83 : Cond.instanceMethod yX4_everyKnot ∈ G := inG (inT2 75 rfl) rfl
theorem kw_84 : Cond.selects yX4_everyKnot.cls yX4_everyKnot yX4_everyKnot ∈ G := inG (inT2 76 rfl) rfl
theorem kw_85 : Cond.code yX4_everyKnot cX4_everyKnot 1 (some .int) ∈ G := inG (inT2 77 rfl) rfl
theorem kw_86 : Cond.methodLink RX1 53 yJ9_max_7cf53 ∈ G := inG (inT2 180 rfl) rfl
theorem kw_87 : Cond.methodLink RX1 49 yX1_isNearlyJoined ∈ G := inG (inT2 176 rfl) rfl
theorem kw_88 : Cond.instanceMethod yX1_isNearlyJoined ∈ G := inG (inT2 178 rfl) rfl
theorem kw_89 : Cond.selects yX1_isNearlyJoined.cls yX1_isNearlyJoined yX1_isNearlyJoined ∈ G := inG (inS (List.mem_of_getElem? (i := 3) rfl)) rfl
theorem kw_90 : Cond.code yX1_isNearlyJoined cX1_isNearlyJoined 6 (some .boolean) ∈ G := inG (inT2 179 rfl) rfl
theorem kw_91 : Cond.fieldLink RX2 15 "BagTree$KnotRow" "held" "I" ∈ G := inG (inT1 71 rfl) rfl
theorem kw_92 : Cond.fieldLink RX3 9 "BagTree$Law" "size" "I" ∈ G := inG (inT1 104 rfl) rfl
theorem kw_93 : Cond.fieldLink RX3 15 "BagTree$Law" "factors" "[I" ∈ G := inG (inT1 107 rfl) rfl
theorem kw_94 : Cond.fieldLink RX3 19 "BagTree$Law" "pairFactors" "[I" ∈ G := inG (inT1 110 rfl) rfl
theorem kw_95 : Cond.fieldLink RX3 26 "BagTree$Law" "forbidden" "[I" ∈ G := inG (inT1 116 rfl) rfl
theorem kw_96 : Cond.fieldLink RX3 22 "BagTree$Law" "barred" "[Z" ∈ G := inG (inT1 113 rfl) rfl
theorem kw_97 : Cond.fieldLink RX4 9 "BagTree$Net" "loads" "[I" ∈ G := inG (inT1 29 rfl) rfl
theorem kw_98 : Cond.fieldLink RX4 18 "BagTree$Net" "ties" "[I" ∈ G := inG (inT1 36 rfl) rfl
theorem kw_99 : Cond.fieldLink RX4 33 "BagTree$Net" "edges" "I" ∈ G := inG (inT1 45 rfl) rfl
theorem kw_100 : Cond.methodLink RX4 36 yX4_reached ∈ G := inG (inT3 41 rfl) rfl
theorem kw_101 : Cond.instanceMethod yX4_reached ∈ G := inG (inT3 43 rfl) rfl
theorem kw_102 : Cond.selects yX4_reached.cls yX4_reached yX4_reached ∈ G := inG (inS (List.mem_of_getElem? (i := 11) rfl)) rfl
theorem kw_103 : Cond.code yX4_reached cX4_reached 7 (some .int) ∈ G := inG (inT3 44 rfl) rfl
theorem kw_104 : Cond.methodLink RX4 40 yJ6_bitCount_0f7a4 ∈ G := inG (inT3 45 rfl) rfl
theorem kw_105 : Cond.methodLink RX4 46 yJ9_max_7cf53 ∈ G := inG (inT3 46 rfl) rfl
theorem kw_106 : Cond.fieldLink RX5 52 "BagTree$Plan" "size" "I" ∈ G := inG (inT1 174 rfl) rfl
theorem kw_107 : Cond.fieldLink RX5 36 "BagTree$Plan" "bagMates" "[I" ∈ G := inG (inT1 177 rfl) rfl
theorem kw_108 : Cond.methodLink RX5 74 yJ6_bitCount_0f7a4 ∈ G := inG (inT3 165 rfl) rfl
theorem kw_109 : Cond.fieldLink RX5 9 "BagTree$Plan" "knots" "[I" ∈ G := inG (inT1 160 rfl) rfl
theorem kw_110 : Cond.fieldLink RX5 42 "BagTree$Plan" "going" "LBagTree$Going;" ∈ G := inG (inT1 178 rfl) rfl
theorem kw_111 : Cond.fieldLink RX5 79 "BagTree$Going" "near" "[I" ∈ G := inG (inT1 137 rfl) rfl
theorem kw_112 : Cond.fieldLink RX5 18 "BagTree$Plan" "otherCount" "[I" ∈ G := inG (inT1 164 rfl) rfl
theorem kw_113 : Cond.fieldLink RX5 21 "BagTree$Plan" "scopes" "[I" ∈ G := inG (inT1 166 rfl) rfl
theorem kw_114 : Cond.fieldLink RX5 24 "BagTree$Plan" "users" "[I" ∈ G := inG (inT1 168 rfl) rfl
theorem kw_115 : Cond.methodLink RX5 88 yX1_letGo ∈ G := inG (inT3 174 rfl) rfl
theorem kw_116 : Cond.fieldLink RX5 27 "BagTree$Plan" "feeders" "[I" ∈ G := inG (inT1 170 rfl) rfl
theorem kw_117 : Cond.fieldLink RX5 30 "BagTree$Plan" "feederCount" "[I" ∈ G := inG (inT1 172 rfl) rfl
theorem kw_118 : Cond.fieldLink RX5 15 "BagTree$Plan" "others" "[I" ∈ G := inG (inT1 162 rfl) rfl
theorem kw_119 : Cond.fieldLink RX5 33 "BagTree$Plan" "places" "[I" ∈ G := inG (inT1 176 rfl) rfl
theorem kw_120 : Cond.methodLink RX5 82 yJ9_min_7cf53 ∈ G := inG (inT3 171 rfl) rfl
theorem kw_121 : Cond.static yJ9_min_7cf53 ∈ G := inG (inT3 172 rfl) rfl
theorem kw_122 : Cond.code Lib.Math.min.name Lib.Math.min.code 2 (some .int) ∈ G := inG (inT3 173 rfl) rfl
theorem kw_123 : Cond.fieldLink RX5 46 "BagTree$Net" "size" "I" ∈ G := inG (inT1 39 rfl) rfl
theorem kw_124 : Cond.methodLink RX5 62 yX1_start ∈ G := inG (inT3 166 rfl) rfl
theorem kw_125 : Cond.instanceMethod yX1_start ∈ G := inG (inT2 68 rfl) rfl
theorem kw_126 : Cond.selects yX1_start.cls yX1_start yX1_start ∈ G := inG (inT2 69 rfl) rfl
theorem kw_127 : Cond.code yX1_start cX1_start 2 none ∈ G := inG (inT2 70 rfl) rfl
theorem kw_128 : Cond.methodLink RX5 66 yX5_takeStep ∈ G := inG (inT3 167 rfl) rfl
theorem kw_129 : Cond.instanceMethod yX5_takeStep ∈ G := inG (inT3 169 rfl) rfl
theorem kw_130 : Cond.selects yX5_takeStep.cls yX5_takeStep yX5_takeStep ∈ G := inG (inS (List.mem_of_getElem? (i := 15) rfl)) rfl
theorem kw_131 : Cond.initialized RX5 ∈ G := inG (inT1 7 rfl) rfl
theorem kw_132 : Cond.code yX5_takeStep cX5_takeStep 7 none ∈ G := inG (inT3 170 rfl) rfl
theorem kw_133 : Cond.methodLink RX5 59 yX5_mostJoined ∈ G := inG (inT3 160 rfl) rfl
theorem kw_134 : Cond.instanceMethod yX5_mostJoined ∈ G := inG (inT3 162 rfl) rfl
theorem kw_135 : Cond.selects yX5_mostJoined.cls yX5_mostJoined yX5_mostJoined ∈ G := inG (inS (List.mem_of_getElem? (i := 14) rfl)) rfl
theorem kw_136 : Cond.code yX5_mostJoined cX5_mostJoined 6 (some .int) ∈ G := inG (inT3 163 rfl) rfl
theorem kw_137 : Cond.methodLink RX5 53 yX0_matesOf ∈ G := inG (inT3 156 rfl) rfl
theorem kw_138 : Cond.instanceMethod yX0_matesOf ∈ G := inG (inT3 157 rfl) rfl
theorem kw_139 : Cond.selects yX0_matesOf.cls yX0_matesOf yX0_matesOf ∈ G := inG (inT3 158 rfl) rfl
theorem kw_140 : Cond.code yX0_matesOf cX0_matesOf 4 (some .int) ∈ G := inG (inT3 159 rfl) rfl
theorem kw_141 : Cond.fieldLink RX6 22 "BagTree$Search" "stuck" "[J" ∈ G := inG (inT2 139 rfl) rfl
theorem kw_142 : Cond.fieldLink RX7 33 "BagTree$Tally" "net" "LBagTree$Net;" ∈ G := inG (inT3 103 rfl) rfl
theorem kw_143 : Cond.fieldLink RX7 45 "BagTree$Net" "size" "I" ∈ G := inG (inT1 42 rfl) rfl
theorem kw_144 : Cond.fieldLink RX7 9 "BagTree$Tally" "open" "[I" ∈ G := inG (inT3 97 rfl) rfl
theorem kw_145 : Cond.fieldLink RX7 37 "BagTree$Tally" "law" "LBagTree$Law;" ∈ G := inG (inT3 104 rfl) rfl
theorem kw_146 : Cond.methodLink RX7 51 yX3_openFor ∈ G := inG (inT3 179 rfl) rfl
theorem kw_147 : Cond.instanceMethod yX3_openFor ∈ G := inG (inT3 180 rfl) rfl
theorem kw_148 : Cond.selects yX3_openFor.cls yX3_openFor yX3_openFor ∈ G := inG (inT3 181 rfl) rfl
theorem kw_149 : Cond.initialized RX3 ∈ G := inG (inT1 5 rfl) rfl
theorem kw_150 : Cond.code yX3_openFor cX3_openFor 2 (some .int) ∈ G := inG (inT3 182 rfl) rfl
theorem kw_151 : Cond.fieldLink RX7 112 "BagTree$Law" "size" "I" ∈ G := inG (inT1 105 rfl) rfl
theorem kw_152 : Cond.fieldLink RX7 18 "BagTree$Tally" "openCount" "[I" ∈ G := inG (inT3 107 rfl) rfl
theorem kw_153 : Cond.fieldLink RX7 15 "BagTree$Tally" "openStates" "[I" ∈ G := inG (inT3 106 rfl) rfl
theorem kw_154 : Cond.fieldLink RX7 21 "BagTree$Tally" "picks" "[I" ∈ G := inG (inT3 108 rfl) rfl
theorem kw_155 : Cond.methodLink RX7 135 yX7_pickedState ∈ G := inG (inT3 209 rfl) rfl
theorem kw_156 : Cond.instanceMethod yX7_pickedState ∈ G := inG (inT3 211 rfl) rfl
theorem kw_157 : Cond.selects yX7_pickedState.cls yX7_pickedState yX7_pickedState ∈ G := inG (inS (List.mem_of_getElem? (i := 21) rfl)) rfl
theorem kw_158 : Cond.initialized RX7 ∈ G := inG (inT1 14 rfl) rfl
theorem kw_159 : Cond.code yX7_pickedState cX7_pickedState 2 (some .int) ∈ G := inG (inT3 212 rfl) rfl
theorem kw_160 : Cond.fieldLink RX7 138 "BagTree$Net" "near" "[I" ∈ G := inG (inT1 35 rfl) rfl
theorem kw_161 : Cond.fieldLink RX7 141 "BagTree$Net" "loads" "[I" ∈ G := inG (inT1 31 rfl) rfl
theorem kw_162 : Cond.fieldLink RX7 144 "BagTree$Law" "factors" "[I" ∈ G := inG (inT1 108 rfl) rfl
theorem kw_163 : Cond.fieldLink RX7 41 "BagTree$Tally" "plan" "LBagTree$Plan;" ∈ G := inG (inT3 105 rfl) rfl
theorem kw_164 : Cond.fieldLink RX7 96 "BagTree$Plan" "otherCount" "[I" ∈ G := inG (inT1 165 rfl) rfl
theorem kw_165 : Cond.fieldLink RX7 57 "BagTree$Tally" "sign" "I" ∈ G := inG (inT3 112 rfl) rfl
theorem kw_166 : Cond.fieldLink RX7 132 "BagTree$Tally" "pickedSum" "I" ∈ G := inG (inT3 114 rfl) rfl
theorem kw_167 : Cond.fieldLink RX7 113 "BagTree$Plan" "others" "[I" ∈ G := inG (inT1 163 rfl) rfl
theorem kw_168 : Cond.fieldLink RX7 147 "BagTree$Law" "barred" "[Z" ∈ G := inG (inT1 114 rfl) rfl
theorem kw_169 : Cond.fieldLink RX7 151 "BagTree$Net" "ties" "[I" ∈ G := inG (inT1 38 rfl) rfl
theorem kw_170 : Cond.fieldLink RX7 154 "BagTree$Law" "pairFactors" "[I" ∈ G := inG (inT1 111 rfl) rfl
theorem kw_171 : Cond.fieldLink RX7 24 "BagTree$Tally" "strides" "[I" ∈ G := inG (inT3 109 rfl) rfl
theorem kw_172 : Cond.fieldLink RX7 157 "BagTree$Plan" "feederCount" "[I" ∈ G := inG (inT1 173 rfl) rfl
theorem kw_173 : Cond.fieldLink RX7 160 "BagTree$Plan" "feeders" "[I" ∈ G := inG (inT1 171 rfl) rfl
theorem kw_174 : Cond.methodLink RX7 163 yX7_entryOf ∈ G := inG (inT3 217 rfl) rfl
theorem kw_175 : Cond.instanceMethod yX7_entryOf ∈ G := inG (inT3 219 rfl) rfl
theorem kw_176 : Cond.selects yX7_entryOf.cls yX7_entryOf yX7_entryOf ∈ G := inG (inS (List.mem_of_getElem? (i := 23) rfl)) rfl
theorem kw_177 : Cond.code yX7_entryOf cX7_entryOf 4 (some .int) ∈ G := inG (inT3 220 rfl) rfl
theorem kw_178 : Cond.fieldLink RX7 30 "BagTree$Tally" "counts" "[I" ∈ G := inG (inT3 111 rfl) rfl
theorem kw_179 : Cond.fieldLink RX7 27 "BagTree$Tally" "sums" "[I" ∈ G := inG (inT3 110 rfl) rfl
theorem kw_180 : Cond.fieldLink RX7 123 "BagTree$Plan" "knots" "[I" ∈ G := inG (inT1 161 rfl) rfl
theorem kw_181 : Cond.methodLink RX7 126 yX7_addEdges ∈ G := inG (inT3 205 rfl) rfl
theorem kw_182 : Cond.instanceMethod yX7_addEdges ∈ G := inG (inT3 207 rfl) rfl
theorem kw_183 : Cond.selects yX7_addEdges.cls yX7_addEdges yX7_addEdges ∈ G := inG (inS (List.mem_of_getElem? (i := 20) rfl)) rfl
theorem kw_184 : Cond.code yX7_addEdges cX7_addEdges 9 (some .boolean) ∈ G := inG (inT3 208 rfl) rfl
theorem kw_185 : Cond.methodLink RX7 129 yX7_addTables ∈ G := inG (inT3 213 rfl) rfl
theorem kw_186 : Cond.instanceMethod yX7_addTables ∈ G := inG (inT3 215 rfl) rfl
theorem kw_187 : Cond.selects yX7_addTables.cls yX7_addTables yX7_addTables ∈ G := inG (inS (List.mem_of_getElem? (i := 22) rfl)) rfl
theorem kw_188 : Cond.code yX7_addTables cX7_addTables 5 (some .int) ∈ G := inG (inT3 216 rfl) rfl
theorem kw_189 : Cond.methodLink RX7 116 yX7_fillEntry ∈ G := inG (inT3 201 rfl) rfl
theorem kw_190 : Cond.instanceMethod yX7_fillEntry ∈ G := inG (inT3 203 rfl) rfl
theorem kw_191 : Cond.selects yX7_fillEntry.cls yX7_fillEntry yX7_fillEntry ∈ G := inG (inS (List.mem_of_getElem? (i := 19) rfl)) rfl
theorem kw_192 : Cond.code yX7_fillEntry cX7_fillEntry 8 none ∈ G := inG (inT3 204 rfl) rfl
theorem kw_193 : Cond.methodLink RX7 120 yX7_pickNext ∈ G := inG (inT3 221 rfl) rfl
theorem kw_194 : Cond.instanceMethod yX7_pickNext ∈ G := inG (inT3 223 rfl) rfl
theorem kw_195 : Cond.selects yX7_pickNext.cls yX7_pickNext yX7_pickNext ∈ G := inG (inS (List.mem_of_getElem? (i := 24) rfl)) rfl
theorem kw_196 : Cond.code yX7_pickNext cX7_pickNext 4 none ∈ G := inG (inT3 224 rfl) rfl
theorem kw_197 : Cond.fieldLink RX7 78 "BagTree$Tally" "sum" "I" ∈ G := inG (inT3 99 rfl) rfl
theorem kw_198 : Cond.fieldLink RX7 81 "BagTree$Tally" "many" "I" ∈ G := inG (inT3 101 rfl) rfl
theorem kw_199 : Cond.fieldLink RX7 84 "BagTree$Plan" "size" "I" ∈ G := inG (inT1 175 rfl) rfl
theorem kw_200 : Cond.fieldLink RX7 64 "BagTree$Tally" "changed" "I" ∈ G := inG (inT3 113 rfl) rfl
theorem kw_201 : Cond.fieldLink RX7 87 "BagTree$Plan" "scopes" "[I" ∈ G := inG (inT1 167 rfl) rfl
theorem kw_202 : Cond.methodLink RX7 90 yX7_fillTable ∈ G := inG (inT3 197 rfl) rfl
theorem kw_203 : Cond.instanceMethod yX7_fillTable ∈ G := inG (inT3 199 rfl) rfl
theorem kw_204 : Cond.selects yX7_fillTable.cls yX7_fillTable yX7_fillTable ∈ G := inG (inS (List.mem_of_getElem? (i := 18) rfl)) rfl
theorem kw_205 : Cond.code yX7_fillTable cX7_fillTable 5 none ∈ G := inG (inT3 200 rfl) rfl
theorem kw_206 : Cond.fieldLink RX7 93 "BagTree$Plan" "users" "[I" ∈ G := inG (inT1 169 rfl) rfl
theorem kw_207 : Cond.methodLink RX7 74 yX7_listOpenStates ∈ G := inG (inT3 193 rfl) rfl
theorem kw_208 : Cond.instanceMethod yX7_listOpenStates ∈ G := inG (inT3 195 rfl) rfl
theorem kw_209 : Cond.selects yX7_listOpenStates.cls yX7_listOpenStates yX7_listOpenStates ∈ G := inG (inS (List.mem_of_getElem? (i := 17) rfl)) rfl
theorem kw_210 : Cond.code yX7_listOpenStates cX7_listOpenStates 4 none ∈ G := inG (inT3 196 rfl) rfl
theorem kw_211 : Cond.methodLink RX7 60 yX4_everyKnot ∈ G := inG (inT3 187 rfl) rfl
theorem kw_212 : Cond.methodLink RX7 67 yX7_sweepAgain ∈ G := inG (inT3 188 rfl) rfl
theorem kw_213 : Cond.instanceMethod yX7_sweepAgain ∈ G := inG (inT3 190 rfl) rfl
theorem kw_214 : Cond.selects yX7_sweepAgain.cls yX7_sweepAgain yX7_sweepAgain ∈ G := inG (inS (List.mem_of_getElem? (i := 16) rfl)) rfl
theorem kw_215 : Cond.code yX7_sweepAgain cX7_sweepAgain 3 none ∈ G := inG (inT3 191 rfl) rfl
theorem kw_216 : Cond.fieldLink RX7 102 "BagTree$Tally" "aim" "I" ∈ G := inG (inT3 115 rfl) rfl
theorem kw_217 : Cond.fieldLink RX7 105 "BagTree$Tally" "before" "J" ∈ G := inG (inT3 116 rfl) rfl
theorem kw_218 : Cond.methodLink RX7 99 yX7_sweep ∈ G := inG (inT4 4 rfl) rfl
theorem kw_219 : Cond.instanceMethod yX7_sweep ∈ G := inG (inT3 184 rfl) rfl
theorem kw_220 : Cond.selects yX7_sweep.cls yX7_sweep yX7_sweep ∈ G := inG (inT3 185 rfl) rfl
theorem kw_221 : Cond.code yX7_sweep cX7_sweep 2 none ∈ G := inG (inT3 186 rfl) rfl
theorem kw_222 : Cond.methodLink RX7 109 yX7_settle ∈ G := inG (inT4 5 rfl) rfl
theorem kw_223 : Cond.instanceMethod yX7_settle ∈ G := inG (inT4 7 rfl) rfl
theorem kw_224 : Cond.selects yX7_settle.cls yX7_settle yX7_settle ∈ G := inG (inS (List.mem_of_getElem? (i := 25) rfl)) rfl
theorem kw_225 : Cond.code yX7_settle cX7_settle 5 (some .int) ∈ G := inG (inT4 8 rfl) rfl
theorem kw_226 : Cond.methodLink RX8 53 yX8_isWeight ∈ G := inG (inT1 231 rfl) rfl
theorem kw_227 : Cond.static yX8_isWeight ∈ G := inG (inT1 232 rfl) rfl
theorem kw_228 : Cond.code yX8_isWeight cX8_isWeight 1 (some .boolean) ∈ G := inG (inT1 233 rfl) rfl
theorem kw_229 : Cond.fieldLink RX8 12 "BagTree" "net" "LBagTree$Net;" ∈ G := inG (inT1 202 rfl) rfl
theorem kw_230 : Cond.fieldLink RX8 57 "BagTree$Net" "size" "I" ∈ G := inG (inT1 43 rfl) rfl
theorem kw_231 : Cond.fieldLink RX8 21 "BagTree" "order" "LBagTree$KnotRow;" ∈ G := inG (inT1 203 rfl) rfl
theorem kw_232 : Cond.methodLink RX8 61 yX2_empty ∈ G := inG (inT1 234 rfl) rfl
theorem kw_233 : Cond.instanceMethod yX2_empty ∈ G := inG (inT1 235 rfl) rfl
theorem kw_234 : Cond.selects yX2_empty.cls yX2_empty yX2_empty ∈ G := inG (inT1 236 rfl) rfl
theorem kw_235 : Cond.code yX2_empty cX2_empty 1 none ∈ G := inG (inT1 237 rfl) rfl
theorem kw_236 : Cond.fieldLink RX8 28 "BagTree" "bags" "LBagTree$Bags;" ∈ G := inG (inT1 204 rfl) rfl
theorem kw_237 : Cond.methodLink RX8 64 yX0_empty ∈ G := inG (inT1 238 rfl) rfl
theorem kw_238 : Cond.instanceMethod yX0_empty ∈ G := inG (inT1 239 rfl) rfl
theorem kw_239 : Cond.selects yX0_empty.cls yX0_empty yX0_empty ∈ G := inG (inT2 0 rfl) rfl
theorem kw_240 : Cond.code yX0_empty cX0_empty 1 none ∈ G := inG (inT2 1 rfl) rfl
theorem kw_241 : Cond.methodLink RX8 65 yX4_addKnot ∈ G := inG (inT2 2 rfl) rfl
theorem kw_242 : Cond.instanceMethod yX4_addKnot ∈ G := inG (inT2 3 rfl) rfl
theorem kw_243 : Cond.selects yX4_addKnot.cls yX4_addKnot yX4_addKnot ∈ G := inG (inT2 4 rfl) rfl
theorem kw_244 : Cond.code yX4_addKnot cX4_addKnot 2 (some .int) ∈ G := inG (inT2 5 rfl) rfl
theorem kw_245 : Cond.methodLink RX8 69 yX4_has ∈ G := inG (inT2 10 rfl) rfl
theorem kw_246 : Cond.methodLink RX8 72 yX4_join ∈ G := inG (inT2 14 rfl) rfl
theorem kw_247 : Cond.instanceMethod yX4_join ∈ G := inG (inT2 15 rfl) rfl
theorem kw_248 : Cond.selects yX4_join.cls yX4_join yX4_join ∈ G := inG (inT2 16 rfl) rfl
theorem kw_249 : Cond.code yX4_join cX4_join 5 (some .boolean) ∈ G := inG (inT2 17 rfl) rfl
theorem kw_250 : Cond.methodLink RX8 76 yX4_joined ∈ G := inG (inT2 25 rfl) rfl
theorem kw_251 : Cond.methodLink RX8 80 yX4_part ∈ G := inG (inT2 30 rfl) rfl
theorem kw_252 : Cond.instanceMethod yX4_part ∈ G := inG (inT2 31 rfl) rfl
theorem kw_253 : Cond.selects yX4_part.cls yX4_part yX4_part ∈ G := inG (inT2 32 rfl) rfl
theorem kw_254 : Cond.code yX4_part cX4_part 3 (some .int) ∈ G := inG (inT2 33 rfl) rfl
theorem kw_255 : Cond.fieldLink RX8 84 "BagTree$Net" "loads" "[I" ∈ G := inG (inT1 30 rfl) rfl
theorem kw_256 : Cond.fieldLink RX8 88 "BagTree$Net" "ties" "[I" ∈ G := inG (inT1 37 rfl) rfl
theorem kw_257 : Cond.fieldLink RX8 91 "BagTree$Net" "near" "[I" ∈ G := inG (inT1 34 rfl) rfl
theorem kw_258 : Cond.methodLink RX8 94 yX2_holds ∈ G := inG (inT2 50 rfl) rfl
theorem kw_259 : Cond.instanceMethod yX2_holds ∈ G := inG (inT2 51 rfl) rfl
theorem kw_260 : Cond.selects yX2_holds.cls yX2_holds yX2_holds ∈ G := inG (inT2 52 rfl) rfl
theorem kw_261 : Cond.code yX2_holds cX2_holds 2 (some .boolean) ∈ G := inG (inT2 53 rfl) rfl
theorem kw_262 : Cond.methodLink RX8 97 yX2_append ∈ G := inG (inT2 55 rfl) rfl
theorem kw_263 : Cond.instanceMethod yX2_append ∈ G := inG (inT2 56 rfl) rfl
theorem kw_264 : Cond.selects yX2_append.cls yX2_append yX2_append ∈ G := inG (inT2 57 rfl) rfl
theorem kw_265 : Cond.code yX2_append cX2_append 2 none ∈ G := inG (inT2 58 rfl) rfl
theorem kw_266 : Cond.fieldLink RX8 101 "BagTree$KnotRow" "size" "I" ∈ G := inG (inT1 70 rfl) rfl
theorem kw_267 : Cond.fieldLink RX8 42 "BagTree" "going" "LBagTree$Going;" ∈ G := inG (inT1 206 rfl) rfl
theorem kw_268 : Cond.methodLink RX8 102 yX1_start ∈ G := inG (inT2 67 rfl) rfl
theorem kw_269 : Cond.methodLink RX8 106 yX0_takeApart ∈ G := inG (inT2 78 rfl) rfl
theorem kw_270 : Cond.instanceMethod yX0_takeApart ∈ G := inG (inT2 79 rfl) rfl
theorem kw_271 : Cond.selects yX0_takeApart.cls yX0_takeApart yX0_takeApart ∈ G := inG (inT2 80 rfl) rfl
theorem kw_272 : Cond.code yX0_takeApart cX0_takeApart 6 none ∈ G := inG (inT2 81 rfl) rfl
theorem kw_273 : Cond.methodLink RX8 110 yX0_mostKnots ∈ G := inG (inT2 101 rfl) rfl
theorem kw_274 : Cond.instanceMethod yX0_mostKnots ∈ G := inG (inT2 102 rfl) rfl
theorem kw_275 : Cond.selects yX0_mostKnots.cls yX0_mostKnots yX0_mostKnots ∈ G := inG (inT2 103 rfl) rfl
theorem kw_276 : Cond.code yX0_mostKnots cX0_mostKnots 3 (some .int) ∈ G := inG (inT2 104 rfl) rfl
theorem kw_277 : Cond.fieldLink RX8 120 "BagTree$Going" "newEnds" "I" ∈ G := inG (inT1 144 rfl) rfl
theorem kw_278 : Cond.fieldLink RX8 114 "BagTree$KnotRow" "knots" "[I" ∈ G := inG (inT1 67 rfl) rfl
theorem kw_279 : Cond.methodLink RX8 117 yX1_letGo ∈ G := inG (inT2 113 rfl) rfl
theorem kw_280 : Cond.methodLink RX8 123 yX1_loneliest ∈ G := inG (inT2 118 rfl) rfl
theorem kw_281 : Cond.instanceMethod yX1_loneliest ∈ G := inG (inT2 119 rfl) rfl
theorem kw_282 : Cond.selects yX1_loneliest.cls yX1_loneliest yX1_loneliest ∈ G := inG (inT2 120 rfl) rfl
theorem kw_283 : Cond.code yX1_loneliest cX1_loneliest 5 (some .int) ∈ G := inG (inT2 121 rfl) rfl
theorem kw_284 : Cond.fieldLink RX8 126 "BagTree$Going" "near" "[I" ∈ G := inG (inT1 140 rfl) rfl
theorem kw_285 : Cond.methodLink RX8 127 yJ6_bitCount_0f7a4 ∈ G := inG (inT2 122 rfl) rfl
theorem kw_286 : Cond.methodLink RX8 132 yJ9_max_7cf53 ∈ G := inG (inT2 123 rfl) rfl
theorem kw_287 : Cond.methodLink RX8 251 yX1_takeAway ∈ G := inG (inT2 155 rfl) rfl
theorem kw_288 : Cond.methodLink RX8 144 yX8_lowerBound ∈ G := inG (inT2 151 rfl) rfl
theorem kw_289 : Cond.instanceMethod yX8_lowerBound ∈ G := inG (inT2 153 rfl) rfl
theorem kw_290 : Cond.selects yX8_lowerBound.cls yX8_lowerBound yX8_lowerBound ∈ G := inG (inS (List.mem_of_getElem? (i := 0) rfl)) rfl
theorem kw_291 : Cond.code yX8_lowerBound cX8_lowerBound 4 (some .int) ∈ G := inG (inT2 154 rfl) rfl
theorem kw_292 : Cond.fieldLink RX8 151 "BagTree$Bags" "size" "I" ∈ G := inG (inT1 90 rfl) rfl
theorem kw_293 : Cond.methodLink RX8 152 yX4_everyKnot ∈ G := inG (inT2 213 rfl) rfl
theorem kw_294 : Cond.methodLink RX8 155 yX0_append ∈ G := inG (inT2 214 rfl) rfl
theorem kw_295 : Cond.instanceMethod yX0_append ∈ G := inG (inT2 215 rfl) rfl
theorem kw_296 : Cond.selects yX0_append.cls yX0_append yX0_append ∈ G := inG (inT2 216 rfl) rfl
theorem kw_297 : Cond.code yX0_append cX0_append 2 (some .int) ∈ G := inG (inT2 217 rfl) rfl
theorem kw_298 : Cond.methodLink RX8 157 yX0_has ∈ G := inG (inT2 222 rfl) rfl
theorem kw_299 : Cond.fieldLink RX8 158 "BagTree$Bags" "ups" "[I" ∈ G := inG (inT1 88 rfl) rfl
theorem kw_300 : Cond.fieldLink RX8 161 "BagTree$Bags" "masks" "[I" ∈ G := inG (inT1 86 rfl) rfl
theorem kw_301 : Cond.methodLink RX8 164 yX0_hangingOn ∈ G := inG (inT2 230 rfl) rfl
theorem kw_302 : Cond.instanceMethod yX0_hangingOn ∈ G := inG (inT2 231 rfl) rfl
theorem kw_303 : Cond.selects yX0_hangingOn.cls yX0_hangingOn yX0_hangingOn ∈ G := inG (inT2 232 rfl) rfl
theorem kw_304 : Cond.code yX0_hangingOn cX0_hangingOn 4 (some .int) ∈ G := inG (inT2 233 rfl) rfl
theorem kw_305 : Cond.methodLink RX8 167 yX0_fault ∈ G := inG (inT2 238 rfl) rfl
theorem kw_306 : Cond.instanceMethod yX0_fault ∈ G := inG (inT2 239 rfl) rfl
theorem kw_307 : Cond.selects yX0_fault.cls yX0_fault yX0_fault ∈ G := inG (inT3 0 rfl) rfl
theorem kw_308 : Cond.code yX0_fault cX0_fault 3 (some .int) ∈ G := inG (inT3 1 rfl) rfl
theorem kw_309 : Cond.methodLink RX8 171 yX8_isSound ∈ G := inG (inT3 33 rfl) rfl
theorem kw_310 : Cond.instanceMethod yX8_isSound ∈ G := inG (inT3 35 rfl) rfl
theorem kw_311 : Cond.selects yX8_isSound.cls yX8_isSound yX8_isSound ∈ G := inG (inS (List.mem_of_getElem? (i := 10) rfl)) rfl
theorem kw_312 : Cond.code yX8_isSound cX8_isSound 1 (some .boolean) ∈ G := inG (inT3 36 rfl) rfl
theorem kw_313 : Cond.methodLink RX8 175 yX4_largestPart ∈ G := inG (inT3 37 rfl) rfl
theorem kw_314 : Cond.instanceMethod yX4_largestPart ∈ G := inG (inT3 38 rfl) rfl
theorem kw_315 : Cond.selects yX4_largestPart.cls yX4_largestPart yX4_largestPart ∈ G := inG (inT3 39 rfl) rfl
theorem kw_316 : Cond.code yX4_largestPart cX4_largestPart 6 (some .int) ∈ G := inG (inT3 40 rfl) rfl
theorem kw_317 : Cond.fieldLink RX8 35 "BagTree" "law" "LBagTree$Law;" ∈ G := inG (inT1 205 rfl) rfl
theorem kw_318 : Cond.fieldLink RX8 178 "BagTree$Law" "size" "I" ∈ G := inG (inT1 106 rfl) rfl
theorem kw_319 : Cond.methodLink RX8 179 yX3_startAgain ∈ G := inG (inT3 51 rfl) rfl
theorem kw_320 : Cond.instanceMethod yX3_startAgain ∈ G := inG (inT3 52 rfl) rfl
theorem kw_321 : Cond.selects yX3_startAgain.cls yX3_startAgain yX3_startAgain ∈ G := inG (inT3 53 rfl) rfl
theorem kw_322 : Cond.code yX3_startAgain cX3_startAgain 3 none ∈ G := inG (inT3 54 rfl) rfl
theorem kw_323 : Cond.methodLink RX8 182 yX3_has ∈ G := inG (inT3 59 rfl) rfl
theorem kw_324 : Cond.instanceMethod yX3_has ∈ G := inG (inT3 60 rfl) rfl
theorem kw_325 : Cond.selects yX3_has.cls yX3_has yX3_has ∈ G := inG (inT3 61 rfl) rfl
theorem kw_326 : Cond.code yX3_has cX3_has 2 (some .boolean) ∈ G := inG (inT3 62 rfl) rfl
theorem kw_327 : Cond.methodLink RX8 183 yX8_isFactor ∈ G := inG (inT3 63 rfl) rfl
theorem kw_328 : Cond.static yX8_isFactor ∈ G := inG (inT3 64 rfl) rfl
theorem kw_329 : Cond.code yX8_isFactor cX8_isFactor 1 (some .boolean) ∈ G := inG (inT3 65 rfl) rfl
theorem kw_330 : Cond.fieldLink RX8 186 "BagTree$Law" "factors" "[I" ∈ G := inG (inT1 109 rfl) rfl
theorem kw_331 : Cond.fieldLink RX8 189 "BagTree$Law" "barred" "[Z" ∈ G := inG (inT1 115 rfl) rfl
theorem kw_332 : Cond.fieldLink RX8 193 "BagTree$Law" "pairFactors" "[I" ∈ G := inG (inT1 112 rfl) rfl
theorem kw_333 : Cond.methodLink RX8 196 yX3_setPair ∈ G := inG (inT3 70 rfl) rfl
theorem kw_334 : Cond.instanceMethod yX3_setPair ∈ G := inG (inT3 71 rfl) rfl
theorem kw_335 : Cond.selects yX3_setPair.cls yX3_setPair yX3_setPair ∈ G := inG (inT3 72 rfl) rfl
theorem kw_336 : Cond.code yX3_setPair cX3_setPair 5 none ∈ G := inG (inT3 73 rfl) rfl
theorem kw_337 : Cond.fieldLink RX8 200 "BagTree$Law" "forbidden" "[I" ∈ G := inG (inT1 117 rfl) rfl
theorem kw_338 : Cond.fieldLink RX8 234 "BagTree$Net" "edges" "I" ∈ G := inG (inT1 46 rfl) rfl
theorem kw_339 : Cond.fieldLink RX9 7 "BagTreeModel" "knots" "I" ∈ G := inG (inT4 27 rfl) rfl
theorem kw_340 : Cond.methodLink RX9 83 yX9_isWeight ∈ G := inG (inT4 101 rfl) rfl
theorem kw_341 : Cond.instanceMethod yX9_isWeight ∈ G := inG (inT4 103 rfl) rfl
theorem kw_342 : Cond.selects yX9_isWeight.cls yX9_isWeight yX9_isWeight ∈ G := inG (inS (List.mem_of_getElem? (i := 26) rfl)) rfl
theorem kw_343 : Cond.initialized RX9 ∈ G := inG (inT1 8 rfl) rfl
theorem kw_344 : Cond.code yX9_isWeight cX9_isWeight 2 (some .boolean) ∈ G := inG (inT4 104 rfl) rfl
theorem kw_345 : Cond.fieldLink RX9 13 "BagTreeModel" "weight" "[I" ∈ G := inG (inT4 28 rfl) rfl
theorem kw_346 : Cond.fieldLink RX9 17 "BagTreeModel" "beside" "[I" ∈ G := inG (inT4 29 rfl) rfl
theorem kw_347 : Cond.fieldLink RX9 23 "BagTreeModel" "rowed" "I" ∈ G := inG (inT4 31 rfl) rfl
theorem kw_348 : Cond.fieldLink RX9 29 "BagTreeModel" "bags" "I" ∈ G := inG (inT4 33 rfl) rfl
theorem kw_349 : Cond.methodLink RX9 87 yX9_isKnot ∈ G := inG (inT4 109 rfl) rfl
theorem kw_350 : Cond.instanceMethod yX9_isKnot ∈ G := inG (inT4 111 rfl) rfl
theorem kw_351 : Cond.selects yX9_isKnot.cls yX9_isKnot yX9_isKnot ∈ G := inG (inS (List.mem_of_getElem? (i := 27) rfl)) rfl
theorem kw_352 : Cond.code yX9_isKnot cX9_isKnot 2 (some .boolean) ∈ G := inG (inT4 112 rfl) rfl
theorem kw_353 : Cond.fieldLink RX9 20 "BagTreeModel" "edge" "[I" ∈ G := inG (inT4 30 rfl) rfl
theorem kw_354 : Cond.methodLink RX9 90 yX9_isEdge ∈ G := inG (inT4 117 rfl) rfl
theorem kw_355 : Cond.instanceMethod yX9_isEdge ∈ G := inG (inT4 119 rfl) rfl
theorem kw_356 : Cond.selects yX9_isEdge.cls yX9_isEdge yX9_isEdge ∈ G := inG (inS (List.mem_of_getElem? (i := 28) rfl)) rfl
theorem kw_357 : Cond.code yX9_isEdge cX9_isEdge 3 (some .boolean) ∈ G := inG (inT4 120 rfl) rfl
theorem kw_358 : Cond.fieldLink RX9 26 "BagTreeModel" "row" "[I" ∈ G := inG (inT4 32 rfl) rfl
theorem kw_359 : Cond.methodLink RX9 94 yX9_rowMask ∈ G := inG (inT4 137 rfl) rfl
theorem kw_360 : Cond.instanceMethod yX9_rowMask ∈ G := inG (inT4 139 rfl) rfl
theorem kw_361 : Cond.selects yX9_rowMask.cls yX9_rowMask yX9_rowMask ∈ G := inG (inS (List.mem_of_getElem? (i := 29) rfl)) rfl
theorem kw_362 : Cond.code yX9_rowMask cX9_rowMask 3 (some .int) ∈ G := inG (inT4 140 rfl) rfl
theorem kw_363 : Cond.methodLink RX9 98 yX9_around ∈ G := inG (inT4 157 rfl) rfl
theorem kw_364 : Cond.instanceMethod yX9_around ∈ G := inG (inT4 159 rfl) rfl
theorem kw_365 : Cond.selects yX9_around.cls yX9_around yX9_around ∈ G := inG (inS (List.mem_of_getElem? (i := 31) rfl)) rfl
theorem kw_366 : Cond.code yX9_around cX9_around 7 (some .int) ∈ G := inG (inT4 160 rfl) rfl
theorem kw_367 : Cond.methodLink RX9 102 yX9_bits ∈ G := inG (inT4 165 rfl) rfl
theorem kw_368 : Cond.instanceMethod yX9_bits ∈ G := inG (inT4 167 rfl) rfl
theorem kw_369 : Cond.selects yX9_bits.cls yX9_bits yX9_bits ∈ G := inG (inS (List.mem_of_getElem? (i := 32) rfl)) rfl
theorem kw_370 : Cond.code yX9_bits cX9_bits 4 (some .int) ∈ G := inG (inT4 168 rfl) rfl
theorem kw_371 : Cond.fieldLink RX9 32 "BagTreeModel" "bag" "[I" ∈ G := inG (inT4 34 rfl) rfl
theorem kw_372 : Cond.methodLink RX9 106 yX9_isOrder ∈ G := inG (inT4 153 rfl) rfl
theorem kw_373 : Cond.instanceMethod yX9_isOrder ∈ G := inG (inT4 155 rfl) rfl
theorem kw_374 : Cond.selects yX9_isOrder.cls yX9_isOrder yX9_isOrder ∈ G := inG (inS (List.mem_of_getElem? (i := 30) rfl)) rfl
theorem kw_375 : Cond.code yX9_isOrder cX9_isOrder 1 (some .boolean) ∈ G := inG (inT4 156 rfl) rfl
theorem kw_376 : Cond.methodLink RX9 110 yX9_width ∈ G := inG (inT4 161 rfl) rfl
theorem kw_377 : Cond.instanceMethod yX9_width ∈ G := inG (inT4 162 rfl) rfl
theorem kw_378 : Cond.selects yX9_width.cls yX9_width yX9_width ∈ G := inG (inT4 163 rfl) rfl
theorem kw_379 : Cond.code yX9_width cX9_width 3 (some .int) ∈ G := inG (inT4 164 rfl) rfl
theorem kw_380 : Cond.fieldLink RX9 35 "BagTreeModel" "up" "[I" ∈ G := inG (inT4 35 rfl) rfl
theorem kw_381 : Cond.methodLink RX9 113 yX9_rowWidth ∈ G := inG (inT4 177 rfl) rfl
theorem kw_382 : Cond.instanceMethod yX9_rowWidth ∈ G := inG (inT4 179 rfl) rfl
theorem kw_383 : Cond.selects yX9_rowWidth.cls yX9_rowWidth yX9_rowWidth ∈ G := inG (inS (List.mem_of_getElem? (i := 33) rfl)) rfl
theorem kw_384 : Cond.code yX9_rowWidth cX9_rowWidth 5 (some .int) ∈ G := inG (inT4 180 rfl) rfl
theorem kw_385 : Cond.methodLink RX9 116 yX9_all ∈ G := inG (inT4 185 rfl) rfl
theorem kw_386 : Cond.instanceMethod yX9_all ∈ G := inG (inT4 187 rfl) rfl
theorem kw_387 : Cond.selects yX9_all.cls yX9_all yX9_all ∈ G := inG (inS (List.mem_of_getElem? (i := 34) rfl)) rfl
theorem kw_388 : Cond.code yX9_all cX9_all 1 (some .int) ∈ G := inG (inT4 188 rfl) rfl
theorem kw_389 : Cond.fieldLink RX9 38 "BagTreeModel" "least" "[I" ∈ G := inG (inT4 36 rfl) rfl
theorem kw_390 : Cond.methodLink RX9 119 yX9_inOne ∈ G := inG (inT4 213 rfl) rfl
theorem kw_391 : Cond.instanceMethod yX9_inOne ∈ G := inG (inT4 215 rfl) rfl
theorem kw_392 : Cond.selects yX9_inOne.cls yX9_inOne yX9_inOne ∈ G := inG (inS (List.mem_of_getElem? (i := 35) rfl)) rfl
theorem kw_393 : Cond.code yX9_inOne cX9_inOne 3 (some .boolean) ∈ G := inG (inT4 216 rfl) rfl
theorem kw_394 : Cond.methodLink RX9 122 yX9_sound ∈ G := inG (inT4 222 rfl) rfl
theorem kw_395 : Cond.instanceMethod yX9_sound ∈ G := inG (inT4 210 rfl) rfl
theorem kw_396 : Cond.selects yX9_sound.cls yX9_sound yX9_sound ∈ G := inG (inT4 211 rfl) rfl
theorem kw_397 : Cond.code yX9_sound cX9_sound 4 (some .int) ∈ G := inG (inT4 212 rfl) rfl
theorem kw_398 : Cond.fieldLink RX9 41 "BagTreeModel" "q" "I" ∈ G := inG (inT4 37 rfl) rfl
theorem kw_399 : Cond.fieldLink RX9 50 "BagTreeModel" "forbidden" "[I" ∈ G := inG (inT4 40 rfl) rfl
theorem kw_400 : Cond.fieldLink RX9 47 "BagTreeModel" "pairFactor" "[I" ∈ G := inG (inT4 39 rfl) rfl
theorem kw_401 : Cond.fieldLink RX9 53 "BagTreeModel" "mayNot" "[Z" ∈ G := inG (inT4 41 rfl) rfl
theorem kw_402 : Cond.fieldLink RX9 44 "BagTreeModel" "factor" "[I" ∈ G := inG (inT4 38 rfl) rfl
theorem kw_403 : Cond.methodLink RX9 125 yX9_isState ∈ G := inG (inT4 231 rfl) rfl
theorem kw_404 : Cond.instanceMethod yX9_isState ∈ G := inG (inT4 233 rfl) rfl
theorem kw_405 : Cond.selects yX9_isState.cls yX9_isState yX9_isState ∈ G := inG (inS (List.mem_of_getElem? (i := 36) rfl)) rfl
theorem kw_406 : Cond.code yX9_isState cX9_isState 2 (some .boolean) ∈ G := inG (inT4 234 rfl) rfl
theorem kw_407 : Cond.methodLink RX9 128 yX9_isFactor ∈ G := inG (inT4 235 rfl) rfl
theorem kw_408 : Cond.instanceMethod yX9_isFactor ∈ G := inG (inT4 237 rfl) rfl
theorem kw_409 : Cond.selects yX9_isFactor.cls yX9_isFactor yX9_isFactor ∈ G := inG (inS (List.mem_of_getElem? (i := 37) rfl)) rfl
theorem kw_410 : Cond.code yX9_isFactor cX9_isFactor 2 (some .boolean) ∈ G := inG (inT4 238 rfl) rfl
theorem kw_411 : Cond.fieldLink RX9 57 "BagTreeModel" "fixed" "[I" ∈ G := inG (inT4 42 rfl) rfl
theorem kw_412 : Cond.fieldLink RX9 60 "BagTreeModel" "state" "[I" ∈ G := inG (inT4 43 rfl) rfl
theorem kw_413 : Cond.methodLink RX9 131 yX9_mayBe ∈ G := inG (inT5 28 rfl) rfl
theorem kw_414 : Cond.instanceMethod yX9_mayBe ∈ G := inG (inT5 30 rfl) rfl
theorem kw_415 : Cond.selects yX9_mayBe.cls yX9_mayBe yX9_mayBe ∈ G := inG (inS (List.mem_of_getElem? (i := 42) rfl)) rfl
theorem kw_416 : Cond.code yX9_mayBe cX9_mayBe 3 (some .boolean) ∈ G := inG (inT5 31 rfl) rfl
theorem kw_417 : Cond.methodLink RX9 134 yX9_isFirst ∈ G := inG (inT5 36 rfl) rfl
theorem kw_418 : Cond.instanceMethod yX9_isFirst ∈ G := inG (inT5 38 rfl) rfl
theorem kw_419 : Cond.selects yX9_isFirst.cls yX9_isFirst yX9_isFirst ∈ G := inG (inS (List.mem_of_getElem? (i := 44) rfl)) rfl
theorem kw_420 : Cond.code yX9_isFirst cX9_isFirst 4 (some .boolean) ∈ G := inG (inT5 39 rfl) rfl
theorem kw_421 : Cond.fieldLink RX9 63 "BagTreeModel" "count" "[J" ∈ G := inG (inT4 44 rfl) rfl
theorem kw_422 : Cond.fieldLink RX9 67 "BagTreeModel" "best" "[J" ∈ G := inG (inT4 45 rfl) rfl
theorem kw_423 : Cond.fieldLink RX9 70 "BagTreeModel" "bests" "[J" ∈ G := inG (inT4 46 rfl) rfl
theorem kw_424 : Cond.fieldLink RX9 73 "BagTreeModel" "allCount" "J" ∈ G := inG (inT4 47 rfl) rfl
theorem kw_425 : Cond.fieldLink RX9 77 "BagTreeModel" "allBest" "J" ∈ G := inG (inT4 48 rfl) rfl
theorem kw_426 : Cond.fieldLink RX9 80 "BagTreeModel" "allBests" "J" ∈ G := inG (inT4 49 rfl) rfl
theorem kw_427 : Cond.methodLink RX9 137 yX9_take ∈ G := inG (inT5 24 rfl) rfl
theorem kw_428 : Cond.instanceMethod yX9_take ∈ G := inG (inT5 26 rfl) rfl
theorem kw_429 : Cond.selects yX9_take.cls yX9_take yX9_take ∈ G := inG (inS (List.mem_of_getElem? (i := 41) rfl)) rfl
theorem kw_430 : Cond.code yX9_take cX9_take 7 (some .boolean) ∈ G := inG (inT5 27 rfl) rfl
theorem kw_431 : Cond.methodLink RX9 140 yX9_own ∈ G := inG (inT5 32 rfl) rfl
theorem kw_432 : Cond.instanceMethod yX9_own ∈ G := inG (inT5 34 rfl) rfl
theorem kw_433 : Cond.selects yX9_own.cls yX9_own yX9_own ∈ G := inG (inS (List.mem_of_getElem? (i := 43) rfl)) rfl
theorem kw_434 : Cond.code yX9_own cX9_own 6 (some .long) ∈ G := inG (inT5 35 rfl) rfl
theorem kw_435 : Cond.methodLink RX9 144 yX9_code ∈ G := inG (inT5 40 rfl) rfl
theorem kw_436 : Cond.instanceMethod yX9_code ∈ G := inG (inT5 42 rfl) rfl
theorem kw_437 : Cond.selects yX9_code.cls yX9_code yX9_code ∈ G := inG (inS (List.mem_of_getElem? (i := 45) rfl)) rfl
theorem kw_438 : Cond.code yX9_code cX9_code 4 (some .int) ∈ G := inG (inT5 43 rfl) rfl
theorem kw_439 : Cond.methodLink RX9 147 yX9_put_ ∈ G := inG (inT5 44 rfl) rfl
theorem kw_440 : Cond.instanceMethod yX9_put_ ∈ G := inG (inT5 46 rfl) rfl
theorem kw_441 : Cond.selects yX9_put_.cls yX9_put_ yX9_put_ ∈ G := inG (inS (List.mem_of_getElem? (i := 46) rfl)) rfl
theorem kw_442 : Cond.code yX9_put_ cX9_put_ 10 none ∈ G := inG (inT5 47 rfl) rfl
theorem kw_443 : Cond.methodLink RX9 151 yX9_isAsked ∈ G := inG (inT5 11 rfl) rfl
theorem kw_444 : Cond.instanceMethod yX9_isAsked ∈ G := inG (inT5 13 rfl) rfl
theorem kw_445 : Cond.selects yX9_isAsked.cls yX9_isAsked yX9_isAsked ∈ G := inG (inS (List.mem_of_getElem? (i := 38) rfl)) rfl
theorem kw_446 : Cond.code yX9_isAsked cX9_isAsked 1 (some .boolean) ∈ G := inG (inT5 14 rfl) rfl
theorem kw_447 : Cond.methodLink RX9 156 yX9_free ∈ G := inG (inT5 16 rfl) rfl
theorem kw_448 : Cond.instanceMethod yX9_free ∈ G := inG (inT5 18 rfl) rfl
theorem kw_449 : Cond.selects yX9_free.cls yX9_free yX9_free ∈ G := inG (inS (List.mem_of_getElem? (i := 39) rfl)) rfl
theorem kw_450 : Cond.code yX9_free cX9_free 2 none ∈ G := inG (inT5 19 rfl) rfl
theorem kw_451 : Cond.methodLink RX9 159 yX9_ask ∈ G := inG (inT5 20 rfl) rfl
theorem kw_452 : Cond.instanceMethod yX9_ask ∈ G := inG (inT5 22 rfl) rfl
theorem kw_453 : Cond.selects yX9_ask.cls yX9_ask yX9_ask ∈ G := inG (inS (List.mem_of_getElem? (i := 40) rfl)) rfl
theorem kw_454 : Cond.code yX9_ask cX9_ask 14 none ∈ G := inG (inT5 23 rfl) rfl
theorem kw_455 : Cond.constantLong RX9 154 (-9223372036854775808) ∈ G := inG (inT5 15 rfl) rfl
theorem kw_456 : Cond.fieldLink RX6 66 "BagTree$Going" "left" "I" ∈ G := inG (inT1 142 rfl) rfl
theorem kw_457 : Cond.fieldLink RX6 73 "BagTree$Going" "near" "[I" ∈ G := inG (inT1 138 rfl) rfl
theorem kw_458 : Cond.methodLink RX6 77 yJ6_bitCount_0f7a4 ∈ G := inG (inT2 182 rfl) rfl
theorem kw_459 : Cond.fieldLink RX6 53 "BagTree$Search" "limit" "I" ∈ G := inG (inT2 140 rfl) rfl
theorem kw_460 : Cond.fieldLink RX6 18 "BagTree$Search" "levels" "[LBagTree$Going;" ∈ G := inG (inT2 138 rfl) rfl
theorem kw_461 : Cond.methodLink RX6 83 yX1_startAs ∈ G := inG (inT2 192 rfl) rfl
theorem kw_462 : Cond.instanceMethod yX1_startAs ∈ G := inG (inT2 193 rfl) rfl
theorem kw_463 : Cond.selects yX1_startAs.cls yX1_startAs yX1_startAs ∈ G := inG (inT2 194 rfl) rfl
theorem kw_464 : Cond.code yX1_startAs cX1_startAs 2 none ∈ G := inG (inT2 195 rfl) rfl
theorem kw_465 : Cond.methodLink RX6 50 yX1_letGo ∈ G := inG (inT2 181 rfl) rfl
theorem kw_466 : Cond.methodLink RX6 62 yX6_fits ∈ G := inG (inT2 168 rfl) rfl
theorem kw_467 : Cond.instanceMethod yX6_fits ∈ G := inG (inT2 170 rfl) rfl
theorem kw_468 : Cond.selects yX6_fits.cls yX6_fits yX6_fits ∈ G := inG (inS (List.mem_of_getElem? (i := 2) rfl)) rfl
theorem kw_469 : Cond.initialized RX6 ∈ G := inG (inT1 12 rfl) rfl
theorem kw_470 : Cond.code yX6_fits cX6_fits 5 (some .boolean) ∈ G := inG (inT2 171 rfl) rfl
theorem kw_471 : Cond.methodLink RX6 90 yX6_isStuck ∈ G := inG (inT2 183 rfl) rfl
theorem kw_472 : Cond.instanceMethod yX6_isStuck ∈ G := inG (inT2 185 rfl) rfl
theorem kw_473 : Cond.selects yX6_isStuck.cls yX6_isStuck yX6_isStuck ∈ G := inG (inS (List.mem_of_getElem? (i := 4) rfl)) rfl
theorem kw_474 : Cond.code yX6_isStuck cX6_isStuck 2 (some .boolean) ∈ G := inG (inT2 186 rfl) rfl
theorem kw_475 : Cond.methodLink RX6 40 yX6_fitsBehind ∈ G := inG (inT2 187 rfl) rfl
theorem kw_476 : Cond.instanceMethod yX6_fitsBehind ∈ G := inG (inT2 189 rfl) rfl
theorem kw_477 : Cond.selects yX6_fitsBehind.cls yX6_fitsBehind yX6_fitsBehind ∈ G := inG (inS (List.mem_of_getElem? (i := 5) rfl)) rfl
theorem kw_478 : Cond.code yX6_fitsBehind cX6_fitsBehind 4 (some .boolean) ∈ G := inG (inT2 190 rfl) rfl
theorem kw_479 : Cond.methodLink RX6 87 yX1_harmless ∈ G := inG (inT2 172 rfl) rfl
theorem kw_480 : Cond.instanceMethod yX1_harmless ∈ G := inG (inT2 173 rfl) rfl
theorem kw_481 : Cond.selects yX1_harmless.cls yX1_harmless yX1_harmless ∈ G := inG (inT2 174 rfl) rfl
theorem kw_482 : Cond.code yX1_harmless cX1_harmless 3 (some .int) ∈ G := inG (inT2 175 rfl) rfl
theorem kw_483 : Cond.methodLink RX6 56 yJ7_fill_d0a16 ∈ G := inG (inT2 164 rfl) rfl
theorem kw_484 : Cond.static yJ7_fill_d0a16 ∈ G := inG (inT2 165 rfl) rfl
theorem kw_485 : Cond.initialized RJ7 ∈ G := inG (inT1 13 rfl) rfl
theorem kw_486 : Cond.code yJ7_fill_d0a16 cJ7_fill_d0a16 5 none ∈ G := inG (inT2 166 rfl) rfl
theorem kw_487 : Cond.methodLink RX6 36 yX1_start ∈ G := inG (inT2 167 rfl) rfl
theorem kw_488 : Cond.fieldLink RX6 26 "BagTree$Net" "size" "I" ∈ G := inG (inT1 41 rfl) rfl
theorem kw_489 : Cond.fieldLink RX6 12 "BagTree$Search" "rest" "LBagTree$Going;" ∈ G := inG (inT2 137 rfl) rfl
theorem kw_490 : Cond.methodLink RX6 44 yX2_append ∈ G := inG (inT2 196 rfl) rfl
theorem kw_491 : Cond.methodLink RX6 32 yX6_netFits ∈ G := inG (inT2 160 rfl) rfl
theorem kw_492 : Cond.instanceMethod yX6_netFits ∈ G := inG (inT2 162 rfl) rfl
theorem kw_493 : Cond.selects yX6_netFits.cls yX6_netFits yX6_netFits ∈ G := inG (inS (List.mem_of_getElem? (i := 1) rfl)) rfl
theorem kw_494 : Cond.code yX6_netFits cX6_netFits 3 (some .boolean) ∈ G := inG (inT2 163 rfl) rfl
theorem kw_495 : Cond.methodLink RX0 3 objectInit ∈ G := inG (inT1 84 rfl) rfl
theorem kw_496 : Cond.instanceMethod objectInit ∈ G := inG (inT1 21 rfl) rfl
theorem kw_497 : Cond.code objectInit ⟨#[0xb1]⟩ 1 none ∈ G := inG (inT1 22 rfl) rfl
theorem kw_498 : Cond.arrayClass .int ∈ G := inG (inT1 58 rfl) rfl
theorem kw_499 : Cond.methodLink RX1 3 objectInit ∈ G := inG (inT1 135 rfl) rfl
theorem kw_500 : Cond.methodLink RX2 3 objectInit ∈ G := inG (inT1 64 rfl) rfl
theorem kw_501 : Cond.methodLink RX3 3 objectInit ∈ G := inG (inT1 103 rfl) rfl
theorem kw_502 : Cond.arrayClass .boolean ∈ G := inG (inT1 129 rfl) rfl
theorem kw_503 : Cond.methodLink RX4 3 objectInit ∈ G := inG (inT1 28 rfl) rfl
theorem kw_504 : Cond.methodLink RX5 3 objectInit ∈ G := inG (inT1 157 rfl) rfl
theorem kw_505 : Cond.classLink RX5 39 RX1 ∈ G := inG (inT1 158 rfl) rfl
theorem kw_506 : Cond.instantiable RX1 3 ∈ G := inG (inT1 131 rfl) rfl
theorem kw_507 : Cond.instanceMethod yX1_init ∈ G := inG (inT1 133 rfl) rfl
theorem kw_508 : Cond.code yX1_init cX1_init 1 none ∈ G := inG (inT1 134 rfl) rfl
theorem kw_509 : Cond.methodLink RX7 3 objectInit ∈ G := inG (inT3 96 rfl) rfl
theorem kw_510 : Cond.methodLink RX8 3 objectInit ∈ G := inG (inT1 20 rfl) rfl
theorem kw_511 : Cond.classLink RX8 9 RX4 ∈ G := inG (inT1 23 rfl) rfl
theorem kw_512 : Cond.instantiable RX4 5 ∈ G := inG (inT1 24 rfl) rfl
theorem kw_513 : Cond.instanceMethod yX4_init ∈ G := inG (inT1 26 rfl) rfl
theorem kw_514 : Cond.code yX4_init cX4_init 1 none ∈ G := inG (inT1 27 rfl) rfl
theorem kw_515 : Cond.classLink RX8 18 RX2 ∈ G := inG (inT1 59 rfl) rfl
theorem kw_516 : Cond.instantiable RX2 3 ∈ G := inG (inT1 60 rfl) rfl
theorem kw_517 : Cond.instanceMethod yX2_init ∈ G := inG (inT1 62 rfl) rfl
theorem kw_518 : Cond.code yX2_init cX2_init 1 none ∈ G := inG (inT1 63 rfl) rfl
theorem kw_519 : Cond.classLink RX8 25 RX0 ∈ G := inG (inT1 79 rfl) rfl
theorem kw_520 : Cond.instantiable RX0 3 ∈ G := inG (inT1 80 rfl) rfl
theorem kw_521 : Cond.instanceMethod yX0_init ∈ G := inG (inT1 82 rfl) rfl
theorem kw_522 : Cond.code yX0_init cX0_init 1 none ∈ G := inG (inT1 83 rfl) rfl
theorem kw_523 : Cond.classLink RX8 32 RX3 ∈ G := inG (inT1 98 rfl) rfl
theorem kw_524 : Cond.instantiable RX3 5 ∈ G := inG (inT1 99 rfl) rfl
theorem kw_525 : Cond.instanceMethod yX3_init ∈ G := inG (inT1 101 rfl) rfl
theorem kw_526 : Cond.code yX3_init cX3_init 1 none ∈ G := inG (inT1 102 rfl) rfl
theorem kw_527 : Cond.classLink RX8 39 RX1 ∈ G := inG (inT1 130 rfl) rfl
theorem kw_528 : Cond.classLink RX8 46 RX5 ∈ G := inG (inT1 152 rfl) rfl
theorem kw_529 : Cond.instantiable RX5 11 ∈ G := inG (inT1 153 rfl) rfl
theorem kw_530 : Cond.instanceMethod yX5_init ∈ G := inG (inT1 155 rfl) rfl
theorem kw_531 : Cond.code yX5_init cX5_init 1 none ∈ G := inG (inT1 156 rfl) rfl
theorem kw_532 : Cond.fieldLink RX8 49 "BagTree" "plan" "LBagTree$Plan;" ∈ G := inG (inT1 207 rfl) rfl
theorem kw_533 : Cond.methodLink RX9 1 objectInit ∈ G := inG (inT4 26 rfl) rfl
theorem kw_534 : Cond.arrayClass .long ∈ G := inG (inT2 150 rfl) rfl
theorem ok_J6_bitCount_0f7a4 : okY yJ6_bitCount_0f7a4 1 := by decide +kernel
theorem ok_J7_fill_d0a16 : okY yJ7_fill_d0a16 2 := by decide +kernel
theorem ok_X0_append : okY yX0_append 1 := by decide +kernel
theorem ok_X0_empty : okY yX0_empty 0 := by decide +kernel
theorem ok_X0_endingIn : okY yX0_endingIn 1 := by decide +kernel
theorem ok_X0_fault : okY yX0_fault 1 := by decide +kernel
theorem ok_X0_hangingOn : okY yX0_hangingOn 1 := by decide +kernel
theorem ok_X0_has : okY yX0_has 1 := by decide +kernel
theorem ok_X0_holdTogether : okY yX0_holdTogether 1 := by decide +kernel
theorem ok_X0_init : okY yX0_init 0 := by decide +kernel
theorem ok_X0_looseEdge : okY yX0_looseEdge 1 := by decide +kernel
theorem ok_X0_matesOf : okY yX0_matesOf 1 := by decide +kernel
theorem ok_X0_missingKnot : okY yX0_missingKnot 1 := by decide +kernel
theorem ok_X0_mostKnots : okY yX0_mostKnots 0 := by decide +kernel
theorem ok_X0_scatteredKnot : okY yX0_scatteredKnot 1 := by decide +kernel
theorem ok_X0_takeApart : okY yX0_takeApart 2 := by decide +kernel
theorem ok_X1_harmless : okY yX1_harmless 1 := by decide +kernel
theorem ok_X1_init : okY yX1_init 0 := by decide +kernel
theorem ok_X1_isNearlyJoined : okY yX1_isNearlyJoined 1 := by decide +kernel
theorem ok_X1_letGo : okY yX1_letGo 1 := by decide +kernel
theorem ok_X1_loneliest : okY yX1_loneliest 0 := by decide +kernel
theorem ok_X1_start : okY yX1_start 1 := by decide +kernel
theorem ok_X1_startAs : okY yX1_startAs 1 := by decide +kernel
theorem ok_X1_takeAway : okY yX1_takeAway 1 := by decide +kernel
theorem ok_X2_append : okY yX2_append 1 := by decide +kernel
theorem ok_X2_empty : okY yX2_empty 0 := by decide +kernel
theorem ok_X2_holds : okY yX2_holds 1 := by decide +kernel
theorem ok_X2_init : okY yX2_init 0 := by decide +kernel
theorem ok_X2_nextPlace : okY yX2_nextPlace 2 := by decide +kernel
theorem ok_X3_has : okY yX3_has 1 := by decide +kernel
theorem ok_X3_init : okY yX3_init 0 := by decide +kernel
theorem ok_X3_openFor : okY yX3_openFor 1 := by decide +kernel
theorem ok_X3_setPair : okY yX3_setPair 4 := by decide +kernel
theorem ok_X3_startAgain : okY yX3_startAgain 1 := by decide +kernel
theorem ok_X4_addKnot : okY yX4_addKnot 1 := by decide +kernel
theorem ok_X4_everyKnot : okY yX4_everyKnot 0 := by decide +kernel
theorem ok_X4_has : okY yX4_has 1 := by decide +kernel
theorem ok_X4_init : okY yX4_init 0 := by decide +kernel
theorem ok_X4_join : okY yX4_join 3 := by decide +kernel
theorem ok_X4_joined : okY yX4_joined 2 := by decide +kernel
theorem ok_X4_largestPart : okY yX4_largestPart 1 := by decide +kernel
theorem ok_X4_part : okY yX4_part 2 := by decide +kernel
theorem ok_X4_reached : okY yX4_reached 2 := by decide +kernel
theorem ok_X5_init : okY yX5_init 0 := by decide +kernel
theorem ok_X5_mostJoined : okY yX5_mostJoined 1 := by decide +kernel
theorem ok_X5_takeStep : okY yX5_takeStep 1 := by decide +kernel
theorem ok_X6_fits : okY yX6_fits 1 := by decide +kernel
theorem ok_X6_fitsBehind : okY yX6_fitsBehind 3 := by decide +kernel
theorem ok_X6_isStuck : okY yX6_isStuck 1 := by decide +kernel
theorem ok_X6_netFits : okY yX6_netFits 2 := by decide +kernel
theorem ok_X7_addEdges : okY yX7_addEdges 2 := by decide +kernel
theorem ok_X7_addTables : okY yX7_addTables 1 := by decide +kernel
theorem ok_X7_entryOf : okY yX7_entryOf 1 := by decide +kernel
theorem ok_X7_fillEntry : okY yX7_fillEntry 2 := by decide +kernel
theorem ok_X7_fillTable : okY yX7_fillTable 1 := by decide +kernel
theorem ok_X7_listOpenStates : okY yX7_listOpenStates 1 := by decide +kernel
theorem ok_X7_pickNext : okY yX7_pickNext 1 := by decide +kernel
theorem ok_X7_pickedState : okY yX7_pickedState 1 := by decide +kernel
theorem ok_X7_settle : okY yX7_settle 1 := by decide +kernel
theorem ok_X7_sweep : okY yX7_sweep 1 := by decide +kernel
theorem ok_X7_sweepAgain : okY yX7_sweepAgain 0 := by decide +kernel
theorem ok_X8_hasBit : okY yX8_hasBit 2 := by decide +kernel
theorem ok_X8_isFactor : okY yX8_isFactor 1 := by decide +kernel
theorem ok_X8_isSound : okY yX8_isSound 0 := by decide +kernel
theorem ok_X8_isWeight : okY yX8_isWeight 1 := by decide +kernel
theorem ok_X8_lowerBound : okY yX8_lowerBound 0 := by decide +kernel
theorem ok_X9_all : okY yX9_all 0 := by decide +kernel
theorem ok_X9_around : okY yX9_around 2 := by decide +kernel
theorem ok_X9_ask : okY yX9_ask 1 := by decide +kernel
theorem ok_X9_bits : okY yX9_bits 1 := by decide +kernel
theorem ok_X9_code : okY yX9_code 1 := by decide +kernel
theorem ok_X9_free : okY yX9_free 0 := by decide +kernel
theorem ok_X9_inOne : okY yX9_inOne 1 := by decide +kernel
theorem ok_X9_isAsked : okY yX9_isAsked 0 := by decide +kernel
theorem ok_X9_isEdge : okY yX9_isEdge 2 := by decide +kernel
theorem ok_X9_isFactor : okY yX9_isFactor 1 := by decide +kernel
theorem ok_X9_isFirst : okY yX9_isFirst 2 := by decide +kernel
theorem ok_X9_isKnot : okY yX9_isKnot 1 := by decide +kernel
theorem ok_X9_isOrder : okY yX9_isOrder 0 := by decide +kernel
theorem ok_X9_isState : okY yX9_isState 1 := by decide +kernel
theorem ok_X9_isWeight : okY yX9_isWeight 1 := by decide +kernel
theorem ok_X9_mayBe : okY yX9_mayBe 2 := by decide +kernel
theorem ok_X9_own : okY yX9_own 1 := by decide +kernel
theorem ok_X9_put_ : okY yX9_put_ 5 := by decide +kernel
theorem ok_X9_rowMask : okY yX9_rowMask 0 := by decide +kernel
theorem ok_X9_rowWidth : okY yX9_rowWidth 0 := by decide +kernel
theorem ok_X9_sound : okY yX9_sound 0 := by decide +kernel
theorem ok_X9_take : okY yX9_take 2 := by decide +kernel
theorem ok_X9_width : okY yX9_width 0 := by decide +kernel
end
section
/-! Rows that make cells, constructors, null. -/
theorem arr_same {cA : Nat → ClassId} {D : va_G} {s : State} (hK : va_K D vwCl (TY cA) s) {c : ClassId} {ty : FieldType} (hK2 : va_K D vwCl (TY cA ++ [(c, ty)]) s) (t : Nat) (ht : (TY cA)[t]? = some (cA t, ty)) : c = cA t := by
  have h1 := (hK.2 t _ ht).2
  have h2 := (hK2.2 4 (c, ty) rfl).2
  cases ty with
  | object C =>
    obtain ⟨k1, c1, a1, a2, a3, a4⟩ := h1
    obtain ⟨k2, c2, b1, b2, b3, b4⟩ := h2
    exact Option.some.inj (b4.symm.trans a4)
  | _ => exact Option.some.inj (h2.symm.trans h1)
section GN
variable {X : XT} {cc : ByteArray} {own : String} {ret : Option FieldType} {cA : Nat → ClassId} {fr lo nL k n : Nat} {ws : va_W} {lv : List (Nat × Value)} {st : List Value}
theorem g_newI (C : Cx X cc own ret cA fr lo nL) (pc : Nat) {m : Int32} (N : Nat) (k' n' : Nat) (wsF : Nat → va_W) (d : decode cc pc = .ok (.newarray .int, 2)) (hw : Cond.arrayClass .int ∈ G) (hm : ¬ m < 0) (hN : m.toNatClampNeg = N) (hb : N * 4 ≤ 536870912) (hk : k' ≤ (x_R X).cells) (hn : n' ≤ (x_R X).slots) (hk' : k + 1 = k') (hn' : n + N = n') (hws : ∀ q, ws ++ [aI cA q N (fun _ => 0)] = wsF q) (K : ∀ q : Nat, Go X nL k' n' (pc + 2) (wsF q) lv (.ref q :: st)) : Go X nL k n pc ws lv (.int m :: st) := by
  intro H locs ls hP hD hS hl
  subst hk'; subst hn'
  refine va_newa (atype := .int) (ty := .int) (a0 := (N, .inl (fun _ => 0))) C.ex C.by (C.ts _ hw) rfl C.K hP hD hS C.hA (fun _ => rfl) hm hN hb hk hn d ?_
  intro q c H1 hK2 hP1 hD1 hS1
  have hc := arr_same C.K hK2 0 rfl
  subst hc
  exact K q H1 locs ls (hws q ▸ hP1) (hws q ▸ hD1) hS1 hl
theorem g_newJ (C : Cx X cc own ret cA fr lo nL) (pc : Nat) {m : Int32} (N : Nat) (k' n' : Nat) (wsF : Nat → va_W) (d : decode cc pc = .ok (.newarray .long, 2)) (hw : Cond.arrayClass .long ∈ G) (hm : ¬ m < 0) (hN : m.toNatClampNeg = N) (hb : N * 8 ≤ 536870912) (hk : k' ≤ (x_R X).cells) (hn : n' ≤ (x_R X).slots) (hk' : k + 1 = k') (hn' : n + N = n') (hws : ∀ q, ws ++ [aJ cA q N (fun _ => 0)] = wsF q) (K : ∀ q : Nat, Go X nL k' n' (pc + 2) (wsF q) lv (.ref q :: st)) : Go X nL k n pc ws lv (.int m :: st) := by
  intro H locs ls hP hD hS hl
  subst hk'; subst hn'
  refine va_newa (atype := .long) (ty := .long) (a0 := (N, .inr (.inl (fun _ => 0)))) C.ex C.by (C.ts _ hw) rfl C.K hP hD hS C.hA (fun _ => rfl) hm hN hb hk hn d ?_
  intro q c H1 hK2 hP1 hD1 hS1
  have hc := arr_same C.K hK2 1 rfl
  subst hc
  exact K q H1 locs ls (hws q ▸ hP1) (hws q ▸ hD1) hS1 hl
theorem g_newZ (C : Cx X cc own ret cA fr lo nL) (pc : Nat) {m : Int32} (N : Nat) (k' n' : Nat) (wsF : Nat → va_W) (d : decode cc pc = .ok (.newarray .boolean, 2)) (hw : Cond.arrayClass .boolean ∈ G) (hm : ¬ m < 0) (hN : m.toNatClampNeg = N) (hb : N * 1 ≤ 536870912) (hk : k' ≤ (x_R X).cells) (hn : n' ≤ (x_R X).slots) (hk' : k + 1 = k') (hn' : n + N = n') (hws : ∀ q, ws ++ [aZ cA q N (fun _ => 0)] = wsF q) (K : ∀ q : Nat, Go X nL k' n' (pc + 2) (wsF q) lv (.ref q :: st)) : Go X nL k n pc ws lv (.int m :: st) := by
  intro H locs ls hP hD hS hl
  subst hk'; subst hn'
  refine va_newa (atype := .boolean) (ty := .boolean) (a0 := (N, .inl (fun _ => 0))) C.ex C.by (C.ts _ hw) rfl C.K hP hD hS C.hA (fun _ => rfl) hm hN hb hk hn d ?_
  intro q c H1 hK2 hP1 hD1 hS1
  have hc := arr_same C.K hK2 2 rfl
  subst hc
  exact K q H1 locs ls (hws q ▸ hP1) (hws q ▸ hD1) hS1 hl
theorem g_newG (C : Cx X cc own ret cA fr lo nL) (pc : Nat) {m : Int32} {i : Nat} (N : Nat) (k' n' : Nat) (wsF : Nat → va_W) (d : decode cc pc = .ok (.anewarray i, 3)) (hw : Cond.classLink own i RX1 ∈ G) (hm : ¬ m < 0) (hN : m.toNatClampNeg = N) (hb : N * 4 ≤ 536870912) (hk : k' ≤ (x_R X).cells) (hn : n' ≤ (x_R X).slots) (hk' : k + 1 = k') (hn' : n + N = n') (hws : ∀ q, ws ++ [aG cA q N (fun _ => none)] = wsF q) (K : ∀ q : Nat, Go X nL k' n' (pc + 3) (wsF q) lv (.ref q :: st)) : Go X nL k n pc ws lv (.int m :: st) := by
  intro H locs ls hP hD hS hl
  subst hk'; subst hn'
  refine va_newq C.ex C.by C.ow (C.ts _ hw) C.nw.2 C.K hP hD hS C.hA hm hN hb hk hn d ?_
  intro q c H1 hK2 hP1 hD1 hS1
  have hc := arr_same C.K hK2 3 rfl
  subst hc
  exact K q H1 locs ls (hws q ▸ hP1) (hws q ▸ hD1) hS1 hl
theorem g_new (C : Cx X cc own ret cA fr lo nL) (pc : Nat) {i ci N : Nat} {Cn : String} {T : u_T} (ty : Nat → FieldType) (fs : List Value) (k' n' : Nat) (wsF : Nat → va_W) (d : decode cc pc = .ok (.new i, 3)) (hin : ∀ w ∈ u_ws Cn T N, w ∈ G) (hty : ∀ k, k < N → parseFieldDescriptor (T k).2.2.1 = some (ty k)) (h1 : Cond.classLink own i Cn ∈ G) (h2 : Cond.instantiable Cn N ∈ G) (h3 : Cond.initialized Cn ∈ G) (hc : vwCl[ci]? = some (Cn, T, N)) (hfs : ∀ j, j < N → defaultValue (ty j) = vp_V fs j) (hk : k' ≤ (x_R X).cells) (hn : n' ≤ (x_R X).slots) (hk' : k + 1 = k') (hn' : n + N = n') (hws : ∀ q, ws ++ [oB q ci fs] = wsF q) (K : ∀ q : Nat, Go X nL k' n' (pc + 3) (wsF q) lv (.ref q :: st)) : Go X nL k n pc ws lv st := by
  intro H locs ls hP hD hS hl
  subst hk'; subst hn'
  refine va_new (fs := fs) C.ex C.by C.ts hin ty hty C.ow (C.ts _ h1) (C.ts _ h2) (C.ts _ h3) C.K hP hD hS C.hA hc hfs hk hn d ?_
  intro q H1 hP1 hD1 hS1
  exact K q H1 locs ls (hws q ▸ hP1) (hws q ▸ hD1) hS1 hl
theorem g_putF (C : Cx X cc own ret cA fr lo nL) (pc q j : Nat) {a ci i N : Nat} {Cn : String} {T : u_T} {fs : List Value} {v : Value} {ws' : va_W} (ty0 : Nat → FieldType) (d : decode cc pc = .ok (.putfield i, 3)) (hin : ∀ w ∈ u_ws Cn T N, w ∈ G) (hty : ∀ k, k < N → parseFieldDescriptor (T k).2.2.1 = some (ty0 k)) (hnm : ∀ a, a < N → ∀ b, b < N → a ≠ b → (T a).2.1 ≠ (T b).2.1) (ha : ws[q]? = some (oB a ci fs)) (hc : vwCl[ci]? = some (Cn, T, N)) (hj : j < N) (hw : Cond.fieldLink own i (T j).1 (T j).2.1 (T j).2.2.1 ∈ G) (hfin : (T j).2.2.2 = true) (hme : (x_me X).name = "<init>") (hdecl : (T j).1 = own) (hnar : narrow (ty0 j) v = v) (hfit : fits (ty0 j) v = true) (hl : j < fs.length) (hws : ws.set q (oB a ci (fs.set j v)) = ws') (K : Go X nL k n (pc + 3) ws' lv st) : Go X nL k n pc ws lv (v :: .ref a :: st) := fun H locs ls hP hD hS hl' => va_putF C.ex C.by C.ts hin ty0 hty hnm C.ow C.K hP hD hS q ha hc j hj (C.ts _ hw) (fun _ h => h) hfin hme hdecl (hty j hj) hnar hfit hl d (fun H1 l1 hP hD hS => K H1 l1 ls (hws ▸ hP) (hws ▸ hD) hS hl')
theorem g_putV (C : Cx X cc own ret cA fr lo nL) (pc q j : Nat) {a ci i N : Nat} {Cn : String} {T : u_T} {fs : List Value} {v : Value} {ws' : va_W} (ty0 : Nat → FieldType) (d : decode cc pc = .ok (.putfield i, 3)) (hin : ∀ w ∈ u_ws Cn T N, w ∈ G) (hty : ∀ k, k < N → parseFieldDescriptor (T k).2.2.1 = some (ty0 k)) (hnm : ∀ a, a < N → ∀ b, b < N → a ≠ b → (T a).2.1 ≠ (T b).2.1) (ha : ws[q]? = some (oB a ci fs)) (hc : vwCl[ci]? = some (Cn, T, N)) (hj : j < N) (hw : Cond.fieldLink own i (T j).1 (T j).2.1 (T j).2.2.1 ∈ G) (hfin : (T j).2.2.2 = false) (hnar : narrow (ty0 j) v = v) (hfit : fits (ty0 j) v = true) (hl : j < fs.length) (hws : ws.set q (oB a ci (fs.set j v)) = ws') (K : Go X nL k n (pc + 3) ws' lv st) : Go X nL k n pc ws lv (v :: .ref a :: st) := fun H locs ls hP hD hS hl' => va_put C.ex C.by C.ts hin ty0 hty hnm C.ow C.K hP hD hS q ha hc j hj (C.ts _ hw) (fun _ h => h) hfin (hty j hj) hnar hfit hl d (fun H1 l1 hP hD hS => K H1 l1 ls (hws ▸ hP) (hws ▸ hD) hS hl')
theorem g_obj (C : Cx X cc own ret cA fr lo nL) (pc : Nat) {i a : Nat} (d : decode cc pc = .ok (.invokespecial i, 3)) (h1 : Cond.methodLink own i objectInit ∈ G) (h2 : Cond.instanceMethod objectInit ∈ G) (h3 : Cond.code objectInit ⟨#[0xb1]⟩ 1 none ∈ G) (hfr : 1 ≤ fr) (hlo : (st.map fun v => v.category).sum + 12 ≤ lo) (K : Go X nL k n (pc + 3) ws lv st) : Go X nL k n pc ws lv (.ref a :: st) := fun H locs ls hP hD hS hl => W.objInit C.ex C.by C.ow (C.ts _ h1) (C.ts _ h2) (C.ts _ h3) rfl (hl.1.trans C.ml.symm) rfl d (Nat.le_trans hfr C.rm.1) (by
    have h := Nat.le_trans hlo C.rm.2
    show 2 * 0 + _ + 12 ≤ _
    omega) (K H locs ls hP hD hS hl)
theorem g_nonnull (C : Cx X cc own ret cA fr lo nL) (pc : Nat) {o : Int} {a : Nat} (t : Nat) (d : decode cc pc = .ok (.ifnonnull o, 3)) (ht : (pc : Int) + o = (t : Int)) (K : Go X nL k n t ws lv st) : Go X nL k n pc ws lv (.ref a :: st) := fun H locs ls hP hD hS hl => lv_ifnonnull C.ex C.by d ht (K H locs ls hP hD hS hl)
theorem g_nonnullN (C : Cx X cc own ret cA fr lo nL) (pc : Nat) {o : Int} (d : decode cc pc = .ok (.ifnonnull o, 3)) (K : Go X nL k n (pc + 3) ws lv st) : Go X nL k n pc ws lv (.null :: st) := fun H locs ls hP hD hS hl => lv_ifnonnullN C.ex C.by d (K H locs ls hP hD hS hl)
variable {rest : List Value}
/-- a constructor, of a nest mate (private) -/
theorem g_callIN (C : Cx X cc own ret cA fr lo nL) (pc : Nat) {y : MethodName} {cc' : ByteArray} {nL' : Nat} {rm : Room} {b : Nat} {As : List Value} {wc : va_W} {B : Option Value → va_W → Prop} {i : Nat} {host : String} (isC : List Nat) (k' n' : Nat) (d : decode cc pc = .ok (.invokespecial i, 3)) (hM : MT (x_l X) cA y cc' nL' none rm (.ref b :: As) wc B)
    (h1 : (own, i, y, host) ∈ nwT) (h2 : Cond.instanceMethod y ∈ G) (h4 : Cond.initialized y.cls ∈ G) (h5 : Cond.code y cc' nL' none ∈ G) (hy : y.name = "<init>") (hd : okY y As.length) (hR : rm.frames + 1 ≤ fr ∧ 8 + (nL' + 11) + rm.locals ≤ lo) (hk : k' ≤ (x_R X).cells) (hn : n' ≤ (x_R X).slots) (hk' : k + rm.cells = k') (hn' : n + rm.slots = n')
    (hC : isC.map (fun i => ws[i]?) = wc.map some) (hnd : va_nd isC = true) (hst : st = As.reverse ++ .ref b :: rest) (hsum : (rest.map fun v => v.category).sum ≤ 8)
    (K : ∀ (res : Option Value) (w1 : va_W), B res w1 → isC.length ≤ w1.length ∧ Go X nL k' n' (pc + 3) (putAt ws isC w1) lv (res.toList ++ rest)) : Go X nL k n pc ws lv st := by
  intro H locs ls hP hD hS hl
  subst hk'; subst hn'
  have hFc := va_free (wc := wc) hD hS C.hA isC hC
  have hPc := hP.sub (ws' := wc) isC (by
    have := congrArg (List.filterMap id) hC
    simpa [List.filterMap_map] using this)
  have hDc := hD.sub (ws' := wc) isC hnd hC
  have hG : GoodIn G (.code y cc' nL' none :: G) := gi_G (fun w hw => by
    rcases List.mem_cons.mp hw with rfl | hw
    · exact h5
    · exact hw)
  refine kcall (va_runIN (As := As) (rest := rest) (host := host) ⟨C.ex, C.by, C.ml, C.ow, C.ts⟩ (hM H.size (x_D X)) ⟨va_cnB As.length C.ts hG rfl rfl rfl (C.nw.1 _ h1) (C.ts _ h4) hd ⟨Nat.le_trans hR.1 C.rm.1, Nat.le_trans hR.2 C.rm.2⟩, hy, C.ts _ h2⟩ ⟨Px_blind, fun U hU hW => ⟨rfl, by rw [hU], by rw [hU]; exact hPc, va_K.moved hW.alike C.K, hDc.weaken (fun _ _ _ _ => trivial), NW.warm hW C.nw⟩⟩ rfl rfl hl.1 hst (lv_room hsum) d ⟨hk, hn⟩) hS (fun q _ h => hFc q h) hFc ?_
  intro res w1 H1 locs1 hB hP1 hD1 hk1 hS1
  obtain ⟨hle, hgo⟩ := K res w1 hB
  obtain ⟨hP2, hD2⟩ := kjoin hP hD isC hC hnd hle hk1 hFc hP1 hD1
  exact hgo H1 locs1 ls hP2 hD2 hS1 hl
/-- a constructor that isn't private -/
theorem g_callI (C : Cx X cc own ret cA fr lo nL) (pc : Nat) {y : MethodName} {cc' : ByteArray} {nL' : Nat} {rm : Room} {b : Nat} {As : List Value} {wc : va_W} {B : Option Value → va_W → Prop} {i : Nat} (isC : List Nat) (k' n' : Nat) (d : decode cc pc = .ok (.invokespecial i, 3)) (hM : MT (x_l X) cA y cc' nL' none rm (.ref b :: As) wc B)
    (h1 : Cond.methodLink own i y ∈ G) (h2 : Cond.instanceMethod y ∈ G) (h4 : Cond.initialized y.cls ∈ G) (h5 : Cond.code y cc' nL' none ∈ G) (hy : y.name = "<init>") (hd : okY y As.length) (hR : rm.frames + 1 ≤ fr ∧ 8 + (nL' + 11) + rm.locals ≤ lo) (hk : k' ≤ (x_R X).cells) (hn : n' ≤ (x_R X).slots) (hk' : k + rm.cells = k') (hn' : n + rm.slots = n')
    (hC : isC.map (fun i => ws[i]?) = wc.map some) (hnd : va_nd isC = true) (hst : st = As.reverse ++ .ref b :: rest) (hsum : (rest.map fun v => v.category).sum ≤ 8)
    (K : ∀ (res : Option Value) (w1 : va_W), B res w1 → isC.length ≤ w1.length ∧ Go X nL k' n' (pc + 3) (putAt ws isC w1) lv (res.toList ++ rest)) : Go X nL k n pc ws lv st := by
  intro H locs ls hP hD hS hl
  subst hk'; subst hn'
  have hFc := va_free (wc := wc) hD hS C.hA isC hC
  have hPc := hP.sub (ws' := wc) isC (by
    have := congrArg (List.filterMap id) hC
    simpa [List.filterMap_map] using this)
  have hDc := hD.sub (ws' := wc) isC hnd hC
  have hG : GoodIn G (.code y cc' nL' none :: G) := gi_G (fun w hw => by
    rcases List.mem_cons.mp hw with rfl | hw
    · exact h5
    · exact hw)
  refine kcall (va_runI (As := As) (rest := rest) ⟨C.ex, C.by, C.ml, C.ow, C.ts⟩ (hM H.size (x_D X)) (cwI As.length C.ts hG rfl rfl rfl (C.ts _ h4) (C.ts _ h1) (C.ts _ h2) hy hd ⟨Nat.le_trans hR.1 C.rm.1, Nat.le_trans hR.2 C.rm.2⟩) ⟨Px_blind, fun U hU hW => ⟨rfl, by rw [hU], by rw [hU]; exact hPc, va_K.moved hW.alike C.K, hDc.weaken (fun _ _ _ _ => trivial), NW.warm hW C.nw⟩⟩ rfl rfl hl.1 hst (lv_room hsum) d ⟨hk, hn⟩) hS (fun q _ h => hFc q h) hFc ?_
  intro res w1 H1 locs1 hB hP1 hD1 hk1 hS1
  obtain ⟨hle, hgo⟩ := K res w1 hB
  obtain ⟨hP2, hD2⟩ := kjoin hP hD isC hC hnd hle hk1 hFc hP1 hD1
  exact hgo H1 locs1 ls hP2 hD2 hS1 hl
theorem g_aret {B : Option Value → va_W → Prop} {Cn : String} {a : Nat} (C : Cx X cc own (some (.object Cn)) cA fr lo nL) (pc : Nat) (d : decode cc pc = .ok (.areturn, 1)) (F : Fx X B k n) (hB : B (some (.ref a)) ws) : Go X nL k n pc ws lv [.ref a] := by
  intro H locs ls hP hD hS hl
  unfold XW
  rw [F.1]
  exact W.aret C.ex C.by C.rt (Or.inl ⟨_, rfl⟩) (Or.inr ⟨_, rfl⟩) (fun t ht hW => ⟨⟨_, _, hB, rfl, by rw [ht]; exact hP, hD⟩, va_S.F (F.2 ▸ hS) ht⟩) hS.2.2 d C.lk
end GN
end
section
theorem dX0_init_0 : decode cX0_init 0 = .ok (.aload_n 0, 1) := by decide +kernel
theorem dX0_init_1 : decode cX0_init 1 = .ok (.invokespecial 3, 3) := by decide +kernel
theorem dX0_init_4 : decode cX0_init 4 = .ok (.aload_n 0, 1) := by decide +kernel
theorem dX0_init_5 : decode cX0_init 5 = .ok (.bipush 14, 2) := by decide +kernel
theorem dX0_init_7 : decode cX0_init 7 = .ok (.newarray .int, 2) := by decide +kernel
theorem dX0_init_9 : decode cX0_init 9 = .ok (.putfield 9, 3) := by decide +kernel
theorem dX0_init_12 : decode cX0_init 12 = .ok (.aload_n 0, 1) := by decide +kernel
theorem dX0_init_13 : decode cX0_init 13 = .ok (.bipush 14, 2) := by decide +kernel
theorem dX0_init_15 : decode cX0_init 15 = .ok (.newarray .int, 2) := by decide +kernel
theorem dX0_init_17 : decode cX0_init 17 = .ok (.putfield 15, 3) := by decide +kernel
theorem dX0_init_20 : decode cX0_init 20 = .ok (.return_, 1) := by decide +kernel
theorem dX1_init_0 : decode cX1_init 0 = .ok (.aload_n 0, 1) := by decide +kernel
theorem dX1_init_1 : decode cX1_init 1 = .ok (.invokespecial 3, 3) := by decide +kernel
theorem dX1_init_4 : decode cX1_init 4 = .ok (.aload_n 0, 1) := by decide +kernel
theorem dX1_init_5 : decode cX1_init 5 = .ok (.bipush 14, 2) := by decide +kernel
theorem dX1_init_7 : decode cX1_init 7 = .ok (.newarray .int, 2) := by decide +kernel
theorem dX1_init_9 : decode cX1_init 9 = .ok (.putfield 9, 3) := by decide +kernel
theorem dX1_init_12 : decode cX1_init 12 = .ok (.return_, 1) := by decide +kernel
theorem dX2_init_0 : decode cX2_init 0 = .ok (.aload_n 0, 1) := by decide +kernel
theorem dX2_init_1 : decode cX2_init 1 = .ok (.invokespecial 3, 3) := by decide +kernel
theorem dX2_init_4 : decode cX2_init 4 = .ok (.aload_n 0, 1) := by decide +kernel
theorem dX2_init_5 : decode cX2_init 5 = .ok (.bipush 14, 2) := by decide +kernel
theorem dX2_init_7 : decode cX2_init 7 = .ok (.newarray .int, 2) := by decide +kernel
theorem dX2_init_9 : decode cX2_init 9 = .ok (.putfield 9, 3) := by decide +kernel
theorem dX2_init_12 : decode cX2_init 12 = .ok (.return_, 1) := by decide +kernel
theorem dX3_init_0 : decode cX3_init 0 = .ok (.aload_n 0, 1) := by decide +kernel
theorem dX3_init_1 : decode cX3_init 1 = .ok (.invokespecial 3, 3) := by decide +kernel
theorem dX3_init_4 : decode cX3_init 4 = .ok (.aload_n 0, 1) := by decide +kernel
theorem dX3_init_5 : decode cX3_init 5 = .ok (.iconst 2, 1) := by decide +kernel
theorem dX3_init_6 : decode cX3_init 6 = .ok (.putfield 9, 3) := by decide +kernel
theorem dX3_init_9 : decode cX3_init 9 = .ok (.aload_n 0, 1) := by decide +kernel
theorem dX3_init_10 : decode cX3_init 10 = .ok (.iconst 4, 1) := by decide +kernel
theorem dX3_init_11 : decode cX3_init 11 = .ok (.newarray .int, 2) := by decide +kernel
theorem dX3_init_13 : decode cX3_init 13 = .ok (.putfield 15, 3) := by decide +kernel
theorem dX3_init_16 : decode cX3_init 16 = .ok (.aload_n 0, 1) := by decide +kernel
theorem dX3_init_17 : decode cX3_init 17 = .ok (.bipush 16, 2) := by decide +kernel
theorem dX3_init_19 : decode cX3_init 19 = .ok (.newarray .int, 2) := by decide +kernel
theorem dX3_init_21 : decode cX3_init 21 = .ok (.putfield 19, 3) := by decide +kernel
theorem dX3_init_24 : decode cX3_init 24 = .ok (.aload_n 0, 1) := by decide +kernel
theorem dX3_init_25 : decode cX3_init 25 = .ok (.bipush 16, 2) := by decide +kernel
theorem dX3_init_27 : decode cX3_init 27 = .ok (.newarray .boolean, 2) := by decide +kernel
theorem dX3_init_29 : decode cX3_init 29 = .ok (.putfield 22, 3) := by decide +kernel
theorem dX3_init_32 : decode cX3_init 32 = .ok (.aload_n 0, 1) := by decide +kernel
theorem dX3_init_33 : decode cX3_init 33 = .ok (.bipush 14, 2) := by decide +kernel
theorem dX3_init_35 : decode cX3_init 35 = .ok (.newarray .int, 2) := by decide +kernel
theorem dX3_init_37 : decode cX3_init 37 = .ok (.putfield 26, 3) := by decide +kernel
theorem dX3_init_40 : decode cX3_init 40 = .ok (.return_, 1) := by decide +kernel
theorem dX4_init_0 : decode cX4_init 0 = .ok (.aload_n 0, 1) := by decide +kernel
theorem dX4_init_1 : decode cX4_init 1 = .ok (.invokespecial 3, 3) := by decide +kernel
theorem dX4_init_4 : decode cX4_init 4 = .ok (.aload_n 0, 1) := by decide +kernel
theorem dX4_init_5 : decode cX4_init 5 = .ok (.bipush 14, 2) := by decide +kernel
theorem dX4_init_7 : decode cX4_init 7 = .ok (.newarray .int, 2) := by decide +kernel
theorem dX4_init_9 : decode cX4_init 9 = .ok (.putfield 9, 3) := by decide +kernel
theorem dX4_init_12 : decode cX4_init 12 = .ok (.aload_n 0, 1) := by decide +kernel
theorem dX4_init_13 : decode cX4_init 13 = .ok (.bipush 14, 2) := by decide +kernel
theorem dX4_init_15 : decode cX4_init 15 = .ok (.newarray .int, 2) := by decide +kernel
theorem dX4_init_17 : decode cX4_init 17 = .ok (.putfield 15, 3) := by decide +kernel
theorem dX4_init_20 : decode cX4_init 20 = .ok (.aload_n 0, 1) := by decide +kernel
theorem dX4_init_21 : decode cX4_init 21 = .ok (.sipush 196, 3) := by decide +kernel
theorem dX4_init_24 : decode cX4_init 24 = .ok (.newarray .int, 2) := by decide +kernel
theorem dX4_init_26 : decode cX4_init 26 = .ok (.putfield 18, 3) := by decide +kernel
theorem dX4_init_29 : decode cX4_init 29 = .ok (.return_, 1) := by decide +kernel
theorem dX5_init_0 : decode cX5_init 0 = .ok (.aload_n 0, 1) := by decide +kernel
theorem dX5_init_1 : decode cX5_init 1 = .ok (.invokespecial 3, 3) := by decide +kernel
theorem dX5_init_4 : decode cX5_init 4 = .ok (.aload_n 0, 1) := by decide +kernel
theorem dX5_init_5 : decode cX5_init 5 = .ok (.bipush 14, 2) := by decide +kernel
theorem dX5_init_7 : decode cX5_init 7 = .ok (.newarray .int, 2) := by decide +kernel
theorem dX5_init_9 : decode cX5_init 9 = .ok (.putfield 9, 3) := by decide +kernel
theorem dX5_init_12 : decode cX5_init 12 = .ok (.aload_n 0, 1) := by decide +kernel
theorem dX5_init_13 : decode cX5_init 13 = .ok (.bipush 56, 2) := by decide +kernel
theorem dX5_init_15 : decode cX5_init 15 = .ok (.newarray .int, 2) := by decide +kernel
theorem dX5_init_17 : decode cX5_init 17 = .ok (.putfield 15, 3) := by decide +kernel
theorem dX5_init_20 : decode cX5_init 20 = .ok (.aload_n 0, 1) := by decide +kernel
theorem dX5_init_21 : decode cX5_init 21 = .ok (.bipush 14, 2) := by decide +kernel
theorem dX5_init_23 : decode cX5_init 23 = .ok (.newarray .int, 2) := by decide +kernel
theorem dX5_init_25 : decode cX5_init 25 = .ok (.putfield 18, 3) := by decide +kernel
theorem dX5_init_28 : decode cX5_init 28 = .ok (.aload_n 0, 1) := by decide +kernel
theorem dX5_init_29 : decode cX5_init 29 = .ok (.bipush 14, 2) := by decide +kernel
theorem dX5_init_31 : decode cX5_init 31 = .ok (.newarray .int, 2) := by decide +kernel
theorem dX5_init_33 : decode cX5_init 33 = .ok (.putfield 21, 3) := by decide +kernel
theorem dX5_init_36 : decode cX5_init 36 = .ok (.aload_n 0, 1) := by decide +kernel
theorem dX5_init_37 : decode cX5_init 37 = .ok (.bipush 14, 2) := by decide +kernel
theorem dX5_init_39 : decode cX5_init 39 = .ok (.newarray .int, 2) := by decide +kernel
theorem dX5_init_41 : decode cX5_init 41 = .ok (.putfield 24, 3) := by decide +kernel
theorem dX5_init_44 : decode cX5_init 44 = .ok (.aload_n 0, 1) := by decide +kernel
theorem dX5_init_45 : decode cX5_init 45 = .ok (.sipush 196, 3) := by decide +kernel
theorem dX5_init_48 : decode cX5_init 48 = .ok (.newarray .int, 2) := by decide +kernel
theorem dX5_init_50 : decode cX5_init 50 = .ok (.putfield 27, 3) := by decide +kernel
theorem dX5_init_53 : decode cX5_init 53 = .ok (.aload_n 0, 1) := by decide +kernel
theorem dX5_init_54 : decode cX5_init 54 = .ok (.bipush 14, 2) := by decide +kernel
theorem dX5_init_56 : decode cX5_init 56 = .ok (.newarray .int, 2) := by decide +kernel
theorem dX5_init_58 : decode cX5_init 58 = .ok (.putfield 30, 3) := by decide +kernel
theorem dX5_init_61 : decode cX5_init 61 = .ok (.aload_n 0, 1) := by decide +kernel
theorem dX5_init_62 : decode cX5_init 62 = .ok (.bipush 14, 2) := by decide +kernel
theorem dX5_init_64 : decode cX5_init 64 = .ok (.newarray .int, 2) := by decide +kernel
theorem dX5_init_66 : decode cX5_init 66 = .ok (.putfield 33, 3) := by decide +kernel
theorem dX5_init_69 : decode cX5_init 69 = .ok (.aload_n 0, 1) := by decide +kernel
theorem dX5_init_70 : decode cX5_init 70 = .ok (.bipush 14, 2) := by decide +kernel
theorem dX5_init_72 : decode cX5_init 72 = .ok (.newarray .int, 2) := by decide +kernel
theorem dX5_init_74 : decode cX5_init 74 = .ok (.putfield 36, 3) := by decide +kernel
theorem dX5_init_77 : decode cX5_init 77 = .ok (.aload_n 0, 1) := by decide +kernel
theorem dX5_init_78 : decode cX5_init 78 = .ok (.new 39, 3) := by decide +kernel
theorem dX5_init_81 : decode cX5_init 81 = .ok (.dup, 1) := by decide +kernel
theorem dX5_init_82 : decode cX5_init 82 = .ok (.invokespecial 41, 3) := by decide +kernel
theorem dX5_init_85 : decode cX5_init 85 = .ok (.putfield 42, 3) := by decide +kernel
theorem dX5_init_88 : decode cX5_init 88 = .ok (.return_, 1) := by decide +kernel
theorem dX7_init_0 : decode cX7_init 0 = .ok (.aload_n 0, 1) := by decide +kernel
theorem dX7_init_1 : decode cX7_init 1 = .ok (.invokespecial 3, 3) := by decide +kernel
theorem dX7_init_4 : decode cX7_init 4 = .ok (.aload_n 0, 1) := by decide +kernel
theorem dX7_init_5 : decode cX7_init 5 = .ok (.bipush 14, 2) := by decide +kernel
theorem dX7_init_7 : decode cX7_init 7 = .ok (.newarray .int, 2) := by decide +kernel
theorem dX7_init_9 : decode cX7_init 9 = .ok (.putfield 9, 3) := by decide +kernel
theorem dX7_init_12 : decode cX7_init 12 = .ok (.aload_n 0, 1) := by decide +kernel
theorem dX7_init_13 : decode cX7_init 13 = .ok (.bipush 56, 2) := by decide +kernel
theorem dX7_init_15 : decode cX7_init 15 = .ok (.newarray .int, 2) := by decide +kernel
theorem dX7_init_17 : decode cX7_init 17 = .ok (.putfield 15, 3) := by decide +kernel
theorem dX7_init_20 : decode cX7_init 20 = .ok (.aload_n 0, 1) := by decide +kernel
theorem dX7_init_21 : decode cX7_init 21 = .ok (.bipush 14, 2) := by decide +kernel
theorem dX7_init_23 : decode cX7_init 23 = .ok (.newarray .int, 2) := by decide +kernel
theorem dX7_init_25 : decode cX7_init 25 = .ok (.putfield 18, 3) := by decide +kernel
theorem dX7_init_28 : decode cX7_init 28 = .ok (.aload_n 0, 1) := by decide +kernel
theorem dX7_init_29 : decode cX7_init 29 = .ok (.bipush 14, 2) := by decide +kernel
theorem dX7_init_31 : decode cX7_init 31 = .ok (.newarray .int, 2) := by decide +kernel
theorem dX7_init_33 : decode cX7_init 33 = .ok (.putfield 21, 3) := by decide +kernel
theorem dX7_init_36 : decode cX7_init 36 = .ok (.aload_n 0, 1) := by decide +kernel
theorem dX7_init_37 : decode cX7_init 37 = .ok (.bipush 56, 2) := by decide +kernel
theorem dX7_init_39 : decode cX7_init 39 = .ok (.newarray .int, 2) := by decide +kernel
theorem dX7_init_41 : decode cX7_init 41 = .ok (.putfield 24, 3) := by decide +kernel
theorem dX7_init_44 : decode cX7_init 44 = .ok (.aload_n 0, 1) := by decide +kernel
theorem dX7_init_45 : decode cX7_init 45 = .ok (.sipush 3584, 3) := by decide +kernel
theorem dX7_init_48 : decode cX7_init 48 = .ok (.newarray .int, 2) := by decide +kernel
theorem dX7_init_50 : decode cX7_init 50 = .ok (.putfield 27, 3) := by decide +kernel
theorem dX7_init_53 : decode cX7_init 53 = .ok (.aload_n 0, 1) := by decide +kernel
theorem dX7_init_54 : decode cX7_init 54 = .ok (.sipush 3584, 3) := by decide +kernel
theorem dX7_init_57 : decode cX7_init 57 = .ok (.newarray .int, 2) := by decide +kernel
theorem dX7_init_59 : decode cX7_init 59 = .ok (.putfield 30, 3) := by decide +kernel
theorem dX7_init_62 : decode cX7_init 62 = .ok (.aload_n 0, 1) := by decide +kernel
theorem dX7_init_63 : decode cX7_init 63 = .ok (.aload_n 1, 1) := by decide +kernel
theorem dX7_init_64 : decode cX7_init 64 = .ok (.putfield 33, 3) := by decide +kernel
theorem dX7_init_67 : decode cX7_init 67 = .ok (.aload_n 0, 1) := by decide +kernel
theorem dX7_init_68 : decode cX7_init 68 = .ok (.aload_n 2, 1) := by decide +kernel
theorem dX7_init_69 : decode cX7_init 69 = .ok (.putfield 37, 3) := by decide +kernel
theorem dX7_init_72 : decode cX7_init 72 = .ok (.aload_n 0, 1) := by decide +kernel
theorem dX7_init_73 : decode cX7_init 73 = .ok (.aload_n 3, 1) := by decide +kernel
theorem dX7_init_74 : decode cX7_init 74 = .ok (.putfield 41, 3) := by decide +kernel
theorem dX7_init_77 : decode cX7_init 77 = .ok (.return_, 1) := by decide +kernel
theorem dX8_init_0 : decode cX8_init 0 = .ok (.aload_n 0, 1) := by decide +kernel
theorem dX8_init_1 : decode cX8_init 1 = .ok (.invokespecial 3, 3) := by decide +kernel
theorem dX8_init_4 : decode cX8_init 4 = .ok (.aload_n 0, 1) := by decide +kernel
theorem dX8_init_5 : decode cX8_init 5 = .ok (.new 9, 3) := by decide +kernel
theorem dX8_init_8 : decode cX8_init 8 = .ok (.dup, 1) := by decide +kernel
theorem dX8_init_9 : decode cX8_init 9 = .ok (.invokespecial 11, 3) := by decide +kernel
theorem dX8_init_12 : decode cX8_init 12 = .ok (.putfield 12, 3) := by decide +kernel
theorem dX8_init_15 : decode cX8_init 15 = .ok (.aload_n 0, 1) := by decide +kernel
theorem dX8_init_16 : decode cX8_init 16 = .ok (.new 18, 3) := by decide +kernel
theorem dX8_init_19 : decode cX8_init 19 = .ok (.dup, 1) := by decide +kernel
theorem dX8_init_20 : decode cX8_init 20 = .ok (.invokespecial 20, 3) := by decide +kernel
theorem dX8_init_23 : decode cX8_init 23 = .ok (.putfield 21, 3) := by decide +kernel
theorem dX8_init_26 : decode cX8_init 26 = .ok (.aload_n 0, 1) := by decide +kernel
theorem dX8_init_27 : decode cX8_init 27 = .ok (.new 25, 3) := by decide +kernel
theorem dX8_init_30 : decode cX8_init 30 = .ok (.dup, 1) := by decide +kernel
theorem dX8_init_31 : decode cX8_init 31 = .ok (.invokespecial 27, 3) := by decide +kernel
theorem dX8_init_34 : decode cX8_init 34 = .ok (.putfield 28, 3) := by decide +kernel
theorem dX8_init_37 : decode cX8_init 37 = .ok (.aload_n 0, 1) := by decide +kernel
theorem dX8_init_38 : decode cX8_init 38 = .ok (.new 32, 3) := by decide +kernel
theorem dX8_init_41 : decode cX8_init 41 = .ok (.dup, 1) := by decide +kernel
theorem dX8_init_42 : decode cX8_init 42 = .ok (.invokespecial 34, 3) := by decide +kernel
theorem dX8_init_45 : decode cX8_init 45 = .ok (.putfield 35, 3) := by decide +kernel
theorem dX8_init_48 : decode cX8_init 48 = .ok (.aload_n 0, 1) := by decide +kernel
theorem dX8_init_49 : decode cX8_init 49 = .ok (.new 39, 3) := by decide +kernel
theorem dX8_init_52 : decode cX8_init 52 = .ok (.dup, 1) := by decide +kernel
theorem dX8_init_53 : decode cX8_init 53 = .ok (.invokespecial 41, 3) := by decide +kernel
theorem dX8_init_56 : decode cX8_init 56 = .ok (.putfield 42, 3) := by decide +kernel
theorem dX8_init_59 : decode cX8_init 59 = .ok (.aload_n 0, 1) := by decide +kernel
theorem dX8_init_60 : decode cX8_init 60 = .ok (.new 46, 3) := by decide +kernel
theorem dX8_init_63 : decode cX8_init 63 = .ok (.dup, 1) := by decide +kernel
theorem dX8_init_64 : decode cX8_init 64 = .ok (.invokespecial 48, 3) := by decide +kernel
theorem dX8_init_67 : decode cX8_init 67 = .ok (.putfield 49, 3) := by decide +kernel
theorem dX8_init_70 : decode cX8_init 70 = .ok (.return_, 1) := by decide +kernel
theorem dX9_init_0 : decode cX9_init 0 = .ok (.aload_n 0, 1) := by decide +kernel
theorem dX9_init_1 : decode cX9_init 1 = .ok (.invokespecial 1, 3) := by decide +kernel
theorem dX9_init_4 : decode cX9_init 4 = .ok (.aload_n 0, 1) := by decide +kernel
theorem dX9_init_5 : decode cX9_init 5 = .ok (.iconst 0, 1) := by decide +kernel
theorem dX9_init_6 : decode cX9_init 6 = .ok (.putfield 7, 3) := by decide +kernel
theorem dX9_init_9 : decode cX9_init 9 = .ok (.aload_n 0, 1) := by decide +kernel
theorem dX9_init_10 : decode cX9_init 10 = .ok (.bipush 14, 2) := by decide +kernel
theorem dX9_init_12 : decode cX9_init 12 = .ok (.newarray .int, 2) := by decide +kernel
theorem dX9_init_14 : decode cX9_init 14 = .ok (.putfield 13, 3) := by decide +kernel
theorem dX9_init_17 : decode cX9_init 17 = .ok (.aload_n 0, 1) := by decide +kernel
theorem dX9_init_18 : decode cX9_init 18 = .ok (.bipush 14, 2) := by decide +kernel
theorem dX9_init_20 : decode cX9_init 20 = .ok (.newarray .int, 2) := by decide +kernel
theorem dX9_init_22 : decode cX9_init 22 = .ok (.putfield 17, 3) := by decide +kernel
theorem dX9_init_25 : decode cX9_init 25 = .ok (.aload_n 0, 1) := by decide +kernel
theorem dX9_init_26 : decode cX9_init 26 = .ok (.sipush 196, 3) := by decide +kernel
theorem dX9_init_29 : decode cX9_init 29 = .ok (.newarray .int, 2) := by decide +kernel
theorem dX9_init_31 : decode cX9_init 31 = .ok (.putfield 20, 3) := by decide +kernel
theorem dX9_init_34 : decode cX9_init 34 = .ok (.aload_n 0, 1) := by decide +kernel
theorem dX9_init_35 : decode cX9_init 35 = .ok (.iconst 0, 1) := by decide +kernel
theorem dX9_init_36 : decode cX9_init 36 = .ok (.putfield 23, 3) := by decide +kernel
theorem dX9_init_39 : decode cX9_init 39 = .ok (.aload_n 0, 1) := by decide +kernel
theorem dX9_init_40 : decode cX9_init 40 = .ok (.bipush 14, 2) := by decide +kernel
theorem dX9_init_42 : decode cX9_init 42 = .ok (.newarray .int, 2) := by decide +kernel
theorem dX9_init_44 : decode cX9_init 44 = .ok (.putfield 26, 3) := by decide +kernel
theorem dX9_init_47 : decode cX9_init 47 = .ok (.aload_n 0, 1) := by decide +kernel
theorem dX9_init_48 : decode cX9_init 48 = .ok (.iconst 0, 1) := by decide +kernel
theorem dX9_init_49 : decode cX9_init 49 = .ok (.putfield 29, 3) := by decide +kernel
theorem dX9_init_52 : decode cX9_init 52 = .ok (.aload_n 0, 1) := by decide +kernel
theorem dX9_init_53 : decode cX9_init 53 = .ok (.bipush 14, 2) := by decide +kernel
theorem dX9_init_55 : decode cX9_init 55 = .ok (.newarray .int, 2) := by decide +kernel
theorem dX9_init_57 : decode cX9_init 57 = .ok (.putfield 32, 3) := by decide +kernel
theorem dX9_init_60 : decode cX9_init 60 = .ok (.aload_n 0, 1) := by decide +kernel
theorem dX9_init_61 : decode cX9_init 61 = .ok (.bipush 14, 2) := by decide +kernel
theorem dX9_init_63 : decode cX9_init 63 = .ok (.newarray .int, 2) := by decide +kernel
theorem dX9_init_65 : decode cX9_init 65 = .ok (.putfield 35, 3) := by decide +kernel
theorem dX9_init_68 : decode cX9_init 68 = .ok (.aload_n 0, 1) := by decide +kernel
theorem dX9_init_69 : decode cX9_init 69 = .ok (.sipush 16384, 3) := by decide +kernel
theorem dX9_init_72 : decode cX9_init 72 = .ok (.newarray .int, 2) := by decide +kernel
theorem dX9_init_74 : decode cX9_init 74 = .ok (.putfield 38, 3) := by decide +kernel
theorem dX9_init_77 : decode cX9_init 77 = .ok (.aload_n 0, 1) := by decide +kernel
theorem dX9_init_78 : decode cX9_init 78 = .ok (.iconst 2, 1) := by decide +kernel
theorem dX9_init_79 : decode cX9_init 79 = .ok (.putfield 41, 3) := by decide +kernel
theorem dX9_init_82 : decode cX9_init 82 = .ok (.aload_n 0, 1) := by decide +kernel
theorem dX9_init_83 : decode cX9_init 83 = .ok (.iconst 4, 1) := by decide +kernel
theorem dX9_init_84 : decode cX9_init 84 = .ok (.newarray .int, 2) := by decide +kernel
theorem dX9_init_86 : decode cX9_init 86 = .ok (.putfield 44, 3) := by decide +kernel
theorem dX9_init_89 : decode cX9_init 89 = .ok (.aload_n 0, 1) := by decide +kernel
theorem dX9_init_90 : decode cX9_init 90 = .ok (.bipush 16, 2) := by decide +kernel
theorem dX9_init_92 : decode cX9_init 92 = .ok (.newarray .int, 2) := by decide +kernel
theorem dX9_init_94 : decode cX9_init 94 = .ok (.putfield 47, 3) := by decide +kernel
theorem dX9_init_97 : decode cX9_init 97 = .ok (.aload_n 0, 1) := by decide +kernel
theorem dX9_init_98 : decode cX9_init 98 = .ok (.bipush 14, 2) := by decide +kernel
theorem dX9_init_100 : decode cX9_init 100 = .ok (.newarray .int, 2) := by decide +kernel
theorem dX9_init_102 : decode cX9_init 102 = .ok (.putfield 50, 3) := by decide +kernel
theorem dX9_init_105 : decode cX9_init 105 = .ok (.aload_n 0, 1) := by decide +kernel
theorem dX9_init_106 : decode cX9_init 106 = .ok (.bipush 16, 2) := by decide +kernel
theorem dX9_init_108 : decode cX9_init 108 = .ok (.newarray .boolean, 2) := by decide +kernel
theorem dX9_init_110 : decode cX9_init 110 = .ok (.putfield 53, 3) := by decide +kernel
theorem dX9_init_113 : decode cX9_init 113 = .ok (.aload_n 0, 1) := by decide +kernel
theorem dX9_init_114 : decode cX9_init 114 = .ok (.bipush 14, 2) := by decide +kernel
theorem dX9_init_116 : decode cX9_init 116 = .ok (.newarray .int, 2) := by decide +kernel
theorem dX9_init_118 : decode cX9_init 118 = .ok (.putfield 57, 3) := by decide +kernel
theorem dX9_init_121 : decode cX9_init 121 = .ok (.aload_n 0, 1) := by decide +kernel
theorem dX9_init_122 : decode cX9_init 122 = .ok (.bipush 14, 2) := by decide +kernel
theorem dX9_init_124 : decode cX9_init 124 = .ok (.newarray .int, 2) := by decide +kernel
theorem dX9_init_126 : decode cX9_init 126 = .ok (.putfield 60, 3) := by decide +kernel
theorem dX9_init_129 : decode cX9_init 129 = .ok (.aload_n 0, 1) := by decide +kernel
theorem dX9_init_130 : decode cX9_init 130 = .ok (.sipush 14336, 3) := by decide +kernel
theorem dX9_init_133 : decode cX9_init 133 = .ok (.newarray .long, 2) := by decide +kernel
theorem dX9_init_135 : decode cX9_init 135 = .ok (.putfield 63, 3) := by decide +kernel
theorem dX9_init_138 : decode cX9_init 138 = .ok (.aload_n 0, 1) := by decide +kernel
theorem dX9_init_139 : decode cX9_init 139 = .ok (.sipush 14336, 3) := by decide +kernel
theorem dX9_init_142 : decode cX9_init 142 = .ok (.newarray .long, 2) := by decide +kernel
theorem dX9_init_144 : decode cX9_init 144 = .ok (.putfield 67, 3) := by decide +kernel
theorem dX9_init_147 : decode cX9_init 147 = .ok (.aload_n 0, 1) := by decide +kernel
theorem dX9_init_148 : decode cX9_init 148 = .ok (.sipush 14336, 3) := by decide +kernel
theorem dX9_init_151 : decode cX9_init 151 = .ok (.newarray .long, 2) := by decide +kernel
theorem dX9_init_153 : decode cX9_init 153 = .ok (.putfield 70, 3) := by decide +kernel
theorem dX9_init_156 : decode cX9_init 156 = .ok (.aload_n 0, 1) := by decide +kernel
theorem dX9_init_157 : decode cX9_init 157 = .ok (.lconst 0, 1) := by decide +kernel
theorem dX9_init_158 : decode cX9_init 158 = .ok (.putfield 73, 3) := by decide +kernel
theorem dX9_init_161 : decode cX9_init 161 = .ok (.aload_n 0, 1) := by decide +kernel
theorem dX9_init_162 : decode cX9_init 162 = .ok (.lconst 0, 1) := by decide +kernel
theorem dX9_init_163 : decode cX9_init 163 = .ok (.putfield 77, 3) := by decide +kernel
theorem dX9_init_166 : decode cX9_init 166 = .ok (.aload_n 0, 1) := by decide +kernel
theorem dX9_init_167 : decode cX9_init 167 = .ok (.lconst 0, 1) := by decide +kernel
theorem dX9_init_168 : decode cX9_init 168 = .ok (.putfield 80, 3) := by decide +kernel
theorem dX9_init_171 : decode cX9_init 171 = .ok (.return_, 1) := by decide +kernel
def iB_X0 (cA : Nat → ClassId) (q_t : Nat) : Option Value → va_W → Prop := fun res w => ∃ (q7 : Nat) (q15 : Nat), res = none ∧ w = [oB q_t 0 [.ref q7, .ref q15, .int 0], aI cA q7 14 (fun _ => 0), aI cA q15 14 (fun _ => 0)]
set_option maxRecDepth 100000 in
set_option maxHeartbeats 1000000 in
theorem c_X0_init (l : Launch) (cA : Nat → ClassId) (q_t : Nat) : MT l cA yX0_init cX0_init 1 none ({ frames := 1, cells := 2, slots := 28, locals := 20 } : Room) [.ref q_t] [oB q_t 0 [.null, .null, .int 0]] (iB_X0 cA q_t) := by
  refine MT.of (by decide) (Nat.le_of_ble_eq_true rfl) ?_
  intro X hXl C F hnm hrc hrs
  subst hXl
  have C : Cx X cX0_init RX0 none cA 1 20 1 := C
  show Go X 1 0 0 0 [oB q_t 0 [.null, .null, .int 0]] [(0, .ref q_t)] []
  refine g_aload_n C 0 0 dX0_init_0 rfl rfl ?_
  refine g_obj C 1 dX0_init_1 kw_495 kw_496 kw_497 (by decide) (Nat.le_of_ble_eq_true rfl) ?_
  refine g_aload_n C 4 0 dX0_init_4 rfl rfl ?_
  refine g_bipush C 5 (14 : Int32) dX0_init_5 (by decide) ?_
  refine g_newI C 7 14 1 14 (fun z => [oB q_t 0 [.null, .null, .int 0], aI cA z 14 (fun _ => 0)]) dX0_init_7 kw_498 (by decide) (by decide) (by decide) (by rw [hrc]; exact Nat.le_of_ble_eq_true rfl) (by rw [hrs]; exact Nat.le_of_ble_eq_true rfl) rfl rfl (fun _ => rfl) (fun q7 => ?_)
  refine g_putF C 9 0 0 (ws' := [oB q_t 0 [.ref q7, .null, .int 0], aI cA q7 14 (fun _ => 0)]) tyX0 dX0_init_9 inX0 tyX0_ok nmX0 rfl rfl (by decide) kw_1 rfl hnm rfl rfl rfl (Nat.le_of_ble_eq_true rfl) rfl ?_
  refine g_aload_n C 12 0 dX0_init_12 rfl rfl ?_
  refine g_bipush C 13 (14 : Int32) dX0_init_13 (by decide) ?_
  refine g_newI C 15 14 2 28 (fun z => [oB q_t 0 [.ref q7, .null, .int 0], aI cA q7 14 (fun _ => 0), aI cA z 14 (fun _ => 0)]) dX0_init_15 kw_498 (by decide) (by decide) (by decide) (by rw [hrc]; exact Nat.le_of_ble_eq_true rfl) (by rw [hrs]; exact Nat.le_of_ble_eq_true rfl) rfl rfl (fun _ => rfl) (fun q15 => ?_)
  refine g_putF C 17 0 1 (ws' := [oB q_t 0 [.ref q7, .ref q15, .int 0], aI cA q7 14 (fun _ => 0), aI cA q15 14 (fun _ => 0)]) tyX0 dX0_init_17 inX0 tyX0_ok nmX0 rfl rfl (by decide) kw_2 rfl hnm rfl rfl rfl (Nat.le_of_ble_eq_true rfl) rfl ?_
  exact g_vret C 20 dX0_init_20 F ⟨q7, q15, rfl, rfl⟩
def iB_X1 (cA : Nat → ClassId) (q_t : Nat) : Option Value → va_W → Prop := fun res w => ∃ (q7 : Nat), res = none ∧ w = [oB q_t 1 [.ref q7, .int 0, .int 0], aI cA q7 14 (fun _ => 0)]
set_option maxRecDepth 100000 in
set_option maxHeartbeats 1000000 in
theorem c_X1_init (l : Launch) (cA : Nat → ClassId) (q_t : Nat) : MT l cA yX1_init cX1_init 1 none ({ frames := 1, cells := 1, slots := 14, locals := 20 } : Room) [.ref q_t] [oB q_t 1 [.null, .int 0, .int 0]] (iB_X1 cA q_t) := by
  refine MT.of (by decide) (Nat.le_of_ble_eq_true rfl) ?_
  intro X hXl C F hnm hrc hrs
  subst hXl
  have C : Cx X cX1_init RX1 none cA 1 20 1 := C
  show Go X 1 0 0 0 [oB q_t 1 [.null, .int 0, .int 0]] [(0, .ref q_t)] []
  refine g_aload_n C 0 0 dX1_init_0 rfl rfl ?_
  refine g_obj C 1 dX1_init_1 kw_499 kw_496 kw_497 (by decide) (Nat.le_of_ble_eq_true rfl) ?_
  refine g_aload_n C 4 0 dX1_init_4 rfl rfl ?_
  refine g_bipush C 5 (14 : Int32) dX1_init_5 (by decide) ?_
  refine g_newI C 7 14 1 14 (fun z => [oB q_t 1 [.null, .int 0, .int 0], aI cA z 14 (fun _ => 0)]) dX1_init_7 kw_498 (by decide) (by decide) (by decide) (by rw [hrc]; exact Nat.le_of_ble_eq_true rfl) (by rw [hrs]; exact Nat.le_of_ble_eq_true rfl) rfl rfl (fun _ => rfl) (fun q7 => ?_)
  refine g_putF C 9 0 0 (ws' := [oB q_t 1 [.ref q7, .int 0, .int 0], aI cA q7 14 (fun _ => 0)]) tyX1 dX1_init_9 inX1 tyX1_ok nmX1 rfl rfl (by decide) kw_8 rfl hnm rfl rfl rfl (Nat.le_of_ble_eq_true rfl) rfl ?_
  exact g_vret C 12 dX1_init_12 F ⟨q7, rfl, rfl⟩
def iB_X2 (cA : Nat → ClassId) (q_t : Nat) : Option Value → va_W → Prop := fun res w => ∃ (q7 : Nat), res = none ∧ w = [oB q_t 2 [.ref q7, .int 0, .int 0], aI cA q7 14 (fun _ => 0)]
set_option maxRecDepth 100000 in
set_option maxHeartbeats 1000000 in
theorem c_X2_init (l : Launch) (cA : Nat → ClassId) (q_t : Nat) : MT l cA yX2_init cX2_init 1 none ({ frames := 1, cells := 1, slots := 14, locals := 20 } : Room) [.ref q_t] [oB q_t 2 [.null, .int 0, .int 0]] (iB_X2 cA q_t) := by
  refine MT.of (by decide) (Nat.le_of_ble_eq_true rfl) ?_
  intro X hXl C F hnm hrc hrs
  subst hXl
  have C : Cx X cX2_init RX2 none cA 1 20 1 := C
  show Go X 1 0 0 0 [oB q_t 2 [.null, .int 0, .int 0]] [(0, .ref q_t)] []
  refine g_aload_n C 0 0 dX2_init_0 rfl rfl ?_
  refine g_obj C 1 dX2_init_1 kw_500 kw_496 kw_497 (by decide) (Nat.le_of_ble_eq_true rfl) ?_
  refine g_aload_n C 4 0 dX2_init_4 rfl rfl ?_
  refine g_bipush C 5 (14 : Int32) dX2_init_5 (by decide) ?_
  refine g_newI C 7 14 1 14 (fun z => [oB q_t 2 [.null, .int 0, .int 0], aI cA z 14 (fun _ => 0)]) dX2_init_7 kw_498 (by decide) (by decide) (by decide) (by rw [hrc]; exact Nat.le_of_ble_eq_true rfl) (by rw [hrs]; exact Nat.le_of_ble_eq_true rfl) rfl rfl (fun _ => rfl) (fun q7 => ?_)
  refine g_putF C 9 0 0 (ws' := [oB q_t 2 [.ref q7, .int 0, .int 0], aI cA q7 14 (fun _ => 0)]) tyX2 dX2_init_9 inX2 tyX2_ok nmX2 rfl rfl (by decide) kw_4 rfl hnm rfl rfl rfl (Nat.le_of_ble_eq_true rfl) rfl ?_
  exact g_vret C 12 dX2_init_12 F ⟨q7, rfl, rfl⟩
def iB_X3 (cA : Nat → ClassId) (q_t : Nat) : Option Value → va_W → Prop := fun res w => ∃ (q11 : Nat) (q19 : Nat) (q27 : Nat) (q35 : Nat), res = none ∧ w = [oB q_t 3 [.int (2 : Int32), .ref q11, .ref q19, .ref q27, .ref q35], aI cA q11 4 (fun _ => 0), aI cA q19 16 (fun _ => 0), aZ cA q27 16 (fun _ => 0), aI cA q35 14 (fun _ => 0)]
set_option maxRecDepth 100000 in
set_option maxHeartbeats 1000000 in
theorem c_X3_init (l : Launch) (cA : Nat → ClassId) (q_t : Nat) : MT l cA yX3_init cX3_init 1 none ({ frames := 1, cells := 4, slots := 50, locals := 20 } : Room) [.ref q_t] [oB q_t 3 [.int 0, .null, .null, .null, .null]] (iB_X3 cA q_t) := by
  refine MT.of (by decide) (Nat.le_of_ble_eq_true rfl) ?_
  intro X hXl C F hnm hrc hrs
  subst hXl
  have C : Cx X cX3_init RX3 none cA 1 20 1 := C
  show Go X 1 0 0 0 [oB q_t 3 [.int 0, .null, .null, .null, .null]] [(0, .ref q_t)] []
  refine g_aload_n C 0 0 dX3_init_0 rfl rfl ?_
  refine g_obj C 1 dX3_init_1 kw_501 kw_496 kw_497 (by decide) (Nat.le_of_ble_eq_true rfl) ?_
  refine g_aload_n C 4 0 dX3_init_4 rfl rfl ?_
  refine g_iconst C 5 (2 : Int32) dX3_init_5 (by decide) ?_
  refine g_putV C 6 0 0 (ws' := [oB q_t 3 [.int (2 : Int32), .null, .null, .null, .null]]) tyX3 dX3_init_6 inX3 tyX3_ok nmX3 rfl rfl (by decide) kw_92 rfl rfl rfl (Nat.le_of_ble_eq_true rfl) rfl ?_
  refine g_aload_n C 9 0 dX3_init_9 rfl rfl ?_
  refine g_iconst C 10 (4 : Int32) dX3_init_10 (by decide) ?_
  refine g_newI C 11 4 1 4 (fun z => [oB q_t 3 [.int (2 : Int32), .null, .null, .null, .null], aI cA z 4 (fun _ => 0)]) dX3_init_11 kw_498 (by decide) (by decide) (by decide) (by rw [hrc]; exact Nat.le_of_ble_eq_true rfl) (by rw [hrs]; exact Nat.le_of_ble_eq_true rfl) rfl rfl (fun _ => rfl) (fun q11 => ?_)
  refine g_putF C 13 0 1 (ws' := [oB q_t 3 [.int (2 : Int32), .ref q11, .null, .null, .null], aI cA q11 4 (fun _ => 0)]) tyX3 dX3_init_13 inX3 tyX3_ok nmX3 rfl rfl (by decide) kw_93 rfl hnm rfl rfl rfl (Nat.le_of_ble_eq_true rfl) rfl ?_
  refine g_aload_n C 16 0 dX3_init_16 rfl rfl ?_
  refine g_bipush C 17 (16 : Int32) dX3_init_17 (by decide) ?_
  refine g_newI C 19 16 2 20 (fun z => [oB q_t 3 [.int (2 : Int32), .ref q11, .null, .null, .null], aI cA q11 4 (fun _ => 0), aI cA z 16 (fun _ => 0)]) dX3_init_19 kw_498 (by decide) (by decide) (by decide) (by rw [hrc]; exact Nat.le_of_ble_eq_true rfl) (by rw [hrs]; exact Nat.le_of_ble_eq_true rfl) rfl rfl (fun _ => rfl) (fun q19 => ?_)
  refine g_putF C 21 0 2 (ws' := [oB q_t 3 [.int (2 : Int32), .ref q11, .ref q19, .null, .null], aI cA q11 4 (fun _ => 0), aI cA q19 16 (fun _ => 0)]) tyX3 dX3_init_21 inX3 tyX3_ok nmX3 rfl rfl (by decide) kw_94 rfl hnm rfl rfl rfl (Nat.le_of_ble_eq_true rfl) rfl ?_
  refine g_aload_n C 24 0 dX3_init_24 rfl rfl ?_
  refine g_bipush C 25 (16 : Int32) dX3_init_25 (by decide) ?_
  refine g_newZ C 27 16 3 36 (fun z => [oB q_t 3 [.int (2 : Int32), .ref q11, .ref q19, .null, .null], aI cA q11 4 (fun _ => 0), aI cA q19 16 (fun _ => 0), aZ cA z 16 (fun _ => 0)]) dX3_init_27 kw_502 (by decide) (by decide) (by decide) (by rw [hrc]; exact Nat.le_of_ble_eq_true rfl) (by rw [hrs]; exact Nat.le_of_ble_eq_true rfl) rfl rfl (fun _ => rfl) (fun q27 => ?_)
  refine g_putF C 29 0 3 (ws' := [oB q_t 3 [.int (2 : Int32), .ref q11, .ref q19, .ref q27, .null], aI cA q11 4 (fun _ => 0), aI cA q19 16 (fun _ => 0), aZ cA q27 16 (fun _ => 0)]) tyX3 dX3_init_29 inX3 tyX3_ok nmX3 rfl rfl (by decide) kw_96 rfl hnm rfl rfl rfl (Nat.le_of_ble_eq_true rfl) rfl ?_
  refine g_aload_n C 32 0 dX3_init_32 rfl rfl ?_
  refine g_bipush C 33 (14 : Int32) dX3_init_33 (by decide) ?_
  refine g_newI C 35 14 4 50 (fun z => [oB q_t 3 [.int (2 : Int32), .ref q11, .ref q19, .ref q27, .null], aI cA q11 4 (fun _ => 0), aI cA q19 16 (fun _ => 0), aZ cA q27 16 (fun _ => 0), aI cA z 14 (fun _ => 0)]) dX3_init_35 kw_498 (by decide) (by decide) (by decide) (by rw [hrc]; exact Nat.le_of_ble_eq_true rfl) (by rw [hrs]; exact Nat.le_of_ble_eq_true rfl) rfl rfl (fun _ => rfl) (fun q35 => ?_)
  refine g_putF C 37 0 4 (ws' := [oB q_t 3 [.int (2 : Int32), .ref q11, .ref q19, .ref q27, .ref q35], aI cA q11 4 (fun _ => 0), aI cA q19 16 (fun _ => 0), aZ cA q27 16 (fun _ => 0), aI cA q35 14 (fun _ => 0)]) tyX3 dX3_init_37 inX3 tyX3_ok nmX3 rfl rfl (by decide) kw_95 rfl hnm rfl rfl rfl (Nat.le_of_ble_eq_true rfl) rfl ?_
  exact g_vret C 40 dX3_init_40 F ⟨q11, q19, q27, q35, rfl, rfl⟩
def iB_X4 (cA : Nat → ClassId) (q_t : Nat) : Option Value → va_W → Prop := fun res w => ∃ (q7 : Nat) (q15 : Nat) (q24 : Nat), res = none ∧ w = [oB q_t 4 [.ref q7, .ref q15, .ref q24, .int 0, .int 0], aI cA q7 14 (fun _ => 0), aI cA q15 14 (fun _ => 0), aI cA q24 196 (fun _ => 0)]
set_option maxRecDepth 100000 in
set_option maxHeartbeats 1000000 in
theorem c_X4_init (l : Launch) (cA : Nat → ClassId) (q_t : Nat) : MT l cA yX4_init cX4_init 1 none ({ frames := 1, cells := 3, slots := 224, locals := 20 } : Room) [.ref q_t] [oB q_t 4 [.null, .null, .null, .int 0, .int 0]] (iB_X4 cA q_t) := by
  refine MT.of (by decide) (Nat.le_of_ble_eq_true rfl) ?_
  intro X hXl C F hnm hrc hrs
  subst hXl
  have C : Cx X cX4_init RX4 none cA 1 20 1 := C
  show Go X 1 0 0 0 [oB q_t 4 [.null, .null, .null, .int 0, .int 0]] [(0, .ref q_t)] []
  refine g_aload_n C 0 0 dX4_init_0 rfl rfl ?_
  refine g_obj C 1 dX4_init_1 kw_503 kw_496 kw_497 (by decide) (Nat.le_of_ble_eq_true rfl) ?_
  refine g_aload_n C 4 0 dX4_init_4 rfl rfl ?_
  refine g_bipush C 5 (14 : Int32) dX4_init_5 (by decide) ?_
  refine g_newI C 7 14 1 14 (fun z => [oB q_t 4 [.null, .null, .null, .int 0, .int 0], aI cA z 14 (fun _ => 0)]) dX4_init_7 kw_498 (by decide) (by decide) (by decide) (by rw [hrc]; exact Nat.le_of_ble_eq_true rfl) (by rw [hrs]; exact Nat.le_of_ble_eq_true rfl) rfl rfl (fun _ => rfl) (fun q7 => ?_)
  refine g_putF C 9 0 0 (ws' := [oB q_t 4 [.ref q7, .null, .null, .int 0, .int 0], aI cA q7 14 (fun _ => 0)]) tyX4 dX4_init_9 inX4 tyX4_ok nmX4 rfl rfl (by decide) kw_97 rfl hnm rfl rfl rfl (Nat.le_of_ble_eq_true rfl) rfl ?_
  refine g_aload_n C 12 0 dX4_init_12 rfl rfl ?_
  refine g_bipush C 13 (14 : Int32) dX4_init_13 (by decide) ?_
  refine g_newI C 15 14 2 28 (fun z => [oB q_t 4 [.ref q7, .null, .null, .int 0, .int 0], aI cA q7 14 (fun _ => 0), aI cA z 14 (fun _ => 0)]) dX4_init_15 kw_498 (by decide) (by decide) (by decide) (by rw [hrc]; exact Nat.le_of_ble_eq_true rfl) (by rw [hrs]; exact Nat.le_of_ble_eq_true rfl) rfl rfl (fun _ => rfl) (fun q15 => ?_)
  refine g_putF C 17 0 1 (ws' := [oB q_t 4 [.ref q7, .ref q15, .null, .int 0, .int 0], aI cA q7 14 (fun _ => 0), aI cA q15 14 (fun _ => 0)]) tyX4 dX4_init_17 inX4 tyX4_ok nmX4 rfl rfl (by decide) kw_51 rfl hnm rfl rfl rfl (Nat.le_of_ble_eq_true rfl) rfl ?_
  refine g_aload_n C 20 0 dX4_init_20 rfl rfl ?_
  refine g_sipush C 21 (196 : Int32) dX4_init_21 (by decide) ?_
  refine g_newI C 24 196 3 224 (fun z => [oB q_t 4 [.ref q7, .ref q15, .null, .int 0, .int 0], aI cA q7 14 (fun _ => 0), aI cA q15 14 (fun _ => 0), aI cA z 196 (fun _ => 0)]) dX4_init_24 kw_498 (by decide) (by decide) (by decide) (by rw [hrc]; exact Nat.le_of_ble_eq_true rfl) (by rw [hrs]; exact Nat.le_of_ble_eq_true rfl) rfl rfl (fun _ => rfl) (fun q24 => ?_)
  refine g_putF C 26 0 2 (ws' := [oB q_t 4 [.ref q7, .ref q15, .ref q24, .int 0, .int 0], aI cA q7 14 (fun _ => 0), aI cA q15 14 (fun _ => 0), aI cA q24 196 (fun _ => 0)]) tyX4 dX4_init_26 inX4 tyX4_ok nmX4 rfl rfl (by decide) kw_98 rfl hnm rfl rfl rfl (Nat.le_of_ble_eq_true rfl) rfl ?_
  exact g_vret C 29 dX4_init_29 F ⟨q7, q15, q24, rfl, rfl⟩
def iB_X5 (cA : Nat → ClassId) (q_t : Nat) : Option Value → va_W → Prop := fun res w => ∃ (q7 : Nat) (q15 : Nat) (q23 : Nat) (q31 : Nat) (q39 : Nat) (q48 : Nat) (q56 : Nat) (q64 : Nat) (q72 : Nat) (q78 : Nat) (q78_q7 : Nat), res = none ∧ w = [oB q_t 5 [.ref q7, .ref q15, .ref q23, .ref q31, .ref q39, .ref q48, .ref q56, .int 0, .ref q64, .ref q72, .ref q78], aI cA q7 14 (fun _ => 0), aI cA q15 56 (fun _ => 0), aI cA q23 14 (fun _ => 0), aI cA q31 14 (fun _ => 0), aI cA q39 14 (fun _ => 0), aI cA q48 196 (fun _ => 0), aI cA q56 14 (fun _ => 0), aI cA q64 14 (fun _ => 0), aI cA q72 14 (fun _ => 0), oB q78 1 [.ref q78_q7, .int 0, .int 0], aI cA q78_q7 14 (fun _ => 0)]
set_option maxRecDepth 100000 in
set_option maxHeartbeats 1000000 in
theorem c_X5_init (l : Launch) (cA : Nat → ClassId) (q_t : Nat) : MT l cA yX5_init cX5_init 1 none ({ frames := 2, cells := 11, slots := 367, locals := 40 } : Room) [.ref q_t] [oB q_t 5 [.null, .null, .null, .null, .null, .null, .null, .int 0, .null, .null, .null]] (iB_X5 cA q_t) := by
  refine MT.of (by decide) (Nat.le_of_ble_eq_true rfl) ?_
  intro X hXl C F hnm hrc hrs
  subst hXl
  have C : Cx X cX5_init RX5 none cA 2 40 1 := C
  show Go X 1 0 0 0 [oB q_t 5 [.null, .null, .null, .null, .null, .null, .null, .int 0, .null, .null, .null]] [(0, .ref q_t)] []
  refine g_aload_n C 0 0 dX5_init_0 rfl rfl ?_
  refine g_obj C 1 dX5_init_1 kw_504 kw_496 kw_497 (by decide) (Nat.le_of_ble_eq_true rfl) ?_
  refine g_aload_n C 4 0 dX5_init_4 rfl rfl ?_
  refine g_bipush C 5 (14 : Int32) dX5_init_5 (by decide) ?_
  refine g_newI C 7 14 1 14 (fun z => [oB q_t 5 [.null, .null, .null, .null, .null, .null, .null, .int 0, .null, .null, .null], aI cA z 14 (fun _ => 0)]) dX5_init_7 kw_498 (by decide) (by decide) (by decide) (by rw [hrc]; exact Nat.le_of_ble_eq_true rfl) (by rw [hrs]; exact Nat.le_of_ble_eq_true rfl) rfl rfl (fun _ => rfl) (fun q7 => ?_)
  refine g_putF C 9 0 0 (ws' := [oB q_t 5 [.ref q7, .null, .null, .null, .null, .null, .null, .int 0, .null, .null, .null], aI cA q7 14 (fun _ => 0)]) tyX5 dX5_init_9 inX5 tyX5_ok nmX5 rfl rfl (by decide) kw_109 rfl hnm rfl rfl rfl (Nat.le_of_ble_eq_true rfl) rfl ?_
  refine g_aload_n C 12 0 dX5_init_12 rfl rfl ?_
  refine g_bipush C 13 (56 : Int32) dX5_init_13 (by decide) ?_
  refine g_newI C 15 56 2 70 (fun z => [oB q_t 5 [.ref q7, .null, .null, .null, .null, .null, .null, .int 0, .null, .null, .null], aI cA q7 14 (fun _ => 0), aI cA z 56 (fun _ => 0)]) dX5_init_15 kw_498 (by decide) (by decide) (by decide) (by rw [hrc]; exact Nat.le_of_ble_eq_true rfl) (by rw [hrs]; exact Nat.le_of_ble_eq_true rfl) rfl rfl (fun _ => rfl) (fun q15 => ?_)
  refine g_putF C 17 0 1 (ws' := [oB q_t 5 [.ref q7, .ref q15, .null, .null, .null, .null, .null, .int 0, .null, .null, .null], aI cA q7 14 (fun _ => 0), aI cA q15 56 (fun _ => 0)]) tyX5 dX5_init_17 inX5 tyX5_ok nmX5 rfl rfl (by decide) kw_118 rfl hnm rfl rfl rfl (Nat.le_of_ble_eq_true rfl) rfl ?_
  refine g_aload_n C 20 0 dX5_init_20 rfl rfl ?_
  refine g_bipush C 21 (14 : Int32) dX5_init_21 (by decide) ?_
  refine g_newI C 23 14 3 84 (fun z => [oB q_t 5 [.ref q7, .ref q15, .null, .null, .null, .null, .null, .int 0, .null, .null, .null], aI cA q7 14 (fun _ => 0), aI cA q15 56 (fun _ => 0), aI cA z 14 (fun _ => 0)]) dX5_init_23 kw_498 (by decide) (by decide) (by decide) (by rw [hrc]; exact Nat.le_of_ble_eq_true rfl) (by rw [hrs]; exact Nat.le_of_ble_eq_true rfl) rfl rfl (fun _ => rfl) (fun q23 => ?_)
  refine g_putF C 25 0 2 (ws' := [oB q_t 5 [.ref q7, .ref q15, .ref q23, .null, .null, .null, .null, .int 0, .null, .null, .null], aI cA q7 14 (fun _ => 0), aI cA q15 56 (fun _ => 0), aI cA q23 14 (fun _ => 0)]) tyX5 dX5_init_25 inX5 tyX5_ok nmX5 rfl rfl (by decide) kw_112 rfl hnm rfl rfl rfl (Nat.le_of_ble_eq_true rfl) rfl ?_
  refine g_aload_n C 28 0 dX5_init_28 rfl rfl ?_
  refine g_bipush C 29 (14 : Int32) dX5_init_29 (by decide) ?_
  refine g_newI C 31 14 4 98 (fun z => [oB q_t 5 [.ref q7, .ref q15, .ref q23, .null, .null, .null, .null, .int 0, .null, .null, .null], aI cA q7 14 (fun _ => 0), aI cA q15 56 (fun _ => 0), aI cA q23 14 (fun _ => 0), aI cA z 14 (fun _ => 0)]) dX5_init_31 kw_498 (by decide) (by decide) (by decide) (by rw [hrc]; exact Nat.le_of_ble_eq_true rfl) (by rw [hrs]; exact Nat.le_of_ble_eq_true rfl) rfl rfl (fun _ => rfl) (fun q31 => ?_)
  refine g_putF C 33 0 3 (ws' := [oB q_t 5 [.ref q7, .ref q15, .ref q23, .ref q31, .null, .null, .null, .int 0, .null, .null, .null], aI cA q7 14 (fun _ => 0), aI cA q15 56 (fun _ => 0), aI cA q23 14 (fun _ => 0), aI cA q31 14 (fun _ => 0)]) tyX5 dX5_init_33 inX5 tyX5_ok nmX5 rfl rfl (by decide) kw_113 rfl hnm rfl rfl rfl (Nat.le_of_ble_eq_true rfl) rfl ?_
  refine g_aload_n C 36 0 dX5_init_36 rfl rfl ?_
  refine g_bipush C 37 (14 : Int32) dX5_init_37 (by decide) ?_
  refine g_newI C 39 14 5 112 (fun z => [oB q_t 5 [.ref q7, .ref q15, .ref q23, .ref q31, .null, .null, .null, .int 0, .null, .null, .null], aI cA q7 14 (fun _ => 0), aI cA q15 56 (fun _ => 0), aI cA q23 14 (fun _ => 0), aI cA q31 14 (fun _ => 0), aI cA z 14 (fun _ => 0)]) dX5_init_39 kw_498 (by decide) (by decide) (by decide) (by rw [hrc]; exact Nat.le_of_ble_eq_true rfl) (by rw [hrs]; exact Nat.le_of_ble_eq_true rfl) rfl rfl (fun _ => rfl) (fun q39 => ?_)
  refine g_putF C 41 0 4 (ws' := [oB q_t 5 [.ref q7, .ref q15, .ref q23, .ref q31, .ref q39, .null, .null, .int 0, .null, .null, .null], aI cA q7 14 (fun _ => 0), aI cA q15 56 (fun _ => 0), aI cA q23 14 (fun _ => 0), aI cA q31 14 (fun _ => 0), aI cA q39 14 (fun _ => 0)]) tyX5 dX5_init_41 inX5 tyX5_ok nmX5 rfl rfl (by decide) kw_114 rfl hnm rfl rfl rfl (Nat.le_of_ble_eq_true rfl) rfl ?_
  refine g_aload_n C 44 0 dX5_init_44 rfl rfl ?_
  refine g_sipush C 45 (196 : Int32) dX5_init_45 (by decide) ?_
  refine g_newI C 48 196 6 308 (fun z => [oB q_t 5 [.ref q7, .ref q15, .ref q23, .ref q31, .ref q39, .null, .null, .int 0, .null, .null, .null], aI cA q7 14 (fun _ => 0), aI cA q15 56 (fun _ => 0), aI cA q23 14 (fun _ => 0), aI cA q31 14 (fun _ => 0), aI cA q39 14 (fun _ => 0), aI cA z 196 (fun _ => 0)]) dX5_init_48 kw_498 (by decide) (by decide) (by decide) (by rw [hrc]; exact Nat.le_of_ble_eq_true rfl) (by rw [hrs]; exact Nat.le_of_ble_eq_true rfl) rfl rfl (fun _ => rfl) (fun q48 => ?_)
  refine g_putF C 50 0 5 (ws' := [oB q_t 5 [.ref q7, .ref q15, .ref q23, .ref q31, .ref q39, .ref q48, .null, .int 0, .null, .null, .null], aI cA q7 14 (fun _ => 0), aI cA q15 56 (fun _ => 0), aI cA q23 14 (fun _ => 0), aI cA q31 14 (fun _ => 0), aI cA q39 14 (fun _ => 0), aI cA q48 196 (fun _ => 0)]) tyX5 dX5_init_50 inX5 tyX5_ok nmX5 rfl rfl (by decide) kw_116 rfl hnm rfl rfl rfl (Nat.le_of_ble_eq_true rfl) rfl ?_
  refine g_aload_n C 53 0 dX5_init_53 rfl rfl ?_
  refine g_bipush C 54 (14 : Int32) dX5_init_54 (by decide) ?_
  refine g_newI C 56 14 7 322 (fun z => [oB q_t 5 [.ref q7, .ref q15, .ref q23, .ref q31, .ref q39, .ref q48, .null, .int 0, .null, .null, .null], aI cA q7 14 (fun _ => 0), aI cA q15 56 (fun _ => 0), aI cA q23 14 (fun _ => 0), aI cA q31 14 (fun _ => 0), aI cA q39 14 (fun _ => 0), aI cA q48 196 (fun _ => 0), aI cA z 14 (fun _ => 0)]) dX5_init_56 kw_498 (by decide) (by decide) (by decide) (by rw [hrc]; exact Nat.le_of_ble_eq_true rfl) (by rw [hrs]; exact Nat.le_of_ble_eq_true rfl) rfl rfl (fun _ => rfl) (fun q56 => ?_)
  refine g_putF C 58 0 6 (ws' := [oB q_t 5 [.ref q7, .ref q15, .ref q23, .ref q31, .ref q39, .ref q48, .ref q56, .int 0, .null, .null, .null], aI cA q7 14 (fun _ => 0), aI cA q15 56 (fun _ => 0), aI cA q23 14 (fun _ => 0), aI cA q31 14 (fun _ => 0), aI cA q39 14 (fun _ => 0), aI cA q48 196 (fun _ => 0), aI cA q56 14 (fun _ => 0)]) tyX5 dX5_init_58 inX5 tyX5_ok nmX5 rfl rfl (by decide) kw_117 rfl hnm rfl rfl rfl (Nat.le_of_ble_eq_true rfl) rfl ?_
  refine g_aload_n C 61 0 dX5_init_61 rfl rfl ?_
  refine g_bipush C 62 (14 : Int32) dX5_init_62 (by decide) ?_
  refine g_newI C 64 14 8 336 (fun z => [oB q_t 5 [.ref q7, .ref q15, .ref q23, .ref q31, .ref q39, .ref q48, .ref q56, .int 0, .null, .null, .null], aI cA q7 14 (fun _ => 0), aI cA q15 56 (fun _ => 0), aI cA q23 14 (fun _ => 0), aI cA q31 14 (fun _ => 0), aI cA q39 14 (fun _ => 0), aI cA q48 196 (fun _ => 0), aI cA q56 14 (fun _ => 0), aI cA z 14 (fun _ => 0)]) dX5_init_64 kw_498 (by decide) (by decide) (by decide) (by rw [hrc]; exact Nat.le_of_ble_eq_true rfl) (by rw [hrs]; exact Nat.le_of_ble_eq_true rfl) rfl rfl (fun _ => rfl) (fun q64 => ?_)
  refine g_putF C 66 0 8 (ws' := [oB q_t 5 [.ref q7, .ref q15, .ref q23, .ref q31, .ref q39, .ref q48, .ref q56, .int 0, .ref q64, .null, .null], aI cA q7 14 (fun _ => 0), aI cA q15 56 (fun _ => 0), aI cA q23 14 (fun _ => 0), aI cA q31 14 (fun _ => 0), aI cA q39 14 (fun _ => 0), aI cA q48 196 (fun _ => 0), aI cA q56 14 (fun _ => 0), aI cA q64 14 (fun _ => 0)]) tyX5 dX5_init_66 inX5 tyX5_ok nmX5 rfl rfl (by decide) kw_119 rfl hnm rfl rfl rfl (Nat.le_of_ble_eq_true rfl) rfl ?_
  refine g_aload_n C 69 0 dX5_init_69 rfl rfl ?_
  refine g_bipush C 70 (14 : Int32) dX5_init_70 (by decide) ?_
  refine g_newI C 72 14 9 350 (fun z => [oB q_t 5 [.ref q7, .ref q15, .ref q23, .ref q31, .ref q39, .ref q48, .ref q56, .int 0, .ref q64, .null, .null], aI cA q7 14 (fun _ => 0), aI cA q15 56 (fun _ => 0), aI cA q23 14 (fun _ => 0), aI cA q31 14 (fun _ => 0), aI cA q39 14 (fun _ => 0), aI cA q48 196 (fun _ => 0), aI cA q56 14 (fun _ => 0), aI cA q64 14 (fun _ => 0), aI cA z 14 (fun _ => 0)]) dX5_init_72 kw_498 (by decide) (by decide) (by decide) (by rw [hrc]; exact Nat.le_of_ble_eq_true rfl) (by rw [hrs]; exact Nat.le_of_ble_eq_true rfl) rfl rfl (fun _ => rfl) (fun q72 => ?_)
  refine g_putF C 74 0 9 (ws' := [oB q_t 5 [.ref q7, .ref q15, .ref q23, .ref q31, .ref q39, .ref q48, .ref q56, .int 0, .ref q64, .ref q72, .null], aI cA q7 14 (fun _ => 0), aI cA q15 56 (fun _ => 0), aI cA q23 14 (fun _ => 0), aI cA q31 14 (fun _ => 0), aI cA q39 14 (fun _ => 0), aI cA q48 196 (fun _ => 0), aI cA q56 14 (fun _ => 0), aI cA q64 14 (fun _ => 0), aI cA q72 14 (fun _ => 0)]) tyX5 dX5_init_74 inX5 tyX5_ok nmX5 rfl rfl (by decide) kw_107 rfl hnm rfl rfl rfl (Nat.le_of_ble_eq_true rfl) rfl ?_
  refine g_aload_n C 77 0 dX5_init_77 rfl rfl ?_
  refine g_new C 78 tyX1 [.null, .int 0, .int 0] 10 353 (fun z => [oB q_t 5 [.ref q7, .ref q15, .ref q23, .ref q31, .ref q39, .ref q48, .ref q56, .int 0, .ref q64, .ref q72, .null], aI cA q7 14 (fun _ => 0), aI cA q15 56 (fun _ => 0), aI cA q23 14 (fun _ => 0), aI cA q31 14 (fun _ => 0), aI cA q39 14 (fun _ => 0), aI cA q48 196 (fun _ => 0), aI cA q56 14 (fun _ => 0), aI cA q64 14 (fun _ => 0), aI cA q72 14 (fun _ => 0), oB z 1 [.null, .int 0, .int 0]]) dX5_init_78 inX1 tyX1_ok kw_505 kw_506 kw_16 rfl (by decide) (by rw [hrc]; exact Nat.le_of_ble_eq_true rfl) (by rw [hrs]; exact Nat.le_of_ble_eq_true rfl) rfl rfl (fun _ => rfl) (fun q78 => ?_)
  refine g_dup C 81 dX5_init_81 rfl ?_
  refine g_callIN C 82 [10] (rest := [.ref q78, .ref q_t]) 11 367 dX5_init_82 (c_X1_init (x_l X) cA q78) (List.mem_of_getElem? (i := 6) rfl) kw_507 kw_16 kw_508 rfl ok_X1_init ⟨Nat.le_of_ble_eq_true rfl, Nat.le_of_ble_eq_true rfl⟩ (by rw [hrc]; exact Nat.le_of_ble_eq_true rfl) (by rw [hrs]; exact Nat.le_of_ble_eq_true rfl) rfl rfl rfl rfl rfl (Nat.le_of_ble_eq_true rfl) ?_
  intro res w1 hB; obtain ⟨q78_q7, rfl, rfl⟩ := hB
  refine ⟨Nat.le_of_ble_eq_true rfl, ?_⟩
  show Go X 1 11 367 85 [oB q_t 5 [.ref q7, .ref q15, .ref q23, .ref q31, .ref q39, .ref q48, .ref q56, .int 0, .ref q64, .ref q72, .null], aI cA q7 14 (fun _ => 0), aI cA q15 56 (fun _ => 0), aI cA q23 14 (fun _ => 0), aI cA q31 14 (fun _ => 0), aI cA q39 14 (fun _ => 0), aI cA q48 196 (fun _ => 0), aI cA q56 14 (fun _ => 0), aI cA q64 14 (fun _ => 0), aI cA q72 14 (fun _ => 0), oB q78 1 [.ref q78_q7, .int 0, .int 0], aI cA q78_q7 14 (fun _ => 0)] [(0, .ref q_t)] [.ref q78, .ref q_t]
  refine g_putF C 85 0 10 (ws' := [oB q_t 5 [.ref q7, .ref q15, .ref q23, .ref q31, .ref q39, .ref q48, .ref q56, .int 0, .ref q64, .ref q72, .ref q78], aI cA q7 14 (fun _ => 0), aI cA q15 56 (fun _ => 0), aI cA q23 14 (fun _ => 0), aI cA q31 14 (fun _ => 0), aI cA q39 14 (fun _ => 0), aI cA q48 196 (fun _ => 0), aI cA q56 14 (fun _ => 0), aI cA q64 14 (fun _ => 0), aI cA q72 14 (fun _ => 0), oB q78 1 [.ref q78_q7, .int 0, .int 0], aI cA q78_q7 14 (fun _ => 0)]) tyX5 dX5_init_85 inX5 tyX5_ok nmX5 rfl rfl (by decide) kw_110 rfl hnm rfl rfl rfl (Nat.le_of_ble_eq_true rfl) rfl ?_
  exact g_vret C 88 dX5_init_88 F ⟨q7, q15, q23, q31, q39, q48, q56, q64, q72, q78, q78_q7, rfl, rfl⟩
def iB_X7 (cA : Nat → ClassId) (q_t : Nat) (q_u : Nat) (q_v : Nat) (q_w : Nat) : Option Value → va_W → Prop := fun res w => ∃ (q7 : Nat) (q15 : Nat) (q23 : Nat) (q31 : Nat) (q39 : Nat) (q48 : Nat) (q57 : Nat), res = none ∧ w = [oB q_t 7 [.ref q7, .int 0, .int 0, .ref q_u, .ref q_v, .ref q_w, .ref q15, .ref q23, .ref q31, .ref q39, .ref q48, .ref q57, .int 0, .int 0, .int 0, .int 0, .long 0], aI cA q7 14 (fun _ => 0), aI cA q15 56 (fun _ => 0), aI cA q23 14 (fun _ => 0), aI cA q31 14 (fun _ => 0), aI cA q39 56 (fun _ => 0), aI cA q48 3584 (fun _ => 0), aI cA q57 3584 (fun _ => 0)]
set_option maxRecDepth 100000 in
set_option maxHeartbeats 1000000 in
theorem c_X7_init (l : Launch) (cA : Nat → ClassId) (q_t : Nat) (q_u : Nat) (q_v : Nat) (q_w : Nat) : MT l cA yX7_init cX7_init 4 none ({ frames := 1, cells := 7, slots := 7322, locals := 20 } : Room) [.ref q_t, .ref q_u, .ref q_v, .ref q_w] [oB q_t 7 [.null, .int 0, .int 0, .null, .null, .null, .null, .null, .null, .null, .null, .null, .int 0, .int 0, .int 0, .int 0, .long 0]] (iB_X7 cA q_t q_u q_v q_w) := by
  refine MT.of (by decide) (Nat.le_of_ble_eq_true rfl) ?_
  intro X hXl C F hnm hrc hrs
  subst hXl
  have C : Cx X cX7_init RX7 none cA 1 20 4 := C
  show Go X 4 0 0 0 [oB q_t 7 [.null, .int 0, .int 0, .null, .null, .null, .null, .null, .null, .null, .null, .null, .int 0, .int 0, .int 0, .int 0, .long 0]] [(0, .ref q_t), (1, .ref q_u), (2, .ref q_v), (3, .ref q_w)] []
  refine g_aload_n C 0 0 dX7_init_0 rfl rfl ?_
  refine g_obj C 1 dX7_init_1 kw_509 kw_496 kw_497 (by decide) (Nat.le_of_ble_eq_true rfl) ?_
  refine g_aload_n C 4 0 dX7_init_4 rfl rfl ?_
  refine g_bipush C 5 (14 : Int32) dX7_init_5 (by decide) ?_
  refine g_newI C 7 14 1 14 (fun z => [oB q_t 7 [.null, .int 0, .int 0, .null, .null, .null, .null, .null, .null, .null, .null, .null, .int 0, .int 0, .int 0, .int 0, .long 0], aI cA z 14 (fun _ => 0)]) dX7_init_7 kw_498 (by decide) (by decide) (by decide) (by rw [hrc]; exact Nat.le_of_ble_eq_true rfl) (by rw [hrs]; exact Nat.le_of_ble_eq_true rfl) rfl rfl (fun _ => rfl) (fun q7 => ?_)
  refine g_putF C 9 0 0 (ws' := [oB q_t 7 [.ref q7, .int 0, .int 0, .null, .null, .null, .null, .null, .null, .null, .null, .null, .int 0, .int 0, .int 0, .int 0, .long 0], aI cA q7 14 (fun _ => 0)]) tyX7 dX7_init_9 inX7 tyX7_ok nmX7 rfl rfl (by decide) kw_144 rfl hnm rfl rfl rfl (Nat.le_of_ble_eq_true rfl) rfl ?_
  refine g_aload_n C 12 0 dX7_init_12 rfl rfl ?_
  refine g_bipush C 13 (56 : Int32) dX7_init_13 (by decide) ?_
  refine g_newI C 15 56 2 70 (fun z => [oB q_t 7 [.ref q7, .int 0, .int 0, .null, .null, .null, .null, .null, .null, .null, .null, .null, .int 0, .int 0, .int 0, .int 0, .long 0], aI cA q7 14 (fun _ => 0), aI cA z 56 (fun _ => 0)]) dX7_init_15 kw_498 (by decide) (by decide) (by decide) (by rw [hrc]; exact Nat.le_of_ble_eq_true rfl) (by rw [hrs]; exact Nat.le_of_ble_eq_true rfl) rfl rfl (fun _ => rfl) (fun q15 => ?_)
  refine g_putF C 17 0 6 (ws' := [oB q_t 7 [.ref q7, .int 0, .int 0, .null, .null, .null, .ref q15, .null, .null, .null, .null, .null, .int 0, .int 0, .int 0, .int 0, .long 0], aI cA q7 14 (fun _ => 0), aI cA q15 56 (fun _ => 0)]) tyX7 dX7_init_17 inX7 tyX7_ok nmX7 rfl rfl (by decide) kw_153 rfl hnm rfl rfl rfl (Nat.le_of_ble_eq_true rfl) rfl ?_
  refine g_aload_n C 20 0 dX7_init_20 rfl rfl ?_
  refine g_bipush C 21 (14 : Int32) dX7_init_21 (by decide) ?_
  refine g_newI C 23 14 3 84 (fun z => [oB q_t 7 [.ref q7, .int 0, .int 0, .null, .null, .null, .ref q15, .null, .null, .null, .null, .null, .int 0, .int 0, .int 0, .int 0, .long 0], aI cA q7 14 (fun _ => 0), aI cA q15 56 (fun _ => 0), aI cA z 14 (fun _ => 0)]) dX7_init_23 kw_498 (by decide) (by decide) (by decide) (by rw [hrc]; exact Nat.le_of_ble_eq_true rfl) (by rw [hrs]; exact Nat.le_of_ble_eq_true rfl) rfl rfl (fun _ => rfl) (fun q23 => ?_)
  refine g_putF C 25 0 7 (ws' := [oB q_t 7 [.ref q7, .int 0, .int 0, .null, .null, .null, .ref q15, .ref q23, .null, .null, .null, .null, .int 0, .int 0, .int 0, .int 0, .long 0], aI cA q7 14 (fun _ => 0), aI cA q15 56 (fun _ => 0), aI cA q23 14 (fun _ => 0)]) tyX7 dX7_init_25 inX7 tyX7_ok nmX7 rfl rfl (by decide) kw_152 rfl hnm rfl rfl rfl (Nat.le_of_ble_eq_true rfl) rfl ?_
  refine g_aload_n C 28 0 dX7_init_28 rfl rfl ?_
  refine g_bipush C 29 (14 : Int32) dX7_init_29 (by decide) ?_
  refine g_newI C 31 14 4 98 (fun z => [oB q_t 7 [.ref q7, .int 0, .int 0, .null, .null, .null, .ref q15, .ref q23, .null, .null, .null, .null, .int 0, .int 0, .int 0, .int 0, .long 0], aI cA q7 14 (fun _ => 0), aI cA q15 56 (fun _ => 0), aI cA q23 14 (fun _ => 0), aI cA z 14 (fun _ => 0)]) dX7_init_31 kw_498 (by decide) (by decide) (by decide) (by rw [hrc]; exact Nat.le_of_ble_eq_true rfl) (by rw [hrs]; exact Nat.le_of_ble_eq_true rfl) rfl rfl (fun _ => rfl) (fun q31 => ?_)
  refine g_putF C 33 0 8 (ws' := [oB q_t 7 [.ref q7, .int 0, .int 0, .null, .null, .null, .ref q15, .ref q23, .ref q31, .null, .null, .null, .int 0, .int 0, .int 0, .int 0, .long 0], aI cA q7 14 (fun _ => 0), aI cA q15 56 (fun _ => 0), aI cA q23 14 (fun _ => 0), aI cA q31 14 (fun _ => 0)]) tyX7 dX7_init_33 inX7 tyX7_ok nmX7 rfl rfl (by decide) kw_154 rfl hnm rfl rfl rfl (Nat.le_of_ble_eq_true rfl) rfl ?_
  refine g_aload_n C 36 0 dX7_init_36 rfl rfl ?_
  refine g_bipush C 37 (56 : Int32) dX7_init_37 (by decide) ?_
  refine g_newI C 39 56 5 154 (fun z => [oB q_t 7 [.ref q7, .int 0, .int 0, .null, .null, .null, .ref q15, .ref q23, .ref q31, .null, .null, .null, .int 0, .int 0, .int 0, .int 0, .long 0], aI cA q7 14 (fun _ => 0), aI cA q15 56 (fun _ => 0), aI cA q23 14 (fun _ => 0), aI cA q31 14 (fun _ => 0), aI cA z 56 (fun _ => 0)]) dX7_init_39 kw_498 (by decide) (by decide) (by decide) (by rw [hrc]; exact Nat.le_of_ble_eq_true rfl) (by rw [hrs]; exact Nat.le_of_ble_eq_true rfl) rfl rfl (fun _ => rfl) (fun q39 => ?_)
  refine g_putF C 41 0 9 (ws' := [oB q_t 7 [.ref q7, .int 0, .int 0, .null, .null, .null, .ref q15, .ref q23, .ref q31, .ref q39, .null, .null, .int 0, .int 0, .int 0, .int 0, .long 0], aI cA q7 14 (fun _ => 0), aI cA q15 56 (fun _ => 0), aI cA q23 14 (fun _ => 0), aI cA q31 14 (fun _ => 0), aI cA q39 56 (fun _ => 0)]) tyX7 dX7_init_41 inX7 tyX7_ok nmX7 rfl rfl (by decide) kw_171 rfl hnm rfl rfl rfl (Nat.le_of_ble_eq_true rfl) rfl ?_
  refine g_aload_n C 44 0 dX7_init_44 rfl rfl ?_
  refine g_sipush C 45 (3584 : Int32) dX7_init_45 (by decide) ?_
  refine g_newI C 48 3584 6 3738 (fun z => [oB q_t 7 [.ref q7, .int 0, .int 0, .null, .null, .null, .ref q15, .ref q23, .ref q31, .ref q39, .null, .null, .int 0, .int 0, .int 0, .int 0, .long 0], aI cA q7 14 (fun _ => 0), aI cA q15 56 (fun _ => 0), aI cA q23 14 (fun _ => 0), aI cA q31 14 (fun _ => 0), aI cA q39 56 (fun _ => 0), aI cA z 3584 (fun _ => 0)]) dX7_init_48 kw_498 (by decide) (by decide) (by decide) (by rw [hrc]; exact Nat.le_of_ble_eq_true rfl) (by rw [hrs]; exact Nat.le_of_ble_eq_true rfl) rfl rfl (fun _ => rfl) (fun q48 => ?_)
  refine g_putF C 50 0 10 (ws' := [oB q_t 7 [.ref q7, .int 0, .int 0, .null, .null, .null, .ref q15, .ref q23, .ref q31, .ref q39, .ref q48, .null, .int 0, .int 0, .int 0, .int 0, .long 0], aI cA q7 14 (fun _ => 0), aI cA q15 56 (fun _ => 0), aI cA q23 14 (fun _ => 0), aI cA q31 14 (fun _ => 0), aI cA q39 56 (fun _ => 0), aI cA q48 3584 (fun _ => 0)]) tyX7 dX7_init_50 inX7 tyX7_ok nmX7 rfl rfl (by decide) kw_179 rfl hnm rfl rfl rfl (Nat.le_of_ble_eq_true rfl) rfl ?_
  refine g_aload_n C 53 0 dX7_init_53 rfl rfl ?_
  refine g_sipush C 54 (3584 : Int32) dX7_init_54 (by decide) ?_
  refine g_newI C 57 3584 7 7322 (fun z => [oB q_t 7 [.ref q7, .int 0, .int 0, .null, .null, .null, .ref q15, .ref q23, .ref q31, .ref q39, .ref q48, .null, .int 0, .int 0, .int 0, .int 0, .long 0], aI cA q7 14 (fun _ => 0), aI cA q15 56 (fun _ => 0), aI cA q23 14 (fun _ => 0), aI cA q31 14 (fun _ => 0), aI cA q39 56 (fun _ => 0), aI cA q48 3584 (fun _ => 0), aI cA z 3584 (fun _ => 0)]) dX7_init_57 kw_498 (by decide) (by decide) (by decide) (by rw [hrc]; exact Nat.le_of_ble_eq_true rfl) (by rw [hrs]; exact Nat.le_of_ble_eq_true rfl) rfl rfl (fun _ => rfl) (fun q57 => ?_)
  refine g_putF C 59 0 11 (ws' := [oB q_t 7 [.ref q7, .int 0, .int 0, .null, .null, .null, .ref q15, .ref q23, .ref q31, .ref q39, .ref q48, .ref q57, .int 0, .int 0, .int 0, .int 0, .long 0], aI cA q7 14 (fun _ => 0), aI cA q15 56 (fun _ => 0), aI cA q23 14 (fun _ => 0), aI cA q31 14 (fun _ => 0), aI cA q39 56 (fun _ => 0), aI cA q48 3584 (fun _ => 0), aI cA q57 3584 (fun _ => 0)]) tyX7 dX7_init_59 inX7 tyX7_ok nmX7 rfl rfl (by decide) kw_178 rfl hnm rfl rfl rfl (Nat.le_of_ble_eq_true rfl) rfl ?_
  refine g_aload_n C 62 0 dX7_init_62 rfl rfl ?_
  refine g_aload_n C 63 1 dX7_init_63 rfl rfl ?_
  refine g_putF C 64 0 3 (ws' := [oB q_t 7 [.ref q7, .int 0, .int 0, .ref q_u, .null, .null, .ref q15, .ref q23, .ref q31, .ref q39, .ref q48, .ref q57, .int 0, .int 0, .int 0, .int 0, .long 0], aI cA q7 14 (fun _ => 0), aI cA q15 56 (fun _ => 0), aI cA q23 14 (fun _ => 0), aI cA q31 14 (fun _ => 0), aI cA q39 56 (fun _ => 0), aI cA q48 3584 (fun _ => 0), aI cA q57 3584 (fun _ => 0)]) tyX7 dX7_init_64 inX7 tyX7_ok nmX7 rfl rfl (by decide) kw_142 rfl hnm rfl rfl rfl (Nat.le_of_ble_eq_true rfl) rfl ?_
  refine g_aload_n C 67 0 dX7_init_67 rfl rfl ?_
  refine g_aload_n C 68 2 dX7_init_68 rfl rfl ?_
  refine g_putF C 69 0 4 (ws' := [oB q_t 7 [.ref q7, .int 0, .int 0, .ref q_u, .ref q_v, .null, .ref q15, .ref q23, .ref q31, .ref q39, .ref q48, .ref q57, .int 0, .int 0, .int 0, .int 0, .long 0], aI cA q7 14 (fun _ => 0), aI cA q15 56 (fun _ => 0), aI cA q23 14 (fun _ => 0), aI cA q31 14 (fun _ => 0), aI cA q39 56 (fun _ => 0), aI cA q48 3584 (fun _ => 0), aI cA q57 3584 (fun _ => 0)]) tyX7 dX7_init_69 inX7 tyX7_ok nmX7 rfl rfl (by decide) kw_145 rfl hnm rfl rfl rfl (Nat.le_of_ble_eq_true rfl) rfl ?_
  refine g_aload_n C 72 0 dX7_init_72 rfl rfl ?_
  refine g_aload_n C 73 3 dX7_init_73 rfl rfl ?_
  refine g_putF C 74 0 5 (ws' := [oB q_t 7 [.ref q7, .int 0, .int 0, .ref q_u, .ref q_v, .ref q_w, .ref q15, .ref q23, .ref q31, .ref q39, .ref q48, .ref q57, .int 0, .int 0, .int 0, .int 0, .long 0], aI cA q7 14 (fun _ => 0), aI cA q15 56 (fun _ => 0), aI cA q23 14 (fun _ => 0), aI cA q31 14 (fun _ => 0), aI cA q39 56 (fun _ => 0), aI cA q48 3584 (fun _ => 0), aI cA q57 3584 (fun _ => 0)]) tyX7 dX7_init_74 inX7 tyX7_ok nmX7 rfl rfl (by decide) kw_163 rfl hnm rfl rfl rfl (Nat.le_of_ble_eq_true rfl) rfl ?_
  exact g_vret C 77 dX7_init_77 F ⟨q7, q15, q23, q31, q39, q48, q57, rfl, rfl⟩
def iB_X8 (cA : Nat → ClassId) (q_t : Nat) : Option Value → va_W → Prop := fun res w => ∃ (q5 : Nat) (q5_q7 : Nat) (q5_q15 : Nat) (q5_q24 : Nat) (q16 : Nat) (q16_q7 : Nat) (q27 : Nat) (q27_q7 : Nat) (q27_q15 : Nat) (q38 : Nat) (q38_q11 : Nat) (q38_q19 : Nat) (q38_q27 : Nat) (q38_q35 : Nat) (q49 : Nat) (q49_q7 : Nat) (q60 : Nat) (q60_q7 : Nat) (q60_q15 : Nat) (q60_q23 : Nat) (q60_q31 : Nat) (q60_q39 : Nat) (q60_q48 : Nat) (q60_q56 : Nat) (q60_q64 : Nat) (q60_q72 : Nat) (q60_q78 : Nat) (q60_q78_q7 : Nat), res = none ∧ w = [oB q_t 8 [.ref q5, .ref q16, .ref q27, .ref q38, .ref q49, .ref q60, .null, .null], oB q5 4 [.ref q5_q7, .ref q5_q15, .ref q5_q24, .int 0, .int 0], aI cA q5_q7 14 (fun _ => 0), aI cA q5_q15 14 (fun _ => 0), aI cA q5_q24 196 (fun _ => 0), oB q16 2 [.ref q16_q7, .int 0, .int 0], aI cA q16_q7 14 (fun _ => 0), oB q27 0 [.ref q27_q7, .ref q27_q15, .int 0], aI cA q27_q7 14 (fun _ => 0), aI cA q27_q15 14 (fun _ => 0), oB q38 3 [.int (2 : Int32), .ref q38_q11, .ref q38_q19, .ref q38_q27, .ref q38_q35], aI cA q38_q11 4 (fun _ => 0), aI cA q38_q19 16 (fun _ => 0), aZ cA q38_q27 16 (fun _ => 0), aI cA q38_q35 14 (fun _ => 0), oB q49 1 [.ref q49_q7, .int 0, .int 0], aI cA q49_q7 14 (fun _ => 0), oB q60 5 [.ref q60_q7, .ref q60_q15, .ref q60_q23, .ref q60_q31, .ref q60_q39, .ref q60_q48, .ref q60_q56, .int 0, .ref q60_q64, .ref q60_q72, .ref q60_q78], aI cA q60_q7 14 (fun _ => 0), aI cA q60_q15 56 (fun _ => 0), aI cA q60_q23 14 (fun _ => 0), aI cA q60_q31 14 (fun _ => 0), aI cA q60_q39 14 (fun _ => 0), aI cA q60_q48 196 (fun _ => 0), aI cA q60_q56 14 (fun _ => 0), aI cA q60_q64 14 (fun _ => 0), aI cA q60_q72 14 (fun _ => 0), oB q60_q78 1 [.ref q60_q78_q7, .int 0, .int 0], aI cA q60_q78_q7 14 (fun _ => 0)]
set_option maxRecDepth 100000 in
set_option maxHeartbeats 1000000 in
theorem c_X8_init (l : Launch) (cA : Nat → ClassId) (q_t : Nat) : MT l cA yX8_init cX8_init 1 none ({ frames := 3, cells := 28, slots := 727, locals := 60 } : Room) [.ref q_t] [oB q_t 8 [.null, .null, .null, .null, .null, .null, .null, .null]] (iB_X8 cA q_t) := by
  refine MT.of (by decide) (Nat.le_of_ble_eq_true rfl) ?_
  intro X hXl C F hnm hrc hrs
  subst hXl
  have C : Cx X cX8_init RX8 none cA 3 60 1 := C
  show Go X 1 0 0 0 [oB q_t 8 [.null, .null, .null, .null, .null, .null, .null, .null]] [(0, .ref q_t)] []
  refine g_aload_n C 0 0 dX8_init_0 rfl rfl ?_
  refine g_obj C 1 dX8_init_1 kw_510 kw_496 kw_497 (by decide) (Nat.le_of_ble_eq_true rfl) ?_
  refine g_aload_n C 4 0 dX8_init_4 rfl rfl ?_
  refine g_new C 5 tyX4 [.null, .null, .null, .int 0, .int 0] 1 5 (fun z => [oB q_t 8 [.null, .null, .null, .null, .null, .null, .null, .null], oB z 4 [.null, .null, .null, .int 0, .int 0]]) dX8_init_5 inX4 tyX4_ok kw_511 kw_512 kw_49 rfl (by decide) (by rw [hrc]; exact Nat.le_of_ble_eq_true rfl) (by rw [hrs]; exact Nat.le_of_ble_eq_true rfl) rfl rfl (fun _ => rfl) (fun q5 => ?_)
  refine g_dup C 8 dX8_init_8 rfl ?_
  refine g_callIN C 9 [1] (rest := [.ref q5, .ref q_t]) 4 229 dX8_init_9 (c_X4_init (x_l X) cA q5) (List.mem_of_getElem? (i := 0) rfl) kw_513 kw_49 kw_514 rfl ok_X4_init ⟨Nat.le_of_ble_eq_true rfl, Nat.le_of_ble_eq_true rfl⟩ (by rw [hrc]; exact Nat.le_of_ble_eq_true rfl) (by rw [hrs]; exact Nat.le_of_ble_eq_true rfl) rfl rfl rfl rfl rfl (Nat.le_of_ble_eq_true rfl) ?_
  intro res w1 hB; obtain ⟨q5_q7, q5_q15, q5_q24, rfl, rfl⟩ := hB
  refine ⟨Nat.le_of_ble_eq_true rfl, ?_⟩
  show Go X 1 4 229 12 [oB q_t 8 [.null, .null, .null, .null, .null, .null, .null, .null], oB q5 4 [.ref q5_q7, .ref q5_q15, .ref q5_q24, .int 0, .int 0], aI cA q5_q7 14 (fun _ => 0), aI cA q5_q15 14 (fun _ => 0), aI cA q5_q24 196 (fun _ => 0)] [(0, .ref q_t)] [.ref q5, .ref q_t]
  refine g_putF C 12 0 0 (ws' := [oB q_t 8 [.ref q5, .null, .null, .null, .null, .null, .null, .null], oB q5 4 [.ref q5_q7, .ref q5_q15, .ref q5_q24, .int 0, .int 0], aI cA q5_q7 14 (fun _ => 0), aI cA q5_q15 14 (fun _ => 0), aI cA q5_q24 196 (fun _ => 0)]) tyX8 dX8_init_12 inX8 tyX8_ok nmX8 rfl rfl (by decide) kw_229 rfl hnm rfl rfl rfl (Nat.le_of_ble_eq_true rfl) rfl ?_
  refine g_aload_n C 15 0 dX8_init_15 rfl rfl ?_
  refine g_new C 16 tyX2 [.null, .int 0, .int 0] 5 232 (fun z => [oB q_t 8 [.ref q5, .null, .null, .null, .null, .null, .null, .null], oB q5 4 [.ref q5_q7, .ref q5_q15, .ref q5_q24, .int 0, .int 0], aI cA q5_q7 14 (fun _ => 0), aI cA q5_q15 14 (fun _ => 0), aI cA q5_q24 196 (fun _ => 0), oB z 2 [.null, .int 0, .int 0]]) dX8_init_16 inX2 tyX2_ok kw_515 kw_516 kw_29 rfl (by decide) (by rw [hrc]; exact Nat.le_of_ble_eq_true rfl) (by rw [hrs]; exact Nat.le_of_ble_eq_true rfl) rfl rfl (fun _ => rfl) (fun q16 => ?_)
  refine g_dup C 19 dX8_init_19 rfl ?_
  refine g_callIN C 20 [5] (rest := [.ref q16, .ref q_t]) 6 246 dX8_init_20 (c_X2_init (x_l X) cA q16) (List.mem_of_getElem? (i := 1) rfl) kw_517 kw_29 kw_518 rfl ok_X2_init ⟨Nat.le_of_ble_eq_true rfl, Nat.le_of_ble_eq_true rfl⟩ (by rw [hrc]; exact Nat.le_of_ble_eq_true rfl) (by rw [hrs]; exact Nat.le_of_ble_eq_true rfl) rfl rfl rfl rfl rfl (Nat.le_of_ble_eq_true rfl) ?_
  intro res w1 hB; obtain ⟨q16_q7, rfl, rfl⟩ := hB
  refine ⟨Nat.le_of_ble_eq_true rfl, ?_⟩
  show Go X 1 6 246 23 [oB q_t 8 [.ref q5, .null, .null, .null, .null, .null, .null, .null], oB q5 4 [.ref q5_q7, .ref q5_q15, .ref q5_q24, .int 0, .int 0], aI cA q5_q7 14 (fun _ => 0), aI cA q5_q15 14 (fun _ => 0), aI cA q5_q24 196 (fun _ => 0), oB q16 2 [.ref q16_q7, .int 0, .int 0], aI cA q16_q7 14 (fun _ => 0)] [(0, .ref q_t)] [.ref q16, .ref q_t]
  refine g_putF C 23 0 1 (ws' := [oB q_t 8 [.ref q5, .ref q16, .null, .null, .null, .null, .null, .null], oB q5 4 [.ref q5_q7, .ref q5_q15, .ref q5_q24, .int 0, .int 0], aI cA q5_q7 14 (fun _ => 0), aI cA q5_q15 14 (fun _ => 0), aI cA q5_q24 196 (fun _ => 0), oB q16 2 [.ref q16_q7, .int 0, .int 0], aI cA q16_q7 14 (fun _ => 0)]) tyX8 dX8_init_23 inX8 tyX8_ok nmX8 rfl rfl (by decide) kw_231 rfl hnm rfl rfl rfl (Nat.le_of_ble_eq_true rfl) rfl ?_
  refine g_aload_n C 26 0 dX8_init_26 rfl rfl ?_
  refine g_new C 27 tyX0 [.null, .null, .int 0] 7 249 (fun z => [oB q_t 8 [.ref q5, .ref q16, .null, .null, .null, .null, .null, .null], oB q5 4 [.ref q5_q7, .ref q5_q15, .ref q5_q24, .int 0, .int 0], aI cA q5_q7 14 (fun _ => 0), aI cA q5_q15 14 (fun _ => 0), aI cA q5_q24 196 (fun _ => 0), oB q16 2 [.ref q16_q7, .int 0, .int 0], aI cA q16_q7 14 (fun _ => 0), oB z 0 [.null, .null, .int 0]]) dX8_init_27 inX0 tyX0_ok kw_519 kw_520 kw_43 rfl (by decide) (by rw [hrc]; exact Nat.le_of_ble_eq_true rfl) (by rw [hrs]; exact Nat.le_of_ble_eq_true rfl) rfl rfl (fun _ => rfl) (fun q27 => ?_)
  refine g_dup C 30 dX8_init_30 rfl ?_
  refine g_callIN C 31 [7] (rest := [.ref q27, .ref q_t]) 9 277 dX8_init_31 (c_X0_init (x_l X) cA q27) (List.mem_of_getElem? (i := 2) rfl) kw_521 kw_43 kw_522 rfl ok_X0_init ⟨Nat.le_of_ble_eq_true rfl, Nat.le_of_ble_eq_true rfl⟩ (by rw [hrc]; exact Nat.le_of_ble_eq_true rfl) (by rw [hrs]; exact Nat.le_of_ble_eq_true rfl) rfl rfl rfl rfl rfl (Nat.le_of_ble_eq_true rfl) ?_
  intro res w1 hB; obtain ⟨q27_q7, q27_q15, rfl, rfl⟩ := hB
  refine ⟨Nat.le_of_ble_eq_true rfl, ?_⟩
  show Go X 1 9 277 34 [oB q_t 8 [.ref q5, .ref q16, .null, .null, .null, .null, .null, .null], oB q5 4 [.ref q5_q7, .ref q5_q15, .ref q5_q24, .int 0, .int 0], aI cA q5_q7 14 (fun _ => 0), aI cA q5_q15 14 (fun _ => 0), aI cA q5_q24 196 (fun _ => 0), oB q16 2 [.ref q16_q7, .int 0, .int 0], aI cA q16_q7 14 (fun _ => 0), oB q27 0 [.ref q27_q7, .ref q27_q15, .int 0], aI cA q27_q7 14 (fun _ => 0), aI cA q27_q15 14 (fun _ => 0)] [(0, .ref q_t)] [.ref q27, .ref q_t]
  refine g_putF C 34 0 2 (ws' := [oB q_t 8 [.ref q5, .ref q16, .ref q27, .null, .null, .null, .null, .null], oB q5 4 [.ref q5_q7, .ref q5_q15, .ref q5_q24, .int 0, .int 0], aI cA q5_q7 14 (fun _ => 0), aI cA q5_q15 14 (fun _ => 0), aI cA q5_q24 196 (fun _ => 0), oB q16 2 [.ref q16_q7, .int 0, .int 0], aI cA q16_q7 14 (fun _ => 0), oB q27 0 [.ref q27_q7, .ref q27_q15, .int 0], aI cA q27_q7 14 (fun _ => 0), aI cA q27_q15 14 (fun _ => 0)]) tyX8 dX8_init_34 inX8 tyX8_ok nmX8 rfl rfl (by decide) kw_236 rfl hnm rfl rfl rfl (Nat.le_of_ble_eq_true rfl) rfl ?_
  refine g_aload_n C 37 0 dX8_init_37 rfl rfl ?_
  refine g_new C 38 tyX3 [.int 0, .null, .null, .null, .null] 10 282 (fun z => [oB q_t 8 [.ref q5, .ref q16, .ref q27, .null, .null, .null, .null, .null], oB q5 4 [.ref q5_q7, .ref q5_q15, .ref q5_q24, .int 0, .int 0], aI cA q5_q7 14 (fun _ => 0), aI cA q5_q15 14 (fun _ => 0), aI cA q5_q24 196 (fun _ => 0), oB q16 2 [.ref q16_q7, .int 0, .int 0], aI cA q16_q7 14 (fun _ => 0), oB q27 0 [.ref q27_q7, .ref q27_q15, .int 0], aI cA q27_q7 14 (fun _ => 0), aI cA q27_q15 14 (fun _ => 0), oB z 3 [.int 0, .null, .null, .null, .null]]) dX8_init_38 inX3 tyX3_ok kw_523 kw_524 kw_149 rfl (by decide) (by rw [hrc]; exact Nat.le_of_ble_eq_true rfl) (by rw [hrs]; exact Nat.le_of_ble_eq_true rfl) rfl rfl (fun _ => rfl) (fun q38 => ?_)
  refine g_dup C 41 dX8_init_41 rfl ?_
  refine g_callIN C 42 [10] (rest := [.ref q38, .ref q_t]) 14 332 dX8_init_42 (c_X3_init (x_l X) cA q38) (List.mem_of_getElem? (i := 3) rfl) kw_525 kw_149 kw_526 rfl ok_X3_init ⟨Nat.le_of_ble_eq_true rfl, Nat.le_of_ble_eq_true rfl⟩ (by rw [hrc]; exact Nat.le_of_ble_eq_true rfl) (by rw [hrs]; exact Nat.le_of_ble_eq_true rfl) rfl rfl rfl rfl rfl (Nat.le_of_ble_eq_true rfl) ?_
  intro res w1 hB; obtain ⟨q38_q11, q38_q19, q38_q27, q38_q35, rfl, rfl⟩ := hB
  refine ⟨Nat.le_of_ble_eq_true rfl, ?_⟩
  show Go X 1 14 332 45 [oB q_t 8 [.ref q5, .ref q16, .ref q27, .null, .null, .null, .null, .null], oB q5 4 [.ref q5_q7, .ref q5_q15, .ref q5_q24, .int 0, .int 0], aI cA q5_q7 14 (fun _ => 0), aI cA q5_q15 14 (fun _ => 0), aI cA q5_q24 196 (fun _ => 0), oB q16 2 [.ref q16_q7, .int 0, .int 0], aI cA q16_q7 14 (fun _ => 0), oB q27 0 [.ref q27_q7, .ref q27_q15, .int 0], aI cA q27_q7 14 (fun _ => 0), aI cA q27_q15 14 (fun _ => 0), oB q38 3 [.int (2 : Int32), .ref q38_q11, .ref q38_q19, .ref q38_q27, .ref q38_q35], aI cA q38_q11 4 (fun _ => 0), aI cA q38_q19 16 (fun _ => 0), aZ cA q38_q27 16 (fun _ => 0), aI cA q38_q35 14 (fun _ => 0)] [(0, .ref q_t)] [.ref q38, .ref q_t]
  refine g_putF C 45 0 3 (ws' := [oB q_t 8 [.ref q5, .ref q16, .ref q27, .ref q38, .null, .null, .null, .null], oB q5 4 [.ref q5_q7, .ref q5_q15, .ref q5_q24, .int 0, .int 0], aI cA q5_q7 14 (fun _ => 0), aI cA q5_q15 14 (fun _ => 0), aI cA q5_q24 196 (fun _ => 0), oB q16 2 [.ref q16_q7, .int 0, .int 0], aI cA q16_q7 14 (fun _ => 0), oB q27 0 [.ref q27_q7, .ref q27_q15, .int 0], aI cA q27_q7 14 (fun _ => 0), aI cA q27_q15 14 (fun _ => 0), oB q38 3 [.int (2 : Int32), .ref q38_q11, .ref q38_q19, .ref q38_q27, .ref q38_q35], aI cA q38_q11 4 (fun _ => 0), aI cA q38_q19 16 (fun _ => 0), aZ cA q38_q27 16 (fun _ => 0), aI cA q38_q35 14 (fun _ => 0)]) tyX8 dX8_init_45 inX8 tyX8_ok nmX8 rfl rfl (by decide) kw_317 rfl hnm rfl rfl rfl (Nat.le_of_ble_eq_true rfl) rfl ?_
  refine g_aload_n C 48 0 dX8_init_48 rfl rfl ?_
  refine g_new C 49 tyX1 [.null, .int 0, .int 0] 15 335 (fun z => [oB q_t 8 [.ref q5, .ref q16, .ref q27, .ref q38, .null, .null, .null, .null], oB q5 4 [.ref q5_q7, .ref q5_q15, .ref q5_q24, .int 0, .int 0], aI cA q5_q7 14 (fun _ => 0), aI cA q5_q15 14 (fun _ => 0), aI cA q5_q24 196 (fun _ => 0), oB q16 2 [.ref q16_q7, .int 0, .int 0], aI cA q16_q7 14 (fun _ => 0), oB q27 0 [.ref q27_q7, .ref q27_q15, .int 0], aI cA q27_q7 14 (fun _ => 0), aI cA q27_q15 14 (fun _ => 0), oB q38 3 [.int (2 : Int32), .ref q38_q11, .ref q38_q19, .ref q38_q27, .ref q38_q35], aI cA q38_q11 4 (fun _ => 0), aI cA q38_q19 16 (fun _ => 0), aZ cA q38_q27 16 (fun _ => 0), aI cA q38_q35 14 (fun _ => 0), oB z 1 [.null, .int 0, .int 0]]) dX8_init_49 inX1 tyX1_ok kw_527 kw_506 kw_16 rfl (by decide) (by rw [hrc]; exact Nat.le_of_ble_eq_true rfl) (by rw [hrs]; exact Nat.le_of_ble_eq_true rfl) rfl rfl (fun _ => rfl) (fun q49 => ?_)
  refine g_dup C 52 dX8_init_52 rfl ?_
  refine g_callIN C 53 [15] (rest := [.ref q49, .ref q_t]) 16 349 dX8_init_53 (c_X1_init (x_l X) cA q49) (List.mem_of_getElem? (i := 4) rfl) kw_507 kw_16 kw_508 rfl ok_X1_init ⟨Nat.le_of_ble_eq_true rfl, Nat.le_of_ble_eq_true rfl⟩ (by rw [hrc]; exact Nat.le_of_ble_eq_true rfl) (by rw [hrs]; exact Nat.le_of_ble_eq_true rfl) rfl rfl rfl rfl rfl (Nat.le_of_ble_eq_true rfl) ?_
  intro res w1 hB; obtain ⟨q49_q7, rfl, rfl⟩ := hB
  refine ⟨Nat.le_of_ble_eq_true rfl, ?_⟩
  show Go X 1 16 349 56 [oB q_t 8 [.ref q5, .ref q16, .ref q27, .ref q38, .null, .null, .null, .null], oB q5 4 [.ref q5_q7, .ref q5_q15, .ref q5_q24, .int 0, .int 0], aI cA q5_q7 14 (fun _ => 0), aI cA q5_q15 14 (fun _ => 0), aI cA q5_q24 196 (fun _ => 0), oB q16 2 [.ref q16_q7, .int 0, .int 0], aI cA q16_q7 14 (fun _ => 0), oB q27 0 [.ref q27_q7, .ref q27_q15, .int 0], aI cA q27_q7 14 (fun _ => 0), aI cA q27_q15 14 (fun _ => 0), oB q38 3 [.int (2 : Int32), .ref q38_q11, .ref q38_q19, .ref q38_q27, .ref q38_q35], aI cA q38_q11 4 (fun _ => 0), aI cA q38_q19 16 (fun _ => 0), aZ cA q38_q27 16 (fun _ => 0), aI cA q38_q35 14 (fun _ => 0), oB q49 1 [.ref q49_q7, .int 0, .int 0], aI cA q49_q7 14 (fun _ => 0)] [(0, .ref q_t)] [.ref q49, .ref q_t]
  refine g_putF C 56 0 4 (ws' := [oB q_t 8 [.ref q5, .ref q16, .ref q27, .ref q38, .ref q49, .null, .null, .null], oB q5 4 [.ref q5_q7, .ref q5_q15, .ref q5_q24, .int 0, .int 0], aI cA q5_q7 14 (fun _ => 0), aI cA q5_q15 14 (fun _ => 0), aI cA q5_q24 196 (fun _ => 0), oB q16 2 [.ref q16_q7, .int 0, .int 0], aI cA q16_q7 14 (fun _ => 0), oB q27 0 [.ref q27_q7, .ref q27_q15, .int 0], aI cA q27_q7 14 (fun _ => 0), aI cA q27_q15 14 (fun _ => 0), oB q38 3 [.int (2 : Int32), .ref q38_q11, .ref q38_q19, .ref q38_q27, .ref q38_q35], aI cA q38_q11 4 (fun _ => 0), aI cA q38_q19 16 (fun _ => 0), aZ cA q38_q27 16 (fun _ => 0), aI cA q38_q35 14 (fun _ => 0), oB q49 1 [.ref q49_q7, .int 0, .int 0], aI cA q49_q7 14 (fun _ => 0)]) tyX8 dX8_init_56 inX8 tyX8_ok nmX8 rfl rfl (by decide) kw_267 rfl hnm rfl rfl rfl (Nat.le_of_ble_eq_true rfl) rfl ?_
  refine g_aload_n C 59 0 dX8_init_59 rfl rfl ?_
  refine g_new C 60 tyX5 [.null, .null, .null, .null, .null, .null, .null, .int 0, .null, .null, .null] 17 360 (fun z => [oB q_t 8 [.ref q5, .ref q16, .ref q27, .ref q38, .ref q49, .null, .null, .null], oB q5 4 [.ref q5_q7, .ref q5_q15, .ref q5_q24, .int 0, .int 0], aI cA q5_q7 14 (fun _ => 0), aI cA q5_q15 14 (fun _ => 0), aI cA q5_q24 196 (fun _ => 0), oB q16 2 [.ref q16_q7, .int 0, .int 0], aI cA q16_q7 14 (fun _ => 0), oB q27 0 [.ref q27_q7, .ref q27_q15, .int 0], aI cA q27_q7 14 (fun _ => 0), aI cA q27_q15 14 (fun _ => 0), oB q38 3 [.int (2 : Int32), .ref q38_q11, .ref q38_q19, .ref q38_q27, .ref q38_q35], aI cA q38_q11 4 (fun _ => 0), aI cA q38_q19 16 (fun _ => 0), aZ cA q38_q27 16 (fun _ => 0), aI cA q38_q35 14 (fun _ => 0), oB q49 1 [.ref q49_q7, .int 0, .int 0], aI cA q49_q7 14 (fun _ => 0), oB z 5 [.null, .null, .null, .null, .null, .null, .null, .int 0, .null, .null, .null]]) dX8_init_60 inX5 tyX5_ok kw_528 kw_529 kw_131 rfl (by decide) (by rw [hrc]; exact Nat.le_of_ble_eq_true rfl) (by rw [hrs]; exact Nat.le_of_ble_eq_true rfl) rfl rfl (fun _ => rfl) (fun q60 => ?_)
  refine g_dup C 63 dX8_init_63 rfl ?_
  refine g_callIN C 64 [17] (rest := [.ref q60, .ref q_t]) 28 727 dX8_init_64 (c_X5_init (x_l X) cA q60) (List.mem_of_getElem? (i := 5) rfl) kw_530 kw_131 kw_531 rfl ok_X5_init ⟨Nat.le_of_ble_eq_true rfl, Nat.le_of_ble_eq_true rfl⟩ (by rw [hrc]; exact Nat.le_of_ble_eq_true rfl) (by rw [hrs]; exact Nat.le_of_ble_eq_true rfl) rfl rfl rfl rfl rfl (Nat.le_of_ble_eq_true rfl) ?_
  intro res w1 hB; obtain ⟨q60_q7, q60_q15, q60_q23, q60_q31, q60_q39, q60_q48, q60_q56, q60_q64, q60_q72, q60_q78, q60_q78_q7, rfl, rfl⟩ := hB
  refine ⟨Nat.le_of_ble_eq_true rfl, ?_⟩
  show Go X 1 28 727 67 [oB q_t 8 [.ref q5, .ref q16, .ref q27, .ref q38, .ref q49, .null, .null, .null], oB q5 4 [.ref q5_q7, .ref q5_q15, .ref q5_q24, .int 0, .int 0], aI cA q5_q7 14 (fun _ => 0), aI cA q5_q15 14 (fun _ => 0), aI cA q5_q24 196 (fun _ => 0), oB q16 2 [.ref q16_q7, .int 0, .int 0], aI cA q16_q7 14 (fun _ => 0), oB q27 0 [.ref q27_q7, .ref q27_q15, .int 0], aI cA q27_q7 14 (fun _ => 0), aI cA q27_q15 14 (fun _ => 0), oB q38 3 [.int (2 : Int32), .ref q38_q11, .ref q38_q19, .ref q38_q27, .ref q38_q35], aI cA q38_q11 4 (fun _ => 0), aI cA q38_q19 16 (fun _ => 0), aZ cA q38_q27 16 (fun _ => 0), aI cA q38_q35 14 (fun _ => 0), oB q49 1 [.ref q49_q7, .int 0, .int 0], aI cA q49_q7 14 (fun _ => 0), oB q60 5 [.ref q60_q7, .ref q60_q15, .ref q60_q23, .ref q60_q31, .ref q60_q39, .ref q60_q48, .ref q60_q56, .int 0, .ref q60_q64, .ref q60_q72, .ref q60_q78], aI cA q60_q7 14 (fun _ => 0), aI cA q60_q15 56 (fun _ => 0), aI cA q60_q23 14 (fun _ => 0), aI cA q60_q31 14 (fun _ => 0), aI cA q60_q39 14 (fun _ => 0), aI cA q60_q48 196 (fun _ => 0), aI cA q60_q56 14 (fun _ => 0), aI cA q60_q64 14 (fun _ => 0), aI cA q60_q72 14 (fun _ => 0), oB q60_q78 1 [.ref q60_q78_q7, .int 0, .int 0], aI cA q60_q78_q7 14 (fun _ => 0)] [(0, .ref q_t)] [.ref q60, .ref q_t]
  refine g_putF C 67 0 5 (ws' := [oB q_t 8 [.ref q5, .ref q16, .ref q27, .ref q38, .ref q49, .ref q60, .null, .null], oB q5 4 [.ref q5_q7, .ref q5_q15, .ref q5_q24, .int 0, .int 0], aI cA q5_q7 14 (fun _ => 0), aI cA q5_q15 14 (fun _ => 0), aI cA q5_q24 196 (fun _ => 0), oB q16 2 [.ref q16_q7, .int 0, .int 0], aI cA q16_q7 14 (fun _ => 0), oB q27 0 [.ref q27_q7, .ref q27_q15, .int 0], aI cA q27_q7 14 (fun _ => 0), aI cA q27_q15 14 (fun _ => 0), oB q38 3 [.int (2 : Int32), .ref q38_q11, .ref q38_q19, .ref q38_q27, .ref q38_q35], aI cA q38_q11 4 (fun _ => 0), aI cA q38_q19 16 (fun _ => 0), aZ cA q38_q27 16 (fun _ => 0), aI cA q38_q35 14 (fun _ => 0), oB q49 1 [.ref q49_q7, .int 0, .int 0], aI cA q49_q7 14 (fun _ => 0), oB q60 5 [.ref q60_q7, .ref q60_q15, .ref q60_q23, .ref q60_q31, .ref q60_q39, .ref q60_q48, .ref q60_q56, .int 0, .ref q60_q64, .ref q60_q72, .ref q60_q78], aI cA q60_q7 14 (fun _ => 0), aI cA q60_q15 56 (fun _ => 0), aI cA q60_q23 14 (fun _ => 0), aI cA q60_q31 14 (fun _ => 0), aI cA q60_q39 14 (fun _ => 0), aI cA q60_q48 196 (fun _ => 0), aI cA q60_q56 14 (fun _ => 0), aI cA q60_q64 14 (fun _ => 0), aI cA q60_q72 14 (fun _ => 0), oB q60_q78 1 [.ref q60_q78_q7, .int 0, .int 0], aI cA q60_q78_q7 14 (fun _ => 0)]) tyX8 dX8_init_67 inX8 tyX8_ok nmX8 rfl rfl (by decide) kw_532 rfl hnm rfl rfl rfl (Nat.le_of_ble_eq_true rfl) rfl ?_
  exact g_vret C 70 dX8_init_70 F ⟨q5, q5_q7, q5_q15, q5_q24, q16, q16_q7, q27, q27_q7, q27_q15, q38, q38_q11, q38_q19, q38_q27, q38_q35, q49, q49_q7, q60, q60_q7, q60_q15, q60_q23, q60_q31, q60_q39, q60_q48, q60_q56, q60_q64, q60_q72, q60_q78, q60_q78_q7, rfl, rfl⟩
def iB_X9 (cA : Nat → ClassId) (q_t : Nat) : Option Value → va_W → Prop := fun res w => ∃ (q12 : Nat) (q20 : Nat) (q29 : Nat) (q42 : Nat) (q55 : Nat) (q63 : Nat) (q72 : Nat) (q84 : Nat) (q92 : Nat) (q100 : Nat) (q108 : Nat) (q116 : Nat) (q124 : Nat) (q133 : Nat) (q142 : Nat) (q151 : Nat), res = none ∧ w = [oB q_t 9 [.int (0 : Int32), .ref q12, .ref q20, .ref q29, .int (0 : Int32), .ref q42, .int (0 : Int32), .ref q55, .ref q63, .ref q72, .int (2 : Int32), .ref q84, .ref q92, .ref q100, .ref q108, .ref q116, .ref q124, .ref q133, .ref q142, .ref q151, .long (0 : Int64), .long (0 : Int64), .long (0 : Int64)], aI cA q12 14 (fun _ => 0), aI cA q20 14 (fun _ => 0), aI cA q29 196 (fun _ => 0), aI cA q42 14 (fun _ => 0), aI cA q55 14 (fun _ => 0), aI cA q63 14 (fun _ => 0), aI cA q72 16384 (fun _ => 0), aI cA q84 4 (fun _ => 0), aI cA q92 16 (fun _ => 0), aI cA q100 14 (fun _ => 0), aZ cA q108 16 (fun _ => 0), aI cA q116 14 (fun _ => 0), aI cA q124 14 (fun _ => 0), aJ cA q133 14336 (fun _ => 0), aJ cA q142 14336 (fun _ => 0), aJ cA q151 14336 (fun _ => 0)]
set_option maxRecDepth 100000 in
set_option maxHeartbeats 1000000 in
theorem c_X9_init (l : Launch) (cA : Nat → ClassId) (q_t : Nat) : MT l cA yX9_init cX9_init 1 none ({ frames := 1, cells := 16, slots := 59736, locals := 20 } : Room) [.ref q_t] [oB q_t 9 [.int 0, .null, .null, .null, .int 0, .null, .int 0, .null, .null, .null, .int 0, .null, .null, .null, .null, .null, .null, .null, .null, .null, .long 0, .long 0, .long 0]] (iB_X9 cA q_t) := by
  refine MT.of (by decide) (Nat.le_of_ble_eq_true rfl) ?_
  intro X hXl C F hnm hrc hrs
  subst hXl
  have C : Cx X cX9_init RX9 none cA 1 20 1 := C
  show Go X 1 0 0 0 [oB q_t 9 [.int 0, .null, .null, .null, .int 0, .null, .int 0, .null, .null, .null, .int 0, .null, .null, .null, .null, .null, .null, .null, .null, .null, .long 0, .long 0, .long 0]] [(0, .ref q_t)] []
  refine g_aload_n C 0 0 dX9_init_0 rfl rfl ?_
  refine g_obj C 1 dX9_init_1 kw_533 kw_496 kw_497 (by decide) (Nat.le_of_ble_eq_true rfl) ?_
  refine g_aload_n C 4 0 dX9_init_4 rfl rfl ?_
  refine g_iconst C 5 (0 : Int32) dX9_init_5 (by decide) ?_
  refine g_putV C 6 0 0 (ws' := [oB q_t 9 [.int (0 : Int32), .null, .null, .null, .int 0, .null, .int 0, .null, .null, .null, .int 0, .null, .null, .null, .null, .null, .null, .null, .null, .null, .long 0, .long 0, .long 0]]) tyX9 dX9_init_6 inX9 tyX9_ok nmX9 rfl rfl (by decide) kw_339 rfl rfl rfl (Nat.le_of_ble_eq_true rfl) rfl ?_
  refine g_aload_n C 9 0 dX9_init_9 rfl rfl ?_
  refine g_bipush C 10 (14 : Int32) dX9_init_10 (by decide) ?_
  refine g_newI C 12 14 1 14 (fun z => [oB q_t 9 [.int (0 : Int32), .null, .null, .null, .int 0, .null, .int 0, .null, .null, .null, .int 0, .null, .null, .null, .null, .null, .null, .null, .null, .null, .long 0, .long 0, .long 0], aI cA z 14 (fun _ => 0)]) dX9_init_12 kw_498 (by decide) (by decide) (by decide) (by rw [hrc]; exact Nat.le_of_ble_eq_true rfl) (by rw [hrs]; exact Nat.le_of_ble_eq_true rfl) rfl rfl (fun _ => rfl) (fun q12 => ?_)
  refine g_putF C 14 0 1 (ws' := [oB q_t 9 [.int (0 : Int32), .ref q12, .null, .null, .int 0, .null, .int 0, .null, .null, .null, .int 0, .null, .null, .null, .null, .null, .null, .null, .null, .null, .long 0, .long 0, .long 0], aI cA q12 14 (fun _ => 0)]) tyX9 dX9_init_14 inX9 tyX9_ok nmX9 rfl rfl (by decide) kw_345 rfl hnm rfl rfl rfl (Nat.le_of_ble_eq_true rfl) rfl ?_
  refine g_aload_n C 17 0 dX9_init_17 rfl rfl ?_
  refine g_bipush C 18 (14 : Int32) dX9_init_18 (by decide) ?_
  refine g_newI C 20 14 2 28 (fun z => [oB q_t 9 [.int (0 : Int32), .ref q12, .null, .null, .int 0, .null, .int 0, .null, .null, .null, .int 0, .null, .null, .null, .null, .null, .null, .null, .null, .null, .long 0, .long 0, .long 0], aI cA q12 14 (fun _ => 0), aI cA z 14 (fun _ => 0)]) dX9_init_20 kw_498 (by decide) (by decide) (by decide) (by rw [hrc]; exact Nat.le_of_ble_eq_true rfl) (by rw [hrs]; exact Nat.le_of_ble_eq_true rfl) rfl rfl (fun _ => rfl) (fun q20 => ?_)
  refine g_putF C 22 0 2 (ws' := [oB q_t 9 [.int (0 : Int32), .ref q12, .ref q20, .null, .int 0, .null, .int 0, .null, .null, .null, .int 0, .null, .null, .null, .null, .null, .null, .null, .null, .null, .long 0, .long 0, .long 0], aI cA q12 14 (fun _ => 0), aI cA q20 14 (fun _ => 0)]) tyX9 dX9_init_22 inX9 tyX9_ok nmX9 rfl rfl (by decide) kw_346 rfl hnm rfl rfl rfl (Nat.le_of_ble_eq_true rfl) rfl ?_
  refine g_aload_n C 25 0 dX9_init_25 rfl rfl ?_
  refine g_sipush C 26 (196 : Int32) dX9_init_26 (by decide) ?_
  refine g_newI C 29 196 3 224 (fun z => [oB q_t 9 [.int (0 : Int32), .ref q12, .ref q20, .null, .int 0, .null, .int 0, .null, .null, .null, .int 0, .null, .null, .null, .null, .null, .null, .null, .null, .null, .long 0, .long 0, .long 0], aI cA q12 14 (fun _ => 0), aI cA q20 14 (fun _ => 0), aI cA z 196 (fun _ => 0)]) dX9_init_29 kw_498 (by decide) (by decide) (by decide) (by rw [hrc]; exact Nat.le_of_ble_eq_true rfl) (by rw [hrs]; exact Nat.le_of_ble_eq_true rfl) rfl rfl (fun _ => rfl) (fun q29 => ?_)
  refine g_putF C 31 0 3 (ws' := [oB q_t 9 [.int (0 : Int32), .ref q12, .ref q20, .ref q29, .int 0, .null, .int 0, .null, .null, .null, .int 0, .null, .null, .null, .null, .null, .null, .null, .null, .null, .long 0, .long 0, .long 0], aI cA q12 14 (fun _ => 0), aI cA q20 14 (fun _ => 0), aI cA q29 196 (fun _ => 0)]) tyX9 dX9_init_31 inX9 tyX9_ok nmX9 rfl rfl (by decide) kw_353 rfl hnm rfl rfl rfl (Nat.le_of_ble_eq_true rfl) rfl ?_
  refine g_aload_n C 34 0 dX9_init_34 rfl rfl ?_
  refine g_iconst C 35 (0 : Int32) dX9_init_35 (by decide) ?_
  refine g_putV C 36 0 4 (ws' := [oB q_t 9 [.int (0 : Int32), .ref q12, .ref q20, .ref q29, .int (0 : Int32), .null, .int 0, .null, .null, .null, .int 0, .null, .null, .null, .null, .null, .null, .null, .null, .null, .long 0, .long 0, .long 0], aI cA q12 14 (fun _ => 0), aI cA q20 14 (fun _ => 0), aI cA q29 196 (fun _ => 0)]) tyX9 dX9_init_36 inX9 tyX9_ok nmX9 rfl rfl (by decide) kw_347 rfl rfl rfl (Nat.le_of_ble_eq_true rfl) rfl ?_
  refine g_aload_n C 39 0 dX9_init_39 rfl rfl ?_
  refine g_bipush C 40 (14 : Int32) dX9_init_40 (by decide) ?_
  refine g_newI C 42 14 4 238 (fun z => [oB q_t 9 [.int (0 : Int32), .ref q12, .ref q20, .ref q29, .int (0 : Int32), .null, .int 0, .null, .null, .null, .int 0, .null, .null, .null, .null, .null, .null, .null, .null, .null, .long 0, .long 0, .long 0], aI cA q12 14 (fun _ => 0), aI cA q20 14 (fun _ => 0), aI cA q29 196 (fun _ => 0), aI cA z 14 (fun _ => 0)]) dX9_init_42 kw_498 (by decide) (by decide) (by decide) (by rw [hrc]; exact Nat.le_of_ble_eq_true rfl) (by rw [hrs]; exact Nat.le_of_ble_eq_true rfl) rfl rfl (fun _ => rfl) (fun q42 => ?_)
  refine g_putF C 44 0 5 (ws' := [oB q_t 9 [.int (0 : Int32), .ref q12, .ref q20, .ref q29, .int (0 : Int32), .ref q42, .int 0, .null, .null, .null, .int 0, .null, .null, .null, .null, .null, .null, .null, .null, .null, .long 0, .long 0, .long 0], aI cA q12 14 (fun _ => 0), aI cA q20 14 (fun _ => 0), aI cA q29 196 (fun _ => 0), aI cA q42 14 (fun _ => 0)]) tyX9 dX9_init_44 inX9 tyX9_ok nmX9 rfl rfl (by decide) kw_358 rfl hnm rfl rfl rfl (Nat.le_of_ble_eq_true rfl) rfl ?_
  refine g_aload_n C 47 0 dX9_init_47 rfl rfl ?_
  refine g_iconst C 48 (0 : Int32) dX9_init_48 (by decide) ?_
  refine g_putV C 49 0 6 (ws' := [oB q_t 9 [.int (0 : Int32), .ref q12, .ref q20, .ref q29, .int (0 : Int32), .ref q42, .int (0 : Int32), .null, .null, .null, .int 0, .null, .null, .null, .null, .null, .null, .null, .null, .null, .long 0, .long 0, .long 0], aI cA q12 14 (fun _ => 0), aI cA q20 14 (fun _ => 0), aI cA q29 196 (fun _ => 0), aI cA q42 14 (fun _ => 0)]) tyX9 dX9_init_49 inX9 tyX9_ok nmX9 rfl rfl (by decide) kw_348 rfl rfl rfl (Nat.le_of_ble_eq_true rfl) rfl ?_
  refine g_aload_n C 52 0 dX9_init_52 rfl rfl ?_
  refine g_bipush C 53 (14 : Int32) dX9_init_53 (by decide) ?_
  refine g_newI C 55 14 5 252 (fun z => [oB q_t 9 [.int (0 : Int32), .ref q12, .ref q20, .ref q29, .int (0 : Int32), .ref q42, .int (0 : Int32), .null, .null, .null, .int 0, .null, .null, .null, .null, .null, .null, .null, .null, .null, .long 0, .long 0, .long 0], aI cA q12 14 (fun _ => 0), aI cA q20 14 (fun _ => 0), aI cA q29 196 (fun _ => 0), aI cA q42 14 (fun _ => 0), aI cA z 14 (fun _ => 0)]) dX9_init_55 kw_498 (by decide) (by decide) (by decide) (by rw [hrc]; exact Nat.le_of_ble_eq_true rfl) (by rw [hrs]; exact Nat.le_of_ble_eq_true rfl) rfl rfl (fun _ => rfl) (fun q55 => ?_)
  refine g_putF C 57 0 7 (ws' := [oB q_t 9 [.int (0 : Int32), .ref q12, .ref q20, .ref q29, .int (0 : Int32), .ref q42, .int (0 : Int32), .ref q55, .null, .null, .int 0, .null, .null, .null, .null, .null, .null, .null, .null, .null, .long 0, .long 0, .long 0], aI cA q12 14 (fun _ => 0), aI cA q20 14 (fun _ => 0), aI cA q29 196 (fun _ => 0), aI cA q42 14 (fun _ => 0), aI cA q55 14 (fun _ => 0)]) tyX9 dX9_init_57 inX9 tyX9_ok nmX9 rfl rfl (by decide) kw_371 rfl hnm rfl rfl rfl (Nat.le_of_ble_eq_true rfl) rfl ?_
  refine g_aload_n C 60 0 dX9_init_60 rfl rfl ?_
  refine g_bipush C 61 (14 : Int32) dX9_init_61 (by decide) ?_
  refine g_newI C 63 14 6 266 (fun z => [oB q_t 9 [.int (0 : Int32), .ref q12, .ref q20, .ref q29, .int (0 : Int32), .ref q42, .int (0 : Int32), .ref q55, .null, .null, .int 0, .null, .null, .null, .null, .null, .null, .null, .null, .null, .long 0, .long 0, .long 0], aI cA q12 14 (fun _ => 0), aI cA q20 14 (fun _ => 0), aI cA q29 196 (fun _ => 0), aI cA q42 14 (fun _ => 0), aI cA q55 14 (fun _ => 0), aI cA z 14 (fun _ => 0)]) dX9_init_63 kw_498 (by decide) (by decide) (by decide) (by rw [hrc]; exact Nat.le_of_ble_eq_true rfl) (by rw [hrs]; exact Nat.le_of_ble_eq_true rfl) rfl rfl (fun _ => rfl) (fun q63 => ?_)
  refine g_putF C 65 0 8 (ws' := [oB q_t 9 [.int (0 : Int32), .ref q12, .ref q20, .ref q29, .int (0 : Int32), .ref q42, .int (0 : Int32), .ref q55, .ref q63, .null, .int 0, .null, .null, .null, .null, .null, .null, .null, .null, .null, .long 0, .long 0, .long 0], aI cA q12 14 (fun _ => 0), aI cA q20 14 (fun _ => 0), aI cA q29 196 (fun _ => 0), aI cA q42 14 (fun _ => 0), aI cA q55 14 (fun _ => 0), aI cA q63 14 (fun _ => 0)]) tyX9 dX9_init_65 inX9 tyX9_ok nmX9 rfl rfl (by decide) kw_380 rfl hnm rfl rfl rfl (Nat.le_of_ble_eq_true rfl) rfl ?_
  refine g_aload_n C 68 0 dX9_init_68 rfl rfl ?_
  refine g_sipush C 69 (16384 : Int32) dX9_init_69 (by decide) ?_
  refine g_newI C 72 16384 7 16650 (fun z => [oB q_t 9 [.int (0 : Int32), .ref q12, .ref q20, .ref q29, .int (0 : Int32), .ref q42, .int (0 : Int32), .ref q55, .ref q63, .null, .int 0, .null, .null, .null, .null, .null, .null, .null, .null, .null, .long 0, .long 0, .long 0], aI cA q12 14 (fun _ => 0), aI cA q20 14 (fun _ => 0), aI cA q29 196 (fun _ => 0), aI cA q42 14 (fun _ => 0), aI cA q55 14 (fun _ => 0), aI cA q63 14 (fun _ => 0), aI cA z 16384 (fun _ => 0)]) dX9_init_72 kw_498 (by decide) (by decide) (by decide) (by rw [hrc]; exact Nat.le_of_ble_eq_true rfl) (by rw [hrs]; exact Nat.le_of_ble_eq_true rfl) rfl rfl (fun _ => rfl) (fun q72 => ?_)
  refine g_putF C 74 0 9 (ws' := [oB q_t 9 [.int (0 : Int32), .ref q12, .ref q20, .ref q29, .int (0 : Int32), .ref q42, .int (0 : Int32), .ref q55, .ref q63, .ref q72, .int 0, .null, .null, .null, .null, .null, .null, .null, .null, .null, .long 0, .long 0, .long 0], aI cA q12 14 (fun _ => 0), aI cA q20 14 (fun _ => 0), aI cA q29 196 (fun _ => 0), aI cA q42 14 (fun _ => 0), aI cA q55 14 (fun _ => 0), aI cA q63 14 (fun _ => 0), aI cA q72 16384 (fun _ => 0)]) tyX9 dX9_init_74 inX9 tyX9_ok nmX9 rfl rfl (by decide) kw_389 rfl hnm rfl rfl rfl (Nat.le_of_ble_eq_true rfl) rfl ?_
  refine g_aload_n C 77 0 dX9_init_77 rfl rfl ?_
  refine g_iconst C 78 (2 : Int32) dX9_init_78 (by decide) ?_
  refine g_putV C 79 0 10 (ws' := [oB q_t 9 [.int (0 : Int32), .ref q12, .ref q20, .ref q29, .int (0 : Int32), .ref q42, .int (0 : Int32), .ref q55, .ref q63, .ref q72, .int (2 : Int32), .null, .null, .null, .null, .null, .null, .null, .null, .null, .long 0, .long 0, .long 0], aI cA q12 14 (fun _ => 0), aI cA q20 14 (fun _ => 0), aI cA q29 196 (fun _ => 0), aI cA q42 14 (fun _ => 0), aI cA q55 14 (fun _ => 0), aI cA q63 14 (fun _ => 0), aI cA q72 16384 (fun _ => 0)]) tyX9 dX9_init_79 inX9 tyX9_ok nmX9 rfl rfl (by decide) kw_398 rfl rfl rfl (Nat.le_of_ble_eq_true rfl) rfl ?_
  refine g_aload_n C 82 0 dX9_init_82 rfl rfl ?_
  refine g_iconst C 83 (4 : Int32) dX9_init_83 (by decide) ?_
  refine g_newI C 84 4 8 16654 (fun z => [oB q_t 9 [.int (0 : Int32), .ref q12, .ref q20, .ref q29, .int (0 : Int32), .ref q42, .int (0 : Int32), .ref q55, .ref q63, .ref q72, .int (2 : Int32), .null, .null, .null, .null, .null, .null, .null, .null, .null, .long 0, .long 0, .long 0], aI cA q12 14 (fun _ => 0), aI cA q20 14 (fun _ => 0), aI cA q29 196 (fun _ => 0), aI cA q42 14 (fun _ => 0), aI cA q55 14 (fun _ => 0), aI cA q63 14 (fun _ => 0), aI cA q72 16384 (fun _ => 0), aI cA z 4 (fun _ => 0)]) dX9_init_84 kw_498 (by decide) (by decide) (by decide) (by rw [hrc]; exact Nat.le_of_ble_eq_true rfl) (by rw [hrs]; exact Nat.le_of_ble_eq_true rfl) rfl rfl (fun _ => rfl) (fun q84 => ?_)
  refine g_putF C 86 0 11 (ws' := [oB q_t 9 [.int (0 : Int32), .ref q12, .ref q20, .ref q29, .int (0 : Int32), .ref q42, .int (0 : Int32), .ref q55, .ref q63, .ref q72, .int (2 : Int32), .ref q84, .null, .null, .null, .null, .null, .null, .null, .null, .long 0, .long 0, .long 0], aI cA q12 14 (fun _ => 0), aI cA q20 14 (fun _ => 0), aI cA q29 196 (fun _ => 0), aI cA q42 14 (fun _ => 0), aI cA q55 14 (fun _ => 0), aI cA q63 14 (fun _ => 0), aI cA q72 16384 (fun _ => 0), aI cA q84 4 (fun _ => 0)]) tyX9 dX9_init_86 inX9 tyX9_ok nmX9 rfl rfl (by decide) kw_402 rfl hnm rfl rfl rfl (Nat.le_of_ble_eq_true rfl) rfl ?_
  refine g_aload_n C 89 0 dX9_init_89 rfl rfl ?_
  refine g_bipush C 90 (16 : Int32) dX9_init_90 (by decide) ?_
  refine g_newI C 92 16 9 16670 (fun z => [oB q_t 9 [.int (0 : Int32), .ref q12, .ref q20, .ref q29, .int (0 : Int32), .ref q42, .int (0 : Int32), .ref q55, .ref q63, .ref q72, .int (2 : Int32), .ref q84, .null, .null, .null, .null, .null, .null, .null, .null, .long 0, .long 0, .long 0], aI cA q12 14 (fun _ => 0), aI cA q20 14 (fun _ => 0), aI cA q29 196 (fun _ => 0), aI cA q42 14 (fun _ => 0), aI cA q55 14 (fun _ => 0), aI cA q63 14 (fun _ => 0), aI cA q72 16384 (fun _ => 0), aI cA q84 4 (fun _ => 0), aI cA z 16 (fun _ => 0)]) dX9_init_92 kw_498 (by decide) (by decide) (by decide) (by rw [hrc]; exact Nat.le_of_ble_eq_true rfl) (by rw [hrs]; exact Nat.le_of_ble_eq_true rfl) rfl rfl (fun _ => rfl) (fun q92 => ?_)
  refine g_putF C 94 0 12 (ws' := [oB q_t 9 [.int (0 : Int32), .ref q12, .ref q20, .ref q29, .int (0 : Int32), .ref q42, .int (0 : Int32), .ref q55, .ref q63, .ref q72, .int (2 : Int32), .ref q84, .ref q92, .null, .null, .null, .null, .null, .null, .null, .long 0, .long 0, .long 0], aI cA q12 14 (fun _ => 0), aI cA q20 14 (fun _ => 0), aI cA q29 196 (fun _ => 0), aI cA q42 14 (fun _ => 0), aI cA q55 14 (fun _ => 0), aI cA q63 14 (fun _ => 0), aI cA q72 16384 (fun _ => 0), aI cA q84 4 (fun _ => 0), aI cA q92 16 (fun _ => 0)]) tyX9 dX9_init_94 inX9 tyX9_ok nmX9 rfl rfl (by decide) kw_400 rfl hnm rfl rfl rfl (Nat.le_of_ble_eq_true rfl) rfl ?_
  refine g_aload_n C 97 0 dX9_init_97 rfl rfl ?_
  refine g_bipush C 98 (14 : Int32) dX9_init_98 (by decide) ?_
  refine g_newI C 100 14 10 16684 (fun z => [oB q_t 9 [.int (0 : Int32), .ref q12, .ref q20, .ref q29, .int (0 : Int32), .ref q42, .int (0 : Int32), .ref q55, .ref q63, .ref q72, .int (2 : Int32), .ref q84, .ref q92, .null, .null, .null, .null, .null, .null, .null, .long 0, .long 0, .long 0], aI cA q12 14 (fun _ => 0), aI cA q20 14 (fun _ => 0), aI cA q29 196 (fun _ => 0), aI cA q42 14 (fun _ => 0), aI cA q55 14 (fun _ => 0), aI cA q63 14 (fun _ => 0), aI cA q72 16384 (fun _ => 0), aI cA q84 4 (fun _ => 0), aI cA q92 16 (fun _ => 0), aI cA z 14 (fun _ => 0)]) dX9_init_100 kw_498 (by decide) (by decide) (by decide) (by rw [hrc]; exact Nat.le_of_ble_eq_true rfl) (by rw [hrs]; exact Nat.le_of_ble_eq_true rfl) rfl rfl (fun _ => rfl) (fun q100 => ?_)
  refine g_putF C 102 0 13 (ws' := [oB q_t 9 [.int (0 : Int32), .ref q12, .ref q20, .ref q29, .int (0 : Int32), .ref q42, .int (0 : Int32), .ref q55, .ref q63, .ref q72, .int (2 : Int32), .ref q84, .ref q92, .ref q100, .null, .null, .null, .null, .null, .null, .long 0, .long 0, .long 0], aI cA q12 14 (fun _ => 0), aI cA q20 14 (fun _ => 0), aI cA q29 196 (fun _ => 0), aI cA q42 14 (fun _ => 0), aI cA q55 14 (fun _ => 0), aI cA q63 14 (fun _ => 0), aI cA q72 16384 (fun _ => 0), aI cA q84 4 (fun _ => 0), aI cA q92 16 (fun _ => 0), aI cA q100 14 (fun _ => 0)]) tyX9 dX9_init_102 inX9 tyX9_ok nmX9 rfl rfl (by decide) kw_399 rfl hnm rfl rfl rfl (Nat.le_of_ble_eq_true rfl) rfl ?_
  refine g_aload_n C 105 0 dX9_init_105 rfl rfl ?_
  refine g_bipush C 106 (16 : Int32) dX9_init_106 (by decide) ?_
  refine g_newZ C 108 16 11 16700 (fun z => [oB q_t 9 [.int (0 : Int32), .ref q12, .ref q20, .ref q29, .int (0 : Int32), .ref q42, .int (0 : Int32), .ref q55, .ref q63, .ref q72, .int (2 : Int32), .ref q84, .ref q92, .ref q100, .null, .null, .null, .null, .null, .null, .long 0, .long 0, .long 0], aI cA q12 14 (fun _ => 0), aI cA q20 14 (fun _ => 0), aI cA q29 196 (fun _ => 0), aI cA q42 14 (fun _ => 0), aI cA q55 14 (fun _ => 0), aI cA q63 14 (fun _ => 0), aI cA q72 16384 (fun _ => 0), aI cA q84 4 (fun _ => 0), aI cA q92 16 (fun _ => 0), aI cA q100 14 (fun _ => 0), aZ cA z 16 (fun _ => 0)]) dX9_init_108 kw_502 (by decide) (by decide) (by decide) (by rw [hrc]; exact Nat.le_of_ble_eq_true rfl) (by rw [hrs]; exact Nat.le_of_ble_eq_true rfl) rfl rfl (fun _ => rfl) (fun q108 => ?_)
  refine g_putF C 110 0 14 (ws' := [oB q_t 9 [.int (0 : Int32), .ref q12, .ref q20, .ref q29, .int (0 : Int32), .ref q42, .int (0 : Int32), .ref q55, .ref q63, .ref q72, .int (2 : Int32), .ref q84, .ref q92, .ref q100, .ref q108, .null, .null, .null, .null, .null, .long 0, .long 0, .long 0], aI cA q12 14 (fun _ => 0), aI cA q20 14 (fun _ => 0), aI cA q29 196 (fun _ => 0), aI cA q42 14 (fun _ => 0), aI cA q55 14 (fun _ => 0), aI cA q63 14 (fun _ => 0), aI cA q72 16384 (fun _ => 0), aI cA q84 4 (fun _ => 0), aI cA q92 16 (fun _ => 0), aI cA q100 14 (fun _ => 0), aZ cA q108 16 (fun _ => 0)]) tyX9 dX9_init_110 inX9 tyX9_ok nmX9 rfl rfl (by decide) kw_401 rfl hnm rfl rfl rfl (Nat.le_of_ble_eq_true rfl) rfl ?_
  refine g_aload_n C 113 0 dX9_init_113 rfl rfl ?_
  refine g_bipush C 114 (14 : Int32) dX9_init_114 (by decide) ?_
  refine g_newI C 116 14 12 16714 (fun z => [oB q_t 9 [.int (0 : Int32), .ref q12, .ref q20, .ref q29, .int (0 : Int32), .ref q42, .int (0 : Int32), .ref q55, .ref q63, .ref q72, .int (2 : Int32), .ref q84, .ref q92, .ref q100, .ref q108, .null, .null, .null, .null, .null, .long 0, .long 0, .long 0], aI cA q12 14 (fun _ => 0), aI cA q20 14 (fun _ => 0), aI cA q29 196 (fun _ => 0), aI cA q42 14 (fun _ => 0), aI cA q55 14 (fun _ => 0), aI cA q63 14 (fun _ => 0), aI cA q72 16384 (fun _ => 0), aI cA q84 4 (fun _ => 0), aI cA q92 16 (fun _ => 0), aI cA q100 14 (fun _ => 0), aZ cA q108 16 (fun _ => 0), aI cA z 14 (fun _ => 0)]) dX9_init_116 kw_498 (by decide) (by decide) (by decide) (by rw [hrc]; exact Nat.le_of_ble_eq_true rfl) (by rw [hrs]; exact Nat.le_of_ble_eq_true rfl) rfl rfl (fun _ => rfl) (fun q116 => ?_)
  refine g_putF C 118 0 15 (ws' := [oB q_t 9 [.int (0 : Int32), .ref q12, .ref q20, .ref q29, .int (0 : Int32), .ref q42, .int (0 : Int32), .ref q55, .ref q63, .ref q72, .int (2 : Int32), .ref q84, .ref q92, .ref q100, .ref q108, .ref q116, .null, .null, .null, .null, .long 0, .long 0, .long 0], aI cA q12 14 (fun _ => 0), aI cA q20 14 (fun _ => 0), aI cA q29 196 (fun _ => 0), aI cA q42 14 (fun _ => 0), aI cA q55 14 (fun _ => 0), aI cA q63 14 (fun _ => 0), aI cA q72 16384 (fun _ => 0), aI cA q84 4 (fun _ => 0), aI cA q92 16 (fun _ => 0), aI cA q100 14 (fun _ => 0), aZ cA q108 16 (fun _ => 0), aI cA q116 14 (fun _ => 0)]) tyX9 dX9_init_118 inX9 tyX9_ok nmX9 rfl rfl (by decide) kw_411 rfl hnm rfl rfl rfl (Nat.le_of_ble_eq_true rfl) rfl ?_
  refine g_aload_n C 121 0 dX9_init_121 rfl rfl ?_
  refine g_bipush C 122 (14 : Int32) dX9_init_122 (by decide) ?_
  refine g_newI C 124 14 13 16728 (fun z => [oB q_t 9 [.int (0 : Int32), .ref q12, .ref q20, .ref q29, .int (0 : Int32), .ref q42, .int (0 : Int32), .ref q55, .ref q63, .ref q72, .int (2 : Int32), .ref q84, .ref q92, .ref q100, .ref q108, .ref q116, .null, .null, .null, .null, .long 0, .long 0, .long 0], aI cA q12 14 (fun _ => 0), aI cA q20 14 (fun _ => 0), aI cA q29 196 (fun _ => 0), aI cA q42 14 (fun _ => 0), aI cA q55 14 (fun _ => 0), aI cA q63 14 (fun _ => 0), aI cA q72 16384 (fun _ => 0), aI cA q84 4 (fun _ => 0), aI cA q92 16 (fun _ => 0), aI cA q100 14 (fun _ => 0), aZ cA q108 16 (fun _ => 0), aI cA q116 14 (fun _ => 0), aI cA z 14 (fun _ => 0)]) dX9_init_124 kw_498 (by decide) (by decide) (by decide) (by rw [hrc]; exact Nat.le_of_ble_eq_true rfl) (by rw [hrs]; exact Nat.le_of_ble_eq_true rfl) rfl rfl (fun _ => rfl) (fun q124 => ?_)
  refine g_putF C 126 0 16 (ws' := [oB q_t 9 [.int (0 : Int32), .ref q12, .ref q20, .ref q29, .int (0 : Int32), .ref q42, .int (0 : Int32), .ref q55, .ref q63, .ref q72, .int (2 : Int32), .ref q84, .ref q92, .ref q100, .ref q108, .ref q116, .ref q124, .null, .null, .null, .long 0, .long 0, .long 0], aI cA q12 14 (fun _ => 0), aI cA q20 14 (fun _ => 0), aI cA q29 196 (fun _ => 0), aI cA q42 14 (fun _ => 0), aI cA q55 14 (fun _ => 0), aI cA q63 14 (fun _ => 0), aI cA q72 16384 (fun _ => 0), aI cA q84 4 (fun _ => 0), aI cA q92 16 (fun _ => 0), aI cA q100 14 (fun _ => 0), aZ cA q108 16 (fun _ => 0), aI cA q116 14 (fun _ => 0), aI cA q124 14 (fun _ => 0)]) tyX9 dX9_init_126 inX9 tyX9_ok nmX9 rfl rfl (by decide) kw_412 rfl hnm rfl rfl rfl (Nat.le_of_ble_eq_true rfl) rfl ?_
  refine g_aload_n C 129 0 dX9_init_129 rfl rfl ?_
  refine g_sipush C 130 (14336 : Int32) dX9_init_130 (by decide) ?_
  refine g_newJ C 133 14336 14 31064 (fun z => [oB q_t 9 [.int (0 : Int32), .ref q12, .ref q20, .ref q29, .int (0 : Int32), .ref q42, .int (0 : Int32), .ref q55, .ref q63, .ref q72, .int (2 : Int32), .ref q84, .ref q92, .ref q100, .ref q108, .ref q116, .ref q124, .null, .null, .null, .long 0, .long 0, .long 0], aI cA q12 14 (fun _ => 0), aI cA q20 14 (fun _ => 0), aI cA q29 196 (fun _ => 0), aI cA q42 14 (fun _ => 0), aI cA q55 14 (fun _ => 0), aI cA q63 14 (fun _ => 0), aI cA q72 16384 (fun _ => 0), aI cA q84 4 (fun _ => 0), aI cA q92 16 (fun _ => 0), aI cA q100 14 (fun _ => 0), aZ cA q108 16 (fun _ => 0), aI cA q116 14 (fun _ => 0), aI cA q124 14 (fun _ => 0), aJ cA z 14336 (fun _ => 0)]) dX9_init_133 kw_534 (by decide) (by decide) (by decide) (by rw [hrc]; exact Nat.le_of_ble_eq_true rfl) (by rw [hrs]; exact Nat.le_of_ble_eq_true rfl) rfl rfl (fun _ => rfl) (fun q133 => ?_)
  refine g_putF C 135 0 17 (ws' := [oB q_t 9 [.int (0 : Int32), .ref q12, .ref q20, .ref q29, .int (0 : Int32), .ref q42, .int (0 : Int32), .ref q55, .ref q63, .ref q72, .int (2 : Int32), .ref q84, .ref q92, .ref q100, .ref q108, .ref q116, .ref q124, .ref q133, .null, .null, .long 0, .long 0, .long 0], aI cA q12 14 (fun _ => 0), aI cA q20 14 (fun _ => 0), aI cA q29 196 (fun _ => 0), aI cA q42 14 (fun _ => 0), aI cA q55 14 (fun _ => 0), aI cA q63 14 (fun _ => 0), aI cA q72 16384 (fun _ => 0), aI cA q84 4 (fun _ => 0), aI cA q92 16 (fun _ => 0), aI cA q100 14 (fun _ => 0), aZ cA q108 16 (fun _ => 0), aI cA q116 14 (fun _ => 0), aI cA q124 14 (fun _ => 0), aJ cA q133 14336 (fun _ => 0)]) tyX9 dX9_init_135 inX9 tyX9_ok nmX9 rfl rfl (by decide) kw_421 rfl hnm rfl rfl rfl (Nat.le_of_ble_eq_true rfl) rfl ?_
  refine g_aload_n C 138 0 dX9_init_138 rfl rfl ?_
  refine g_sipush C 139 (14336 : Int32) dX9_init_139 (by decide) ?_
  refine g_newJ C 142 14336 15 45400 (fun z => [oB q_t 9 [.int (0 : Int32), .ref q12, .ref q20, .ref q29, .int (0 : Int32), .ref q42, .int (0 : Int32), .ref q55, .ref q63, .ref q72, .int (2 : Int32), .ref q84, .ref q92, .ref q100, .ref q108, .ref q116, .ref q124, .ref q133, .null, .null, .long 0, .long 0, .long 0], aI cA q12 14 (fun _ => 0), aI cA q20 14 (fun _ => 0), aI cA q29 196 (fun _ => 0), aI cA q42 14 (fun _ => 0), aI cA q55 14 (fun _ => 0), aI cA q63 14 (fun _ => 0), aI cA q72 16384 (fun _ => 0), aI cA q84 4 (fun _ => 0), aI cA q92 16 (fun _ => 0), aI cA q100 14 (fun _ => 0), aZ cA q108 16 (fun _ => 0), aI cA q116 14 (fun _ => 0), aI cA q124 14 (fun _ => 0), aJ cA q133 14336 (fun _ => 0), aJ cA z 14336 (fun _ => 0)]) dX9_init_142 kw_534 (by decide) (by decide) (by decide) (by rw [hrc]; exact Nat.le_of_ble_eq_true rfl) (by rw [hrs]; exact Nat.le_of_ble_eq_true rfl) rfl rfl (fun _ => rfl) (fun q142 => ?_)
  refine g_putF C 144 0 18 (ws' := [oB q_t 9 [.int (0 : Int32), .ref q12, .ref q20, .ref q29, .int (0 : Int32), .ref q42, .int (0 : Int32), .ref q55, .ref q63, .ref q72, .int (2 : Int32), .ref q84, .ref q92, .ref q100, .ref q108, .ref q116, .ref q124, .ref q133, .ref q142, .null, .long 0, .long 0, .long 0], aI cA q12 14 (fun _ => 0), aI cA q20 14 (fun _ => 0), aI cA q29 196 (fun _ => 0), aI cA q42 14 (fun _ => 0), aI cA q55 14 (fun _ => 0), aI cA q63 14 (fun _ => 0), aI cA q72 16384 (fun _ => 0), aI cA q84 4 (fun _ => 0), aI cA q92 16 (fun _ => 0), aI cA q100 14 (fun _ => 0), aZ cA q108 16 (fun _ => 0), aI cA q116 14 (fun _ => 0), aI cA q124 14 (fun _ => 0), aJ cA q133 14336 (fun _ => 0), aJ cA q142 14336 (fun _ => 0)]) tyX9 dX9_init_144 inX9 tyX9_ok nmX9 rfl rfl (by decide) kw_422 rfl hnm rfl rfl rfl (Nat.le_of_ble_eq_true rfl) rfl ?_
  refine g_aload_n C 147 0 dX9_init_147 rfl rfl ?_
  refine g_sipush C 148 (14336 : Int32) dX9_init_148 (by decide) ?_
  refine g_newJ C 151 14336 16 59736 (fun z => [oB q_t 9 [.int (0 : Int32), .ref q12, .ref q20, .ref q29, .int (0 : Int32), .ref q42, .int (0 : Int32), .ref q55, .ref q63, .ref q72, .int (2 : Int32), .ref q84, .ref q92, .ref q100, .ref q108, .ref q116, .ref q124, .ref q133, .ref q142, .null, .long 0, .long 0, .long 0], aI cA q12 14 (fun _ => 0), aI cA q20 14 (fun _ => 0), aI cA q29 196 (fun _ => 0), aI cA q42 14 (fun _ => 0), aI cA q55 14 (fun _ => 0), aI cA q63 14 (fun _ => 0), aI cA q72 16384 (fun _ => 0), aI cA q84 4 (fun _ => 0), aI cA q92 16 (fun _ => 0), aI cA q100 14 (fun _ => 0), aZ cA q108 16 (fun _ => 0), aI cA q116 14 (fun _ => 0), aI cA q124 14 (fun _ => 0), aJ cA q133 14336 (fun _ => 0), aJ cA q142 14336 (fun _ => 0), aJ cA z 14336 (fun _ => 0)]) dX9_init_151 kw_534 (by decide) (by decide) (by decide) (by rw [hrc]; exact Nat.le_of_ble_eq_true rfl) (by rw [hrs]; exact Nat.le_of_ble_eq_true rfl) rfl rfl (fun _ => rfl) (fun q151 => ?_)
  refine g_putF C 153 0 19 (ws' := [oB q_t 9 [.int (0 : Int32), .ref q12, .ref q20, .ref q29, .int (0 : Int32), .ref q42, .int (0 : Int32), .ref q55, .ref q63, .ref q72, .int (2 : Int32), .ref q84, .ref q92, .ref q100, .ref q108, .ref q116, .ref q124, .ref q133, .ref q142, .ref q151, .long 0, .long 0, .long 0], aI cA q12 14 (fun _ => 0), aI cA q20 14 (fun _ => 0), aI cA q29 196 (fun _ => 0), aI cA q42 14 (fun _ => 0), aI cA q55 14 (fun _ => 0), aI cA q63 14 (fun _ => 0), aI cA q72 16384 (fun _ => 0), aI cA q84 4 (fun _ => 0), aI cA q92 16 (fun _ => 0), aI cA q100 14 (fun _ => 0), aZ cA q108 16 (fun _ => 0), aI cA q116 14 (fun _ => 0), aI cA q124 14 (fun _ => 0), aJ cA q133 14336 (fun _ => 0), aJ cA q142 14336 (fun _ => 0), aJ cA q151 14336 (fun _ => 0)]) tyX9 dX9_init_153 inX9 tyX9_ok nmX9 rfl rfl (by decide) kw_423 rfl hnm rfl rfl rfl (Nat.le_of_ble_eq_true rfl) rfl ?_
  refine g_aload_n C 156 0 dX9_init_156 rfl rfl ?_
  refine g_lconst C 157 (0 : Int64) dX9_init_157 (by decide) ?_
  refine g_putV C 158 0 20 (ws' := [oB q_t 9 [.int (0 : Int32), .ref q12, .ref q20, .ref q29, .int (0 : Int32), .ref q42, .int (0 : Int32), .ref q55, .ref q63, .ref q72, .int (2 : Int32), .ref q84, .ref q92, .ref q100, .ref q108, .ref q116, .ref q124, .ref q133, .ref q142, .ref q151, .long (0 : Int64), .long 0, .long 0], aI cA q12 14 (fun _ => 0), aI cA q20 14 (fun _ => 0), aI cA q29 196 (fun _ => 0), aI cA q42 14 (fun _ => 0), aI cA q55 14 (fun _ => 0), aI cA q63 14 (fun _ => 0), aI cA q72 16384 (fun _ => 0), aI cA q84 4 (fun _ => 0), aI cA q92 16 (fun _ => 0), aI cA q100 14 (fun _ => 0), aZ cA q108 16 (fun _ => 0), aI cA q116 14 (fun _ => 0), aI cA q124 14 (fun _ => 0), aJ cA q133 14336 (fun _ => 0), aJ cA q142 14336 (fun _ => 0), aJ cA q151 14336 (fun _ => 0)]) tyX9 dX9_init_158 inX9 tyX9_ok nmX9 rfl rfl (by decide) kw_424 rfl rfl rfl (Nat.le_of_ble_eq_true rfl) rfl ?_
  refine g_aload_n C 161 0 dX9_init_161 rfl rfl ?_
  refine g_lconst C 162 (0 : Int64) dX9_init_162 (by decide) ?_
  refine g_putV C 163 0 21 (ws' := [oB q_t 9 [.int (0 : Int32), .ref q12, .ref q20, .ref q29, .int (0 : Int32), .ref q42, .int (0 : Int32), .ref q55, .ref q63, .ref q72, .int (2 : Int32), .ref q84, .ref q92, .ref q100, .ref q108, .ref q116, .ref q124, .ref q133, .ref q142, .ref q151, .long (0 : Int64), .long (0 : Int64), .long 0], aI cA q12 14 (fun _ => 0), aI cA q20 14 (fun _ => 0), aI cA q29 196 (fun _ => 0), aI cA q42 14 (fun _ => 0), aI cA q55 14 (fun _ => 0), aI cA q63 14 (fun _ => 0), aI cA q72 16384 (fun _ => 0), aI cA q84 4 (fun _ => 0), aI cA q92 16 (fun _ => 0), aI cA q100 14 (fun _ => 0), aZ cA q108 16 (fun _ => 0), aI cA q116 14 (fun _ => 0), aI cA q124 14 (fun _ => 0), aJ cA q133 14336 (fun _ => 0), aJ cA q142 14336 (fun _ => 0), aJ cA q151 14336 (fun _ => 0)]) tyX9 dX9_init_163 inX9 tyX9_ok nmX9 rfl rfl (by decide) kw_425 rfl rfl rfl (Nat.le_of_ble_eq_true rfl) rfl ?_
  refine g_aload_n C 166 0 dX9_init_166 rfl rfl ?_
  refine g_lconst C 167 (0 : Int64) dX9_init_167 (by decide) ?_
  refine g_putV C 168 0 22 (ws' := [oB q_t 9 [.int (0 : Int32), .ref q12, .ref q20, .ref q29, .int (0 : Int32), .ref q42, .int (0 : Int32), .ref q55, .ref q63, .ref q72, .int (2 : Int32), .ref q84, .ref q92, .ref q100, .ref q108, .ref q116, .ref q124, .ref q133, .ref q142, .ref q151, .long (0 : Int64), .long (0 : Int64), .long (0 : Int64)], aI cA q12 14 (fun _ => 0), aI cA q20 14 (fun _ => 0), aI cA q29 196 (fun _ => 0), aI cA q42 14 (fun _ => 0), aI cA q55 14 (fun _ => 0), aI cA q63 14 (fun _ => 0), aI cA q72 16384 (fun _ => 0), aI cA q84 4 (fun _ => 0), aI cA q92 16 (fun _ => 0), aI cA q100 14 (fun _ => 0), aZ cA q108 16 (fun _ => 0), aI cA q116 14 (fun _ => 0), aI cA q124 14 (fun _ => 0), aJ cA q133 14336 (fun _ => 0), aJ cA q142 14336 (fun _ => 0), aJ cA q151 14336 (fun _ => 0)]) tyX9 dX9_init_168 inX9 tyX9_ok nmX9 rfl rfl (by decide) kw_426 rfl rfl rfl (Nat.le_of_ble_eq_true rfl) rfl ?_
  exact g_vret C 171 dX9_init_171 F ⟨q12, q20, q29, q42, q55, q63, q72, q84, q92, q100, q108, q116, q124, q133, q142, q151, rfl, rfl⟩
end
section
theorem dX8_isWeight_0 : decode cX8_isWeight 0 = .ok (.iload_n 0, 1) := by decide +kernel
theorem dX8_isWeight_1 : decode cX8_isWeight 1 = .ok (.ifCond .lt 14, 3) := by decide +kernel
theorem dX8_isWeight_4 : decode cX8_isWeight 4 = .ok (.iload_n 0, 1) := by decide +kernel
theorem dX8_isWeight_5 : decode cX8_isWeight 5 = .ok (.sipush 1000, 3) := by decide +kernel
theorem dX8_isWeight_8 : decode cX8_isWeight 8 = .ok (.if_icmp .gt 7, 3) := by decide +kernel
theorem dX8_isWeight_11 : decode cX8_isWeight 11 = .ok (.iconst 1, 1) := by decide +kernel
theorem dX8_isWeight_12 : decode cX8_isWeight 12 = .ok (.goto 4, 3) := by decide +kernel
theorem dX8_isWeight_15 : decode cX8_isWeight 15 = .ok (.iconst 0, 1) := by decide +kernel
theorem dX8_isWeight_16 : decode cX8_isWeight 16 = .ok (.ireturn, 1) := by decide +kernel
theorem dX8_isFactor_0 : decode cX8_isFactor 0 = .ok (.iload_n 0, 1) := by decide +kernel
theorem dX8_isFactor_1 : decode cX8_isFactor 1 = .ok (.bipush (-10), 2) := by decide +kernel
theorem dX8_isFactor_3 : decode cX8_isFactor 3 = .ok (.if_icmp .lt 13, 3) := by decide +kernel
theorem dX8_isFactor_6 : decode cX8_isFactor 6 = .ok (.iload_n 0, 1) := by decide +kernel
theorem dX8_isFactor_7 : decode cX8_isFactor 7 = .ok (.bipush 10, 2) := by decide +kernel
theorem dX8_isFactor_9 : decode cX8_isFactor 9 = .ok (.if_icmp .gt 7, 3) := by decide +kernel
theorem dX8_isFactor_12 : decode cX8_isFactor 12 = .ok (.iconst 1, 1) := by decide +kernel
theorem dX8_isFactor_13 : decode cX8_isFactor 13 = .ok (.goto 4, 3) := by decide +kernel
theorem dX8_isFactor_16 : decode cX8_isFactor 16 = .ok (.iconst 0, 1) := by decide +kernel
theorem dX8_isFactor_17 : decode cX8_isFactor 17 = .ok (.ireturn, 1) := by decide +kernel
theorem dX8_signOf_0 : decode cX8_signOf 0 = .ok (.iload_n 0, 1) := by decide +kernel
theorem dX8_signOf_1 : decode cX8_signOf 1 = .ok (.ifCond .eq 7, 3) := by decide +kernel
theorem dX8_signOf_4 : decode cX8_signOf 4 = .ok (.iconst 1, 1) := by decide +kernel
theorem dX8_signOf_5 : decode cX8_signOf 5 = .ok (.goto 4, 3) := by decide +kernel
theorem dX8_signOf_8 : decode cX8_signOf 8 = .ok (.iconst (-1), 1) := by decide +kernel
theorem dX8_signOf_9 : decode cX8_signOf 9 = .ok (.ireturn, 1) := by decide +kernel
theorem dX8_hasBit_0 : decode cX8_hasBit 0 = .ok (.iload_n 0, 1) := by decide +kernel
theorem dX8_hasBit_1 : decode cX8_hasBit 1 = .ok (.iload_n 1, 1) := by decide +kernel
theorem dX8_hasBit_2 : decode cX8_hasBit 2 = .ok (.ishr, 1) := by decide +kernel
theorem dX8_hasBit_3 : decode cX8_hasBit 3 = .ok (.iconst 1, 1) := by decide +kernel
theorem dX8_hasBit_4 : decode cX8_hasBit 4 = .ok (.iand, 1) := by decide +kernel
theorem dX8_hasBit_5 : decode cX8_hasBit 5 = .ok (.ifCond .eq 7, 3) := by decide +kernel
theorem dX8_hasBit_8 : decode cX8_hasBit 8 = .ok (.iconst 1, 1) := by decide +kernel
theorem dX8_hasBit_9 : decode cX8_hasBit 9 = .ok (.goto 4, 3) := by decide +kernel
theorem dX8_hasBit_12 : decode cX8_hasBit 12 = .ok (.iconst 0, 1) := by decide +kernel
theorem dX8_hasBit_13 : decode cX8_hasBit 13 = .ok (.ireturn, 1) := by decide +kernel
theorem dJ6_bitCount_0f7a4_0 : decode cJ6_bitCount_0f7a4 0 = .ok (.iload_n 0, 1) := by decide +kernel
theorem dJ6_bitCount_0f7a4_1 : decode cJ6_bitCount_0f7a4 1 = .ok (.iload_n 0, 1) := by decide +kernel
theorem dJ6_bitCount_0f7a4_2 : decode cJ6_bitCount_0f7a4 2 = .ok (.iconst 1, 1) := by decide +kernel
theorem dJ6_bitCount_0f7a4_3 : decode cJ6_bitCount_0f7a4 3 = .ok (.iushr, 1) := by decide +kernel
theorem dJ6_bitCount_0f7a4_4 : decode cJ6_bitCount_0f7a4 4 = .ok (.ldc_w 265, 3) := by decide +kernel
theorem dJ6_bitCount_0f7a4_7 : decode cJ6_bitCount_0f7a4 7 = .ok (.iand, 1) := by decide +kernel
theorem dJ6_bitCount_0f7a4_8 : decode cJ6_bitCount_0f7a4 8 = .ok (.isub, 1) := by decide +kernel
theorem dJ6_bitCount_0f7a4_9 : decode cJ6_bitCount_0f7a4 9 = .ok (.istore_n 0, 1) := by decide +kernel
theorem dJ6_bitCount_0f7a4_10 : decode cJ6_bitCount_0f7a4 10 = .ok (.iload_n 0, 1) := by decide +kernel
theorem dJ6_bitCount_0f7a4_11 : decode cJ6_bitCount_0f7a4 11 = .ok (.ldc_w 266, 3) := by decide +kernel
theorem dJ6_bitCount_0f7a4_14 : decode cJ6_bitCount_0f7a4 14 = .ok (.iand, 1) := by decide +kernel
theorem dJ6_bitCount_0f7a4_15 : decode cJ6_bitCount_0f7a4 15 = .ok (.iload_n 0, 1) := by decide +kernel
theorem dJ6_bitCount_0f7a4_16 : decode cJ6_bitCount_0f7a4 16 = .ok (.iconst 2, 1) := by decide +kernel
theorem dJ6_bitCount_0f7a4_17 : decode cJ6_bitCount_0f7a4 17 = .ok (.iushr, 1) := by decide +kernel
theorem dJ6_bitCount_0f7a4_18 : decode cJ6_bitCount_0f7a4 18 = .ok (.ldc_w 266, 3) := by decide +kernel
theorem dJ6_bitCount_0f7a4_21 : decode cJ6_bitCount_0f7a4 21 = .ok (.iand, 1) := by decide +kernel
theorem dJ6_bitCount_0f7a4_22 : decode cJ6_bitCount_0f7a4 22 = .ok (.iadd, 1) := by decide +kernel
theorem dJ6_bitCount_0f7a4_23 : decode cJ6_bitCount_0f7a4 23 = .ok (.istore_n 0, 1) := by decide +kernel
theorem dJ6_bitCount_0f7a4_24 : decode cJ6_bitCount_0f7a4 24 = .ok (.iload_n 0, 1) := by decide +kernel
theorem dJ6_bitCount_0f7a4_25 : decode cJ6_bitCount_0f7a4 25 = .ok (.iload_n 0, 1) := by decide +kernel
theorem dJ6_bitCount_0f7a4_26 : decode cJ6_bitCount_0f7a4 26 = .ok (.iconst 4, 1) := by decide +kernel
theorem dJ6_bitCount_0f7a4_27 : decode cJ6_bitCount_0f7a4 27 = .ok (.iushr, 1) := by decide +kernel
theorem dJ6_bitCount_0f7a4_28 : decode cJ6_bitCount_0f7a4 28 = .ok (.iadd, 1) := by decide +kernel
theorem dJ6_bitCount_0f7a4_29 : decode cJ6_bitCount_0f7a4 29 = .ok (.ldc_w 267, 3) := by decide +kernel
theorem dJ6_bitCount_0f7a4_32 : decode cJ6_bitCount_0f7a4 32 = .ok (.iand, 1) := by decide +kernel
theorem dJ6_bitCount_0f7a4_33 : decode cJ6_bitCount_0f7a4 33 = .ok (.istore_n 0, 1) := by decide +kernel
theorem dJ6_bitCount_0f7a4_34 : decode cJ6_bitCount_0f7a4 34 = .ok (.iload_n 0, 1) := by decide +kernel
theorem dJ6_bitCount_0f7a4_35 : decode cJ6_bitCount_0f7a4 35 = .ok (.iload_n 0, 1) := by decide +kernel
theorem dJ6_bitCount_0f7a4_36 : decode cJ6_bitCount_0f7a4 36 = .ok (.bipush 8, 2) := by decide +kernel
theorem dJ6_bitCount_0f7a4_38 : decode cJ6_bitCount_0f7a4 38 = .ok (.iushr, 1) := by decide +kernel
theorem dJ6_bitCount_0f7a4_39 : decode cJ6_bitCount_0f7a4 39 = .ok (.iadd, 1) := by decide +kernel
theorem dJ6_bitCount_0f7a4_40 : decode cJ6_bitCount_0f7a4 40 = .ok (.istore_n 0, 1) := by decide +kernel
theorem dJ6_bitCount_0f7a4_41 : decode cJ6_bitCount_0f7a4 41 = .ok (.iload_n 0, 1) := by decide +kernel
theorem dJ6_bitCount_0f7a4_42 : decode cJ6_bitCount_0f7a4 42 = .ok (.iload_n 0, 1) := by decide +kernel
theorem dJ6_bitCount_0f7a4_43 : decode cJ6_bitCount_0f7a4 43 = .ok (.bipush 16, 2) := by decide +kernel
theorem dJ6_bitCount_0f7a4_45 : decode cJ6_bitCount_0f7a4 45 = .ok (.iushr, 1) := by decide +kernel
theorem dJ6_bitCount_0f7a4_46 : decode cJ6_bitCount_0f7a4 46 = .ok (.iadd, 1) := by decide +kernel
theorem dJ6_bitCount_0f7a4_47 : decode cJ6_bitCount_0f7a4 47 = .ok (.istore_n 0, 1) := by decide +kernel
theorem dJ6_bitCount_0f7a4_48 : decode cJ6_bitCount_0f7a4 48 = .ok (.iload_n 0, 1) := by decide +kernel
theorem dJ6_bitCount_0f7a4_49 : decode cJ6_bitCount_0f7a4 49 = .ok (.bipush 63, 2) := by decide +kernel
theorem dJ6_bitCount_0f7a4_51 : decode cJ6_bitCount_0f7a4 51 = .ok (.iand, 1) := by decide +kernel
theorem dJ6_bitCount_0f7a4_52 : decode cJ6_bitCount_0f7a4 52 = .ok (.ireturn, 1) := by decide +kernel
theorem dJ7_fill_d0a16_0 : decode cJ7_fill_d0a16 0 = .ok (.iconst 0, 1) := by decide +kernel
theorem dJ7_fill_d0a16_1 : decode cJ7_fill_d0a16 1 = .ok (.istore_n 3, 1) := by decide +kernel
theorem dJ7_fill_d0a16_2 : decode cJ7_fill_d0a16 2 = .ok (.aload_n 0, 1) := by decide +kernel
theorem dJ7_fill_d0a16_3 : decode cJ7_fill_d0a16 3 = .ok (.arraylength, 1) := by decide +kernel
theorem dJ7_fill_d0a16_4 : decode cJ7_fill_d0a16 4 = .ok (.istore 4, 2) := by decide +kernel
theorem dJ7_fill_d0a16_6 : decode cJ7_fill_d0a16 6 = .ok (.iload_n 3, 1) := by decide +kernel
theorem dJ7_fill_d0a16_7 : decode cJ7_fill_d0a16 7 = .ok (.iload 4, 2) := by decide +kernel
theorem dJ7_fill_d0a16_9 : decode cJ7_fill_d0a16 9 = .ok (.if_icmp .ge 13, 3) := by decide +kernel
theorem dJ7_fill_d0a16_12 : decode cJ7_fill_d0a16 12 = .ok (.aload_n 0, 1) := by decide +kernel
theorem dJ7_fill_d0a16_13 : decode cJ7_fill_d0a16 13 = .ok (.iload_n 3, 1) := by decide +kernel
theorem dJ7_fill_d0a16_14 : decode cJ7_fill_d0a16 14 = .ok (.lload_n 1, 1) := by decide +kernel
theorem dJ7_fill_d0a16_15 : decode cJ7_fill_d0a16 15 = .ok (.lastore, 1) := by decide +kernel
theorem dJ7_fill_d0a16_16 : decode cJ7_fill_d0a16 16 = .ok (.iinc 3 1, 3) := by decide +kernel
theorem dJ7_fill_d0a16_19 : decode cJ7_fill_d0a16 19 = .ok (.goto (-13), 3) := by decide +kernel
theorem dJ7_fill_d0a16_22 : decode cJ7_fill_d0a16 22 = .ok (.return_, 1) := by decide +kernel
def f_X8_hasBit (a0 : Int32) (a1 : Int32) : Option (Int32) :=
  if ((a0 >>> (a1 &&& 31)) &&& (1 : Int32)) = 0 then
    some ((0 : Int32))
  else
    some ((1 : Int32))

set_option maxRecDepth 100000 in
set_option maxHeartbeats 1000000 in
theorem c_X8_hasBit (l : Launch) (cA : Nat → ClassId)   (a0 : Int32) (a1 : Int32) (r : Int32) (hf : f_X8_hasBit a0 a1 = some r) : MT l cA yX8_hasBit cX8_hasBit 2 (some .boolean) ({ frames := 0, cells := 0, slots := 0, locals := 0 } : Room) [.int a0, .int a1] [] (sB (some (.int r)) []) := by
  refine MT.of (by decide) (Nat.le_of_ble_eq_true rfl) ?_
  intro X hXl C F hnm hrc hrs
  subst hXl
  unfold f_X8_hasBit at hf
  have C : Cx X cX8_hasBit RX8 (some .boolean) cA 0 0 2 := C
  show Go X 2 0 0 0 [] [(0, .int a0), (1, .int a1)] []
  refine g_iload_n C 0 0 dX8_hasBit_0 rfl rfl ?_
  refine g_iload_n C 1 1 dX8_hasBit_1 rfl rfl ?_
  refine g_ishr C 2 dX8_hasBit_2 ?_
  refine g_iconst C 3 (1 : Int32) dX8_hasBit_3 (by decide) ?_
  refine g_iand C 4 dX8_hasBit_4 ?_
  refine g_if_eq C 5 12 dX8_hasBit_5 (by decide) hf (fun hf => ?_) (fun hf => ?_)
  · refine g_iconst C 12 (0 : Int32) dX8_hasBit_12 (by decide) ?_
    cases hf
    exact g_zret C 13 dX8_hasBit_13 (by decide) F ⟨rfl, rfl⟩
  · refine g_iconst C 8 (1 : Int32) dX8_hasBit_8 (by decide) ?_
    refine g_goto C 9 13 dX8_hasBit_9 (by decide) ?_
    cases hf
    exact g_zret C 13 dX8_hasBit_13 (by decide) F ⟨rfl, rfl⟩

def f_J6_bitCount_0f7a4 (a0 : Int32) : Option (Int32) :=
  bnd (a0 - ((((a0).toUInt32 >>> (((1 : Int32)).toUInt32 &&& Int32.toUInt32 31)).toInt32) &&& (1431655765 : Int32))) fun x0_1 =>
  bnd ((x0_1 &&& (858993459 : Int32)) + ((((x0_1).toUInt32 >>> (((2 : Int32)).toUInt32 &&& Int32.toUInt32 31)).toInt32) &&& (858993459 : Int32))) fun x0_2 =>
  bnd ((x0_2 + (((x0_2).toUInt32 >>> (((4 : Int32)).toUInt32 &&& Int32.toUInt32 31)).toInt32)) &&& (252645135 : Int32)) fun x0_3 =>
  bnd (x0_3 + (((x0_3).toUInt32 >>> (((8 : Int32)).toUInt32 &&& Int32.toUInt32 31)).toInt32)) fun x0_4 =>
  bnd (x0_4 + (((x0_4).toUInt32 >>> (((16 : Int32)).toUInt32 &&& Int32.toUInt32 31)).toInt32)) fun x0_5 =>
  some ((x0_5 &&& (63 : Int32)))

set_option maxRecDepth 100000 in
set_option maxHeartbeats 1000000 in
theorem c_J6_bitCount_0f7a4 (l : Launch) (cA : Nat → ClassId)   (a0 : Int32) (r : Int32) (hf : f_J6_bitCount_0f7a4 a0 = some r) : MT l cA yJ6_bitCount_0f7a4 cJ6_bitCount_0f7a4 1 (some .int) ({ frames := 0, cells := 0, slots := 0, locals := 0 } : Room) [.int a0] [] (sB (some (.int r)) []) := by
  refine MT.of (by decide) (Nat.le_of_ble_eq_true rfl) ?_
  intro X hXl C F hnm hrc hrs
  subst hXl
  unfold f_J6_bitCount_0f7a4 at hf
  have C : Cx X cJ6_bitCount_0f7a4 RJ6 (some .int) cA 0 0 1 := C
  show Go X 1 0 0 0 [] [(0, .int a0)] []
  refine g_iload_n C 0 0 dJ6_bitCount_0f7a4_0 rfl rfl ?_
  refine g_iload_n C 1 0 dJ6_bitCount_0f7a4_1 rfl rfl ?_
  refine g_iconst C 2 (1 : Int32) dJ6_bitCount_0f7a4_2 (by decide) ?_
  refine g_iushr C 3 dJ6_bitCount_0f7a4_3 ?_
  refine g_ldcw C 4 dJ6_bitCount_0f7a4_4 kw_10 ?_
  refine g_iand C 7 dJ6_bitCount_0f7a4_7 ?_
  refine g_isub C 8 dJ6_bitCount_0f7a4_8 ?_
  refine g_istore_n C 9 (fun z => [(0, .int z)]) dJ6_bitCount_0f7a4_9 rfl (by decide) (fun _ => rfl) hf (fun x0_1 hf => ?_)
  refine g_iload_n C 10 0 dJ6_bitCount_0f7a4_10 rfl rfl ?_
  refine g_ldcw C 11 dJ6_bitCount_0f7a4_11 kw_11 ?_
  refine g_iand C 14 dJ6_bitCount_0f7a4_14 ?_
  refine g_iload_n C 15 0 dJ6_bitCount_0f7a4_15 rfl rfl ?_
  refine g_iconst C 16 (2 : Int32) dJ6_bitCount_0f7a4_16 (by decide) ?_
  refine g_iushr C 17 dJ6_bitCount_0f7a4_17 ?_
  refine g_ldcw C 18 dJ6_bitCount_0f7a4_18 kw_11 ?_
  refine g_iand C 21 dJ6_bitCount_0f7a4_21 ?_
  refine g_iadd C 22 dJ6_bitCount_0f7a4_22 ?_
  refine g_istore_n C 23 (fun z => [(0, .int z)]) dJ6_bitCount_0f7a4_23 rfl (by decide) (fun _ => rfl) hf (fun x0_2 hf => ?_)
  refine g_iload_n C 24 0 dJ6_bitCount_0f7a4_24 rfl rfl ?_
  refine g_iload_n C 25 0 dJ6_bitCount_0f7a4_25 rfl rfl ?_
  refine g_iconst C 26 (4 : Int32) dJ6_bitCount_0f7a4_26 (by decide) ?_
  refine g_iushr C 27 dJ6_bitCount_0f7a4_27 ?_
  refine g_iadd C 28 dJ6_bitCount_0f7a4_28 ?_
  refine g_ldcw C 29 dJ6_bitCount_0f7a4_29 kw_12 ?_
  refine g_iand C 32 dJ6_bitCount_0f7a4_32 ?_
  refine g_istore_n C 33 (fun z => [(0, .int z)]) dJ6_bitCount_0f7a4_33 rfl (by decide) (fun _ => rfl) hf (fun x0_3 hf => ?_)
  refine g_iload_n C 34 0 dJ6_bitCount_0f7a4_34 rfl rfl ?_
  refine g_iload_n C 35 0 dJ6_bitCount_0f7a4_35 rfl rfl ?_
  refine g_bipush C 36 (8 : Int32) dJ6_bitCount_0f7a4_36 (by decide) ?_
  refine g_iushr C 38 dJ6_bitCount_0f7a4_38 ?_
  refine g_iadd C 39 dJ6_bitCount_0f7a4_39 ?_
  refine g_istore_n C 40 (fun z => [(0, .int z)]) dJ6_bitCount_0f7a4_40 rfl (by decide) (fun _ => rfl) hf (fun x0_4 hf => ?_)
  refine g_iload_n C 41 0 dJ6_bitCount_0f7a4_41 rfl rfl ?_
  refine g_iload_n C 42 0 dJ6_bitCount_0f7a4_42 rfl rfl ?_
  refine g_bipush C 43 (16 : Int32) dJ6_bitCount_0f7a4_43 (by decide) ?_
  refine g_iushr C 45 dJ6_bitCount_0f7a4_45 ?_
  refine g_iadd C 46 dJ6_bitCount_0f7a4_46 ?_
  refine g_istore_n C 47 (fun z => [(0, .int z)]) dJ6_bitCount_0f7a4_47 rfl (by decide) (fun _ => rfl) hf (fun x0_5 hf => ?_)
  refine g_iload_n C 48 0 dJ6_bitCount_0f7a4_48 rfl rfl ?_
  refine g_bipush C 49 (63 : Int32) dJ6_bitCount_0f7a4_49 (by decide) ?_
  refine g_iand C 51 dJ6_bitCount_0f7a4_51 ?_
  cases hf
  exact g_iret C 52 dJ6_bitCount_0f7a4_52 F ⟨rfl, rfl⟩

def L_J7_fill_d0a16_6 (N_u : Nat) (a1 : Int64)  : Nat → Int32 → Int32 → (Nat → Int64) → Option ((Nat → Int64))
  | 0, _, _, _ => none
  | n + 1, x3, x4, u =>
    if x4 ≤ x3 then
      some (u)
    else
      stJ u N_u x3 a1 fun u_3 =>
      bnd (x3 + (1 : Int32)) fun x3_4 =>
      L_J7_fill_d0a16_6 N_u a1 n x3_4 x4 u_3

set_option maxRecDepth 100000 in
set_option maxHeartbeats 1000000 in
theorem w_J7_fill_d0a16_6 (cA : Nat → ClassId) (q_u : Nat) (N_u : Nat) (a1 : Int64) {X : XT}  (C : Cx X cJ7_fill_d0a16 RJ7 none cA 0 0 5) (r : (Nat → Int64)) (F : Fx X (sB (none) [aJ cA q_u N_u r]) 0 0)  : ∀ (n : Nat) (x3 : Int32) (x4 : Int32) (u : Nat → Int64), L_J7_fill_d0a16_6 N_u a1 n x3 x4 u = some r → Go X 5 0 0 6 [aJ cA q_u N_u u] [(0, .ref q_u), (1, .long a1), (3, .int x3), (4, .int x4)] [] := by
  intro n
  induction n with
  | zero => intro x3 x4 u hf; exact no_some hf
  | succ n ih =>
    intro x3 x4 u hf
    rw [L_J7_fill_d0a16_6] at hf
    refine g_iload_n C 6 2 dJ7_fill_d0a16_6 rfl rfl ?_
    refine g_iload C 7 3 dJ7_fill_d0a16_7 rfl ?_
    refine g_icmp_ge C 9 22 dJ7_fill_d0a16_9 (by decide) hf (fun hf => ?_) (fun hf => ?_)
    · cases hf
      exact g_vret C 22 dJ7_fill_d0a16_22 F ⟨rfl, rfl⟩
    · refine g_aload_n C 12 0 dJ7_fill_d0a16_12 rfl rfl ?_
      refine g_iload_n C 13 2 dJ7_fill_d0a16_13 rfl rfl ?_
      refine g_lload_n C 14 1 dJ7_fill_d0a16_14 rfl rfl ?_
      refine g_last C 15 0 (fun z => [aJ cA q_u N_u z]) dJ7_fill_d0a16_15 rfl (fun _ => rfl) hf (fun u_3 hf => ?_)
      refine g_iinc C 16 2 (v := x3 + (1 : Int32)) (fun z => [(3, .int z), (0, .ref q_u), (1, .long a1), (4, .int x4)]) dJ7_fill_d0a16_16 rfl rfl (by decide) (fun _ => rfl) hf (fun x3_4 hf => ?_)
      refine g_goto C 19 6 dJ7_fill_d0a16_19 (by decide) ?_
      refine g_lv [1, 2, 0, 3] rfl ?_
      exact ih x3_4 x4 u_3 hf
def f_J7_fill_d0a16 (N_u : Nat) (a1 : Int64) (u : Nat → Int64) : Option ((Nat → Int64)) :=
  bnd (0 : Int32) fun x3_1 =>
  bnd (Int32.ofNat N_u) fun x4_2 =>
  L_J7_fill_d0a16_6 N_u a1 NN x3_1 x4_2 u

set_option maxRecDepth 100000 in
set_option maxHeartbeats 1000000 in
theorem c_J7_fill_d0a16 (l : Launch) (cA : Nat → ClassId) (q_u : Nat) (N_u : Nat) (u : Nat → Int64)  (a1 : Int64) (r : (Nat → Int64)) (hf : f_J7_fill_d0a16 N_u a1 u = some r) : MT l cA yJ7_fill_d0a16 cJ7_fill_d0a16 5 none ({ frames := 0, cells := 0, slots := 0, locals := 0 } : Room) [.ref q_u, .long a1] [aJ cA q_u N_u u] (sB (none) [aJ cA q_u N_u r]) := by
  refine MT.of (by decide) (Nat.le_of_ble_eq_true rfl) ?_
  intro X hXl C F hnm hrc hrs
  subst hXl
  unfold f_J7_fill_d0a16 at hf
  have C : Cx X cJ7_fill_d0a16 RJ7 none cA 0 0 5 := C
  show Go X 5 0 0 0 [aJ cA q_u N_u u] [(0, .ref q_u), (1, .long a1)] []
  refine g_iconst C 0 (0 : Int32) dJ7_fill_d0a16_0 (by decide) ?_
  refine g_istore_n C 1 (fun z => [(3, .int z), (0, .ref q_u), (1, .long a1)]) dJ7_fill_d0a16_1 rfl (by decide) (fun _ => rfl) hf (fun x3_1 hf => ?_)
  refine g_aload_n C 2 1 dJ7_fill_d0a16_2 rfl rfl ?_
  refine g_alen C 3 0 1 (Int32.ofNat N_u) dJ7_fill_d0a16_3 rfl rfl rfl ?_
  refine g_istore C 4 (fun z => [(4, .int z), (3, .int x3_1), (0, .ref q_u), (1, .long a1)]) dJ7_fill_d0a16_4 (by decide) (fun _ => rfl) hf (fun x4_2 hf => ?_)
  refine g_lv [2, 3, 1, 0] rfl ?_
  exact w_J7_fill_d0a16_6 cA q_u N_u a1 C r F NN x3_1 x4_2 u hf

def f_X8_isWeight (a0 : Int32) : Option (Int32) :=
  if a0 < 0 then
    some ((0 : Int32))
  else
    if (1000 : Int32) < a0 then
      some ((0 : Int32))
    else
      some ((1 : Int32))

set_option maxRecDepth 100000 in
set_option maxHeartbeats 1000000 in
theorem c_X8_isWeight (l : Launch) (cA : Nat → ClassId)   (a0 : Int32) (r : Int32) (hf : f_X8_isWeight a0 = some r) : MT l cA yX8_isWeight cX8_isWeight 1 (some .boolean) ({ frames := 0, cells := 0, slots := 0, locals := 0 } : Room) [.int a0] [] (sB (some (.int r)) []) := by
  refine MT.of (by decide) (Nat.le_of_ble_eq_true rfl) ?_
  intro X hXl C F hnm hrc hrs
  subst hXl
  unfold f_X8_isWeight at hf
  have C : Cx X cX8_isWeight RX8 (some .boolean) cA 0 0 1 := C
  show Go X 1 0 0 0 [] [(0, .int a0)] []
  refine g_iload_n C 0 0 dX8_isWeight_0 rfl rfl ?_
  refine g_if_lt C 1 15 dX8_isWeight_1 (by decide) hf (fun hf => ?_) (fun hf => ?_)
  · refine g_iconst C 15 (0 : Int32) dX8_isWeight_15 (by decide) ?_
    cases hf
    exact g_zret C 16 dX8_isWeight_16 (by decide) F ⟨rfl, rfl⟩
  · refine g_iload_n C 4 0 dX8_isWeight_4 rfl rfl ?_
    refine g_sipush C 5 (1000 : Int32) dX8_isWeight_5 (by decide) ?_
    refine g_icmp_gt C 8 15 dX8_isWeight_8 (by decide) hf (fun hf => ?_) (fun hf => ?_)
    · refine g_iconst C 15 (0 : Int32) dX8_isWeight_15 (by decide) ?_
      cases hf
      exact g_zret C 16 dX8_isWeight_16 (by decide) F ⟨rfl, rfl⟩
    · refine g_iconst C 11 (1 : Int32) dX8_isWeight_11 (by decide) ?_
      refine g_goto C 12 16 dX8_isWeight_12 (by decide) ?_
      cases hf
      exact g_zret C 16 dX8_isWeight_16 (by decide) F ⟨rfl, rfl⟩

def f_X8_isFactor (a0 : Int32) : Option (Int32) :=
  if a0 < (-10 : Int32) then
    some ((0 : Int32))
  else
    if (10 : Int32) < a0 then
      some ((0 : Int32))
    else
      some ((1 : Int32))

set_option maxRecDepth 100000 in
set_option maxHeartbeats 1000000 in
theorem c_X8_isFactor (l : Launch) (cA : Nat → ClassId)   (a0 : Int32) (r : Int32) (hf : f_X8_isFactor a0 = some r) : MT l cA yX8_isFactor cX8_isFactor 1 (some .boolean) ({ frames := 0, cells := 0, slots := 0, locals := 0 } : Room) [.int a0] [] (sB (some (.int r)) []) := by
  refine MT.of (by decide) (Nat.le_of_ble_eq_true rfl) ?_
  intro X hXl C F hnm hrc hrs
  subst hXl
  unfold f_X8_isFactor at hf
  have C : Cx X cX8_isFactor RX8 (some .boolean) cA 0 0 1 := C
  show Go X 1 0 0 0 [] [(0, .int a0)] []
  refine g_iload_n C 0 0 dX8_isFactor_0 rfl rfl ?_
  refine g_bipush C 1 (-10 : Int32) dX8_isFactor_1 (by decide) ?_
  refine g_icmp_lt C 3 16 dX8_isFactor_3 (by decide) hf (fun hf => ?_) (fun hf => ?_)
  · refine g_iconst C 16 (0 : Int32) dX8_isFactor_16 (by decide) ?_
    cases hf
    exact g_zret C 17 dX8_isFactor_17 (by decide) F ⟨rfl, rfl⟩
  · refine g_iload_n C 6 0 dX8_isFactor_6 rfl rfl ?_
    refine g_bipush C 7 (10 : Int32) dX8_isFactor_7 (by decide) ?_
    refine g_icmp_gt C 9 16 dX8_isFactor_9 (by decide) hf (fun hf => ?_) (fun hf => ?_)
    · refine g_iconst C 16 (0 : Int32) dX8_isFactor_16 (by decide) ?_
      cases hf
      exact g_zret C 17 dX8_isFactor_17 (by decide) F ⟨rfl, rfl⟩
    · refine g_iconst C 12 (1 : Int32) dX8_isFactor_12 (by decide) ?_
      refine g_goto C 13 17 dX8_isFactor_13 (by decide) ?_
      cases hf
      exact g_zret C 17 dX8_isFactor_17 (by decide) F ⟨rfl, rfl⟩

def f_X8_signOf (a0 : Int32) : Option (Int32) :=
  if a0 = 0 then
    some ((-1 : Int32))
  else
    some ((1 : Int32))

set_option maxRecDepth 100000 in
set_option maxHeartbeats 1000000 in
theorem c_X8_signOf (l : Launch) (cA : Nat → ClassId)   (a0 : Int32) (r : Int32) (hf : f_X8_signOf a0 = some r) : MT l cA yX8_signOf cX8_signOf 1 (some .int) ({ frames := 0, cells := 0, slots := 0, locals := 0 } : Room) [.int a0] [] (sB (some (.int r)) []) := by
  refine MT.of (by decide) (Nat.le_of_ble_eq_true rfl) ?_
  intro X hXl C F hnm hrc hrs
  subst hXl
  unfold f_X8_signOf at hf
  have C : Cx X cX8_signOf RX8 (some .int) cA 0 0 1 := C
  show Go X 1 0 0 0 [] [(0, .int a0)] []
  refine g_iload_n C 0 0 dX8_signOf_0 rfl rfl ?_
  refine g_if_eq C 1 8 dX8_signOf_1 (by decide) hf (fun hf => ?_) (fun hf => ?_)
  · refine g_iconst C 8 (-1 : Int32) dX8_signOf_8 (by decide) ?_
    cases hf
    exact g_iret C 9 dX8_signOf_9 F ⟨rfl, rfl⟩
  · refine g_iconst C 4 (1 : Int32) dX8_signOf_4 (by decide) ?_
    refine g_goto C 5 9 dX8_signOf_5 (by decide) ?_
    cases hf
    exact g_iret C 9 dX8_signOf_9 F ⟨rfl, rfl⟩
end
section
theorem dX2_holds_0 : decode cX2_holds 0 = .ok (.aload_n 0, 1) := by decide +kernel
theorem dX2_holds_1 : decode cX2_holds 1 = .ok (.getfield 15, 3) := by decide +kernel
theorem dX2_holds_4 : decode cX2_holds 4 = .ok (.iload_n 1, 1) := by decide +kernel
theorem dX2_holds_5 : decode cX2_holds 5 = .ok (.invokestatic 19, 3) := by decide +kernel
theorem dX2_holds_8 : decode cX2_holds 8 = .ok (.ireturn, 1) := by decide +kernel
theorem dX2_append_0 : decode cX2_append 0 = .ok (.aload_n 0, 1) := by decide +kernel
theorem dX2_append_1 : decode cX2_append 1 = .ok (.getfield 23, 3) := by decide +kernel
theorem dX2_append_4 : decode cX2_append 4 = .ok (.bipush 14, 2) := by decide +kernel
theorem dX2_append_6 : decode cX2_append 6 = .ok (.if_icmp .lt 4, 3) := by decide +kernel
theorem dX2_append_9 : decode cX2_append 9 = .ok (.return_, 1) := by decide +kernel
theorem dX2_append_10 : decode cX2_append 10 = .ok (.aload_n 0, 1) := by decide +kernel
theorem dX2_append_11 : decode cX2_append 11 = .ok (.getfield 9, 3) := by decide +kernel
theorem dX2_append_14 : decode cX2_append 14 = .ok (.aload_n 0, 1) := by decide +kernel
theorem dX2_append_15 : decode cX2_append 15 = .ok (.getfield 23, 3) := by decide +kernel
theorem dX2_append_18 : decode cX2_append 18 = .ok (.iload_n 1, 1) := by decide +kernel
theorem dX2_append_19 : decode cX2_append 19 = .ok (.iastore, 1) := by decide +kernel
theorem dX2_append_20 : decode cX2_append 20 = .ok (.aload_n 0, 1) := by decide +kernel
theorem dX2_append_21 : decode cX2_append 21 = .ok (.dup, 1) := by decide +kernel
theorem dX2_append_22 : decode cX2_append 22 = .ok (.getfield 23, 3) := by decide +kernel
theorem dX2_append_25 : decode cX2_append 25 = .ok (.iconst 1, 1) := by decide +kernel
theorem dX2_append_26 : decode cX2_append 26 = .ok (.iadd, 1) := by decide +kernel
theorem dX2_append_27 : decode cX2_append 27 = .ok (.putfield 23, 3) := by decide +kernel
theorem dX2_append_30 : decode cX2_append 30 = .ok (.aload_n 0, 1) := by decide +kernel
theorem dX2_append_31 : decode cX2_append 31 = .ok (.dup, 1) := by decide +kernel
theorem dX2_append_32 : decode cX2_append 32 = .ok (.getfield 15, 3) := by decide +kernel
theorem dX2_append_35 : decode cX2_append 35 = .ok (.iconst 1, 1) := by decide +kernel
theorem dX2_append_36 : decode cX2_append 36 = .ok (.iload_n 1, 1) := by decide +kernel
theorem dX2_append_37 : decode cX2_append 37 = .ok (.ishl, 1) := by decide +kernel
theorem dX2_append_38 : decode cX2_append 38 = .ok (.ior, 1) := by decide +kernel
theorem dX2_append_39 : decode cX2_append 39 = .ok (.putfield 15, 3) := by decide +kernel
theorem dX2_append_42 : decode cX2_append 42 = .ok (.return_, 1) := by decide +kernel
theorem dX2_empty_0 : decode cX2_empty 0 = .ok (.aload_n 0, 1) := by decide +kernel
theorem dX2_empty_1 : decode cX2_empty 1 = .ok (.iconst 0, 1) := by decide +kernel
theorem dX2_empty_2 : decode cX2_empty 2 = .ok (.putfield 23, 3) := by decide +kernel
theorem dX2_empty_5 : decode cX2_empty 5 = .ok (.aload_n 0, 1) := by decide +kernel
theorem dX2_empty_6 : decode cX2_empty 6 = .ok (.iconst 0, 1) := by decide +kernel
theorem dX2_empty_7 : decode cX2_empty 7 = .ok (.putfield 15, 3) := by decide +kernel
theorem dX2_empty_10 : decode cX2_empty 10 = .ok (.return_, 1) := by decide +kernel
theorem dX2_nextPlace_0 : decode cX2_nextPlace 0 = .ok (.iload_n 1, 1) := by decide +kernel
theorem dX2_nextPlace_1 : decode cX2_nextPlace 1 = .ok (.iconst 1, 1) := by decide +kernel
theorem dX2_nextPlace_2 : decode cX2_nextPlace 2 = .ok (.iadd, 1) := by decide +kernel
theorem dX2_nextPlace_3 : decode cX2_nextPlace 3 = .ok (.istore_n 3, 1) := by decide +kernel
theorem dX2_nextPlace_4 : decode cX2_nextPlace 4 = .ok (.iload_n 3, 1) := by decide +kernel
theorem dX2_nextPlace_5 : decode cX2_nextPlace 5 = .ok (.aload_n 0, 1) := by decide +kernel
theorem dX2_nextPlace_6 : decode cX2_nextPlace 6 = .ok (.getfield 23, 3) := by decide +kernel
theorem dX2_nextPlace_9 : decode cX2_nextPlace 9 = .ok (.if_icmp .ge 24, 3) := by decide +kernel
theorem dX2_nextPlace_12 : decode cX2_nextPlace 12 = .ok (.iload_n 2, 1) := by decide +kernel
theorem dX2_nextPlace_13 : decode cX2_nextPlace 13 = .ok (.aload_n 0, 1) := by decide +kernel
theorem dX2_nextPlace_14 : decode cX2_nextPlace 14 = .ok (.getfield 9, 3) := by decide +kernel
theorem dX2_nextPlace_17 : decode cX2_nextPlace 17 = .ok (.iload_n 3, 1) := by decide +kernel
theorem dX2_nextPlace_18 : decode cX2_nextPlace 18 = .ok (.iaload, 1) := by decide +kernel
theorem dX2_nextPlace_19 : decode cX2_nextPlace 19 = .ok (.invokestatic 19, 3) := by decide +kernel
theorem dX2_nextPlace_22 : decode cX2_nextPlace 22 = .ok (.ifCond .eq 5, 3) := by decide +kernel
theorem dX2_nextPlace_25 : decode cX2_nextPlace 25 = .ok (.iload_n 3, 1) := by decide +kernel
theorem dX2_nextPlace_26 : decode cX2_nextPlace 26 = .ok (.ireturn, 1) := by decide +kernel
theorem dX2_nextPlace_27 : decode cX2_nextPlace 27 = .ok (.iinc 3 1, 3) := by decide +kernel
theorem dX2_nextPlace_30 : decode cX2_nextPlace 30 = .ok (.goto (-26), 3) := by decide +kernel
theorem dX2_nextPlace_33 : decode cX2_nextPlace 33 = .ok (.iload_n 1, 1) := by decide +kernel
theorem dX2_nextPlace_34 : decode cX2_nextPlace 34 = .ok (.iconst 1, 1) := by decide +kernel
theorem dX2_nextPlace_35 : decode cX2_nextPlace 35 = .ok (.iadd, 1) := by decide +kernel
theorem dX2_nextPlace_36 : decode cX2_nextPlace 36 = .ok (.aload_n 0, 1) := by decide +kernel
theorem dX2_nextPlace_37 : decode cX2_nextPlace 37 = .ok (.getfield 23, 3) := by decide +kernel
theorem dX2_nextPlace_40 : decode cX2_nextPlace 40 = .ok (.if_icmp .ge 9, 3) := by decide +kernel
theorem dX2_nextPlace_43 : decode cX2_nextPlace 43 = .ok (.iload_n 1, 1) := by decide +kernel
theorem dX2_nextPlace_44 : decode cX2_nextPlace 44 = .ok (.iconst 1, 1) := by decide +kernel
theorem dX2_nextPlace_45 : decode cX2_nextPlace 45 = .ok (.iadd, 1) := by decide +kernel
theorem dX2_nextPlace_46 : decode cX2_nextPlace 46 = .ok (.goto 4, 3) := by decide +kernel
theorem dX2_nextPlace_49 : decode cX2_nextPlace 49 = .ok (.iconst (-1), 1) := by decide +kernel
theorem dX2_nextPlace_50 : decode cX2_nextPlace 50 = .ok (.ireturn, 1) := by decide +kernel
theorem dX3_has_0 : decode cX3_has 0 = .ok (.iload_n 1, 1) := by decide +kernel
theorem dX3_has_1 : decode cX3_has 1 = .ok (.ifCond .lt 15, 3) := by decide +kernel
theorem dX3_has_4 : decode cX3_has 4 = .ok (.iload_n 1, 1) := by decide +kernel
theorem dX3_has_5 : decode cX3_has 5 = .ok (.aload_n 0, 1) := by decide +kernel
theorem dX3_has_6 : decode cX3_has 6 = .ok (.getfield 9, 3) := by decide +kernel
theorem dX3_has_9 : decode cX3_has 9 = .ok (.if_icmp .ge 7, 3) := by decide +kernel
theorem dX3_has_12 : decode cX3_has 12 = .ok (.iconst 1, 1) := by decide +kernel
theorem dX3_has_13 : decode cX3_has 13 = .ok (.goto 4, 3) := by decide +kernel
theorem dX3_has_16 : decode cX3_has 16 = .ok (.iconst 0, 1) := by decide +kernel
theorem dX3_has_17 : decode cX3_has 17 = .ok (.ireturn, 1) := by decide +kernel
theorem dX3_startAgain_0 : decode cX3_startAgain 0 = .ok (.aload_n 0, 1) := by decide +kernel
theorem dX3_startAgain_1 : decode cX3_startAgain 1 = .ok (.iload_n 1, 1) := by decide +kernel
theorem dX3_startAgain_2 : decode cX3_startAgain 2 = .ok (.putfield 9, 3) := by decide +kernel
theorem dX3_startAgain_5 : decode cX3_startAgain 5 = .ok (.iconst 0, 1) := by decide +kernel
theorem dX3_startAgain_6 : decode cX3_startAgain 6 = .ok (.istore_n 2, 1) := by decide +kernel
theorem dX3_startAgain_7 : decode cX3_startAgain 7 = .ok (.iload_n 2, 1) := by decide +kernel
theorem dX3_startAgain_8 : decode cX3_startAgain 8 = .ok (.aload_n 0, 1) := by decide +kernel
theorem dX3_startAgain_9 : decode cX3_startAgain 9 = .ok (.getfield 15, 3) := by decide +kernel
theorem dX3_startAgain_12 : decode cX3_startAgain 12 = .ok (.arraylength, 1) := by decide +kernel
theorem dX3_startAgain_13 : decode cX3_startAgain 13 = .ok (.if_icmp .ge 16, 3) := by decide +kernel
theorem dX3_startAgain_16 : decode cX3_startAgain 16 = .ok (.aload_n 0, 1) := by decide +kernel
theorem dX3_startAgain_17 : decode cX3_startAgain 17 = .ok (.getfield 15, 3) := by decide +kernel
theorem dX3_startAgain_20 : decode cX3_startAgain 20 = .ok (.iload_n 2, 1) := by decide +kernel
theorem dX3_startAgain_21 : decode cX3_startAgain 21 = .ok (.iconst 0, 1) := by decide +kernel
theorem dX3_startAgain_22 : decode cX3_startAgain 22 = .ok (.iastore, 1) := by decide +kernel
theorem dX3_startAgain_23 : decode cX3_startAgain 23 = .ok (.iinc 2 1, 3) := by decide +kernel
theorem dX3_startAgain_26 : decode cX3_startAgain 26 = .ok (.goto (-19), 3) := by decide +kernel
theorem dX3_startAgain_29 : decode cX3_startAgain 29 = .ok (.iconst 0, 1) := by decide +kernel
theorem dX3_startAgain_30 : decode cX3_startAgain 30 = .ok (.istore_n 2, 1) := by decide +kernel
theorem dX3_startAgain_31 : decode cX3_startAgain 31 = .ok (.iload_n 2, 1) := by decide +kernel
theorem dX3_startAgain_32 : decode cX3_startAgain 32 = .ok (.aload_n 0, 1) := by decide +kernel
theorem dX3_startAgain_33 : decode cX3_startAgain 33 = .ok (.getfield 19, 3) := by decide +kernel
theorem dX3_startAgain_36 : decode cX3_startAgain 36 = .ok (.arraylength, 1) := by decide +kernel
theorem dX3_startAgain_37 : decode cX3_startAgain 37 = .ok (.if_icmp .ge 23, 3) := by decide +kernel
theorem dX3_startAgain_40 : decode cX3_startAgain 40 = .ok (.aload_n 0, 1) := by decide +kernel
theorem dX3_startAgain_41 : decode cX3_startAgain 41 = .ok (.getfield 19, 3) := by decide +kernel
theorem dX3_startAgain_44 : decode cX3_startAgain 44 = .ok (.iload_n 2, 1) := by decide +kernel
theorem dX3_startAgain_45 : decode cX3_startAgain 45 = .ok (.iconst 0, 1) := by decide +kernel
theorem dX3_startAgain_46 : decode cX3_startAgain 46 = .ok (.iastore, 1) := by decide +kernel
theorem dX3_startAgain_47 : decode cX3_startAgain 47 = .ok (.aload_n 0, 1) := by decide +kernel
theorem dX3_startAgain_48 : decode cX3_startAgain 48 = .ok (.getfield 22, 3) := by decide +kernel
theorem dX3_startAgain_51 : decode cX3_startAgain 51 = .ok (.iload_n 2, 1) := by decide +kernel
theorem dX3_startAgain_52 : decode cX3_startAgain 52 = .ok (.iconst 0, 1) := by decide +kernel
theorem dX3_startAgain_53 : decode cX3_startAgain 53 = .ok (.bastore, 1) := by decide +kernel
theorem dX3_startAgain_54 : decode cX3_startAgain 54 = .ok (.iinc 2 1, 3) := by decide +kernel
theorem dX3_startAgain_57 : decode cX3_startAgain 57 = .ok (.goto (-26), 3) := by decide +kernel
theorem dX3_startAgain_60 : decode cX3_startAgain 60 = .ok (.iconst 0, 1) := by decide +kernel
theorem dX3_startAgain_61 : decode cX3_startAgain 61 = .ok (.istore_n 2, 1) := by decide +kernel
theorem dX3_startAgain_62 : decode cX3_startAgain 62 = .ok (.iload_n 2, 1) := by decide +kernel
theorem dX3_startAgain_63 : decode cX3_startAgain 63 = .ok (.aload_n 0, 1) := by decide +kernel
theorem dX3_startAgain_64 : decode cX3_startAgain 64 = .ok (.getfield 26, 3) := by decide +kernel
theorem dX3_startAgain_67 : decode cX3_startAgain 67 = .ok (.arraylength, 1) := by decide +kernel
theorem dX3_startAgain_68 : decode cX3_startAgain 68 = .ok (.if_icmp .ge 16, 3) := by decide +kernel
theorem dX3_startAgain_71 : decode cX3_startAgain 71 = .ok (.aload_n 0, 1) := by decide +kernel
theorem dX3_startAgain_72 : decode cX3_startAgain 72 = .ok (.getfield 26, 3) := by decide +kernel
theorem dX3_startAgain_75 : decode cX3_startAgain 75 = .ok (.iload_n 2, 1) := by decide +kernel
theorem dX3_startAgain_76 : decode cX3_startAgain 76 = .ok (.iconst 0, 1) := by decide +kernel
theorem dX3_startAgain_77 : decode cX3_startAgain 77 = .ok (.iastore, 1) := by decide +kernel
theorem dX3_startAgain_78 : decode cX3_startAgain 78 = .ok (.iinc 2 1, 3) := by decide +kernel
theorem dX3_startAgain_81 : decode cX3_startAgain 81 = .ok (.goto (-19), 3) := by decide +kernel
theorem dX3_startAgain_84 : decode cX3_startAgain 84 = .ok (.return_, 1) := by decide +kernel
theorem dX3_setPair_0 : decode cX3_setPair 0 = .ok (.aload_n 0, 1) := by decide +kernel
theorem dX3_setPair_1 : decode cX3_setPair 1 = .ok (.getfield 19, 3) := by decide +kernel
theorem dX3_setPair_4 : decode cX3_setPair 4 = .ok (.iload_n 1, 1) := by decide +kernel
theorem dX3_setPair_5 : decode cX3_setPair 5 = .ok (.iconst 4, 1) := by decide +kernel
theorem dX3_setPair_6 : decode cX3_setPair 6 = .ok (.imul, 1) := by decide +kernel
theorem dX3_setPair_7 : decode cX3_setPair 7 = .ok (.iload_n 2, 1) := by decide +kernel
theorem dX3_setPair_8 : decode cX3_setPair 8 = .ok (.iadd, 1) := by decide +kernel
theorem dX3_setPair_9 : decode cX3_setPair 9 = .ok (.iload 4, 2) := by decide +kernel
theorem dX3_setPair_11 : decode cX3_setPair 11 = .ok (.iastore, 1) := by decide +kernel
theorem dX3_setPair_12 : decode cX3_setPair 12 = .ok (.aload_n 0, 1) := by decide +kernel
theorem dX3_setPair_13 : decode cX3_setPair 13 = .ok (.getfield 19, 3) := by decide +kernel
theorem dX3_setPair_16 : decode cX3_setPair 16 = .ok (.iload_n 2, 1) := by decide +kernel
theorem dX3_setPair_17 : decode cX3_setPair 17 = .ok (.iconst 4, 1) := by decide +kernel
theorem dX3_setPair_18 : decode cX3_setPair 18 = .ok (.imul, 1) := by decide +kernel
theorem dX3_setPair_19 : decode cX3_setPair 19 = .ok (.iload_n 1, 1) := by decide +kernel
theorem dX3_setPair_20 : decode cX3_setPair 20 = .ok (.iadd, 1) := by decide +kernel
theorem dX3_setPair_21 : decode cX3_setPair 21 = .ok (.iload 4, 2) := by decide +kernel
theorem dX3_setPair_23 : decode cX3_setPair 23 = .ok (.iastore, 1) := by decide +kernel
theorem dX3_setPair_24 : decode cX3_setPair 24 = .ok (.aload_n 0, 1) := by decide +kernel
theorem dX3_setPair_25 : decode cX3_setPair 25 = .ok (.getfield 22, 3) := by decide +kernel
theorem dX3_setPair_28 : decode cX3_setPair 28 = .ok (.iload_n 1, 1) := by decide +kernel
theorem dX3_setPair_29 : decode cX3_setPair 29 = .ok (.iconst 4, 1) := by decide +kernel
theorem dX3_setPair_30 : decode cX3_setPair 30 = .ok (.imul, 1) := by decide +kernel
theorem dX3_setPair_31 : decode cX3_setPair 31 = .ok (.iload_n 2, 1) := by decide +kernel
theorem dX3_setPair_32 : decode cX3_setPair 32 = .ok (.iadd, 1) := by decide +kernel
theorem dX3_setPair_33 : decode cX3_setPair 33 = .ok (.iload_n 3, 1) := by decide +kernel
theorem dX3_setPair_34 : decode cX3_setPair 34 = .ok (.bastore, 1) := by decide +kernel
theorem dX3_setPair_35 : decode cX3_setPair 35 = .ok (.aload_n 0, 1) := by decide +kernel
theorem dX3_setPair_36 : decode cX3_setPair 36 = .ok (.getfield 22, 3) := by decide +kernel
theorem dX3_setPair_39 : decode cX3_setPair 39 = .ok (.iload_n 2, 1) := by decide +kernel
theorem dX3_setPair_40 : decode cX3_setPair 40 = .ok (.iconst 4, 1) := by decide +kernel
theorem dX3_setPair_41 : decode cX3_setPair 41 = .ok (.imul, 1) := by decide +kernel
theorem dX3_setPair_42 : decode cX3_setPair 42 = .ok (.iload_n 1, 1) := by decide +kernel
theorem dX3_setPair_43 : decode cX3_setPair 43 = .ok (.iadd, 1) := by decide +kernel
theorem dX3_setPair_44 : decode cX3_setPair 44 = .ok (.iload_n 3, 1) := by decide +kernel
theorem dX3_setPair_45 : decode cX3_setPair 45 = .ok (.bastore, 1) := by decide +kernel
theorem dX3_setPair_46 : decode cX3_setPair 46 = .ok (.return_, 1) := by decide +kernel
theorem dX3_openFor_0 : decode cX3_openFor 0 = .ok (.iconst 1, 1) := by decide +kernel
theorem dX3_openFor_1 : decode cX3_openFor 1 = .ok (.aload_n 0, 1) := by decide +kernel
theorem dX3_openFor_2 : decode cX3_openFor 2 = .ok (.getfield 9, 3) := by decide +kernel
theorem dX3_openFor_5 : decode cX3_openFor 5 = .ok (.ishl, 1) := by decide +kernel
theorem dX3_openFor_6 : decode cX3_openFor 6 = .ok (.iconst 1, 1) := by decide +kernel
theorem dX3_openFor_7 : decode cX3_openFor 7 = .ok (.isub, 1) := by decide +kernel
theorem dX3_openFor_8 : decode cX3_openFor 8 = .ok (.aload_n 0, 1) := by decide +kernel
theorem dX3_openFor_9 : decode cX3_openFor 9 = .ok (.getfield 26, 3) := by decide +kernel
theorem dX3_openFor_12 : decode cX3_openFor 12 = .ok (.iload_n 1, 1) := by decide +kernel
theorem dX3_openFor_13 : decode cX3_openFor 13 = .ok (.iaload, 1) := by decide +kernel
theorem dX3_openFor_14 : decode cX3_openFor 14 = .ok (.iconst (-1), 1) := by decide +kernel
theorem dX3_openFor_15 : decode cX3_openFor 15 = .ok (.ixor, 1) := by decide +kernel
theorem dX3_openFor_16 : decode cX3_openFor 16 = .ok (.iand, 1) := by decide +kernel
theorem dX3_openFor_17 : decode cX3_openFor 17 = .ok (.ireturn, 1) := by decide +kernel
theorem dX4_has_0 : decode cX4_has 0 = .ok (.iload_n 1, 1) := by decide +kernel
theorem dX4_has_1 : decode cX4_has 1 = .ok (.ifCond .lt 15, 3) := by decide +kernel
theorem dX4_has_4 : decode cX4_has 4 = .ok (.iload_n 1, 1) := by decide +kernel
theorem dX4_has_5 : decode cX4_has 5 = .ok (.aload_n 0, 1) := by decide +kernel
theorem dX4_has_6 : decode cX4_has 6 = .ok (.getfield 21, 3) := by decide +kernel
theorem dX4_has_9 : decode cX4_has 9 = .ok (.if_icmp .ge 7, 3) := by decide +kernel
theorem dX4_has_12 : decode cX4_has 12 = .ok (.iconst 1, 1) := by decide +kernel
theorem dX4_has_13 : decode cX4_has 13 = .ok (.goto 4, 3) := by decide +kernel
theorem dX4_has_16 : decode cX4_has 16 = .ok (.iconst 0, 1) := by decide +kernel
theorem dX4_has_17 : decode cX4_has 17 = .ok (.ireturn, 1) := by decide +kernel
theorem dX4_everyKnot_0 : decode cX4_everyKnot 0 = .ok (.iconst 1, 1) := by decide +kernel
theorem dX4_everyKnot_1 : decode cX4_everyKnot 1 = .ok (.aload_n 0, 1) := by decide +kernel
theorem dX4_everyKnot_2 : decode cX4_everyKnot 2 = .ok (.getfield 21, 3) := by decide +kernel
theorem dX4_everyKnot_5 : decode cX4_everyKnot 5 = .ok (.ishl, 1) := by decide +kernel
theorem dX4_everyKnot_6 : decode cX4_everyKnot 6 = .ok (.iconst 1, 1) := by decide +kernel
theorem dX4_everyKnot_7 : decode cX4_everyKnot 7 = .ok (.isub, 1) := by decide +kernel
theorem dX4_everyKnot_8 : decode cX4_everyKnot 8 = .ok (.ireturn, 1) := by decide +kernel
theorem dX4_joined_0 : decode cX4_joined 0 = .ok (.aload_n 0, 1) := by decide +kernel
theorem dX4_joined_1 : decode cX4_joined 1 = .ok (.iload_n 1, 1) := by decide +kernel
theorem dX4_joined_2 : decode cX4_joined 2 = .ok (.invokevirtual 25, 3) := by decide +kernel
theorem dX4_joined_5 : decode cX4_joined 5 = .ok (.ifCond .eq 28, 3) := by decide +kernel
theorem dX4_joined_8 : decode cX4_joined 8 = .ok (.aload_n 0, 1) := by decide +kernel
theorem dX4_joined_9 : decode cX4_joined 9 = .ok (.iload_n 2, 1) := by decide +kernel
theorem dX4_joined_10 : decode cX4_joined 10 = .ok (.invokevirtual 25, 3) := by decide +kernel
theorem dX4_joined_13 : decode cX4_joined 13 = .ok (.ifCond .eq 20, 3) := by decide +kernel
theorem dX4_joined_16 : decode cX4_joined 16 = .ok (.aload_n 0, 1) := by decide +kernel
theorem dX4_joined_17 : decode cX4_joined 17 = .ok (.getfield 15, 3) := by decide +kernel
theorem dX4_joined_20 : decode cX4_joined 20 = .ok (.iload_n 1, 1) := by decide +kernel
theorem dX4_joined_21 : decode cX4_joined 21 = .ok (.iaload, 1) := by decide +kernel
theorem dX4_joined_22 : decode cX4_joined 22 = .ok (.iload_n 2, 1) := by decide +kernel
theorem dX4_joined_23 : decode cX4_joined 23 = .ok (.invokestatic 29, 3) := by decide +kernel
theorem dX4_joined_26 : decode cX4_joined 26 = .ok (.ifCond .eq 7, 3) := by decide +kernel
theorem dX4_joined_29 : decode cX4_joined 29 = .ok (.iconst 1, 1) := by decide +kernel
theorem dX4_joined_30 : decode cX4_joined 30 = .ok (.goto 4, 3) := by decide +kernel
theorem dX4_joined_33 : decode cX4_joined 33 = .ok (.iconst 0, 1) := by decide +kernel
theorem dX4_joined_34 : decode cX4_joined 34 = .ok (.ireturn, 1) := by decide +kernel
theorem dX4_addKnot_0 : decode cX4_addKnot 0 = .ok (.aload_n 0, 1) := by decide +kernel
theorem dX4_addKnot_1 : decode cX4_addKnot 1 = .ok (.getfield 9, 3) := by decide +kernel
theorem dX4_addKnot_4 : decode cX4_addKnot 4 = .ok (.aload_n 0, 1) := by decide +kernel
theorem dX4_addKnot_5 : decode cX4_addKnot 5 = .ok (.getfield 21, 3) := by decide +kernel
theorem dX4_addKnot_8 : decode cX4_addKnot 8 = .ok (.iload_n 1, 1) := by decide +kernel
theorem dX4_addKnot_9 : decode cX4_addKnot 9 = .ok (.iastore, 1) := by decide +kernel
theorem dX4_addKnot_10 : decode cX4_addKnot 10 = .ok (.aload_n 0, 1) := by decide +kernel
theorem dX4_addKnot_11 : decode cX4_addKnot 11 = .ok (.dup, 1) := by decide +kernel
theorem dX4_addKnot_12 : decode cX4_addKnot 12 = .ok (.getfield 21, 3) := by decide +kernel
theorem dX4_addKnot_15 : decode cX4_addKnot 15 = .ok (.iconst 1, 1) := by decide +kernel
theorem dX4_addKnot_16 : decode cX4_addKnot 16 = .ok (.iadd, 1) := by decide +kernel
theorem dX4_addKnot_17 : decode cX4_addKnot 17 = .ok (.putfield 21, 3) := by decide +kernel
theorem dX4_addKnot_20 : decode cX4_addKnot 20 = .ok (.aload_n 0, 1) := by decide +kernel
theorem dX4_addKnot_21 : decode cX4_addKnot 21 = .ok (.getfield 21, 3) := by decide +kernel
theorem dX4_addKnot_24 : decode cX4_addKnot 24 = .ok (.iconst 1, 1) := by decide +kernel
theorem dX4_addKnot_25 : decode cX4_addKnot 25 = .ok (.isub, 1) := by decide +kernel
theorem dX4_addKnot_26 : decode cX4_addKnot 26 = .ok (.ireturn, 1) := by decide +kernel
theorem dX4_join_0 : decode cX4_join 0 = .ok (.aload_n 0, 1) := by decide +kernel
theorem dX4_join_1 : decode cX4_join 1 = .ok (.getfield 15, 3) := by decide +kernel
theorem dX4_join_4 : decode cX4_join 4 = .ok (.iload_n 1, 1) := by decide +kernel
theorem dX4_join_5 : decode cX4_join 5 = .ok (.iaload, 1) := by decide +kernel
theorem dX4_join_6 : decode cX4_join 6 = .ok (.iload_n 2, 1) := by decide +kernel
theorem dX4_join_7 : decode cX4_join 7 = .ok (.invokestatic 29, 3) := by decide +kernel
theorem dX4_join_10 : decode cX4_join 10 = .ok (.ifCond .ne 7, 3) := by decide +kernel
theorem dX4_join_13 : decode cX4_join 13 = .ok (.iconst 1, 1) := by decide +kernel
theorem dX4_join_14 : decode cX4_join 14 = .ok (.goto 4, 3) := by decide +kernel
theorem dX4_join_17 : decode cX4_join 17 = .ok (.iconst 0, 1) := by decide +kernel
theorem dX4_join_18 : decode cX4_join 18 = .ok (.istore 4, 2) := by decide +kernel
theorem dX4_join_20 : decode cX4_join 20 = .ok (.iload 4, 2) := by decide +kernel
theorem dX4_join_22 : decode cX4_join 22 = .ok (.ifCond .eq 13, 3) := by decide +kernel
theorem dX4_join_25 : decode cX4_join 25 = .ok (.aload_n 0, 1) := by decide +kernel
theorem dX4_join_26 : decode cX4_join 26 = .ok (.dup, 1) := by decide +kernel
theorem dX4_join_27 : decode cX4_join 27 = .ok (.getfield 33, 3) := by decide +kernel
theorem dX4_join_30 : decode cX4_join 30 = .ok (.iconst 1, 1) := by decide +kernel
theorem dX4_join_31 : decode cX4_join 31 = .ok (.iadd, 1) := by decide +kernel
theorem dX4_join_32 : decode cX4_join 32 = .ok (.putfield 33, 3) := by decide +kernel
theorem dX4_join_35 : decode cX4_join 35 = .ok (.aload_n 0, 1) := by decide +kernel
theorem dX4_join_36 : decode cX4_join 36 = .ok (.getfield 15, 3) := by decide +kernel
theorem dX4_join_39 : decode cX4_join 39 = .ok (.iload_n 1, 1) := by decide +kernel
theorem dX4_join_40 : decode cX4_join 40 = .ok (.dup2, 1) := by decide +kernel
theorem dX4_join_41 : decode cX4_join 41 = .ok (.iaload, 1) := by decide +kernel
theorem dX4_join_42 : decode cX4_join 42 = .ok (.iconst 1, 1) := by decide +kernel
theorem dX4_join_43 : decode cX4_join 43 = .ok (.iload_n 2, 1) := by decide +kernel
theorem dX4_join_44 : decode cX4_join 44 = .ok (.ishl, 1) := by decide +kernel
theorem dX4_join_45 : decode cX4_join 45 = .ok (.ior, 1) := by decide +kernel
theorem dX4_join_46 : decode cX4_join 46 = .ok (.iastore, 1) := by decide +kernel
theorem dX4_join_47 : decode cX4_join 47 = .ok (.aload_n 0, 1) := by decide +kernel
theorem dX4_join_48 : decode cX4_join 48 = .ok (.getfield 15, 3) := by decide +kernel
theorem dX4_join_51 : decode cX4_join 51 = .ok (.iload_n 2, 1) := by decide +kernel
theorem dX4_join_52 : decode cX4_join 52 = .ok (.dup2, 1) := by decide +kernel
theorem dX4_join_53 : decode cX4_join 53 = .ok (.iaload, 1) := by decide +kernel
theorem dX4_join_54 : decode cX4_join 54 = .ok (.iconst 1, 1) := by decide +kernel
theorem dX4_join_55 : decode cX4_join 55 = .ok (.iload_n 1, 1) := by decide +kernel
theorem dX4_join_56 : decode cX4_join 56 = .ok (.ishl, 1) := by decide +kernel
theorem dX4_join_57 : decode cX4_join 57 = .ok (.ior, 1) := by decide +kernel
theorem dX4_join_58 : decode cX4_join 58 = .ok (.iastore, 1) := by decide +kernel
theorem dX4_join_59 : decode cX4_join 59 = .ok (.aload_n 0, 1) := by decide +kernel
theorem dX4_join_60 : decode cX4_join 60 = .ok (.getfield 18, 3) := by decide +kernel
theorem dX4_join_63 : decode cX4_join 63 = .ok (.iload_n 1, 1) := by decide +kernel
theorem dX4_join_64 : decode cX4_join 64 = .ok (.bipush 14, 2) := by decide +kernel
theorem dX4_join_66 : decode cX4_join 66 = .ok (.imul, 1) := by decide +kernel
theorem dX4_join_67 : decode cX4_join 67 = .ok (.iload_n 2, 1) := by decide +kernel
theorem dX4_join_68 : decode cX4_join 68 = .ok (.iadd, 1) := by decide +kernel
theorem dX4_join_69 : decode cX4_join 69 = .ok (.iload_n 3, 1) := by decide +kernel
theorem dX4_join_70 : decode cX4_join 70 = .ok (.iastore, 1) := by decide +kernel
theorem dX4_join_71 : decode cX4_join 71 = .ok (.aload_n 0, 1) := by decide +kernel
theorem dX4_join_72 : decode cX4_join 72 = .ok (.getfield 18, 3) := by decide +kernel
theorem dX4_join_75 : decode cX4_join 75 = .ok (.iload_n 2, 1) := by decide +kernel
theorem dX4_join_76 : decode cX4_join 76 = .ok (.bipush 14, 2) := by decide +kernel
theorem dX4_join_78 : decode cX4_join 78 = .ok (.imul, 1) := by decide +kernel
theorem dX4_join_79 : decode cX4_join 79 = .ok (.iload_n 1, 1) := by decide +kernel
theorem dX4_join_80 : decode cX4_join 80 = .ok (.iadd, 1) := by decide +kernel
theorem dX4_join_81 : decode cX4_join 81 = .ok (.iload_n 3, 1) := by decide +kernel
theorem dX4_join_82 : decode cX4_join 82 = .ok (.iastore, 1) := by decide +kernel
theorem dX4_join_83 : decode cX4_join 83 = .ok (.iload 4, 2) := by decide +kernel
theorem dX4_join_85 : decode cX4_join 85 = .ok (.ireturn, 1) := by decide +kernel
theorem dX4_part_0 : decode cX4_part 0 = .ok (.aload_n 0, 1) := by decide +kernel
theorem dX4_part_1 : decode cX4_part 1 = .ok (.getfield 15, 3) := by decide +kernel
theorem dX4_part_4 : decode cX4_part 4 = .ok (.iload_n 1, 1) := by decide +kernel
theorem dX4_part_5 : decode cX4_part 5 = .ok (.dup2, 1) := by decide +kernel
theorem dX4_part_6 : decode cX4_part 6 = .ok (.iaload, 1) := by decide +kernel
theorem dX4_part_7 : decode cX4_part 7 = .ok (.iconst 1, 1) := by decide +kernel
theorem dX4_part_8 : decode cX4_part 8 = .ok (.iload_n 2, 1) := by decide +kernel
theorem dX4_part_9 : decode cX4_part 9 = .ok (.ishl, 1) := by decide +kernel
theorem dX4_part_10 : decode cX4_part 10 = .ok (.iconst (-1), 1) := by decide +kernel
theorem dX4_part_11 : decode cX4_part 11 = .ok (.ixor, 1) := by decide +kernel
theorem dX4_part_12 : decode cX4_part 12 = .ok (.iand, 1) := by decide +kernel
theorem dX4_part_13 : decode cX4_part 13 = .ok (.iastore, 1) := by decide +kernel
theorem dX4_part_14 : decode cX4_part 14 = .ok (.aload_n 0, 1) := by decide +kernel
theorem dX4_part_15 : decode cX4_part 15 = .ok (.getfield 15, 3) := by decide +kernel
theorem dX4_part_18 : decode cX4_part 18 = .ok (.iload_n 2, 1) := by decide +kernel
theorem dX4_part_19 : decode cX4_part 19 = .ok (.dup2, 1) := by decide +kernel
theorem dX4_part_20 : decode cX4_part 20 = .ok (.iaload, 1) := by decide +kernel
theorem dX4_part_21 : decode cX4_part 21 = .ok (.iconst 1, 1) := by decide +kernel
theorem dX4_part_22 : decode cX4_part 22 = .ok (.iload_n 1, 1) := by decide +kernel
theorem dX4_part_23 : decode cX4_part 23 = .ok (.ishl, 1) := by decide +kernel
theorem dX4_part_24 : decode cX4_part 24 = .ok (.iconst (-1), 1) := by decide +kernel
theorem dX4_part_25 : decode cX4_part 25 = .ok (.ixor, 1) := by decide +kernel
theorem dX4_part_26 : decode cX4_part 26 = .ok (.iand, 1) := by decide +kernel
theorem dX4_part_27 : decode cX4_part 27 = .ok (.iastore, 1) := by decide +kernel
theorem dX4_part_28 : decode cX4_part 28 = .ok (.aload_n 0, 1) := by decide +kernel
theorem dX4_part_29 : decode cX4_part 29 = .ok (.dup, 1) := by decide +kernel
theorem dX4_part_30 : decode cX4_part 30 = .ok (.getfield 33, 3) := by decide +kernel
theorem dX4_part_33 : decode cX4_part 33 = .ok (.iconst 1, 1) := by decide +kernel
theorem dX4_part_34 : decode cX4_part 34 = .ok (.isub, 1) := by decide +kernel
theorem dX4_part_35 : decode cX4_part 35 = .ok (.putfield 33, 3) := by decide +kernel
theorem dX4_part_38 : decode cX4_part 38 = .ok (.aload_n 0, 1) := by decide +kernel
theorem dX4_part_39 : decode cX4_part 39 = .ok (.getfield 18, 3) := by decide +kernel
theorem dX4_part_42 : decode cX4_part 42 = .ok (.iload_n 1, 1) := by decide +kernel
theorem dX4_part_43 : decode cX4_part 43 = .ok (.bipush 14, 2) := by decide +kernel
theorem dX4_part_45 : decode cX4_part 45 = .ok (.imul, 1) := by decide +kernel
theorem dX4_part_46 : decode cX4_part 46 = .ok (.iload_n 2, 1) := by decide +kernel
theorem dX4_part_47 : decode cX4_part 47 = .ok (.iadd, 1) := by decide +kernel
theorem dX4_part_48 : decode cX4_part 48 = .ok (.iaload, 1) := by decide +kernel
theorem dX4_part_49 : decode cX4_part 49 = .ok (.ireturn, 1) := by decide +kernel
theorem dX4_largestPart_0 : decode cX4_largestPart 0 = .ok (.iload_n 1, 1) := by decide +kernel
theorem dX4_largestPart_1 : decode cX4_largestPart 1 = .ok (.istore_n 2, 1) := by decide +kernel
theorem dX4_largestPart_2 : decode cX4_largestPart 2 = .ok (.iconst 0, 1) := by decide +kernel
theorem dX4_largestPart_3 : decode cX4_largestPart 3 = .ok (.istore_n 3, 1) := by decide +kernel
theorem dX4_largestPart_4 : decode cX4_largestPart 4 = .ok (.iconst 0, 1) := by decide +kernel
theorem dX4_largestPart_5 : decode cX4_largestPart 5 = .ok (.istore 4, 2) := by decide +kernel
theorem dX4_largestPart_7 : decode cX4_largestPart 7 = .ok (.iload 4, 2) := by decide +kernel
theorem dX4_largestPart_9 : decode cX4_largestPart 9 = .ok (.aload_n 0, 1) := by decide +kernel
theorem dX4_largestPart_10 : decode cX4_largestPart 10 = .ok (.getfield 21, 3) := by decide +kernel
theorem dX4_largestPart_13 : decode cX4_largestPart 13 = .ok (.if_icmp .ge 49, 3) := by decide +kernel
theorem dX4_largestPart_16 : decode cX4_largestPart 16 = .ok (.iload_n 2, 1) := by decide +kernel
theorem dX4_largestPart_17 : decode cX4_largestPart 17 = .ok (.iload 4, 2) := by decide +kernel
theorem dX4_largestPart_19 : decode cX4_largestPart 19 = .ok (.invokestatic 29, 3) := by decide +kernel
theorem dX4_largestPart_22 : decode cX4_largestPart 22 = .ok (.ifCond .ne 6, 3) := by decide +kernel
theorem dX4_largestPart_25 : decode cX4_largestPart 25 = .ok (.goto 31, 3) := by decide +kernel
theorem dX4_largestPart_28 : decode cX4_largestPart 28 = .ok (.aload_n 0, 1) := by decide +kernel
theorem dX4_largestPart_29 : decode cX4_largestPart 29 = .ok (.iconst 1, 1) := by decide +kernel
theorem dX4_largestPart_30 : decode cX4_largestPart 30 = .ok (.iload 4, 2) := by decide +kernel
theorem dX4_largestPart_32 : decode cX4_largestPart 32 = .ok (.ishl, 1) := by decide +kernel
theorem dX4_largestPart_33 : decode cX4_largestPart 33 = .ok (.iload_n 1, 1) := by decide +kernel
theorem dX4_largestPart_34 : decode cX4_largestPart 34 = .ok (.invokevirtual 36, 3) := by decide +kernel
theorem dX4_largestPart_37 : decode cX4_largestPart 37 = .ok (.istore 5, 2) := by decide +kernel
theorem dX4_largestPart_39 : decode cX4_largestPart 39 = .ok (.iload_n 3, 1) := by decide +kernel
theorem dX4_largestPart_40 : decode cX4_largestPart 40 = .ok (.iload 5, 2) := by decide +kernel
theorem dX4_largestPart_42 : decode cX4_largestPart 42 = .ok (.invokestatic 40, 3) := by decide +kernel
theorem dX4_largestPart_45 : decode cX4_largestPart 45 = .ok (.invokestatic 46, 3) := by decide +kernel
theorem dX4_largestPart_48 : decode cX4_largestPart 48 = .ok (.istore_n 3, 1) := by decide +kernel
theorem dX4_largestPart_49 : decode cX4_largestPart 49 = .ok (.iload_n 2, 1) := by decide +kernel
theorem dX4_largestPart_50 : decode cX4_largestPart 50 = .ok (.iload 5, 2) := by decide +kernel
theorem dX4_largestPart_52 : decode cX4_largestPart 52 = .ok (.iconst (-1), 1) := by decide +kernel
theorem dX4_largestPart_53 : decode cX4_largestPart 53 = .ok (.ixor, 1) := by decide +kernel
theorem dX4_largestPart_54 : decode cX4_largestPart 54 = .ok (.iand, 1) := by decide +kernel
theorem dX4_largestPart_55 : decode cX4_largestPart 55 = .ok (.istore_n 2, 1) := by decide +kernel
theorem dX4_largestPart_56 : decode cX4_largestPart 56 = .ok (.iinc 4 1, 3) := by decide +kernel
theorem dX4_largestPart_59 : decode cX4_largestPart 59 = .ok (.goto (-52), 3) := by decide +kernel
theorem dX4_largestPart_62 : decode cX4_largestPart 62 = .ok (.iload_n 3, 1) := by decide +kernel
theorem dX4_largestPart_63 : decode cX4_largestPart 63 = .ok (.ireturn, 1) := by decide +kernel
theorem dX4_reached_0 : decode cX4_reached 0 = .ok (.iload_n 1, 1) := by decide +kernel
theorem dX4_reached_1 : decode cX4_reached 1 = .ok (.istore_n 3, 1) := by decide +kernel
theorem dX4_reached_2 : decode cX4_reached 2 = .ok (.iconst 0, 1) := by decide +kernel
theorem dX4_reached_3 : decode cX4_reached 3 = .ok (.istore 4, 2) := by decide +kernel
theorem dX4_reached_5 : decode cX4_reached 5 = .ok (.iload 4, 2) := by decide +kernel
theorem dX4_reached_7 : decode cX4_reached 7 = .ok (.aload_n 0, 1) := by decide +kernel
theorem dX4_reached_8 : decode cX4_reached 8 = .ok (.getfield 21, 3) := by decide +kernel
theorem dX4_reached_11 : decode cX4_reached 11 = .ok (.if_icmp .ge 65, 3) := by decide +kernel
theorem dX4_reached_14 : decode cX4_reached 14 = .ok (.iload_n 3, 1) := by decide +kernel
theorem dX4_reached_15 : decode cX4_reached 15 = .ok (.istore 5, 2) := by decide +kernel
theorem dX4_reached_17 : decode cX4_reached 17 = .ok (.iconst 0, 1) := by decide +kernel
theorem dX4_reached_18 : decode cX4_reached 18 = .ok (.istore 6, 2) := by decide +kernel
theorem dX4_reached_20 : decode cX4_reached 20 = .ok (.iload 6, 2) := by decide +kernel
theorem dX4_reached_22 : decode cX4_reached 22 = .ok (.aload_n 0, 1) := by decide +kernel
theorem dX4_reached_23 : decode cX4_reached 23 = .ok (.getfield 21, 3) := by decide +kernel
theorem dX4_reached_26 : decode cX4_reached 26 = .ok (.if_icmp .ge 32, 3) := by decide +kernel
theorem dX4_reached_29 : decode cX4_reached 29 = .ok (.iload_n 3, 1) := by decide +kernel
theorem dX4_reached_30 : decode cX4_reached 30 = .ok (.iload 6, 2) := by decide +kernel
theorem dX4_reached_32 : decode cX4_reached 32 = .ok (.invokestatic 29, 3) := by decide +kernel
theorem dX4_reached_35 : decode cX4_reached 35 = .ok (.ifCond .eq 17, 3) := by decide +kernel
theorem dX4_reached_38 : decode cX4_reached 38 = .ok (.iload 5, 2) := by decide +kernel
theorem dX4_reached_40 : decode cX4_reached 40 = .ok (.aload_n 0, 1) := by decide +kernel
theorem dX4_reached_41 : decode cX4_reached 41 = .ok (.getfield 15, 3) := by decide +kernel
theorem dX4_reached_44 : decode cX4_reached 44 = .ok (.iload 6, 2) := by decide +kernel
theorem dX4_reached_46 : decode cX4_reached 46 = .ok (.iaload, 1) := by decide +kernel
theorem dX4_reached_47 : decode cX4_reached 47 = .ok (.iload_n 2, 1) := by decide +kernel
theorem dX4_reached_48 : decode cX4_reached 48 = .ok (.iand, 1) := by decide +kernel
theorem dX4_reached_49 : decode cX4_reached 49 = .ok (.ior, 1) := by decide +kernel
theorem dX4_reached_50 : decode cX4_reached 50 = .ok (.istore 5, 2) := by decide +kernel
theorem dX4_reached_52 : decode cX4_reached 52 = .ok (.iinc 6 1, 3) := by decide +kernel
theorem dX4_reached_55 : decode cX4_reached 55 = .ok (.goto (-35), 3) := by decide +kernel
theorem dX4_reached_58 : decode cX4_reached 58 = .ok (.iload 5, 2) := by decide +kernel
theorem dX4_reached_60 : decode cX4_reached 60 = .ok (.iload_n 3, 1) := by decide +kernel
theorem dX4_reached_61 : decode cX4_reached 61 = .ok (.if_icmp .ne 6, 3) := by decide +kernel
theorem dX4_reached_64 : decode cX4_reached 64 = .ok (.goto 12, 3) := by decide +kernel
theorem dX4_reached_67 : decode cX4_reached 67 = .ok (.iload 5, 2) := by decide +kernel
theorem dX4_reached_69 : decode cX4_reached 69 = .ok (.istore_n 3, 1) := by decide +kernel
theorem dX4_reached_70 : decode cX4_reached 70 = .ok (.iinc 4 1, 3) := by decide +kernel
theorem dX4_reached_73 : decode cX4_reached 73 = .ok (.goto (-68), 3) := by decide +kernel
theorem dX4_reached_76 : decode cX4_reached 76 = .ok (.iload_n 3, 1) := by decide +kernel
theorem dX4_reached_77 : decode cX4_reached 77 = .ok (.ireturn, 1) := by decide +kernel
def L_X2_nextPlace_4 (a1 : Int32) (a2 : Int32) (t_size : Int32) (t_knots : Nat → Int32)  : Nat → Int32 → Option (Int32)
  | 0, _ => none
  | n + 1, x3 =>
    if t_size ≤ x3 then
      if t_size ≤ (a1 + (1 : Int32)) then
        some ((-1 : Int32))
      else
        some ((a1 + (1 : Int32)))
    else
      ldA t_knots 14 x3 fun v2 =>
      cal (f_X8_hasBit a2 v2) fun u3 =>
      if u3 = 0 then
        bnd (x3 + (1 : Int32)) fun x3_4 =>
        L_X2_nextPlace_4 a1 a2 t_size t_knots n x3_4
      else
        some (x3)

set_option maxRecDepth 100000 in
set_option maxHeartbeats 1000000 in
theorem w_X2_nextPlace_4 (cA : Nat → ClassId) (q_t : Nat) (t_held : Int32) (q_t_knots : Nat) (a1 : Int32) (a2 : Int32) (t_size : Int32) (t_knots : Nat → Int32) {X : XT}  (C : Cx X cX2_nextPlace RX2 (some .int) cA 1 21 4) (r : Int32) (F : Fx X (sB (some (.int r)) [oB q_t 2 [.ref q_t_knots, .int t_size, .int t_held], aI cA q_t_knots 14 t_knots]) 0 0)  : ∀ (n : Nat) (x3 : Int32), L_X2_nextPlace_4 a1 a2 t_size t_knots n x3 = some r → Go X 4 0 0 4 [oB q_t 2 [.ref q_t_knots, .int t_size, .int t_held], aI cA q_t_knots 14 t_knots] [(0, .ref q_t), (1, .int a1), (2, .int a2), (3, .int x3)] [] := by
  intro n
  induction n with
  | zero => intro x3 hf; exact no_some hf
  | succ n ih =>
    intro x3 hf
    rw [L_X2_nextPlace_4] at hf
    refine g_iload_n C 4 3 dX2_nextPlace_4 rfl rfl ?_
    refine g_aload_n C 5 0 dX2_nextPlace_5 rfl rfl ?_
    refine g_get C 6 0 1 dX2_nextPlace_6 inX2 rfl rfl (by decide) kw_3 rfl ?_
    refine g_icmp_ge C 9 33 dX2_nextPlace_9 (by decide) hf (fun hf => ?_) (fun hf => ?_)
    · refine g_iload_n C 33 1 dX2_nextPlace_33 rfl rfl ?_
      refine g_iconst C 34 (1 : Int32) dX2_nextPlace_34 (by decide) ?_
      refine g_iadd C 35 dX2_nextPlace_35 ?_
      refine g_aload_n C 36 0 dX2_nextPlace_36 rfl rfl ?_
      refine g_get C 37 0 1 dX2_nextPlace_37 inX2 rfl rfl (by decide) kw_3 rfl ?_
      refine g_icmp_ge C 40 49 dX2_nextPlace_40 (by decide) hf (fun hf => ?_) (fun hf => ?_)
      · refine g_iconst C 49 (-1 : Int32) dX2_nextPlace_49 (by decide) ?_
        cases hf
        exact g_iret C 50 dX2_nextPlace_50 F ⟨rfl, rfl⟩
      · refine g_iload_n C 43 1 dX2_nextPlace_43 rfl rfl ?_
        refine g_iconst C 44 (1 : Int32) dX2_nextPlace_44 (by decide) ?_
        refine g_iadd C 45 dX2_nextPlace_45 ?_
        refine g_goto C 46 50 dX2_nextPlace_46 (by decide) ?_
        cases hf
        exact g_iret C 50 dX2_nextPlace_50 F ⟨rfl, rfl⟩
    · refine g_iload_n C 12 2 dX2_nextPlace_12 rfl rfl ?_
      refine g_aload_n C 13 0 dX2_nextPlace_13 rfl rfl ?_
      refine g_get C 14 0 0 dX2_nextPlace_14 inX2 rfl rfl (by decide) kw_4 rfl ?_
      refine g_iload_n C 17 3 dX2_nextPlace_17 rfl rfl ?_
      refine g_iald C 18 1 dX2_nextPlace_18 rfl hf (fun v2 hf => ?_)
      obtain ⟨u3, hu3, hf⟩ := cal_some hf
      refine g_callSN C 19 [] (rest := []) dX2_nextPlace_19 (c_X8_hasBit (x_l X) cA a2 v2 u3 hu3) (List.mem_of_getElem? (i := 8) rfl) kw_5 kw_6 kw_7 ok_X8_hasBit ⟨Nat.le_of_ble_eq_true rfl, Nat.le_of_ble_eq_true rfl⟩ ⟨Nat.zero_le _, Nat.zero_le _⟩ ⟨rfl, rfl⟩ rfl rfl rfl (Nat.le_of_ble_eq_true rfl) rfl (ws' := [oB q_t 2 [.ref q_t_knots, .int t_size, .int t_held], aI cA q_t_knots 14 t_knots]) (st' := [.int u3]) (N0 := 2) rfl [none, none] (by decide) rfl rfl ?_
      refine g_if_eq C 22 27 dX2_nextPlace_22 (by decide) hf (fun hf => ?_) (fun hf => ?_)
      · refine g_iinc C 27 3 (v := x3 + (1 : Int32)) (fun z => [(3, .int z), (0, .ref q_t), (1, .int a1), (2, .int a2)]) dX2_nextPlace_27 rfl rfl (by decide) (fun _ => rfl) hf (fun x3_4 hf => ?_)
        refine g_goto C 30 4 dX2_nextPlace_30 (by decide) ?_
        refine g_lv [1, 2, 3, 0] rfl ?_
        exact ih x3_4 hf
      · refine g_iload_n C 25 3 dX2_nextPlace_25 rfl rfl ?_
        cases hf
        exact g_iret C 26 dX2_nextPlace_26 F ⟨rfl, rfl⟩
def f_X2_nextPlace (a1 : Int32) (a2 : Int32) (t_size : Int32) (t_knots : Nat → Int32) : Option (Int32) :=
  bnd (a1 + (1 : Int32)) fun x3_1 =>
  L_X2_nextPlace_4 a1 a2 t_size t_knots NN x3_1

set_option maxRecDepth 100000 in
set_option maxHeartbeats 1000000 in
theorem c_X2_nextPlace (l : Launch) (cA : Nat → ClassId) (q_t : Nat) (t_size : Int32) (t_held : Int32) (q_t_knots : Nat) (t_knots : Nat → Int32)  (a1 : Int32) (a2 : Int32) (r : Int32) (hf : f_X2_nextPlace a1 a2 t_size t_knots = some r) : MT l cA yX2_nextPlace cX2_nextPlace 4 (some .int) ({ frames := 1, cells := 0, slots := 0, locals := 21 } : Room) [.ref q_t, .int a1, .int a2] [oB q_t 2 [.ref q_t_knots, .int t_size, .int t_held], aI cA q_t_knots 14 t_knots] (sB (some (.int r)) [oB q_t 2 [.ref q_t_knots, .int t_size, .int t_held], aI cA q_t_knots 14 t_knots]) := by
  refine MT.of (by decide) (Nat.le_of_ble_eq_true rfl) ?_
  intro X hXl C F hnm hrc hrs
  subst hXl
  unfold f_X2_nextPlace at hf
  have C : Cx X cX2_nextPlace RX2 (some .int) cA 1 21 4 := C
  show Go X 4 0 0 0 [oB q_t 2 [.ref q_t_knots, .int t_size, .int t_held], aI cA q_t_knots 14 t_knots] [(0, .ref q_t), (1, .int a1), (2, .int a2)] []
  refine g_iload_n C 0 1 dX2_nextPlace_0 rfl rfl ?_
  refine g_iconst C 1 (1 : Int32) dX2_nextPlace_1 (by decide) ?_
  refine g_iadd C 2 dX2_nextPlace_2 ?_
  refine g_istore_n C 3 (fun z => [(3, .int z), (0, .ref q_t), (1, .int a1), (2, .int a2)]) dX2_nextPlace_3 rfl (by decide) (fun _ => rfl) hf (fun x3_1 hf => ?_)
  refine g_lv [1, 2, 3, 0] rfl ?_
  exact w_X2_nextPlace_4 cA q_t t_held q_t_knots a1 a2 t_size t_knots C r F NN x3_1 hf

def f_X4_has (a1 : Int32) (t_size : Int32) : Option (Int32) :=
  if a1 < 0 then
    some ((0 : Int32))
  else
    if t_size ≤ a1 then
      some ((0 : Int32))
    else
      some ((1 : Int32))

set_option maxRecDepth 100000 in
set_option maxHeartbeats 1000000 in
theorem c_X4_has (l : Launch) (cA : Nat → ClassId) (q_t : Nat) (q_t_loads : Nat) (q_t_near : Nat) (q_t_ties : Nat) (t_size : Int32) (t_edges : Int32)  (a1 : Int32) (r : Int32) (hf : f_X4_has a1 t_size = some r) : MT l cA yX4_has cX4_has 2 (some .boolean) ({ frames := 0, cells := 0, slots := 0, locals := 0 } : Room) [.ref q_t, .int a1] [oB q_t 4 [.ref q_t_loads, .ref q_t_near, .ref q_t_ties, .int t_size, .int t_edges]] (sB (some (.int r)) [oB q_t 4 [.ref q_t_loads, .ref q_t_near, .ref q_t_ties, .int t_size, .int t_edges]]) := by
  refine MT.of (by decide) (Nat.le_of_ble_eq_true rfl) ?_
  intro X hXl C F hnm hrc hrs
  subst hXl
  unfold f_X4_has at hf
  have C : Cx X cX4_has RX4 (some .boolean) cA 0 0 2 := C
  show Go X 2 0 0 0 [oB q_t 4 [.ref q_t_loads, .ref q_t_near, .ref q_t_ties, .int t_size, .int t_edges]] [(0, .ref q_t), (1, .int a1)] []
  refine g_iload_n C 0 1 dX4_has_0 rfl rfl ?_
  refine g_if_lt C 1 16 dX4_has_1 (by decide) hf (fun hf => ?_) (fun hf => ?_)
  · refine g_iconst C 16 (0 : Int32) dX4_has_16 (by decide) ?_
    cases hf
    exact g_zret C 17 dX4_has_17 (by decide) F ⟨rfl, rfl⟩
  · refine g_iload_n C 4 1 dX4_has_4 rfl rfl ?_
    refine g_aload_n C 5 0 dX4_has_5 rfl rfl ?_
    refine g_get C 6 0 3 dX4_has_6 inX4 rfl rfl (by decide) kw_45 rfl ?_
    refine g_icmp_ge C 9 16 dX4_has_9 (by decide) hf (fun hf => ?_) (fun hf => ?_)
    · refine g_iconst C 16 (0 : Int32) dX4_has_16 (by decide) ?_
      cases hf
      exact g_zret C 17 dX4_has_17 (by decide) F ⟨rfl, rfl⟩
    · refine g_iconst C 12 (1 : Int32) dX4_has_12 (by decide) ?_
      refine g_goto C 13 17 dX4_has_13 (by decide) ?_
      cases hf
      exact g_zret C 17 dX4_has_17 (by decide) F ⟨rfl, rfl⟩

def f_X4_joined (a1 : Int32) (a2 : Int32) (t_size : Int32) (t_near : Nat → Int32) : Option (Int32) :=
  cal (f_X4_has a1 t_size) fun u1 =>
  if u1 = 0 then
    some ((0 : Int32))
  else
    cal (f_X4_has a2 t_size) fun u2 =>
    if u2 = 0 then
      some ((0 : Int32))
    else
      ldA t_near 14 a1 fun v3 =>
      cal (f_X8_hasBit v3 a2) fun u4 =>
      if u4 = 0 then
        some ((0 : Int32))
      else
        some ((1 : Int32))

set_option maxRecDepth 100000 in
set_option maxHeartbeats 1000000 in
theorem c_X4_joined (l : Launch) (cA : Nat → ClassId) (q_t : Nat) (q_t_loads : Nat) (q_t_ties : Nat) (t_size : Int32) (t_edges : Int32) (q_t_near : Nat) (t_near : Nat → Int32)  (a1 : Int32) (a2 : Int32) (r : Int32) (hf : f_X4_joined a1 a2 t_size t_near = some r) : MT l cA yX4_joined cX4_joined 3 (some .boolean) ({ frames := 1, cells := 0, slots := 0, locals := 21 } : Room) [.ref q_t, .int a1, .int a2] [oB q_t 4 [.ref q_t_loads, .ref q_t_near, .ref q_t_ties, .int t_size, .int t_edges], aI cA q_t_near 14 t_near] (sB (some (.int r)) [oB q_t 4 [.ref q_t_loads, .ref q_t_near, .ref q_t_ties, .int t_size, .int t_edges], aI cA q_t_near 14 t_near]) := by
  refine MT.of (by decide) (Nat.le_of_ble_eq_true rfl) ?_
  intro X hXl C F hnm hrc hrs
  subst hXl
  unfold f_X4_joined at hf
  have C : Cx X cX4_joined RX4 (some .boolean) cA 1 21 3 := C
  show Go X 3 0 0 0 [oB q_t 4 [.ref q_t_loads, .ref q_t_near, .ref q_t_ties, .int t_size, .int t_edges], aI cA q_t_near 14 t_near] [(0, .ref q_t), (1, .int a1), (2, .int a2)] []
  refine g_aload_n C 0 0 dX4_joined_0 rfl rfl ?_
  refine g_iload_n C 1 1 dX4_joined_1 rfl rfl ?_
  obtain ⟨u1, hu1, hf⟩ := cal_some hf
  refine g_callV1 C 2 [0] 0 (rest := []) dX4_joined_2 (c_X4_has (x_l X) cA q_t q_t_loads q_t_near q_t_ties t_size t_edges a1 u1 hu1) kw_46 kw_47 kw_48 kw_49 kw_50 ok_X4_has ⟨Nat.le_of_ble_eq_true rfl, Nat.le_of_ble_eq_true rfl⟩ ⟨Nat.zero_le _, Nat.zero_le _⟩ ⟨rfl, rfl⟩ rfl rfl rfl rfl rfl (Nat.le_of_ble_eq_true rfl) rfl (ws' := [oB q_t 4 [.ref q_t_loads, .ref q_t_near, .ref q_t_ties, .int t_size, .int t_edges], aI cA q_t_near 14 t_near]) (st' := [.int u1]) (N0 := 2) rfl [some 0, none] (by decide) rfl rfl ?_
  refine g_if_eq C 5 33 dX4_joined_5 (by decide) hf (fun hf => ?_) (fun hf => ?_)
  · refine g_iconst C 33 (0 : Int32) dX4_joined_33 (by decide) ?_
    cases hf
    exact g_zret C 34 dX4_joined_34 (by decide) F ⟨rfl, rfl⟩
  · refine g_aload_n C 8 0 dX4_joined_8 rfl rfl ?_
    refine g_iload_n C 9 2 dX4_joined_9 rfl rfl ?_
    obtain ⟨u2, hu2, hf⟩ := cal_some hf
    refine g_callV1 C 10 [0] 0 (rest := []) dX4_joined_10 (c_X4_has (x_l X) cA q_t q_t_loads q_t_near q_t_ties t_size t_edges a2 u2 hu2) kw_46 kw_47 kw_48 kw_49 kw_50 ok_X4_has ⟨Nat.le_of_ble_eq_true rfl, Nat.le_of_ble_eq_true rfl⟩ ⟨Nat.zero_le _, Nat.zero_le _⟩ ⟨rfl, rfl⟩ rfl rfl rfl rfl rfl (Nat.le_of_ble_eq_true rfl) rfl (ws' := [oB q_t 4 [.ref q_t_loads, .ref q_t_near, .ref q_t_ties, .int t_size, .int t_edges], aI cA q_t_near 14 t_near]) (st' := [.int u2]) (N0 := 2) rfl [some 0, none] (by decide) rfl rfl ?_
    refine g_if_eq C 13 33 dX4_joined_13 (by decide) hf (fun hf => ?_) (fun hf => ?_)
    · refine g_iconst C 33 (0 : Int32) dX4_joined_33 (by decide) ?_
      cases hf
      exact g_zret C 34 dX4_joined_34 (by decide) F ⟨rfl, rfl⟩
    · refine g_aload_n C 16 0 dX4_joined_16 rfl rfl ?_
      refine g_get C 17 0 1 dX4_joined_17 inX4 rfl rfl (by decide) kw_51 rfl ?_
      refine g_iload_n C 20 1 dX4_joined_20 rfl rfl ?_
      refine g_iald C 21 1 dX4_joined_21 rfl hf (fun v3 hf => ?_)
      refine g_iload_n C 22 2 dX4_joined_22 rfl rfl ?_
      obtain ⟨u4, hu4, hf⟩ := cal_some hf
      refine g_callSN C 23 [] (rest := []) dX4_joined_23 (c_X8_hasBit (x_l X) cA v3 a2 u4 hu4) (List.mem_of_getElem? (i := 7) rfl) kw_5 kw_6 kw_7 ok_X8_hasBit ⟨Nat.le_of_ble_eq_true rfl, Nat.le_of_ble_eq_true rfl⟩ ⟨Nat.zero_le _, Nat.zero_le _⟩ ⟨rfl, rfl⟩ rfl rfl rfl (Nat.le_of_ble_eq_true rfl) rfl (ws' := [oB q_t 4 [.ref q_t_loads, .ref q_t_near, .ref q_t_ties, .int t_size, .int t_edges], aI cA q_t_near 14 t_near]) (st' := [.int u4]) (N0 := 2) rfl [none, none] (by decide) rfl rfl ?_
      refine g_if_eq C 26 33 dX4_joined_26 (by decide) hf (fun hf => ?_) (fun hf => ?_)
      · refine g_iconst C 33 (0 : Int32) dX4_joined_33 (by decide) ?_
        cases hf
        exact g_zret C 34 dX4_joined_34 (by decide) F ⟨rfl, rfl⟩
      · refine g_iconst C 29 (1 : Int32) dX4_joined_29 (by decide) ?_
        refine g_goto C 30 34 dX4_joined_30 (by decide) ?_
        cases hf
        exact g_zret C 34 dX4_joined_34 (by decide) F ⟨rfl, rfl⟩

def f_X4_everyKnot (t_size : Int32) : Option (Int32) :=
  some ((((1 : Int32) <<< (t_size &&& 31)) - (1 : Int32)))

set_option maxRecDepth 100000 in
set_option maxHeartbeats 1000000 in
theorem c_X4_everyKnot (l : Launch) (cA : Nat → ClassId) (q_t : Nat) (q_t_loads : Nat) (q_t_near : Nat) (q_t_ties : Nat) (t_size : Int32) (t_edges : Int32)   (r : Int32) (hf : f_X4_everyKnot t_size = some r) : MT l cA yX4_everyKnot cX4_everyKnot 1 (some .int) ({ frames := 0, cells := 0, slots := 0, locals := 0 } : Room) [.ref q_t] [oB q_t 4 [.ref q_t_loads, .ref q_t_near, .ref q_t_ties, .int t_size, .int t_edges]] (sB (some (.int r)) [oB q_t 4 [.ref q_t_loads, .ref q_t_near, .ref q_t_ties, .int t_size, .int t_edges]]) := by
  refine MT.of (by decide) (Nat.le_of_ble_eq_true rfl) ?_
  intro X hXl C F hnm hrc hrs
  subst hXl
  unfold f_X4_everyKnot at hf
  have C : Cx X cX4_everyKnot RX4 (some .int) cA 0 0 1 := C
  show Go X 1 0 0 0 [oB q_t 4 [.ref q_t_loads, .ref q_t_near, .ref q_t_ties, .int t_size, .int t_edges]] [(0, .ref q_t)] []
  refine g_iconst C 0 (1 : Int32) dX4_everyKnot_0 (by decide) ?_
  refine g_aload_n C 1 0 dX4_everyKnot_1 rfl rfl ?_
  refine g_get C 2 0 3 dX4_everyKnot_2 inX4 rfl rfl (by decide) kw_45 rfl ?_
  refine g_ishl C 5 dX4_everyKnot_5 ?_
  refine g_iconst C 6 (1 : Int32) dX4_everyKnot_6 (by decide) ?_
  refine g_isub C 7 dX4_everyKnot_7 ?_
  cases hf
  exact g_iret C 8 dX4_everyKnot_8 F ⟨rfl, rfl⟩

def f_X2_holds (a1 : Int32) (t_held : Int32) : Option (Int32) :=
  cal (f_X8_hasBit t_held a1) fun u1 =>
  chk (u1 = 0 ∨ u1 = 1) (some (u1))

set_option maxRecDepth 100000 in
set_option maxHeartbeats 1000000 in
theorem c_X2_holds (l : Launch) (cA : Nat → ClassId) (q_t : Nat) (q_t_knots : Nat) (t_size : Int32) (t_held : Int32)  (a1 : Int32) (r : Int32) (hf : f_X2_holds a1 t_held = some r) : MT l cA yX2_holds cX2_holds 2 (some .boolean) ({ frames := 1, cells := 0, slots := 0, locals := 21 } : Room) [.ref q_t, .int a1] [oB q_t 2 [.ref q_t_knots, .int t_size, .int t_held]] (sB (some (.int r)) [oB q_t 2 [.ref q_t_knots, .int t_size, .int t_held]]) := by
  refine MT.of (by decide) (Nat.le_of_ble_eq_true rfl) ?_
  intro X hXl C F hnm hrc hrs
  subst hXl
  unfold f_X2_holds at hf
  have C : Cx X cX2_holds RX2 (some .boolean) cA 1 21 2 := C
  show Go X 2 0 0 0 [oB q_t 2 [.ref q_t_knots, .int t_size, .int t_held]] [(0, .ref q_t), (1, .int a1)] []
  refine g_aload_n C 0 0 dX2_holds_0 rfl rfl ?_
  refine g_get C 1 0 2 dX2_holds_1 inX2 rfl rfl (by decide) kw_91 rfl ?_
  refine g_iload_n C 4 1 dX2_holds_4 rfl rfl ?_
  obtain ⟨u1, hu1, hf⟩ := cal_some hf
  refine g_callSN C 5 [] (rest := []) dX2_holds_5 (c_X8_hasBit (x_l X) cA t_held a1 u1 hu1) (List.mem_of_getElem? (i := 8) rfl) kw_5 kw_6 kw_7 ok_X8_hasBit ⟨Nat.le_of_ble_eq_true rfl, Nat.le_of_ble_eq_true rfl⟩ ⟨Nat.zero_le _, Nat.zero_le _⟩ ⟨rfl, rfl⟩ rfl rfl rfl (Nat.le_of_ble_eq_true rfl) rfl (ws' := [oB q_t 2 [.ref q_t_knots, .int t_size, .int t_held]]) (st' := [.int u1]) (N0 := 1) rfl [none] (by decide) rfl rfl ?_
  obtain ⟨hv, hf⟩ := chk_some hf
  cases hf
  exact g_zret C 8 dX2_holds_8 hv F ⟨rfl, rfl⟩

def f_X2_append (a1 : Int32) (t_size : Int32) (t_held : Int32) (t_knots : Nat → Int32) : Option (Int32 × Int32 × (Nat → Int32)) :=
  if t_size < (14 : Int32) then
    stI t_knots 14 t_size a1 fun t_knots_1 =>
    bnd (t_size + (1 : Int32)) fun t_size_2 =>
    bnd (t_held ||| ((1 : Int32) <<< (a1 &&& 31))) fun t_held_3 =>
    some (t_size_2, t_held_3, t_knots_1)
  else
    some (t_size, t_held, t_knots)

set_option maxRecDepth 100000 in
set_option maxHeartbeats 1000000 in
theorem c_X2_append (l : Launch) (cA : Nat → ClassId) (q_t : Nat) (t_size : Int32) (t_held : Int32) (q_t_knots : Nat) (t_knots : Nat → Int32)  (a1 : Int32) (r : Int32 × Int32 × (Nat → Int32)) (hf : f_X2_append a1 t_size t_held t_knots = some r) : MT l cA yX2_append cX2_append 2 none ({ frames := 0, cells := 0, slots := 0, locals := 0 } : Room) [.ref q_t, .int a1] [oB q_t 2 [.ref q_t_knots, .int t_size, .int t_held], aI cA q_t_knots 14 t_knots] (sB (none) [oB q_t 2 [.ref q_t_knots, .int r.1, .int r.2.1], aI cA q_t_knots 14 r.2.2]) := by
  refine MT.of (by decide) (Nat.le_of_ble_eq_true rfl) ?_
  intro X hXl C F hnm hrc hrs
  subst hXl
  unfold f_X2_append at hf
  have C : Cx X cX2_append RX2 none cA 0 0 2 := C
  show Go X 2 0 0 0 [oB q_t 2 [.ref q_t_knots, .int t_size, .int t_held], aI cA q_t_knots 14 t_knots] [(0, .ref q_t), (1, .int a1)] []
  refine g_aload_n C 0 0 dX2_append_0 rfl rfl ?_
  refine g_get C 1 0 1 dX2_append_1 inX2 rfl rfl (by decide) kw_3 rfl ?_
  refine g_bipush C 4 (14 : Int32) dX2_append_4 (by decide) ?_
  refine g_icmp_lt C 6 10 dX2_append_6 (by decide) hf (fun hf => ?_) (fun hf => ?_)
  · refine g_aload_n C 10 0 dX2_append_10 rfl rfl ?_
    refine g_get C 11 0 0 dX2_append_11 inX2 rfl rfl (by decide) kw_4 rfl ?_
    refine g_aload_n C 14 0 dX2_append_14 rfl rfl ?_
    refine g_get C 15 0 1 dX2_append_15 inX2 rfl rfl (by decide) kw_3 rfl ?_
    refine g_iload_n C 18 1 dX2_append_18 rfl rfl ?_
    refine g_iast C 19 1 (fun z => [oB q_t 2 [.ref q_t_knots, .int t_size, .int t_held], aI cA q_t_knots 14 z]) dX2_append_19 rfl (fun _ => rfl) hf (fun t_knots_1 hf => ?_)
    refine g_aload_n C 20 0 dX2_append_20 rfl rfl ?_
    refine g_dup C 21 dX2_append_21 rfl ?_
    refine g_get C 22 0 1 dX2_append_22 inX2 rfl rfl (by decide) kw_3 rfl ?_
    refine g_iconst C 25 (1 : Int32) dX2_append_25 (by decide) ?_
    refine g_iadd C 26 dX2_append_26 ?_
    refine g_puti C 27 0 1 tyX2 (fun z => [oB q_t 2 [.ref q_t_knots, .int z, .int t_held], aI cA q_t_knots 14 t_knots_1]) dX2_append_27 inX2 tyX2_ok nmX2 rfl rfl (by decide) kw_3 rfl rfl (Nat.le_of_ble_eq_true rfl) (fun _ => rfl) hf (fun t_size_2 hf => ?_)
    refine g_aload_n C 30 0 dX2_append_30 rfl rfl ?_
    refine g_dup C 31 dX2_append_31 rfl ?_
    refine g_get C 32 0 2 dX2_append_32 inX2 rfl rfl (by decide) kw_91 rfl ?_
    refine g_iconst C 35 (1 : Int32) dX2_append_35 (by decide) ?_
    refine g_iload_n C 36 1 dX2_append_36 rfl rfl ?_
    refine g_ishl C 37 dX2_append_37 ?_
    refine g_ior C 38 dX2_append_38 ?_
    refine g_puti C 39 0 2 tyX2 (fun z => [oB q_t 2 [.ref q_t_knots, .int t_size_2, .int z], aI cA q_t_knots 14 t_knots_1]) dX2_append_39 inX2 tyX2_ok nmX2 rfl rfl (by decide) kw_91 rfl rfl (Nat.le_of_ble_eq_true rfl) (fun _ => rfl) hf (fun t_held_3 hf => ?_)
    cases hf
    exact g_vret C 42 dX2_append_42 F ⟨rfl, rfl⟩
  · cases hf
    exact g_vret C 9 dX2_append_9 F ⟨rfl, rfl⟩

def f_X2_empty (t_size : Int32) (t_held : Int32) : Option (Int32 × Int32) :=
  bnd (0 : Int32) fun t_size_1 =>
  bnd (0 : Int32) fun t_held_2 =>
  some (t_size_1, t_held_2)

set_option maxRecDepth 100000 in
set_option maxHeartbeats 1000000 in
theorem c_X2_empty (l : Launch) (cA : Nat → ClassId) (q_t : Nat) (q_t_knots : Nat) (t_size : Int32) (t_held : Int32)   (r : Int32 × Int32) (hf : f_X2_empty t_size t_held = some r) : MT l cA yX2_empty cX2_empty 1 none ({ frames := 0, cells := 0, slots := 0, locals := 0 } : Room) [.ref q_t] [oB q_t 2 [.ref q_t_knots, .int t_size, .int t_held]] (sB (none) [oB q_t 2 [.ref q_t_knots, .int r.1, .int r.2]]) := by
  refine MT.of (by decide) (Nat.le_of_ble_eq_true rfl) ?_
  intro X hXl C F hnm hrc hrs
  subst hXl
  unfold f_X2_empty at hf
  have C : Cx X cX2_empty RX2 none cA 0 0 1 := C
  show Go X 1 0 0 0 [oB q_t 2 [.ref q_t_knots, .int t_size, .int t_held]] [(0, .ref q_t)] []
  refine g_aload_n C 0 0 dX2_empty_0 rfl rfl ?_
  refine g_iconst C 1 (0 : Int32) dX2_empty_1 (by decide) ?_
  refine g_puti C 2 0 1 tyX2 (fun z => [oB q_t 2 [.ref q_t_knots, .int z, .int t_held]]) dX2_empty_2 inX2 tyX2_ok nmX2 rfl rfl (by decide) kw_3 rfl rfl (Nat.le_of_ble_eq_true rfl) (fun _ => rfl) hf (fun t_size_1 hf => ?_)
  refine g_aload_n C 5 0 dX2_empty_5 rfl rfl ?_
  refine g_iconst C 6 (0 : Int32) dX2_empty_6 (by decide) ?_
  refine g_puti C 7 0 2 tyX2 (fun z => [oB q_t 2 [.ref q_t_knots, .int t_size_1, .int z]]) dX2_empty_7 inX2 tyX2_ok nmX2 rfl rfl (by decide) kw_91 rfl rfl (Nat.le_of_ble_eq_true rfl) (fun _ => rfl) hf (fun t_held_2 hf => ?_)
  cases hf
  exact g_vret C 10 dX2_empty_10 F ⟨rfl, rfl⟩

def f_X3_has (a1 : Int32) (t_size : Int32) : Option (Int32) :=
  if a1 < 0 then
    some ((0 : Int32))
  else
    if t_size ≤ a1 then
      some ((0 : Int32))
    else
      some ((1 : Int32))

set_option maxRecDepth 100000 in
set_option maxHeartbeats 1000000 in
theorem c_X3_has (l : Launch) (cA : Nat → ClassId) (q_t : Nat) (t_size : Int32) (q_t_factors : Nat) (q_t_pairFactors : Nat) (q_t_barred : Nat) (q_t_forbidden : Nat)  (a1 : Int32) (r : Int32) (hf : f_X3_has a1 t_size = some r) : MT l cA yX3_has cX3_has 2 (some .boolean) ({ frames := 0, cells := 0, slots := 0, locals := 0 } : Room) [.ref q_t, .int a1] [oB q_t 3 [.int t_size, .ref q_t_factors, .ref q_t_pairFactors, .ref q_t_barred, .ref q_t_forbidden]] (sB (some (.int r)) [oB q_t 3 [.int t_size, .ref q_t_factors, .ref q_t_pairFactors, .ref q_t_barred, .ref q_t_forbidden]]) := by
  refine MT.of (by decide) (Nat.le_of_ble_eq_true rfl) ?_
  intro X hXl C F hnm hrc hrs
  subst hXl
  unfold f_X3_has at hf
  have C : Cx X cX3_has RX3 (some .boolean) cA 0 0 2 := C
  show Go X 2 0 0 0 [oB q_t 3 [.int t_size, .ref q_t_factors, .ref q_t_pairFactors, .ref q_t_barred, .ref q_t_forbidden]] [(0, .ref q_t), (1, .int a1)] []
  refine g_iload_n C 0 1 dX3_has_0 rfl rfl ?_
  refine g_if_lt C 1 16 dX3_has_1 (by decide) hf (fun hf => ?_) (fun hf => ?_)
  · refine g_iconst C 16 (0 : Int32) dX3_has_16 (by decide) ?_
    cases hf
    exact g_zret C 17 dX3_has_17 (by decide) F ⟨rfl, rfl⟩
  · refine g_iload_n C 4 1 dX3_has_4 rfl rfl ?_
    refine g_aload_n C 5 0 dX3_has_5 rfl rfl ?_
    refine g_get C 6 0 0 dX3_has_6 inX3 rfl rfl (by decide) kw_92 rfl ?_
    refine g_icmp_ge C 9 16 dX3_has_9 (by decide) hf (fun hf => ?_) (fun hf => ?_)
    · refine g_iconst C 16 (0 : Int32) dX3_has_16 (by decide) ?_
      cases hf
      exact g_zret C 17 dX3_has_17 (by decide) F ⟨rfl, rfl⟩
    · refine g_iconst C 12 (1 : Int32) dX3_has_12 (by decide) ?_
      refine g_goto C 13 17 dX3_has_13 (by decide) ?_
      cases hf
      exact g_zret C 17 dX3_has_17 (by decide) F ⟨rfl, rfl⟩

def L_X3_startAgain_62 (a1 : Int32)  : Nat → Int32 → Int32 → (Nat → Int32) → (Nat → Int32) → (Nat → Int32) → (Nat → Int32) → Option (Int32 × (Nat → Int32) × (Nat → Int32) × (Nat → Int32) × (Nat → Int32))
  | 0, _, _, _, _, _, _ => none
  | n + 1, x2, t_size, t_factors, t_pairFactors, t_barred, t_forbidden =>
    if (14 : Int32) ≤ x2 then
      some (t_size, t_factors, t_pairFactors, t_barred, t_forbidden)
    else
      stI t_forbidden 14 x2 (0 : Int32) fun t_forbidden_5 =>
      bnd (x2 + (1 : Int32)) fun x2_6 =>
      L_X3_startAgain_62 a1 n x2_6 t_size t_factors t_pairFactors t_barred t_forbidden_5

set_option maxRecDepth 100000 in
set_option maxHeartbeats 1000000 in
theorem w_X3_startAgain_62 (cA : Nat → ClassId) (q_t : Nat) (q_t_factors : Nat) (q_t_pairFactors : Nat) (q_t_barred : Nat) (q_t_forbidden : Nat) (a1 : Int32) {X : XT}  (C : Cx X cX3_startAgain RX3 none cA 0 0 3) (r : Int32 × (Nat → Int32) × (Nat → Int32) × (Nat → Int32) × (Nat → Int32)) (F : Fx X (sB (none) [oB q_t 3 [.int r.1, .ref q_t_factors, .ref q_t_pairFactors, .ref q_t_barred, .ref q_t_forbidden], aI cA q_t_factors 4 r.2.1, aI cA q_t_pairFactors 16 r.2.2.1, aZ cA q_t_barred 16 r.2.2.2.1, aI cA q_t_forbidden 14 r.2.2.2.2]) 0 0)  : ∀ (n : Nat) (x2 : Int32) (t_size : Int32) (t_factors : Nat → Int32) (t_pairFactors : Nat → Int32) (t_barred : Nat → Int32) (t_forbidden : Nat → Int32), L_X3_startAgain_62 a1 n x2 t_size t_factors t_pairFactors t_barred t_forbidden = some r → Go X 3 0 0 62 [oB q_t 3 [.int t_size, .ref q_t_factors, .ref q_t_pairFactors, .ref q_t_barred, .ref q_t_forbidden], aI cA q_t_factors 4 t_factors, aI cA q_t_pairFactors 16 t_pairFactors, aZ cA q_t_barred 16 t_barred, aI cA q_t_forbidden 14 t_forbidden] [(0, .ref q_t), (2, .int x2)] [] := by
  intro n
  induction n with
  | zero => intro x2 t_size t_factors t_pairFactors t_barred t_forbidden hf; exact no_some hf
  | succ n ih =>
    intro x2 t_size t_factors t_pairFactors t_barred t_forbidden hf
    rw [L_X3_startAgain_62] at hf
    refine g_iload_n C 62 1 dX3_startAgain_62 rfl rfl ?_
    refine g_aload_n C 63 0 dX3_startAgain_63 rfl rfl ?_
    refine g_get C 64 0 4 dX3_startAgain_64 inX3 rfl rfl (by decide) kw_95 rfl ?_
    refine g_alen C 67 4 0 (14 : Int32) dX3_startAgain_67 rfl rfl rfl ?_
    refine g_icmp_ge C 68 84 dX3_startAgain_68 (by decide) hf (fun hf => ?_) (fun hf => ?_)
    · cases hf
      exact g_vret C 84 dX3_startAgain_84 F ⟨rfl, rfl⟩
    · refine g_aload_n C 71 0 dX3_startAgain_71 rfl rfl ?_
      refine g_get C 72 0 4 dX3_startAgain_72 inX3 rfl rfl (by decide) kw_95 rfl ?_
      refine g_iload_n C 75 1 dX3_startAgain_75 rfl rfl ?_
      refine g_iconst C 76 (0 : Int32) dX3_startAgain_76 (by decide) ?_
      refine g_iast C 77 4 (fun z => [oB q_t 3 [.int t_size, .ref q_t_factors, .ref q_t_pairFactors, .ref q_t_barred, .ref q_t_forbidden], aI cA q_t_factors 4 t_factors, aI cA q_t_pairFactors 16 t_pairFactors, aZ cA q_t_barred 16 t_barred, aI cA q_t_forbidden 14 z]) dX3_startAgain_77 rfl (fun _ => rfl) hf (fun t_forbidden_5 hf => ?_)
      refine g_iinc C 78 1 (v := x2 + (1 : Int32)) (fun z => [(2, .int z), (0, .ref q_t)]) dX3_startAgain_78 rfl rfl (by decide) (fun _ => rfl) hf (fun x2_6 hf => ?_)
      refine g_goto C 81 62 dX3_startAgain_81 (by decide) ?_
      refine g_lv [1, 0] rfl ?_
      exact ih x2_6 t_size t_factors t_pairFactors t_barred t_forbidden_5 hf
def L_X3_startAgain_31 (a1 : Int32)  : Nat → Int32 → Int32 → (Nat → Int32) → (Nat → Int32) → (Nat → Int32) → (Nat → Int32) → Option (Int32 × (Nat → Int32) × (Nat → Int32) × (Nat → Int32) × (Nat → Int32))
  | 0, _, _, _, _, _, _ => none
  | n + 1, x2, t_size, t_factors, t_pairFactors, t_barred, t_forbidden =>
    if (16 : Int32) ≤ x2 then
      bnd (0 : Int32) fun x2_4 =>
      L_X3_startAgain_62 a1 NN x2_4 t_size t_factors t_pairFactors t_barred t_forbidden
    else
      stI t_pairFactors 16 x2 (0 : Int32) fun t_pairFactors_7 =>
      stZ t_barred 16 x2 (0 : Int32) fun t_barred_8 =>
      bnd (x2 + (1 : Int32)) fun x2_9 =>
      L_X3_startAgain_31 a1 n x2_9 t_size t_factors t_pairFactors_7 t_barred_8 t_forbidden

set_option maxRecDepth 100000 in
set_option maxHeartbeats 1000000 in
theorem w_X3_startAgain_31 (cA : Nat → ClassId) (q_t : Nat) (q_t_factors : Nat) (q_t_pairFactors : Nat) (q_t_barred : Nat) (q_t_forbidden : Nat) (a1 : Int32) {X : XT}  (C : Cx X cX3_startAgain RX3 none cA 0 0 3) (r : Int32 × (Nat → Int32) × (Nat → Int32) × (Nat → Int32) × (Nat → Int32)) (F : Fx X (sB (none) [oB q_t 3 [.int r.1, .ref q_t_factors, .ref q_t_pairFactors, .ref q_t_barred, .ref q_t_forbidden], aI cA q_t_factors 4 r.2.1, aI cA q_t_pairFactors 16 r.2.2.1, aZ cA q_t_barred 16 r.2.2.2.1, aI cA q_t_forbidden 14 r.2.2.2.2]) 0 0)  : ∀ (n : Nat) (x2 : Int32) (t_size : Int32) (t_factors : Nat → Int32) (t_pairFactors : Nat → Int32) (t_barred : Nat → Int32) (t_forbidden : Nat → Int32), L_X3_startAgain_31 a1 n x2 t_size t_factors t_pairFactors t_barred t_forbidden = some r → Go X 3 0 0 31 [oB q_t 3 [.int t_size, .ref q_t_factors, .ref q_t_pairFactors, .ref q_t_barred, .ref q_t_forbidden], aI cA q_t_factors 4 t_factors, aI cA q_t_pairFactors 16 t_pairFactors, aZ cA q_t_barred 16 t_barred, aI cA q_t_forbidden 14 t_forbidden] [(0, .ref q_t), (2, .int x2)] [] := by
  intro n
  induction n with
  | zero => intro x2 t_size t_factors t_pairFactors t_barred t_forbidden hf; exact no_some hf
  | succ n ih =>
    intro x2 t_size t_factors t_pairFactors t_barred t_forbidden hf
    rw [L_X3_startAgain_31] at hf
    refine g_iload_n C 31 1 dX3_startAgain_31 rfl rfl ?_
    refine g_aload_n C 32 0 dX3_startAgain_32 rfl rfl ?_
    refine g_get C 33 0 2 dX3_startAgain_33 inX3 rfl rfl (by decide) kw_94 rfl ?_
    refine g_alen C 36 2 0 (16 : Int32) dX3_startAgain_36 rfl rfl rfl ?_
    refine g_icmp_ge C 37 60 dX3_startAgain_37 (by decide) hf (fun hf => ?_) (fun hf => ?_)
    · refine g_iconst C 60 (0 : Int32) dX3_startAgain_60 (by decide) ?_
      refine g_istore_n C 61 (fun z => [(2, .int z), (0, .ref q_t)]) dX3_startAgain_61 rfl (by decide) (fun _ => rfl) hf (fun x2_4 hf => ?_)
      refine g_lv [1, 0] rfl ?_
      exact w_X3_startAgain_62 cA q_t q_t_factors q_t_pairFactors q_t_barred q_t_forbidden a1 C r F NN x2_4 t_size t_factors t_pairFactors t_barred t_forbidden hf
    · refine g_aload_n C 40 0 dX3_startAgain_40 rfl rfl ?_
      refine g_get C 41 0 2 dX3_startAgain_41 inX3 rfl rfl (by decide) kw_94 rfl ?_
      refine g_iload_n C 44 1 dX3_startAgain_44 rfl rfl ?_
      refine g_iconst C 45 (0 : Int32) dX3_startAgain_45 (by decide) ?_
      refine g_iast C 46 2 (fun z => [oB q_t 3 [.int t_size, .ref q_t_factors, .ref q_t_pairFactors, .ref q_t_barred, .ref q_t_forbidden], aI cA q_t_factors 4 t_factors, aI cA q_t_pairFactors 16 z, aZ cA q_t_barred 16 t_barred, aI cA q_t_forbidden 14 t_forbidden]) dX3_startAgain_46 rfl (fun _ => rfl) hf (fun t_pairFactors_7 hf => ?_)
      refine g_aload_n C 47 0 dX3_startAgain_47 rfl rfl ?_
      refine g_get C 48 0 3 dX3_startAgain_48 inX3 rfl rfl (by decide) kw_96 rfl ?_
      refine g_iload_n C 51 1 dX3_startAgain_51 rfl rfl ?_
      refine g_iconst C 52 (0 : Int32) dX3_startAgain_52 (by decide) ?_
      refine g_zast C 53 3 (fun z => [oB q_t 3 [.int t_size, .ref q_t_factors, .ref q_t_pairFactors, .ref q_t_barred, .ref q_t_forbidden], aI cA q_t_factors 4 t_factors, aI cA q_t_pairFactors 16 t_pairFactors_7, aZ cA q_t_barred 16 z, aI cA q_t_forbidden 14 t_forbidden]) dX3_startAgain_53 rfl (fun _ => rfl) hf (fun t_barred_8 hf => ?_)
      refine g_iinc C 54 1 (v := x2 + (1 : Int32)) (fun z => [(2, .int z), (0, .ref q_t)]) dX3_startAgain_54 rfl rfl (by decide) (fun _ => rfl) hf (fun x2_9 hf => ?_)
      refine g_goto C 57 31 dX3_startAgain_57 (by decide) ?_
      refine g_lv [1, 0] rfl ?_
      exact ih x2_9 t_size t_factors t_pairFactors_7 t_barred_8 t_forbidden hf
def L_X3_startAgain_7 (a1 : Int32)  : Nat → Int32 → Int32 → (Nat → Int32) → (Nat → Int32) → (Nat → Int32) → (Nat → Int32) → Option (Int32 × (Nat → Int32) × (Nat → Int32) × (Nat → Int32) × (Nat → Int32))
  | 0, _, _, _, _, _, _ => none
  | n + 1, x2, t_size, t_factors, t_pairFactors, t_barred, t_forbidden =>
    if (4 : Int32) ≤ x2 then
      bnd (0 : Int32) fun x2_3 =>
      L_X3_startAgain_31 a1 NN x2_3 t_size t_factors t_pairFactors t_barred t_forbidden
    else
      stI t_factors 4 x2 (0 : Int32) fun t_factors_10 =>
      bnd (x2 + (1 : Int32)) fun x2_11 =>
      L_X3_startAgain_7 a1 n x2_11 t_size t_factors_10 t_pairFactors t_barred t_forbidden

set_option maxRecDepth 100000 in
set_option maxHeartbeats 1000000 in
theorem w_X3_startAgain_7 (cA : Nat → ClassId) (q_t : Nat) (q_t_factors : Nat) (q_t_pairFactors : Nat) (q_t_barred : Nat) (q_t_forbidden : Nat) (a1 : Int32) {X : XT}  (C : Cx X cX3_startAgain RX3 none cA 0 0 3) (r : Int32 × (Nat → Int32) × (Nat → Int32) × (Nat → Int32) × (Nat → Int32)) (F : Fx X (sB (none) [oB q_t 3 [.int r.1, .ref q_t_factors, .ref q_t_pairFactors, .ref q_t_barred, .ref q_t_forbidden], aI cA q_t_factors 4 r.2.1, aI cA q_t_pairFactors 16 r.2.2.1, aZ cA q_t_barred 16 r.2.2.2.1, aI cA q_t_forbidden 14 r.2.2.2.2]) 0 0)  : ∀ (n : Nat) (x2 : Int32) (t_size : Int32) (t_factors : Nat → Int32) (t_pairFactors : Nat → Int32) (t_barred : Nat → Int32) (t_forbidden : Nat → Int32), L_X3_startAgain_7 a1 n x2 t_size t_factors t_pairFactors t_barred t_forbidden = some r → Go X 3 0 0 7 [oB q_t 3 [.int t_size, .ref q_t_factors, .ref q_t_pairFactors, .ref q_t_barred, .ref q_t_forbidden], aI cA q_t_factors 4 t_factors, aI cA q_t_pairFactors 16 t_pairFactors, aZ cA q_t_barred 16 t_barred, aI cA q_t_forbidden 14 t_forbidden] [(0, .ref q_t), (2, .int x2)] [] := by
  intro n
  induction n with
  | zero => intro x2 t_size t_factors t_pairFactors t_barred t_forbidden hf; exact no_some hf
  | succ n ih =>
    intro x2 t_size t_factors t_pairFactors t_barred t_forbidden hf
    rw [L_X3_startAgain_7] at hf
    refine g_iload_n C 7 1 dX3_startAgain_7 rfl rfl ?_
    refine g_aload_n C 8 0 dX3_startAgain_8 rfl rfl ?_
    refine g_get C 9 0 1 dX3_startAgain_9 inX3 rfl rfl (by decide) kw_93 rfl ?_
    refine g_alen C 12 1 0 (4 : Int32) dX3_startAgain_12 rfl rfl rfl ?_
    refine g_icmp_ge C 13 29 dX3_startAgain_13 (by decide) hf (fun hf => ?_) (fun hf => ?_)
    · refine g_iconst C 29 (0 : Int32) dX3_startAgain_29 (by decide) ?_
      refine g_istore_n C 30 (fun z => [(2, .int z), (0, .ref q_t)]) dX3_startAgain_30 rfl (by decide) (fun _ => rfl) hf (fun x2_3 hf => ?_)
      refine g_lv [1, 0] rfl ?_
      exact w_X3_startAgain_31 cA q_t q_t_factors q_t_pairFactors q_t_barred q_t_forbidden a1 C r F NN x2_3 t_size t_factors t_pairFactors t_barred t_forbidden hf
    · refine g_aload_n C 16 0 dX3_startAgain_16 rfl rfl ?_
      refine g_get C 17 0 1 dX3_startAgain_17 inX3 rfl rfl (by decide) kw_93 rfl ?_
      refine g_iload_n C 20 1 dX3_startAgain_20 rfl rfl ?_
      refine g_iconst C 21 (0 : Int32) dX3_startAgain_21 (by decide) ?_
      refine g_iast C 22 1 (fun z => [oB q_t 3 [.int t_size, .ref q_t_factors, .ref q_t_pairFactors, .ref q_t_barred, .ref q_t_forbidden], aI cA q_t_factors 4 z, aI cA q_t_pairFactors 16 t_pairFactors, aZ cA q_t_barred 16 t_barred, aI cA q_t_forbidden 14 t_forbidden]) dX3_startAgain_22 rfl (fun _ => rfl) hf (fun t_factors_10 hf => ?_)
      refine g_iinc C 23 1 (v := x2 + (1 : Int32)) (fun z => [(2, .int z), (0, .ref q_t)]) dX3_startAgain_23 rfl rfl (by decide) (fun _ => rfl) hf (fun x2_11 hf => ?_)
      refine g_goto C 26 7 dX3_startAgain_26 (by decide) ?_
      refine g_lv [1, 0] rfl ?_
      exact ih x2_11 t_size t_factors_10 t_pairFactors t_barred t_forbidden hf
def f_X3_startAgain (a1 : Int32) (t_size : Int32) (t_factors : Nat → Int32) (t_pairFactors : Nat → Int32) (t_barred : Nat → Int32) (t_forbidden : Nat → Int32) : Option (Int32 × (Nat → Int32) × (Nat → Int32) × (Nat → Int32) × (Nat → Int32)) :=
  bnd a1 fun t_size_1 =>
  bnd (0 : Int32) fun x2_2 =>
  L_X3_startAgain_7 a1 NN x2_2 t_size_1 t_factors t_pairFactors t_barred t_forbidden

set_option maxRecDepth 100000 in
set_option maxHeartbeats 1000000 in
theorem c_X3_startAgain (l : Launch) (cA : Nat → ClassId) (q_t : Nat) (t_size : Int32) (q_t_factors : Nat) (t_factors : Nat → Int32) (q_t_pairFactors : Nat) (t_pairFactors : Nat → Int32) (q_t_barred : Nat) (t_barred : Nat → Int32) (q_t_forbidden : Nat) (t_forbidden : Nat → Int32)  (a1 : Int32) (r : Int32 × (Nat → Int32) × (Nat → Int32) × (Nat → Int32) × (Nat → Int32)) (hf : f_X3_startAgain a1 t_size t_factors t_pairFactors t_barred t_forbidden = some r) : MT l cA yX3_startAgain cX3_startAgain 3 none ({ frames := 0, cells := 0, slots := 0, locals := 0 } : Room) [.ref q_t, .int a1] [oB q_t 3 [.int t_size, .ref q_t_factors, .ref q_t_pairFactors, .ref q_t_barred, .ref q_t_forbidden], aI cA q_t_factors 4 t_factors, aI cA q_t_pairFactors 16 t_pairFactors, aZ cA q_t_barred 16 t_barred, aI cA q_t_forbidden 14 t_forbidden] (sB (none) [oB q_t 3 [.int r.1, .ref q_t_factors, .ref q_t_pairFactors, .ref q_t_barred, .ref q_t_forbidden], aI cA q_t_factors 4 r.2.1, aI cA q_t_pairFactors 16 r.2.2.1, aZ cA q_t_barred 16 r.2.2.2.1, aI cA q_t_forbidden 14 r.2.2.2.2]) := by
  refine MT.of (by decide) (Nat.le_of_ble_eq_true rfl) ?_
  intro X hXl C F hnm hrc hrs
  subst hXl
  unfold f_X3_startAgain at hf
  have C : Cx X cX3_startAgain RX3 none cA 0 0 3 := C
  show Go X 3 0 0 0 [oB q_t 3 [.int t_size, .ref q_t_factors, .ref q_t_pairFactors, .ref q_t_barred, .ref q_t_forbidden], aI cA q_t_factors 4 t_factors, aI cA q_t_pairFactors 16 t_pairFactors, aZ cA q_t_barred 16 t_barred, aI cA q_t_forbidden 14 t_forbidden] [(0, .ref q_t), (1, .int a1)] []
  refine g_aload_n C 0 0 dX3_startAgain_0 rfl rfl ?_
  refine g_iload_n C 1 1 dX3_startAgain_1 rfl rfl ?_
  refine g_puti C 2 0 0 tyX3 (fun z => [oB q_t 3 [.int z, .ref q_t_factors, .ref q_t_pairFactors, .ref q_t_barred, .ref q_t_forbidden], aI cA q_t_factors 4 t_factors, aI cA q_t_pairFactors 16 t_pairFactors, aZ cA q_t_barred 16 t_barred, aI cA q_t_forbidden 14 t_forbidden]) dX3_startAgain_2 inX3 tyX3_ok nmX3 rfl rfl (by decide) kw_92 rfl rfl (Nat.le_of_ble_eq_true rfl) (fun _ => rfl) hf (fun t_size_1 hf => ?_)
  refine g_iconst C 5 (0 : Int32) dX3_startAgain_5 (by decide) ?_
  refine g_istore_n C 6 (fun z => [(2, .int z), (0, .ref q_t), (1, .int a1)]) dX3_startAgain_6 rfl (by decide) (fun _ => rfl) hf (fun x2_2 hf => ?_)
  refine g_lv [1, 0] rfl ?_
  exact w_X3_startAgain_7 cA q_t q_t_factors q_t_pairFactors q_t_barred q_t_forbidden a1 C r F NN x2_2 t_size_1 t_factors t_pairFactors t_barred t_forbidden hf

def f_X3_setPair (a1 : Int32) (a2 : Int32) (a3 : Int32) (a4 : Int32) (t_pairFactors : Nat → Int32) (t_barred : Nat → Int32) : Option ((Nat → Int32) × (Nat → Int32)) :=
  stI t_pairFactors 16 ((a1 * (4 : Int32)) + a2) a4 fun t_pairFactors_1 =>
  stI t_pairFactors_1 16 ((a2 * (4 : Int32)) + a1) a4 fun t_pairFactors_2 =>
  stZ t_barred 16 ((a1 * (4 : Int32)) + a2) a3 fun t_barred_3 =>
  stZ t_barred_3 16 ((a2 * (4 : Int32)) + a1) a3 fun t_barred_4 =>
  some (t_pairFactors_2, t_barred_4)

set_option maxRecDepth 100000 in
set_option maxHeartbeats 1000000 in
theorem c_X3_setPair (l : Launch) (cA : Nat → ClassId) (q_t : Nat) (t_size : Int32) (q_t_factors : Nat) (q_t_forbidden : Nat) (q_t_pairFactors : Nat) (t_pairFactors : Nat → Int32) (q_t_barred : Nat) (t_barred : Nat → Int32)  (a1 : Int32) (a2 : Int32) (a3 : Int32) (a4 : Int32) (r : (Nat → Int32) × (Nat → Int32)) (hf : f_X3_setPair a1 a2 a3 a4 t_pairFactors t_barred = some r) : MT l cA yX3_setPair cX3_setPair 5 none ({ frames := 0, cells := 0, slots := 0, locals := 0 } : Room) [.ref q_t, .int a1, .int a2, .int a3, .int a4] [oB q_t 3 [.int t_size, .ref q_t_factors, .ref q_t_pairFactors, .ref q_t_barred, .ref q_t_forbidden], aI cA q_t_pairFactors 16 t_pairFactors, aZ cA q_t_barred 16 t_barred] (sB (none) [oB q_t 3 [.int t_size, .ref q_t_factors, .ref q_t_pairFactors, .ref q_t_barred, .ref q_t_forbidden], aI cA q_t_pairFactors 16 r.1, aZ cA q_t_barred 16 r.2]) := by
  refine MT.of (by decide) (Nat.le_of_ble_eq_true rfl) ?_
  intro X hXl C F hnm hrc hrs
  subst hXl
  unfold f_X3_setPair at hf
  have C : Cx X cX3_setPair RX3 none cA 0 0 5 := C
  show Go X 5 0 0 0 [oB q_t 3 [.int t_size, .ref q_t_factors, .ref q_t_pairFactors, .ref q_t_barred, .ref q_t_forbidden], aI cA q_t_pairFactors 16 t_pairFactors, aZ cA q_t_barred 16 t_barred] [(0, .ref q_t), (1, .int a1), (2, .int a2), (3, .int a3), (4, .int a4)] []
  refine g_aload_n C 0 0 dX3_setPair_0 rfl rfl ?_
  refine g_get C 1 0 2 dX3_setPair_1 inX3 rfl rfl (by decide) kw_94 rfl ?_
  refine g_iload_n C 4 1 dX3_setPair_4 rfl rfl ?_
  refine g_iconst C 5 (4 : Int32) dX3_setPair_5 (by decide) ?_
  refine g_imul C 6 dX3_setPair_6 ?_
  refine g_iload_n C 7 2 dX3_setPair_7 rfl rfl ?_
  refine g_iadd C 8 dX3_setPair_8 ?_
  refine g_iload C 9 4 dX3_setPair_9 rfl ?_
  refine g_iast C 11 1 (fun z => [oB q_t 3 [.int t_size, .ref q_t_factors, .ref q_t_pairFactors, .ref q_t_barred, .ref q_t_forbidden], aI cA q_t_pairFactors 16 z, aZ cA q_t_barred 16 t_barred]) dX3_setPair_11 rfl (fun _ => rfl) hf (fun t_pairFactors_1 hf => ?_)
  refine g_aload_n C 12 0 dX3_setPair_12 rfl rfl ?_
  refine g_get C 13 0 2 dX3_setPair_13 inX3 rfl rfl (by decide) kw_94 rfl ?_
  refine g_iload_n C 16 2 dX3_setPair_16 rfl rfl ?_
  refine g_iconst C 17 (4 : Int32) dX3_setPair_17 (by decide) ?_
  refine g_imul C 18 dX3_setPair_18 ?_
  refine g_iload_n C 19 1 dX3_setPair_19 rfl rfl ?_
  refine g_iadd C 20 dX3_setPair_20 ?_
  refine g_iload C 21 4 dX3_setPair_21 rfl ?_
  refine g_iast C 23 1 (fun z => [oB q_t 3 [.int t_size, .ref q_t_factors, .ref q_t_pairFactors, .ref q_t_barred, .ref q_t_forbidden], aI cA q_t_pairFactors 16 z, aZ cA q_t_barred 16 t_barred]) dX3_setPair_23 rfl (fun _ => rfl) hf (fun t_pairFactors_2 hf => ?_)
  refine g_aload_n C 24 0 dX3_setPair_24 rfl rfl ?_
  refine g_get C 25 0 3 dX3_setPair_25 inX3 rfl rfl (by decide) kw_96 rfl ?_
  refine g_iload_n C 28 1 dX3_setPair_28 rfl rfl ?_
  refine g_iconst C 29 (4 : Int32) dX3_setPair_29 (by decide) ?_
  refine g_imul C 30 dX3_setPair_30 ?_
  refine g_iload_n C 31 2 dX3_setPair_31 rfl rfl ?_
  refine g_iadd C 32 dX3_setPair_32 ?_
  refine g_iload_n C 33 3 dX3_setPair_33 rfl rfl ?_
  refine g_zast C 34 2 (fun z => [oB q_t 3 [.int t_size, .ref q_t_factors, .ref q_t_pairFactors, .ref q_t_barred, .ref q_t_forbidden], aI cA q_t_pairFactors 16 t_pairFactors_2, aZ cA q_t_barred 16 z]) dX3_setPair_34 rfl (fun _ => rfl) hf (fun t_barred_3 hf => ?_)
  refine g_aload_n C 35 0 dX3_setPair_35 rfl rfl ?_
  refine g_get C 36 0 3 dX3_setPair_36 inX3 rfl rfl (by decide) kw_96 rfl ?_
  refine g_iload_n C 39 2 dX3_setPair_39 rfl rfl ?_
  refine g_iconst C 40 (4 : Int32) dX3_setPair_40 (by decide) ?_
  refine g_imul C 41 dX3_setPair_41 ?_
  refine g_iload_n C 42 1 dX3_setPair_42 rfl rfl ?_
  refine g_iadd C 43 dX3_setPair_43 ?_
  refine g_iload_n C 44 3 dX3_setPair_44 rfl rfl ?_
  refine g_zast C 45 2 (fun z => [oB q_t 3 [.int t_size, .ref q_t_factors, .ref q_t_pairFactors, .ref q_t_barred, .ref q_t_forbidden], aI cA q_t_pairFactors 16 t_pairFactors_2, aZ cA q_t_barred 16 z]) dX3_setPair_45 rfl (fun _ => rfl) hf (fun t_barred_4 hf => ?_)
  cases hf
  exact g_vret C 46 dX3_setPair_46 F ⟨rfl, rfl⟩

def f_X3_openFor (a1 : Int32) (t_size : Int32) (t_forbidden : Nat → Int32) : Option (Int32) :=
  ldA t_forbidden 14 a1 fun v1 =>
  some (((((1 : Int32) <<< (t_size &&& 31)) - (1 : Int32)) &&& (v1 ^^^ (-1 : Int32))))

set_option maxRecDepth 100000 in
set_option maxHeartbeats 1000000 in
theorem c_X3_openFor (l : Launch) (cA : Nat → ClassId) (q_t : Nat) (t_size : Int32) (q_t_factors : Nat) (q_t_pairFactors : Nat) (q_t_barred : Nat) (q_t_forbidden : Nat) (t_forbidden : Nat → Int32)  (a1 : Int32) (r : Int32) (hf : f_X3_openFor a1 t_size t_forbidden = some r) : MT l cA yX3_openFor cX3_openFor 2 (some .int) ({ frames := 0, cells := 0, slots := 0, locals := 0 } : Room) [.ref q_t, .int a1] [oB q_t 3 [.int t_size, .ref q_t_factors, .ref q_t_pairFactors, .ref q_t_barred, .ref q_t_forbidden], aI cA q_t_forbidden 14 t_forbidden] (sB (some (.int r)) [oB q_t 3 [.int t_size, .ref q_t_factors, .ref q_t_pairFactors, .ref q_t_barred, .ref q_t_forbidden], aI cA q_t_forbidden 14 t_forbidden]) := by
  refine MT.of (by decide) (Nat.le_of_ble_eq_true rfl) ?_
  intro X hXl C F hnm hrc hrs
  subst hXl
  unfold f_X3_openFor at hf
  have C : Cx X cX3_openFor RX3 (some .int) cA 0 0 2 := C
  show Go X 2 0 0 0 [oB q_t 3 [.int t_size, .ref q_t_factors, .ref q_t_pairFactors, .ref q_t_barred, .ref q_t_forbidden], aI cA q_t_forbidden 14 t_forbidden] [(0, .ref q_t), (1, .int a1)] []
  refine g_iconst C 0 (1 : Int32) dX3_openFor_0 (by decide) ?_
  refine g_aload_n C 1 0 dX3_openFor_1 rfl rfl ?_
  refine g_get C 2 0 0 dX3_openFor_2 inX3 rfl rfl (by decide) kw_92 rfl ?_
  refine g_ishl C 5 dX3_openFor_5 ?_
  refine g_iconst C 6 (1 : Int32) dX3_openFor_6 (by decide) ?_
  refine g_isub C 7 dX3_openFor_7 ?_
  refine g_aload_n C 8 0 dX3_openFor_8 rfl rfl ?_
  refine g_get C 9 0 4 dX3_openFor_9 inX3 rfl rfl (by decide) kw_95 rfl ?_
  refine g_iload_n C 12 1 dX3_openFor_12 rfl rfl ?_
  refine g_iald C 13 1 dX3_openFor_13 rfl hf (fun v1 hf => ?_)
  refine g_iconst C 14 (-1 : Int32) dX3_openFor_14 (by decide) ?_
  refine g_ixor C 15 dX3_openFor_15 ?_
  refine g_iand C 16 dX3_openFor_16 ?_
  cases hf
  exact g_iret C 17 dX3_openFor_17 F ⟨rfl, rfl⟩

def f_X4_addKnot (a1 : Int32) (t_size : Int32) (t_loads : Nat → Int32) : Option (Int32 × Int32 × (Nat → Int32)) :=
  stI t_loads 14 t_size a1 fun t_loads_1 =>
  bnd (t_size + (1 : Int32)) fun t_size_2 =>
  some ((t_size_2 - (1 : Int32)), t_size_2, t_loads_1)

set_option maxRecDepth 100000 in
set_option maxHeartbeats 1000000 in
theorem c_X4_addKnot (l : Launch) (cA : Nat → ClassId) (q_t : Nat) (q_t_near : Nat) (q_t_ties : Nat) (t_size : Int32) (t_edges : Int32) (q_t_loads : Nat) (t_loads : Nat → Int32)  (a1 : Int32) (r : Int32 × Int32 × (Nat → Int32)) (hf : f_X4_addKnot a1 t_size t_loads = some r) : MT l cA yX4_addKnot cX4_addKnot 2 (some .int) ({ frames := 0, cells := 0, slots := 0, locals := 0 } : Room) [.ref q_t, .int a1] [oB q_t 4 [.ref q_t_loads, .ref q_t_near, .ref q_t_ties, .int t_size, .int t_edges], aI cA q_t_loads 14 t_loads] (sB (some (.int r.1)) [oB q_t 4 [.ref q_t_loads, .ref q_t_near, .ref q_t_ties, .int r.2.1, .int t_edges], aI cA q_t_loads 14 r.2.2]) := by
  refine MT.of (by decide) (Nat.le_of_ble_eq_true rfl) ?_
  intro X hXl C F hnm hrc hrs
  subst hXl
  unfold f_X4_addKnot at hf
  have C : Cx X cX4_addKnot RX4 (some .int) cA 0 0 2 := C
  show Go X 2 0 0 0 [oB q_t 4 [.ref q_t_loads, .ref q_t_near, .ref q_t_ties, .int t_size, .int t_edges], aI cA q_t_loads 14 t_loads] [(0, .ref q_t), (1, .int a1)] []
  refine g_aload_n C 0 0 dX4_addKnot_0 rfl rfl ?_
  refine g_get C 1 0 0 dX4_addKnot_1 inX4 rfl rfl (by decide) kw_97 rfl ?_
  refine g_aload_n C 4 0 dX4_addKnot_4 rfl rfl ?_
  refine g_get C 5 0 3 dX4_addKnot_5 inX4 rfl rfl (by decide) kw_45 rfl ?_
  refine g_iload_n C 8 1 dX4_addKnot_8 rfl rfl ?_
  refine g_iast C 9 1 (fun z => [oB q_t 4 [.ref q_t_loads, .ref q_t_near, .ref q_t_ties, .int t_size, .int t_edges], aI cA q_t_loads 14 z]) dX4_addKnot_9 rfl (fun _ => rfl) hf (fun t_loads_1 hf => ?_)
  refine g_aload_n C 10 0 dX4_addKnot_10 rfl rfl ?_
  refine g_dup C 11 dX4_addKnot_11 rfl ?_
  refine g_get C 12 0 3 dX4_addKnot_12 inX4 rfl rfl (by decide) kw_45 rfl ?_
  refine g_iconst C 15 (1 : Int32) dX4_addKnot_15 (by decide) ?_
  refine g_iadd C 16 dX4_addKnot_16 ?_
  refine g_puti C 17 0 3 tyX4 (fun z => [oB q_t 4 [.ref q_t_loads, .ref q_t_near, .ref q_t_ties, .int z, .int t_edges], aI cA q_t_loads 14 t_loads_1]) dX4_addKnot_17 inX4 tyX4_ok nmX4 rfl rfl (by decide) kw_45 rfl rfl (Nat.le_of_ble_eq_true rfl) (fun _ => rfl) hf (fun t_size_2 hf => ?_)
  refine g_aload_n C 20 0 dX4_addKnot_20 rfl rfl ?_
  refine g_get C 21 0 3 dX4_addKnot_21 inX4 rfl rfl (by decide) kw_45 rfl ?_
  refine g_iconst C 24 (1 : Int32) dX4_addKnot_24 (by decide) ?_
  refine g_isub C 25 dX4_addKnot_25 ?_
  cases hf
  exact g_iret C 26 dX4_addKnot_26 F ⟨rfl, rfl⟩

def J_X4_join_35 (a1 : Int32) (a2 : Int32) (a3 : Int32)  (x4 : Int32) (t_edges : Int32) (t_near : Nat → Int32) (t_ties : Nat → Int32) : Option (Int32 × Int32 × (Nat → Int32) × (Nat → Int32)) :=
  ldA t_near 14 a1 fun v4 =>
  stI t_near 14 a1 (v4 ||| ((1 : Int32) <<< (a2 &&& 31))) fun t_near_5 =>
  ldA t_near_5 14 a2 fun v6 =>
  stI t_near_5 14 a2 (v6 ||| ((1 : Int32) <<< (a1 &&& 31))) fun t_near_7 =>
  stI t_ties 196 ((a1 * (14 : Int32)) + a2) a3 fun t_ties_8 =>
  stI t_ties_8 196 ((a2 * (14 : Int32)) + a1) a3 fun t_ties_9 =>
  chk (x4 = 0 ∨ x4 = 1) (some (x4, t_edges, t_near_7, t_ties_9))

set_option maxRecDepth 100000 in
set_option maxHeartbeats 1000000 in
theorem w_X4_join_35 (cA : Nat → ClassId) (q_t : Nat) (q_t_loads : Nat) (t_size : Int32) (q_t_near : Nat) (q_t_ties : Nat) (a1 : Int32) (a2 : Int32) (a3 : Int32) {X : XT}  (C : Cx X cX4_join RX4 (some .boolean) cA 1 21 5) (r : Int32 × Int32 × (Nat → Int32) × (Nat → Int32)) (F : Fx X (sB (some (.int r.1)) [oB q_t 4 [.ref q_t_loads, .ref q_t_near, .ref q_t_ties, .int t_size, .int r.2.1], aI cA q_t_near 14 r.2.2.1, aI cA q_t_ties 196 r.2.2.2]) 0 0)  : ∀ (x4 : Int32) (t_edges : Int32) (t_near : Nat → Int32) (t_ties : Nat → Int32), J_X4_join_35 a1 a2 a3 x4 t_edges t_near t_ties = some r → Go X 5 0 0 35 [oB q_t 4 [.ref q_t_loads, .ref q_t_near, .ref q_t_ties, .int t_size, .int t_edges], aI cA q_t_near 14 t_near, aI cA q_t_ties 196 t_ties] [(0, .ref q_t), (1, .int a1), (2, .int a2), (3, .int a3), (4, .int x4)] [] := by
  intro x4 t_edges t_near t_ties hf
  unfold J_X4_join_35 at hf
  refine g_aload_n C 35 0 dX4_join_35 rfl rfl ?_
  refine g_get C 36 0 1 dX4_join_36 inX4 rfl rfl (by decide) kw_51 rfl ?_
  refine g_iload_n C 39 1 dX4_join_39 rfl rfl ?_
  refine g_dup2 C 40 dX4_join_40 rfl rfl ?_
  refine g_iald C 41 1 dX4_join_41 rfl hf (fun v4 hf => ?_)
  refine g_iconst C 42 (1 : Int32) dX4_join_42 (by decide) ?_
  refine g_iload_n C 43 2 dX4_join_43 rfl rfl ?_
  refine g_ishl C 44 dX4_join_44 ?_
  refine g_ior C 45 dX4_join_45 ?_
  refine g_iast C 46 1 (fun z => [oB q_t 4 [.ref q_t_loads, .ref q_t_near, .ref q_t_ties, .int t_size, .int t_edges], aI cA q_t_near 14 z, aI cA q_t_ties 196 t_ties]) dX4_join_46 rfl (fun _ => rfl) hf (fun t_near_5 hf => ?_)
  refine g_aload_n C 47 0 dX4_join_47 rfl rfl ?_
  refine g_get C 48 0 1 dX4_join_48 inX4 rfl rfl (by decide) kw_51 rfl ?_
  refine g_iload_n C 51 2 dX4_join_51 rfl rfl ?_
  refine g_dup2 C 52 dX4_join_52 rfl rfl ?_
  refine g_iald C 53 1 dX4_join_53 rfl hf (fun v6 hf => ?_)
  refine g_iconst C 54 (1 : Int32) dX4_join_54 (by decide) ?_
  refine g_iload_n C 55 1 dX4_join_55 rfl rfl ?_
  refine g_ishl C 56 dX4_join_56 ?_
  refine g_ior C 57 dX4_join_57 ?_
  refine g_iast C 58 1 (fun z => [oB q_t 4 [.ref q_t_loads, .ref q_t_near, .ref q_t_ties, .int t_size, .int t_edges], aI cA q_t_near 14 z, aI cA q_t_ties 196 t_ties]) dX4_join_58 rfl (fun _ => rfl) hf (fun t_near_7 hf => ?_)
  refine g_aload_n C 59 0 dX4_join_59 rfl rfl ?_
  refine g_get C 60 0 2 dX4_join_60 inX4 rfl rfl (by decide) kw_98 rfl ?_
  refine g_iload_n C 63 1 dX4_join_63 rfl rfl ?_
  refine g_bipush C 64 (14 : Int32) dX4_join_64 (by decide) ?_
  refine g_imul C 66 dX4_join_66 ?_
  refine g_iload_n C 67 2 dX4_join_67 rfl rfl ?_
  refine g_iadd C 68 dX4_join_68 ?_
  refine g_iload_n C 69 3 dX4_join_69 rfl rfl ?_
  refine g_iast C 70 2 (fun z => [oB q_t 4 [.ref q_t_loads, .ref q_t_near, .ref q_t_ties, .int t_size, .int t_edges], aI cA q_t_near 14 t_near_7, aI cA q_t_ties 196 z]) dX4_join_70 rfl (fun _ => rfl) hf (fun t_ties_8 hf => ?_)
  refine g_aload_n C 71 0 dX4_join_71 rfl rfl ?_
  refine g_get C 72 0 2 dX4_join_72 inX4 rfl rfl (by decide) kw_98 rfl ?_
  refine g_iload_n C 75 2 dX4_join_75 rfl rfl ?_
  refine g_bipush C 76 (14 : Int32) dX4_join_76 (by decide) ?_
  refine g_imul C 78 dX4_join_78 ?_
  refine g_iload_n C 79 1 dX4_join_79 rfl rfl ?_
  refine g_iadd C 80 dX4_join_80 ?_
  refine g_iload_n C 81 3 dX4_join_81 rfl rfl ?_
  refine g_iast C 82 2 (fun z => [oB q_t 4 [.ref q_t_loads, .ref q_t_near, .ref q_t_ties, .int t_size, .int t_edges], aI cA q_t_near 14 t_near_7, aI cA q_t_ties 196 z]) dX4_join_82 rfl (fun _ => rfl) hf (fun t_ties_9 hf => ?_)
  refine g_iload C 83 4 dX4_join_83 rfl ?_
  obtain ⟨hv, hf⟩ := chk_some hf
  cases hf
  exact g_zret C 85 dX4_join_85 hv F ⟨rfl, rfl⟩
def J_X4_join_18 (a1 : Int32) (a2 : Int32) (a3 : Int32)  (s0 : Int32) (t_edges : Int32) (t_near : Nat → Int32) (t_ties : Nat → Int32) : Option (Int32 × Int32 × (Nat → Int32) × (Nat → Int32)) :=
  bnd s0 fun x4_3 =>
  if x4_3 = 0 then
    J_X4_join_35 a1 a2 a3 x4_3 t_edges t_near t_ties
  else
    bnd (t_edges + (1 : Int32)) fun t_edges_10 =>
    J_X4_join_35 a1 a2 a3 x4_3 t_edges_10 t_near t_ties

set_option maxRecDepth 100000 in
set_option maxHeartbeats 1000000 in
theorem w_X4_join_18 (cA : Nat → ClassId) (q_t : Nat) (q_t_loads : Nat) (t_size : Int32) (q_t_near : Nat) (q_t_ties : Nat) (a1 : Int32) (a2 : Int32) (a3 : Int32) {X : XT}  (C : Cx X cX4_join RX4 (some .boolean) cA 1 21 5) (r : Int32 × Int32 × (Nat → Int32) × (Nat → Int32)) (F : Fx X (sB (some (.int r.1)) [oB q_t 4 [.ref q_t_loads, .ref q_t_near, .ref q_t_ties, .int t_size, .int r.2.1], aI cA q_t_near 14 r.2.2.1, aI cA q_t_ties 196 r.2.2.2]) 0 0)  : ∀ (s0 : Int32) (t_edges : Int32) (t_near : Nat → Int32) (t_ties : Nat → Int32), J_X4_join_18 a1 a2 a3 s0 t_edges t_near t_ties = some r → Go X 5 0 0 18 [oB q_t 4 [.ref q_t_loads, .ref q_t_near, .ref q_t_ties, .int t_size, .int t_edges], aI cA q_t_near 14 t_near, aI cA q_t_ties 196 t_ties] [(0, .ref q_t), (1, .int a1), (2, .int a2), (3, .int a3)] [.int s0] := by
  intro s0 t_edges t_near t_ties hf
  unfold J_X4_join_18 at hf
  refine g_istore C 18 (fun z => [(4, .int z), (0, .ref q_t), (1, .int a1), (2, .int a2), (3, .int a3)]) dX4_join_18 (by decide) (fun _ => rfl) hf (fun x4_3 hf => ?_)
  refine g_iload C 20 0 dX4_join_20 rfl ?_
  refine g_if_eq C 22 35 dX4_join_22 (by decide) hf (fun hf => ?_) (fun hf => ?_)
  · refine g_lv [1, 2, 3, 4, 0] rfl ?_
    exact w_X4_join_35 cA q_t q_t_loads t_size q_t_near q_t_ties a1 a2 a3 C r F x4_3 t_edges t_near t_ties hf
  · refine g_aload_n C 25 1 dX4_join_25 rfl rfl ?_
    refine g_dup C 26 dX4_join_26 rfl ?_
    refine g_get C 27 0 4 dX4_join_27 inX4 rfl rfl (by decide) kw_99 rfl ?_
    refine g_iconst C 30 (1 : Int32) dX4_join_30 (by decide) ?_
    refine g_iadd C 31 dX4_join_31 ?_
    refine g_puti C 32 0 4 tyX4 (fun z => [oB q_t 4 [.ref q_t_loads, .ref q_t_near, .ref q_t_ties, .int t_size, .int z], aI cA q_t_near 14 t_near, aI cA q_t_ties 196 t_ties]) dX4_join_32 inX4 tyX4_ok nmX4 rfl rfl (by decide) kw_99 rfl rfl (Nat.le_of_ble_eq_true rfl) (fun _ => rfl) hf (fun t_edges_10 hf => ?_)
    refine g_lv [1, 2, 3, 4, 0] rfl ?_
    exact w_X4_join_35 cA q_t q_t_loads t_size q_t_near q_t_ties a1 a2 a3 C r F x4_3 t_edges_10 t_near t_ties hf
def f_X4_join (a1 : Int32) (a2 : Int32) (a3 : Int32) (t_edges : Int32) (t_near : Nat → Int32) (t_ties : Nat → Int32) : Option (Int32 × Int32 × (Nat → Int32) × (Nat → Int32)) :=
  ldA t_near 14 a1 fun v1 =>
  cal (f_X8_hasBit v1 a2) fun u2 =>
  if u2 = 0 then
    J_X4_join_18 a1 a2 a3 (1 : Int32) t_edges t_near t_ties
  else
    J_X4_join_18 a1 a2 a3 (0 : Int32) t_edges t_near t_ties

set_option maxRecDepth 100000 in
set_option maxHeartbeats 1000000 in
theorem c_X4_join (l : Launch) (cA : Nat → ClassId) (q_t : Nat) (q_t_loads : Nat) (t_size : Int32) (t_edges : Int32) (q_t_near : Nat) (t_near : Nat → Int32) (q_t_ties : Nat) (t_ties : Nat → Int32)  (a1 : Int32) (a2 : Int32) (a3 : Int32) (r : Int32 × Int32 × (Nat → Int32) × (Nat → Int32)) (hf : f_X4_join a1 a2 a3 t_edges t_near t_ties = some r) : MT l cA yX4_join cX4_join 5 (some .boolean) ({ frames := 1, cells := 0, slots := 0, locals := 21 } : Room) [.ref q_t, .int a1, .int a2, .int a3] [oB q_t 4 [.ref q_t_loads, .ref q_t_near, .ref q_t_ties, .int t_size, .int t_edges], aI cA q_t_near 14 t_near, aI cA q_t_ties 196 t_ties] (sB (some (.int r.1)) [oB q_t 4 [.ref q_t_loads, .ref q_t_near, .ref q_t_ties, .int t_size, .int r.2.1], aI cA q_t_near 14 r.2.2.1, aI cA q_t_ties 196 r.2.2.2]) := by
  refine MT.of (by decide) (Nat.le_of_ble_eq_true rfl) ?_
  intro X hXl C F hnm hrc hrs
  subst hXl
  unfold f_X4_join at hf
  have C : Cx X cX4_join RX4 (some .boolean) cA 1 21 5 := C
  show Go X 5 0 0 0 [oB q_t 4 [.ref q_t_loads, .ref q_t_near, .ref q_t_ties, .int t_size, .int t_edges], aI cA q_t_near 14 t_near, aI cA q_t_ties 196 t_ties] [(0, .ref q_t), (1, .int a1), (2, .int a2), (3, .int a3)] []
  refine g_aload_n C 0 0 dX4_join_0 rfl rfl ?_
  refine g_get C 1 0 1 dX4_join_1 inX4 rfl rfl (by decide) kw_51 rfl ?_
  refine g_iload_n C 4 1 dX4_join_4 rfl rfl ?_
  refine g_iald C 5 1 dX4_join_5 rfl hf (fun v1 hf => ?_)
  refine g_iload_n C 6 2 dX4_join_6 rfl rfl ?_
  obtain ⟨u2, hu2, hf⟩ := cal_some hf
  refine g_callSN C 7 [] (rest := []) dX4_join_7 (c_X8_hasBit (x_l X) cA v1 a2 u2 hu2) (List.mem_of_getElem? (i := 7) rfl) kw_5 kw_6 kw_7 ok_X8_hasBit ⟨Nat.le_of_ble_eq_true rfl, Nat.le_of_ble_eq_true rfl⟩ ⟨Nat.zero_le _, Nat.zero_le _⟩ ⟨rfl, rfl⟩ rfl rfl rfl (Nat.le_of_ble_eq_true rfl) rfl (ws' := [oB q_t 4 [.ref q_t_loads, .ref q_t_near, .ref q_t_ties, .int t_size, .int t_edges], aI cA q_t_near 14 t_near, aI cA q_t_ties 196 t_ties]) (st' := [.int u2]) (N0 := 3) rfl [none, none, none] (by decide) rfl rfl ?_
  refine g_if_ne C 10 17 dX4_join_10 (by decide) hf (fun hf => ?_) (fun hf => ?_)
  · refine g_iconst C 17 (0 : Int32) dX4_join_17 (by decide) ?_
    exact w_X4_join_18 cA q_t q_t_loads t_size q_t_near q_t_ties a1 a2 a3 C r F (0 : Int32) t_edges t_near t_ties hf
  · refine g_iconst C 13 (1 : Int32) dX4_join_13 (by decide) ?_
    refine g_goto C 14 18 dX4_join_14 (by decide) ?_
    exact w_X4_join_18 cA q_t q_t_loads t_size q_t_near q_t_ties a1 a2 a3 C r F (1 : Int32) t_edges t_near t_ties hf

def f_X4_part (a1 : Int32) (a2 : Int32) (t_edges : Int32) (t_near : Nat → Int32) (t_ties : Nat → Int32) : Option (Int32 × Int32 × (Nat → Int32)) :=
  ldA t_near 14 a1 fun v1 =>
  stI t_near 14 a1 (v1 &&& (((1 : Int32) <<< (a2 &&& 31)) ^^^ (-1 : Int32))) fun t_near_2 =>
  ldA t_near_2 14 a2 fun v3 =>
  stI t_near_2 14 a2 (v3 &&& (((1 : Int32) <<< (a1 &&& 31)) ^^^ (-1 : Int32))) fun t_near_4 =>
  bnd (t_edges - (1 : Int32)) fun t_edges_5 =>
  ldA t_ties 196 ((a1 * (14 : Int32)) + a2) fun v6 =>
  some (v6, t_edges_5, t_near_4)

set_option maxRecDepth 100000 in
set_option maxHeartbeats 1000000 in
theorem c_X4_part (l : Launch) (cA : Nat → ClassId) (q_t : Nat) (q_t_loads : Nat) (t_size : Int32) (t_edges : Int32) (q_t_near : Nat) (t_near : Nat → Int32) (q_t_ties : Nat) (t_ties : Nat → Int32)  (a1 : Int32) (a2 : Int32) (r : Int32 × Int32 × (Nat → Int32)) (hf : f_X4_part a1 a2 t_edges t_near t_ties = some r) : MT l cA yX4_part cX4_part 3 (some .int) ({ frames := 0, cells := 0, slots := 0, locals := 0 } : Room) [.ref q_t, .int a1, .int a2] [oB q_t 4 [.ref q_t_loads, .ref q_t_near, .ref q_t_ties, .int t_size, .int t_edges], aI cA q_t_near 14 t_near, aI cA q_t_ties 196 t_ties] (sB (some (.int r.1)) [oB q_t 4 [.ref q_t_loads, .ref q_t_near, .ref q_t_ties, .int t_size, .int r.2.1], aI cA q_t_near 14 r.2.2, aI cA q_t_ties 196 t_ties]) := by
  refine MT.of (by decide) (Nat.le_of_ble_eq_true rfl) ?_
  intro X hXl C F hnm hrc hrs
  subst hXl
  unfold f_X4_part at hf
  have C : Cx X cX4_part RX4 (some .int) cA 0 0 3 := C
  show Go X 3 0 0 0 [oB q_t 4 [.ref q_t_loads, .ref q_t_near, .ref q_t_ties, .int t_size, .int t_edges], aI cA q_t_near 14 t_near, aI cA q_t_ties 196 t_ties] [(0, .ref q_t), (1, .int a1), (2, .int a2)] []
  refine g_aload_n C 0 0 dX4_part_0 rfl rfl ?_
  refine g_get C 1 0 1 dX4_part_1 inX4 rfl rfl (by decide) kw_51 rfl ?_
  refine g_iload_n C 4 1 dX4_part_4 rfl rfl ?_
  refine g_dup2 C 5 dX4_part_5 rfl rfl ?_
  refine g_iald C 6 1 dX4_part_6 rfl hf (fun v1 hf => ?_)
  refine g_iconst C 7 (1 : Int32) dX4_part_7 (by decide) ?_
  refine g_iload_n C 8 2 dX4_part_8 rfl rfl ?_
  refine g_ishl C 9 dX4_part_9 ?_
  refine g_iconst C 10 (-1 : Int32) dX4_part_10 (by decide) ?_
  refine g_ixor C 11 dX4_part_11 ?_
  refine g_iand C 12 dX4_part_12 ?_
  refine g_iast C 13 1 (fun z => [oB q_t 4 [.ref q_t_loads, .ref q_t_near, .ref q_t_ties, .int t_size, .int t_edges], aI cA q_t_near 14 z, aI cA q_t_ties 196 t_ties]) dX4_part_13 rfl (fun _ => rfl) hf (fun t_near_2 hf => ?_)
  refine g_aload_n C 14 0 dX4_part_14 rfl rfl ?_
  refine g_get C 15 0 1 dX4_part_15 inX4 rfl rfl (by decide) kw_51 rfl ?_
  refine g_iload_n C 18 2 dX4_part_18 rfl rfl ?_
  refine g_dup2 C 19 dX4_part_19 rfl rfl ?_
  refine g_iald C 20 1 dX4_part_20 rfl hf (fun v3 hf => ?_)
  refine g_iconst C 21 (1 : Int32) dX4_part_21 (by decide) ?_
  refine g_iload_n C 22 1 dX4_part_22 rfl rfl ?_
  refine g_ishl C 23 dX4_part_23 ?_
  refine g_iconst C 24 (-1 : Int32) dX4_part_24 (by decide) ?_
  refine g_ixor C 25 dX4_part_25 ?_
  refine g_iand C 26 dX4_part_26 ?_
  refine g_iast C 27 1 (fun z => [oB q_t 4 [.ref q_t_loads, .ref q_t_near, .ref q_t_ties, .int t_size, .int t_edges], aI cA q_t_near 14 z, aI cA q_t_ties 196 t_ties]) dX4_part_27 rfl (fun _ => rfl) hf (fun t_near_4 hf => ?_)
  refine g_aload_n C 28 0 dX4_part_28 rfl rfl ?_
  refine g_dup C 29 dX4_part_29 rfl ?_
  refine g_get C 30 0 4 dX4_part_30 inX4 rfl rfl (by decide) kw_99 rfl ?_
  refine g_iconst C 33 (1 : Int32) dX4_part_33 (by decide) ?_
  refine g_isub C 34 dX4_part_34 ?_
  refine g_puti C 35 0 4 tyX4 (fun z => [oB q_t 4 [.ref q_t_loads, .ref q_t_near, .ref q_t_ties, .int t_size, .int z], aI cA q_t_near 14 t_near_4, aI cA q_t_ties 196 t_ties]) dX4_part_35 inX4 tyX4_ok nmX4 rfl rfl (by decide) kw_99 rfl rfl (Nat.le_of_ble_eq_true rfl) (fun _ => rfl) hf (fun t_edges_5 hf => ?_)
  refine g_aload_n C 38 0 dX4_part_38 rfl rfl ?_
  refine g_get C 39 0 2 dX4_part_39 inX4 rfl rfl (by decide) kw_98 rfl ?_
  refine g_iload_n C 42 1 dX4_part_42 rfl rfl ?_
  refine g_bipush C 43 (14 : Int32) dX4_part_43 (by decide) ?_
  refine g_imul C 45 dX4_part_45 ?_
  refine g_iload_n C 46 2 dX4_part_46 rfl rfl ?_
  refine g_iadd C 47 dX4_part_47 ?_
  refine g_iald C 48 2 dX4_part_48 rfl hf (fun v6 hf => ?_)
  cases hf
  exact g_iret C 49 dX4_part_49 F ⟨rfl, rfl⟩

def L_X4_reached_20 (a1 : Int32) (a2 : Int32) (t_size : Int32) (t_near : Nat → Int32) (k_5 : Int32 → Int32 → Option (Int32)) : Nat → Int32 → Int32 → Int32 → Int32 → Option (Int32)
  | 0, _, _, _, _ => none
  | n + 1, x3, x4, x5, x6 =>
    if t_size ≤ x6 then
      if x5 = x3 then
        some (x3)
      else
        bnd x5 fun x3_5 =>
        bnd (x4 + (1 : Int32)) fun x4_6 =>
        k_5 x3_5 x4_6
    else
      cal (f_X8_hasBit x3 x6) fun u7 =>
      if u7 = 0 then
        bnd (x6 + (1 : Int32)) fun x6_8 =>
        L_X4_reached_20 a1 a2 t_size t_near k_5 n x3 x4 x5 x6_8
      else
        ldA t_near 14 x6 fun v9 =>
        bnd (x5 ||| (v9 &&& a2)) fun x5_10 =>
        bnd (x6 + (1 : Int32)) fun x6_11 =>
        L_X4_reached_20 a1 a2 t_size t_near k_5 n x3 x4 x5_10 x6_11

set_option maxRecDepth 100000 in
set_option maxHeartbeats 1000000 in
theorem w_X4_reached_20 (cA : Nat → ClassId) (q_t : Nat) (q_t_loads : Nat) (q_t_ties : Nat) (t_edges : Int32) (q_t_near : Nat) (a1 : Int32) (a2 : Int32) (t_size : Int32) (t_near : Nat → Int32) {X : XT}  (C : Cx X cX4_reached RX4 (some .int) cA 1 21 7) (r : Int32) (F : Fx X (sB (some (.int r)) [oB q_t 4 [.ref q_t_loads, .ref q_t_near, .ref q_t_ties, .int t_size, .int t_edges], aI cA q_t_near 14 t_near]) 0 0) (k_5 : Int32 → Int32 → Option (Int32)) (h_5 : ∀ (x3 : Int32) (x4 : Int32), k_5 x3 x4 = some r → Go X 7 0 0 5 [oB q_t 4 [.ref q_t_loads, .ref q_t_near, .ref q_t_ties, .int t_size, .int t_edges], aI cA q_t_near 14 t_near] [(0, .ref q_t), (2, .int a2), (3, .int x3), (4, .int x4)] []) : ∀ (n : Nat) (x3 : Int32) (x4 : Int32) (x5 : Int32) (x6 : Int32), L_X4_reached_20 a1 a2 t_size t_near k_5 n x3 x4 x5 x6 = some r → Go X 7 0 0 20 [oB q_t 4 [.ref q_t_loads, .ref q_t_near, .ref q_t_ties, .int t_size, .int t_edges], aI cA q_t_near 14 t_near] [(0, .ref q_t), (2, .int a2), (3, .int x3), (4, .int x4), (5, .int x5), (6, .int x6)] [] := by
  intro n
  induction n with
  | zero => intro x3 x4 x5 x6 hf; exact no_some hf
  | succ n ih =>
    intro x3 x4 x5 x6 hf
    rw [L_X4_reached_20] at hf
    refine g_iload C 20 5 dX4_reached_20 rfl ?_
    refine g_aload_n C 22 0 dX4_reached_22 rfl rfl ?_
    refine g_get C 23 0 3 dX4_reached_23 inX4 rfl rfl (by decide) kw_45 rfl ?_
    refine g_icmp_ge C 26 58 dX4_reached_26 (by decide) hf (fun hf => ?_) (fun hf => ?_)
    · refine g_iload C 58 4 dX4_reached_58 rfl ?_
      refine g_iload_n C 60 2 dX4_reached_60 rfl rfl ?_
      refine g_icmp_ne C 61 67 dX4_reached_61 (by decide) hf (fun hf => ?_) (fun hf => ?_)
      · refine g_iload C 67 4 dX4_reached_67 rfl ?_
        refine g_istore_n C 69 (fun z => [(3, .int z), (0, .ref q_t), (2, .int a2), (4, .int x4), (5, .int x5), (6, .int x6)]) dX4_reached_69 rfl (by decide) (fun _ => rfl) hf (fun x3_5 hf => ?_)
        refine g_iinc C 70 3 (v := x4 + (1 : Int32)) (fun z => [(4, .int z), (3, .int x3_5), (0, .ref q_t), (2, .int a2), (5, .int x5), (6, .int x6)]) dX4_reached_70 rfl rfl (by decide) (fun _ => rfl) hf (fun x4_6 hf => ?_)
        refine g_goto C 73 5 dX4_reached_73 (by decide) ?_
        refine g_lv [2, 3, 1, 0] rfl ?_
        exact h_5 x3_5 x4_6 hf
      · refine g_goto C 64 76 dX4_reached_64 (by decide) ?_
        refine g_iload_n C 76 2 dX4_reached_76 rfl rfl ?_
        cases hf
        exact g_iret C 77 dX4_reached_77 F ⟨rfl, rfl⟩
    · refine g_iload_n C 29 2 dX4_reached_29 rfl rfl ?_
      refine g_iload C 30 5 dX4_reached_30 rfl ?_
      obtain ⟨u7, hu7, hf⟩ := cal_some hf
      refine g_callSN C 32 [] (rest := []) dX4_reached_32 (c_X8_hasBit (x_l X) cA x3 x6 u7 hu7) (List.mem_of_getElem? (i := 7) rfl) kw_5 kw_6 kw_7 ok_X8_hasBit ⟨Nat.le_of_ble_eq_true rfl, Nat.le_of_ble_eq_true rfl⟩ ⟨Nat.zero_le _, Nat.zero_le _⟩ ⟨rfl, rfl⟩ rfl rfl rfl (Nat.le_of_ble_eq_true rfl) rfl (ws' := [oB q_t 4 [.ref q_t_loads, .ref q_t_near, .ref q_t_ties, .int t_size, .int t_edges], aI cA q_t_near 14 t_near]) (st' := [.int u7]) (N0 := 2) rfl [none, none] (by decide) rfl rfl ?_
      refine g_if_eq C 35 52 dX4_reached_35 (by decide) hf (fun hf => ?_) (fun hf => ?_)
      · refine g_iinc C 52 5 (v := x6 + (1 : Int32)) (fun z => [(6, .int z), (0, .ref q_t), (2, .int a2), (3, .int x3), (4, .int x4), (5, .int x5)]) dX4_reached_52 rfl rfl (by decide) (fun _ => rfl) hf (fun x6_8 hf => ?_)
        refine g_goto C 55 20 dX4_reached_55 (by decide) ?_
        refine g_lv [1, 2, 3, 4, 5, 0] rfl ?_
        exact ih x3 x4 x5 x6_8 hf
      · refine g_iload C 38 4 dX4_reached_38 rfl ?_
        refine g_aload_n C 40 0 dX4_reached_40 rfl rfl ?_
        refine g_get C 41 0 1 dX4_reached_41 inX4 rfl rfl (by decide) kw_51 rfl ?_
        refine g_iload C 44 5 dX4_reached_44 rfl ?_
        refine g_iald C 46 1 dX4_reached_46 rfl hf (fun v9 hf => ?_)
        refine g_iload_n C 47 1 dX4_reached_47 rfl rfl ?_
        refine g_iand C 48 dX4_reached_48 ?_
        refine g_ior C 49 dX4_reached_49 ?_
        refine g_istore C 50 (fun z => [(5, .int z), (0, .ref q_t), (2, .int a2), (3, .int x3), (4, .int x4), (6, .int x6)]) dX4_reached_50 (by decide) (fun _ => rfl) hf (fun x5_10 hf => ?_)
        refine g_iinc C 52 5 (v := x6 + (1 : Int32)) (fun z => [(6, .int z), (5, .int x5_10), (0, .ref q_t), (2, .int a2), (3, .int x3), (4, .int x4)]) dX4_reached_52 rfl rfl (by decide) (fun _ => rfl) hf (fun x6_11 hf => ?_)
        refine g_goto C 55 20 dX4_reached_55 (by decide) ?_
        refine g_lv [2, 3, 4, 5, 1, 0] rfl ?_
        exact ih x3 x4 x5_10 x6_11 hf
def L_X4_reached_5 (a1 : Int32) (a2 : Int32) (t_size : Int32) (t_near : Nat → Int32)  : Nat → Int32 → Int32 → Option (Int32)
  | 0, _, _ => none
  | n + 1, x3, x4 =>
    if t_size ≤ x4 then
      some (x3)
    else
      bnd x3 fun x5_3 =>
      bnd (0 : Int32) fun x6_4 =>
      L_X4_reached_20 a1 a2 t_size t_near (fun y0 y1 => L_X4_reached_5 a1 a2 t_size t_near n y0 y1) NN x3 x4 x5_3 x6_4

set_option maxRecDepth 100000 in
set_option maxHeartbeats 1000000 in
theorem w_X4_reached_5 (cA : Nat → ClassId) (q_t : Nat) (q_t_loads : Nat) (q_t_ties : Nat) (t_edges : Int32) (q_t_near : Nat) (a1 : Int32) (a2 : Int32) (t_size : Int32) (t_near : Nat → Int32) {X : XT}  (C : Cx X cX4_reached RX4 (some .int) cA 1 21 7) (r : Int32) (F : Fx X (sB (some (.int r)) [oB q_t 4 [.ref q_t_loads, .ref q_t_near, .ref q_t_ties, .int t_size, .int t_edges], aI cA q_t_near 14 t_near]) 0 0)  : ∀ (n : Nat) (x3 : Int32) (x4 : Int32), L_X4_reached_5 a1 a2 t_size t_near n x3 x4 = some r → Go X 7 0 0 5 [oB q_t 4 [.ref q_t_loads, .ref q_t_near, .ref q_t_ties, .int t_size, .int t_edges], aI cA q_t_near 14 t_near] [(0, .ref q_t), (2, .int a2), (3, .int x3), (4, .int x4)] [] := by
  intro n
  induction n with
  | zero => intro x3 x4 hf; exact no_some hf
  | succ n ih =>
    intro x3 x4 hf
    rw [L_X4_reached_5] at hf
    refine g_iload C 5 3 dX4_reached_5 rfl ?_
    refine g_aload_n C 7 0 dX4_reached_7 rfl rfl ?_
    refine g_get C 8 0 3 dX4_reached_8 inX4 rfl rfl (by decide) kw_45 rfl ?_
    refine g_icmp_ge C 11 76 dX4_reached_11 (by decide) hf (fun hf => ?_) (fun hf => ?_)
    · refine g_iload_n C 76 2 dX4_reached_76 rfl rfl ?_
      cases hf
      exact g_iret C 77 dX4_reached_77 F ⟨rfl, rfl⟩
    · refine g_iload_n C 14 2 dX4_reached_14 rfl rfl ?_
      refine g_istore C 15 (fun z => [(5, .int z), (0, .ref q_t), (2, .int a2), (3, .int x3), (4, .int x4)]) dX4_reached_15 (by decide) (fun _ => rfl) hf (fun x5_3 hf => ?_)
      refine g_iconst C 17 (0 : Int32) dX4_reached_17 (by decide) ?_
      refine g_istore C 18 (fun z => [(6, .int z), (5, .int x5_3), (0, .ref q_t), (2, .int a2), (3, .int x3), (4, .int x4)]) dX4_reached_18 (by decide) (fun _ => rfl) hf (fun x6_4 hf => ?_)
      refine g_lv [2, 3, 4, 5, 1, 0] rfl ?_
      exact w_X4_reached_20 cA q_t q_t_loads q_t_ties t_edges q_t_near a1 a2 t_size t_near C r F (fun y0 y1 => L_X4_reached_5 a1 a2 t_size t_near n y0 y1) (fun y0 y1 hf => ih y0 y1 hf) NN x3 x4 x5_3 x6_4 hf
def f_X4_reached (a1 : Int32) (a2 : Int32) (t_size : Int32) (t_near : Nat → Int32) : Option (Int32) :=
  bnd a1 fun x3_1 =>
  bnd (0 : Int32) fun x4_2 =>
  L_X4_reached_5 a1 a2 t_size t_near NN x3_1 x4_2

set_option maxRecDepth 100000 in
set_option maxHeartbeats 1000000 in
theorem c_X4_reached (l : Launch) (cA : Nat → ClassId) (q_t : Nat) (q_t_loads : Nat) (q_t_ties : Nat) (t_size : Int32) (t_edges : Int32) (q_t_near : Nat) (t_near : Nat → Int32)  (a1 : Int32) (a2 : Int32) (r : Int32) (hf : f_X4_reached a1 a2 t_size t_near = some r) : MT l cA yX4_reached cX4_reached 7 (some .int) ({ frames := 1, cells := 0, slots := 0, locals := 21 } : Room) [.ref q_t, .int a1, .int a2] [oB q_t 4 [.ref q_t_loads, .ref q_t_near, .ref q_t_ties, .int t_size, .int t_edges], aI cA q_t_near 14 t_near] (sB (some (.int r)) [oB q_t 4 [.ref q_t_loads, .ref q_t_near, .ref q_t_ties, .int t_size, .int t_edges], aI cA q_t_near 14 t_near]) := by
  refine MT.of (by decide) (Nat.le_of_ble_eq_true rfl) ?_
  intro X hXl C F hnm hrc hrs
  subst hXl
  unfold f_X4_reached at hf
  have C : Cx X cX4_reached RX4 (some .int) cA 1 21 7 := C
  show Go X 7 0 0 0 [oB q_t 4 [.ref q_t_loads, .ref q_t_near, .ref q_t_ties, .int t_size, .int t_edges], aI cA q_t_near 14 t_near] [(0, .ref q_t), (1, .int a1), (2, .int a2)] []
  refine g_iload_n C 0 1 dX4_reached_0 rfl rfl ?_
  refine g_istore_n C 1 (fun z => [(3, .int z), (0, .ref q_t), (1, .int a1), (2, .int a2)]) dX4_reached_1 rfl (by decide) (fun _ => rfl) hf (fun x3_1 hf => ?_)
  refine g_iconst C 2 (0 : Int32) dX4_reached_2 (by decide) ?_
  refine g_istore C 3 (fun z => [(4, .int z), (3, .int x3_1), (0, .ref q_t), (1, .int a1), (2, .int a2)]) dX4_reached_3 (by decide) (fun _ => rfl) hf (fun x4_2 hf => ?_)
  refine g_lv [2, 4, 1, 0] rfl ?_
  exact w_X4_reached_5 cA q_t q_t_loads q_t_ties t_edges q_t_near a1 a2 t_size t_near C r F NN x3_1 x4_2 hf

def L_X4_largestPart_7 (a1 : Int32) (t_size : Int32) (t_near : Nat → Int32)  : Nat → Int32 → Int32 → Int32 → Option (Int32)
  | 0, _, _, _ => none
  | n + 1, x2, x3, x4 =>
    if t_size ≤ x4 then
      some (x3)
    else
      cal (f_X8_hasBit x2 x4) fun u4 =>
      if u4 = 0 then
        bnd (x4 + (1 : Int32)) fun x4_11 =>
        L_X4_largestPart_7 a1 t_size t_near n x2 x3 x4_11
      else
        cal (f_X4_reached ((1 : Int32) <<< (x4 &&& 31)) a1 t_size t_near) fun u5 =>
        bnd u5 fun x5_6 =>
        cal (f_J6_bitCount_0f7a4 x5_6) fun u7 =>
        bnd (if x3 < u7 then u7 else x3) fun x3_8 =>
        bnd (x2 &&& (x5_6 ^^^ (-1 : Int32))) fun x2_9 =>
        bnd (x4 + (1 : Int32)) fun x4_10 =>
        L_X4_largestPart_7 a1 t_size t_near n x2_9 x3_8 x4_10

set_option maxRecDepth 100000 in
set_option maxHeartbeats 1000000 in
theorem w_X4_largestPart_7 (cA : Nat → ClassId) (q_t : Nat) (q_t_loads : Nat) (q_t_ties : Nat) (t_edges : Int32) (q_t_near : Nat) (a1 : Int32) (t_size : Int32) (t_near : Nat → Int32) {X : XT}  (C : Cx X cX4_largestPart RX4 (some .int) cA 2 47 6) (r : Int32) (F : Fx X (sB (some (.int r)) [oB q_t 4 [.ref q_t_loads, .ref q_t_near, .ref q_t_ties, .int t_size, .int t_edges], aI cA q_t_near 14 t_near]) 0 0)  : ∀ (n : Nat) (x2 : Int32) (x3 : Int32) (x4 : Int32), L_X4_largestPart_7 a1 t_size t_near n x2 x3 x4 = some r → Go X 6 0 0 7 [oB q_t 4 [.ref q_t_loads, .ref q_t_near, .ref q_t_ties, .int t_size, .int t_edges], aI cA q_t_near 14 t_near] [(0, .ref q_t), (1, .int a1), (2, .int x2), (3, .int x3), (4, .int x4)] [] := by
  intro n
  induction n with
  | zero => intro x2 x3 x4 hf; exact no_some hf
  | succ n ih =>
    intro x2 x3 x4 hf
    rw [L_X4_largestPart_7] at hf
    refine g_iload C 7 4 dX4_largestPart_7 rfl ?_
    refine g_aload_n C 9 0 dX4_largestPart_9 rfl rfl ?_
    refine g_get C 10 0 3 dX4_largestPart_10 inX4 rfl rfl (by decide) kw_45 rfl ?_
    refine g_icmp_ge C 13 62 dX4_largestPart_13 (by decide) hf (fun hf => ?_) (fun hf => ?_)
    · refine g_iload_n C 62 3 dX4_largestPart_62 rfl rfl ?_
      cases hf
      exact g_iret C 63 dX4_largestPart_63 F ⟨rfl, rfl⟩
    · refine g_iload_n C 16 2 dX4_largestPart_16 rfl rfl ?_
      refine g_iload C 17 4 dX4_largestPart_17 rfl ?_
      obtain ⟨u4, hu4, hf⟩ := cal_some hf
      refine g_callSN C 19 [] (rest := []) dX4_largestPart_19 (c_X8_hasBit (x_l X) cA x2 x4 u4 hu4) (List.mem_of_getElem? (i := 7) rfl) kw_5 kw_6 kw_7 ok_X8_hasBit ⟨Nat.le_of_ble_eq_true rfl, Nat.le_of_ble_eq_true rfl⟩ ⟨Nat.zero_le _, Nat.zero_le _⟩ ⟨rfl, rfl⟩ rfl rfl rfl (Nat.le_of_ble_eq_true rfl) rfl (ws' := [oB q_t 4 [.ref q_t_loads, .ref q_t_near, .ref q_t_ties, .int t_size, .int t_edges], aI cA q_t_near 14 t_near]) (st' := [.int u4]) (N0 := 2) rfl [none, none] (by decide) rfl rfl ?_
      refine g_if_ne C 22 28 dX4_largestPart_22 (by decide) hf (fun hf => ?_) (fun hf => ?_)
      · refine g_aload_n C 28 0 dX4_largestPart_28 rfl rfl ?_
        refine g_iconst C 29 (1 : Int32) dX4_largestPart_29 (by decide) ?_
        refine g_iload C 30 4 dX4_largestPart_30 rfl ?_
        refine g_ishl C 32 dX4_largestPart_32 ?_
        refine g_iload_n C 33 1 dX4_largestPart_33 rfl rfl ?_
        obtain ⟨u5, hu5, hf⟩ := cal_some hf
        refine g_callV1 C 34 [0, 1] 0 (rest := []) dX4_largestPart_34 (c_X4_reached (x_l X) cA q_t q_t_loads q_t_ties t_size t_edges q_t_near t_near ((1 : Int32) <<< (x4 &&& 31)) a1 u5 hu5) kw_100 kw_101 kw_102 kw_49 kw_103 ok_X4_reached ⟨Nat.le_of_ble_eq_true rfl, Nat.le_of_ble_eq_true rfl⟩ ⟨Nat.zero_le _, Nat.zero_le _⟩ ⟨rfl, rfl⟩ rfl rfl rfl rfl rfl (Nat.le_of_ble_eq_true rfl) rfl (ws' := [oB q_t 4 [.ref q_t_loads, .ref q_t_near, .ref q_t_ties, .int t_size, .int t_edges], aI cA q_t_near 14 t_near]) (st' := [.int u5]) (N0 := 2) rfl [some 0, some 1] (by decide) rfl rfl ?_
        refine g_istore C 37 (fun z => [(5, .int z), (0, .ref q_t), (1, .int a1), (2, .int x2), (3, .int x3), (4, .int x4)]) dX4_largestPart_37 (by decide) (fun _ => rfl) hf (fun x5_6 hf => ?_)
        refine g_iload_n C 39 4 dX4_largestPart_39 rfl rfl ?_
        refine g_iload C 40 0 dX4_largestPart_40 rfl ?_
        obtain ⟨u7, hu7, hf⟩ := cal_some hf
        refine g_callS C 42 [] (rest := [.int x3]) dX4_largestPart_42 (c_J6_bitCount_0f7a4 (x_l X) cA x5_6 u7 hu7) kw_104 kw_20 kw_21 kw_22 ok_J6_bitCount_0f7a4 ⟨Nat.le_of_ble_eq_true rfl, Nat.le_of_ble_eq_true rfl⟩ ⟨Nat.zero_le _, Nat.zero_le _⟩ ⟨rfl, rfl⟩ rfl rfl rfl (Nat.le_of_ble_eq_true rfl) rfl (ws' := [oB q_t 4 [.ref q_t_loads, .ref q_t_near, .ref q_t_ties, .int t_size, .int t_edges], aI cA q_t_near 14 t_near]) (st' := [.int u7, .int x3]) (N0 := 2) rfl [none, none] (by decide) rfl rfl ?_
        refine g_max C 45 dX4_largestPart_45 kw_105 kw_37 kw_38 kw_39 (by decide) (Nat.le_of_ble_eq_true rfl) (Nat.zero_le _) (Nat.zero_le _) ?_
        refine g_istore_n C 48 (fun z => [(3, .int z), (5, .int x5_6), (0, .ref q_t), (1, .int a1), (2, .int x2), (4, .int x4)]) dX4_largestPart_48 rfl (by decide) (fun _ => rfl) hf (fun x3_8 hf => ?_)
        refine g_iload_n C 49 4 dX4_largestPart_49 rfl rfl ?_
        refine g_iload C 50 1 dX4_largestPart_50 rfl ?_
        refine g_iconst C 52 (-1 : Int32) dX4_largestPart_52 (by decide) ?_
        refine g_ixor C 53 dX4_largestPart_53 ?_
        refine g_iand C 54 dX4_largestPart_54 ?_
        refine g_istore_n C 55 (fun z => [(2, .int z), (3, .int x3_8), (5, .int x5_6), (0, .ref q_t), (1, .int a1), (4, .int x4)]) dX4_largestPart_55 rfl (by decide) (fun _ => rfl) hf (fun x2_9 hf => ?_)
        refine g_iinc C 56 5 (v := x4 + (1 : Int32)) (fun z => [(4, .int z), (2, .int x2_9), (3, .int x3_8), (5, .int x5_6), (0, .ref q_t), (1, .int a1)]) dX4_largestPart_56 rfl rfl (by decide) (fun _ => rfl) hf (fun x4_10 hf => ?_)
        refine g_goto C 59 7 dX4_largestPart_59 (by decide) ?_
        refine g_lv [4, 5, 1, 2, 0] rfl ?_
        exact ih x2_9 x3_8 x4_10 hf
      · refine g_goto C 25 56 dX4_largestPart_25 (by decide) ?_
        refine g_iinc C 56 4 (v := x4 + (1 : Int32)) (fun z => [(4, .int z), (0, .ref q_t), (1, .int a1), (2, .int x2), (3, .int x3)]) dX4_largestPart_56 rfl rfl (by decide) (fun _ => rfl) hf (fun x4_11 hf => ?_)
        refine g_goto C 59 7 dX4_largestPart_59 (by decide) ?_
        refine g_lv [1, 2, 3, 4, 0] rfl ?_
        exact ih x2 x3 x4_11 hf
def f_X4_largestPart (a1 : Int32) (t_size : Int32) (t_near : Nat → Int32) : Option (Int32) :=
  bnd a1 fun x2_1 =>
  bnd (0 : Int32) fun x3_2 =>
  bnd (0 : Int32) fun x4_3 =>
  L_X4_largestPart_7 a1 t_size t_near NN x2_1 x3_2 x4_3

set_option maxRecDepth 100000 in
set_option maxHeartbeats 1000000 in
theorem c_X4_largestPart (l : Launch) (cA : Nat → ClassId) (q_t : Nat) (q_t_loads : Nat) (q_t_ties : Nat) (t_size : Int32) (t_edges : Int32) (q_t_near : Nat) (t_near : Nat → Int32)  (a1 : Int32) (r : Int32) (hf : f_X4_largestPart a1 t_size t_near = some r) : MT l cA yX4_largestPart cX4_largestPart 6 (some .int) ({ frames := 2, cells := 0, slots := 0, locals := 47 } : Room) [.ref q_t, .int a1] [oB q_t 4 [.ref q_t_loads, .ref q_t_near, .ref q_t_ties, .int t_size, .int t_edges], aI cA q_t_near 14 t_near] (sB (some (.int r)) [oB q_t 4 [.ref q_t_loads, .ref q_t_near, .ref q_t_ties, .int t_size, .int t_edges], aI cA q_t_near 14 t_near]) := by
  refine MT.of (by decide) (Nat.le_of_ble_eq_true rfl) ?_
  intro X hXl C F hnm hrc hrs
  subst hXl
  unfold f_X4_largestPart at hf
  have C : Cx X cX4_largestPart RX4 (some .int) cA 2 47 6 := C
  show Go X 6 0 0 0 [oB q_t 4 [.ref q_t_loads, .ref q_t_near, .ref q_t_ties, .int t_size, .int t_edges], aI cA q_t_near 14 t_near] [(0, .ref q_t), (1, .int a1)] []
  refine g_iload_n C 0 1 dX4_largestPart_0 rfl rfl ?_
  refine g_istore_n C 1 (fun z => [(2, .int z), (0, .ref q_t), (1, .int a1)]) dX4_largestPart_1 rfl (by decide) (fun _ => rfl) hf (fun x2_1 hf => ?_)
  refine g_iconst C 2 (0 : Int32) dX4_largestPart_2 (by decide) ?_
  refine g_istore_n C 3 (fun z => [(3, .int z), (2, .int x2_1), (0, .ref q_t), (1, .int a1)]) dX4_largestPart_3 rfl (by decide) (fun _ => rfl) hf (fun x3_2 hf => ?_)
  refine g_iconst C 4 (0 : Int32) dX4_largestPart_4 (by decide) ?_
  refine g_istore C 5 (fun z => [(4, .int z), (3, .int x3_2), (2, .int x2_1), (0, .ref q_t), (1, .int a1)]) dX4_largestPart_5 (by decide) (fun _ => rfl) hf (fun x4_3 hf => ?_)
  refine g_lv [3, 4, 2, 1, 0] rfl ?_
  exact w_X4_largestPart_7 cA q_t q_t_loads q_t_ties t_edges q_t_near a1 t_size t_near C r F NN x2_1 x3_2 x4_3 hf
end
section
theorem dX1_start_0 : decode cX1_start 0 = .ok (.aload_n 1, 1) := by decide +kernel
theorem dX1_start_1 : decode cX1_start 1 = .ok (.getfield 15, 3) := by decide +kernel
theorem dX1_start_4 : decode cX1_start 4 = .ok (.iconst 0, 1) := by decide +kernel
theorem dX1_start_5 : decode cX1_start 5 = .ok (.aload_n 0, 1) := by decide +kernel
theorem dX1_start_6 : decode cX1_start 6 = .ok (.getfield 9, 3) := by decide +kernel
theorem dX1_start_9 : decode cX1_start 9 = .ok (.iconst 0, 1) := by decide +kernel
theorem dX1_start_10 : decode cX1_start 10 = .ok (.bipush 14, 2) := by decide +kernel
theorem dX1_start_12 : decode cX1_start 12 = .ok (.invokestatic 18, 3) := by decide +kernel
theorem dX1_start_15 : decode cX1_start 15 = .ok (.aload_n 0, 1) := by decide +kernel
theorem dX1_start_16 : decode cX1_start 16 = .ok (.aload_n 1, 1) := by decide +kernel
theorem dX1_start_17 : decode cX1_start 17 = .ok (.invokevirtual 24, 3) := by decide +kernel
theorem dX1_start_20 : decode cX1_start 20 = .ok (.putfield 28, 3) := by decide +kernel
theorem dX1_start_23 : decode cX1_start 23 = .ok (.aload_n 0, 1) := by decide +kernel
theorem dX1_start_24 : decode cX1_start 24 = .ok (.iconst 0, 1) := by decide +kernel
theorem dX1_start_25 : decode cX1_start 25 = .ok (.putfield 32, 3) := by decide +kernel
theorem dX1_start_28 : decode cX1_start 28 = .ok (.return_, 1) := by decide +kernel
theorem dX1_startAs_0 : decode cX1_startAs 0 = .ok (.aload_n 1, 1) := by decide +kernel
theorem dX1_startAs_1 : decode cX1_startAs 1 = .ok (.getfield 9, 3) := by decide +kernel
theorem dX1_startAs_4 : decode cX1_startAs 4 = .ok (.iconst 0, 1) := by decide +kernel
theorem dX1_startAs_5 : decode cX1_startAs 5 = .ok (.aload_n 0, 1) := by decide +kernel
theorem dX1_startAs_6 : decode cX1_startAs 6 = .ok (.getfield 9, 3) := by decide +kernel
theorem dX1_startAs_9 : decode cX1_startAs 9 = .ok (.iconst 0, 1) := by decide +kernel
theorem dX1_startAs_10 : decode cX1_startAs 10 = .ok (.bipush 14, 2) := by decide +kernel
theorem dX1_startAs_12 : decode cX1_startAs 12 = .ok (.invokestatic 18, 3) := by decide +kernel
theorem dX1_startAs_15 : decode cX1_startAs 15 = .ok (.aload_n 0, 1) := by decide +kernel
theorem dX1_startAs_16 : decode cX1_startAs 16 = .ok (.aload_n 1, 1) := by decide +kernel
theorem dX1_startAs_17 : decode cX1_startAs 17 = .ok (.getfield 28, 3) := by decide +kernel
theorem dX1_startAs_20 : decode cX1_startAs 20 = .ok (.putfield 28, 3) := by decide +kernel
theorem dX1_startAs_23 : decode cX1_startAs 23 = .ok (.aload_n 0, 1) := by decide +kernel
theorem dX1_startAs_24 : decode cX1_startAs 24 = .ok (.aload_n 1, 1) := by decide +kernel
theorem dX1_startAs_25 : decode cX1_startAs 25 = .ok (.getfield 32, 3) := by decide +kernel
theorem dX1_startAs_28 : decode cX1_startAs 28 = .ok (.putfield 32, 3) := by decide +kernel
theorem dX1_startAs_31 : decode cX1_startAs 31 = .ok (.return_, 1) := by decide +kernel
theorem dX1_letGo_0 : decode cX1_letGo 0 = .ok (.aload_n 0, 1) := by decide +kernel
theorem dX1_letGo_1 : decode cX1_letGo 1 = .ok (.getfield 9, 3) := by decide +kernel
theorem dX1_letGo_4 : decode cX1_letGo 4 = .ok (.iload_n 1, 1) := by decide +kernel
theorem dX1_letGo_5 : decode cX1_letGo 5 = .ok (.iaload, 1) := by decide +kernel
theorem dX1_letGo_6 : decode cX1_letGo 6 = .ok (.istore_n 2, 1) := by decide +kernel
theorem dX1_letGo_7 : decode cX1_letGo 7 = .ok (.aload_n 0, 1) := by decide +kernel
theorem dX1_letGo_8 : decode cX1_letGo 8 = .ok (.iload_n 1, 1) := by decide +kernel
theorem dX1_letGo_9 : decode cX1_letGo 9 = .ok (.invokevirtual 35, 3) := by decide +kernel
theorem dX1_letGo_12 : decode cX1_letGo 12 = .ok (.iconst 0, 1) := by decide +kernel
theorem dX1_letGo_13 : decode cX1_letGo 13 = .ok (.istore_n 3, 1) := by decide +kernel
theorem dX1_letGo_14 : decode cX1_letGo 14 = .ok (.iload_n 3, 1) := by decide +kernel
theorem dX1_letGo_15 : decode cX1_letGo 15 = .ok (.bipush 14, 2) := by decide +kernel
theorem dX1_letGo_17 : decode cX1_letGo 17 = .ok (.if_icmp .ge 63, 3) := by decide +kernel
theorem dX1_letGo_20 : decode cX1_letGo 20 = .ok (.iload_n 2, 1) := by decide +kernel
theorem dX1_letGo_21 : decode cX1_letGo 21 = .ok (.iload_n 3, 1) := by decide +kernel
theorem dX1_letGo_22 : decode cX1_letGo 22 = .ok (.invokestatic 39, 3) := by decide +kernel
theorem dX1_letGo_25 : decode cX1_letGo 25 = .ok (.ifCond .ne 6, 3) := by decide +kernel
theorem dX1_letGo_28 : decode cX1_letGo 28 = .ok (.goto 46, 3) := by decide +kernel
theorem dX1_letGo_31 : decode cX1_letGo 31 = .ok (.iload_n 2, 1) := by decide +kernel
theorem dX1_letGo_32 : decode cX1_letGo 32 = .ok (.aload_n 0, 1) := by decide +kernel
theorem dX1_letGo_33 : decode cX1_letGo 33 = .ok (.getfield 9, 3) := by decide +kernel
theorem dX1_letGo_36 : decode cX1_letGo 36 = .ok (.iload_n 3, 1) := by decide +kernel
theorem dX1_letGo_37 : decode cX1_letGo 37 = .ok (.iaload, 1) := by decide +kernel
theorem dX1_letGo_38 : decode cX1_letGo 38 = .ok (.iconst (-1), 1) := by decide +kernel
theorem dX1_letGo_39 : decode cX1_letGo 39 = .ok (.ixor, 1) := by decide +kernel
theorem dX1_letGo_40 : decode cX1_letGo 40 = .ok (.iand, 1) := by decide +kernel
theorem dX1_letGo_41 : decode cX1_letGo 41 = .ok (.iconst 1, 1) := by decide +kernel
theorem dX1_letGo_42 : decode cX1_letGo 42 = .ok (.iload_n 3, 1) := by decide +kernel
theorem dX1_letGo_43 : decode cX1_letGo 43 = .ok (.ishl, 1) := by decide +kernel
theorem dX1_letGo_44 : decode cX1_letGo 44 = .ok (.iconst (-1), 1) := by decide +kernel
theorem dX1_letGo_45 : decode cX1_letGo 45 = .ok (.ixor, 1) := by decide +kernel
theorem dX1_letGo_46 : decode cX1_letGo 46 = .ok (.iand, 1) := by decide +kernel
theorem dX1_letGo_47 : decode cX1_letGo 47 = .ok (.istore 4, 2) := by decide +kernel
theorem dX1_letGo_49 : decode cX1_letGo 49 = .ok (.aload_n 0, 1) := by decide +kernel
theorem dX1_letGo_50 : decode cX1_letGo 50 = .ok (.dup, 1) := by decide +kernel
theorem dX1_letGo_51 : decode cX1_letGo 51 = .ok (.getfield 32, 3) := by decide +kernel
theorem dX1_letGo_54 : decode cX1_letGo 54 = .ok (.iload 4, 2) := by decide +kernel
theorem dX1_letGo_56 : decode cX1_letGo 56 = .ok (.invokestatic 43, 3) := by decide +kernel
theorem dX1_letGo_59 : decode cX1_letGo 59 = .ok (.iadd, 1) := by decide +kernel
theorem dX1_letGo_60 : decode cX1_letGo 60 = .ok (.putfield 32, 3) := by decide +kernel
theorem dX1_letGo_63 : decode cX1_letGo 63 = .ok (.aload_n 0, 1) := by decide +kernel
theorem dX1_letGo_64 : decode cX1_letGo 64 = .ok (.getfield 9, 3) := by decide +kernel
theorem dX1_letGo_67 : decode cX1_letGo 67 = .ok (.iload_n 3, 1) := by decide +kernel
theorem dX1_letGo_68 : decode cX1_letGo 68 = .ok (.dup2, 1) := by decide +kernel
theorem dX1_letGo_69 : decode cX1_letGo 69 = .ok (.iaload, 1) := by decide +kernel
theorem dX1_letGo_70 : decode cX1_letGo 70 = .ok (.iload 4, 2) := by decide +kernel
theorem dX1_letGo_72 : decode cX1_letGo 72 = .ok (.ior, 1) := by decide +kernel
theorem dX1_letGo_73 : decode cX1_letGo 73 = .ok (.iastore, 1) := by decide +kernel
theorem dX1_letGo_74 : decode cX1_letGo 74 = .ok (.iinc 3 1, 3) := by decide +kernel
theorem dX1_letGo_77 : decode cX1_letGo 77 = .ok (.goto (-63), 3) := by decide +kernel
theorem dX1_letGo_80 : decode cX1_letGo 80 = .ok (.return_, 1) := by decide +kernel
theorem dX1_takeAway_0 : decode cX1_takeAway 0 = .ok (.aload_n 0, 1) := by decide +kernel
theorem dX1_takeAway_1 : decode cX1_takeAway 1 = .ok (.getfield 9, 3) := by decide +kernel
theorem dX1_takeAway_4 : decode cX1_takeAway 4 = .ok (.iload_n 1, 1) := by decide +kernel
theorem dX1_takeAway_5 : decode cX1_takeAway 5 = .ok (.iaload, 1) := by decide +kernel
theorem dX1_takeAway_6 : decode cX1_takeAway 6 = .ok (.istore_n 2, 1) := by decide +kernel
theorem dX1_takeAway_7 : decode cX1_takeAway 7 = .ok (.iconst 0, 1) := by decide +kernel
theorem dX1_takeAway_8 : decode cX1_takeAway 8 = .ok (.istore_n 3, 1) := by decide +kernel
theorem dX1_takeAway_9 : decode cX1_takeAway 9 = .ok (.iload_n 3, 1) := by decide +kernel
theorem dX1_takeAway_10 : decode cX1_takeAway 10 = .ok (.bipush 14, 2) := by decide +kernel
theorem dX1_takeAway_12 : decode cX1_takeAway 12 = .ok (.if_icmp .ge 31, 3) := by decide +kernel
theorem dX1_takeAway_15 : decode cX1_takeAway 15 = .ok (.iload_n 2, 1) := by decide +kernel
theorem dX1_takeAway_16 : decode cX1_takeAway 16 = .ok (.iload_n 3, 1) := by decide +kernel
theorem dX1_takeAway_17 : decode cX1_takeAway 17 = .ok (.invokestatic 39, 3) := by decide +kernel
theorem dX1_takeAway_20 : decode cX1_takeAway 20 = .ok (.ifCond .eq 17, 3) := by decide +kernel
theorem dX1_takeAway_23 : decode cX1_takeAway 23 = .ok (.aload_n 0, 1) := by decide +kernel
theorem dX1_takeAway_24 : decode cX1_takeAway 24 = .ok (.getfield 9, 3) := by decide +kernel
theorem dX1_takeAway_27 : decode cX1_takeAway 27 = .ok (.iload_n 3, 1) := by decide +kernel
theorem dX1_takeAway_28 : decode cX1_takeAway 28 = .ok (.dup2, 1) := by decide +kernel
theorem dX1_takeAway_29 : decode cX1_takeAway 29 = .ok (.iaload, 1) := by decide +kernel
theorem dX1_takeAway_30 : decode cX1_takeAway 30 = .ok (.iconst 1, 1) := by decide +kernel
theorem dX1_takeAway_31 : decode cX1_takeAway 31 = .ok (.iload_n 1, 1) := by decide +kernel
theorem dX1_takeAway_32 : decode cX1_takeAway 32 = .ok (.ishl, 1) := by decide +kernel
theorem dX1_takeAway_33 : decode cX1_takeAway 33 = .ok (.iconst (-1), 1) := by decide +kernel
theorem dX1_takeAway_34 : decode cX1_takeAway 34 = .ok (.ixor, 1) := by decide +kernel
theorem dX1_takeAway_35 : decode cX1_takeAway 35 = .ok (.iand, 1) := by decide +kernel
theorem dX1_takeAway_36 : decode cX1_takeAway 36 = .ok (.iastore, 1) := by decide +kernel
theorem dX1_takeAway_37 : decode cX1_takeAway 37 = .ok (.iinc 3 1, 3) := by decide +kernel
theorem dX1_takeAway_40 : decode cX1_takeAway 40 = .ok (.goto (-31), 3) := by decide +kernel
theorem dX1_takeAway_43 : decode cX1_takeAway 43 = .ok (.aload_n 0, 1) := by decide +kernel
theorem dX1_takeAway_44 : decode cX1_takeAway 44 = .ok (.getfield 9, 3) := by decide +kernel
theorem dX1_takeAway_47 : decode cX1_takeAway 47 = .ok (.iload_n 1, 1) := by decide +kernel
theorem dX1_takeAway_48 : decode cX1_takeAway 48 = .ok (.iconst 0, 1) := by decide +kernel
theorem dX1_takeAway_49 : decode cX1_takeAway 49 = .ok (.iastore, 1) := by decide +kernel
theorem dX1_takeAway_50 : decode cX1_takeAway 50 = .ok (.aload_n 0, 1) := by decide +kernel
theorem dX1_takeAway_51 : decode cX1_takeAway 51 = .ok (.dup, 1) := by decide +kernel
theorem dX1_takeAway_52 : decode cX1_takeAway 52 = .ok (.getfield 28, 3) := by decide +kernel
theorem dX1_takeAway_55 : decode cX1_takeAway 55 = .ok (.iconst 1, 1) := by decide +kernel
theorem dX1_takeAway_56 : decode cX1_takeAway 56 = .ok (.iload_n 1, 1) := by decide +kernel
theorem dX1_takeAway_57 : decode cX1_takeAway 57 = .ok (.ishl, 1) := by decide +kernel
theorem dX1_takeAway_58 : decode cX1_takeAway 58 = .ok (.iconst (-1), 1) := by decide +kernel
theorem dX1_takeAway_59 : decode cX1_takeAway 59 = .ok (.ixor, 1) := by decide +kernel
theorem dX1_takeAway_60 : decode cX1_takeAway 60 = .ok (.iand, 1) := by decide +kernel
theorem dX1_takeAway_61 : decode cX1_takeAway 61 = .ok (.putfield 28, 3) := by decide +kernel
theorem dX1_takeAway_64 : decode cX1_takeAway 64 = .ok (.return_, 1) := by decide +kernel
theorem dX1_loneliest_0 : decode cX1_loneliest 0 = .ok (.iconst 0, 1) := by decide +kernel
theorem dX1_loneliest_1 : decode cX1_loneliest 1 = .ok (.istore_n 1, 1) := by decide +kernel
theorem dX1_loneliest_2 : decode cX1_loneliest 2 = .ok (.bipush 14, 2) := by decide +kernel
theorem dX1_loneliest_4 : decode cX1_loneliest 4 = .ok (.istore_n 2, 1) := by decide +kernel
theorem dX1_loneliest_5 : decode cX1_loneliest 5 = .ok (.iconst 0, 1) := by decide +kernel
theorem dX1_loneliest_6 : decode cX1_loneliest 6 = .ok (.istore_n 3, 1) := by decide +kernel
theorem dX1_loneliest_7 : decode cX1_loneliest 7 = .ok (.iload_n 3, 1) := by decide +kernel
theorem dX1_loneliest_8 : decode cX1_loneliest 8 = .ok (.bipush 14, 2) := by decide +kernel
theorem dX1_loneliest_10 : decode cX1_loneliest 10 = .ok (.if_icmp .ge 45, 3) := by decide +kernel
theorem dX1_loneliest_13 : decode cX1_loneliest 13 = .ok (.aload_n 0, 1) := by decide +kernel
theorem dX1_loneliest_14 : decode cX1_loneliest 14 = .ok (.getfield 28, 3) := by decide +kernel
theorem dX1_loneliest_17 : decode cX1_loneliest 17 = .ok (.iload_n 3, 1) := by decide +kernel
theorem dX1_loneliest_18 : decode cX1_loneliest 18 = .ok (.invokestatic 39, 3) := by decide +kernel
theorem dX1_loneliest_21 : decode cX1_loneliest 21 = .ok (.ifCond .ne 6, 3) := by decide +kernel
theorem dX1_loneliest_24 : decode cX1_loneliest 24 = .ok (.goto 25, 3) := by decide +kernel
theorem dX1_loneliest_27 : decode cX1_loneliest 27 = .ok (.aload_n 0, 1) := by decide +kernel
theorem dX1_loneliest_28 : decode cX1_loneliest 28 = .ok (.getfield 9, 3) := by decide +kernel
theorem dX1_loneliest_31 : decode cX1_loneliest 31 = .ok (.iload_n 3, 1) := by decide +kernel
theorem dX1_loneliest_32 : decode cX1_loneliest 32 = .ok (.iaload, 1) := by decide +kernel
theorem dX1_loneliest_33 : decode cX1_loneliest 33 = .ok (.invokestatic 43, 3) := by decide +kernel
theorem dX1_loneliest_36 : decode cX1_loneliest 36 = .ok (.istore 4, 2) := by decide +kernel
theorem dX1_loneliest_38 : decode cX1_loneliest 38 = .ok (.iload 4, 2) := by decide +kernel
theorem dX1_loneliest_40 : decode cX1_loneliest 40 = .ok (.iload_n 2, 1) := by decide +kernel
theorem dX1_loneliest_41 : decode cX1_loneliest 41 = .ok (.if_icmp .ge 8, 3) := by decide +kernel
theorem dX1_loneliest_44 : decode cX1_loneliest 44 = .ok (.iload_n 3, 1) := by decide +kernel
theorem dX1_loneliest_45 : decode cX1_loneliest 45 = .ok (.istore_n 1, 1) := by decide +kernel
theorem dX1_loneliest_46 : decode cX1_loneliest 46 = .ok (.iload 4, 2) := by decide +kernel
theorem dX1_loneliest_48 : decode cX1_loneliest 48 = .ok (.istore_n 2, 1) := by decide +kernel
theorem dX1_loneliest_49 : decode cX1_loneliest 49 = .ok (.iinc 3 1, 3) := by decide +kernel
theorem dX1_loneliest_52 : decode cX1_loneliest 52 = .ok (.goto (-45), 3) := by decide +kernel
theorem dX1_loneliest_55 : decode cX1_loneliest 55 = .ok (.iload_n 1, 1) := by decide +kernel
theorem dX1_loneliest_56 : decode cX1_loneliest 56 = .ok (.ireturn, 1) := by decide +kernel
theorem dX1_harmless_0 : decode cX1_harmless 0 = .ok (.iconst 0, 1) := by decide +kernel
theorem dX1_harmless_1 : decode cX1_harmless 1 = .ok (.istore_n 2, 1) := by decide +kernel
theorem dX1_harmless_2 : decode cX1_harmless 2 = .ok (.iload_n 2, 1) := by decide +kernel
theorem dX1_harmless_3 : decode cX1_harmless 3 = .ok (.bipush 14, 2) := by decide +kernel
theorem dX1_harmless_5 : decode cX1_harmless 5 = .ok (.if_icmp .ge 48, 3) := by decide +kernel
theorem dX1_harmless_8 : decode cX1_harmless 8 = .ok (.aload_n 0, 1) := by decide +kernel
theorem dX1_harmless_9 : decode cX1_harmless 9 = .ok (.getfield 28, 3) := by decide +kernel
theorem dX1_harmless_12 : decode cX1_harmless 12 = .ok (.iload_n 2, 1) := by decide +kernel
theorem dX1_harmless_13 : decode cX1_harmless 13 = .ok (.invokestatic 39, 3) := by decide +kernel
theorem dX1_harmless_16 : decode cX1_harmless 16 = .ok (.ifCond .eq 31, 3) := by decide +kernel
theorem dX1_harmless_19 : decode cX1_harmless 19 = .ok (.aload_n 0, 1) := by decide +kernel
theorem dX1_harmless_20 : decode cX1_harmless 20 = .ok (.getfield 9, 3) := by decide +kernel
theorem dX1_harmless_23 : decode cX1_harmless 23 = .ok (.iload_n 2, 1) := by decide +kernel
theorem dX1_harmless_24 : decode cX1_harmless 24 = .ok (.iaload, 1) := by decide +kernel
theorem dX1_harmless_25 : decode cX1_harmless 25 = .ok (.invokestatic 43, 3) := by decide +kernel
theorem dX1_harmless_28 : decode cX1_harmless 28 = .ok (.iload_n 1, 1) := by decide +kernel
theorem dX1_harmless_29 : decode cX1_harmless 29 = .ok (.if_icmp .gt 18, 3) := by decide +kernel
theorem dX1_harmless_32 : decode cX1_harmless 32 = .ok (.aload_n 0, 1) := by decide +kernel
theorem dX1_harmless_33 : decode cX1_harmless 33 = .ok (.aload_n 0, 1) := by decide +kernel
theorem dX1_harmless_34 : decode cX1_harmless 34 = .ok (.getfield 9, 3) := by decide +kernel
theorem dX1_harmless_37 : decode cX1_harmless 37 = .ok (.iload_n 2, 1) := by decide +kernel
theorem dX1_harmless_38 : decode cX1_harmless 38 = .ok (.iaload, 1) := by decide +kernel
theorem dX1_harmless_39 : decode cX1_harmless 39 = .ok (.invokevirtual 49, 3) := by decide +kernel
theorem dX1_harmless_42 : decode cX1_harmless 42 = .ok (.ifCond .eq 5, 3) := by decide +kernel
theorem dX1_harmless_45 : decode cX1_harmless 45 = .ok (.iload_n 2, 1) := by decide +kernel
theorem dX1_harmless_46 : decode cX1_harmless 46 = .ok (.ireturn, 1) := by decide +kernel
theorem dX1_harmless_47 : decode cX1_harmless 47 = .ok (.iinc 2 1, 3) := by decide +kernel
theorem dX1_harmless_50 : decode cX1_harmless 50 = .ok (.goto (-48), 3) := by decide +kernel
theorem dX1_harmless_53 : decode cX1_harmless 53 = .ok (.iconst (-1), 1) := by decide +kernel
theorem dX1_harmless_54 : decode cX1_harmless 54 = .ok (.ireturn, 1) := by decide +kernel
theorem dX1_isNearlyJoined_0 : decode cX1_isNearlyJoined 0 = .ok (.iconst 0, 1) := by decide +kernel
theorem dX1_isNearlyJoined_1 : decode cX1_isNearlyJoined 1 = .ok (.istore_n 2, 1) := by decide +kernel
theorem dX1_isNearlyJoined_2 : decode cX1_isNearlyJoined 2 = .ok (.iconst 0, 1) := by decide +kernel
theorem dX1_isNearlyJoined_3 : decode cX1_isNearlyJoined 3 = .ok (.istore_n 3, 1) := by decide +kernel
theorem dX1_isNearlyJoined_4 : decode cX1_isNearlyJoined 4 = .ok (.iconst 0, 1) := by decide +kernel
theorem dX1_isNearlyJoined_5 : decode cX1_isNearlyJoined 5 = .ok (.istore 4, 2) := by decide +kernel
theorem dX1_isNearlyJoined_7 : decode cX1_isNearlyJoined 7 = .ok (.iload 4, 2) := by decide +kernel
theorem dX1_isNearlyJoined_9 : decode cX1_isNearlyJoined 9 = .ok (.bipush 14, 2) := by decide +kernel
theorem dX1_isNearlyJoined_11 : decode cX1_isNearlyJoined 11 = .ok (.if_icmp .ge 56, 3) := by decide +kernel
theorem dX1_isNearlyJoined_14 : decode cX1_isNearlyJoined 14 = .ok (.iload_n 1, 1) := by decide +kernel
theorem dX1_isNearlyJoined_15 : decode cX1_isNearlyJoined 15 = .ok (.iload 4, 2) := by decide +kernel
theorem dX1_isNearlyJoined_17 : decode cX1_isNearlyJoined 17 = .ok (.invokestatic 39, 3) := by decide +kernel
theorem dX1_isNearlyJoined_20 : decode cX1_isNearlyJoined 20 = .ok (.ifCond .ne 6, 3) := by decide +kernel
theorem dX1_isNearlyJoined_23 : decode cX1_isNearlyJoined 23 = .ok (.goto 38, 3) := by decide +kernel
theorem dX1_isNearlyJoined_26 : decode cX1_isNearlyJoined 26 = .ok (.iload_n 1, 1) := by decide +kernel
theorem dX1_isNearlyJoined_27 : decode cX1_isNearlyJoined 27 = .ok (.aload_n 0, 1) := by decide +kernel
theorem dX1_isNearlyJoined_28 : decode cX1_isNearlyJoined 28 = .ok (.getfield 9, 3) := by decide +kernel
theorem dX1_isNearlyJoined_31 : decode cX1_isNearlyJoined 31 = .ok (.iload 4, 2) := by decide +kernel
theorem dX1_isNearlyJoined_33 : decode cX1_isNearlyJoined 33 = .ok (.iaload, 1) := by decide +kernel
theorem dX1_isNearlyJoined_34 : decode cX1_isNearlyJoined 34 = .ok (.iconst (-1), 1) := by decide +kernel
theorem dX1_isNearlyJoined_35 : decode cX1_isNearlyJoined 35 = .ok (.ixor, 1) := by decide +kernel
theorem dX1_isNearlyJoined_36 : decode cX1_isNearlyJoined 36 = .ok (.iand, 1) := by decide +kernel
theorem dX1_isNearlyJoined_37 : decode cX1_isNearlyJoined 37 = .ok (.iconst 1, 1) := by decide +kernel
theorem dX1_isNearlyJoined_38 : decode cX1_isNearlyJoined 38 = .ok (.iload 4, 2) := by decide +kernel
theorem dX1_isNearlyJoined_40 : decode cX1_isNearlyJoined 40 = .ok (.ishl, 1) := by decide +kernel
theorem dX1_isNearlyJoined_41 : decode cX1_isNearlyJoined 41 = .ok (.iconst (-1), 1) := by decide +kernel
theorem dX1_isNearlyJoined_42 : decode cX1_isNearlyJoined 42 = .ok (.ixor, 1) := by decide +kernel
theorem dX1_isNearlyJoined_43 : decode cX1_isNearlyJoined 43 = .ok (.iand, 1) := by decide +kernel
theorem dX1_isNearlyJoined_44 : decode cX1_isNearlyJoined 44 = .ok (.invokestatic 43, 3) := by decide +kernel
theorem dX1_isNearlyJoined_47 : decode cX1_isNearlyJoined 47 = .ok (.istore 5, 2) := by decide +kernel
theorem dX1_isNearlyJoined_49 : decode cX1_isNearlyJoined 49 = .ok (.iload_n 2, 1) := by decide +kernel
theorem dX1_isNearlyJoined_50 : decode cX1_isNearlyJoined 50 = .ok (.iload 5, 2) := by decide +kernel
theorem dX1_isNearlyJoined_52 : decode cX1_isNearlyJoined 52 = .ok (.iadd, 1) := by decide +kernel
theorem dX1_isNearlyJoined_53 : decode cX1_isNearlyJoined 53 = .ok (.istore_n 2, 1) := by decide +kernel
theorem dX1_isNearlyJoined_54 : decode cX1_isNearlyJoined 54 = .ok (.iload_n 3, 1) := by decide +kernel
theorem dX1_isNearlyJoined_55 : decode cX1_isNearlyJoined 55 = .ok (.iload 5, 2) := by decide +kernel
theorem dX1_isNearlyJoined_57 : decode cX1_isNearlyJoined 57 = .ok (.invokestatic 53, 3) := by decide +kernel
theorem dX1_isNearlyJoined_60 : decode cX1_isNearlyJoined 60 = .ok (.istore_n 3, 1) := by decide +kernel
theorem dX1_isNearlyJoined_61 : decode cX1_isNearlyJoined 61 = .ok (.iinc 4 1, 3) := by decide +kernel
theorem dX1_isNearlyJoined_64 : decode cX1_isNearlyJoined 64 = .ok (.goto (-57), 3) := by decide +kernel
theorem dX1_isNearlyJoined_67 : decode cX1_isNearlyJoined 67 = .ok (.iload_n 2, 1) := by decide +kernel
theorem dX1_isNearlyJoined_68 : decode cX1_isNearlyJoined 68 = .ok (.iconst 2, 1) := by decide +kernel
theorem dX1_isNearlyJoined_69 : decode cX1_isNearlyJoined 69 = .ok (.iload_n 3, 1) := by decide +kernel
theorem dX1_isNearlyJoined_70 : decode cX1_isNearlyJoined 70 = .ok (.imul, 1) := by decide +kernel
theorem dX1_isNearlyJoined_71 : decode cX1_isNearlyJoined 71 = .ok (.if_icmp .ne 7, 3) := by decide +kernel
theorem dX1_isNearlyJoined_74 : decode cX1_isNearlyJoined 74 = .ok (.iconst 1, 1) := by decide +kernel
theorem dX1_isNearlyJoined_75 : decode cX1_isNearlyJoined 75 = .ok (.goto 4, 3) := by decide +kernel
theorem dX1_isNearlyJoined_78 : decode cX1_isNearlyJoined 78 = .ok (.iconst 0, 1) := by decide +kernel
theorem dX1_isNearlyJoined_79 : decode cX1_isNearlyJoined 79 = .ok (.ireturn, 1) := by decide +kernel
def L_X1_takeAway_9 (a1 : Int32)  : Nat → Int32 → Int32 → Int32 → (Nat → Int32) → Option (Int32 × (Nat → Int32))
  | 0, _, _, _, _ => none
  | n + 1, x2, x3, t_left, t_near =>
    if (14 : Int32) ≤ x3 then
      stI t_near 14 a1 (0 : Int32) fun t_near_4 =>
      bnd (t_left &&& (((1 : Int32) <<< (a1 &&& 31)) ^^^ (-1 : Int32))) fun t_left_5 =>
      some (t_left_5, t_near_4)
    else
      cal (f_X8_hasBit x2 x3) fun u6 =>
      if u6 = 0 then
        bnd (x3 + (1 : Int32)) fun x3_7 =>
        L_X1_takeAway_9 a1 n x2 x3_7 t_left t_near
      else
        ldA t_near 14 x3 fun v8 =>
        stI t_near 14 x3 (v8 &&& (((1 : Int32) <<< (a1 &&& 31)) ^^^ (-1 : Int32))) fun t_near_9 =>
        bnd (x3 + (1 : Int32)) fun x3_10 =>
        L_X1_takeAway_9 a1 n x2 x3_10 t_left t_near_9

set_option maxRecDepth 100000 in
set_option maxHeartbeats 1000000 in
theorem w_X1_takeAway_9 (cA : Nat → ClassId) (q_t : Nat) (t_newEnds : Int32) (q_t_near : Nat) (a1 : Int32) {X : XT}  (C : Cx X cX1_takeAway RX1 none cA 1 21 4) (r : Int32 × (Nat → Int32)) (F : Fx X (sB (none) [oB q_t 1 [.ref q_t_near, .int r.1, .int t_newEnds], aI cA q_t_near 14 r.2]) 0 0)  : ∀ (n : Nat) (x2 : Int32) (x3 : Int32) (t_left : Int32) (t_near : Nat → Int32), L_X1_takeAway_9 a1 n x2 x3 t_left t_near = some r → Go X 4 0 0 9 [oB q_t 1 [.ref q_t_near, .int t_left, .int t_newEnds], aI cA q_t_near 14 t_near] [(0, .ref q_t), (1, .int a1), (2, .int x2), (3, .int x3)] [] := by
  intro n
  induction n with
  | zero => intro x2 x3 t_left t_near hf; exact no_some hf
  | succ n ih =>
    intro x2 x3 t_left t_near hf
    rw [L_X1_takeAway_9] at hf
    refine g_iload_n C 9 3 dX1_takeAway_9 rfl rfl ?_
    refine g_bipush C 10 (14 : Int32) dX1_takeAway_10 (by decide) ?_
    refine g_icmp_ge C 12 43 dX1_takeAway_12 (by decide) hf (fun hf => ?_) (fun hf => ?_)
    · refine g_aload_n C 43 0 dX1_takeAway_43 rfl rfl ?_
      refine g_get C 44 0 0 dX1_takeAway_44 inX1 rfl rfl (by decide) kw_8 rfl ?_
      refine g_iload_n C 47 1 dX1_takeAway_47 rfl rfl ?_
      refine g_iconst C 48 (0 : Int32) dX1_takeAway_48 (by decide) ?_
      refine g_iast C 49 1 (fun z => [oB q_t 1 [.ref q_t_near, .int t_left, .int t_newEnds], aI cA q_t_near 14 z]) dX1_takeAway_49 rfl (fun _ => rfl) hf (fun t_near_4 hf => ?_)
      refine g_aload_n C 50 0 dX1_takeAway_50 rfl rfl ?_
      refine g_dup C 51 dX1_takeAway_51 rfl ?_
      refine g_get C 52 0 1 dX1_takeAway_52 inX1 rfl rfl (by decide) kw_9 rfl ?_
      refine g_iconst C 55 (1 : Int32) dX1_takeAway_55 (by decide) ?_
      refine g_iload_n C 56 1 dX1_takeAway_56 rfl rfl ?_
      refine g_ishl C 57 dX1_takeAway_57 ?_
      refine g_iconst C 58 (-1 : Int32) dX1_takeAway_58 (by decide) ?_
      refine g_ixor C 59 dX1_takeAway_59 ?_
      refine g_iand C 60 dX1_takeAway_60 ?_
      refine g_puti C 61 0 1 tyX1 (fun z => [oB q_t 1 [.ref q_t_near, .int z, .int t_newEnds], aI cA q_t_near 14 t_near_4]) dX1_takeAway_61 inX1 tyX1_ok nmX1 rfl rfl (by decide) kw_9 rfl rfl (Nat.le_of_ble_eq_true rfl) (fun _ => rfl) hf (fun t_left_5 hf => ?_)
      cases hf
      exact g_vret C 64 dX1_takeAway_64 F ⟨rfl, rfl⟩
    · refine g_iload_n C 15 2 dX1_takeAway_15 rfl rfl ?_
      refine g_iload_n C 16 3 dX1_takeAway_16 rfl rfl ?_
      obtain ⟨u6, hu6, hf⟩ := cal_some hf
      refine g_callSN C 17 [] (rest := []) dX1_takeAway_17 (c_X8_hasBit (x_l X) cA x2 x3 u6 hu6) (List.mem_of_getElem? (i := 9) rfl) kw_5 kw_6 kw_7 ok_X8_hasBit ⟨Nat.le_of_ble_eq_true rfl, Nat.le_of_ble_eq_true rfl⟩ ⟨Nat.zero_le _, Nat.zero_le _⟩ ⟨rfl, rfl⟩ rfl rfl rfl (Nat.le_of_ble_eq_true rfl) rfl (ws' := [oB q_t 1 [.ref q_t_near, .int t_left, .int t_newEnds], aI cA q_t_near 14 t_near]) (st' := [.int u6]) (N0 := 2) rfl [none, none] (by decide) rfl rfl ?_
      refine g_if_eq C 20 37 dX1_takeAway_20 (by decide) hf (fun hf => ?_) (fun hf => ?_)
      · refine g_iinc C 37 3 (v := x3 + (1 : Int32)) (fun z => [(3, .int z), (0, .ref q_t), (1, .int a1), (2, .int x2)]) dX1_takeAway_37 rfl rfl (by decide) (fun _ => rfl) hf (fun x3_7 hf => ?_)
        refine g_goto C 40 9 dX1_takeAway_40 (by decide) ?_
        refine g_lv [1, 2, 3, 0] rfl ?_
        exact ih x2 x3_7 t_left t_near hf
      · refine g_aload_n C 23 0 dX1_takeAway_23 rfl rfl ?_
        refine g_get C 24 0 0 dX1_takeAway_24 inX1 rfl rfl (by decide) kw_8 rfl ?_
        refine g_iload_n C 27 3 dX1_takeAway_27 rfl rfl ?_
        refine g_dup2 C 28 dX1_takeAway_28 rfl rfl ?_
        refine g_iald C 29 1 dX1_takeAway_29 rfl hf (fun v8 hf => ?_)
        refine g_iconst C 30 (1 : Int32) dX1_takeAway_30 (by decide) ?_
        refine g_iload_n C 31 1 dX1_takeAway_31 rfl rfl ?_
        refine g_ishl C 32 dX1_takeAway_32 ?_
        refine g_iconst C 33 (-1 : Int32) dX1_takeAway_33 (by decide) ?_
        refine g_ixor C 34 dX1_takeAway_34 ?_
        refine g_iand C 35 dX1_takeAway_35 ?_
        refine g_iast C 36 1 (fun z => [oB q_t 1 [.ref q_t_near, .int t_left, .int t_newEnds], aI cA q_t_near 14 z]) dX1_takeAway_36 rfl (fun _ => rfl) hf (fun t_near_9 hf => ?_)
        refine g_iinc C 37 3 (v := x3 + (1 : Int32)) (fun z => [(3, .int z), (0, .ref q_t), (1, .int a1), (2, .int x2)]) dX1_takeAway_37 rfl rfl (by decide) (fun _ => rfl) hf (fun x3_10 hf => ?_)
        refine g_goto C 40 9 dX1_takeAway_40 (by decide) ?_
        refine g_lv [1, 2, 3, 0] rfl ?_
        exact ih x2 x3_10 t_left t_near_9 hf
def f_X1_takeAway (a1 : Int32) (t_left : Int32) (t_near : Nat → Int32) : Option (Int32 × (Nat → Int32)) :=
  ldA t_near 14 a1 fun v1 =>
  bnd v1 fun x2_2 =>
  bnd (0 : Int32) fun x3_3 =>
  L_X1_takeAway_9 a1 NN x2_2 x3_3 t_left t_near

set_option maxRecDepth 100000 in
set_option maxHeartbeats 1000000 in
theorem c_X1_takeAway (l : Launch) (cA : Nat → ClassId) (q_t : Nat) (t_left : Int32) (t_newEnds : Int32) (q_t_near : Nat) (t_near : Nat → Int32)  (a1 : Int32) (r : Int32 × (Nat → Int32)) (hf : f_X1_takeAway a1 t_left t_near = some r) : MT l cA yX1_takeAway cX1_takeAway 4 none ({ frames := 1, cells := 0, slots := 0, locals := 21 } : Room) [.ref q_t, .int a1] [oB q_t 1 [.ref q_t_near, .int t_left, .int t_newEnds], aI cA q_t_near 14 t_near] (sB (none) [oB q_t 1 [.ref q_t_near, .int r.1, .int t_newEnds], aI cA q_t_near 14 r.2]) := by
  refine MT.of (by decide) (Nat.le_of_ble_eq_true rfl) ?_
  intro X hXl C F hnm hrc hrs
  subst hXl
  unfold f_X1_takeAway at hf
  have C : Cx X cX1_takeAway RX1 none cA 1 21 4 := C
  show Go X 4 0 0 0 [oB q_t 1 [.ref q_t_near, .int t_left, .int t_newEnds], aI cA q_t_near 14 t_near] [(0, .ref q_t), (1, .int a1)] []
  refine g_aload_n C 0 0 dX1_takeAway_0 rfl rfl ?_
  refine g_get C 1 0 0 dX1_takeAway_1 inX1 rfl rfl (by decide) kw_8 rfl ?_
  refine g_iload_n C 4 1 dX1_takeAway_4 rfl rfl ?_
  refine g_iald C 5 1 dX1_takeAway_5 rfl hf (fun v1 hf => ?_)
  refine g_istore_n C 6 (fun z => [(2, .int z), (0, .ref q_t), (1, .int a1)]) dX1_takeAway_6 rfl (by decide) (fun _ => rfl) hf (fun x2_2 hf => ?_)
  refine g_iconst C 7 (0 : Int32) dX1_takeAway_7 (by decide) ?_
  refine g_istore_n C 8 (fun z => [(3, .int z), (2, .int x2_2), (0, .ref q_t), (1, .int a1)]) dX1_takeAway_8 rfl (by decide) (fun _ => rfl) hf (fun x3_3 hf => ?_)
  refine g_lv [2, 3, 1, 0] rfl ?_
  exact w_X1_takeAway_9 cA q_t t_newEnds q_t_near a1 C r F NN x2_2 x3_3 t_left t_near hf

def L_X1_letGo_14 (a1 : Int32)  : Nat → Int32 → Int32 → Int32 → Int32 → (Nat → Int32) → Option (Int32 × Int32 × (Nat → Int32))
  | 0, _, _, _, _, _ => none
  | n + 1, x2, x3, t_left, t_newEnds, t_near =>
    if (14 : Int32) ≤ x3 then
      some (t_left, t_newEnds, t_near)
    else
      cal (f_X8_hasBit x2 x3) fun u5 =>
      if u5 = 0 then
        bnd (x3 + (1 : Int32)) fun x3_13 =>
        L_X1_letGo_14 a1 n x2 x3_13 t_left t_newEnds t_near
      else
        ldA t_near 14 x3 fun v6 =>
        bnd ((x2 &&& (v6 ^^^ (-1 : Int32))) &&& (((1 : Int32) <<< (x3 &&& 31)) ^^^ (-1 : Int32))) fun x4_7 =>
        cal (f_J6_bitCount_0f7a4 x4_7) fun u8 =>
        bnd (t_newEnds + u8) fun t_newEnds_9 =>
        ldA t_near 14 x3 fun v10 =>
        stI t_near 14 x3 (v10 ||| x4_7) fun t_near_11 =>
        bnd (x3 + (1 : Int32)) fun x3_12 =>
        L_X1_letGo_14 a1 n x2 x3_12 t_left t_newEnds_9 t_near_11

set_option maxRecDepth 100000 in
set_option maxHeartbeats 1000000 in
theorem w_X1_letGo_14 (cA : Nat → ClassId) (q_t : Nat) (q_t_near : Nat) (a1 : Int32) {X : XT}  (C : Cx X cX1_letGo RX1 none cA 2 44 5) (r : Int32 × Int32 × (Nat → Int32)) (F : Fx X (sB (none) [oB q_t 1 [.ref q_t_near, .int r.1, .int r.2.1], aI cA q_t_near 14 r.2.2]) 0 0)  : ∀ (n : Nat) (x2 : Int32) (x3 : Int32) (t_left : Int32) (t_newEnds : Int32) (t_near : Nat → Int32), L_X1_letGo_14 a1 n x2 x3 t_left t_newEnds t_near = some r → Go X 5 0 0 14 [oB q_t 1 [.ref q_t_near, .int t_left, .int t_newEnds], aI cA q_t_near 14 t_near] [(0, .ref q_t), (2, .int x2), (3, .int x3)] [] := by
  intro n
  induction n with
  | zero => intro x2 x3 t_left t_newEnds t_near hf; exact no_some hf
  | succ n ih =>
    intro x2 x3 t_left t_newEnds t_near hf
    rw [L_X1_letGo_14] at hf
    refine g_iload_n C 14 2 dX1_letGo_14 rfl rfl ?_
    refine g_bipush C 15 (14 : Int32) dX1_letGo_15 (by decide) ?_
    refine g_icmp_ge C 17 80 dX1_letGo_17 (by decide) hf (fun hf => ?_) (fun hf => ?_)
    · cases hf
      exact g_vret C 80 dX1_letGo_80 F ⟨rfl, rfl⟩
    · refine g_iload_n C 20 1 dX1_letGo_20 rfl rfl ?_
      refine g_iload_n C 21 2 dX1_letGo_21 rfl rfl ?_
      obtain ⟨u5, hu5, hf⟩ := cal_some hf
      refine g_callSN C 22 [] (rest := []) dX1_letGo_22 (c_X8_hasBit (x_l X) cA x2 x3 u5 hu5) (List.mem_of_getElem? (i := 9) rfl) kw_5 kw_6 kw_7 ok_X8_hasBit ⟨Nat.le_of_ble_eq_true rfl, Nat.le_of_ble_eq_true rfl⟩ ⟨Nat.zero_le _, Nat.zero_le _⟩ ⟨rfl, rfl⟩ rfl rfl rfl (Nat.le_of_ble_eq_true rfl) rfl (ws' := [oB q_t 1 [.ref q_t_near, .int t_left, .int t_newEnds], aI cA q_t_near 14 t_near]) (st' := [.int u5]) (N0 := 2) rfl [none, none] (by decide) rfl rfl ?_
      refine g_if_ne C 25 31 dX1_letGo_25 (by decide) hf (fun hf => ?_) (fun hf => ?_)
      · refine g_iload_n C 31 1 dX1_letGo_31 rfl rfl ?_
        refine g_aload_n C 32 0 dX1_letGo_32 rfl rfl ?_
        refine g_get C 33 0 0 dX1_letGo_33 inX1 rfl rfl (by decide) kw_8 rfl ?_
        refine g_iload_n C 36 2 dX1_letGo_36 rfl rfl ?_
        refine g_iald C 37 1 dX1_letGo_37 rfl hf (fun v6 hf => ?_)
        refine g_iconst C 38 (-1 : Int32) dX1_letGo_38 (by decide) ?_
        refine g_ixor C 39 dX1_letGo_39 ?_
        refine g_iand C 40 dX1_letGo_40 ?_
        refine g_iconst C 41 (1 : Int32) dX1_letGo_41 (by decide) ?_
        refine g_iload_n C 42 2 dX1_letGo_42 rfl rfl ?_
        refine g_ishl C 43 dX1_letGo_43 ?_
        refine g_iconst C 44 (-1 : Int32) dX1_letGo_44 (by decide) ?_
        refine g_ixor C 45 dX1_letGo_45 ?_
        refine g_iand C 46 dX1_letGo_46 ?_
        refine g_istore C 47 (fun z => [(4, .int z), (0, .ref q_t), (2, .int x2), (3, .int x3)]) dX1_letGo_47 (by decide) (fun _ => rfl) hf (fun x4_7 hf => ?_)
        refine g_aload_n C 49 1 dX1_letGo_49 rfl rfl ?_
        refine g_dup C 50 dX1_letGo_50 rfl ?_
        refine g_get C 51 0 2 dX1_letGo_51 inX1 rfl rfl (by decide) kw_18 rfl ?_
        refine g_iload C 54 0 dX1_letGo_54 rfl ?_
        obtain ⟨u8, hu8, hf⟩ := cal_some hf
        refine g_callS C 56 [] (rest := [.int t_newEnds, .ref q_t]) dX1_letGo_56 (c_J6_bitCount_0f7a4 (x_l X) cA x4_7 u8 hu8) kw_19 kw_20 kw_21 kw_22 ok_J6_bitCount_0f7a4 ⟨Nat.le_of_ble_eq_true rfl, Nat.le_of_ble_eq_true rfl⟩ ⟨Nat.zero_le _, Nat.zero_le _⟩ ⟨rfl, rfl⟩ rfl rfl rfl (Nat.le_of_ble_eq_true rfl) rfl (ws' := [oB q_t 1 [.ref q_t_near, .int t_left, .int t_newEnds], aI cA q_t_near 14 t_near]) (st' := [.int u8, .int t_newEnds, .ref q_t]) (N0 := 2) rfl [none, none] (by decide) rfl rfl ?_
        refine g_iadd C 59 dX1_letGo_59 ?_
        refine g_puti C 60 0 2 tyX1 (fun z => [oB q_t 1 [.ref q_t_near, .int t_left, .int z], aI cA q_t_near 14 t_near]) dX1_letGo_60 inX1 tyX1_ok nmX1 rfl rfl (by decide) kw_18 rfl rfl (Nat.le_of_ble_eq_true rfl) (fun _ => rfl) hf (fun t_newEnds_9 hf => ?_)
        refine g_aload_n C 63 1 dX1_letGo_63 rfl rfl ?_
        refine g_get C 64 0 0 dX1_letGo_64 inX1 rfl rfl (by decide) kw_8 rfl ?_
        refine g_iload_n C 67 3 dX1_letGo_67 rfl rfl ?_
        refine g_dup2 C 68 dX1_letGo_68 rfl rfl ?_
        refine g_iald C 69 1 dX1_letGo_69 rfl hf (fun v10 hf => ?_)
        refine g_iload C 70 0 dX1_letGo_70 rfl ?_
        refine g_ior C 72 dX1_letGo_72 ?_
        refine g_iast C 73 1 (fun z => [oB q_t 1 [.ref q_t_near, .int t_left, .int t_newEnds_9], aI cA q_t_near 14 z]) dX1_letGo_73 rfl (fun _ => rfl) hf (fun t_near_11 hf => ?_)
        refine g_iinc C 74 3 (v := x3 + (1 : Int32)) (fun z => [(3, .int z), (4, .int x4_7), (0, .ref q_t), (2, .int x2)]) dX1_letGo_74 rfl rfl (by decide) (fun _ => rfl) hf (fun x3_12 hf => ?_)
        refine g_goto C 77 14 dX1_letGo_77 (by decide) ?_
        refine g_lv [2, 3, 0] rfl ?_
        exact ih x2 x3_12 t_left t_newEnds_9 t_near_11 hf
      · refine g_goto C 28 74 dX1_letGo_28 (by decide) ?_
        refine g_iinc C 74 2 (v := x3 + (1 : Int32)) (fun z => [(3, .int z), (0, .ref q_t), (2, .int x2)]) dX1_letGo_74 rfl rfl (by decide) (fun _ => rfl) hf (fun x3_13 hf => ?_)
        refine g_goto C 77 14 dX1_letGo_77 (by decide) ?_
        refine g_lv [1, 2, 0] rfl ?_
        exact ih x2 x3_13 t_left t_newEnds t_near hf
def f_X1_letGo (a1 : Int32) (t_left : Int32) (t_newEnds : Int32) (t_near : Nat → Int32) : Option (Int32 × Int32 × (Nat → Int32)) :=
  ldA t_near 14 a1 fun v1 =>
  bnd v1 fun x2_2 =>
  cal (f_X1_takeAway a1 t_left t_near) fun u3 =>
  bnd (0 : Int32) fun x3_4 =>
  L_X1_letGo_14 a1 NN x2_2 x3_4 u3.1 t_newEnds u3.2

set_option maxRecDepth 100000 in
set_option maxHeartbeats 1000000 in
theorem c_X1_letGo (l : Launch) (cA : Nat → ClassId) (q_t : Nat) (t_left : Int32) (t_newEnds : Int32) (q_t_near : Nat) (t_near : Nat → Int32)  (a1 : Int32) (r : Int32 × Int32 × (Nat → Int32)) (hf : f_X1_letGo a1 t_left t_newEnds t_near = some r) : MT l cA yX1_letGo cX1_letGo 5 none ({ frames := 2, cells := 0, slots := 0, locals := 44 } : Room) [.ref q_t, .int a1] [oB q_t 1 [.ref q_t_near, .int t_left, .int t_newEnds], aI cA q_t_near 14 t_near] (sB (none) [oB q_t 1 [.ref q_t_near, .int r.1, .int r.2.1], aI cA q_t_near 14 r.2.2]) := by
  refine MT.of (by decide) (Nat.le_of_ble_eq_true rfl) ?_
  intro X hXl C F hnm hrc hrs
  subst hXl
  unfold f_X1_letGo at hf
  have C : Cx X cX1_letGo RX1 none cA 2 44 5 := C
  show Go X 5 0 0 0 [oB q_t 1 [.ref q_t_near, .int t_left, .int t_newEnds], aI cA q_t_near 14 t_near] [(0, .ref q_t), (1, .int a1)] []
  refine g_aload_n C 0 0 dX1_letGo_0 rfl rfl ?_
  refine g_get C 1 0 0 dX1_letGo_1 inX1 rfl rfl (by decide) kw_8 rfl ?_
  refine g_iload_n C 4 1 dX1_letGo_4 rfl rfl ?_
  refine g_iald C 5 1 dX1_letGo_5 rfl hf (fun v1 hf => ?_)
  refine g_istore_n C 6 (fun z => [(2, .int z), (0, .ref q_t), (1, .int a1)]) dX1_letGo_6 rfl (by decide) (fun _ => rfl) hf (fun x2_2 hf => ?_)
  refine g_aload_n C 7 1 dX1_letGo_7 rfl rfl ?_
  refine g_iload_n C 8 2 dX1_letGo_8 rfl rfl ?_
  obtain ⟨u3, hu3, hf⟩ := cal_some hf
  refine g_callV1 C 9 [0, 1] 0 (rest := []) dX1_letGo_9 (c_X1_takeAway (x_l X) cA q_t t_left t_newEnds q_t_near t_near a1 u3 hu3) kw_13 kw_14 kw_15 kw_16 kw_17 ok_X1_takeAway ⟨Nat.le_of_ble_eq_true rfl, Nat.le_of_ble_eq_true rfl⟩ ⟨Nat.zero_le _, Nat.zero_le _⟩ ⟨rfl, rfl⟩ rfl rfl rfl rfl rfl (Nat.le_of_ble_eq_true rfl) rfl (ws' := [oB q_t 1 [.ref q_t_near, .int u3.1, .int t_newEnds], aI cA q_t_near 14 u3.2]) (st' := []) (N0 := 2) rfl [some 0, some 1] (by decide) rfl rfl ?_
  refine g_iconst C 12 (0 : Int32) dX1_letGo_12 (by decide) ?_
  refine g_istore_n C 13 (fun z => [(3, .int z), (2, .int x2_2), (0, .ref q_t), (1, .int a1)]) dX1_letGo_13 rfl (by decide) (fun _ => rfl) hf (fun x3_4 hf => ?_)
  refine g_lv [2, 1, 0] rfl ?_
  exact w_X1_letGo_14 cA q_t q_t_near a1 C r F NN x2_2 x3_4 u3.1 t_newEnds u3.2 hf

def f_X1_start (t_left : Int32) (t_newEnds : Int32) (t_near : Nat → Int32) (u_size : Int32) (u_near : Nat → Int32) : Option (Int32 × Int32 × (Nat → Int32)) :=
  bnd (va_cpy u_near t_near 0 0 14) fun t_near_1 =>
  cal (f_X4_everyKnot u_size) fun u2 =>
  bnd u2 fun t_left_3 =>
  bnd (0 : Int32) fun t_newEnds_4 =>
  some (t_left_3, t_newEnds_4, t_near_1)

set_option maxRecDepth 100000 in
set_option maxHeartbeats 1000000 in
theorem c_X1_start (l : Launch) (cA : Nat → ClassId) (q_t : Nat) (t_left : Int32) (t_newEnds : Int32) (q_t_near : Nat) (t_near : Nat → Int32) (q_u : Nat) (q_u_loads : Nat) (q_u_ties : Nat) (u_size : Int32) (u_edges : Int32) (q_u_near : Nat) (u_near : Nat → Int32)   (r : Int32 × Int32 × (Nat → Int32)) (hf : f_X1_start t_left t_newEnds t_near u_size u_near = some r) : MT l cA yX1_start cX1_start 2 none ({ frames := 1, cells := 0, slots := 0, locals := 60 } : Room) [.ref q_t, .ref q_u] [oB q_t 1 [.ref q_t_near, .int t_left, .int t_newEnds], aI cA q_t_near 14 t_near, oB q_u 4 [.ref q_u_loads, .ref q_u_near, .ref q_u_ties, .int u_size, .int u_edges], aI cA q_u_near 14 u_near] (sB (none) [oB q_t 1 [.ref q_t_near, .int r.1, .int r.2.1], aI cA q_t_near 14 r.2.2, oB q_u 4 [.ref q_u_loads, .ref q_u_near, .ref q_u_ties, .int u_size, .int u_edges], aI cA q_u_near 14 u_near]) := by
  refine MT.of (by decide) (Nat.le_of_ble_eq_true rfl) ?_
  intro X hXl C F hnm hrc hrs
  subst hXl
  unfold f_X1_start at hf
  have C : Cx X cX1_start RX1 none cA 1 60 2 := C
  show Go X 2 0 0 0 [oB q_t 1 [.ref q_t_near, .int t_left, .int t_newEnds], aI cA q_t_near 14 t_near, oB q_u 4 [.ref q_u_loads, .ref q_u_near, .ref q_u_ties, .int u_size, .int u_edges], aI cA q_u_near 14 u_near] [(0, .ref q_t), (1, .ref q_u)] []
  refine g_aload_n C 0 1 dX1_start_0 rfl rfl ?_
  refine g_get C 1 2 1 dX1_start_1 inX4 rfl rfl (by decide) kw_77 rfl ?_
  refine g_iconst C 4 (0 : Int32) dX1_start_4 (by decide) ?_
  refine g_aload_n C 5 0 dX1_start_5 rfl rfl ?_
  refine g_get C 6 0 0 dX1_start_6 inX1 rfl rfl (by decide) kw_8 rfl ?_
  refine g_iconst C 9 (0 : Int32) dX1_start_9 (by decide) ?_
  refine g_bipush C 10 (14 : Int32) dX1_start_10 (by decide) ?_
  refine g_copy C 12 3 1 (fun z => [oB q_t 1 [.ref q_t_near, .int t_left, .int t_newEnds], aI cA q_t_near 14 z, oB q_u 4 [.ref q_u_loads, .ref q_u_near, .ref q_u_ties, .int u_size, .int u_edges], aI cA q_u_near 14 u_near]) dX1_start_12 kw_78 kw_79 kw_80 kw_81 rfl rfl (by decide) (by decide) (Nat.le_of_ble_eq_true rfl) (fun _ => rfl) hf (fun t_near_1 hf => ?_)
  refine g_aload_n C 15 0 dX1_start_15 rfl rfl ?_
  refine g_aload_n C 16 1 dX1_start_16 rfl rfl ?_
  obtain ⟨u2, hu2, hf⟩ := cal_some hf
  refine g_callV1 C 17 [2] 2 (rest := [.ref q_t]) dX1_start_17 (c_X4_everyKnot (x_l X) cA q_u q_u_loads q_u_near q_u_ties u_size u_edges u2 hu2) kw_82 kw_83 kw_84 kw_49 kw_85 ok_X4_everyKnot ⟨Nat.le_of_ble_eq_true rfl, Nat.le_of_ble_eq_true rfl⟩ ⟨Nat.zero_le _, Nat.zero_le _⟩ ⟨rfl, rfl⟩ rfl rfl rfl rfl rfl (Nat.le_of_ble_eq_true rfl) rfl (ws' := [oB q_t 1 [.ref q_t_near, .int t_left, .int t_newEnds], aI cA q_t_near 14 t_near_1, oB q_u 4 [.ref q_u_loads, .ref q_u_near, .ref q_u_ties, .int u_size, .int u_edges], aI cA q_u_near 14 u_near]) (st' := [.int u2, .ref q_t]) (N0 := 4) rfl [none, none, some 0, none] (by decide) rfl rfl ?_
  refine g_puti C 20 0 1 tyX1 (fun z => [oB q_t 1 [.ref q_t_near, .int z, .int t_newEnds], aI cA q_t_near 14 t_near_1, oB q_u 4 [.ref q_u_loads, .ref q_u_near, .ref q_u_ties, .int u_size, .int u_edges], aI cA q_u_near 14 u_near]) dX1_start_20 inX1 tyX1_ok nmX1 rfl rfl (by decide) kw_9 rfl rfl (Nat.le_of_ble_eq_true rfl) (fun _ => rfl) hf (fun t_left_3 hf => ?_)
  refine g_aload_n C 23 0 dX1_start_23 rfl rfl ?_
  refine g_iconst C 24 (0 : Int32) dX1_start_24 (by decide) ?_
  refine g_puti C 25 0 2 tyX1 (fun z => [oB q_t 1 [.ref q_t_near, .int t_left_3, .int z], aI cA q_t_near 14 t_near_1, oB q_u 4 [.ref q_u_loads, .ref q_u_near, .ref q_u_ties, .int u_size, .int u_edges], aI cA q_u_near 14 u_near]) dX1_start_25 inX1 tyX1_ok nmX1 rfl rfl (by decide) kw_18 rfl rfl (Nat.le_of_ble_eq_true rfl) (fun _ => rfl) hf (fun t_newEnds_4 hf => ?_)
  cases hf
  exact g_vret C 28 dX1_start_28 F ⟨rfl, rfl⟩

def f_X1_startAs (t_left : Int32) (t_newEnds : Int32) (t_near : Nat → Int32) (u_left : Int32) (u_newEnds : Int32) (u_near : Nat → Int32) : Option (Int32 × Int32 × (Nat → Int32)) :=
  bnd (va_cpy u_near t_near 0 0 14) fun t_near_1 =>
  bnd u_left fun t_left_2 =>
  bnd u_newEnds fun t_newEnds_3 =>
  some (t_left_2, t_newEnds_3, t_near_1)

set_option maxRecDepth 100000 in
set_option maxHeartbeats 1000000 in
theorem c_X1_startAs (l : Launch) (cA : Nat → ClassId) (q_t : Nat) (t_left : Int32) (t_newEnds : Int32) (q_t_near : Nat) (t_near : Nat → Int32) (q_u : Nat) (u_left : Int32) (u_newEnds : Int32) (q_u_near : Nat) (u_near : Nat → Int32)   (r : Int32 × Int32 × (Nat → Int32)) (hf : f_X1_startAs t_left t_newEnds t_near u_left u_newEnds u_near = some r) : MT l cA yX1_startAs cX1_startAs 2 none ({ frames := 1, cells := 0, slots := 0, locals := 60 } : Room) [.ref q_t, .ref q_u] [oB q_t 1 [.ref q_t_near, .int t_left, .int t_newEnds], aI cA q_t_near 14 t_near, oB q_u 1 [.ref q_u_near, .int u_left, .int u_newEnds], aI cA q_u_near 14 u_near] (sB (none) [oB q_t 1 [.ref q_t_near, .int r.1, .int r.2.1], aI cA q_t_near 14 r.2.2, oB q_u 1 [.ref q_u_near, .int u_left, .int u_newEnds], aI cA q_u_near 14 u_near]) := by
  refine MT.of (by decide) (Nat.le_of_ble_eq_true rfl) ?_
  intro X hXl C F hnm hrc hrs
  subst hXl
  unfold f_X1_startAs at hf
  have C : Cx X cX1_startAs RX1 none cA 1 60 2 := C
  show Go X 2 0 0 0 [oB q_t 1 [.ref q_t_near, .int t_left, .int t_newEnds], aI cA q_t_near 14 t_near, oB q_u 1 [.ref q_u_near, .int u_left, .int u_newEnds], aI cA q_u_near 14 u_near] [(0, .ref q_t), (1, .ref q_u)] []
  refine g_aload_n C 0 1 dX1_startAs_0 rfl rfl ?_
  refine g_get C 1 2 0 dX1_startAs_1 inX1 rfl rfl (by decide) kw_8 rfl ?_
  refine g_iconst C 4 (0 : Int32) dX1_startAs_4 (by decide) ?_
  refine g_aload_n C 5 0 dX1_startAs_5 rfl rfl ?_
  refine g_get C 6 0 0 dX1_startAs_6 inX1 rfl rfl (by decide) kw_8 rfl ?_
  refine g_iconst C 9 (0 : Int32) dX1_startAs_9 (by decide) ?_
  refine g_bipush C 10 (14 : Int32) dX1_startAs_10 (by decide) ?_
  refine g_copy C 12 3 1 (fun z => [oB q_t 1 [.ref q_t_near, .int t_left, .int t_newEnds], aI cA q_t_near 14 z, oB q_u 1 [.ref q_u_near, .int u_left, .int u_newEnds], aI cA q_u_near 14 u_near]) dX1_startAs_12 kw_78 kw_79 kw_80 kw_81 rfl rfl (by decide) (by decide) (Nat.le_of_ble_eq_true rfl) (fun _ => rfl) hf (fun t_near_1 hf => ?_)
  refine g_aload_n C 15 0 dX1_startAs_15 rfl rfl ?_
  refine g_aload_n C 16 1 dX1_startAs_16 rfl rfl ?_
  refine g_get C 17 2 1 dX1_startAs_17 inX1 rfl rfl (by decide) kw_9 rfl ?_
  refine g_puti C 20 0 1 tyX1 (fun z => [oB q_t 1 [.ref q_t_near, .int z, .int t_newEnds], aI cA q_t_near 14 t_near_1, oB q_u 1 [.ref q_u_near, .int u_left, .int u_newEnds], aI cA q_u_near 14 u_near]) dX1_startAs_20 inX1 tyX1_ok nmX1 rfl rfl (by decide) kw_9 rfl rfl (Nat.le_of_ble_eq_true rfl) (fun _ => rfl) hf (fun t_left_2 hf => ?_)
  refine g_aload_n C 23 0 dX1_startAs_23 rfl rfl ?_
  refine g_aload_n C 24 1 dX1_startAs_24 rfl rfl ?_
  refine g_get C 25 2 2 dX1_startAs_25 inX1 rfl rfl (by decide) kw_18 rfl ?_
  refine g_puti C 28 0 2 tyX1 (fun z => [oB q_t 1 [.ref q_t_near, .int t_left_2, .int z], aI cA q_t_near 14 t_near_1, oB q_u 1 [.ref q_u_near, .int u_left, .int u_newEnds], aI cA q_u_near 14 u_near]) dX1_startAs_28 inX1 tyX1_ok nmX1 rfl rfl (by decide) kw_18 rfl rfl (Nat.le_of_ble_eq_true rfl) (fun _ => rfl) hf (fun t_newEnds_3 hf => ?_)
  cases hf
  exact g_vret C 31 dX1_startAs_31 F ⟨rfl, rfl⟩

def L_X1_loneliest_7 (t_left : Int32) (t_near : Nat → Int32)  : Nat → Int32 → Int32 → Int32 → Option (Int32)
  | 0, _, _, _ => none
  | n + 1, x1, x2, x3 =>
    if (14 : Int32) ≤ x3 then
      some (x1)
    else
      cal (f_X8_hasBit t_left x3) fun u4 =>
      if u4 = 0 then
        bnd (x3 + (1 : Int32)) fun x3_12 =>
        L_X1_loneliest_7 t_left t_near n x1 x2 x3_12
      else
        ldA t_near 14 x3 fun v5 =>
        cal (f_J6_bitCount_0f7a4 v5) fun u6 =>
        bnd u6 fun x4_7 =>
        if x2 ≤ x4_7 then
          bnd (x3 + (1 : Int32)) fun x3_8 =>
          L_X1_loneliest_7 t_left t_near n x1 x2 x3_8
        else
          bnd x3 fun x1_9 =>
          bnd x4_7 fun x2_10 =>
          bnd (x3 + (1 : Int32)) fun x3_11 =>
          L_X1_loneliest_7 t_left t_near n x1_9 x2_10 x3_11

set_option maxRecDepth 100000 in
set_option maxHeartbeats 1000000 in
theorem w_X1_loneliest_7 (cA : Nat → ClassId) (q_t : Nat) (t_newEnds : Int32) (q_t_near : Nat) (t_left : Int32) (t_near : Nat → Int32) {X : XT}  (C : Cx X cX1_loneliest RX1 (some .int) cA 1 21 5) (r : Int32) (F : Fx X (sB (some (.int r)) [oB q_t 1 [.ref q_t_near, .int t_left, .int t_newEnds], aI cA q_t_near 14 t_near]) 0 0)  : ∀ (n : Nat) (x1 : Int32) (x2 : Int32) (x3 : Int32), L_X1_loneliest_7 t_left t_near n x1 x2 x3 = some r → Go X 5 0 0 7 [oB q_t 1 [.ref q_t_near, .int t_left, .int t_newEnds], aI cA q_t_near 14 t_near] [(0, .ref q_t), (1, .int x1), (2, .int x2), (3, .int x3)] [] := by
  intro n
  induction n with
  | zero => intro x1 x2 x3 hf; exact no_some hf
  | succ n ih =>
    intro x1 x2 x3 hf
    rw [L_X1_loneliest_7] at hf
    refine g_iload_n C 7 3 dX1_loneliest_7 rfl rfl ?_
    refine g_bipush C 8 (14 : Int32) dX1_loneliest_8 (by decide) ?_
    refine g_icmp_ge C 10 55 dX1_loneliest_10 (by decide) hf (fun hf => ?_) (fun hf => ?_)
    · refine g_iload_n C 55 1 dX1_loneliest_55 rfl rfl ?_
      cases hf
      exact g_iret C 56 dX1_loneliest_56 F ⟨rfl, rfl⟩
    · refine g_aload_n C 13 0 dX1_loneliest_13 rfl rfl ?_
      refine g_get C 14 0 1 dX1_loneliest_14 inX1 rfl rfl (by decide) kw_9 rfl ?_
      refine g_iload_n C 17 3 dX1_loneliest_17 rfl rfl ?_
      obtain ⟨u4, hu4, hf⟩ := cal_some hf
      refine g_callSN C 18 [] (rest := []) dX1_loneliest_18 (c_X8_hasBit (x_l X) cA t_left x3 u4 hu4) (List.mem_of_getElem? (i := 9) rfl) kw_5 kw_6 kw_7 ok_X8_hasBit ⟨Nat.le_of_ble_eq_true rfl, Nat.le_of_ble_eq_true rfl⟩ ⟨Nat.zero_le _, Nat.zero_le _⟩ ⟨rfl, rfl⟩ rfl rfl rfl (Nat.le_of_ble_eq_true rfl) rfl (ws' := [oB q_t 1 [.ref q_t_near, .int t_left, .int t_newEnds], aI cA q_t_near 14 t_near]) (st' := [.int u4]) (N0 := 2) rfl [none, none] (by decide) rfl rfl ?_
      refine g_if_ne C 21 27 dX1_loneliest_21 (by decide) hf (fun hf => ?_) (fun hf => ?_)
      · refine g_aload_n C 27 0 dX1_loneliest_27 rfl rfl ?_
        refine g_get C 28 0 0 dX1_loneliest_28 inX1 rfl rfl (by decide) kw_8 rfl ?_
        refine g_iload_n C 31 3 dX1_loneliest_31 rfl rfl ?_
        refine g_iald C 32 1 dX1_loneliest_32 rfl hf (fun v5 hf => ?_)
        obtain ⟨u6, hu6, hf⟩ := cal_some hf
        refine g_callS C 33 [] (rest := []) dX1_loneliest_33 (c_J6_bitCount_0f7a4 (x_l X) cA v5 u6 hu6) kw_19 kw_20 kw_21 kw_22 ok_J6_bitCount_0f7a4 ⟨Nat.le_of_ble_eq_true rfl, Nat.le_of_ble_eq_true rfl⟩ ⟨Nat.zero_le _, Nat.zero_le _⟩ ⟨rfl, rfl⟩ rfl rfl rfl (Nat.le_of_ble_eq_true rfl) rfl (ws' := [oB q_t 1 [.ref q_t_near, .int t_left, .int t_newEnds], aI cA q_t_near 14 t_near]) (st' := [.int u6]) (N0 := 2) rfl [none, none] (by decide) rfl rfl ?_
        refine g_istore C 36 (fun z => [(4, .int z), (0, .ref q_t), (1, .int x1), (2, .int x2), (3, .int x3)]) dX1_loneliest_36 (by decide) (fun _ => rfl) hf (fun x4_7 hf => ?_)
        refine g_iload C 38 0 dX1_loneliest_38 rfl ?_
        refine g_iload_n C 40 3 dX1_loneliest_40 rfl rfl ?_
        refine g_icmp_ge C 41 49 dX1_loneliest_41 (by decide) hf (fun hf => ?_) (fun hf => ?_)
        · refine g_iinc C 49 4 (v := x3 + (1 : Int32)) (fun z => [(3, .int z), (4, .int x4_7), (0, .ref q_t), (1, .int x1), (2, .int x2)]) dX1_loneliest_49 rfl rfl (by decide) (fun _ => rfl) hf (fun x3_8 hf => ?_)
          refine g_goto C 52 7 dX1_loneliest_52 (by decide) ?_
          refine g_lv [2, 3, 4, 0] rfl ?_
          exact ih x1 x2 x3_8 hf
        · refine g_iload_n C 44 4 dX1_loneliest_44 rfl rfl ?_
          refine g_istore_n C 45 (fun z => [(1, .int z), (4, .int x4_7), (0, .ref q_t), (2, .int x2), (3, .int x3)]) dX1_loneliest_45 rfl (by decide) (fun _ => rfl) hf (fun x1_9 hf => ?_)
          refine g_iload C 46 1 dX1_loneliest_46 rfl ?_
          refine g_istore_n C 48 (fun z => [(2, .int z), (1, .int x1_9), (4, .int x4_7), (0, .ref q_t), (3, .int x3)]) dX1_loneliest_48 rfl (by decide) (fun _ => rfl) hf (fun x2_10 hf => ?_)
          refine g_iinc C 49 4 (v := x3 + (1 : Int32)) (fun z => [(3, .int z), (2, .int x2_10), (1, .int x1_9), (4, .int x4_7), (0, .ref q_t)]) dX1_loneliest_49 rfl rfl (by decide) (fun _ => rfl) hf (fun x3_11 hf => ?_)
          refine g_goto C 52 7 dX1_loneliest_52 (by decide) ?_
          refine g_lv [4, 2, 1, 0] rfl ?_
          exact ih x1_9 x2_10 x3_11 hf
      · refine g_goto C 24 49 dX1_loneliest_24 (by decide) ?_
        refine g_iinc C 49 3 (v := x3 + (1 : Int32)) (fun z => [(3, .int z), (0, .ref q_t), (1, .int x1), (2, .int x2)]) dX1_loneliest_49 rfl rfl (by decide) (fun _ => rfl) hf (fun x3_12 hf => ?_)
        refine g_goto C 52 7 dX1_loneliest_52 (by decide) ?_
        refine g_lv [1, 2, 3, 0] rfl ?_
        exact ih x1 x2 x3_12 hf
def f_X1_loneliest (t_left : Int32) (t_near : Nat → Int32) : Option (Int32) :=
  bnd (0 : Int32) fun x1_1 =>
  bnd (14 : Int32) fun x2_2 =>
  bnd (0 : Int32) fun x3_3 =>
  L_X1_loneliest_7 t_left t_near NN x1_1 x2_2 x3_3

set_option maxRecDepth 100000 in
set_option maxHeartbeats 1000000 in
theorem c_X1_loneliest (l : Launch) (cA : Nat → ClassId) (q_t : Nat) (t_left : Int32) (t_newEnds : Int32) (q_t_near : Nat) (t_near : Nat → Int32)   (r : Int32) (hf : f_X1_loneliest t_left t_near = some r) : MT l cA yX1_loneliest cX1_loneliest 5 (some .int) ({ frames := 1, cells := 0, slots := 0, locals := 21 } : Room) [.ref q_t] [oB q_t 1 [.ref q_t_near, .int t_left, .int t_newEnds], aI cA q_t_near 14 t_near] (sB (some (.int r)) [oB q_t 1 [.ref q_t_near, .int t_left, .int t_newEnds], aI cA q_t_near 14 t_near]) := by
  refine MT.of (by decide) (Nat.le_of_ble_eq_true rfl) ?_
  intro X hXl C F hnm hrc hrs
  subst hXl
  unfold f_X1_loneliest at hf
  have C : Cx X cX1_loneliest RX1 (some .int) cA 1 21 5 := C
  show Go X 5 0 0 0 [oB q_t 1 [.ref q_t_near, .int t_left, .int t_newEnds], aI cA q_t_near 14 t_near] [(0, .ref q_t)] []
  refine g_iconst C 0 (0 : Int32) dX1_loneliest_0 (by decide) ?_
  refine g_istore_n C 1 (fun z => [(1, .int z), (0, .ref q_t)]) dX1_loneliest_1 rfl (by decide) (fun _ => rfl) hf (fun x1_1 hf => ?_)
  refine g_bipush C 2 (14 : Int32) dX1_loneliest_2 (by decide) ?_
  refine g_istore_n C 4 (fun z => [(2, .int z), (1, .int x1_1), (0, .ref q_t)]) dX1_loneliest_4 rfl (by decide) (fun _ => rfl) hf (fun x2_2 hf => ?_)
  refine g_iconst C 5 (0 : Int32) dX1_loneliest_5 (by decide) ?_
  refine g_istore_n C 6 (fun z => [(3, .int z), (2, .int x2_2), (1, .int x1_1), (0, .ref q_t)]) dX1_loneliest_6 rfl (by decide) (fun _ => rfl) hf (fun x3_3 hf => ?_)
  refine g_lv [3, 2, 1, 0] rfl ?_
  exact w_X1_loneliest_7 cA q_t t_newEnds q_t_near t_left t_near C r F NN x1_1 x2_2 x3_3 hf

def L_X1_isNearlyJoined_7 (a1 : Int32) (t_near : Nat → Int32)  : Nat → Int32 → Int32 → Int32 → Option (Int32)
  | 0, _, _, _ => none
  | n + 1, x2, x3, x4 =>
    if (14 : Int32) ≤ x4 then
      if x2 = ((2 : Int32) * x3) then
        some ((1 : Int32))
      else
        some ((0 : Int32))
    else
      cal (f_X8_hasBit a1 x4) fun u4 =>
      if u4 = 0 then
        bnd (x4 + (1 : Int32)) fun x4_11 =>
        L_X1_isNearlyJoined_7 a1 t_near n x2 x3 x4_11
      else
        ldA t_near 14 x4 fun v5 =>
        cal (f_J6_bitCount_0f7a4 ((a1 &&& (v5 ^^^ (-1 : Int32))) &&& (((1 : Int32) <<< (x4 &&& 31)) ^^^ (-1 : Int32)))) fun u6 =>
        bnd u6 fun x5_7 =>
        bnd (x2 + x5_7) fun x2_8 =>
        bnd (if x3 < x5_7 then x5_7 else x3) fun x3_9 =>
        bnd (x4 + (1 : Int32)) fun x4_10 =>
        L_X1_isNearlyJoined_7 a1 t_near n x2_8 x3_9 x4_10

set_option maxRecDepth 100000 in
set_option maxHeartbeats 1000000 in
theorem w_X1_isNearlyJoined_7 (cA : Nat → ClassId) (q_t : Nat) (t_left : Int32) (t_newEnds : Int32) (q_t_near : Nat) (a1 : Int32) (t_near : Nat → Int32) {X : XT}  (C : Cx X cX1_isNearlyJoined RX1 (some .boolean) cA 1 21 6) (r : Int32) (F : Fx X (sB (some (.int r)) [oB q_t 1 [.ref q_t_near, .int t_left, .int t_newEnds], aI cA q_t_near 14 t_near]) 0 0)  : ∀ (n : Nat) (x2 : Int32) (x3 : Int32) (x4 : Int32), L_X1_isNearlyJoined_7 a1 t_near n x2 x3 x4 = some r → Go X 6 0 0 7 [oB q_t 1 [.ref q_t_near, .int t_left, .int t_newEnds], aI cA q_t_near 14 t_near] [(0, .ref q_t), (1, .int a1), (2, .int x2), (3, .int x3), (4, .int x4)] [] := by
  intro n
  induction n with
  | zero => intro x2 x3 x4 hf; exact no_some hf
  | succ n ih =>
    intro x2 x3 x4 hf
    rw [L_X1_isNearlyJoined_7] at hf
    refine g_iload C 7 4 dX1_isNearlyJoined_7 rfl ?_
    refine g_bipush C 9 (14 : Int32) dX1_isNearlyJoined_9 (by decide) ?_
    refine g_icmp_ge C 11 67 dX1_isNearlyJoined_11 (by decide) hf (fun hf => ?_) (fun hf => ?_)
    · refine g_iload_n C 67 2 dX1_isNearlyJoined_67 rfl rfl ?_
      refine g_iconst C 68 (2 : Int32) dX1_isNearlyJoined_68 (by decide) ?_
      refine g_iload_n C 69 3 dX1_isNearlyJoined_69 rfl rfl ?_
      refine g_imul C 70 dX1_isNearlyJoined_70 ?_
      refine g_icmp_ne C 71 78 dX1_isNearlyJoined_71 (by decide) hf (fun hf => ?_) (fun hf => ?_)
      · refine g_iconst C 78 (0 : Int32) dX1_isNearlyJoined_78 (by decide) ?_
        cases hf
        exact g_zret C 79 dX1_isNearlyJoined_79 (by decide) F ⟨rfl, rfl⟩
      · refine g_iconst C 74 (1 : Int32) dX1_isNearlyJoined_74 (by decide) ?_
        refine g_goto C 75 79 dX1_isNearlyJoined_75 (by decide) ?_
        cases hf
        exact g_zret C 79 dX1_isNearlyJoined_79 (by decide) F ⟨rfl, rfl⟩
    · refine g_iload_n C 14 1 dX1_isNearlyJoined_14 rfl rfl ?_
      refine g_iload C 15 4 dX1_isNearlyJoined_15 rfl ?_
      obtain ⟨u4, hu4, hf⟩ := cal_some hf
      refine g_callSN C 17 [] (rest := []) dX1_isNearlyJoined_17 (c_X8_hasBit (x_l X) cA a1 x4 u4 hu4) (List.mem_of_getElem? (i := 9) rfl) kw_5 kw_6 kw_7 ok_X8_hasBit ⟨Nat.le_of_ble_eq_true rfl, Nat.le_of_ble_eq_true rfl⟩ ⟨Nat.zero_le _, Nat.zero_le _⟩ ⟨rfl, rfl⟩ rfl rfl rfl (Nat.le_of_ble_eq_true rfl) rfl (ws' := [oB q_t 1 [.ref q_t_near, .int t_left, .int t_newEnds], aI cA q_t_near 14 t_near]) (st' := [.int u4]) (N0 := 2) rfl [none, none] (by decide) rfl rfl ?_
      refine g_if_ne C 20 26 dX1_isNearlyJoined_20 (by decide) hf (fun hf => ?_) (fun hf => ?_)
      · refine g_iload_n C 26 1 dX1_isNearlyJoined_26 rfl rfl ?_
        refine g_aload_n C 27 0 dX1_isNearlyJoined_27 rfl rfl ?_
        refine g_get C 28 0 0 dX1_isNearlyJoined_28 inX1 rfl rfl (by decide) kw_8 rfl ?_
        refine g_iload C 31 4 dX1_isNearlyJoined_31 rfl ?_
        refine g_iald C 33 1 dX1_isNearlyJoined_33 rfl hf (fun v5 hf => ?_)
        refine g_iconst C 34 (-1 : Int32) dX1_isNearlyJoined_34 (by decide) ?_
        refine g_ixor C 35 dX1_isNearlyJoined_35 ?_
        refine g_iand C 36 dX1_isNearlyJoined_36 ?_
        refine g_iconst C 37 (1 : Int32) dX1_isNearlyJoined_37 (by decide) ?_
        refine g_iload C 38 4 dX1_isNearlyJoined_38 rfl ?_
        refine g_ishl C 40 dX1_isNearlyJoined_40 ?_
        refine g_iconst C 41 (-1 : Int32) dX1_isNearlyJoined_41 (by decide) ?_
        refine g_ixor C 42 dX1_isNearlyJoined_42 ?_
        refine g_iand C 43 dX1_isNearlyJoined_43 ?_
        obtain ⟨u6, hu6, hf⟩ := cal_some hf
        refine g_callS C 44 [] (rest := []) dX1_isNearlyJoined_44 (c_J6_bitCount_0f7a4 (x_l X) cA ((a1 &&& (v5 ^^^ (-1 : Int32))) &&& (((1 : Int32) <<< (x4 &&& 31)) ^^^ (-1 : Int32))) u6 hu6) kw_19 kw_20 kw_21 kw_22 ok_J6_bitCount_0f7a4 ⟨Nat.le_of_ble_eq_true rfl, Nat.le_of_ble_eq_true rfl⟩ ⟨Nat.zero_le _, Nat.zero_le _⟩ ⟨rfl, rfl⟩ rfl rfl rfl (Nat.le_of_ble_eq_true rfl) rfl (ws' := [oB q_t 1 [.ref q_t_near, .int t_left, .int t_newEnds], aI cA q_t_near 14 t_near]) (st' := [.int u6]) (N0 := 2) rfl [none, none] (by decide) rfl rfl ?_
        refine g_istore C 47 (fun z => [(5, .int z), (0, .ref q_t), (1, .int a1), (2, .int x2), (3, .int x3), (4, .int x4)]) dX1_isNearlyJoined_47 (by decide) (fun _ => rfl) hf (fun x5_7 hf => ?_)
        refine g_iload_n C 49 3 dX1_isNearlyJoined_49 rfl rfl ?_
        refine g_iload C 50 0 dX1_isNearlyJoined_50 rfl ?_
        refine g_iadd C 52 dX1_isNearlyJoined_52 ?_
        refine g_istore_n C 53 (fun z => [(2, .int z), (5, .int x5_7), (0, .ref q_t), (1, .int a1), (3, .int x3), (4, .int x4)]) dX1_isNearlyJoined_53 rfl (by decide) (fun _ => rfl) hf (fun x2_8 hf => ?_)
        refine g_iload_n C 54 4 dX1_isNearlyJoined_54 rfl rfl ?_
        refine g_iload C 55 1 dX1_isNearlyJoined_55 rfl ?_
        refine g_max C 57 dX1_isNearlyJoined_57 kw_86 kw_37 kw_38 kw_39 (by decide) (Nat.le_of_ble_eq_true rfl) (Nat.zero_le _) (Nat.zero_le _) ?_
        refine g_istore_n C 60 (fun z => [(3, .int z), (2, .int x2_8), (5, .int x5_7), (0, .ref q_t), (1, .int a1), (4, .int x4)]) dX1_isNearlyJoined_60 rfl (by decide) (fun _ => rfl) hf (fun x3_9 hf => ?_)
        refine g_iinc C 61 5 (v := x4 + (1 : Int32)) (fun z => [(4, .int z), (3, .int x3_9), (2, .int x2_8), (5, .int x5_7), (0, .ref q_t), (1, .int a1)]) dX1_isNearlyJoined_61 rfl rfl (by decide) (fun _ => rfl) hf (fun x4_10 hf => ?_)
        refine g_goto C 64 7 dX1_isNearlyJoined_64 (by decide) ?_
        refine g_lv [4, 5, 2, 1, 0] rfl ?_
        exact ih x2_8 x3_9 x4_10 hf
      · refine g_goto C 23 61 dX1_isNearlyJoined_23 (by decide) ?_
        refine g_iinc C 61 4 (v := x4 + (1 : Int32)) (fun z => [(4, .int z), (0, .ref q_t), (1, .int a1), (2, .int x2), (3, .int x3)]) dX1_isNearlyJoined_61 rfl rfl (by decide) (fun _ => rfl) hf (fun x4_11 hf => ?_)
        refine g_goto C 64 7 dX1_isNearlyJoined_64 (by decide) ?_
        refine g_lv [1, 2, 3, 4, 0] rfl ?_
        exact ih x2 x3 x4_11 hf
def f_X1_isNearlyJoined (a1 : Int32) (t_near : Nat → Int32) : Option (Int32) :=
  bnd (0 : Int32) fun x2_1 =>
  bnd (0 : Int32) fun x3_2 =>
  bnd (0 : Int32) fun x4_3 =>
  L_X1_isNearlyJoined_7 a1 t_near NN x2_1 x3_2 x4_3

set_option maxRecDepth 100000 in
set_option maxHeartbeats 1000000 in
theorem c_X1_isNearlyJoined (l : Launch) (cA : Nat → ClassId) (q_t : Nat) (t_left : Int32) (t_newEnds : Int32) (q_t_near : Nat) (t_near : Nat → Int32)  (a1 : Int32) (r : Int32) (hf : f_X1_isNearlyJoined a1 t_near = some r) : MT l cA yX1_isNearlyJoined cX1_isNearlyJoined 6 (some .boolean) ({ frames := 1, cells := 0, slots := 0, locals := 21 } : Room) [.ref q_t, .int a1] [oB q_t 1 [.ref q_t_near, .int t_left, .int t_newEnds], aI cA q_t_near 14 t_near] (sB (some (.int r)) [oB q_t 1 [.ref q_t_near, .int t_left, .int t_newEnds], aI cA q_t_near 14 t_near]) := by
  refine MT.of (by decide) (Nat.le_of_ble_eq_true rfl) ?_
  intro X hXl C F hnm hrc hrs
  subst hXl
  unfold f_X1_isNearlyJoined at hf
  have C : Cx X cX1_isNearlyJoined RX1 (some .boolean) cA 1 21 6 := C
  show Go X 6 0 0 0 [oB q_t 1 [.ref q_t_near, .int t_left, .int t_newEnds], aI cA q_t_near 14 t_near] [(0, .ref q_t), (1, .int a1)] []
  refine g_iconst C 0 (0 : Int32) dX1_isNearlyJoined_0 (by decide) ?_
  refine g_istore_n C 1 (fun z => [(2, .int z), (0, .ref q_t), (1, .int a1)]) dX1_isNearlyJoined_1 rfl (by decide) (fun _ => rfl) hf (fun x2_1 hf => ?_)
  refine g_iconst C 2 (0 : Int32) dX1_isNearlyJoined_2 (by decide) ?_
  refine g_istore_n C 3 (fun z => [(3, .int z), (2, .int x2_1), (0, .ref q_t), (1, .int a1)]) dX1_isNearlyJoined_3 rfl (by decide) (fun _ => rfl) hf (fun x3_2 hf => ?_)
  refine g_iconst C 4 (0 : Int32) dX1_isNearlyJoined_4 (by decide) ?_
  refine g_istore C 5 (fun z => [(4, .int z), (3, .int x3_2), (2, .int x2_1), (0, .ref q_t), (1, .int a1)]) dX1_isNearlyJoined_5 (by decide) (fun _ => rfl) hf (fun x4_3 hf => ?_)
  refine g_lv [3, 4, 2, 1, 0] rfl ?_
  exact w_X1_isNearlyJoined_7 cA q_t t_left t_newEnds q_t_near a1 t_near C r F NN x2_1 x3_2 x4_3 hf

def L_X1_harmless_2 (a1 : Int32) (t_left : Int32) (t_near : Nat → Int32)  : Nat → Int32 → Option (Int32)
  | 0, _ => none
  | n + 1, x2 =>
    if (14 : Int32) ≤ x2 then
      some ((-1 : Int32))
    else
      cal (f_X8_hasBit t_left x2) fun u2 =>
      if u2 = 0 then
        bnd (x2 + (1 : Int32)) fun x2_3 =>
        L_X1_harmless_2 a1 t_left t_near n x2_3
      else
        ldA t_near 14 x2 fun v4 =>
        cal (f_J6_bitCount_0f7a4 v4) fun u5 =>
        if a1 < u5 then
          bnd (x2 + (1 : Int32)) fun x2_6 =>
          L_X1_harmless_2 a1 t_left t_near n x2_6
        else
          ldA t_near 14 x2 fun v7 =>
          cal (f_X1_isNearlyJoined v7 t_near) fun u8 =>
          if u8 = 0 then
            bnd (x2 + (1 : Int32)) fun x2_9 =>
            L_X1_harmless_2 a1 t_left t_near n x2_9
          else
            some (x2)

set_option maxRecDepth 100000 in
set_option maxHeartbeats 1000000 in
theorem w_X1_harmless_2 (cA : Nat → ClassId) (q_t : Nat) (t_newEnds : Int32) (q_t_near : Nat) (a1 : Int32) (t_left : Int32) (t_near : Nat → Int32) {X : XT}  (C : Cx X cX1_harmless RX1 (some .int) cA 2 46 3) (r : Int32) (F : Fx X (sB (some (.int r)) [oB q_t 1 [.ref q_t_near, .int t_left, .int t_newEnds], aI cA q_t_near 14 t_near]) 0 0)  : ∀ (n : Nat) (x2 : Int32), L_X1_harmless_2 a1 t_left t_near n x2 = some r → Go X 3 0 0 2 [oB q_t 1 [.ref q_t_near, .int t_left, .int t_newEnds], aI cA q_t_near 14 t_near] [(0, .ref q_t), (1, .int a1), (2, .int x2)] [] := by
  intro n
  induction n with
  | zero => intro x2 hf; exact no_some hf
  | succ n ih =>
    intro x2 hf
    rw [L_X1_harmless_2] at hf
    refine g_iload_n C 2 2 dX1_harmless_2 rfl rfl ?_
    refine g_bipush C 3 (14 : Int32) dX1_harmless_3 (by decide) ?_
    refine g_icmp_ge C 5 53 dX1_harmless_5 (by decide) hf (fun hf => ?_) (fun hf => ?_)
    · refine g_iconst C 53 (-1 : Int32) dX1_harmless_53 (by decide) ?_
      cases hf
      exact g_iret C 54 dX1_harmless_54 F ⟨rfl, rfl⟩
    · refine g_aload_n C 8 0 dX1_harmless_8 rfl rfl ?_
      refine g_get C 9 0 1 dX1_harmless_9 inX1 rfl rfl (by decide) kw_9 rfl ?_
      refine g_iload_n C 12 2 dX1_harmless_12 rfl rfl ?_
      obtain ⟨u2, hu2, hf⟩ := cal_some hf
      refine g_callSN C 13 [] (rest := []) dX1_harmless_13 (c_X8_hasBit (x_l X) cA t_left x2 u2 hu2) (List.mem_of_getElem? (i := 9) rfl) kw_5 kw_6 kw_7 ok_X8_hasBit ⟨Nat.le_of_ble_eq_true rfl, Nat.le_of_ble_eq_true rfl⟩ ⟨Nat.zero_le _, Nat.zero_le _⟩ ⟨rfl, rfl⟩ rfl rfl rfl (Nat.le_of_ble_eq_true rfl) rfl (ws' := [oB q_t 1 [.ref q_t_near, .int t_left, .int t_newEnds], aI cA q_t_near 14 t_near]) (st' := [.int u2]) (N0 := 2) rfl [none, none] (by decide) rfl rfl ?_
      refine g_if_eq C 16 47 dX1_harmless_16 (by decide) hf (fun hf => ?_) (fun hf => ?_)
      · refine g_iinc C 47 2 (v := x2 + (1 : Int32)) (fun z => [(2, .int z), (0, .ref q_t), (1, .int a1)]) dX1_harmless_47 rfl rfl (by decide) (fun _ => rfl) hf (fun x2_3 hf => ?_)
        refine g_goto C 50 2 dX1_harmless_50 (by decide) ?_
        refine g_lv [1, 2, 0] rfl ?_
        exact ih x2_3 hf
      · refine g_aload_n C 19 0 dX1_harmless_19 rfl rfl ?_
        refine g_get C 20 0 0 dX1_harmless_20 inX1 rfl rfl (by decide) kw_8 rfl ?_
        refine g_iload_n C 23 2 dX1_harmless_23 rfl rfl ?_
        refine g_iald C 24 1 dX1_harmless_24 rfl hf (fun v4 hf => ?_)
        obtain ⟨u5, hu5, hf⟩ := cal_some hf
        refine g_callS C 25 [] (rest := []) dX1_harmless_25 (c_J6_bitCount_0f7a4 (x_l X) cA v4 u5 hu5) kw_19 kw_20 kw_21 kw_22 ok_J6_bitCount_0f7a4 ⟨Nat.le_of_ble_eq_true rfl, Nat.le_of_ble_eq_true rfl⟩ ⟨Nat.zero_le _, Nat.zero_le _⟩ ⟨rfl, rfl⟩ rfl rfl rfl (Nat.le_of_ble_eq_true rfl) rfl (ws' := [oB q_t 1 [.ref q_t_near, .int t_left, .int t_newEnds], aI cA q_t_near 14 t_near]) (st' := [.int u5]) (N0 := 2) rfl [none, none] (by decide) rfl rfl ?_
        refine g_iload_n C 28 1 dX1_harmless_28 rfl rfl ?_
        refine g_icmp_gt C 29 47 dX1_harmless_29 (by decide) hf (fun hf => ?_) (fun hf => ?_)
        · refine g_iinc C 47 2 (v := x2 + (1 : Int32)) (fun z => [(2, .int z), (0, .ref q_t), (1, .int a1)]) dX1_harmless_47 rfl rfl (by decide) (fun _ => rfl) hf (fun x2_6 hf => ?_)
          refine g_goto C 50 2 dX1_harmless_50 (by decide) ?_
          refine g_lv [1, 2, 0] rfl ?_
          exact ih x2_6 hf
        · refine g_aload_n C 32 0 dX1_harmless_32 rfl rfl ?_
          refine g_aload_n C 33 0 dX1_harmless_33 rfl rfl ?_
          refine g_get C 34 0 0 dX1_harmless_34 inX1 rfl rfl (by decide) kw_8 rfl ?_
          refine g_iload_n C 37 2 dX1_harmless_37 rfl rfl ?_
          refine g_iald C 38 1 dX1_harmless_38 rfl hf (fun v7 hf => ?_)
          obtain ⟨u8, hu8, hf⟩ := cal_some hf
          refine g_callV1 C 39 [0, 1] 0 (rest := []) dX1_harmless_39 (c_X1_isNearlyJoined (x_l X) cA q_t t_left t_newEnds q_t_near t_near v7 u8 hu8) kw_87 kw_88 kw_89 kw_16 kw_90 ok_X1_isNearlyJoined ⟨Nat.le_of_ble_eq_true rfl, Nat.le_of_ble_eq_true rfl⟩ ⟨Nat.zero_le _, Nat.zero_le _⟩ ⟨rfl, rfl⟩ rfl rfl rfl rfl rfl (Nat.le_of_ble_eq_true rfl) rfl (ws' := [oB q_t 1 [.ref q_t_near, .int t_left, .int t_newEnds], aI cA q_t_near 14 t_near]) (st' := [.int u8]) (N0 := 2) rfl [some 0, some 1] (by decide) rfl rfl ?_
          refine g_if_eq C 42 47 dX1_harmless_42 (by decide) hf (fun hf => ?_) (fun hf => ?_)
          · refine g_iinc C 47 2 (v := x2 + (1 : Int32)) (fun z => [(2, .int z), (0, .ref q_t), (1, .int a1)]) dX1_harmless_47 rfl rfl (by decide) (fun _ => rfl) hf (fun x2_9 hf => ?_)
            refine g_goto C 50 2 dX1_harmless_50 (by decide) ?_
            refine g_lv [1, 2, 0] rfl ?_
            exact ih x2_9 hf
          · refine g_iload_n C 45 2 dX1_harmless_45 rfl rfl ?_
            cases hf
            exact g_iret C 46 dX1_harmless_46 F ⟨rfl, rfl⟩
def f_X1_harmless (a1 : Int32) (t_left : Int32) (t_near : Nat → Int32) : Option (Int32) :=
  bnd (0 : Int32) fun x2_1 =>
  L_X1_harmless_2 a1 t_left t_near NN x2_1

set_option maxRecDepth 100000 in
set_option maxHeartbeats 1000000 in
theorem c_X1_harmless (l : Launch) (cA : Nat → ClassId) (q_t : Nat) (t_left : Int32) (t_newEnds : Int32) (q_t_near : Nat) (t_near : Nat → Int32)  (a1 : Int32) (r : Int32) (hf : f_X1_harmless a1 t_left t_near = some r) : MT l cA yX1_harmless cX1_harmless 3 (some .int) ({ frames := 2, cells := 0, slots := 0, locals := 46 } : Room) [.ref q_t, .int a1] [oB q_t 1 [.ref q_t_near, .int t_left, .int t_newEnds], aI cA q_t_near 14 t_near] (sB (some (.int r)) [oB q_t 1 [.ref q_t_near, .int t_left, .int t_newEnds], aI cA q_t_near 14 t_near]) := by
  refine MT.of (by decide) (Nat.le_of_ble_eq_true rfl) ?_
  intro X hXl C F hnm hrc hrs
  subst hXl
  unfold f_X1_harmless at hf
  have C : Cx X cX1_harmless RX1 (some .int) cA 2 46 3 := C
  show Go X 3 0 0 0 [oB q_t 1 [.ref q_t_near, .int t_left, .int t_newEnds], aI cA q_t_near 14 t_near] [(0, .ref q_t), (1, .int a1)] []
  refine g_iconst C 0 (0 : Int32) dX1_harmless_0 (by decide) ?_
  refine g_istore_n C 1 (fun z => [(2, .int z), (0, .ref q_t), (1, .int a1)]) dX1_harmless_1 rfl (by decide) (fun _ => rfl) hf (fun x2_1 hf => ?_)
  refine g_lv [1, 2, 0] rfl ?_
  exact w_X1_harmless_2 cA q_t t_newEnds q_t_near a1 t_left t_near C r F NN x2_1 hf
end
section
/-! The search's levels: fifteen objects of one kind, two cells each. -/
def lvW (cA : Nat → ClassId) (ad an : Nat → Nat) (lf ne : Nat → Int32) (nr : Nat → Nat → Int32) : va_W := (List.range 30).map (fun k => if k % 2 = 0 then oB (ad (k / 2)) 1 [.ref (an (k / 2)), .int (lf (k / 2)), .int (ne (k / 2))] else aI cA (an (k / 2)) 14 (nr (k / 2)))
theorem lvW_len {cA : Nat → ClassId} {ad an : Nat → Nat} {lf ne : Nat → Int32} {nr : Nat → Nat → Int32} : (lvW cA ad an lf ne nr).length = 30 := by simp [lvW]
theorem lvW_get {cA : Nat → ClassId} {ad an : Nat → Nat} {lf ne : Nat → Int32} {nr : Nat → Nat → Int32} {k : Nat} (h : k < 30) : (lvW cA ad an lf ne nr)[k]? = some (if k % 2 = 0 then oB (ad (k / 2)) 1 [.ref (an (k / 2)), .int (lf (k / 2)), .int (ne (k / 2))] else aI cA (an (k / 2)) 14 (nr (k / 2))) := by
  unfold lvW
  rw [List.getElem?_map, List.getElem?_range h]
  rfl
section FAM
variable {B : va_W} {cA : Nat → ClassId} {ad an : Nat → Nat} {lf ne : Nat → Int32} {nr : Nat → Nat → Int32} {n0 j i : Nat}
theorem fam_o (hB : B.length = n0) (hj : j < 15) : (B ++ lvW cA ad an lf ne nr)[n0 + 2 * j]? = some (oB (ad j) 1 [.ref (an j), .int (lf j), .int (ne j)]) := by
  subst hB
  rw [List.getElem?_append_right (by omega), show B.length + 2 * j - B.length = 2 * j by omega, lvW_get (by omega), if_pos (by omega), show 2 * j / 2 = j by omega]
theorem fam_a (hB : B.length = n0) (hj : j < 15) : (B ++ lvW cA ad an lf ne nr)[n0 + 2 * j + 1]? = some (aI cA (an j) 14 (nr j)) := by
  subst hB
  rw [List.getElem?_append_right (by omega), show B.length + 2 * j + 1 - B.length = 2 * j + 1 by omega, lvW_get (by omega), if_neg (by omega), show (2 * j + 1) / 2 = j by omega]
theorem fam_b (hB : B.length = n0) {k : Nat} (hk : k < n0) : (B ++ lvW cA ad an lf ne nr)[k]? = B[k]? := by
  subst hB
  exact List.getElem?_append_left hk
theorem fam_cases (hB : B.length = n0) {k : Nat} {q : Nat × va_E} (h : (B ++ lvW cA ad an lf ne nr)[k]? = some q) : (k < n0 ∧ B[k]? = some q) ∨ (∃ j, j < 15 ∧ k = n0 + 2 * j ∧ q = oB (ad j) 1 [.ref (an j), .int (lf j), .int (ne j)]) ∨ (∃ j, j < 15 ∧ k = n0 + 2 * j + 1 ∧ q = aI cA (an j) 14 (nr j)) := by
  subst hB
  by_cases hk : k < B.length
  · rw [List.getElem?_append_left hk] at h
    exact Or.inl ⟨hk, h⟩
  · rw [List.getElem?_append_right (by omega)] at h
    have hl : k - B.length < 30 := by
      have := (List.getElem?_eq_some_iff.mp h).1
      rwa [lvW_len] at this
    rw [lvW_get hl] at h
    by_cases he : (k - B.length) % 2 = 0
    · rw [if_pos he] at h
      exact Or.inr (Or.inl ⟨(k - B.length) / 2, by omega, by omega, (Option.some.inj h).symm⟩)
    · rw [if_neg he] at h
      exact Or.inr (Or.inr ⟨(k - B.length) / 2, by omega, by omega, (Option.some.inj h).symm⟩)
/-- where a callee's cells came back, and what else is as it was -/
theorem put_sub {ws ws' w1 : va_W} {isC : List Nat} (hnd : va_nd isC = true) (hle : isC.length = w1.length) (hlt : ∀ k ∈ isC, k < ws.length) (h : ∀ (k : Nat) (q : Nat × va_E), ws'[k]? = some q → (∃ a : Nat, isC[a]? = some k ∧ w1[a]? = some q) ∨ (k ∉ isC ∧ ws[k]? = some q)) (k : Nat) (q : Nat × va_E) (hk : ws'[k]? = some q) : (putAt ws isC w1)[k]? = some q := by
  rcases h k q hk with ⟨a, h1, h2⟩ | ⟨h1, h2⟩
  · rw [putAt_at1 isC w1 ws a k (Nat.le_of_eq hle) hnd h1 (hlt k (List.mem_of_getElem? h1))]
    exact h2
  · rw [putAt_at2 isC w1 ws k (Nat.le_of_eq hle) h1 (List.getElem?_eq_some_iff.mp h2).1]
    exact h2
theorem put_same {ws wc : va_W} {isC : List Nat} (hnd : va_nd isC = true) (hC : isC.map (fun i => ws[i]?) = wc.map some) (k : Nat) (q : Nat × va_E) (hk : ws[k]? = some q) : (putAt ws isC wc)[k]? = some q := by
  have hle : isC.length = wc.length := by simpa using congrArg List.length hC
  have hlt : ∀ i ∈ isC, i < ws.length := by
    intro i hi
    obtain ⟨a, ha⟩ := List.getElem?_of_mem hi
    have h1 : (isC.map (fun i => ws[i]?))[a]? = some (ws[i]?) := by rw [List.getElem?_map, ha]; rfl
    rw [hC, List.getElem?_map] at h1
    cases hw : wc[a]? with
    | none => rw [hw] at h1; cases h1
    | some c => rw [hw] at h1; exact (List.getElem?_eq_some_iff.mp (Option.some.inj h1).symm).1
  refine put_sub hnd hle hlt (fun k q h => ?_) k q hk
  by_cases hm : k ∈ isC
  · obtain ⟨a, ha⟩ := List.getElem?_of_mem hm
    refine Or.inl ⟨a, ha, ?_⟩
    have h1 : (isC.map (fun i => ws[i]?))[a]? = some (ws[k]?) := by rw [List.getElem?_map, ha]; rfl
    rw [hC, List.getElem?_map, h] at h1
    cases hw : wc[a]? with
    | none => rw [hw] at h1; cases h1
    | some c => rw [hw] at h1; exact Option.some.inj h1
  · exact Or.inr ⟨hm, h⟩
/-- a level's two cells came back, others that the callee had are as they were -/
theorem fam_sub (hB : B.length = n0) (hj : j < 15) {x y : Int32} {f : Nat → Int32} {is : List Nat} {wc : va_W} (hC : is.map (fun i => (B ++ lvW cA ad an lf ne nr)[i]?) = wc.map some) (hnd : va_nd ((n0 + 2 * j) :: (n0 + 2 * j + 1) :: is) = true) (k : Nat) (q : Nat × va_E) (hk : (B ++ lvW cA ad an (upd lf j x) (upd ne j y) (va_up nr j f))[k]? = some q) : (putAt (B ++ lvW cA ad an lf ne nr) ((n0 + 2 * j) :: (n0 + 2 * j + 1) :: is) (oB (ad j) 1 [.ref (an j), .int x, .int y] :: aI cA (an j) 14 f :: wc))[k]? = some q := by
  have hle : is.length = wc.length := by simpa using congrArg List.length hC
  have at' : ∀ (a i : Nat), is[a]? = some i → ∃ c, wc[a]? = some c ∧ (B ++ lvW cA ad an lf ne nr)[i]? = some c := by
    intro a i ha
    have h1 : (is.map (fun i => (B ++ lvW cA ad an lf ne nr)[i]?))[a]? = some ((B ++ lvW cA ad an lf ne nr)[i]?) := by rw [List.getElem?_map, ha]; rfl
    rw [hC, List.getElem?_map] at h1
    cases hw : wc[a]? with
    | none => rw [hw] at h1; cases h1
    | some c => rw [hw] at h1; exact ⟨c, rfl, (Option.some.inj h1).symm⟩
  have hlen : (B ++ lvW cA ad an lf ne nr).length = n0 + 30 := by rw [List.length_append, lvW_len, hB]
  have hnd' := hnd
  simp only [va_nd, Bool.and_eq_true, decide_eq_true_eq] at hnd'
  obtain ⟨n1, n2, n3⟩ := hnd'
  refine put_sub hnd (by simp [hle]) (fun i hi => ?_) (fun k q hk => ?_) k q hk
  · rw [hlen]
    rcases List.mem_cons.mp hi with rfl | hi
    · omega
    rcases List.mem_cons.mp hi with rfl | hi
    · omega
    obtain ⟨a, ha⟩ := List.getElem?_of_mem hi
    obtain ⟨c, -, h2⟩ := at' a i ha
    have := (List.getElem?_eq_some_iff.mp h2).1
    rwa [hlen] at this
  · have old : k ≠ n0 + 2 * j → k ≠ n0 + 2 * j + 1 → (B ++ lvW cA ad an lf ne nr)[k]? = some q → (∃ a : Nat, ((n0 + 2 * j) :: (n0 + 2 * j + 1) :: is)[a]? = some k ∧ (oB (ad j) 1 [.ref (an j), .int x, .int y] :: aI cA (an j) 14 f :: wc)[a]? = some q) ∨ (k ∉ ((n0 + 2 * j) :: (n0 + 2 * j + 1) :: is) ∧ (B ++ lvW cA ad an lf ne nr)[k]? = some q) := by
      intro h1 h2 h3
      by_cases hm : k ∈ is
      · obtain ⟨a, ha⟩ := List.getElem?_of_mem hm
        obtain ⟨c, h4, h5⟩ := at' a k ha
        rw [h3] at h5
        cases h5
        exact Or.inl ⟨a + 2, by simpa using ha, by simpa using h4⟩
      · exact Or.inr ⟨fun h => by
          rcases List.mem_cons.mp h with h | h
          · exact h1 h
          rcases List.mem_cons.mp h with h | h
          · exact h2 h
          exact hm h, h3⟩
    rcases fam_cases hB hk with ⟨h1, h2⟩ | ⟨i, h1, h2, h3⟩ | ⟨i, h1, h2, h3⟩
    · exact old (by omega) (by omega) (by rw [fam_b hB h1]; exact h2)
    · by_cases hij : i = j
      · subst hij
        refine Or.inl ⟨0, by simp [h2], ?_⟩
        rw [h3]
        simp [upd]
      · refine old (by omega) (by omega) ?_
        rw [h2, fam_o hB h1, h3]
        simp [upd, hij]
    · by_cases hij : i = j
      · subst hij
        refine Or.inl ⟨1, by simp [h2], ?_⟩
        rw [h3]
        simp [va_up]
      · refine old (by omega) (by omega) ?_
        rw [h2, fam_a hB h1, h3]
        simp [va_up, hij]
theorem fam_C (hB : B.length = n0) (hj : j < 15) : [n0 + 2 * j, n0 + 2 * j + 1].map (fun i => (B ++ lvW cA ad an lf ne nr)[i]?) = ([oB (ad j) 1 [.ref (an j), .int (lf j), .int (ne j)], aI cA (an j) 14 (nr j)] : va_W).map some := by
  simp only [List.map_cons, List.map_nil, fam_o hB hj, fam_a hB hj]
theorem fam_C2 (hB : B.length = n0) (hj : j < 15) {is : List Nat} {wc : va_W} (hC : is.map (fun i => (B ++ lvW cA ad an lf ne nr)[i]?) = wc.map some) : ((n0 + 2 * j) :: (n0 + 2 * j + 1) :: is).map (fun i => (B ++ lvW cA ad an lf ne nr)[i]?) = (oB (ad j) 1 [.ref (an j), .int (lf j), .int (ne j)] :: aI cA (an j) 14 (nr j) :: wc).map some := by
  simp only [List.map_cons, fam_o hB hj, fam_a hB hj, hC]
theorem nd2 : va_nd [n0 + 2 * j, n0 + 2 * j + 1] = true := by simp [va_nd]
theorem nd4 (h : i ≠ j) : va_nd [n0 + 2 * j, n0 + 2 * j + 1, n0 + 2 * i, n0 + 2 * i + 1] = true := by
  simp [va_nd]
  omega
theorem ndb {a b : Nat} (ha : a < n0) (hb : b < n0) (hab : a ≠ b) : va_nd [n0 + 2 * j, n0 + 2 * j + 1, a, b] = true := by
  simp [va_nd]
  omega
end FAM
def ckI {β : Type} (i : Int32) (n : Nat) (k : Option β) : Option β := if okI i n then k else none
theorem ckI_some {β : Type} {i : Int32} {n : Nat} {k : Option β} {r : β} (h : ckI i n k = some r) : vp_in i n ∧ k = some r := by
  unfold ckI at h; split at h
  · exact ⟨‹_›, h⟩
  · cases h
section GF
variable {X : XT} {cc : ByteArray} {own : String} {ret : Option FieldType} {cA : Nat → ClassId} {fr lo nL k n : Nat} {ws : va_W} {lv : List (Nat × Value)} {st rest : List Value} {ρ : Type} {r : ρ}
theorem g_ald (C : Cx X cc own ret cA fr lo nL) (pc q : Nat) {a m : Nat} {ad : Nat → Nat} {i : Int32} {kf : Option ρ} (d : decode cc pc = .ok (.aaload, 1)) (ha : ws[q]? = some (aG cA a m (fun i => some (ad i)))) (hf : ckI i m kf = some r) (K : i.toNatClampNeg < m → kf = some r → Go X nL k n (pc + 1) ws lv (.ref (ad i.toNatClampNeg) :: st)) : Go X nL k n pc ws lv (.int i :: .ref a :: st) := fun H locs ls hP hD hS hl => va_aldq C.ex C.by C.K hP q 3 ha rfl (ckI_some hf).1 d (K (Nat.not_le.mp fun h => (ckI_some hf).1 (Or.inr h)) (ckI_some hf).2 H locs ls hP hD hS hl)
/-- a call whose cells come back by any proof -/
theorem g_callP (C : Cx X cc own ret cA fr lo nL) (pc : Nat) {y : MethodName} {cc' : ByteArray} {nL' : Nat} {ret' : Option FieldType} {rm : Room} {b : Nat} {As : List Value} {wc w1 ws' : va_W} {res : Option Value} {i ci N : Nat} {fs : List Value} {T : u_T} (isC : List Nat) (q0 : Nat) (d : decode cc pc = .ok (.invokevirtual i, 3)) (hM : MT (x_l X) cA y cc' nL' ret' rm (.ref b :: As) wc (sB res w1))
    (h1 : Cond.methodLink own i y ∈ G) (h2 : Cond.instanceMethod y ∈ G) (h3 : Cond.selects y.cls y y ∈ G) (h4 : Cond.initialized y.cls ∈ G) (h5 : Cond.code y cc' nL' ret' ∈ G) (hd : okY y As.length) (hR : rm.frames + 1 ≤ fr ∧ 8 + (nL' + 11) + rm.locals ≤ lo) (hrc : k ≤ (x_R X).cells ∧ n ≤ (x_R X).slots) (hz : rm.cells = 0 ∧ rm.slots = 0)
    (hq0 : ws[q0]? = some (oB b ci fs)) (hc : vwCl[ci]? = some (y.cls, T, N)) (hC : isC.map (fun i => ws[i]?) = wc.map some) (hnd : va_nd isC = true) (hst : st = As.reverse ++ .ref b :: rest) (hsum : (rest.map fun v => v.category).sum ≤ 8) (hle : isC.length = w1.length) (hsub : ∀ (k : Nat) (q : Nat × va_E), ws'[k]? = some q → (putAt ws isC w1)[k]? = some q) {st' : List Value} (hst' : res.toList ++ rest = st')
    (K : Go X nL k n (pc + 3) ws' lv st') : Go X nL k n pc ws lv st := by
  refine g_callV C pc isC q0 d hM h1 h2 h3 h4 h5 hd hR (by rw [hz.1, hz.2]; exact hrc) hq0 hc hC hnd hst hsum (fun r w h => ?_)
  obtain ⟨rfl, rfl⟩ := h
  refine ⟨Nat.le_of_eq hle, ?_⟩
  rw [hz.1, hz.2, hst']
  exact g_sub hsub K
theorem all_C (ws : va_W) : (List.range ws.length).map (fun i => ws[i]?) = ws.map some := by
  apply List.ext_getElem?
  intro i
  rw [List.getElem?_map, List.getElem?_map]
  by_cases h : i < ws.length
  · rw [List.getElem?_range h, List.getElem?_eq_getElem h]
    simp [h]
  · rw [List.getElem?_eq_none (by simp; omega), List.getElem?_eq_none (by omega)]
    rfl
theorem nd_of_nodup : ∀ (l : List Nat), l.Nodup → va_nd l = true
  | [], _ => rfl
  | a :: l, h => by
    obtain ⟨h1, h2⟩ := List.nodup_cons.mp h
    simp [va_nd, h1, nd_of_nodup l h2]
theorem all_nd (n : Nat) : va_nd (List.range n) = true := nd_of_nodup _ List.nodup_range
/-- a call that has all cells -/
theorem g_callA (C : Cx X cc own ret cA fr lo nL) (pc : Nat) {y : MethodName} {cc' : ByteArray} {nL' : Nat} {ret' : Option FieldType} {rm : Room} {b : Nat} {As : List Value} {w1 : va_W} {res : Option Value} {i ci N : Nat} {fs : List Value} {T : u_T} (q0 : Nat) (d : decode cc pc = .ok (.invokevirtual i, 3)) (hM : MT (x_l X) cA y cc' nL' ret' rm (.ref b :: As) ws (sB res w1))
    (h1 : Cond.methodLink own i y ∈ G) (h2 : Cond.instanceMethod y ∈ G) (h3 : Cond.selects y.cls y y ∈ G) (h4 : Cond.initialized y.cls ∈ G) (h5 : Cond.code y cc' nL' ret' ∈ G) (hd : okY y As.length) (hR : rm.frames + 1 ≤ fr ∧ 8 + (nL' + 11) + rm.locals ≤ lo) (hrc : k ≤ (x_R X).cells ∧ n ≤ (x_R X).slots) (hz : rm.cells = 0 ∧ rm.slots = 0)
    (hq0 : ws[q0]? = some (oB b ci fs)) (hc : vwCl[ci]? = some (y.cls, T, N)) (hst : st = As.reverse ++ .ref b :: rest) (hsum : (rest.map fun v => v.category).sum ≤ 8) (hle : ws.length = w1.length) {st' : List Value} (hst' : res.toList ++ rest = st')
    (K : Go X nL k n (pc + 3) w1 lv st') : Go X nL k n pc ws lv st := by
  refine g_callP C pc (List.range ws.length) q0 d hM h1 h2 h3 h4 h5 hd hR hrc hz hq0 hc (all_C ws) (all_nd _) hst hsum (by rw [List.length_range]; exact hle) (fun k q h => ?_) hst' K
  have hk : k < ws.length := by rw [hle]; exact (List.getElem?_eq_some_iff.mp h).1
  rw [putAt_at1 (List.range ws.length) w1 ws k k (by rw [List.length_range]; exact Nat.le_of_eq hle) (all_nd _) (List.getElem?_range hk) hk]
  exact h
end GF
end
section
/-! Worlds with a tail: P ++ S. -/
section SUF
variable {P S wcP w1 S1 : va_W} {isP : List Nat} {N0 : Nat} {ps : List (Option Nat)}
theorem mkW_len (w1 : va_W) : ∀ (ws : va_W) (ps : List (Option Nat)), ps.length = ws.length → (mkW w1 ws ps).length = ws.length
  | [], [], _ => rfl
  | [], _ :: _, h => by simp at h
  | _ :: _, [], h => by simp at h
  | c :: cs, none :: ps, h => by simp [mkW, mkW_len w1 cs ps (by simpa using h)]
  | c :: cs, some j :: ps, h => by simp [mkW, mkW_len w1 cs ps (by simpa using h)]
theorem plan_len (N : Nat) (is : List Nat) : (planOf N is).length = N := by simp [planOf]
theorem plan_at {k : Nat} {o : Option Nat} (hps : planOf N0 isP = ps) (ho : ps[k]? = some o) : k < N0 ∧ idxI k isP = o := by
  rw [← hps, planOf, List.getElem?_map] at ho
  cases hr : (List.range N0)[k]? with
  | none => rw [hr] at ho; cases ho
  | some a =>
    rw [hr] at ho
    obtain ⟨h1, h2⟩ := List.getElem?_eq_some_iff.mp hr
    simp at h1 h2
    subst h2
    exact ⟨h1, Option.some.inj ho⟩
theorem lt_of_C (hC : isP.map (fun i => P[i]?) = wcP.map some) : ∀ i ∈ isP, i < P.length := by
  intro i hi
  obtain ⟨a, ha⟩ := List.getElem?_of_mem hi
  have h1 : (isP.map (fun i => P[i]?))[a]? = some (P[i]?) := by rw [List.getElem?_map, ha]; rfl
  rw [hC, List.getElem?_map] at h1
  cases hw : wcP[a]? with
  | none => rw [hw] at h1; cases h1
  | some c => rw [hw] at h1; exact (List.getElem?_eq_some_iff.mp (Option.some.inj h1).symm).1
theorem base_C (hC : isP.map (fun i => P[i]?) = wcP.map some) : isP.map (fun i => (P ++ S)[i]?) = wcP.map some := by
  rw [← hC]
  exact List.map_congr_left (fun i hi => List.getElem?_append_left (lt_of_C hC i hi))
theorem base_sub (hN : P.length = N0) (hps : planOf N0 isP = ps) (hC : isP.map (fun i => P[i]?) = wcP.map some) (hnd : va_nd isP = true) (hle : isP.length = w1.length) (k : Nat) (q : Nat × va_E) (hk : (mkW w1 P ps ++ S)[k]? = some q) : (putAt (P ++ S) isP w1)[k]? = some q := by
  have hlt := lt_of_C hC
  have hml : (mkW w1 P ps).length = P.length := mkW_len w1 P ps (by rw [← hps, plan_len, hN])
  refine put_sub hnd hle (fun i hi => by rw [List.length_append]; exact Nat.lt_of_lt_of_le (hlt i hi) (Nat.le_add_right _ _)) (fun k q hk => ?_) k q hk
  by_cases h : k < P.length
  · rw [List.getElem?_append_left (by rw [hml]; exact h)] at hk
    rcases mkW_get w1 P ps k q hk with ⟨j, c, h1, h2, h3⟩ | ⟨h1, h2⟩
    · obtain ⟨-, hi⟩ := plan_at hps h1
      have hj := idxI_some isP k j hi
      have hjl : j < w1.length := by rw [← hle]; exact (List.getElem?_eq_some_iff.mp hj).1
      exact Or.inl ⟨j, hj, by rw [h3, List.getD_eq_getElem?_getD, List.getElem?_eq_getElem hjl]; rfl⟩
    · obtain ⟨-, hi⟩ := plan_at hps h1
      exact Or.inr ⟨idxI_none isP k hi, by rw [List.getElem?_append_left h]; exact h2⟩
  · rw [List.getElem?_append_right (by rw [hml]; omega), hml] at hk
    exact Or.inr ⟨fun hm => h (hlt k hm), by rw [List.getElem?_append_right (by omega)]; exact hk⟩
def sufI (isP : List Nat) (p s : Nat) : List Nat := isP ++ (List.range s).map (· + p)
theorem suf_C (hC : isP.map (fun i => P[i]?) = wcP.map some) : (sufI isP P.length S.length).map (fun i => (P ++ S)[i]?) = (wcP ++ S).map some := by
  rw [sufI, List.map_append, List.map_append, base_C hC, List.map_map]
  congr 1
  rw [← all_C S]
  refine List.map_congr_left (fun i hi => ?_)
  show (P ++ S)[i + P.length]? = S[i]?
  rw [List.getElem?_append_right (by omega)]
  congr 1
  omega
theorem nd_app : ∀ (a b : List Nat), va_nd a = true → va_nd b = true → (∀ x ∈ a, x ∉ b) → va_nd (a ++ b) = true
  | [], b, _, hb, _ => hb
  | x :: a, b, ha, hb, h => by
    simp only [va_nd, Bool.and_eq_true, decide_eq_true_eq] at ha
    simp only [List.cons_append, va_nd, Bool.and_eq_true, decide_eq_true_eq]
    exact ⟨fun hm => (List.mem_append.mp hm).elim ha.1 (h x List.mem_cons_self), nd_app a b ha.2 hb (fun y hy => h y (List.mem_cons_of_mem _ hy))⟩
theorem suf_nd {p s : Nat} (hnd : va_nd isP = true) (hlt : ∀ i ∈ isP, i < p) : va_nd (sufI isP p s) = true := by
  refine nd_app _ _ hnd (nd_of_nodup _ ?_) (fun x hx hm => ?_)
  · have := @List.nodup_range s
    rw [List.Nodup, List.pairwise_map]
    exact List.Pairwise.imp (fun h e => h (by omega)) this
  · obtain ⟨a, -, ha⟩ := List.mem_map.mp hm
    have := hlt x hx
    omega
theorem suf_sub (hN : P.length = N0) (hps : planOf N0 isP = ps) (hC : isP.map (fun i => P[i]?) = wcP.map some) (hnd : va_nd isP = true) (hle : isP.length = w1.length) (hS : S1.length = S.length) (k : Nat) (q : Nat × va_E) (hk : (mkW w1 P ps ++ S1)[k]? = some q) : (putAt (P ++ S) (sufI isP P.length S.length) (w1 ++ S1))[k]? = some q := by
  have hlt := lt_of_C hC
  have hml : (mkW w1 P ps).length = P.length := mkW_len w1 P ps (by rw [← hps, plan_len, hN])
  refine put_sub (suf_nd hnd hlt) (by simp [sufI, hle, hS]) (fun i hi => ?_) (fun k q hk => ?_) k q hk
  · rw [List.length_append]
    rcases List.mem_append.mp hi with h | h
    · have := hlt i h; omega
    · obtain ⟨a, h1, h2⟩ := List.mem_map.mp h
      have := List.mem_range.mp h1
      omega
  · by_cases h : k < P.length
    · rw [List.getElem?_append_left (by rw [hml]; exact h)] at hk
      rcases mkW_get w1 P ps k q hk with ⟨j, c, h1, h2, h3⟩ | ⟨h1, h2⟩
      · obtain ⟨-, hi⟩ := plan_at hps h1
        have hj := idxI_some isP k j hi
        have hjp : j < isP.length := (List.getElem?_eq_some_iff.mp hj).1
        have hjl : j < w1.length := by rw [← hle]; exact hjp
        exact Or.inl ⟨j, by rw [sufI, List.getElem?_append_left hjp]; exact hj, by rw [List.getElem?_append_left hjl, h3, List.getD_eq_getElem?_getD, List.getElem?_eq_getElem hjl]; rfl⟩
      · obtain ⟨-, hi⟩ := plan_at hps h1
        refine Or.inr ⟨fun hm => ?_, by rw [List.getElem?_append_left h]; exact h2⟩
        rcases List.mem_append.mp hm with hm | hm
        · exact idxI_none isP k hi hm
        · obtain ⟨a, -, h2⟩ := List.mem_map.mp hm
          omega
    · rw [List.getElem?_append_right (by rw [hml]; omega), hml] at hk
      have hl := (List.getElem?_eq_some_iff.mp hk).1
      refine Or.inl ⟨isP.length + (k - P.length), ?_, ?_⟩
      · rw [sufI, List.getElem?_append_right (by omega), List.getElem?_map, List.getElem?_range (by omega)]
        simp
        omega
      · rw [List.getElem?_append_right (by omega), ← hle]
        rw [show isP.length + (k - P.length) - isP.length = k - P.length by omega]
        exact hk
end SUF
section GP
variable {X : XT} {cc : ByteArray} {own : String} {ret : Option FieldType} {cA : Nat → ClassId} {fr lo nL k n : Nat} {lv : List (Nat × Value)} {st rest : List Value}
/-- the callee has cells of P alone -/
theorem g_callB (C : Cx X cc own ret cA fr lo nL) (pc : Nat) {P P' S : va_W} {y : MethodName} {cc' : ByteArray} {nL' : Nat} {ret' : Option FieldType} {rm : Room} {b : Nat} {As : List Value} {wc w1 : va_W} {res : Option Value} {i ci N : Nat} {fs : List Value} {T : u_T} (isP : List Nat) (q0 : Nat) (d : decode cc pc = .ok (.invokevirtual i, 3)) (hM : MT (x_l X) cA y cc' nL' ret' rm (.ref b :: As) wc (sB res w1))
    (h1 : Cond.methodLink own i y ∈ G) (h2 : Cond.instanceMethod y ∈ G) (h3 : Cond.selects y.cls y y ∈ G) (h4 : Cond.initialized y.cls ∈ G) (h5 : Cond.code y cc' nL' ret' ∈ G) (hd : okY y As.length) (hR : rm.frames + 1 ≤ fr ∧ 8 + (nL' + 11) + rm.locals ≤ lo) (hrc : k ≤ (x_R X).cells ∧ n ≤ (x_R X).slots) (hz : rm.cells = 0 ∧ rm.slots = 0)
    (hq0 : (P ++ S)[q0]? = some (oB b ci fs)) (hc : vwCl[ci]? = some (y.cls, T, N)) (hC : isP.map (fun i => P[i]?) = wc.map some) (hnd : va_nd isP = true) (hst : st = As.reverse ++ .ref b :: rest) (hsum : (rest.map fun v => v.category).sum ≤ 8) (hle : isP.length = w1.length) {N0 : Nat} (hN : P.length = N0) (ps : List (Option Nat)) (hps : planOf N0 isP = ps) (hws : mkW w1 P ps = P') {st' : List Value} (hst' : res.toList ++ rest = st')
    (K : Go X nL k n (pc + 3) (P' ++ S) lv st') : Go X nL k n pc (P ++ S) lv st :=
  g_callP C pc isP q0 d hM h1 h2 h3 h4 h5 hd hR hrc hz hq0 hc (base_C hC) hnd hst hsum hle (fun k q h => base_sub hN hps hC hnd hle k q (by rw [hws]; exact h)) hst' K
/-- the callee has cells of P, and all of S -/
theorem g_callT (C : Cx X cc own ret cA fr lo nL) (pc : Nat) {P P' S S1 : va_W} {y : MethodName} {cc' : ByteArray} {nL' : Nat} {ret' : Option FieldType} {rm : Room} {b : Nat} {As : List Value} {wc w1 : va_W} {res : Option Value} {i ci N : Nat} {fs : List Value} {T : u_T} (isP : List Nat) (q0 : Nat) (d : decode cc pc = .ok (.invokevirtual i, 3)) (hM : MT (x_l X) cA y cc' nL' ret' rm (.ref b :: As) (wc ++ S) (sB res (w1 ++ S1)))
    (h1 : Cond.methodLink own i y ∈ G) (h2 : Cond.instanceMethod y ∈ G) (h3 : Cond.selects y.cls y y ∈ G) (h4 : Cond.initialized y.cls ∈ G) (h5 : Cond.code y cc' nL' ret' ∈ G) (hd : okY y As.length) (hR : rm.frames + 1 ≤ fr ∧ 8 + (nL' + 11) + rm.locals ≤ lo) (hrc : k ≤ (x_R X).cells ∧ n ≤ (x_R X).slots) (hz : rm.cells = 0 ∧ rm.slots = 0)
    (hq0 : (P ++ S)[q0]? = some (oB b ci fs)) (hc : vwCl[ci]? = some (y.cls, T, N)) (hC : isP.map (fun i => P[i]?) = wc.map some) (hnd : va_nd isP = true) (hst : st = As.reverse ++ .ref b :: rest) (hsum : (rest.map fun v => v.category).sum ≤ 8) (hle : isP.length = w1.length) (hS : S1.length = S.length) {N0 : Nat} (hN : P.length = N0) (ps : List (Option Nat)) (hps : planOf N0 isP = ps) (hws : mkW w1 P ps = P') {st' : List Value} (hst' : res.toList ++ rest = st')
    (K : Go X nL k n (pc + 3) (P' ++ S1) lv st') : Go X nL k n pc (P ++ S) lv st :=
  g_callP C pc (sufI isP P.length S.length) q0 d hM h1 h2 h3 h4 h5 hd hR hrc hz hq0 hc (suf_C hC) (suf_nd hnd (lt_of_C hC)) hst hsum (by simp [sufI, hle, hS]) (fun k q h => suf_sub hN hps hC hnd hle hS k q (by rw [hws]; exact h)) hst' K
/-- a static method over cells of P -/
theorem g_callSB (C : Cx X cc own ret cA fr lo nL) (pc : Nat) {P P' S : va_W} {y : MethodName} {cc' : ByteArray} {nL' : Nat} {ret' : Option FieldType} {rm : Room} {As : List Value} {wc w1 : va_W} {res : Option Value} {i : Nat} (isP : List Nat) (d : decode cc pc = .ok (.invokestatic i, 3)) (hM : MT (x_l X) cA y cc' nL' ret' rm As wc (sB res w1))
    (h1 : Cond.methodLink own i y ∈ G) (h2 : Cond.static y ∈ G) (h4 : Cond.initialized y.cls ∈ G) (h5 : Cond.code y cc' nL' ret' ∈ G) (hd : okY y As.length) (hR : rm.frames + 1 ≤ fr ∧ 8 + (nL' + 11) + rm.locals ≤ lo) (hrc : k ≤ (x_R X).cells ∧ n ≤ (x_R X).slots) (hz : rm.cells = 0 ∧ rm.slots = 0)
    (hC : isP.map (fun i => P[i]?) = wc.map some) (hnd : va_nd isP = true) (hst : st = As.reverse ++ rest) (hsum : (rest.map fun v => v.category).sum ≤ 8) (hle : isP.length = w1.length) {N0 : Nat} (hN : P.length = N0) (ps : List (Option Nat)) (hps : planOf N0 isP = ps) (hws : mkW w1 P ps = P') {st' : List Value} (hst' : res.toList ++ rest = st')
    (K : Go X nL k n (pc + 3) (P' ++ S) lv st') : Go X nL k n pc (P ++ S) lv st := by
  intro H locs ls hP hD hS hl
  have hC2 : isP.map (fun i => (P ++ S)[i]?) = wc.map some := base_C hC
  have hFc := va_free (wc := wc) hD hS C.hA isP hC2
  have hPc := hP.sub (ws' := wc) isP (by
    have := congrArg (List.filterMap id) hC2
    simpa [List.filterMap_map] using this)
  have hDc := hD.sub (ws' := wc) isP hnd hC2
  have hG : GoodIn G (va_wsS own i y (.code y cc' nL' ret' :: G)) := gi_G (fun w hw => by
    simp only [va_wsS, List.cons_append, List.nil_append, List.mem_cons] at hw
    rcases hw with rfl | rfl | rfl | rfl | hw
    · exact h1
    · exact h2
    · exact h4
    · exact h5
    · exact hw)
  refine kcall (va_runS (As := As) (rest := rest) ⟨C.ex, C.by, C.ml, C.ow, C.ts⟩ (hM H.size (x_D X)) (va_cwS As.length C.ts hG rfl rfl rfl hd ⟨Nat.le_trans hR.1 C.rm.1, Nat.le_trans hR.2 C.rm.2⟩) ⟨Px_blind, fun U hU hW => ⟨rfl, by rw [hU], by rw [hU]; exact hPc, va_K.moved hW.alike C.K, hDc.weaken (fun _ _ _ _ => trivial), NW.warm hW C.nw⟩⟩ rfl rfl hl.1 hst (lv_room hsum) d (by rw [hz.1, hz.2]; exact hrc)) hS (fun q _ h => hFc q h) hFc ?_
  intro r w H1 locs1 hB hP1 hD1 hk1 hS1
  obtain ⟨rfl, rfl⟩ := hB
  obtain ⟨hP2, hD2⟩ := kjoin hP hD isP hC2 hnd (Nat.le_of_eq hle) hk1 hFc hP1 hD1
  rw [hz.1, hz.2, hst']
  exact g_sub (fun k q h => base_sub hN hps hC hnd hle k q (by rw [hws]; exact h)) K H1 locs1 ls hP2 hD2 hS1 hl
/-- a static method of a nest mate without cells -/
theorem g_callSN0 (C : Cx X cc own ret cA fr lo nL) (pc : Nat) {ws : va_W} {y : MethodName} {cc' : ByteArray} {nL' : Nat} {ret' : Option FieldType} {rm : Room} {As : List Value} {res : Option Value} {i : Nat} {host : String} (d : decode cc pc = .ok (.invokestatic i, 3)) (hM : MT (x_l X) cA y cc' nL' ret' rm As [] (sB res []))
    (h1 : (own, i, y, host) ∈ nwT) (h2 : Cond.static y ∈ G) (h4 : Cond.initialized y.cls ∈ G) (h5 : Cond.code y cc' nL' ret' ∈ G) (hd : okY y As.length) (hR : rm.frames + 1 ≤ fr ∧ 8 + (nL' + 11) + rm.locals ≤ lo) (hrc : k ≤ (x_R X).cells ∧ n ≤ (x_R X).slots) (hz : rm.cells = 0 ∧ rm.slots = 0) (hst : st = As.reverse ++ rest) (hsum : (rest.map fun v => v.category).sum ≤ 8) {st' : List Value} (hst' : res.toList ++ rest = st')
    (K : Go X nL k n (pc + 3) ws lv st') : Go X nL k n pc ws lv st := by
  intro H locs ls hP hD hS hl
  have hFc := va_free (wc := []) hD hS C.hA [] rfl
  have hPc : va_P (x_D X) vwCl [] H := fun k q h => by simp at h
  have hDc : va_D (x_A X) [] := ⟨fun i j p q h => by simp at h, fun k q h => by simp at h⟩
  have hG : GoodIn G (.code y cc' nL' ret' :: G) := gi_G (fun w hw => by
    rcases List.mem_cons.mp hw with rfl | hw
    · exact h5
    · exact hw)
  refine kcall (va_runSN (As := As) (rest := rest) (host := host) ⟨C.ex, C.by, C.ml, C.ow, C.ts⟩ (hM H.size (x_D X)) ⟨va_cnB As.length C.ts hG rfl rfl rfl (C.nw.1 _ h1) (C.ts _ h4) hd ⟨Nat.le_trans hR.1 C.rm.1, Nat.le_trans hR.2 C.rm.2⟩, C.ts _ h2, trivial⟩ ⟨Px_blind, fun U hU hW => ⟨rfl, by rw [hU], by rw [hU]; exact hPc, va_K.moved hW.alike C.K, hDc.weaken (fun _ _ _ _ => trivial), NW.warm hW C.nw⟩⟩ rfl rfl hl.1 hst (lv_room hsum) d (by rw [hz.1, hz.2]; exact hrc)) hS (fun q _ h => hFc q h) hFc ?_
  intro r w H1 locs1 hB hP1 hD1 hk1 hS1
  obtain ⟨rfl, rfl⟩ := hB
  obtain ⟨hP2, hD2⟩ := kjoin hP hD [] rfl rfl (Nat.le_refl _) hk1 hFc hP1 hD1
  rw [putAt_nil, List.append_nil] at hP2 hD2
  rw [hz.1, hz.2, hst']
  exact K H1 locs1 ls hP2 hD2 hS1 hl
end GP
end
section
theorem dX6_bestOrder_0 : decode cX6_bestOrder 0 = .ok (.iload_n 3, 1) := by decide +kernel
theorem dX6_bestOrder_1 : decode cX6_bestOrder 1 = .ok (.istore 4, 2) := by decide +kernel
theorem dX6_bestOrder_3 : decode cX6_bestOrder 3 = .ok (.iload 4, 2) := by decide +kernel
theorem dX6_bestOrder_5 : decode cX6_bestOrder 5 = .ok (.aload_n 1, 1) := by decide +kernel
theorem dX6_bestOrder_6 : decode cX6_bestOrder 6 = .ok (.getfield 26, 3) := by decide +kernel
theorem dX6_bestOrder_9 : decode cX6_bestOrder 9 = .ok (.if_icmp .ge 19, 3) := by decide +kernel
theorem dX6_bestOrder_12 : decode cX6_bestOrder 12 = .ok (.aload_n 0, 1) := by decide +kernel
theorem dX6_bestOrder_13 : decode cX6_bestOrder 13 = .ok (.aload_n 1, 1) := by decide +kernel
theorem dX6_bestOrder_14 : decode cX6_bestOrder 14 = .ok (.iload 4, 2) := by decide +kernel
theorem dX6_bestOrder_16 : decode cX6_bestOrder 16 = .ok (.invokevirtual 32, 3) := by decide +kernel
theorem dX6_bestOrder_19 : decode cX6_bestOrder 19 = .ok (.ifCond .ne 9, 3) := by decide +kernel
theorem dX6_bestOrder_22 : decode cX6_bestOrder 22 = .ok (.iinc 4 1, 3) := by decide +kernel
theorem dX6_bestOrder_25 : decode cX6_bestOrder 25 = .ok (.goto (-22), 3) := by decide +kernel
theorem dX6_bestOrder_28 : decode cX6_bestOrder 28 = .ok (.aload_n 0, 1) := by decide +kernel
theorem dX6_bestOrder_29 : decode cX6_bestOrder 29 = .ok (.getfield 12, 3) := by decide +kernel
theorem dX6_bestOrder_32 : decode cX6_bestOrder 32 = .ok (.aload_n 1, 1) := by decide +kernel
theorem dX6_bestOrder_33 : decode cX6_bestOrder 33 = .ok (.invokevirtual 36, 3) := by decide +kernel
theorem dX6_bestOrder_36 : decode cX6_bestOrder 36 = .ok (.iconst 0, 1) := by decide +kernel
theorem dX6_bestOrder_37 : decode cX6_bestOrder 37 = .ok (.istore 5, 2) := by decide +kernel
theorem dX6_bestOrder_39 : decode cX6_bestOrder 39 = .ok (.iload 5, 2) := by decide +kernel
theorem dX6_bestOrder_41 : decode cX6_bestOrder 41 = .ok (.aload_n 1, 1) := by decide +kernel
theorem dX6_bestOrder_42 : decode cX6_bestOrder 42 = .ok (.getfield 26, 3) := by decide +kernel
theorem dX6_bestOrder_45 : decode cX6_bestOrder 45 = .ok (.if_icmp .ge 54, 3) := by decide +kernel
theorem dX6_bestOrder_48 : decode cX6_bestOrder 48 = .ok (.iconst 0, 1) := by decide +kernel
theorem dX6_bestOrder_49 : decode cX6_bestOrder 49 = .ok (.istore 6, 2) := by decide +kernel
theorem dX6_bestOrder_51 : decode cX6_bestOrder 51 = .ok (.iload 6, 2) := by decide +kernel
theorem dX6_bestOrder_53 : decode cX6_bestOrder 53 = .ok (.bipush 13, 2) := by decide +kernel
theorem dX6_bestOrder_55 : decode cX6_bestOrder 55 = .ok (.if_icmp .ge 23, 3) := by decide +kernel
theorem dX6_bestOrder_58 : decode cX6_bestOrder 58 = .ok (.aload_n 0, 1) := by decide +kernel
theorem dX6_bestOrder_59 : decode cX6_bestOrder 59 = .ok (.aload_n 0, 1) := by decide +kernel
theorem dX6_bestOrder_60 : decode cX6_bestOrder 60 = .ok (.getfield 12, 3) := by decide +kernel
theorem dX6_bestOrder_63 : decode cX6_bestOrder 63 = .ok (.iload 6, 2) := by decide +kernel
theorem dX6_bestOrder_65 : decode cX6_bestOrder 65 = .ok (.iconst 0, 1) := by decide +kernel
theorem dX6_bestOrder_66 : decode cX6_bestOrder 66 = .ok (.invokevirtual 40, 3) := by decide +kernel
theorem dX6_bestOrder_69 : decode cX6_bestOrder 69 = .ok (.ifCond .ne 9, 3) := by decide +kernel
theorem dX6_bestOrder_72 : decode cX6_bestOrder 72 = .ok (.iinc 6 1, 3) := by decide +kernel
theorem dX6_bestOrder_75 : decode cX6_bestOrder 75 = .ok (.goto (-24), 3) := by decide +kernel
theorem dX6_bestOrder_78 : decode cX6_bestOrder 78 = .ok (.aload_n 2, 1) := by decide +kernel
theorem dX6_bestOrder_79 : decode cX6_bestOrder 79 = .ok (.iload 6, 2) := by decide +kernel
theorem dX6_bestOrder_81 : decode cX6_bestOrder 81 = .ok (.invokevirtual 44, 3) := by decide +kernel
theorem dX6_bestOrder_84 : decode cX6_bestOrder 84 = .ok (.aload_n 0, 1) := by decide +kernel
theorem dX6_bestOrder_85 : decode cX6_bestOrder 85 = .ok (.getfield 12, 3) := by decide +kernel
theorem dX6_bestOrder_88 : decode cX6_bestOrder 88 = .ok (.iload 6, 2) := by decide +kernel
theorem dX6_bestOrder_90 : decode cX6_bestOrder 90 = .ok (.invokevirtual 50, 3) := by decide +kernel
theorem dX6_bestOrder_93 : decode cX6_bestOrder 93 = .ok (.iinc 5 1, 3) := by decide +kernel
theorem dX6_bestOrder_96 : decode cX6_bestOrder 96 = .ok (.goto (-57), 3) := by decide +kernel
theorem dX6_bestOrder_99 : decode cX6_bestOrder 99 = .ok (.iload 4, 2) := by decide +kernel
theorem dX6_bestOrder_101 : decode cX6_bestOrder 101 = .ok (.ireturn, 1) := by decide +kernel
theorem dX6_netFits_0 : decode cX6_netFits 0 = .ok (.aload_n 0, 1) := by decide +kernel
theorem dX6_netFits_1 : decode cX6_netFits 1 = .ok (.iload_n 2, 1) := by decide +kernel
theorem dX6_netFits_2 : decode cX6_netFits 2 = .ok (.putfield 53, 3) := by decide +kernel
theorem dX6_netFits_5 : decode cX6_netFits 5 = .ok (.aload_n 0, 1) := by decide +kernel
theorem dX6_netFits_6 : decode cX6_netFits 6 = .ok (.getfield 22, 3) := by decide +kernel
theorem dX6_netFits_9 : decode cX6_netFits 9 = .ok (.lconst 0, 1) := by decide +kernel
theorem dX6_netFits_10 : decode cX6_netFits 10 = .ok (.invokestatic 56, 3) := by decide +kernel
theorem dX6_netFits_13 : decode cX6_netFits 13 = .ok (.aload_n 0, 1) := by decide +kernel
theorem dX6_netFits_14 : decode cX6_netFits 14 = .ok (.getfield 18, 3) := by decide +kernel
theorem dX6_netFits_17 : decode cX6_netFits 17 = .ok (.iconst 0, 1) := by decide +kernel
theorem dX6_netFits_18 : decode cX6_netFits 18 = .ok (.aaload, 1) := by decide +kernel
theorem dX6_netFits_19 : decode cX6_netFits 19 = .ok (.aload_n 1, 1) := by decide +kernel
theorem dX6_netFits_20 : decode cX6_netFits 20 = .ok (.invokevirtual 36, 3) := by decide +kernel
theorem dX6_netFits_23 : decode cX6_netFits 23 = .ok (.aload_n 0, 1) := by decide +kernel
theorem dX6_netFits_24 : decode cX6_netFits 24 = .ok (.iconst 0, 1) := by decide +kernel
theorem dX6_netFits_25 : decode cX6_netFits 25 = .ok (.invokevirtual 62, 3) := by decide +kernel
theorem dX6_netFits_28 : decode cX6_netFits 28 = .ok (.ireturn, 1) := by decide +kernel
theorem dX6_fitsBehind_0 : decode cX6_fitsBehind 0 = .ok (.aload_n 1, 1) := by decide +kernel
theorem dX6_fitsBehind_1 : decode cX6_fitsBehind 1 = .ok (.getfield 66, 3) := by decide +kernel
theorem dX6_fitsBehind_4 : decode cX6_fitsBehind 4 = .ok (.iload_n 2, 1) := by decide +kernel
theorem dX6_fitsBehind_5 : decode cX6_fitsBehind 5 = .ok (.invokestatic 69, 3) := by decide +kernel
theorem dX6_fitsBehind_8 : decode cX6_fitsBehind 8 = .ok (.ifCond .eq 19, 3) := by decide +kernel
theorem dX6_fitsBehind_11 : decode cX6_fitsBehind 11 = .ok (.aload_n 1, 1) := by decide +kernel
theorem dX6_fitsBehind_12 : decode cX6_fitsBehind 12 = .ok (.getfield 73, 3) := by decide +kernel
theorem dX6_fitsBehind_15 : decode cX6_fitsBehind 15 = .ok (.iload_n 2, 1) := by decide +kernel
theorem dX6_fitsBehind_16 : decode cX6_fitsBehind 16 = .ok (.iaload, 1) := by decide +kernel
theorem dX6_fitsBehind_17 : decode cX6_fitsBehind 17 = .ok (.invokestatic 77, 3) := by decide +kernel
theorem dX6_fitsBehind_20 : decode cX6_fitsBehind 20 = .ok (.aload_n 0, 1) := by decide +kernel
theorem dX6_fitsBehind_21 : decode cX6_fitsBehind 21 = .ok (.getfield 53, 3) := by decide +kernel
theorem dX6_fitsBehind_24 : decode cX6_fitsBehind 24 = .ok (.if_icmp .le 5, 3) := by decide +kernel
theorem dX6_fitsBehind_27 : decode cX6_fitsBehind 27 = .ok (.iconst 0, 1) := by decide +kernel
theorem dX6_fitsBehind_28 : decode cX6_fitsBehind 28 = .ok (.ireturn, 1) := by decide +kernel
theorem dX6_fitsBehind_29 : decode cX6_fitsBehind 29 = .ok (.aload_n 0, 1) := by decide +kernel
theorem dX6_fitsBehind_30 : decode cX6_fitsBehind 30 = .ok (.getfield 18, 3) := by decide +kernel
theorem dX6_fitsBehind_33 : decode cX6_fitsBehind 33 = .ok (.iload_n 3, 1) := by decide +kernel
theorem dX6_fitsBehind_34 : decode cX6_fitsBehind 34 = .ok (.aaload, 1) := by decide +kernel
theorem dX6_fitsBehind_35 : decode cX6_fitsBehind 35 = .ok (.aload_n 1, 1) := by decide +kernel
theorem dX6_fitsBehind_36 : decode cX6_fitsBehind 36 = .ok (.invokevirtual 83, 3) := by decide +kernel
theorem dX6_fitsBehind_39 : decode cX6_fitsBehind 39 = .ok (.aload_n 0, 1) := by decide +kernel
theorem dX6_fitsBehind_40 : decode cX6_fitsBehind 40 = .ok (.getfield 18, 3) := by decide +kernel
theorem dX6_fitsBehind_43 : decode cX6_fitsBehind 43 = .ok (.iload_n 3, 1) := by decide +kernel
theorem dX6_fitsBehind_44 : decode cX6_fitsBehind 44 = .ok (.aaload, 1) := by decide +kernel
theorem dX6_fitsBehind_45 : decode cX6_fitsBehind 45 = .ok (.iload_n 2, 1) := by decide +kernel
theorem dX6_fitsBehind_46 : decode cX6_fitsBehind 46 = .ok (.invokevirtual 50, 3) := by decide +kernel
theorem dX6_fitsBehind_49 : decode cX6_fitsBehind 49 = .ok (.aload_n 0, 1) := by decide +kernel
theorem dX6_fitsBehind_50 : decode cX6_fitsBehind 50 = .ok (.iload_n 3, 1) := by decide +kernel
theorem dX6_fitsBehind_51 : decode cX6_fitsBehind 51 = .ok (.invokevirtual 62, 3) := by decide +kernel
theorem dX6_fitsBehind_54 : decode cX6_fitsBehind 54 = .ok (.ireturn, 1) := by decide +kernel
theorem dX6_fits_0 : decode cX6_fits 0 = .ok (.aload_n 0, 1) := by decide +kernel
theorem dX6_fits_1 : decode cX6_fits 1 = .ok (.getfield 18, 3) := by decide +kernel
theorem dX6_fits_4 : decode cX6_fits 4 = .ok (.iload_n 1, 1) := by decide +kernel
theorem dX6_fits_5 : decode cX6_fits 5 = .ok (.aaload, 1) := by decide +kernel
theorem dX6_fits_6 : decode cX6_fits 6 = .ok (.astore_n 2, 1) := by decide +kernel
theorem dX6_fits_7 : decode cX6_fits 7 = .ok (.iconst 0, 1) := by decide +kernel
theorem dX6_fits_8 : decode cX6_fits 8 = .ok (.istore_n 3, 1) := by decide +kernel
theorem dX6_fits_9 : decode cX6_fits 9 = .ok (.iload_n 3, 1) := by decide +kernel
theorem dX6_fits_10 : decode cX6_fits 10 = .ok (.bipush 14, 2) := by decide +kernel
theorem dX6_fits_12 : decode cX6_fits 12 = .ok (.if_icmp .ge 34, 3) := by decide +kernel
theorem dX6_fits_15 : decode cX6_fits 15 = .ok (.aload_n 2, 1) := by decide +kernel
theorem dX6_fits_16 : decode cX6_fits 16 = .ok (.aload_n 0, 1) := by decide +kernel
theorem dX6_fits_17 : decode cX6_fits 17 = .ok (.getfield 53, 3) := by decide +kernel
theorem dX6_fits_20 : decode cX6_fits 20 = .ok (.invokevirtual 87, 3) := by decide +kernel
theorem dX6_fits_23 : decode cX6_fits 23 = .ok (.istore 4, 2) := by decide +kernel
theorem dX6_fits_25 : decode cX6_fits 25 = .ok (.iload 4, 2) := by decide +kernel
theorem dX6_fits_27 : decode cX6_fits 27 = .ok (.iconst (-1), 1) := by decide +kernel
theorem dX6_fits_28 : decode cX6_fits 28 = .ok (.if_icmp .ne 6, 3) := by decide +kernel
theorem dX6_fits_31 : decode cX6_fits 31 = .ok (.goto 15, 3) := by decide +kernel
theorem dX6_fits_34 : decode cX6_fits 34 = .ok (.aload_n 2, 1) := by decide +kernel
theorem dX6_fits_35 : decode cX6_fits 35 = .ok (.iload 4, 2) := by decide +kernel
theorem dX6_fits_37 : decode cX6_fits 37 = .ok (.invokevirtual 50, 3) := by decide +kernel
theorem dX6_fits_40 : decode cX6_fits 40 = .ok (.iinc 3 1, 3) := by decide +kernel
theorem dX6_fits_43 : decode cX6_fits 43 = .ok (.goto (-34), 3) := by decide +kernel
theorem dX6_fits_46 : decode cX6_fits 46 = .ok (.aload_n 2, 1) := by decide +kernel
theorem dX6_fits_47 : decode cX6_fits 47 = .ok (.getfield 66, 3) := by decide +kernel
theorem dX6_fits_50 : decode cX6_fits 50 = .ok (.invokestatic 77, 3) := by decide +kernel
theorem dX6_fits_53 : decode cX6_fits 53 = .ok (.aload_n 0, 1) := by decide +kernel
theorem dX6_fits_54 : decode cX6_fits 54 = .ok (.getfield 53, 3) := by decide +kernel
theorem dX6_fits_57 : decode cX6_fits 57 = .ok (.iconst 1, 1) := by decide +kernel
theorem dX6_fits_58 : decode cX6_fits 58 = .ok (.iadd, 1) := by decide +kernel
theorem dX6_fits_59 : decode cX6_fits 59 = .ok (.if_icmp .gt 5, 3) := by decide +kernel
theorem dX6_fits_62 : decode cX6_fits 62 = .ok (.iconst 1, 1) := by decide +kernel
theorem dX6_fits_63 : decode cX6_fits 63 = .ok (.ireturn, 1) := by decide +kernel
theorem dX6_fits_64 : decode cX6_fits 64 = .ok (.iload_n 1, 1) := by decide +kernel
theorem dX6_fits_65 : decode cX6_fits 65 = .ok (.iconst 1, 1) := by decide +kernel
theorem dX6_fits_66 : decode cX6_fits 66 = .ok (.iadd, 1) := by decide +kernel
theorem dX6_fits_67 : decode cX6_fits 67 = .ok (.aload_n 0, 1) := by decide +kernel
theorem dX6_fits_68 : decode cX6_fits 68 = .ok (.getfield 18, 3) := by decide +kernel
theorem dX6_fits_71 : decode cX6_fits 71 = .ok (.arraylength, 1) := by decide +kernel
theorem dX6_fits_72 : decode cX6_fits 72 = .ok (.if_icmp .ge 14, 3) := by decide +kernel
theorem dX6_fits_75 : decode cX6_fits 75 = .ok (.aload_n 0, 1) := by decide +kernel
theorem dX6_fits_76 : decode cX6_fits 76 = .ok (.aload_n 2, 1) := by decide +kernel
theorem dX6_fits_77 : decode cX6_fits 77 = .ok (.getfield 66, 3) := by decide +kernel
theorem dX6_fits_80 : decode cX6_fits 80 = .ok (.invokevirtual 90, 3) := by decide +kernel
theorem dX6_fits_83 : decode cX6_fits 83 = .ok (.ifCond .eq 5, 3) := by decide +kernel
theorem dX6_fits_86 : decode cX6_fits 86 = .ok (.iconst 0, 1) := by decide +kernel
theorem dX6_fits_87 : decode cX6_fits 87 = .ok (.ireturn, 1) := by decide +kernel
theorem dX6_fits_88 : decode cX6_fits 88 = .ok (.iconst 0, 1) := by decide +kernel
theorem dX6_fits_89 : decode cX6_fits 89 = .ok (.istore_n 3, 1) := by decide +kernel
theorem dX6_fits_90 : decode cX6_fits 90 = .ok (.iload_n 3, 1) := by decide +kernel
theorem dX6_fits_91 : decode cX6_fits 91 = .ok (.bipush 14, 2) := by decide +kernel
theorem dX6_fits_93 : decode cX6_fits 93 = .ok (.if_icmp .ge 23, 3) := by decide +kernel
theorem dX6_fits_96 : decode cX6_fits 96 = .ok (.aload_n 0, 1) := by decide +kernel
theorem dX6_fits_97 : decode cX6_fits 97 = .ok (.aload_n 2, 1) := by decide +kernel
theorem dX6_fits_98 : decode cX6_fits 98 = .ok (.iload_n 3, 1) := by decide +kernel
theorem dX6_fits_99 : decode cX6_fits 99 = .ok (.iload_n 1, 1) := by decide +kernel
theorem dX6_fits_100 : decode cX6_fits 100 = .ok (.iconst 1, 1) := by decide +kernel
theorem dX6_fits_101 : decode cX6_fits 101 = .ok (.iadd, 1) := by decide +kernel
theorem dX6_fits_102 : decode cX6_fits 102 = .ok (.invokevirtual 40, 3) := by decide +kernel
theorem dX6_fits_105 : decode cX6_fits 105 = .ok (.ifCond .eq 5, 3) := by decide +kernel
theorem dX6_fits_108 : decode cX6_fits 108 = .ok (.iconst 1, 1) := by decide +kernel
theorem dX6_fits_109 : decode cX6_fits 109 = .ok (.ireturn, 1) := by decide +kernel
theorem dX6_fits_110 : decode cX6_fits 110 = .ok (.iinc 3 1, 3) := by decide +kernel
theorem dX6_fits_113 : decode cX6_fits 113 = .ok (.goto (-23), 3) := by decide +kernel
theorem dX6_fits_116 : decode cX6_fits 116 = .ok (.aload_n 0, 1) := by decide +kernel
theorem dX6_fits_117 : decode cX6_fits 117 = .ok (.getfield 22, 3) := by decide +kernel
theorem dX6_fits_120 : decode cX6_fits 120 = .ok (.aload_n 2, 1) := by decide +kernel
theorem dX6_fits_121 : decode cX6_fits 121 = .ok (.getfield 66, 3) := by decide +kernel
theorem dX6_fits_124 : decode cX6_fits 124 = .ok (.bipush 6, 2) := by decide +kernel
theorem dX6_fits_126 : decode cX6_fits 126 = .ok (.ishr, 1) := by decide +kernel
theorem dX6_fits_127 : decode cX6_fits 127 = .ok (.dup2, 1) := by decide +kernel
theorem dX6_fits_128 : decode cX6_fits 128 = .ok (.laload, 1) := by decide +kernel
theorem dX6_fits_129 : decode cX6_fits 129 = .ok (.lconst 1, 1) := by decide +kernel
theorem dX6_fits_130 : decode cX6_fits 130 = .ok (.aload_n 2, 1) := by decide +kernel
theorem dX6_fits_131 : decode cX6_fits 131 = .ok (.getfield 66, 3) := by decide +kernel
theorem dX6_fits_134 : decode cX6_fits 134 = .ok (.bipush 63, 2) := by decide +kernel
theorem dX6_fits_136 : decode cX6_fits 136 = .ok (.iand, 1) := by decide +kernel
theorem dX6_fits_137 : decode cX6_fits 137 = .ok (.lshl, 1) := by decide +kernel
theorem dX6_fits_138 : decode cX6_fits 138 = .ok (.lor, 1) := by decide +kernel
theorem dX6_fits_139 : decode cX6_fits 139 = .ok (.lastore, 1) := by decide +kernel
theorem dX6_fits_140 : decode cX6_fits 140 = .ok (.iconst 0, 1) := by decide +kernel
theorem dX6_fits_141 : decode cX6_fits 141 = .ok (.ireturn, 1) := by decide +kernel
theorem dX6_isStuck_0 : decode cX6_isStuck 0 = .ok (.aload_n 0, 1) := by decide +kernel
theorem dX6_isStuck_1 : decode cX6_isStuck 1 = .ok (.getfield 22, 3) := by decide +kernel
theorem dX6_isStuck_4 : decode cX6_isStuck 4 = .ok (.iload_n 1, 1) := by decide +kernel
theorem dX6_isStuck_5 : decode cX6_isStuck 5 = .ok (.bipush 6, 2) := by decide +kernel
theorem dX6_isStuck_7 : decode cX6_isStuck 7 = .ok (.ishr, 1) := by decide +kernel
theorem dX6_isStuck_8 : decode cX6_isStuck 8 = .ok (.laload, 1) := by decide +kernel
theorem dX6_isStuck_9 : decode cX6_isStuck 9 = .ok (.iload_n 1, 1) := by decide +kernel
theorem dX6_isStuck_10 : decode cX6_isStuck 10 = .ok (.bipush 63, 2) := by decide +kernel
theorem dX6_isStuck_12 : decode cX6_isStuck 12 = .ok (.iand, 1) := by decide +kernel
theorem dX6_isStuck_13 : decode cX6_isStuck 13 = .ok (.lshr, 1) := by decide +kernel
theorem dX6_isStuck_14 : decode cX6_isStuck 14 = .ok (.lconst 1, 1) := by decide +kernel
theorem dX6_isStuck_15 : decode cX6_isStuck 15 = .ok (.land, 1) := by decide +kernel
theorem dX6_isStuck_16 : decode cX6_isStuck 16 = .ok (.lconst 0, 1) := by decide +kernel
theorem dX6_isStuck_17 : decode cX6_isStuck 17 = .ok (.lcmp, 1) := by decide +kernel
theorem dX6_isStuck_18 : decode cX6_isStuck 18 = .ok (.ifCond .eq 7, 3) := by decide +kernel
theorem dX6_isStuck_21 : decode cX6_isStuck 21 = .ok (.iconst 1, 1) := by decide +kernel
theorem dX6_isStuck_22 : decode cX6_isStuck 22 = .ok (.goto 4, 3) := by decide +kernel
theorem dX6_isStuck_25 : decode cX6_isStuck 25 = .ok (.iconst 0, 1) := by decide +kernel
theorem dX6_isStuck_26 : decode cX6_isStuck 26 = .ok (.ireturn, 1) := by decide +kernel
def f_X6_isStuck (a1 : Int32) (t_stuck : Nat → Int64) : Option (Int32) :=
  ldA t_stuck 256 (a1 >>> ((6 : Int32) &&& 31)) fun v1 =>
  if (lg_cmp ((v1 >>> (((a1 &&& (63 : Int32))).toInt64 &&& 63)) &&& (1 : Int64)) (0 : Int64)) = 0 then
    some ((0 : Int32))
  else
    some ((1 : Int32))

set_option maxRecDepth 100000 in
set_option maxHeartbeats 1000000 in
theorem c_X6_isStuck (l : Launch) (cA : Nat → ClassId) (q_t : Nat) (q_t_rest : Nat) (q_t_levels : Nat) (t_limit : Int32) (q_t_stuck : Nat) (t_stuck : Nat → Int64)  (a1 : Int32) (r : Int32) (hf : f_X6_isStuck a1 t_stuck = some r) : MT l cA yX6_isStuck cX6_isStuck 2 (some .boolean) ({ frames := 0, cells := 0, slots := 0, locals := 0 } : Room) [.ref q_t, .int a1] [oB q_t 6 [.ref q_t_rest, .ref q_t_levels, .ref q_t_stuck, .int t_limit], aJ cA q_t_stuck 256 t_stuck] (sB (some (.int r)) [oB q_t 6 [.ref q_t_rest, .ref q_t_levels, .ref q_t_stuck, .int t_limit], aJ cA q_t_stuck 256 t_stuck]) := by
  refine MT.of (by decide) (Nat.le_of_ble_eq_true rfl) ?_
  intro X hXl C F hnm hrc hrs
  subst hXl
  unfold f_X6_isStuck at hf
  have C : Cx X cX6_isStuck RX6 (some .boolean) cA 0 0 2 := C
  show Go X 2 0 0 0 [oB q_t 6 [.ref q_t_rest, .ref q_t_levels, .ref q_t_stuck, .int t_limit], aJ cA q_t_stuck 256 t_stuck] [(0, .ref q_t), (1, .int a1)] []
  refine g_aload_n C 0 0 dX6_isStuck_0 rfl rfl ?_
  refine g_get C 1 0 2 dX6_isStuck_1 inX6 rfl rfl (by decide) kw_141 rfl ?_
  refine g_iload_n C 4 1 dX6_isStuck_4 rfl rfl ?_
  refine g_bipush C 5 (6 : Int32) dX6_isStuck_5 (by decide) ?_
  refine g_ishr C 7 dX6_isStuck_7 ?_
  refine g_lald C 8 1 dX6_isStuck_8 rfl hf (fun v1 hf => ?_)
  refine g_iload_n C 9 1 dX6_isStuck_9 rfl rfl ?_
  refine g_bipush C 10 (63 : Int32) dX6_isStuck_10 (by decide) ?_
  refine g_iand C 12 dX6_isStuck_12 ?_
  refine g_lshr C 13 dX6_isStuck_13 ?_
  refine g_lconst C 14 (1 : Int64) dX6_isStuck_14 (by decide) ?_
  refine g_land C 15 dX6_isStuck_15 ?_
  refine g_lconst C 16 (0 : Int64) dX6_isStuck_16 (by decide) ?_
  refine g_lcmp C 17 dX6_isStuck_17 ?_
  refine g_if_eq C 18 25 dX6_isStuck_18 (by decide) hf (fun hf => ?_) (fun hf => ?_)
  · refine g_iconst C 25 (0 : Int32) dX6_isStuck_25 (by decide) ?_
    cases hf
    exact g_zret C 26 dX6_isStuck_26 (by decide) F ⟨rfl, rfl⟩
  · refine g_iconst C 21 (1 : Int32) dX6_isStuck_21 (by decide) ?_
    refine g_goto C 22 26 dX6_isStuck_22 (by decide) ?_
    cases hf
    exact g_zret C 26 dX6_isStuck_26 (by decide) F ⟨rfl, rfl⟩

/-- the contract of fits, of any function FF -/
def FitsOK (l : Launch) (cA : Nat → ClassId) (q_t q_t_rest q_t_rest_near q_t_levels q_t_stuck : Nat) (ad an : Nat → Nat) (fd ld : Nat) (FF : Int32 → Int32 → (Nat → Int64) → (Nat → Int32) → (Nat → Int32) → (Nat → Nat → Int32) → Option (Int32 × (Nat → Int64) × (Nat → Int32) × (Nat → Int32) × (Nat → Nat → Int32))) : Prop :=
  ∀ (t_limit t_rest_left t_rest_newEnds : Int32) (t_rest_near : Nat → Int32) (t_stuck : Nat → Int64) (lf ne : Nat → Int32) (nr : Nat → Nat → Int32) (a1 : Int32) (r : Int32 × (Nat → Int64) × (Nat → Int32) × (Nat → Int32) × (Nat → Nat → Int32)), FF a1 t_limit t_stuck lf ne nr = some r → MT l cA yX6_fits cX6_fits 5 (some .boolean) ({ frames := fd, cells := 0, slots := 0, locals := ld } : Room) [.ref q_t, .int a1] ([oB q_t 6 [.ref q_t_rest, .ref q_t_levels, .ref q_t_stuck, .int t_limit], oB q_t_rest 1 [.ref q_t_rest_near, .int t_rest_left, .int t_rest_newEnds], aI cA q_t_rest_near 14 t_rest_near, aG cA q_t_levels 15 (fun i => some (ad i)), aJ cA q_t_stuck 256 t_stuck] ++ lvW cA ad an lf ne nr) (sB (some (.int r.1)) ([oB q_t 6 [.ref q_t_rest, .ref q_t_levels, .ref q_t_stuck, .int t_limit], oB q_t_rest 1 [.ref q_t_rest_near, .int t_rest_left, .int t_rest_newEnds], aI cA q_t_rest_near 14 t_rest_near, aG cA q_t_levels 15 (fun i => some (ad i)), aJ cA q_t_stuck 256 r.2.1] ++ lvW cA ad an r.2.2.1 r.2.2.2.1 r.2.2.2.2))
def f_X6_fitsBehindL (FF : Int32 → Int32 → (Nat → Int64) → (Nat → Int32) → (Nat → Int32) → (Nat → Nat → Int32) → Option (Int32 × (Nat → Int64) × (Nat → Int32) × (Nat → Int32) × (Nat → Nat → Int32))) (J : Nat) (a2 : Int32) (a3 : Int32) (t_limit : Int32) (t_stuck : Nat → Int64) (lf : Nat → Int32) (ne : Nat → Int32) (nr : Nat → Nat → Int32) : Option (Int32 × (Nat → Int64) × (Nat → Int32) × (Nat → Int32) × (Nat → Nat → Int32)) :=
  cal (f_X8_hasBit (lf J) a2) fun u1 =>
  if u1 = 0 then
    some ((0 : Int32), t_stuck, lf, ne, nr)
  else
    ldA (nr J) 14 a2 fun v2 =>
    cal (f_J6_bitCount_0f7a4 v2) fun u3 =>
    if u3 ≤ t_limit then
      ckI a3 15 <|
      chk (J ≠ a3.toNatClampNeg) <|
      cal (f_X1_startAs (lf a3.toNatClampNeg) (ne a3.toNatClampNeg) (nr a3.toNatClampNeg) (lf J) (ne J) (nr J)) fun u4 =>
      ckI a3 15 <|
      cal (f_X1_letGo a2 ((upd lf a3.toNatClampNeg u4.1) a3.toNatClampNeg) ((upd ne a3.toNatClampNeg u4.2.1) a3.toNatClampNeg) ((va_up nr a3.toNatClampNeg u4.2.2) a3.toNatClampNeg)) fun u5 =>
      cal (FF a3 t_limit t_stuck (upd (upd lf a3.toNatClampNeg u4.1) a3.toNatClampNeg u5.1) (upd (upd ne a3.toNatClampNeg u4.2.1) a3.toNatClampNeg u5.2.1) (va_up (va_up nr a3.toNatClampNeg u4.2.2) a3.toNatClampNeg u5.2.2)) fun u6 =>
      chk (u6.1 = 0 ∨ u6.1 = 1) (some (u6.1, u6.2.1, u6.2.2.1, u6.2.2.2.1, u6.2.2.2.2))
    else
      some ((0 : Int32), t_stuck, lf, ne, nr)

set_option maxRecDepth 100000 in
set_option maxHeartbeats 1000000 in
theorem c_X6_fitsBehindL (l : Launch) (cA : Nat → ClassId) (q_t : Nat) (t_limit : Int32) (q_t_rest : Nat) (t_rest_left : Int32) (t_rest_newEnds : Int32) (q_t_rest_near : Nat) (t_rest_near : Nat → Int32) (q_t_levels : Nat) (q_t_stuck : Nat) (t_stuck : Nat → Int64) (ad : Nat → Nat) (an : Nat → Nat) (lf : Nat → Int32) (ne : Nat → Int32) (nr : Nat → Nat → Int32) (fd ld : Nat) (FF : Int32 → Int32 → (Nat → Int64) → (Nat → Int32) → (Nat → Int32) → (Nat → Nat → Int32) → Option (Int32 × (Nat → Int64) × (Nat → Int32) × (Nat → Int32) × (Nat → Nat → Int32))) (hFF : FitsOK l cA q_t q_t_rest q_t_rest_near q_t_levels q_t_stuck ad an fd ld FF) (J : Nat) (hJ : J < 15) (a2 : Int32) (a3 : Int32) (r : Int32 × (Nat → Int64) × (Nat → Int32) × (Nat → Int32) × (Nat → Nat → Int32)) (hf : f_X6_fitsBehindL FF J a2 a3 t_limit t_stuck lf ne nr = some r) : MT l cA yX6_fitsBehind cX6_fitsBehind 4 (some .boolean) ({ frames := (fd + 6), cells := 0, slots := 0, locals := (ld + 200) } : Room) [.ref q_t, .ref (ad J), .int a2, .int a3] ([oB q_t 6 [.ref q_t_rest, .ref q_t_levels, .ref q_t_stuck, .int t_limit], oB q_t_rest 1 [.ref q_t_rest_near, .int t_rest_left, .int t_rest_newEnds], aI cA q_t_rest_near 14 t_rest_near, aG cA q_t_levels 15 (fun i => some (ad i)), aJ cA q_t_stuck 256 t_stuck] ++ lvW cA ad an lf ne nr) (sB (some (.int r.1)) ([oB q_t 6 [.ref q_t_rest, .ref q_t_levels, .ref q_t_stuck, .int t_limit], oB q_t_rest 1 [.ref q_t_rest_near, .int t_rest_left, .int t_rest_newEnds], aI cA q_t_rest_near 14 t_rest_near, aG cA q_t_levels 15 (fun i => some (ad i)), aJ cA q_t_stuck 256 r.2.1] ++ lvW cA ad an r.2.2.1 r.2.2.2.1 r.2.2.2.2)) := by
  refine MT.of (by decide) (Nat.le_of_ble_eq_true rfl) ?_
  intro X hXl C F hnm hrc hrs
  subst hXl
  unfold f_X6_fitsBehindL at hf
  have C : Cx X cX6_fitsBehind RX6 (some .boolean) cA (fd + 6) (ld + 200) 4 := C
  show Go X 4 0 0 0 ([oB q_t 6 [.ref q_t_rest, .ref q_t_levels, .ref q_t_stuck, .int t_limit], oB q_t_rest 1 [.ref q_t_rest_near, .int t_rest_left, .int t_rest_newEnds], aI cA q_t_rest_near 14 t_rest_near, aG cA q_t_levels 15 (fun i => some (ad i)), aJ cA q_t_stuck 256 t_stuck] ++ lvW cA ad an lf ne nr) [(0, .ref q_t), (1, .ref (ad J)), (2, .int a2), (3, .int a3)] []
  refine g_aload_n C 0 1 dX6_fitsBehind_0 rfl rfl ?_
  refine g_get C 1 (5 + 2 * J) 1 dX6_fitsBehind_1 inX1 (fam_o rfl hJ) rfl (by decide) kw_456 rfl ?_
  refine g_iload_n C 4 2 dX6_fitsBehind_4 rfl rfl ?_
  obtain ⟨u1, hu1, hf⟩ := cal_some hf
  refine g_callSN0 C 5 (rest := []) dX6_fitsBehind_5 (c_X8_hasBit (x_l X) cA  (lf J) a2 u1 hu1) (List.mem_of_getElem? (i := 11) rfl) kw_5 kw_6 kw_7 ok_X8_hasBit ⟨by dsimp only; omega, by dsimp only; omega⟩ ⟨Nat.zero_le _, Nat.zero_le _⟩ ⟨rfl, rfl⟩ rfl (Nat.le_of_ble_eq_true rfl) (st' := [.int u1]) rfl ?_
  refine g_if_eq C 8 27 dX6_fitsBehind_8 (by decide) hf (fun hf => ?_) (fun hf => ?_)
  · refine g_iconst C 27 (0 : Int32) dX6_fitsBehind_27 (by decide) ?_
    cases hf
    exact g_zret C 28 dX6_fitsBehind_28 (by decide) F ⟨rfl, rfl⟩
  · refine g_aload_n C 11 1 dX6_fitsBehind_11 rfl rfl ?_
    refine g_get C 12 (5 + 2 * J) 0 dX6_fitsBehind_12 inX1 (fam_o rfl hJ) rfl (by decide) kw_457 rfl ?_
    refine g_iload_n C 15 2 dX6_fitsBehind_15 rfl rfl ?_
    refine g_iald C 16 (5 + 2 * J + 1) dX6_fitsBehind_16 (fam_a rfl hJ) hf (fun v2 hf => ?_)
    obtain ⟨u3, hu3, hf⟩ := cal_some hf
    refine g_callSB C 17 [] (rest := []) (P' := [oB q_t 6 [.ref q_t_rest, .ref q_t_levels, .ref q_t_stuck, .int t_limit], oB q_t_rest 1 [.ref q_t_rest_near, .int t_rest_left, .int t_rest_newEnds], aI cA q_t_rest_near 14 t_rest_near, aG cA q_t_levels 15 (fun i => some (ad i)), aJ cA q_t_stuck 256 t_stuck]) dX6_fitsBehind_17 (c_J6_bitCount_0f7a4 (x_l X) cA  v2 u3 hu3) kw_458 kw_20 kw_21 kw_22 ok_J6_bitCount_0f7a4 ⟨by dsimp only; omega, by dsimp only; omega⟩ ⟨Nat.zero_le _, Nat.zero_le _⟩ ⟨rfl, rfl⟩ rfl rfl rfl (Nat.le_of_ble_eq_true rfl) rfl (N0 := 5) rfl [none, none, none, none, none] (by decide) rfl (st' := [.int u3]) rfl ?_
    refine g_aload_n C 20 0 dX6_fitsBehind_20 rfl rfl ?_
    refine g_get C 21 0 3 dX6_fitsBehind_21 inX6 rfl rfl (by decide) kw_459 rfl ?_
    refine g_icmp_le C 24 29 dX6_fitsBehind_24 (by decide) hf (fun hf => ?_) (fun hf => ?_)
    · refine g_aload_n C 29 0 dX6_fitsBehind_29 rfl rfl ?_
      refine g_get C 30 0 1 dX6_fitsBehind_30 inX6 rfl rfl (by decide) kw_460 rfl ?_
      refine g_iload_n C 33 3 dX6_fitsBehind_33 rfl rfl ?_
      refine g_ald C 34 3 dX6_fitsBehind_34 rfl hf (fun hj4 hf => ?_)
      obtain ⟨hne, hf⟩ := chk_some hf
      refine g_aload_n C 35 1 dX6_fitsBehind_35 rfl rfl ?_
      obtain ⟨u4, hu4, hf⟩ := cal_some hf
      refine g_callP C 36 [(5 + 2 * a3.toNatClampNeg), (5 + 2 * a3.toNatClampNeg + 1), (5 + 2 * J), (5 + 2 * J + 1)] (5 + 2 * a3.toNatClampNeg) (rest := []) (ws' := ([oB q_t 6 [.ref q_t_rest, .ref q_t_levels, .ref q_t_stuck, .int t_limit], oB q_t_rest 1 [.ref q_t_rest_near, .int t_rest_left, .int t_rest_newEnds], aI cA q_t_rest_near 14 t_rest_near, aG cA q_t_levels 15 (fun i => some (ad i)), aJ cA q_t_stuck 256 t_stuck] ++ lvW cA ad an (upd lf a3.toNatClampNeg u4.1) (upd ne a3.toNatClampNeg u4.2.1) (va_up nr a3.toNatClampNeg u4.2.2))) dX6_fitsBehind_36 (c_X1_startAs (x_l X) cA (ad a3.toNatClampNeg) (lf a3.toNatClampNeg) (ne a3.toNatClampNeg) (an a3.toNatClampNeg) (nr a3.toNatClampNeg) (ad J) (lf J) (ne J) (an J) (nr J)  u4 hu4) kw_461 kw_462 kw_463 kw_16 kw_464 ok_X1_startAs ⟨by dsimp only; omega, by dsimp only; omega⟩ ⟨Nat.zero_le _, Nat.zero_le _⟩ ⟨rfl, rfl⟩ (fam_o rfl hj4) rfl (fam_C2 rfl hj4 (fam_C rfl hJ)) (nd4 hne) rfl (Nat.le_of_ble_eq_true rfl) rfl (fam_sub rfl hj4 (fam_C rfl hJ) (nd4 hne)) (st' := []) rfl ?_
      refine g_aload_n C 39 0 dX6_fitsBehind_39 rfl rfl ?_
      refine g_get C 40 0 1 dX6_fitsBehind_40 inX6 rfl rfl (by decide) kw_460 rfl ?_
      refine g_iload_n C 43 3 dX6_fitsBehind_43 rfl rfl ?_
      refine g_ald C 44 3 dX6_fitsBehind_44 rfl hf (fun hj4 hf => ?_)
      refine g_iload_n C 45 2 dX6_fitsBehind_45 rfl rfl ?_
      obtain ⟨u5, hu5, hf⟩ := cal_some hf
      refine g_callP C 46 [(5 + 2 * a3.toNatClampNeg), (5 + 2 * a3.toNatClampNeg + 1)] (5 + 2 * a3.toNatClampNeg) (rest := []) (ws' := ([oB q_t 6 [.ref q_t_rest, .ref q_t_levels, .ref q_t_stuck, .int t_limit], oB q_t_rest 1 [.ref q_t_rest_near, .int t_rest_left, .int t_rest_newEnds], aI cA q_t_rest_near 14 t_rest_near, aG cA q_t_levels 15 (fun i => some (ad i)), aJ cA q_t_stuck 256 t_stuck] ++ lvW cA ad an (upd (upd lf a3.toNatClampNeg u4.1) a3.toNatClampNeg u5.1) (upd (upd ne a3.toNatClampNeg u4.2.1) a3.toNatClampNeg u5.2.1) (va_up (va_up nr a3.toNatClampNeg u4.2.2) a3.toNatClampNeg u5.2.2))) dX6_fitsBehind_46 (c_X1_letGo (x_l X) cA (ad a3.toNatClampNeg) ((upd lf a3.toNatClampNeg u4.1) a3.toNatClampNeg) ((upd ne a3.toNatClampNeg u4.2.1) a3.toNatClampNeg) (an a3.toNatClampNeg) ((va_up nr a3.toNatClampNeg u4.2.2) a3.toNatClampNeg) a2 u5 hu5) kw_465 kw_32 kw_33 kw_16 kw_34 ok_X1_letGo ⟨by dsimp only; omega, by dsimp only; omega⟩ ⟨Nat.zero_le _, Nat.zero_le _⟩ ⟨rfl, rfl⟩ (fam_o rfl hj4) rfl (fam_C rfl hj4) nd2 rfl (Nat.le_of_ble_eq_true rfl) rfl (fam_sub (is := []) (wc := []) rfl hj4 rfl nd2) (st' := []) rfl ?_
      refine g_aload_n C 49 0 dX6_fitsBehind_49 rfl rfl ?_
      refine g_iload_n C 50 3 dX6_fitsBehind_50 rfl rfl ?_
      obtain ⟨u6, hu6, hf⟩ := cal_some hf
      refine g_callT C 51 [0, 1, 2, 3, 4] 0 (rest := []) (P' := [oB q_t 6 [.ref q_t_rest, .ref q_t_levels, .ref q_t_stuck, .int t_limit], oB q_t_rest 1 [.ref q_t_rest_near, .int t_rest_left, .int t_rest_newEnds], aI cA q_t_rest_near 14 t_rest_near, aG cA q_t_levels 15 (fun i => some (ad i)), aJ cA q_t_stuck 256 u6.2.1]) (S1 := lvW cA ad an u6.2.2.1 u6.2.2.2.1 u6.2.2.2.2) dX6_fitsBehind_51 (hFF t_limit t_rest_left t_rest_newEnds t_rest_near t_stuck (upd (upd lf a3.toNatClampNeg u4.1) a3.toNatClampNeg u5.1) (upd (upd ne a3.toNatClampNeg u4.2.1) a3.toNatClampNeg u5.2.1) (va_up (va_up nr a3.toNatClampNeg u4.2.2) a3.toNatClampNeg u5.2.2) a3 u6 hu6) kw_466 kw_467 kw_468 kw_469 kw_470 ok_X6_fits ⟨by dsimp only; omega, by dsimp only; omega⟩ ⟨Nat.zero_le _, Nat.zero_le _⟩ ⟨rfl, rfl⟩ rfl rfl rfl rfl rfl (Nat.le_of_ble_eq_true rfl) rfl (lvW_len.trans lvW_len.symm) (N0 := 5) rfl [some 0, some 1, some 2, some 3, some 4] (by decide) rfl (st' := [.int u6.1]) rfl ?_
      obtain ⟨hv, hf⟩ := chk_some hf
      cases hf
      exact g_zret C 54 dX6_fitsBehind_54 hv F ⟨rfl, rfl⟩
    · refine g_iconst C 27 (0 : Int32) dX6_fitsBehind_27 (by decide) ?_
      cases hf
      exact g_zret C 28 dX6_fitsBehind_28 (by decide) F ⟨rfl, rfl⟩
def f_X6_fitsBehindR (FF : Int32 → Int32 → (Nat → Int64) → (Nat → Int32) → (Nat → Int32) → (Nat → Nat → Int32) → Option (Int32 × (Nat → Int64) × (Nat → Int32) × (Nat → Int32) × (Nat → Nat → Int32))) (a2 : Int32) (a3 : Int32) (t_limit : Int32) (t_rest_left : Int32) (t_rest_newEnds : Int32) (t_rest_near : Nat → Int32) (t_stuck : Nat → Int64) (lf : Nat → Int32) (ne : Nat → Int32) (nr : Nat → Nat → Int32) : Option (Int32 × (Nat → Int64) × (Nat → Int32) × (Nat → Int32) × (Nat → Nat → Int32)) :=
  cal (f_X8_hasBit t_rest_left a2) fun u1 =>
  if u1 = 0 then
    some ((0 : Int32), t_stuck, lf, ne, nr)
  else
    ldA t_rest_near 14 a2 fun v2 =>
    cal (f_J6_bitCount_0f7a4 v2) fun u3 =>
    if u3 ≤ t_limit then
      ckI a3 15 <|
      cal (f_X1_startAs (lf a3.toNatClampNeg) (ne a3.toNatClampNeg) (nr a3.toNatClampNeg) t_rest_left t_rest_newEnds t_rest_near) fun u4 =>
      ckI a3 15 <|
      cal (f_X1_letGo a2 ((upd lf a3.toNatClampNeg u4.1) a3.toNatClampNeg) ((upd ne a3.toNatClampNeg u4.2.1) a3.toNatClampNeg) ((va_up nr a3.toNatClampNeg u4.2.2) a3.toNatClampNeg)) fun u5 =>
      cal (FF a3 t_limit t_stuck (upd (upd lf a3.toNatClampNeg u4.1) a3.toNatClampNeg u5.1) (upd (upd ne a3.toNatClampNeg u4.2.1) a3.toNatClampNeg u5.2.1) (va_up (va_up nr a3.toNatClampNeg u4.2.2) a3.toNatClampNeg u5.2.2)) fun u6 =>
      chk (u6.1 = 0 ∨ u6.1 = 1) (some (u6.1, u6.2.1, u6.2.2.1, u6.2.2.2.1, u6.2.2.2.2))
    else
      some ((0 : Int32), t_stuck, lf, ne, nr)

set_option maxRecDepth 100000 in
set_option maxHeartbeats 1000000 in
theorem c_X6_fitsBehindR (l : Launch) (cA : Nat → ClassId) (q_t : Nat) (t_limit : Int32) (q_t_rest : Nat) (t_rest_left : Int32) (t_rest_newEnds : Int32) (q_t_rest_near : Nat) (t_rest_near : Nat → Int32) (q_t_levels : Nat) (q_t_stuck : Nat) (t_stuck : Nat → Int64) (ad : Nat → Nat) (an : Nat → Nat) (lf : Nat → Int32) (ne : Nat → Int32) (nr : Nat → Nat → Int32) (fd ld : Nat) (FF : Int32 → Int32 → (Nat → Int64) → (Nat → Int32) → (Nat → Int32) → (Nat → Nat → Int32) → Option (Int32 × (Nat → Int64) × (Nat → Int32) × (Nat → Int32) × (Nat → Nat → Int32))) (hFF : FitsOK l cA q_t q_t_rest q_t_rest_near q_t_levels q_t_stuck ad an fd ld FF) (a2 : Int32) (a3 : Int32) (r : Int32 × (Nat → Int64) × (Nat → Int32) × (Nat → Int32) × (Nat → Nat → Int32)) (hf : f_X6_fitsBehindR FF a2 a3 t_limit t_rest_left t_rest_newEnds t_rest_near t_stuck lf ne nr = some r) : MT l cA yX6_fitsBehind cX6_fitsBehind 4 (some .boolean) ({ frames := (fd + 6), cells := 0, slots := 0, locals := (ld + 200) } : Room) [.ref q_t, .ref q_t_rest, .int a2, .int a3] ([oB q_t 6 [.ref q_t_rest, .ref q_t_levels, .ref q_t_stuck, .int t_limit], oB q_t_rest 1 [.ref q_t_rest_near, .int t_rest_left, .int t_rest_newEnds], aI cA q_t_rest_near 14 t_rest_near, aG cA q_t_levels 15 (fun i => some (ad i)), aJ cA q_t_stuck 256 t_stuck] ++ lvW cA ad an lf ne nr) (sB (some (.int r.1)) ([oB q_t 6 [.ref q_t_rest, .ref q_t_levels, .ref q_t_stuck, .int t_limit], oB q_t_rest 1 [.ref q_t_rest_near, .int t_rest_left, .int t_rest_newEnds], aI cA q_t_rest_near 14 t_rest_near, aG cA q_t_levels 15 (fun i => some (ad i)), aJ cA q_t_stuck 256 r.2.1] ++ lvW cA ad an r.2.2.1 r.2.2.2.1 r.2.2.2.2)) := by
  refine MT.of (by decide) (Nat.le_of_ble_eq_true rfl) ?_
  intro X hXl C F hnm hrc hrs
  subst hXl
  unfold f_X6_fitsBehindR at hf
  have C : Cx X cX6_fitsBehind RX6 (some .boolean) cA (fd + 6) (ld + 200) 4 := C
  show Go X 4 0 0 0 ([oB q_t 6 [.ref q_t_rest, .ref q_t_levels, .ref q_t_stuck, .int t_limit], oB q_t_rest 1 [.ref q_t_rest_near, .int t_rest_left, .int t_rest_newEnds], aI cA q_t_rest_near 14 t_rest_near, aG cA q_t_levels 15 (fun i => some (ad i)), aJ cA q_t_stuck 256 t_stuck] ++ lvW cA ad an lf ne nr) [(0, .ref q_t), (1, .ref q_t_rest), (2, .int a2), (3, .int a3)] []
  refine g_aload_n C 0 1 dX6_fitsBehind_0 rfl rfl ?_
  refine g_get C 1 1 1 dX6_fitsBehind_1 inX1 rfl rfl (by decide) kw_456 rfl ?_
  refine g_iload_n C 4 2 dX6_fitsBehind_4 rfl rfl ?_
  obtain ⟨u1, hu1, hf⟩ := cal_some hf
  refine g_callSN0 C 5 (rest := []) dX6_fitsBehind_5 (c_X8_hasBit (x_l X) cA  t_rest_left a2 u1 hu1) (List.mem_of_getElem? (i := 11) rfl) kw_5 kw_6 kw_7 ok_X8_hasBit ⟨by dsimp only; omega, by dsimp only; omega⟩ ⟨Nat.zero_le _, Nat.zero_le _⟩ ⟨rfl, rfl⟩ rfl (Nat.le_of_ble_eq_true rfl) (st' := [.int u1]) rfl ?_
  refine g_if_eq C 8 27 dX6_fitsBehind_8 (by decide) hf (fun hf => ?_) (fun hf => ?_)
  · refine g_iconst C 27 (0 : Int32) dX6_fitsBehind_27 (by decide) ?_
    cases hf
    exact g_zret C 28 dX6_fitsBehind_28 (by decide) F ⟨rfl, rfl⟩
  · refine g_aload_n C 11 1 dX6_fitsBehind_11 rfl rfl ?_
    refine g_get C 12 1 0 dX6_fitsBehind_12 inX1 rfl rfl (by decide) kw_457 rfl ?_
    refine g_iload_n C 15 2 dX6_fitsBehind_15 rfl rfl ?_
    refine g_iald C 16 2 dX6_fitsBehind_16 rfl hf (fun v2 hf => ?_)
    obtain ⟨u3, hu3, hf⟩ := cal_some hf
    refine g_callSB C 17 [] (rest := []) (P' := [oB q_t 6 [.ref q_t_rest, .ref q_t_levels, .ref q_t_stuck, .int t_limit], oB q_t_rest 1 [.ref q_t_rest_near, .int t_rest_left, .int t_rest_newEnds], aI cA q_t_rest_near 14 t_rest_near, aG cA q_t_levels 15 (fun i => some (ad i)), aJ cA q_t_stuck 256 t_stuck]) dX6_fitsBehind_17 (c_J6_bitCount_0f7a4 (x_l X) cA  v2 u3 hu3) kw_458 kw_20 kw_21 kw_22 ok_J6_bitCount_0f7a4 ⟨by dsimp only; omega, by dsimp only; omega⟩ ⟨Nat.zero_le _, Nat.zero_le _⟩ ⟨rfl, rfl⟩ rfl rfl rfl (Nat.le_of_ble_eq_true rfl) rfl (N0 := 5) rfl [none, none, none, none, none] (by decide) rfl (st' := [.int u3]) rfl ?_
    refine g_aload_n C 20 0 dX6_fitsBehind_20 rfl rfl ?_
    refine g_get C 21 0 3 dX6_fitsBehind_21 inX6 rfl rfl (by decide) kw_459 rfl ?_
    refine g_icmp_le C 24 29 dX6_fitsBehind_24 (by decide) hf (fun hf => ?_) (fun hf => ?_)
    · refine g_aload_n C 29 0 dX6_fitsBehind_29 rfl rfl ?_
      refine g_get C 30 0 1 dX6_fitsBehind_30 inX6 rfl rfl (by decide) kw_460 rfl ?_
      refine g_iload_n C 33 3 dX6_fitsBehind_33 rfl rfl ?_
      refine g_ald C 34 3 dX6_fitsBehind_34 rfl hf (fun hj4 hf => ?_)
      refine g_aload_n C 35 1 dX6_fitsBehind_35 rfl rfl ?_
      obtain ⟨u4, hu4, hf⟩ := cal_some hf
      refine g_callP C 36 [(5 + 2 * a3.toNatClampNeg), (5 + 2 * a3.toNatClampNeg + 1), 1, 2] (5 + 2 * a3.toNatClampNeg) (rest := []) (ws' := ([oB q_t 6 [.ref q_t_rest, .ref q_t_levels, .ref q_t_stuck, .int t_limit], oB q_t_rest 1 [.ref q_t_rest_near, .int t_rest_left, .int t_rest_newEnds], aI cA q_t_rest_near 14 t_rest_near, aG cA q_t_levels 15 (fun i => some (ad i)), aJ cA q_t_stuck 256 t_stuck] ++ lvW cA ad an (upd lf a3.toNatClampNeg u4.1) (upd ne a3.toNatClampNeg u4.2.1) (va_up nr a3.toNatClampNeg u4.2.2))) dX6_fitsBehind_36 (c_X1_startAs (x_l X) cA (ad a3.toNatClampNeg) (lf a3.toNatClampNeg) (ne a3.toNatClampNeg) (an a3.toNatClampNeg) (nr a3.toNatClampNeg) q_t_rest t_rest_left t_rest_newEnds q_t_rest_near t_rest_near  u4 hu4) kw_461 kw_462 kw_463 kw_16 kw_464 ok_X1_startAs ⟨by dsimp only; omega, by dsimp only; omega⟩ ⟨Nat.zero_le _, Nat.zero_le _⟩ ⟨rfl, rfl⟩ (fam_o rfl hj4) rfl (fam_C2 rfl hj4 rfl) (ndb (n0 := 5) (by decide) (by decide) (by decide)) rfl (Nat.le_of_ble_eq_true rfl) rfl (fam_sub rfl hj4 rfl (ndb (n0 := 5) (by decide) (by decide) (by decide))) (st' := []) rfl ?_
      refine g_aload_n C 39 0 dX6_fitsBehind_39 rfl rfl ?_
      refine g_get C 40 0 1 dX6_fitsBehind_40 inX6 rfl rfl (by decide) kw_460 rfl ?_
      refine g_iload_n C 43 3 dX6_fitsBehind_43 rfl rfl ?_
      refine g_ald C 44 3 dX6_fitsBehind_44 rfl hf (fun hj4 hf => ?_)
      refine g_iload_n C 45 2 dX6_fitsBehind_45 rfl rfl ?_
      obtain ⟨u5, hu5, hf⟩ := cal_some hf
      refine g_callP C 46 [(5 + 2 * a3.toNatClampNeg), (5 + 2 * a3.toNatClampNeg + 1)] (5 + 2 * a3.toNatClampNeg) (rest := []) (ws' := ([oB q_t 6 [.ref q_t_rest, .ref q_t_levels, .ref q_t_stuck, .int t_limit], oB q_t_rest 1 [.ref q_t_rest_near, .int t_rest_left, .int t_rest_newEnds], aI cA q_t_rest_near 14 t_rest_near, aG cA q_t_levels 15 (fun i => some (ad i)), aJ cA q_t_stuck 256 t_stuck] ++ lvW cA ad an (upd (upd lf a3.toNatClampNeg u4.1) a3.toNatClampNeg u5.1) (upd (upd ne a3.toNatClampNeg u4.2.1) a3.toNatClampNeg u5.2.1) (va_up (va_up nr a3.toNatClampNeg u4.2.2) a3.toNatClampNeg u5.2.2))) dX6_fitsBehind_46 (c_X1_letGo (x_l X) cA (ad a3.toNatClampNeg) ((upd lf a3.toNatClampNeg u4.1) a3.toNatClampNeg) ((upd ne a3.toNatClampNeg u4.2.1) a3.toNatClampNeg) (an a3.toNatClampNeg) ((va_up nr a3.toNatClampNeg u4.2.2) a3.toNatClampNeg) a2 u5 hu5) kw_465 kw_32 kw_33 kw_16 kw_34 ok_X1_letGo ⟨by dsimp only; omega, by dsimp only; omega⟩ ⟨Nat.zero_le _, Nat.zero_le _⟩ ⟨rfl, rfl⟩ (fam_o rfl hj4) rfl (fam_C rfl hj4) nd2 rfl (Nat.le_of_ble_eq_true rfl) rfl (fam_sub (is := []) (wc := []) rfl hj4 rfl nd2) (st' := []) rfl ?_
      refine g_aload_n C 49 0 dX6_fitsBehind_49 rfl rfl ?_
      refine g_iload_n C 50 3 dX6_fitsBehind_50 rfl rfl ?_
      obtain ⟨u6, hu6, hf⟩ := cal_some hf
      refine g_callT C 51 [0, 1, 2, 3, 4] 0 (rest := []) (P' := [oB q_t 6 [.ref q_t_rest, .ref q_t_levels, .ref q_t_stuck, .int t_limit], oB q_t_rest 1 [.ref q_t_rest_near, .int t_rest_left, .int t_rest_newEnds], aI cA q_t_rest_near 14 t_rest_near, aG cA q_t_levels 15 (fun i => some (ad i)), aJ cA q_t_stuck 256 u6.2.1]) (S1 := lvW cA ad an u6.2.2.1 u6.2.2.2.1 u6.2.2.2.2) dX6_fitsBehind_51 (hFF t_limit t_rest_left t_rest_newEnds t_rest_near t_stuck (upd (upd lf a3.toNatClampNeg u4.1) a3.toNatClampNeg u5.1) (upd (upd ne a3.toNatClampNeg u4.2.1) a3.toNatClampNeg u5.2.1) (va_up (va_up nr a3.toNatClampNeg u4.2.2) a3.toNatClampNeg u5.2.2) a3 u6 hu6) kw_466 kw_467 kw_468 kw_469 kw_470 ok_X6_fits ⟨by dsimp only; omega, by dsimp only; omega⟩ ⟨Nat.zero_le _, Nat.zero_le _⟩ ⟨rfl, rfl⟩ rfl rfl rfl rfl rfl (Nat.le_of_ble_eq_true rfl) rfl (lvW_len.trans lvW_len.symm) (N0 := 5) rfl [some 0, some 1, some 2, some 3, some 4] (by decide) rfl (st' := [.int u6.1]) rfl ?_
      obtain ⟨hv, hf⟩ := chk_some hf
      cases hf
      exact g_zret C 54 dX6_fitsBehind_54 hv F ⟨rfl, rfl⟩
    · refine g_iconst C 27 (0 : Int32) dX6_fitsBehind_27 (by decide) ?_
      cases hf
      exact g_zret C 28 dX6_fitsBehind_28 (by decide) F ⟨rfl, rfl⟩
def L_X6_fitsG_90 (FF : Int32 → Int32 → (Nat → Int64) → (Nat → Int32) → (Nat → Int32) → (Nat → Nat → Int32) → Option (Int32 × (Nat → Int64) × (Nat → Int32) × (Nat → Int32) × (Nat → Nat → Int32))) (a1 : Int32) (t_limit : Int32)  : Nat → Int32 → (Nat → Int64) → (Nat → Int32) → (Nat → Int32) → (Nat → Nat → Int32) → Option (Int32 × (Nat → Int64) × (Nat → Int32) × (Nat → Int32) × (Nat → Nat → Int32))
  | 0, _, _, _, _, _ => none
  | n + 1, x3, t_stuck, lf, ne, nr =>
    if (14 : Int32) ≤ x3 then
      ldA t_stuck 256 ((lf a1.toNatClampNeg) >>> ((6 : Int32) &&& 31)) fun v5 =>
      stJ t_stuck 256 ((lf a1.toNatClampNeg) >>> ((6 : Int32) &&& 31)) (v5 ||| ((1 : Int64) <<< ((((lf a1.toNatClampNeg) &&& (63 : Int32))).toInt64 &&& 63))) fun t_stuck_6 =>
      some ((0 : Int32), t_stuck_6, lf, ne, nr)
    else
      cal (f_X6_fitsBehindL FF a1.toNatClampNeg x3 (a1 + (1 : Int32)) t_limit t_stuck lf ne nr) fun u7 =>
      if u7.1 = 0 then
        bnd (x3 + (1 : Int32)) fun x3_8 =>
        L_X6_fitsG_90 FF a1 t_limit n x3_8 u7.2.1 u7.2.2.1 u7.2.2.2.1 u7.2.2.2.2
      else
        some ((1 : Int32), u7.2.1, u7.2.2.1, u7.2.2.2.1, u7.2.2.2.2)

set_option maxRecDepth 100000 in
set_option maxHeartbeats 1000000 in
theorem w_X6_fitsG_90 (cA : Nat → ClassId) (q_t : Nat) (q_t_rest : Nat) (t_rest_left : Int32) (t_rest_newEnds : Int32) (q_t_rest_near : Nat) (t_rest_near : Nat → Int32) (q_t_levels : Nat) (q_t_stuck : Nat) (ad : Nat → Nat) (an : Nat → Nat) (FF : Int32 → Int32 → (Nat → Int64) → (Nat → Int32) → (Nat → Int32) → (Nat → Nat → Int32) → Option (Int32 × (Nat → Int64) × (Nat → Int32) × (Nat → Int32) × (Nat → Nat → Int32))) (a1 : Int32) (t_limit : Int32) {X : XT} (fd ld : Nat) (hFF : FitsOK (x_l X) cA q_t q_t_rest q_t_rest_near q_t_levels q_t_stuck ad an fd ld FF) (hj : a1.toNatClampNeg < 15) (C : Cx X cX6_fits RX6 (some .boolean) cA (fd + 12) (ld + 400) 5) (r : Int32 × (Nat → Int64) × (Nat → Int32) × (Nat → Int32) × (Nat → Nat → Int32)) (F : Fx X (sB (some (.int r.1)) ([oB q_t 6 [.ref q_t_rest, .ref q_t_levels, .ref q_t_stuck, .int t_limit], oB q_t_rest 1 [.ref q_t_rest_near, .int t_rest_left, .int t_rest_newEnds], aI cA q_t_rest_near 14 t_rest_near, aG cA q_t_levels 15 (fun i => some (ad i)), aJ cA q_t_stuck 256 r.2.1] ++ lvW cA ad an r.2.2.1 r.2.2.2.1 r.2.2.2.2)) 0 0)  : ∀ (n : Nat) (x3 : Int32) (t_stuck : Nat → Int64) (lf : Nat → Int32) (ne : Nat → Int32) (nr : Nat → Nat → Int32), L_X6_fitsG_90 FF a1 t_limit n x3 t_stuck lf ne nr = some r → Go X 5 0 0 90 ([oB q_t 6 [.ref q_t_rest, .ref q_t_levels, .ref q_t_stuck, .int t_limit], oB q_t_rest 1 [.ref q_t_rest_near, .int t_rest_left, .int t_rest_newEnds], aI cA q_t_rest_near 14 t_rest_near, aG cA q_t_levels 15 (fun i => some (ad i)), aJ cA q_t_stuck 256 t_stuck] ++ lvW cA ad an lf ne nr) [(0, .ref q_t), (1, .int a1), (2, .ref (ad a1.toNatClampNeg)), (3, .int x3)] [] := by
  intro n
  induction n with
  | zero => intro x3 t_stuck lf ne nr hf; exact no_some hf
  | succ n ih =>
    intro x3 t_stuck lf ne nr hf
    rw [L_X6_fitsG_90] at hf
    refine g_iload_n C 90 3 dX6_fits_90 rfl rfl ?_
    refine g_bipush C 91 (14 : Int32) dX6_fits_91 (by decide) ?_
    refine g_icmp_ge C 93 116 dX6_fits_93 (by decide) hf (fun hf => ?_) (fun hf => ?_)
    · refine g_aload_n C 116 0 dX6_fits_116 rfl rfl ?_
      refine g_get C 117 0 2 dX6_fits_117 inX6 rfl rfl (by decide) kw_141 rfl ?_
      refine g_aload_n C 120 2 dX6_fits_120 rfl rfl ?_
      refine g_get C 121 (5 + 2 * a1.toNatClampNeg) 1 dX6_fits_121 inX1 (fam_o rfl hj) rfl (by decide) kw_456 rfl ?_
      refine g_bipush C 124 (6 : Int32) dX6_fits_124 (by decide) ?_
      refine g_ishr C 126 dX6_fits_126 ?_
      refine g_dup2 C 127 dX6_fits_127 rfl rfl ?_
      refine g_lald C 128 4 dX6_fits_128 rfl hf (fun v5 hf => ?_)
      refine g_lconst C 129 (1 : Int64) dX6_fits_129 (by decide) ?_
      refine g_aload_n C 130 2 dX6_fits_130 rfl rfl ?_
      refine g_get C 131 (5 + 2 * a1.toNatClampNeg) 1 dX6_fits_131 inX1 (fam_o rfl hj) rfl (by decide) kw_456 rfl ?_
      refine g_bipush C 134 (63 : Int32) dX6_fits_134 (by decide) ?_
      refine g_iand C 136 dX6_fits_136 ?_
      refine g_lshl C 137 dX6_fits_137 ?_
      refine g_lor C 138 dX6_fits_138 ?_
      refine g_last C 139 4 (fun z => ([oB q_t 6 [.ref q_t_rest, .ref q_t_levels, .ref q_t_stuck, .int t_limit], oB q_t_rest 1 [.ref q_t_rest_near, .int t_rest_left, .int t_rest_newEnds], aI cA q_t_rest_near 14 t_rest_near, aG cA q_t_levels 15 (fun i => some (ad i)), aJ cA q_t_stuck 256 z] ++ lvW cA ad an lf ne nr)) dX6_fits_139 rfl (fun _ => rfl) hf (fun t_stuck_6 hf => ?_)
      refine g_iconst C 140 (0 : Int32) dX6_fits_140 (by decide) ?_
      cases hf
      exact g_zret C 141 dX6_fits_141 (by decide) F ⟨rfl, rfl⟩
    · refine g_aload_n C 96 0 dX6_fits_96 rfl rfl ?_
      refine g_aload_n C 97 2 dX6_fits_97 rfl rfl ?_
      refine g_iload_n C 98 3 dX6_fits_98 rfl rfl ?_
      refine g_iload_n C 99 1 dX6_fits_99 rfl rfl ?_
      refine g_iconst C 100 (1 : Int32) dX6_fits_100 (by decide) ?_
      refine g_iadd C 101 dX6_fits_101 ?_
      obtain ⟨u7, hu7, hf⟩ := cal_some hf
      refine g_callT C 102 [0, 1, 2, 3, 4] 0 (rest := []) (P' := [oB q_t 6 [.ref q_t_rest, .ref q_t_levels, .ref q_t_stuck, .int t_limit], oB q_t_rest 1 [.ref q_t_rest_near, .int t_rest_left, .int t_rest_newEnds], aI cA q_t_rest_near 14 t_rest_near, aG cA q_t_levels 15 (fun i => some (ad i)), aJ cA q_t_stuck 256 u7.2.1]) (S1 := lvW cA ad an u7.2.2.1 u7.2.2.2.1 u7.2.2.2.2) dX6_fits_102 (c_X6_fitsBehindL (x_l X) cA q_t t_limit q_t_rest t_rest_left t_rest_newEnds q_t_rest_near t_rest_near q_t_levels q_t_stuck t_stuck ad an lf ne nr fd ld FF hFF a1.toNatClampNeg hj x3 (a1 + (1 : Int32)) u7 hu7) kw_475 kw_476 kw_477 kw_469 kw_478 ok_X6_fitsBehind ⟨by dsimp only; omega, by dsimp only; omega⟩ ⟨Nat.zero_le _, Nat.zero_le _⟩ ⟨rfl, rfl⟩ rfl rfl rfl rfl rfl (Nat.le_of_ble_eq_true rfl) rfl (lvW_len.trans lvW_len.symm) (N0 := 5) rfl [some 0, some 1, some 2, some 3, some 4] (by decide) rfl (st' := [.int u7.1]) rfl ?_
      refine g_if_eq C 105 110 dX6_fits_105 (by decide) hf (fun hf => ?_) (fun hf => ?_)
      · refine g_iinc C 110 3 (v := x3 + (1 : Int32)) (fun z => [(3, .int z), (0, .ref q_t), (1, .int a1), (2, .ref (ad a1.toNatClampNeg))]) dX6_fits_110 rfl rfl (by decide) (fun _ => rfl) hf (fun x3_8 hf => ?_)
        refine g_goto C 113 90 dX6_fits_113 (by decide) ?_
        refine g_lv [1, 2, 3, 0] rfl ?_
        exact ih x3_8 u7.2.1 u7.2.2.1 u7.2.2.2.1 u7.2.2.2.2 hf
      · refine g_iconst C 108 (1 : Int32) dX6_fits_108 (by decide) ?_
        cases hf
        exact g_zret C 109 dX6_fits_109 (by decide) F ⟨rfl, rfl⟩
def J_X6_fitsG_46 (FF : Int32 → Int32 → (Nat → Int64) → (Nat → Int32) → (Nat → Int32) → (Nat → Nat → Int32) → Option (Int32 × (Nat → Int64) × (Nat → Int32) × (Nat → Int32) × (Nat → Nat → Int32))) (a1 : Int32) (t_limit : Int32)  (t_stuck : Nat → Int64) (lf : Nat → Int32) (ne : Nat → Int32) (nr : Nat → Nat → Int32) : Option (Int32 × (Nat → Int64) × (Nat → Int32) × (Nat → Int32) × (Nat → Nat → Int32)) :=
  cal (f_J6_bitCount_0f7a4 (lf a1.toNatClampNeg)) fun u2 =>
  if (t_limit + (1 : Int32)) < u2 then
    if (15 : Int32) ≤ (a1 + (1 : Int32)) then
      some ((0 : Int32), t_stuck, lf, ne, nr)
    else
      cal (f_X6_isStuck (lf a1.toNatClampNeg) t_stuck) fun u3 =>
      if u3 = 0 then
        bnd (0 : Int32) fun x3_4 =>
        L_X6_fitsG_90 FF a1 t_limit NN x3_4 t_stuck lf ne nr
      else
        some ((0 : Int32), t_stuck, lf, ne, nr)
  else
    some ((1 : Int32), t_stuck, lf, ne, nr)

set_option maxRecDepth 100000 in
set_option maxHeartbeats 1000000 in
theorem w_X6_fitsG_46 (cA : Nat → ClassId) (q_t : Nat) (q_t_rest : Nat) (t_rest_left : Int32) (t_rest_newEnds : Int32) (q_t_rest_near : Nat) (t_rest_near : Nat → Int32) (q_t_levels : Nat) (q_t_stuck : Nat) (ad : Nat → Nat) (an : Nat → Nat) (FF : Int32 → Int32 → (Nat → Int64) → (Nat → Int32) → (Nat → Int32) → (Nat → Nat → Int32) → Option (Int32 × (Nat → Int64) × (Nat → Int32) × (Nat → Int32) × (Nat → Nat → Int32))) (a1 : Int32) (t_limit : Int32) {X : XT} (fd ld : Nat) (hFF : FitsOK (x_l X) cA q_t q_t_rest q_t_rest_near q_t_levels q_t_stuck ad an fd ld FF) (hj : a1.toNatClampNeg < 15) (C : Cx X cX6_fits RX6 (some .boolean) cA (fd + 12) (ld + 400) 5) (r : Int32 × (Nat → Int64) × (Nat → Int32) × (Nat → Int32) × (Nat → Nat → Int32)) (F : Fx X (sB (some (.int r.1)) ([oB q_t 6 [.ref q_t_rest, .ref q_t_levels, .ref q_t_stuck, .int t_limit], oB q_t_rest 1 [.ref q_t_rest_near, .int t_rest_left, .int t_rest_newEnds], aI cA q_t_rest_near 14 t_rest_near, aG cA q_t_levels 15 (fun i => some (ad i)), aJ cA q_t_stuck 256 r.2.1] ++ lvW cA ad an r.2.2.1 r.2.2.2.1 r.2.2.2.2)) 0 0)  : ∀ (t_stuck : Nat → Int64) (lf : Nat → Int32) (ne : Nat → Int32) (nr : Nat → Nat → Int32), J_X6_fitsG_46 FF a1 t_limit t_stuck lf ne nr = some r → Go X 5 0 0 46 ([oB q_t 6 [.ref q_t_rest, .ref q_t_levels, .ref q_t_stuck, .int t_limit], oB q_t_rest 1 [.ref q_t_rest_near, .int t_rest_left, .int t_rest_newEnds], aI cA q_t_rest_near 14 t_rest_near, aG cA q_t_levels 15 (fun i => some (ad i)), aJ cA q_t_stuck 256 t_stuck] ++ lvW cA ad an lf ne nr) [(0, .ref q_t), (1, .int a1), (2, .ref (ad a1.toNatClampNeg))] [] := by
  intro t_stuck lf ne nr hf
  unfold J_X6_fitsG_46 at hf
  refine g_aload_n C 46 2 dX6_fits_46 rfl rfl ?_
  refine g_get C 47 (5 + 2 * a1.toNatClampNeg) 1 dX6_fits_47 inX1 (fam_o rfl hj) rfl (by decide) kw_456 rfl ?_
  obtain ⟨u2, hu2, hf⟩ := cal_some hf
  refine g_callSB C 50 [] (rest := []) (P' := [oB q_t 6 [.ref q_t_rest, .ref q_t_levels, .ref q_t_stuck, .int t_limit], oB q_t_rest 1 [.ref q_t_rest_near, .int t_rest_left, .int t_rest_newEnds], aI cA q_t_rest_near 14 t_rest_near, aG cA q_t_levels 15 (fun i => some (ad i)), aJ cA q_t_stuck 256 t_stuck]) dX6_fits_50 (c_J6_bitCount_0f7a4 (x_l X) cA  (lf a1.toNatClampNeg) u2 hu2) kw_458 kw_20 kw_21 kw_22 ok_J6_bitCount_0f7a4 ⟨by dsimp only; omega, by dsimp only; omega⟩ ⟨Nat.zero_le _, Nat.zero_le _⟩ ⟨rfl, rfl⟩ rfl rfl rfl (Nat.le_of_ble_eq_true rfl) rfl (N0 := 5) rfl [none, none, none, none, none] (by decide) rfl (st' := [.int u2]) rfl ?_
  refine g_aload_n C 53 0 dX6_fits_53 rfl rfl ?_
  refine g_get C 54 0 3 dX6_fits_54 inX6 rfl rfl (by decide) kw_459 rfl ?_
  refine g_iconst C 57 (1 : Int32) dX6_fits_57 (by decide) ?_
  refine g_iadd C 58 dX6_fits_58 ?_
  refine g_icmp_gt C 59 64 dX6_fits_59 (by decide) hf (fun hf => ?_) (fun hf => ?_)
  · refine g_iload_n C 64 1 dX6_fits_64 rfl rfl ?_
    refine g_iconst C 65 (1 : Int32) dX6_fits_65 (by decide) ?_
    refine g_iadd C 66 dX6_fits_66 ?_
    refine g_aload_n C 67 0 dX6_fits_67 rfl rfl ?_
    refine g_get C 68 0 1 dX6_fits_68 inX6 rfl rfl (by decide) kw_460 rfl ?_
    refine g_alen C 71 3 3 (15 : Int32) dX6_fits_71 rfl rfl rfl ?_
    refine g_icmp_ge C 72 86 dX6_fits_72 (by decide) hf (fun hf => ?_) (fun hf => ?_)
    · refine g_iconst C 86 (0 : Int32) dX6_fits_86 (by decide) ?_
      cases hf
      exact g_zret C 87 dX6_fits_87 (by decide) F ⟨rfl, rfl⟩
    · refine g_aload_n C 75 0 dX6_fits_75 rfl rfl ?_
      refine g_aload_n C 76 2 dX6_fits_76 rfl rfl ?_
      refine g_get C 77 (5 + 2 * a1.toNatClampNeg) 1 dX6_fits_77 inX1 (fam_o rfl hj) rfl (by decide) kw_456 rfl ?_
      obtain ⟨u3, hu3, hf⟩ := cal_some hf
      refine g_callB C 80 [0, 4] 0 (rest := []) (P' := [oB q_t 6 [.ref q_t_rest, .ref q_t_levels, .ref q_t_stuck, .int t_limit], oB q_t_rest 1 [.ref q_t_rest_near, .int t_rest_left, .int t_rest_newEnds], aI cA q_t_rest_near 14 t_rest_near, aG cA q_t_levels 15 (fun i => some (ad i)), aJ cA q_t_stuck 256 t_stuck]) dX6_fits_80 (c_X6_isStuck (x_l X) cA q_t q_t_rest q_t_levels t_limit q_t_stuck t_stuck (lf a1.toNatClampNeg) u3 hu3) kw_471 kw_472 kw_473 kw_469 kw_474 ok_X6_isStuck ⟨by dsimp only; omega, by dsimp only; omega⟩ ⟨Nat.zero_le _, Nat.zero_le _⟩ ⟨rfl, rfl⟩ rfl rfl rfl rfl rfl (Nat.le_of_ble_eq_true rfl) rfl (N0 := 5) rfl [some 0, none, none, none, some 1] (by decide) rfl (st' := [.int u3]) rfl ?_
      refine g_if_eq C 83 88 dX6_fits_83 (by decide) hf (fun hf => ?_) (fun hf => ?_)
      · refine g_iconst C 88 (0 : Int32) dX6_fits_88 (by decide) ?_
        refine g_istore_n C 89 (fun z => [(3, .int z), (0, .ref q_t), (1, .int a1), (2, .ref (ad a1.toNatClampNeg))]) dX6_fits_89 rfl (by decide) (fun _ => rfl) hf (fun x3_4 hf => ?_)
        refine g_lv [1, 2, 3, 0] rfl ?_
        exact w_X6_fitsG_90 cA q_t q_t_rest t_rest_left t_rest_newEnds q_t_rest_near t_rest_near q_t_levels q_t_stuck ad an FF a1 t_limit fd ld hFF hj C r F NN x3_4 t_stuck lf ne nr hf
      · refine g_iconst C 86 (0 : Int32) dX6_fits_86 (by decide) ?_
        cases hf
        exact g_zret C 87 dX6_fits_87 (by decide) F ⟨rfl, rfl⟩
  · refine g_iconst C 62 (1 : Int32) dX6_fits_62 (by decide) ?_
    cases hf
    exact g_zret C 63 dX6_fits_63 (by decide) F ⟨rfl, rfl⟩
def L_X6_fitsG_9 (FF : Int32 → Int32 → (Nat → Int64) → (Nat → Int32) → (Nat → Int32) → (Nat → Nat → Int32) → Option (Int32 × (Nat → Int64) × (Nat → Int32) × (Nat → Int32) × (Nat → Nat → Int32))) (a1 : Int32) (t_limit : Int32)  : Nat → Int32 → (Nat → Int64) → (Nat → Int32) → (Nat → Int32) → (Nat → Nat → Int32) → Option (Int32 × (Nat → Int64) × (Nat → Int32) × (Nat → Int32) × (Nat → Nat → Int32))
  | 0, _, _, _, _, _ => none
  | n + 1, x3, t_stuck, lf, ne, nr =>
    if (14 : Int32) ≤ x3 then
      J_X6_fitsG_46 FF a1 t_limit t_stuck lf ne nr
    else
      cal (f_X1_harmless t_limit (lf a1.toNatClampNeg) (nr a1.toNatClampNeg)) fun u9 =>
      bnd u9 fun x4_10 =>
      if x4_10 = (-1 : Int32) then
        J_X6_fitsG_46 FF a1 t_limit t_stuck lf ne nr
      else
        cal (f_X1_letGo x4_10 (lf a1.toNatClampNeg) (ne a1.toNatClampNeg) (nr a1.toNatClampNeg)) fun u11 =>
        bnd (x3 + (1 : Int32)) fun x3_12 =>
        L_X6_fitsG_9 FF a1 t_limit n x3_12 t_stuck (upd lf a1.toNatClampNeg u11.1) (upd ne a1.toNatClampNeg u11.2.1) (va_up nr a1.toNatClampNeg u11.2.2)

set_option maxRecDepth 100000 in
set_option maxHeartbeats 1000000 in
theorem w_X6_fitsG_9 (cA : Nat → ClassId) (q_t : Nat) (q_t_rest : Nat) (t_rest_left : Int32) (t_rest_newEnds : Int32) (q_t_rest_near : Nat) (t_rest_near : Nat → Int32) (q_t_levels : Nat) (q_t_stuck : Nat) (ad : Nat → Nat) (an : Nat → Nat) (FF : Int32 → Int32 → (Nat → Int64) → (Nat → Int32) → (Nat → Int32) → (Nat → Nat → Int32) → Option (Int32 × (Nat → Int64) × (Nat → Int32) × (Nat → Int32) × (Nat → Nat → Int32))) (a1 : Int32) (t_limit : Int32) {X : XT} (fd ld : Nat) (hFF : FitsOK (x_l X) cA q_t q_t_rest q_t_rest_near q_t_levels q_t_stuck ad an fd ld FF) (hj : a1.toNatClampNeg < 15) (C : Cx X cX6_fits RX6 (some .boolean) cA (fd + 12) (ld + 400) 5) (r : Int32 × (Nat → Int64) × (Nat → Int32) × (Nat → Int32) × (Nat → Nat → Int32)) (F : Fx X (sB (some (.int r.1)) ([oB q_t 6 [.ref q_t_rest, .ref q_t_levels, .ref q_t_stuck, .int t_limit], oB q_t_rest 1 [.ref q_t_rest_near, .int t_rest_left, .int t_rest_newEnds], aI cA q_t_rest_near 14 t_rest_near, aG cA q_t_levels 15 (fun i => some (ad i)), aJ cA q_t_stuck 256 r.2.1] ++ lvW cA ad an r.2.2.1 r.2.2.2.1 r.2.2.2.2)) 0 0)  : ∀ (n : Nat) (x3 : Int32) (t_stuck : Nat → Int64) (lf : Nat → Int32) (ne : Nat → Int32) (nr : Nat → Nat → Int32), L_X6_fitsG_9 FF a1 t_limit n x3 t_stuck lf ne nr = some r → Go X 5 0 0 9 ([oB q_t 6 [.ref q_t_rest, .ref q_t_levels, .ref q_t_stuck, .int t_limit], oB q_t_rest 1 [.ref q_t_rest_near, .int t_rest_left, .int t_rest_newEnds], aI cA q_t_rest_near 14 t_rest_near, aG cA q_t_levels 15 (fun i => some (ad i)), aJ cA q_t_stuck 256 t_stuck] ++ lvW cA ad an lf ne nr) [(0, .ref q_t), (1, .int a1), (2, .ref (ad a1.toNatClampNeg)), (3, .int x3)] [] := by
  intro n
  induction n with
  | zero => intro x3 t_stuck lf ne nr hf; exact no_some hf
  | succ n ih =>
    intro x3 t_stuck lf ne nr hf
    rw [L_X6_fitsG_9] at hf
    refine g_iload_n C 9 3 dX6_fits_9 rfl rfl ?_
    refine g_bipush C 10 (14 : Int32) dX6_fits_10 (by decide) ?_
    refine g_icmp_ge C 12 46 dX6_fits_12 (by decide) hf (fun hf => ?_) (fun hf => ?_)
    · refine g_lv [0, 1, 2] rfl ?_
      exact w_X6_fitsG_46 cA q_t q_t_rest t_rest_left t_rest_newEnds q_t_rest_near t_rest_near q_t_levels q_t_stuck ad an FF a1 t_limit fd ld hFF hj C r F t_stuck lf ne nr hf
    · refine g_aload_n C 15 2 dX6_fits_15 rfl rfl ?_
      refine g_aload_n C 16 0 dX6_fits_16 rfl rfl ?_
      refine g_get C 17 0 3 dX6_fits_17 inX6 rfl rfl (by decide) kw_459 rfl ?_
      obtain ⟨u9, hu9, hf⟩ := cal_some hf
      refine g_callP C 20 [(5 + 2 * a1.toNatClampNeg), (5 + 2 * a1.toNatClampNeg + 1)] (5 + 2 * a1.toNatClampNeg) (rest := []) (ws' := ([oB q_t 6 [.ref q_t_rest, .ref q_t_levels, .ref q_t_stuck, .int t_limit], oB q_t_rest 1 [.ref q_t_rest_near, .int t_rest_left, .int t_rest_newEnds], aI cA q_t_rest_near 14 t_rest_near, aG cA q_t_levels 15 (fun i => some (ad i)), aJ cA q_t_stuck 256 t_stuck] ++ lvW cA ad an lf ne nr)) dX6_fits_20 (c_X1_harmless (x_l X) cA (ad a1.toNatClampNeg) (lf a1.toNatClampNeg) (ne a1.toNatClampNeg) (an a1.toNatClampNeg) (nr a1.toNatClampNeg) t_limit u9 hu9) kw_479 kw_480 kw_481 kw_16 kw_482 ok_X1_harmless ⟨by dsimp only; omega, by dsimp only; omega⟩ ⟨Nat.zero_le _, Nat.zero_le _⟩ ⟨rfl, rfl⟩ (fam_o rfl hj) rfl (fam_C rfl hj) nd2 rfl (Nat.le_of_ble_eq_true rfl) rfl (put_same nd2 (fam_C rfl hj)) (st' := [.int u9]) rfl ?_
      refine g_istore C 23 (fun z => [(4, .int z), (0, .ref q_t), (1, .int a1), (2, .ref (ad a1.toNatClampNeg)), (3, .int x3)]) dX6_fits_23 (by decide) (fun _ => rfl) hf (fun x4_10 hf => ?_)
      refine g_iload C 25 0 dX6_fits_25 rfl ?_
      refine g_iconst C 27 (-1 : Int32) dX6_fits_27 (by decide) ?_
      refine g_icmp_ne C 28 34 dX6_fits_28 (by decide) hf (fun hf => ?_) (fun hf => ?_)
      · refine g_aload_n C 34 3 dX6_fits_34 rfl rfl ?_
        refine g_iload C 35 0 dX6_fits_35 rfl ?_
        obtain ⟨u11, hu11, hf⟩ := cal_some hf
        refine g_callP C 37 [(5 + 2 * a1.toNatClampNeg), (5 + 2 * a1.toNatClampNeg + 1)] (5 + 2 * a1.toNatClampNeg) (rest := []) (ws' := ([oB q_t 6 [.ref q_t_rest, .ref q_t_levels, .ref q_t_stuck, .int t_limit], oB q_t_rest 1 [.ref q_t_rest_near, .int t_rest_left, .int t_rest_newEnds], aI cA q_t_rest_near 14 t_rest_near, aG cA q_t_levels 15 (fun i => some (ad i)), aJ cA q_t_stuck 256 t_stuck] ++ lvW cA ad an (upd lf a1.toNatClampNeg u11.1) (upd ne a1.toNatClampNeg u11.2.1) (va_up nr a1.toNatClampNeg u11.2.2))) dX6_fits_37 (c_X1_letGo (x_l X) cA (ad a1.toNatClampNeg) (lf a1.toNatClampNeg) (ne a1.toNatClampNeg) (an a1.toNatClampNeg) (nr a1.toNatClampNeg) x4_10 u11 hu11) kw_465 kw_32 kw_33 kw_16 kw_34 ok_X1_letGo ⟨by dsimp only; omega, by dsimp only; omega⟩ ⟨Nat.zero_le _, Nat.zero_le _⟩ ⟨rfl, rfl⟩ (fam_o rfl hj) rfl (fam_C rfl hj) nd2 rfl (Nat.le_of_ble_eq_true rfl) rfl (fam_sub (is := []) (wc := []) rfl hj rfl nd2) (st' := []) rfl ?_
        refine g_iinc C 40 4 (v := x3 + (1 : Int32)) (fun z => [(3, .int z), (4, .int x4_10), (0, .ref q_t), (1, .int a1), (2, .ref (ad a1.toNatClampNeg))]) dX6_fits_40 rfl rfl (by decide) (fun _ => rfl) hf (fun x3_12 hf => ?_)
        refine g_goto C 43 9 dX6_fits_43 (by decide) ?_
        refine g_lv [2, 3, 4, 0] rfl ?_
        exact ih x3_12 t_stuck (upd lf a1.toNatClampNeg u11.1) (upd ne a1.toNatClampNeg u11.2.1) (va_up nr a1.toNatClampNeg u11.2.2) hf
      · refine g_goto C 31 46 dX6_fits_31 (by decide) ?_
        refine g_lv [1, 2, 3] rfl ?_
        exact w_X6_fitsG_46 cA q_t q_t_rest t_rest_left t_rest_newEnds q_t_rest_near t_rest_near q_t_levels q_t_stuck ad an FF a1 t_limit fd ld hFF hj C r F t_stuck lf ne nr hf
def f_X6_fitsG (FF : Int32 → Int32 → (Nat → Int64) → (Nat → Int32) → (Nat → Int32) → (Nat → Nat → Int32) → Option (Int32 × (Nat → Int64) × (Nat → Int32) × (Nat → Int32) × (Nat → Nat → Int32))) (a1 : Int32) (t_limit : Int32) (t_stuck : Nat → Int64) (lf : Nat → Int32) (ne : Nat → Int32) (nr : Nat → Nat → Int32) : Option (Int32 × (Nat → Int64) × (Nat → Int32) × (Nat → Int32) × (Nat → Nat → Int32)) :=
  ckI a1 15 <|
  bnd (0 : Int32) fun x3_1 =>
  L_X6_fitsG_9 FF a1 t_limit NN x3_1 t_stuck lf ne nr

set_option maxRecDepth 100000 in
set_option maxHeartbeats 1000000 in
theorem c_X6_fitsG (l : Launch) (cA : Nat → ClassId) (q_t : Nat) (t_limit : Int32) (q_t_rest : Nat) (t_rest_left : Int32) (t_rest_newEnds : Int32) (q_t_rest_near : Nat) (t_rest_near : Nat → Int32) (q_t_levels : Nat) (q_t_stuck : Nat) (t_stuck : Nat → Int64) (ad : Nat → Nat) (an : Nat → Nat) (lf : Nat → Int32) (ne : Nat → Int32) (nr : Nat → Nat → Int32) (fd ld : Nat) (FF : Int32 → Int32 → (Nat → Int64) → (Nat → Int32) → (Nat → Int32) → (Nat → Nat → Int32) → Option (Int32 × (Nat → Int64) × (Nat → Int32) × (Nat → Int32) × (Nat → Nat → Int32))) (hFF : FitsOK l cA q_t q_t_rest q_t_rest_near q_t_levels q_t_stuck ad an fd ld FF) (a1 : Int32) (r : Int32 × (Nat → Int64) × (Nat → Int32) × (Nat → Int32) × (Nat → Nat → Int32)) (hf : f_X6_fitsG FF a1 t_limit t_stuck lf ne nr = some r) : MT l cA yX6_fits cX6_fits 5 (some .boolean) ({ frames := (fd + 12), cells := 0, slots := 0, locals := (ld + 400) } : Room) [.ref q_t, .int a1] ([oB q_t 6 [.ref q_t_rest, .ref q_t_levels, .ref q_t_stuck, .int t_limit], oB q_t_rest 1 [.ref q_t_rest_near, .int t_rest_left, .int t_rest_newEnds], aI cA q_t_rest_near 14 t_rest_near, aG cA q_t_levels 15 (fun i => some (ad i)), aJ cA q_t_stuck 256 t_stuck] ++ lvW cA ad an lf ne nr) (sB (some (.int r.1)) ([oB q_t 6 [.ref q_t_rest, .ref q_t_levels, .ref q_t_stuck, .int t_limit], oB q_t_rest 1 [.ref q_t_rest_near, .int t_rest_left, .int t_rest_newEnds], aI cA q_t_rest_near 14 t_rest_near, aG cA q_t_levels 15 (fun i => some (ad i)), aJ cA q_t_stuck 256 r.2.1] ++ lvW cA ad an r.2.2.1 r.2.2.2.1 r.2.2.2.2)) := by
  refine MT.of (by decide) (Nat.le_of_ble_eq_true rfl) ?_
  intro X hXl C F hnm hrc hrs
  subst hXl
  unfold f_X6_fitsG at hf
  have C : Cx X cX6_fits RX6 (some .boolean) cA (fd + 12) (ld + 400) 5 := C
  show Go X 5 0 0 0 ([oB q_t 6 [.ref q_t_rest, .ref q_t_levels, .ref q_t_stuck, .int t_limit], oB q_t_rest 1 [.ref q_t_rest_near, .int t_rest_left, .int t_rest_newEnds], aI cA q_t_rest_near 14 t_rest_near, aG cA q_t_levels 15 (fun i => some (ad i)), aJ cA q_t_stuck 256 t_stuck] ++ lvW cA ad an lf ne nr) [(0, .ref q_t), (1, .int a1)] []
  refine g_aload_n C 0 0 dX6_fits_0 rfl rfl ?_
  refine g_get C 1 0 1 dX6_fits_1 inX6 rfl rfl (by decide) kw_460 rfl ?_
  refine g_iload_n C 4 1 dX6_fits_4 rfl rfl ?_
  refine g_ald C 5 3 dX6_fits_5 rfl hf (fun hj hf => ?_)
  refine g_astore_n C 6 dX6_fits_6 rfl (by decide) rfl ?_
  refine g_iconst C 7 (0 : Int32) dX6_fits_7 (by decide) ?_
  refine g_istore_n C 8 (fun z => [(3, .int z), (2, .ref (ad a1.toNatClampNeg)), (0, .ref q_t), (1, .int a1)]) dX6_fits_8 rfl (by decide) (fun _ => rfl) hf (fun x3_1 hf => ?_)
  refine g_lv [2, 3, 1, 0] rfl ?_
  exact w_X6_fitsG_9 cA q_t q_t_rest t_rest_left t_rest_newEnds q_t_rest_near t_rest_near q_t_levels q_t_stuck ad an FF a1 t_limit fd ld hFF hj C r F NN x3_1 t_stuck lf ne nr hf
def f_X6_fits : Nat → Int32 → Int32 → (Nat → Int64) → (Nat → Int32) → (Nat → Int32) → (Nat → Nat → Int32) → Option (Int32 × (Nat → Int64) × (Nat → Int32) × (Nat → Int32) × (Nat → Nat → Int32))
  | 0 => fun _ _ _ _ _ _ => none
  | D + 1 => f_X6_fitsG (f_X6_fits D)
theorem c_X6_fits (l : Launch) (cA : Nat → ClassId) (q_t q_t_rest q_t_rest_near q_t_levels q_t_stuck : Nat) (ad an : Nat → Nat) : ∀ D : Nat, FitsOK l cA q_t q_t_rest q_t_rest_near q_t_levels q_t_stuck ad an (12 * D) (400 * D) (f_X6_fits D)
  | 0 => fun _ _ _ _ _ _ _ _ _ _ hf => no_some hf
  | D + 1 => fun t_limit t_rest_left t_rest_newEnds t_rest_near t_stuck lf ne nr a1 r hf => c_X6_fitsG l cA q_t t_limit q_t_rest t_rest_left t_rest_newEnds q_t_rest_near t_rest_near q_t_levels q_t_stuck t_stuck ad an lf ne nr (12 * D) (400 * D) (f_X6_fits D) (c_X6_fits l cA q_t q_t_rest q_t_rest_near q_t_levels q_t_stuck ad an D) a1 r hf
def f_X6_netFits (a2 : Int32) (u_size : Int32) (u_near : Nat → Int32) (t_limit : Int32) (t_stuck : Nat → Int64) (lf : Nat → Int32) (ne : Nat → Int32) (nr : Nat → Nat → Int32) : Option (Int32 × Int32 × (Nat → Int64) × (Nat → Int32) × (Nat → Int32) × (Nat → Nat → Int32)) :=
  bnd a2 fun t_limit_1 =>
  cal (f_J7_fill_d0a16 256 (0 : Int64) t_stuck) fun u2 =>
  ckI (0 : Int32) 15 <|
  cal (f_X1_start (lf ((0 : Int32).toNatClampNeg)) (ne ((0 : Int32).toNatClampNeg)) (nr ((0 : Int32).toNatClampNeg)) u_size u_near) fun u3 =>
  cal ((f_X6_fits 16) (0 : Int32) t_limit_1 u2 (upd lf ((0 : Int32).toNatClampNeg) u3.1) (upd ne ((0 : Int32).toNatClampNeg) u3.2.1) (va_up nr ((0 : Int32).toNatClampNeg) u3.2.2)) fun u4 =>
  chk (u4.1 = 0 ∨ u4.1 = 1) (some (u4.1, t_limit_1, u4.2.1, u4.2.2.1, u4.2.2.2.1, u4.2.2.2.2))

set_option maxRecDepth 100000 in
set_option maxHeartbeats 1000000 in
theorem c_X6_netFits (l : Launch) (cA : Nat → ClassId) (q_u : Nat) (q_u_loads : Nat) (q_u_ties : Nat) (u_size : Int32) (u_edges : Int32) (q_u_near : Nat) (u_near : Nat → Int32) (q_t : Nat) (t_limit : Int32) (q_t_rest : Nat) (t_rest_left : Int32) (t_rest_newEnds : Int32) (q_t_rest_near : Nat) (t_rest_near : Nat → Int32) (q_t_levels : Nat) (q_t_stuck : Nat) (t_stuck : Nat → Int64) (ad : Nat → Nat) (an : Nat → Nat) (lf : Nat → Int32) (ne : Nat → Int32) (nr : Nat → Nat → Int32)  (a2 : Int32) (r : Int32 × Int32 × (Nat → Int64) × (Nat → Int32) × (Nat → Int32) × (Nat → Nat → Int32)) (hf : f_X6_netFits a2 u_size u_near t_limit t_stuck lf ne nr = some r) : MT l cA yX6_netFits cX6_netFits 3 (some .boolean) ({ frames := 200, cells := 0, slots := 0, locals := 7000 } : Room) [.ref q_t, .ref q_u, .int a2] ([oB q_u 4 [.ref q_u_loads, .ref q_u_near, .ref q_u_ties, .int u_size, .int u_edges], aI cA q_u_near 14 u_near, oB q_t 6 [.ref q_t_rest, .ref q_t_levels, .ref q_t_stuck, .int t_limit], oB q_t_rest 1 [.ref q_t_rest_near, .int t_rest_left, .int t_rest_newEnds], aI cA q_t_rest_near 14 t_rest_near, aG cA q_t_levels 15 (fun i => some (ad i)), aJ cA q_t_stuck 256 t_stuck] ++ lvW cA ad an lf ne nr) (sB (some (.int r.1)) ([oB q_u 4 [.ref q_u_loads, .ref q_u_near, .ref q_u_ties, .int u_size, .int u_edges], aI cA q_u_near 14 u_near, oB q_t 6 [.ref q_t_rest, .ref q_t_levels, .ref q_t_stuck, .int r.2.1], oB q_t_rest 1 [.ref q_t_rest_near, .int t_rest_left, .int t_rest_newEnds], aI cA q_t_rest_near 14 t_rest_near, aG cA q_t_levels 15 (fun i => some (ad i)), aJ cA q_t_stuck 256 r.2.2.1] ++ lvW cA ad an r.2.2.2.1 r.2.2.2.2.1 r.2.2.2.2.2)) := by
  refine MT.of (by decide) (Nat.le_of_ble_eq_true rfl) ?_
  intro X hXl C F hnm hrc hrs
  subst hXl
  unfold f_X6_netFits at hf
  have C : Cx X cX6_netFits RX6 (some .boolean) cA 200 7000 3 := C
  show Go X 3 0 0 0 ([oB q_u 4 [.ref q_u_loads, .ref q_u_near, .ref q_u_ties, .int u_size, .int u_edges], aI cA q_u_near 14 u_near, oB q_t 6 [.ref q_t_rest, .ref q_t_levels, .ref q_t_stuck, .int t_limit], oB q_t_rest 1 [.ref q_t_rest_near, .int t_rest_left, .int t_rest_newEnds], aI cA q_t_rest_near 14 t_rest_near, aG cA q_t_levels 15 (fun i => some (ad i)), aJ cA q_t_stuck 256 t_stuck] ++ lvW cA ad an lf ne nr) [(0, .ref q_t), (1, .ref q_u), (2, .int a2)] []
  refine g_aload_n C 0 0 dX6_netFits_0 rfl rfl ?_
  refine g_iload_n C 1 2 dX6_netFits_1 rfl rfl ?_
  refine g_puti C 2 2 3 tyX6 (fun z => ([oB q_u 4 [.ref q_u_loads, .ref q_u_near, .ref q_u_ties, .int u_size, .int u_edges], aI cA q_u_near 14 u_near, oB q_t 6 [.ref q_t_rest, .ref q_t_levels, .ref q_t_stuck, .int z], oB q_t_rest 1 [.ref q_t_rest_near, .int t_rest_left, .int t_rest_newEnds], aI cA q_t_rest_near 14 t_rest_near, aG cA q_t_levels 15 (fun i => some (ad i)), aJ cA q_t_stuck 256 t_stuck] ++ lvW cA ad an lf ne nr)) dX6_netFits_2 inX6 tyX6_ok nmX6 rfl rfl (by decide) kw_459 rfl rfl (Nat.le_of_ble_eq_true rfl) (fun _ => rfl) hf (fun t_limit_1 hf => ?_)
  refine g_aload_n C 5 0 dX6_netFits_5 rfl rfl ?_
  refine g_get C 6 2 2 dX6_netFits_6 inX6 rfl rfl (by decide) kw_141 rfl ?_
  refine g_lconst C 9 (0 : Int64) dX6_netFits_9 (by decide) ?_
  obtain ⟨u2, hu2, hf⟩ := cal_some hf
  refine g_callSB C 10 [6] (rest := []) (P' := [oB q_u 4 [.ref q_u_loads, .ref q_u_near, .ref q_u_ties, .int u_size, .int u_edges], aI cA q_u_near 14 u_near, oB q_t 6 [.ref q_t_rest, .ref q_t_levels, .ref q_t_stuck, .int t_limit_1], oB q_t_rest 1 [.ref q_t_rest_near, .int t_rest_left, .int t_rest_newEnds], aI cA q_t_rest_near 14 t_rest_near, aG cA q_t_levels 15 (fun i => some (ad i)), aJ cA q_t_stuck 256 u2]) dX6_netFits_10 (c_J7_fill_d0a16 (x_l X) cA q_t_stuck 256 t_stuck (0 : Int64) u2 hu2) kw_483 kw_484 kw_485 kw_486 ok_J7_fill_d0a16 ⟨by dsimp only; omega, by dsimp only; omega⟩ ⟨Nat.zero_le _, Nat.zero_le _⟩ ⟨rfl, rfl⟩ rfl rfl rfl (Nat.le_of_ble_eq_true rfl) rfl (N0 := 7) rfl [none, none, none, none, none, none, some 0] (by decide) rfl (st' := []) rfl ?_
  refine g_aload_n C 13 0 dX6_netFits_13 rfl rfl ?_
  refine g_get C 14 2 1 dX6_netFits_14 inX6 rfl rfl (by decide) kw_460 rfl ?_
  refine g_iconst C 17 (0 : Int32) dX6_netFits_17 (by decide) ?_
  refine g_ald C 18 5 dX6_netFits_18 rfl hf (fun hj3 hf => ?_)
  refine g_aload_n C 19 1 dX6_netFits_19 rfl rfl ?_
  obtain ⟨u3, hu3, hf⟩ := cal_some hf
  refine g_callP C 20 [(7 + 2 * ((0 : Int32).toNatClampNeg)), (7 + 2 * ((0 : Int32).toNatClampNeg) + 1), 0, 1] (7 + 2 * ((0 : Int32).toNatClampNeg)) (rest := []) (ws' := ([oB q_u 4 [.ref q_u_loads, .ref q_u_near, .ref q_u_ties, .int u_size, .int u_edges], aI cA q_u_near 14 u_near, oB q_t 6 [.ref q_t_rest, .ref q_t_levels, .ref q_t_stuck, .int t_limit_1], oB q_t_rest 1 [.ref q_t_rest_near, .int t_rest_left, .int t_rest_newEnds], aI cA q_t_rest_near 14 t_rest_near, aG cA q_t_levels 15 (fun i => some (ad i)), aJ cA q_t_stuck 256 u2] ++ lvW cA ad an (upd lf ((0 : Int32).toNatClampNeg) u3.1) (upd ne ((0 : Int32).toNatClampNeg) u3.2.1) (va_up nr ((0 : Int32).toNatClampNeg) u3.2.2))) dX6_netFits_20 (c_X1_start (x_l X) cA (ad (0 : Int32).toNatClampNeg) (lf ((0 : Int32).toNatClampNeg)) (ne ((0 : Int32).toNatClampNeg)) (an (0 : Int32).toNatClampNeg) (nr ((0 : Int32).toNatClampNeg)) q_u q_u_loads q_u_ties u_size u_edges q_u_near u_near  u3 hu3) kw_487 kw_125 kw_126 kw_16 kw_127 ok_X1_start ⟨by dsimp only; omega, by dsimp only; omega⟩ ⟨Nat.zero_le _, Nat.zero_le _⟩ ⟨rfl, rfl⟩ (fam_o rfl hj3) rfl (fam_C2 rfl hj3 rfl) (ndb (n0 := 7) (by decide) (by decide) (by decide)) rfl (Nat.le_of_ble_eq_true rfl) rfl (fam_sub rfl hj3 rfl (ndb (n0 := 7) (by decide) (by decide) (by decide))) (st' := []) rfl ?_
  refine g_aload_n C 23 0 dX6_netFits_23 rfl rfl ?_
  refine g_iconst C 24 (0 : Int32) dX6_netFits_24 (by decide) ?_
  obtain ⟨u4, hu4, hf⟩ := cal_some hf
  refine g_callT C 25 [2, 3, 4, 5, 6] 2 (rest := []) (P' := [oB q_u 4 [.ref q_u_loads, .ref q_u_near, .ref q_u_ties, .int u_size, .int u_edges], aI cA q_u_near 14 u_near, oB q_t 6 [.ref q_t_rest, .ref q_t_levels, .ref q_t_stuck, .int t_limit_1], oB q_t_rest 1 [.ref q_t_rest_near, .int t_rest_left, .int t_rest_newEnds], aI cA q_t_rest_near 14 t_rest_near, aG cA q_t_levels 15 (fun i => some (ad i)), aJ cA q_t_stuck 256 u4.2.1]) (S1 := lvW cA ad an u4.2.2.1 u4.2.2.2.1 u4.2.2.2.2) dX6_netFits_25 ((c_X6_fits (x_l X) cA q_t q_t_rest q_t_rest_near q_t_levels q_t_stuck ad an 16) t_limit_1 t_rest_left t_rest_newEnds t_rest_near u2 (upd lf ((0 : Int32).toNatClampNeg) u3.1) (upd ne ((0 : Int32).toNatClampNeg) u3.2.1) (va_up nr ((0 : Int32).toNatClampNeg) u3.2.2) (0 : Int32) u4 hu4) kw_466 kw_467 kw_468 kw_469 kw_470 ok_X6_fits ⟨by dsimp only; omega, by dsimp only; omega⟩ ⟨Nat.zero_le _, Nat.zero_le _⟩ ⟨rfl, rfl⟩ rfl rfl rfl rfl rfl (Nat.le_of_ble_eq_true rfl) rfl (lvW_len.trans lvW_len.symm) (N0 := 7) rfl [none, none, some 0, some 1, some 2, some 3, some 4] (by decide) rfl (st' := [.int u4.1]) rfl ?_
  obtain ⟨hv, hf⟩ := chk_some hf
  cases hf
  exact g_zret C 28 dX6_netFits_28 hv F ⟨rfl, rfl⟩
def J_X6_bestOrder_78 (a3 : Int32) (u_size : Int32) (u_near : Nat → Int32) (k_39 : Int32 → Int32 → Int32 → Int32 → (Nat → Int32) → Int32 → Int32 → Int32 → (Nat → Int32) → (Nat → Int64) → (Nat → Int32) → (Nat → Int32) → (Nat → Nat → Int32) → Option (Int32 × Int32 × Int32 × (Nat → Int32) × Int32 × Int32 × Int32 × (Nat → Int32) × (Nat → Int64) × (Nat → Int32) × (Nat → Int32) × (Nat → Nat → Int32))) (x4 : Int32) (x5 : Int32) (x6 : Int32) (v_size : Int32) (v_held : Int32) (v_knots : Nat → Int32) (t_limit : Int32) (t_rest_left : Int32) (t_rest_newEnds : Int32) (t_rest_near : Nat → Int32) (t_stuck : Nat → Int64) (lf : Nat → Int32) (ne : Nat → Int32) (nr : Nat → Nat → Int32) : Option (Int32 × Int32 × Int32 × (Nat → Int32) × Int32 × Int32 × Int32 × (Nat → Int32) × (Nat → Int64) × (Nat → Int32) × (Nat → Int32) × (Nat → Nat → Int32)) :=
  cal (f_X2_append x6 v_size v_held v_knots) fun u5 =>
  cal (f_X1_letGo x6 t_rest_left t_rest_newEnds t_rest_near) fun u6 =>
  bnd (x5 + (1 : Int32)) fun x5_7 =>
  k_39 x4 x5_7 u5.1 u5.2.1 u5.2.2 t_limit u6.1 u6.2.1 u6.2.2 t_stuck lf ne nr

set_option maxRecDepth 100000 in
set_option maxHeartbeats 1000000 in
theorem w_X6_bestOrder_78 (cA : Nat → ClassId) (q_v : Nat) (q_v_knots : Nat) (q_u : Nat) (q_u_loads : Nat) (q_u_ties : Nat) (u_edges : Int32) (q_u_near : Nat) (q_t : Nat) (q_t_rest : Nat) (q_t_rest_near : Nat) (q_t_levels : Nat) (q_t_stuck : Nat) (ad : Nat → Nat) (an : Nat → Nat) (a3 : Int32) (u_size : Int32) (u_near : Nat → Int32) {X : XT}  (C : Cx X cX6_bestOrder RX6 (some .int) cA 210 7600 7) (r : Int32 × Int32 × Int32 × (Nat → Int32) × Int32 × Int32 × Int32 × (Nat → Int32) × (Nat → Int64) × (Nat → Int32) × (Nat → Int32) × (Nat → Nat → Int32)) (F : Fx X (sB (some (.int r.1)) ([oB q_v 2 [.ref q_v_knots, .int r.2.1, .int r.2.2.1], aI cA q_v_knots 14 r.2.2.2.1, oB q_u 4 [.ref q_u_loads, .ref q_u_near, .ref q_u_ties, .int u_size, .int u_edges], aI cA q_u_near 14 u_near, oB q_t 6 [.ref q_t_rest, .ref q_t_levels, .ref q_t_stuck, .int r.2.2.2.2.1], oB q_t_rest 1 [.ref q_t_rest_near, .int r.2.2.2.2.2.1, .int r.2.2.2.2.2.2.1], aI cA q_t_rest_near 14 r.2.2.2.2.2.2.2.1, aG cA q_t_levels 15 (fun i => some (ad i)), aJ cA q_t_stuck 256 r.2.2.2.2.2.2.2.2.1] ++ lvW cA ad an r.2.2.2.2.2.2.2.2.2.1 r.2.2.2.2.2.2.2.2.2.2.1 r.2.2.2.2.2.2.2.2.2.2.2)) 0 0) (k_39 : Int32 → Int32 → Int32 → Int32 → (Nat → Int32) → Int32 → Int32 → Int32 → (Nat → Int32) → (Nat → Int64) → (Nat → Int32) → (Nat → Int32) → (Nat → Nat → Int32) → Option (Int32 × Int32 × Int32 × (Nat → Int32) × Int32 × Int32 × Int32 × (Nat → Int32) × (Nat → Int64) × (Nat → Int32) × (Nat → Int32) × (Nat → Nat → Int32))) (h_39 : ∀ (x4 : Int32) (x5 : Int32) (v_size : Int32) (v_held : Int32) (v_knots : Nat → Int32) (t_limit : Int32) (t_rest_left : Int32) (t_rest_newEnds : Int32) (t_rest_near : Nat → Int32) (t_stuck : Nat → Int64) (lf : Nat → Int32) (ne : Nat → Int32) (nr : Nat → Nat → Int32), k_39 x4 x5 v_size v_held v_knots t_limit t_rest_left t_rest_newEnds t_rest_near t_stuck lf ne nr = some r → Go X 7 0 0 39 ([oB q_v 2 [.ref q_v_knots, .int v_size, .int v_held], aI cA q_v_knots 14 v_knots, oB q_u 4 [.ref q_u_loads, .ref q_u_near, .ref q_u_ties, .int u_size, .int u_edges], aI cA q_u_near 14 u_near, oB q_t 6 [.ref q_t_rest, .ref q_t_levels, .ref q_t_stuck, .int t_limit], oB q_t_rest 1 [.ref q_t_rest_near, .int t_rest_left, .int t_rest_newEnds], aI cA q_t_rest_near 14 t_rest_near, aG cA q_t_levels 15 (fun i => some (ad i)), aJ cA q_t_stuck 256 t_stuck] ++ lvW cA ad an lf ne nr) [(0, .ref q_t), (1, .ref q_u), (2, .ref q_v), (4, .int x4), (5, .int x5)] []) : ∀ (x4 : Int32) (x5 : Int32) (x6 : Int32) (v_size : Int32) (v_held : Int32) (v_knots : Nat → Int32) (t_limit : Int32) (t_rest_left : Int32) (t_rest_newEnds : Int32) (t_rest_near : Nat → Int32) (t_stuck : Nat → Int64) (lf : Nat → Int32) (ne : Nat → Int32) (nr : Nat → Nat → Int32), J_X6_bestOrder_78 a3 u_size u_near k_39 x4 x5 x6 v_size v_held v_knots t_limit t_rest_left t_rest_newEnds t_rest_near t_stuck lf ne nr = some r → Go X 7 0 0 78 ([oB q_v 2 [.ref q_v_knots, .int v_size, .int v_held], aI cA q_v_knots 14 v_knots, oB q_u 4 [.ref q_u_loads, .ref q_u_near, .ref q_u_ties, .int u_size, .int u_edges], aI cA q_u_near 14 u_near, oB q_t 6 [.ref q_t_rest, .ref q_t_levels, .ref q_t_stuck, .int t_limit], oB q_t_rest 1 [.ref q_t_rest_near, .int t_rest_left, .int t_rest_newEnds], aI cA q_t_rest_near 14 t_rest_near, aG cA q_t_levels 15 (fun i => some (ad i)), aJ cA q_t_stuck 256 t_stuck] ++ lvW cA ad an lf ne nr) [(0, .ref q_t), (1, .ref q_u), (2, .ref q_v), (4, .int x4), (5, .int x5), (6, .int x6)] [] := by
  intro x4 x5 x6 v_size v_held v_knots t_limit t_rest_left t_rest_newEnds t_rest_near t_stuck lf ne nr hf
  unfold J_X6_bestOrder_78 at hf
  refine g_aload_n C 78 2 dX6_bestOrder_78 rfl rfl ?_
  refine g_iload C 79 5 dX6_bestOrder_79 rfl ?_
  obtain ⟨u5, hu5, hf⟩ := cal_some hf
  refine g_callB C 81 [0, 1] 0 (rest := []) (P' := [oB q_v 2 [.ref q_v_knots, .int u5.1, .int u5.2.1], aI cA q_v_knots 14 u5.2.2, oB q_u 4 [.ref q_u_loads, .ref q_u_near, .ref q_u_ties, .int u_size, .int u_edges], aI cA q_u_near 14 u_near, oB q_t 6 [.ref q_t_rest, .ref q_t_levels, .ref q_t_stuck, .int t_limit], oB q_t_rest 1 [.ref q_t_rest_near, .int t_rest_left, .int t_rest_newEnds], aI cA q_t_rest_near 14 t_rest_near, aG cA q_t_levels 15 (fun i => some (ad i)), aJ cA q_t_stuck 256 t_stuck]) dX6_bestOrder_81 (c_X2_append (x_l X) cA q_v v_size v_held q_v_knots v_knots x6 u5 hu5) kw_490 kw_263 kw_264 kw_29 kw_265 ok_X2_append ⟨by dsimp only; omega, by dsimp only; omega⟩ ⟨Nat.zero_le _, Nat.zero_le _⟩ ⟨rfl, rfl⟩ rfl rfl rfl rfl rfl (Nat.le_of_ble_eq_true rfl) rfl (N0 := 9) rfl [some 0, some 1, none, none, none, none, none, none, none] (by decide) rfl (st' := []) rfl ?_
  refine g_aload_n C 84 0 dX6_bestOrder_84 rfl rfl ?_
  refine g_get C 85 4 0 dX6_bestOrder_85 inX6 rfl rfl (by decide) kw_489 rfl ?_
  refine g_iload C 88 5 dX6_bestOrder_88 rfl ?_
  obtain ⟨u6, hu6, hf⟩ := cal_some hf
  refine g_callB C 90 [5, 6] 5 (rest := []) (P' := [oB q_v 2 [.ref q_v_knots, .int u5.1, .int u5.2.1], aI cA q_v_knots 14 u5.2.2, oB q_u 4 [.ref q_u_loads, .ref q_u_near, .ref q_u_ties, .int u_size, .int u_edges], aI cA q_u_near 14 u_near, oB q_t 6 [.ref q_t_rest, .ref q_t_levels, .ref q_t_stuck, .int t_limit], oB q_t_rest 1 [.ref q_t_rest_near, .int u6.1, .int u6.2.1], aI cA q_t_rest_near 14 u6.2.2, aG cA q_t_levels 15 (fun i => some (ad i)), aJ cA q_t_stuck 256 t_stuck]) dX6_bestOrder_90 (c_X1_letGo (x_l X) cA q_t_rest t_rest_left t_rest_newEnds q_t_rest_near t_rest_near x6 u6 hu6) kw_465 kw_32 kw_33 kw_16 kw_34 ok_X1_letGo ⟨by dsimp only; omega, by dsimp only; omega⟩ ⟨Nat.zero_le _, Nat.zero_le _⟩ ⟨rfl, rfl⟩ rfl rfl rfl rfl rfl (Nat.le_of_ble_eq_true rfl) rfl (N0 := 9) rfl [none, none, none, none, none, some 0, some 1, none, none] (by decide) rfl (st' := []) rfl ?_
  refine g_iinc C 93 4 (v := x5 + (1 : Int32)) (fun z => [(5, .int z), (0, .ref q_t), (1, .ref q_u), (2, .ref q_v), (4, .int x4), (6, .int x6)]) dX6_bestOrder_93 rfl rfl (by decide) (fun _ => rfl) hf (fun x5_7 hf => ?_)
  refine g_goto C 96 39 dX6_bestOrder_96 (by decide) ?_
  refine g_lv [1, 2, 3, 4, 0] rfl ?_
  exact h_39 x4 x5_7 u5.1 u5.2.1 u5.2.2 t_limit u6.1 u6.2.1 u6.2.2 t_stuck lf ne nr hf
def L_X6_bestOrder_51 (a3 : Int32) (u_size : Int32) (u_near : Nat → Int32) (k_39 : Int32 → Int32 → Int32 → Int32 → (Nat → Int32) → Int32 → Int32 → Int32 → (Nat → Int32) → (Nat → Int64) → (Nat → Int32) → (Nat → Int32) → (Nat → Nat → Int32) → Option (Int32 × Int32 × Int32 × (Nat → Int32) × Int32 × Int32 × Int32 × (Nat → Int32) × (Nat → Int64) × (Nat → Int32) × (Nat → Int32) × (Nat → Nat → Int32))) : Nat → Int32 → Int32 → Int32 → Int32 → Int32 → (Nat → Int32) → Int32 → Int32 → Int32 → (Nat → Int32) → (Nat → Int64) → (Nat → Int32) → (Nat → Int32) → (Nat → Nat → Int32) → Option (Int32 × Int32 × Int32 × (Nat → Int32) × Int32 × Int32 × Int32 × (Nat → Int32) × (Nat → Int64) × (Nat → Int32) × (Nat → Int32) × (Nat → Nat → Int32))
  | 0, _, _, _, _, _, _, _, _, _, _, _, _, _, _ => none
  | n + 1, x4, x5, x6, v_size, v_held, v_knots, t_limit, t_rest_left, t_rest_newEnds, t_rest_near, t_stuck, lf, ne, nr =>
    if (13 : Int32) ≤ x6 then
      J_X6_bestOrder_78 a3 u_size u_near k_39 x4 x5 x6 v_size v_held v_knots t_limit t_rest_left t_rest_newEnds t_rest_near t_stuck lf ne nr
    else
      cal (f_X6_fitsBehindR (f_X6_fits 16) x6 (0 : Int32) t_limit t_rest_left t_rest_newEnds t_rest_near t_stuck lf ne nr) fun u8 =>
      if u8.1 = 0 then
        bnd (x6 + (1 : Int32)) fun x6_9 =>
        L_X6_bestOrder_51 a3 u_size u_near k_39 n x4 x5 x6_9 v_size v_held v_knots t_limit t_rest_left t_rest_newEnds t_rest_near u8.2.1 u8.2.2.1 u8.2.2.2.1 u8.2.2.2.2
      else
        J_X6_bestOrder_78 a3 u_size u_near k_39 x4 x5 x6 v_size v_held v_knots t_limit t_rest_left t_rest_newEnds t_rest_near u8.2.1 u8.2.2.1 u8.2.2.2.1 u8.2.2.2.2

set_option maxRecDepth 100000 in
set_option maxHeartbeats 1000000 in
theorem w_X6_bestOrder_51 (cA : Nat → ClassId) (q_v : Nat) (q_v_knots : Nat) (q_u : Nat) (q_u_loads : Nat) (q_u_ties : Nat) (u_edges : Int32) (q_u_near : Nat) (q_t : Nat) (q_t_rest : Nat) (q_t_rest_near : Nat) (q_t_levels : Nat) (q_t_stuck : Nat) (ad : Nat → Nat) (an : Nat → Nat) (a3 : Int32) (u_size : Int32) (u_near : Nat → Int32) {X : XT}  (C : Cx X cX6_bestOrder RX6 (some .int) cA 210 7600 7) (r : Int32 × Int32 × Int32 × (Nat → Int32) × Int32 × Int32 × Int32 × (Nat → Int32) × (Nat → Int64) × (Nat → Int32) × (Nat → Int32) × (Nat → Nat → Int32)) (F : Fx X (sB (some (.int r.1)) ([oB q_v 2 [.ref q_v_knots, .int r.2.1, .int r.2.2.1], aI cA q_v_knots 14 r.2.2.2.1, oB q_u 4 [.ref q_u_loads, .ref q_u_near, .ref q_u_ties, .int u_size, .int u_edges], aI cA q_u_near 14 u_near, oB q_t 6 [.ref q_t_rest, .ref q_t_levels, .ref q_t_stuck, .int r.2.2.2.2.1], oB q_t_rest 1 [.ref q_t_rest_near, .int r.2.2.2.2.2.1, .int r.2.2.2.2.2.2.1], aI cA q_t_rest_near 14 r.2.2.2.2.2.2.2.1, aG cA q_t_levels 15 (fun i => some (ad i)), aJ cA q_t_stuck 256 r.2.2.2.2.2.2.2.2.1] ++ lvW cA ad an r.2.2.2.2.2.2.2.2.2.1 r.2.2.2.2.2.2.2.2.2.2.1 r.2.2.2.2.2.2.2.2.2.2.2)) 0 0) (k_39 : Int32 → Int32 → Int32 → Int32 → (Nat → Int32) → Int32 → Int32 → Int32 → (Nat → Int32) → (Nat → Int64) → (Nat → Int32) → (Nat → Int32) → (Nat → Nat → Int32) → Option (Int32 × Int32 × Int32 × (Nat → Int32) × Int32 × Int32 × Int32 × (Nat → Int32) × (Nat → Int64) × (Nat → Int32) × (Nat → Int32) × (Nat → Nat → Int32))) (h_39 : ∀ (x4 : Int32) (x5 : Int32) (v_size : Int32) (v_held : Int32) (v_knots : Nat → Int32) (t_limit : Int32) (t_rest_left : Int32) (t_rest_newEnds : Int32) (t_rest_near : Nat → Int32) (t_stuck : Nat → Int64) (lf : Nat → Int32) (ne : Nat → Int32) (nr : Nat → Nat → Int32), k_39 x4 x5 v_size v_held v_knots t_limit t_rest_left t_rest_newEnds t_rest_near t_stuck lf ne nr = some r → Go X 7 0 0 39 ([oB q_v 2 [.ref q_v_knots, .int v_size, .int v_held], aI cA q_v_knots 14 v_knots, oB q_u 4 [.ref q_u_loads, .ref q_u_near, .ref q_u_ties, .int u_size, .int u_edges], aI cA q_u_near 14 u_near, oB q_t 6 [.ref q_t_rest, .ref q_t_levels, .ref q_t_stuck, .int t_limit], oB q_t_rest 1 [.ref q_t_rest_near, .int t_rest_left, .int t_rest_newEnds], aI cA q_t_rest_near 14 t_rest_near, aG cA q_t_levels 15 (fun i => some (ad i)), aJ cA q_t_stuck 256 t_stuck] ++ lvW cA ad an lf ne nr) [(0, .ref q_t), (1, .ref q_u), (2, .ref q_v), (4, .int x4), (5, .int x5)] []) : ∀ (n : Nat) (x4 : Int32) (x5 : Int32) (x6 : Int32) (v_size : Int32) (v_held : Int32) (v_knots : Nat → Int32) (t_limit : Int32) (t_rest_left : Int32) (t_rest_newEnds : Int32) (t_rest_near : Nat → Int32) (t_stuck : Nat → Int64) (lf : Nat → Int32) (ne : Nat → Int32) (nr : Nat → Nat → Int32), L_X6_bestOrder_51 a3 u_size u_near k_39 n x4 x5 x6 v_size v_held v_knots t_limit t_rest_left t_rest_newEnds t_rest_near t_stuck lf ne nr = some r → Go X 7 0 0 51 ([oB q_v 2 [.ref q_v_knots, .int v_size, .int v_held], aI cA q_v_knots 14 v_knots, oB q_u 4 [.ref q_u_loads, .ref q_u_near, .ref q_u_ties, .int u_size, .int u_edges], aI cA q_u_near 14 u_near, oB q_t 6 [.ref q_t_rest, .ref q_t_levels, .ref q_t_stuck, .int t_limit], oB q_t_rest 1 [.ref q_t_rest_near, .int t_rest_left, .int t_rest_newEnds], aI cA q_t_rest_near 14 t_rest_near, aG cA q_t_levels 15 (fun i => some (ad i)), aJ cA q_t_stuck 256 t_stuck] ++ lvW cA ad an lf ne nr) [(0, .ref q_t), (1, .ref q_u), (2, .ref q_v), (4, .int x4), (5, .int x5), (6, .int x6)] [] := by
  intro n
  induction n with
  | zero => intro x4 x5 x6 v_size v_held v_knots t_limit t_rest_left t_rest_newEnds t_rest_near t_stuck lf ne nr hf; exact no_some hf
  | succ n ih =>
    intro x4 x5 x6 v_size v_held v_knots t_limit t_rest_left t_rest_newEnds t_rest_near t_stuck lf ne nr hf
    rw [L_X6_bestOrder_51] at hf
    refine g_iload C 51 5 dX6_bestOrder_51 rfl ?_
    refine g_bipush C 53 (13 : Int32) dX6_bestOrder_53 (by decide) ?_
    refine g_icmp_ge C 55 78 dX6_bestOrder_55 (by decide) hf (fun hf => ?_) (fun hf => ?_)
    · exact w_X6_bestOrder_78 cA q_v q_v_knots q_u q_u_loads q_u_ties u_edges q_u_near q_t q_t_rest q_t_rest_near q_t_levels q_t_stuck ad an a3 u_size u_near C r F k_39 h_39 x4 x5 x6 v_size v_held v_knots t_limit t_rest_left t_rest_newEnds t_rest_near t_stuck lf ne nr hf
    · refine g_aload_n C 58 0 dX6_bestOrder_58 rfl rfl ?_
      refine g_aload_n C 59 0 dX6_bestOrder_59 rfl rfl ?_
      refine g_get C 60 4 0 dX6_bestOrder_60 inX6 rfl rfl (by decide) kw_489 rfl ?_
      refine g_iload C 63 5 dX6_bestOrder_63 rfl ?_
      refine g_iconst C 65 (0 : Int32) dX6_bestOrder_65 (by decide) ?_
      obtain ⟨u8, hu8, hf⟩ := cal_some hf
      refine g_callT C 66 [4, 5, 6, 7, 8] 4 (rest := []) (P' := [oB q_v 2 [.ref q_v_knots, .int v_size, .int v_held], aI cA q_v_knots 14 v_knots, oB q_u 4 [.ref q_u_loads, .ref q_u_near, .ref q_u_ties, .int u_size, .int u_edges], aI cA q_u_near 14 u_near, oB q_t 6 [.ref q_t_rest, .ref q_t_levels, .ref q_t_stuck, .int t_limit], oB q_t_rest 1 [.ref q_t_rest_near, .int t_rest_left, .int t_rest_newEnds], aI cA q_t_rest_near 14 t_rest_near, aG cA q_t_levels 15 (fun i => some (ad i)), aJ cA q_t_stuck 256 u8.2.1]) (S1 := lvW cA ad an u8.2.2.1 u8.2.2.2.1 u8.2.2.2.2) dX6_bestOrder_66 (c_X6_fitsBehindR (x_l X) cA q_t t_limit q_t_rest t_rest_left t_rest_newEnds q_t_rest_near t_rest_near q_t_levels q_t_stuck t_stuck ad an lf ne nr (12 * 16) (400 * 16) (f_X6_fits 16) (c_X6_fits (x_l X) cA q_t q_t_rest q_t_rest_near q_t_levels q_t_stuck ad an 16)  x6 (0 : Int32) u8 hu8) kw_475 kw_476 kw_477 kw_469 kw_478 ok_X6_fitsBehind ⟨by dsimp only; omega, by dsimp only; omega⟩ ⟨Nat.zero_le _, Nat.zero_le _⟩ ⟨rfl, rfl⟩ rfl rfl rfl rfl rfl (Nat.le_of_ble_eq_true rfl) rfl (lvW_len.trans lvW_len.symm) (N0 := 9) rfl [none, none, none, none, some 0, some 1, some 2, some 3, some 4] (by decide) rfl (st' := [.int u8.1]) rfl ?_
      refine g_if_ne C 69 78 dX6_bestOrder_69 (by decide) hf (fun hf => ?_) (fun hf => ?_)
      · exact w_X6_bestOrder_78 cA q_v q_v_knots q_u q_u_loads q_u_ties u_edges q_u_near q_t q_t_rest q_t_rest_near q_t_levels q_t_stuck ad an a3 u_size u_near C r F k_39 h_39 x4 x5 x6 v_size v_held v_knots t_limit t_rest_left t_rest_newEnds t_rest_near u8.2.1 u8.2.2.1 u8.2.2.2.1 u8.2.2.2.2 hf
      · refine g_iinc C 72 5 (v := x6 + (1 : Int32)) (fun z => [(6, .int z), (0, .ref q_t), (1, .ref q_u), (2, .ref q_v), (4, .int x4), (5, .int x5)]) dX6_bestOrder_72 rfl rfl (by decide) (fun _ => rfl) hf (fun x6_9 hf => ?_)
        refine g_goto C 75 51 dX6_bestOrder_75 (by decide) ?_
        refine g_lv [1, 2, 3, 4, 5, 0] rfl ?_
        exact ih x4 x5 x6_9 v_size v_held v_knots t_limit t_rest_left t_rest_newEnds t_rest_near u8.2.1 u8.2.2.1 u8.2.2.2.1 u8.2.2.2.2 hf
def L_X6_bestOrder_39 (a3 : Int32) (u_size : Int32) (u_near : Nat → Int32)  : Nat → Int32 → Int32 → Int32 → Int32 → (Nat → Int32) → Int32 → Int32 → Int32 → (Nat → Int32) → (Nat → Int64) → (Nat → Int32) → (Nat → Int32) → (Nat → Nat → Int32) → Option (Int32 × Int32 × Int32 × (Nat → Int32) × Int32 × Int32 × Int32 × (Nat → Int32) × (Nat → Int64) × (Nat → Int32) × (Nat → Int32) × (Nat → Nat → Int32))
  | 0, _, _, _, _, _, _, _, _, _, _, _, _, _ => none
  | n + 1, x4, x5, v_size, v_held, v_knots, t_limit, t_rest_left, t_rest_newEnds, t_rest_near, t_stuck, lf, ne, nr =>
    if u_size ≤ x5 then
      some (x4, v_size, v_held, v_knots, t_limit, t_rest_left, t_rest_newEnds, t_rest_near, t_stuck, lf, ne, nr)
    else
      bnd (0 : Int32) fun x6_4 =>
      L_X6_bestOrder_51 a3 u_size u_near (fun y0 y1 y2 y3 y4 y5 y6 y7 y8 y9 y10 y11 y12 => L_X6_bestOrder_39 a3 u_size u_near n y0 y1 y2 y3 y4 y5 y6 y7 y8 y9 y10 y11 y12) NN x4 x5 x6_4 v_size v_held v_knots t_limit t_rest_left t_rest_newEnds t_rest_near t_stuck lf ne nr

set_option maxRecDepth 100000 in
set_option maxHeartbeats 1000000 in
theorem w_X6_bestOrder_39 (cA : Nat → ClassId) (q_v : Nat) (q_v_knots : Nat) (q_u : Nat) (q_u_loads : Nat) (q_u_ties : Nat) (u_edges : Int32) (q_u_near : Nat) (q_t : Nat) (q_t_rest : Nat) (q_t_rest_near : Nat) (q_t_levels : Nat) (q_t_stuck : Nat) (ad : Nat → Nat) (an : Nat → Nat) (a3 : Int32) (u_size : Int32) (u_near : Nat → Int32) {X : XT}  (C : Cx X cX6_bestOrder RX6 (some .int) cA 210 7600 7) (r : Int32 × Int32 × Int32 × (Nat → Int32) × Int32 × Int32 × Int32 × (Nat → Int32) × (Nat → Int64) × (Nat → Int32) × (Nat → Int32) × (Nat → Nat → Int32)) (F : Fx X (sB (some (.int r.1)) ([oB q_v 2 [.ref q_v_knots, .int r.2.1, .int r.2.2.1], aI cA q_v_knots 14 r.2.2.2.1, oB q_u 4 [.ref q_u_loads, .ref q_u_near, .ref q_u_ties, .int u_size, .int u_edges], aI cA q_u_near 14 u_near, oB q_t 6 [.ref q_t_rest, .ref q_t_levels, .ref q_t_stuck, .int r.2.2.2.2.1], oB q_t_rest 1 [.ref q_t_rest_near, .int r.2.2.2.2.2.1, .int r.2.2.2.2.2.2.1], aI cA q_t_rest_near 14 r.2.2.2.2.2.2.2.1, aG cA q_t_levels 15 (fun i => some (ad i)), aJ cA q_t_stuck 256 r.2.2.2.2.2.2.2.2.1] ++ lvW cA ad an r.2.2.2.2.2.2.2.2.2.1 r.2.2.2.2.2.2.2.2.2.2.1 r.2.2.2.2.2.2.2.2.2.2.2)) 0 0)  : ∀ (n : Nat) (x4 : Int32) (x5 : Int32) (v_size : Int32) (v_held : Int32) (v_knots : Nat → Int32) (t_limit : Int32) (t_rest_left : Int32) (t_rest_newEnds : Int32) (t_rest_near : Nat → Int32) (t_stuck : Nat → Int64) (lf : Nat → Int32) (ne : Nat → Int32) (nr : Nat → Nat → Int32), L_X6_bestOrder_39 a3 u_size u_near n x4 x5 v_size v_held v_knots t_limit t_rest_left t_rest_newEnds t_rest_near t_stuck lf ne nr = some r → Go X 7 0 0 39 ([oB q_v 2 [.ref q_v_knots, .int v_size, .int v_held], aI cA q_v_knots 14 v_knots, oB q_u 4 [.ref q_u_loads, .ref q_u_near, .ref q_u_ties, .int u_size, .int u_edges], aI cA q_u_near 14 u_near, oB q_t 6 [.ref q_t_rest, .ref q_t_levels, .ref q_t_stuck, .int t_limit], oB q_t_rest 1 [.ref q_t_rest_near, .int t_rest_left, .int t_rest_newEnds], aI cA q_t_rest_near 14 t_rest_near, aG cA q_t_levels 15 (fun i => some (ad i)), aJ cA q_t_stuck 256 t_stuck] ++ lvW cA ad an lf ne nr) [(0, .ref q_t), (1, .ref q_u), (2, .ref q_v), (4, .int x4), (5, .int x5)] [] := by
  intro n
  induction n with
  | zero => intro x4 x5 v_size v_held v_knots t_limit t_rest_left t_rest_newEnds t_rest_near t_stuck lf ne nr hf; exact no_some hf
  | succ n ih =>
    intro x4 x5 v_size v_held v_knots t_limit t_rest_left t_rest_newEnds t_rest_near t_stuck lf ne nr hf
    rw [L_X6_bestOrder_39] at hf
    refine g_iload C 39 4 dX6_bestOrder_39 rfl ?_
    refine g_aload_n C 41 1 dX6_bestOrder_41 rfl rfl ?_
    refine g_get C 42 2 3 dX6_bestOrder_42 inX4 rfl rfl (by decide) kw_488 rfl ?_
    refine g_icmp_ge C 45 99 dX6_bestOrder_45 (by decide) hf (fun hf => ?_) (fun hf => ?_)
    · refine g_iload C 99 3 dX6_bestOrder_99 rfl ?_
      cases hf
      exact g_iret C 101 dX6_bestOrder_101 F ⟨rfl, rfl⟩
    · refine g_iconst C 48 (0 : Int32) dX6_bestOrder_48 (by decide) ?_
      refine g_istore C 49 (fun z => [(6, .int z), (0, .ref q_t), (1, .ref q_u), (2, .ref q_v), (4, .int x4), (5, .int x5)]) dX6_bestOrder_49 (by decide) (fun _ => rfl) hf (fun x6_4 hf => ?_)
      refine g_lv [1, 2, 3, 4, 5, 0] rfl ?_
      exact w_X6_bestOrder_51 cA q_v q_v_knots q_u q_u_loads q_u_ties u_edges q_u_near q_t q_t_rest q_t_rest_near q_t_levels q_t_stuck ad an a3 u_size u_near C r F (fun y0 y1 y2 y3 y4 y5 y6 y7 y8 y9 y10 y11 y12 => L_X6_bestOrder_39 a3 u_size u_near n y0 y1 y2 y3 y4 y5 y6 y7 y8 y9 y10 y11 y12) (fun y0 y1 y2 y3 y4 y5 y6 y7 y8 y9 y10 y11 y12 hf => ih y0 y1 y2 y3 y4 y5 y6 y7 y8 y9 y10 y11 y12 hf) NN x4 x5 x6_4 v_size v_held v_knots t_limit t_rest_left t_rest_newEnds t_rest_near t_stuck lf ne nr hf
def L_X6_bestOrder_3 (a3 : Int32) (u_size : Int32) (u_near : Nat → Int32)  : Nat → Int32 → Int32 → Int32 → (Nat → Int32) → Int32 → Int32 → Int32 → (Nat → Int32) → (Nat → Int64) → (Nat → Int32) → (Nat → Int32) → (Nat → Nat → Int32) → Option (Int32 × Int32 × Int32 × (Nat → Int32) × Int32 × Int32 × Int32 × (Nat → Int32) × (Nat → Int64) × (Nat → Int32) × (Nat → Int32) × (Nat → Nat → Int32))
  | 0, _, _, _, _, _, _, _, _, _, _, _, _ => none
  | n + 1, x4, v_size, v_held, v_knots, t_limit, t_rest_left, t_rest_newEnds, t_rest_near, t_stuck, lf, ne, nr =>
    if u_size ≤ x4 then
      cal (f_X1_start t_rest_left t_rest_newEnds t_rest_near u_size u_near) fun u2 =>
      bnd (0 : Int32) fun x5_3 =>
      L_X6_bestOrder_39 a3 u_size u_near NN x4 x5_3 v_size v_held v_knots t_limit u2.1 u2.2.1 u2.2.2 t_stuck lf ne nr
    else
      cal (f_X6_netFits x4 u_size u_near t_limit t_stuck lf ne nr) fun u10 =>
      if u10.1 = 0 then
        bnd (x4 + (1 : Int32)) fun x4_13 =>
        L_X6_bestOrder_3 a3 u_size u_near n x4_13 v_size v_held v_knots u10.2.1 t_rest_left t_rest_newEnds t_rest_near u10.2.2.1 u10.2.2.2.1 u10.2.2.2.2.1 u10.2.2.2.2.2
      else
        cal (f_X1_start t_rest_left t_rest_newEnds t_rest_near u_size u_near) fun u11 =>
        bnd (0 : Int32) fun x5_12 =>
        L_X6_bestOrder_39 a3 u_size u_near NN x4 x5_12 v_size v_held v_knots u10.2.1 u11.1 u11.2.1 u11.2.2 u10.2.2.1 u10.2.2.2.1 u10.2.2.2.2.1 u10.2.2.2.2.2

set_option maxRecDepth 100000 in
set_option maxHeartbeats 1000000 in
theorem w_X6_bestOrder_3 (cA : Nat → ClassId) (q_v : Nat) (q_v_knots : Nat) (q_u : Nat) (q_u_loads : Nat) (q_u_ties : Nat) (u_edges : Int32) (q_u_near : Nat) (q_t : Nat) (q_t_rest : Nat) (q_t_rest_near : Nat) (q_t_levels : Nat) (q_t_stuck : Nat) (ad : Nat → Nat) (an : Nat → Nat) (a3 : Int32) (u_size : Int32) (u_near : Nat → Int32) {X : XT}  (C : Cx X cX6_bestOrder RX6 (some .int) cA 210 7600 7) (r : Int32 × Int32 × Int32 × (Nat → Int32) × Int32 × Int32 × Int32 × (Nat → Int32) × (Nat → Int64) × (Nat → Int32) × (Nat → Int32) × (Nat → Nat → Int32)) (F : Fx X (sB (some (.int r.1)) ([oB q_v 2 [.ref q_v_knots, .int r.2.1, .int r.2.2.1], aI cA q_v_knots 14 r.2.2.2.1, oB q_u 4 [.ref q_u_loads, .ref q_u_near, .ref q_u_ties, .int u_size, .int u_edges], aI cA q_u_near 14 u_near, oB q_t 6 [.ref q_t_rest, .ref q_t_levels, .ref q_t_stuck, .int r.2.2.2.2.1], oB q_t_rest 1 [.ref q_t_rest_near, .int r.2.2.2.2.2.1, .int r.2.2.2.2.2.2.1], aI cA q_t_rest_near 14 r.2.2.2.2.2.2.2.1, aG cA q_t_levels 15 (fun i => some (ad i)), aJ cA q_t_stuck 256 r.2.2.2.2.2.2.2.2.1] ++ lvW cA ad an r.2.2.2.2.2.2.2.2.2.1 r.2.2.2.2.2.2.2.2.2.2.1 r.2.2.2.2.2.2.2.2.2.2.2)) 0 0)  : ∀ (n : Nat) (x4 : Int32) (v_size : Int32) (v_held : Int32) (v_knots : Nat → Int32) (t_limit : Int32) (t_rest_left : Int32) (t_rest_newEnds : Int32) (t_rest_near : Nat → Int32) (t_stuck : Nat → Int64) (lf : Nat → Int32) (ne : Nat → Int32) (nr : Nat → Nat → Int32), L_X6_bestOrder_3 a3 u_size u_near n x4 v_size v_held v_knots t_limit t_rest_left t_rest_newEnds t_rest_near t_stuck lf ne nr = some r → Go X 7 0 0 3 ([oB q_v 2 [.ref q_v_knots, .int v_size, .int v_held], aI cA q_v_knots 14 v_knots, oB q_u 4 [.ref q_u_loads, .ref q_u_near, .ref q_u_ties, .int u_size, .int u_edges], aI cA q_u_near 14 u_near, oB q_t 6 [.ref q_t_rest, .ref q_t_levels, .ref q_t_stuck, .int t_limit], oB q_t_rest 1 [.ref q_t_rest_near, .int t_rest_left, .int t_rest_newEnds], aI cA q_t_rest_near 14 t_rest_near, aG cA q_t_levels 15 (fun i => some (ad i)), aJ cA q_t_stuck 256 t_stuck] ++ lvW cA ad an lf ne nr) [(0, .ref q_t), (1, .ref q_u), (2, .ref q_v), (4, .int x4)] [] := by
  intro n
  induction n with
  | zero => intro x4 v_size v_held v_knots t_limit t_rest_left t_rest_newEnds t_rest_near t_stuck lf ne nr hf; exact no_some hf
  | succ n ih =>
    intro x4 v_size v_held v_knots t_limit t_rest_left t_rest_newEnds t_rest_near t_stuck lf ne nr hf
    rw [L_X6_bestOrder_3] at hf
    refine g_iload C 3 3 dX6_bestOrder_3 rfl ?_
    refine g_aload_n C 5 1 dX6_bestOrder_5 rfl rfl ?_
    refine g_get C 6 2 3 dX6_bestOrder_6 inX4 rfl rfl (by decide) kw_488 rfl ?_
    refine g_icmp_ge C 9 28 dX6_bestOrder_9 (by decide) hf (fun hf => ?_) (fun hf => ?_)
    · refine g_aload_n C 28 0 dX6_bestOrder_28 rfl rfl ?_
      refine g_get C 29 4 0 dX6_bestOrder_29 inX6 rfl rfl (by decide) kw_489 rfl ?_
      refine g_aload_n C 32 1 dX6_bestOrder_32 rfl rfl ?_
      obtain ⟨u2, hu2, hf⟩ := cal_some hf
      refine g_callB C 33 [5, 6, 2, 3] 5 (rest := []) (P' := [oB q_v 2 [.ref q_v_knots, .int v_size, .int v_held], aI cA q_v_knots 14 v_knots, oB q_u 4 [.ref q_u_loads, .ref q_u_near, .ref q_u_ties, .int u_size, .int u_edges], aI cA q_u_near 14 u_near, oB q_t 6 [.ref q_t_rest, .ref q_t_levels, .ref q_t_stuck, .int t_limit], oB q_t_rest 1 [.ref q_t_rest_near, .int u2.1, .int u2.2.1], aI cA q_t_rest_near 14 u2.2.2, aG cA q_t_levels 15 (fun i => some (ad i)), aJ cA q_t_stuck 256 t_stuck]) dX6_bestOrder_33 (c_X1_start (x_l X) cA q_t_rest t_rest_left t_rest_newEnds q_t_rest_near t_rest_near q_u q_u_loads q_u_ties u_size u_edges q_u_near u_near  u2 hu2) kw_487 kw_125 kw_126 kw_16 kw_127 ok_X1_start ⟨by dsimp only; omega, by dsimp only; omega⟩ ⟨Nat.zero_le _, Nat.zero_le _⟩ ⟨rfl, rfl⟩ rfl rfl rfl rfl rfl (Nat.le_of_ble_eq_true rfl) rfl (N0 := 9) rfl [none, none, some 2, some 3, none, some 0, some 1, none, none] (by decide) rfl (st' := []) rfl ?_
      refine g_iconst C 36 (0 : Int32) dX6_bestOrder_36 (by decide) ?_
      refine g_istore C 37 (fun z => [(5, .int z), (0, .ref q_t), (1, .ref q_u), (2, .ref q_v), (4, .int x4)]) dX6_bestOrder_37 (by decide) (fun _ => rfl) hf (fun x5_3 hf => ?_)
      refine g_lv [1, 2, 3, 4, 0] rfl ?_
      exact w_X6_bestOrder_39 cA q_v q_v_knots q_u q_u_loads q_u_ties u_edges q_u_near q_t q_t_rest q_t_rest_near q_t_levels q_t_stuck ad an a3 u_size u_near C r F NN x4 x5_3 v_size v_held v_knots t_limit u2.1 u2.2.1 u2.2.2 t_stuck lf ne nr hf
    · refine g_aload_n C 12 0 dX6_bestOrder_12 rfl rfl ?_
      refine g_aload_n C 13 1 dX6_bestOrder_13 rfl rfl ?_
      refine g_iload C 14 3 dX6_bestOrder_14 rfl ?_
      obtain ⟨u10, hu10, hf⟩ := cal_some hf
      refine g_callT C 16 [2, 3, 4, 5, 6, 7, 8] 4 (rest := []) (P' := [oB q_v 2 [.ref q_v_knots, .int v_size, .int v_held], aI cA q_v_knots 14 v_knots, oB q_u 4 [.ref q_u_loads, .ref q_u_near, .ref q_u_ties, .int u_size, .int u_edges], aI cA q_u_near 14 u_near, oB q_t 6 [.ref q_t_rest, .ref q_t_levels, .ref q_t_stuck, .int u10.2.1], oB q_t_rest 1 [.ref q_t_rest_near, .int t_rest_left, .int t_rest_newEnds], aI cA q_t_rest_near 14 t_rest_near, aG cA q_t_levels 15 (fun i => some (ad i)), aJ cA q_t_stuck 256 u10.2.2.1]) (S1 := lvW cA ad an u10.2.2.2.1 u10.2.2.2.2.1 u10.2.2.2.2.2) dX6_bestOrder_16 (c_X6_netFits (x_l X) cA q_u q_u_loads q_u_ties u_size u_edges q_u_near u_near q_t t_limit q_t_rest t_rest_left t_rest_newEnds q_t_rest_near t_rest_near q_t_levels q_t_stuck t_stuck ad an lf ne nr x4 u10 hu10) kw_491 kw_492 kw_493 kw_469 kw_494 ok_X6_netFits ⟨by dsimp only; omega, by dsimp only; omega⟩ ⟨Nat.zero_le _, Nat.zero_le _⟩ ⟨rfl, rfl⟩ rfl rfl rfl rfl rfl (Nat.le_of_ble_eq_true rfl) rfl (lvW_len.trans lvW_len.symm) (N0 := 9) rfl [none, none, some 0, some 1, some 2, some 3, some 4, some 5, some 6] (by decide) rfl (st' := [.int u10.1]) rfl ?_
      refine g_if_ne C 19 28 dX6_bestOrder_19 (by decide) hf (fun hf => ?_) (fun hf => ?_)
      · refine g_aload_n C 28 0 dX6_bestOrder_28 rfl rfl ?_
        refine g_get C 29 4 0 dX6_bestOrder_29 inX6 rfl rfl (by decide) kw_489 rfl ?_
        refine g_aload_n C 32 1 dX6_bestOrder_32 rfl rfl ?_
        obtain ⟨u11, hu11, hf⟩ := cal_some hf
        refine g_callB C 33 [5, 6, 2, 3] 5 (rest := []) (P' := [oB q_v 2 [.ref q_v_knots, .int v_size, .int v_held], aI cA q_v_knots 14 v_knots, oB q_u 4 [.ref q_u_loads, .ref q_u_near, .ref q_u_ties, .int u_size, .int u_edges], aI cA q_u_near 14 u_near, oB q_t 6 [.ref q_t_rest, .ref q_t_levels, .ref q_t_stuck, .int u10.2.1], oB q_t_rest 1 [.ref q_t_rest_near, .int u11.1, .int u11.2.1], aI cA q_t_rest_near 14 u11.2.2, aG cA q_t_levels 15 (fun i => some (ad i)), aJ cA q_t_stuck 256 u10.2.2.1]) dX6_bestOrder_33 (c_X1_start (x_l X) cA q_t_rest t_rest_left t_rest_newEnds q_t_rest_near t_rest_near q_u q_u_loads q_u_ties u_size u_edges q_u_near u_near  u11 hu11) kw_487 kw_125 kw_126 kw_16 kw_127 ok_X1_start ⟨by dsimp only; omega, by dsimp only; omega⟩ ⟨Nat.zero_le _, Nat.zero_le _⟩ ⟨rfl, rfl⟩ rfl rfl rfl rfl rfl (Nat.le_of_ble_eq_true rfl) rfl (N0 := 9) rfl [none, none, some 2, some 3, none, some 0, some 1, none, none] (by decide) rfl (st' := []) rfl ?_
        refine g_iconst C 36 (0 : Int32) dX6_bestOrder_36 (by decide) ?_
        refine g_istore C 37 (fun z => [(5, .int z), (0, .ref q_t), (1, .ref q_u), (2, .ref q_v), (4, .int x4)]) dX6_bestOrder_37 (by decide) (fun _ => rfl) hf (fun x5_12 hf => ?_)
        refine g_lv [1, 2, 3, 4, 0] rfl ?_
        exact w_X6_bestOrder_39 cA q_v q_v_knots q_u q_u_loads q_u_ties u_edges q_u_near q_t q_t_rest q_t_rest_near q_t_levels q_t_stuck ad an a3 u_size u_near C r F NN x4 x5_12 v_size v_held v_knots u10.2.1 u11.1 u11.2.1 u11.2.2 u10.2.2.1 u10.2.2.2.1 u10.2.2.2.2.1 u10.2.2.2.2.2 hf
      · refine g_iinc C 22 3 (v := x4 + (1 : Int32)) (fun z => [(4, .int z), (0, .ref q_t), (1, .ref q_u), (2, .ref q_v)]) dX6_bestOrder_22 rfl rfl (by decide) (fun _ => rfl) hf (fun x4_13 hf => ?_)
        refine g_goto C 25 3 dX6_bestOrder_25 (by decide) ?_
        refine g_lv [1, 2, 3, 0] rfl ?_
        exact ih x4_13 v_size v_held v_knots u10.2.1 t_rest_left t_rest_newEnds t_rest_near u10.2.2.1 u10.2.2.2.1 u10.2.2.2.2.1 u10.2.2.2.2.2 hf
def f_X6_bestOrder (a3 : Int32) (v_size : Int32) (v_held : Int32) (v_knots : Nat → Int32) (u_size : Int32) (u_near : Nat → Int32) (t_limit : Int32) (t_rest_left : Int32) (t_rest_newEnds : Int32) (t_rest_near : Nat → Int32) (t_stuck : Nat → Int64) (lf : Nat → Int32) (ne : Nat → Int32) (nr : Nat → Nat → Int32) : Option (Int32 × Int32 × Int32 × (Nat → Int32) × Int32 × Int32 × Int32 × (Nat → Int32) × (Nat → Int64) × (Nat → Int32) × (Nat → Int32) × (Nat → Nat → Int32)) :=
  bnd a3 fun x4_1 =>
  L_X6_bestOrder_3 a3 u_size u_near NN x4_1 v_size v_held v_knots t_limit t_rest_left t_rest_newEnds t_rest_near t_stuck lf ne nr

set_option maxRecDepth 100000 in
set_option maxHeartbeats 1000000 in
theorem c_X6_bestOrder (l : Launch) (cA : Nat → ClassId) (q_v : Nat) (v_size : Int32) (v_held : Int32) (q_v_knots : Nat) (v_knots : Nat → Int32) (q_u : Nat) (q_u_loads : Nat) (q_u_ties : Nat) (u_size : Int32) (u_edges : Int32) (q_u_near : Nat) (u_near : Nat → Int32) (q_t : Nat) (t_limit : Int32) (q_t_rest : Nat) (t_rest_left : Int32) (t_rest_newEnds : Int32) (q_t_rest_near : Nat) (t_rest_near : Nat → Int32) (q_t_levels : Nat) (q_t_stuck : Nat) (t_stuck : Nat → Int64) (ad : Nat → Nat) (an : Nat → Nat) (lf : Nat → Int32) (ne : Nat → Int32) (nr : Nat → Nat → Int32)  (a3 : Int32) (r : Int32 × Int32 × Int32 × (Nat → Int32) × Int32 × Int32 × Int32 × (Nat → Int32) × (Nat → Int64) × (Nat → Int32) × (Nat → Int32) × (Nat → Nat → Int32)) (hf : f_X6_bestOrder a3 v_size v_held v_knots u_size u_near t_limit t_rest_left t_rest_newEnds t_rest_near t_stuck lf ne nr = some r) : MT l cA yX6_bestOrder cX6_bestOrder 7 (some .int) ({ frames := 210, cells := 0, slots := 0, locals := 7600 } : Room) [.ref q_t, .ref q_u, .ref q_v, .int a3] ([oB q_v 2 [.ref q_v_knots, .int v_size, .int v_held], aI cA q_v_knots 14 v_knots, oB q_u 4 [.ref q_u_loads, .ref q_u_near, .ref q_u_ties, .int u_size, .int u_edges], aI cA q_u_near 14 u_near, oB q_t 6 [.ref q_t_rest, .ref q_t_levels, .ref q_t_stuck, .int t_limit], oB q_t_rest 1 [.ref q_t_rest_near, .int t_rest_left, .int t_rest_newEnds], aI cA q_t_rest_near 14 t_rest_near, aG cA q_t_levels 15 (fun i => some (ad i)), aJ cA q_t_stuck 256 t_stuck] ++ lvW cA ad an lf ne nr) (sB (some (.int r.1)) ([oB q_v 2 [.ref q_v_knots, .int r.2.1, .int r.2.2.1], aI cA q_v_knots 14 r.2.2.2.1, oB q_u 4 [.ref q_u_loads, .ref q_u_near, .ref q_u_ties, .int u_size, .int u_edges], aI cA q_u_near 14 u_near, oB q_t 6 [.ref q_t_rest, .ref q_t_levels, .ref q_t_stuck, .int r.2.2.2.2.1], oB q_t_rest 1 [.ref q_t_rest_near, .int r.2.2.2.2.2.1, .int r.2.2.2.2.2.2.1], aI cA q_t_rest_near 14 r.2.2.2.2.2.2.2.1, aG cA q_t_levels 15 (fun i => some (ad i)), aJ cA q_t_stuck 256 r.2.2.2.2.2.2.2.2.1] ++ lvW cA ad an r.2.2.2.2.2.2.2.2.2.1 r.2.2.2.2.2.2.2.2.2.2.1 r.2.2.2.2.2.2.2.2.2.2.2)) := by
  refine MT.of (by decide) (Nat.le_of_ble_eq_true rfl) ?_
  intro X hXl C F hnm hrc hrs
  subst hXl
  unfold f_X6_bestOrder at hf
  have C : Cx X cX6_bestOrder RX6 (some .int) cA 210 7600 7 := C
  show Go X 7 0 0 0 ([oB q_v 2 [.ref q_v_knots, .int v_size, .int v_held], aI cA q_v_knots 14 v_knots, oB q_u 4 [.ref q_u_loads, .ref q_u_near, .ref q_u_ties, .int u_size, .int u_edges], aI cA q_u_near 14 u_near, oB q_t 6 [.ref q_t_rest, .ref q_t_levels, .ref q_t_stuck, .int t_limit], oB q_t_rest 1 [.ref q_t_rest_near, .int t_rest_left, .int t_rest_newEnds], aI cA q_t_rest_near 14 t_rest_near, aG cA q_t_levels 15 (fun i => some (ad i)), aJ cA q_t_stuck 256 t_stuck] ++ lvW cA ad an lf ne nr) [(0, .ref q_t), (1, .ref q_u), (2, .ref q_v), (3, .int a3)] []
  refine g_iload_n C 0 3 dX6_bestOrder_0 rfl rfl ?_
  refine g_istore C 1 (fun z => [(4, .int z), (0, .ref q_t), (1, .ref q_u), (2, .ref q_v), (3, .int a3)]) dX6_bestOrder_1 (by decide) (fun _ => rfl) hf (fun x4_1 hf => ?_)
  refine g_lv [1, 2, 3, 0] rfl ?_
  exact w_X6_bestOrder_3 cA q_v q_v_knots q_u q_u_loads q_u_ties u_edges q_u_near q_t q_t_rest q_t_rest_near q_t_levels q_t_stuck ad an a3 u_size u_near C r F NN x4_1 v_size v_held v_knots t_limit t_rest_left t_rest_newEnds t_rest_near t_stuck lf ne nr hf
end
