-- ===== PART A: goes FIRST, ahead of the names: the tables' words, and 'selects' of the hidden methods out of them =====
/-- a hidden method of a system that the tables say can be made, by its rows of tables_1 -/
def lw_okq (q : MethodName × Nat) : Prop := (q.1.cls ≠ "java/lang/invoke/MethodHandle" ∧ q.1.cls ≠ "java/lang/invoke/VarHandle") ∧ Cond.instantiable q.1.cls q.2 ∈ tables_1 ∧ Cond.privateMethod q.1 ∈ tables_1 ∧ Cond.instanceMethod q.1 ∈ tables_1
theorem lw_p0 : lw_okq (⟨"DatingTable", "hostFinding", "(I)I"⟩, 13) := ⟨⟨by decide +kernel, by decide +kernel⟩, List.mem_of_getElem? (i := 15) (by decide +kernel), List.mem_of_getElem? (i := 313) (by decide +kernel), List.mem_of_getElem? (i := 314) (by decide +kernel)⟩
theorem lw_p1 : lw_okq (⟨"DatingTable", "isFind", "(I)Z"⟩, 13) := ⟨⟨by decide +kernel, by decide +kernel⟩, List.mem_of_getElem? (i := 15) (by decide +kernel), List.mem_of_getElem? (i := 363) (by decide +kernel), List.mem_of_getElem? (i := 364) (by decide +kernel)⟩
theorem lw_p2 : lw_okq (⟨"DatingTable$Telling", "plainOfAges", "(LDatingTable$Find;I)I"⟩, 6) := ⟨⟨by decide +kernel, by decide +kernel⟩, List.mem_of_getElem? (i := 23) (by decide +kernel), List.mem_of_getElem? (i := 399) (by decide +kernel), List.mem_of_getElem? (i := 400) (by decide +kernel)⟩
theorem lw_p3 : lw_okq (⟨"DatingTable", "isYear", "(I)Z"⟩, 13) := ⟨⟨by decide +kernel, by decide +kernel⟩, List.mem_of_getElem? (i := 15) (by decide +kernel), List.mem_of_getElem? (i := 419) (by decide +kernel), List.mem_of_getElem? (i := 420) (by decide +kernel)⟩
theorem lw_p4 : lw_okq (⟨"DatingTable$Tape", "readGroup", "()Z"⟩, 6) := ⟨⟨by decide +kernel, by decide +kernel⟩, List.mem_of_getElem? (i := 110) (by decide +kernel), List.mem_of_getElem? (i := 455) (by decide +kernel), List.mem_of_getElem? (i := 456) (by decide +kernel)⟩
theorem lw_p5 : lw_okq (⟨"DatingTable$Tape", "skip", "(C)Z"⟩, 6) := ⟨⟨by decide +kernel, by decide +kernel⟩, List.mem_of_getElem? (i := 110) (by decide +kernel), List.mem_of_getElem? (i := 459) (by decide +kernel), List.mem_of_getElem? (i := 460) (by decide +kernel)⟩
theorem lw_p6 : lw_okq (⟨"DatingTable$Tape", "readName", "()Z"⟩, 6) := ⟨⟨by decide +kernel, by decide +kernel⟩, List.mem_of_getElem? (i := 110) (by decide +kernel), List.mem_of_getElem? (i := 463) (by decide +kernel), List.mem_of_getElem? (i := 464) (by decide +kernel)⟩
theorem lw_p7 : lw_okq (⟨"DatingTable$Tape", "readNextGroup", "()Z"⟩, 6) := ⟨⟨by decide +kernel, by decide +kernel⟩, List.mem_of_getElem? (i := 110) (by decide +kernel), List.mem_of_getElem? (i := 467) (by decide +kernel), List.mem_of_getElem? (i := 468) (by decide +kernel)⟩
theorem lw_p8 : lw_okq (⟨"DatingTable$Tape", "relate", "(II)V"⟩, 6) := ⟨⟨by decide +kernel, by decide +kernel⟩, List.mem_of_getElem? (i := 110) (by decide +kernel), List.mem_of_getElem? (i := 471) (by decide +kernel), List.mem_of_getElem? (i := 472) (by decide +kernel)⟩
theorem lw_p9 : lw_okq (⟨"DatingTable", "weigh", "(LDatingTable$Telling;)J"⟩, 13) := ⟨⟨by decide +kernel, by decide +kernel⟩, List.mem_of_getElem? (i := 15) (by decide +kernel), List.mem_of_getElem? (i := 497) (by decide +kernel), List.mem_of_getElem? (i := 498) (by decide +kernel)⟩
theorem lw_p10 : lw_okq (⟨"DatingTable$Weighing", "sumOfWeights", "(I)J"⟩, 7) := ⟨⟨by decide +kernel, by decide +kernel⟩, List.mem_of_getElem? (i := 141) (by decide +kernel), List.mem_of_getElem? (i := 521) (by decide +kernel), List.mem_of_getElem? (i := 522) (by decide +kernel)⟩
theorem lw_p11 : lw_okq (⟨"DatingTable$Counter", "prepare", "()Z"⟩, 13) := ⟨⟨by decide +kernel, by decide +kernel⟩, List.mem_of_getElem? (i := 177) (by decide +kernel), List.mem_of_getElem? (i := 531) (by decide +kernel), List.mem_of_getElem? (i := 532) (by decide +kernel)⟩
theorem lw_p12 : lw_okq (⟨"DatingTable$Counter", "findYearsThatWeigh", "()Z"⟩, 13) := ⟨⟨by decide +kernel, by decide +kernel⟩, List.mem_of_getElem? (i := 177) (by decide +kernel), List.mem_of_getElem? (i := 535) (by decide +kernel), List.mem_of_getElem? (i := 536) (by decide +kernel)⟩
theorem lw_p13 : lw_okq (⟨"DatingTable$Counter", "rankFinds", "()Z"⟩, 13) := ⟨⟨by decide +kernel, by decide +kernel⟩, List.mem_of_getElem? (i := 177) (by decide +kernel), List.mem_of_getElem? (i := 545) (by decide +kernel), List.mem_of_getElem? (i := 546) (by decide +kernel)⟩
theorem lw_p14 : lw_okq (⟨"DatingTable$Counter", "listOpenSets", "()V"⟩, 13) := ⟨⟨by decide +kernel, by decide +kernel⟩, List.mem_of_getElem? (i := 177) (by decide +kernel), List.mem_of_getElem? (i := 549) (by decide +kernel), List.mem_of_getElem? (i := 550) (by decide +kernel)⟩
theorem lw_p15 : lw_okq (⟨"DatingTable$Counter", "goForward", "(II)V"⟩, 13) := ⟨⟨by decide +kernel, by decide +kernel⟩, List.mem_of_getElem? (i := 177) (by decide +kernel), List.mem_of_getElem? (i := 556) (by decide +kernel), List.mem_of_getElem? (i := 557) (by decide +kernel)⟩
def lw_privs_1 : List (MethodName × Nat) := [(⟨"DatingTable", "hostFinding", "(I)I"⟩, 13), (⟨"DatingTable", "isFind", "(I)Z"⟩, 13), (⟨"DatingTable$Telling", "plainOfAges", "(LDatingTable$Find;I)I"⟩, 6), (⟨"DatingTable", "isYear", "(I)Z"⟩, 13), (⟨"DatingTable$Tape", "readGroup", "()Z"⟩, 6), (⟨"DatingTable$Tape", "skip", "(C)Z"⟩, 6), (⟨"DatingTable$Tape", "readName", "()Z"⟩, 6), (⟨"DatingTable$Tape", "readNextGroup", "()Z"⟩, 6), (⟨"DatingTable$Tape", "relate", "(II)V"⟩, 6), (⟨"DatingTable", "weigh", "(LDatingTable$Telling;)J"⟩, 13), (⟨"DatingTable$Weighing", "sumOfWeights", "(I)J"⟩, 7), (⟨"DatingTable$Counter", "prepare", "()Z"⟩, 13), (⟨"DatingTable$Counter", "findYearsThatWeigh", "()Z"⟩, 13), (⟨"DatingTable$Counter", "rankFinds", "()Z"⟩, 13), (⟨"DatingTable$Counter", "listOpenSets", "()V"⟩, 13), (⟨"DatingTable$Counter", "goForward", "(II)V"⟩, 13)]
theorem lw_r1 : ∀ q ∈ lw_privs_1, lw_okq q := List.forall_mem_cons.mpr ⟨lw_p0, List.forall_mem_cons.mpr ⟨lw_p1, List.forall_mem_cons.mpr ⟨lw_p2, List.forall_mem_cons.mpr ⟨lw_p3, List.forall_mem_cons.mpr ⟨lw_p4, List.forall_mem_cons.mpr ⟨lw_p5, List.forall_mem_cons.mpr ⟨lw_p6, List.forall_mem_cons.mpr ⟨lw_p7, List.forall_mem_cons.mpr ⟨lw_p8, List.forall_mem_cons.mpr ⟨lw_p9, List.forall_mem_cons.mpr ⟨lw_p10, List.forall_mem_cons.mpr ⟨lw_p11, List.forall_mem_cons.mpr ⟨lw_p12, List.forall_mem_cons.mpr ⟨lw_p13, List.forall_mem_cons.mpr ⟨lw_p14, List.forall_mem_cons.mpr ⟨lw_p15, fun _ h => absurd h List.not_mem_nil⟩⟩⟩⟩⟩⟩⟩⟩⟩⟩⟩⟩⟩⟩⟩⟩
theorem lw_p16 : lw_okq (⟨"DatingTable$Counter", "place", "(II)V"⟩, 13) := ⟨⟨by decide +kernel, by decide +kernel⟩, List.mem_of_getElem? (i := 177) (by decide +kernel), List.mem_of_getElem? (i := 561) (by decide +kernel), List.mem_of_getElem? (i := 562) (by decide +kernel)⟩
theorem lw_p17 : lw_okq (⟨"DatingTable$Counter", "leastBefore", "(II)I"⟩, 13) := ⟨⟨by decide +kernel, by decide +kernel⟩, List.mem_of_getElem? (i := 177) (by decide +kernel), List.mem_of_getElem? (i := 565) (by decide +kernel), List.mem_of_getElem? (i := 566) (by decide +kernel)⟩
theorem lw_p18 : lw_okq (⟨"DatingTable$Counter", "clearOpenSets", "([J)V"⟩, 13) := ⟨⟨by decide +kernel, by decide +kernel⟩, List.mem_of_getElem? (i := 177) (by decide +kernel), List.mem_of_getElem? (i := 572) (by decide +kernel), List.mem_of_getElem? (i := 573) (by decide +kernel)⟩
theorem lw_p19 : lw_okq (⟨"DatingTable", "weighForShare", "()J"⟩, 13) := ⟨⟨by decide +kernel, by decide +kernel⟩, List.mem_of_getElem? (i := 15) (by decide +kernel), List.mem_of_getElem? (i := 581) (by decide +kernel), List.mem_of_getElem? (i := 582) (by decide +kernel)⟩
theorem lw_p20 : lw_okq (⟨"DatingTable", "shareWithin", "(IIIJ)J"⟩, 13) := ⟨⟨by decide +kernel, by decide +kernel⟩, List.mem_of_getElem? (i := 15) (by decide +kernel), List.mem_of_getElem? (i := 586) (by decide +kernel), List.mem_of_getElem? (i := 587) (by decide +kernel)⟩
theorem lw_p21 : lw_okq (⟨"DatingTable", "fraction", "(JJ)J"⟩, 13) := ⟨⟨by decide +kernel, by decide +kernel⟩, List.mem_of_getElem? (i := 15) (by decide +kernel), List.mem_of_getElem? (i := 591) (by decide +kernel), List.mem_of_getElem? (i := 592) (by decide +kernel)⟩
theorem lw_p22 : lw_okq (⟨"DatingTable$Counter", "goBackward", "(II)V"⟩, 13) := ⟨⟨by decide +kernel, by decide +kernel⟩, List.mem_of_getElem? (i := 177) (by decide +kernel), List.mem_of_getElem? (i := 630) (by decide +kernel), List.mem_of_getElem? (i := 631) (by decide +kernel)⟩
theorem lw_p23 : lw_okq (⟨"DatingTable$Counter", "meet", "(II)J"⟩, 13) := ⟨⟨by decide +kernel, by decide +kernel⟩, List.mem_of_getElem? (i := 177) (by decide +kernel), List.mem_of_getElem? (i := 634) (by decide +kernel), List.mem_of_getElem? (i := 635) (by decide +kernel)⟩
theorem lw_p24 : lw_okq (⟨"DatingTable$Counter", "takeUp", "(II)V"⟩, 13) := ⟨⟨by decide +kernel, by decide +kernel⟩, List.mem_of_getElem? (i := 177) (by decide +kernel), List.mem_of_getElem? (i := 638) (by decide +kernel), List.mem_of_getElem? (i := 639) (by decide +kernel)⟩
theorem lw_p25 : lw_okq (⟨"DatingTable", "shortestRow", "(J)I"⟩, 13) := ⟨⟨by decide +kernel, by decide +kernel⟩, List.mem_of_getElem? (i := 15) (by decide +kernel), List.mem_of_getElem? (i := 646) (by decide +kernel), List.mem_of_getElem? (i := 647) (by decide +kernel)⟩
theorem lw_p26 : lw_okq (⟨"DatingTable", "settleYears", "(J)J"⟩, 13) := ⟨⟨by decide +kernel, by decide +kernel⟩, List.mem_of_getElem? (i := 15) (by decide +kernel), List.mem_of_getElem? (i := 672) (by decide +kernel), List.mem_of_getElem? (i := 673) (by decide +kernel)⟩
theorem lw_p27 : lw_okq (⟨"DatingTable", "countAheadOfWaiting", "(I)J"⟩, 13) := ⟨⟨by decide +kernel, by decide +kernel⟩, List.mem_of_getElem? (i := 15) (by decide +kernel), List.mem_of_getElem? (i := 688) (by decide +kernel), List.mem_of_getElem? (i := 689) (by decide +kernel)⟩
theorem lw_p28 : lw_okq (⟨"DatingTableModel", "meet", "(I)I"⟩, 37) := ⟨⟨by decide +kernel, by decide +kernel⟩, List.mem_of_getElem? (i := 719) (by decide +kernel), List.mem_of_getElem? (i := 859) (by decide +kernel), List.mem_of_getElem? (i := 860) (by decide +kernel)⟩
theorem lw_p29 : lw_okq (⟨"DatingTableModel", "isFind", "(I)Z"⟩, 37) := ⟨⟨by decide +kernel, by decide +kernel⟩, List.mem_of_getElem? (i := 719) (by decide +kernel), List.mem_of_getElem? (i := 884) (by decide +kernel), List.mem_of_getElem? (i := 885) (by decide +kernel)⟩
theorem lw_p30 : lw_okq (⟨"DatingTableModel", "meanOf", "(I)J"⟩, 37) := ⟨⟨by decide +kernel, by decide +kernel⟩, List.mem_of_getElem? (i := 719) (by decide +kernel), List.mem_of_getElem? (i := 900) (by decide +kernel), List.mem_of_getElem? (i := 901) (by decide +kernel)⟩
theorem lw_p31 : lw_okq (⟨"DatingTableModel", "plain", "(II)J"⟩, 37) := ⟨⟨by decide +kernel, by decide +kernel⟩, List.mem_of_getElem? (i := 719) (by decide +kernel), List.mem_of_getElem? (i := 904) (by decide +kernel), List.mem_of_getElem? (i := 905) (by decide +kernel)⟩
def lw_privs_2 : List (MethodName × Nat) := [(⟨"DatingTable$Counter", "place", "(II)V"⟩, 13), (⟨"DatingTable$Counter", "leastBefore", "(II)I"⟩, 13), (⟨"DatingTable$Counter", "clearOpenSets", "([J)V"⟩, 13), (⟨"DatingTable", "weighForShare", "()J"⟩, 13), (⟨"DatingTable", "shareWithin", "(IIIJ)J"⟩, 13), (⟨"DatingTable", "fraction", "(JJ)J"⟩, 13), (⟨"DatingTable$Counter", "goBackward", "(II)V"⟩, 13), (⟨"DatingTable$Counter", "meet", "(II)J"⟩, 13), (⟨"DatingTable$Counter", "takeUp", "(II)V"⟩, 13), (⟨"DatingTable", "shortestRow", "(J)I"⟩, 13), (⟨"DatingTable", "settleYears", "(J)J"⟩, 13), (⟨"DatingTable", "countAheadOfWaiting", "(I)J"⟩, 13), (⟨"DatingTableModel", "meet", "(I)I"⟩, 37), (⟨"DatingTableModel", "isFind", "(I)Z"⟩, 37), (⟨"DatingTableModel", "meanOf", "(I)J"⟩, 37), (⟨"DatingTableModel", "plain", "(II)J"⟩, 37)]
theorem lw_r2 : ∀ q ∈ lw_privs_2, lw_okq q := List.forall_mem_cons.mpr ⟨lw_p16, List.forall_mem_cons.mpr ⟨lw_p17, List.forall_mem_cons.mpr ⟨lw_p18, List.forall_mem_cons.mpr ⟨lw_p19, List.forall_mem_cons.mpr ⟨lw_p20, List.forall_mem_cons.mpr ⟨lw_p21, List.forall_mem_cons.mpr ⟨lw_p22, List.forall_mem_cons.mpr ⟨lw_p23, List.forall_mem_cons.mpr ⟨lw_p24, List.forall_mem_cons.mpr ⟨lw_p25, List.forall_mem_cons.mpr ⟨lw_p26, List.forall_mem_cons.mpr ⟨lw_p27, List.forall_mem_cons.mpr ⟨lw_p28, List.forall_mem_cons.mpr ⟨lw_p29, List.forall_mem_cons.mpr ⟨lw_p30, List.forall_mem_cons.mpr ⟨lw_p31, fun _ h => absurd h List.not_mem_nil⟩⟩⟩⟩⟩⟩⟩⟩⟩⟩⟩⟩⟩⟩⟩⟩
theorem lw_p32 : lw_okq (⟨"DatingTableModel", "missOf", "(II)I"⟩, 37) := ⟨⟨by decide +kernel, by decide +kernel⟩, List.mem_of_getElem? (i := 719) (by decide +kernel), List.mem_of_getElem? (i := 908) (by decide +kernel), List.mem_of_getElem? (i := 909) (by decide +kernel)⟩
theorem lw_p33 : lw_okq (⟨"DatingTableModel", "weightOf", "(II)J"⟩, 37) := ⟨⟨by decide +kernel, by decide +kernel⟩, List.mem_of_getElem? (i := 719) (by decide +kernel), List.mem_of_getElem? (i := 912) (by decide +kernel), List.mem_of_getElem? (i := 913) (by decide +kernel)⟩
theorem lw_p34 : lw_okq (⟨"DatingTableModel", "isYear", "(I)Z"⟩, 37) := ⟨⟨by decide +kernel, by decide +kernel⟩, List.mem_of_getElem? (i := 719) (by decide +kernel), List.mem_of_getElem? (i := 920) (by decide +kernel), List.mem_of_getElem? (i := 921) (by decide +kernel)⟩
theorem lw_p35 : lw_okq (⟨"DatingTableModel", "chain", "()V"⟩, 37) := ⟨⟨by decide +kernel, by decide +kernel⟩, List.mem_of_getElem? (i := 719) (by decide +kernel), List.mem_of_getElem? (i := 936) (by decide +kernel), List.mem_of_getElem? (i := 937) (by decide +kernel)⟩
theorem lw_p36 : lw_okq (⟨"DatingTableModel", "group", "()I"⟩, 37) := ⟨⟨by decide +kernel, by decide +kernel⟩, List.mem_of_getElem? (i := 719) (by decide +kernel), List.mem_of_getElem? (i := 940) (by decide +kernel), List.mem_of_getElem? (i := 941) (by decide +kernel)⟩
theorem lw_p37 : lw_okq (⟨"DatingTableModel", "here", "()I"⟩, 37) := ⟨⟨by decide +kernel, by decide +kernel⟩, List.mem_of_getElem? (i := 719) (by decide +kernel), List.mem_of_getElem? (i := 944) (by decide +kernel), List.mem_of_getElem? (i := 945) (by decide +kernel)⟩
theorem lw_p38 : lw_okq (⟨"DatingTableModel", "name", "()I"⟩, 37) := ⟨⟨by decide +kernel, by decide +kernel⟩, List.mem_of_getElem? (i := 719) (by decide +kernel), List.mem_of_getElem? (i := 948) (by decide +kernel), List.mem_of_getElem? (i := 949) (by decide +kernel)⟩
theorem lw_p39 : lw_okq (⟨"DatingTableModel", "pairMany", "()I"⟩, 37) := ⟨⟨by decide +kernel, by decide +kernel⟩, List.mem_of_getElem? (i := 719) (by decide +kernel), List.mem_of_getElem? (i := 952) (by decide +kernel), List.mem_of_getElem? (i := 953) (by decide +kernel)⟩
theorem lw_p40 : lw_okq (⟨"DatingTableModel", "all", "()I"⟩, 37) := ⟨⟨by decide +kernel, by decide +kernel⟩, List.mem_of_getElem? (i := 719) (by decide +kernel), List.mem_of_getElem? (i := 960) (by decide +kernel), List.mem_of_getElem? (i := 961) (by decide +kernel)⟩
theorem lw_p41 : lw_okq (⟨"DatingTableModel", "isBig", "(I)Z"⟩, 37) := ⟨⟨by decide +kernel, by decide +kernel⟩, List.mem_of_getElem? (i := 719) (by decide +kernel), List.mem_of_getElem? (i := 964) (by decide +kernel), List.mem_of_getElem? (i := 965) (by decide +kernel)⟩
theorem lw_p42 : lw_okq (⟨"DatingTableModel", "lay", "(I)V"⟩, 37) := ⟨⟨by decide +kernel, by decide +kernel⟩, List.mem_of_getElem? (i := 719) (by decide +kernel), List.mem_of_getElem? (i := 973) (by decide +kernel), List.mem_of_getElem? (i := 974) (by decide +kernel)⟩
theorem lw_p43 : lw_okq (⟨"DatingTableModel", "count", "()J"⟩, 37) := ⟨⟨by decide +kernel, by decide +kernel⟩, List.mem_of_getElem? (i := 719) (by decide +kernel), List.mem_of_getElem? (i := 977) (by decide +kernel), List.mem_of_getElem? (i := 978) (by decide +kernel)⟩
theorem lw_p44 : lw_okq (⟨"DatingTableModel", "askTotal", "()I"⟩, 37) := ⟨⟨by decide +kernel, by decide +kernel⟩, List.mem_of_getElem? (i := 719) (by decide +kernel), List.mem_of_getElem? (i := 990) (by decide +kernel), List.mem_of_getElem? (i := 991) (by decide +kernel)⟩
theorem lw_p45 : lw_okq (⟨"DatingTableModel", "countIn", "(III)J"⟩, 37) := ⟨⟨by decide +kernel, by decide +kernel⟩, List.mem_of_getElem? (i := 719) (by decide +kernel), List.mem_of_getElem? (i := 994) (by decide +kernel), List.mem_of_getElem? (i := 995) (by decide +kernel)⟩
theorem lw_p46 : lw_okq (⟨"DatingTableModel", "only", "(III)V"⟩, 37) := ⟨⟨by decide +kernel, by decide +kernel⟩, List.mem_of_getElem? (i := 719) (by decide +kernel), List.mem_of_getElem? (i := 998) (by decide +kernel), List.mem_of_getElem? (i := 999) (by decide +kernel)⟩
theorem lw_p47 : lw_okq (⟨"DatingTableModel", "fraction", "(JJ)J"⟩, 37) := ⟨⟨by decide +kernel, by decide +kernel⟩, List.mem_of_getElem? (i := 719) (by decide +kernel), List.mem_of_getElem? (i := 1002) (by decide +kernel), List.mem_of_getElem? (i := 1003) (by decide +kernel)⟩
def lw_privs_3 : List (MethodName × Nat) := [(⟨"DatingTableModel", "missOf", "(II)I"⟩, 37), (⟨"DatingTableModel", "weightOf", "(II)J"⟩, 37), (⟨"DatingTableModel", "isYear", "(I)Z"⟩, 37), (⟨"DatingTableModel", "chain", "()V"⟩, 37), (⟨"DatingTableModel", "group", "()I"⟩, 37), (⟨"DatingTableModel", "here", "()I"⟩, 37), (⟨"DatingTableModel", "name", "()I"⟩, 37), (⟨"DatingTableModel", "pairMany", "()I"⟩, 37), (⟨"DatingTableModel", "all", "()I"⟩, 37), (⟨"DatingTableModel", "isBig", "(I)Z"⟩, 37), (⟨"DatingTableModel", "lay", "(I)V"⟩, 37), (⟨"DatingTableModel", "count", "()J"⟩, 37), (⟨"DatingTableModel", "askTotal", "()I"⟩, 37), (⟨"DatingTableModel", "countIn", "(III)J"⟩, 37), (⟨"DatingTableModel", "only", "(III)V"⟩, 37), (⟨"DatingTableModel", "fraction", "(JJ)J"⟩, 37)]
theorem lw_r3 : ∀ q ∈ lw_privs_3, lw_okq q := List.forall_mem_cons.mpr ⟨lw_p32, List.forall_mem_cons.mpr ⟨lw_p33, List.forall_mem_cons.mpr ⟨lw_p34, List.forall_mem_cons.mpr ⟨lw_p35, List.forall_mem_cons.mpr ⟨lw_p36, List.forall_mem_cons.mpr ⟨lw_p37, List.forall_mem_cons.mpr ⟨lw_p38, List.forall_mem_cons.mpr ⟨lw_p39, List.forall_mem_cons.mpr ⟨lw_p40, List.forall_mem_cons.mpr ⟨lw_p41, List.forall_mem_cons.mpr ⟨lw_p42, List.forall_mem_cons.mpr ⟨lw_p43, List.forall_mem_cons.mpr ⟨lw_p44, List.forall_mem_cons.mpr ⟨lw_p45, List.forall_mem_cons.mpr ⟨lw_p46, List.forall_mem_cons.mpr ⟨lw_p47, fun _ h => absurd h List.not_mem_nil⟩⟩⟩⟩⟩⟩⟩⟩⟩⟩⟩⟩⟩⟩⟩⟩
theorem lw_p48 : lw_okq (⟨"DatingTableModel", "together", "(IIII)J"⟩, 37) := ⟨⟨by decide +kernel, by decide +kernel⟩, List.mem_of_getElem? (i := 719) (by decide +kernel), List.mem_of_getElem? (i := 1017) (by decide +kernel), List.mem_of_getElem? (i := 1018) (by decide +kernel)⟩
theorem lw_p49 : lw_okq (⟨"DatingTableModel", "tellYears", "(I)V"⟩, 37) := ⟨⟨by decide +kernel, by decide +kernel⟩, List.mem_of_getElem? (i := 719) (by decide +kernel), List.mem_of_getElem? (i := 1033) (by decide +kernel), List.mem_of_getElem? (i := 1034) (by decide +kernel)⟩
theorem lw_p50 : lw_okq (⟨"DatingTableModel", "lessThan", "(II)J"⟩, 37) := ⟨⟨by decide +kernel, by decide +kernel⟩, List.mem_of_getElem? (i := 719) (by decide +kernel), List.mem_of_getElem? (i := 1067) (by decide +kernel), List.mem_of_getElem? (i := 1068) (by decide +kernel)⟩
theorem lw_p51 : lw_okq (⟨"DatingTableModel", "carryAll", "(Z)V"⟩, 37) := ⟨⟨by decide +kernel, by decide +kernel⟩, List.mem_of_getElem? (i := 719) (by decide +kernel), List.mem_of_getElem? (i := 1075) (by decide +kernel), List.mem_of_getElem? (i := 1076) (by decide +kernel)⟩
theorem lw_p52 : lw_okq (⟨"DatingTableModel", "carry", "([IIIZ)I"⟩, 37) := ⟨⟨by decide +kernel, by decide +kernel⟩, List.mem_of_getElem? (i := 719) (by decide +kernel), List.mem_of_getElem? (i := 1079) (by decide +kernel), List.mem_of_getElem? (i := 1080) (by decide +kernel)⟩
theorem lw_p53 : lw_okq (⟨"DatingTableModel", "change", "()V"⟩, 37) := ⟨⟨by decide +kernel, by decide +kernel⟩, List.mem_of_getElem? (i := 719) (by decide +kernel), List.mem_of_getElem? (i := 1092) (by decide +kernel), List.mem_of_getElem? (i := 1093) (by decide +kernel)⟩
def lw_privs_4 : List (MethodName × Nat) := [(⟨"DatingTableModel", "together", "(IIII)J"⟩, 37), (⟨"DatingTableModel", "tellYears", "(I)V"⟩, 37), (⟨"DatingTableModel", "lessThan", "(II)J"⟩, 37), (⟨"DatingTableModel", "carryAll", "(Z)V"⟩, 37), (⟨"DatingTableModel", "carry", "([IIIZ)I"⟩, 37), (⟨"DatingTableModel", "change", "()V"⟩, 37)]
theorem lw_r4 : ∀ q ∈ lw_privs_4, lw_okq q := List.forall_mem_cons.mpr ⟨lw_p48, List.forall_mem_cons.mpr ⟨lw_p49, List.forall_mem_cons.mpr ⟨lw_p50, List.forall_mem_cons.mpr ⟨lw_p51, List.forall_mem_cons.mpr ⟨lw_p52, List.forall_mem_cons.mpr ⟨lw_p53, fun _ h => absurd h List.not_mem_nil⟩⟩⟩⟩⟩⟩
def lw_privs : List (MethodName × Nat) := lw_privs_1 ++ (lw_privs_2 ++ (lw_privs_3 ++ (lw_privs_4)))
def lw_tbl : List Cond := k2_sels lw_privs ++ tables_1
theorem lw_privs_ok : ∀ q ∈ lw_privs, lw_okq q := by
  show ∀ q ∈ lw_privs_1 ++ (lw_privs_2 ++ (lw_privs_3 ++ (lw_privs_4))), lw_okq q
  exact List.forall_mem_append.mpr ⟨lw_r1, List.forall_mem_append.mpr ⟨lw_r2, List.forall_mem_append.mpr ⟨lw_r3, lw_r4⟩⟩⟩
def RX0 : String := "DatingTable$Counter"
def TX0 : u_T := fun k => match k with
  | 0 => ("DatingTable$Counter", "weighing", "LDatingTable$Weighing;", true)
  | 1 => ("DatingTable$Counter", "ranks", "[I", true)
  | 2 => ("DatingTable$Counter", "rankCount", "I", false)
  | 3 => ("DatingTable$Counter", "firstYear", "[I", true)
  | 4 => ("DatingTable$Counter", "lastYear", "[I", true)
  | 5 => ("DatingTable$Counter", "begun", "[I", true)
  | 6 => ("DatingTable$Counter", "ended", "[I", true)
  | 7 => ("DatingTable$Counter", "openSets", "[I", true)
  | 8 => ("DatingTable$Counter", "openCount", "I", false)
  | 9 => ("DatingTable$Counter", "reached", "[J", true)
  | 10 => ("DatingTable$Counter", "toCome", "[J", true)
  | 11 => ("DatingTable$Counter", "reachedBefore", "[J", true)
  | _ => ("DatingTable$Counter", "perYear", "[J", true)
def tyX0 : Nat → FieldType := fun k => match k with
  | 0 => .object "DatingTable$Weighing"
  | 1 => .array .int
  | 2 => .int
  | 3 => .array .int
  | 4 => .array .int
  | 5 => .array .int
  | 6 => .array .int
  | 7 => .array .int
  | 8 => .int
  | 9 => .array .long
  | 10 => .array .long
  | 11 => .array .long
  | _ => .array .long
abbrev wsX00 : List Cond := u_ws RX0 TX0 13
theorem nmX0 : ∀ a, a < 13 → ∀ b, b < 13 → a ≠ b → (TX0 a).2.1 ≠ (TX0 b).2.1 := by decide +kernel
theorem tyX0_ok : ∀ k, k < 13 → parseFieldDescriptor (TX0 k).2.2.1 = some (tyX0 k) := by decide +kernel
abbrev cX0_init : ByteArray := prog_2_method_1_code
def yX0_init : MethodName := ⟨RX0, "<init>", "(LDatingTable$Weighing;)V"⟩
abbrev cX0_countAll : ByteArray := prog_2_method_2_code
def yX0_countAll : MethodName := ⟨RX0, "countAll", "()J"⟩
abbrev cX0_countEachYear : ByteArray := prog_2_method_3_code
def yX0_countEachYear : MethodName := ⟨RX0, "countEachYear", "(I)V"⟩
abbrev cX0_prepare : ByteArray := prog_2_method_4_code
def yX0_prepare : MethodName := ⟨RX0, "prepare", "()Z"⟩
abbrev cX0_findYearsThatWeigh : ByteArray := prog_2_method_5_code
def yX0_findYearsThatWeigh : MethodName := ⟨RX0, "findYearsThatWeigh", "()Z"⟩
abbrev cX0_rankFinds : ByteArray := prog_2_method_6_code
def yX0_rankFinds : MethodName := ⟨RX0, "rankFinds", "()Z"⟩
abbrev cX0_listOpenSets : ByteArray := prog_2_method_7_code
def yX0_listOpenSets : MethodName := ⟨RX0, "listOpenSets", "()V"⟩
abbrev cX0_goForward : ByteArray := prog_2_method_8_code
def yX0_goForward : MethodName := ⟨RX0, "goForward", "(II)V"⟩
abbrev cX0_goBackward : ByteArray := prog_2_method_9_code
def yX0_goBackward : MethodName := ⟨RX0, "goBackward", "(II)V"⟩
abbrev cX0_clearOpenSets : ByteArray := prog_2_method_10_code
def yX0_clearOpenSets : MethodName := ⟨RX0, "clearOpenSets", "([J)V"⟩
abbrev cX0_leastBefore : ByteArray := prog_2_method_11_code
def yX0_leastBefore : MethodName := ⟨RX0, "leastBefore", "(II)I"⟩
abbrev cX0_place : ByteArray := prog_2_method_12_code
def yX0_place : MethodName := ⟨RX0, "place", "(II)V"⟩
abbrev cX0_takeUp : ByteArray := prog_2_method_13_code
def yX0_takeUp : MethodName := ⟨RX0, "takeUp", "(II)V"⟩
abbrev cX0_meet : ByteArray := prog_2_method_14_code
def yX0_meet : MethodName := ⟨RX0, "meet", "(II)J"⟩
abbrev cX0_nextSubset : ByteArray := prog_2_method_15_code
def yX0_nextSubset : MethodName := ⟨RX0, "nextSubset", "(II)I"⟩
def RX1 : String := "DatingTable$Find"
def TX1 : u_T := fun k => match k with
  | 0 => ("DatingTable$Find", "kind", "I", false)
  | 1 => ("DatingTable$Find", "oddness", "I", false)
  | 2 => ("DatingTable$Find", "ageCount", "I", false)
  | 3 => ("DatingTable$Find", "age", "[I", true)
  | _ => ("DatingTable$Find", "gap", "[I", true)
def tyX1 : Nat → FieldType := fun k => match k with
  | 0 => .int
  | 1 => .int
  | 2 => .int
  | 3 => .array .int
  | _ => .array .int
abbrev wsX10 : List Cond := u_ws RX1 TX1 5
theorem nmX1 : ∀ a, a < 5 → ∀ b, b < 5 → a ≠ b → (TX1 a).2.1 ≠ (TX1 b).2.1 := by decide +kernel
theorem tyX1_ok : ∀ k, k < 5 → parseFieldDescriptor (TX1 k).2.2.1 = some (tyX1 k) := by decide +kernel
abbrev cX1_init : ByteArray := prog_3_method_1_code
def yX1_init : MethodName := ⟨RX1, "<init>", "()V"⟩
abbrev cX1_become : ByteArray := prog_3_method_2_code
def yX1_become : MethodName := ⟨RX1, "become", "(II)V"⟩
abbrev cX1_addAge : ByteArray := prog_3_method_3_code
def yX1_addAge : MethodName := ⟨RX1, "addAge", "(II)V"⟩
abbrev cX1_copyFrom : ByteArray := prog_3_method_4_code
def yX1_copyFrom : MethodName := ⟨RX1, "copyFrom", "(LDatingTable$Find;)V"⟩
abbrev cX1_weightFrom : ByteArray := prog_3_method_5_code
def yX1_weightFrom : MethodName := ⟨RX1, "weightFrom", "(II)I"⟩
def RX2 : String := "DatingTable$Pairs"
def TX2 : u_T := fun k => match k with
  | 0 => ("DatingTable$Pairs", "ahead", "[I", true)
  | _ => ("DatingTable$Pairs", "notLater", "[I", true)
def tyX2 : Nat → FieldType := fun k => match k with
  | 0 => .array .int
  | _ => .array .int
abbrev wsX20 : List Cond := u_ws RX2 TX2 2
theorem nmX2 : ∀ a, a < 2 → ∀ b, b < 2 → a ≠ b → (TX2 a).2.1 ≠ (TX2 b).2.1 := by decide +kernel
theorem tyX2_ok : ∀ k, k < 2 → parseFieldDescriptor (TX2 k).2.2.1 = some (tyX2 k) := by decide +kernel
abbrev cX2_init : ByteArray := prog_4_method_1_code
def yX2_init : MethodName := ⟨RX2, "<init>", "()V"⟩
abbrev cX2_howOf : ByteArray := prog_4_method_2_code
def yX2_howOf : MethodName := ⟨RX2, "howOf", "(II)I"⟩
abbrev cX2_put : ByteArray := prog_4_method_3_code
def yX2_put : MethodName := ⟨RX2, "put", "(III)V"⟩
abbrev cX2_forget : ByteArray := prog_4_method_4_code
def yX2_forget : MethodName := ⟨RX2, "forget", "(I)V"⟩
abbrev cX2_clear : ByteArray := prog_4_method_5_code
def yX2_clear : MethodName := ⟨RX2, "clear", "()V"⟩
abbrev cX2_copyFrom : ByteArray := prog_4_method_6_code
def yX2_copyFrom : MethodName := ⟨RX2, "copyFrom", "(LDatingTable$Pairs;)V"⟩
abbrev cX2_howMany : ByteArray := prog_4_method_7_code
def yX2_howMany : MethodName := ⟨RX2, "howMany", "()I"⟩
def RX3 : String := "DatingTable$Sheet"
def TX3 : u_T := fun k => match k with
  | 0 => ("DatingTable$Sheet", "isThere", "Z", false)
  | 1 => ("DatingTable$Sheet", "sort", "I", false)
  | 2 => ("DatingTable$Sheet", "length", "I", false)
  | _ => ("DatingTable$Sheet", "numbers", "[I", true)
def tyX3 : Nat → FieldType := fun k => match k with
  | 0 => .boolean
  | 1 => .int
  | 2 => .int
  | _ => .array .int
abbrev wsX30 : List Cond := u_ws RX3 TX3 4
theorem nmX3 : ∀ a, a < 4 → ∀ b, b < 4 → a ≠ b → (TX3 a).2.1 ≠ (TX3 b).2.1 := by decide +kernel
theorem tyX3_ok : ∀ k, k < 4 → parseFieldDescriptor (TX3 k).2.2.1 = some (tyX3 k) := by decide +kernel
abbrev cX3_init : ByteArray := prog_5_method_1_code
def yX3_init : MethodName := ⟨RX3, "<init>", "()V"⟩
abbrev cX3_become : ByteArray := prog_5_method_2_code
def yX3_become : MethodName := ⟨RX3, "become", "(II)V"⟩
abbrev cX3_hasFrom : ByteArray := prog_5_method_3_code
def yX3_hasFrom : MethodName := ⟨RX3, "hasFrom", "(II)Z"⟩
abbrev cX3_narrowed : ByteArray := prog_5_method_4_code
def yX3_narrowed : MethodName := ⟨RX3, "narrowed", "(I)I"⟩
def RX4 : String := "DatingTable$Tape"
def TX4 : u_T := fun k => match k with
  | 0 => ("DatingTable$Tape", "bytes", "[B", true)
  | 1 => ("DatingTable$Tape", "length", "I", false)
  | 2 => ("DatingTable$Tape", "at", "I", false)
  | 3 => ("DatingTable$Tape", "findCount", "I", false)
  | 4 => ("DatingTable$Tape", "group", "I", false)
  | _ => ("DatingTable$Tape", "told", "LDatingTable$Pairs;", true)
def tyX4 : Nat → FieldType := fun k => match k with
  | 0 => .array .byte
  | 1 => .int
  | 2 => .int
  | 3 => .int
  | 4 => .int
  | _ => .object "DatingTable$Pairs"
abbrev wsX40 : List Cond := u_ws RX4 TX4 6
theorem nmX4 : ∀ a, a < 6 → ∀ b, b < 6 → a ≠ b → (TX4 a).2.1 ≠ (TX4 b).2.1 := by decide +kernel
theorem tyX4_ok : ∀ k, k < 6 → parseFieldDescriptor (TX4 k).2.2.1 = some (tyX4 k) := by decide +kernel
abbrev cX4_init : ByteArray := prog_6_method_1_code
def yX4_init : MethodName := ⟨RX4, "<init>", "()V"⟩
abbrev cX4_append : ByteArray := prog_6_method_2_code
def yX4_append : MethodName := ⟨RX4, "append", "(JI)V"⟩
abbrev cX4_readAll : ByteArray := prog_6_method_3_code
def yX4_readAll : MethodName := ⟨RX4, "readAll", "(I)Z"⟩
abbrev cX4_readNextGroup : ByteArray := prog_6_method_4_code
def yX4_readNextGroup : MethodName := ⟨RX4, "readNextGroup", "()Z"⟩
abbrev cX4_readGroup : ByteArray := prog_6_method_5_code
def yX4_readGroup : MethodName := ⟨RX4, "readGroup", "()Z"⟩
abbrev cX4_readName : ByteArray := prog_6_method_6_code
def yX4_readName : MethodName := ⟨RX4, "readName", "()Z"⟩
abbrev cX4_skip : ByteArray := prog_6_method_7_code
def yX4_skip : MethodName := ⟨RX4, "skip", "(C)Z"⟩
abbrev cX4_relate : ByteArray := prog_6_method_8_code
def yX4_relate : MethodName := ⟨RX4, "relate", "(II)V"⟩
def RX5 : String := "DatingTable$Telling"
def TX5 : u_T := fun k => match k with
  | 0 => ("DatingTable$Telling", "yearCount", "I", false)
  | 1 => ("DatingTable$Telling", "ageOfYear", "[I", true)
  | 2 => ("DatingTable$Telling", "misses", "[I", true)
  | 3 => ("DatingTable$Telling", "findCount", "I", false)
  | 4 => ("DatingTable$Telling", "finds", "[LDatingTable$Find;", true)
  | _ => ("DatingTable$Telling", "pairs", "LDatingTable$Pairs;", true)
def tyX5 : Nat → FieldType := fun k => match k with
  | 0 => .int
  | 1 => .array .int
  | 2 => .array .int
  | 3 => .int
  | 4 => .array (.object "DatingTable$Find")
  | _ => .object "DatingTable$Pairs"
abbrev wsX50 : List Cond := u_ws RX5 TX5 6
theorem nmX5 : ∀ a, a < 6 → ∀ b, b < 6 → a ≠ b → (TX5 a).2.1 ≠ (TX5 b).2.1 := by decide +kernel
theorem tyX5_ok : ∀ k, k < 6 → parseFieldDescriptor (TX5 k).2.2.1 = some (tyX5 k) := by decide +kernel
abbrev cX5_init : ByteArray := prog_7_method_1_code
def yX5_init : MethodName := ⟨RX5, "<init>", "()V"⟩
abbrev cX5_copyFrom : ByteArray := prog_7_method_2_code
def yX5_copyFrom : MethodName := ⟨RX5, "copyFrom", "(LDatingTable$Telling;)V"⟩
abbrev cX5_plainAt : ByteArray := prog_7_method_3_code
def yX5_plainAt : MethodName := ⟨RX5, "plainAt", "(LDatingTable$Find;I)I"⟩
abbrev cX5_plainOfAges : ByteArray := prog_7_method_4_code
def yX5_plainOfAges : MethodName := ⟨RX5, "plainOfAges", "(LDatingTable$Find;I)I"⟩
abbrev cX5_meanPlain : ByteArray := prog_7_method_5_code
def yX5_meanPlain : MethodName := ⟨RX5, "meanPlain", "(LDatingTable$Find;)I"⟩
abbrev cX5_yearsThatWeigh : ByteArray := prog_7_method_6_code
def yX5_yearsThatWeigh : MethodName := ⟨RX5, "yearsThatWeigh", "(LDatingTable$Find;)I"⟩
def RX6 : String := "DatingTable$Weighing"
def TX6 : u_T := fun k => match k with
  | 0 => ("DatingTable$Weighing", "yearCount", "I", false)
  | 1 => ("DatingTable$Weighing", "findCount", "I", false)
  | 2 => ("DatingTable$Weighing", "members", "I", false)
  | 3 => ("DatingTable$Weighing", "weights", "[J", true)
  | 4 => ("DatingTable$Weighing", "from", "[I", true)
  | 5 => ("DatingTable$Weighing", "to", "[I", true)
  | _ => ("DatingTable$Weighing", "pairs", "LDatingTable$Pairs;", true)
def tyX6 : Nat → FieldType := fun k => match k with
  | 0 => .int
  | 1 => .int
  | 2 => .int
  | 3 => .array .long
  | 4 => .array .int
  | 5 => .array .int
  | _ => .object "DatingTable$Pairs"
abbrev wsX60 : List Cond := u_ws RX6 TX6 7
theorem nmX6 : ∀ a, a < 7 → ∀ b, b < 7 → a ≠ b → (TX6 a).2.1 ≠ (TX6 b).2.1 := by decide +kernel
theorem tyX6_ok : ∀ k, k < 7 → parseFieldDescriptor (TX6 k).2.2.1 = some (tyX6 k) := by decide +kernel
abbrev cX6_init : ByteArray := prog_8_method_1_code
def yX6_init : MethodName := ⟨RX6, "<init>", "()V"⟩
abbrev cX6_load : ByteArray := prog_8_method_2_code
def yX6_load : MethodName := ⟨RX6, "load", "(LDatingTable$Telling;)V"⟩
abbrev cX6_limit : ByteArray := prog_8_method_3_code
def yX6_limit : MethodName := ⟨RX6, "limit", "(III)V"⟩
abbrev cX6_leaveOut : ByteArray := prog_8_method_4_code
def yX6_leaveOut : MethodName := ⟨RX6, "leaveOut", "(I)V"⟩
abbrev cX6_level : ByteArray := prog_8_method_5_code
def yX6_level : MethodName := ⟨RX6, "level", "(IJ)V"⟩
abbrev cX6_multiplyByYears : ByteArray := prog_8_method_6_code
def yX6_multiplyByYears : MethodName := ⟨RX6, "multiplyByYears", "(I)V"⟩
abbrev cX6_isMember : ByteArray := prog_8_method_7_code
def yX6_isMember : MethodName := ⟨RX6, "isMember", "(I)Z"⟩
abbrev cX6_weightAt : ByteArray := prog_8_method_8_code
def yX6_weightAt : MethodName := ⟨RX6, "weightAt", "(II)J"⟩
abbrev cX6_isBig : ByteArray := prog_8_method_9_code
def yX6_isBig : MethodName := ⟨RX6, "isBig", "()Z"⟩
abbrev cX6_sumOfWeights : ByteArray := prog_8_method_10_code
def yX6_sumOfWeights : MethodName := ⟨RX6, "sumOfWeights", "(I)J"⟩
def RX7 : String := "DatingTable"
def TX7 : u_T := fun k => match k with
  | 0 => ("DatingTable", "now", "LDatingTable$Telling;", true)
  | 1 => ("DatingTable", "kept", "LDatingTable$Telling;", true)
  | 2 => ("DatingTable", "isKept", "Z", false)
  | 3 => ("DatingTable", "sheets", "[LDatingTable$Sheet;", true)
  | 4 => ("DatingTable", "tape", "LDatingTable$Tape;", true)
  | 5 => ("DatingTable", "weighing", "LDatingTable$Weighing;", true)
  | 6 => ("DatingTable", "counter", "LDatingTable$Counter;", true)
  | 7 => ("DatingTable", "waiting", "[I", true)
  | 8 => ("DatingTable", "waitingCount", "I", false)
  | 9 => ("DatingTable", "drawnYears", "[I", true)
  | 10 => ("DatingTable", "isDrawn", "Z", false)
  | 11 => ("DatingTable", "lowerPart", "J", false)
  | _ => ("DatingTable", "hostFindings", "I", false)
def tyX7 : Nat → FieldType := fun k => match k with
  | 0 => .object "DatingTable$Telling"
  | 1 => .object "DatingTable$Telling"
  | 2 => .boolean
  | 3 => .array (.object "DatingTable$Sheet")
  | 4 => .object "DatingTable$Tape"
  | 5 => .object "DatingTable$Weighing"
  | 6 => .object "DatingTable$Counter"
  | 7 => .array .int
  | 8 => .int
  | 9 => .array .int
  | 10 => .boolean
  | 11 => .long
  | _ => .int
abbrev wsX70 : List Cond := u_ws RX7 TX7 13
theorem nmX7 : ∀ a, a < 13 → ∀ b, b < 13 → a ≠ b → (TX7 a).2.1 ≠ (TX7 b).2.1 := by decide +kernel
theorem tyX7_ok : ∀ k, k < 13 → parseFieldDescriptor (TX7 k).2.2.1 = some (tyX7 k) := by decide +kernel
abbrev cX7_init : ByteArray := prog_1_method_1_code
def yX7_init : MethodName := ⟨RX7, "<init>", "()V"⟩
abbrev cX7_years : ByteArray := prog_1_method_2_code
def yX7_years : MethodName := ⟨RX7, "years", "(I)I"⟩
abbrev cX7_curve : ByteArray := prog_1_method_3_code
def yX7_curve : MethodName := ⟨RX7, "curve", "(II)I"⟩
abbrev cX7_miss : ByteArray := prog_1_method_4_code
def yX7_miss : MethodName := ⟨RX7, "miss", "(II)I"⟩
abbrev cX7_sheet : ByteArray := prog_1_method_5_code
def yX7_sheet : MethodName := ⟨RX7, "sheet", "(III)I"⟩
abbrev cX7_write : ByteArray := prog_1_method_6_code
def yX7_write : MethodName := ⟨RX7, "write", "(III)I"⟩
abbrev cX7_lose : ByteArray := prog_1_method_7_code
def yX7_lose : MethodName := ⟨RX7, "lose", "(I)I"⟩
abbrev cX7_lay : ByteArray := prog_1_method_8_code
def yX7_lay : MethodName := ⟨RX7, "lay", "(IIIII)I"⟩
abbrev cX7_find : ByteArray := prog_1_method_9_code
def yX7_find : MethodName := ⟨RX7, "find", "(II)I"⟩
abbrev cX7_ring : ByteArray := prog_1_method_10_code
def yX7_ring : MethodName := ⟨RX7, "ring", "(III)I"⟩
abbrev cX7_odd : ByteArray := prog_1_method_11_code
def yX7_odd : MethodName := ⟨RX7, "odd", "(II)I"⟩
abbrev cX7_pair : ByteArray := prog_1_method_12_code
def yX7_pair : MethodName := ⟨RX7, "pair", "(III)I"⟩
abbrev cX7_of : ByteArray := prog_1_method_13_code
def yX7_of : MethodName := ⟨RX7, "of", "(II)I"⟩
abbrev cX7_weight : ByteArray := prog_1_method_14_code
def yX7_weight : MethodName := ⟨RX7, "weight", "(II)I"⟩
abbrev cX7_drop : ByteArray := prog_1_method_15_code
def yX7_drop : MethodName := ⟨RX7, "drop", "()I"⟩
abbrev cX7_feed : ByteArray := prog_1_method_16_code
def yX7_feed : MethodName := ⟨RX7, "feed", "(JI)I"⟩
abbrev cX7_text : ByteArray := prog_1_method_17_code
def yX7_text : MethodName := ⟨RX7, "text", "()I"⟩
abbrev cX7_total : ByteArray := prog_1_method_18_code
def yX7_total : MethodName := ⟨RX7, "total", "()J"⟩
abbrev cX7_share : ByteArray := prog_1_method_19_code
def yX7_share : MethodName := ⟨RX7, "share", "(II)J"⟩
abbrev cX7_below : ByteArray := prog_1_method_20_code
def yX7_below : MethodName := ⟨RX7, "below", "()J"⟩
abbrev cX7_until : ByteArray := prog_1_method_21_code
def yX7_until : MethodName := ⟨RX7, "until", "(II)J"⟩
abbrev cX7_order : ByteArray := prog_1_method_22_code
def yX7_order : MethodName := ⟨RX7, "order", "(II)J"⟩
abbrev cX7_apart : ByteArray := prog_1_method_23_code
def yX7_apart : MethodName := ⟨RX7, "apart", "(III)J"⟩
abbrev cX7_mean : ByteArray := prog_1_method_24_code
def yX7_mean : MethodName := ⟨RX7, "mean", "(I)J"⟩
abbrev cX7_best : ByteArray := prog_1_method_25_code
def yX7_best : MethodName := ⟨RX7, "best", "(I)I"⟩
abbrev cX7_span : ByteArray := prog_1_method_26_code
def yX7_span : MethodName := ⟨RX7, "span", "(II)I"⟩
abbrev cX7_strange : ByteArray := prog_1_method_27_code
def yX7_strange : MethodName := ⟨RX7, "strange", "(I)J"⟩
abbrev cX7_without : ByteArray := prog_1_method_28_code
def yX7_without : MethodName := ⟨RX7, "without", "(I)J"⟩
abbrev cX7_draw : ByteArray := prog_1_method_29_code
def yX7_draw : MethodName := ⟨RX7, "draw", "(J)J"⟩
abbrev cX7_drawn : ByteArray := prog_1_method_30_code
def yX7_drawn : MethodName := ⟨RX7, "drawn", "(I)I"⟩
abbrev cX7_tell : ByteArray := prog_1_method_31_code
def yX7_tell : MethodName := ⟨RX7, "tell", "(I)I"⟩
abbrev cX7_number : ByteArray := prog_1_method_32_code
def yX7_number : MethodName := ⟨RX7, "number", "()J"⟩
abbrev cX7_keep : ByteArray := prog_1_method_33_code
def yX7_keep : MethodName := ⟨RX7, "keep", "()I"⟩
abbrev cX7_back : ByteArray := prog_1_method_34_code
def yX7_back : MethodName := ⟨RX7, "back", "()I"⟩
abbrev cX7_bears : ByteArray := prog_1_method_35_code
def yX7_bears : MethodName := ⟨RX7, "bears", "()J"⟩
abbrev cX7_count : ByteArray := prog_1_method_36_code
def yX7_count : MethodName := ⟨RX7, "count", "(I)I"⟩
abbrev cX7_isFind : ByteArray := prog_1_method_37_code
def yX7_isFind : MethodName := ⟨RX7, "isFind", "(I)Z"⟩
abbrev cX7_isYear : ByteArray := prog_1_method_38_code
def yX7_isYear : MethodName := ⟨RX7, "isYear", "(I)Z"⟩
abbrev cX7_isAge : ByteArray := prog_1_method_39_code
def yX7_isAge : MethodName := ⟨RX7, "isAge", "(I)Z"⟩
abbrev cX7_isDigit : ByteArray := prog_1_method_40_code
def yX7_isDigit : MethodName := ⟨RX7, "isDigit", "(I)Z"⟩
abbrev cX7_isSheet : ByteArray := prog_1_method_41_code
def yX7_isSheet : MethodName := ⟨RX7, "isSheet", "(I)Z"⟩
abbrev cX7_isSort : ByteArray := prog_1_method_42_code
def yX7_isSort : MethodName := ⟨RX7, "isSort", "(I)Z"⟩
abbrev cX7_isOfKind : ByteArray := prog_1_method_43_code
def yX7_isOfKind : MethodName := ⟨RX7, "isOfKind", "(II)Z"⟩
abbrev cX7_hostFinding : ByteArray := prog_1_method_44_code
def yX7_hostFinding : MethodName := ⟨RX7, "hostFinding", "(I)I"⟩
abbrev cX7_weigh : ByteArray := prog_1_method_45_code
def yX7_weigh : MethodName := ⟨RX7, "weigh", "(LDatingTable$Telling;)J"⟩
abbrev cX7_weighForShare : ByteArray := prog_1_method_46_code
def yX7_weighForShare : MethodName := ⟨RX7, "weighForShare", "()J"⟩
abbrev cX7_shareWithin : ByteArray := prog_1_method_47_code
def yX7_shareWithin : MethodName := ⟨RX7, "shareWithin", "(IIIJ)J"⟩
abbrev cX7_fraction : ByteArray := prog_1_method_48_code
def yX7_fraction : MethodName := ⟨RX7, "fraction", "(JJ)J"⟩
abbrev cX7_greatestDivisor : ByteArray := prog_1_method_49_code
def yX7_greatestDivisor : MethodName := ⟨RX7, "greatestDivisor", "(JJ)J"⟩
abbrev cX7_shortestRow : ByteArray := prog_1_method_50_code
def yX7_shortestRow : MethodName := ⟨RX7, "shortestRow", "(J)I"⟩
abbrev cX7_settleYears : ByteArray := prog_1_method_51_code
def yX7_settleYears : MethodName := ⟨RX7, "settleYears", "(J)J"⟩
abbrev cX7_countAheadOfWaiting : ByteArray := prog_1_method_52_code
def yX7_countAheadOfWaiting : MethodName := ⟨RX7, "countAheadOfWaiting", "(I)J"⟩
def RX8 : String := "DatingTableModel"
def TX8 : u_T := fun k => match k with
  | 0 => ("DatingTableModel", "years", "I", false)
  | 1 => ("DatingTableModel", "curve", "[I", true)
  | 2 => ("DatingTableModel", "misses", "[I", true)
  | 3 => ("DatingTableModel", "finds", "I", false)
  | 4 => ("DatingTableModel", "kinds", "[I", true)
  | 5 => ("DatingTableModel", "odds", "[I", true)
  | 6 => ("DatingTableModel", "agesMany", "[I", true)
  | 7 => ("DatingTableModel", "ages", "[I", true)
  | 8 => ("DatingTableModel", "gaps", "[I", true)
  | 9 => ("DatingTableModel", "pairs", "[I", true)
  | 10 => ("DatingTableModel", "hasDrawn", "Z", false)
  | 11 => ("DatingTableModel", "drawn", "[I", true)
  | 12 => ("DatingTableModel", "below", "J", false)
  | 13 => ("DatingTableModel", "isKept", "Z", false)
  | 14 => ("DatingTableModel", "kept", "[I", true)
  | 15 => ("DatingTableModel", "sheetSort", "[I", true)
  | 16 => ("DatingTableModel", "sheetSize", "[I", true)
  | 17 => ("DatingTableModel", "sheet", "[I", true)
  | 18 => ("DatingTableModel", "tape", "[I", true)
  | 19 => ("DatingTableModel", "taped", "I", false)
  | 20 => ("DatingTableModel", "waits", "I", false)
  | 21 => ("DatingTableModel", "waiting", "[I", true)
  | 22 => ("DatingTableModel", "met", "I", false)
  | 23 => ("DatingTableModel", "at", "I", false)
  | 24 => ("DatingTableModel", "isWrong", "Z", false)
  | 25 => ("DatingTableModel", "newPairs", "[I", true)
  | 26 => ("DatingTableModel", "weights", "[J", true)
  | 27 => ("DatingTableModel", "counted", "I", false)
  | 28 => ("DatingTableModel", "aheads", "[I", true)
  | 29 => ("DatingTableModel", "notLaters", "[I", true)
  | 30 => ("DatingTableModel", "products", "[J", true)
  | 31 => ("DatingTableModel", "ways", "[J", true)
  | 32 => ("DatingTableModel", "before", "[J", true)
  | 33 => ("DatingTableModel", "total0", "J", false)
  | 34 => ("DatingTableModel", "byYear", "[J", true)
  | 35 => ("DatingTableModel", "some", "[I", true)
  | _ => ("DatingTableModel", "aside", "[I", true)
def tyX8 : Nat → FieldType := fun k => match k with
  | 0 => .int
  | 1 => .array .int
  | 2 => .array .int
  | 3 => .int
  | 4 => .array .int
  | 5 => .array .int
  | 6 => .array .int
  | 7 => .array .int
  | 8 => .array .int
  | 9 => .array .int
  | 10 => .boolean
  | 11 => .array .int
  | 12 => .long
  | 13 => .boolean
  | 14 => .array .int
  | 15 => .array .int
  | 16 => .array .int
  | 17 => .array .int
  | 18 => .array .int
  | 19 => .int
  | 20 => .int
  | 21 => .array .int
  | 22 => .int
  | 23 => .int
  | 24 => .boolean
  | 25 => .array .int
  | 26 => .array .long
  | 27 => .int
  | 28 => .array .int
  | 29 => .array .int
  | 30 => .array .long
  | 31 => .array .long
  | 32 => .array .long
  | 33 => .long
  | 34 => .array .long
  | 35 => .array .int
  | _ => .array .int
abbrev wsX80 : List Cond := u_ws RX8 TX8 37
theorem nmX8 : ∀ a, a < 37 → ∀ b, b < 37 → a ≠ b → (TX8 a).2.1 ≠ (TX8 b).2.1 := by decide +kernel
theorem tyX8_ok : ∀ k, k < 37 → parseFieldDescriptor (TX8 k).2.2.1 = some (tyX8 k) := by decide +kernel
abbrev cX8_init : ByteArray := prog_10_method_1_code
def yX8_init : MethodName := ⟨RX8, "<init>", "()V"⟩
abbrev cX8_meet : ByteArray := prog_10_method_2_code
def yX8_meet : MethodName := ⟨RX8, "meet", "(I)I"⟩
abbrev cX8_isIn : ByteArray := prog_10_method_3_code
def yX8_isIn : MethodName := ⟨RX8, "isIn", "(III)Z"⟩
abbrev cX8_isFind : ByteArray := prog_10_method_4_code
def yX8_isFind : MethodName := ⟨RX8, "isFind", "(I)Z"⟩
abbrev cX8_isYear : ByteArray := prog_10_method_5_code
def yX8_isYear : MethodName := ⟨RX8, "isYear", "(I)Z"⟩
abbrev cX8_years : ByteArray := prog_10_method_6_code
def yX8_years : MethodName := ⟨RX8, "years", "(I)I"⟩
abbrev cX8_curve : ByteArray := prog_10_method_7_code
def yX8_curve : MethodName := ⟨RX8, "curve", "(II)I"⟩
abbrev cX8_miss : ByteArray := prog_10_method_8_code
def yX8_miss : MethodName := ⟨RX8, "miss", "(II)I"⟩
abbrev cX8_isSheet : ByteArray := prog_10_method_9_code
def yX8_isSheet : MethodName := ⟨RX8, "isSheet", "(I)Z"⟩
abbrev cX8_sheet : ByteArray := prog_10_method_10_code
def yX8_sheet : MethodName := ⟨RX8, "sheet", "(III)I"⟩
abbrev cX8_write : ByteArray := prog_10_method_11_code
def yX8_write : MethodName := ⟨RX8, "write", "(III)I"⟩
abbrev cX8_lose : ByteArray := prog_10_method_12_code
def yX8_lose : MethodName := ⟨RX8, "lose", "(I)I"⟩
abbrev cX8_lay : ByteArray := prog_10_method_13_code
def yX8_lay : MethodName := ⟨RX8, "lay", "(IIIII)I"⟩
abbrev cX8_find : ByteArray := prog_10_method_14_code
def yX8_find : MethodName := ⟨RX8, "find", "(II)I"⟩
abbrev cX8_ring : ByteArray := prog_10_method_15_code
def yX8_ring : MethodName := ⟨RX8, "ring", "(III)I"⟩
abbrev cX8_odd : ByteArray := prog_10_method_16_code
def yX8_odd : MethodName := ⟨RX8, "odd", "(II)I"⟩
abbrev cX8_pair : ByteArray := prog_10_method_17_code
def yX8_pair : MethodName := ⟨RX8, "pair", "(III)I"⟩
abbrev cX8_missOf : ByteArray := prog_10_method_18_code
def yX8_missOf : MethodName := ⟨RX8, "missOf", "(II)I"⟩
abbrev cX8_plain : ByteArray := prog_10_method_19_code
def yX8_plain : MethodName := ⟨RX8, "plain", "(II)J"⟩
abbrev cX8_meanOf : ByteArray := prog_10_method_20_code
def yX8_meanOf : MethodName := ⟨RX8, "meanOf", "(I)J"⟩
abbrev cX8_weightOf : ByteArray := prog_10_method_21_code
def yX8_weightOf : MethodName := ⟨RX8, "weightOf", "(II)J"⟩
abbrev cX8_of : ByteArray := prog_10_method_22_code
def yX8_of : MethodName := ⟨RX8, "of", "(II)I"⟩
abbrev cX8_weight : ByteArray := prog_10_method_23_code
def yX8_weight : MethodName := ⟨RX8, "weight", "(II)I"⟩
abbrev cX8_drop : ByteArray := prog_10_method_24_code
def yX8_drop : MethodName := ⟨RX8, "drop", "()I"⟩
abbrev cX8_feed : ByteArray := prog_10_method_25_code
def yX8_feed : MethodName := ⟨RX8, "feed", "(JI)I"⟩
abbrev cX8_here : ByteArray := prog_10_method_26_code
def yX8_here : MethodName := ⟨RX8, "here", "()I"⟩
abbrev cX8_name : ByteArray := prog_10_method_27_code
def yX8_name : MethodName := ⟨RX8, "name", "()I"⟩
abbrev cX8_group : ByteArray := prog_10_method_28_code
def yX8_group : MethodName := ⟨RX8, "group", "()I"⟩
abbrev cX8_chain : ByteArray := prog_10_method_29_code
def yX8_chain : MethodName := ⟨RX8, "chain", "()V"⟩
abbrev cX8_pairMany : ByteArray := prog_10_method_30_code
def yX8_pairMany : MethodName := ⟨RX8, "pairMany", "()I"⟩
abbrev cX8_text : ByteArray := prog_10_method_31_code
def yX8_text : MethodName := ⟨RX8, "text", "()I"⟩
abbrev cX8_in : ByteArray := prog_10_method_32_code
def yX8_in : MethodName := ⟨RX8, "in", "(II)Z"⟩
abbrev cX8_lay_ : ByteArray := prog_10_method_33_code
def yX8_lay_ : MethodName := ⟨RX8, "lay", "(I)V"⟩
abbrev cX8_count : ByteArray := prog_10_method_34_code
def yX8_count : MethodName := ⟨RX8, "count", "()J"⟩
abbrev cX8_isBig : ByteArray := prog_10_method_35_code
def yX8_isBig : MethodName := ⟨RX8, "isBig", "(I)Z"⟩
abbrev cX8_all : ByteArray := prog_10_method_36_code
def yX8_all : MethodName := ⟨RX8, "all", "()I"⟩
abbrev cX8_askTotal : ByteArray := prog_10_method_37_code
def yX8_askTotal : MethodName := ⟨RX8, "askTotal", "()I"⟩
abbrev cX8_total : ByteArray := prog_10_method_38_code
def yX8_total : MethodName := ⟨RX8, "total", "()J"⟩
abbrev cX8_common : ByteArray := prog_10_method_39_code
def yX8_common : MethodName := ⟨RX8, "common", "(JJ)J"⟩
abbrev cX8_fraction : ByteArray := prog_10_method_40_code
def yX8_fraction : MethodName := ⟨RX8, "fraction", "(JJ)J"⟩
abbrev cX8_below : ByteArray := prog_10_method_41_code
def yX8_below : MethodName := ⟨RX8, "below", "()J"⟩
abbrev cX8_only : ByteArray := prog_10_method_42_code
def yX8_only : MethodName := ⟨RX8, "only", "(III)V"⟩
abbrev cX8_countIn : ByteArray := prog_10_method_43_code
def yX8_countIn : MethodName := ⟨RX8, "countIn", "(III)J"⟩
abbrev cX8_share : ByteArray := prog_10_method_44_code
def yX8_share : MethodName := ⟨RX8, "share", "(II)J"⟩
abbrev cX8_until : ByteArray := prog_10_method_45_code
def yX8_until : MethodName := ⟨RX8, "until", "(II)J"⟩
abbrev cX8_together : ByteArray := prog_10_method_46_code
def yX8_together : MethodName := ⟨RX8, "together", "(IIII)J"⟩
abbrev cX8_order : ByteArray := prog_10_method_47_code
def yX8_order : MethodName := ⟨RX8, "order", "(II)J"⟩
abbrev cX8_apart : ByteArray := prog_10_method_48_code
def yX8_apart : MethodName := ⟨RX8, "apart", "(III)J"⟩
abbrev cX8_mean : ByteArray := prog_10_method_49_code
def yX8_mean : MethodName := ⟨RX8, "mean", "(I)J"⟩
abbrev cX8_tellYears : ByteArray := prog_10_method_50_code
def yX8_tellYears : MethodName := ⟨RX8, "tellYears", "(I)V"⟩
abbrev cX8_best : ByteArray := prog_10_method_51_code
def yX8_best : MethodName := ⟨RX8, "best", "(I)I"⟩
abbrev cX8_span : ByteArray := prog_10_method_52_code
def yX8_span : MethodName := ⟨RX8, "span", "(II)I"⟩
abbrev cX8_strange : ByteArray := prog_10_method_53_code
def yX8_strange : MethodName := ⟨RX8, "strange", "(I)J"⟩
abbrev cX8_without : ByteArray := prog_10_method_54_code
def yX8_without : MethodName := ⟨RX8, "without", "(I)J"⟩
abbrev cX8_draw : ByteArray := prog_10_method_55_code
def yX8_draw : MethodName := ⟨RX8, "draw", "(J)J"⟩
abbrev cX8_drawn : ByteArray := prog_10_method_56_code
def yX8_drawn : MethodName := ⟨RX8, "drawn", "(I)I"⟩
abbrev cX8_tell : ByteArray := prog_10_method_57_code
def yX8_tell : MethodName := ⟨RX8, "tell", "(I)I"⟩
abbrev cX8_number : ByteArray := prog_10_method_58_code
def yX8_number : MethodName := ⟨RX8, "number", "()J"⟩
abbrev cX8_lessThan : ByteArray := prog_10_method_59_code
def yX8_lessThan : MethodName := ⟨RX8, "lessThan", "(II)J"⟩
abbrev cX8_carry : ByteArray := prog_10_method_60_code
def yX8_carry : MethodName := ⟨RX8, "carry", "([IIIZ)I"⟩
abbrev cX8_carryAll : ByteArray := prog_10_method_61_code
def yX8_carryAll : MethodName := ⟨RX8, "carryAll", "(Z)V"⟩
abbrev cX8_keep : ByteArray := prog_10_method_62_code
def yX8_keep : MethodName := ⟨RX8, "keep", "()I"⟩
abbrev cX8_back : ByteArray := prog_10_method_63_code
def yX8_back : MethodName := ⟨RX8, "back", "()I"⟩
abbrev cX8_change : ByteArray := prog_10_method_64_code
def yX8_change : MethodName := ⟨RX8, "change", "()V"⟩
abbrev cX8_bears : ByteArray := prog_10_method_65_code
def yX8_bears : MethodName := ⟨RX8, "bears", "()J"⟩
abbrev cX8_count_ : ByteArray := prog_10_method_66_code
def yX8_count_ : MethodName := ⟨RX8, "count", "(I)I"⟩
def RJ6 : String := "java/lang/Integer"
def TJ6 : u_T := fun k => match k with
  | _ => ("", "", "", false)
def tyJ6 : Nat → FieldType := fun k => match k with
  | _ => .int
theorem nmJ6 : ∀ a, a < 0 → ∀ b, b < 0 → a ≠ b → (TJ6 a).2.1 ≠ (TJ6 b).2.1 := by decide +kernel
theorem tyJ6_ok : ∀ k, k < 0 → parseFieldDescriptor (TJ6 k).2.2.1 = some (tyJ6 k) := by decide +kernel
abbrev cJ6_bitCount_0f7a4 : ByteArray := prog_11_method_49_code
def yJ6_bitCount_0f7a4 : MethodName := ⟨RJ6, "bitCount", "(I)I"⟩
def RJ9 : String := "java/lang/Math"
def TJ9 : u_T := fun k => match k with
  | _ => ("", "", "", false)
def tyJ9 : Nat → FieldType := fun k => match k with
  | _ => .int
theorem nmJ9 : ∀ a, a < 0 → ∀ b, b < 0 → a ≠ b → (TJ9 a).2.1 ≠ (TJ9 b).2.1 := by decide +kernel
theorem tyJ9_ok : ∀ k, k < 0 → parseFieldDescriptor (TJ9 k).2.2.1 = some (tyJ9 k) := by decide +kernel
abbrev cJ9_abs_0f7a4 : ByteArray := prog_12_method_59_code
def yJ9_abs_0f7a4 : MethodName := ⟨RJ9, "abs", "(I)I"⟩
abbrev cJ9_max_7cf53 : ByteArray := prog_12_method_65_code
def yJ9_max_7cf53 : MethodName := ⟨RJ9, "max", "(II)I"⟩
abbrev cJ9_min_7cf53 : ByteArray := prog_12_method_69_code
def yJ9_min_7cf53 : MethodName := ⟨RJ9, "min", "(II)I"⟩
def RJ10 : String := "java/lang/System"
def TJ10 : u_T := fun k => match k with
  | _ => ("", "", "", false)
def tyJ10 : Nat → FieldType := fun k => match k with
  | _ => .int
theorem nmJ10 : ∀ a, a < 0 → ∀ b, b < 0 → a ≠ b → (TJ10 a).2.1 ≠ (TJ10 b).2.1 := by decide +kernel
theorem tyJ10_ok : ∀ k, k < 0 → parseFieldDescriptor (TJ10 k).2.2.1 = some (tyJ10 k) := by decide +kernel
def RJ7 : String := "java/util/Arrays"
def TJ7 : u_T := fun k => match k with
  | _ => ("", "", "", false)
def tyJ7 : Nat → FieldType := fun k => match k with
  | _ => .int
theorem nmJ7 : ∀ a, a < 0 → ∀ b, b < 0 → a ≠ b → (TJ7 a).2.1 ≠ (TJ7 b).2.1 := by decide +kernel
theorem tyJ7_ok : ∀ k, k < 0 → parseFieldDescriptor (TJ7 k).2.2.1 = some (tyJ7 k) := by decide +kernel
abbrev cJ7_fill_d0a16 : ByteArray := prog_14_method_101_code
def yJ7_fill_d0a16 : MethodName := ⟨RJ7, "fill", "([JJ)V"⟩
abbrev cJ7_fill_53178 : ByteArray := prog_14_method_103_code
def yJ7_fill_53178 : MethodName := ⟨RJ7, "fill", "([II)V"⟩
def RL : String := "DatingTableLaw"
abbrev cL_law : ByteArray := code
def yL_law : MethodName := ⟨RL, "law", "([I)Z"⟩
abbrev vwCl : List vw_C := [(RX0, TX0, 13), (RX1, TX1, 5), (RX2, TX2, 2), (RX3, TX3, 4), (RX4, TX4, 6), (RX5, TX5, 6), (RX6, TX6, 7), (RX7, TX7, 13), (RX8, TX8, 37)]
