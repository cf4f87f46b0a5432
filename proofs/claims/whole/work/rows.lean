section
-- ===== PART A: goes FIRST, ahead of the names: the tables' words, and 'selects' of the private methods out of them =====
/-- a private method of a class that the tables say can be made, by its rows of tables_1 -/
def lw_okq (q : MethodName × Nat) : Prop := (q.1.cls ≠ "java/lang/invoke/MethodHandle" ∧ q.1.cls ≠ "java/lang/invoke/VarHandle") ∧ Cond.instantiable q.1.cls q.2 ∈ tables_1 ∧ Cond.privateMethod q.1 ∈ tables_1 ∧ Cond.instanceMethod q.1 ∈ tables_1
theorem lw_p0 : lw_okq (⟨"FenceWays$Parser", "take", "(ILFenceWays$Plan;)I"⟩, 3) := ⟨⟨by decide +kernel, by decide +kernel⟩, List.mem_of_getElem? (i := 42) (by decide +kernel), List.mem_of_getElem? (i := 337) (by decide +kernel), List.mem_of_getElem? (i := 338) (by decide +kernel)⟩
theorem lw_p1 : lw_okq (⟨"FenceWays$Parser", "takeWord", "(ILFenceWays$Plan;)I"⟩, 3) := ⟨⟨by decide +kernel, by decide +kernel⟩, List.mem_of_getElem? (i := 42) (by decide +kernel), List.mem_of_getElem? (i := 341) (by decide +kernel), List.mem_of_getElem? (i := 342) (by decide +kernel)⟩
theorem lw_p2 : lw_okq (⟨"FenceWays$Parser", "takeCell", "(ILFenceWays$Plan;)I"⟩, 3) := ⟨⟨by decide +kernel, by decide +kernel⟩, List.mem_of_getElem? (i := 42) (by decide +kernel), List.mem_of_getElem? (i := 349) (by decide +kernel), List.mem_of_getElem? (i := 350) (by decide +kernel)⟩
theorem lw_p3 : lw_okq (⟨"FenceWays", "startAnew", "()V"⟩, 19) := ⟨⟨by decide +kernel, by decide +kernel⟩, List.mem_of_getElem? (i := 18) (by decide +kernel), List.mem_of_getElem? (i := 365) (by decide +kernel), List.mem_of_getElem? (i := 366) (by decide +kernel)⟩
theorem lw_p4 : lw_okq (⟨"FenceWays$Rings", "gatherGifts", "(LFenceWays$Plan;)V"⟩, 4) := ⟨⟨by decide +kernel, by decide +kernel⟩, List.mem_of_getElem? (i := 92) (by decide +kernel), List.mem_of_getElem? (i := 374) (by decide +kernel), List.mem_of_getElem? (i := 375) (by decide +kernel)⟩
theorem lw_p5 : lw_okq (⟨"FenceWays$Rings", "addGift", "(I)V"⟩, 4) := ⟨⟨by decide +kernel, by decide +kernel⟩, List.mem_of_getElem? (i := 92) (by decide +kernel), List.mem_of_getElem? (i := 385) (by decide +kernel), List.mem_of_getElem? (i := 386) (by decide +kernel)⟩
theorem lw_p6 : lw_okq (⟨"FenceWays$Rings", "giftAt", "(I)I"⟩, 4) := ⟨⟨by decide +kernel, by decide +kernel⟩, List.mem_of_getElem? (i := 92) (by decide +kernel), List.mem_of_getElem? (i := 397) (by decide +kernel), List.mem_of_getElem? (i := 398) (by decide +kernel)⟩
theorem lw_p7 : lw_okq (⟨"FenceWays$Rings", "findBegunWith", "(LFenceWays$Plan;II)V"⟩, 4) := ⟨⟨by decide +kernel, by decide +kernel⟩, List.mem_of_getElem? (i := 92) (by decide +kernel), List.mem_of_getElem? (i := 401) (by decide +kernel), List.mem_of_getElem? (i := 402) (by decide +kernel)⟩
theorem lw_p8 : lw_okq (⟨"FenceWays$Rings", "leadsTo", "(LFenceWays$Plan;II)Z"⟩, 4) := ⟨⟨by decide +kernel, by decide +kernel⟩, List.mem_of_getElem? (i := 92) (by decide +kernel), List.mem_of_getElem? (i := 409) (by decide +kernel), List.mem_of_getElem? (i := 410) (by decide +kernel)⟩
theorem lw_p9 : lw_okq (⟨"FenceWays$Rings", "countGiven", "(I)V"⟩, 4) := ⟨⟨by decide +kernel, by decide +kernel⟩, List.mem_of_getElem? (i := 92) (by decide +kernel), List.mem_of_getElem? (i := 425) (by decide +kernel), List.mem_of_getElem? (i := 426) (by decide +kernel)⟩
theorem lw_p10 : lw_okq (⟨"FenceWays", "readingsNow", "()LFenceWays$ReadingList;"⟩, 19) := ⟨⟨by decide +kernel, by decide +kernel⟩, List.mem_of_getElem? (i := 18) (by decide +kernel), List.mem_of_getElem? (i := 453) (by decide +kernel), List.mem_of_getElem? (i := 454) (by decide +kernel)⟩
theorem lw_p11 : lw_okq (⟨"FenceWays$Orders", "weigh", "(LFenceWays$Plan;)V"⟩, 7) := ⟨⟨by decide +kernel, by decide +kernel⟩, List.mem_of_getElem? (i := 210) (by decide +kernel), List.mem_of_getElem? (i := 461) (by decide +kernel), List.mem_of_getElem? (i := 462) (by decide +kernel)⟩
theorem lw_p12 : lw_okq (⟨"FenceWays$Plan", "kindOf", "(II)I"⟩, 6) := ⟨⟨by decide +kernel, by decide +kernel⟩, List.mem_of_getElem? (i := 59) (by decide +kernel), List.mem_of_getElem? (i := 482) (by decide +kernel), List.mem_of_getElem? (i := 483) (by decide +kernel)⟩
theorem lw_p13 : lw_okq (⟨"FenceWays$Orders", "doOneMore", "(LFenceWays$Plan;)V"⟩, 7) := ⟨⟨by decide +kernel, by decide +kernel⟩, List.mem_of_getElem? (i := 210) (by decide +kernel), List.mem_of_getElem? (i := 487) (by decide +kernel), List.mem_of_getElem? (i := 488) (by decide +kernel)⟩
theorem lw_p14 : lw_okq (⟨"FenceWays$Orders", "doEach", "(LFenceWays$Plan;J)V"⟩, 7) := ⟨⟨by decide +kernel, by decide +kernel⟩, List.mem_of_getElem? (i := 210) (by decide +kernel), List.mem_of_getElem? (i := 492) (by decide +kernel), List.mem_of_getElem? (i := 493) (by decide +kernel)⟩
theorem lw_p15 : lw_okq (⟨"FenceWays$Orders", "behind", "(LFenceWays$Plan;JI)J"⟩, 7) := ⟨⟨by decide +kernel, by decide +kernel⟩, List.mem_of_getElem? (i := 210) (by decide +kernel), List.mem_of_getElem? (i := 497) (by decide +kernel), List.mem_of_getElem? (i := 498) (by decide +kernel)⟩
def lw_privs_1 : List (MethodName × Nat) := [(⟨"FenceWays$Parser", "take", "(ILFenceWays$Plan;)I"⟩, 3), (⟨"FenceWays$Parser", "takeWord", "(ILFenceWays$Plan;)I"⟩, 3), (⟨"FenceWays$Parser", "takeCell", "(ILFenceWays$Plan;)I"⟩, 3), (⟨"FenceWays", "startAnew", "()V"⟩, 19), (⟨"FenceWays$Rings", "gatherGifts", "(LFenceWays$Plan;)V"⟩, 4), (⟨"FenceWays$Rings", "addGift", "(I)V"⟩, 4), (⟨"FenceWays$Rings", "giftAt", "(I)I"⟩, 4), (⟨"FenceWays$Rings", "findBegunWith", "(LFenceWays$Plan;II)V"⟩, 4), (⟨"FenceWays$Rings", "leadsTo", "(LFenceWays$Plan;II)Z"⟩, 4), (⟨"FenceWays$Rings", "countGiven", "(I)V"⟩, 4), (⟨"FenceWays", "readingsNow", "()LFenceWays$ReadingList;"⟩, 19), (⟨"FenceWays$Orders", "weigh", "(LFenceWays$Plan;)V"⟩, 7), (⟨"FenceWays$Plan", "kindOf", "(II)I"⟩, 6), (⟨"FenceWays$Orders", "doOneMore", "(LFenceWays$Plan;)V"⟩, 7), (⟨"FenceWays$Orders", "doEach", "(LFenceWays$Plan;J)V"⟩, 7), (⟨"FenceWays$Orders", "behind", "(LFenceWays$Plan;JI)J"⟩, 7)]
theorem lw_r1 : ∀ q ∈ lw_privs_1, lw_okq q := List.forall_mem_cons.mpr ⟨lw_p0, List.forall_mem_cons.mpr ⟨lw_p1, List.forall_mem_cons.mpr ⟨lw_p2, List.forall_mem_cons.mpr ⟨lw_p3, List.forall_mem_cons.mpr ⟨lw_p4, List.forall_mem_cons.mpr ⟨lw_p5, List.forall_mem_cons.mpr ⟨lw_p6, List.forall_mem_cons.mpr ⟨lw_p7, List.forall_mem_cons.mpr ⟨lw_p8, List.forall_mem_cons.mpr ⟨lw_p9, List.forall_mem_cons.mpr ⟨lw_p10, List.forall_mem_cons.mpr ⟨lw_p11, List.forall_mem_cons.mpr ⟨lw_p12, List.forall_mem_cons.mpr ⟨lw_p13, List.forall_mem_cons.mpr ⟨lw_p14, List.forall_mem_cons.mpr ⟨lw_p15, fun _ h => absurd h List.not_mem_nil⟩⟩⟩⟩⟩⟩⟩⟩⟩⟩⟩⟩⟩⟩⟩⟩
theorem lw_p16 : lw_okq (⟨"FenceWays$Orders", "addNext", "(J)V"⟩, 7) := ⟨⟨by decide +kernel, by decide +kernel⟩, List.mem_of_getElem? (i := 210) (by decide +kernel), List.mem_of_getElem? (i := 504) (by decide +kernel), List.mem_of_getElem? (i := 505) (by decide +kernel)⟩
theorem lw_p17 : lw_okq (⟨"FenceWays$Orders", "putNext", "(IJ)V"⟩, 7) := ⟨⟨by decide +kernel, by decide +kernel⟩, List.mem_of_getElem? (i := 210) (by decide +kernel), List.mem_of_getElem? (i := 509) (by decide +kernel), List.mem_of_getElem? (i := 510) (by decide +kernel)⟩
theorem lw_p18 : lw_okq (⟨"FenceWays$ReadingList", "placeOf", "(I)I"⟩, 2) := ⟨⟨by decide +kernel, by decide +kernel⟩, List.mem_of_getElem? (i := 239) (by decide +kernel), List.mem_of_getElem? (i := 521) (by decide +kernel), List.mem_of_getElem? (i := 522) (by decide +kernel)⟩
theorem lw_p19 : lw_okq (⟨"FenceWays", "strictNow", "()LFenceWays$ReadingList;"⟩, 19) := ⟨⟨by decide +kernel, by decide +kernel⟩, List.mem_of_getElem? (i := 18) (by decide +kernel), List.mem_of_getElem? (i := 529) (by decide +kernel), List.mem_of_getElem? (i := 530) (by decide +kernel)⟩
theorem lw_p20 : lw_okq (⟨"FenceWays", "looseNow", "()LFenceWays$LoosePairs;"⟩, 19) := ⟨⟨by decide +kernel, by decide +kernel⟩, List.mem_of_getElem? (i := 18) (by decide +kernel), List.mem_of_getElem? (i := 541) (by decide +kernel), List.mem_of_getElem? (i := 542) (by decide +kernel)⟩
theorem lw_p21 : lw_okq (⟨"FenceWays$LoosePairs", "add", "(I)V"⟩, 2) := ⟨⟨by decide +kernel, by decide +kernel⟩, List.mem_of_getElem? (i := 112) (by decide +kernel), List.mem_of_getElem? (i := 555) (by decide +kernel), List.mem_of_getElem? (i := 556) (by decide +kernel)⟩
theorem lw_p22 : lw_okq (⟨"FenceWays$LoosePairs", "holdersAt", "(I)I"⟩, 2) := ⟨⟨by decide +kernel, by decide +kernel⟩, List.mem_of_getElem? (i := 112) (by decide +kernel), List.mem_of_getElem? (i := 563) (by decide +kernel), List.mem_of_getElem? (i := 564) (by decide +kernel)⟩
theorem lw_p23 : lw_okq (⟨"FenceWays", "bestSet", "()I"⟩, 19) := ⟨⟨by decide +kernel, by decide +kernel⟩, List.mem_of_getElem? (i := 18) (by decide +kernel), List.mem_of_getElem? (i := 572) (by decide +kernel), List.mem_of_getElem? (i := 573) (by decide +kernel)⟩
theorem lw_p24 : lw_okq (⟨"FenceWays$History", "settingAt", "(I)LFenceWays$Setting;"⟩, 3) := ⟨⟨by decide +kernel, by decide +kernel⟩, List.mem_of_getElem? (i := 151) (by decide +kernel), List.mem_of_getElem? (i := 653) (by decide +kernel), List.mem_of_getElem? (i := 654) (by decide +kernel)⟩
theorem lw_p25 : lw_okq (⟨"FenceWays", "driftOnce", "()V"⟩, 19) := ⟨⟨by decide +kernel, by decide +kernel⟩, List.mem_of_getElem? (i := 18) (by decide +kernel), List.mem_of_getElem? (i := 689) (by decide +kernel), List.mem_of_getElem? (i := 690) (by decide +kernel)⟩
theorem lw_p26 : lw_okq (⟨"FenceWays", "draw", "(I)I"⟩, 19) := ⟨⟨by decide +kernel, by decide +kernel⟩, List.mem_of_getElem? (i := 18) (by decide +kernel), List.mem_of_getElem? (i := 693) (by decide +kernel), List.mem_of_getElem? (i := 694) (by decide +kernel)⟩
theorem lw_p27 : lw_okq (⟨"FenceWaysModel", "goes", "([IZ)I"⟩, 45) := ⟨⟨by decide +kernel, by decide +kernel⟩, List.mem_of_getElem? (i := 740) (by decide +kernel), List.mem_of_getElem? (i := 746) (by decide +kernel), List.mem_of_getElem? (i := 747) (by decide +kernel)⟩
theorem lw_p28 : lw_okq (⟨"FenceWaysModel", "ahead", "(I)I"⟩, 45) := ⟨⟨by decide +kernel, by decide +kernel⟩, List.mem_of_getElem? (i := 740) (by decide +kernel), List.mem_of_getElem? (i := 750) (by decide +kernel), List.mem_of_getElem? (i := 751) (by decide +kernel)⟩
theorem lw_p29 : lw_okq (⟨"FenceWaysModel", "isAhead", "(II)Z"⟩, 45) := ⟨⟨by decide +kernel, by decide +kernel⟩, List.mem_of_getElem? (i := 740) (by decide +kernel), List.mem_of_getElem? (i := 754) (by decide +kernel), List.mem_of_getElem? (i := 755) (by decide +kernel)⟩
theorem lw_p30 : lw_okq (⟨"FenceWaysModel", "waits", "(I)I"⟩, 45) := ⟨⟨by decide +kernel, by decide +kernel⟩, List.mem_of_getElem? (i := 740) (by decide +kernel), List.mem_of_getElem? (i := 758) (by decide +kernel), List.mem_of_getElem? (i := 759) (by decide +kernel)⟩
theorem lw_p31 : lw_okq (⟨"FenceWaysModel", "isBound", "(II)Z"⟩, 45) := ⟨⟨by decide +kernel, by decide +kernel⟩, List.mem_of_getElem? (i := 740) (by decide +kernel), List.mem_of_getElem? (i := 762) (by decide +kernel), List.mem_of_getElem? (i := 763) (by decide +kernel)⟩
def lw_privs_2 : List (MethodName × Nat) := [(⟨"FenceWays$Orders", "addNext", "(J)V"⟩, 7), (⟨"FenceWays$Orders", "putNext", "(IJ)V"⟩, 7), (⟨"FenceWays$ReadingList", "placeOf", "(I)I"⟩, 2), (⟨"FenceWays", "strictNow", "()LFenceWays$ReadingList;"⟩, 19), (⟨"FenceWays", "looseNow", "()LFenceWays$LoosePairs;"⟩, 19), (⟨"FenceWays$LoosePairs", "add", "(I)V"⟩, 2), (⟨"FenceWays$LoosePairs", "holdersAt", "(I)I"⟩, 2), (⟨"FenceWays", "bestSet", "()I"⟩, 19), (⟨"FenceWays$History", "settingAt", "(I)LFenceWays$Setting;"⟩, 3), (⟨"FenceWays", "driftOnce", "()V"⟩, 19), (⟨"FenceWays", "draw", "(I)I"⟩, 19), (⟨"FenceWaysModel", "goes", "([IZ)I"⟩, 45), (⟨"FenceWaysModel", "ahead", "(I)I"⟩, 45), (⟨"FenceWaysModel", "isAhead", "(II)Z"⟩, 45), (⟨"FenceWaysModel", "waits", "(I)I"⟩, 45), (⟨"FenceWaysModel", "isBound", "(II)Z"⟩, 45)]
theorem lw_r2 : ∀ q ∈ lw_privs_2, lw_okq q := List.forall_mem_cons.mpr ⟨lw_p16, List.forall_mem_cons.mpr ⟨lw_p17, List.forall_mem_cons.mpr ⟨lw_p18, List.forall_mem_cons.mpr ⟨lw_p19, List.forall_mem_cons.mpr ⟨lw_p20, List.forall_mem_cons.mpr ⟨lw_p21, List.forall_mem_cons.mpr ⟨lw_p22, List.forall_mem_cons.mpr ⟨lw_p23, List.forall_mem_cons.mpr ⟨lw_p24, List.forall_mem_cons.mpr ⟨lw_p25, List.forall_mem_cons.mpr ⟨lw_p26, List.forall_mem_cons.mpr ⟨lw_p27, List.forall_mem_cons.mpr ⟨lw_p28, List.forall_mem_cons.mpr ⟨lw_p29, List.forall_mem_cons.mpr ⟨lw_p30, List.forall_mem_cons.mpr ⟨lw_p31, fun _ h => absurd h List.not_mem_nil⟩⟩⟩⟩⟩⟩⟩⟩⟩⟩⟩⟩⟩⟩⟩⟩
theorem lw_p32 : lw_okq (⟨"FenceWaysModel", "kind", "(II)I"⟩, 45) := ⟨⟨by decide +kernel, by decide +kernel⟩, List.mem_of_getElem? (i := 740) (by decide +kernel), List.mem_of_getElem? (i := 766) (by decide +kernel), List.mem_of_getElem? (i := 767) (by decide +kernel)⟩
theorem lw_p33 : lw_okq (⟨"FenceWaysModel", "does", "(II)V"⟩, 45) := ⟨⟨by decide +kernel, by decide +kernel⟩, List.mem_of_getElem? (i := 740) (by decide +kernel), List.mem_of_getElem? (i := 779) (by decide +kernel), List.mem_of_getElem? (i := 780) (by decide +kernel)⟩
theorem lw_p34 : lw_okq (⟨"FenceWaysModel", "weight", "(I)I"⟩, 45) := ⟨⟨by decide +kernel, by decide +kernel⟩, List.mem_of_getElem? (i := 740) (by decide +kernel), List.mem_of_getElem? (i := 783) (by decide +kernel), List.mem_of_getElem? (i := 784) (by decide +kernel)⟩
theorem lw_p35 : lw_okq (⟨"FenceWaysModel", "stray", "(I)I"⟩, 45) := ⟨⟨by decide +kernel, by decide +kernel⟩, List.mem_of_getElem? (i := 740) (by decide +kernel), List.mem_of_getElem? (i := 929) (by decide +kernel), List.mem_of_getElem? (i := 930) (by decide +kernel)⟩
theorem lw_p36 : lw_okq (⟨"FenceWaysModel", "readings", "()I"⟩, 45) := ⟨⟨by decide +kernel, by decide +kernel⟩, List.mem_of_getElem? (i := 740) (by decide +kernel), List.mem_of_getElem? (i := 933) (by decide +kernel), List.mem_of_getElem? (i := 934) (by decide +kernel)⟩
theorem lw_p37 : lw_okq (⟨"FenceWaysModel", "isStep", "(I)Z"⟩, 45) := ⟨⟨by decide +kernel, by decide +kernel⟩, List.mem_of_getElem? (i := 740) (by decide +kernel), List.mem_of_getElem? (i := 948) (by decide +kernel), List.mem_of_getElem? (i := 949) (by decide +kernel)⟩
theorem lw_p38 : lw_okq (⟨"FenceWaysModel", "isGap", "(I)Z"⟩, 45) := ⟨⟨by decide +kernel, by decide +kernel⟩, List.mem_of_getElem? (i := 740) (by decide +kernel), List.mem_of_getElem? (i := 953) (by decide +kernel), List.mem_of_getElem? (i := 954) (by decide +kernel)⟩
theorem lw_p39 : lw_okq (⟨"FenceWaysModel", "holds", "(I)I"⟩, 45) := ⟨⟨by decide +kernel, by decide +kernel⟩, List.mem_of_getElem? (i := 740) (by decide +kernel), List.mem_of_getElem? (i := 957) (by decide +kernel), List.mem_of_getElem? (i := 958) (by decide +kernel)⟩
theorem lw_p40 : lw_okq (⟨"FenceWaysModel", "isLoose", "(II)Z"⟩, 45) := ⟨⟨by decide +kernel, by decide +kernel⟩, List.mem_of_getElem? (i := 740) (by decide +kernel), List.mem_of_getElem? (i := 961) (by decide +kernel), List.mem_of_getElem? (i := 962) (by decide +kernel)⟩
theorem lw_p41 : lw_okq (⟨"FenceWaysModel", "isPair", "(II)Z"⟩, 45) := ⟨⟨by decide +kernel, by decide +kernel⟩, List.mem_of_getElem? (i := 740) (by decide +kernel), List.mem_of_getElem? (i := 965) (by decide +kernel), List.mem_of_getElem? (i := 966) (by decide +kernel)⟩
theorem lw_p42 : lw_okq (⟨"FenceWaysModel", "conflicts", "(I)I"⟩, 45) := ⟨⟨by decide +kernel, by decide +kernel⟩, List.mem_of_getElem? (i := 740) (by decide +kernel), List.mem_of_getElem? (i := 969) (by decide +kernel), List.mem_of_getElem? (i := 970) (by decide +kernel)⟩
theorem lw_p43 : lw_okq (⟨"FenceWaysModel", "isConflict", "(II)Z"⟩, 45) := ⟨⟨by decide +kernel, by decide +kernel⟩, List.mem_of_getElem? (i := 740) (by decide +kernel), List.mem_of_getElem? (i := 973) (by decide +kernel), List.mem_of_getElem? (i := 974) (by decide +kernel)⟩
theorem lw_p44 : lw_okq (⟨"FenceWaysModel", "reads", "()I"⟩, 45) := ⟨⟨by decide +kernel, by decide +kernel⟩, List.mem_of_getElem? (i := 740) (by decide +kernel), List.mem_of_getElem? (i := 991) (by decide +kernel), List.mem_of_getElem? (i := 992) (by decide +kernel)⟩
theorem lw_p45 : lw_okq (⟨"FenceWaysModel", "sign", "()I"⟩, 45) := ⟨⟨by decide +kernel, by decide +kernel⟩, List.mem_of_getElem? (i := 740) (by decide +kernel), List.mem_of_getElem? (i := 995) (by decide +kernel), List.mem_of_getElem? (i := 996) (by decide +kernel)⟩
theorem lw_p46 : lw_okq (⟨"FenceWaysModel", "readsThread", "()I"⟩, 45) := ⟨⟨by decide +kernel, by decide +kernel⟩, List.mem_of_getElem? (i := 740) (by decide +kernel), List.mem_of_getElem? (i := 999) (by decide +kernel), List.mem_of_getElem? (i := 1000) (by decide +kernel)⟩
theorem lw_p47 : lw_okq (⟨"FenceWaysModel", "ends", "()I"⟩, 45) := ⟨⟨by decide +kernel, by decide +kernel⟩, List.mem_of_getElem? (i := 740) (by decide +kernel), List.mem_of_getElem? (i := 1003) (by decide +kernel), List.mem_of_getElem? (i := 1004) (by decide +kernel)⟩
def lw_privs_3 : List (MethodName × Nat) := [(⟨"FenceWaysModel", "kind", "(II)I"⟩, 45), (⟨"FenceWaysModel", "does", "(II)V"⟩, 45), (⟨"FenceWaysModel", "weight", "(I)I"⟩, 45), (⟨"FenceWaysModel", "stray", "(I)I"⟩, 45), (⟨"FenceWaysModel", "readings", "()I"⟩, 45), (⟨"FenceWaysModel", "isStep", "(I)Z"⟩, 45), (⟨"FenceWaysModel", "isGap", "(I)Z"⟩, 45), (⟨"FenceWaysModel", "holds", "(I)I"⟩, 45), (⟨"FenceWaysModel", "isLoose", "(II)Z"⟩, 45), (⟨"FenceWaysModel", "isPair", "(II)Z"⟩, 45), (⟨"FenceWaysModel", "conflicts", "(I)I"⟩, 45), (⟨"FenceWaysModel", "isConflict", "(II)Z"⟩, 45), (⟨"FenceWaysModel", "reads", "()I"⟩, 45), (⟨"FenceWaysModel", "sign", "()I"⟩, 45), (⟨"FenceWaysModel", "readsThread", "()I"⟩, 45), (⟨"FenceWaysModel", "ends", "()I"⟩, 45)]
theorem lw_r3 : ∀ q ∈ lw_privs_3, lw_okq q := List.forall_mem_cons.mpr ⟨lw_p32, List.forall_mem_cons.mpr ⟨lw_p33, List.forall_mem_cons.mpr ⟨lw_p34, List.forall_mem_cons.mpr ⟨lw_p35, List.forall_mem_cons.mpr ⟨lw_p36, List.forall_mem_cons.mpr ⟨lw_p37, List.forall_mem_cons.mpr ⟨lw_p38, List.forall_mem_cons.mpr ⟨lw_p39, List.forall_mem_cons.mpr ⟨lw_p40, List.forall_mem_cons.mpr ⟨lw_p41, List.forall_mem_cons.mpr ⟨lw_p42, List.forall_mem_cons.mpr ⟨lw_p43, List.forall_mem_cons.mpr ⟨lw_p44, List.forall_mem_cons.mpr ⟨lw_p45, List.forall_mem_cons.mpr ⟨lw_p46, List.forall_mem_cons.mpr ⟨lw_p47, fun _ h => absurd h List.not_mem_nil⟩⟩⟩⟩⟩⟩⟩⟩⟩⟩⟩⟩⟩⟩⟩⟩
theorem lw_p48 : lw_okq (⟨"FenceWaysModel", "readsStep", "(Z)I"⟩, 45) := ⟨⟨by decide +kernel, by decide +kernel⟩, List.mem_of_getElem? (i := 740) (by decide +kernel), List.mem_of_getElem? (i := 1007) (by decide +kernel), List.mem_of_getElem? (i := 1008) (by decide +kernel)⟩
theorem lw_p49 : lw_okq (⟨"FenceWaysModel", "laysRings", "()V"⟩, 45) := ⟨⟨by decide +kernel, by decide +kernel⟩, List.mem_of_getElem? (i := 740) (by decide +kernel), List.mem_of_getElem? (i := 1011) (by decide +kernel), List.mem_of_getElem? (i := 1012) (by decide +kernel)⟩
theorem lw_p50 : lw_okq (⟨"FenceWaysModel", "laysGifts", "()V"⟩, 45) := ⟨⟨by decide +kernel, by decide +kernel⟩, List.mem_of_getElem? (i := 740) (by decide +kernel), List.mem_of_getElem? (i := 1015) (by decide +kernel), List.mem_of_getElem? (i := 1016) (by decide +kernel)⟩
theorem lw_p51 : lw_okq (⟨"FenceWaysModel", "laysTwos", "()V"⟩, 45) := ⟨⟨by decide +kernel, by decide +kernel⟩, List.mem_of_getElem? (i := 740) (by decide +kernel), List.mem_of_getElem? (i := 1019) (by decide +kernel), List.mem_of_getElem? (i := 1020) (by decide +kernel)⟩
theorem lw_p52 : lw_okq (⟨"FenceWaysModel", "isOne", "(I)Z"⟩, 45) := ⟨⟨by decide +kernel, by decide +kernel⟩, List.mem_of_getElem? (i := 740) (by decide +kernel), List.mem_of_getElem? (i := 1023) (by decide +kernel), List.mem_of_getElem? (i := 1024) (by decide +kernel)⟩
theorem lw_p53 : lw_okq (⟨"FenceWaysModel", "meets", "(II)Z"⟩, 45) := ⟨⟨by decide +kernel, by decide +kernel⟩, List.mem_of_getElem? (i := 740) (by decide +kernel), List.mem_of_getElem? (i := 1027) (by decide +kernel), List.mem_of_getElem? (i := 1028) (by decide +kernel)⟩
theorem lw_p54 : lw_okq (⟨"FenceWaysModel", "gives", "(I)V"⟩, 45) := ⟨⟨by decide +kernel, by decide +kernel⟩, List.mem_of_getElem? (i := 740) (by decide +kernel), List.mem_of_getElem? (i := 1031) (by decide +kernel), List.mem_of_getElem? (i := 1032) (by decide +kernel)⟩
theorem lw_p55 : lw_okq (⟨"FenceWaysModel", "laysThrees", "(II)V"⟩, 45) := ⟨⟨by decide +kernel, by decide +kernel⟩, List.mem_of_getElem? (i := 740) (by decide +kernel), List.mem_of_getElem? (i := 1035) (by decide +kernel), List.mem_of_getElem? (i := 1036) (by decide +kernel)⟩
theorem lw_p56 : lw_okq (⟨"FenceWaysModel", "fits", "(III)Z"⟩, 45) := ⟨⟨by decide +kernel, by decide +kernel⟩, List.mem_of_getElem? (i := 740) (by decide +kernel), List.mem_of_getElem? (i := 1039) (by decide +kernel), List.mem_of_getElem? (i := 1040) (by decide +kernel)⟩
theorem lw_p57 : lw_okq (⟨"FenceWaysModel", "marks", "()V"⟩, 45) := ⟨⟨by decide +kernel, by decide +kernel⟩, List.mem_of_getElem? (i := 740) (by decide +kernel), List.mem_of_getElem? (i := 1051) (by decide +kernel), List.mem_of_getElem? (i := 1052) (by decide +kernel)⟩
theorem lw_p58 : lw_okq (⟨"FenceWaysModel", "price", "(I)I"⟩, 45) := ⟨⟨by decide +kernel, by decide +kernel⟩, List.mem_of_getElem? (i := 740) (by decide +kernel), List.mem_of_getElem? (i := 1055) (by decide +kernel), List.mem_of_getElem? (i := 1056) (by decide +kernel)⟩
theorem lw_p59 : lw_okq (⟨"FenceWaysModel", "cheapest", "()I"⟩, 45) := ⟨⟨by decide +kernel, by decide +kernel⟩, List.mem_of_getElem? (i := 740) (by decide +kernel), List.mem_of_getElem? (i := 1071) (by decide +kernel), List.mem_of_getElem? (i := 1072) (by decide +kernel)⟩
theorem lw_p60 : lw_okq (⟨"FenceWaysModel", "loosePairs", "()I"⟩, 45) := ⟨⟨by decide +kernel, by decide +kernel⟩, List.mem_of_getElem? (i := 740) (by decide +kernel), List.mem_of_getElem? (i := 1075) (by decide +kernel), List.mem_of_getElem? (i := 1076) (by decide +kernel)⟩
theorem lw_p61 : lw_okq (⟨"FenceWaysModel", "gaps", "()I"⟩, 45) := ⟨⟨by decide +kernel, by decide +kernel⟩, List.mem_of_getElem? (i := 740) (by decide +kernel), List.mem_of_getElem? (i := 1079) (by decide +kernel), List.mem_of_getElem? (i := 1080) (by decide +kernel)⟩
theorem lw_p62 : lw_okq (⟨"FenceWaysModel", "drawn", "()V"⟩, 45) := ⟨⟨by decide +kernel, by decide +kernel⟩, List.mem_of_getElem? (i := 740) (by decide +kernel), List.mem_of_getElem? (i := 1087) (by decide +kernel), List.mem_of_getElem? (i := 1088) (by decide +kernel)⟩
theorem lw_p63 : lw_okq (⟨"FenceWaysModel", "draw", "(I)I"⟩, 45) := ⟨⟨by decide +kernel, by decide +kernel⟩, List.mem_of_getElem? (i := 740) (by decide +kernel), List.mem_of_getElem? (i := 1091) (by decide +kernel), List.mem_of_getElem? (i := 1092) (by decide +kernel)⟩
def lw_privs_4 : List (MethodName × Nat) := [(⟨"FenceWaysModel", "readsStep", "(Z)I"⟩, 45), (⟨"FenceWaysModel", "laysRings", "()V"⟩, 45), (⟨"FenceWaysModel", "laysGifts", "()V"⟩, 45), (⟨"FenceWaysModel", "laysTwos", "()V"⟩, 45), (⟨"FenceWaysModel", "isOne", "(I)Z"⟩, 45), (⟨"FenceWaysModel", "meets", "(II)Z"⟩, 45), (⟨"FenceWaysModel", "gives", "(I)V"⟩, 45), (⟨"FenceWaysModel", "laysThrees", "(II)V"⟩, 45), (⟨"FenceWaysModel", "fits", "(III)Z"⟩, 45), (⟨"FenceWaysModel", "marks", "()V"⟩, 45), (⟨"FenceWaysModel", "price", "(I)I"⟩, 45), (⟨"FenceWaysModel", "cheapest", "()I"⟩, 45), (⟨"FenceWaysModel", "loosePairs", "()I"⟩, 45), (⟨"FenceWaysModel", "gaps", "()I"⟩, 45), (⟨"FenceWaysModel", "drawn", "()V"⟩, 45), (⟨"FenceWaysModel", "draw", "(I)I"⟩, 45)]
theorem lw_r4 : ∀ q ∈ lw_privs_4, lw_okq q := List.forall_mem_cons.mpr ⟨lw_p48, List.forall_mem_cons.mpr ⟨lw_p49, List.forall_mem_cons.mpr ⟨lw_p50, List.forall_mem_cons.mpr ⟨lw_p51, List.forall_mem_cons.mpr ⟨lw_p52, List.forall_mem_cons.mpr ⟨lw_p53, List.forall_mem_cons.mpr ⟨lw_p54, List.forall_mem_cons.mpr ⟨lw_p55, List.forall_mem_cons.mpr ⟨lw_p56, List.forall_mem_cons.mpr ⟨lw_p57, List.forall_mem_cons.mpr ⟨lw_p58, List.forall_mem_cons.mpr ⟨lw_p59, List.forall_mem_cons.mpr ⟨lw_p60, List.forall_mem_cons.mpr ⟨lw_p61, List.forall_mem_cons.mpr ⟨lw_p62, List.forall_mem_cons.mpr ⟨lw_p63, fun _ h => absurd h List.not_mem_nil⟩⟩⟩⟩⟩⟩⟩⟩⟩⟩⟩⟩⟩⟩⟩⟩
theorem lw_p64 : lw_okq (⟨"FenceWaysModel", "toldMore", "(I)I"⟩, 45) := ⟨⟨by decide +kernel, by decide +kernel⟩, List.mem_of_getElem? (i := 740) (by decide +kernel), List.mem_of_getElem? (i := 1128) (by decide +kernel), List.mem_of_getElem? (i := 1129) (by decide +kernel)⟩
theorem lw_p65 : lw_okq (⟨"FenceWaysModel", "needed", "()I"⟩, 45) := ⟨⟨by decide +kernel, by decide +kernel⟩, List.mem_of_getElem? (i := 740) (by decide +kernel), List.mem_of_getElem? (i := 1132) (by decide +kernel), List.mem_of_getElem? (i := 1133) (by decide +kernel)⟩
theorem lw_p66 : lw_okq (⟨"FenceWaysModel", "wrong", "()I"⟩, 45) := ⟨⟨by decide +kernel, by decide +kernel⟩, List.mem_of_getElem? (i := 740) (by decide +kernel), List.mem_of_getElem? (i := 1136) (by decide +kernel), List.mem_of_getElem? (i := 1137) (by decide +kernel)⟩
def lw_privs_5 : List (MethodName × Nat) := [(⟨"FenceWaysModel", "toldMore", "(I)I"⟩, 45), (⟨"FenceWaysModel", "needed", "()I"⟩, 45), (⟨"FenceWaysModel", "wrong", "()I"⟩, 45)]
theorem lw_r5 : ∀ q ∈ lw_privs_5, lw_okq q := List.forall_mem_cons.mpr ⟨lw_p64, List.forall_mem_cons.mpr ⟨lw_p65, List.forall_mem_cons.mpr ⟨lw_p66, fun _ h => absurd h List.not_mem_nil⟩⟩⟩
def lw_privs : List (MethodName × Nat) := lw_privs_1 ++ (lw_privs_2 ++ (lw_privs_3 ++ (lw_privs_4 ++ (lw_privs_5))))
def lw_tbl : List Cond := k2_sels lw_privs ++ tables_1
theorem lw_privs_ok : ∀ q ∈ lw_privs, lw_okq q := by
  show ∀ q ∈ lw_privs_1 ++ (lw_privs_2 ++ (lw_privs_3 ++ (lw_privs_4 ++ (lw_privs_5)))), lw_okq q
  exact List.forall_mem_append.mpr ⟨lw_r1, List.forall_mem_append.mpr ⟨lw_r2, List.forall_mem_append.mpr ⟨lw_r3, List.forall_mem_append.mpr ⟨lw_r4, lw_r5⟩⟩⟩⟩
end
section
def RX0 : String := "FenceWays$Book"
def TX0 : u_T := fun k => match k with
  | 0 => ("FenceWays$Book", "numbers", "[I", true)
  | 1 => ("FenceWays$Book", "thatCan", "I", false)
  | _ => ("FenceWays$Book", "count", "I", false)
def tyX0 : Nat → FieldType := fun k => match k with
  | 0 => .array .int
  | 1 => .int
  | _ => .int
abbrev wsX00 : List Cond := u_ws RX0 TX0 3
theorem nmX0 : ∀ a, a < 3 → ∀ b, b < 3 → a ≠ b → (TX0 a).2.1 ≠ (TX0 b).2.1 := by decide +kernel
theorem tyX0_ok : ∀ k, k < 3 → parseFieldDescriptor (TX0 k).2.2.1 = some (tyX0 k) := by decide +kernel
abbrev cX0_init : ByteArray := prog_2_method_1_code
def yX0_init : MethodName := ⟨RX0, "<init>", "()V"⟩
abbrev cX0_clear : ByteArray := prog_2_method_2_code
def yX0_clear : MethodName := ⟨RX0, "clear", "()V"⟩
abbrev cX0_add : ByteArray := prog_2_method_3_code
def yX0_add : MethodName := ⟨RX0, "add", "(IZ)Z"⟩
abbrev cX0_firstWrong : ByteArray := prog_2_method_4_code
def yX0_firstWrong : MethodName := ⟨RX0, "firstWrong", "(LFenceWays$ReadingList;)I"⟩
def RX1 : String := "FenceWays$History"
def TX1 : u_T := fun k => match k with
  | 0 => ("FenceWays$History", "settings", "[LFenceWays$Setting;", true)
  | 1 => ("FenceWays$History", "oldest", "I", false)
  | _ => ("FenceWays$History", "count", "I", false)
def tyX1 : Nat → FieldType := fun k => match k with
  | 0 => .array (.object "FenceWays$Setting")
  | 1 => .int
  | _ => .int
abbrev wsX10 : List Cond := u_ws RX1 TX1 3
theorem nmX1 : ∀ a, a < 3 → ∀ b, b < 3 → a ≠ b → (TX1 a).2.1 ≠ (TX1 b).2.1 := by decide +kernel
theorem tyX1_ok : ∀ k, k < 3 → parseFieldDescriptor (TX1 k).2.2.1 = some (tyX1 k) := by decide +kernel
abbrev cX1_init : ByteArray := prog_3_method_1_code
def yX1_init : MethodName := ⟨RX1, "<init>", "()V"⟩
abbrev cX1_clear : ByteArray := prog_3_method_2_code
def yX1_clear : MethodName := ⟨RX1, "clear", "()V"⟩
abbrev cX1_add : ByteArray := prog_3_method_3_code
def yX1_add : MethodName := ⟨RX1, "add", "(LFenceWays$Setting;)V"⟩
abbrev cX1_takeBack : ByteArray := prog_3_method_4_code
def yX1_takeBack : MethodName := ⟨RX1, "takeBack", "(ILFenceWays$Setting;)V"⟩
abbrev cX1_settingAt : ByteArray := prog_3_method_5_code
def yX1_settingAt : MethodName := ⟨RX1, "settingAt", "(I)LFenceWays$Setting;"⟩
def RX2 : String := "FenceWays$Image"
def TX2 : u_T := fun k => match k with
  | 0 => ("FenceWays$Image", "setting", "LFenceWays$Setting;", true)
  | 1 => ("FenceWays$Image", "seedThen", "I", false)
  | _ => ("FenceWays$Image", "isKept", "Z", false)
def tyX2 : Nat → FieldType := fun k => match k with
  | 0 => .object "FenceWays$Setting"
  | 1 => .int
  | _ => .boolean
abbrev wsX20 : List Cond := u_ws RX2 TX2 3
theorem nmX2 : ∀ a, a < 3 → ∀ b, b < 3 → a ≠ b → (TX2 a).2.1 ≠ (TX2 b).2.1 := by decide +kernel
theorem tyX2_ok : ∀ k, k < 3 → parseFieldDescriptor (TX2 k).2.2.1 = some (tyX2 k) := by decide +kernel
abbrev cX2_init : ByteArray := prog_4_method_1_code
def yX2_init : MethodName := ⟨RX2, "<init>", "()V"⟩
abbrev cX2_hold : ByteArray := prog_4_method_2_code
def yX2_hold : MethodName := ⟨RX2, "hold", "(LFenceWays$Setting;I)V"⟩
def RX3 : String := "FenceWays$LoosePairs"
def TX3 : u_T := fun k => match k with
  | 0 => ("FenceWays$LoosePairs", "holders", "[I", true)
  | _ => ("FenceWays$LoosePairs", "count", "I", false)
def tyX3 : Nat → FieldType := fun k => match k with
  | 0 => .array .int
  | _ => .int
abbrev wsX30 : List Cond := u_ws RX3 TX3 2
theorem nmX3 : ∀ a, a < 2 → ∀ b, b < 2 → a ≠ b → (TX3 a).2.1 ≠ (TX3 b).2.1 := by decide +kernel
theorem tyX3_ok : ∀ k, k < 2 → parseFieldDescriptor (TX3 k).2.2.1 = some (tyX3 k) := by decide +kernel
abbrev cX3_init : ByteArray := prog_5_method_1_code
def yX3_init : MethodName := ⟨RX3, "<init>", "()V"⟩
abbrev cX3_gather : ByteArray := prog_5_method_2_code
def yX3_gather : MethodName := ⟨RX3, "gather", "(LFenceWays$Plan;LFenceWays$Rings;I)V"⟩
abbrev cX3_countHeld : ByteArray := prog_5_method_3_code
def yX3_countHeld : MethodName := ⟨RX3, "countHeld", "(I)I"⟩
abbrev cX3_areAllHeld : ByteArray := prog_5_method_4_code
def yX3_areAllHeld : MethodName := ⟨RX3, "areAllHeld", "(I)Z"⟩
abbrev cX3_neededOf : ByteArray := prog_5_method_5_code
def yX3_neededOf : MethodName := ⟨RX3, "neededOf", "(I)I"⟩
abbrev cX3_cheapestSet : ByteArray := prog_5_method_6_code
def yX3_cheapestSet : MethodName := ⟨RX3, "cheapestSet", "(ILFenceWays$Setting;)I"⟩
abbrev cX3_add : ByteArray := prog_5_method_7_code
def yX3_add : MethodName := ⟨RX3, "add", "(I)V"⟩
abbrev cX3_holdersAt : ByteArray := prog_5_method_8_code
def yX3_holdersAt : MethodName := ⟨RX3, "holdersAt", "(I)I"⟩
def RX4 : String := "FenceWays$Orders"
def TX4 : u_T := fun k => match k with
  | 0 => ("FenceWays$Orders", "states", "[J", false)
  | 1 => ("FenceWays$Orders", "nextStates", "[J", false)
  | 2 => ("FenceWays$Orders", "slots", "[I", true)
  | 3 => ("FenceWays$Orders", "waits", "[I", true)
  | 4 => ("FenceWays$Orders", "weights", "[I", true)
  | 5 => ("FenceWays$Orders", "count", "I", false)
  | _ => ("FenceWays$Orders", "nextCount", "I", false)
def tyX4 : Nat → FieldType := fun k => match k with
  | 0 => .array .long
  | 1 => .array .long
  | 2 => .array .int
  | 3 => .array .int
  | 4 => .array .int
  | 5 => .int
  | _ => .int
abbrev wsX40 : List Cond := u_ws RX4 TX4 7
theorem nmX4 : ∀ a, a < 7 → ∀ b, b < 7 → a ≠ b → (TX4 a).2.1 ≠ (TX4 b).2.1 := by decide +kernel
theorem tyX4_ok : ∀ k, k < 7 → parseFieldDescriptor (TX4 k).2.2.1 = some (tyX4 k) := by decide +kernel
abbrev cX4_init : ByteArray := prog_6_method_1_code
def yX4_init : MethodName := ⟨RX4, "<init>", "()V"⟩
abbrev cX4_findReadings : ByteArray := prog_6_method_2_code
def yX4_findReadings : MethodName := ⟨RX4, "findReadings", "(LFenceWays$Plan;IILFenceWays$ReadingList;)V"⟩
abbrev cX4_weigh : ByteArray := prog_6_method_3_code
def yX4_weigh : MethodName := ⟨RX4, "weigh", "(LFenceWays$Plan;)V"⟩
abbrev cX4_doOneMore : ByteArray := prog_6_method_4_code
def yX4_doOneMore : MethodName := ⟨RX4, "doOneMore", "(LFenceWays$Plan;)V"⟩
abbrev cX4_doEach : ByteArray := prog_6_method_5_code
def yX4_doEach : MethodName := ⟨RX4, "doEach", "(LFenceWays$Plan;J)V"⟩
abbrev cX4_behind : ByteArray := prog_6_method_6_code
def yX4_behind : MethodName := ⟨RX4, "behind", "(LFenceWays$Plan;JI)J"⟩
abbrev cX4_addNext : ByteArray := prog_6_method_7_code
def yX4_addNext : MethodName := ⟨RX4, "addNext", "(J)V"⟩
abbrev cX4_putNext : ByteArray := prog_6_method_8_code
def yX4_putNext : MethodName := ⟨RX4, "putNext", "(IJ)V"⟩
def RX5 : String := "FenceWays$Parser"
def TX5 : u_T := fun k => match k with
  | 0 => ("FenceWays$Parser", "faultPlace", "I", false)
  | 1 => ("FenceWays$Parser", "state", "I", false)
  | _ => ("FenceWays$Parser", "stepWrites", "Z", false)
def tyX5 : Nat → FieldType := fun k => match k with
  | 0 => .int
  | 1 => .int
  | _ => .boolean
abbrev wsX50 : List Cond := u_ws RX5 TX5 3
theorem nmX5 : ∀ a, a < 3 → ∀ b, b < 3 → a ≠ b → (TX5 a).2.1 ≠ (TX5 b).2.1 := by decide +kernel
theorem tyX5_ok : ∀ k, k < 3 → parseFieldDescriptor (TX5 k).2.2.1 = some (tyX5 k) := by decide +kernel
abbrev cX5_init : ByteArray := prog_7_method_1_code
def yX5_init : MethodName := ⟨RX5, "<init>", "()V"⟩
abbrev cX5_parse : ByteArray := prog_7_method_2_code
def yX5_parse : MethodName := ⟨RX5, "parse", "(LFenceWays$Text;LFenceWays$Plan;)I"⟩
abbrev cX5_take : ByteArray := prog_7_method_3_code
def yX5_take : MethodName := ⟨RX5, "take", "(ILFenceWays$Plan;)I"⟩
abbrev cX5_takeWord : ByteArray := prog_7_method_4_code
def yX5_takeWord : MethodName := ⟨RX5, "takeWord", "(ILFenceWays$Plan;)I"⟩
abbrev cX5_takeCell : ByteArray := prog_7_method_5_code
def yX5_takeCell : MethodName := ⟨RX5, "takeCell", "(ILFenceWays$Plan;)I"⟩
def RX6 : String := "FenceWays$Plan"
def TX6 : u_T := fun k => match k with
  | 0 => ("FenceWays$Plan", "threads", "[I", true)
  | 1 => ("FenceWays$Plan", "cells", "[I", true)
  | 2 => ("FenceWays$Plan", "threadCount", "I", false)
  | 3 => ("FenceWays$Plan", "stepCount", "I", false)
  | 4 => ("FenceWays$Plan", "writers", "I", false)
  | _ => ("FenceWays$Plan", "gaps", "I", false)
def tyX6 : Nat → FieldType := fun k => match k with
  | 0 => .array .int
  | 1 => .array .int
  | 2 => .int
  | 3 => .int
  | 4 => .int
  | _ => .int
abbrev wsX60 : List Cond := u_ws RX6 TX6 6
theorem nmX6 : ∀ a, a < 6 → ∀ b, b < 6 → a ≠ b → (TX6 a).2.1 ≠ (TX6 b).2.1 := by decide +kernel
theorem tyX6_ok : ∀ k, k < 6 → parseFieldDescriptor (TX6 k).2.2.1 = some (tyX6 k) := by decide +kernel
abbrev cX6_init : ByteArray := prog_8_method_1_code
def yX6_init : MethodName := ⟨RX6, "<init>", "()V"⟩
abbrev cX6_clear : ByteArray := prog_8_method_2_code
def yX6_clear : MethodName := ⟨RX6, "clear", "()V"⟩
abbrev cX6_addThread : ByteArray := prog_8_method_3_code
def yX6_addThread : MethodName := ⟨RX6, "addThread", "()Z"⟩
abbrev cX6_addStep : ByteArray := prog_8_method_4_code
def yX6_addStep : MethodName := ⟨RX6, "addStep", "(IZ)V"⟩
abbrev cX6_hasStep : ByteArray := prog_8_method_5_code
def yX6_hasStep : MethodName := ⟨RX6, "hasStep", "(I)Z"⟩
abbrev cX6_hasGap : ByteArray := prog_8_method_6_code
def yX6_hasGap : MethodName := ⟨RX6, "hasGap", "(I)Z"⟩
abbrev cX6_threadOf : ByteArray := prog_8_method_7_code
def yX6_threadOf : MethodName := ⟨RX6, "threadOf", "(I)I"⟩
abbrev cX6_cellOf : ByteArray := prog_8_method_8_code
def yX6_cellOf : MethodName := ⟨RX6, "cellOf", "(I)I"⟩
abbrev cX6_isWriter : ByteArray := prog_8_method_9_code
def yX6_isWriter : MethodName := ⟨RX6, "isWriter", "(I)Z"⟩
abbrev cX6_isAhead : ByteArray := prog_8_method_10_code
def yX6_isAhead : MethodName := ⟨RX6, "isAhead", "(II)Z"⟩
abbrev cX6_areInConflict : ByteArray := prog_8_method_11_code
def yX6_areInConflict : MethodName := ⟨RX6, "areInConflict", "(II)Z"⟩
abbrev cX6_conflictsOf : ByteArray := prog_8_method_12_code
def yX6_conflictsOf : MethodName := ⟨RX6, "conflictsOf", "(I)I"⟩
abbrev cX6_mayOvertake : ByteArray := prog_8_method_13_code
def yX6_mayOvertake : MethodName := ⟨RX6, "mayOvertake", "(III)Z"⟩
abbrev cX6_waitsOf : ByteArray := prog_8_method_14_code
def yX6_waitsOf : MethodName := ⟨RX6, "waitsOf", "(III)I"⟩
abbrev cX6_kindOf : ByteArray := prog_8_method_15_code
def yX6_kindOf : MethodName := ⟨RX6, "kindOf", "(II)I"⟩
def RX7 : String := "FenceWays$ReadingList"
def TX7 : u_T := fun k => match k with
  | 0 => ("FenceWays$ReadingList", "numbers", "[I", true)
  | _ => ("FenceWays$ReadingList", "count", "I", false)
def tyX7 : Nat → FieldType := fun k => match k with
  | 0 => .array .int
  | _ => .int
abbrev wsX70 : List Cond := u_ws RX7 TX7 2
theorem nmX7 : ∀ a, a < 2 → ∀ b, b < 2 → a ≠ b → (TX7 a).2.1 ≠ (TX7 b).2.1 := by decide +kernel
theorem tyX7_ok : ∀ k, k < 2 → parseFieldDescriptor (TX7 k).2.2.1 = some (tyX7 k) := by decide +kernel
abbrev cX7_init : ByteArray := prog_9_method_1_code
def yX7_init : MethodName := ⟨RX7, "<init>", "()V"⟩
abbrev cX7_clear : ByteArray := prog_9_method_2_code
def yX7_clear : MethodName := ⟨RX7, "clear", "()V"⟩
abbrev cX7_add : ByteArray := prog_9_method_3_code
def yX7_add : MethodName := ⟨RX7, "add", "(I)V"⟩
abbrev cX7_at : ByteArray := prog_9_method_4_code
def yX7_at : MethodName := ⟨RX7, "at", "(I)I"⟩
abbrev cX7_holds : ByteArray := prog_9_method_5_code
def yX7_holds : MethodName := ⟨RX7, "holds", "(I)Z"⟩
abbrev cX7_countWithout : ByteArray := prog_9_method_6_code
def yX7_countWithout : MethodName := ⟨RX7, "countWithout", "(LFenceWays$ReadingList;)I"⟩
abbrev cX7_atWithout : ByteArray := prog_9_method_7_code
def yX7_atWithout : MethodName := ⟨RX7, "atWithout", "(ILFenceWays$ReadingList;)I"⟩
abbrev cX7_placeOf : ByteArray := prog_9_method_8_code
def yX7_placeOf : MethodName := ⟨RX7, "placeOf", "(I)I"⟩
def RX8 : String := "FenceWays$Rings"
def TX8 : u_T := fun k => match k with
  | 0 => ("FenceWays$Rings", "gifts", "[I", true)
  | 1 => ("FenceWays$Rings", "countOf", "[I", true)
  | 2 => ("FenceWays$Rings", "giftCount", "I", false)
  | _ => ("FenceWays$Rings", "count", "I", false)
def tyX8 : Nat → FieldType := fun k => match k with
  | 0 => .array .int
  | 1 => .array .int
  | 2 => .int
  | _ => .int
abbrev wsX80 : List Cond := u_ws RX8 TX8 4
theorem nmX8 : ∀ a, a < 4 → ∀ b, b < 4 → a ≠ b → (TX8 a).2.1 ≠ (TX8 b).2.1 := by decide +kernel
theorem tyX8_ok : ∀ k, k < 4 → parseFieldDescriptor (TX8 k).2.2.1 = some (tyX8 k) := by decide +kernel
abbrev cX8_init : ByteArray := prog_10_method_1_code
def yX8_init : MethodName := ⟨RX8, "<init>", "()V"⟩
abbrev cX8_find : ByteArray := prog_10_method_2_code
def yX8_find : MethodName := ⟨RX8, "find", "(LFenceWays$Plan;)V"⟩
abbrev cX8_countWith : ByteArray := prog_10_method_3_code
def yX8_countWith : MethodName := ⟨RX8, "countWith", "(II)I"⟩
abbrev cX8_gatherGifts : ByteArray := prog_10_method_4_code
def yX8_gatherGifts : MethodName := ⟨RX8, "gatherGifts", "(LFenceWays$Plan;)V"⟩
abbrev cX8_addGift : ByteArray := prog_10_method_5_code
def yX8_addGift : MethodName := ⟨RX8, "addGift", "(I)V"⟩
abbrev cX8_findBegunWith : ByteArray := prog_10_method_6_code
def yX8_findBegunWith : MethodName := ⟨RX8, "findBegunWith", "(LFenceWays$Plan;II)V"⟩
abbrev cX8_leadsTo : ByteArray := prog_10_method_7_code
def yX8_leadsTo : MethodName := ⟨RX8, "leadsTo", "(LFenceWays$Plan;II)Z"⟩
abbrev cX8_countGiven : ByteArray := prog_10_method_8_code
def yX8_countGiven : MethodName := ⟨RX8, "countGiven", "(I)V"⟩
abbrev cX8_giftAt : ByteArray := prog_10_method_9_code
def yX8_giftAt : MethodName := ⟨RX8, "giftAt", "(I)I"⟩
abbrev cX8_giftOf : ByteArray := prog_10_method_10_code
def yX8_giftOf : MethodName := ⟨RX8, "giftOf", "(II)I"⟩
abbrev cX8_firstOf : ByteArray := prog_10_method_11_code
def yX8_firstOf : MethodName := ⟨RX8, "firstOf", "(I)I"⟩
abbrev cX8_lastOf : ByteArray := prog_10_method_12_code
def yX8_lastOf : MethodName := ⟨RX8, "lastOf", "(I)I"⟩
abbrev cX8_isAlone : ByteArray := prog_10_method_13_code
def yX8_isAlone : MethodName := ⟨RX8, "isAlone", "(I)Z"⟩
def RX9 : String := "FenceWays$Setting"
def TX9 : u_T := fun k => match k with
  | 0 => ("FenceWays$Setting", "costs", "[I", true)
  | 1 => ("FenceWays$Setting", "fences", "I", false)
  | _ => ("FenceWays$Setting", "kinds", "I", false)
def tyX9 : Nat → FieldType := fun k => match k with
  | 0 => .array .int
  | 1 => .int
  | _ => .int
abbrev wsX90 : List Cond := u_ws RX9 TX9 3
theorem nmX9 : ∀ a, a < 3 → ∀ b, b < 3 → a ≠ b → (TX9 a).2.1 ≠ (TX9 b).2.1 := by decide +kernel
theorem tyX9_ok : ∀ k, k < 3 → parseFieldDescriptor (TX9 k).2.2.1 = some (tyX9 k) := by decide +kernel
abbrev cX9_init : ByteArray := prog_11_method_1_code
def yX9_init : MethodName := ⟨RX9, "<init>", "()V"⟩
abbrev cX9_clear : ByteArray := prog_11_method_2_code
def yX9_clear : MethodName := ⟨RX9, "clear", "()V"⟩
abbrev cX9_copy : ByteArray := prog_11_method_3_code
def yX9_copy : MethodName := ⟨RX9, "copy", "(LFenceWays$Setting;)V"⟩
abbrev cX9_setFence : ByteArray := prog_11_method_4_code
def yX9_setFence : MethodName := ⟨RX9, "setFence", "(IZ)V"⟩
abbrev cX9_setCost : ByteArray := prog_11_method_5_code
def yX9_setCost : MethodName := ⟨RX9, "setCost", "(II)V"⟩
abbrev cX9_costOf : ByteArray := prog_11_method_6_code
def yX9_costOf : MethodName := ⟨RX9, "costOf", "(I)I"⟩
abbrev cX9_costOfSet : ByteArray := prog_11_method_7_code
def yX9_costOfSet : MethodName := ⟨RX9, "costOfSet", "(I)I"⟩
def RX10 : String := "FenceWays$Text"
def TX10 : u_T := fun k => match k with
  | 0 => ("FenceWays$Text", "letters", "[I", true)
  | _ => ("FenceWays$Text", "length", "I", false)
def tyX10 : Nat → FieldType := fun k => match k with
  | 0 => .array .int
  | _ => .int
abbrev wsX100 : List Cond := u_ws RX10 TX10 2
theorem nmX10 : ∀ a, a < 2 → ∀ b, b < 2 → a ≠ b → (TX10 a).2.1 ≠ (TX10 b).2.1 := by decide +kernel
theorem tyX10_ok : ∀ k, k < 2 → parseFieldDescriptor (TX10 k).2.2.1 = some (tyX10 k) := by decide +kernel
abbrev cX10_init : ByteArray := prog_12_method_1_code
def yX10_init : MethodName := ⟨RX10, "<init>", "()V"⟩
abbrev cX10_add : ByteArray := prog_12_method_2_code
def yX10_add : MethodName := ⟨RX10, "add", "(I)Z"⟩
abbrev cX10_letterAt : ByteArray := prog_12_method_3_code
def yX10_letterAt : MethodName := ⟨RX10, "letterAt", "(I)I"⟩
abbrev cX10_clear : ByteArray := prog_12_method_4_code
def yX10_clear : MethodName := ⟨RX10, "clear", "()V"⟩
def RX11 : String := "FenceWays"
def TX11 : u_T := fun k => match k with
  | 0 => ("FenceWays", "text", "LFenceWays$Text;", true)
  | 1 => ("FenceWays", "parser", "LFenceWays$Parser;", true)
  | 2 => ("FenceWays", "plan", "LFenceWays$Plan;", false)
  | 3 => ("FenceWays", "draft", "LFenceWays$Plan;", false)
  | 4 => ("FenceWays", "rings", "LFenceWays$Rings;", true)
  | 5 => ("FenceWays", "loosePairs", "LFenceWays$LoosePairs;", true)
  | 6 => ("FenceWays", "setting", "LFenceWays$Setting;", true)
  | 7 => ("FenceWays", "history", "LFenceWays$History;", true)
  | 8 => ("FenceWays", "images", "[LFenceWays$Image;", true)
  | 9 => ("FenceWays", "book", "LFenceWays$Book;", true)
  | 10 => ("FenceWays", "orders", "LFenceWays$Orders;", true)
  | 11 => ("FenceWays", "readings", "LFenceWays$ReadingList;", true)
  | 12 => ("FenceWays", "strictReadings", "LFenceWays$ReadingList;", true)
  | 13 => ("FenceWays", "readingsAreKnown", "Z", false)
  | 14 => ("FenceWays", "fencesOfReadings", "I", false)
  | 15 => ("FenceWays", "kindsOfReadings", "I", false)
  | 16 => ("FenceWays", "strictAreKnown", "Z", false)
  | 17 => ("FenceWays", "seedNow", "I", false)
  | _ => ("FenceWays", "faultPlace", "I", false)
def tyX11 : Nat → FieldType := fun k => match k with
  | 0 => .object "FenceWays$Text"
  | 1 => .object "FenceWays$Parser"
  | 2 => .object "FenceWays$Plan"
  | 3 => .object "FenceWays$Plan"
  | 4 => .object "FenceWays$Rings"
  | 5 => .object "FenceWays$LoosePairs"
  | 6 => .object "FenceWays$Setting"
  | 7 => .object "FenceWays$History"
  | 8 => .array (.object "FenceWays$Image")
  | 9 => .object "FenceWays$Book"
  | 10 => .object "FenceWays$Orders"
  | 11 => .object "FenceWays$ReadingList"
  | 12 => .object "FenceWays$ReadingList"
  | 13 => .boolean
  | 14 => .int
  | 15 => .int
  | 16 => .boolean
  | 17 => .int
  | _ => .int
abbrev wsX110 : List Cond := u_ws RX11 TX11 19
theorem nmX11 : ∀ a, a < 19 → ∀ b, b < 19 → a ≠ b → (TX11 a).2.1 ≠ (TX11 b).2.1 := by decide +kernel
theorem tyX11_ok : ∀ k, k < 19 → parseFieldDescriptor (TX11 k).2.2.1 = some (tyX11 k) := by decide +kernel
abbrev cX11_init : ByteArray := prog_1_method_1_code
def yX11_init : MethodName := ⟨RX11, "<init>", "()V"⟩
abbrev cX11_feed : ByteArray := prog_1_method_2_code
def yX11_feed : MethodName := ⟨RX11, "feed", "(I)I"⟩
abbrev cX11_threads : ByteArray := prog_1_method_3_code
def yX11_threads : MethodName := ⟨RX11, "threads", "()I"⟩
abbrev cX11_fault : ByteArray := prog_1_method_4_code
def yX11_fault : MethodName := ⟨RX11, "fault", "()I"⟩
abbrev cX11_told : ByteArray := prog_1_method_5_code
def yX11_told : MethodName := ⟨RX11, "told", "(I)I"⟩
abbrev cX11_step : ByteArray := prog_1_method_6_code
def yX11_step : MethodName := ⟨RX11, "step", "(II)I"⟩
abbrev cX11_pair : ByteArray := prog_1_method_7_code
def yX11_pair : MethodName := ⟨RX11, "pair", "(III)I"⟩
abbrev cX11_reading : ByteArray := prog_1_method_8_code
def yX11_reading : MethodName := ⟨RX11, "reading", "(II)I"⟩
abbrev cX11_can : ByteArray := prog_1_method_9_code
def yX11_can : MethodName := ⟨RX11, "can", "(I)I"⟩
abbrev cX11_fence : ByteArray := prog_1_method_10_code
def yX11_fence : MethodName := ⟨RX11, "fence", "(IZ)I"⟩
abbrev cX11_cost : ByteArray := prog_1_method_11_code
def yX11_cost : MethodName := ⟨RX11, "cost", "(II)I"⟩
abbrev cX11_overtaking : ByteArray := prog_1_method_12_code
def yX11_overtaking : MethodName := ⟨RX11, "overtaking", "(I)I"⟩
abbrev cX11_best : ByteArray := prog_1_method_13_code
def yX11_best : MethodName := ⟨RX11, "best", "()I"⟩
abbrev cX11_drift : ByteArray := prog_1_method_14_code
def yX11_drift : MethodName := ⟨RX11, "drift", "(I)I"⟩
abbrev cX11_undo : ByteArray := prog_1_method_15_code
def yX11_undo : MethodName := ⟨RX11, "undo", "(I)I"⟩
abbrev cX11_write : ByteArray := prog_1_method_16_code
def yX11_write : MethodName := ⟨RX11, "write", "(IZ)I"⟩
abbrev cX11_tear : ByteArray := prog_1_method_17_code
def yX11_tear : MethodName := ⟨RX11, "tear", "()I"⟩
abbrev cX11_seed : ByteArray := prog_1_method_18_code
def yX11_seed : MethodName := ⟨RX11, "seed", "(I)I"⟩
abbrev cX11_keep : ByteArray := prog_1_method_19_code
def yX11_keep : MethodName := ⟨RX11, "keep", "(I)I"⟩
abbrev cX11_goBack : ByteArray := prog_1_method_20_code
def yX11_goBack : MethodName := ⟨RX11, "goBack", "(I)I"⟩
abbrev cX11_startAnew : ByteArray := prog_1_method_21_code
def yX11_startAnew : MethodName := ⟨RX11, "startAnew", "()V"⟩
abbrev cX11_driftOnce : ByteArray := prog_1_method_22_code
def yX11_driftOnce : MethodName := ⟨RX11, "driftOnce", "()V"⟩
abbrev cX11_draw : ByteArray := prog_1_method_23_code
def yX11_draw : MethodName := ⟨RX11, "draw", "(I)I"⟩
abbrev cX11_readingsNow : ByteArray := prog_1_method_24_code
def yX11_readingsNow : MethodName := ⟨RX11, "readingsNow", "()LFenceWays$ReadingList;"⟩
abbrev cX11_strictNow : ByteArray := prog_1_method_25_code
def yX11_strictNow : MethodName := ⟨RX11, "strictNow", "()LFenceWays$ReadingList;"⟩
abbrev cX11_looseNow : ByteArray := prog_1_method_26_code
def yX11_looseNow : MethodName := ⟨RX11, "looseNow", "()LFenceWays$LoosePairs;"⟩
abbrev cX11_bestSet : ByteArray := prog_1_method_27_code
def yX11_bestSet : MethodName := ⟨RX11, "bestSet", "()I"⟩
abbrev cX11_has : ByteArray := prog_1_method_28_code
def yX11_has : MethodName := ⟨RX11, "has", "(II)Z"⟩
abbrev cX11_gapsBetween : ByteArray := prog_1_method_29_code
def yX11_gapsBetween : MethodName := ⟨RX11, "gapsBetween", "(II)I"⟩
def RX12 : String := "FenceWaysModel"
def TX12 : u_T := fun k => match k with
  | 0 => ("FenceWaysModel", "threads", "I", false)
  | 1 => ("FenceWaysModel", "steps", "I", false)
  | 2 => ("FenceWaysModel", "thread", "[I", true)
  | 3 => ("FenceWaysModel", "cell", "[I", true)
  | 4 => ("FenceWaysModel", "writes", "[Z", true)
  | 5 => ("FenceWaysModel", "costs", "[I", true)
  | 6 => ("FenceWaysModel", "fences", "I", false)
  | 7 => ("FenceWaysModel", "over", "I", false)
  | 8 => ("FenceWaysModel", "strict", "[I", true)
  | 9 => ("FenceWaysModel", "loose", "[I", true)
  | 10 => ("FenceWaysModel", "strictMany", "I", false)
  | 11 => ("FenceWaysModel", "looseMany", "I", false)
  | 12 => ("FenceWaysModel", "isLaid", "Z", false)
  | 13 => ("FenceWaysModel", "wait", "[I", true)
  | 14 => ("FenceWaysModel", "next", "[I", true)
  | 15 => ("FenceWaysModel", "picked", "[I", true)
  | 16 => ("FenceWaysModel", "told", "[I", true)
  | 17 => ("FenceWaysModel", "held", "[I", true)
  | 18 => ("FenceWaysModel", "rings", "I", false)
  | 19 => ("FenceWaysModel", "given", "[I", true)
  | 20 => ("FenceWaysModel", "firsts", "[I", true)
  | 21 => ("FenceWaysModel", "lasts", "[I", true)
  | 22 => ("FenceWaysModel", "gifts", "I", false)
  | 23 => ("FenceWaysModel", "text", "[I", true)
  | 24 => ("FenceWaysModel", "letters", "I", false)
  | 25 => ("FenceWaysModel", "faultAt", "I", false)
  | 26 => ("FenceWaysModel", "readAt", "I", false)
  | 27 => ("FenceWaysModel", "newThreads", "I", false)
  | 28 => ("FenceWaysModel", "newSteps", "I", false)
  | 29 => ("FenceWaysModel", "newThread", "[I", true)
  | 30 => ("FenceWaysModel", "newCell", "[I", true)
  | 31 => ("FenceWaysModel", "newWrites", "[Z", true)
  | 32 => ("FenceWaysModel", "past", "I", false)
  | 33 => ("FenceWaysModel", "pastFences", "[I", true)
  | 34 => ("FenceWaysModel", "pastOver", "[I", true)
  | 35 => ("FenceWaysModel", "pastCosts", "[I", true)
  | 36 => ("FenceWaysModel", "seed", "J", false)
  | 37 => ("FenceWaysModel", "entries", "I", false)
  | 38 => ("FenceWaysModel", "numbers", "[I", true)
  | 39 => ("FenceWaysModel", "says", "[Z", true)
  | 40 => ("FenceWaysModel", "isKept", "[Z", true)
  | 41 => ("FenceWaysModel", "keptFences", "[I", true)
  | 42 => ("FenceWaysModel", "keptOver", "[I", true)
  | 43 => ("FenceWaysModel", "keptCosts", "[I", true)
  | _ => ("FenceWaysModel", "keptSeed", "[J", true)
def tyX12 : Nat → FieldType := fun k => match k with
  | 0 => .int
  | 1 => .int
  | 2 => .array .int
  | 3 => .array .int
  | 4 => .array .boolean
  | 5 => .array .int
  | 6 => .int
  | 7 => .int
  | 8 => .array .int
  | 9 => .array .int
  | 10 => .int
  | 11 => .int
  | 12 => .boolean
  | 13 => .array .int
  | 14 => .array .int
  | 15 => .array .int
  | 16 => .array .int
  | 17 => .array .int
  | 18 => .int
  | 19 => .array .int
  | 20 => .array .int
  | 21 => .array .int
  | 22 => .int
  | 23 => .array .int
  | 24 => .int
  | 25 => .int
  | 26 => .int
  | 27 => .int
  | 28 => .int
  | 29 => .array .int
  | 30 => .array .int
  | 31 => .array .boolean
  | 32 => .int
  | 33 => .array .int
  | 34 => .array .int
  | 35 => .array .int
  | 36 => .long
  | 37 => .int
  | 38 => .array .int
  | 39 => .array .boolean
  | 40 => .array .boolean
  | 41 => .array .int
  | 42 => .array .int
  | 43 => .array .int
  | _ => .array .long
abbrev wsX120 : List Cond := u_ws RX12 TX12 45
theorem nmX12 : ∀ a, a < 45 → ∀ b, b < 45 → a ≠ b → (TX12 a).2.1 ≠ (TX12 b).2.1 := by decide +kernel
theorem tyX12_ok : ∀ k, k < 45 → parseFieldDescriptor (TX12 k).2.2.1 = some (tyX12 k) := by decide +kernel
abbrev cX12_init : ByteArray := prog_14_method_1_code
def yX12_init : MethodName := ⟨RX12, "<init>", "()V"⟩
abbrev cX12_isStep : ByteArray := prog_14_method_2_code
def yX12_isStep : MethodName := ⟨RX12, "isStep", "(I)Z"⟩
abbrev cX12_isGap : ByteArray := prog_14_method_3_code
def yX12_isGap : MethodName := ⟨RX12, "isGap", "(I)Z"⟩
abbrev cX12_isAhead : ByteArray := prog_14_method_4_code
def yX12_isAhead : MethodName := ⟨RX12, "isAhead", "(II)Z"⟩
abbrev cX12_has : ByteArray := prog_14_method_5_code
def yX12_has : MethodName := ⟨RX12, "has", "(II)Z"⟩
abbrev cX12_kind : ByteArray := prog_14_method_7_code
def yX12_kind : MethodName := ⟨RX12, "kind", "(II)I"⟩
abbrev cX12_between : ByteArray := prog_14_method_8_code
def yX12_between : MethodName := ⟨RX12, "between", "(II)I"⟩
abbrev cX12_isBound : ByteArray := prog_14_method_9_code
def yX12_isBound : MethodName := ⟨RX12, "isBound", "(II)Z"⟩
abbrev cX12_waits : ByteArray := prog_14_method_10_code
def yX12_waits : MethodName := ⟨RX12, "waits", "(I)I"⟩
abbrev cX12_isConflict : ByteArray := prog_14_method_11_code
def yX12_isConflict : MethodName := ⟨RX12, "isConflict", "(II)Z"⟩
abbrev cX12_conflicts : ByteArray := prog_14_method_12_code
def yX12_conflicts : MethodName := ⟨RX12, "conflicts", "(I)I"⟩
abbrev cX12_weight : ByteArray := prog_14_method_13_code
def yX12_weight : MethodName := ⟨RX12, "weight", "(I)I"⟩
abbrev cX12_comes : ByteArray := prog_14_method_14_code
def yX12_comes : MethodName := ⟨RX12, "comes", "([III)I"⟩
abbrev cX12_does : ByteArray := prog_14_method_15_code
def yX12_does : MethodName := ⟨RX12, "does", "(II)V"⟩
abbrev cX12_goes : ByteArray := prog_14_method_16_code
def yX12_goes : MethodName := ⟨RX12, "goes", "([IZ)I"⟩
abbrev cX12_ahead : ByteArray := prog_14_method_17_code
def yX12_ahead : MethodName := ⟨RX12, "ahead", "(I)I"⟩
abbrev cX12_readings : ByteArray := prog_14_method_18_code
def yX12_readings : MethodName := ⟨RX12, "readings", "()I"⟩
abbrev cX12_isIn : ByteArray := prog_14_method_19_code
def yX12_isIn : MethodName := ⟨RX12, "isIn", "([III)Z"⟩
abbrev cX12_stray : ByteArray := prog_14_method_20_code
def yX12_stray : MethodName := ⟨RX12, "stray", "(I)I"⟩
abbrev cX12_reading : ByteArray := prog_14_method_21_code
def yX12_reading : MethodName := ⟨RX12, "reading", "(II)I"⟩
abbrev cX12_can : ByteArray := prog_14_method_22_code
def yX12_can : MethodName := ⟨RX12, "can", "(I)I"⟩
abbrev cX12_laysGifts : ByteArray := prog_14_method_23_code
def yX12_laysGifts : MethodName := ⟨RX12, "laysGifts", "()V"⟩
abbrev cX12_isOne : ByteArray := prog_14_method_24_code
def yX12_isOne : MethodName := ⟨RX12, "isOne", "(I)Z"⟩
abbrev cX12_meets : ByteArray := prog_14_method_25_code
def yX12_meets : MethodName := ⟨RX12, "meets", "(II)Z"⟩
abbrev cX12_fits : ByteArray := prog_14_method_26_code
def yX12_fits : MethodName := ⟨RX12, "fits", "(III)Z"⟩
abbrev cX12_gives : ByteArray := prog_14_method_27_code
def yX12_gives : MethodName := ⟨RX12, "gives", "(I)V"⟩
abbrev cX12_laysTwos : ByteArray := prog_14_method_28_code
def yX12_laysTwos : MethodName := ⟨RX12, "laysTwos", "()V"⟩
abbrev cX12_laysThrees : ByteArray := prog_14_method_29_code
def yX12_laysThrees : MethodName := ⟨RX12, "laysThrees", "(II)V"⟩
abbrev cX12_laysRings : ByteArray := prog_14_method_30_code
def yX12_laysRings : MethodName := ⟨RX12, "laysRings", "()V"⟩
abbrev cX12_isPair : ByteArray := prog_14_method_31_code
def yX12_isPair : MethodName := ⟨RX12, "isPair", "(II)Z"⟩
abbrev cX12_isLoose : ByteArray := prog_14_method_32_code
def yX12_isLoose : MethodName := ⟨RX12, "isLoose", "(II)Z"⟩
abbrev cX12_holds : ByteArray := prog_14_method_33_code
def yX12_holds : MethodName := ⟨RX12, "holds", "(I)I"⟩
abbrev cX12_loosePairs : ByteArray := prog_14_method_34_code
def yX12_loosePairs : MethodName := ⟨RX12, "loosePairs", "()I"⟩
abbrev cX12_gaps : ByteArray := prog_14_method_35_code
def yX12_gaps : MethodName := ⟨RX12, "gaps", "()I"⟩
abbrev cX12_price : ByteArray := prog_14_method_36_code
def yX12_price : MethodName := ⟨RX12, "price", "(I)I"⟩
abbrev cX12_cheapest : ByteArray := prog_14_method_37_code
def yX12_cheapest : MethodName := ⟨RX12, "cheapest", "()I"⟩
abbrev cX12_needed : ByteArray := prog_14_method_38_code
def yX12_needed : MethodName := ⟨RX12, "needed", "()I"⟩
abbrev cX12_step : ByteArray := prog_14_method_39_code
def yX12_step : MethodName := ⟨RX12, "step", "(II)I"⟩
abbrev cX12_pair : ByteArray := prog_14_method_40_code
def yX12_pair : MethodName := ⟨RX12, "pair", "(III)I"⟩
abbrev cX12_feed : ByteArray := prog_14_method_41_code
def yX12_feed : MethodName := ⟨RX12, "feed", "(I)I"⟩
abbrev cX12_sign : ByteArray := prog_14_method_42_code
def yX12_sign : MethodName := ⟨RX12, "sign", "()I"⟩
abbrev cX12_ends : ByteArray := prog_14_method_43_code
def yX12_ends : MethodName := ⟨RX12, "ends", "()I"⟩
abbrev cX12_readsThread : ByteArray := prog_14_method_44_code
def yX12_readsThread : MethodName := ⟨RX12, "readsThread", "()I"⟩
abbrev cX12_readsStep : ByteArray := prog_14_method_45_code
def yX12_readsStep : MethodName := ⟨RX12, "readsStep", "(Z)I"⟩
abbrev cX12_reads : ByteArray := prog_14_method_46_code
def yX12_reads : MethodName := ⟨RX12, "reads", "()I"⟩
abbrev cX12_threads : ByteArray := prog_14_method_47_code
def yX12_threads : MethodName := ⟨RX12, "threads", "()I"⟩
abbrev cX12_fault : ByteArray := prog_14_method_48_code
def yX12_fault : MethodName := ⟨RX12, "fault", "()I"⟩
abbrev cX12_marks : ByteArray := prog_14_method_49_code
def yX12_marks : MethodName := ⟨RX12, "marks", "()V"⟩
abbrev cX12_fence : ByteArray := prog_14_method_50_code
def yX12_fence : MethodName := ⟨RX12, "fence", "(IZ)I"⟩
abbrev cX12_cost : ByteArray := prog_14_method_51_code
def yX12_cost : MethodName := ⟨RX12, "cost", "(II)I"⟩
abbrev cX12_overtaking : ByteArray := prog_14_method_52_code
def yX12_overtaking : MethodName := ⟨RX12, "overtaking", "(I)I"⟩
abbrev cX12_best : ByteArray := prog_14_method_53_code
def yX12_best : MethodName := ⟨RX12, "best", "()I"⟩
abbrev cX12_draw : ByteArray := prog_14_method_54_code
def yX12_draw : MethodName := ⟨RX12, "draw", "(I)I"⟩
abbrev cX12_drawn : ByteArray := prog_14_method_55_code
def yX12_drawn : MethodName := ⟨RX12, "drawn", "()V"⟩
abbrev cX12_drift : ByteArray := prog_14_method_56_code
def yX12_drift : MethodName := ⟨RX12, "drift", "(I)I"⟩
abbrev cX12_undo : ByteArray := prog_14_method_57_code
def yX12_undo : MethodName := ⟨RX12, "undo", "(I)I"⟩
abbrev cX12_write : ByteArray := prog_14_method_58_code
def yX12_write : MethodName := ⟨RX12, "write", "(IZ)I"⟩
abbrev cX12_tear : ByteArray := prog_14_method_59_code
def yX12_tear : MethodName := ⟨RX12, "tear", "()I"⟩
abbrev cX12_wrong : ByteArray := prog_14_method_60_code
def yX12_wrong : MethodName := ⟨RX12, "wrong", "()I"⟩
abbrev cX12_seed : ByteArray := prog_14_method_61_code
def yX12_seed : MethodName := ⟨RX12, "seed", "(I)I"⟩
abbrev cX12_keep : ByteArray := prog_14_method_62_code
def yX12_keep : MethodName := ⟨RX12, "keep", "(I)I"⟩
abbrev cX12_goBack : ByteArray := prog_14_method_63_code
def yX12_goBack : MethodName := ⟨RX12, "goBack", "(I)I"⟩
abbrev cX12_toldMore : ByteArray := prog_14_method_64_code
def yX12_toldMore : MethodName := ⟨RX12, "toldMore", "(I)I"⟩
abbrev cX12_told : ByteArray := prog_14_method_65_code
def yX12_told : MethodName := ⟨RX12, "told", "(I)I"⟩
def RJ6 : String := "java/lang/Integer"
def TJ6 : u_T := fun k => match k with
  | _ => ("", "", "", false)
def tyJ6 : Nat → FieldType := fun k => match k with
  | _ => .int
abbrev cJ6_bitCount_0f7a4 : ByteArray := prog_15_method_49_code
def yJ6_bitCount_0f7a4 : MethodName := ⟨RJ6, "bitCount", "(I)I"⟩
def RJ9 : String := "java/lang/Math"
def TJ9 : u_T := fun k => match k with
  | _ => ("", "", "", false)
def tyJ9 : Nat → FieldType := fun k => match k with
  | _ => .int
abbrev cJ9_floorMod_7cf53 : ByteArray := prog_16_method_50_code
def yJ9_floorMod_7cf53 : MethodName := ⟨RJ9, "floorMod", "(II)I"⟩
def RJ7 : String := "java/util/Arrays"
def TJ7 : u_T := fun k => match k with
  | _ => ("", "", "", false)
def tyJ7 : Nat → FieldType := fun k => match k with
  | _ => .int
abbrev cJ7_fill_53178 : ByteArray := prog_17_method_103_code
def yJ7_fill_53178 : MethodName := ⟨RJ7, "fill", "([II)V"⟩
def RL : String := "FenceWaysLaw"
abbrev cL_law : ByteArray := code
def yL_law : MethodName := ⟨RL, "law", "([I)Z"⟩
abbrev vwCl : List vw_C := [(RX0, TX0, 3), (RX1, TX1, 3), (RX2, TX2, 3), (RX3, TX3, 2), (RX4, TX4, 7), (RX5, TX5, 3), (RX6, TX6, 6), (RX7, TX7, 2), (RX8, TX8, 4), (RX9, TX9, 3), (RX10, TX10, 2), (RX11, TX11, 19), (RX12, TX12, 45)]
end
section
/-! THE SMALL MACHINE: a heap of typed rows by place, a step as a function of what comes behind it; its runs; stretches of code by evaluation -/
/-- how many cells; kind and length by place; ints, longs, places by place and index -/
abbrev HP : Type := Nat × (Nat → Nat × Nat) × (Nat → Nat → Int32) × (Nat → Nat → Int64) × (Nat → Nat → Nat)
abbrev MR : Type := Option Value × HP
abbrev CF : Type := List Value → HP → Option MR
/-- pc, cells and slots made, locals, stack, heap -/
abbrev MS : Type := Nat × Nat × Nat × List Value × List Value × HP
/-- instructions; fields; constants; calls (arguments, the receiver's class, cells, slots, meaning); classes to make; what may be made; kind of the answer; whether it is a constructor -/
abbrev MI : Type := List (Nat × Instr × Nat) × List (Nat × Nat × Nat) × List (Nat × Value) × List (Nat × Nat × Nat × Nat × Nat × CF) × List (Nat × Nat) × (Nat × Nat) × Nat
def mNul : Nat := 999999
def lkp {α : Type} (k : Nat) : List (Nat × α) → Option α
  | [] => none
  | (q, a) :: r => bif Nat.beq k q then some a else lkp k r
def up1 {α : Type} (f : Nat → α) (k : Nat) (x : α) : Nat → α := fun j => if j = k then x else f j
def up2 {α : Type} (f : Nat → Nat → α) (p k : Nat) (x : α) : Nat → Nat → α := fun q => if q = p then up1 (f p) k x else f q
def inb (i : Int32) (n : Nat) : Bool := !(decide (i < 0)) && !(Nat.ble n i.toNatClampNeg)
def isB (x : Int32) : Bool := decide (x = 0) || decide (x = 1)
/-- a field's type by class and place: 0 int, 1 boolean, 2 long, 3 a reference -/
def ftyc (t : FieldType) : Nat := match t with
  | .int => 0
  | .boolean => 1
  | .long => 2
  | _ => 3
def ftyT (ci : Nat) : Nat → FieldType := match ci with
  | 0 => tyX0 | 1 => tyX1 | 2 => tyX2 | 3 => tyX3 | 4 => tyX4 | 5 => tyX5 | 6 => tyX6 | 7 => tyX7 | 8 => tyX8 | 9 => tyX9 | 10 => tyX10 | 11 => tyX11 | _ => tyX12
def nfd (ci : Nat) : Nat := match ci with
  | 0 => 3 | 1 => 3 | 2 => 3 | 3 => 2 | 4 => 7 | 5 => 3 | 6 => 6 | 7 => 2 | 8 => 4 | 9 => 3 | 10 => 2 | 11 => 19 | _ => 45
/-- the kind of an array of objects of a class -/
def akd (ci : Nat) : Nat := match ci with
  | 2 => 3
  | 9 => 4
  | _ => 5
def killv (ls : List Value) (j : Nat) : Option Value → List Value
  | some v => bif Nat.beq v.category 2 then ls.set j .null else ls
  | none => ls
def kill (ls : List Value) : Nat → List Value
  | 0 => ls
  | j + 1 => killv ls j ls[j]?
def swk {ρ : Type} (k : Int → Option ρ) (d : Int) (x : Int32) : Int → List Int → Option ρ
  | _, [] => k d
  | lo, t :: r => if x = Int32.ofInt lo then k t else swk k d x (lo + 1) r
def jmp {ρ : Type} (pc : Nat) (off : Int) (k : Nat → Option ρ) : Option ρ := match (pc : Int) + off with
  | .ofNat t => k t
  | .negSucc _ => none
def jtgt (pc : Nat) (off : Int) : Option Nat := match (pc : Int) + off with
  | .ofNat t => some t
  | .negSucc _ => none
/-- a new cell -/
def alc (h : HP) (kd n : Nat) : HP := (h.1 + 1, up1 h.2.1 h.1 (kd, n), up1 h.2.2.1 h.1 (fun _ => 0), up1 h.2.2.2.1 h.1 (fun _ => 0), up1 h.2.2.2.2 h.1 (fun _ => mNul))
def hI (h : HP) (p k : Nat) (x : Int32) : HP := (h.1, h.2.1, up2 h.2.2.1 p k x, h.2.2.2.1, h.2.2.2.2)
def hJ (h : HP) (p k : Nat) (x : Int64) : HP := (h.1, h.2.1, h.2.2.1, up2 h.2.2.2.1 p k x, h.2.2.2.2)
def hR (h : HP) (p k : Nat) (x : Nat) : HP := (h.1, h.2.1, h.2.2.1, h.2.2.2.1, up2 h.2.2.2.2 p k x)
/-- one step: k is what comes behind, e the end -/
def stpI {ρ : Type} (M : MI) (k : MS → Option ρ) (e : MR → Option ρ) (pc c s : Nat) (ls st : List Value) (h : HP) (i : Instr) : Option ρ :=
  match i with
  | .iconst v => k (pc + 1, c, s, ls, .int (Int32.ofInt v) :: st, h)
  | .bipush v => k (pc + 2, c, s, ls, .int (Int8.ofInt v).toInt32 :: st, h)
  | .sipush v => k (pc + 3, c, s, ls, .int (Int16.ofInt v).toInt32 :: st, h)
  | .lconst v => k (pc + 1, c, s, ls, .long (Int64.ofNat (v : Nat)) :: st, h)
  | .ldc x => match lkp x M.2.2.1 with
    | some (.int v) => k (pc + 2, c, s, ls, .int v :: st, h)
    | _ => none
  | .ldc_w x => match lkp x M.2.2.1 with
    | some (.int v) => k (pc + 3, c, s, ls, .int v :: st, h)
    | _ => none
  | .ldc2_w x => match lkp x M.2.2.1 with
    | some (.long v) => k (pc + 3, c, s, ls, .long v :: st, h)
    | _ => none
  | .iload x => match ls[x]? with
    | some (.int v) => k (pc + 2, c, s, ls, .int v :: st, h)
    | _ => none
  | .iload_n x => match ls[(x : Nat)]? with
    | some (.int v) => k (pc + 1, c, s, ls, .int v :: st, h)
    | _ => none
  | .lload x => match ls[x]? with
    | some (.long v) => k (pc + 2, c, s, ls, .long v :: st, h)
    | _ => none
  | .lload_n x => match ls[(x : Nat)]? with
    | some (.long v) => k (pc + 1, c, s, ls, .long v :: st, h)
    | _ => none
  | .aload x => match ls[x]? with
    | some (.ref v) => k (pc + 2, c, s, ls, .ref v :: st, h)
    | _ => none
  | .aload_n x => match ls[(x : Nat)]? with
    | some (.ref v) => k (pc + 1, c, s, ls, .ref v :: st, h)
    | _ => none
  | .istore x => match st with
    | .int v :: r => bif Nat.blt x ls.length then k (pc + 2, c, s, (kill ls x).set x (.int v), r, h) else none
    | _ => none
  | .istore_n x => match st with
    | .int v :: r => bif Nat.blt (x : Nat) ls.length then k (pc + 1, c, s, (kill ls (x : Nat)).set (x : Nat) (.int v), r, h) else none
    | _ => none
  | .astore x => match st with
    | .ref v :: r => bif Nat.blt x ls.length then k (pc + 2, c, s, (kill ls x).set x (.ref v), r, h) else none
    | _ => none
  | .astore_n x => match st with
    | .ref v :: r => bif Nat.blt (x : Nat) ls.length then k (pc + 1, c, s, (kill ls (x : Nat)).set (x : Nat) (.ref v), r, h) else none
    | _ => none
  | .lstore x => match st with
    | .long v :: r => bif Nat.blt (x + 1) ls.length then k (pc + 2, c, s, ((kill ls x).set x (.long v)).set (x + 1) .null, r, h) else none
    | _ => none
  | .lstore_n x => match st with
    | .long v :: r => bif Nat.blt ((x : Nat) + 1) ls.length then k (pc + 1, c, s, ((kill ls (x : Nat)).set (x : Nat) (.long v)).set ((x : Nat) + 1) .null, r, h) else none
    | _ => none
  | .iinc x n => match ls[x]? with
    | some (.int v) => k (pc + 3, c, s, (kill ls x).set x (.int (v + Int32.ofInt n)), st, h)
    | _ => none
  | .iadd => match st with
    | .int y :: .int x :: r => k (pc + 1, c, s, ls, .int (x + y) :: r, h)
    | _ => none
  | .isub => match st with
    | .int y :: .int x :: r => k (pc + 1, c, s, ls, .int (x - y) :: r, h)
    | _ => none
  | .imul => match st with
    | .int y :: .int x :: r => k (pc + 1, c, s, ls, .int (x * y) :: r, h)
    | _ => none
  | .iand => match st with
    | .int y :: .int x :: r => k (pc + 1, c, s, ls, .int (x &&& y) :: r, h)
    | _ => none
  | .ior => match st with
    | .int y :: .int x :: r => k (pc + 1, c, s, ls, .int (x ||| y) :: r, h)
    | _ => none
  | .ixor => match st with
    | .int y :: .int x :: r => k (pc + 1, c, s, ls, .int (x ^^^ y) :: r, h)
    | _ => none
  | .ishl => match st with
    | .int y :: .int x :: r => k (pc + 1, c, s, ls, .int (x <<< (y &&& 31)) :: r, h)
    | _ => none
  | .ishr => match st with
    | .int y :: .int x :: r => k (pc + 1, c, s, ls, .int (x >>> (y &&& 31)) :: r, h)
    | _ => none
  | .iushr => match st with
    | .int y :: .int x :: r => k (pc + 1, c, s, ls, .int ((x.toUInt32 >>> (y.toUInt32 &&& Int32.toUInt32 31)).toInt32) :: r, h)
    | _ => none
  | .idiv => match st with
    | .int y :: .int x :: r => if y = 0 then none else k (pc + 1, c, s, ls, .int (x / y) :: r, h)
    | _ => none
  | .irem => match st with
    | .int y :: .int x :: r => if y = 0 then none else k (pc + 1, c, s, ls, .int (x - x / y * y) :: r, h)
    | _ => none
  | .ladd => match st with
    | .long y :: .long x :: r => k (pc + 1, c, s, ls, .long (x + y) :: r, h)
    | _ => none
  | .lmul => match st with
    | .long y :: .long x :: r => k (pc + 1, c, s, ls, .long (x * y) :: r, h)
    | _ => none
  | .land => match st with
    | .long y :: .long x :: r => k (pc + 1, c, s, ls, .long (x &&& y) :: r, h)
    | _ => none
  | .lor => match st with
    | .long y :: .long x :: r => k (pc + 1, c, s, ls, .long (x ||| y) :: r, h)
    | _ => none
  | .lxor => match st with
    | .long y :: .long x :: r => k (pc + 1, c, s, ls, .long (x ^^^ y) :: r, h)
    | _ => none
  | .lshl => match st with
    | .int y :: .long x :: r => k (pc + 1, c, s, ls, .long (x <<< (y.toInt64 &&& 63)) :: r, h)
    | _ => none
  | .lushr => match st with
    | .int y :: .long x :: r => k (pc + 1, c, s, ls, .long ((x.toUInt64 >>> (y.toInt64.toUInt64 &&& Int64.toUInt64 63)).toInt64) :: r, h)
    | _ => none
  | .ldiv => match st with
    | .long y :: .long x :: r => if y = 0 then none else k (pc + 1, c, s, ls, .long (x / y) :: r, h)
    | _ => none
  | .lrem => match st with
    | .long y :: .long x :: r => if y = 0 then none else k (pc + 1, c, s, ls, .long (x - x / y * y) :: r, h)
    | _ => none
  | .lcmp => match st with
    | .long y :: .long x :: r => k (pc + 1, c, s, ls, .int (lg_cmp x y) :: r, h)
    | _ => none
  | .i2l => match st with
    | .int x :: r => k (pc + 1, c, s, ls, .long x.toInt64 :: r, h)
    | _ => none
  | .l2i => match st with
    | .long x :: r => k (pc + 1, c, s, ls, .int x.toInt32 :: r, h)
    | _ => none
  | .dup => match st with
    | .int x :: r => k (pc + 1, c, s, ls, .int x :: .int x :: r, h)
    | .ref x :: r => k (pc + 1, c, s, ls, .ref x :: .ref x :: r, h)
    | _ => none
  | .dup2 => match st with
    | .int x :: .ref y :: r => k (pc + 1, c, s, ls, .int x :: .ref y :: .int x :: .ref y :: r, h)
    | _ => none
  | .goto off => jmp pc off (fun t => k (t, c, s, ls, st, h))
  | .ifCond q off => match st with
    | .int x :: r => match q with
      | .eq => match jtgt pc off with
        | some t => if x = 0 then k (t, c, s, ls, r, h) else k (pc + 3, c, s, ls, r, h)
        | none => none
      | .ne => match jtgt pc off with
        | some t => if x = 0 then k (pc + 3, c, s, ls, r, h) else k (t, c, s, ls, r, h)
        | none => none
      | .lt => match jtgt pc off with
        | some t => if x < 0 then k (t, c, s, ls, r, h) else k (pc + 3, c, s, ls, r, h)
        | none => none
      | .ge => match jtgt pc off with
        | some t => if 0 ≤ x then k (t, c, s, ls, r, h) else k (pc + 3, c, s, ls, r, h)
        | none => none
      | .gt => match jtgt pc off with
        | some t => if 0 < x then k (t, c, s, ls, r, h) else k (pc + 3, c, s, ls, r, h)
        | none => none
      | .le => match jtgt pc off with
        | some t => if x ≤ 0 then k (t, c, s, ls, r, h) else k (pc + 3, c, s, ls, r, h)
        | none => none
    | _ => none
  | .if_icmp q off => match st with
    | .int y :: .int x :: r => match q with
      | .eq => match jtgt pc off with
        | some t => if x = y then k (t, c, s, ls, r, h) else k (pc + 3, c, s, ls, r, h)
        | none => none
      | .ne => match jtgt pc off with
        | some t => if x = y then k (pc + 3, c, s, ls, r, h) else k (t, c, s, ls, r, h)
        | none => none
      | .lt => match jtgt pc off with
        | some t => if x < y then k (t, c, s, ls, r, h) else k (pc + 3, c, s, ls, r, h)
        | none => none
      | .ge => match jtgt pc off with
        | some t => if y ≤ x then k (t, c, s, ls, r, h) else k (pc + 3, c, s, ls, r, h)
        | none => none
      | .gt => match jtgt pc off with
        | some t => if y < x then k (t, c, s, ls, r, h) else k (pc + 3, c, s, ls, r, h)
        | none => none
      | .le => match jtgt pc off with
        | some t => if x ≤ y then k (t, c, s, ls, r, h) else k (pc + 3, c, s, ls, r, h)
        | none => none
    | _ => none
  | .tableswitch d lo hi offs => match st with
    | .int x :: r => if -2147483648 ≤ lo ∧ lo + offs.size ≤ 2147483648 ∧ hi + 1 = lo + offs.size then swk (fun off => jmp pc off (fun t => k (t, c, s, ls, r, h))) d x lo offs.toList else none
    | _ => none
  | .getfield x => match st with
    | .ref p :: r => match lkp x M.2.1 with
      | some (ci, j) => if (h.2.1 p).1 = 10 + ci ∧ p < h.1 ∧ j < nfd ci then
          match ftyc (ftyT ci j) with
          | 0 => k (pc + 3, c, s, ls, .int (h.2.2.1 p j) :: r, h)
          | 1 => k (pc + 3, c, s, ls, .int (h.2.2.1 p j) :: r, h)
          | 2 => k (pc + 3, c, s, ls, .long (h.2.2.2.1 p j) :: r, h)
          | _ => if h.2.2.2.2 p j < h.1 then k (pc + 3, c, s, ls, .ref (h.2.2.2.2 p j) :: r, h) else none
        else none
      | none => none
    | _ => none
  | .putfield x => match st with
    | .int v :: .ref p :: r => match lkp x M.2.1 with
      | some (ci, j) => if (h.2.1 p).1 = 10 + ci ∧ p < h.1 ∧ j < nfd ci then
          match ftyc (ftyT ci j) with
          | 0 => k (pc + 3, c, s, ls, r, hI h p j v)
          | 1 => bif isB v then k (pc + 3, c, s, ls, r, hI h p j v) else none
          | _ => none
        else none
      | none => none
    | .long v :: .ref p :: r => match lkp x M.2.1 with
      | some (ci, j) => if (h.2.1 p).1 = 10 + ci ∧ p < h.1 ∧ j < nfd ci then
          match ftyc (ftyT ci j) with
          | 2 => k (pc + 3, c, s, ls, r, hJ h p j v)
          | _ => none
        else none
      | none => none
    | .ref v :: .ref p :: r => match lkp x M.2.1 with
      | some (ci, j) => if (h.2.1 p).1 = 10 + ci ∧ p < h.1 ∧ j < nfd ci ∧ v < h.1 then
          match ftyc (ftyT ci j) with
          | 3 => k (pc + 3, c, s, ls, r, hR h p j v)
          | _ => none
        else none
      | none => none
    | _ => none
  | .iaload => match st with
    | .int i :: .ref p :: r => if (h.2.1 p).1 = 0 ∧ p < h.1 then bif inb i (h.2.1 p).2 then k (pc + 1, c, s, ls, .int (h.2.2.1 p i.toNatClampNeg) :: r, h) else none else none
    | _ => none
  | .baload => match st with
    | .int i :: .ref p :: r => if (h.2.1 p).1 = 1 ∧ p < h.1 then bif inb i (h.2.1 p).2 then k (pc + 1, c, s, ls, .int (h.2.2.1 p i.toNatClampNeg) :: r, h) else none else none
    | _ => none
  | .laload => match st with
    | .int i :: .ref p :: r => if (h.2.1 p).1 = 2 ∧ p < h.1 then bif inb i (h.2.1 p).2 then k (pc + 1, c, s, ls, .long (h.2.2.2.1 p i.toNatClampNeg) :: r, h) else none else none
    | _ => none
  | .aaload => match st with
    | .int i :: .ref p :: r => if ((h.2.1 p).1 = 3 ∨ (h.2.1 p).1 = 4) ∧ p < h.1 then bif inb i (h.2.1 p).2 then if h.2.2.2.2 p i.toNatClampNeg < h.1 then k (pc + 1, c, s, ls, .ref (h.2.2.2.2 p i.toNatClampNeg) :: r, h) else none else none else none
    | _ => none
  | .iastore => match st with
    | .int v :: .int i :: .ref p :: r => if (h.2.1 p).1 = 0 ∧ p < h.1 then bif inb i (h.2.1 p).2 then k (pc + 1, c, s, ls, r, hI h p i.toNatClampNeg v) else none else none
    | _ => none
  | .bastore => match st with
    | .int v :: .int i :: .ref p :: r => if (h.2.1 p).1 = 1 ∧ p < h.1 then bif inb i (h.2.1 p).2 && isB v then k (pc + 1, c, s, ls, r, hI h p i.toNatClampNeg v) else none else none
    | _ => none
  | .lastore => match st with
    | .long v :: .int i :: .ref p :: r => if (h.2.1 p).1 = 2 ∧ p < h.1 then bif inb i (h.2.1 p).2 then k (pc + 1, c, s, ls, r, hJ h p i.toNatClampNeg v) else none else none
    | _ => none
  | .aastore => match st with
    | .ref v :: .int i :: .ref p :: r => if ((h.2.1 p).1 = 3 ∧ (h.2.1 v).1 = 12 ∨ (h.2.1 p).1 = 4 ∧ (h.2.1 v).1 = 19) ∧ p < h.1 ∧ v < h.1 then bif inb i (h.2.1 p).2 then k (pc + 1, c, s, ls, r, hR h p i.toNatClampNeg v) else none else none
    | _ => none
  | .arraylength => match st with
    | .ref p :: r => if (h.2.1 p).1 < 5 ∧ p < h.1 then k (pc + 1, c, s, ls, .int (Int32.ofNat (h.2.1 p).2) :: r, h) else none
    | _ => none
  | .new x => match lkp x M.2.2.2.2.1 with
    | some ci => if c + 1 ≤ M.2.2.2.2.2.1.1 ∧ s + nfd ci ≤ M.2.2.2.2.2.1.2 ∧ h.1 + 1 ≤ mNul then k (pc + 3, c + 1, s + nfd ci, ls, .ref h.1 :: st, alc h (10 + ci) 0) else none
    | none => none
  | .newarray ty => match st with
    | .int n :: r => if ¬ n < 0 ∧ n.toNatClampNeg ≤ 4096 ∧ c + 1 ≤ M.2.2.2.2.2.1.1 ∧ s + n.toNatClampNeg ≤ M.2.2.2.2.2.1.2 ∧ h.1 + 1 ≤ mNul then
        match ty with
        | .int => k (pc + 2, c + 1, s + n.toNatClampNeg, ls, .ref h.1 :: r, alc h 0 n.toNatClampNeg)
        | .boolean => k (pc + 2, c + 1, s + n.toNatClampNeg, ls, .ref h.1 :: r, alc h 1 n.toNatClampNeg)
        | .long => k (pc + 2, c + 1, s + n.toNatClampNeg, ls, .ref h.1 :: r, alc h 2 n.toNatClampNeg)
        | _ => none
      else none
    | _ => none
  | .anewarray x => match st with
    | .int n :: r => match lkp x M.2.2.2.2.1 with
      | some ci => if ¬ n < 0 ∧ n.toNatClampNeg ≤ 4096 ∧ c + 1 ≤ M.2.2.2.2.2.1.1 ∧ s + n.toNatClampNeg ≤ M.2.2.2.2.2.1.2 ∧ h.1 + 1 ≤ mNul ∧ (ci = 2 ∨ ci = 9) then
          k (pc + 3, c + 1, s + n.toNatClampNeg, ls, .ref h.1 :: r, alc h (akd ci) n.toNatClampNeg) else none
      | none => none
    | _ => none
  | .invokevirtual x => match lkp (4 * x) M.2.2.2.1 with
    | some (n, rc, mc, ms, f) => match (st.take n).reverse with
      | .ref p :: as => if n ≤ st.length ∧ ((st.drop n).map (fun v => v.category)).sum ≤ 8 ∧ c + mc ≤ M.2.2.2.2.2.1.1 ∧ s + ms ≤ M.2.2.2.2.2.1.2 ∧ (h.2.1 p).1 = 10 + rc ∧ p < h.1 then
          match f (.ref p :: as) h with
          | some (r, h') => k (pc + 3, c + mc, s + ms, ls, r.toList ++ st.drop n, h')
          | none => none
        else none
      | _ => none
    | none => none
  | .invokespecial x => match lkp (4 * x + 1) M.2.2.2.1 with
    | some (n, _, mc, ms, f) => match (st.take n).reverse with
      | .ref p :: as => if n ≤ st.length ∧ ((st.drop n).map (fun v => v.category)).sum ≤ 8 ∧ c + mc ≤ M.2.2.2.2.2.1.1 ∧ s + ms ≤ M.2.2.2.2.2.1.2 then
          match f (.ref p :: as) h with
          | some (r, h') => k (pc + 3, c + mc, s + ms, ls, r.toList ++ st.drop n, h')
          | none => none
        else none
      | _ => none
    | none => none
  | .invokestatic x => match lkp (4 * x + 2) M.2.2.2.1 with
    | some (n, _, mc, ms, f) => if n ≤ st.length ∧ ((st.drop n).map (fun v => v.category)).sum ≤ 8 ∧ c + mc ≤ M.2.2.2.2.2.1.1 ∧ s + ms ≤ M.2.2.2.2.2.1.2 then
        match f (st.take n).reverse h with
        | some (r, h') => k (pc + 3, c + mc, s + ms, ls, r.toList ++ st.drop n, h')
        | none => none
      else none
    | none => none
  | .ireturn => match st with
    | [.int v] => match M.2.2.2.2.2.2 with
      | 1 => e (some (.int v), h)
      | 2 => bif isB v then e (some (.int v), h) else none
      | _ => none
    | _ => none
  | .lreturn => match st with
    | [.long v] => match M.2.2.2.2.2.2 with
      | 3 => e (some (.long v), h)
      | _ => none
    | _ => none
  | .areturn => match st with
    | [.ref v] => match M.2.2.2.2.2.2 with
      | 4 => e (some (.ref v), h)
      | _ => none
    | _ => none
  | .return_ => match st with
    | [] => match M.2.2.2.2.2.2 with
      | 0 => e (none, h)
      | _ => none
    | _ => none
  | _ => none
def stp {ρ : Type} (M : MI) (k : MS → Option ρ) (e : MR → Option ρ) (σ : MS) : Option ρ :=
  match lkp σ.1 M.1 with
  | some (i, _) => stpI M k e σ.1 σ.2.1 σ.2.2.1 σ.2.2.2.1 σ.2.2.2.2.1 σ.2.2.2.2.2 i
  | none => none
def runN (M : MI) : Nat → MS → Option MR
  | 0, _ => none
  | n + 1, σ => stp M (runN M n) some σ
end
section
/-! the small machine's runs: a step by what comes behind it; a run is one step and the rest; stretches -/
theorem jmp_nf {ρ τ : Type} {pc : Nat} {off : Int} {k : Nat → Option ρ} {g : Nat → Option τ} {f : τ → Option ρ} (h : ∀ t, k t = (g t).bind f) : jmp pc off k = (jmp pc off g).bind f := by
  unfold jmp
  split
  · exact h _
  · rfl
theorem swk_nf {ρ τ : Type} {d : Int} {x : Int32} {k : Int → Option ρ} {g : Int → Option τ} {f : τ → Option ρ} (h : ∀ t, k t = (g t).bind f) : ∀ (r : List Int) (lo : Int), swk k d x lo r = (swk g d x lo r).bind f := by
  intro r
  induction r with
  | nil => intro lo; exact h _
  | cons t r ih =>
    intro lo
    unfold swk
    split
    · exact h _
    · exact ih _
set_option maxHeartbeats 4000000 in
theorem stpI_nf {ρ : Type} (M : MI) (k : MS → Option ρ) (e : MR → Option ρ) (pc c s : Nat) (ls st : List Value) (h : HP) (i : Instr) :
    stpI M k e pc c s ls st h i = (stpI M (fun σ => some (Sum.inl σ)) (fun r => some (Sum.inr r)) pc c s ls st h i).bind (fun x => Sum.elim k e x) := by
  cases i <;> first
    | rfl
    | (simp only [stpI]; exact jmp_nf (fun t => rfl))
    | (simp only [stpI]; (repeat' split) <;> first | rfl | exact jmp_nf (fun t => rfl) | (refine swk_nf ?_ _ _; intro off; exact jmp_nf (fun t => rfl)) | (cases hq : inb _ _ <;> rfl) | (cases hq : isB _ <;> rfl) | (cases hq : Nat.blt _ _ <;> rfl) | (cases hq : inb _ _ <;> cases hq2 : isB _ <;> rfl))
theorem stp_nf {ρ : Type} (M : MI) (k : MS → Option ρ) (e : MR → Option ρ) (σ : MS) :
    stp M k e σ = (stp M (fun σ => some (Sum.inl σ)) (fun r => some (Sum.inr r)) σ).bind (fun x => Sum.elim k e x) := by
  unfold stp
  split
  · exact stpI_nf ..
  · rfl
theorem stp_some {ρ : Type} {M : MI} {k : MS → Option ρ} {e : MR → Option ρ} {σ : MS} {r : ρ} (h : stp M k e σ = some r) : (∃ σ', stp M (fun σ => some (Sum.inl σ)) (fun r => some (Sum.inr r)) σ = some (Sum.inl σ') ∧ k σ' = some r) ∨ ∃ x : MR, stp M (fun σ => some (Sum.inl σ)) (fun r => some (Sum.inr r)) σ = some (Sum.inr x) ∧ e x = some r := by
  rw [stp_nf] at h
  cases hq : stp M (fun σ => some (Sum.inl σ)) (fun r => some (Sum.inr r)) σ with
  | none => rw [hq] at h; cases h
  | some x =>
    rw [hq] at h
    cases x with
    | inl σ' => exact Or.inl ⟨σ', rfl, h⟩
    | inr x => exact Or.inr ⟨x, rfl, h⟩
theorem stp_mono {ρ : Type} {M : MI} {k k' : MS → Option ρ} {e : MR → Option ρ} (hk : ∀ σ r, k σ = some r → k' σ = some r) {σ : MS} {r : ρ} (h : stp M k e σ = some r) : stp M k' e σ = some r := by
  rw [stp_nf]
  rcases stp_some h with ⟨σ', h1, h2⟩ | ⟨x, h1, h2⟩
  · rw [h1]; exact hk _ _ h2
  · rw [h1]; exact h2
theorem runN_mono1 (M : MI) : ∀ (n : Nat) (σ : MS) (r : MR), runN M n σ = some r → runN M (n + 1) σ = some r := by
  intro n
  induction n with
  | zero => intro σ r h; cases h
  | succ n ih => intro σ r h; exact stp_mono (k := runN M n) (k' := runN M (n + 1)) (fun σ r => ih σ r) h
theorem runN_mono (M : MI) {n m : Nat} (hnm : n ≤ m) {σ : MS} {r : MR} (h : runN M n σ = some r) : runN M m σ = some r := by
  induction hnm with
  | refl => exact h
  | step _ ih => exact runN_mono1 M _ _ _ ih
noncomputable def run (M : MI) (σ : MS) : Option MR := @dite _ (∃ r, ∃ n, runN M n σ = some r) (Classical.propDecidable _) (fun h => some (Classical.choose h)) (fun _ => none)
theorem run_of {M : MI} {n : Nat} {σ : MS} {r : MR} (h : runN M n σ = some r) : run M σ = some r := by
  have hx : ∃ r, ∃ n, runN M n σ = some r := ⟨r, n, h⟩
  unfold run
  rw [dif_pos hx]
  obtain ⟨m, hm⟩ := Classical.choose_spec hx
  have h1 := runN_mono M (Nat.le_max_left n m) h
  have h2 := runN_mono M (Nat.le_max_right n m) hm
  rw [h1] at h2
  exact h2.symm
theorem run_ex {M : MI} {σ : MS} {r : MR} (h : run M σ = some r) : ∃ n, runN M n σ = some r := by
  unfold run at h
  by_cases hx : ∃ r, ∃ n, runN M n σ = some r
  · rw [dif_pos hx] at h
    have := Classical.choose_spec hx
    rw [Option.some.inj h] at this
    exact this
  · rw [dif_neg hx] at h
    cases h
theorem run_eq (M : MI) (σ : MS) : run M σ = stp M (run M) some σ := by
  cases hq : stp M (run M) some σ with
  | some r =>
    rcases stp_some hq with ⟨σ', h1, h2⟩ | ⟨x, h1, h2⟩
    · obtain ⟨n, hn⟩ := run_ex h2
      refine run_of (n := n + 1) ?_
      show stp M (runN M n) some σ = some r
      rw [stp_nf, h1]
      exact hn
    · refine run_of (n := 1) ?_
      show stp M (runN M 0) some σ = some r
      rw [stp_nf, h1]
      exact h2
  | none =>
    cases hr : run M σ with
    | none => rfl
    | some r =>
      obtain ⟨n, hn⟩ := run_ex hr
      cases n with
      | zero => cases hn
      | succ n =>
        have h1 := stp_mono (k := runN M n) (k' := run M) (fun σ r h => run_of h) hn
        rw [h1] at hq
        cases hq
/-- a stretch of at most n steps, up to the places where it stops -/
noncomputable def exK (M : MI) (stop : List Nat) : Nat → MS → Option MR
  | 0, σ => run M σ
  | n + 1, σ => stp M (fun σ' => bif stop.elem σ'.1 then run M σ' else exK M stop n σ') some σ
theorem exK_eq (M : MI) (stop : List Nat) : ∀ (n : Nat) (σ : MS), exK M stop n σ = run M σ := by
  intro n
  induction n with
  | zero => intro σ; rfl
  | succ n ih =>
    intro σ
    rw [run_eq]
    show stp M (fun σ' => bif stop.elem σ'.1 then run M σ' else exK M stop n σ') some σ = _
    have : (fun σ' : MS => bif stop.elem σ'.1 then run M σ' else exK M stop n σ') = run M := by
      funext σ'
      cases stop.elem σ'.1
      · exact ih σ'
      · rfl
    rw [this]
/-- a method's meaning: its run from its entry, with n locals -/
def mLoc : Nat → List Value → List Value
  | n, [] => List.replicate n .null
  | n, v :: r => bif Nat.beq v.category 2 then v :: .null :: mLoc (n - 2) r else v :: mLoc (n - 1) r
def catS (as : List Value) : Nat := (as.map (fun v => v.category)).sum
noncomputable def mth (M : MI) (n : Nat) : CF := fun as h => bif Nat.ble (catS as) n then run M (0, 0, 0, mLoc n as, [], h) else none
end
section
/-! the small machine's heap and the machine's: what stands at a place -/
def mv (ad : Nat → Nat) : Value → Value
  | .ref p => .ref (ad p)
  | v => v
def rvv (ad : Nat → Nat) (r : Nat) : Value := if r = mNul then .null else .ref (ad r)
def rvo (ad : Nat → Nat) (r : Nat) : Option Nat := if r = mNul then none else some (ad r)
def fvv (ad : Nat → Nat) (h : HP) (p ci j : Nat) : Value := match ftyc (ftyT ci j) with
  | 0 => .int (h.2.2.1 p j)
  | 1 => .int (h.2.2.1 p j)
  | 2 => .long (h.2.2.2.1 p j)
  | _ => rvv ad (h.2.2.2.2 p j)
def cel (aC : Nat → ClassId) (ad : Nat → Nat) (h : HP) (p : Nat) : va_E := match (h.2.1 p).1 with
  | 0 => .inl (aC 0, (h.2.1 p).2, .inl (h.2.2.1 p))
  | 1 => .inl (aC 1, (h.2.1 p).2, .inl (h.2.2.1 p))
  | 2 => .inl (aC 2, (h.2.1 p).2, .inr (.inl (h.2.2.2.1 p)))
  | 3 => .inl (aC 3, (h.2.1 p).2, .inr (.inr (.inr (.inr (fun i => rvo ad (h.2.2.2.2 p i))))))
  | 4 => .inl (aC 4, (h.2.1 p).2, .inr (.inr (.inr (.inr (fun i => rvo ad (h.2.2.2.2 p i))))))
  | k => .inr (k - 10, (List.range (nfd (k - 10))).map (fvv ad h p (k - 10)))
def wof (aC : Nat → ClassId) (ad : Nat → Nat) (h : HP) : va_W := (List.range h.1).map (fun p => (ad p, cel aC ad h p))
theorem wof_get {aC : Nat → ClassId} {ad : Nat → Nat} {h : HP} {p : Nat} (hp : p < h.1) : (wof aC ad h)[p]? = some (ad p, cel aC ad h p) := by
  simp [wof, hp]
theorem wof_len {aC : Nat → ClassId} {ad : Nat → Nat} {h : HP} : (wof aC ad h).length = h.1 := by simp [wof]
theorem cel_congr {aC : Nat → ClassId} {ad ad' : Nat → Nat} {h h' : HP} {p : Nat} (h1 : h'.2.1 p = h.2.1 p) (h2 : h'.2.2.1 p = h.2.2.1 p) (h3 : h'.2.2.2.1 p = h.2.2.2.1 p) (h4 : h'.2.2.2.2 p = h.2.2.2.2 p) (h5 : ∀ j, h.2.2.2.2 p j = mNul ∨ ad' (h.2.2.2.2 p j) = ad (h.2.2.2.2 p j)) : cel aC ad' h' p = cel aC ad h p := by
  have e1 : ∀ j, rvv ad' (h'.2.2.2.2 p j) = rvv ad (h.2.2.2.2 p j) := fun j => by
    rw [h4]; unfold rvv
    split
    · rfl
    · rcases h5 j with q | q
      · contradiction
      · rw [q]
  have e2 : ∀ j, rvo ad' (h'.2.2.2.2 p j) = rvo ad (h.2.2.2.2 p j) := fun j => by
    rw [h4]; unfold rvo
    split
    · rfl
    · rcases h5 j with q | q
      · contradiction
      · rw [q]
  have e3 : ∀ ci, fvv ad' h' p ci = fvv ad h p ci := fun ci => by
    funext j
    unfold fvv
    rw [h2, h3, e1]
  unfold cel
  simp only [h1, h2, h3, e2, e3]
theorem wof_set {aC : Nat → ClassId} {ad : Nat → Nat} {h h' : HP} {p : Nat} {E : va_E} (hn : h'.1 = h.1) (hp : cel aC ad h' p = E) (ho : ∀ q, q ≠ p → cel aC ad h' q = cel aC ad h q) : (wof aC ad h).set p (ad p, E) = wof aC ad h' := by
  apply List.ext_getElem?
  intro k
  rw [List.getElem?_set]
  by_cases hk : p = k
  · subst hk
    rw [if_pos rfl]
    by_cases hl : p < h.1
    · rw [if_pos (by rw [wof_len]; exact hl), wof_get (by rw [hn]; exact hl), hp]
    · rw [if_neg (by rw [wof_len]; exact hl)]
      symm
      apply List.getElem?_eq_none
      rw [wof_len, hn]; omega
  · rw [if_neg hk]
    by_cases hl : k < h.1
    · rw [wof_get hl, wof_get (by rw [hn]; exact hl), ho k (fun q => hk q.symm)]
    · rw [List.getElem?_eq_none (by rw [wof_len]; omega), List.getElem?_eq_none (by rw [wof_len, hn]; omega)]
theorem up2_ne {α : Type} {f : Nat → Nat → α} {p k : Nat} {x : α} {q : Nat} (h : q ≠ p) : up2 f p k x q = f q := by unfold up2; rw [if_neg h]
theorem up2_eq {α : Type} {f : Nat → Nat → α} {p k : Nat} {x : α} : up2 f p k x p = up1 (f p) k x := by unfold up2; rw [if_pos rfl]
theorem up1_ne {α : Type} {f : Nat → α} {p : Nat} {x : α} {q : Nat} (h : q ≠ p) : up1 f p x q = f q := by unfold up1; rw [if_neg h]
theorem up1_eq {α : Type} {f : Nat → α} {p : Nat} {x : α} : up1 f p x p = x := by unfold up1; rw [if_pos rfl]
theorem cel_hI {aC : Nat → ClassId} {ad : Nat → Nat} {h : HP} {p k : Nat} {x : Int32} {q : Nat} (hq : q ≠ p) : cel aC ad (hI h p k x) q = cel aC ad h q := cel_congr rfl (up2_ne hq) rfl rfl (fun _ => Or.inr rfl)
theorem cel_hJ {aC : Nat → ClassId} {ad : Nat → Nat} {h : HP} {p k : Nat} {x : Int64} {q : Nat} (hq : q ≠ p) : cel aC ad (hJ h p k x) q = cel aC ad h q := cel_congr rfl rfl (up2_ne hq) rfl (fun _ => Or.inr rfl)
theorem cel_hR {aC : Nat → ClassId} {ad : Nat → Nat} {h : HP} {p k : Nat} {x : Nat} {q : Nat} (hq : q ≠ p) : cel aC ad (hR h p k x) q = cel aC ad h q := by
  have e : (hR h p k x).2.2.2.2 q = h.2.2.2.2 q := up2_ne hq
  exact cel_congr rfl rfl rfl e (fun _ => Or.inr rfl)
/-- what a class number says -/
theorem cel_obj {aC : Nat → ClassId} {ad : Nat → Nat} {h : HP} {p ci : Nat} (hk : (h.2.1 p).1 = 10 + ci) : cel aC ad h p = .inr (ci, (List.range (nfd ci)).map (fvv ad h p ci)) := by
  unfold cel
  rw [hk]
  have e : 10 + ci = (ci + 5) + 5 := by omega
  rw [e]
  show Sum.inr ((ci + 5) + 5 - 10, _) = _
  have e2 : (ci + 5) + 5 - 10 = ci := by omega
  rw [e2]
theorem cel_0 {aC : Nat → ClassId} {ad : Nat → Nat} {h : HP} {p : Nat} (hk : (h.2.1 p).1 = 0) : cel aC ad h p = .inl (aC 0, (h.2.1 p).2, .inl (h.2.2.1 p)) := by unfold cel; rw [hk]; rfl
theorem cel_1 {aC : Nat → ClassId} {ad : Nat → Nat} {h : HP} {p : Nat} (hk : (h.2.1 p).1 = 1) : cel aC ad h p = .inl (aC 1, (h.2.1 p).2, .inl (h.2.2.1 p)) := by unfold cel; rw [hk]; rfl
theorem cel_2 {aC : Nat → ClassId} {ad : Nat → Nat} {h : HP} {p : Nat} (hk : (h.2.1 p).1 = 2) : cel aC ad h p = .inl (aC 2, (h.2.1 p).2, .inr (.inl (h.2.2.2.1 p))) := by unfold cel; rw [hk]; rfl
theorem cel_3 {aC : Nat → ClassId} {ad : Nat → Nat} {h : HP} {p : Nat} (hk : (h.2.1 p).1 = 3) : cel aC ad h p = .inl (aC 3, (h.2.1 p).2, .inr (.inr (.inr (.inr (fun i => rvo ad (h.2.2.2.2 p i)))))) := by unfold cel; rw [hk]; rfl
theorem cel_4 {aC : Nat → ClassId} {ad : Nat → Nat} {h : HP} {p : Nat} (hk : (h.2.1 p).1 = 4) : cel aC ad h p = .inl (aC 4, (h.2.1 p).2, .inr (.inr (.inr (.inr (fun i => rvo ad (h.2.2.2.2 p i)))))) := by unfold cel; rw [hk]; rfl
theorem map_set_range {α : Type} {n j : Nat} {f g : Nat → α} {v : α} (hj : g j = v) (ho : ∀ i, i ≠ j → g i = f i) : ((List.range n).map f).set j v = (List.range n).map g := by
  apply List.ext_getElem?
  intro k
  rw [List.getElem?_set]
  by_cases hk : j = k
  · subst hk
    rw [if_pos rfl]
    by_cases hl : j < n
    · rw [if_pos (by simp; exact hl)]; simp [hl, hj]
    · rw [if_neg (by simp; omega)]; symm; apply List.getElem?_eq_none; simp; omega
  · rw [if_neg hk]
    by_cases hl : k < n
    · simp [hl, ho k (fun q => hk q.symm)]
    · rw [List.getElem?_eq_none (by simp; omega), List.getElem?_eq_none (by simp; omega)]
theorem fvv_ne {ad : Nat → Nat} {h h' : HP} {p ci j i : Nat} (h1 : h'.2.2.1 p i = h.2.2.1 p i) (h2 : h'.2.2.2.1 p i = h.2.2.2.1 p i) (h3 : h'.2.2.2.2 p i = h.2.2.2.2 p i) : fvv ad h' p ci i = fvv ad h p ci i := by
  unfold fvv; rw [h1, h2, h3]
/-- the values a heap holds are places that there are -/
def okv (n : Nat) : Value → Prop
  | .ref p => p < n
  | _ => True
def okS (n : Nat) (st : List Value) : Prop := ∀ v ∈ st, okv n v
def okH (h : HP) : Prop := ∀ p j, h.2.2.2.2 p j = mNul ∨ h.2.2.2.2 p j < h.1
theorem okS.nil {n : Nat} : okS n [] := fun _ h => absurd h List.not_mem_nil
theorem okS.cons {n : Nat} {v : Value} {st : List Value} (h : okv n v) (hs : okS n st) : okS n (v :: st) := fun w hw => (List.mem_cons.mp hw).elim (fun e => e ▸ h) (hs w)
theorem okS.hd {n : Nat} {v : Value} {st : List Value} (h : okS n (v :: st)) : okv n v := h v List.mem_cons_self
theorem okS.tl {n : Nat} {v : Value} {st : List Value} (h : okS n (v :: st)) : okS n st := fun w hw => h w (List.mem_cons_of_mem _ hw)
theorem okv.up {n n' : Nat} (hn : n ≤ n') {v : Value} (h : okv n v) : okv n' v := by
  cases v <;> first | trivial | exact Nat.lt_of_lt_of_le h hn
theorem okS.up {n n' : Nat} (hn : n ≤ n') {st : List Value} (h : okS n st) : okS n' st := fun v hv => (h v hv).up hn
theorem mv_congr {ad ad' : Nat → Nat} {n : Nat} (ha : ∀ p, p < n → ad' p = ad p) {v : Value} (h : okv n v) : mv ad' v = mv ad v := by
  cases v <;> first | rfl | (show Value.ref _ = Value.ref _; rw [ha _ h])
theorem mvs_congr {ad ad' : Nat → Nat} {n : Nat} (ha : ∀ p, p < n → ad' p = ad p) {st : List Value} (h : okS n st) : st.map (mv ad') = st.map (mv ad) := List.map_congr_left fun v hv => mv_congr ha (h v hv)
theorem mv_cat {ad : Nat → Nat} {v : Value} : (mv ad v).category = v.category := by cases v <;> rfl
/-- a new cell -/
theorem wof_alc {aC : Nat → ClassId} {ad : Nat → Nat} {h : HP} {kd n q : Nat} {E : va_E} (hok : okH h) (hE : cel aC (up1 ad h.1 q) (alc h kd n) h.1 = E) : wof aC ad h ++ [(q, E)] = wof aC (up1 ad h.1 q) (alc h kd n) := by
  have e : wof aC (up1 ad h.1 q) (alc h kd n) = (List.range h.1).map (fun p => (up1 ad h.1 q p, cel aC (up1 ad h.1 q) (alc h kd n) p)) ++ [(up1 ad h.1 q h.1, cel aC (up1 ad h.1 q) (alc h kd n) h.1)] := by
    show List.map _ (List.range (h.1 + 1)) = _
    rw [List.range_succ, List.map_append]
    rfl
  rw [e, hE, up1_eq]
  congr 1
  unfold wof
  apply List.map_congr_left
  intro p hp
  have hlt : p < h.1 := List.mem_range.mp hp
  have hne : p ≠ h.1 := by omega
  have e1 : cel aC (up1 ad h.1 q) (alc h kd n) p = cel aC ad h p := by
    refine cel_congr (up1_ne hne) (up1_ne hne) (up1_ne hne) (up1_ne hne) fun j => ?_
    rcases hok p j with z | z
    · exact Or.inl z
    · exact Or.inr (up1_ne (by omega))
  rw [e1, up1_ne hne]
theorem okH.alc {h : HP} {kd n : Nat} (hok : okH h) : okH (alc h kd n) := by
  intro p j
  show up1 h.2.2.2.2 h.1 (fun _ => mNul) p j = mNul ∨ up1 h.2.2.2.2 h.1 (fun _ => mNul) p j < h.1 + 1
  by_cases hp : p = h.1
  · subst hp; rw [up1_eq]; exact Or.inl rfl
  · rw [up1_ne hp]
    rcases hok p j with z | z
    · exact Or.inl z
    · exact Or.inr (by omega)
theorem okH.hI {h : HP} {p k : Nat} {x : Int32} (hok : okH h) : okH (hI h p k x) := hok
theorem okH.hJ {h : HP} {p k : Nat} {x : Int64} (hok : okH h) : okH (hJ h p k x) := hok
theorem okH.hR {h : HP} {p k : Nat} {x : Nat} (hok : okH h) (hx : x < h.1) : okH (hR h p k x) := by
  intro q j
  show up2 h.2.2.2.2 p k x q j = mNul ∨ up2 h.2.2.2.2 p k x q j < h.1
  by_cases hq : q = p
  · subst hq
    rw [up2_eq]
    by_cases hj : j = k
    · subst hj; rw [up1_eq]; exact Or.inr hx
    · rw [up1_ne hj]; exact hok q j
  · rw [up2_ne hq]; exact hok q j
/-! locals -/
def lv1 (ad : Nat → Nat) (i : Nat) : Option Value → Option (Nat × Value)
  | some Value.null => none
  | some v => some (i, mv ad v)
  | none => none
theorem lv1_some {ad : Nat → Nat} {i : Nat} {v : Value} (h : v ≠ .null) : lv1 ad i (some v) = some (i, mv ad v) := by
  cases v <;> first | rfl | exact absurd rfl h
def lvl (ad : Nat → Nat) (vs : List Value) : List (Nat × Value) := (List.range vs.length).filterMap (fun i => lv1 ad i vs[i]?)
theorem lvl_mem {ad : Nat → Nat} {vs : List Value} {q : Nat × Value} : q ∈ lvl ad vs ↔ ∃ v, vs[q.1]? = some v ∧ v ≠ .null ∧ q.2 = mv ad v := by
  unfold lvl
  rw [List.mem_filterMap]
  constructor
  · rintro ⟨i, hi, h⟩
    cases hv : vs[i]? with
    | none => rw [hv] at h; cases h
    | some v =>
      rw [hv] at h
      by_cases hn : v = .null
      · subst hn; cases h
      · rw [lv1_some hn] at h
        cases h
        exact ⟨v, hv, hn, rfl⟩
  · rintro ⟨v, h1, h2, h3⟩
    refine ⟨q.1, List.mem_range.mpr (List.getElem?_eq_some_iff.mp h1).1, ?_⟩
    rw [h1, lv1_some h2, ← h3]
def LV (ad : Nat → Nat) (ls : Array Slot) (nL : Nat) (vs : List Value) : Prop := lv_has ls nL (lvl ad vs) ∧ vs.length = nL
theorem LV.at {ad : Nat → Nat} {ls : Array Slot} {nL : Nat} {vs : List Value} (h : LV ad ls nL vs) {i : Nat} {v : Value} (hv : vs[i]? = some v) (hn : v ≠ .null) : ls[i]? = some (.val (mv ad v)) := h.1.2.2 (i, mv ad v) (lvl_mem.mpr ⟨v, hv, hn, rfl⟩)
theorem LV.congr {ad ad' : Nat → Nat} {ls : Array Slot} {nL n : Nat} {vs : List Value} (ha : ∀ p, p < n → ad' p = ad p) (ho : okS n vs) (h : LV ad ls nL vs) : LV ad' ls nL vs := by
  refine ⟨⟨h.1.1, h.1.2.1, fun q hq => ?_⟩, h.2⟩
  obtain ⟨v, h1, h2, h3⟩ := lvl_mem.mp hq
  rw [h3, mv_congr ha (ho v (List.mem_of_getElem? h1))]
  exact h.at h1 h2
theorem kill_len {ls : List Value} {i : Nat} : (kill ls i).length = ls.length := by
  cases i with
  | zero => rfl
  | succ j =>
    show (killv ls j ls[j]?).length = _
    cases ls[j]? with
    | none => rfl
    | some v =>
      show (bif Nat.beq v.category 2 then ls.set j .null else ls).length = _
      cases Nat.beq v.category 2
      · rfl
      · exact List.length_set
theorem kill_get {ls : List Value} {i k : Nat} {v : Value} (h : (kill ls i)[k]? = some v) (hn : v ≠ .null) : ls[k]? = some v ∧ ¬ (k + 1 = i ∧ v.category = 2) := by
  cases i with
  | zero => exact ⟨h, fun q => by omega⟩
  | succ j =>
    replace h : (killv ls j ls[j]?)[k]? = some v := h
    cases hv : ls[j]? with
    | none =>
      rw [hv] at h
      replace h : ls[k]? = some v := h
      refine ⟨h, fun q => ?_⟩
      have : k = j := by omega
      subst this
      rw [h] at hv
      cases hv
    | some w =>
      rw [hv] at h
      replace h : (bif Nat.beq w.category 2 then ls.set j .null else ls)[k]? = some v := h
      cases hb : Nat.beq w.category 2 with
      | false =>
        rw [hb] at h
        replace h : ls[k]? = some v := h
        refine ⟨h, fun q => ?_⟩
        have : k = j := by omega
        subst this
        rw [h] at hv; cases hv
        rw [q.2] at hb; cases hb
      | true =>
        rw [hb] at h
        replace h : (ls.set j .null)[k]? = some v := h
        rw [List.getElem?_set] at h
        by_cases hk : j = k
        · rw [if_pos hk] at h
          by_cases hl : j < ls.length
          · rw [if_pos hl] at h; cases h; exact absurd rfl hn
          · rw [if_neg hl] at h; cases h
        · rw [if_neg hk] at h
          exact ⟨h, fun q => by omega⟩
theorem kill_ok {n : Nat} {ls : List Value} {i : Nat} (h : okS n ls) : okS n (kill ls i) := by
  intro v hv
  by_cases hn : v = .null
  · subst hn; trivial
  · obtain ⟨k, hk⟩ := List.getElem?_of_mem hv
    exact h v (List.mem_of_getElem? (kill_get hk hn).1)
theorem set_ok {n : Nat} {ls : List Value} {i : Nat} {x : Value} (h : okS n ls) (hx : okv n x) : okS n (ls.set i x) := by
  intro v hv
  rcases List.mem_or_eq_of_mem_set hv with q | q
  · exact h v q
  · subst q; exact hx
theorem LV.st1 {ad : Nat → Nat} {ls' : Array Slot} {nL : Nat} {vs : List Value} {i : Nat} {x : Value} (hlen : vs.length = nL) (hi : i < nL) (h : lv_has ls' nL ((i, mv ad x) :: (lvl ad vs).filter (fun q => !(q.1 == i) && !(q.1 + 1 == i && q.2.category == 2)))) : LV ad ls' nL ((kill vs i).set i x) := by
  refine ⟨⟨h.1, h.2.1, fun q hq => ?_⟩, by rw [List.length_set, kill_len]; exact hlen⟩
  obtain ⟨v, h1, h2, h3⟩ := lvl_mem.mp hq
  apply h.2.2
  rw [List.getElem?_set] at h1
  by_cases hk : i = q.1
  · rw [if_pos hk] at h1
    rw [if_pos (by rw [kill_len, hlen]; exact hi)] at h1
    cases h1
    refine List.mem_cons.mpr (Or.inl ?_)
    rw [hk, ← h3]
  · rw [if_neg hk] at h1
    obtain ⟨g1, g2⟩ := kill_get h1 h2
    refine List.mem_cons.mpr (Or.inr (List.mem_filter.mpr ⟨lvl_mem.mpr ⟨v, g1, h2, h3⟩, ?_⟩))
    rw [h3, mv_cat]
    have e1 : (q.1 == i) = false := by simp; exact fun z => hk z.symm
    rw [e1]
    cases e2 : (q.1 + 1 == i && v.category == 2) with
    | false => rfl
    | true =>
      simp only [Bool.and_eq_true, beq_iff_eq] at e2
      exact absurd e2 g2
theorem LV.st2 {ad : Nat → Nat} {ls' : Array Slot} {nL : Nat} {vs : List Value} {i : Nat} {x : Value} (hlen : vs.length = nL) (hi : i + 1 < nL) (h : lv_has ls' nL ((i, mv ad x) :: (lvl ad vs).filter (fun q => !(q.1 == i) && (!(q.1 == i + 1) && !(q.1 + 1 == i && q.2.category == 2))))) : LV ad ls' nL (((kill vs i).set i x).set (i + 1) .null) := by
  refine ⟨⟨h.1, h.2.1, fun q hq => ?_⟩, by rw [List.length_set, List.length_set, kill_len]; exact hlen⟩
  obtain ⟨v, h1, h2, h3⟩ := lvl_mem.mp hq
  apply h.2.2
  rw [List.getElem?_set] at h1
  by_cases hk1 : i + 1 = q.1
  · rw [if_pos hk1] at h1
    rw [if_pos (by rw [List.length_set, kill_len, hlen]; exact hi)] at h1
    cases h1
    exact absurd rfl h2
  rw [if_neg hk1, List.getElem?_set] at h1
  by_cases hk : i = q.1
  · rw [if_pos hk] at h1
    rw [if_pos (by rw [kill_len, hlen]; omega)] at h1
    cases h1
    refine List.mem_cons.mpr (Or.inl ?_)
    rw [hk, ← h3]
  · rw [if_neg hk] at h1
    obtain ⟨g1, g2⟩ := kill_get h1 h2
    refine List.mem_cons.mpr (Or.inr (List.mem_filter.mpr ⟨lvl_mem.mpr ⟨v, g1, h2, h3⟩, ?_⟩))
    rw [h3, mv_cat]
    have e1 : (q.1 == i) = false := by simp; exact fun z => hk z.symm
    have e3 : (q.1 == i + 1) = false := by simp; exact fun z => hk1 z.symm
    rw [e1, e3]
    cases e2 : (q.1 + 1 == i && v.category == 2) with
    | false => rfl
    | true =>
      simp only [Bool.and_eq_true, beq_iff_eq] at e2
      exact absurd e2 g2
end
section
/-! what the small machine does, the machine does (laid by wip/whole/gen_sound.py) -/
def tyL (aC : Nat → ClassId) : List (ClassId × FieldType) := [(aC 0, .int), (aC 1, .boolean), (aC 2, .long), (aC 3, .object RX2), (aC 4, .object RX9)]
def nst : Cond → Bool
  | .fieldLinkNest .. => true
  | .methodLinkNest .. => true
  | _ => false
def nsW : List Cond := lw_tbl.filter nst
def gdW : List Cond := lw_tbl.filter goodWord
def KS (D : va_G) (aC : Nat → ClassId) (U : State) : Prop := va_K D vwCl (tyL aC) U ∧ (∀ w ∈ nsW, va_Nw w U) ∧ va_AO RX2 U ∧ va_AO RX9 U
theorem KS.warm {D : va_G} {aC : Nat → ClassId} {s U : State} (hW : s.WarmedH U.vm) (h : KS D aC s) : KS D aC U := by
  refine ⟨va_K.moved hW.alike h.1, fun w hw => ?_, va_AO.moved hW.alike h.2.2.1, va_AO.moved hW.alike h.2.2.2⟩
  have hz := h.2.1 w hw
  have hn : nst w = true := (List.mem_filter.mp hw).2
  cases w <;> first | exact va_Nw.warmF hW hz | exact va_Nw.warmM hW hz | cases hn
theorem KS.same {D : va_G} {aC : Nat → ClassId} {u U : State} (hv : u.vm = U.vm) (h : KS D aC u) : KS D aC U := by
  refine ⟨va_K.moved (hv ▸ Vm.Alike.refl u.vm) h.1, fun w hw => ?_, va_AO.moved (hv ▸ Vm.Alike.refl u.vm) h.2.2.1, va_AO.moved (hv ▸ Vm.Alike.refl u.vm) h.2.2.2⟩
  have hz := h.2.1 w hw
  have hn : nst w = true := (List.mem_filter.mp hw).2
  refine va_Nw.same ?_ hv hz
  cases w <;> first | rfl | cases hn
def clN (ci : Nat) : String := match ci with
  | 0 => RX0 | 1 => RX1 | 2 => RX2 | 3 => RX3 | 4 => RX4 | 5 => RX5 | 6 => RX6 | 7 => RX7 | 8 => RX8 | 9 => RX9 | 10 => RX10 | 11 => RX11 | _ => RX12
def clT (ci : Nat) : u_T := match ci with
  | 0 => TX0 | 1 => TX1 | 2 => TX2 | 3 => TX3 | 4 => TX4 | 5 => TX5 | 6 => TX6 | 7 => TX7 | 8 => TX8 | 9 => TX9 | 10 => TX10 | 11 => TX11 | _ => TX12
theorem clsL {ci : Nat} (h : ci < 13) : vwCl[ci]? = some (clN ci, clT ci, nfd ci) := by
  match ci, h with
  | 0, _ => rfl
  | 1, _ => rfl
  | 2, _ => rfl
  | 3, _ => rfl
  | 4, _ => rfl
  | 5, _ => rfl
  | 6, _ => rfl
  | 7, _ => rfl
  | 8, _ => rfl
  | 9, _ => rfl
  | 10, _ => rfl
  | 11, _ => rfl
  | 12, _ => rfl
  | k + 13, h => omega
theorem clsT {ci : Nat} (h : ci < 13) : ∀ k, k < nfd ci → parseFieldDescriptor (clT ci k).2.2.1 = some (ftyT ci k) := by
  match ci, h with
  | 0, _ => exact tyX0_ok
  | 1, _ => exact tyX1_ok
  | 2, _ => exact tyX2_ok
  | 3, _ => exact tyX3_ok
  | 4, _ => exact tyX4_ok
  | 5, _ => exact tyX5_ok
  | 6, _ => exact tyX6_ok
  | 7, _ => exact tyX7_ok
  | 8, _ => exact tyX8_ok
  | 9, _ => exact tyX9_ok
  | 10, _ => exact tyX10_ok
  | 11, _ => exact tyX11_ok
  | 12, _ => exact tyX12_ok
  | k + 13, h => omega
theorem clsM {ci : Nat} (h : ci < 13) : ∀ a, a < nfd ci → ∀ b, b < nfd ci → a ≠ b → (clT ci a).2.1 ≠ (clT ci b).2.1 := by
  match ci, h with
  | 0, _ => exact nmX0
  | 1, _ => exact nmX1
  | 2, _ => exact nmX2
  | 3, _ => exact nmX3
  | 4, _ => exact nmX4
  | 5, _ => exact nmX5
  | 6, _ => exact nmX6
  | 7, _ => exact nmX7
  | 8, _ => exact nmX8
  | 9, _ => exact nmX9
  | 10, _ => exact nmX10
  | 11, _ => exact nmX11
  | 12, _ => exact nmX12
  | k + 13, h => omega
/-- a field's link: its class's own, or a nest mate's -/
def FOK (own : String) (args : Array Value) (s : State) (x ci j : Nat) : Prop := (Cond.fieldLink own x (clT ci j).1 (clT ci j).2.1 (clT ci j).2.2.1).before args s = true ∨ ∃ host, (Cond.fieldLinkNest own x (clT ci j).1 (clT ci j).2.1 (clT ci j).2.2.1 host).before args s = true
def PFK (own : String) (meth : Method) (args : Array Value) (s : State) (x ci j : Nat) : Prop := ((clT ci j).2.2.2 = false ∧ FOK own args s x ci j) ∨ ((clT ci j).2.2.2 = true ∧ meth.name = "<init>" ∧ (clT ci j).1 = own ∧ (Cond.fieldLink own x (clT ci j).1 (clT ci j).2.1 (clT ci j).2.2.1).before args s = true)
def lenOk (i : Instr) (n : Nat) : Bool := match i with
  | .tableswitch .. => true
  | .bipush _ => n == 2
  | .ldc _ => n == 2
  | .iload _ => n == 2
  | .lload _ => n == 2
  | .aload _ => n == 2
  | .istore _ => n == 2
  | .lstore _ => n == 2
  | .astore _ => n == 2
  | .newarray _ => n == 2
  | .sipush _ => n == 3
  | .ldc_w _ => n == 3
  | .ldc2_w _ => n == 3
  | .iinc .. => n == 3
  | .goto _ => n == 3
  | .ifCond .. => n == 3
  | .if_icmp .. => n == 3
  | .getfield _ => n == 3
  | .putfield _ => n == 3
  | .new _ => n == 3
  | .anewarray _ => n == 3
  | .invokevirtual _ => n == 3
  | .invokespecial _ => n == 3
  | .invokestatic _ => n == 3
  | _ => n == 1
def MOK (own : String) (cc : ByteArray) (M : MI) (meth : Method) (args : Array Value) (s : State) : Prop :=
  (∀ pc i n, lkp pc M.1 = some (i, n) → decode cc pc = .ok (i, n) ∧ lenOk i n = true) ∧
  (∀ x ci j, lkp x M.2.1 = some (ci, j) → ci < 13 ∧ FOK own args s x ci j) ∧
  (∀ pc x n ci j, lkp pc M.1 = some (.putfield x, n) → lkp x M.2.1 = some (ci, j) → PFK own meth args s x ci j) ∧
  (∀ x v, lkp x M.2.2.1 = some (.int v) → (Cond.constant own x v).before args s = true) ∧
  (∀ x v, lkp x M.2.2.1 = some (.long v) → (Cond.constantLong own x v).before args s = true) ∧
  (∀ x ci, lkp x M.2.2.2.2.1 = some ci → ci < 13 ∧ (Cond.classLink own x (clN ci)).before args s = true)
/-- what all methods know of the classes -/
def COK (args : Array Value) (s : State) : Prop := (∀ w ∈ gdW, w.before args s = true) ∧ (∀ ci, ci < 13 → (∀ w ∈ u_ws (clN ci) (clT ci) (nfd ci), w ∈ gdW) ∧ (Cond.instantiable (clN ci) (nfd ci)).before args s = true ∧ (Cond.initialized (clN ci)).before args s = true) ∧ (Cond.arrayClass .int).before args s = true ∧ (Cond.arrayClass .boolean).before args s = true ∧ (Cond.arrayClass .long).before args s = true
def RTY (k : Nat) (o : Option FieldType) : Prop := match k with
  | 0 => o = none
  | 1 => o = some .int
  | 2 => o = some .boolean
  | 3 => o = some .long
  | _ => ∃ n, o = some (.object n)
def Hp (D : va_G) (aC : Nat → ClassId) (A : Nat → Prop) (s : State) (ad0 : Nat → Nat) (N0 : Nat) (ad : Nat → Nat) (h : HP) (H : Heap) (locs : List Loc) : Prop :=
  va_P D vwCl (wof aC ad h) H ∧ va_D A (wof aC ad h) ∧ va_S A s.heap H locs ∧ h.1 ≤ mNul ∧ N0 ≤ h.1 ∧ (∀ p, p < N0 → ad p = ad0 p) ∧ okH h
def Qm (D : va_G) (aC : Nat → ClassId) (A : Nat → Prop) (ad0 : Nat → Nat) (N0 : Nat) (r : Option Value) (hF : HP) : Array Value → State → Outcome → State → Prop := fun _ st oc t =>
  (∃ ad : Nat → Nat, oc = .returned (r.map (mv ad)) ∧ va_P D vwCl (wof aC ad hF) t.heap ∧ va_D A (wof aC ad hF) ∧ hF.1 ≤ mNul ∧ N0 ≤ hF.1 ∧ (∀ p, p < N0 → ad p = ad0 p) ∧ okH hF ∧ (∀ v, r = some v → okv hF.1 v)) ∧ va_F A st t
theorem inb_in {i : Int32} {n : Nat} (h : inb i n = true) : vp_in i n := by
  unfold inb at h
  simp only [Bool.and_eq_true, Bool.not_eq_true', decide_eq_false_iff_not] at h
  rintro (q | q)
  · exact h.1 q
  · have := Nat.ble_eq.mpr q
    rw [this] at h
    cases h.2
theorem isB_nar {x : Int32} (h : isB x = true) : narrow .boolean (.int x) = .int x ∧ fits .boolean (.int x) = true ∧ vp_nar .boolean x = x := by
  unfold isB at h
  simp only [Bool.or_eq_true, decide_eq_true_eq] at h
  rcases h with rfl | rfl <;> exact ⟨rfl, rfl, rfl⟩
theorem arr_uniq {D : va_G} {cl : List vw_C} {tys tys' : List (ClassId × FieldType)} {s : State} {a b : ClassId} {ty : FieldType} {i j : Nat} (h1 : va_K D cl tys s) (h2 : va_K D cl tys' s) (hi : tys[i]? = some (a, ty)) (hj : tys'[j]? = some (b, ty)) : a = b := by
  have e1 := (h1.2 i _ hi).2
  have e2 := (h2.2 j _ hj).2
  cases ty with
  | object C =>
    obtain ⟨_, _, _, _, _, g1⟩ := e1
    obtain ⟨_, _, _, _, _, g2⟩ := e2
    exact Option.some.inj (g1.symm.trans g2)
  | _ => exact Option.some.inj (e1.symm.trans e2)
theorem swk_some {ρ : Type} {k : Int → Option ρ} {d : Int} {x : Int32} {r : ρ} : ∀ (ts : List Int) (lo : Int), swk k d x lo ts = some r → (∃ (i : Nat) (t : Int), ts[i]? = some t ∧ x = Int32.ofInt (lo + i) ∧ k t = some r) ∨ ((∀ i : Nat, i < ts.length → x ≠ Int32.ofInt (lo + i)) ∧ k d = some r) := by
  intro ts
  induction ts with
  | nil => intro lo h; exact Or.inr ⟨fun i hi => absurd hi (Nat.not_lt_zero i), h⟩
  | cons t ts ih =>
    intro lo h
    unfold swk at h
    split at h
    · rename_i hx
      exact Or.inl ⟨0, t, rfl, by simpa using hx, h⟩
    · rename_i hx
      rcases ih (lo + 1) h with ⟨i, t', h1, h2, h3⟩ | ⟨h1, h2⟩
      · refine Or.inl ⟨i + 1, t', h1, ?_, h3⟩
        rw [h2]; congr 1; push_cast; omega
      · refine Or.inr ⟨fun i hi => ?_, h2⟩
        cases i with
        | zero => simpa using hx
        | succ i =>
          have := h1 i (by simpa using hi)
          intro z
          apply this
          rw [z]; congr 1; push_cast; omega
theorem jmp_some {ρ : Type} {pc : Nat} {off : Int} {k : Nat → Option ρ} {r : ρ} (h : jmp pc off k = some r) : ∃ t : Nat, (pc : Int) + off = (t : Int) ∧ k t = some r := by
  unfold jmp at h
  split at h
  · rename_i t ht
    exact ⟨t, ht, h⟩
  · cases h
/-- where a branch goes -/
theorem jtgt_ok {pc : Nat} {off : Int} {t : Nat} (h : jtgt pc off = some t) : (pc : Int) + off = (t : Int) := by
  unfold jtgt at h
  split at h
  · rename_i z hz; cases h; exact hz
  · cases h
theorem fty_ref {ci j : Nat} {a : Nat} (hci : ci < 13) (hj : j < nfd ci) : ftyc (ftyT ci j) = 3 → narrow (ftyT ci j) (.ref a) = .ref a ∧ fits (ftyT ci j) (.ref a) = true := by
  intro h
  have hk : ∀ ci, ci < 13 → ∀ j, j < nfd ci → (ftyc (ftyT ci j) = 3 → ((match ftyT ci j with | .object _ => true | .array _ => true | _ => false) = true)) := by decide +kernel
  have h2 := hk ci hci j hj h
  cases hq : ftyT ci j with
  | object n => exact ⟨rfl, rfl⟩
  | array t => exact ⟨rfl, rfl⟩
  | _ => rw [hq] at h2; cases h2
theorem fty_dflt {ci j : Nat} {ad : Nat → Nat} (hci : ci < 13) (hj : j < nfd ci) : (match ftyc (ftyT ci j) with | 0 => Value.int 0 | 1 => .int 0 | 2 => .long 0 | _ => rvv ad mNul) = defaultValue (ftyT ci j) := by
  have hn : rvv ad mNul = .null := by unfold rvv; rw [if_pos rfl]
  rw [hn]
  have hk : ∀ ci, ci < 13 → ∀ j, j < nfd ci → (match ftyc (ftyT ci j) with | 0 => Value.int 0 | 1 => .int 0 | 2 => .long 0 | _ => Value.null) = defaultValue (ftyT ci j) := by decide +kernel
  exact hk ci hci j hj
section SND
variable {p : Program} {l : Launch} {e : Env} {R : Room} {s : State} {m : MethodId} {args : Array Value} {below : List Frame} {meth : Method} {c : Code} {cc : ByteArray} {nL : Nat} {own : String} {D : va_G} {aC : Nat → ClassId} {A : Nat → Prop} {ad0 : Nat → Nat} {N0 : Nat}
/-- a call: the callee's meaning is what happens -/
def CLK (p : Program) (l : Launch) (e : Env) (R : Room) (s : State) (m : MethodId) (args : Array Value) (below : List Frame) (meth : Method) (c : Code) (cc : ByteArray) (nL : Nat) (D : va_G) (aC : Nat → ClassId) (A : Nat → Prop) (ad0 : Nat → Nat) (N0 : Nat) (op : Instr) (n : Nat) (rc : Option Nat) (mc ms : Nat) (f : CF) : Prop :=
  ∀ (Q : State → Prop) (pc : Nat) (ls : Array Slot) (rest : List Value) (As : List Value) (h h' : HP) (r : Option Value) (ad : Nat → Nat) (H : Heap) (locs : List Loc) (cells slots : Nat),
    As.length = n → f As h = some (r, h') → decode cc pc = .ok (op, 3) → ls.size = nL → (rest.map fun v => v.category).sum ≤ 8 → cells + mc ≤ R.cells → slots + ms ≤ R.slots → Hp D aC A s ad0 N0 ad h H locs → okS h.1 As →
    (∀ ci, rc = some ci → ∃ q as, As = .ref q :: as ∧ (ci < 13 → (h.2.1 q).1 = 10 + ci ∧ q < h.1)) →
    (∀ (ad' : Nat → Nat) (H' : Heap) (locs' : List Loc), Hp D aC A s ad0 N0 ad' h' H' locs' → (∀ q, q < h.1 → ad' q = ad q) → h.1 ≤ h'.1 → (∀ v, r = some v → okv h'.1 v) → W p l e R s m args below meth c H' locs' (cells + mc) (slots + ms) Q (F0 m (pc + 3) ls (r.toList.map (mv ad') ++ rest))) →
    W p l e R s m args below meth c H locs cells slots Q (F0 m pc ls ((As.map (mv ad)).reverse ++ rest))
def CLS (p : Program) (l : Launch) (e : Env) (R : Room) (s : State) (m : MethodId) (args : Array Value) (below : List Frame) (meth : Method) (c : Code) (cc : ByteArray) (nL : Nat) (D : va_G) (aC : Nat → ClassId) (A : Nat → Prop) (ad0 : Nat → Nat) (N0 : Nat) (M : MI) : Prop :=
  (∀ pc x k n rc mc ms f, lkp pc M.1 = some (.invokevirtual x, k) → lkp (4 * x) M.2.2.2.1 = some (n, rc, mc, ms, f) → CLK p l e R s m args below meth c cc nL D aC A ad0 N0 (.invokevirtual x) n (some rc) mc ms f) ∧
  (∀ pc x k n rc mc ms f, lkp pc M.1 = some (.invokespecial x, k) → lkp (4 * x + 1) M.2.2.2.1 = some (n, rc, mc, ms, f) → CLK p l e R s m args below meth c cc nL D aC A ad0 N0 (.invokespecial x) n (some 99) mc ms f) ∧
  (∀ pc x k n rc mc ms f, lkp pc M.1 = some (.invokestatic x, k) → lkp (4 * x + 2) M.2.2.2.1 = some (n, rc, mc, ms, f) → CLK p l e R s m args below meth c cc nL D aC A ad0 N0 (.invokestatic x) n none mc ms f)
/-- putfield, whatever its link -/
theorem snd_put {Q : State → Prop} {H : Heap} {locs : List Loc} {cl sl pc : Nat} {ls : Array Slot} {rest : List Value} {ad : Nat → Nat} {h h' : HP} {q x ci j : Nat} {v : Value} (hx : p.tables.exec = Jvm.exec) (hb : c.code = cc) (hown : s.vm.findClass own = some m.cls) (hC : COK args s) (hK : KS D aC s)
    (hP : va_P D vwCl (wof aC ad h) H) (hD : va_D A (wof aC ad h)) (hS : va_S A s.heap H locs) (hci : ci < 13) (hg : (h.2.1 q).1 = 10 + ci ∧ q < h.1 ∧ j < nfd ci) (hpf : PFK own meth args s x ci j) (hd : decode cc pc = .ok (.putfield x, 3))
    (hn : narrow (ftyT ci j) v = v) (hfit : fits (ftyT ci j) v = true) (hsame : (wof aC ad h).set q (ad q, .inr (ci, ((List.range (nfd ci)).map (fvv ad h q ci)).set j v)) = wof aC ad h')
    (kk : ∀ (H1 : Heap) (locs1 : List Loc), va_P D vwCl (wof aC ad h') H1 → va_D A (wof aC ad h') → va_S A s.heap H1 locs1 → W p l e R s m args below meth c H1 locs1 cl sl Q (F0 m (pc + 3) ls rest)) :
    W p l e R s m args below meth c H locs cl sl Q (F0 m pc ls (v :: .ref (ad q) :: rest)) := by
  have he : (wof aC ad h)[q]? = some (ad q, .inr (ci, (List.range (nfd ci)).map (fvv ad h q ci))) := by rw [wof_get hg.2.1, cel_obj hg.1]
  have hl : j < ((List.range (nfd ci)).map (fvv ad h q ci)).length := by simp; exact hg.2.2
  have kk' : ∀ (H1 : Heap) (locs1 : List Loc), va_P D vwCl ((wof aC ad h).set q (ad q, .inr (ci, ((List.range (nfd ci)).map (fvv ad h q ci)).set j v))) H1 → va_D A ((wof aC ad h).set q (ad q, .inr (ci, ((List.range (nfd ci)).map (fvv ad h q ci)).set j v))) → va_S A s.heap H1 locs1 → W p l e R s m args below meth c H1 locs1 cl sl Q (F0 m (pc + 3) ls rest) := by
    rw [hsame]; exact kk
  rcases hpf with ⟨hfin, hf | ⟨host, hf⟩⟩ | ⟨hfin, hini, hdecl, hf⟩
  · exact va_put (C := clN ci) (T := clT ci) (N := nfd ci) hx hb hC.1 (hC.2.1 ci hci).1 (ftyT ci) (clsT hci) (clsM hci) hown hK.1 hP hD hS q he (clsL hci) j hg.2.2 hf (fun _ z => z) hfin (clsT hci j hg.2.2) hn hfit hl hd kk'
  · exact va_putN (C := clN ci) (T := clT ci) (N := nfd ci) hx hb hC.1 (hC.2.1 ci hci).1 (ftyT ci) (clsT hci) (clsM hci) hown hK.1 hP hD hS q he (clsL hci) j hg.2.2 hf (fun _ z => z) hfin (clsT hci j hg.2.2) hn hfit hl hd kk'
  · exact va_putF (C := clN ci) (T := clT ci) (N := nfd ci) hx hb hC.1 (hC.2.1 ci hci).1 (ftyT ci) (clsT hci) (clsM hci) hown hK.1 hP hD hS q he (clsL hci) j hg.2.2 hf (fun _ z => z) hfin hini hdecl (clsT hci j hg.2.2) hn hfit hl hd kk'
set_option maxHeartbeats 40000000 in
set_option maxRecDepth 100000 in
theorem snd_run {M : MI} {r : Option Value} {hF : HP} (hx : p.tables.exec = Jvm.exec) (hb : c.code = cc) (hml : c.maxLocals = nL) (hown : s.vm.findClass own = some m.cls) (hlocks : meth.locks = false) (hret : RTY M.2.2.2.2.2.2 meth.sig.returnType)
    (hRc : R.cells = M.2.2.2.2.2.1.1) (hRs : R.slots = M.2.2.2.2.2.1.2) (hC : COK args s) (hK : KS D aC s) (hA : ∀ q, s.heap.size ≤ q → A q) (hM : MOK own cc M meth args s) (hcal : CLS p l e R s m args below meth c cc nL D aC A ad0 N0 M) :
    ∀ (n pc cl sl : Nat) (vs st : List Value) (h : HP), runN M n (pc, cl, sl, vs, st, h) = some (r, hF) → ∀ (ad : Nat → Nat) (H : Heap) (locs : List Loc) (ls : Array Slot), Hp D aC A s ad0 N0 ad h H locs → cl ≤ M.2.2.2.2.2.1.1 → sl ≤ M.2.2.2.2.2.1.2 → LV ad ls nL vs → okS h.1 vs → okS h.1 st →
      W p l e R s m args below meth c H locs cl sl (MQ below (Qm D aC A ad0 N0 r hF) args s M.2.2.2.2.2.1.1 M.2.2.2.2.2.1.2 A) (F0 m pc ls (st.map (mv ad))) := by
  intro n
  induction n with
  | zero => intro pc cl sl vs st h hr; cases hr
  | succ n ih =>
  intro pc cl sl vs st h hrun ad H locs ls hH hcl hsl hL hokL hokS
  replace hrun : stp M (runN M n) some (pc, cl, sl, vs, st, h) = some (r, hF) := hrun
  unfold stp at hrun
  cases hi : lkp pc M.1 with
  | none => rw [hi] at hrun; cases hrun
  | some ii =>
  obtain ⟨i, k⟩ := ii
  rw [hi] at hrun
  obtain ⟨hd, hlen⟩ := hM.1 pc i k hi
  replace hrun : stpI M (runN M n) some pc cl sl vs st h i = some (r, hF) := hrun
  obtain ⟨hP, hD, hS, hmx, hN0, had, hok⟩ := id hH
  cases i with
  | iconst v =>
    obtain rfl : k = 1 := by simpa [lenOk] using hlen
    simp only [stpI] at hrun
    refine lv_iconst hx hb hd rfl ?_
    exact ih _ _ _ _ _ _ hrun ad H locs ls hH hcl hsl hL hokL (hokS.cons trivial)
  | bipush v =>
    obtain rfl : k = 2 := by simpa [lenOk] using hlen
    simp only [stpI] at hrun
    refine lv_bipush hx hb hd rfl ?_
    exact ih _ _ _ _ _ _ hrun ad H locs ls hH hcl hsl hL hokL (hokS.cons trivial)
  | sipush v =>
    obtain rfl : k = 3 := by simpa [lenOk] using hlen
    simp only [stpI] at hrun
    refine lv_sipush hx hb hd rfl ?_
    exact ih _ _ _ _ _ _ hrun ad H locs ls hH hcl hsl hL hokL (hokS.cons trivial)
  | lconst v =>
    obtain rfl : k = 1 := by simpa [lenOk] using hlen
    simp only [stpI] at hrun
    refine lv_lconst hx hb hd rfl ?_
    exact ih _ _ _ _ _ _ hrun ad H locs ls hH hcl hsl hL hokL (hokS.cons trivial)
  | ldc x =>
    obtain rfl : k = 2 := by simpa [lenOk] using hlen
    simp only [stpI] at hrun
    split at hrun
    · rename_i v hv
      refine lv_ldc hx hb hown (hM.2.2.2.1 x v hv) hd ?_
      exact ih _ _ _ _ _ _ hrun ad H locs ls hH hcl hsl hL hokL (hokS.cons trivial)
    · cases hrun
  | ldc_w x =>
    obtain rfl : k = 3 := by simpa [lenOk] using hlen
    simp only [stpI] at hrun
    split at hrun
    · rename_i v hv
      refine lv_ldcw hx hb hown (hM.2.2.2.1 x v hv) hd ?_
      exact ih _ _ _ _ _ _ hrun ad H locs ls hH hcl hsl hL hokL (hokS.cons trivial)
    · cases hrun
  | ldc2_w x =>
    obtain rfl : k = 3 := by simpa [lenOk] using hlen
    simp only [stpI] at hrun
    split at hrun
    · rename_i v hv
      refine lv_ldc2 hx hb hown (hM.2.2.2.2.1 x v hv) hd ?_
      exact ih _ _ _ _ _ _ hrun ad H locs ls hH hcl hsl hL hokL (hokS.cons trivial)
    · cases hrun
  | iload x =>
    obtain rfl : k = 2 := by simpa [lenOk] using hlen
    simp only [stpI] at hrun
    split at hrun
    · rename_i v hv
      refine lv_iload hx hb hd (hL.at hv (fun z => by cases z)) ?_
      exact ih _ _ _ _ _ _ hrun ad H locs ls hH hcl hsl hL hokL (hokS.cons trivial)
    · cases hrun
  | iload_n x =>
    obtain rfl : k = 1 := by simpa [lenOk] using hlen
    simp only [stpI] at hrun
    split at hrun
    · rename_i v hv
      refine lv_iload_n hx hb hd rfl (hL.at hv (fun z => by cases z)) ?_
      exact ih _ _ _ _ _ _ hrun ad H locs ls hH hcl hsl hL hokL (hokS.cons trivial)
    · cases hrun
  | lload x =>
    obtain rfl : k = 2 := by simpa [lenOk] using hlen
    simp only [stpI] at hrun
    split at hrun
    · rename_i v hv
      refine lv_lload hx hb hd (hL.at hv (fun z => by cases z)) ?_
      exact ih _ _ _ _ _ _ hrun ad H locs ls hH hcl hsl hL hokL (hokS.cons trivial)
    · cases hrun
  | lload_n x =>
    obtain rfl : k = 1 := by simpa [lenOk] using hlen
    simp only [stpI] at hrun
    split at hrun
    · rename_i v hv
      refine lv_lload_n hx hb hd rfl (hL.at hv (fun z => by cases z)) ?_
      exact ih _ _ _ _ _ _ hrun ad H locs ls hH hcl hsl hL hokL (hokS.cons trivial)
    · cases hrun
  | aload x =>
    obtain rfl : k = 2 := by simpa [lenOk] using hlen
    simp only [stpI] at hrun
    split at hrun
    · rename_i v hv
      refine lv_aload hx hb hd (hL.at hv (fun z => by cases z)) ?_
      exact ih _ _ _ _ _ _ hrun ad H locs ls hH hcl hsl hL hokL (hokS.cons (hokL _ (List.mem_of_getElem? hv)))
    · cases hrun
  | aload_n x =>
    obtain rfl : k = 1 := by simpa [lenOk] using hlen
    simp only [stpI] at hrun
    split at hrun
    · rename_i v hv
      refine lv_aload_n hx hb hd rfl (hL.at hv (fun z => by cases z)) ?_
      exact ih _ _ _ _ _ _ hrun ad H locs ls hH hcl hsl hL hokL (hokS.cons (hokL _ (List.mem_of_getElem? hv)))
    · cases hrun
  | istore x =>
    obtain rfl : k = 2 := by simpa [lenOk] using hlen
    simp only [stpI] at hrun
    split at hrun
    · rename_i v r'
      cases hq : Nat.blt x vs.length with
      | false => rw [hq] at hrun; cases hrun
      | true =>
        rw [hq] at hrun
        have hlt : x < nL := by rw [← hL.2]; exact Nat.blt_eq.mp hq
        refine lv_istore hx hb hd hL.1 hlt rfl (fun ls' hl' => ?_)
        exact ih _ _ _ _ _ _ hrun ad H locs ls' hH hcl hsl (LV.st1 (x := .int v) hL.2 hlt hl') (set_ok (kill_ok hokL) hokS.hd) hokS.tl
    · cases hrun
  | istore_n x =>
    obtain rfl : k = 1 := by simpa [lenOk] using hlen
    simp only [stpI] at hrun
    split at hrun
    · rename_i v r'
      cases hq : Nat.blt (x : Nat) vs.length with
      | false => rw [hq] at hrun; cases hrun
      | true =>
        rw [hq] at hrun
        have hlt : (x : Nat) < nL := by rw [← hL.2]; exact Nat.blt_eq.mp hq
        refine lv_istore_n hx hb hd rfl hL.1 hlt rfl (fun ls' hl' => ?_)
        exact ih _ _ _ _ _ _ hrun ad H locs ls' hH hcl hsl (LV.st1 (x := .int v) hL.2 hlt hl') (set_ok (kill_ok hokL) hokS.hd) hokS.tl
    · cases hrun
  | astore x =>
    obtain rfl : k = 2 := by simpa [lenOk] using hlen
    simp only [stpI] at hrun
    split at hrun
    · rename_i v r'
      cases hq : Nat.blt x vs.length with
      | false => rw [hq] at hrun; cases hrun
      | true =>
        rw [hq] at hrun
        have hlt : x < nL := by rw [← hL.2]; exact Nat.blt_eq.mp hq
        refine lv_astore hx hb hd hL.1 hlt rfl (fun ls' hl' => ?_)
        exact ih _ _ _ _ _ _ hrun ad H locs ls' hH hcl hsl (LV.st1 (x := .ref v) hL.2 hlt hl') (set_ok (kill_ok hokL) hokS.hd) hokS.tl
    · cases hrun
  | astore_n x =>
    obtain rfl : k = 1 := by simpa [lenOk] using hlen
    simp only [stpI] at hrun
    split at hrun
    · rename_i v r'
      cases hq : Nat.blt (x : Nat) vs.length with
      | false => rw [hq] at hrun; cases hrun
      | true =>
        rw [hq] at hrun
        have hlt : (x : Nat) < nL := by rw [← hL.2]; exact Nat.blt_eq.mp hq
        refine lv_astore_n hx hb hd rfl hL.1 hlt rfl (fun ls' hl' => ?_)
        exact ih _ _ _ _ _ _ hrun ad H locs ls' hH hcl hsl (LV.st1 (x := .ref v) hL.2 hlt hl') (set_ok (kill_ok hokL) hokS.hd) hokS.tl
    · cases hrun
  | lstore x =>
    obtain rfl : k = 2 := by simpa [lenOk] using hlen
    simp only [stpI] at hrun
    split at hrun
    · rename_i v r'
      cases hq : Nat.blt (x + 1) vs.length with
      | false => rw [hq] at hrun; cases hrun
      | true =>
        rw [hq] at hrun
        have hlt : x + 1 < nL := by rw [← hL.2]; exact Nat.blt_eq.mp hq
        refine lv_lstore hx hb hd hL.1 hlt rfl (fun ls' hl' => ?_)
        exact ih _ _ _ _ _ _ hrun ad H locs ls' hH hcl hsl (LV.st2 (x := .long v) hL.2 hlt hl') (set_ok (set_ok (kill_ok hokL) trivial) trivial) hokS.tl
    · cases hrun
  | lstore_n x =>
    obtain rfl : k = 1 := by simpa [lenOk] using hlen
    simp only [stpI] at hrun
    split at hrun
    · rename_i v r'
      cases hq : Nat.blt ((x : Nat) + 1) vs.length with
      | false => rw [hq] at hrun; cases hrun
      | true =>
        rw [hq] at hrun
        have hlt : (x : Nat) + 1 < nL := by rw [← hL.2]; exact Nat.blt_eq.mp hq
        refine lv_lstore_n hx hb hd rfl hL.1 hlt rfl (fun ls' hl' => ?_)
        exact ih _ _ _ _ _ _ hrun ad H locs ls' hH hcl hsl (LV.st2 (x := .long v) hL.2 hlt hl') (set_ok (set_ok (kill_ok hokL) trivial) trivial) hokS.tl
    · cases hrun
  | iinc x n0 =>
    obtain rfl : k = 3 := by simpa [lenOk] using hlen
    simp only [stpI] at hrun
    split at hrun
    · rename_i v hv
      have hlt : x < nL := by rw [← hL.2]; exact (List.getElem?_eq_some_iff.mp hv).1
      obtain ⟨kk, hkk⟩ := List.getElem?_of_mem (lvl_mem (ad := ad) (q := (x, Value.int v)) |>.mpr ⟨_, hv, (fun z => by cases z), rfl⟩)
      refine lv_iinc hx hb hd hL.1 hkk rfl hlt rfl (fun ls' hl' => ?_)
      exact ih _ _ _ _ _ _ hrun ad H locs ls' hH hcl hsl (LV.st1 (x := .int _) hL.2 hlt hl') (set_ok (kill_ok hokL) trivial) hokS
    · cases hrun
  | iadd =>
    obtain rfl : k = 1 := by simpa [lenOk] using hlen
    simp only [stpI] at hrun
    split at hrun
    · refine lv_iadd hx hb hd ?_
      exact ih _ _ _ _ _ _ hrun ad H locs ls hH hcl hsl hL hokL (hokS.tl.tl.cons trivial)
    · cases hrun
  | isub =>
    obtain rfl : k = 1 := by simpa [lenOk] using hlen
    simp only [stpI] at hrun
    split at hrun
    · refine lv_isub hx hb hd ?_
      exact ih _ _ _ _ _ _ hrun ad H locs ls hH hcl hsl hL hokL (hokS.tl.tl.cons trivial)
    · cases hrun
  | imul =>
    obtain rfl : k = 1 := by simpa [lenOk] using hlen
    simp only [stpI] at hrun
    split at hrun
    · refine lv_imul hx hb hd ?_
      exact ih _ _ _ _ _ _ hrun ad H locs ls hH hcl hsl hL hokL (hokS.tl.tl.cons trivial)
    · cases hrun
  | iand =>
    obtain rfl : k = 1 := by simpa [lenOk] using hlen
    simp only [stpI] at hrun
    split at hrun
    · refine lv_iand hx hb hd ?_
      exact ih _ _ _ _ _ _ hrun ad H locs ls hH hcl hsl hL hokL (hokS.tl.tl.cons trivial)
    · cases hrun
  | ior =>
    obtain rfl : k = 1 := by simpa [lenOk] using hlen
    simp only [stpI] at hrun
    split at hrun
    · refine lv_ior hx hb hd ?_
      exact ih _ _ _ _ _ _ hrun ad H locs ls hH hcl hsl hL hokL (hokS.tl.tl.cons trivial)
    · cases hrun
  | ixor =>
    obtain rfl : k = 1 := by simpa [lenOk] using hlen
    simp only [stpI] at hrun
    split at hrun
    · refine lv_ixor hx hb hd ?_
      exact ih _ _ _ _ _ _ hrun ad H locs ls hH hcl hsl hL hokL (hokS.tl.tl.cons trivial)
    · cases hrun
  | ishl =>
    obtain rfl : k = 1 := by simpa [lenOk] using hlen
    simp only [stpI] at hrun
    split at hrun
    · refine lv_ishl hx hb hd ?_
      exact ih _ _ _ _ _ _ hrun ad H locs ls hH hcl hsl hL hokL (hokS.tl.tl.cons trivial)
    · cases hrun
  | ishr =>
    obtain rfl : k = 1 := by simpa [lenOk] using hlen
    simp only [stpI] at hrun
    split at hrun
    · refine lv_ishr hx hb hd ?_
      exact ih _ _ _ _ _ _ hrun ad H locs ls hH hcl hsl hL hokL (hokS.tl.tl.cons trivial)
    · cases hrun
  | ladd =>
    obtain rfl : k = 1 := by simpa [lenOk] using hlen
    simp only [stpI] at hrun
    split at hrun
    · refine lv_ladd hx hb hd ?_
      exact ih _ _ _ _ _ _ hrun ad H locs ls hH hcl hsl hL hokL (hokS.tl.tl.cons trivial)
    · cases hrun
  | lmul =>
    obtain rfl : k = 1 := by simpa [lenOk] using hlen
    simp only [stpI] at hrun
    split at hrun
    · refine lv_lmul hx hb hd ?_
      exact ih _ _ _ _ _ _ hrun ad H locs ls hH hcl hsl hL hokL (hokS.tl.tl.cons trivial)
    · cases hrun
  | land =>
    obtain rfl : k = 1 := by simpa [lenOk] using hlen
    simp only [stpI] at hrun
    split at hrun
    · refine lv_land hx hb hd ?_
      exact ih _ _ _ _ _ _ hrun ad H locs ls hH hcl hsl hL hokL (hokS.tl.tl.cons trivial)
    · cases hrun
  | lor =>
    obtain rfl : k = 1 := by simpa [lenOk] using hlen
    simp only [stpI] at hrun
    split at hrun
    · refine lv_lor hx hb hd ?_
      exact ih _ _ _ _ _ _ hrun ad H locs ls hH hcl hsl hL hokL (hokS.tl.tl.cons trivial)
    · cases hrun
  | lxor =>
    obtain rfl : k = 1 := by simpa [lenOk] using hlen
    simp only [stpI] at hrun
    split at hrun
    · refine lv_lxor hx hb hd ?_
      exact ih _ _ _ _ _ _ hrun ad H locs ls hH hcl hsl hL hokL (hokS.tl.tl.cons trivial)
    · cases hrun
  | iushr =>
    obtain rfl : k = 1 := by simpa [lenOk] using hlen
    simp only [stpI] at hrun
    split at hrun
    · refine lv_iushr hx hb hd rfl ?_
      exact ih _ _ _ _ _ _ hrun ad H locs ls hH hcl hsl hL hokL (hokS.tl.tl.cons trivial)
    · cases hrun
  | lshl =>
    obtain rfl : k = 1 := by simpa [lenOk] using hlen
    simp only [stpI] at hrun
    split at hrun
    · refine lv_lshl hx hb hd rfl ?_
      exact ih _ _ _ _ _ _ hrun ad H locs ls hH hcl hsl hL hokL (hokS.tl.tl.cons trivial)
    · cases hrun
  | lushr =>
    obtain rfl : k = 1 := by simpa [lenOk] using hlen
    simp only [stpI] at hrun
    split at hrun
    · refine lv_lushr hx hb hd rfl ?_
      exact ih _ _ _ _ _ _ hrun ad H locs ls hH hcl hsl hL hokL (hokS.tl.tl.cons trivial)
    · cases hrun
  | idiv =>
    obtain rfl : k = 1 := by simpa [lenOk] using hlen
    simp only [stpI] at hrun
    split at hrun
    · split at hrun
      · cases hrun
      · rename_i hne
        refine lv_idiv hx hb hd hne ?_
        exact ih _ _ _ _ _ _ hrun ad H locs ls hH hcl hsl hL hokL (hokS.tl.tl.cons trivial)
    · cases hrun
  | irem =>
    obtain rfl : k = 1 := by simpa [lenOk] using hlen
    simp only [stpI] at hrun
    split at hrun
    · split at hrun
      · cases hrun
      · rename_i hne
        refine lv_irem hx hb hd hne ?_
        exact ih _ _ _ _ _ _ hrun ad H locs ls hH hcl hsl hL hokL (hokS.tl.tl.cons trivial)
    · cases hrun
  | ldiv =>
    obtain rfl : k = 1 := by simpa [lenOk] using hlen
    simp only [stpI] at hrun
    split at hrun
    · split at hrun
      · cases hrun
      · rename_i hne
        refine lv_ldiv hx hb hd hne ?_
        exact ih _ _ _ _ _ _ hrun ad H locs ls hH hcl hsl hL hokL (hokS.tl.tl.cons trivial)
    · cases hrun
  | lrem =>
    obtain rfl : k = 1 := by simpa [lenOk] using hlen
    simp only [stpI] at hrun
    split at hrun
    · split at hrun
      · cases hrun
      · rename_i hne
        refine lv_lrem hx hb hd hne ?_
        exact ih _ _ _ _ _ _ hrun ad H locs ls hH hcl hsl hL hokL (hokS.tl.tl.cons trivial)
    · cases hrun
  | lcmp =>
    obtain rfl : k = 1 := by simpa [lenOk] using hlen
    simp only [stpI] at hrun
    split at hrun
    · refine W.lcmp hx hb hd ?_
      exact ih _ _ _ _ _ _ hrun ad H locs ls hH hcl hsl hL hokL (hokS.tl.tl.cons trivial)
    · cases hrun
  | i2l =>
    obtain rfl : k = 1 := by simpa [lenOk] using hlen
    simp only [stpI] at hrun
    split at hrun
    · refine lv_i2l hx hb hd rfl ?_
      exact ih _ _ _ _ _ _ hrun ad H locs ls hH hcl hsl hL hokL (hokS.tl.cons trivial)
    · cases hrun
  | l2i =>
    obtain rfl : k = 1 := by simpa [lenOk] using hlen
    simp only [stpI] at hrun
    split at hrun
    · refine lv_l2i hx hb hd rfl ?_
      exact ih _ _ _ _ _ _ hrun ad H locs ls hH hcl hsl hL hokL (hokS.tl.cons trivial)
    · cases hrun
  | dup =>
    obtain rfl : k = 1 := by simpa [lenOk] using hlen
    simp only [stpI] at hrun
    split at hrun
    · refine lv_dup hx hb hd rfl ?_
      exact ih _ _ _ _ _ _ hrun ad H locs ls hH hcl hsl hL hokL (hokS.cons trivial)
    · refine lv_dup hx hb hd rfl ?_
      exact ih _ _ _ _ _ _ hrun ad H locs ls hH hcl hsl hL hokL (hokS.cons hokS.hd)
    · cases hrun
  | dup2 =>
    obtain rfl : k = 1 := by simpa [lenOk] using hlen
    simp only [stpI] at hrun
    split at hrun
    · refine lv_dup2_11 hx hb hd rfl rfl ?_
      exact ih _ _ _ _ _ _ hrun ad H locs ls hH hcl hsl hL hokL ((hokS.cons hokS.tl.hd).cons trivial)
    · cases hrun
  | goto off =>
    obtain rfl : k = 3 := by simpa [lenOk] using hlen
    simp only [stpI] at hrun
    obtain ⟨t, ht, hrun⟩ := jmp_some hrun
    refine lv_goto hx hb hd ht ?_
    exact ih _ _ _ _ _ _ hrun ad H locs ls hH hcl hsl hL hokL hokS
  | ifCond q off =>
    obtain rfl : k = 3 := by simpa [lenOk] using hlen
    simp only [stpI] at hrun
    split at hrun
    · cases q with
      | eq =>
        simp only at hrun
        cases ht : jtgt pc off with
        | none => rw [ht] at hrun; cases hrun
        | some t =>
          rw [ht] at hrun
          simp only at hrun
          split at hrun
          · rename_i hq
            refine lv_if_eq hx hb hd (jtgt_ok ht) (fun _ => ?_) (fun z => absurd hq z)
            exact ih _ _ _ _ _ _ hrun ad H locs ls hH hcl hsl hL hokL hokS.tl
          · rename_i hq
            refine lv_if_eq hx hb hd (jtgt_ok ht) (fun z => absurd z hq) (fun _ => ?_)
            exact ih _ _ _ _ _ _ hrun ad H locs ls hH hcl hsl hL hokL hokS.tl
      | ne =>
        simp only at hrun
        cases ht : jtgt pc off with
        | none => rw [ht] at hrun; cases hrun
        | some t =>
          rw [ht] at hrun
          simp only at hrun
          split at hrun
          · rename_i hq
            refine lv_if_ne hx hb hd (jtgt_ok ht) (fun z => absurd hq z) (fun _ => ?_)
            exact ih _ _ _ _ _ _ hrun ad H locs ls hH hcl hsl hL hokL hokS.tl
          · rename_i hq
            refine lv_if_ne hx hb hd (jtgt_ok ht) (fun _ => ?_) (fun z => absurd z hq)
            exact ih _ _ _ _ _ _ hrun ad H locs ls hH hcl hsl hL hokL hokS.tl
      | lt =>
        simp only at hrun
        cases ht : jtgt pc off with
        | none => rw [ht] at hrun; cases hrun
        | some t =>
          rw [ht] at hrun
          simp only at hrun
          split at hrun
          · rename_i hq
            refine lv_if_lt hx hb hd (jtgt_ok ht) (fun _ => ?_) (fun z => absurd hq z)
            exact ih _ _ _ _ _ _ hrun ad H locs ls hH hcl hsl hL hokL hokS.tl
          · rename_i hq
            refine lv_if_lt hx hb hd (jtgt_ok ht) (fun z => absurd z hq) (fun _ => ?_)
            exact ih _ _ _ _ _ _ hrun ad H locs ls hH hcl hsl hL hokL hokS.tl
      | ge =>
        simp only at hrun
        cases ht : jtgt pc off with
        | none => rw [ht] at hrun; cases hrun
        | some t =>
          rw [ht] at hrun
          simp only at hrun
          split at hrun
          · rename_i hq
            refine lv_if_ge hx hb hd (jtgt_ok ht) (fun _ => ?_) (fun z => absurd hq z)
            exact ih _ _ _ _ _ _ hrun ad H locs ls hH hcl hsl hL hokL hokS.tl
          · rename_i hq
            refine lv_if_ge hx hb hd (jtgt_ok ht) (fun z => absurd z hq) (fun _ => ?_)
            exact ih _ _ _ _ _ _ hrun ad H locs ls hH hcl hsl hL hokL hokS.tl
      | gt =>
        simp only at hrun
        cases ht : jtgt pc off with
        | none => rw [ht] at hrun; cases hrun
        | some t =>
          rw [ht] at hrun
          simp only at hrun
          split at hrun
          · rename_i hq
            refine lv_if_gt hx hb hd (jtgt_ok ht) (fun _ => ?_) (fun z => absurd hq z)
            exact ih _ _ _ _ _ _ hrun ad H locs ls hH hcl hsl hL hokL hokS.tl
          · rename_i hq
            refine lv_if_gt hx hb hd (jtgt_ok ht) (fun z => absurd z hq) (fun _ => ?_)
            exact ih _ _ _ _ _ _ hrun ad H locs ls hH hcl hsl hL hokL hokS.tl
      | le =>
        simp only at hrun
        cases ht : jtgt pc off with
        | none => rw [ht] at hrun; cases hrun
        | some t =>
          rw [ht] at hrun
          simp only at hrun
          split at hrun
          · rename_i hq
            refine lv_if_le hx hb hd (jtgt_ok ht) (fun _ => ?_) (fun z => absurd hq z)
            exact ih _ _ _ _ _ _ hrun ad H locs ls hH hcl hsl hL hokL hokS.tl
          · rename_i hq
            refine lv_if_le hx hb hd (jtgt_ok ht) (fun z => absurd z hq) (fun _ => ?_)
            exact ih _ _ _ _ _ _ hrun ad H locs ls hH hcl hsl hL hokL hokS.tl
    · cases hrun
  | if_icmp q off =>
    obtain rfl : k = 3 := by simpa [lenOk] using hlen
    simp only [stpI] at hrun
    split at hrun
    · cases q with
      | eq =>
        simp only at hrun
        cases ht : jtgt pc off with
        | none => rw [ht] at hrun; cases hrun
        | some t =>
          rw [ht] at hrun
          simp only at hrun
          split at hrun
          · rename_i hq
            refine lv_icmp_eq hx hb hd (jtgt_ok ht) (fun _ => ?_) (fun z => absurd hq z)
            exact ih _ _ _ _ _ _ hrun ad H locs ls hH hcl hsl hL hokL hokS.tl.tl
          · rename_i hq
            refine lv_icmp_eq hx hb hd (jtgt_ok ht) (fun z => absurd z hq) (fun _ => ?_)
            exact ih _ _ _ _ _ _ hrun ad H locs ls hH hcl hsl hL hokL hokS.tl.tl
      | ne =>
        simp only at hrun
        cases ht : jtgt pc off with
        | none => rw [ht] at hrun; cases hrun
        | some t =>
          rw [ht] at hrun
          simp only at hrun
          split at hrun
          · rename_i hq
            refine lv_icmp_ne hx hb hd (jtgt_ok ht) (fun z => absurd hq z) (fun _ => ?_)
            exact ih _ _ _ _ _ _ hrun ad H locs ls hH hcl hsl hL hokL hokS.tl.tl
          · rename_i hq
            refine lv_icmp_ne hx hb hd (jtgt_ok ht) (fun _ => ?_) (fun z => absurd z hq)
            exact ih _ _ _ _ _ _ hrun ad H locs ls hH hcl hsl hL hokL hokS.tl.tl
      | lt =>
        simp only at hrun
        cases ht : jtgt pc off with
        | none => rw [ht] at hrun; cases hrun
        | some t =>
          rw [ht] at hrun
          simp only at hrun
          split at hrun
          · rename_i hq
            refine lv_icmp_lt hx hb hd (jtgt_ok ht) (fun _ => ?_) (fun z => absurd hq z)
            exact ih _ _ _ _ _ _ hrun ad H locs ls hH hcl hsl hL hokL hokS.tl.tl
          · rename_i hq
            refine lv_icmp_lt hx hb hd (jtgt_ok ht) (fun z => absurd z hq) (fun _ => ?_)
            exact ih _ _ _ _ _ _ hrun ad H locs ls hH hcl hsl hL hokL hokS.tl.tl
      | ge =>
        simp only at hrun
        cases ht : jtgt pc off with
        | none => rw [ht] at hrun; cases hrun
        | some t =>
          rw [ht] at hrun
          simp only at hrun
          split at hrun
          · rename_i hq
            refine lv_icmp_ge hx hb hd (jtgt_ok ht) (fun _ => ?_) (fun z => absurd hq z)
            exact ih _ _ _ _ _ _ hrun ad H locs ls hH hcl hsl hL hokL hokS.tl.tl
          · rename_i hq
            refine lv_icmp_ge hx hb hd (jtgt_ok ht) (fun z => absurd z hq) (fun _ => ?_)
            exact ih _ _ _ _ _ _ hrun ad H locs ls hH hcl hsl hL hokL hokS.tl.tl
      | gt =>
        simp only at hrun
        cases ht : jtgt pc off with
        | none => rw [ht] at hrun; cases hrun
        | some t =>
          rw [ht] at hrun
          simp only at hrun
          split at hrun
          · rename_i hq
            refine lv_icmp_gt hx hb hd (jtgt_ok ht) (fun _ => ?_) (fun z => absurd hq z)
            exact ih _ _ _ _ _ _ hrun ad H locs ls hH hcl hsl hL hokL hokS.tl.tl
          · rename_i hq
            refine lv_icmp_gt hx hb hd (jtgt_ok ht) (fun z => absurd z hq) (fun _ => ?_)
            exact ih _ _ _ _ _ _ hrun ad H locs ls hH hcl hsl hL hokL hokS.tl.tl
      | le =>
        simp only at hrun
        cases ht : jtgt pc off with
        | none => rw [ht] at hrun; cases hrun
        | some t =>
          rw [ht] at hrun
          simp only at hrun
          split at hrun
          · rename_i hq
            refine lv_icmp_le hx hb hd (jtgt_ok ht) (fun _ => ?_) (fun z => absurd hq z)
            exact ih _ _ _ _ _ _ hrun ad H locs ls hH hcl hsl hL hokL hokS.tl.tl
          · rename_i hq
            refine lv_icmp_le hx hb hd (jtgt_ok ht) (fun z => absurd z hq) (fun _ => ?_)
            exact ih _ _ _ _ _ _ hrun ad H locs ls hH hcl hsl hL hokL hokS.tl.tl
    · cases hrun
  | tableswitch d lo hi0 offs =>
    simp only [stpI] at hrun
    split at hrun
    · rename_i x r'
      split at hrun
      · rename_i hg
        obtain ⟨hg1, hg2, hg3⟩ := hg
        rcases swk_some _ _ hrun with ⟨i, t, h1, h2, h3⟩ | ⟨h1, h3⟩
        · obtain ⟨tg, ht, hrun⟩ := jmp_some h3
          have hil : i < offs.size := by
            have := (List.getElem?_eq_some_iff.mp h1).1
            simpa using this
          have hxi : x.toInt = lo + i := by rw [h2]; exact Int32.toInt_ofInt_of_le (by omega) (by omega)
          refine lv_tableIn hx hb hd (by omega) (by omega) (off := t) ?_ ht ?_
          · rw [hxi, show (lo + (i : Int) - lo).toNat = i by omega, ← Array.getElem?_toList]; exact h1
          · exact ih _ _ _ _ _ _ hrun ad H locs ls hH hcl hsl hL hokL hokS.tl
        · obtain ⟨tg, ht, hrun⟩ := jmp_some h3
          refine lv_tableOut hx hb hd ?_ ht ?_
          · rcases Int.lt_or_le x.toInt lo with z | z
            · exact Or.inl z
            · right
              rcases Int.lt_or_le hi0 x.toInt with z2 | z2
              · exact z2
              · exfalso
                refine h1 (x.toInt - lo).toNat (by rw [Array.length_toList]; omega) ?_
                rw [show lo + ((x.toInt - lo).toNat : Int) = x.toInt by omega]
                exact (Int32.ofInt_toInt x).symm
          · exact ih _ _ _ _ _ _ hrun ad H locs ls hH hcl hsl hL hokL hokS.tl
      · cases hrun
    · cases hrun
  | getfield x =>
    obtain rfl : k = 3 := by simpa [lenOk] using hlen
    simp only [stpI] at hrun
    split at hrun
    · rename_i q r'
      cases hf0 : lkp x M.2.1 with
      | none => rw [hf0] at hrun; cases hrun
      | some cj =>
      obtain ⟨ci, j⟩ := cj
      rw [hf0] at hrun
      simp only at hrun
      obtain ⟨hci, hfo⟩ := hM.2.1 x ci j hf0
      split at hrun
      · rename_i hg
        split at hrun
        · rename_i hty
          have hv : ((List.range (nfd ci)).map (fvv ad h q ci))[j]? = some (.int (h.2.2.1 q j)) := by simp [hg.2.2, fvv, hty]
          rcases hfo with hf | ⟨host, hf⟩
          · refine va_get (C := clN ci) (T := clT ci) (N := nfd ci) hx hb hC.1 (hC.2.1 ci hci).1 hown hK.1 hP q (by rw [wof_get hg.2.1, cel_obj hg.1]) (clsL hci) j hg.2.2 hf (fun _ z => z) hv hd ?_
            exact ih _ _ _ _ _ _ hrun ad H locs ls hH hcl hsl hL hokL (hokS.tl.cons trivial)
          · refine va_getN (C := clN ci) (T := clT ci) (N := nfd ci) hx hb hC.1 (hC.2.1 ci hci).1 hown hK.1 hP q (by rw [wof_get hg.2.1, cel_obj hg.1]) (clsL hci) j hg.2.2 hf (fun _ z => z) hv hd ?_
            exact ih _ _ _ _ _ _ hrun ad H locs ls hH hcl hsl hL hokL (hokS.tl.cons trivial)
        · rename_i hty
          have hv : ((List.range (nfd ci)).map (fvv ad h q ci))[j]? = some (.int (h.2.2.1 q j)) := by simp [hg.2.2, fvv, hty]
          rcases hfo with hf | ⟨host, hf⟩
          · refine va_get (C := clN ci) (T := clT ci) (N := nfd ci) hx hb hC.1 (hC.2.1 ci hci).1 hown hK.1 hP q (by rw [wof_get hg.2.1, cel_obj hg.1]) (clsL hci) j hg.2.2 hf (fun _ z => z) hv hd ?_
            exact ih _ _ _ _ _ _ hrun ad H locs ls hH hcl hsl hL hokL (hokS.tl.cons trivial)
          · refine va_getN (C := clN ci) (T := clT ci) (N := nfd ci) hx hb hC.1 (hC.2.1 ci hci).1 hown hK.1 hP q (by rw [wof_get hg.2.1, cel_obj hg.1]) (clsL hci) j hg.2.2 hf (fun _ z => z) hv hd ?_
            exact ih _ _ _ _ _ _ hrun ad H locs ls hH hcl hsl hL hokL (hokS.tl.cons trivial)
        · rename_i hty
          have hv : ((List.range (nfd ci)).map (fvv ad h q ci))[j]? = some (.long (h.2.2.2.1 q j)) := by simp [hg.2.2, fvv, hty]
          rcases hfo with hf | ⟨host, hf⟩
          · refine va_get (C := clN ci) (T := clT ci) (N := nfd ci) hx hb hC.1 (hC.2.1 ci hci).1 hown hK.1 hP q (by rw [wof_get hg.2.1, cel_obj hg.1]) (clsL hci) j hg.2.2 hf (fun _ z => z) hv hd ?_
            exact ih _ _ _ _ _ _ hrun ad H locs ls hH hcl hsl hL hokL (hokS.tl.cons trivial)
          · refine va_getN (C := clN ci) (T := clT ci) (N := nfd ci) hx hb hC.1 (hC.2.1 ci hci).1 hown hK.1 hP q (by rw [wof_get hg.2.1, cel_obj hg.1]) (clsL hci) j hg.2.2 hf (fun _ z => z) hv hd ?_
            exact ih _ _ _ _ _ _ hrun ad H locs ls hH hcl hsl hL hokL (hokS.tl.cons trivial)
        · rename_i hn0 hn1 hn2
          split at hrun
          · rename_i hlt
            have hne : h.2.2.2.2 q j ≠ mNul := by omega
            have hv : ((List.range (nfd ci)).map (fvv ad h q ci))[j]? = some (.ref (ad (h.2.2.2.2 q j))) := by
              have e9 : fvv ad h q ci j = .ref (ad (h.2.2.2.2 q j)) := by
                unfold fvv
                split <;> first | contradiction | (rename_i z; first | exact absurd z hn0 | exact absurd z hn1 | exact absurd z hn2) | (unfold rvv; rw [if_neg hne])
              simp [hg.2.2, e9]
            rcases hfo with hf | ⟨host, hf⟩
            · refine va_get (C := clN ci) (T := clT ci) (N := nfd ci) hx hb hC.1 (hC.2.1 ci hci).1 hown hK.1 hP q (by rw [wof_get hg.2.1, cel_obj hg.1]) (clsL hci) j hg.2.2 hf (fun _ z => z) hv hd ?_
              exact ih _ _ _ _ _ _ hrun ad H locs ls hH hcl hsl hL hokL (hokS.tl.cons hlt)
            · refine va_getN (C := clN ci) (T := clT ci) (N := nfd ci) hx hb hC.1 (hC.2.1 ci hci).1 hown hK.1 hP q (by rw [wof_get hg.2.1, cel_obj hg.1]) (clsL hci) j hg.2.2 hf (fun _ z => z) hv hd ?_
              exact ih _ _ _ _ _ _ hrun ad H locs ls hH hcl hsl hL hokL (hokS.tl.cons hlt)
          · cases hrun
      · cases hrun
    · cases hrun
  | putfield x =>
    obtain rfl : k = 3 := by simpa [lenOk] using hlen
    simp only [stpI] at hrun
    split at hrun
    · rename_i v q r'
      cases hf0 : lkp x M.2.1 with
      | none => rw [hf0] at hrun; cases hrun
      | some cj =>
      obtain ⟨ci, j⟩ := cj
      rw [hf0] at hrun
      simp only at hrun
      have hci := (hM.2.1 x ci j hf0).1
      have hpf := hM.2.2.1 pc x _ ci j hi hf0
      split at hrun
      · rename_i hg
        have key : ftyc (ftyT ci j) = 0 ∨ ftyc (ftyT ci j) = 1 → narrow (ftyT ci j) (.int v) = .int v → fits (ftyT ci j) (.int v) = true → runN M n (pc + 3, cl, sl, vs, r', hI h q j v) = some (r, hF) → W p l e R s m args below meth c H locs cl sl (MQ below (Qm D aC A ad0 N0 r hF) args s M.2.2.2.2.2.1.1 M.2.2.2.2.2.1.2 A) (F0 m pc ls (List.map (mv ad) (.int v :: .ref q :: r'))) := by
          intro hty hn hfit hrun
          refine snd_put (h' := hI h q j v) hx hb hown hC hK hP hD hS hci hg hpf hd hn hfit ?_ (fun H1 locs1 hP1 hD1 hS1 => ?_)
          · refine wof_set rfl ?_ (fun q' hq' => cel_hI hq')
            rw [cel_obj (h := hI h q j v) hg.1]
            congr 2
            refine (map_set_range ?_ (fun i hne => ?_)).symm
            · unfold fvv
              rcases hty with z | z <;> rw [z] <;> (show Value.int (up2 h.2.2.1 q j v q j) = _; rw [up2_eq, up1_eq]; rfl)
            · refine fvv_ne (j := j) ?_ rfl rfl
              show up2 h.2.2.1 q j v q i = _
              rw [up2_eq, up1_ne hne]
          · exact ih _ _ _ _ _ _ hrun ad H1 locs1 ls ⟨hP1, hD1, hS1, hmx, hN0, had, hok⟩ hcl hsl hL hokL hokS.tl.tl
        split at hrun
        · rename_i hty
          have hint : ftyT ci j = .int := by
            revert hty; unfold ftyc; split <;> first | (intro _; assumption) | (intro z; cases z)
          exact key (Or.inl hty) (by rw [hint]; rfl) (by rw [hint]; rfl) hrun
        · rename_i hty
          have hbo : ftyT ci j = .boolean := by
            revert hty; unfold ftyc; split <;> first | (intro _; assumption) | (intro z; cases z)
          cases hq : isB v with
          | false => rw [hq] at hrun; cases hrun
          | true =>
            rw [hq] at hrun
            exact key (Or.inr hty) (by rw [hbo]; exact (isB_nar hq).1) (by rw [hbo]; exact (isB_nar hq).2.1) hrun
        · cases hrun
      · cases hrun
    · rename_i v q r'
      cases hf0 : lkp x M.2.1 with
      | none => rw [hf0] at hrun; cases hrun
      | some cj =>
      obtain ⟨ci, j⟩ := cj
      rw [hf0] at hrun
      simp only at hrun
      have hci := (hM.2.1 x ci j hf0).1
      have hpf := hM.2.2.1 pc x _ ci j hi hf0
      split at hrun
      · rename_i hg
        split at hrun
        · rename_i hty
          have hlo : ftyT ci j = .long := by
            revert hty; unfold ftyc; split <;> first | (intro _; assumption) | (intro z; cases z)
          refine snd_put (h' := hJ h q j v) hx hb hown hC hK hP hD hS hci hg hpf hd (by rw [hlo]; rfl) (by rw [hlo]; rfl) ?_ (fun H1 locs1 hP1 hD1 hS1 => ?_)
          · refine wof_set rfl ?_ (fun q' hq' => cel_hJ hq')
            rw [cel_obj (h := hJ h q j v) hg.1]
            congr 2
            refine (map_set_range ?_ (fun i hne => ?_)).symm
            · unfold fvv
              rw [hty]
              show Value.long (up2 h.2.2.2.1 q j v q j) = _
              rw [up2_eq, up1_eq]
              rfl
            · refine fvv_ne (j := j) rfl ?_ rfl
              show up2 h.2.2.2.1 q j v q i = _
              rw [up2_eq, up1_ne hne]
          · exact ih _ _ _ _ _ _ hrun ad H1 locs1 ls ⟨hP1, hD1, hS1, hmx, hN0, had, hok⟩ hcl hsl hL hokL hokS.tl.tl
        · cases hrun
      · cases hrun
    · rename_i v q r'
      cases hf0 : lkp x M.2.1 with
      | none => rw [hf0] at hrun; cases hrun
      | some cj =>
      obtain ⟨ci, j⟩ := cj
      rw [hf0] at hrun
      simp only at hrun
      have hci := (hM.2.1 x ci j hf0).1
      have hpf := hM.2.2.1 pc x _ ci j hi hf0
      split at hrun
      · rename_i hg
        have hvm : v ≠ mNul := Nat.ne_of_lt (Nat.lt_of_lt_of_le hg.2.2.2 hmx)
        split at hrun
        · rename_i hty
          have hre : narrow (ftyT ci j) (.ref (ad v)) = .ref (ad v) ∧ fits (ftyT ci j) (.ref (ad v)) = true := by
            revert hty
            exact fty_ref hci hg.2.2.1
          refine snd_put (h' := hR h q j v) hx hb hown hC hK hP hD hS hci ⟨hg.1, hg.2.1, hg.2.2.1⟩ hpf hd hre.1 hre.2 ?_ (fun H1 locs1 hP1 hD1 hS1 => ?_)
          · refine wof_set rfl ?_ (fun q' hq' => cel_hR hq')
            rw [cel_obj (h := hR h q j v) hg.1]
            congr 2
            refine (map_set_range ?_ (fun i hne => ?_)).symm
            · unfold fvv
              rw [hty]
              show rvv ad (up2 h.2.2.2.2 q j v q j) = _
              rw [up2_eq, up1_eq]
              unfold rvv
              rw [if_neg hvm]
              rfl
            · refine fvv_ne (j := j) rfl rfl ?_
              show up2 h.2.2.2.2 q j v q i = _
              rw [up2_eq, up1_ne hne]
          · exact ih _ _ _ _ _ _ hrun ad H1 locs1 ls ⟨hP1, hD1, hS1, hmx, hN0, had, hok.hR hg.2.2.2⟩ hcl hsl hL hokL hokS.tl.tl
        · cases hrun
      · cases hrun
    · cases hrun
  | iaload =>
    obtain rfl : k = 1 := by simpa [lenOk] using hlen
    simp only [stpI] at hrun
    split at hrun
    · rename_i i q r'
      split at hrun
      · rename_i hg
        cases hq : inb i (h.2.1 q).2 with
        | false => rw [hq] at hrun; cases hrun
        | true =>
          rw [hq] at hrun
          refine va_iald hx hb hK.1 hP q 0 (by rw [wof_get hg.2, cel_0 hg.1]) rfl (inb_in hq) hd ?_
          exact ih _ _ _ _ _ _ hrun ad H locs ls hH hcl hsl hL hokL (hokS.tl.tl.cons trivial)
      · cases hrun
    · cases hrun
  | baload =>
    obtain rfl : k = 1 := by simpa [lenOk] using hlen
    simp only [stpI] at hrun
    split at hrun
    · rename_i i q r'
      split at hrun
      · rename_i hg
        cases hq : inb i (h.2.1 q).2 with
        | false => rw [hq] at hrun; cases hrun
        | true =>
          rw [hq] at hrun
          refine va_zald hx hb hK.1 hP q 1 (by rw [wof_get hg.2, cel_1 hg.1]) rfl (inb_in hq) hd ?_
          exact ih _ _ _ _ _ _ hrun ad H locs ls hH hcl hsl hL hokL (hokS.tl.tl.cons trivial)
      · cases hrun
    · cases hrun
  | laload =>
    obtain rfl : k = 1 := by simpa [lenOk] using hlen
    simp only [stpI] at hrun
    split at hrun
    · rename_i i q r'
      split at hrun
      · rename_i hg
        cases hq : inb i (h.2.1 q).2 with
        | false => rw [hq] at hrun; cases hrun
        | true =>
          rw [hq] at hrun
          refine va_lald hx hb hK.1 hP q 2 (by rw [wof_get hg.2, cel_2 hg.1]) rfl (inb_in hq) hd ?_
          exact ih _ _ _ _ _ _ hrun ad H locs ls hH hcl hsl hL hokL (hokS.tl.tl.cons trivial)
      · cases hrun
    · cases hrun
  | aaload =>
    obtain rfl : k = 1 := by simpa [lenOk] using hlen
    simp only [stpI] at hrun
    split at hrun
    · rename_i i q r'
      split at hrun
      · rename_i hg
        cases hq : inb i (h.2.1 q).2 with
        | false => rw [hq] at hrun; cases hrun
        | true =>
          rw [hq] at hrun
          simp only [cond_true] at hrun
          split at hrun
          · rename_i hlt
            have hne : h.2.2.2.2 q i.toNatClampNeg ≠ mNul := by omega
            have hv : va_rf (rvo ad (h.2.2.2.2 q i.toNatClampNeg)) = .ref (ad (h.2.2.2.2 q i.toNatClampNeg)) := by unfold rvo; rw [if_neg hne]; rfl
            rcases hg.1 with hk | hk
            · refine va_aldq (C := RX2) hx hb hK.1 hP q 3 (by rw [wof_get hg.2, cel_3 hk]) rfl (inb_in hq) hd ?_
              rw [hv]
              exact ih _ _ _ _ _ _ hrun ad H locs ls hH hcl hsl hL hokL (hokS.tl.tl.cons hlt)
            · refine va_aldq (C := RX9) hx hb hK.1 hP q 4 (by rw [wof_get hg.2, cel_4 hk]) rfl (inb_in hq) hd ?_
              rw [hv]
              exact ih _ _ _ _ _ _ hrun ad H locs ls hH hcl hsl hL hokL (hokS.tl.tl.cons hlt)
          · cases hrun
      · cases hrun
    · cases hrun
  | iastore =>
    obtain rfl : k = 1 := by simpa [lenOk] using hlen
    simp only [stpI] at hrun
    split at hrun
    · rename_i v i q r'
      split at hrun
      · rename_i hg
        cases hq : inb i (h.2.1 q).2 with
        | false => rw [hq] at hrun; cases hrun
        | true =>
          rw [hq] at hrun
          skip
          have hset : (wof aC ad h).set q (ad q, .inl (aC 0, (h.2.1 q).2, .inl (upd (h.2.2.1 q) i.toNatClampNeg v))) = wof aC ad (hI h q i.toNatClampNeg v) := by
            refine wof_set rfl ?_ (fun q' hq' => cel_hI hq')
            rw [cel_0 (h := hI h q i.toNatClampNeg v) hg.1]
            show Sum.inl (aC 0, (h.2.1 q).2, Sum.inl (up2 h.2.2.1 q i.toNatClampNeg v q)) = _; rw [up2_eq]; rfl
          refine va_iast hx hb hK.1 hP hD hS q 0 (by rw [wof_get hg.2, cel_0 hg.1]) rfl (inb_in hq) hd (fun H1 locs1 hP1 hD1 hS1 => ?_)
          skip
          rw [hset] at hP1 hD1
          exact ih _ _ _ _ _ _ hrun ad H1 locs1 ls ⟨hP1, hD1, hS1, hmx, hN0, had, hok⟩ hcl hsl hL hokL hokS.tl.tl.tl
      · cases hrun
    · cases hrun
  | bastore =>
    obtain rfl : k = 1 := by simpa [lenOk] using hlen
    simp only [stpI] at hrun
    split at hrun
    · rename_i v i q r'
      split at hrun
      · rename_i hg
        cases hq : (inb i (h.2.1 q).2 && isB v) with
        | false => rw [hq] at hrun; cases hrun
        | true =>
          rw [hq] at hrun
          simp only [Bool.and_eq_true] at hq
          have hset : (wof aC ad h).set q (ad q, .inl (aC 1, (h.2.1 q).2, .inl (upd (h.2.2.1 q) i.toNatClampNeg v))) = wof aC ad (hI h q i.toNatClampNeg v) := by
            refine wof_set rfl ?_ (fun q' hq' => cel_hI hq')
            rw [cel_1 (h := hI h q i.toNatClampNeg v) hg.1]
            show Sum.inl (aC 1, (h.2.1 q).2, Sum.inl (up2 h.2.2.1 q i.toNatClampNeg v q)) = _; rw [up2_eq]; rfl
          refine va_zast hx hb hK.1 hP hD hS q 1 (by rw [wof_get hg.2, cel_1 hg.1]) rfl (inb_in hq.1) hd (fun H1 locs1 hP1 hD1 hS1 => ?_)
          rw [(isB_nar hq.2).2.2] at hP1 hD1
          rw [hset] at hP1 hD1
          exact ih _ _ _ _ _ _ hrun ad H1 locs1 ls ⟨hP1, hD1, hS1, hmx, hN0, had, hok⟩ hcl hsl hL hokL hokS.tl.tl.tl
      · cases hrun
    · cases hrun
  | lastore =>
    obtain rfl : k = 1 := by simpa [lenOk] using hlen
    simp only [stpI] at hrun
    split at hrun
    · rename_i v i q r'
      split at hrun
      · rename_i hg
        cases hq : inb i (h.2.1 q).2 with
        | false => rw [hq] at hrun; cases hrun
        | true =>
          rw [hq] at hrun
          skip
          have hset : (wof aC ad h).set q (ad q, .inl (aC 2, (h.2.1 q).2, .inr (.inl (vp_updL (h.2.2.2.1 q) i.toNatClampNeg v)))) = wof aC ad (hJ h q i.toNatClampNeg v) := by
            refine wof_set rfl ?_ (fun q' hq' => cel_hJ hq')
            rw [cel_2 (h := hJ h q i.toNatClampNeg v) hg.1]
            show Sum.inl (aC 2, (h.2.1 q).2, Sum.inr (Sum.inl (up2 h.2.2.2.1 q i.toNatClampNeg v q))) = _; rw [up2_eq]; rfl
          refine va_last hx hb hK.1 hP hD hS q 2 (by rw [wof_get hg.2, cel_2 hg.1]) rfl (inb_in hq) hd (fun H1 locs1 hP1 hD1 hS1 => ?_)
          skip
          rw [hset] at hP1 hD1
          exact ih _ _ _ _ _ _ hrun ad H1 locs1 ls ⟨hP1, hD1, hS1, hmx, hN0, had, hok⟩ hcl hsl hL hokL hokS.tl.tl.tl
      · cases hrun
    · cases hrun
  | aastore =>
    obtain rfl : k = 1 := by simpa [lenOk] using hlen
    simp only [stpI] at hrun
    split at hrun
    · rename_i v i q r'
      split at hrun
      · rename_i hg
        have hvm : v ≠ mNul := Nat.ne_of_lt (Nat.lt_of_lt_of_le hg.2.2 hmx)
        cases hq : inb i (h.2.1 q).2 with
        | false => rw [hq] at hrun; cases hrun
        | true =>
        rw [hq] at hrun
        rcases hg.1 with ⟨hk, hk2⟩ | ⟨hk, hk2⟩
        ·
          have hset : (wof aC ad h).set q (ad q, .inl (aC 3, (h.2.1 q).2, .inr (.inr (.inr (.inr (va_up (fun i => rvo ad (h.2.2.2.2 q i)) i.toNatClampNeg (some (ad v)))))))) = wof aC ad (hR h q i.toNatClampNeg v) := by
            refine wof_set rfl ?_ (fun q' hq' => cel_hR hq')
            rw [cel_3 (h := hR h q i.toNatClampNeg v) hk]
            congr 7
            funext i'
            show rvo ad (up2 h.2.2.2.2 q i.toNatClampNeg v q i') = va_up _ _ _ _
            rw [up2_eq]
            unfold va_up
            by_cases hz : i' = i.toNatClampNeg
            · rw [if_pos hz, hz, up1_eq]; unfold rvo; rw [if_neg hvm]
            · rw [if_neg hz, up1_ne hz]
          refine va_astq (r := (clN 2, clT 2, nfd 2)) hx hb hK.1 hP hD hS q 3 v 2 (by rw [wof_get hg.2.1, cel_3 hk]) rfl (by rw [wof_get hg.2.2, cel_obj (ci := 2) hk2]) (clsL (by decide)) (inb_in hq) hd (fun H1 locs1 hP1 hD1 hS1 => ?_)
          rw [hset] at hP1 hD1
          exact ih _ _ _ _ _ _ hrun ad H1 locs1 ls ⟨hP1, hD1, hS1, hmx, hN0, had, hok.hR hg.2.2⟩ hcl hsl hL hokL hokS.tl.tl.tl
        ·
          have hset : (wof aC ad h).set q (ad q, .inl (aC 4, (h.2.1 q).2, .inr (.inr (.inr (.inr (va_up (fun i => rvo ad (h.2.2.2.2 q i)) i.toNatClampNeg (some (ad v)))))))) = wof aC ad (hR h q i.toNatClampNeg v) := by
            refine wof_set rfl ?_ (fun q' hq' => cel_hR hq')
            rw [cel_4 (h := hR h q i.toNatClampNeg v) hk]
            congr 7
            funext i'
            show rvo ad (up2 h.2.2.2.2 q i.toNatClampNeg v q i') = va_up _ _ _ _
            rw [up2_eq]
            unfold va_up
            by_cases hz : i' = i.toNatClampNeg
            · rw [if_pos hz, hz, up1_eq]; unfold rvo; rw [if_neg hvm]
            · rw [if_neg hz, up1_ne hz]
          refine va_astq (r := (clN 9, clT 9, nfd 9)) hx hb hK.1 hP hD hS q 4 v 9 (by rw [wof_get hg.2.1, cel_4 hk]) rfl (by rw [wof_get hg.2.2, cel_obj (ci := 9) hk2]) (clsL (by decide)) (inb_in hq) hd (fun H1 locs1 hP1 hD1 hS1 => ?_)
          rw [hset] at hP1 hD1
          exact ih _ _ _ _ _ _ hrun ad H1 locs1 ls ⟨hP1, hD1, hS1, hmx, hN0, had, hok.hR hg.2.2⟩ hcl hsl hL hokL hokS.tl.tl.tl
      · cases hrun
    · cases hrun
  | arraylength =>
    obtain rfl : k = 1 := by simpa [lenOk] using hlen
    simp only [stpI] at hrun
    split at hrun
    · rename_i q r'
      split at hrun
      · rename_i hg
        have hlt : ∀ (k : Nat) (E : vp_A) (ty : FieldType), (wof aC ad h)[q]? = some (ad q, .inl (aC k, E)) → E.1 = (h.2.1 q).2 → (tyL aC)[k]? = some (aC k, ty) → W p l e R s m args below meth c H locs cl sl (MQ below (Qm D aC A ad0 N0 r hF) args s M.2.2.2.2.2.1.1 M.2.2.2.2.2.1.2 A) (F0 m pc ls (List.map (mv ad) (.ref q :: r'))) := by
          intro k E ty h1 h2 h3
          refine va_alen hx hb hK.1 hP q k h1 h3 (by rw [h2]) hd ?_
          exact ih _ _ _ _ _ _ hrun ad H locs ls hH hcl hsl hL hokL (hokS.tl.cons trivial)
        obtain ⟨hg1, hg2⟩ := hg
        rcases (show (h.2.1 q).1 = 0 ∨ (h.2.1 q).1 = 1 ∨ (h.2.1 q).1 = 2 ∨ (h.2.1 q).1 = 3 ∨ (h.2.1 q).1 = 4 by omega) with z | z | z | z | z
        · exact hlt 0 _ .int (by rw [wof_get hg2, cel_0 z]) rfl rfl
        · exact hlt 1 _ .boolean (by rw [wof_get hg2, cel_1 z]) rfl rfl
        · exact hlt 2 _ .long (by rw [wof_get hg2, cel_2 z]) rfl rfl
        · exact hlt 3 _ (.object RX2) (by rw [wof_get hg2, cel_3 z]) rfl rfl
        · exact hlt 4 _ (.object RX9) (by rw [wof_get hg2, cel_4 z]) rfl rfl
      · cases hrun
    · cases hrun
  | new x =>
    obtain rfl : k = 3 := by simpa [lenOk] using hlen
    simp only [stpI] at hrun
    cases hf0 : lkp x M.2.2.2.2.1 with
    | none => rw [hf0] at hrun; cases hrun
    | some ci =>
    rw [hf0] at hrun
    simp only at hrun
    obtain ⟨hci, hcl0⟩ := hM.2.2.2.2.2 x ci hf0
    split at hrun
    · rename_i hg
      obtain ⟨hin, hinst, hini⟩ := hC.2.1 ci hci
      refine va_new (C := clN ci) (T := clT ci) (N := nfd ci) (ci := ci) (fs := (List.range (nfd ci)).map (fun j => defaultValue (ftyT ci j))) hx hb hC.1 hin (ftyT ci) (clsT hci) hown hcl0 hinst hini hK.1 hP hD hS hA (clsL hci) (fun j hj => by simp [vp_V, hj]) (by rw [hRc]; exact hg.1) (by rw [hRs]; exact hg.2.1) hd (fun q H1 hP1 hD1 hS1 => ?_)
      have hset := wof_alc (aC := aC) (ad := ad) (kd := 10 + ci) (n := 0) (q := q) (E := .inr (ci, (List.range (nfd ci)).map (fun j => defaultValue (ftyT ci j)))) hok (by
        rw [cel_obj (ci := ci) (show ((alc h (10 + ci) 0).2.1 h.1).1 = 10 + ci from by show (up1 h.2.1 h.1 (10 + ci, 0) h.1).1 = _; rw [up1_eq])]
        congr 2
        apply List.map_congr_left
        intro j hj
        unfold fvv
        have e1 : (alc h (10 + ci) 0).2.2.1 h.1 j = 0 := by show up1 h.2.2.1 h.1 (fun _ => 0) h.1 j = 0; rw [up1_eq]
        have e2 : (alc h (10 + ci) 0).2.2.2.1 h.1 j = 0 := by show up1 h.2.2.2.1 h.1 (fun _ => 0) h.1 j = 0; rw [up1_eq]
        have e3 : (alc h (10 + ci) 0).2.2.2.2 h.1 j = mNul := by show up1 h.2.2.2.2 h.1 (fun _ => mNul) h.1 j = mNul; rw [up1_eq]
        rw [e1, e2, e3]
        exact fty_dflt hci (List.mem_range.mp hj))
      rw [hset] at hP1 hD1
      have hfr := ih _ _ _ _ _ _ hrun (up1 ad h.1 q) H1 locs ls ⟨hP1, hD1, hS1, hg.2.2, Nat.le_succ_of_le hN0, (fun p0 hp0 => by rw [up1_ne (by omega)]; exact had p0 hp0), hok.alc⟩ hg.1 hg.2.1 (hL.congr (fun p0 hp0 => up1_ne (by omega)) hokL) (hokL.up (Nat.le_succ _)) ((hokS.up (Nat.le_succ _)).cons (Nat.lt_succ_self _))
      rw [List.map_cons, mvs_congr (fun p0 (hp0 : p0 < h.1) => up1_ne (by omega)) hokS] at hfr
      have e9 : mv (up1 ad h.1 q) (.ref h.1) = .ref q := by show Value.ref (up1 ad h.1 q h.1) = _; rw [up1_eq]
      rw [e9] at hfr
      exact hfr
    · cases hrun
  | newarray ty =>
    obtain rfl : k = 2 := by simpa [lenOk] using hlen
    simp only [stpI] at hrun
    split at hrun
    · rename_i n0 r'
      split at hrun
      · rename_i hg
        split at hrun
        · refine va_newa (atype := .int) (ty := .int) (a0 := (n0.toNatClampNeg, .inl (fun _ => 0))) hx hb hC.2.2.1 rfl hK.1 hP hD hS hA (fun cA => rfl) hg.1 rfl ?_ (by rw [hRc]; exact hg.2.2.1) (by rw [hRs]; exact hg.2.2.2.1) hd (fun q cA H1 hK1 hP1 hD1 hS1 => ?_)
          · have := hg.2.1
            show n0.toNatClampNeg * 4 ≤ 536870912
            omega
          have hcA : cA = aC 0 := arr_uniq (i := 5) (j := 0) hK1 hK.1 rfl rfl
          subst hcA
          have hset := wof_alc (aC := aC) (ad := ad) (kd := 0) (n := n0.toNatClampNeg) (q := q) (E := .inl (aC 0, n0.toNatClampNeg, .inl (fun _ => 0))) hok (by
            rw [cel_0 (show ((alc h 0 n0.toNatClampNeg).2.1 h.1).1 = 0 from by show (up1 h.2.1 h.1 (0, n0.toNatClampNeg) h.1).1 = _; rw [up1_eq])]
            have e0 : (alc h 0 n0.toNatClampNeg).2.1 h.1 = (0, n0.toNatClampNeg) := by show up1 h.2.1 h.1 (0, n0.toNatClampNeg) h.1 = _; rw [up1_eq]
            have e1 : (alc h 0 n0.toNatClampNeg).2.2.1 h.1 = (fun _ => 0) := by show up1 h.2.2.1 h.1 (fun _ => 0) h.1 = _; rw [up1_eq]
            have e2 : (alc h 0 n0.toNatClampNeg).2.2.2.1 h.1 = (fun _ => 0) := by show up1 h.2.2.2.1 h.1 (fun _ => 0) h.1 = _; rw [up1_eq]
            simp only [e0, e1, e2])
          rw [hset] at hP1 hD1
          have hfr := ih _ _ _ _ _ _ hrun (up1 ad h.1 q) H1 locs ls ⟨hP1, hD1, hS1, hg.2.2.2.2, Nat.le_succ_of_le hN0, (fun p0 hp0 => by rw [up1_ne (by omega)]; exact had p0 hp0), hok.alc⟩ hg.2.2.1 hg.2.2.2.1 (hL.congr (fun p0 hp0 => up1_ne (by omega)) hokL) (hokL.up (Nat.le_succ _)) ((hokS.tl.up (Nat.le_succ _)).cons (Nat.lt_succ_self _))
          rw [List.map_cons, mvs_congr (fun p0 (hp0 : p0 < h.1) => up1_ne (by omega)) hokS.tl] at hfr
          have e9 : mv (up1 ad h.1 q) (.ref h.1) = .ref q := by show Value.ref (up1 ad h.1 q h.1) = _; rw [up1_eq]
          rw [e9] at hfr
          exact hfr
        · refine va_newa (atype := .boolean) (ty := .boolean) (a0 := (n0.toNatClampNeg, .inl (fun _ => 0))) hx hb hC.2.2.2.1 rfl hK.1 hP hD hS hA (fun cA => rfl) hg.1 rfl ?_ (by rw [hRc]; exact hg.2.2.1) (by rw [hRs]; exact hg.2.2.2.1) hd (fun q cA H1 hK1 hP1 hD1 hS1 => ?_)
          · have := hg.2.1
            show n0.toNatClampNeg * 1 ≤ 536870912
            omega
          have hcA : cA = aC 1 := arr_uniq (i := 5) (j := 1) hK1 hK.1 rfl rfl
          subst hcA
          have hset := wof_alc (aC := aC) (ad := ad) (kd := 1) (n := n0.toNatClampNeg) (q := q) (E := .inl (aC 1, n0.toNatClampNeg, .inl (fun _ => 0))) hok (by
            rw [cel_1 (show ((alc h 1 n0.toNatClampNeg).2.1 h.1).1 = 1 from by show (up1 h.2.1 h.1 (1, n0.toNatClampNeg) h.1).1 = _; rw [up1_eq])]
            have e0 : (alc h 1 n0.toNatClampNeg).2.1 h.1 = (1, n0.toNatClampNeg) := by show up1 h.2.1 h.1 (1, n0.toNatClampNeg) h.1 = _; rw [up1_eq]
            have e1 : (alc h 1 n0.toNatClampNeg).2.2.1 h.1 = (fun _ => 0) := by show up1 h.2.2.1 h.1 (fun _ => 0) h.1 = _; rw [up1_eq]
            have e2 : (alc h 1 n0.toNatClampNeg).2.2.2.1 h.1 = (fun _ => 0) := by show up1 h.2.2.2.1 h.1 (fun _ => 0) h.1 = _; rw [up1_eq]
            simp only [e0, e1, e2])
          rw [hset] at hP1 hD1
          have hfr := ih _ _ _ _ _ _ hrun (up1 ad h.1 q) H1 locs ls ⟨hP1, hD1, hS1, hg.2.2.2.2, Nat.le_succ_of_le hN0, (fun p0 hp0 => by rw [up1_ne (by omega)]; exact had p0 hp0), hok.alc⟩ hg.2.2.1 hg.2.2.2.1 (hL.congr (fun p0 hp0 => up1_ne (by omega)) hokL) (hokL.up (Nat.le_succ _)) ((hokS.tl.up (Nat.le_succ _)).cons (Nat.lt_succ_self _))
          rw [List.map_cons, mvs_congr (fun p0 (hp0 : p0 < h.1) => up1_ne (by omega)) hokS.tl] at hfr
          have e9 : mv (up1 ad h.1 q) (.ref h.1) = .ref q := by show Value.ref (up1 ad h.1 q h.1) = _; rw [up1_eq]
          rw [e9] at hfr
          exact hfr
        · refine va_newa (atype := .long) (ty := .long) (a0 := (n0.toNatClampNeg, .inr (.inl (fun _ => 0)))) hx hb hC.2.2.2.2 rfl hK.1 hP hD hS hA (fun cA => rfl) hg.1 rfl ?_ (by rw [hRc]; exact hg.2.2.1) (by rw [hRs]; exact hg.2.2.2.1) hd (fun q cA H1 hK1 hP1 hD1 hS1 => ?_)
          · have := hg.2.1
            show n0.toNatClampNeg * 8 ≤ 536870912
            omega
          have hcA : cA = aC 2 := arr_uniq (i := 5) (j := 2) hK1 hK.1 rfl rfl
          subst hcA
          have hset := wof_alc (aC := aC) (ad := ad) (kd := 2) (n := n0.toNatClampNeg) (q := q) (E := .inl (aC 2, n0.toNatClampNeg, .inr (.inl (fun _ => 0)))) hok (by
            rw [cel_2 (show ((alc h 2 n0.toNatClampNeg).2.1 h.1).1 = 2 from by show (up1 h.2.1 h.1 (2, n0.toNatClampNeg) h.1).1 = _; rw [up1_eq])]
            have e0 : (alc h 2 n0.toNatClampNeg).2.1 h.1 = (2, n0.toNatClampNeg) := by show up1 h.2.1 h.1 (2, n0.toNatClampNeg) h.1 = _; rw [up1_eq]
            have e1 : (alc h 2 n0.toNatClampNeg).2.2.1 h.1 = (fun _ => 0) := by show up1 h.2.2.1 h.1 (fun _ => 0) h.1 = _; rw [up1_eq]
            have e2 : (alc h 2 n0.toNatClampNeg).2.2.2.1 h.1 = (fun _ => 0) := by show up1 h.2.2.2.1 h.1 (fun _ => 0) h.1 = _; rw [up1_eq]
            simp only [e0, e1, e2])
          rw [hset] at hP1 hD1
          have hfr := ih _ _ _ _ _ _ hrun (up1 ad h.1 q) H1 locs ls ⟨hP1, hD1, hS1, hg.2.2.2.2, Nat.le_succ_of_le hN0, (fun p0 hp0 => by rw [up1_ne (by omega)]; exact had p0 hp0), hok.alc⟩ hg.2.2.1 hg.2.2.2.1 (hL.congr (fun p0 hp0 => up1_ne (by omega)) hokL) (hokL.up (Nat.le_succ _)) ((hokS.tl.up (Nat.le_succ _)).cons (Nat.lt_succ_self _))
          rw [List.map_cons, mvs_congr (fun p0 (hp0 : p0 < h.1) => up1_ne (by omega)) hokS.tl] at hfr
          have e9 : mv (up1 ad h.1 q) (.ref h.1) = .ref q := by show Value.ref (up1 ad h.1 q h.1) = _; rw [up1_eq]
          rw [e9] at hfr
          exact hfr
        · cases hrun
      · cases hrun
    · cases hrun
  | anewarray x =>
    obtain rfl : k = 3 := by simpa [lenOk] using hlen
    simp only [stpI] at hrun
    split at hrun
    · rename_i n0 r'
      cases hf0 : lkp x M.2.2.2.2.1 with
      | none => rw [hf0] at hrun; cases hrun
      | some ci =>
      rw [hf0] at hrun
      simp only at hrun
      obtain ⟨hci, hcl0⟩ := hM.2.2.2.2.2 x ci hf0
      split at hrun
      · rename_i hg
        rcases hg.2.2.2.2.2 with rfl | rfl
        ·
          refine va_newq (C := clN 2) hx hb hown hcl0 hK.2.2.1 hK.1 hP hD hS hA hg.1 rfl (by have := hg.2.1; omega) (by rw [hRc]; exact hg.2.2.1) (by rw [hRs]; exact hg.2.2.2.1) hd (fun q cA H1 hK1 hP1 hD1 hS1 => ?_)
          have hcA : cA = aC 3 := arr_uniq (i := 5) (j := 3) hK1 hK.1 rfl rfl
          subst hcA
          have hset := wof_alc (aC := aC) (ad := ad) (kd := 3) (n := n0.toNatClampNeg) (q := q) (E := .inl (aC 3, n0.toNatClampNeg, .inr (.inr (.inr (.inr (fun _ => none)))))) hok (by
            rw [cel_3 (show ((alc h 3 n0.toNatClampNeg).2.1 h.1).1 = 3 from by show (up1 h.2.1 h.1 (3, n0.toNatClampNeg) h.1).1 = _; rw [up1_eq])]
            have e0 : (alc h 3 n0.toNatClampNeg).2.1 h.1 = (3, n0.toNatClampNeg) := by show up1 h.2.1 h.1 (3, n0.toNatClampNeg) h.1 = _; rw [up1_eq]
            have e3 : (alc h 3 n0.toNatClampNeg).2.2.2.2 h.1 = (fun _ => mNul) := by show up1 h.2.2.2.2 h.1 (fun _ => mNul) h.1 = _; rw [up1_eq]
            simp only [e0, e3]
            congr 7)
          rw [hset] at hP1 hD1
          have hfr := ih _ _ _ _ _ _ hrun (up1 ad h.1 q) H1 locs ls ⟨hP1, hD1, hS1, hg.2.2.2.2.1, Nat.le_succ_of_le hN0, (fun p0 hp0 => by rw [up1_ne (by omega)]; exact had p0 hp0), hok.alc⟩ hg.2.2.1 hg.2.2.2.1 (hL.congr (fun p0 hp0 => up1_ne (by omega)) hokL) (hokL.up (Nat.le_succ _)) ((hokS.tl.up (Nat.le_succ _)).cons (Nat.lt_succ_self _))
          rw [List.map_cons, mvs_congr (fun p0 (hp0 : p0 < h.1) => up1_ne (by omega)) hokS.tl] at hfr
          have e9 : mv (up1 ad h.1 q) (.ref h.1) = .ref q := by show Value.ref (up1 ad h.1 q h.1) = _; rw [up1_eq]
          rw [e9] at hfr
          exact hfr
        ·
          refine va_newq (C := clN 9) hx hb hown hcl0 hK.2.2.2 hK.1 hP hD hS hA hg.1 rfl (by have := hg.2.1; omega) (by rw [hRc]; exact hg.2.2.1) (by rw [hRs]; exact hg.2.2.2.1) hd (fun q cA H1 hK1 hP1 hD1 hS1 => ?_)
          have hcA : cA = aC 4 := arr_uniq (i := 5) (j := 4) hK1 hK.1 rfl rfl
          subst hcA
          have hset := wof_alc (aC := aC) (ad := ad) (kd := 4) (n := n0.toNatClampNeg) (q := q) (E := .inl (aC 4, n0.toNatClampNeg, .inr (.inr (.inr (.inr (fun _ => none)))))) hok (by
            rw [cel_4 (show ((alc h 4 n0.toNatClampNeg).2.1 h.1).1 = 4 from by show (up1 h.2.1 h.1 (4, n0.toNatClampNeg) h.1).1 = _; rw [up1_eq])]
            have e0 : (alc h 4 n0.toNatClampNeg).2.1 h.1 = (4, n0.toNatClampNeg) := by show up1 h.2.1 h.1 (4, n0.toNatClampNeg) h.1 = _; rw [up1_eq]
            have e3 : (alc h 4 n0.toNatClampNeg).2.2.2.2 h.1 = (fun _ => mNul) := by show up1 h.2.2.2.2 h.1 (fun _ => mNul) h.1 = _; rw [up1_eq]
            simp only [e0, e3]
            congr 7)
          rw [hset] at hP1 hD1
          have hfr := ih _ _ _ _ _ _ hrun (up1 ad h.1 q) H1 locs ls ⟨hP1, hD1, hS1, hg.2.2.2.2.1, Nat.le_succ_of_le hN0, (fun p0 hp0 => by rw [up1_ne (by omega)]; exact had p0 hp0), hok.alc⟩ hg.2.2.1 hg.2.2.2.1 (hL.congr (fun p0 hp0 => up1_ne (by omega)) hokL) (hokL.up (Nat.le_succ _)) ((hokS.tl.up (Nat.le_succ _)).cons (Nat.lt_succ_self _))
          rw [List.map_cons, mvs_congr (fun p0 (hp0 : p0 < h.1) => up1_ne (by omega)) hokS.tl] at hfr
          have e9 : mv (up1 ad h.1 q) (.ref h.1) = .ref q := by show Value.ref (up1 ad h.1 q h.1) = _; rw [up1_eq]
          rw [e9] at hfr
          exact hfr
      · cases hrun
    · cases hrun
  | invokevirtual x =>
    obtain rfl : k = 3 := by simpa [lenOk] using hlen
    simp only [stpI] at hrun
    cases hf0 : lkp (4 * x) M.2.2.2.1 with
    | none => rw [hf0] at hrun; cases hrun
    | some w =>
    obtain ⟨na, rc, mc, ms, f⟩ := w
    rw [hf0] at hrun
    simp only at hrun
    have hclk := hcal.1 pc x _ na rc mc ms f hi hf0
    split at hrun
    · rename_i q as hta
      split at hrun
      · rename_i hg
        split at hrun
        · rename_i r1 h1 hfr
          have hlen2 : ((st.take na).reverse).length = na := by simp; omega
          have hst : st.map (mv ad) = ((Value.ref q :: as).map (mv ad)).reverse ++ (st.drop na).map (mv ad) := by
            rw [← hta]; rw [← List.map_reverse, List.reverse_reverse, ← List.map_append, List.take_append_drop]
          rw [hst]
          refine hclk _ pc ls _ (Value.ref q :: as) h h1 r1 ad H locs cl sl (by rw [← hta]; exact hlen2) hfr hd (hL.1.1) ?_ ?_ ?_ hH ?_ ?_ ?_
          · rw [List.map_map, show ((fun v : Value => v.category) ∘ mv ad) = (fun v => v.category) from funext fun v => mv_cat]; exact hg.2.1
          · rw [hRc]; exact hg.2.2.1
          · rw [hRs]; exact hg.2.2.2.1
          · intro v hv
            rw [← hta] at hv
            exact hokS v (List.mem_of_mem_take (List.mem_reverse.mp hv))
          · intro ci hci; cases hci; exact ⟨q, as, rfl, fun _ => ⟨hg.2.2.2.2.1, hg.2.2.2.2.2⟩⟩
          · intro ad' H' locs' hH' had' hle hr1
            have hfin := ih _ _ _ _ _ _ hrun ad' H' locs' ls hH' hg.2.2.1 hg.2.2.2.1 (hL.congr had' hokL) (hokL.up hle) (fun v hv => by
              rcases List.mem_append.mp hv with z | z
              · cases r1 with
                | none => cases z
                | some v1 => rw [List.mem_singleton.mp z]; exact hr1 v1 rfl
              · exact okv.up hle (hokS v (List.mem_of_mem_drop z)))
            rw [List.map_append, mvs_congr had' (fun v hv => hokS v (List.mem_of_mem_drop hv))] at hfin
            exact hfin
        · cases hrun
      · cases hrun
    · cases hrun
  | invokespecial x =>
    obtain rfl : k = 3 := by simpa [lenOk] using hlen
    simp only [stpI] at hrun
    cases hf0 : lkp (4 * x + 1) M.2.2.2.1 with
    | none => rw [hf0] at hrun; cases hrun
    | some w =>
    obtain ⟨na, rc, mc, ms, f⟩ := w
    rw [hf0] at hrun
    simp only at hrun
    have hclk := hcal.2.1 pc x _ na rc mc ms f hi hf0
    split at hrun
    · rename_i q as hta
      split at hrun
      · rename_i hg
        split at hrun
        · rename_i r1 h1 hfr
          have hlen2 : ((st.take na).reverse).length = na := by simp; omega
          have hst : st.map (mv ad) = ((Value.ref q :: as).map (mv ad)).reverse ++ (st.drop na).map (mv ad) := by
            rw [← hta]; rw [← List.map_reverse, List.reverse_reverse, ← List.map_append, List.take_append_drop]
          rw [hst]
          refine hclk _ pc ls _ (Value.ref q :: as) h h1 r1 ad H locs cl sl (by rw [← hta]; exact hlen2) hfr hd (hL.1.1) ?_ ?_ ?_ hH ?_ ?_ ?_
          · rw [List.map_map, show ((fun v : Value => v.category) ∘ mv ad) = (fun v => v.category) from funext fun v => mv_cat]; exact hg.2.1
          · rw [hRc]; exact hg.2.2.1
          · rw [hRs]; exact hg.2.2.2
          · intro v hv
            rw [← hta] at hv
            exact hokS v (List.mem_of_mem_take (List.mem_reverse.mp hv))
          · intro ci hci; cases hci; exact ⟨q, as, rfl, fun z => absurd z (by decide)⟩
          · intro ad' H' locs' hH' had' hle hr1
            have hfin := ih _ _ _ _ _ _ hrun ad' H' locs' ls hH' hg.2.2.1 hg.2.2.2 (hL.congr had' hokL) (hokL.up hle) (fun v hv => by
              rcases List.mem_append.mp hv with z | z
              · cases r1 with
                | none => cases z
                | some v1 => rw [List.mem_singleton.mp z]; exact hr1 v1 rfl
              · exact okv.up hle (hokS v (List.mem_of_mem_drop z)))
            rw [List.map_append, mvs_congr had' (fun v hv => hokS v (List.mem_of_mem_drop hv))] at hfin
            exact hfin
        · cases hrun
      · cases hrun
    · cases hrun
  | invokestatic x =>
    obtain rfl : k = 3 := by simpa [lenOk] using hlen
    simp only [stpI] at hrun
    cases hf0 : lkp (4 * x + 2) M.2.2.2.1 with
    | none => rw [hf0] at hrun; cases hrun
    | some w =>
    obtain ⟨na, rc, mc, ms, f⟩ := w
    rw [hf0] at hrun
    simp only at hrun
    have hclk := hcal.2.2 pc x _ na rc mc ms f hi hf0
    split at hrun
    · rename_i hg
      split at hrun
      · rename_i r1 h1 hfr
        have hlen2 : ((st.take na).reverse).length = na := by simp; omega
        have hst : st.map (mv ad) = (((st.take na).reverse).map (mv ad)).reverse ++ (st.drop na).map (mv ad) := by
          rw [← List.map_reverse, List.reverse_reverse, ← List.map_append, List.take_append_drop]
        rw [hst]
        refine hclk _ pc ls _ ((st.take na).reverse) h h1 r1 ad H locs cl sl (by exact hlen2) hfr hd (hL.1.1) ?_ ?_ ?_ hH ?_ ?_ ?_
        · rw [List.map_map, show ((fun v : Value => v.category) ∘ mv ad) = (fun v => v.category) from funext fun v => mv_cat]; exact hg.2.1
        · rw [hRc]; exact hg.2.2.1
        · rw [hRs]; exact hg.2.2.2
        · intro v hv
          skip
          exact hokS v (List.mem_of_mem_take (List.mem_reverse.mp hv))
        · intro ci hci; cases hci
        · intro ad' H' locs' hH' had' hle hr1
          have hfin := ih _ _ _ _ _ _ hrun ad' H' locs' ls hH' hg.2.2.1 hg.2.2.2 (hL.congr had' hokL) (hokL.up hle) (fun v hv => by
            rcases List.mem_append.mp hv with z | z
            · cases r1 with
              | none => cases z
              | some v1 => rw [List.mem_singleton.mp z]; exact hr1 v1 rfl
            · exact okv.up hle (hokS v (List.mem_of_mem_drop z)))
          rw [List.map_append, mvs_congr had' (fun v hv => hokS v (List.mem_of_mem_drop hv))] at hfin
          exact hfin
      · cases hrun
    · cases hrun
  | ireturn =>
    obtain rfl : k = 1 := by simpa [lenOk] using hlen
    simp only [stpI] at hrun
    split at hrun
    · rename_i v
      split at hrun
      · rename_i hrk
        cases hrun
        have hr' : meth.sig.returnType = some .int := by rw [hrk] at hret; exact hret
        refine W.widen hcl hsl ?_
        exact W.iret hx hb hr' (fun t ht hW => ⟨⟨ad, rfl, by rw [ht]; exact hP, hD, hmx, hN0, had, hok, (fun w hw => by cases hw; trivial)⟩, hS.F ht⟩) hS.2.2 hd hlocks
      · rename_i hrk
        have hr' : meth.sig.returnType = some .boolean := by rw [hrk] at hret; exact hret
        cases hq : isB v with
        | false => rw [hq] at hrun; cases hrun
        | true =>
          rw [hq] at hrun
          cases hrun
          refine W.widen hcl hsl ?_
          exact W.zret hx hb hr' (isB_nar hq).1 (fun t ht hW => ⟨⟨ad, rfl, by rw [ht]; exact hP, hD, hmx, hN0, had, hok, (fun w hw => by cases hw; trivial)⟩, hS.F ht⟩) hS.2.2 hd hlocks
      · cases hrun
    · cases hrun
  | lreturn =>
    obtain rfl : k = 1 := by simpa [lenOk] using hlen
    simp only [stpI] at hrun
    split at hrun
    · rename_i v
      split at hrun
      · rename_i hrk
        cases hrun
        have hr' : meth.sig.returnType = some .long := by rw [hrk] at hret; exact hret
        refine W.widen hcl hsl ?_
        exact W.lret hx hb hr' (fun t ht hW => ⟨⟨ad, rfl, by rw [ht]; exact hP, hD, hmx, hN0, had, hok, (fun w hw => by cases hw; trivial)⟩, hS.F ht⟩) hS.2.2 hd hlocks
      · cases hrun
    · cases hrun
  | areturn =>
    obtain rfl : k = 1 := by simpa [lenOk] using hlen
    simp only [stpI] at hrun
    split at hrun
    · rename_i v
      split at hrun
      · rename_i hrk
        cases hrun
        obtain ⟨nm, hr'⟩ : ∃ nm, meth.sig.returnType = some (.object nm) := by rw [hrk] at hret; exact hret
        refine W.widen hcl hsl ?_
        exact W.aret hx hb hr' (Or.inl ⟨nm, rfl⟩) (Or.inr ⟨ad v, rfl⟩) (fun t ht hW => ⟨⟨ad, rfl, by rw [ht]; exact hP, hD, hmx, hN0, had, hok, (fun w hw => by cases hw; exact hokS.hd)⟩, hS.F ht⟩) hS.2.2 hd hlocks
      · cases hrun
    · cases hrun
  | return_ =>
    obtain rfl : k = 1 := by simpa [lenOk] using hlen
    simp only [stpI] at hrun
    split at hrun
    · split at hrun
      · rename_i hrk
        cases hrun
        have hr' : meth.sig.returnType = none := by rw [hrk] at hret; exact hret
        refine W.widen hcl hsl ?_
        exact W.vret hx hb hr' (fun t ht hW => ⟨⟨ad, rfl, by rw [ht]; exact hP, hD, hmx, hN0, had, hok, (fun w hw => by cases hw)⟩, hS.F ht⟩) hS.2.2 hd hlocks
      · cases hrun
    · cases hrun
  | _ => simp only [stpI] at hrun; cases hrun
end SND
end
section
/-! contracts out of meanings -/
theorem lkp_mem {α : Type} {k : Nat} {a : α} : ∀ {l : List (Nat × α)}, lkp k l = some a → (k, a) ∈ l := by
  intro l
  induction l with
  | nil => intro h; cases h
  | cons q r ih =>
    obtain ⟨q, b⟩ := q
    intro h
    unfold lkp at h
    cases hq : Nat.beq k q with
    | true =>
      rw [hq] at h
      have e : k = q := Nat.eq_of_beq_eq_true hq
      cases h
      rw [e]
      exact List.mem_cons_self
    | false => rw [hq] at h; exact List.mem_cons_of_mem _ (ih h)
theorem gd_of {i : Nat} {w : Cond} (h : lw_tbl[i]? = some w) (hg : goodWord w = true) : w ∈ gdW := List.mem_filter.mpr ⟨List.mem_of_getElem? h, hg⟩
theorem ns_of {i : Nat} {w : Cond} (h : lw_tbl[i]? = some w) (hg : nst w = true) : w ∈ nsW := List.mem_filter.mpr ⟨List.mem_of_getElem? h, hg⟩
def fchk (own : String) : List (Nat × Nat × Nat) → List Nat → Bool
  | [], _ => true
  | (x, ci, j) :: r, i :: is => decide (ci < 13) && (decide (lw_tbl[i]? = some (.fieldLink own x (clT ci j).1 (clT ci j).2.1 (clT ci j).2.2.1)) || decide (lw_tbl[i]? = some (.fieldLinkNest own x (clT ci j).1 (clT ci j).2.1 (clT ci j).2.2.1 RX11))) && fchk own r is
  | _ :: _, [] => false
def pchk (own : String) (ini : Bool) (fl : List (Nat × Nat × Nat)) (pf : List (Nat × Nat)) : List (Nat × Instr × Nat) → Bool
  | [] => true
  | (_, .putfield x, _) :: r => (match lkp x fl with
      | some (ci, j) => (!(clT ci j).2.2.2) || (ini && decide ((clT ci j).1 = own) && (match lkp x pf with
        | some i => decide (lw_tbl[i]? = some (.fieldLink own x (clT ci j).1 (clT ci j).2.1 (clT ci j).2.2.1))
        | none => false))
      | none => true) && pchk own ini fl pf r
  | _ :: r => pchk own ini fl pf r
def kchk (own : String) : List (Nat × Value) → List Nat → Bool
  | [], _ => true
  | (x, .int v) :: r, i :: is => decide (lw_tbl[i]? = some (.constant own x v)) && kchk own r is
  | (x, .long v) :: r, i :: is => decide (lw_tbl[i]? = some (.constantLong own x v)) && kchk own r is
  | _ :: _, _ => false
def nchk (own : String) : List (Nat × Nat) → List Nat → Bool
  | [], _ => true
  | (x, ci) :: r, i :: is => decide (ci < 13) && decide (lw_tbl[i]? = some (.classLink own x (clN ci))) && nchk own r is
  | _ :: _, [] => false
def dchk (cc : ByteArray) (l : List (Nat × Instr × Nat)) : Prop := ∀ q ∈ l, decode cc q.1 = .ok q.2 ∧ lenOk q.2.1 q.2.2 = true
theorem fchk_ok {own : String} {args : Array Value} {s : State} (hg : ∀ w ∈ gdW, w.before args s = true) (hn : ∀ w ∈ nsW, va_Nw w s) : ∀ {l : List (Nat × Nat × Nat)} {is : List Nat}, fchk own l is = true → ∀ x ci j, (x, ci, j) ∈ l → ci < 13 ∧ FOK own args s x ci j := by
  intro l
  induction l with
  | nil => intro is _ x ci j h; cases h
  | cons q r ih =>
    obtain ⟨x0, ci0, j0⟩ := q
    intro is h x ci j hm
    cases is with
    | nil => cases h
    | cons i is =>
      unfold fchk at h
      simp only [Bool.and_eq_true, Bool.or_eq_true, decide_eq_true_eq] at h
      rcases List.mem_cons.mp hm with z | z
      · cases z
        refine ⟨h.1.1, ?_⟩
        rcases h.1.2 with w | w
        · exact Or.inl (hg _ (gd_of w rfl))
        · exact Or.inr ⟨_, va_Nw.use rfl (hn _ (ns_of w rfl))⟩
      · exact ih h.2 x ci j z
theorem pchk_ok {own : String} {ini : Bool} {meth : Method} {args : Array Value} {s : State} {fl : List (Nat × Nat × Nat)} {pf : List (Nat × Nat)} (hg : ∀ w ∈ gdW, w.before args s = true) (hin : ini = true → meth.name = "<init>") (hfo : ∀ x ci j, (x, ci, j) ∈ fl → ci < 13 ∧ FOK own args s x ci j) : ∀ {l : List (Nat × Instr × Nat)}, pchk own ini fl pf l = true → ∀ pc x n ci j, (pc, Instr.putfield x, n) ∈ l → lkp x fl = some (ci, j) → PFK own meth args s x ci j := by
  intro l
  induction l with
  | nil => intro _ pc x n ci j h; cases h
  | cons q r ih =>
    intro h pc x n ci j hm hl
    rcases List.mem_cons.mp hm with z | z
    · subst z
      unfold pchk at h
      rw [hl] at h
      simp only [Bool.and_eq_true, Bool.or_eq_true, Bool.not_eq_true', decide_eq_true_eq] at h
      rcases h.1 with w | w
      · exact Or.inl ⟨w, (hfo x ci j (lkp_mem hl)).2⟩
      · cases hp : lkp x pf with
        | none => rw [hp] at w; cases w.2
        | some i =>
          rw [hp] at w
          simp only [decide_eq_true_eq] at w
          cases hf : (clT ci j).2.2.2 with
          | false => exact Or.inl ⟨hf, (hfo x ci j (lkp_mem hl)).2⟩
          | true => exact Or.inr ⟨hf, hin w.1.1, w.1.2, hg _ (gd_of w.2 rfl)⟩
    · refine ih ?_ pc x n ci j z hl
      obtain ⟨q1, q2, q3⟩ := q
      cases q2 <;> first | exact h | (unfold pchk at h; simp only [Bool.and_eq_true] at h; exact h.2)
theorem kchk_ok {own : String} {args : Array Value} {s : State} (hg : ∀ w ∈ gdW, w.before args s = true) : ∀ {l : List (Nat × Value)} {is : List Nat}, kchk own l is = true → (∀ x v, (x, Value.int v) ∈ l → (Cond.constant own x v).before args s = true) ∧ (∀ x v, (x, Value.long v) ∈ l → (Cond.constantLong own x v).before args s = true) := by
  intro l
  induction l with
  | nil => intro is _; exact ⟨fun x v h => absurd h List.not_mem_nil, fun x v h => absurd h List.not_mem_nil⟩
  | cons q r ih =>
    obtain ⟨x0, v0⟩ := q
    intro is h
    cases is with
    | nil => cases v0 <;> cases h
    | cons i is =>
      cases v0 with
      | int v0 =>
        unfold kchk at h
        simp only [Bool.and_eq_true, decide_eq_true_eq] at h
        obtain ⟨h1, h2⟩ := ih h.2
        refine ⟨fun x v hm => ?_, fun x v hm => ?_⟩
        · rcases List.mem_cons.mp hm with z | z
          · cases z; exact hg _ (gd_of h.1 rfl)
          · exact h1 x v z
        · rcases List.mem_cons.mp hm with z | z
          · cases z
          · exact h2 x v z
      | long v0 =>
        unfold kchk at h
        simp only [Bool.and_eq_true, decide_eq_true_eq] at h
        obtain ⟨h1, h2⟩ := ih h.2
        refine ⟨fun x v hm => ?_, fun x v hm => ?_⟩
        · rcases List.mem_cons.mp hm with z | z
          · cases z
          · exact h1 x v z
        · rcases List.mem_cons.mp hm with z | z
          · cases z; exact hg _ (gd_of h.1 rfl)
          · exact h2 x v z
      | _ => cases h
theorem nchk_ok {own : String} {args : Array Value} {s : State} (hg : ∀ w ∈ gdW, w.before args s = true) : ∀ {l : List (Nat × Nat)} {is : List Nat}, nchk own l is = true → ∀ x ci, (x, ci) ∈ l → ci < 13 ∧ (Cond.classLink own x (clN ci)).before args s = true := by
  intro l
  induction l with
  | nil => intro is _ x ci h; cases h
  | cons q r ih =>
    obtain ⟨x0, ci0⟩ := q
    intro is h x ci hm
    cases is with
    | nil => cases h
    | cons i is =>
      unfold nchk at h
      simp only [Bool.and_eq_true, decide_eq_true_eq] at h
      rcases List.mem_cons.mp hm with z | z
      · cases z
        exact ⟨h.1.1, hg _ (gd_of h.1.2 rfl)⟩
      · exact ih h.2 x ci z
/-- all that a method's data must show -/
def MCK (own : String) (cc : ByteArray) (M : MI) (ini : Bool) : Prop := dchk cc M.1 ∧ ∃ ps pf pk pn, fchk own M.2.1 ps = true ∧ pchk own ini M.2.1 pf M.1 = true ∧ kchk own M.2.2.1 pk = true ∧ nchk own M.2.2.2.2.1 pn = true
theorem mok_of {own : String} {cc : ByteArray} {M : MI} {ini : Bool} (h : MCK own cc M ini) {meth : Method} {args : Array Value} {s : State} (hg : ∀ w ∈ gdW, w.before args s = true) (hn : ∀ w ∈ nsW, va_Nw w s) (hin : ini = true → meth.name = "<init>") : MOK own cc M meth args s := by
  obtain ⟨h1, ps, pf, pk, pn, h2, h3, h4, h5⟩ := h
  refine ⟨fun pc i n hl => h1 (pc, i, n) (lkp_mem hl), fun x ci j hl => fchk_ok hg hn h2 x ci j (lkp_mem hl), fun pc x n ci j hl hl2 => pchk_ok hg hin (fchk_ok hg hn h2) h3 pc x n ci j (lkp_mem hl) hl2, fun x v hl => (kchk_ok hg h4).1 x v (lkp_mem hl), fun x v hl => (kchk_ok hg h4).2 x v (lkp_mem hl), fun x ci hl => nchk_ok hg h5 x ci (lkp_mem hl)⟩
/-- a method's contract: whatever its meaning answers -/
def Pm (D : va_G) (aC : Nat → ClassId) (ad : Nat → Nat) (h : HP) (As : List Value) (sz : Nat) : Array Value → State → Prop := va_Pc (As.map (mv ad)) (fun U => U.heap.size = sz ∧ va_P D vwCl (wof aC ad h) U.heap ∧ KS D aC U ∧ va_D (fun _ => True) (wof aC ad h))
theorem Pm.blind {D : va_G} {aC : Nat → ClassId} {ad : Nat → Nat} {h : HP} {As : List Value} {sz : Nat} : FrameBlind (Pm D aC ad h As sz) := by
  intro a U g mk q
  obtain ⟨q0, q1, qP, qK, qD⟩ := q
  exact ⟨q0, q1, qP, KS.same (u := U) (U := U.calling g mk a) rfl qK, qD⟩
def MetM (l : Launch) (y : MethodName) (cc : ByteArray) (maxL : Nat) (ret : Option FieldType) (fr lo mc ms : Nat) (f : CF) : Prop :=
  ∀ (D : va_G) (aC : Nat → ClassId) (ad : Nat → Nat) (h h' : HP) (As : List Value) (r : Option Value) (sz : Nat), f As h = some (r, h') → okH h → h.1 ≤ mNul → okS h.1 As →
    Met l y (.code y cc maxL ret :: gdW) ({ frames := fr, cells := mc, slots := ms, locals := lo }) (Pm D aC ad h As sz) (Qm D aC (va_A (wof aC ad h) sz) ad h.1 r h') mc ms (va_A (wof aC ad h) sz)
def CTX (p : Program) (s : State) (m : MethodId) (args : Array Value) (c : Code) (cc : ByteArray) (nL : Nat) (own : String) (D : va_G) (aC : Nat → ClassId) (A : Nat → Prop) : Prop := p.tables.exec = Jvm.exec ∧ c.code = cc ∧ c.maxLocals = nL ∧ s.vm.findClass own = some m.cls ∧ COK args s ∧ KS D aC s ∧ (∀ q, s.heap.size ≤ q → A q)
def CLKk (p : Program) (l : Launch) (e : Env) (R : Room) (s : State) (m : MethodId) (args : Array Value) (below : List Frame) (meth : Method) (c : Code) (cc : ByteArray) (nL : Nat) (D : va_G) (aC : Nat → ClassId) (A : Nat → Prop) (ad0 : Nat → Nat) (N0 : Nat) (q : Nat × Nat × Nat × Nat × Nat × CF) : Prop := match q.1 % 4 with
  | 0 => CLK p l e R s m args below meth c cc nL D aC A ad0 N0 (.invokevirtual (q.1 / 4)) q.2.1 (some q.2.2.1) q.2.2.2.1 q.2.2.2.2.1 q.2.2.2.2.2
  | 1 => CLK p l e R s m args below meth c cc nL D aC A ad0 N0 (.invokespecial (q.1 / 4)) q.2.1 (some 99) q.2.2.2.1 q.2.2.2.2.1 q.2.2.2.2.2
  | _ => CLK p l e R s m args below meth c cc nL D aC A ad0 N0 (.invokestatic (q.1 / 4)) q.2.1 none q.2.2.2.1 q.2.2.2.2.1 q.2.2.2.2.2
theorem cls_of {p : Program} {l : Launch} {e : Env} {R : Room} {s : State} {m : MethodId} {args : Array Value} {below : List Frame} {meth : Method} {c : Code} {cc : ByteArray} {nL : Nat} {D : va_G} {aC : Nat → ClassId} {A : Nat → Prop} {ad0 : Nat → Nat} {N0 : Nat} {M : MI} (h : ∀ q ∈ M.2.2.2.1, CLKk p l e R s m args below meth c cc nL D aC A ad0 N0 q) : CLS p l e R s m args below meth c cc nL D aC A ad0 N0 M := by
  refine ⟨fun pc x k n rc mc ms f h1 h2 => ?_, fun pc x k n rc mc ms f h1 h2 => ?_, fun pc x k n rc mc ms f h1 h2 => ?_⟩
  · have := h _ (lkp_mem h2)
    unfold CLKk at this
    simp only [show 4 * x % 4 = 0 by omega, show 4 * x / 4 = x by omega] at this
    exact this
  · have := h _ (lkp_mem h2)
    unfold CLKk at this
    simp only [show (4 * x + 1) % 4 = 1 by omega, show (4 * x + 1) / 4 = x by omega] at this
    exact this
  · have := h _ (lkp_mem h2)
    unfold CLKk at this
    simp only [show (4 * x + 2) % 4 = 2 by omega, show (4 * x + 2) / 4 = x by omega] at this
    exact this
/-! a call out of the callee's contract -/
theorem run_done {p : Program} {l : Launch} {e : Env} {R : Room} {s : State} {m : MethodId} {args : Array Value} {below : List Frame} {meth : Method} {c : Code} {H : Heap} {locs : List Loc} {cells slots : Nat} {Q : State → Prop} {pc : Nat} {ls : Array Slot} {rest st0 : List Value} {a : Array Value} {D : va_G} {aC : Nat → ClassId} {A : Nat → Prop} {ad0 ad : Nat → Nat} {N0 : Nat} {h h' : HP} {r : Option Value} {mc ms : Nat} {As : List Value}
    (hr : va_Run p l e R s m args below meth c H locs cells slots mc ms (F0 m pc ls st0) rest (Qm D aC (va_A (wof aC ad h) H.size) ad h.1 r h' a) (va_A (wof aC ad h) H.size)) (hA : ∀ q, s.heap.size ≤ q → A q) (hH : Hp D aC A s ad0 N0 ad h H locs)
    (kk : ∀ (ad' : Nat → Nat) (H' : Heap) (locs' : List Loc), Hp D aC A s ad0 N0 ad' h' H' locs' → (∀ q, q < h.1 → ad' q = ad q) → h.1 ≤ h'.1 → (∀ v, r = some v → okv h'.1 v) → W p l e R s m args below meth c H' locs' (cells + mc) (slots + ms) Q (F0 m (pc + 3) ls (r.toList.map (mv ad') ++ rest))) :
    W p l e R s m args below meth c H locs cells slots Q (F0 m pc ls st0) := by
  intro T hT X
  obtain ⟨hP, hD, hS, hmx, hN0, had, hok⟩ := hH
  obtain ⟨v, st₀, t, T', L, h0, X', hL, e1, e2, ⟨⟨ad', hv, hP1, hD1, hmx1, hN1, had1, hok1, hr1⟩, hz, hk⟩, st⟩ := hr T hT X
  rw [h0] at hz hk
  have hF : ∀ q, va_A (wof aC ad h) H.size q → A q := va_free hD hS hA (List.range h.1) (by
    apply List.ext_getElem?
    intro k
    rw [List.getElem?_map, List.getElem?_map]
    by_cases hk : k < h.1
    · rw [List.getElem?_range hk, wof_get hk]; simp [wof_get hk]
    · rw [List.getElem?_eq_none (by simp; omega), List.getElem?_eq_none (by rw [wof_len]; omega)]; rfl)
  have hv' : v = r.map (mv ad') := by cases hv; rfl
  obtain ⟨t2, a1, b1⟩ := kk ad' T'.heap (locs ++ L) ⟨by rw [e1]; exact hP1, hD1.weaken (fun k q _ z => hF _ z), ⟨Nat.le_trans hS.1 (by rw [e1]; exact hz), fun q h1 h2 => by rw [e1, hk q (Nat.lt_of_lt_of_le h1 hS.1) (fun z => h2 (hF q z))]; exact hS.2.1 q h1 h2, fun q hq => by
      rcases List.mem_append.mp hq with z | z
      · exact hS.2.2 q z
      · exact hF _ (hL q z)⟩, hmx1, Nat.le_trans hN0 hN1, fun p0 hp0 => by rw [had1 p0 (Nat.lt_of_lt_of_le hp0 hN0)]; exact had p0 hp0, hok1⟩ had1 hN1 hr1 T' rfl X'
  refine ⟨t2, st t2 ?_, b1⟩
  subst hv'
  have e9 : (r.map (mv ad')).toList = r.toList.map (mv ad') := by cases r <;> rfl
  rw [e9]
  exact a1
def MNO (y : MethodName) (cc : ByteArray) (maxL : Nat) (ret : Option FieldType) (np : Nat) : Prop := Cond.code y cc maxL ret ∈ gdW ∧ Cond.initialized y.cls ∈ gdW ∧ (y.cls ≠ "java/lang/invoke/MethodHandle" ∧ y.cls ≠ "java/lang/invoke/VarHandle" ∧ (parseMethodDescriptor y.desc).map (fun d => d.parameters.length) = some np) ∧ plainName y.cls = true
theorem gdGood {ws : List Cond} {y : MethodName} {cc : ByteArray} {maxL : Nat} {ret : Option FieldType} (h : Cond.code y cc maxL ret ∈ gdW) (hw : ∀ w ∈ gdW, w ∈ ws) : GoodIn ws (.code y cc maxL ret :: gdW) := by
  intro w hm
  have h1 : w ∈ gdW := (List.mem_cons.mp hm).elim (fun z => z ▸ h) id
  exact ⟨hw w h1, good_of_word (List.mem_filter.mp h1).2⟩
theorem pm_pre {D : va_G} {aC : Nat → ClassId} {ad : Nat → Nat} {h : HP} {As : List Value} {H : Heap} {s : State} {A : Nat → Prop} (hP : va_P D vwCl (wof aC ad h) H) (hD : va_D A (wof aC ad h)) (hK : KS D aC s) : ∀ U : State, U.heap = H → s.WarmedH U.vm → Pm D aC ad h As H.size ((As.map (mv ad)).toArray) U :=
  fun U hU hW => ⟨rfl, by rw [hU], by rw [hU]; exact hP, hK.warm hW, hD.weaken (fun _ _ _ _ => trivial)⟩
section CLKS
variable {p : Program} {l : Launch} {e : Env} {R : Room} {s : State} {m : MethodId} {args : Array Value} {below : List Frame} {meth : Method} {c : Code} {cc : ByteArray} {nL : Nat} {own : String} {D : va_G} {aC : Nat → ClassId} {A : Nat → Prop} {ad0 : Nat → Nat} {N0 : Nat} {y : MethodName} {bytes : ByteArray} {maxL : Nat} {ret : Option FieldType} {np fr lo mc ms x rc : Nat} {f : CF}
theorem room_rest {rest : List Value} {pc : Nat} {ls : Array Slot} {st : List Value} (h : (rest.map fun v => v.category).sum ≤ 8) : 2 * (F0 m pc ls st).monitorRoom + (rest.map fun v => v.category).sum ≤ 8 := lv_room h
theorem clk_V (X : CTX p s m args c cc nL own D aC A) (hM : MetM l y bytes maxL ret fr lo mc ms f) (hy : MNO y bytes maxL ret np) (hin : Cond.instanceMethod y ∈ gdW ∧ Cond.selects y.cls y y ∈ gdW) (hrc : rc < 13 ∧ y.cls = clN rc) (hl : Cond.methodLink own x y ∈ gdW) (hR : fr + 1 ≤ R.frames ∧ 8 + (maxL + 11) + lo ≤ R.locals) : CLK p l e R s m args below meth c cc nL D aC A ad0 N0 (.invokevirtual x) (np + 1) (some rc) mc ms f := by
  obtain ⟨hx, hb, hml, hown, hC, hK, hA⟩ := X
  intro Q pc ls rest As h h' r ad H locs cells slots hlen hf hd hsz hrest hc1 hs1 hH hokA hrcv kk
  obtain ⟨hP, hD, hS, hmx, hN0, had, hok⟩ := id hH
  obtain ⟨q, as, rfl, hkq⟩ := hrcv rc rfl
  obtain ⟨hk, hq⟩ := hkq hrc.1
  have hcw : CallW R s args own y.cls x y bytes maxL ret (.code y bytes maxL ret :: gdW) ({ frames := fr, cells := mc, slots := ms, locals := lo }) mc ms np :=
    ⟨callB_of np hC.1 (gdGood hy.1 (fun w z => z)) rfl rfl rfl (hC.1 _ hy.2.1) (hC.1 _ hl) hy.2.2.1 hR, hC.1 _ hin.1, hC.1 _ hin.2⟩
  have hrun := va_runV (S := ⟨hx, hb, hml, hown, hC.1⟩) (As := as.map (mv ad)) (rest := rest) (b := ad q) (g := F0 m pc ls (((Value.ref q :: as).map (mv ad)).reverse ++ rest)) (H := H) (locs := locs) (cells := cells) (slots := slots) (l := l) (e := e) (below := below) (meth := meth) (hM D aC ad h h' (.ref q :: as) r H.size hf hok hmx hokA) hcw
    ⟨Pm.blind, by
      have hz := va_recv hK.1 hP (clsL hrc.1) (q0 := q) (a := ad q) (fs := (List.range (nfd rc)).map (fvv ad h q rc)) (by rw [wof_get hq, cel_obj hk])
      rw [← hrc.2] at hz
      exact hz, pm_pre hP hD hK⟩ rfl (by simpa using hlen) hsz (by simp [mv]) (room_rest hrest) hd ⟨hc1, hs1⟩
  exact run_done (As := .ref q :: as) hrun hA hH kk
theorem clk_VN (X : CTX p s m args c cc nL own D aC A) (hM : MetM l y bytes maxL ret fr lo mc ms f) (hy : MNO y bytes maxL ret np) (hin : Cond.instanceMethod y ∈ gdW ∧ Cond.selects y.cls y y ∈ gdW) (hrc : rc < 13 ∧ y.cls = clN rc) (hl : Cond.methodLinkNest own x y RX11 ∈ nsW) (hR : fr + 1 ≤ R.frames ∧ 8 + (maxL + 11) + lo ≤ R.locals) : CLK p l e R s m args below meth c cc nL D aC A ad0 N0 (.invokevirtual x) (np + 1) (some rc) mc ms f := by
  obtain ⟨hx, hb, hml, hown, hC, hK, hA⟩ := X
  intro Q pc ls rest As h h' r ad H locs cells slots hlen hf hd hsz hrest hc1 hs1 hH hokA hrcv kk
  obtain ⟨hP, hD, hS, hmx, hN0, had, hok⟩ := id hH
  obtain ⟨q, as, rfl, hkq⟩ := hrcv rc rfl
  obtain ⟨hk, hq⟩ := hkq hrc.1
  have hrun := va_runVN (S := ⟨hx, hb, hml, hown, hC.1⟩) (As := as.map (mv ad)) (rest := rest) (b := ad q) (g := F0 m pc ls (((Value.ref q :: as).map (mv ad)).reverse ++ rest)) (H := H) (locs := locs) (cells := cells) (slots := slots) (l := l) (e := e) (below := below) (meth := meth) (hM D aC ad h h' (.ref q :: as) r H.size hf hok hmx hokA)
    ⟨va_cnB np hC.1 (gdGood hy.1 (fun w z => z)) rfl rfl rfl (hK.2.1 _ hl) (hC.1 _ hy.2.1) hy.2.2.1 hR, hC.1 _ hin.1, hC.1 _ hin.2⟩
    ⟨Pm.blind, by
      have hz := va_recv hK.1 hP (clsL hrc.1) (q0 := q) (a := ad q) (fs := (List.range (nfd rc)).map (fvv ad h q rc)) (by rw [wof_get hq, cel_obj hk])
      rw [← hrc.2] at hz
      exact hz, pm_pre hP hD hK⟩ rfl (by simpa using hlen) hsz (by simp [mv]) (room_rest hrest) hd ⟨hc1, hs1⟩
  exact run_done (As := .ref q :: as) hrun hA hH kk
theorem clk_S (X : CTX p s m args c cc nL own D aC A) (hM : MetM l y bytes maxL ret fr lo mc ms f) (hy : MNO y bytes maxL ret np) (hst : Cond.static y ∈ gdW) (hl : Cond.methodLink own x y ∈ gdW) (hR : fr + 1 ≤ R.frames ∧ 8 + (maxL + 11) + lo ≤ R.locals) : CLK p l e R s m args below meth c cc nL D aC A ad0 N0 (.invokestatic x) np none mc ms f := by
  obtain ⟨hx, hb, hml, hown, hC, hK, hA⟩ := X
  intro Q pc ls rest As h h' r ad H locs cells slots hlen hf hd hsz hrest hc1 hs1 hH hokA hrcv kk
  obtain ⟨hP, hD, hS, hmx, hN0, had, hok⟩ := id hH
  have hrun := va_runS (S := ⟨hx, hb, hml, hown, hC.1⟩) (As := As.map (mv ad)) (rest := rest) (g := F0 m pc ls ((As.map (mv ad)).reverse ++ rest)) (H := H) (locs := locs) (cells := cells) (slots := slots) (l := l) (e := e) (below := below) (meth := meth) (hM D aC ad h h' As r H.size hf hok hmx hokA)
    ⟨callB_of np hC.1 (gdGood hy.1 (fun w z => z)) rfl rfl rfl (hC.1 _ hy.2.1) (hC.1 _ hl) hy.2.2.1 hR, hC.1 _ hst⟩
    ⟨Pm.blind, pm_pre hP hD hK⟩ rfl (by simpa using hlen) hsz rfl (room_rest hrest) hd ⟨hc1, hs1⟩
  exact run_done (As := As) hrun hA hH kk
theorem clk_SN (X : CTX p s m args c cc nL own D aC A) (hM : MetM l y bytes maxL ret fr lo mc ms f) (hy : MNO y bytes maxL ret np) (hst : Cond.static y ∈ gdW) (hl : Cond.methodLinkNest own x y RX11 ∈ nsW) (hR : fr + 1 ≤ R.frames ∧ 8 + (maxL + 11) + lo ≤ R.locals) : CLK p l e R s m args below meth c cc nL D aC A ad0 N0 (.invokestatic x) np none mc ms f := by
  obtain ⟨hx, hb, hml, hown, hC, hK, hA⟩ := X
  intro Q pc ls rest As h h' r ad H locs cells slots hlen hf hd hsz hrest hc1 hs1 hH hokA hrcv kk
  obtain ⟨hP, hD, hS, hmx, hN0, had, hok⟩ := id hH
  have hrun := va_runSN (S := ⟨hx, hb, hml, hown, hC.1⟩) (As := As.map (mv ad)) (rest := rest) (g := F0 m pc ls ((As.map (mv ad)).reverse ++ rest)) (H := H) (locs := locs) (cells := cells) (slots := slots) (l := l) (e := e) (below := below) (meth := meth) (hM D aC ad h h' As r H.size hf hok hmx hokA)
    ⟨va_cnB np hC.1 (gdGood hy.1 (fun w z => z)) rfl rfl rfl (hK.2.1 _ hl) (hC.1 _ hy.2.1) hy.2.2.1 hR, hC.1 _ hst, trivial⟩
    ⟨Pm.blind, pm_pre hP hD hK⟩ rfl (by simpa using hlen) hsz rfl (room_rest hrest) hd ⟨hc1, hs1⟩
  exact run_done (As := As) hrun hA hH kk
theorem clk_I (X : CTX p s m args c cc nL own D aC A) (hM : MetM l y bytes maxL none fr lo mc ms f) (hy : MNO y bytes maxL none np) (hin : Cond.instanceMethod y ∈ gdW ∧ y.name = "<init>") (hl : Cond.methodLink own x y ∈ gdW) (hR : fr + 1 ≤ R.frames ∧ 8 + (maxL + 11) + lo ≤ R.locals) : CLK p l e R s m args below meth c cc nL D aC A ad0 N0 (.invokespecial x) (np + 1) (some 99) mc ms f := by
  obtain ⟨hx, hb, hml, hown, hC, hK, hA⟩ := X
  intro Q pc ls rest As h h' r ad H locs cells slots hlen hf hd hsz hrest hc1 hs1 hH hokA hrcv kk
  obtain ⟨hP, hD, hS, hmx, hN0, had, hok⟩ := id hH
  obtain ⟨q, as, rfl, -⟩ := hrcv 99 rfl
  have hrun := va_runI (S := ⟨hx, hb, hml, hown, hC.1⟩) (As := as.map (mv ad)) (rest := rest) (b := ad q) (g := F0 m pc ls (((Value.ref q :: as).map (mv ad)).reverse ++ rest)) (H := H) (locs := locs) (cells := cells) (slots := slots) (l := l) (e := e) (below := below) (meth := meth) (hM D aC ad h h' (.ref q :: as) r H.size hf hok hmx hokA)
    ⟨callB_of np hC.1 (gdGood hy.1 (fun w z => z)) rfl rfl rfl (hC.1 _ hy.2.1) (hC.1 _ hl) hy.2.2.1 hR, hin.2, hC.1 _ hin.1⟩
    ⟨Pm.blind, pm_pre hP hD hK⟩ rfl (by simpa using hlen) hsz (by simp [mv]) (room_rest hrest) hd ⟨hc1, hs1⟩
  exact run_done (As := .ref q :: as) hrun hA hH kk
theorem clk_IN (X : CTX p s m args c cc nL own D aC A) (hM : MetM l y bytes maxL none fr lo mc ms f) (hy : MNO y bytes maxL none np) (hin : Cond.instanceMethod y ∈ gdW ∧ y.name = "<init>") (hl : Cond.methodLinkNest own x y RX11 ∈ nsW) (hR : fr + 1 ≤ R.frames ∧ 8 + (maxL + 11) + lo ≤ R.locals) : CLK p l e R s m args below meth c cc nL D aC A ad0 N0 (.invokespecial x) (np + 1) (some 99) mc ms f := by
  obtain ⟨hx, hb, hml, hown, hC, hK, hA⟩ := X
  intro Q pc ls rest As h h' r ad H locs cells slots hlen hf hd hsz hrest hc1 hs1 hH hokA hrcv kk
  obtain ⟨hP, hD, hS, hmx, hN0, had, hok⟩ := id hH
  obtain ⟨q, as, rfl, -⟩ := hrcv 99 rfl
  have hrun := va_runIN (S := ⟨hx, hb, hml, hown, hC.1⟩) (As := as.map (mv ad)) (rest := rest) (b := ad q) (g := F0 m pc ls (((Value.ref q :: as).map (mv ad)).reverse ++ rest)) (H := H) (locs := locs) (cells := cells) (slots := slots) (l := l) (e := e) (below := below) (meth := meth) (hM D aC ad h h' (.ref q :: as) r H.size hf hok hmx hokA)
    ⟨va_cnB np hC.1 (gdGood hy.1 (fun w z => z)) rfl rfl rfl (hK.2.1 _ hl) (hC.1 _ hy.2.1) hy.2.2.1 hR, hin.2, hC.1 _ hin.1⟩
    ⟨Pm.blind, pm_pre hP hD hK⟩ rfl (by simpa using hlen) hsz (by simp [mv]) (room_rest hrest) hd ⟨hc1, hs1⟩
  exact run_done (As := .ref q :: as) hrun hA hH kk
theorem clk_O (X : CTX p s m args c cc nL own D aC A) (hin : Cond.instanceMethod Lib.objectInit ∈ gdW ∧ Cond.code Lib.objectInit ⟨#[0xb1]⟩ 1 none ∈ gdW) (hl : Cond.methodLink own x Lib.objectInit ∈ gdW) (hR : 1 ≤ R.frames ∧ 20 ≤ R.locals) : CLK p l e R s m args below meth c cc nL D aC A ad0 N0 (.invokespecial x) 1 (some 99) 0 0 (fun _ h => some (none, h)) := by
  obtain ⟨hx, hb, hml, hown, hC, hK, hA⟩ := X
  intro Q pc ls rest As h h' r ad H locs cells slots hlen hf hd hsz hrest hc1 hs1 hH hokA hrcv kk
  obtain ⟨q, as, rfl, -⟩ := hrcv 99 rfl
  have has : as = [] := by
    cases as with
    | nil => rfl
    | cons v as => simp at hlen
  subst has
  cases hf
  refine W.objInit (rest := rest) hx hb hown (hC.1 _ hl) (hC.1 _ hin.1) (hC.1 _ hin.2) rfl (by rw [hml]; exact hsz) rfl hd hR.1 ?_ ?_
  · have := room_rest (m := m) (pc := pc) (ls := ls) (st := ((Value.ref q :: []).map (mv ad)).reverse ++ rest) hrest
    omega
  · exact kk ad H locs hH (fun _ _ => rfl) (Nat.le_refl _) (fun v z => by cases z)
theorem as_cons {n : Nat} {As : List Value} (h : As.length = n + 1) : ∃ v as, As = v :: as ∧ as.length = n := by
  cases As with
  | nil => cases h
  | cons v as => exact ⟨v, as, rfl, by simpa using h⟩
end CLKS
theorem mLoc_len : ∀ {as : List Value} {n : Nat}, catS as ≤ n → (mLoc n as).length = n := by
  intro as
  induction as with
  | nil => intro n _; exact List.length_replicate
  | cons v as ih =>
    intro n h
    have hc : catS (v :: as) = v.category + catS as := by simp [catS]
    rw [hc] at h
    unfold mLoc
    rcases lv_cat v with z | z
    · rw [z]
      show (v :: mLoc (n - 1) as).length = n
      rw [List.length_cons, ih (by omega)]
      omega
    · rw [z]
      show (v :: Value.null :: mLoc (n - 2) as).length = n
      rw [List.length_cons, List.length_cons, ih (by omega)]
      omega
theorem mLoc_get {ad : Nat → Nat} : ∀ {as : List Value} {n i k : Nat} {v : Value}, (mLoc n as)[k]? = some v → v ≠ .null → (i + k, mv ad v) ∈ lv_args i (as.map (mv ad)) := by
  intro as
  induction as with
  | nil =>
    intro n i k v h hn
    have := List.eq_of_mem_replicate (List.mem_of_getElem? (show (List.replicate n Value.null)[k]? = some v from h))
    exact absurd this hn
  | cons w as ih =>
    intro n i k v h hn
    unfold mLoc at h
    rw [List.map_cons]
    unfold lv_args
    rw [mv_cat]
    rcases lv_cat w with z | z
    · rw [z] at h ⊢
      replace h : (w :: mLoc (n - 1) as)[k]? = some v := h
      cases k with
      | zero => cases h; exact List.mem_cons_self
      | succ k =>
        have h2 : (mLoc (n - 1) as)[k]? = some v := h
        have := ih (i := i + 1) h2 hn
        rw [show i + (k + 1) = i + 1 + k by omega]
        exact List.mem_cons_of_mem _ this
    · rw [z] at h ⊢
      replace h : (w :: Value.null :: mLoc (n - 2) as)[k]? = some v := h
      cases k with
      | zero => cases h; exact List.mem_cons_self
      | succ k =>
        cases k with
        | zero => cases h; exact absurd rfl hn
        | succ k =>
          have h2 : (mLoc (n - 2) as)[k]? = some v := h
          have := ih (i := i + 2) h2 hn
          rw [show i + (k + 1 + 1) = i + 2 + k by omega]
          exact List.mem_cons_of_mem _ this
theorem mLoc_ok {N : Nat} : ∀ {as : List Value} {n : Nat}, okS N as → okS N (mLoc n as) := by
  intro as
  induction as with
  | nil => intro n _ v hv; rw [List.eq_of_mem_replicate (show v ∈ List.replicate n Value.null from hv)]; trivial
  | cons w as ih =>
    intro n h
    unfold mLoc
    cases Nat.beq w.category 2
    · exact (ih h.tl).cons h.hd
    · exact okS.cons h.hd (okS.cons (v := .null) trivial (ih h.tl))
theorem sl_len : ∀ {vs : List Value}, (lg_sl vs).length = catS vs := by
  intro vs
  induction vs with
  | nil => rfl
  | cons v vs ih =>
    have hc : catS (v :: vs) = v.category + catS vs := by simp [catS]
    have e : lg_sl (v :: vs) = (if v.category = 2 then [Slot.val v, Slot.second] else [Slot.val v]) ++ lg_sl vs := by simp [lg_sl]
    rw [hc, e, List.length_append, ih]
    rcases lv_cat v with z | z <;> simp [z]
theorem catS_map {ad : Nat → Nat} {as : List Value} : catS (as.map (mv ad)) = catS as := by
  unfold catS
  rw [List.map_map, show ((fun v : Value => v.category) ∘ mv ad) = (fun v => v.category) from funext fun v => mv_cat]
set_option maxHeartbeats 4000000 in
/-- a method's contract out of its data and its callees' -/
theorem metM_of {l : Launch} {y : MethodName} {cc : ByteArray} {maxL np : Nat} {ret : Option FieldType} {fr lo : Nat} {M : MI} (ini : Bool) (hy : MNO y cc maxL ret np) (hret : RTY M.2.2.2.2.2.2 ret) (hK : MCK y.cls cc M ini) (hini : ini = true → y.name = "<init>") (hCg : ∀ (args : Array Value) (s : State), (∀ w ∈ gdW, w.before args s = true) → COK args s)
    (hcal : ∀ (p : Program) (e : Env) (s : State) (m : MethodId) (args : Array Value) (below : List Frame) (meth : Method) (c : Code) (D : va_G) (aC : Nat → ClassId) (A : Nat → Prop) (ad0 : Nat → Nat) (N0 : Nat), CTX p s m args c cc maxL y.cls D aC A → ∀ q ∈ M.2.2.2.1, CLKk p l e ({ frames := fr, cells := M.2.2.2.2.2.1.1, slots := M.2.2.2.2.2.1.2, locals := lo }) s m args below meth c cc maxL D aC A ad0 N0 q) :
    MetM l y cc maxL ret fr lo M.2.2.2.2.2.1.1 M.2.2.2.2.2.1.2 (mth M maxL) := by
  intro D aC ad h h' As r sz hf hok hmx hokA
  unfold mth at hf
  cases hcat : Nat.ble (catS As) maxL with
  | false => rw [hcat] at hf; cases hf
  | true =>
  rw [hcat] at hf
  replace hf : run M (0, 0, 0, mLoc maxL As, [], h) = some (r, h') := hf
  have hcat' : catS As ≤ maxL := Nat.le_of_ble_eq_true hcat
  obtain ⟨n, hn⟩ := run_ex hf
  refine Met.ofW (cc := cc) (maxL := maxL) (ret := ret) hy.2.2.2 rfl ?_
  intro p e s m args below meth c s₁ B hml hv
  obtain ⟨rfl, hsz, hP, hKS, hD0⟩ := hv
  have hts := atoms_spec (ws := Cond.code y cc maxL ret :: gdW) B.pre
  have hg : ∀ w ∈ gdW, w.before (As.map (mv ad)).toArray s = true := fun w z => hts w (List.mem_cons_of_mem _ z)
  have hown : s.vm.findClass y.cls = some m.cls := findClass_of_methodNamed B.named
  have hnm : meth.name = y.name := (name_of_methodNamed B.named B.method).1
  subst hsz
  have hCO := hCg _ s hg
  have hA : ∀ q, s.heap.size ≤ q → va_A (wof aC ad h) s.heap.size q := fun q z => Or.inr z
  rw [lg_entry_eq]
  have hls := lv_entry (As.map (mv ad)) (n := maxL) (by rw [sl_len, catS_map]; exact hcat')
  have hLV : LV ad ((lg_sl (As.map (mv ad)) ++ List.replicate (maxL - (lg_sl (As.map (mv ad))).length) Slot.unset).toArray) maxL (mLoc maxL As) := by
    refine ⟨⟨hls.1, hls.2.1, fun q hq => ?_⟩, mLoc_len hcat'⟩
    obtain ⟨v, h1, h2, h3⟩ := lvl_mem.mp hq
    have := mLoc_get (ad := ad) (i := 0) h1 h2
    rw [Nat.zero_add, ← h3] at this
    exact hls.2.2 q this
  exact snd_run (own := y.cls) (ad0 := ad) (N0 := h.1) B.exec B.bytes hml hown B.notSynchronized (by rw [B.returns]; exact hret) rfl rfl hCO hKS hA (mok_of hK hg hKS.2.1 (fun z => by rw [hnm]; exact hini z)) (cls_of (hcal p e s m _ below meth c D aC _ ad h.1 ⟨B.exec, B.bytes, hml, hown, hCO, hKS, hA⟩)) n 0 0 0 _ [] h hn ad s.heap [] _ ⟨hP, hD0.self, va_S.rf, hmx, Nat.le_refl _, fun _ _ => rfl, hok⟩ (Nat.zero_le _) (Nat.zero_le _) hLV (mLoc_ok hokA) okS.nil
end
section
/-! Math.floorMod of two ints, the first not below 0, the other above: no entry runs in its place -/
def fmc : ByteArray := cJ9_floorMod_7cf53
theorem fmd_0 : decode fmc 0 = .ok (.iload_n 0, 1) := by decide +kernel
theorem fmd_1 : decode fmc 1 = .ok (.iload_n 1, 1) := by decide +kernel
theorem fmd_2 : decode fmc 2 = .ok (.irem, 1) := by decide +kernel
theorem fmd_3 : decode fmc 3 = .ok (.istore_n 2, 1) := by decide +kernel
theorem fmd_4 : decode fmc 4 = .ok (.iload_n 0, 1) := by decide +kernel
theorem fmd_5 : decode fmc 5 = .ok (.iload_n 1, 1) := by decide +kernel
theorem fmd_6 : decode fmc 6 = .ok (.ixor, 1) := by decide +kernel
theorem fmd_7 : decode fmc 7 = .ok (.ifCond .ge 11, 3) := by decide +kernel
theorem fmd_18 : decode fmc 18 = .ok (.iload_n 2, 1) := by decide +kernel
theorem fmd_19 : decode fmc 19 = .ok (.ireturn, 1) := by decide +kernel
def fmy : MethodName := yJ9_floorMod_7cf53
theorem fm_noRow0 : (NativeRow.find? natives fmy.cls fmy.name fmy.desc).isNone = true := by decide +kernel
theorem fm_noRow (p : Program) : NativeRow.find? p.tables.natives fmy.cls fmy.name fmy.desc = none := by
  cases p <;> exact Option.isNone_iff_eq_none.mp fm_noRow0
def fmspec : Spec where
  pre := .and (.code fmy fmc 3 (some .int)) (.and (.count 2) (.and (.isInt (.arg 0)) (.and (.isInt (.arg 1)) (.and (.le (.int 0) (.arg 0)) (.lt (.int 0) (.arg 1))))))
  post := .and .returned (.eq .result (.rem (.arg 0) (.arg 1)))
  changes := some []
theorem xor_nn {a b : Int32} (ha : 0 ≤ a) (hb : 0 < b) : 0 ≤ a ^^^ b := by
  have h1 : a.toBitVec.msb = false := by
    have := Int32.le_iff_toInt_le.mp ha
    rw [BitVec.msb_eq_toInt]
    simp only [decide_eq_false_iff_not]
    have e : a.toBitVec.toInt = a.toInt := rfl
    rw [e]
    have z : (0 : Int32).toInt = 0 := by decide
    omega
  have h2 : b.toBitVec.msb = false := by
    have := Int32.lt_iff_toInt_lt.mp hb
    rw [BitVec.msb_eq_toInt]
    simp only [decide_eq_false_iff_not]
    have e : b.toBitVec.toInt = b.toInt := rfl
    rw [e]
    have z : (0 : Int32).toInt = 0 := by decide
    omega
  have h3 : (a ^^^ b).toBitVec.msb = false := by
    show (a.toBitVec ^^^ b.toBitVec).msb = false
    rw [BitVec.msb_xor, h1, h2]; rfl
  rw [BitVec.msb_eq_toInt] at h3
  simp only [decide_eq_false_iff_not] at h3
  apply Int32.le_iff_toInt_le.mpr
  have z : (0 : Int32).toInt = 0 := by decide
  have e : (a ^^^ b).toBitVec.toInt = (a ^^^ b).toInt := rfl
  rw [e] at h3
  omega
theorem fm_meets (l : Launch) : MeetsLoose l fmy fmspec := by
  refine MeetsLoose.of_body_ov (code := fmc) (maxLocals := 3) (ret := some .int) fm_noRow ?_ ?_
  · intro args s h
    simp only [fmspec, Cond.before_and, Bool.and_eq_true] at h
    exact h.1
  · intro p e s m args below meth c s₁ B
    have hpre := B.pre
    simp only [fmspec, Cond.before_and, Bool.and_eq_true] at hpre
    obtain ⟨a, b, rfl⟩ := Cond.two_ints hpre.2.1 hpre.2.2.1 hpre.2.2.2.1
    have ha : 0 ≤ a := by simpa [Cond.before, Cond.holds, Cond.value, Term.eval] using hpre.2.2.2.2.1
    have hb : 0 < b := by simpa [Cond.before, Cond.holds, Cond.value, Term.eval] using hpre.2.2.2.2.2
    have hb0 : ¬ b = 0 := fun z => by subst z; exact absurd hb (by decide)
    have hx := xor_nn ha hb
    have hloc : argsToLocals #[.int a, .int b] 3 = #[.val (.int a), .val (.int b), .unset] := rfl
    have fin : ∀ r : Int32, (∀ fs, Steps p.tables e below (s₁.setTop (entryFrame m #[.int a, .int b] 3)) (s₁.setFrames fs) ∨ handOver s₁ (some (.int r)) below ≠ some fs) →
        (fmspec.post.after #[.int a, .int b] s (.returned (some (.int r))) = fun _ => true) →
        ∃ s₂ o, Steps p.tables e below (s₁.setTop (entryFrame m #[.int a, .int b] 3)) s₂ ∧ s₂.status = .running ∧ Ended s₂ below o ∧
          fmspec.ensures #[.int a, .int b] s o s₂ := by
      intro r hwalk hpost
      obtain ⟨fs, hfs⟩ := handOver_isSome (s := s₁) (some (.int r)) B.hears₁
      refine ⟨s₁.setFrames fs, .returned (some (.int r)), (hwalk fs).resolve_right (fun h => h hfs), B.here.running, B.ended hfs (by intro h; cases h), ?_, State.sameBut_nil.mpr ?_⟩
      · rw [hpost]
      · rw [State.frames_setFrames _ B.cur₁, B.back]
    refine fin (a - a / b * b) (fun fs => ?_) (by funext s'; simp [fmspec, Cond.after, Cond.holds, Cond.value, Term.eval, hb0]; exact irem_eq_mod _ _)
    by_cases hfs : handOver s₁ (some (.int (a - a / b * b))) below = some fs
    · left
      unfold entryFrame; rw [hloc]
      refine Steps.instrAtOv (c := _) (by simpa using B.here) ?_
      simp [jvm, wpRun, exec, B.here.top, B.exec, B.bytes, fmd_0]
      refine Steps.instrAtOv (c := _) (by simpa using B.here) ?_
      simp [jvm, wpRun, exec, B.here.top, B.exec, B.bytes, fmd_1]
      refine Steps.instrAtOv (c := _) (by simpa using B.here) ?_
      simp [jvm, wpRun, exec, B.here.top, B.exec, B.bytes, fmd_2, hb0]
      refine Steps.instrAtOv (c := _) (by simpa using B.here) ?_
      simp [jvm, wpRun, exec, B.here.top, B.exec, B.bytes, fmd_3, storeLocals, storeSelf, setAt, Value.category]
      refine Steps.instrAtOv (c := _) (by simpa using B.here) ?_
      simp [jvm, wpRun, exec, B.here.top, B.exec, B.bytes, fmd_4]
      refine Steps.instrAtOv (c := _) (by simpa using B.here) ?_
      simp [jvm, wpRun, exec, B.here.top, B.exec, B.bytes, fmd_5]
      refine Steps.instrAtOv (c := _) (by simpa using B.here) ?_
      simp [jvm, wpRun, exec, B.here.top, B.exec, B.bytes, fmd_6]
      refine Steps.instrAtOv (c := _) (by simpa using B.here) ?_
      simp [jvm, wpRun, exec, B.here.top, B.exec, B.bytes, fmd_7, ifCond.holds, hx]
      refine Steps.instrAtOv (c := _) (by simpa using B.here) ?_
      simp [jvm, wpRun, exec, B.here.top, B.exec, B.bytes, fmd_18]
      refine Steps.instrAtOv (c := _) (by simpa using B.here) ?_
      simp [jvm, wpRun, exec, B.here.top, B.exec, B.bytes, fmd_19, B.method₁, B.returns, narrow]
      intro acts
      rw [ret_to B.frames₁ B.method₁ B.notSynchronized rfl rfl hfs]
      exact Steps.refl _
    · exact Or.inr hfs
def fmF : CF := fun as h => match as with
  | [.int a, .int b] => if 0 ≤ a ∧ 0 < b then some (some (.int (a - a / b * b)), h) else none
  | _ => none
section FMC
variable {p : Program} {l : Launch} {e : Env} {R : Room} {s : State} {m : MethodId} {args : Array Value} {below : List Frame} {meth : Method} {c : Code} {cells slots : Nat} {T : State} {locs : List Loc}
theorem fm_V (X : Stand p l e R s m args below meth c T locs cells slots) (hexec : p.tables.exec = Jvm.exec) {own : String} {index : Nat} (hown : s.vm.findClass own = some m.cls)
    (hlink : (Cond.methodLink own index fmy).before args s = true) (hstat : (Cond.static fmy).before args s = true) (hinit : (Cond.initialized "java/lang/Math").before args s = true)
    (hcode : (Cond.code fmy fmc 3 (some .int)).before args s = true)
    {g : JFrame} (hg : g.method = m) (hsize : g.locals.size = c.maxLocals) {a b : Int32} (ha : 0 ≤ a) (hb : 0 < b) {rest : List Value} (hstack : g.stack = .int b :: .int a :: rest) (hdg : decode c.code g.pc = .ok (.invokestatic index, 3))
    (hframes : 1 ≤ R.frames) (hlocals : 2 * g.monitorRoom + (rest.map fun v => v.category).sum + 14 ≤ R.locals) (hcells : cells ≤ R.cells) (hslots : slots ≤ R.slots) :
    ∃ vm', Stand p l e R s m args below meth c (T.setVm vm') locs cells slots ∧
      ∀ target, Steps p.tables e below ((T.setVm vm').setTop { g with pc := g.pc + 3, stack := .int (a - a / b * b) :: rest }) target → Steps p.tables e below (T.setTop g) target := by
  have hb0 : ¬ b = 0 := fun z => by subst z; exact absurd hb (by decide)
  obtain ⟨v, T', X', ⟨first, t, hpost⟩, hstep⟩ := X.staticByContractV hexec hown hlink hstat hinit hcode (by decide)
    (fm_meets l)
    rfl rfl rfl rfl
    (fun args' first o s₂ h => by
      simp only [fmspec, Cond.after_and, Bool.and_eq_true] at h
      cases o with
      | returned r => exact ⟨r, rfl⟩
      | threw y => simp [Cond.after, Cond.holds, Cond.value] at h)
    hg hsize (argsL := [.int a, .int b]) (rest := rest)
    (fun sig hs => by
      have h : parseMethodDescriptor "(II)I" = some { parameters := [.int, .int], returnType := some .int } := by decide +kernel
      rw [show fmy.desc = "(II)I" from rfl, h] at hs
      rw [← Option.some.inj hs]; rfl)
    hstack hdg
    (fun vm' hW => by
      simp only [fmspec, Cond.before_and, Bool.and_eq_true]
      refine ⟨?_, rfl, rfl, rfl, ?_, ?_⟩
      · have q := hcode
        rw [← Cond.code_setVm hW.alike] at q
        simp only [Cond.before, Cond.holds, Cond.value, State.methodNamed?, State.vm_setVm] at q ⊢
        exact q
      · simpa [Cond.before, Cond.holds, Cond.value, Term.eval] using ha
      · simpa [Cond.before, Cond.holds, Cond.value, Term.eval] using hb)
    (by show 0 + 1 ≤ R.frames; omega) (by show 2 * g.monitorRoom + (rest.map fun v => v.category).sum + (3 + 11) + 0 ≤ R.locals; omega) (by show cells + 0 ≤ R.cells; omega) (by show slots + 0 ≤ R.slots; omega)
  refine ⟨T', X', fun target h => hstep target ?_⟩
  obtain rfl : v = some (.int (a - a / b * b)) := by
    rcases v with _ | w
    · simp [fmspec, Cond.after, Cond.holds, Cond.value, Term.eval, hb0] at hpost
    · cases w <;> simp [fmspec, Cond.after, Cond.holds, Cond.value, Term.eval, hb0] at hpost
      rw [irem_eq_mod]
      simp [hpost]
  exact h
end FMC
theorem clk_F {p : Program} {l : Launch} {e : Env} {R : Room} {s : State} {m : MethodId} {args : Array Value} {below : List Frame} {meth : Method} {c : Code} {cc : ByteArray} {nL : Nat} {own : String} {D : va_G} {aC : Nat → ClassId} {A : Nat → Prop} {ad0 : Nat → Nat} {N0 x : Nat} (X : CTX p s m args c cc nL own D aC A) (hst : Cond.static fmy ∈ gdW ∧ Cond.initialized "java/lang/Math" ∈ gdW ∧ Cond.code fmy fmc 3 (some .int) ∈ gdW) (hl : Cond.methodLink own x fmy ∈ gdW) (hR : 1 ≤ R.frames ∧ 22 ≤ R.locals) : CLK p l e R s m args below meth c cc nL D aC A ad0 N0 (.invokestatic x) 2 none 0 0 fmF := by
  obtain ⟨hx, hb, hml, hown, hC, hK, hA⟩ := X
  intro Q pc ls rest As h h' r ad H locs cells slots hlen hf hd hsz hrest hc1 hs1 hH hokA hrcv kk
  unfold fmF at hf
  split at hf
  · rename_i a b
    split at hf
    · rename_i hg
      cases hf
      intro T hT X
      obtain ⟨vm', X', st⟩ := fm_V X hx hown (hC.1 _ hl) (hC.1 _ hst.1) (hC.1 _ hst.2.1) (hC.1 _ hst.2.2) (g := F0 m pc ls (.int b :: .int a :: rest)) rfl (by rw [hml]; exact hsz) hg.1 hg.2 (rest := rest) rfl (by rw [hb]; exact hd) hR.1 (by have := room_rest (m := m) (pc := pc) (ls := ls) (st := .int b :: .int a :: rest) hrest; omega) hc1 hs1
      obtain ⟨t, a1, b1⟩ := kk ad H locs hH (fun _ _ => rfl) (Nat.le_refl _) (fun v z => by cases z; trivial) (T.setVm vm') hT X'
      exact ⟨t, st t a1, b1⟩
    · cases hf
  · cases hf
end
section
/-! EACH METHOD as data of the small machine, leaves first (by program) -/
def fObj : CF := fun _ h => some (none, h)
def iX0_init : List (Nat × Instr × Nat) := [(0, .aload_n 0, 1), (1, .invokespecial 3, 3), (4, .aload_n 0, 1), (5, .bipush 20, 2), (7, .newarray .int, 2), (9, .putfield 9, 3), (12, .aload_n 0, 1), (13, .iconst 0, 1), (14, .putfield 15, 3), (17, .aload_n 0, 1), (18, .iconst 0, 1), (19, .putfield 19, 3), (22, .return_, 1)]
noncomputable def mX0_init : MI := (iX0_init, [(9, 0, 0), (15, 0, 1), (19, 0, 2)], [], [(13, 1, 99, 0, 0, fObj)], [], (1, 20), 0)
noncomputable def fX0_init : CF := mth mX0_init 1
def iX0_clear : List (Nat × Instr × Nat) := [(0, .aload_n 0, 1), (1, .iconst 0, 1), (2, .putfield 15, 3), (5, .aload_n 0, 1), (6, .iconst 0, 1), (7, .putfield 19, 3), (10, .return_, 1)]
noncomputable def mX0_clear : MI := (iX0_clear, [(15, 0, 1), (19, 0, 2)], [], [], [], (0, 0), 0)
noncomputable def fX0_clear : CF := mth mX0_clear 1
def iX0_add : List (Nat × Instr × Nat) := [(0, .aload_n 0, 1), (1, .getfield 19, 3), (4, .ifCond .lt 15, 3), (7, .aload_n 0, 1), (8, .getfield 19, 3), (11, .aload_n 0, 1), (12, .getfield 9, 3), (15, .arraylength, 1), (16, .if_icmp .lt 5, 3), (19, .iconst 0, 1), (20, .ireturn, 1), (21, .aload_n 0, 1), (22, .getfield 9, 3), (25, .aload_n 0, 1), (26, .getfield 19, 3), (29, .iload_n 1, 1), (30, .iastore, 1), (31, .iload_n 2, 1), (32, .ifCond .eq 18, 3), (35, .aload_n 0, 1), (36, .dup, 1), (37, .getfield 15, 3), (40, .iconst 1, 1), (41, .aload_n 0, 1), (42, .getfield 19, 3), (45, .ishl, 1), (46, .ior, 1), (47, .putfield 15, 3), (50, .aload_n 0, 1), (51, .dup, 1), (52, .getfield 19, 3), (55, .iconst 1, 1), (56, .iadd, 1), (57, .putfield 19, 3), (60, .iconst 1, 1), (61, .ireturn, 1)]
noncomputable def mX0_add : MI := (iX0_add, [(9, 0, 0), (15, 0, 1), (19, 0, 2)], [], [], [], (0, 0), 2)
noncomputable def fX0_add : CF := mth mX0_add 3
def iX7_at : List (Nat × Instr × Nat) := [(0, .iload_n 1, 1), (1, .ifCond .lt 29, 3), (4, .iload_n 1, 1), (5, .aload_n 0, 1), (6, .getfield 15, 3), (9, .if_icmp .ge 21, 3), (12, .iload_n 1, 1), (13, .aload_n 0, 1), (14, .getfield 11, 3), (17, .arraylength, 1), (18, .if_icmp .ge 12, 3), (21, .aload_n 0, 1), (22, .getfield 11, 3), (25, .iload_n 1, 1), (26, .iaload, 1), (27, .goto 4, 3), (30, .iconst (-1), 1), (31, .ireturn, 1)]
noncomputable def mX7_at : MI := (iX7_at, [(11, 7, 0), (15, 7, 1)], [], [], [], (0, 0), 1)
noncomputable def fX7_at : CF := mth mX7_at 2
def iX7_placeOf : List (Nat × Instr × Nat) := [(0, .iconst 0, 1), (1, .istore_n 2, 1), (2, .aload_n 0, 1), (3, .getfield 15, 3), (6, .istore_n 3, 1), (7, .iconst 0, 1), (8, .istore 4, 2), (10, .iload_n 2, 1), (11, .iload_n 3, 1), (12, .if_icmp .ge 45, 3), (15, .iload 4, 2), (17, .sipush 256, 3), (20, .if_icmp .ge 37, 3), (23, .iload_n 2, 1), (24, .iload_n 3, 1), (25, .iadd, 1), (26, .iconst 2, 1), (27, .idiv, 1), (28, .istore 5, 2), (30, .aload_n 0, 1), (31, .iload 5, 2), (33, .invokevirtual 23, 3), (36, .iload_n 1, 1), (37, .if_icmp .ge 11, 3), (40, .iload 5, 2), (42, .iconst 1, 1), (43, .iadd, 1), (44, .istore_n 2, 1), (45, .goto 6, 3), (48, .iload 5, 2), (50, .istore_n 3, 1), (51, .iinc 4 1, 3), (54, .goto (-44), 3), (57, .iload_n 2, 1), (58, .ireturn, 1)]
noncomputable def mX7_placeOf : MI := (iX7_placeOf, [(15, 7, 1)], [], [(92, 2, 7, 0, 0, fX7_at)], [], (0, 0), 1)
noncomputable def fX7_placeOf : CF := mth mX7_placeOf 6
def iX7_holds : List (Nat × Instr × Nat) := [(0, .iload_n 1, 1), (1, .ifCond .lt 20, 3), (4, .aload_n 0, 1), (5, .aload_n 0, 1), (6, .iload_n 1, 1), (7, .invokevirtual 19, 3), (10, .invokevirtual 23, 3), (13, .iload_n 1, 1), (14, .if_icmp .ne 7, 3), (17, .iconst 1, 1), (18, .goto 4, 3), (21, .iconst 0, 1), (22, .ireturn, 1)]
noncomputable def mX7_holds : MI := (iX7_holds, [], [], [(76, 2, 7, 0, 0, fX7_placeOf), (92, 2, 7, 0, 0, fX7_at)], [], (0, 0), 2)
noncomputable def fX7_holds : CF := mth mX7_holds 2
def iX11_has : List (Nat × Instr × Nat) := [(0, .iload_n 1, 1), (1, .ifCond .lt 21, 3), (4, .iload_n 1, 1), (5, .bipush 31, 2), (7, .if_icmp .ge 15, 3), (10, .iload_n 0, 1), (11, .iload_n 1, 1), (12, .iushr, 1), (13, .iconst 1, 1), (14, .iand, 1), (15, .ifCond .eq 7, 3), (18, .iconst 1, 1), (19, .goto 4, 3), (22, .iconst 0, 1), (23, .ireturn, 1)]
noncomputable def mX11_has : MI := (iX11_has, [], [], [], [], (0, 0), 2)
noncomputable def fX11_has : CF := mth mX11_has 2
def iX0_firstWrong : List (Nat × Instr × Nat) := [(0, .iconst 0, 1), (1, .istore_n 2, 1), (2, .iload_n 2, 1), (3, .aload_n 0, 1), (4, .getfield 19, 3), (7, .if_icmp .ge 41, 3), (10, .iload_n 2, 1), (11, .aload_n 0, 1), (12, .getfield 9, 3), (15, .arraylength, 1), (16, .if_icmp .ge 32, 3), (19, .aload_n 1, 1), (20, .aload_n 0, 1), (21, .getfield 9, 3), (24, .iload_n 2, 1), (25, .iaload, 1), (26, .invokevirtual 22, 3), (29, .aload_n 0, 1), (30, .getfield 15, 3), (33, .iload_n 2, 1), (34, .invokestatic 28, 3), (37, .if_icmp .eq 5, 3), (40, .iload_n 2, 1), (41, .ireturn, 1), (42, .iinc 2 1, 3), (45, .goto (-43), 3), (48, .iconst (-1), 1), (49, .ireturn, 1)]
noncomputable def mX0_firstWrong : MI := (iX0_firstWrong, [(9, 0, 0), (15, 0, 1), (19, 0, 2)], [], [(88, 2, 7, 0, 0, fX7_holds), (114, 2, 11, 0, 0, fX11_has)], [], (0, 0), 1)
noncomputable def fX0_firstWrong : CF := mth mX0_firstWrong 3
def iJ7_fill_53178 : List (Nat × Instr × Nat) := [(0, .iconst 0, 1), (1, .istore_n 2, 1), (2, .aload_n 0, 1), (3, .arraylength, 1), (4, .istore_n 3, 1), (5, .iload_n 2, 1), (6, .iload_n 3, 1), (7, .if_icmp .ge 13, 3), (10, .aload_n 0, 1), (11, .iload_n 2, 1), (12, .iload_n 1, 1), (13, .iastore, 1), (14, .iinc 2 1, 3), (17, .goto (-12), 3), (20, .return_, 1)]
noncomputable def mJ7_fill_53178 : MI := (iJ7_fill_53178, [], [], [], [], (0, 0), 0)
noncomputable def fJ7_fill_53178 : CF := mth mJ7_fill_53178 4
def iX9_clear : List (Nat × Instr × Nat) := [(0, .aload_n 0, 1), (1, .getfield 9, 3), (4, .iconst 1, 1), (5, .invokestatic 18, 3), (8, .aload_n 0, 1), (9, .iconst 0, 1), (10, .putfield 24, 3), (13, .aload_n 0, 1), (14, .bipush 15, 2), (16, .putfield 28, 3), (19, .return_, 1)]
noncomputable def mX9_clear : MI := (iX9_clear, [(9, 9, 0), (24, 9, 1), (28, 9, 2)], [], [(74, 2, 99, 0, 0, fJ7_fill_53178)], [], (0, 0), 0)
noncomputable def fX9_clear : CF := mth mX9_clear 1
def iX9_init : List (Nat × Instr × Nat) := [(0, .aload_n 0, 1), (1, .invokespecial 3, 3), (4, .aload_n 0, 1), (5, .bipush 8, 2), (7, .newarray .int, 2), (9, .putfield 9, 3), (12, .aload_n 0, 1), (13, .invokevirtual 15, 3), (16, .return_, 1)]
noncomputable def mX9_init : MI := (iX9_init, [(9, 9, 0)], [], [(13, 1, 99, 0, 0, fObj), (60, 1, 9, 0, 0, fX9_clear)], [], (1, 8), 0)
noncomputable def fX9_init : CF := mth mX9_init 1
def iX1_init : List (Nat × Instr × Nat) := [(0, .aload_n 0, 1), (1, .invokespecial 3, 3), (4, .aload_n 0, 1), (5, .bipush 20, 2), (7, .anewarray 9, 3), (10, .putfield 11, 3), (13, .iconst 0, 1), (14, .istore_n 1, 1), (15, .iload_n 1, 1), (16, .aload_n 0, 1), (17, .getfield 11, 3), (20, .arraylength, 1), (21, .if_icmp .ge 22, 3), (24, .aload_n 0, 1), (25, .getfield 11, 3), (28, .iload_n 1, 1), (29, .new 9, 3), (32, .dup, 1), (33, .invokespecial 17, 3), (36, .aastore, 1), (37, .iinc 1 1, 3), (40, .goto (-25), 3), (43, .aload_n 0, 1), (44, .iconst 0, 1), (45, .putfield 18, 3), (48, .aload_n 0, 1), (49, .iconst 0, 1), (50, .putfield 22, 3), (53, .return_, 1)]
noncomputable def mX1_init : MI := (iX1_init, [(11, 1, 0), (18, 1, 1), (22, 1, 2)], [], [(13, 1, 99, 0, 0, fObj), (69, 1, 9, 1, 8, fX9_init)], [(9, 9)], (41, 240), 0)
noncomputable def fX1_init : CF := mth mX1_init 2
def iX1_clear : List (Nat × Instr × Nat) := [(0, .aload_n 0, 1), (1, .iconst 0, 1), (2, .putfield 18, 3), (5, .aload_n 0, 1), (6, .iconst 0, 1), (7, .putfield 22, 3), (10, .return_, 1)]
noncomputable def mX1_clear : MI := (iX1_clear, [(18, 1, 1), (22, 1, 2)], [], [], [], (0, 0), 0)
noncomputable def fX1_clear : CF := mth mX1_clear 1
def fJ9_floorMod_7cf53 : CF := fmF
def iX1_settingAt : List (Nat × Instr × Nat) := [(0, .aload_n 0, 1), (1, .getfield 18, 3), (4, .iload_n 1, 1), (5, .iadd, 1), (6, .bipush 20, 2), (8, .invokestatic 33, 3), (11, .istore_n 2, 1), (12, .aload_n 0, 1), (13, .getfield 11, 3), (16, .iload_n 2, 1), (17, .aload_n 0, 1), (18, .getfield 11, 3), (21, .arraylength, 1), (22, .if_icmp .ge 7, 3), (25, .iload_n 2, 1), (26, .goto 4, 3), (29, .iconst 0, 1), (30, .aaload, 1), (31, .areturn, 1)]
noncomputable def mX1_settingAt : MI := (iX1_settingAt, [(11, 1, 0), (18, 1, 1)], [], [(134, 2, 99, 0, 0, fJ9_floorMod_7cf53)], [], (0, 0), 4)
noncomputable def fX1_settingAt : CF := mth mX1_settingAt 3
def iX9_costOf : List (Nat × Instr × Nat) := [(0, .iload_n 1, 1), (1, .ifCond .lt 21, 3), (4, .iload_n 1, 1), (5, .aload_n 0, 1), (6, .getfield 9, 3), (9, .arraylength, 1), (10, .if_icmp .ge 12, 3), (13, .aload_n 0, 1), (14, .getfield 9, 3), (17, .iload_n 1, 1), (18, .iaload, 1), (19, .goto 4, 3), (22, .iconst 0, 1), (23, .ireturn, 1)]
noncomputable def mX9_costOf : MI := (iX9_costOf, [(9, 9, 0)], [], [], [], (0, 0), 1)
noncomputable def fX9_costOf : CF := mth mX9_costOf 2
def iX9_copy : List (Nat × Instr × Nat) := [(0, .iconst 0, 1), (1, .istore_n 2, 1), (2, .iload_n 2, 1), (3, .aload_n 0, 1), (4, .getfield 9, 3), (7, .arraylength, 1), (8, .if_icmp .ge 20, 3), (11, .aload_n 0, 1), (12, .getfield 9, 3), (15, .iload_n 2, 1), (16, .aload_n 1, 1), (17, .iload_n 2, 1), (18, .invokevirtual 31, 3), (21, .iastore, 1), (22, .iinc 2 1, 3), (25, .goto (-23), 3), (28, .aload_n 0, 1), (29, .aload_n 1, 1), (30, .getfield 24, 3), (33, .putfield 24, 3), (36, .aload_n 0, 1), (37, .aload_n 1, 1), (38, .getfield 28, 3), (41, .putfield 28, 3), (44, .return_, 1)]
noncomputable def mX9_copy : MI := (iX9_copy, [(9, 9, 0), (24, 9, 1), (28, 9, 2)], [], [(124, 2, 9, 0, 0, fX9_costOf)], [], (0, 0), 0)
noncomputable def fX9_copy : CF := mth mX9_copy 3
def iX1_add : List (Nat × Instr × Nat) := [(0, .aload_n 0, 1), (1, .aload_n 0, 1), (2, .getfield 22, 3), (5, .invokevirtual 25, 3), (8, .aload_n 1, 1), (9, .invokevirtual 29, 3), (12, .aload_n 0, 1), (13, .getfield 22, 3), (16, .bipush 20, 2), (18, .if_icmp .ge 16, 3), (21, .aload_n 0, 1), (22, .dup, 1), (23, .getfield 22, 3), (26, .iconst 1, 1), (27, .iadd, 1), (28, .putfield 22, 3), (31, .goto 16, 3), (34, .aload_n 0, 1), (35, .aload_n 0, 1), (36, .getfield 18, 3), (39, .iconst 1, 1), (40, .iadd, 1), (41, .bipush 20, 2), (43, .irem, 1), (44, .putfield 18, 3), (47, .return_, 1)]
noncomputable def mX1_add : MI := (iX1_add, [(18, 1, 1), (22, 1, 2)], [], [(100, 2, 1, 0, 0, fX1_settingAt), (116, 2, 9, 0, 0, fX9_copy)], [], (0, 0), 0)
noncomputable def fX1_add : CF := mth mX1_add 2
def iX1_takeBack : List (Nat × Instr × Nat) := [(0, .iload_n 1, 1), (1, .iconst 1, 1), (2, .if_icmp .lt 11, 3), (5, .iload_n 1, 1), (6, .aload_n 0, 1), (7, .getfield 22, 3), (10, .if_icmp .le 4, 3), (13, .return_, 1), (14, .aload_n 0, 1), (15, .dup, 1), (16, .getfield 22, 3), (19, .iload_n 1, 1), (20, .isub, 1), (21, .putfield 22, 3), (24, .aload_n 2, 1), (25, .aload_n 0, 1), (26, .aload_n 0, 1), (27, .getfield 22, 3), (30, .invokevirtual 25, 3), (33, .invokevirtual 29, 3), (36, .return_, 1)]
noncomputable def mX1_takeBack : MI := (iX1_takeBack, [(22, 1, 2)], [], [(100, 2, 1, 0, 0, fX1_settingAt), (116, 2, 9, 0, 0, fX9_copy)], [], (0, 0), 0)
noncomputable def fX1_takeBack : CF := mth mX1_takeBack 3
def iX2_init : List (Nat × Instr × Nat) := [(0, .aload_n 0, 1), (1, .invokespecial 1, 3), (4, .aload_n 0, 1), (5, .new 7, 3), (8, .dup, 1), (9, .invokespecial 9, 3), (12, .putfield 10, 3), (15, .aload_n 0, 1), (16, .iconst 0, 1), (17, .putfield 16, 3), (20, .aload_n 0, 1), (21, .iconst 0, 1), (22, .putfield 20, 3), (25, .return_, 1)]
noncomputable def mX2_init : MI := (iX2_init, [(10, 2, 0), (16, 2, 1), (20, 2, 2)], [], [(5, 1, 99, 0, 0, fObj), (37, 1, 9, 1, 8, fX9_init)], [(7, 9)], (2, 11), 0)
noncomputable def fX2_init : CF := mth mX2_init 1
def iX2_hold : List (Nat × Instr × Nat) := [(0, .aload_n 0, 1), (1, .getfield 10, 3), (4, .aload_n 1, 1), (5, .invokevirtual 24, 3), (8, .aload_n 0, 1), (9, .iload_n 2, 1), (10, .putfield 16, 3), (13, .aload_n 0, 1), (14, .iconst 1, 1), (15, .putfield 20, 3), (18, .return_, 1)]
noncomputable def mX2_hold : MI := (iX2_hold, [(10, 2, 0), (16, 2, 1), (20, 2, 2)], [], [(96, 2, 9, 0, 0, fX9_copy)], [], (0, 0), 0)
noncomputable def fX2_hold : CF := mth mX2_hold 3
def iX3_init : List (Nat × Instr × Nat) := [(0, .aload_n 0, 1), (1, .invokespecial 1, 3), (4, .aload_n 0, 1), (5, .bipush 28, 2), (7, .newarray .int, 2), (9, .putfield 9, 3), (12, .aload_n 0, 1), (13, .iconst 0, 1), (14, .putfield 13, 3), (17, .return_, 1)]
noncomputable def mX3_init : MI := (iX3_init, [(9, 3, 0), (13, 3, 1)], [], [(5, 1, 99, 0, 0, fObj)], [], (1, 28), 0)
noncomputable def fX3_init : CF := mth mX3_init 1
def iX8_giftOf : List (Nat × Instr × Nat) := [(0, .iload_n 0, 1), (1, .bipush 8, 2), (3, .imul, 1), (4, .iload_n 1, 1), (5, .iadd, 1), (6, .ireturn, 1)]
noncomputable def mX8_giftOf : MI := (iX8_giftOf, [], [], [], [], (0, 0), 1)
noncomputable def fX8_giftOf : CF := mth mX8_giftOf 2
def iX8_countWith : List (Nat × Instr × Nat) := [(0, .iload_n 1, 1), (1, .iload_n 2, 1), (2, .invokestatic 43, 3), (5, .istore_n 3, 1), (6, .iload_n 3, 1), (7, .ifCond .lt 21, 3), (10, .iload_n 3, 1), (11, .aload_n 0, 1), (12, .getfield 15, 3), (15, .arraylength, 1), (16, .if_icmp .ge 12, 3), (19, .aload_n 0, 1), (20, .getfield 15, 3), (23, .iload_n 3, 1), (24, .iaload, 1), (25, .goto 4, 3), (28, .iconst 0, 1), (29, .ireturn, 1)]
noncomputable def mX8_countWith : MI := (iX8_countWith, [(15, 8, 1)], [], [(174, 2, 8, 0, 0, fX8_giftOf)], [], (0, 0), 1)
noncomputable def fX8_countWith : CF := mth mX8_countWith 4
def iX6_cellOf : List (Nat × Instr × Nat) := [(0, .iload_n 1, 1), (1, .ifCond .lt 21, 3), (4, .iload_n 1, 1), (5, .aload_n 0, 1), (6, .getfield 15, 3), (9, .arraylength, 1), (10, .if_icmp .ge 12, 3), (13, .aload_n 0, 1), (14, .getfield 15, 3), (17, .iload_n 1, 1), (18, .iaload, 1), (19, .goto 4, 3), (22, .iconst (-1), 1), (23, .ireturn, 1)]
noncomputable def mX6_cellOf : MI := (iX6_cellOf, [(15, 6, 1)], [], [], [], (0, 0), 1)
noncomputable def fX6_cellOf : CF := mth mX6_cellOf 2
def iX6_isWriter : List (Nat × Instr × Nat) := [(0, .iload_n 1, 1), (1, .ifCond .lt 24, 3), (4, .iload_n 1, 1), (5, .bipush 8, 2), (7, .if_icmp .ge 18, 3), (10, .aload_n 0, 1), (11, .getfield 25, 3), (14, .iload_n 1, 1), (15, .iushr, 1), (16, .iconst 1, 1), (17, .iand, 1), (18, .ifCond .eq 7, 3), (21, .iconst 1, 1), (22, .goto 4, 3), (25, .iconst 0, 1), (26, .ireturn, 1)]
noncomputable def mX6_isWriter : MI := (iX6_isWriter, [(25, 6, 4)], [], [], [], (0, 0), 2)
noncomputable def fX6_isWriter : CF := mth mX6_isWriter 2
def iX6_kindOf : List (Nat × Instr × Nat) := [(0, .aload_n 0, 1), (1, .iload_n 1, 1), (2, .invokevirtual 46, 3), (5, .ifCond .eq 17, 3), (8, .aload_n 0, 1), (9, .iload_n 2, 1), (10, .invokevirtual 46, 3), (13, .ifCond .eq 7, 3), (16, .iconst 1, 1), (17, .goto 4, 3), (20, .iconst 0, 1), (21, .ireturn, 1), (22, .aload_n 0, 1), (23, .iload_n 2, 1), (24, .invokevirtual 46, 3), (27, .ifCond .eq 7, 3), (30, .iconst 3, 1), (31, .goto 4, 3), (34, .iconst 2, 1), (35, .ireturn, 1)]
noncomputable def mX6_kindOf : MI := (iX6_kindOf, [], [], [(184, 2, 6, 0, 0, fX6_isWriter)], [], (0, 0), 1)
noncomputable def fX6_kindOf : CF := mth mX6_kindOf 3
def iX6_mayOvertake : List (Nat × Instr × Nat) := [(0, .aload_n 0, 1), (1, .iload_n 1, 1), (2, .invokevirtual 43, 3), (5, .aload_n 0, 1), (6, .iload_n 2, 1), (7, .invokevirtual 43, 3), (10, .if_icmp .eq 20, 3), (13, .iload_n 3, 1), (14, .aload_n 0, 1), (15, .iload_n 1, 1), (16, .iload_n 2, 1), (17, .invokevirtual 52, 3), (20, .invokestatic 39, 3), (23, .ifCond .eq 7, 3), (26, .iconst 1, 1), (27, .goto 4, 3), (30, .iconst 0, 1), (31, .ireturn, 1)]
noncomputable def mX6_mayOvertake : MI := (iX6_mayOvertake, [], [], [(158, 2, 11, 0, 0, fX11_has), (172, 2, 6, 0, 0, fX6_cellOf), (208, 3, 6, 0, 0, fX6_kindOf)], [], (0, 0), 2)
noncomputable def fX6_mayOvertake : CF := mth mX6_mayOvertake 4
def iX11_gapsBetween : List (Nat × Instr × Nat) := [(0, .iconst 0, 1), (1, .istore_n 2, 1), (2, .iload_n 0, 1), (3, .iconst 1, 1), (4, .iadd, 1), (5, .istore_n 3, 1), (6, .iload_n 3, 1), (7, .iload_n 1, 1), (8, .if_icmp .gt 21, 3), (11, .iload_n 3, 1), (12, .bipush 8, 2), (14, .if_icmp .ge 15, 3), (17, .iload_n 2, 1), (18, .iconst 1, 1), (19, .iload_n 3, 1), (20, .ishl, 1), (21, .ior, 1), (22, .istore_n 2, 1), (23, .iinc 3 1, 3), (26, .goto (-20), 3), (29, .iload_n 2, 1), (30, .ireturn, 1)]
noncomputable def mX11_gapsBetween : MI := (iX11_gapsBetween, [], [], [], [], (0, 0), 1)
noncomputable def fX11_gapsBetween : CF := mth mX11_gapsBetween 4
def iX3_add : List (Nat × Instr × Nat) := [(0, .aload_n 0, 1), (1, .getfield 13, 3), (4, .ifCond .lt 35, 3), (7, .aload_n 0, 1), (8, .getfield 13, 3), (11, .aload_n 0, 1), (12, .getfield 9, 3), (15, .arraylength, 1), (16, .if_icmp .ge 23, 3), (19, .aload_n 0, 1), (20, .getfield 9, 3), (23, .aload_n 0, 1), (24, .getfield 13, 3), (27, .iload_n 1, 1), (28, .iastore, 1), (29, .aload_n 0, 1), (30, .dup, 1), (31, .getfield 13, 3), (34, .iconst 1, 1), (35, .iadd, 1), (36, .putfield 13, 3), (39, .return_, 1)]
noncomputable def mX3_add : MI := (iX3_add, [(9, 3, 0), (13, 3, 1)], [], [], [], (0, 0), 0)
noncomputable def fX3_add : CF := mth mX3_add 2
def iX3_gather : List (Nat × Instr × Nat) := [(0, .aload_n 0, 1), (1, .iconst 0, 1), (2, .putfield 13, 3), (5, .iconst 0, 1), (6, .istore 4, 2), (8, .iload 4, 2), (10, .aload_n 1, 1), (11, .getfield 17, 3), (14, .if_icmp .ge 64, 3), (17, .iload 4, 2), (19, .iconst 1, 1), (20, .iadd, 1), (21, .istore 5, 2), (23, .iload 5, 2), (25, .aload_n 1, 1), (26, .getfield 17, 3), (29, .if_icmp .ge 43, 3), (32, .aload_n 2, 1), (33, .iload 4, 2), (35, .iload 5, 2), (37, .invokevirtual 22, 3), (40, .ifCond .le 26, 3), (43, .aload_n 1, 1), (44, .iload 4, 2), (46, .iload 5, 2), (48, .iload_n 3, 1), (49, .invokevirtual 28, 3), (52, .ifCond .eq 14, 3), (55, .aload_n 0, 1), (56, .iload 4, 2), (58, .iload 5, 2), (60, .invokestatic 32, 3), (63, .invokevirtual 37, 3), (66, .iinc 5 1, 3), (69, .goto (-46), 3), (72, .iinc 4 1, 3), (75, .goto (-67), 3), (78, .return_, 1)]
noncomputable def mX3_gather : MI := (iX3_gather, [(13, 3, 1), (17, 6, 3)], [], [(88, 3, 8, 0, 0, fX8_countWith), (112, 4, 6, 0, 0, fX6_mayOvertake), (130, 2, 11, 0, 0, fX11_gapsBetween), (148, 2, 3, 0, 0, fX3_add)], [], (0, 0), 0)
noncomputable def fX3_gather : CF := mth mX3_gather 6
def iX3_holdersAt : List (Nat × Instr × Nat) := [(0, .iload_n 1, 1), (1, .ifCond .lt 21, 3), (4, .iload_n 1, 1), (5, .aload_n 0, 1), (6, .getfield 9, 3), (9, .arraylength, 1), (10, .if_icmp .ge 12, 3), (13, .aload_n 0, 1), (14, .getfield 9, 3), (17, .iload_n 1, 1), (18, .iaload, 1), (19, .goto 4, 3), (22, .iconst 0, 1), (23, .ireturn, 1)]
noncomputable def mX3_holdersAt : MI := (iX3_holdersAt, [(9, 3, 0)], [], [], [], (0, 0), 1)
noncomputable def fX3_holdersAt : CF := mth mX3_holdersAt 2
def iX3_countHeld : List (Nat × Instr × Nat) := [(0, .iconst 0, 1), (1, .istore_n 2, 1), (2, .iconst 0, 1), (3, .istore_n 3, 1), (4, .iload_n 3, 1), (5, .aload_n 0, 1), (6, .getfield 13, 3), (9, .if_icmp .ge 22, 3), (12, .aload_n 0, 1), (13, .iload_n 3, 1), (14, .invokevirtual 41, 3), (17, .iload_n 1, 1), (18, .iand, 1), (19, .ifCond .eq 6, 3), (22, .iinc 2 1, 3), (25, .iinc 3 1, 3), (28, .goto (-24), 3), (31, .iload_n 2, 1), (32, .ireturn, 1)]
noncomputable def mX3_countHeld : MI := (iX3_countHeld, [(13, 3, 1)], [], [(164, 2, 3, 0, 0, fX3_holdersAt)], [], (0, 0), 1)
noncomputable def fX3_countHeld : CF := mth mX3_countHeld 4
def iX3_areAllHeld : List (Nat × Instr × Nat) := [(0, .aload_n 0, 1), (1, .iload_n 1, 1), (2, .invokevirtual 45, 3), (5, .aload_n 0, 1), (6, .getfield 13, 3), (9, .if_icmp .ne 7, 3), (12, .iconst 1, 1), (13, .goto 4, 3), (16, .iconst 0, 1), (17, .ireturn, 1)]
noncomputable def mX3_areAllHeld : MI := (iX3_areAllHeld, [(13, 3, 1)], [], [(180, 2, 3, 0, 0, fX3_countHeld)], [], (0, 0), 2)
noncomputable def fX3_areAllHeld : CF := mth mX3_areAllHeld 2
def iJ6_bitCount_0f7a4 : List (Nat × Instr × Nat) := [(0, .iload_n 0, 1), (1, .iload_n 0, 1), (2, .iconst 1, 1), (3, .iushr, 1), (4, .ldc_w 265, 3), (7, .iand, 1), (8, .isub, 1), (9, .istore_n 0, 1), (10, .iload_n 0, 1), (11, .ldc_w 266, 3), (14, .iand, 1), (15, .iload_n 0, 1), (16, .iconst 2, 1), (17, .iushr, 1), (18, .ldc_w 266, 3), (21, .iand, 1), (22, .iadd, 1), (23, .istore_n 0, 1), (24, .iload_n 0, 1), (25, .iload_n 0, 1), (26, .iconst 4, 1), (27, .iushr, 1), (28, .iadd, 1), (29, .ldc_w 267, 3), (32, .iand, 1), (33, .istore_n 0, 1), (34, .iload_n 0, 1), (35, .iload_n 0, 1), (36, .bipush 8, 2), (38, .iushr, 1), (39, .iadd, 1), (40, .istore_n 0, 1), (41, .iload_n 0, 1), (42, .iload_n 0, 1), (43, .bipush 16, 2), (45, .iushr, 1), (46, .iadd, 1), (47, .istore_n 0, 1), (48, .iload_n 0, 1), (49, .bipush 63, 2), (51, .iand, 1), (52, .ireturn, 1)]
noncomputable def mJ6_bitCount_0f7a4 : MI := (iJ6_bitCount_0f7a4, [], [(265, .int (1431655765)), (266, .int (858993459)), (267, .int (252645135))], [], [], (0, 0), 1)
noncomputable def fJ6_bitCount_0f7a4 : CF := mth mJ6_bitCount_0f7a4 1
def iX3_neededOf : List (Nat × Instr × Nat) := [(0, .iconst 0, 1), (1, .istore_n 2, 1), (2, .iconst 0, 1), (3, .istore_n 3, 1), (4, .iload_n 3, 1), (5, .aload_n 0, 1), (6, .getfield 13, 3), (9, .if_icmp .ge 32, 3), (12, .aload_n 0, 1), (13, .iload_n 3, 1), (14, .invokevirtual 41, 3), (17, .iload_n 1, 1), (18, .iand, 1), (19, .istore 4, 2), (21, .iload 4, 2), (23, .invokestatic 48, 3), (26, .iconst 1, 1), (27, .if_icmp .ne 8, 3), (30, .iload_n 2, 1), (31, .iload 4, 2), (33, .ior, 1), (34, .istore_n 2, 1), (35, .iinc 3 1, 3), (38, .goto (-34), 3), (41, .iload_n 2, 1), (42, .ireturn, 1)]
noncomputable def mX3_neededOf : MI := (iX3_neededOf, [(13, 3, 1)], [], [(164, 2, 3, 0, 0, fX3_holdersAt), (194, 1, 99, 0, 0, fJ6_bitCount_0f7a4)], [], (0, 0), 1)
noncomputable def fX3_neededOf : CF := mth mX3_neededOf 5
def iX9_costOfSet : List (Nat × Instr × Nat) := [(0, .iconst 0, 1), (1, .istore_n 2, 1), (2, .iconst 0, 1), (3, .istore_n 3, 1), (4, .iload_n 3, 1), (5, .aload_n 0, 1), (6, .getfield 9, 3), (9, .arraylength, 1), (10, .if_icmp .ge 26, 3), (13, .iload_n 1, 1), (14, .iload_n 3, 1), (15, .invokestatic 35, 3), (18, .ifCond .eq 12, 3), (21, .iload_n 2, 1), (22, .aload_n 0, 1), (23, .getfield 9, 3), (26, .iload_n 3, 1), (27, .iaload, 1), (28, .iadd, 1), (29, .istore_n 2, 1), (30, .iinc 3 1, 3), (33, .goto (-29), 3), (36, .iload_n 2, 1), (37, .ireturn, 1)]
noncomputable def mX9_costOfSet : MI := (iX9_costOfSet, [(9, 9, 0)], [], [(142, 2, 11, 0, 0, fX11_has)], [], (0, 0), 1)
noncomputable def fX9_costOfSet : CF := mth mX9_costOfSet 4
def iX3_cheapestSet : List (Nat × Instr × Nat) := [(0, .iload_n 1, 1), (1, .istore_n 3, 1), (2, .aload_n 2, 1), (3, .iload_n 1, 1), (4, .invokevirtual 53, 3), (7, .istore 4, 2), (9, .iconst 0, 1), (10, .istore 5, 2), (12, .iload 5, 2), (14, .iload_n 1, 1), (15, .if_icmp .gt 49, 3), (18, .iload 5, 2), (20, .iload_n 1, 1), (21, .iconst (-1), 1), (22, .ixor, 1), (23, .iand, 1), (24, .ifCond .ne 34, 3), (27, .aload_n 2, 1), (28, .iload 5, 2), (30, .invokevirtual 53, 3), (33, .iload 4, 2), (35, .if_icmp .ge 23, 3), (38, .aload_n 0, 1), (39, .iload 5, 2), (41, .invokevirtual 58, 3), (44, .ifCond .eq 14, 3), (47, .iload 5, 2), (49, .istore_n 3, 1), (50, .aload_n 2, 1), (51, .iload 5, 2), (53, .invokevirtual 53, 3), (56, .istore 4, 2), (58, .iinc 5 1, 3), (61, .goto (-49), 3), (64, .iload_n 3, 1), (65, .ireturn, 1)]
noncomputable def mX3_cheapestSet : MI := (iX3_cheapestSet, [], [], [(212, 2, 9, 0, 0, fX9_costOfSet), (232, 2, 3, 0, 0, fX3_areAllHeld)], [], (0, 0), 1)
noncomputable def fX3_cheapestSet : CF := mth mX3_cheapestSet 6
def iX4_init : List (Nat × Instr × Nat) := [(0, .aload_n 0, 1), (1, .invokespecial 3, 3), (4, .aload_n 0, 1), (5, .sipush 512, 3), (8, .newarray .long, 2), (10, .putfield 11, 3), (13, .aload_n 0, 1), (14, .sipush 512, 3), (17, .newarray .long, 2), (19, .putfield 15, 3), (22, .aload_n 0, 1), (23, .sipush 1024, 3), (26, .newarray .int, 2), (28, .putfield 18, 3), (31, .aload_n 0, 1), (32, .bipush 8, 2), (34, .newarray .int, 2), (36, .putfield 22, 3), (39, .aload_n 0, 1), (40, .bipush 8, 2), (42, .newarray .int, 2), (44, .putfield 25, 3), (47, .aload_n 0, 1), (48, .iconst 0, 1), (49, .putfield 28, 3), (52, .aload_n 0, 1), (53, .iconst 0, 1), (54, .putfield 32, 3), (57, .return_, 1)]
noncomputable def mX4_init : MI := (iX4_init, [(11, 4, 0), (15, 4, 1), (18, 4, 2), (22, 4, 3), (25, 4, 4), (28, 4, 5), (32, 4, 6)], [], [(13, 1, 99, 0, 0, fObj)], [], (5, 2064), 0)
noncomputable def fX4_init : CF := mth mX4_init 1
def iX6_hasStep : List (Nat × Instr × Nat) := [(0, .iload_n 1, 1), (1, .ifCond .lt 15, 3), (4, .iload_n 1, 1), (5, .aload_n 0, 1), (6, .getfield 22, 3), (9, .if_icmp .ge 7, 3), (12, .iconst 1, 1), (13, .goto 4, 3), (16, .iconst 0, 1), (17, .ireturn, 1)]
noncomputable def mX6_hasStep : MI := (iX6_hasStep, [(22, 6, 3)], [], [], [], (0, 0), 2)
noncomputable def fX6_hasStep : CF := mth mX6_hasStep 2
def iX4_weigh : List (Nat × Instr × Nat) := [(0, .iconst 1, 1), (1, .istore_n 2, 1), (2, .aload_n 0, 1), (3, .getfield 25, 3), (6, .arraylength, 1), (7, .iconst 1, 1), (8, .isub, 1), (9, .istore_n 3, 1), (10, .iload_n 3, 1), (11, .ifCond .lt 37, 3), (14, .aload_n 0, 1), (15, .getfield 25, 3), (18, .iload_n 3, 1), (19, .iload_n 2, 1), (20, .iastore, 1), (21, .aload_n 1, 1), (22, .iload_n 3, 1), (23, .invokevirtual 60, 3), (26, .ifCond .eq 16, 3), (29, .aload_n 1, 1), (30, .iload_n 3, 1), (31, .invokevirtual 64, 3), (34, .ifCond .ne 8, 3), (37, .iload_n 2, 1), (38, .bipush 9, 2), (40, .imul, 1), (41, .istore_n 2, 1), (42, .iinc 3 (-1), 3), (45, .goto (-35), 3), (48, .return_, 1)]
noncomputable def mX4_weigh : MI := (iX4_weigh, [(25, 4, 4)], [], [(240, 2, 6, 0, 0, fX6_hasStep), (256, 2, 6, 0, 0, fX6_isWriter)], [], (0, 0), 0)
noncomputable def fX4_weigh : CF := mth mX4_weigh 4
def iX6_threadOf : List (Nat × Instr × Nat) := [(0, .iload_n 1, 1), (1, .ifCond .lt 21, 3), (4, .iload_n 1, 1), (5, .aload_n 0, 1), (6, .getfield 9, 3), (9, .arraylength, 1), (10, .if_icmp .ge 12, 3), (13, .aload_n 0, 1), (14, .getfield 9, 3), (17, .iload_n 1, 1), (18, .iaload, 1), (19, .goto 4, 3), (22, .iconst (-1), 1), (23, .ireturn, 1)]
noncomputable def mX6_threadOf : MI := (iX6_threadOf, [(9, 6, 0)], [], [], [], (0, 0), 1)
noncomputable def fX6_threadOf : CF := mth mX6_threadOf 2
def iX6_isAhead : List (Nat × Instr × Nat) := [(0, .iload_n 1, 1), (1, .iload_n 2, 1), (2, .if_icmp .ge 20, 3), (5, .aload_n 0, 1), (6, .iload_n 1, 1), (7, .invokevirtual 31, 3), (10, .aload_n 0, 1), (11, .iload_n 2, 1), (12, .invokevirtual 31, 3), (15, .if_icmp .ne 7, 3), (18, .iconst 1, 1), (19, .goto 4, 3), (22, .iconst 0, 1), (23, .ireturn, 1)]
noncomputable def mX6_isAhead : MI := (iX6_isAhead, [], [], [(124, 2, 6, 0, 0, fX6_threadOf)], [], (0, 0), 2)
noncomputable def fX6_isAhead : CF := mth mX6_isAhead 3
def iX6_waitsOf : List (Nat × Instr × Nat) := [(0, .iconst 0, 1), (1, .istore 4, 2), (3, .iconst 0, 1), (4, .istore 5, 2), (6, .iload 5, 2), (8, .iload_n 1, 1), (9, .if_icmp .ge 71, 3), (12, .iload 5, 2), (14, .aload_n 0, 1), (15, .getfield 22, 3), (18, .if_icmp .ge 62, 3), (21, .iload_n 2, 1), (22, .iload 5, 2), (24, .iload_n 1, 1), (25, .invokestatic 56, 3), (28, .iand, 1), (29, .ifCond .eq 7, 3), (32, .iconst 1, 1), (33, .goto 4, 3), (36, .iconst 0, 1), (37, .istore 6, 2), (39, .aload_n 0, 1), (40, .iload 5, 2), (42, .iload_n 1, 1), (43, .invokevirtual 59, 3), (46, .ifCond .eq 28, 3), (49, .iload 6, 2), (51, .ifCond .ne 14, 3), (54, .aload_n 0, 1), (55, .iload 5, 2), (57, .iload_n 1, 1), (58, .iload_n 3, 1), (59, .invokevirtual 62, 3), (62, .ifCond .ne 12, 3), (65, .iload 4, 2), (67, .iconst 1, 1), (68, .iload 5, 2), (70, .ishl, 1), (71, .ior, 1), (72, .istore 4, 2), (74, .iinc 5 1, 3), (77, .goto (-71), 3), (80, .iload 4, 2), (82, .ireturn, 1)]
noncomputable def mX6_waitsOf : MI := (iX6_waitsOf, [(22, 6, 3)], [], [(226, 2, 11, 0, 0, fX11_gapsBetween), (236, 3, 6, 0, 0, fX6_isAhead), (248, 4, 6, 0, 0, fX6_mayOvertake)], [], (0, 0), 1)
noncomputable def fX6_waitsOf : CF := mth mX6_waitsOf 7
def iX4_behind : List (Nat × Instr × Nat) := [(0, .lload_n 2, 1), (1, .lconst 1, 1), (2, .iload 4, 2), (4, .lshl, 1), (5, .lor, 1), (6, .lstore 5, 2), (8, .bipush 8, 2), (10, .iconst 4, 1), (11, .aload_n 1, 1), (12, .iload 4, 2), (14, .invokevirtual 89, 3), (17, .imul, 1), (18, .iadd, 1), (19, .istore 7, 2), (21, .aload_n 1, 1), (22, .iload 4, 2), (24, .invokevirtual 64, 3), (27, .ifCond .eq 26, 3), (30, .lload 5, 2), (32, .ldc2_w 93, 3), (35, .iload 7, 2), (37, .lshl, 1), (38, .ldc2_w 95, 3), (41, .lxor, 1), (42, .land, 1), (43, .iload 4, 2), (45, .iconst 1, 1), (46, .iadd, 1), (47, .i2l, 1), (48, .iload 7, 2), (50, .lshl, 1), (51, .lor, 1), (52, .lreturn, 1), (53, .iload 4, 2), (55, .ifCond .lt 23, 3), (58, .iload 4, 2), (60, .aload_n 0, 1), (61, .getfield 25, 3), (64, .arraylength, 1), (65, .if_icmp .ge 13, 3), (68, .aload_n 0, 1), (69, .getfield 25, 3), (72, .iload 4, 2), (74, .iaload, 1), (75, .goto 4, 3), (78, .iconst 0, 1), (79, .istore 8, 2), (81, .lload_n 2, 1), (82, .iload 7, 2), (84, .lushr, 1), (85, .ldc2_w 93, 3), (88, .land, 1), (89, .lstore 9, 2), (91, .lload 5, 2), (93, .lload 9, 2), (95, .iload 8, 2), (97, .i2l, 1), (98, .lmul, 1), (99, .bipush 20, 2), (101, .lshl, 1), (102, .ladd, 1), (103, .lreturn, 1)]
noncomputable def mX4_behind : MI := (iX4_behind, [(25, 4, 4)], [(93, .long (15)), (95, .long (-1))], [(256, 2, 6, 0, 0, fX6_isWriter), (356, 2, 6, 0, 0, fX6_cellOf)], [], (0, 0), 3)
noncomputable def fX4_behind : CF := mth mX4_behind 11
def iX4_putNext : List (Nat × Instr × Nat) := [(0, .aload_n 0, 1), (1, .getfield 32, 3), (4, .ifCond .lt 58, 3), (7, .aload_n 0, 1), (8, .getfield 32, 3), (11, .aload_n 0, 1), (12, .getfield 15, 3), (15, .arraylength, 1), (16, .if_icmp .ge 46, 3), (19, .iload_n 1, 1), (20, .ifCond .lt 42, 3), (23, .iload_n 1, 1), (24, .aload_n 0, 1), (25, .getfield 18, 3), (28, .arraylength, 1), (29, .if_icmp .ge 33, 3), (32, .aload_n 0, 1), (33, .getfield 15, 3), (36, .aload_n 0, 1), (37, .getfield 32, 3), (40, .lload_n 2, 1), (41, .lastore, 1), (42, .aload_n 0, 1), (43, .dup, 1), (44, .getfield 32, 3), (47, .iconst 1, 1), (48, .iadd, 1), (49, .putfield 32, 3), (52, .aload_n 0, 1), (53, .getfield 18, 3), (56, .iload_n 1, 1), (57, .aload_n 0, 1), (58, .getfield 32, 3), (61, .iastore, 1), (62, .return_, 1)]
noncomputable def mX4_putNext : MI := (iX4_putNext, [(15, 4, 1), (18, 4, 2), (32, 4, 6)], [], [], [], (0, 0), 0)
noncomputable def fX4_putNext : CF := mth mX4_putNext 4
def iX4_addNext : List (Nat × Instr × Nat) := [(0, .lload_n 1, 1), (1, .ldc2_w 97, 3), (4, .lmul, 1), (5, .bipush 54, 2), (7, .lushr, 1), (8, .l2i, 1), (9, .istore_n 3, 1), (10, .iconst 0, 1), (11, .istore 4, 2), (13, .iload 4, 2), (15, .sipush 1024, 3), (18, .if_icmp .ge 66, 3), (21, .iload_n 3, 1), (22, .iload 4, 2), (24, .iadd, 1), (25, .sipush 1023, 3), (28, .iand, 1), (29, .istore 5, 2), (31, .aload_n 0, 1), (32, .getfield 18, 3), (35, .iload 5, 2), (37, .iaload, 1), (38, .iconst 1, 1), (39, .isub, 1), (40, .istore 6, 2), (42, .iload 6, 2), (44, .ifCond .lt 13, 3), (47, .iload 6, 2), (49, .aload_n 0, 1), (50, .getfield 15, 3), (53, .arraylength, 1), (54, .if_icmp .lt 11, 3), (57, .aload_n 0, 1), (58, .iload 5, 2), (60, .lload_n 1, 1), (61, .invokevirtual 99, 3), (64, .return_, 1), (65, .aload_n 0, 1), (66, .getfield 15, 3), (69, .iload 6, 2), (71, .laload, 1), (72, .lload_n 1, 1), (73, .lcmp, 1), (74, .ifCond .ne 4, 3), (77, .return_, 1), (78, .iinc 4 1, 3), (81, .goto (-68), 3), (84, .return_, 1)]
noncomputable def mX4_addNext : MI := (iX4_addNext, [(15, 4, 1), (18, 4, 2)], [(97, .long (-7046029254386353131))], [(396, 3, 4, 0, 0, fX4_putNext)], [], (0, 0), 0)
noncomputable def fX4_addNext : CF := mth mX4_addNext 7
def iX4_doEach : List (Nat × Instr × Nat) := [(0, .lload_n 2, 1), (1, .l2i, 1), (2, .iconst (-1), 1), (3, .ixor, 1), (4, .sipush 255, 3), (7, .iand, 1), (8, .istore 4, 2), (10, .iconst 0, 1), (11, .istore 5, 2), (13, .iload 5, 2), (15, .aload_n 1, 1), (16, .getfield 39, 3), (19, .if_icmp .ge 54, 3), (22, .iload 5, 2), (24, .aload_n 0, 1), (25, .getfield 22, 3), (28, .arraylength, 1), (29, .if_icmp .ge 44, 3), (32, .iload 4, 2), (34, .iload 5, 2), (36, .invokestatic 77, 3), (39, .ifCond .eq 28, 3), (42, .aload_n 0, 1), (43, .getfield 22, 3), (46, .iload 5, 2), (48, .iaload, 1), (49, .iload 4, 2), (51, .iand, 1), (52, .ifCond .ne 15, 3), (55, .aload_n 0, 1), (56, .aload_n 0, 1), (57, .aload_n 1, 1), (58, .lload_n 2, 1), (59, .iload 5, 2), (61, .invokevirtual 81, 3), (64, .invokevirtual 85, 3), (67, .iinc 5 1, 3), (70, .goto (-57), 3), (73, .return_, 1)]
noncomputable def mX4_doEach : MI := (iX4_doEach, [(22, 4, 3), (39, 6, 3)], [], [(310, 2, 11, 0, 0, fX11_has), (324, 4, 4, 0, 0, fX4_behind), (340, 2, 4, 0, 0, fX4_addNext)], [], (0, 0), 0)
noncomputable def fX4_doEach : CF := mth mX4_doEach 6
def iX4_doOneMore : List (Nat × Instr × Nat) := [(0, .aload_n 0, 1), (1, .getfield 18, 3), (4, .iconst 0, 1), (5, .invokestatic 67, 3), (8, .aload_n 0, 1), (9, .iconst 0, 1), (10, .putfield 32, 3), (13, .iconst 0, 1), (14, .istore_n 2, 1), (15, .iload_n 2, 1), (16, .aload_n 0, 1), (17, .getfield 28, 3), (20, .if_icmp .ge 29, 3), (23, .iload_n 2, 1), (24, .aload_n 0, 1), (25, .getfield 11, 3), (28, .arraylength, 1), (29, .if_icmp .ge 20, 3), (32, .aload_n 0, 1), (33, .aload_n 1, 1), (34, .aload_n 0, 1), (35, .getfield 11, 3), (38, .iload_n 2, 1), (39, .laload, 1), (40, .invokevirtual 73, 3), (43, .iinc 2 1, 3), (46, .goto (-31), 3), (49, .aload_n 0, 1), (50, .getfield 11, 3), (53, .astore_n 2, 1), (54, .aload_n 0, 1), (55, .aload_n 0, 1), (56, .getfield 15, 3), (59, .putfield 11, 3), (62, .aload_n 0, 1), (63, .aload_n 2, 1), (64, .putfield 15, 3), (67, .aload_n 0, 1), (68, .aload_n 0, 1), (69, .getfield 32, 3), (72, .putfield 28, 3), (75, .return_, 1)]
noncomputable def mX4_doOneMore : MI := (iX4_doOneMore, [(11, 4, 0), (15, 4, 1), (18, 4, 2), (28, 4, 5), (32, 4, 6)], [], [(270, 2, 99, 0, 0, fJ7_fill_53178), (292, 3, 4, 0, 0, fX4_doEach)], [], (0, 0), 0)
noncomputable def fX4_doOneMore : CF := mth mX4_doOneMore 3
def iX7_clear : List (Nat × Instr × Nat) := [(0, .aload_n 0, 1), (1, .iconst 0, 1), (2, .putfield 15, 3), (5, .return_, 1)]
noncomputable def mX7_clear : MI := (iX7_clear, [(15, 7, 1)], [], [], [], (0, 0), 0)
noncomputable def fX7_clear : CF := mth mX7_clear 1
def iX7_add : List (Nat × Instr × Nat) := [(0, .aload_n 0, 1), (1, .iload_n 1, 1), (2, .invokevirtual 19, 3), (5, .istore_n 2, 1), (6, .aload_n 0, 1), (7, .iload_n 2, 1), (8, .invokevirtual 23, 3), (11, .iload_n 1, 1), (12, .if_icmp .eq 27, 3), (15, .iload_n 2, 1), (16, .ifCond .lt 23, 3), (19, .iload_n 2, 1), (20, .aload_n 0, 1), (21, .getfield 15, 3), (24, .if_icmp .gt 15, 3), (27, .aload_n 0, 1), (28, .getfield 15, 3), (31, .aload_n 0, 1), (32, .getfield 11, 3), (35, .arraylength, 1), (36, .if_icmp .lt 4, 3), (39, .return_, 1), (40, .aload_n 0, 1), (41, .getfield 15, 3), (44, .istore_n 3, 1), (45, .iload_n 3, 1), (46, .iload_n 2, 1), (47, .if_icmp .le 23, 3), (50, .aload_n 0, 1), (51, .getfield 11, 3), (54, .iload_n 3, 1), (55, .aload_n 0, 1), (56, .getfield 11, 3), (59, .iload_n 3, 1), (60, .iconst 1, 1), (61, .isub, 1), (62, .iaload, 1), (63, .iastore, 1), (64, .iinc 3 (-1), 3), (67, .goto (-22), 3), (70, .aload_n 0, 1), (71, .getfield 11, 3), (74, .iload_n 2, 1), (75, .iload_n 1, 1), (76, .iastore, 1), (77, .aload_n 0, 1), (78, .dup, 1), (79, .getfield 15, 3), (82, .iconst 1, 1), (83, .iadd, 1), (84, .putfield 15, 3), (87, .return_, 1)]
noncomputable def mX7_add : MI := (iX7_add, [(11, 7, 0), (15, 7, 1)], [], [(76, 2, 7, 0, 0, fX7_placeOf), (92, 2, 7, 0, 0, fX7_at)], [], (0, 0), 0)
noncomputable def fX7_add : CF := mth mX7_add 4
def iX4_findReadings : List (Nat × Instr × Nat) := [(0, .aload_n 0, 1), (1, .aload_n 1, 1), (2, .invokevirtual 35, 3), (5, .iconst 0, 1), (6, .istore 5, 2), (8, .iload 5, 2), (10, .aload_n 1, 1), (11, .getfield 39, 3), (14, .if_icmp .ge 34, 3), (17, .iload 5, 2), (19, .aload_n 0, 1), (20, .getfield 22, 3), (23, .arraylength, 1), (24, .if_icmp .ge 24, 3), (27, .aload_n 0, 1), (28, .getfield 22, 3), (31, .iload 5, 2), (33, .aload_n 1, 1), (34, .iload 5, 2), (36, .iload_n 2, 1), (37, .iload_n 3, 1), (38, .invokevirtual 44, 3), (41, .iastore, 1), (42, .iinc 5 1, 3), (45, .goto (-37), 3), (48, .aload_n 0, 1), (49, .getfield 11, 3), (52, .iconst 0, 1), (53, .lconst 0, 1), (54, .lastore, 1), (55, .aload_n 0, 1), (56, .iconst 1, 1), (57, .putfield 28, 3), (60, .iconst 0, 1), (61, .istore 5, 2), (63, .iload 5, 2), (65, .aload_n 1, 1), (66, .getfield 39, 3), (69, .if_icmp .ge 14, 3), (72, .aload_n 0, 1), (73, .aload_n 1, 1), (74, .invokevirtual 48, 3), (77, .iinc 5 1, 3), (80, .goto (-17), 3), (83, .aload 4, 2), (85, .invokevirtual 51, 3), (88, .iconst 0, 1), (89, .istore 5, 2), (91, .iload 5, 2), (93, .aload_n 0, 1), (94, .getfield 28, 3), (97, .if_icmp .ge 35, 3), (100, .iload 5, 2), (102, .aload_n 0, 1), (103, .getfield 11, 3), (106, .arraylength, 1), (107, .if_icmp .ge 25, 3), (110, .aload 4, 2), (112, .aload_n 0, 1), (113, .getfield 11, 3), (116, .iload 5, 2), (118, .laload, 1), (119, .bipush 20, 2), (121, .lushr, 1), (122, .l2i, 1), (123, .invokevirtual 56, 3), (126, .iinc 5 1, 3), (129, .goto (-38), 3), (132, .return_, 1)]
noncomputable def mX4_findReadings : MI := (iX4_findReadings, [(11, 4, 0), (22, 4, 3), (28, 4, 5), (39, 6, 3)], [], [(140, 2, 4, 0, 0, fX4_weigh), (176, 4, 6, 0, 0, fX6_waitsOf), (192, 2, 4, 0, 0, fX4_doOneMore), (204, 1, 7, 0, 0, fX7_clear), (224, 2, 7, 0, 0, fX7_add)], [], (0, 0), 0)
noncomputable def fX4_findReadings : CF := mth mX4_findReadings 6
def iX5_init : List (Nat × Instr × Nat) := [(0, .aload_n 0, 1), (1, .invokespecial 3, 3), (4, .aload_n 0, 1), (5, .iconst (-1), 1), (6, .putfield 9, 3), (9, .aload_n 0, 1), (10, .iconst 0, 1), (11, .putfield 15, 3), (14, .aload_n 0, 1), (15, .iconst 0, 1), (16, .putfield 18, 3), (19, .return_, 1)]
noncomputable def mX5_init : MI := (iX5_init, [(9, 5, 0), (15, 5, 1), (18, 5, 2)], [], [(13, 1, 99, 0, 0, fObj)], [], (0, 0), 0)
noncomputable def fX5_init : CF := mth mX5_init 1
def iX6_clear : List (Nat × Instr × Nat) := [(0, .aload_n 0, 1), (1, .iconst 0, 1), (2, .putfield 18, 3), (5, .aload_n 0, 1), (6, .iconst 0, 1), (7, .putfield 22, 3), (10, .aload_n 0, 1), (11, .iconst 0, 1), (12, .putfield 25, 3), (15, .aload_n 0, 1), (16, .iconst 0, 1), (17, .putfield 28, 3), (20, .return_, 1)]
noncomputable def mX6_clear : MI := (iX6_clear, [(18, 6, 2), (22, 6, 3), (25, 6, 4), (28, 6, 5)], [], [], [], (0, 0), 0)
noncomputable def fX6_clear : CF := mth mX6_clear 1
def iX10_letterAt : List (Nat × Instr × Nat) := [(0, .iload_n 1, 1), (1, .ifCond .lt 21, 3), (4, .iload_n 1, 1), (5, .aload_n 0, 1), (6, .getfield 9, 3), (9, .arraylength, 1), (10, .if_icmp .ge 12, 3), (13, .aload_n 0, 1), (14, .getfield 9, 3), (17, .iload_n 1, 1), (18, .iaload, 1), (19, .goto 4, 3), (22, .iconst (-1), 1), (23, .ireturn, 1)]
noncomputable def mX10_letterAt : MI := (iX10_letterAt, [(9, 10, 0)], [], [], [], (0, 0), 1)
noncomputable def fX10_letterAt : CF := mth mX10_letterAt 2
def iX6_addThread : List (Nat × Instr × Nat) := [(0, .aload_n 0, 1), (1, .getfield 18, 3), (4, .iconst 3, 1), (5, .if_icmp .lt 5, 3), (8, .iconst 0, 1), (9, .ireturn, 1), (10, .aload_n 0, 1), (11, .dup, 1), (12, .getfield 18, 3), (15, .iconst 1, 1), (16, .iadd, 1), (17, .putfield 18, 3), (20, .iconst 1, 1), (21, .ireturn, 1)]
noncomputable def mX6_addThread : MI := (iX6_addThread, [(18, 6, 2)], [], [], [], (0, 0), 2)
noncomputable def fX6_addThread : CF := mth mX6_addThread 1
def iX5_takeWord : List (Nat × Instr × Nat) := [(0, .iload_n 1, 1), (1, .bipush 116, 2), (3, .if_icmp .ne 21, 3), (6, .aload_n 0, 1), (7, .iconst 2, 1), (8, .putfield 15, 3), (11, .aload_n 2, 1), (12, .invokevirtual 46, 3), (15, .ifCond .eq 7, 3), (18, .iconst 0, 1), (19, .goto 4, 3), (22, .iconst 3, 1), (23, .ireturn, 1), (24, .iload_n 1, 1), (25, .bipush 114, 2), (27, .if_icmp .eq 9, 3), (30, .iload_n 1, 1), (31, .bipush 119, 2), (33, .if_icmp .ne 10, 3), (36, .aload_n 2, 1), (37, .getfield 50, 3), (40, .ifCond .ne 5, 3), (43, .iconst 1, 1), (44, .ireturn, 1), (45, .aload_n 2, 1), (46, .getfield 53, 3), (49, .bipush 8, 2), (51, .if_icmp .lt 5, 3), (54, .iconst 3, 1), (55, .ireturn, 1), (56, .aload_n 0, 1), (57, .iload_n 1, 1), (58, .bipush 119, 2), (60, .if_icmp .ne 7, 3), (63, .iconst 1, 1), (64, .goto 4, 3), (67, .iconst 0, 1), (68, .putfield 18, 3), (71, .aload_n 0, 1), (72, .iconst 1, 1), (73, .putfield 15, 3), (76, .iconst 0, 1), (77, .ireturn, 1)]
noncomputable def mX5_takeWord : MI := (iX5_takeWord, [(15, 5, 1), (18, 5, 2), (50, 6, 2), (53, 6, 3)], [], [(184, 1, 6, 0, 0, fX6_addThread)], [], (0, 0), 1)
noncomputable def fX5_takeWord : CF := mth mX5_takeWord 3
def iX6_addStep : List (Nat × Instr × Nat) := [(0, .aload_n 0, 1), (1, .getfield 22, 3), (4, .istore_n 3, 1), (5, .iload_n 3, 1), (6, .ifCond .lt 21, 3), (9, .iload_n 3, 1), (10, .aload_n 0, 1), (11, .getfield 9, 3), (14, .arraylength, 1), (15, .if_icmp .ge 12, 3), (18, .iload_n 3, 1), (19, .aload_n 0, 1), (20, .getfield 15, 3), (23, .arraylength, 1), (24, .if_icmp .lt 4, 3), (27, .return_, 1), (28, .aload_n 0, 1), (29, .getfield 9, 3), (32, .iload_n 3, 1), (33, .aload_n 0, 1), (34, .getfield 18, 3), (37, .iconst 1, 1), (38, .isub, 1), (39, .iastore, 1), (40, .aload_n 0, 1), (41, .getfield 15, 3), (44, .iload_n 3, 1), (45, .iload_n 1, 1), (46, .iastore, 1), (47, .aload_n 0, 1), (48, .dup, 1), (49, .getfield 22, 3), (52, .iconst 1, 1), (53, .iadd, 1), (54, .putfield 22, 3), (57, .iload_n 2, 1), (58, .ifCond .eq 15, 3), (61, .aload_n 0, 1), (62, .dup, 1), (63, .getfield 25, 3), (66, .iconst 1, 1), (67, .iload_n 3, 1), (68, .ishl, 1), (69, .ior, 1), (70, .putfield 25, 3), (73, .iload_n 3, 1), (74, .ifCond .le 30, 3), (77, .aload_n 0, 1), (78, .iload_n 3, 1), (79, .iconst 1, 1), (80, .isub, 1), (81, .invokevirtual 31, 3), (84, .aload_n 0, 1), (85, .iload_n 3, 1), (86, .invokevirtual 31, 3), (89, .if_icmp .ne 15, 3), (92, .aload_n 0, 1), (93, .dup, 1), (94, .getfield 28, 3), (97, .iconst 1, 1), (98, .iload_n 3, 1), (99, .ishl, 1), (100, .ior, 1), (101, .putfield 28, 3), (104, .return_, 1)]
noncomputable def mX6_addStep : MI := (iX6_addStep, [(9, 6, 0), (15, 6, 1), (18, 6, 2), (22, 6, 3), (25, 6, 4), (28, 6, 5)], [], [(124, 2, 6, 0, 0, fX6_threadOf)], [], (0, 0), 0)
noncomputable def fX6_addStep : CF := mth mX6_addStep 4
def iX5_takeCell : List (Nat × Instr × Nat) := [(0, .iload_n 1, 1), (1, .bipush 48, 2), (3, .if_icmp .lt 9, 3), (6, .iload_n 1, 1), (7, .bipush 57, 2), (9, .if_icmp .le 5, 3), (12, .iconst 1, 1), (13, .ireturn, 1), (14, .iload_n 1, 1), (15, .bipush 48, 2), (17, .isub, 1), (18, .iconst 2, 1), (19, .if_icmp .le 5, 3), (22, .iconst 2, 1), (23, .ireturn, 1), (24, .aload_n 2, 1), (25, .iload_n 1, 1), (26, .bipush 48, 2), (28, .isub, 1), (29, .aload_n 0, 1), (30, .getfield 18, 3), (33, .invokevirtual 56, 3), (36, .aload_n 0, 1), (37, .iconst 2, 1), (38, .putfield 15, 3), (41, .iconst 0, 1), (42, .ireturn, 1)]
noncomputable def mX5_takeCell : MI := (iX5_takeCell, [(15, 5, 1), (18, 5, 2)], [], [(224, 3, 6, 0, 0, fX6_addStep)], [], (0, 0), 1)
noncomputable def fX5_takeCell : CF := mth mX5_takeCell 3
def iX5_take : List (Nat × Instr × Nat) := [(0, .aload_n 0, 1), (1, .getfield 15, 3), (4, .ifCond .ne 10, 3), (7, .aload_n 0, 1), (8, .iload_n 1, 1), (9, .aload_n 2, 1), (10, .invokevirtual 40, 3), (13, .ireturn, 1), (14, .aload_n 0, 1), (15, .getfield 15, 3), (18, .iconst 1, 1), (19, .if_icmp .ne 10, 3), (22, .aload_n 0, 1), (23, .iload_n 1, 1), (24, .aload_n 2, 1), (25, .invokevirtual 43, 3), (28, .ireturn, 1), (29, .iload_n 1, 1), (30, .bipush 59, 2), (32, .if_icmp .eq 5, 3), (35, .iconst 1, 1), (36, .ireturn, 1), (37, .aload_n 0, 1), (38, .iconst 0, 1), (39, .putfield 15, 3), (42, .iconst 0, 1), (43, .ireturn, 1)]
noncomputable def mX5_take : MI := (iX5_take, [(15, 5, 1)], [], [(160, 3, 5, 0, 0, fX5_takeWord), (172, 3, 5, 0, 0, fX5_takeCell)], [], (0, 0), 1)
noncomputable def fX5_take : CF := mth mX5_take 3
def iX5_parse : List (Nat × Instr × Nat) := [(0, .aload_n 2, 1), (1, .invokevirtual 22, 3), (4, .aload_n 0, 1), (5, .iconst 0, 1), (6, .putfield 15, 3), (9, .iconst 0, 1), (10, .istore_n 3, 1), (11, .iload_n 3, 1), (12, .aload_n 1, 1), (13, .getfield 27, 3), (16, .if_icmp .ge 49, 3), (19, .aload_n 1, 1), (20, .iload_n 3, 1), (21, .invokevirtual 32, 3), (24, .istore 4, 2), (26, .iload 4, 2), (28, .bipush 32, 2), (30, .if_icmp .ne 7, 3), (33, .iconst 0, 1), (34, .goto 10, 3), (37, .aload_n 0, 1), (38, .iload 4, 2), (40, .aload_n 2, 1), (41, .invokevirtual 36, 3), (44, .istore 5, 2), (46, .iload 5, 2), (48, .ifCond .eq 11, 3), (51, .aload_n 0, 1), (52, .iload_n 3, 1), (53, .putfield 9, 3), (56, .iload 5, 2), (58, .ireturn, 1), (59, .iinc 3 1, 3), (62, .goto (-51), 3), (65, .aload_n 0, 1), (66, .getfield 15, 3), (69, .ifCond .eq 13, 3), (72, .aload_n 0, 1), (73, .aload_n 1, 1), (74, .getfield 27, 3), (77, .putfield 9, 3), (80, .iconst 1, 1), (81, .ireturn, 1), (82, .aload_n 0, 1), (83, .iconst (-1), 1), (84, .putfield 9, 3), (87, .iconst 0, 1), (88, .ireturn, 1)]
noncomputable def mX5_parse : MI := (iX5_parse, [(9, 5, 0), (15, 5, 1), (27, 10, 1)], [], [(88, 1, 6, 0, 0, fX6_clear), (128, 2, 10, 0, 0, fX10_letterAt), (144, 3, 5, 0, 0, fX5_take)], [], (0, 0), 1)
noncomputable def fX5_parse : CF := mth mX5_parse 6
def iX6_init : List (Nat × Instr × Nat) := [(0, .aload_n 0, 1), (1, .invokespecial 3, 3), (4, .aload_n 0, 1), (5, .bipush 8, 2), (7, .newarray .int, 2), (9, .putfield 9, 3), (12, .aload_n 0, 1), (13, .bipush 8, 2), (15, .newarray .int, 2), (17, .putfield 15, 3), (20, .aload_n 0, 1), (21, .iconst 0, 1), (22, .putfield 18, 3), (25, .aload_n 0, 1), (26, .iconst 0, 1), (27, .putfield 22, 3), (30, .aload_n 0, 1), (31, .iconst 0, 1), (32, .putfield 25, 3), (35, .aload_n 0, 1), (36, .iconst 0, 1), (37, .putfield 28, 3), (40, .return_, 1)]
noncomputable def mX6_init : MI := (iX6_init, [(9, 6, 0), (15, 6, 1), (18, 6, 2), (22, 6, 3), (25, 6, 4), (28, 6, 5)], [], [(13, 1, 99, 0, 0, fObj)], [], (2, 16), 0)
noncomputable def fX6_init : CF := mth mX6_init 1
def iX6_hasGap : List (Nat × Instr × Nat) := [(0, .aload_n 0, 1), (1, .iload_n 1, 1), (2, .invokevirtual 35, 3), (5, .ifCond .eq 18, 3), (8, .aload_n 0, 1), (9, .getfield 28, 3), (12, .iload_n 1, 1), (13, .invokestatic 39, 3), (16, .ifCond .eq 7, 3), (19, .iconst 1, 1), (20, .goto 4, 3), (23, .iconst 0, 1), (24, .ireturn, 1)]
noncomputable def mX6_hasGap : MI := (iX6_hasGap, [(28, 6, 5)], [], [(140, 2, 6, 0, 0, fX6_hasStep), (158, 2, 11, 0, 0, fX11_has)], [], (0, 0), 2)
noncomputable def fX6_hasGap : CF := mth mX6_hasGap 2
def iX6_areInConflict : List (Nat × Instr × Nat) := [(0, .aload_n 0, 1), (1, .iload_n 1, 1), (2, .invokevirtual 31, 3), (5, .aload_n 0, 1), (6, .iload_n 2, 1), (7, .invokevirtual 31, 3), (10, .if_icmp .eq 36, 3), (13, .aload_n 0, 1), (14, .iload_n 1, 1), (15, .invokevirtual 43, 3), (18, .aload_n 0, 1), (19, .iload_n 2, 1), (20, .invokevirtual 43, 3), (23, .if_icmp .ne 23, 3), (26, .aload_n 0, 1), (27, .iload_n 1, 1), (28, .invokevirtual 46, 3), (31, .ifCond .ne 11, 3), (34, .aload_n 0, 1), (35, .iload_n 2, 1), (36, .invokevirtual 46, 3), (39, .ifCond .eq 7, 3), (42, .iconst 1, 1), (43, .goto 4, 3), (46, .iconst 0, 1), (47, .ireturn, 1)]
noncomputable def mX6_areInConflict : MI := (iX6_areInConflict, [], [], [(124, 2, 6, 0, 0, fX6_threadOf), (172, 2, 6, 0, 0, fX6_cellOf), (184, 2, 6, 0, 0, fX6_isWriter)], [], (0, 0), 2)
noncomputable def fX6_areInConflict : CF := mth mX6_areInConflict 3
def iX6_conflictsOf : List (Nat × Instr × Nat) := [(0, .iconst 0, 1), (1, .istore_n 2, 1), (2, .iconst 0, 1), (3, .istore_n 3, 1), (4, .iload_n 3, 1), (5, .aload_n 0, 1), (6, .getfield 22, 3), (9, .if_icmp .ge 24, 3), (12, .aload_n 0, 1), (13, .iload_n 1, 1), (14, .iload_n 3, 1), (15, .invokevirtual 49, 3), (18, .ifCond .eq 9, 3), (21, .iload_n 2, 1), (22, .iconst 1, 1), (23, .iload_n 3, 1), (24, .ishl, 1), (25, .ior, 1), (26, .istore_n 2, 1), (27, .iinc 3 1, 3), (30, .goto (-26), 3), (33, .iload_n 2, 1), (34, .ireturn, 1)]
noncomputable def mX6_conflictsOf : MI := (iX6_conflictsOf, [(22, 6, 3)], [], [(196, 3, 6, 0, 0, fX6_areInConflict)], [], (0, 0), 1)
noncomputable def fX6_conflictsOf : CF := mth mX6_conflictsOf 4
def iX7_init : List (Nat × Instr × Nat) := [(0, .aload_n 0, 1), (1, .invokespecial 3, 3), (4, .aload_n 0, 1), (5, .sipush 256, 3), (8, .newarray .int, 2), (10, .putfield 11, 3), (13, .aload_n 0, 1), (14, .iconst 0, 1), (15, .putfield 15, 3), (18, .return_, 1)]
noncomputable def mX7_init : MI := (iX7_init, [(11, 7, 0), (15, 7, 1)], [], [(13, 1, 99, 0, 0, fObj)], [], (1, 256), 0)
noncomputable def fX7_init : CF := mth mX7_init 1
def iX7_countWithout : List (Nat × Instr × Nat) := [(0, .iconst 0, 1), (1, .istore_n 2, 1), (2, .iconst 0, 1), (3, .istore_n 3, 1), (4, .iload_n 3, 1), (5, .aload_n 0, 1), (6, .getfield 15, 3), (9, .if_icmp .ge 24, 3), (12, .aload_n 1, 1), (13, .aload_n 0, 1), (14, .iload_n 3, 1), (15, .invokevirtual 23, 3), (18, .invokevirtual 26, 3), (21, .ifCond .ne 6, 3), (24, .iinc 2 1, 3), (27, .iinc 3 1, 3), (30, .goto (-26), 3), (33, .iload_n 2, 1), (34, .ireturn, 1)]
noncomputable def mX7_countWithout : MI := (iX7_countWithout, [(15, 7, 1)], [], [(92, 2, 7, 0, 0, fX7_at), (104, 2, 7, 0, 0, fX7_holds)], [], (0, 0), 1)
noncomputable def fX7_countWithout : CF := mth mX7_countWithout 4
def iX7_atWithout : List (Nat × Instr × Nat) := [(0, .iconst 0, 1), (1, .istore_n 3, 1), (2, .iconst 0, 1), (3, .istore 4, 2), (5, .iload 4, 2), (7, .aload_n 0, 1), (8, .getfield 15, 3), (11, .if_icmp .ge 37, 3), (14, .aload_n 2, 1), (15, .aload_n 0, 1), (16, .iload 4, 2), (18, .invokevirtual 23, 3), (21, .invokevirtual 26, 3), (24, .ifCond .ne 18, 3), (27, .iload_n 3, 1), (28, .iload_n 1, 1), (29, .if_icmp .ne 10, 3), (32, .aload_n 0, 1), (33, .iload 4, 2), (35, .invokevirtual 23, 3), (38, .ireturn, 1), (39, .iinc 3 1, 3), (42, .iinc 4 1, 3), (45, .goto (-40), 3), (48, .iconst (-1), 1), (49, .ireturn, 1)]
noncomputable def mX7_atWithout : MI := (iX7_atWithout, [(15, 7, 1)], [], [(92, 2, 7, 0, 0, fX7_at), (104, 2, 7, 0, 0, fX7_holds)], [], (0, 0), 1)
noncomputable def fX7_atWithout : CF := mth mX7_atWithout 5
def iX8_init : List (Nat × Instr × Nat) := [(0, .aload_n 0, 1), (1, .invokespecial 3, 3), (4, .aload_n 0, 1), (5, .bipush 36, 2), (7, .newarray .int, 2), (9, .putfield 11, 3), (12, .aload_n 0, 1), (13, .bipush 64, 2), (15, .newarray .int, 2), (17, .putfield 15, 3), (20, .aload_n 0, 1), (21, .iconst 0, 1), (22, .putfield 18, 3), (25, .aload_n 0, 1), (26, .iconst 0, 1), (27, .putfield 22, 3), (30, .return_, 1)]
noncomputable def mX8_init : MI := (iX8_init, [(11, 8, 0), (15, 8, 1), (18, 8, 2), (22, 8, 3)], [], [(13, 1, 99, 0, 0, fObj)], [], (2, 100), 0)
noncomputable def fX8_init : CF := mth mX8_init 1
def iX8_addGift : List (Nat × Instr × Nat) := [(0, .aload_n 0, 1), (1, .getfield 18, 3), (4, .ifCond .lt 35, 3), (7, .aload_n 0, 1), (8, .getfield 18, 3), (11, .aload_n 0, 1), (12, .getfield 11, 3), (15, .arraylength, 1), (16, .if_icmp .ge 23, 3), (19, .aload_n 0, 1), (20, .getfield 11, 3), (23, .aload_n 0, 1), (24, .getfield 18, 3), (27, .iload_n 1, 1), (28, .iastore, 1), (29, .aload_n 0, 1), (30, .dup, 1), (31, .getfield 18, 3), (34, .iconst 1, 1), (35, .iadd, 1), (36, .putfield 18, 3), (39, .return_, 1)]
noncomputable def mX8_addGift : MI := (iX8_addGift, [(11, 8, 0), (18, 8, 2)], [], [], [], (0, 0), 0)
noncomputable def fX8_addGift : CF := mth mX8_addGift 2
def iX8_gatherGifts : List (Nat × Instr × Nat) := [(0, .aload_n 0, 1), (1, .iconst 0, 1), (2, .putfield 18, 3), (5, .iconst 0, 1), (6, .istore_n 2, 1), (7, .iload_n 2, 1), (8, .aload_n 1, 1), (9, .getfield 47, 3), (12, .if_icmp .ge 75, 3), (15, .aload_n 1, 1), (16, .iload_n 2, 1), (17, .invokevirtual 52, 3), (20, .ifCond .eq 12, 3), (23, .aload_n 0, 1), (24, .iload_n 2, 1), (25, .iload_n 2, 1), (26, .invokestatic 43, 3), (29, .invokevirtual 56, 3), (32, .iload_n 2, 1), (33, .iconst 1, 1), (34, .iadd, 1), (35, .istore_n 3, 1), (36, .iload_n 3, 1), (37, .aload_n 1, 1), (38, .getfield 47, 3), (41, .if_icmp .ge 40, 3), (44, .aload_n 1, 1), (45, .iload_n 2, 1), (46, .iload_n 3, 1), (47, .invokevirtual 60, 3), (50, .ifCond .eq 25, 3), (53, .aload_n 1, 1), (54, .iload_n 2, 1), (55, .invokevirtual 64, 3), (58, .aload_n 1, 1), (59, .iload_n 3, 1), (60, .invokevirtual 64, 3), (63, .if_icmp .eq 12, 3), (66, .aload_n 0, 1), (67, .iload_n 2, 1), (68, .iload_n 3, 1), (69, .invokestatic 43, 3), (72, .invokevirtual 56, 3), (75, .iinc 3 1, 3), (78, .goto (-42), 3), (81, .iinc 2 1, 3), (84, .goto (-77), 3), (87, .return_, 1)]
noncomputable def mX8_gatherGifts : MI := (iX8_gatherGifts, [(18, 8, 2), (47, 6, 3)], [], [(174, 2, 8, 0, 0, fX8_giftOf), (208, 2, 6, 0, 0, fX6_isWriter), (224, 2, 8, 0, 0, fX8_addGift), (240, 3, 6, 0, 0, fX6_isAhead), (256, 2, 6, 0, 0, fX6_cellOf)], [], (0, 0), 0)
noncomputable def fX8_gatherGifts : CF := mth mX8_gatherGifts 4
def iX8_giftAt : List (Nat × Instr × Nat) := [(0, .iload_n 1, 1), (1, .ifCond .lt 21, 3), (4, .iload_n 1, 1), (5, .aload_n 0, 1), (6, .getfield 11, 3), (9, .arraylength, 1), (10, .if_icmp .ge 12, 3), (13, .aload_n 0, 1), (14, .getfield 11, 3), (17, .iload_n 1, 1), (18, .iaload, 1), (19, .goto 4, 3), (22, .iconst 0, 1), (23, .ireturn, 1)]
noncomputable def mX8_giftAt : MI := (iX8_giftAt, [(11, 8, 0)], [], [], [], (0, 0), 1)
noncomputable def fX8_giftAt : CF := mth mX8_giftAt 2
def iX8_firstOf : List (Nat × Instr × Nat) := [(0, .iload_n 0, 1), (1, .bipush 8, 2), (3, .idiv, 1), (4, .ireturn, 1)]
noncomputable def mX8_firstOf : MI := (iX8_firstOf, [], [], [], [], (0, 0), 1)
noncomputable def fX8_firstOf : CF := mth mX8_firstOf 1
def iX8_lastOf : List (Nat × Instr × Nat) := [(0, .iload_n 0, 1), (1, .bipush 8, 2), (3, .irem, 1), (4, .ireturn, 1)]
noncomputable def mX8_lastOf : MI := (iX8_lastOf, [], [], [], [], (0, 0), 1)
noncomputable def fX8_lastOf : CF := mth mX8_lastOf 1
def iX8_isAlone : List (Nat × Instr × Nat) := [(0, .iload_n 0, 1), (1, .invokestatic 67, 3), (4, .iload_n 0, 1), (5, .invokestatic 83, 3), (8, .if_icmp .ne 7, 3), (11, .iconst 1, 1), (12, .goto 4, 3), (15, .iconst 0, 1), (16, .ireturn, 1)]
noncomputable def mX8_isAlone : MI := (iX8_isAlone, [], [], [(270, 1, 8, 0, 0, fX8_firstOf), (334, 1, 8, 0, 0, fX8_lastOf)], [], (0, 0), 2)
noncomputable def fX8_isAlone : CF := mth mX8_isAlone 1
def iX8_leadsTo : List (Nat × Instr × Nat) := [(0, .iload_n 2, 1), (1, .invokestatic 83, 3), (4, .istore 4, 2), (6, .iload_n 3, 1), (7, .invokestatic 67, 3), (10, .istore 5, 2), (12, .aload_n 1, 1), (13, .iload 4, 2), (15, .iload 5, 2), (17, .invokevirtual 86, 3), (20, .ifCond .ne 5, 3), (23, .iconst 0, 1), (24, .ireturn, 1), (25, .iload_n 2, 1), (26, .invokestatic 77, 3), (29, .ifCond .eq 12, 3), (32, .aload_n 1, 1), (33, .iload 5, 2), (35, .invokevirtual 52, 3), (38, .ifCond .ne 23, 3), (41, .iload_n 3, 1), (42, .invokestatic 77, 3), (45, .ifCond .eq 12, 3), (48, .aload_n 1, 1), (49, .iload 4, 2), (51, .invokevirtual 52, 3), (54, .ifCond .ne 7, 3), (57, .iconst 1, 1), (58, .goto 4, 3), (61, .iconst 0, 1), (62, .ireturn, 1)]
noncomputable def mX8_leadsTo : MI := (iX8_leadsTo, [], [], [(208, 2, 6, 0, 0, fX6_isWriter), (270, 1, 8, 0, 0, fX8_firstOf), (310, 1, 8, 0, 0, fX8_isAlone), (334, 1, 8, 0, 0, fX8_lastOf), (344, 3, 6, 0, 0, fX6_areInConflict)], [], (0, 0), 2)
noncomputable def fX8_leadsTo : CF := mth mX8_leadsTo 6
def iX8_countGiven : List (Nat × Instr × Nat) := [(0, .iload_n 1, 1), (1, .ifCond .lt 22, 3), (4, .iload_n 1, 1), (5, .aload_n 0, 1), (6, .getfield 15, 3), (9, .arraylength, 1), (10, .if_icmp .ge 13, 3), (13, .aload_n 0, 1), (14, .getfield 15, 3), (17, .iload_n 1, 1), (18, .dup2, 1), (19, .iaload, 1), (20, .iconst 1, 1), (21, .iadd, 1), (22, .iastore, 1), (23, .return_, 1)]
noncomputable def mX8_countGiven : MI := (iX8_countGiven, [(15, 8, 1)], [], [], [], (0, 0), 0)
noncomputable def fX8_countGiven : CF := mth mX8_countGiven 2
def iX8_findBegunWith : List (Nat × Instr × Nat) := [(0, .aload_n 1, 1), (1, .iload_n 2, 1), (2, .invokestatic 67, 3), (5, .invokevirtual 70, 3), (8, .istore 4, 2), (10, .aload_n 1, 1), (11, .iload_n 3, 1), (12, .invokestatic 67, 3), (15, .invokevirtual 70, 3), (18, .istore 5, 2), (20, .iload 4, 2), (22, .iload 5, 2), (24, .if_icmp .ge 13, 3), (27, .aload_n 0, 1), (28, .aload_n 1, 1), (29, .iload_n 2, 1), (30, .iload_n 3, 1), (31, .invokevirtual 73, 3), (34, .ifCond .ne 4, 3), (37, .return_, 1), (38, .iload_n 2, 1), (39, .invokestatic 77, 3), (42, .ifCond .ne 40, 3), (45, .iload_n 3, 1), (46, .invokestatic 77, 3), (49, .ifCond .ne 33, 3), (52, .aload_n 0, 1), (53, .aload_n 1, 1), (54, .iload_n 3, 1), (55, .iload_n 2, 1), (56, .invokevirtual 73, 3), (59, .ifCond .eq 23, 3), (62, .aload_n 0, 1), (63, .dup, 1), (64, .getfield 22, 3), (67, .iconst 1, 1), (68, .iadd, 1), (69, .putfield 22, 3), (72, .aload_n 0, 1), (73, .iload_n 2, 1), (74, .invokevirtual 80, 3), (77, .aload_n 0, 1), (78, .iload_n 3, 1), (79, .invokevirtual 80, 3), (82, .iconst 0, 1), (83, .istore 6, 2), (85, .iload 6, 2), (87, .aload_n 0, 1), (88, .getfield 18, 3), (91, .if_icmp .ge 90, 3), (94, .aload_n 0, 1), (95, .iload 6, 2), (97, .invokevirtual 35, 3), (100, .istore 7, 2), (102, .aload_n 1, 1), (103, .iload 7, 2), (105, .invokestatic 67, 3), (108, .invokevirtual 70, 3), (111, .istore 8, 2), (113, .iload 4, 2), (115, .iload 8, 2), (117, .if_icmp .ge 58, 3), (120, .iload 5, 2), (122, .iload 8, 2), (124, .if_icmp .eq 51, 3), (127, .aload_n 0, 1), (128, .aload_n 1, 1), (129, .iload_n 3, 1), (130, .iload 7, 2), (132, .invokevirtual 73, 3), (135, .ifCond .eq 40, 3), (138, .aload_n 0, 1), (139, .aload_n 1, 1), (140, .iload 7, 2), (142, .iload_n 2, 1), (143, .invokevirtual 73, 3), (146, .ifCond .eq 29, 3), (149, .aload_n 0, 1), (150, .dup, 1), (151, .getfield 22, 3), (154, .iconst 1, 1), (155, .iadd, 1), (156, .putfield 22, 3), (159, .aload_n 0, 1), (160, .iload_n 2, 1), (161, .invokevirtual 80, 3), (164, .aload_n 0, 1), (165, .iload_n 3, 1), (166, .invokevirtual 80, 3), (169, .aload_n 0, 1), (170, .iload 7, 2), (172, .invokevirtual 80, 3), (175, .iinc 6 1, 3), (178, .goto (-93), 3), (181, .return_, 1)]
noncomputable def mX8_findBegunWith : MI := (iX8_findBegunWith, [(18, 8, 2), (22, 8, 3)], [], [(140, 2, 8, 0, 0, fX8_giftAt), (270, 1, 8, 0, 0, fX8_firstOf), (280, 2, 6, 0, 0, fX6_threadOf), (292, 4, 8, 0, 0, fX8_leadsTo), (310, 1, 8, 0, 0, fX8_isAlone), (320, 2, 8, 0, 0, fX8_countGiven)], [], (0, 0), 0)
noncomputable def fX8_findBegunWith : CF := mth mX8_findBegunWith 9
def iX8_find : List (Nat × Instr × Nat) := [(0, .aload_n 0, 1), (1, .getfield 15, 3), (4, .iconst 0, 1), (5, .invokestatic 25, 3), (8, .aload_n 0, 1), (9, .iconst 0, 1), (10, .putfield 22, 3), (13, .aload_n 0, 1), (14, .aload_n 1, 1), (15, .invokevirtual 31, 3), (18, .iconst 0, 1), (19, .istore_n 2, 1), (20, .iload_n 2, 1), (21, .aload_n 0, 1), (22, .getfield 18, 3), (25, .if_icmp .ge 40, 3), (28, .iconst 0, 1), (29, .istore_n 3, 1), (30, .iload_n 3, 1), (31, .aload_n 0, 1), (32, .getfield 18, 3), (35, .if_icmp .ge 24, 3), (38, .aload_n 0, 1), (39, .aload_n 1, 1), (40, .aload_n 0, 1), (41, .iload_n 2, 1), (42, .invokevirtual 35, 3), (45, .aload_n 0, 1), (46, .iload_n 3, 1), (47, .invokevirtual 35, 3), (50, .invokevirtual 39, 3), (53, .iinc 3 1, 3), (56, .goto (-26), 3), (59, .iinc 2 1, 3), (62, .goto (-42), 3), (65, .return_, 1)]
noncomputable def mX8_find : MI := (iX8_find, [(15, 8, 1), (18, 8, 2), (22, 8, 3)], [], [(102, 2, 99, 0, 0, fJ7_fill_53178), (124, 2, 8, 0, 0, fX8_gatherGifts), (140, 2, 8, 0, 0, fX8_giftAt), (156, 4, 8, 0, 0, fX8_findBegunWith)], [], (0, 0), 0)
noncomputable def fX8_find : CF := mth mX8_find 4
def iX9_setFence : List (Nat × Instr × Nat) := [(0, .aload_n 0, 1), (1, .iload_n 2, 1), (2, .ifCond .eq 14, 3), (5, .aload_n 0, 1), (6, .getfield 24, 3), (9, .iconst 1, 1), (10, .iload_n 1, 1), (11, .ishl, 1), (12, .ior, 1), (13, .goto 13, 3), (16, .aload_n 0, 1), (17, .getfield 24, 3), (20, .iconst 1, 1), (21, .iload_n 1, 1), (22, .ishl, 1), (23, .iconst (-1), 1), (24, .ixor, 1), (25, .iand, 1), (26, .putfield 24, 3), (29, .return_, 1)]
noncomputable def mX9_setFence : MI := (iX9_setFence, [(24, 9, 1)], [], [], [], (0, 0), 0)
noncomputable def fX9_setFence : CF := mth mX9_setFence 3
def iX9_setCost : List (Nat × Instr × Nat) := [(0, .iload_n 1, 1), (1, .ifCond .lt 19, 3), (4, .iload_n 1, 1), (5, .aload_n 0, 1), (6, .getfield 9, 3), (9, .arraylength, 1), (10, .if_icmp .ge 10, 3), (13, .aload_n 0, 1), (14, .getfield 9, 3), (17, .iload_n 1, 1), (18, .iload_n 2, 1), (19, .iastore, 1), (20, .return_, 1)]
noncomputable def mX9_setCost : MI := (iX9_setCost, [(9, 9, 0)], [], [], [], (0, 0), 0)
noncomputable def fX9_setCost : CF := mth mX9_setCost 3
def iX10_init : List (Nat × Instr × Nat) := [(0, .aload_n 0, 1), (1, .invokespecial 3, 3), (4, .aload_n 0, 1), (5, .bipush 120, 2), (7, .newarray .int, 2), (9, .putfield 9, 3), (12, .aload_n 0, 1), (13, .iconst 0, 1), (14, .putfield 15, 3), (17, .return_, 1)]
noncomputable def mX10_init : MI := (iX10_init, [(9, 10, 0), (15, 10, 1)], [], [(13, 1, 99, 0, 0, fObj)], [], (1, 120), 0)
noncomputable def fX10_init : CF := mth mX10_init 1
def iX10_add : List (Nat × Instr × Nat) := [(0, .aload_n 0, 1), (1, .getfield 15, 3), (4, .ifCond .lt 15, 3), (7, .aload_n 0, 1), (8, .getfield 15, 3), (11, .aload_n 0, 1), (12, .getfield 9, 3), (15, .arraylength, 1), (16, .if_icmp .lt 5, 3), (19, .iconst 0, 1), (20, .ireturn, 1), (21, .aload_n 0, 1), (22, .getfield 9, 3), (25, .aload_n 0, 1), (26, .getfield 15, 3), (29, .iload_n 1, 1), (30, .iastore, 1), (31, .aload_n 0, 1), (32, .dup, 1), (33, .getfield 15, 3), (36, .iconst 1, 1), (37, .iadd, 1), (38, .putfield 15, 3), (41, .iconst 1, 1), (42, .ireturn, 1)]
noncomputable def mX10_add : MI := (iX10_add, [(9, 10, 0), (15, 10, 1)], [], [], [], (0, 0), 2)
noncomputable def fX10_add : CF := mth mX10_add 2
def iX10_clear : List (Nat × Instr × Nat) := [(0, .aload_n 0, 1), (1, .iconst 0, 1), (2, .putfield 15, 3), (5, .return_, 1)]
noncomputable def mX10_clear : MI := (iX10_clear, [(15, 10, 1)], [], [], [], (0, 0), 0)
noncomputable def fX10_clear : CF := mth mX10_clear 1
def iX11_init : List (Nat × Instr × Nat) := [(0, .aload_n 0, 1), (1, .invokespecial 1, 3), (4, .aload_n 0, 1), (5, .new 7, 3), (8, .dup, 1), (9, .invokespecial 9, 3), (12, .putfield 10, 3), (15, .aload_n 0, 1), (16, .new 16, 3), (19, .dup, 1), (20, .invokespecial 18, 3), (23, .putfield 19, 3), (26, .aload_n 0, 1), (27, .new 23, 3), (30, .dup, 1), (31, .invokespecial 25, 3), (34, .putfield 26, 3), (37, .aload_n 0, 1), (38, .new 23, 3), (41, .dup, 1), (42, .invokespecial 25, 3), (45, .putfield 30, 3), (48, .aload_n 0, 1), (49, .new 33, 3), (52, .dup, 1), (53, .invokespecial 35, 3), (56, .putfield 36, 3), (59, .aload_n 0, 1), (60, .new 40, 3), (63, .dup, 1), (64, .invokespecial 42, 3), (67, .putfield 43, 3), (70, .aload_n 0, 1), (71, .new 47, 3), (74, .dup, 1), (75, .invokespecial 49, 3), (78, .putfield 50, 3), (81, .aload_n 0, 1), (82, .new 54, 3), (85, .dup, 1), (86, .invokespecial 56, 3), (89, .putfield 57, 3), (92, .aload_n 0, 1), (93, .iconst 2, 1), (94, .anewarray 61, 3), (97, .putfield 63, 3), (100, .iconst 0, 1), (101, .istore_n 1, 1), (102, .iload_n 1, 1), (103, .aload_n 0, 1), (104, .getfield 63, 3), (107, .arraylength, 1), (108, .if_icmp .ge 22, 3), (111, .aload_n 0, 1), (112, .getfield 63, 3), (115, .iload_n 1, 1), (116, .new 61, 3), (119, .dup, 1), (120, .invokespecial 67, 3), (123, .aastore, 1), (124, .iinc 1 1, 3), (127, .goto (-25), 3), (130, .aload_n 0, 1), (131, .new 68, 3), (134, .dup, 1), (135, .invokespecial 70, 3), (138, .putfield 71, 3), (141, .aload_n 0, 1), (142, .new 75, 3), (145, .dup, 1), (146, .invokespecial 77, 3), (149, .putfield 78, 3), (152, .aload_n 0, 1), (153, .new 82, 3), (156, .dup, 1), (157, .invokespecial 84, 3), (160, .putfield 85, 3), (163, .aload_n 0, 1), (164, .new 82, 3), (167, .dup, 1), (168, .invokespecial 84, 3), (171, .putfield 89, 3), (174, .aload_n 0, 1), (175, .iconst 0, 1), (176, .putfield 92, 3), (179, .aload_n 0, 1), (180, .iconst 0, 1), (181, .putfield 96, 3), (184, .aload_n 0, 1), (185, .iconst 0, 1), (186, .putfield 100, 3), (189, .aload_n 0, 1), (190, .iconst 0, 1), (191, .putfield 103, 3), (194, .aload_n 0, 1), (195, .iconst 0, 1), (196, .putfield 106, 3), (199, .aload_n 0, 1), (200, .iconst (-1), 1), (201, .putfield 109, 3), (204, .return_, 1)]
noncomputable def mX11_init : MI := (iX11_init, [(10, 11, 0), (19, 11, 1), (26, 11, 2), (30, 11, 3), (36, 11, 4), (43, 11, 5), (50, 11, 6), (57, 11, 7), (63, 11, 8), (71, 11, 9), (78, 11, 10), (85, 11, 11), (89, 11, 12), (92, 11, 13), (96, 11, 14), (100, 11, 15), (103, 11, 16), (106, 11, 17), (109, 11, 18)], [], [(5, 1, 99, 0, 0, fObj), (37, 1, 10, 1, 120, fX10_init), (73, 1, 5, 0, 0, fX5_init), (101, 1, 6, 2, 16, fX6_init), (141, 1, 8, 2, 100, fX8_init), (169, 1, 3, 1, 28, fX3_init), (197, 1, 9, 1, 8, fX9_init), (225, 1, 1, 41, 240, fX1_init), (269, 1, 2, 2, 11, fX2_init), (281, 1, 0, 1, 20, fX0_init), (309, 1, 4, 5, 2064, fX4_init), (337, 1, 7, 1, 256, fX7_init)], [(7, 10), (16, 5), (23, 6), (33, 8), (40, 3), (47, 9), (54, 1), (61, 2), (68, 0), (75, 4), (82, 7)], (77, 3197), 0)
noncomputable def fX11_init : CF := mth mX11_init 2
def iX11_feed : List (Nat × Instr × Nat) := [(0, .iload_n 1, 1), (1, .ifCond .lt 10, 3), (4, .iload_n 1, 1), (5, .sipush 255, 3), (8, .if_icmp .le 6, 3), (11, .ldc 112, 2), (13, .ireturn, 1), (14, .aload_n 0, 1), (15, .getfield 10, 3), (18, .iload_n 1, 1), (19, .invokevirtual 113, 3), (22, .ifCond .eq 13, 3), (25, .aload_n 0, 1), (26, .getfield 10, 3), (29, .getfield 117, 3), (32, .goto 5, 3), (35, .ldc 120, 2), (37, .ireturn, 1)]
noncomputable def mX11_feed : MI := (iX11_feed, [(10, 11, 0), (117, 10, 1)], [(112, .int (-1000000002)), (120, .int (-1000000004))], [(452, 2, 10, 0, 0, fX10_add)], [], (0, 0), 1)
noncomputable def fX11_feed : CF := mth mX11_feed 2
def iX11_startAnew : List (Nat × Instr × Nat) := [(0, .aload_n 0, 1), (1, .getfield 36, 3), (4, .aload_n 0, 1), (5, .getfield 26, 3), (8, .invokevirtual 276, 3), (11, .aload_n 0, 1), (12, .getfield 50, 3), (15, .invokevirtual 280, 3), (18, .aload_n 0, 1), (19, .getfield 57, 3), (22, .invokevirtual 265, 3), (25, .iconst 0, 1), (26, .istore_n 1, 1), (27, .iload_n 1, 1), (28, .aload_n 0, 1), (29, .getfield 63, 3), (32, .arraylength, 1), (33, .if_icmp .ge 19, 3), (36, .aload_n 0, 1), (37, .getfield 63, 3), (40, .iload_n 1, 1), (41, .aaload, 1), (42, .iconst 0, 1), (43, .putfield 266, 3), (46, .iinc 1 1, 3), (49, .goto (-22), 3), (52, .aload_n 0, 1), (53, .getfield 71, 3), (56, .invokevirtual 260, 3), (59, .aload_n 0, 1), (60, .iconst 0, 1), (61, .putfield 92, 3), (64, .aload_n 0, 1), (65, .iconst 0, 1), (66, .putfield 103, 3), (69, .return_, 1)]
noncomputable def mX11_startAnew : MI := (iX11_startAnew, [(26, 11, 2), (36, 11, 4), (50, 11, 6), (57, 11, 7), (63, 11, 8), (71, 11, 9), (92, 11, 13), (103, 11, 16), (266, 2, 2)], [], [(1040, 1, 0, 0, 0, fX0_clear), (1060, 1, 1, 0, 0, fX1_clear), (1104, 2, 8, 0, 0, fX8_find), (1120, 1, 9, 0, 0, fX9_clear)], [], (0, 0), 0)
noncomputable def fX11_startAnew : CF := mth mX11_startAnew 2
def iX11_threads : List (Nat × Instr × Nat) := [(0, .aload_n 0, 1), (1, .getfield 19, 3), (4, .aload_n 0, 1), (5, .getfield 10, 3), (8, .aload_n 0, 1), (9, .getfield 30, 3), (12, .invokevirtual 121, 3), (15, .istore_n 1, 1), (16, .aload_n 0, 1), (17, .aload_n 0, 1), (18, .getfield 19, 3), (21, .getfield 125, 3), (24, .putfield 109, 3), (27, .aload_n 0, 1), (28, .getfield 10, 3), (31, .invokevirtual 126, 3), (34, .iload_n 1, 1), (35, .ifCond .eq 8, 3), (38, .bipush (-10), 2), (40, .iload_n 1, 1), (41, .isub, 1), (42, .ireturn, 1), (43, .aload_n 0, 1), (44, .getfield 26, 3), (47, .astore_n 2, 1), (48, .aload_n 0, 1), (49, .aload_n 0, 1), (50, .getfield 30, 3), (53, .putfield 26, 3), (56, .aload_n 0, 1), (57, .aload_n 2, 1), (58, .putfield 30, 3), (61, .aload_n 0, 1), (62, .invokevirtual 129, 3), (65, .aload_n 0, 1), (66, .getfield 26, 3), (69, .getfield 132, 3), (72, .ireturn, 1)]
noncomputable def mX11_threads : MI := (iX11_threads, [(10, 11, 0), (19, 11, 1), (26, 11, 2), (30, 11, 3), (109, 11, 18), (125, 5, 0), (132, 6, 3)], [], [(484, 3, 5, 0, 0, fX5_parse), (504, 1, 10, 0, 0, fX10_clear), (516, 1, 11, 0, 0, fX11_startAnew)], [], (0, 0), 1)
noncomputable def fX11_threads : CF := mth mX11_threads 3
def iX11_fault : List (Nat × Instr × Nat) := [(0, .aload_n 0, 1), (1, .getfield 109, 3), (4, .ireturn, 1)]
noncomputable def mX11_fault : MI := (iX11_fault, [(109, 11, 18)], [], [], [], (0, 0), 1)
noncomputable def fX11_fault : CF := mth mX11_fault 1
def iX11_readingsNow : List (Nat × Instr × Nat) := [(0, .aload_n 0, 1), (1, .getfield 92, 3), (4, .ifCond .eq 31, 3), (7, .aload_n 0, 1), (8, .getfield 96, 3), (11, .aload_n 0, 1), (12, .getfield 50, 3), (15, .getfield 141, 3), (18, .if_icmp .ne 17, 3), (21, .aload_n 0, 1), (22, .getfield 100, 3), (25, .aload_n 0, 1), (26, .getfield 50, 3), (29, .getfield 138, 3), (32, .if_icmp .eq 59, 3), (35, .aload_n 0, 1), (36, .getfield 78, 3), (39, .aload_n 0, 1), (40, .getfield 26, 3), (43, .aload_n 0, 1), (44, .getfield 50, 3), (47, .getfield 141, 3), (50, .aload_n 0, 1), (51, .getfield 50, 3), (54, .getfield 138, 3), (57, .aload_n 0, 1), (58, .getfield 85, 3), (61, .invokevirtual 293, 3), (64, .aload_n 0, 1), (65, .iconst 1, 1), (66, .putfield 92, 3), (69, .aload_n 0, 1), (70, .aload_n 0, 1), (71, .getfield 50, 3), (74, .getfield 141, 3), (77, .putfield 96, 3), (80, .aload_n 0, 1), (81, .aload_n 0, 1), (82, .getfield 50, 3), (85, .getfield 138, 3), (88, .putfield 100, 3), (91, .aload_n 0, 1), (92, .getfield 85, 3), (95, .areturn, 1)]
noncomputable def mX11_readingsNow : MI := (iX11_readingsNow, [(26, 11, 2), (50, 11, 6), (78, 11, 10), (85, 11, 11), (92, 11, 13), (96, 11, 14), (100, 11, 15), (138, 9, 2), (141, 9, 1)], [], [(1172, 5, 4, 0, 0, fX4_findReadings)], [], (0, 0), 4)
noncomputable def fX11_readingsNow : CF := mth mX11_readingsNow 1
def iX11_strictNow : List (Nat × Instr × Nat) := [(0, .aload_n 0, 1), (1, .getfield 103, 3), (4, .ifCond .ne 25, 3), (7, .aload_n 0, 1), (8, .getfield 78, 3), (11, .aload_n 0, 1), (12, .getfield 26, 3), (15, .iconst 0, 1), (16, .iconst 0, 1), (17, .aload_n 0, 1), (18, .getfield 89, 3), (21, .invokevirtual 293, 3), (24, .aload_n 0, 1), (25, .iconst 1, 1), (26, .putfield 103, 3), (29, .aload_n 0, 1), (30, .getfield 89, 3), (33, .areturn, 1)]
noncomputable def mX11_strictNow : MI := (iX11_strictNow, [(26, 11, 2), (78, 11, 10), (89, 11, 12), (103, 11, 16)], [], [(1172, 5, 4, 0, 0, fX4_findReadings)], [], (0, 0), 4)
noncomputable def fX11_strictNow : CF := mth mX11_strictNow 1
def iX11_looseNow : List (Nat × Instr × Nat) := [(0, .aload_n 0, 1), (1, .getfield 43, 3), (4, .aload_n 0, 1), (5, .getfield 26, 3), (8, .aload_n 0, 1), (9, .getfield 36, 3), (12, .aload_n 0, 1), (13, .getfield 50, 3), (16, .getfield 138, 3), (19, .invokevirtual 297, 3), (22, .aload_n 0, 1), (23, .getfield 43, 3), (26, .areturn, 1)]
noncomputable def mX11_looseNow : MI := (iX11_looseNow, [(26, 11, 2), (36, 11, 4), (43, 11, 5), (50, 11, 6), (138, 9, 2)], [], [(1188, 4, 3, 0, 0, fX3_gather)], [], (0, 0), 4)
noncomputable def fX11_looseNow : CF := mth mX11_looseNow 1
def iX11_bestSet : List (Nat × Instr × Nat) := [(0, .aload_n 0, 1), (1, .invokevirtual 163, 3), (4, .aload_n 0, 1), (5, .getfield 26, 3), (8, .getfield 301, 3), (11, .aload_n 0, 1), (12, .getfield 50, 3), (15, .invokevirtual 304, 3), (18, .ireturn, 1)]
noncomputable def mX11_bestSet : MI := (iX11_bestSet, [(26, 11, 2), (50, 11, 6), (301, 6, 5)], [], [(652, 1, 11, 0, 0, fX11_looseNow), (1216, 3, 3, 0, 0, fX3_cheapestSet)], [], (0, 0), 1)
noncomputable def fX11_bestSet : CF := mth mX11_bestSet 1
def iX11_told : List (Nat × Instr × Nat) := [(0, .iload_n 1, 1), (1, .tableswitch 288 0 18 #[91, 99, 107, 115, 123, 131, 146, 154, 162, 174, 182, 190, 205, 228, 233, 245, 260, 268, 280], 91), (92, .aload_n 0, 1), (93, .getfield 26, 3), (96, .getfield 135, 3), (99, .ireturn, 1), (100, .aload_n 0, 1), (101, .getfield 26, 3), (104, .getfield 132, 3), (107, .ireturn, 1), (108, .aload_n 0, 1), (109, .getfield 10, 3), (112, .getfield 117, 3), (115, .ireturn, 1), (116, .aload_n 0, 1), (117, .getfield 50, 3), (120, .getfield 138, 3), (123, .ireturn, 1), (124, .aload_n 0, 1), (125, .getfield 50, 3), (128, .getfield 141, 3), (131, .ireturn, 1), (132, .aload_n 0, 1), (133, .getfield 50, 3), (136, .aload_n 0, 1), (137, .getfield 50, 3), (140, .getfield 141, 3), (143, .invokevirtual 144, 3), (146, .ireturn, 1), (147, .aload_n 0, 1), (148, .invokevirtual 148, 3), (151, .getfield 152, 3), (154, .ireturn, 1), (155, .aload_n 0, 1), (156, .invokevirtual 155, 3), (159, .getfield 152, 3), (162, .ireturn, 1), (163, .aload_n 0, 1), (164, .invokevirtual 148, 3), (167, .aload_n 0, 1), (168, .invokevirtual 155, 3), (171, .invokevirtual 158, 3), (174, .ireturn, 1), (175, .aload_n 0, 1), (176, .getfield 36, 3), (179, .getfield 162, 3), (182, .ireturn, 1), (183, .aload_n 0, 1), (184, .invokevirtual 163, 3), (187, .getfield 167, 3), (190, .ireturn, 1), (191, .aload_n 0, 1), (192, .invokevirtual 163, 3), (195, .aload_n 0, 1), (196, .getfield 50, 3), (199, .getfield 141, 3), (202, .invokevirtual 168, 3), (205, .ireturn, 1), (206, .aload_n 0, 1), (207, .invokevirtual 163, 3), (210, .aload_n 0, 1), (211, .getfield 50, 3), (214, .getfield 141, 3), (217, .invokevirtual 171, 3), (220, .ifCond .eq 7, 3), (223, .iconst 1, 1), (224, .goto 4, 3), (227, .iconst 0, 1), (228, .ireturn, 1), (229, .aload_n 0, 1), (230, .invokevirtual 174, 3), (233, .ireturn, 1), (234, .aload_n 0, 1), (235, .getfield 50, 3), (238, .aload_n 0, 1), (239, .invokevirtual 174, 3), (242, .invokevirtual 144, 3), (245, .ireturn, 1), (246, .aload_n 0, 1), (247, .invokevirtual 163, 3), (250, .aload_n 0, 1), (251, .getfield 50, 3), (254, .getfield 141, 3), (257, .invokevirtual 178, 3), (260, .ireturn, 1), (261, .aload_n 0, 1), (262, .getfield 71, 3), (265, .getfield 181, 3), (268, .ireturn, 1), (269, .aload_n 0, 1), (270, .getfield 71, 3), (273, .aload_n 0, 1), (274, .invokevirtual 148, 3), (277, .invokevirtual 182, 3), (280, .ireturn, 1), (281, .aload_n 0, 1), (282, .getfield 57, 3), (285, .getfield 185, 3), (288, .ireturn, 1), (289, .ldc 112, 2), (291, .ireturn, 1)]
noncomputable def mX11_told : MI := (iX11_told, [(10, 11, 0), (26, 11, 2), (36, 11, 4), (50, 11, 6), (57, 11, 7), (71, 11, 9), (117, 10, 1), (132, 6, 3), (135, 6, 2), (138, 9, 2), (141, 9, 1), (152, 7, 1), (162, 8, 3), (167, 3, 1), (181, 0, 2), (185, 1, 2)], [(112, .int (-1000000002))], [(576, 2, 9, 0, 0, fX9_costOfSet), (592, 1, 11, 0, 0, fX11_readingsNow), (620, 1, 11, 0, 0, fX11_strictNow), (632, 2, 7, 0, 0, fX7_countWithout), (652, 1, 11, 0, 0, fX11_looseNow), (672, 2, 3, 0, 0, fX3_countHeld), (684, 2, 3, 0, 0, fX3_areAllHeld), (696, 1, 11, 0, 0, fX11_bestSet), (712, 2, 3, 0, 0, fX3_neededOf), (728, 2, 0, 0, 0, fX0_firstWrong)], [], (0, 0), 1)
noncomputable def fX11_told : CF := mth mX11_told 2
def iX11_step : List (Nat × Instr × Nat) := [(0, .aload_n 0, 1), (1, .getfield 26, 3), (4, .iload_n 1, 1), (5, .invokevirtual 186, 3), (8, .ifCond .ne 6, 3), (11, .ldc 189, 2), (13, .ireturn, 1), (14, .iload_n 2, 1), (15, .tableswitch 158 0 6 #[41, 50, 59, 76, 100, 126, 149], 41), (56, .aload_n 0, 1), (57, .getfield 26, 3), (60, .iload_n 1, 1), (61, .invokevirtual 190, 3), (64, .ireturn, 1), (65, .aload_n 0, 1), (66, .getfield 26, 3), (69, .iload_n 1, 1), (70, .invokevirtual 193, 3), (73, .ireturn, 1), (74, .aload_n 0, 1), (75, .getfield 26, 3), (78, .iload_n 1, 1), (79, .invokevirtual 196, 3), (82, .ifCond .eq 7, 3), (85, .iconst 1, 1), (86, .goto 4, 3), (89, .iconst 0, 1), (90, .ireturn, 1), (91, .aload_n 0, 1), (92, .getfield 26, 3), (95, .iload_n 1, 1), (96, .invokevirtual 199, 3), (99, .ifCond .eq 14, 3), (102, .aload_n 0, 1), (103, .getfield 50, 3), (106, .iload_n 1, 1), (107, .invokevirtual 202, 3), (110, .goto 4, 3), (113, .iconst (-1), 1), (114, .ireturn, 1), (115, .aload_n 0, 1), (116, .getfield 26, 3), (119, .iload_n 1, 1), (120, .invokevirtual 199, 3), (123, .ifCond .eq 16, 3), (126, .aload_n 0, 1), (127, .invokevirtual 163, 3), (130, .iconst 1, 1), (131, .iload_n 1, 1), (132, .ishl, 1), (133, .invokevirtual 168, 3), (136, .goto 4, 3), (139, .iconst (-1), 1), (140, .ireturn, 1), (141, .aload_n 0, 1), (142, .getfield 26, 3), (145, .iload_n 1, 1), (146, .aload_n 0, 1), (147, .getfield 50, 3), (150, .getfield 141, 3), (153, .aload_n 0, 1), (154, .getfield 50, 3), (157, .getfield 138, 3), (160, .invokevirtual 205, 3), (163, .ireturn, 1), (164, .aload_n 0, 1), (165, .getfield 26, 3), (168, .iload_n 1, 1), (169, .invokevirtual 209, 3), (172, .ireturn, 1), (173, .ldc 112, 2), (175, .ireturn, 1)]
noncomputable def mX11_step : MI := (iX11_step, [(26, 11, 2), (50, 11, 6), (138, 9, 2), (141, 9, 1)], [(112, .int (-1000000002)), (189, .int (-1000000001))], [(652, 1, 11, 0, 0, fX11_looseNow), (672, 2, 3, 0, 0, fX3_countHeld), (744, 2, 6, 0, 0, fX6_hasStep), (760, 2, 6, 0, 0, fX6_threadOf), (772, 2, 6, 0, 0, fX6_cellOf), (784, 2, 6, 0, 0, fX6_isWriter), (796, 2, 6, 0, 0, fX6_hasGap), (808, 2, 9, 0, 0, fX9_costOf), (820, 4, 6, 0, 0, fX6_waitsOf), (836, 2, 6, 0, 0, fX6_conflictsOf)], [], (0, 0), 1)
noncomputable def fX11_step : CF := mth mX11_step 3
def iX11_pair : List (Nat × Instr × Nat) := [(0, .aload_n 0, 1), (1, .getfield 26, 3), (4, .iload_n 1, 1), (5, .invokevirtual 186, 3), (8, .ifCond .eq 19, 3), (11, .aload_n 0, 1), (12, .getfield 26, 3), (15, .iload_n 2, 1), (16, .invokevirtual 186, 3), (19, .ifCond .eq 8, 3), (22, .iload_n 1, 1), (23, .iload_n 2, 1), (24, .if_icmp .ne 6, 3), (27, .ldc 189, 2), (29, .ireturn, 1), (30, .iload_n 3, 1), (31, .ifCond .lt 8, 3), (34, .iload_n 3, 1), (35, .iconst 3, 1), (36, .if_icmp .le 6, 3), (39, .ldc 112, 2), (41, .ireturn, 1), (42, .aload_n 0, 1), (43, .getfield 26, 3), (46, .iload_n 1, 1), (47, .iload_n 2, 1), (48, .invokevirtual 212, 3), (51, .ifCond .ne 6, 3), (54, .ldc 216, 2), (56, .ireturn, 1), (57, .aload_n 0, 1), (58, .getfield 36, 3), (61, .iload_n 1, 1), (62, .iload_n 2, 1), (63, .invokevirtual 217, 3), (66, .istore 4, 2), (68, .iload_n 3, 1), (69, .tableswitch 95 0 2 #[27, 38, 68], 27), (96, .iload 4, 2), (98, .ifCond .le 7, 3), (101, .iconst 1, 1), (102, .goto 4, 3), (105, .iconst 0, 1), (106, .ireturn, 1), (107, .iload 4, 2), (109, .ifCond .le 26, 3), (112, .aload_n 0, 1), (113, .getfield 26, 3), (116, .iload_n 1, 1), (117, .iload_n 2, 1), (118, .aload_n 0, 1), (119, .getfield 50, 3), (122, .getfield 138, 3), (125, .invokevirtual 221, 3), (128, .ifCond .eq 7, 3), (131, .iconst 1, 1), (132, .goto 4, 3), (135, .iconst 0, 1), (136, .ireturn, 1), (137, .iload 4, 2), (139, .ifCond .le 23, 3), (142, .aload_n 0, 1), (143, .getfield 50, 3), (146, .getfield 141, 3), (149, .iload_n 1, 1), (150, .iload_n 2, 1), (151, .invokestatic 225, 3), (154, .iand, 1), (155, .ifCond .eq 7, 3), (158, .iconst 1, 1), (159, .goto 4, 3), (162, .iconst 0, 1), (163, .ireturn, 1), (164, .iload 4, 2), (166, .ireturn, 1)]
noncomputable def mX11_pair : MI := (iX11_pair, [(26, 11, 2), (36, 11, 4), (50, 11, 6), (138, 9, 2), (141, 9, 1)], [(112, .int (-1000000002)), (189, .int (-1000000001)), (216, .int (-1000000003))], [(744, 2, 6, 0, 0, fX6_hasStep), (848, 3, 6, 0, 0, fX6_isAhead), (868, 3, 8, 0, 0, fX8_countWith), (884, 4, 6, 0, 0, fX6_mayOvertake), (902, 2, 11, 0, 0, fX11_gapsBetween)], [], (0, 0), 1)
noncomputable def fX11_pair : CF := mth mX11_pair 5
def iX11_reading : List (Nat × Instr × Nat) := [(0, .iload_n 2, 1), (1, .tableswitch 58 0 2 #[27, 36, 45], 27), (28, .aload_n 0, 1), (29, .invokevirtual 148, 3), (32, .iload_n 1, 1), (33, .invokevirtual 228, 3), (36, .ireturn, 1), (37, .aload_n 0, 1), (38, .invokevirtual 155, 3), (41, .iload_n 1, 1), (42, .invokevirtual 228, 3), (45, .ireturn, 1), (46, .aload_n 0, 1), (47, .invokevirtual 148, 3), (50, .iload_n 1, 1), (51, .aload_n 0, 1), (52, .invokevirtual 155, 3), (55, .invokevirtual 231, 3), (58, .ireturn, 1), (59, .ldc 112, 2), (61, .ireturn, 1)]
noncomputable def mX11_reading : MI := (iX11_reading, [], [(112, .int (-1000000002))], [(592, 1, 11, 0, 0, fX11_readingsNow), (620, 1, 11, 0, 0, fX11_strictNow), (912, 2, 7, 0, 0, fX7_at), (924, 3, 7, 0, 0, fX7_atWithout)], [], (0, 0), 1)
noncomputable def fX11_reading : CF := mth mX11_reading 3
def iX11_can : List (Nat × Instr × Nat) := [(0, .aload_n 0, 1), (1, .invokevirtual 155, 3), (4, .iload_n 1, 1), (5, .invokevirtual 235, 3), (8, .ifCond .eq 5, 3), (11, .iconst 2, 1), (12, .ireturn, 1), (13, .aload_n 0, 1), (14, .invokevirtual 148, 3), (17, .iload_n 1, 1), (18, .invokevirtual 235, 3), (21, .ifCond .eq 7, 3), (24, .iconst 1, 1), (25, .goto 4, 3), (28, .iconst 0, 1), (29, .ireturn, 1)]
noncomputable def mX11_can : MI := (iX11_can, [], [], [(592, 1, 11, 0, 0, fX11_readingsNow), (620, 1, 11, 0, 0, fX11_strictNow), (940, 2, 7, 0, 0, fX7_holds)], [], (0, 0), 1)
noncomputable def fX11_can : CF := mth mX11_can 2
def iX11_fence : List (Nat × Instr × Nat) := [(0, .aload_n 0, 1), (1, .getfield 26, 3), (4, .iload_n 1, 1), (5, .invokevirtual 199, 3), (8, .ifCond .ne 6, 3), (11, .ldc 189, 2), (13, .ireturn, 1), (14, .aload_n 0, 1), (15, .getfield 57, 3), (18, .aload_n 0, 1), (19, .getfield 50, 3), (22, .invokevirtual 238, 3), (25, .aload_n 0, 1), (26, .getfield 50, 3), (29, .iload_n 1, 1), (30, .iload_n 2, 1), (31, .invokevirtual 241, 3), (34, .aload_n 0, 1), (35, .getfield 50, 3), (38, .aload_n 0, 1), (39, .getfield 50, 3), (42, .getfield 141, 3), (45, .invokevirtual 144, 3), (48, .ireturn, 1)]
noncomputable def mX11_fence : MI := (iX11_fence, [(26, 11, 2), (50, 11, 6), (57, 11, 7), (141, 9, 1)], [(189, .int (-1000000001))], [(576, 2, 9, 0, 0, fX9_costOfSet), (796, 2, 6, 0, 0, fX6_hasGap), (952, 2, 1, 0, 0, fX1_add), (964, 3, 9, 0, 0, fX9_setFence)], [], (0, 0), 1)
noncomputable def fX11_fence : CF := mth mX11_fence 3
def iX11_cost : List (Nat × Instr × Nat) := [(0, .aload_n 0, 1), (1, .getfield 26, 3), (4, .iload_n 1, 1), (5, .invokevirtual 199, 3), (8, .ifCond .ne 6, 3), (11, .ldc 189, 2), (13, .ireturn, 1), (14, .iload_n 2, 1), (15, .iconst 1, 1), (16, .if_icmp .lt 9, 3), (19, .iload_n 2, 1), (20, .bipush 9, 2), (22, .if_icmp .le 6, 3), (25, .ldc 112, 2), (27, .ireturn, 1), (28, .aload_n 0, 1), (29, .getfield 50, 3), (32, .iload_n 1, 1), (33, .invokevirtual 202, 3), (36, .istore_n 3, 1), (37, .aload_n 0, 1), (38, .getfield 57, 3), (41, .aload_n 0, 1), (42, .getfield 50, 3), (45, .invokevirtual 238, 3), (48, .aload_n 0, 1), (49, .getfield 50, 3), (52, .iload_n 1, 1), (53, .iload_n 2, 1), (54, .invokevirtual 245, 3), (57, .iload_n 3, 1), (58, .ireturn, 1)]
noncomputable def mX11_cost : MI := (iX11_cost, [(26, 11, 2), (50, 11, 6), (57, 11, 7)], [(112, .int (-1000000002)), (189, .int (-1000000001))], [(796, 2, 6, 0, 0, fX6_hasGap), (808, 2, 9, 0, 0, fX9_costOf), (952, 2, 1, 0, 0, fX1_add), (980, 3, 9, 0, 0, fX9_setCost)], [], (0, 0), 1)
noncomputable def fX11_cost : CF := mth mX11_cost 4
def iX11_overtaking : List (Nat × Instr × Nat) := [(0, .iload_n 1, 1), (1, .ifCond .lt 9, 3), (4, .iload_n 1, 1), (5, .bipush 15, 2), (7, .if_icmp .le 6, 3), (10, .ldc 112, 2), (12, .ireturn, 1), (13, .aload_n 0, 1), (14, .getfield 57, 3), (17, .aload_n 0, 1), (18, .getfield 50, 3), (21, .invokevirtual 238, 3), (24, .aload_n 0, 1), (25, .getfield 50, 3), (28, .iload_n 1, 1), (29, .putfield 138, 3), (32, .aload_n 0, 1), (33, .invokevirtual 148, 3), (36, .getfield 152, 3), (39, .ireturn, 1)]
noncomputable def mX11_overtaking : MI := (iX11_overtaking, [(50, 11, 6), (57, 11, 7), (138, 9, 2), (152, 7, 1)], [(112, .int (-1000000002))], [(592, 1, 11, 0, 0, fX11_readingsNow), (952, 2, 1, 0, 0, fX1_add)], [], (0, 0), 1)
noncomputable def fX11_overtaking : CF := mth mX11_overtaking 2
def iX11_best : List (Nat × Instr × Nat) := [(0, .aload_n 0, 1), (1, .invokevirtual 174, 3), (4, .istore_n 1, 1), (5, .aload_n 0, 1), (6, .getfield 57, 3), (9, .aload_n 0, 1), (10, .getfield 50, 3), (13, .invokevirtual 238, 3), (16, .aload_n 0, 1), (17, .getfield 50, 3), (20, .iload_n 1, 1), (21, .putfield 141, 3), (24, .aload_n 0, 1), (25, .getfield 50, 3), (28, .iload_n 1, 1), (29, .invokevirtual 144, 3), (32, .ireturn, 1)]
noncomputable def mX11_best : MI := (iX11_best, [(50, 11, 6), (57, 11, 7), (141, 9, 1)], [], [(576, 2, 9, 0, 0, fX9_costOfSet), (696, 1, 11, 0, 0, fX11_bestSet), (952, 2, 1, 0, 0, fX1_add)], [], (0, 0), 1)
noncomputable def fX11_best : CF := mth mX11_best 2
def iX11_draw : List (Nat × Instr × Nat) := [(0, .aload_n 0, 1), (1, .aload_n 0, 1), (2, .getfield 106, 3), (5, .i2l, 1), (6, .ldc2_w 287, 3), (9, .lmul, 1), (10, .ldc2_w 289, 3), (13, .ladd, 1), (14, .ldc2_w 291, 3), (17, .land, 1), (18, .l2i, 1), (19, .putfield 106, 3), (22, .iload_n 1, 1), (23, .ifCond .le 15, 3), (26, .aload_n 0, 1), (27, .getfield 106, 3), (30, .bipush 16, 2), (32, .iushr, 1), (33, .iload_n 1, 1), (34, .irem, 1), (35, .goto 4, 3), (38, .iconst 0, 1), (39, .ireturn, 1)]
noncomputable def mX11_draw : MI := (iX11_draw, [(106, 11, 17)], [(287, .long (1103515245)), (289, .long (12345)), (291, .long (2147483647))], [], [], (0, 0), 1)
noncomputable def fX11_draw : CF := mth mX11_draw 2
def iX11_driftOnce : List (Nat × Instr × Nat) := [(0, .aload_n 0, 1), (1, .iconst 4, 1), (2, .invokevirtual 281, 3), (5, .istore_n 1, 1), (6, .aload_n 0, 1), (7, .aload_n 0, 1), (8, .getfield 26, 3), (11, .getfield 132, 3), (14, .invokevirtual 281, 3), (17, .istore_n 2, 1), (18, .aload_n 0, 1), (19, .bipush 9, 2), (21, .invokevirtual 281, 3), (24, .istore_n 3, 1), (25, .aload_n 0, 1), (26, .bipush 16, 2), (28, .invokevirtual 281, 3), (31, .istore 4, 2), (33, .aload_n 0, 1), (34, .getfield 57, 3), (37, .aload_n 0, 1), (38, .getfield 50, 3), (41, .invokevirtual 238, 3), (44, .iload_n 1, 1), (45, .iconst 3, 1), (46, .if_icmp .ne 15, 3), (49, .aload_n 0, 1), (50, .getfield 50, 3), (53, .iload 4, 2), (55, .putfield 138, 3), (58, .goto 60, 3), (61, .aload_n 0, 1), (62, .getfield 26, 3), (65, .iload_n 2, 1), (66, .invokevirtual 199, 3), (69, .ifCond .eq 49, 3), (72, .iload_n 1, 1), (73, .iconst 2, 1), (74, .if_icmp .ne 17, 3), (77, .aload_n 0, 1), (78, .getfield 50, 3), (81, .iload_n 2, 1), (82, .iload_n 3, 1), (83, .iconst 1, 1), (84, .iadd, 1), (85, .invokevirtual 245, 3), (88, .goto 30, 3), (91, .aload_n 0, 1), (92, .getfield 50, 3), (95, .iload_n 2, 1), (96, .aload_n 0, 1), (97, .getfield 50, 3), (100, .getfield 141, 3), (103, .iload_n 2, 1), (104, .invokestatic 284, 3), (107, .ifCond .ne 7, 3), (110, .iconst 1, 1), (111, .goto 4, 3), (114, .iconst 0, 1), (115, .invokevirtual 241, 3), (118, .return_, 1)]
noncomputable def mX11_driftOnce : MI := (iX11_driftOnce, [(26, 11, 2), (50, 11, 6), (57, 11, 7), (132, 6, 3), (138, 9, 2), (141, 9, 1)], [], [(796, 2, 6, 0, 0, fX6_hasGap), (952, 2, 1, 0, 0, fX1_add), (964, 3, 9, 0, 0, fX9_setFence), (980, 3, 9, 0, 0, fX9_setCost), (1124, 2, 11, 0, 0, fX11_draw), (1138, 2, 11, 0, 0, fX11_has)], [], (0, 0), 0)
noncomputable def fX11_driftOnce : CF := mth mX11_driftOnce 5
def iX11_drift : List (Nat × Instr × Nat) := [(0, .iload_n 1, 1), (1, .iconst 1, 1), (2, .if_icmp .lt 9, 3), (5, .iload_n 1, 1), (6, .bipush 20, 2), (8, .if_icmp .le 6, 3), (11, .ldc 112, 2), (13, .ireturn, 1), (14, .aload_n 0, 1), (15, .getfield 26, 3), (18, .getfield 132, 3), (21, .ifCond .le 20, 3), (24, .iconst 0, 1), (25, .istore_n 2, 1), (26, .iload_n 2, 1), (27, .iload_n 1, 1), (28, .if_icmp .ge 13, 3), (31, .aload_n 0, 1), (32, .invokevirtual 249, 3), (35, .iinc 2 1, 3), (38, .goto (-12), 3), (41, .aload_n 0, 1), (42, .getfield 50, 3), (45, .getfield 141, 3), (48, .ireturn, 1)]
noncomputable def mX11_drift : MI := (iX11_drift, [(26, 11, 2), (50, 11, 6), (132, 6, 3), (141, 9, 1)], [(112, .int (-1000000002))], [(996, 1, 11, 0, 0, fX11_driftOnce)], [], (0, 0), 1)
noncomputable def fX11_drift : CF := mth mX11_drift 3
def iX11_undo : List (Nat × Instr × Nat) := [(0, .iload_n 1, 1), (1, .iconst 1, 1), (2, .if_icmp .lt 9, 3), (5, .iload_n 1, 1), (6, .bipush 20, 2), (8, .if_icmp .le 6, 3), (11, .ldc 112, 2), (13, .ireturn, 1), (14, .iload_n 1, 1), (15, .aload_n 0, 1), (16, .getfield 57, 3), (19, .getfield 185, 3), (22, .if_icmp .le 6, 3), (25, .ldc 216, 2), (27, .ireturn, 1), (28, .aload_n 0, 1), (29, .getfield 57, 3), (32, .iload_n 1, 1), (33, .aload_n 0, 1), (34, .getfield 50, 3), (37, .invokevirtual 252, 3), (40, .aload_n 0, 1), (41, .getfield 57, 3), (44, .getfield 185, 3), (47, .ireturn, 1)]
noncomputable def mX11_undo : MI := (iX11_undo, [(50, 11, 6), (57, 11, 7), (185, 1, 2)], [(112, .int (-1000000002)), (216, .int (-1000000003))], [(1008, 3, 1, 0, 0, fX1_takeBack)], [], (0, 0), 1)
noncomputable def fX11_undo : CF := mth mX11_undo 2
def iX11_write : List (Nat × Instr × Nat) := [(0, .iload_n 1, 1), (1, .ifCond .lt 10, 3), (4, .iload_n 1, 1), (5, .ldc_w 256, 3), (8, .if_icmp .le 6, 3), (11, .ldc 112, 2), (13, .ireturn, 1), (14, .aload_n 0, 1), (15, .getfield 71, 3), (18, .iload_n 1, 1), (19, .iload_n 2, 1), (20, .invokevirtual 257, 3), (23, .ifCond .eq 13, 3), (26, .aload_n 0, 1), (27, .getfield 71, 3), (30, .getfield 181, 3), (33, .goto 5, 3), (36, .ldc 120, 2), (38, .ireturn, 1)]
noncomputable def mX11_write : MI := (iX11_write, [(71, 11, 9), (181, 0, 2)], [(112, .int (-1000000002)), (120, .int (-1000000004)), (256, .int (43046720))], [(1028, 3, 0, 0, 0, fX0_add)], [], (0, 0), 1)
noncomputable def fX11_write : CF := mth mX11_write 3
def iX11_tear : List (Nat × Instr × Nat) := [(0, .aload_n 0, 1), (1, .getfield 71, 3), (4, .getfield 181, 3), (7, .istore_n 1, 1), (8, .aload_n 0, 1), (9, .getfield 71, 3), (12, .invokevirtual 260, 3), (15, .iload_n 1, 1), (16, .ireturn, 1)]
noncomputable def mX11_tear : MI := (iX11_tear, [(71, 11, 9), (181, 0, 2)], [], [(1040, 1, 0, 0, 0, fX0_clear)], [], (0, 0), 1)
noncomputable def fX11_tear : CF := mth mX11_tear 2
def iX11_seed : List (Nat × Instr × Nat) := [(0, .iload_n 1, 1), (1, .ifCond .ge 6, 3), (4, .ldc 112, 2), (6, .ireturn, 1), (7, .aload_n 0, 1), (8, .getfield 106, 3), (11, .istore_n 2, 1), (12, .aload_n 0, 1), (13, .iload_n 1, 1), (14, .putfield 106, 3), (17, .iload_n 2, 1), (18, .ireturn, 1)]
noncomputable def mX11_seed : MI := (iX11_seed, [(106, 11, 17)], [(112, .int (-1000000002))], [], [], (0, 0), 1)
noncomputable def fX11_seed : CF := mth mX11_seed 3
def iX11_keep : List (Nat × Instr × Nat) := [(0, .iload_n 1, 1), (1, .ifCond .lt 12, 3), (4, .iload_n 1, 1), (5, .aload_n 0, 1), (6, .getfield 63, 3), (9, .arraylength, 1), (10, .if_icmp .lt 6, 3), (13, .ldc 189, 2), (15, .ireturn, 1), (16, .aload_n 0, 1), (17, .getfield 63, 3), (20, .iload_n 1, 1), (21, .aaload, 1), (22, .aload_n 0, 1), (23, .getfield 50, 3), (26, .aload_n 0, 1), (27, .getfield 106, 3), (30, .invokevirtual 261, 3), (33, .aload_n 0, 1), (34, .getfield 57, 3), (37, .invokevirtual 265, 3), (40, .iconst 1, 1), (41, .ireturn, 1)]
noncomputable def mX11_keep : MI := (iX11_keep, [(50, 11, 6), (57, 11, 7), (63, 11, 8), (106, 11, 17)], [(189, .int (-1000000001))], [(1044, 3, 2, 0, 0, fX2_hold), (1060, 1, 1, 0, 0, fX1_clear)], [], (0, 0), 1)
noncomputable def fX11_keep : CF := mth mX11_keep 2
def iX11_goBack : List (Nat × Instr × Nat) := [(0, .iload_n 1, 1), (1, .ifCond .lt 12, 3), (4, .iload_n 1, 1), (5, .aload_n 0, 1), (6, .getfield 63, 3), (9, .arraylength, 1), (10, .if_icmp .lt 6, 3), (13, .ldc 189, 2), (15, .ireturn, 1), (16, .aload_n 0, 1), (17, .getfield 63, 3), (20, .iload_n 1, 1), (21, .aaload, 1), (22, .astore_n 2, 1), (23, .aload_n 2, 1), (24, .getfield 266, 3), (27, .ifCond .ne 6, 3), (30, .ldc 216, 2), (32, .ireturn, 1), (33, .aload_n 0, 1), (34, .getfield 50, 3), (37, .aload_n 2, 1), (38, .getfield 269, 3), (41, .invokevirtual 270, 3), (44, .aload_n 0, 1), (45, .aload_n 2, 1), (46, .getfield 273, 3), (49, .putfield 106, 3), (52, .aload_n 0, 1), (53, .getfield 57, 3), (56, .invokevirtual 265, 3), (59, .iconst 1, 1), (60, .ireturn, 1)]
noncomputable def mX11_goBack : MI := (iX11_goBack, [(50, 11, 6), (57, 11, 7), (63, 11, 8), (106, 11, 17), (266, 2, 2), (269, 2, 0), (273, 2, 1)], [(189, .int (-1000000001)), (216, .int (-1000000003))], [(1060, 1, 1, 0, 0, fX1_clear), (1080, 2, 9, 0, 0, fX9_copy)], [], (0, 0), 1)
noncomputable def fX11_goBack : CF := mth mX11_goBack 3
def iX12_has : List (Nat × Instr × Nat) := [(0, .iload_n 0, 1), (1, .iload_n 1, 1), (2, .ishr, 1), (3, .iconst 1, 1), (4, .iand, 1), (5, .iconst 1, 1), (6, .if_icmp .ne 7, 3), (9, .iconst 1, 1), (10, .goto 4, 3), (13, .iconst 0, 1), (14, .ireturn, 1)]
noncomputable def mX12_has : MI := (iX12_has, [], [], [], [], (0, 0), 2)
noncomputable def fX12_has : CF := mth mX12_has 2
def iX12_isAhead : List (Nat × Instr × Nat) := [(0, .iload_n 1, 1), (1, .iload_n 2, 1), (2, .if_icmp .ge 22, 3), (5, .aload_n 0, 1), (6, .getfield 7, 3), (9, .iload_n 1, 1), (10, .iaload, 1), (11, .aload_n 0, 1), (12, .getfield 7, 3), (15, .iload_n 2, 1), (16, .iaload, 1), (17, .if_icmp .ne 7, 3), (20, .iconst 1, 1), (21, .goto 4, 3), (24, .iconst 0, 1), (25, .ireturn, 1)]
noncomputable def mX12_isAhead : MI := (iX12_isAhead, [(7, 12, 2)], [], [], [], (0, 0), 2)
noncomputable def fX12_isAhead : CF := mth mX12_isAhead 3
def iX12_ahead : List (Nat × Instr × Nat) := [(0, .iconst 0, 1), (1, .istore_n 2, 1), (2, .iconst 0, 1), (3, .istore_n 3, 1), (4, .iload_n 3, 1), (5, .iload_n 1, 1), (6, .if_icmp .ge 28, 3), (9, .iload_n 2, 1), (10, .aload_n 0, 1), (11, .iload_n 3, 1), (12, .iload_n 1, 1), (13, .invokevirtual 121, 3), (16, .ifCond .eq 9, 3), (19, .iconst 1, 1), (20, .iload_n 3, 1), (21, .ishl, 1), (22, .goto 4, 3), (25, .iconst 0, 1), (26, .ior, 1), (27, .istore_n 2, 1), (28, .iinc 3 1, 3), (31, .goto (-27), 3), (34, .iload_n 2, 1), (35, .ireturn, 1)]
noncomputable def mX12_ahead : MI := (iX12_ahead, [], [], [(484, 3, 12, 0, 0, fX12_isAhead)], [], (0, 0), 1)
noncomputable def fX12_ahead : CF := mth mX12_ahead 4
def iX12_kind : List (Nat × Instr × Nat) := [(0, .aload_n 0, 1), (1, .getfield 16, 3), (4, .iload_n 1, 1), (5, .baload, 1), (6, .ifCond .eq 20, 3), (9, .aload_n 0, 1), (10, .getfield 16, 3), (13, .iload_n 2, 1), (14, .baload, 1), (15, .ifCond .eq 7, 3), (18, .iconst 1, 1), (19, .goto 21, 3), (22, .iconst 0, 1), (23, .goto 17, 3), (26, .aload_n 0, 1), (27, .getfield 16, 3), (30, .iload_n 2, 1), (31, .baload, 1), (32, .ifCond .eq 7, 3), (35, .iconst 3, 1), (36, .goto 4, 3), (39, .iconst 2, 1), (40, .ireturn, 1)]
noncomputable def mX12_kind : MI := (iX12_kind, [(16, 12, 4)], [], [], [], (0, 0), 1)
noncomputable def fX12_kind : CF := mth mX12_kind 3
def iX12_isBound : List (Nat × Instr × Nat) := [(0, .aload_n 0, 1), (1, .getfield 13, 3), (4, .iload_n 1, 1), (5, .iaload, 1), (6, .aload_n 0, 1), (7, .getfield 13, 3), (10, .iload_n 2, 1), (11, .iaload, 1), (12, .if_icmp .eq 19, 3), (15, .aload_n 0, 1), (16, .getfield 23, 3), (19, .aload_n 0, 1), (20, .iload_n 1, 1), (21, .iload_n 2, 1), (22, .invokevirtual 113, 3), (25, .invokestatic 117, 3), (28, .ifCond .ne 7, 3), (31, .iconst 1, 1), (32, .goto 4, 3), (35, .iconst 0, 1), (36, .ireturn, 1)]
noncomputable def mX12_isBound : MI := (iX12_isBound, [(13, 12, 3), (23, 12, 7)], [], [(452, 3, 12, 0, 0, fX12_kind), (470, 2, 12, 0, 0, fX12_has)], [], (0, 0), 2)
noncomputable def fX12_isBound : CF := mth mX12_isBound 3
def iX12_between : List (Nat × Instr × Nat) := [(0, .iconst 1, 1), (1, .iload_n 1, 1), (2, .iconst 1, 1), (3, .iadd, 1), (4, .ishl, 1), (5, .iconst 1, 1), (6, .iload_n 0, 1), (7, .iconst 1, 1), (8, .iadd, 1), (9, .ishl, 1), (10, .isub, 1), (11, .ireturn, 1)]
noncomputable def mX12_between : MI := (iX12_between, [], [], [], [], (0, 0), 1)
noncomputable def fX12_between : CF := mth mX12_between 2
def iX12_waits : List (Nat × Instr × Nat) := [(0, .iconst 0, 1), (1, .istore_n 2, 1), (2, .iconst 0, 1), (3, .istore_n 3, 1), (4, .iload_n 3, 1), (5, .iload_n 1, 1), (6, .if_icmp .ge 46, 3), (9, .aload_n 0, 1), (10, .iload_n 3, 1), (11, .iload_n 1, 1), (12, .invokevirtual 121, 3), (15, .ifCond .eq 31, 3), (18, .aload_n 0, 1), (19, .iload_n 3, 1), (20, .iload_n 1, 1), (21, .invokevirtual 124, 3), (24, .ifCond .ne 16, 3), (27, .aload_n 0, 1), (28, .getfield 127, 3), (31, .iload_n 3, 1), (32, .iload_n 1, 1), (33, .invokestatic 130, 3), (36, .iand, 1), (37, .ifCond .eq 9, 3), (40, .iload_n 2, 1), (41, .iconst 1, 1), (42, .iload_n 3, 1), (43, .ishl, 1), (44, .ior, 1), (45, .istore_n 2, 1), (46, .iinc 3 1, 3), (49, .goto (-45), 3), (52, .iload_n 2, 1), (53, .ireturn, 1)]
noncomputable def mX12_waits : MI := (iX12_waits, [(127, 12, 6)], [], [(484, 3, 12, 0, 0, fX12_isAhead), (496, 3, 12, 0, 0, fX12_isBound), (522, 2, 12, 0, 0, fX12_between)], [], (0, 0), 1)
noncomputable def fX12_waits : CF := mth mX12_waits 4
def iX12_comes : List (Nat × Instr × Nat) := [(0, .iconst 0, 1), (1, .istore_n 3, 1), (2, .iload_n 1, 1), (3, .istore 4, 2), (5, .iload_n 3, 1), (6, .iload 4, 2), (8, .if_icmp .ge 34, 3), (11, .iload_n 3, 1), (12, .iload 4, 2), (14, .iadd, 1), (15, .iconst 2, 1), (16, .idiv, 1), (17, .istore 5, 2), (19, .aload_n 0, 1), (20, .iload 5, 2), (22, .iaload, 1), (23, .iload_n 2, 1), (24, .if_icmp .ge 11, 3), (27, .iload 5, 2), (29, .iconst 1, 1), (30, .iadd, 1), (31, .istore_n 3, 1), (32, .goto 7, 3), (35, .iload 5, 2), (37, .istore 4, 2), (39, .goto (-34), 3), (42, .iload_n 3, 1), (43, .iload_n 1, 1), (44, .if_icmp .ge 10, 3), (47, .aload_n 0, 1), (48, .iload_n 3, 1), (49, .iaload, 1), (50, .iload_n 2, 1), (51, .if_icmp .eq 10, 3), (54, .iload_n 1, 1), (55, .sipush 1024, 3), (58, .if_icmp .ne 5, 3), (61, .iload_n 1, 1), (62, .ireturn, 1), (63, .iload_n 1, 1), (64, .istore 5, 2), (66, .iload 5, 2), (68, .iload_n 3, 1), (69, .if_icmp .le 19, 3), (72, .aload_n 0, 1), (73, .iload 5, 2), (75, .aload_n 0, 1), (76, .iload 5, 2), (78, .iconst 1, 1), (79, .isub, 1), (80, .iaload, 1), (81, .iastore, 1), (82, .iinc 5 (-1), 3), (85, .goto (-19), 3), (88, .aload_n 0, 1), (89, .iload_n 3, 1), (90, .iload_n 2, 1), (91, .iastore, 1), (92, .iload_n 1, 1), (93, .iconst 1, 1), (94, .iadd, 1), (95, .ireturn, 1)]
noncomputable def mX12_comes : MI := (iX12_comes, [], [], [], [], (0, 0), 1)
noncomputable def fX12_comes : CF := mth mX12_comes 6
def iX12_weight : List (Nat × Instr × Nat) := [(0, .iconst 1, 1), (1, .istore_n 2, 1), (2, .iload_n 1, 1), (3, .iconst 1, 1), (4, .iadd, 1), (5, .istore_n 3, 1), (6, .iload_n 3, 1), (7, .aload_n 0, 1), (8, .getfield 110, 3), (11, .if_icmp .ge 27, 3), (14, .iload_n 2, 1), (15, .aload_n 0, 1), (16, .getfield 16, 3), (19, .iload_n 3, 1), (20, .baload, 1), (21, .ifCond .eq 7, 3), (24, .iconst 1, 1), (25, .goto 5, 3), (28, .bipush 9, 2), (30, .imul, 1), (31, .istore_n 2, 1), (32, .iinc 3 1, 3), (35, .goto (-29), 3), (38, .iload_n 2, 1), (39, .ireturn, 1)]
noncomputable def mX12_weight : MI := (iX12_weight, [(16, 12, 4), (110, 12, 1)], [], [], [], (0, 0), 1)
noncomputable def fX12_weight : CF := mth mX12_weight 4
def iX12_does : List (Nat × Instr × Nat) := [(0, .aload_n 0, 1), (1, .getfield 39, 3), (4, .iload_n 1, 1), (5, .iload_n 2, 1), (6, .iastore, 1), (7, .iconst 0, 1), (8, .istore_n 3, 1), (9, .iload_n 3, 1), (10, .iconst 3, 1), (11, .if_icmp .ge 31, 3), (14, .aload_n 0, 1), (15, .getfield 45, 3), (18, .iconst 3, 1), (19, .iload_n 1, 1), (20, .imul, 1), (21, .iconst 3, 1), (22, .iadd, 1), (23, .iload_n 3, 1), (24, .iadd, 1), (25, .aload_n 0, 1), (26, .getfield 45, 3), (29, .iconst 3, 1), (30, .iload_n 1, 1), (31, .imul, 1), (32, .iload_n 3, 1), (33, .iadd, 1), (34, .iaload, 1), (35, .iastore, 1), (36, .iinc 3 1, 3), (39, .goto (-30), 3), (42, .aload_n 0, 1), (43, .getfield 42, 3), (46, .iload_n 1, 1), (47, .iconst 1, 1), (48, .iadd, 1), (49, .aload_n 0, 1), (50, .getfield 42, 3), (53, .iload_n 1, 1), (54, .iaload, 1), (55, .iastore, 1), (56, .aload_n 0, 1), (57, .getfield 16, 3), (60, .iload_n 2, 1), (61, .baload, 1), (62, .ifCond .eq 26, 3), (65, .aload_n 0, 1), (66, .getfield 45, 3), (69, .iconst 3, 1), (70, .iload_n 1, 1), (71, .imul, 1), (72, .iconst 3, 1), (73, .iadd, 1), (74, .aload_n 0, 1), (75, .getfield 13, 3), (78, .iload_n 2, 1), (79, .iaload, 1), (80, .iadd, 1), (81, .iload_n 2, 1), (82, .iconst 1, 1), (83, .iadd, 1), (84, .iastore, 1), (85, .goto 35, 3), (88, .aload_n 0, 1), (89, .getfield 42, 3), (92, .iload_n 1, 1), (93, .iconst 1, 1), (94, .iadd, 1), (95, .dup2, 1), (96, .iaload, 1), (97, .aload_n 0, 1), (98, .getfield 45, 3), (101, .iconst 3, 1), (102, .iload_n 1, 1), (103, .imul, 1), (104, .aload_n 0, 1), (105, .getfield 13, 3), (108, .iload_n 2, 1), (109, .iaload, 1), (110, .iadd, 1), (111, .iaload, 1), (112, .aload_n 0, 1), (113, .iload_n 2, 1), (114, .invokevirtual 136, 3), (117, .imul, 1), (118, .iadd, 1), (119, .iastore, 1), (120, .return_, 1)]
noncomputable def mX12_does : MI := (iX12_does, [(13, 12, 3), (16, 12, 4), (39, 12, 15), (42, 12, 16), (45, 12, 17)], [], [(544, 2, 12, 0, 0, fX12_weight)], [], (0, 0), 0)
noncomputable def fX12_does : CF := mth mX12_does 4
def iX12_goes : List (Nat × Instr × Nat) := [(0, .iconst 0, 1), (1, .istore_n 3, 1), (2, .iload_n 3, 1), (3, .aload_n 0, 1), (4, .getfield 110, 3), (7, .if_icmp .ge 32, 3), (10, .aload_n 0, 1), (11, .getfield 33, 3), (14, .iload_n 3, 1), (15, .iload_n 2, 1), (16, .ifCond .eq 11, 3), (19, .aload_n 0, 1), (20, .iload_n 3, 1), (21, .invokevirtual 140, 3), (24, .goto 8, 3), (27, .aload_n 0, 1), (28, .iload_n 3, 1), (29, .invokevirtual 143, 3), (32, .iastore, 1), (33, .iinc 3 1, 3), (36, .goto (-34), 3), (39, .iconst 0, 1), (40, .istore_n 3, 1), (41, .iconst 0, 1), (42, .istore 4, 2), (44, .iconst 0, 1), (45, .istore 5, 2), (47, .aload_n 0, 1), (48, .getfield 36, 3), (51, .iconst 0, 1), (52, .iconst 0, 1), (53, .iastore, 1), (54, .iload 5, 2), (56, .ifCond .lt 157, 3), (59, .iload 5, 2), (61, .aload_n 0, 1), (62, .getfield 110, 3), (65, .if_icmp .ne 16, 3), (68, .aload_n 1, 1), (69, .iload_n 3, 1), (70, .aload_n 0, 1), (71, .getfield 42, 3), (74, .iload 5, 2), (76, .iaload, 1), (77, .invokestatic 146, 3), (80, .istore_n 3, 1), (81, .iload 5, 2), (83, .aload_n 0, 1), (84, .getfield 110, 3), (87, .if_icmp .ne 10, 3), (90, .aload_n 0, 1), (91, .getfield 110, 3), (94, .goto 10, 3), (97, .aload_n 0, 1), (98, .getfield 36, 3), (101, .iload 5, 2), (103, .iaload, 1), (104, .istore 6, 2), (106, .iload 6, 2), (108, .aload_n 0, 1), (109, .getfield 110, 3), (112, .if_icmp .ne 34, 3), (115, .iinc 5 (-1), 3), (118, .iload 4, 2), (120, .iload 5, 2), (122, .ifCond .ge 7, 3), (125, .iconst 0, 1), (126, .goto 14, 3), (129, .iconst 1, 1), (130, .aload_n 0, 1), (131, .getfield 39, 3), (134, .iload 5, 2), (136, .iaload, 1), (137, .ishl, 1), (138, .iconst (-1), 1), (139, .ixor, 1), (140, .iand, 1), (141, .istore 4, 2), (143, .goto 67, 3), (146, .aload_n 0, 1), (147, .getfield 36, 3), (150, .iload 5, 2), (152, .dup2, 1), (153, .iaload, 1), (154, .iconst 1, 1), (155, .iadd, 1), (156, .iastore, 1), (157, .iload 4, 2), (159, .iload 6, 2), (161, .invokestatic 117, 3), (164, .ifCond .ne 46, 3), (167, .aload_n 0, 1), (168, .getfield 33, 3), (171, .iload 6, 2), (173, .iaload, 1), (174, .iload 4, 2), (176, .iconst (-1), 1), (177, .ixor, 1), (178, .iand, 1), (179, .ifCond .ne 31, 3), (182, .aload_n 0, 1), (183, .iload 5, 2), (185, .iload 6, 2), (187, .invokevirtual 150, 3), (190, .iload 4, 2), (192, .iconst 1, 1), (193, .iload 6, 2), (195, .ishl, 1), (196, .ior, 1), (197, .istore 4, 2), (199, .iinc 5 1, 3), (202, .aload_n 0, 1), (203, .getfield 36, 3), (206, .iload 5, 2), (208, .iconst 0, 1), (209, .iastore, 1), (210, .goto (-156), 3), (213, .iload_n 3, 1), (214, .ireturn, 1)]
noncomputable def mX12_goes : MI := (iX12_goes, [(33, 12, 13), (36, 12, 14), (39, 12, 15), (42, 12, 16), (110, 12, 1)], [], [(470, 2, 12, 0, 0, fX12_has), (560, 2, 12, 0, 0, fX12_ahead), (572, 2, 12, 0, 0, fX12_waits), (586, 3, 12, 0, 0, fX12_comes), (600, 3, 12, 0, 0, fX12_does)], [], (0, 0), 1)
noncomputable def fX12_goes : CF := mth mX12_goes 7
def iX12_init : List (Nat × Instr × Nat) := [(0, .aload_n 0, 1), (1, .invokespecial 1, 3), (4, .aload_n 0, 1), (5, .bipush 8, 2), (7, .newarray .int, 2), (9, .putfield 7, 3), (12, .aload_n 0, 1), (13, .bipush 8, 2), (15, .newarray .int, 2), (17, .putfield 13, 3), (20, .aload_n 0, 1), (21, .bipush 8, 2), (23, .newarray .boolean, 2), (25, .putfield 16, 3), (28, .aload_n 0, 1), (29, .bipush 8, 2), (31, .newarray .int, 2), (33, .putfield 20, 3), (36, .aload_n 0, 1), (37, .bipush 15, 2), (39, .putfield 23, 3), (42, .aload_n 0, 1), (43, .sipush 1024, 3), (46, .newarray .int, 2), (48, .putfield 27, 3), (51, .aload_n 0, 1), (52, .sipush 1024, 3), (55, .newarray .int, 2), (57, .putfield 30, 3), (60, .aload_n 0, 1), (61, .bipush 8, 2), (63, .newarray .int, 2), (65, .putfield 33, 3), (68, .aload_n 0, 1), (69, .bipush 9, 2), (71, .newarray .int, 2), (73, .putfield 36, 3), (76, .aload_n 0, 1), (77, .bipush 9, 2), (79, .newarray .int, 2), (81, .putfield 39, 3), (84, .aload_n 0, 1), (85, .bipush 9, 2), (87, .newarray .int, 2), (89, .putfield 42, 3), (92, .aload_n 0, 1), (93, .bipush 27, 2), (95, .newarray .int, 2), (97, .putfield 45, 3), (100, .aload_n 0, 1), (101, .bipush 64, 2), (103, .newarray .int, 2), (105, .putfield 48, 3), (108, .aload_n 0, 1), (109, .bipush 36, 2), (111, .newarray .int, 2), (113, .putfield 51, 3), (116, .aload_n 0, 1), (117, .bipush 36, 2), (119, .newarray .int, 2), (121, .putfield 54, 3), (124, .aload_n 0, 1), (125, .bipush 120, 2), (127, .newarray .int, 2), (129, .putfield 57, 3), (132, .aload_n 0, 1), (133, .iconst (-1), 1), (134, .putfield 60, 3), (137, .aload_n 0, 1), (138, .bipush 8, 2), (140, .newarray .int, 2), (142, .putfield 63, 3), (145, .aload_n 0, 1), (146, .bipush 8, 2), (148, .newarray .int, 2), (150, .putfield 66, 3), (153, .aload_n 0, 1), (154, .bipush 8, 2), (156, .newarray .boolean, 2), (158, .putfield 69, 3), (161, .aload_n 0, 1), (162, .bipush 20, 2), (164, .newarray .int, 2), (166, .putfield 72, 3), (169, .aload_n 0, 1), (170, .bipush 20, 2), (172, .newarray .int, 2), (174, .putfield 75, 3), (177, .aload_n 0, 1), (178, .sipush 160, 3), (181, .newarray .int, 2), (183, .putfield 78, 3), (186, .aload_n 0, 1), (187, .bipush 20, 2), (189, .newarray .int, 2), (191, .putfield 81, 3), (194, .aload_n 0, 1), (195, .bipush 20, 2), (197, .newarray .boolean, 2), (199, .putfield 84, 3), (202, .aload_n 0, 1), (203, .iconst 2, 1), (204, .newarray .boolean, 2), (206, .putfield 87, 3), (209, .aload_n 0, 1), (210, .iconst 2, 1), (211, .newarray .int, 2), (213, .putfield 90, 3), (216, .aload_n 0, 1), (217, .iconst 2, 1), (218, .newarray .int, 2), (220, .putfield 93, 3), (223, .aload_n 0, 1), (224, .bipush 16, 2), (226, .newarray .int, 2), (228, .putfield 96, 3), (231, .aload_n 0, 1), (232, .iconst 2, 1), (233, .newarray .long, 2), (235, .putfield 99, 3), (238, .aload_n 0, 1), (239, .aload_n 0, 1), (240, .aload_n 0, 1), (241, .getfield 27, 3), (244, .iconst 1, 1), (245, .invokevirtual 103, 3), (248, .putfield 107, 3), (251, .return_, 1)]
noncomputable def mX12_init : MI := (iX12_init, [(7, 12, 2), (13, 12, 3), (16, 12, 4), (20, 12, 5), (23, 12, 7), (27, 12, 8), (30, 12, 9), (33, 12, 13), (36, 12, 14), (39, 12, 15), (42, 12, 16), (45, 12, 17), (48, 12, 19), (51, 12, 20), (54, 12, 21), (57, 12, 23), (60, 12, 25), (63, 12, 29), (66, 12, 30), (69, 12, 31), (72, 12, 33), (75, 12, 34), (78, 12, 35), (81, 12, 38), (84, 12, 39), (87, 12, 40), (90, 12, 41), (93, 12, 42), (96, 12, 43), (99, 12, 44), (107, 12, 10)], [], [(5, 1, 99, 0, 0, fObj), (412, 3, 12, 0, 0, fX12_goes)], [], (28, 2686), 0)
noncomputable def fX12_init : CF := mth mX12_init 1
def iX12_isStep : List (Nat × Instr × Nat) := [(0, .iload_n 1, 1), (1, .ifCond .lt 15, 3), (4, .iload_n 1, 1), (5, .aload_n 0, 1), (6, .getfield 110, 3), (9, .if_icmp .ge 7, 3), (12, .iconst 1, 1), (13, .goto 4, 3), (16, .iconst 0, 1), (17, .ireturn, 1)]
noncomputable def mX12_isStep : MI := (iX12_isStep, [(110, 12, 1)], [], [], [], (0, 0), 2)
noncomputable def fX12_isStep : CF := mth mX12_isStep 2
def iX12_isGap : List (Nat × Instr × Nat) := [(0, .iload_n 1, 1), (1, .ifCond .le 32, 3), (4, .iload_n 1, 1), (5, .aload_n 0, 1), (6, .getfield 110, 3), (9, .if_icmp .ge 24, 3), (12, .aload_n 0, 1), (13, .getfield 7, 3), (16, .iload_n 1, 1), (17, .iaload, 1), (18, .aload_n 0, 1), (19, .getfield 7, 3), (22, .iload_n 1, 1), (23, .iconst 1, 1), (24, .isub, 1), (25, .iaload, 1), (26, .if_icmp .ne 7, 3), (29, .iconst 1, 1), (30, .goto 4, 3), (33, .iconst 0, 1), (34, .ireturn, 1)]
noncomputable def mX12_isGap : MI := (iX12_isGap, [(7, 12, 2), (110, 12, 1)], [], [], [], (0, 0), 2)
noncomputable def fX12_isGap : CF := mth mX12_isGap 2
def iX12_isConflict : List (Nat × Instr × Nat) := [(0, .aload_n 0, 1), (1, .getfield 7, 3), (4, .iload_n 1, 1), (5, .iaload, 1), (6, .aload_n 0, 1), (7, .getfield 7, 3), (10, .iload_n 2, 1), (11, .iaload, 1), (12, .if_icmp .eq 40, 3), (15, .aload_n 0, 1), (16, .getfield 13, 3), (19, .iload_n 1, 1), (20, .iaload, 1), (21, .aload_n 0, 1), (22, .getfield 13, 3), (25, .iload_n 2, 1), (26, .iaload, 1), (27, .if_icmp .ne 25, 3), (30, .aload_n 0, 1), (31, .getfield 16, 3), (34, .iload_n 1, 1), (35, .baload, 1), (36, .ifCond .ne 12, 3), (39, .aload_n 0, 1), (40, .getfield 16, 3), (43, .iload_n 2, 1), (44, .baload, 1), (45, .ifCond .eq 7, 3), (48, .iconst 1, 1), (49, .goto 4, 3), (52, .iconst 0, 1), (53, .ireturn, 1)]
noncomputable def mX12_isConflict : MI := (iX12_isConflict, [(7, 12, 2), (13, 12, 3), (16, 12, 4)], [], [], [], (0, 0), 2)
noncomputable def fX12_isConflict : CF := mth mX12_isConflict 3
def iX12_conflicts : List (Nat × Instr × Nat) := [(0, .iconst 0, 1), (1, .istore_n 2, 1), (2, .iconst 0, 1), (3, .istore_n 3, 1), (4, .iload_n 3, 1), (5, .aload_n 0, 1), (6, .getfield 110, 3), (9, .if_icmp .ge 28, 3), (12, .iload_n 2, 1), (13, .aload_n 0, 1), (14, .iload_n 1, 1), (15, .iload_n 3, 1), (16, .invokevirtual 133, 3), (19, .ifCond .eq 9, 3), (22, .iconst 1, 1), (23, .iload_n 3, 1), (24, .ishl, 1), (25, .goto 4, 3), (28, .iconst 0, 1), (29, .ior, 1), (30, .istore_n 2, 1), (31, .iinc 3 1, 3), (34, .goto (-30), 3), (37, .iload_n 2, 1), (38, .ireturn, 1)]
noncomputable def mX12_conflicts : MI := (iX12_conflicts, [(110, 12, 1)], [], [(532, 3, 12, 0, 0, fX12_isConflict)], [], (0, 0), 1)
noncomputable def fX12_conflicts : CF := mth mX12_conflicts 4
def iX12_readings : List (Nat × Instr × Nat) := [(0, .aload_n 0, 1), (1, .getfield 154, 3), (4, .ifCond .ne 21, 3), (7, .aload_n 0, 1), (8, .aload_n 0, 1), (9, .aload_n 0, 1), (10, .getfield 30, 3), (13, .iconst 0, 1), (14, .invokevirtual 103, 3), (17, .putfield 158, 3), (20, .aload_n 0, 1), (21, .iconst 1, 1), (22, .putfield 154, 3), (25, .aload_n 0, 1), (26, .getfield 158, 3), (29, .ireturn, 1)]
noncomputable def mX12_readings : MI := (iX12_readings, [(30, 12, 9), (154, 12, 12), (158, 12, 11)], [], [(412, 3, 12, 0, 0, fX12_goes)], [], (0, 0), 1)
noncomputable def fX12_readings : CF := mth mX12_readings 1
def iX12_isIn : List (Nat × Instr × Nat) := [(0, .iconst 0, 1), (1, .istore_n 3, 1), (2, .iconst 0, 1), (3, .istore 4, 2), (5, .iload 4, 2), (7, .iload_n 1, 1), (8, .if_icmp .ge 27, 3), (11, .iload_n 3, 1), (12, .ifCond .ne 23, 3), (15, .aload_n 0, 1), (16, .iload 4, 2), (18, .iaload, 1), (19, .iload_n 2, 1), (20, .if_icmp .ne 7, 3), (23, .iconst 1, 1), (24, .goto 4, 3), (27, .iconst 0, 1), (28, .istore_n 3, 1), (29, .iinc 4 1, 3), (32, .goto (-27), 3), (35, .iload_n 3, 1), (36, .ireturn, 1)]
noncomputable def mX12_isIn : MI := (iX12_isIn, [], [], [], [], (0, 0), 2)
noncomputable def fX12_isIn : CF := mth mX12_isIn 5
def iX12_stray : List (Nat × Instr × Nat) := [(0, .iload_n 1, 1), (1, .istore_n 2, 1), (2, .iconst 0, 1), (3, .istore_n 3, 1), (4, .iload_n 3, 1), (5, .aload_n 0, 1), (6, .invokevirtual 161, 3), (9, .if_icmp .ge 43, 3), (12, .aload_n 0, 1), (13, .getfield 27, 3), (16, .aload_n 0, 1), (17, .getfield 107, 3), (20, .aload_n 0, 1), (21, .getfield 30, 3), (24, .iload_n 3, 1), (25, .iaload, 1), (26, .invokestatic 165, 3), (29, .ifCond .ne 17, 3), (32, .iload_n 2, 1), (33, .ifCond .ne 10, 3), (36, .aload_n 0, 1), (37, .getfield 30, 3), (40, .iload_n 3, 1), (41, .iaload, 1), (42, .ireturn, 1), (43, .iinc 2 (-1), 3), (46, .iinc 3 1, 3), (49, .goto (-45), 3), (52, .iconst (-1), 1), (53, .ireturn, 1)]
noncomputable def mX12_stray : MI := (iX12_stray, [(27, 12, 8), (30, 12, 9), (107, 12, 10)], [], [(644, 1, 12, 0, 0, fX12_readings), (662, 3, 12, 0, 0, fX12_isIn)], [], (0, 0), 1)
noncomputable def fX12_stray : CF := mth mX12_stray 4
def iX12_reading : List (Nat × Instr × Nat) := [(0, .iload_n 2, 1), (1, .ifCond .lt 8, 3), (4, .iload_n 2, 1), (5, .iconst 2, 1), (6, .if_icmp .le 6, 3), (9, .ldc 169, 2), (11, .ireturn, 1), (12, .iload_n 1, 1), (13, .ifCond .ge 5, 3), (16, .iconst (-1), 1), (17, .ireturn, 1), (18, .iload_n 2, 1), (19, .iconst 2, 1), (20, .if_icmp .ne 9, 3), (23, .aload_n 0, 1), (24, .iload_n 1, 1), (25, .invokevirtual 170, 3), (28, .ireturn, 1), (29, .iload_n 2, 1), (30, .ifCond .ne 10, 3), (33, .aload_n 0, 1), (34, .invokevirtual 161, 3), (37, .goto 7, 3), (40, .aload_n 0, 1), (41, .getfield 107, 3), (44, .istore_n 3, 1), (45, .iload_n 1, 1), (46, .iload_n 3, 1), (47, .if_icmp .lt 7, 3), (50, .iconst (-1), 1), (51, .goto 22, 3), (54, .iload_n 2, 1), (55, .ifCond .ne 12, 3), (58, .aload_n 0, 1), (59, .getfield 30, 3), (62, .iload_n 1, 1), (63, .iaload, 1), (64, .goto 9, 3), (67, .aload_n 0, 1), (68, .getfield 27, 3), (71, .iload_n 1, 1), (72, .iaload, 1), (73, .ireturn, 1)]
noncomputable def mX12_reading : MI := (iX12_reading, [(27, 12, 8), (30, 12, 9), (107, 12, 10)], [(169, .int (-1000000002))], [(644, 1, 12, 0, 0, fX12_readings), (680, 2, 12, 0, 0, fX12_stray)], [], (0, 0), 1)
noncomputable def fX12_reading : CF := mth mX12_reading 4
def iX12_can : List (Nat × Instr × Nat) := [(0, .aload_n 0, 1), (1, .getfield 27, 3), (4, .aload_n 0, 1), (5, .getfield 107, 3), (8, .iload_n 1, 1), (9, .invokestatic 165, 3), (12, .ifCond .eq 5, 3), (15, .iconst 2, 1), (16, .ireturn, 1), (17, .aload_n 0, 1), (18, .getfield 30, 3), (21, .aload_n 0, 1), (22, .invokevirtual 161, 3), (25, .iload_n 1, 1), (26, .invokestatic 165, 3), (29, .ifCond .eq 7, 3), (32, .iconst 1, 1), (33, .goto 4, 3), (36, .iconst 0, 1), (37, .ireturn, 1)]
noncomputable def mX12_can : MI := (iX12_can, [(27, 12, 8), (30, 12, 9), (107, 12, 10)], [], [(644, 1, 12, 0, 0, fX12_readings), (662, 3, 12, 0, 0, fX12_isIn)], [], (0, 0), 1)
noncomputable def fX12_can : CF := mth mX12_can 2
def iX12_laysGifts : List (Nat × Instr × Nat) := [(0, .aload_n 0, 1), (1, .iconst 0, 1), (2, .putfield 173, 3), (5, .iconst 0, 1), (6, .istore_n 1, 1), (7, .iload_n 1, 1), (8, .aload_n 0, 1), (9, .getfield 110, 3), (12, .if_icmp .ge 96, 3), (15, .iload_n 1, 1), (16, .istore_n 2, 1), (17, .iload_n 2, 1), (18, .aload_n 0, 1), (19, .getfield 110, 3), (22, .if_icmp .ge 80, 3), (25, .iload_n 1, 1), (26, .iload_n 2, 1), (27, .if_icmp .ne 15, 3), (30, .aload_n 0, 1), (31, .getfield 16, 3), (34, .iload_n 1, 1), (35, .baload, 1), (36, .ifCond .eq 60, 3), (39, .goto 27, 3), (42, .aload_n 0, 1), (43, .iload_n 1, 1), (44, .iload_n 2, 1), (45, .invokevirtual 121, 3), (48, .ifCond .eq 48, 3), (51, .aload_n 0, 1), (52, .getfield 13, 3), (55, .iload_n 1, 1), (56, .iaload, 1), (57, .aload_n 0, 1), (58, .getfield 13, 3), (61, .iload_n 2, 1), (62, .iaload, 1), (63, .if_icmp .eq 33, 3), (66, .aload_n 0, 1), (67, .getfield 51, 3), (70, .aload_n 0, 1), (71, .getfield 173, 3), (74, .iload_n 1, 1), (75, .iastore, 1), (76, .aload_n 0, 1), (77, .getfield 54, 3), (80, .aload_n 0, 1), (81, .getfield 173, 3), (84, .iload_n 2, 1), (85, .iastore, 1), (86, .aload_n 0, 1), (87, .dup, 1), (88, .getfield 173, 3), (91, .iconst 1, 1), (92, .iadd, 1), (93, .putfield 173, 3), (96, .iinc 2 1, 3), (99, .goto (-82), 3), (102, .iinc 1 1, 3), (105, .goto (-98), 3), (108, .return_, 1)]
noncomputable def mX12_laysGifts : MI := (iX12_laysGifts, [(13, 12, 3), (16, 12, 4), (51, 12, 20), (54, 12, 21), (110, 12, 1), (173, 12, 22)], [], [(484, 3, 12, 0, 0, fX12_isAhead)], [], (0, 0), 0)
noncomputable def fX12_laysGifts : CF := mth mX12_laysGifts 3
def iX12_isOne : List (Nat × Instr × Nat) := [(0, .aload_n 0, 1), (1, .getfield 51, 3), (4, .iload_n 1, 1), (5, .iaload, 1), (6, .aload_n 0, 1), (7, .getfield 54, 3), (10, .iload_n 1, 1), (11, .iaload, 1), (12, .if_icmp .ne 7, 3), (15, .iconst 1, 1), (16, .goto 4, 3), (19, .iconst 0, 1), (20, .ireturn, 1)]
noncomputable def mX12_isOne : MI := (iX12_isOne, [(51, 12, 20), (54, 12, 21)], [], [], [], (0, 0), 2)
noncomputable def fX12_isOne : CF := mth mX12_isOne 2
def iX12_meets : List (Nat × Instr × Nat) := [(0, .aload_n 0, 1), (1, .aload_n 0, 1), (2, .getfield 54, 3), (5, .iload_n 1, 1), (6, .iaload, 1), (7, .aload_n 0, 1), (8, .getfield 51, 3), (11, .iload_n 2, 1), (12, .iaload, 1), (13, .invokevirtual 133, 3), (16, .ireturn, 1)]
noncomputable def mX12_meets : MI := (iX12_meets, [(51, 12, 20), (54, 12, 21)], [], [(532, 3, 12, 0, 0, fX12_isConflict)], [], (0, 0), 2)
noncomputable def fX12_meets : CF := mth mX12_meets 3
def iX12_fits : List (Nat × Instr × Nat) := [(0, .aload_n 0, 1), (1, .iload_n 2, 1), (2, .invokevirtual 176, 3), (5, .ifCond .eq 31, 3), (8, .aload_n 0, 1), (9, .getfield 16, 3), (12, .aload_n 0, 1), (13, .getfield 54, 3), (16, .iload_n 1, 1), (17, .iaload, 1), (18, .baload, 1), (19, .ifCond .ne 21, 3), (22, .aload_n 0, 1), (23, .getfield 16, 3), (26, .aload_n 0, 1), (27, .getfield 51, 3), (30, .iload_n 3, 1), (31, .iaload, 1), (32, .baload, 1), (33, .ifCond .ne 7, 3), (36, .iconst 1, 1), (37, .goto 4, 3), (40, .iconst 0, 1), (41, .ireturn, 1)]
noncomputable def mX12_fits : MI := (iX12_fits, [(16, 12, 4), (51, 12, 20), (54, 12, 21)], [], [(704, 2, 12, 0, 0, fX12_isOne)], [], (0, 0), 2)
noncomputable def fX12_fits : CF := mth mX12_fits 4
def iX12_gives : List (Nat × Instr × Nat) := [(0, .aload_n 0, 1), (1, .getfield 48, 3), (4, .bipush 8, 2), (6, .aload_n 0, 1), (7, .getfield 51, 3), (10, .iload_n 1, 1), (11, .iaload, 1), (12, .imul, 1), (13, .aload_n 0, 1), (14, .getfield 54, 3), (17, .iload_n 1, 1), (18, .iaload, 1), (19, .iadd, 1), (20, .dup2, 1), (21, .iaload, 1), (22, .aload_n 0, 1), (23, .iload_n 1, 1), (24, .invokevirtual 176, 3), (27, .ifCond .eq 7, 3), (30, .iconst 0, 1), (31, .goto 4, 3), (34, .iconst 1, 1), (35, .iadd, 1), (36, .iastore, 1), (37, .return_, 1)]
noncomputable def mX12_gives : MI := (iX12_gives, [(48, 12, 19), (51, 12, 20), (54, 12, 21)], [], [(704, 2, 12, 0, 0, fX12_isOne)], [], (0, 0), 0)
noncomputable def fX12_gives : CF := mth mX12_gives 2
def iX12_laysTwos : List (Nat × Instr × Nat) := [(0, .iconst 0, 1), (1, .istore_n 1, 1), (2, .iload_n 1, 1), (3, .aload_n 0, 1), (4, .getfield 173, 3), (7, .if_icmp .ge 114, 3), (10, .iconst 0, 1), (11, .istore_n 2, 1), (12, .iload_n 2, 1), (13, .aload_n 0, 1), (14, .getfield 173, 3), (17, .if_icmp .ge 98, 3), (20, .aload_n 0, 1), (21, .iload_n 1, 1), (22, .invokevirtual 176, 3), (25, .ifCond .ne 40, 3), (28, .aload_n 0, 1), (29, .iload_n 2, 1), (30, .invokevirtual 176, 3), (33, .ifCond .ne 32, 3), (36, .aload_n 0, 1), (37, .getfield 7, 3), (40, .aload_n 0, 1), (41, .getfield 51, 3), (44, .iload_n 1, 1), (45, .iaload, 1), (46, .iaload, 1), (47, .aload_n 0, 1), (48, .getfield 7, 3), (51, .aload_n 0, 1), (52, .getfield 51, 3), (55, .iload_n 2, 1), (56, .iaload, 1), (57, .iaload, 1), (58, .if_icmp .ge 7, 3), (61, .iconst 1, 1), (62, .goto 4, 3), (65, .iconst 0, 1), (66, .istore_n 3, 1), (67, .iload_n 3, 1), (68, .ifCond .eq 41, 3), (71, .aload_n 0, 1), (72, .iload_n 1, 1), (73, .iload_n 2, 1), (74, .invokevirtual 180, 3), (77, .ifCond .eq 32, 3), (80, .aload_n 0, 1), (81, .iload_n 2, 1), (82, .iload_n 1, 1), (83, .invokevirtual 180, 3), (86, .ifCond .eq 23, 3), (89, .aload_n 0, 1), (90, .dup, 1), (91, .getfield 183, 3), (94, .iconst 1, 1), (95, .iadd, 1), (96, .putfield 183, 3), (99, .aload_n 0, 1), (100, .iload_n 1, 1), (101, .invokevirtual 186, 3), (104, .aload_n 0, 1), (105, .iload_n 2, 1), (106, .invokevirtual 186, 3), (109, .iinc 2 1, 3), (112, .goto (-100), 3), (115, .iinc 1 1, 3), (118, .goto (-116), 3), (121, .return_, 1)]
noncomputable def mX12_laysTwos : MI := (iX12_laysTwos, [(7, 12, 2), (51, 12, 20), (173, 12, 22), (183, 12, 18)], [], [(704, 2, 12, 0, 0, fX12_isOne), (720, 3, 12, 0, 0, fX12_meets), (744, 2, 12, 0, 0, fX12_gives)], [], (0, 0), 0)
noncomputable def fX12_laysTwos : CF := mth mX12_laysTwos 4
def iX12_laysThrees : List (Nat × Instr × Nat) := [(0, .iconst 0, 1), (1, .istore_n 3, 1), (2, .iload_n 3, 1), (3, .aload_n 0, 1), (4, .getfield 173, 3), (7, .if_icmp .ge 133, 3), (10, .aload_n 0, 1), (11, .getfield 7, 3), (14, .aload_n 0, 1), (15, .getfield 51, 3), (18, .iload_n 3, 1), (19, .iaload, 1), (20, .iaload, 1), (21, .ifCond .eq 50, 3), (24, .aload_n 0, 1), (25, .getfield 7, 3), (28, .aload_n 0, 1), (29, .getfield 51, 3), (32, .iload_n 3, 1), (33, .iaload, 1), (34, .iaload, 1), (35, .aload_n 0, 1), (36, .getfield 7, 3), (39, .aload_n 0, 1), (40, .getfield 51, 3), (43, .iload_n 2, 1), (44, .iaload, 1), (45, .iaload, 1), (46, .if_icmp .eq 25, 3), (49, .aload_n 0, 1), (50, .iload_n 2, 1), (51, .iload_n 3, 1), (52, .invokevirtual 180, 3), (55, .ifCond .eq 16, 3), (58, .aload_n 0, 1), (59, .iload_n 3, 1), (60, .iload_n 1, 1), (61, .invokevirtual 180, 3), (64, .ifCond .eq 7, 3), (67, .iconst 1, 1), (68, .goto 4, 3), (71, .iconst 0, 1), (72, .istore 4, 2), (74, .iload 4, 2), (76, .ifCond .eq 58, 3), (79, .aload_n 0, 1), (80, .iload_n 3, 1), (81, .iload_n 1, 1), (82, .iload_n 2, 1), (83, .invokevirtual 190, 3), (86, .ifCond .eq 48, 3), (89, .aload_n 0, 1), (90, .iload_n 1, 1), (91, .iload_n 2, 1), (92, .iload_n 3, 1), (93, .invokevirtual 190, 3), (96, .ifCond .eq 38, 3), (99, .aload_n 0, 1), (100, .iload_n 2, 1), (101, .iload_n 3, 1), (102, .iload_n 1, 1), (103, .invokevirtual 190, 3), (106, .ifCond .eq 28, 3), (109, .aload_n 0, 1), (110, .dup, 1), (111, .getfield 183, 3), (114, .iconst 1, 1), (115, .iadd, 1), (116, .putfield 183, 3), (119, .aload_n 0, 1), (120, .iload_n 1, 1), (121, .invokevirtual 186, 3), (124, .aload_n 0, 1), (125, .iload_n 2, 1), (126, .invokevirtual 186, 3), (129, .aload_n 0, 1), (130, .iload_n 3, 1), (131, .invokevirtual 186, 3), (134, .iinc 3 1, 3), (137, .goto (-135), 3), (140, .return_, 1)]
noncomputable def mX12_laysThrees : MI := (iX12_laysThrees, [(7, 12, 2), (51, 12, 20), (173, 12, 22), (183, 12, 18)], [], [(720, 3, 12, 0, 0, fX12_meets), (744, 2, 12, 0, 0, fX12_gives), (760, 4, 12, 0, 0, fX12_fits)], [], (0, 0), 0)
noncomputable def fX12_laysThrees : CF := mth mX12_laysThrees 5
def iX12_laysRings : List (Nat × Instr × Nat) := [(0, .aload_n 0, 1), (1, .iconst 0, 1), (2, .putfield 183, 3), (5, .iconst 0, 1), (6, .istore_n 1, 1), (7, .iload_n 1, 1), (8, .bipush 64, 2), (10, .if_icmp .ge 16, 3), (13, .aload_n 0, 1), (14, .getfield 48, 3), (17, .iload_n 1, 1), (18, .iconst 0, 1), (19, .iastore, 1), (20, .iinc 1 1, 3), (23, .goto (-16), 3), (26, .aload_n 0, 1), (27, .invokevirtual 194, 3), (30, .aload_n 0, 1), (31, .invokevirtual 197, 3), (34, .iconst 0, 1), (35, .istore_n 1, 1), (36, .iload_n 1, 1), (37, .aload_n 0, 1), (38, .getfield 173, 3), (41, .if_icmp .ge 68, 3), (44, .iconst 0, 1), (45, .istore_n 2, 1), (46, .iload_n 2, 1), (47, .aload_n 0, 1), (48, .getfield 173, 3), (51, .if_icmp .ge 52, 3), (54, .aload_n 0, 1), (55, .getfield 7, 3), (58, .aload_n 0, 1), (59, .getfield 51, 3), (62, .iload_n 1, 1), (63, .iaload, 1), (64, .iaload, 1), (65, .ifCond .ne 32, 3), (68, .aload_n 0, 1), (69, .getfield 7, 3), (72, .aload_n 0, 1), (73, .getfield 51, 3), (76, .iload_n 2, 1), (77, .iaload, 1), (78, .iaload, 1), (79, .ifCond .le 18, 3), (82, .aload_n 0, 1), (83, .iload_n 1, 1), (84, .iload_n 2, 1), (85, .invokevirtual 180, 3), (88, .ifCond .eq 9, 3), (91, .aload_n 0, 1), (92, .iload_n 1, 1), (93, .iload_n 2, 1), (94, .invokevirtual 200, 3), (97, .iinc 2 1, 3), (100, .goto (-54), 3), (103, .iinc 1 1, 3), (106, .goto (-70), 3), (109, .return_, 1)]
noncomputable def mX12_laysRings : MI := (iX12_laysRings, [(7, 12, 2), (48, 12, 19), (51, 12, 20), (173, 12, 22), (183, 12, 18)], [], [(720, 3, 12, 0, 0, fX12_meets), (776, 1, 12, 0, 0, fX12_laysGifts), (788, 1, 12, 0, 0, fX12_laysTwos), (800, 3, 12, 0, 0, fX12_laysThrees)], [], (0, 0), 0)
noncomputable def fX12_laysRings : CF := mth mX12_laysRings 3
def iX12_isPair : List (Nat × Instr × Nat) := [(0, .aload_n 0, 1), (1, .getfield 48, 3), (4, .bipush 8, 2), (6, .iload_n 1, 1), (7, .imul, 1), (8, .iload_n 2, 1), (9, .iadd, 1), (10, .iaload, 1), (11, .ifCond .le 7, 3), (14, .iconst 1, 1), (15, .goto 4, 3), (18, .iconst 0, 1), (19, .ireturn, 1)]
noncomputable def mX12_isPair : MI := (iX12_isPair, [(48, 12, 19)], [], [], [], (0, 0), 2)
noncomputable def fX12_isPair : CF := mth mX12_isPair 3
def iX12_isLoose : List (Nat × Instr × Nat) := [(0, .aload_n 0, 1), (1, .iload_n 1, 1), (2, .iload_n 2, 1), (3, .invokevirtual 203, 3), (6, .ifCond .eq 16, 3), (9, .aload_n 0, 1), (10, .iload_n 1, 1), (11, .iload_n 2, 1), (12, .invokevirtual 124, 3), (15, .ifCond .ne 7, 3), (18, .iconst 1, 1), (19, .goto 4, 3), (22, .iconst 0, 1), (23, .ireturn, 1)]
noncomputable def mX12_isLoose : MI := (iX12_isLoose, [], [], [(496, 3, 12, 0, 0, fX12_isBound), (812, 3, 12, 0, 0, fX12_isPair)], [], (0, 0), 2)
noncomputable def fX12_isLoose : CF := mth mX12_isLoose 3
def iX12_holds : List (Nat × Instr × Nat) := [(0, .iconst 0, 1), (1, .istore_n 2, 1), (2, .iconst 0, 1), (3, .istore_n 3, 1), (4, .iload_n 3, 1), (5, .aload_n 0, 1), (6, .getfield 110, 3), (9, .if_icmp .ge 58, 3), (12, .iload_n 3, 1), (13, .iconst 1, 1), (14, .iadd, 1), (15, .istore 4, 2), (17, .iload 4, 2), (19, .aload_n 0, 1), (20, .getfield 110, 3), (23, .if_icmp .ge 38, 3), (26, .iload_n 2, 1), (27, .aload_n 0, 1), (28, .iload_n 3, 1), (29, .iload 4, 2), (31, .invokevirtual 206, 3), (34, .ifCond .eq 18, 3), (37, .iload_n 1, 1), (38, .iload_n 3, 1), (39, .iload 4, 2), (41, .invokestatic 130, 3), (44, .iand, 1), (45, .ifCond .eq 7, 3), (48, .iconst 1, 1), (49, .goto 4, 3), (52, .iconst 0, 1), (53, .iadd, 1), (54, .istore_n 2, 1), (55, .iinc 4 1, 3), (58, .goto (-41), 3), (61, .iinc 3 1, 3), (64, .goto (-60), 3), (67, .iload_n 2, 1), (68, .ireturn, 1)]
noncomputable def mX12_holds : MI := (iX12_holds, [(110, 12, 1)], [], [(522, 2, 12, 0, 0, fX12_between), (824, 3, 12, 0, 0, fX12_isLoose)], [], (0, 0), 1)
noncomputable def fX12_holds : CF := mth mX12_holds 5
def iX12_loosePairs : List (Nat × Instr × Nat) := [(0, .aload_n 0, 1), (1, .iconst (-1), 1), (2, .invokevirtual 209, 3), (5, .ireturn, 1)]
noncomputable def mX12_loosePairs : MI := (iX12_loosePairs, [], [], [(836, 2, 12, 0, 0, fX12_holds)], [], (0, 0), 1)
noncomputable def fX12_loosePairs : CF := mth mX12_loosePairs 1
def iX12_gaps : List (Nat × Instr × Nat) := [(0, .iconst 0, 1), (1, .istore_n 1, 1), (2, .iconst 1, 1), (3, .istore_n 2, 1), (4, .iload_n 2, 1), (5, .aload_n 0, 1), (6, .getfield 110, 3), (9, .if_icmp .ge 27, 3), (12, .iload_n 1, 1), (13, .aload_n 0, 1), (14, .iload_n 2, 1), (15, .invokevirtual 212, 3), (18, .ifCond .eq 9, 3), (21, .iconst 1, 1), (22, .iload_n 2, 1), (23, .ishl, 1), (24, .goto 4, 3), (27, .iconst 0, 1), (28, .ior, 1), (29, .istore_n 1, 1), (30, .iinc 2 1, 3), (33, .goto (-29), 3), (36, .iload_n 1, 1), (37, .ireturn, 1)]
noncomputable def mX12_gaps : MI := (iX12_gaps, [(110, 12, 1)], [], [(848, 2, 12, 0, 0, fX12_isGap)], [], (0, 0), 1)
noncomputable def fX12_gaps : CF := mth mX12_gaps 3
def iX12_price : List (Nat × Instr × Nat) := [(0, .iconst 0, 1), (1, .istore_n 2, 1), (2, .iconst 0, 1), (3, .istore_n 3, 1), (4, .iload_n 3, 1), (5, .bipush 8, 2), (7, .if_icmp .ge 30, 3), (10, .iload_n 2, 1), (11, .iload_n 1, 1), (12, .iload_n 3, 1), (13, .invokestatic 117, 3), (16, .ifCond .eq 12, 3), (19, .aload_n 0, 1), (20, .getfield 20, 3), (23, .iload_n 3, 1), (24, .iaload, 1), (25, .goto 4, 3), (28, .iconst 0, 1), (29, .iadd, 1), (30, .istore_n 2, 1), (31, .iinc 3 1, 3), (34, .goto (-30), 3), (37, .iload_n 2, 1), (38, .ireturn, 1)]
noncomputable def mX12_price : MI := (iX12_price, [(20, 12, 5)], [], [(470, 2, 12, 0, 0, fX12_has)], [], (0, 0), 1)
noncomputable def fX12_price : CF := mth mX12_price 4
def iX12_cheapest : List (Nat × Instr × Nat) := [(0, .aload_n 0, 1), (1, .invokevirtual 215, 3), (4, .istore_n 1, 1), (5, .iconst (-1), 1), (6, .istore_n 2, 1), (7, .iconst 0, 1), (8, .istore_n 3, 1), (9, .iload_n 3, 1), (10, .sipush 256, 3), (13, .if_icmp .ge 61, 3), (16, .iload_n 3, 1), (17, .aload_n 0, 1), (18, .invokevirtual 218, 3), (21, .iconst (-1), 1), (22, .ixor, 1), (23, .iand, 1), (24, .ifCond .ne 25, 3), (27, .iload_n 2, 1), (28, .iconst (-1), 1), (29, .if_icmp .eq 16, 3), (32, .aload_n 0, 1), (33, .iload_n 3, 1), (34, .invokevirtual 221, 3), (37, .aload_n 0, 1), (38, .iload_n 2, 1), (39, .invokevirtual 221, 3), (42, .if_icmp .ge 7, 3), (45, .iconst 1, 1), (46, .goto 4, 3), (49, .iconst 0, 1), (50, .istore 4, 2), (52, .iload 4, 2), (54, .ifCond .eq 14, 3), (57, .aload_n 0, 1), (58, .iload_n 3, 1), (59, .invokevirtual 209, 3), (62, .iload_n 1, 1), (63, .if_icmp .ne 5, 3), (66, .iload_n 3, 1), (67, .istore_n 2, 1), (68, .iinc 3 1, 3), (71, .goto (-62), 3), (74, .iload_n 2, 1), (75, .ireturn, 1)]
noncomputable def mX12_cheapest : MI := (iX12_cheapest, [], [], [(836, 2, 12, 0, 0, fX12_holds), (860, 1, 12, 0, 0, fX12_loosePairs), (872, 1, 12, 0, 0, fX12_gaps), (884, 2, 12, 0, 0, fX12_price)], [], (0, 0), 1)
noncomputable def fX12_cheapest : CF := mth mX12_cheapest 5
def iX12_needed : List (Nat × Instr × Nat) := [(0, .iconst 0, 1), (1, .istore_n 1, 1), (2, .iconst 1, 1), (3, .istore_n 2, 1), (4, .iload_n 2, 1), (5, .aload_n 0, 1), (6, .getfield 110, 3), (9, .if_icmp .ge 55, 3), (12, .iload_n 1, 1), (13, .aload_n 0, 1), (14, .getfield 127, 3), (17, .iload_n 2, 1), (18, .invokestatic 117, 3), (21, .ifCond .eq 34, 3), (24, .aload_n 0, 1), (25, .aload_n 0, 1), (26, .getfield 127, 3), (29, .iconst 1, 1), (30, .iload_n 2, 1), (31, .ishl, 1), (32, .iconst (-1), 1), (33, .ixor, 1), (34, .iand, 1), (35, .invokevirtual 209, 3), (38, .aload_n 0, 1), (39, .aload_n 0, 1), (40, .getfield 127, 3), (43, .invokevirtual 209, 3), (46, .if_icmp .ge 9, 3), (49, .iconst 1, 1), (50, .iload_n 2, 1), (51, .ishl, 1), (52, .goto 4, 3), (55, .iconst 0, 1), (56, .ior, 1), (57, .istore_n 1, 1), (58, .iinc 2 1, 3), (61, .goto (-57), 3), (64, .iload_n 1, 1), (65, .ireturn, 1)]
noncomputable def mX12_needed : MI := (iX12_needed, [(110, 12, 1), (127, 12, 6)], [], [(470, 2, 12, 0, 0, fX12_has), (836, 2, 12, 0, 0, fX12_holds)], [], (0, 0), 1)
noncomputable def fX12_needed : CF := mth mX12_needed 3
def iX12_step : List (Nat × Instr × Nat) := [(0, .aload_n 0, 1), (1, .iload_n 1, 1), (2, .invokevirtual 224, 3), (5, .ifCond .ne 6, 3), (8, .ldc 227, 2), (10, .ireturn, 1), (11, .iload_n 2, 1), (12, .tableswitch 124 0 6 #[44, 51, 58, 73, 92, 112, 118], 44), (56, .aload_n 0, 1), (57, .getfield 7, 3), (60, .iload_n 1, 1), (61, .iaload, 1), (62, .ireturn, 1), (63, .aload_n 0, 1), (64, .getfield 13, 3), (67, .iload_n 1, 1), (68, .iaload, 1), (69, .ireturn, 1), (70, .aload_n 0, 1), (71, .getfield 16, 3), (74, .iload_n 1, 1), (75, .baload, 1), (76, .ifCond .eq 7, 3), (79, .iconst 1, 1), (80, .goto 4, 3), (83, .iconst 0, 1), (84, .ireturn, 1), (85, .aload_n 0, 1), (86, .iload_n 1, 1), (87, .invokevirtual 212, 3), (90, .ifCond .eq 12, 3), (93, .aload_n 0, 1), (94, .getfield 20, 3), (97, .iload_n 1, 1), (98, .iaload, 1), (99, .goto 4, 3), (102, .iconst (-1), 1), (103, .ireturn, 1), (104, .aload_n 0, 1), (105, .iload_n 1, 1), (106, .invokevirtual 212, 3), (109, .ifCond .eq 13, 3), (112, .aload_n 0, 1), (113, .iconst 1, 1), (114, .iload_n 1, 1), (115, .ishl, 1), (116, .invokevirtual 209, 3), (119, .goto 4, 3), (122, .iconst (-1), 1), (123, .ireturn, 1), (124, .aload_n 0, 1), (125, .iload_n 1, 1), (126, .invokevirtual 143, 3), (129, .ireturn, 1), (130, .aload_n 0, 1), (131, .iload_n 1, 1), (132, .invokevirtual 228, 3), (135, .ireturn, 1), (136, .ldc 169, 2), (138, .ireturn, 1)]
noncomputable def mX12_step : MI := (iX12_step, [(7, 12, 2), (13, 12, 3), (16, 12, 4), (20, 12, 5)], [(169, .int (-1000000002)), (227, .int (-1000000001))], [(572, 2, 12, 0, 0, fX12_waits), (836, 2, 12, 0, 0, fX12_holds), (848, 2, 12, 0, 0, fX12_isGap), (896, 2, 12, 0, 0, fX12_isStep), (912, 2, 12, 0, 0, fX12_conflicts)], [], (0, 0), 1)
noncomputable def fX12_step : CF := mth mX12_step 3
def iX12_pair : List (Nat × Instr × Nat) := [(0, .aload_n 0, 1), (1, .iload_n 1, 1), (2, .invokevirtual 224, 3), (5, .ifCond .eq 16, 3), (8, .aload_n 0, 1), (9, .iload_n 2, 1), (10, .invokevirtual 224, 3), (13, .ifCond .eq 8, 3), (16, .iload_n 1, 1), (17, .iload_n 2, 1), (18, .if_icmp .ne 6, 3), (21, .ldc 227, 2), (23, .ireturn, 1), (24, .iload_n 3, 1), (25, .ifCond .lt 8, 3), (28, .iload_n 3, 1), (29, .iconst 3, 1), (30, .if_icmp .le 6, 3), (33, .ldc 169, 2), (35, .ireturn, 1), (36, .aload_n 0, 1), (37, .iload_n 1, 1), (38, .iload_n 2, 1), (39, .invokevirtual 121, 3), (42, .ifCond .ne 6, 3), (45, .ldc 231, 2), (47, .ireturn, 1), (48, .iload_n 3, 1), (49, .tableswitch 85 0 2 #[27, 42, 57], 27), (76, .aload_n 0, 1), (77, .iload_n 1, 1), (78, .iload_n 2, 1), (79, .invokevirtual 203, 3), (82, .ifCond .eq 7, 3), (85, .iconst 1, 1), (86, .goto 4, 3), (89, .iconst 0, 1), (90, .ireturn, 1), (91, .aload_n 0, 1), (92, .iload_n 1, 1), (93, .iload_n 2, 1), (94, .invokevirtual 206, 3), (97, .ifCond .eq 7, 3), (100, .iconst 1, 1), (101, .goto 4, 3), (104, .iconst 0, 1), (105, .ireturn, 1), (106, .aload_n 0, 1), (107, .iload_n 1, 1), (108, .iload_n 2, 1), (109, .invokevirtual 203, 3), (112, .ifCond .eq 20, 3), (115, .aload_n 0, 1), (116, .getfield 127, 3), (119, .iload_n 1, 1), (120, .iload_n 2, 1), (121, .invokestatic 130, 3), (124, .iand, 1), (125, .ifCond .eq 7, 3), (128, .iconst 1, 1), (129, .goto 4, 3), (132, .iconst 0, 1), (133, .ireturn, 1), (134, .aload_n 0, 1), (135, .getfield 48, 3), (138, .bipush 8, 2), (140, .iload_n 1, 1), (141, .imul, 1), (142, .iload_n 2, 1), (143, .iadd, 1), (144, .iaload, 1), (145, .ireturn, 1)]
noncomputable def mX12_pair : MI := (iX12_pair, [(48, 12, 19), (127, 12, 6)], [(169, .int (-1000000002)), (227, .int (-1000000001)), (231, .int (-1000000003))], [(484, 3, 12, 0, 0, fX12_isAhead), (522, 2, 12, 0, 0, fX12_between), (812, 3, 12, 0, 0, fX12_isPair), (824, 3, 12, 0, 0, fX12_isLoose), (896, 2, 12, 0, 0, fX12_isStep)], [], (0, 0), 1)
noncomputable def fX12_pair : CF := mth mX12_pair 4
def iX12_feed : List (Nat × Instr × Nat) := [(0, .iload_n 1, 1), (1, .ifCond .lt 10, 3), (4, .iload_n 1, 1), (5, .sipush 255, 3), (8, .if_icmp .le 6, 3), (11, .ldc 169, 2), (13, .ireturn, 1), (14, .aload_n 0, 1), (15, .getfield 232, 3), (18, .bipush 120, 2), (20, .if_icmp .ne 6, 3), (23, .ldc 235, 2), (25, .ireturn, 1), (26, .aload_n 0, 1), (27, .getfield 57, 3), (30, .aload_n 0, 1), (31, .getfield 232, 3), (34, .iload_n 1, 1), (35, .iastore, 1), (36, .aload_n 0, 1), (37, .dup, 1), (38, .getfield 232, 3), (41, .iconst 1, 1), (42, .iadd, 1), (43, .putfield 232, 3), (46, .aload_n 0, 1), (47, .getfield 232, 3), (50, .ireturn, 1)]
noncomputable def mX12_feed : MI := (iX12_feed, [(57, 12, 23), (232, 12, 24)], [(169, .int (-1000000002)), (235, .int (-1000000004))], [], [], (0, 0), 1)
noncomputable def fX12_feed : CF := mth mX12_feed 2
def iX12_sign : List (Nat × Instr × Nat) := [(0, .aload_n 0, 1), (1, .getfield 236, 3), (4, .aload_n 0, 1), (5, .getfield 232, 3), (8, .if_icmp .ge 30, 3), (11, .aload_n 0, 1), (12, .getfield 57, 3), (15, .aload_n 0, 1), (16, .getfield 236, 3), (19, .iaload, 1), (20, .bipush 32, 2), (22, .if_icmp .ne 16, 3), (25, .aload_n 0, 1), (26, .dup, 1), (27, .getfield 236, 3), (30, .iconst 1, 1), (31, .iadd, 1), (32, .putfield 236, 3), (35, .goto (-35), 3), (38, .aload_n 0, 1), (39, .getfield 236, 3), (42, .aload_n 0, 1), (43, .getfield 232, 3), (46, .if_icmp .ge 15, 3), (49, .aload_n 0, 1), (50, .getfield 57, 3), (53, .aload_n 0, 1), (54, .getfield 236, 3), (57, .iaload, 1), (58, .goto 4, 3), (61, .iconst (-1), 1), (62, .ireturn, 1)]
noncomputable def mX12_sign : MI := (iX12_sign, [(57, 12, 23), (232, 12, 24), (236, 12, 26)], [], [], [], (0, 0), 1)
noncomputable def fX12_sign : CF := mth mX12_sign 1
def iX12_ends : List (Nat × Instr × Nat) := [(0, .aload_n 0, 1), (1, .invokevirtual 239, 3), (4, .bipush 59, 2), (6, .if_icmp .eq 5, 3), (9, .iconst 1, 1), (10, .ireturn, 1), (11, .aload_n 0, 1), (12, .dup, 1), (13, .getfield 236, 3), (16, .iconst 1, 1), (17, .iadd, 1), (18, .putfield 236, 3), (21, .iconst 0, 1), (22, .ireturn, 1)]
noncomputable def mX12_ends : MI := (iX12_ends, [(236, 12, 26)], [], [(956, 1, 12, 0, 0, fX12_sign)], [], (0, 0), 1)
noncomputable def fX12_ends : CF := mth mX12_ends 1
def iX12_readsThread : List (Nat × Instr × Nat) := [(0, .aload_n 0, 1), (1, .getfield 242, 3), (4, .iconst 3, 1), (5, .if_icmp .ne 5, 3), (8, .iconst 3, 1), (9, .ireturn, 1), (10, .aload_n 0, 1), (11, .dup, 1), (12, .getfield 242, 3), (15, .iconst 1, 1), (16, .iadd, 1), (17, .putfield 242, 3), (20, .aload_n 0, 1), (21, .dup, 1), (22, .getfield 236, 3), (25, .iconst 1, 1), (26, .iadd, 1), (27, .putfield 236, 3), (30, .aload_n 0, 1), (31, .invokevirtual 245, 3), (34, .ireturn, 1)]
noncomputable def mX12_readsThread : MI := (iX12_readsThread, [(236, 12, 26), (242, 12, 27)], [], [(980, 1, 12, 0, 0, fX12_ends)], [], (0, 0), 1)
noncomputable def fX12_readsThread : CF := mth mX12_readsThread 1
def iX12_readsStep : List (Nat × Instr × Nat) := [(0, .aload_n 0, 1), (1, .getfield 242, 3), (4, .ifCond .ne 5, 3), (7, .iconst 1, 1), (8, .ireturn, 1), (9, .aload_n 0, 1), (10, .getfield 248, 3), (13, .bipush 8, 2), (15, .if_icmp .ne 5, 3), (18, .iconst 3, 1), (19, .ireturn, 1), (20, .aload_n 0, 1), (21, .dup, 1), (22, .getfield 236, 3), (25, .iconst 1, 1), (26, .iadd, 1), (27, .putfield 236, 3), (30, .aload_n 0, 1), (31, .invokevirtual 239, 3), (34, .istore_n 2, 1), (35, .iload_n 2, 1), (36, .bipush 48, 2), (38, .if_icmp .lt 9, 3), (41, .iload_n 2, 1), (42, .bipush 57, 2), (44, .if_icmp .le 5, 3), (47, .iconst 1, 1), (48, .ireturn, 1), (49, .iload_n 2, 1), (50, .bipush 50, 2), (52, .if_icmp .le 5, 3), (55, .iconst 2, 1), (56, .ireturn, 1), (57, .aload_n 0, 1), (58, .dup, 1), (59, .getfield 236, 3), (62, .iconst 1, 1), (63, .iadd, 1), (64, .putfield 236, 3), (67, .aload_n 0, 1), (68, .getfield 63, 3), (71, .aload_n 0, 1), (72, .getfield 248, 3), (75, .aload_n 0, 1), (76, .getfield 242, 3), (79, .iconst 1, 1), (80, .isub, 1), (81, .iastore, 1), (82, .aload_n 0, 1), (83, .getfield 66, 3), (86, .aload_n 0, 1), (87, .getfield 248, 3), (90, .iload_n 2, 1), (91, .bipush 48, 2), (93, .isub, 1), (94, .iastore, 1), (95, .aload_n 0, 1), (96, .getfield 69, 3), (99, .aload_n 0, 1), (100, .getfield 248, 3), (103, .iload_n 1, 1), (104, .bastore, 1), (105, .aload_n 0, 1), (106, .dup, 1), (107, .getfield 248, 3), (110, .iconst 1, 1), (111, .iadd, 1), (112, .putfield 248, 3), (115, .aload_n 0, 1), (116, .invokevirtual 245, 3), (119, .ireturn, 1)]
noncomputable def mX12_readsStep : MI := (iX12_readsStep, [(63, 12, 29), (66, 12, 30), (69, 12, 31), (236, 12, 26), (242, 12, 27), (248, 12, 28)], [], [(956, 1, 12, 0, 0, fX12_sign), (980, 1, 12, 0, 0, fX12_ends)], [], (0, 0), 1)
noncomputable def fX12_readsStep : CF := mth mX12_readsStep 3
def iX12_reads : List (Nat × Instr × Nat) := [(0, .aload_n 0, 1), (1, .iconst 0, 1), (2, .putfield 236, 3), (5, .aload_n 0, 1), (6, .iconst 0, 1), (7, .putfield 242, 3), (10, .aload_n 0, 1), (11, .iconst 0, 1), (12, .putfield 248, 3), (15, .iconst 0, 1), (16, .istore_n 1, 1), (17, .iload_n 1, 1), (18, .ifCond .ne 64, 3), (21, .aload_n 0, 1), (22, .invokevirtual 239, 3), (25, .iconst (-1), 1), (26, .if_icmp .eq 56, 3), (29, .aload_n 0, 1), (30, .invokevirtual 239, 3), (33, .istore_n 2, 1), (34, .iload_n 2, 1), (35, .bipush 116, 2), (37, .if_icmp .ne 10, 3), (40, .aload_n 0, 1), (41, .invokevirtual 251, 3), (44, .goto 34, 3), (47, .iload_n 2, 1), (48, .bipush 114, 2), (50, .if_icmp .eq 9, 3), (53, .iload_n 2, 1), (54, .bipush 119, 2), (56, .if_icmp .ne 21, 3), (59, .aload_n 0, 1), (60, .iload_n 2, 1), (61, .bipush 119, 2), (63, .if_icmp .ne 7, 3), (66, .iconst 1, 1), (67, .goto 4, 3), (70, .iconst 0, 1), (71, .invokevirtual 254, 3), (74, .goto 4, 3), (77, .iconst 1, 1), (78, .istore_n 1, 1), (79, .goto (-62), 3), (82, .iload_n 1, 1), (83, .ireturn, 1)]
noncomputable def mX12_reads : MI := (iX12_reads, [(236, 12, 26), (242, 12, 27), (248, 12, 28)], [], [(956, 1, 12, 0, 0, fX12_sign), (1004, 1, 12, 0, 0, fX12_readsThread), (1016, 2, 12, 0, 0, fX12_readsStep)], [], (0, 0), 1)
noncomputable def fX12_reads : CF := mth mX12_reads 3
def iX12_threads : List (Nat × Instr × Nat) := [(0, .aload_n 0, 1), (1, .invokevirtual 258, 3), (4, .istore_n 1, 1), (5, .aload_n 0, 1), (6, .iconst 0, 1), (7, .putfield 232, 3), (10, .iload_n 1, 1), (11, .ifCond .le 16, 3), (14, .aload_n 0, 1), (15, .aload_n 0, 1), (16, .getfield 236, 3), (19, .putfield 60, 3), (22, .bipush (-10), 2), (24, .iload_n 1, 1), (25, .isub, 1), (26, .ireturn, 1), (27, .aload_n 0, 1), (28, .iconst (-1), 1), (29, .putfield 60, 3), (32, .aload_n 0, 1), (33, .aload_n 0, 1), (34, .getfield 242, 3), (37, .putfield 261, 3), (40, .aload_n 0, 1), (41, .aload_n 0, 1), (42, .getfield 248, 3), (45, .putfield 110, 3), (48, .iconst 0, 1), (49, .istore_n 2, 1), (50, .iload_n 2, 1), (51, .aload_n 0, 1), (52, .getfield 110, 3), (55, .if_icmp .ge 45, 3), (58, .aload_n 0, 1), (59, .getfield 7, 3), (62, .iload_n 2, 1), (63, .aload_n 0, 1), (64, .getfield 63, 3), (67, .iload_n 2, 1), (68, .iaload, 1), (69, .iastore, 1), (70, .aload_n 0, 1), (71, .getfield 13, 3), (74, .iload_n 2, 1), (75, .aload_n 0, 1), (76, .getfield 66, 3), (79, .iload_n 2, 1), (80, .iaload, 1), (81, .iastore, 1), (82, .aload_n 0, 1), (83, .getfield 16, 3), (86, .iload_n 2, 1), (87, .aload_n 0, 1), (88, .getfield 69, 3), (91, .iload_n 2, 1), (92, .baload, 1), (93, .bastore, 1), (94, .iinc 2 1, 3), (97, .goto (-47), 3), (100, .iconst 0, 1), (101, .istore_n 2, 1), (102, .iload_n 2, 1), (103, .bipush 8, 2), (105, .if_icmp .ge 16, 3), (108, .aload_n 0, 1), (109, .getfield 20, 3), (112, .iload_n 2, 1), (113, .iconst 1, 1), (114, .iastore, 1), (115, .iinc 2 1, 3), (118, .goto (-16), 3), (121, .aload_n 0, 1), (122, .iconst 0, 1), (123, .putfield 127, 3), (126, .aload_n 0, 1), (127, .bipush 15, 2), (129, .putfield 23, 3), (132, .aload_n 0, 1), (133, .iconst 0, 1), (134, .putfield 154, 3), (137, .aload_n 0, 1), (138, .aload_n 0, 1), (139, .aload_n 0, 1), (140, .getfield 27, 3), (143, .iconst 1, 1), (144, .invokevirtual 103, 3), (147, .putfield 107, 3), (150, .aload_n 0, 1), (151, .invokevirtual 264, 3), (154, .aload_n 0, 1), (155, .iconst 0, 1), (156, .putfield 267, 3), (159, .aload_n 0, 1), (160, .iconst 0, 1), (161, .putfield 270, 3), (164, .aload_n 0, 1), (165, .getfield 87, 3), (168, .iconst 0, 1), (169, .iconst 0, 1), (170, .bastore, 1), (171, .aload_n 0, 1), (172, .getfield 87, 3), (175, .iconst 1, 1), (176, .iconst 0, 1), (177, .bastore, 1), (178, .aload_n 0, 1), (179, .getfield 110, 3), (182, .ireturn, 1)]
noncomputable def mX12_threads : MI := (iX12_threads, [(7, 12, 2), (13, 12, 3), (16, 12, 4), (20, 12, 5), (23, 12, 7), (27, 12, 8), (60, 12, 25), (63, 12, 29), (66, 12, 30), (69, 12, 31), (87, 12, 40), (107, 12, 10), (110, 12, 1), (127, 12, 6), (154, 12, 12), (232, 12, 24), (236, 12, 26), (242, 12, 27), (248, 12, 28), (261, 12, 0), (267, 12, 37), (270, 12, 32)], [], [(412, 3, 12, 0, 0, fX12_goes), (1032, 1, 12, 0, 0, fX12_reads), (1056, 1, 12, 0, 0, fX12_laysRings)], [], (0, 0), 1)
noncomputable def fX12_threads : CF := mth mX12_threads 3
def iX12_fault : List (Nat × Instr × Nat) := [(0, .aload_n 0, 1), (1, .getfield 60, 3), (4, .ireturn, 1)]
noncomputable def mX12_fault : MI := (iX12_fault, [(60, 12, 25)], [], [], [], (0, 0), 1)
noncomputable def fX12_fault : CF := mth mX12_fault 1
def iX12_marks : List (Nat × Instr × Nat) := [(0, .aload_n 0, 1), (1, .getfield 270, 3), (4, .bipush 20, 2), (6, .if_icmp .ne 86, 3), (9, .iconst 1, 1), (10, .istore_n 1, 1), (11, .iload_n 1, 1), (12, .bipush 20, 2), (14, .if_icmp .ge 37, 3), (17, .aload_n 0, 1), (18, .getfield 72, 3), (21, .iload_n 1, 1), (22, .iconst 1, 1), (23, .isub, 1), (24, .aload_n 0, 1), (25, .getfield 72, 3), (28, .iload_n 1, 1), (29, .iaload, 1), (30, .iastore, 1), (31, .aload_n 0, 1), (32, .getfield 75, 3), (35, .iload_n 1, 1), (36, .iconst 1, 1), (37, .isub, 1), (38, .aload_n 0, 1), (39, .getfield 75, 3), (42, .iload_n 1, 1), (43, .iaload, 1), (44, .iastore, 1), (45, .iinc 1 1, 3), (48, .goto (-37), 3), (51, .bipush 8, 2), (53, .istore_n 1, 1), (54, .iload_n 1, 1), (55, .sipush 160, 3), (58, .if_icmp .ge 24, 3), (61, .aload_n 0, 1), (62, .getfield 78, 3), (65, .iload_n 1, 1), (66, .bipush 8, 2), (68, .isub, 1), (69, .aload_n 0, 1), (70, .getfield 78, 3), (73, .iload_n 1, 1), (74, .iaload, 1), (75, .iastore, 1), (76, .iinc 1 1, 3), (79, .goto (-25), 3), (82, .aload_n 0, 1), (83, .dup, 1), (84, .getfield 270, 3), (87, .iconst 1, 1), (88, .isub, 1), (89, .putfield 270, 3), (92, .aload_n 0, 1), (93, .getfield 72, 3), (96, .aload_n 0, 1), (97, .getfield 270, 3), (100, .aload_n 0, 1), (101, .getfield 127, 3), (104, .iastore, 1), (105, .aload_n 0, 1), (106, .getfield 75, 3), (109, .aload_n 0, 1), (110, .getfield 270, 3), (113, .aload_n 0, 1), (114, .getfield 23, 3), (117, .iastore, 1), (118, .iconst 0, 1), (119, .istore_n 1, 1), (120, .iload_n 1, 1), (121, .bipush 8, 2), (123, .if_icmp .ge 29, 3), (126, .aload_n 0, 1), (127, .getfield 78, 3), (130, .bipush 8, 2), (132, .aload_n 0, 1), (133, .getfield 270, 3), (136, .imul, 1), (137, .iload_n 1, 1), (138, .iadd, 1), (139, .aload_n 0, 1), (140, .getfield 20, 3), (143, .iload_n 1, 1), (144, .iaload, 1), (145, .iastore, 1), (146, .iinc 1 1, 3), (149, .goto (-29), 3), (152, .aload_n 0, 1), (153, .dup, 1), (154, .getfield 270, 3), (157, .iconst 1, 1), (158, .iadd, 1), (159, .putfield 270, 3), (162, .aload_n 0, 1), (163, .iconst 0, 1), (164, .putfield 154, 3), (167, .return_, 1)]
noncomputable def mX12_marks : MI := (iX12_marks, [(20, 12, 5), (23, 12, 7), (72, 12, 33), (75, 12, 34), (78, 12, 35), (127, 12, 6), (154, 12, 12), (270, 12, 32)], [], [], [], (0, 0), 0)
noncomputable def fX12_marks : CF := mth mX12_marks 2
def iX12_fence : List (Nat × Instr × Nat) := [(0, .aload_n 0, 1), (1, .iload_n 1, 1), (2, .invokevirtual 212, 3), (5, .ifCond .ne 6, 3), (8, .ldc 227, 2), (10, .ireturn, 1), (11, .aload_n 0, 1), (12, .invokevirtual 273, 3), (15, .aload_n 0, 1), (16, .iload_n 2, 1), (17, .ifCond .eq 14, 3), (20, .aload_n 0, 1), (21, .getfield 127, 3), (24, .iconst 1, 1), (25, .iload_n 1, 1), (26, .ishl, 1), (27, .ior, 1), (28, .goto 13, 3), (31, .aload_n 0, 1), (32, .getfield 127, 3), (35, .iconst 1, 1), (36, .iload_n 1, 1), (37, .ishl, 1), (38, .iconst (-1), 1), (39, .ixor, 1), (40, .iand, 1), (41, .putfield 127, 3), (44, .aload_n 0, 1), (45, .aload_n 0, 1), (46, .getfield 127, 3), (49, .invokevirtual 221, 3), (52, .ireturn, 1)]
noncomputable def mX12_fence : MI := (iX12_fence, [(127, 12, 6)], [(227, .int (-1000000001))], [(848, 2, 12, 0, 0, fX12_isGap), (884, 2, 12, 0, 0, fX12_price), (1092, 1, 12, 0, 0, fX12_marks)], [], (0, 0), 1)
noncomputable def fX12_fence : CF := mth mX12_fence 3
def iX12_cost : List (Nat × Instr × Nat) := [(0, .aload_n 0, 1), (1, .iload_n 1, 1), (2, .invokevirtual 212, 3), (5, .ifCond .ne 6, 3), (8, .ldc 227, 2), (10, .ireturn, 1), (11, .iload_n 2, 1), (12, .iconst 1, 1), (13, .if_icmp .lt 9, 3), (16, .iload_n 2, 1), (17, .bipush 9, 2), (19, .if_icmp .le 6, 3), (22, .ldc 169, 2), (24, .ireturn, 1), (25, .aload_n 0, 1), (26, .invokevirtual 273, 3), (29, .aload_n 0, 1), (30, .getfield 20, 3), (33, .iload_n 1, 1), (34, .iaload, 1), (35, .istore_n 3, 1), (36, .aload_n 0, 1), (37, .getfield 20, 3), (40, .iload_n 1, 1), (41, .iload_n 2, 1), (42, .iastore, 1), (43, .iload_n 3, 1), (44, .ireturn, 1)]
noncomputable def mX12_cost : MI := (iX12_cost, [(20, 12, 5)], [(169, .int (-1000000002)), (227, .int (-1000000001))], [(848, 2, 12, 0, 0, fX12_isGap), (1092, 1, 12, 0, 0, fX12_marks)], [], (0, 0), 1)
noncomputable def fX12_cost : CF := mth mX12_cost 4
def iX12_overtaking : List (Nat × Instr × Nat) := [(0, .iload_n 1, 1), (1, .ifCond .lt 9, 3), (4, .iload_n 1, 1), (5, .bipush 15, 2), (7, .if_icmp .le 6, 3), (10, .ldc 169, 2), (12, .ireturn, 1), (13, .aload_n 0, 1), (14, .invokevirtual 273, 3), (17, .aload_n 0, 1), (18, .iload_n 1, 1), (19, .putfield 23, 3), (22, .aload_n 0, 1), (23, .invokevirtual 161, 3), (26, .ireturn, 1)]
noncomputable def mX12_overtaking : MI := (iX12_overtaking, [(23, 12, 7)], [(169, .int (-1000000002))], [(644, 1, 12, 0, 0, fX12_readings), (1092, 1, 12, 0, 0, fX12_marks)], [], (0, 0), 1)
noncomputable def fX12_overtaking : CF := mth mX12_overtaking 2
def iX12_best : List (Nat × Instr × Nat) := [(0, .aload_n 0, 1), (1, .invokevirtual 273, 3), (4, .aload_n 0, 1), (5, .aload_n 0, 1), (6, .invokevirtual 276, 3), (9, .putfield 127, 3), (12, .aload_n 0, 1), (13, .aload_n 0, 1), (14, .getfield 127, 3), (17, .invokevirtual 221, 3), (20, .ireturn, 1)]
noncomputable def mX12_best : MI := (iX12_best, [(127, 12, 6)], [], [(884, 2, 12, 0, 0, fX12_price), (1092, 1, 12, 0, 0, fX12_marks), (1104, 1, 12, 0, 0, fX12_cheapest)], [], (0, 0), 1)
noncomputable def fX12_best : CF := mth mX12_best 1
def iX12_draw : List (Nat × Instr × Nat) := [(0, .aload_n 0, 1), (1, .aload_n 0, 1), (2, .getfield 279, 3), (5, .ldc2_w 283, 3), (8, .lmul, 1), (9, .ldc2_w 285, 3), (12, .ladd, 1), (13, .ldc2_w 287, 3), (16, .lrem, 1), (17, .putfield 279, 3), (20, .aload_n 0, 1), (21, .getfield 279, 3), (24, .ldc2_w 289, 3), (27, .ldiv, 1), (28, .iload_n 1, 1), (29, .i2l, 1), (30, .lrem, 1), (31, .l2i, 1), (32, .ireturn, 1)]
noncomputable def mX12_draw : MI := (iX12_draw, [(279, 12, 36)], [(283, .long (1103515245)), (285, .long (12345)), (287, .long (2147483648)), (289, .long (65536))], [], [], (0, 0), 1)
noncomputable def fX12_draw : CF := mth mX12_draw 2
def iX12_drawn : List (Nat × Instr × Nat) := [(0, .aload_n 0, 1), (1, .iconst 4, 1), (2, .invokevirtual 291, 3), (5, .istore_n 1, 1), (6, .aload_n 0, 1), (7, .aload_n 0, 1), (8, .getfield 110, 3), (11, .invokevirtual 291, 3), (14, .istore_n 2, 1), (15, .aload_n 0, 1), (16, .bipush 9, 2), (18, .invokevirtual 291, 3), (21, .istore_n 3, 1), (22, .aload_n 0, 1), (23, .bipush 16, 2), (25, .invokevirtual 291, 3), (28, .istore 4, 2), (30, .aload_n 0, 1), (31, .invokevirtual 273, 3), (34, .iload_n 1, 1), (35, .iconst 3, 1), (36, .if_icmp .ne 12, 3), (39, .aload_n 0, 1), (40, .iload 4, 2), (42, .putfield 23, 3), (45, .goto 48, 3), (48, .aload_n 0, 1), (49, .iload_n 2, 1), (50, .invokevirtual 212, 3), (53, .ifCond .eq 20, 3), (56, .iload_n 1, 1), (57, .iconst 2, 1), (58, .if_icmp .ne 15, 3), (61, .aload_n 0, 1), (62, .getfield 20, 3), (65, .iload_n 2, 1), (66, .iload_n 3, 1), (67, .iconst 1, 1), (68, .iadd, 1), (69, .iastore, 1), (70, .goto 23, 3), (73, .aload_n 0, 1), (74, .iload_n 2, 1), (75, .invokevirtual 212, 3), (78, .ifCond .eq 15, 3), (81, .aload_n 0, 1), (82, .dup, 1), (83, .getfield 127, 3), (86, .iconst 1, 1), (87, .iload_n 2, 1), (88, .ishl, 1), (89, .ixor, 1), (90, .putfield 127, 3), (93, .return_, 1)]
noncomputable def mX12_drawn : MI := (iX12_drawn, [(20, 12, 5), (23, 12, 7), (110, 12, 1), (127, 12, 6)], [], [(848, 2, 12, 0, 0, fX12_isGap), (1092, 1, 12, 0, 0, fX12_marks), (1164, 2, 12, 0, 0, fX12_draw)], [], (0, 0), 0)
noncomputable def fX12_drawn : CF := mth mX12_drawn 5
def iX12_drift : List (Nat × Instr × Nat) := [(0, .iload_n 1, 1), (1, .iconst 1, 1), (2, .if_icmp .lt 9, 3), (5, .iload_n 1, 1), (6, .bipush 20, 2), (8, .if_icmp .le 6, 3), (11, .ldc 169, 2), (13, .ireturn, 1), (14, .iconst 0, 1), (15, .istore_n 2, 1), (16, .iload_n 2, 1), (17, .iload_n 1, 1), (18, .if_icmp .ge 20, 3), (21, .aload_n 0, 1), (22, .getfield 110, 3), (25, .ifCond .le 13, 3), (28, .aload_n 0, 1), (29, .invokevirtual 294, 3), (32, .iinc 2 1, 3), (35, .goto (-19), 3), (38, .aload_n 0, 1), (39, .getfield 127, 3), (42, .ireturn, 1)]
noncomputable def mX12_drift : MI := (iX12_drift, [(110, 12, 1), (127, 12, 6)], [(169, .int (-1000000002))], [(1176, 1, 12, 0, 0, fX12_drawn)], [], (0, 0), 1)
noncomputable def fX12_drift : CF := mth mX12_drift 3
def iX12_undo : List (Nat × Instr × Nat) := [(0, .iload_n 1, 1), (1, .iconst 1, 1), (2, .if_icmp .lt 9, 3), (5, .iload_n 1, 1), (6, .bipush 20, 2), (8, .if_icmp .le 6, 3), (11, .ldc 169, 2), (13, .ireturn, 1), (14, .iload_n 1, 1), (15, .aload_n 0, 1), (16, .getfield 270, 3), (19, .if_icmp .le 6, 3), (22, .ldc 231, 2), (24, .ireturn, 1), (25, .aload_n 0, 1), (26, .dup, 1), (27, .getfield 270, 3), (30, .iload_n 1, 1), (31, .isub, 1), (32, .putfield 270, 3), (35, .aload_n 0, 1), (36, .aload_n 0, 1), (37, .getfield 72, 3), (40, .aload_n 0, 1), (41, .getfield 270, 3), (44, .iaload, 1), (45, .putfield 127, 3), (48, .aload_n 0, 1), (49, .aload_n 0, 1), (50, .getfield 75, 3), (53, .aload_n 0, 1), (54, .getfield 270, 3), (57, .iaload, 1), (58, .putfield 23, 3), (61, .iconst 0, 1), (62, .istore_n 2, 1), (63, .iload_n 2, 1), (64, .bipush 8, 2), (66, .if_icmp .ge 29, 3), (69, .aload_n 0, 1), (70, .getfield 20, 3), (73, .iload_n 2, 1), (74, .aload_n 0, 1), (75, .getfield 78, 3), (78, .bipush 8, 2), (80, .aload_n 0, 1), (81, .getfield 270, 3), (84, .imul, 1), (85, .iload_n 2, 1), (86, .iadd, 1), (87, .iaload, 1), (88, .iastore, 1), (89, .iinc 2 1, 3), (92, .goto (-29), 3), (95, .aload_n 0, 1), (96, .iconst 0, 1), (97, .putfield 154, 3), (100, .aload_n 0, 1), (101, .getfield 270, 3), (104, .ireturn, 1)]
noncomputable def mX12_undo : MI := (iX12_undo, [(20, 12, 5), (23, 12, 7), (72, 12, 33), (75, 12, 34), (78, 12, 35), (127, 12, 6), (154, 12, 12), (270, 12, 32)], [(169, .int (-1000000002)), (231, .int (-1000000003))], [], [], (0, 0), 1)
noncomputable def fX12_undo : CF := mth mX12_undo 3
def iX12_write : List (Nat × Instr × Nat) := [(0, .iload_n 1, 1), (1, .ifCond .lt 10, 3), (4, .iload_n 1, 1), (5, .ldc_w 297, 3), (8, .if_icmp .le 6, 3), (11, .ldc 169, 2), (13, .ireturn, 1), (14, .aload_n 0, 1), (15, .getfield 267, 3), (18, .bipush 20, 2), (20, .if_icmp .ne 6, 3), (23, .ldc 235, 2), (25, .ireturn, 1), (26, .aload_n 0, 1), (27, .getfield 81, 3), (30, .aload_n 0, 1), (31, .getfield 267, 3), (34, .iload_n 1, 1), (35, .iastore, 1), (36, .aload_n 0, 1), (37, .getfield 84, 3), (40, .aload_n 0, 1), (41, .getfield 267, 3), (44, .iload_n 2, 1), (45, .bastore, 1), (46, .aload_n 0, 1), (47, .dup, 1), (48, .getfield 267, 3), (51, .iconst 1, 1), (52, .iadd, 1), (53, .putfield 267, 3), (56, .aload_n 0, 1), (57, .getfield 267, 3), (60, .ireturn, 1)]
noncomputable def mX12_write : MI := (iX12_write, [(81, 12, 38), (84, 12, 39), (267, 12, 37)], [(169, .int (-1000000002)), (235, .int (-1000000004)), (297, .int (43046720))], [], [], (0, 0), 1)
noncomputable def fX12_write : CF := mth mX12_write 3
def iX12_tear : List (Nat × Instr × Nat) := [(0, .aload_n 0, 1), (1, .getfield 267, 3), (4, .istore_n 1, 1), (5, .aload_n 0, 1), (6, .iconst 0, 1), (7, .putfield 267, 3), (10, .iload_n 1, 1), (11, .ireturn, 1)]
noncomputable def mX12_tear : MI := (iX12_tear, [(267, 12, 37)], [], [], [], (0, 0), 1)
noncomputable def fX12_tear : CF := mth mX12_tear 2
def iX12_wrong : List (Nat × Instr × Nat) := [(0, .iconst 0, 1), (1, .istore_n 1, 1), (2, .iload_n 1, 1), (3, .aload_n 0, 1), (4, .getfield 267, 3), (7, .if_icmp .ge 38, 3), (10, .aload_n 0, 1), (11, .aload_n 0, 1), (12, .getfield 81, 3), (15, .iload_n 1, 1), (16, .iaload, 1), (17, .invokevirtual 298, 3), (20, .ifCond .le 7, 3), (23, .iconst 1, 1), (24, .goto 4, 3), (27, .iconst 0, 1), (28, .aload_n 0, 1), (29, .getfield 84, 3), (32, .iload_n 1, 1), (33, .baload, 1), (34, .if_icmp .eq 5, 3), (37, .iload_n 1, 1), (38, .ireturn, 1), (39, .iinc 1 1, 3), (42, .goto (-40), 3), (45, .iconst (-1), 1), (46, .ireturn, 1)]
noncomputable def mX12_wrong : MI := (iX12_wrong, [(81, 12, 38), (84, 12, 39), (267, 12, 37)], [], [(1192, 2, 12, 0, 0, fX12_can)], [], (0, 0), 1)
noncomputable def fX12_wrong : CF := mth mX12_wrong 2
def iX12_seed : List (Nat × Instr × Nat) := [(0, .iload_n 1, 1), (1, .ifCond .ge 6, 3), (4, .ldc 169, 2), (6, .ireturn, 1), (7, .aload_n 0, 1), (8, .getfield 279, 3), (11, .l2i, 1), (12, .istore_n 2, 1), (13, .aload_n 0, 1), (14, .iload_n 1, 1), (15, .i2l, 1), (16, .putfield 279, 3), (19, .iload_n 2, 1), (20, .ireturn, 1)]
noncomputable def mX12_seed : MI := (iX12_seed, [(279, 12, 36)], [(169, .int (-1000000002))], [], [], (0, 0), 1)
noncomputable def fX12_seed : CF := mth mX12_seed 3
def iX12_keep : List (Nat × Instr × Nat) := [(0, .iload_n 1, 1), (1, .ifCond .lt 8, 3), (4, .iload_n 1, 1), (5, .iconst 1, 1), (6, .if_icmp .le 6, 3), (9, .ldc 227, 2), (11, .ireturn, 1), (12, .aload_n 0, 1), (13, .getfield 87, 3), (16, .iload_n 1, 1), (17, .iconst 1, 1), (18, .bastore, 1), (19, .aload_n 0, 1), (20, .getfield 90, 3), (23, .iload_n 1, 1), (24, .aload_n 0, 1), (25, .getfield 127, 3), (28, .iastore, 1), (29, .aload_n 0, 1), (30, .getfield 93, 3), (33, .iload_n 1, 1), (34, .aload_n 0, 1), (35, .getfield 23, 3), (38, .iastore, 1), (39, .aload_n 0, 1), (40, .getfield 99, 3), (43, .iload_n 1, 1), (44, .aload_n 0, 1), (45, .getfield 279, 3), (48, .lastore, 1), (49, .iconst 0, 1), (50, .istore_n 2, 1), (51, .iload_n 2, 1), (52, .bipush 8, 2), (54, .if_icmp .ge 26, 3), (57, .aload_n 0, 1), (58, .getfield 96, 3), (61, .bipush 8, 2), (63, .iload_n 1, 1), (64, .imul, 1), (65, .iload_n 2, 1), (66, .iadd, 1), (67, .aload_n 0, 1), (68, .getfield 20, 3), (71, .iload_n 2, 1), (72, .iaload, 1), (73, .iastore, 1), (74, .iinc 2 1, 3), (77, .goto (-26), 3), (80, .aload_n 0, 1), (81, .iconst 0, 1), (82, .putfield 270, 3), (85, .iconst 1, 1), (86, .ireturn, 1)]
noncomputable def mX12_keep : MI := (iX12_keep, [(20, 12, 5), (23, 12, 7), (87, 12, 40), (90, 12, 41), (93, 12, 42), (96, 12, 43), (99, 12, 44), (127, 12, 6), (270, 12, 32), (279, 12, 36)], [(227, .int (-1000000001))], [], [], (0, 0), 1)
noncomputable def fX12_keep : CF := mth mX12_keep 3
def iX12_goBack : List (Nat × Instr × Nat) := [(0, .iload_n 1, 1), (1, .ifCond .lt 8, 3), (4, .iload_n 1, 1), (5, .iconst 1, 1), (6, .if_icmp .le 6, 3), (9, .ldc 227, 2), (11, .ireturn, 1), (12, .aload_n 0, 1), (13, .getfield 87, 3), (16, .iload_n 1, 1), (17, .baload, 1), (18, .ifCond .ne 6, 3), (21, .ldc 231, 2), (23, .ireturn, 1), (24, .aload_n 0, 1), (25, .aload_n 0, 1), (26, .getfield 90, 3), (29, .iload_n 1, 1), (30, .iaload, 1), (31, .putfield 127, 3), (34, .aload_n 0, 1), (35, .aload_n 0, 1), (36, .getfield 93, 3), (39, .iload_n 1, 1), (40, .iaload, 1), (41, .putfield 23, 3), (44, .aload_n 0, 1), (45, .aload_n 0, 1), (46, .getfield 99, 3), (49, .iload_n 1, 1), (50, .laload, 1), (51, .putfield 279, 3), (54, .iconst 0, 1), (55, .istore_n 2, 1), (56, .iload_n 2, 1), (57, .bipush 8, 2), (59, .if_icmp .ge 26, 3), (62, .aload_n 0, 1), (63, .getfield 20, 3), (66, .iload_n 2, 1), (67, .aload_n 0, 1), (68, .getfield 96, 3), (71, .bipush 8, 2), (73, .iload_n 1, 1), (74, .imul, 1), (75, .iload_n 2, 1), (76, .iadd, 1), (77, .iaload, 1), (78, .iastore, 1), (79, .iinc 2 1, 3), (82, .goto (-26), 3), (85, .aload_n 0, 1), (86, .iconst 0, 1), (87, .putfield 270, 3), (90, .aload_n 0, 1), (91, .iconst 0, 1), (92, .putfield 154, 3), (95, .iconst 1, 1), (96, .ireturn, 1)]
noncomputable def mX12_goBack : MI := (iX12_goBack, [(20, 12, 5), (23, 12, 7), (87, 12, 40), (90, 12, 41), (93, 12, 42), (96, 12, 43), (99, 12, 44), (127, 12, 6), (154, 12, 12), (270, 12, 32), (279, 12, 36)], [(227, .int (-1000000001)), (231, .int (-1000000003))], [], [], (0, 0), 1)
noncomputable def fX12_goBack : CF := mth mX12_goBack 3
def iX12_toldMore : List (Nat × Instr × Nat) := [(0, .iload_n 1, 1), (1, .tableswitch 120 10 18 #[51, 56, 65, 86, 91, 100, 105, 110, 115], 51), (52, .aload_n 0, 1), (53, .invokevirtual 215, 3), (56, .ireturn, 1), (57, .aload_n 0, 1), (58, .aload_n 0, 1), (59, .getfield 127, 3), (62, .invokevirtual 209, 3), (65, .ireturn, 1), (66, .aload_n 0, 1), (67, .aload_n 0, 1), (68, .getfield 127, 3), (71, .invokevirtual 209, 3), (74, .aload_n 0, 1), (75, .invokevirtual 215, 3), (78, .if_icmp .ne 7, 3), (81, .iconst 1, 1), (82, .goto 4, 3), (85, .iconst 0, 1), (86, .ireturn, 1), (87, .aload_n 0, 1), (88, .invokevirtual 276, 3), (91, .ireturn, 1), (92, .aload_n 0, 1), (93, .aload_n 0, 1), (94, .invokevirtual 276, 3), (97, .invokevirtual 221, 3), (100, .ireturn, 1), (101, .aload_n 0, 1), (102, .invokevirtual 301, 3), (105, .ireturn, 1), (106, .aload_n 0, 1), (107, .getfield 267, 3), (110, .ireturn, 1), (111, .aload_n 0, 1), (112, .invokevirtual 304, 3), (115, .ireturn, 1), (116, .aload_n 0, 1), (117, .getfield 270, 3), (120, .ireturn, 1), (121, .ldc 169, 2), (123, .ireturn, 1)]
noncomputable def mX12_toldMore : MI := (iX12_toldMore, [(127, 12, 6), (267, 12, 37), (270, 12, 32)], [(169, .int (-1000000002))], [(836, 2, 12, 0, 0, fX12_holds), (860, 1, 12, 0, 0, fX12_loosePairs), (884, 2, 12, 0, 0, fX12_price), (1104, 1, 12, 0, 0, fX12_cheapest), (1204, 1, 12, 0, 0, fX12_needed), (1216, 1, 12, 0, 0, fX12_wrong)], [], (0, 0), 1)
noncomputable def fX12_toldMore : CF := mth mX12_toldMore 2
def iX12_told : List (Nat × Instr × Nat) := [(0, .iload_n 1, 1), (1, .tableswitch 114 0 9 #[55, 60, 65, 70, 75, 80, 89, 94, 99, 109], 55), (56, .aload_n 0, 1), (57, .getfield 261, 3), (60, .ireturn, 1), (61, .aload_n 0, 1), (62, .getfield 110, 3), (65, .ireturn, 1), (66, .aload_n 0, 1), (67, .getfield 232, 3), (70, .ireturn, 1), (71, .aload_n 0, 1), (72, .getfield 23, 3), (75, .ireturn, 1), (76, .aload_n 0, 1), (77, .getfield 127, 3), (80, .ireturn, 1), (81, .aload_n 0, 1), (82, .aload_n 0, 1), (83, .getfield 127, 3), (86, .invokevirtual 221, 3), (89, .ireturn, 1), (90, .aload_n 0, 1), (91, .invokevirtual 161, 3), (94, .ireturn, 1), (95, .aload_n 0, 1), (96, .getfield 107, 3), (99, .ireturn, 1), (100, .aload_n 0, 1), (101, .invokevirtual 161, 3), (104, .aload_n 0, 1), (105, .getfield 107, 3), (108, .isub, 1), (109, .ireturn, 1), (110, .aload_n 0, 1), (111, .getfield 183, 3), (114, .ireturn, 1), (115, .aload_n 0, 1), (116, .iload_n 1, 1), (117, .invokevirtual 307, 3), (120, .ireturn, 1)]
noncomputable def mX12_told : MI := (iX12_told, [(23, 12, 7), (107, 12, 10), (110, 12, 1), (127, 12, 6), (183, 12, 18), (232, 12, 24), (261, 12, 0)], [], [(644, 1, 12, 0, 0, fX12_readings), (884, 2, 12, 0, 0, fX12_price), (1228, 2, 12, 0, 0, fX12_toldMore)], [], (0, 0), 1)
noncomputable def fX12_told : CF := mth mX12_told 2
end
section
/-! EACH METHOD'S CONTRACT out of its data and its callees' (by program) -/
def uchk : List Cond → List Nat → Bool
  | [], _ => true
  | w :: r, i :: is => decide (lw_tbl[i]? = some w) && goodWord w && uchk r is
  | _ :: _, [] => false
theorem uchk_ok : ∀ {l : List Cond} {is : List Nat}, uchk l is = true → ∀ w ∈ l, w ∈ gdW := by
  intro l
  induction l with
  | nil => intro is _ w h; exact absurd h List.not_mem_nil
  | cons q r ih =>
    intro is h w hm
    cases is with
    | nil => cases h
    | cons i is =>
      unfold uchk at h
      simp only [Bool.and_eq_true, decide_eq_true_eq] at h
      rcases List.mem_cons.mp hm with z | z
      · subst z; exact gd_of h.1.1 h.1.2
      · exact ih h.2 w z
theorem uX0 : uchk (u_ws RX0 TX0 3) [269, 271, 273] = true := by decide +kernel
theorem uX1 : uchk (u_ws RX1 TX1 3) [230, 232, 234] = true := by decide +kernel
theorem uX2 : uchk (u_ws RX2 TX2 3) [252, 254, 256] = true := by decide +kernel
theorem uX3 : uchk (u_ws RX3 TX3 2) [187, 189] = true := by decide +kernel
theorem uX4 : uchk (u_ws RX4 TX4 7) [289, 291, 293, 295, 297, 299, 301] = true := by decide +kernel
theorem uX5 : uchk (u_ws RX5 TX5 3) [118, 120, 122] = true := by decide +kernel
theorem uX6 : uchk (u_ws RX6 TX6 6) [145, 147, 149, 151, 153, 155] = true := by decide +kernel
theorem uX7 : uchk (u_ws RX7 TX7 2) [314, 316] = true := by decide +kernel
theorem uX8 : uchk (u_ws RX8 TX8 4) [169, 171, 173, 175] = true := by decide +kernel
theorem uX9 : uchk (u_ws RX9 TX9 3) [210, 212, 214] = true := by decide +kernel
theorem uX10 : uchk (u_ws RX10 TX10 2) [102, 104] = true := by decide +kernel
theorem uX11 : uchk (u_ws RX11 TX11 19) [338, 340, 342, 344, 346, 348, 350, 352, 354, 356, 358, 360, 362, 364, 366, 368, 370, 372, 374] = true := by decide +kernel
theorem uX12 : uchk (u_ws RX12 TX12 45) [898, 900, 902, 904, 906, 908, 910, 912, 914, 916, 918, 920, 922, 924, 926, 928, 930, 932, 934, 936, 938, 940, 942, 944, 946, 948, 950, 952, 954, 956, 958, 960, 962, 964, 966, 968, 970, 972, 974, 976, 978, 980, 982, 984, 986] = true := by decide +kernel
theorem cokg (args : Array Value) (s : State) (h : ∀ w ∈ gdW, w.before args s = true) : COK args s := by
  refine ⟨h, fun ci hci => ?_, h _ (gd_of (i := 107) (by decide +kernel) rfl), h _ (gd_of (i := 989) (by decide +kernel) rfl), h _ (gd_of (i := 304) (by decide +kernel) rfl)⟩
  match ci, hci with
  | 0, _ => exact ⟨uchk_ok uX0, h _ (gd_of (i := 260) (by decide +kernel) rfl), h _ (gd_of (i := 78) (by decide +kernel) rfl)⟩
  | 1, _ => exact ⟨uchk_ok uX1, h _ (gd_of (i := 218) (by decide +kernel) rfl), h _ (gd_of (i := 76) (by decide +kernel) rfl)⟩
  | 2, _ => exact ⟨uchk_ok uX2, h _ (gd_of (i := 239) (by decide +kernel) rfl), h _ (gd_of (i := 77) (by decide +kernel) rfl)⟩
  | 3, _ => exact ⟨uchk_ok uX3, h _ (gd_of (i := 179) (by decide +kernel) rfl), h _ (gd_of (i := 73) (by decide +kernel) rfl)⟩
  | 4, _ => exact ⟨uchk_ok uX4, h _ (gd_of (i := 277) (by decide +kernel) rfl), h _ (gd_of (i := 79) (by decide +kernel) rfl)⟩
  | 5, _ => exact ⟨uchk_ok uX5, h _ (gd_of (i := 109) (by decide +kernel) rfl), h _ (gd_of (i := 70) (by decide +kernel) rfl)⟩
  | 6, _ => exact ⟨uchk_ok uX6, h _ (gd_of (i := 126) (by decide +kernel) rfl), h _ (gd_of (i := 71) (by decide +kernel) rfl)⟩
  | 7, _ => exact ⟨uchk_ok uX7, h _ (gd_of (i := 306) (by decide +kernel) rfl), h _ (gd_of (i := 80) (by decide +kernel) rfl)⟩
  | 8, _ => exact ⟨uchk_ok uX8, h _ (gd_of (i := 159) (by decide +kernel) rfl), h _ (gd_of (i := 72) (by decide +kernel) rfl)⟩
  | 9, _ => exact ⟨uchk_ok uX9, h _ (gd_of (i := 193) (by decide +kernel) rfl), h _ (gd_of (i := 74) (by decide +kernel) rfl)⟩
  | 10, _ => exact ⟨uchk_ok uX10, h _ (gd_of (i := 93) (by decide +kernel) rfl), h _ (gd_of (i := 69) (by decide +kernel) rfl)⟩
  | 11, _ => exact ⟨uchk_ok uX11, h _ (gd_of (i := 85) (by decide +kernel) rfl), h _ (gd_of (i := 68) (by decide +kernel) rfl)⟩
  | 12, _ => exact ⟨uchk_ok uX12, h _ (gd_of (i := 807) (by decide +kernel) rfl), h _ (gd_of (i := 81) (by decide +kernel) rfl)⟩
  | k + 13, hci => omega
theorem objI : Cond.instanceMethod Lib.objectInit ∈ gdW ∧ Cond.code Lib.objectInit ⟨#[0xb1]⟩ 1 none ∈ gdW := ⟨gd_of (i := 90) (by decide +kernel) rfl, gd_of (i := 91) (by decide +kernel) rfl⟩
theorem nX0_init : MNO yX0_init cX0_init 1 none 0 := ⟨gd_of (i := 263) (by decide +kernel) rfl, gd_of (i := 78) (by decide +kernel) rfl, by decide +kernel, by decide +kernel⟩
theorem sX0_init : Cond.instanceMethod yX0_init ∈ gdW ∧ yX0_init.name = "<init>" := ⟨gd_of (i := 262) (by decide +kernel) rfl, rfl⟩
theorem kX0_init : MCK yX0_init.cls cX0_init mX0_init true := ⟨by unfold dchk; decide +kernel, [265, 266, 267], [(9, 265)], [], [], by decide +kernel, by decide +kernel, by decide +kernel, by decide +kernel⟩
theorem vX0_init (l : Launch) : MetM l yX0_init cX0_init 1 none 1 22 1 20 fX0_init := metM_of true nX0_init rfl kX0_init (fun _ => rfl) cokg (fun p e s m args below meth c D aC A ad0 N0 X => List.forall_mem_cons.mpr ⟨clk_O X objI (gd_of (i := 264) (by decide +kernel) rfl) ⟨Nat.le_of_ble_eq_true rfl, Nat.le_of_ble_eq_true rfl⟩, fun _ h => absurd h List.not_mem_nil⟩)
theorem nX0_clear : MNO yX0_clear cX0_clear 1 none 0 := ⟨gd_of (i := 503) (by decide +kernel) rfl, gd_of (i := 78) (by decide +kernel) rfl, by decide +kernel, by decide +kernel⟩
theorem sX0_clear : Cond.instanceMethod yX0_clear ∈ gdW ∧ Cond.selects yX0_clear.cls yX0_clear yX0_clear ∈ gdW := ⟨gd_of (i := 501) (by decide +kernel) rfl, gd_of (i := 502) (by decide +kernel) rfl⟩
theorem kX0_clear : MCK yX0_clear.cls cX0_clear mX0_clear false := ⟨by unfold dchk; decide +kernel, [266, 267], [], [], [], by decide +kernel, by decide +kernel, by decide +kernel, by decide +kernel⟩
theorem vX0_clear (l : Launch) : MetM l yX0_clear cX0_clear 1 none 0 0 0 0 fX0_clear := metM_of false nX0_clear rfl kX0_clear (fun h => by cases h) cokg (fun p e s m args below meth c D aC A ad0 N0 X => fun _ h => absurd h List.not_mem_nil)
theorem nX0_add : MNO yX0_add cX0_add 3 (some .boolean) 2 := ⟨gd_of (i := 783) (by decide +kernel) rfl, gd_of (i := 78) (by decide +kernel) rfl, by decide +kernel, by decide +kernel⟩
theorem sX0_add : Cond.instanceMethod yX0_add ∈ gdW ∧ Cond.selects yX0_add.cls yX0_add yX0_add ∈ gdW := ⟨gd_of (i := 781) (by decide +kernel) rfl, gd_of (i := 782) (by decide +kernel) rfl⟩
theorem kX0_add : MCK yX0_add.cls cX0_add mX0_add false := ⟨by unfold dchk; decide +kernel, [265, 266, 267], [], [], [], by decide +kernel, by decide +kernel, by decide +kernel, by decide +kernel⟩
theorem vX0_add (l : Launch) : MetM l yX0_add cX0_add 3 (some .boolean) 0 0 0 0 fX0_add := metM_of false nX0_add rfl kX0_add (fun h => by cases h) cokg (fun p e s m args below meth c D aC A ad0 N0 X => fun _ h => absurd h List.not_mem_nil)
theorem nX7_at : MNO yX7_at cX7_at 2 (some .int) 1 := ⟨gd_of (i := 594) (by decide +kernel) rfl, gd_of (i := 80) (by decide +kernel) rfl, by decide +kernel, by decide +kernel⟩
theorem sX7_at : Cond.instanceMethod yX7_at ∈ gdW ∧ Cond.selects yX7_at.cls yX7_at yX7_at ∈ gdW := ⟨gd_of (i := 592) (by decide +kernel) rfl, gd_of (i := 593) (by decide +kernel) rfl⟩
theorem kX7_at : MCK yX7_at.cls cX7_at mX7_at false := ⟨by unfold dchk; decide +kernel, [311, 312], [], [], [], by decide +kernel, by decide +kernel, by decide +kernel, by decide +kernel⟩
theorem vX7_at (l : Launch) : MetM l yX7_at cX7_at 2 (some .int) 0 0 0 0 fX7_at := metM_of false nX7_at rfl kX7_at (fun h => by cases h) cokg (fun p e s m args below meth c D aC A ad0 N0 X => fun _ h => absurd h List.not_mem_nil)
theorem nX7_placeOf : MNO yX7_placeOf cX7_placeOf 6 (some .int) 1 := ⟨gd_of (i := 590) (by decide +kernel) rfl, gd_of (i := 80) (by decide +kernel) rfl, by decide +kernel, by decide +kernel⟩
theorem sX7_placeOf : Cond.instanceMethod yX7_placeOf ∈ gdW ∧ Cond.selects yX7_placeOf.cls yX7_placeOf yX7_placeOf ∈ gdW := ⟨gd_of (i := 589) (by decide +kernel) rfl, gd_of (i := 18) (by decide +kernel) rfl⟩
theorem kX7_placeOf : MCK yX7_placeOf.cls cX7_placeOf mX7_placeOf false := ⟨by unfold dchk; decide +kernel, [312], [], [], [], by decide +kernel, by decide +kernel, by decide +kernel, by decide +kernel⟩
theorem vX7_placeOf (l : Launch) : MetM l yX7_placeOf cX7_placeOf 6 (some .int) 1 21 0 0 fX7_placeOf := metM_of false nX7_placeOf rfl kX7_placeOf (fun h => by cases h) cokg (fun p e s m args below meth c D aC A ad0 N0 X => List.forall_mem_cons.mpr ⟨clk_V X (vX7_at l) nX7_at sX7_at ⟨by decide, rfl⟩ (gd_of (i := 591) (by decide +kernel) rfl) ⟨Nat.le_of_ble_eq_true rfl, Nat.le_of_ble_eq_true rfl⟩, fun _ h => absurd h List.not_mem_nil⟩)
theorem nX7_holds : MNO yX7_holds cX7_holds 2 (some .boolean) 1 := ⟨gd_of (i := 606) (by decide +kernel) rfl, gd_of (i := 80) (by decide +kernel) rfl, by decide +kernel, by decide +kernel⟩
theorem sX7_holds : Cond.instanceMethod yX7_holds ∈ gdW ∧ Cond.selects yX7_holds.cls yX7_holds yX7_holds ∈ gdW := ⟨gd_of (i := 604) (by decide +kernel) rfl, gd_of (i := 605) (by decide +kernel) rfl⟩
theorem kX7_holds : MCK yX7_holds.cls cX7_holds mX7_holds false := ⟨by unfold dchk; decide +kernel, [], [], [], [], by decide +kernel, by decide +kernel, by decide +kernel, by decide +kernel⟩
theorem vX7_holds (l : Launch) : MetM l yX7_holds cX7_holds 2 (some .boolean) 2 46 0 0 fX7_holds := metM_of false nX7_holds rfl kX7_holds (fun h => by cases h) cokg (fun p e s m args below meth c D aC A ad0 N0 X => List.forall_mem_cons.mpr ⟨clk_V X (vX7_placeOf l) nX7_placeOf sX7_placeOf ⟨by decide, rfl⟩ (gd_of (i := 587) (by decide +kernel) rfl) ⟨Nat.le_of_ble_eq_true rfl, Nat.le_of_ble_eq_true rfl⟩, List.forall_mem_cons.mpr ⟨clk_V X (vX7_at l) nX7_at sX7_at ⟨by decide, rfl⟩ (gd_of (i := 591) (by decide +kernel) rfl) ⟨Nat.le_of_ble_eq_true rfl, Nat.le_of_ble_eq_true rfl⟩, fun _ h => absurd h List.not_mem_nil⟩⟩)
theorem nX11_has : MNO yX11_has cX11_has 2 (some .boolean) 2 := ⟨gd_of (i := 518) (by decide +kernel) rfl, gd_of (i := 68) (by decide +kernel) rfl, by decide +kernel, by decide +kernel⟩
theorem sX11_has : Cond.static yX11_has ∈ gdW := gd_of (i := 517) (by decide +kernel) rfl
theorem kX11_has : MCK yX11_has.cls cX11_has mX11_has false := ⟨by unfold dchk; decide +kernel, [], [], [], [], by decide +kernel, by decide +kernel, by decide +kernel, by decide +kernel⟩
theorem vX11_has (l : Launch) : MetM l yX11_has cX11_has 2 (some .boolean) 0 0 0 0 fX11_has := metM_of false nX11_has rfl kX11_has (fun h => by cases h) cokg (fun p e s m args below meth c D aC A ad0 N0 X => fun _ h => absurd h List.not_mem_nil)
theorem nX0_firstWrong : MNO yX0_firstWrong cX0_firstWrong 3 (some .int) 1 := ⟨gd_of (i := 661) (by decide +kernel) rfl, gd_of (i := 78) (by decide +kernel) rfl, by decide +kernel, by decide +kernel⟩
theorem sX0_firstWrong : Cond.instanceMethod yX0_firstWrong ∈ gdW ∧ Cond.selects yX0_firstWrong.cls yX0_firstWrong yX0_firstWrong ∈ gdW := ⟨gd_of (i := 659) (by decide +kernel) rfl, gd_of (i := 660) (by decide +kernel) rfl⟩
theorem kX0_firstWrong : MCK yX0_firstWrong.cls cX0_firstWrong mX0_firstWrong false := ⟨by unfold dchk; decide +kernel, [265, 266, 267], [], [], [], by decide +kernel, by decide +kernel, by decide +kernel, by decide +kernel⟩
theorem vX0_firstWrong (l : Launch) : MetM l yX0_firstWrong cX0_firstWrong 3 (some .int) 3 67 0 0 fX0_firstWrong := metM_of false nX0_firstWrong rfl kX0_firstWrong (fun h => by cases h) cokg (fun p e s m args below meth c D aC A ad0 N0 X => List.forall_mem_cons.mpr ⟨clk_V X (vX7_holds l) nX7_holds sX7_holds ⟨by decide, rfl⟩ (gd_of (i := 662) (by decide +kernel) rfl) ⟨Nat.le_of_ble_eq_true rfl, Nat.le_of_ble_eq_true rfl⟩, List.forall_mem_cons.mpr ⟨clk_SN X (vX11_has l) nX11_has sX11_has (ns_of (i := 663) (by decide +kernel) rfl) ⟨Nat.le_of_ble_eq_true rfl, Nat.le_of_ble_eq_true rfl⟩, fun _ h => absurd h List.not_mem_nil⟩⟩)
theorem nJ7_fill_53178 : MNO yJ7_fill_53178 cJ7_fill_53178 4 none 2 := ⟨gd_of (i := 204) (by decide +kernel) rfl, gd_of (i := 75) (by decide +kernel) rfl, by decide +kernel, by decide +kernel⟩
theorem sJ7_fill_53178 : Cond.static yJ7_fill_53178 ∈ gdW := gd_of (i := 203) (by decide +kernel) rfl
theorem kJ7_fill_53178 : MCK yJ7_fill_53178.cls cJ7_fill_53178 mJ7_fill_53178 false := ⟨by unfold dchk; decide +kernel, [], [], [], [], by decide +kernel, by decide +kernel, by decide +kernel, by decide +kernel⟩
theorem vJ7_fill_53178 (l : Launch) : MetM l yJ7_fill_53178 cJ7_fill_53178 4 none 0 0 0 0 fJ7_fill_53178 := metM_of false nJ7_fill_53178 rfl kJ7_fill_53178 (fun h => by cases h) cokg (fun p e s m args below meth c D aC A ad0 N0 X => fun _ h => absurd h List.not_mem_nil)
theorem nX9_clear : MNO yX9_clear cX9_clear 1 none 0 := ⟨gd_of (i := 201) (by decide +kernel) rfl, gd_of (i := 74) (by decide +kernel) rfl, by decide +kernel, by decide +kernel⟩
theorem sX9_clear : Cond.instanceMethod yX9_clear ∈ gdW ∧ Cond.selects yX9_clear.cls yX9_clear yX9_clear ∈ gdW := ⟨gd_of (i := 199) (by decide +kernel) rfl, gd_of (i := 200) (by decide +kernel) rfl⟩
theorem kX9_clear : MCK yX9_clear.cls cX9_clear mX9_clear false := ⟨by unfold dchk; decide +kernel, [205, 206, 208], [], [], [], by decide +kernel, by decide +kernel, by decide +kernel, by decide +kernel⟩
theorem vX9_clear (l : Launch) : MetM l yX9_clear cX9_clear 1 none 1 23 0 0 fX9_clear := metM_of false nX9_clear rfl kX9_clear (fun h => by cases h) cokg (fun p e s m args below meth c D aC A ad0 N0 X => List.forall_mem_cons.mpr ⟨clk_S X (vJ7_fill_53178 l) nJ7_fill_53178 sJ7_fill_53178 (gd_of (i := 202) (by decide +kernel) rfl) ⟨Nat.le_of_ble_eq_true rfl, Nat.le_of_ble_eq_true rfl⟩, fun _ h => absurd h List.not_mem_nil⟩)
theorem nX9_init : MNO yX9_init cX9_init 1 none 0 := ⟨gd_of (i := 196) (by decide +kernel) rfl, gd_of (i := 74) (by decide +kernel) rfl, by decide +kernel, by decide +kernel⟩
theorem sX9_init : Cond.instanceMethod yX9_init ∈ gdW ∧ yX9_init.name = "<init>" := ⟨gd_of (i := 195) (by decide +kernel) rfl, rfl⟩
theorem kX9_init : MCK yX9_init.cls cX9_init mX9_init true := ⟨by unfold dchk; decide +kernel, [205], [(9, 205)], [], [], by decide +kernel, by decide +kernel, by decide +kernel, by decide +kernel⟩
theorem vX9_init (l : Launch) : MetM l yX9_init cX9_init 1 none 2 43 1 8 fX9_init := metM_of true nX9_init rfl kX9_init (fun _ => rfl) cokg (fun p e s m args below meth c D aC A ad0 N0 X => List.forall_mem_cons.mpr ⟨clk_O X objI (gd_of (i := 197) (by decide +kernel) rfl) ⟨Nat.le_of_ble_eq_true rfl, Nat.le_of_ble_eq_true rfl⟩, List.forall_mem_cons.mpr ⟨clk_V X (vX9_clear l) nX9_clear sX9_clear ⟨by decide, rfl⟩ (gd_of (i := 198) (by decide +kernel) rfl) ⟨Nat.le_of_ble_eq_true rfl, Nat.le_of_ble_eq_true rfl⟩, fun _ h => absurd h List.not_mem_nil⟩⟩)
theorem nX1_init : MNO yX1_init cX1_init 2 none 0 := ⟨gd_of (i := 221) (by decide +kernel) rfl, gd_of (i := 76) (by decide +kernel) rfl, by decide +kernel, by decide +kernel⟩
theorem sX1_init : Cond.instanceMethod yX1_init ∈ gdW ∧ yX1_init.name = "<init>" := ⟨gd_of (i := 220) (by decide +kernel) rfl, rfl⟩
theorem kX1_init : MCK yX1_init.cls cX1_init mX1_init true := ⟨by unfold dchk; decide +kernel, [226, 227, 228], [(11, 226)], [], [223], by decide +kernel, by decide +kernel, by decide +kernel, by decide +kernel⟩
theorem vX1_init (l : Launch) : MetM l yX1_init cX1_init 2 none 3 63 41 240 fX1_init := metM_of true nX1_init rfl kX1_init (fun _ => rfl) cokg (fun p e s m args below meth c D aC A ad0 N0 X => List.forall_mem_cons.mpr ⟨clk_O X objI (gd_of (i := 222) (by decide +kernel) rfl) ⟨Nat.le_of_ble_eq_true rfl, Nat.le_of_ble_eq_true rfl⟩, List.forall_mem_cons.mpr ⟨clk_I X (vX9_init l) nX9_init sX9_init (gd_of (i := 225) (by decide +kernel) rfl) ⟨Nat.le_of_ble_eq_true rfl, Nat.le_of_ble_eq_true rfl⟩, fun _ h => absurd h List.not_mem_nil⟩⟩)
theorem nX1_clear : MNO yX1_clear cX1_clear 1 none 0 := ⟨gd_of (i := 499) (by decide +kernel) rfl, gd_of (i := 76) (by decide +kernel) rfl, by decide +kernel, by decide +kernel⟩
theorem sX1_clear : Cond.instanceMethod yX1_clear ∈ gdW ∧ Cond.selects yX1_clear.cls yX1_clear yX1_clear ∈ gdW := ⟨gd_of (i := 497) (by decide +kernel) rfl, gd_of (i := 498) (by decide +kernel) rfl⟩
theorem kX1_clear : MCK yX1_clear.cls cX1_clear mX1_clear false := ⟨by unfold dchk; decide +kernel, [227, 228], [], [], [], by decide +kernel, by decide +kernel, by decide +kernel, by decide +kernel⟩
theorem vX1_clear (l : Launch) : MetM l yX1_clear cX1_clear 1 none 0 0 0 0 fX1_clear := metM_of false nX1_clear rfl kX1_clear (fun h => by cases h) cokg (fun p e s m args below meth c D aC A ad0 N0 X => fun _ h => absurd h List.not_mem_nil)
theorem fmI : Cond.static fmy ∈ gdW ∧ Cond.initialized "java/lang/Math" ∈ gdW ∧ Cond.code fmy fmc 3 (some .int) ∈ gdW := ⟨gd_of (i := 724) (by decide +kernel) rfl, gd_of (i := 83) (by decide +kernel) rfl, gd_of (i := 725) (by decide +kernel) rfl⟩
theorem nX1_settingAt : MNO yX1_settingAt cX1_settingAt 3 (some (.object "FenceWays$Setting")) 1 := ⟨gd_of (i := 722) (by decide +kernel) rfl, gd_of (i := 76) (by decide +kernel) rfl, by decide +kernel, by decide +kernel⟩
theorem sX1_settingAt : Cond.instanceMethod yX1_settingAt ∈ gdW ∧ Cond.selects yX1_settingAt.cls yX1_settingAt yX1_settingAt ∈ gdW := ⟨gd_of (i := 721) (by decide +kernel) rfl, gd_of (i := 24) (by decide +kernel) rfl⟩
theorem kX1_settingAt : MCK yX1_settingAt.cls cX1_settingAt mX1_settingAt false := ⟨by unfold dchk; decide +kernel, [226, 227], [], [], [], by decide +kernel, by decide +kernel, by decide +kernel, by decide +kernel⟩
theorem vX1_settingAt (l : Launch) : MetM l yX1_settingAt cX1_settingAt 3 (some (.object "FenceWays$Setting")) 1 22 0 0 fX1_settingAt := metM_of false nX1_settingAt ⟨_, rfl⟩ kX1_settingAt (fun h => by cases h) cokg (fun p e s m args below meth c D aC A ad0 N0 X => List.forall_mem_cons.mpr ⟨clk_F X fmI (gd_of (i := 723) (by decide +kernel) rfl) ⟨Nat.le_of_ble_eq_true rfl, Nat.le_of_ble_eq_true rfl⟩, fun _ h => absurd h List.not_mem_nil⟩)
theorem nX9_costOf : MNO yX9_costOf cX9_costOf 2 (some .int) 1 := ⟨gd_of (i := 681) (by decide +kernel) rfl, gd_of (i := 74) (by decide +kernel) rfl, by decide +kernel, by decide +kernel⟩
theorem sX9_costOf : Cond.instanceMethod yX9_costOf ∈ gdW ∧ Cond.selects yX9_costOf.cls yX9_costOf yX9_costOf ∈ gdW := ⟨gd_of (i := 679) (by decide +kernel) rfl, gd_of (i := 680) (by decide +kernel) rfl⟩
theorem kX9_costOf : MCK yX9_costOf.cls cX9_costOf mX9_costOf false := ⟨by unfold dchk; decide +kernel, [205], [], [], [], by decide +kernel, by decide +kernel, by decide +kernel, by decide +kernel⟩
theorem vX9_costOf (l : Launch) : MetM l yX9_costOf cX9_costOf 2 (some .int) 0 0 0 0 fX9_costOf := metM_of false nX9_costOf rfl kX9_costOf (fun h => by cases h) cokg (fun p e s m args below meth c D aC A ad0 N0 X => fun _ h => absurd h List.not_mem_nil)
theorem nX9_copy : MNO yX9_copy cX9_copy 3 none 1 := ⟨gd_of (i := 729) (by decide +kernel) rfl, gd_of (i := 74) (by decide +kernel) rfl, by decide +kernel, by decide +kernel⟩
theorem sX9_copy : Cond.instanceMethod yX9_copy ∈ gdW ∧ Cond.selects yX9_copy.cls yX9_copy yX9_copy ∈ gdW := ⟨gd_of (i := 727) (by decide +kernel) rfl, gd_of (i := 728) (by decide +kernel) rfl⟩
theorem kX9_copy : MCK yX9_copy.cls cX9_copy mX9_copy false := ⟨by unfold dchk; decide +kernel, [205, 206, 208], [], [], [], by decide +kernel, by decide +kernel, by decide +kernel, by decide +kernel⟩
theorem vX9_copy (l : Launch) : MetM l yX9_copy cX9_copy 3 none 1 21 0 0 fX9_copy := metM_of false nX9_copy rfl kX9_copy (fun h => by cases h) cokg (fun p e s m args below meth c D aC A ad0 N0 X => List.forall_mem_cons.mpr ⟨clk_V X (vX9_costOf l) nX9_costOf sX9_costOf ⟨by decide, rfl⟩ (gd_of (i := 730) (by decide +kernel) rfl) ⟨Nat.le_of_ble_eq_true rfl, Nat.le_of_ble_eq_true rfl⟩, fun _ h => absurd h List.not_mem_nil⟩)
theorem nX1_add : MNO yX1_add cX1_add 2 none 1 := ⟨gd_of (i := 718) (by decide +kernel) rfl, gd_of (i := 76) (by decide +kernel) rfl, by decide +kernel, by decide +kernel⟩
theorem sX1_add : Cond.instanceMethod yX1_add ∈ gdW ∧ Cond.selects yX1_add.cls yX1_add yX1_add ∈ gdW := ⟨gd_of (i := 716) (by decide +kernel) rfl, gd_of (i := 717) (by decide +kernel) rfl⟩
theorem kX1_add : MCK yX1_add.cls cX1_add mX1_add false := ⟨by unfold dchk; decide +kernel, [227, 228], [], [], [], by decide +kernel, by decide +kernel, by decide +kernel, by decide +kernel⟩
theorem vX1_add (l : Launch) : MetM l yX1_add cX1_add 2 none 2 44 0 0 fX1_add := metM_of false nX1_add rfl kX1_add (fun h => by cases h) cokg (fun p e s m args below meth c D aC A ad0 N0 X => List.forall_mem_cons.mpr ⟨clk_V X (vX1_settingAt l) nX1_settingAt sX1_settingAt ⟨by decide, rfl⟩ (gd_of (i := 719) (by decide +kernel) rfl) ⟨Nat.le_of_ble_eq_true rfl, Nat.le_of_ble_eq_true rfl⟩, List.forall_mem_cons.mpr ⟨clk_V X (vX9_copy l) nX9_copy sX9_copy ⟨by decide, rfl⟩ (gd_of (i := 726) (by decide +kernel) rfl) ⟨Nat.le_of_ble_eq_true rfl, Nat.le_of_ble_eq_true rfl⟩, fun _ h => absurd h List.not_mem_nil⟩⟩)
theorem nX1_takeBack : MNO yX1_takeBack cX1_takeBack 3 none 2 := ⟨gd_of (i := 774) (by decide +kernel) rfl, gd_of (i := 76) (by decide +kernel) rfl, by decide +kernel, by decide +kernel⟩
theorem sX1_takeBack : Cond.instanceMethod yX1_takeBack ∈ gdW ∧ Cond.selects yX1_takeBack.cls yX1_takeBack yX1_takeBack ∈ gdW := ⟨gd_of (i := 772) (by decide +kernel) rfl, gd_of (i := 773) (by decide +kernel) rfl⟩
theorem kX1_takeBack : MCK yX1_takeBack.cls cX1_takeBack mX1_takeBack false := ⟨by unfold dchk; decide +kernel, [228], [], [], [], by decide +kernel, by decide +kernel, by decide +kernel, by decide +kernel⟩
theorem vX1_takeBack (l : Launch) : MetM l yX1_takeBack cX1_takeBack 3 none 2 44 0 0 fX1_takeBack := metM_of false nX1_takeBack rfl kX1_takeBack (fun h => by cases h) cokg (fun p e s m args below meth c D aC A ad0 N0 X => List.forall_mem_cons.mpr ⟨clk_V X (vX1_settingAt l) nX1_settingAt sX1_settingAt ⟨by decide, rfl⟩ (gd_of (i := 719) (by decide +kernel) rfl) ⟨Nat.le_of_ble_eq_true rfl, Nat.le_of_ble_eq_true rfl⟩, List.forall_mem_cons.mpr ⟨clk_V X (vX9_copy l) nX9_copy sX9_copy ⟨by decide, rfl⟩ (gd_of (i := 726) (by decide +kernel) rfl) ⟨Nat.le_of_ble_eq_true rfl, Nat.le_of_ble_eq_true rfl⟩, fun _ h => absurd h List.not_mem_nil⟩⟩)
theorem nX2_init : MNO yX2_init cX2_init 1 none 0 := ⟨gd_of (i := 242) (by decide +kernel) rfl, gd_of (i := 77) (by decide +kernel) rfl, by decide +kernel, by decide +kernel⟩
theorem sX2_init : Cond.instanceMethod yX2_init ∈ gdW ∧ yX2_init.name = "<init>" := ⟨gd_of (i := 241) (by decide +kernel) rfl, rfl⟩
theorem kX2_init : MCK yX2_init.cls cX2_init mX2_init true := ⟨by unfold dchk; decide +kernel, [246, 248, 250], [(10, 246)], [], [244], by decide +kernel, by decide +kernel, by decide +kernel, by decide +kernel⟩
theorem vX2_init (l : Launch) : MetM l yX2_init cX2_init 1 none 3 63 2 11 fX2_init := metM_of true nX2_init rfl kX2_init (fun _ => rfl) cokg (fun p e s m args below meth c D aC A ad0 N0 X => List.forall_mem_cons.mpr ⟨clk_O X objI (gd_of (i := 243) (by decide +kernel) rfl) ⟨Nat.le_of_ble_eq_true rfl, Nat.le_of_ble_eq_true rfl⟩, List.forall_mem_cons.mpr ⟨clk_I X (vX9_init l) nX9_init sX9_init (gd_of (i := 245) (by decide +kernel) rfl) ⟨Nat.le_of_ble_eq_true rfl, Nat.le_of_ble_eq_true rfl⟩, fun _ h => absurd h List.not_mem_nil⟩⟩)
theorem nX2_hold : MNO yX2_hold cX2_hold 3 none 2 := ⟨gd_of (i := 799) (by decide +kernel) rfl, gd_of (i := 77) (by decide +kernel) rfl, by decide +kernel, by decide +kernel⟩
theorem sX2_hold : Cond.instanceMethod yX2_hold ∈ gdW ∧ Cond.selects yX2_hold.cls yX2_hold yX2_hold ∈ gdW := ⟨gd_of (i := 797) (by decide +kernel) rfl, gd_of (i := 798) (by decide +kernel) rfl⟩
theorem kX2_hold : MCK yX2_hold.cls cX2_hold mX2_hold false := ⟨by unfold dchk; decide +kernel, [246, 248, 250], [], [], [], by decide +kernel, by decide +kernel, by decide +kernel, by decide +kernel⟩
theorem vX2_hold (l : Launch) : MetM l yX2_hold cX2_hold 3 none 2 43 0 0 fX2_hold := metM_of false nX2_hold rfl kX2_hold (fun h => by cases h) cokg (fun p e s m args below meth c D aC A ad0 N0 X => List.forall_mem_cons.mpr ⟨clk_V X (vX9_copy l) nX9_copy sX9_copy ⟨by decide, rfl⟩ (gd_of (i := 800) (by decide +kernel) rfl) ⟨Nat.le_of_ble_eq_true rfl, Nat.le_of_ble_eq_true rfl⟩, fun _ h => absurd h List.not_mem_nil⟩)
theorem nX3_init : MNO yX3_init cX3_init 1 none 0 := ⟨gd_of (i := 182) (by decide +kernel) rfl, gd_of (i := 73) (by decide +kernel) rfl, by decide +kernel, by decide +kernel⟩
theorem sX3_init : Cond.instanceMethod yX3_init ∈ gdW ∧ yX3_init.name = "<init>" := ⟨gd_of (i := 181) (by decide +kernel) rfl, rfl⟩
theorem kX3_init : MCK yX3_init.cls cX3_init mX3_init true := ⟨by unfold dchk; decide +kernel, [184, 185], [(9, 184)], [], [], by decide +kernel, by decide +kernel, by decide +kernel, by decide +kernel⟩
theorem vX3_init (l : Launch) : MetM l yX3_init cX3_init 1 none 1 22 1 28 fX3_init := metM_of true nX3_init rfl kX3_init (fun _ => rfl) cokg (fun p e s m args below meth c D aC A ad0 N0 X => List.forall_mem_cons.mpr ⟨clk_O X objI (gd_of (i := 183) (by decide +kernel) rfl) ⟨Nat.le_of_ble_eq_true rfl, Nat.le_of_ble_eq_true rfl⟩, fun _ h => absurd h List.not_mem_nil⟩)
theorem nX8_giftOf : MNO yX8_giftOf cX8_giftOf 2 (some .int) 2 := ⟨gd_of (i := 450) (by decide +kernel) rfl, gd_of (i := 72) (by decide +kernel) rfl, by decide +kernel, by decide +kernel⟩
theorem sX8_giftOf : Cond.static yX8_giftOf ∈ gdW := gd_of (i := 449) (by decide +kernel) rfl
theorem kX8_giftOf : MCK yX8_giftOf.cls cX8_giftOf mX8_giftOf false := ⟨by unfold dchk; decide +kernel, [], [], [], [], by decide +kernel, by decide +kernel, by decide +kernel, by decide +kernel⟩
theorem vX8_giftOf (l : Launch) : MetM l yX8_giftOf cX8_giftOf 2 (some .int) 0 0 0 0 fX8_giftOf := metM_of false nX8_giftOf rfl kX8_giftOf (fun h => by cases h) cokg (fun p e s m args below meth c D aC A ad0 N0 X => fun _ h => absurd h List.not_mem_nil)
theorem nX8_countWith : MNO yX8_countWith cX8_countWith 4 (some .int) 2 := ⟨gd_of (i := 618) (by decide +kernel) rfl, gd_of (i := 72) (by decide +kernel) rfl, by decide +kernel, by decide +kernel⟩
theorem sX8_countWith : Cond.instanceMethod yX8_countWith ∈ gdW ∧ Cond.selects yX8_countWith.cls yX8_countWith yX8_countWith ∈ gdW := ⟨gd_of (i := 616) (by decide +kernel) rfl, gd_of (i := 617) (by decide +kernel) rfl⟩
theorem kX8_countWith : MCK yX8_countWith.cls cX8_countWith mX8_countWith false := ⟨by unfold dchk; decide +kernel, [165], [], [], [], by decide +kernel, by decide +kernel, by decide +kernel, by decide +kernel⟩
theorem vX8_countWith (l : Launch) : MetM l yX8_countWith cX8_countWith 4 (some .int) 1 21 0 0 fX8_countWith := metM_of false nX8_countWith rfl kX8_countWith (fun h => by cases h) cokg (fun p e s m args below meth c D aC A ad0 N0 X => List.forall_mem_cons.mpr ⟨clk_S X (vX8_giftOf l) nX8_giftOf sX8_giftOf (gd_of (i := 448) (by decide +kernel) rfl) ⟨Nat.le_of_ble_eq_true rfl, Nat.le_of_ble_eq_true rfl⟩, fun _ h => absurd h List.not_mem_nil⟩)
theorem nX6_cellOf : MNO yX6_cellOf cX6_cellOf 2 (some .int) 1 := ⟨gd_of (i := 462) (by decide +kernel) rfl, gd_of (i := 71) (by decide +kernel) rfl, by decide +kernel, by decide +kernel⟩
theorem sX6_cellOf : Cond.instanceMethod yX6_cellOf ∈ gdW ∧ Cond.selects yX6_cellOf.cls yX6_cellOf yX6_cellOf ∈ gdW := ⟨gd_of (i := 460) (by decide +kernel) rfl, gd_of (i := 461) (by decide +kernel) rfl⟩
theorem kX6_cellOf : MCK yX6_cellOf.cls cX6_cellOf mX6_cellOf false := ⟨by unfold dchk; decide +kernel, [132], [], [], [], by decide +kernel, by decide +kernel, by decide +kernel, by decide +kernel⟩
theorem vX6_cellOf (l : Launch) : MetM l yX6_cellOf cX6_cellOf 2 (some .int) 0 0 0 0 fX6_cellOf := metM_of false nX6_cellOf rfl kX6_cellOf (fun h => by cases h) cokg (fun p e s m args below meth c D aC A ad0 N0 X => fun _ h => absurd h List.not_mem_nil)
theorem nX6_isWriter : MNO yX6_isWriter cX6_isWriter 2 (some .boolean) 1 := ⟨gd_of (i := 447) (by decide +kernel) rfl, gd_of (i := 71) (by decide +kernel) rfl, by decide +kernel, by decide +kernel⟩
theorem sX6_isWriter : Cond.instanceMethod yX6_isWriter ∈ gdW ∧ Cond.selects yX6_isWriter.cls yX6_isWriter yX6_isWriter ∈ gdW := ⟨gd_of (i := 445) (by decide +kernel) rfl, gd_of (i := 446) (by decide +kernel) rfl⟩
theorem kX6_isWriter : MCK yX6_isWriter.cls cX6_isWriter mX6_isWriter false := ⟨by unfold dchk; decide +kernel, [142], [], [], [], by decide +kernel, by decide +kernel, by decide +kernel, by decide +kernel⟩
theorem vX6_isWriter (l : Launch) : MetM l yX6_isWriter cX6_isWriter 2 (some .boolean) 0 0 0 0 fX6_isWriter := metM_of false nX6_isWriter rfl kX6_isWriter (fun h => by cases h) cokg (fun p e s m args below meth c D aC A ad0 N0 X => fun _ h => absurd h List.not_mem_nil)
theorem nX6_kindOf : MNO yX6_kindOf cX6_kindOf 3 (some .int) 2 := ⟨gd_of (i := 551) (by decide +kernel) rfl, gd_of (i := 71) (by decide +kernel) rfl, by decide +kernel, by decide +kernel⟩
theorem sX6_kindOf : Cond.instanceMethod yX6_kindOf ∈ gdW ∧ Cond.selects yX6_kindOf.cls yX6_kindOf yX6_kindOf ∈ gdW := ⟨gd_of (i := 550) (by decide +kernel) rfl, gd_of (i := 12) (by decide +kernel) rfl⟩
theorem kX6_kindOf : MCK yX6_kindOf.cls cX6_kindOf mX6_kindOf false := ⟨by unfold dchk; decide +kernel, [], [], [], [], by decide +kernel, by decide +kernel, by decide +kernel, by decide +kernel⟩
theorem vX6_kindOf (l : Launch) : MetM l yX6_kindOf cX6_kindOf 3 (some .int) 1 21 0 0 fX6_kindOf := metM_of false nX6_kindOf rfl kX6_kindOf (fun h => by cases h) cokg (fun p e s m args below meth c D aC A ad0 N0 X => List.forall_mem_cons.mpr ⟨clk_V X (vX6_isWriter l) nX6_isWriter sX6_isWriter ⟨by decide, rfl⟩ (gd_of (i := 487) (by decide +kernel) rfl) ⟨Nat.le_of_ble_eq_true rfl, Nat.le_of_ble_eq_true rfl⟩, fun _ h => absurd h List.not_mem_nil⟩)
theorem nX6_mayOvertake : MNO yX6_mayOvertake cX6_mayOvertake 4 (some .boolean) 3 := ⟨gd_of (i := 547) (by decide +kernel) rfl, gd_of (i := 71) (by decide +kernel) rfl, by decide +kernel, by decide +kernel⟩
theorem sX6_mayOvertake : Cond.instanceMethod yX6_mayOvertake ∈ gdW ∧ Cond.selects yX6_mayOvertake.cls yX6_mayOvertake yX6_mayOvertake ∈ gdW := ⟨gd_of (i := 545) (by decide +kernel) rfl, gd_of (i := 546) (by decide +kernel) rfl⟩
theorem kX6_mayOvertake : MCK yX6_mayOvertake.cls cX6_mayOvertake mX6_mayOvertake false := ⟨by unfold dchk; decide +kernel, [], [], [], [], by decide +kernel, by decide +kernel, by decide +kernel, by decide +kernel⟩
theorem vX6_mayOvertake (l : Launch) : MetM l yX6_mayOvertake cX6_mayOvertake 4 (some .boolean) 2 43 0 0 fX6_mayOvertake := metM_of false nX6_mayOvertake rfl kX6_mayOvertake (fun h => by cases h) cokg (fun p e s m args below meth c D aC A ad0 N0 X => List.forall_mem_cons.mpr ⟨clk_SN X (vX11_has l) nX11_has sX11_has (ns_of (i := 552) (by decide +kernel) rfl) ⟨Nat.le_of_ble_eq_true rfl, Nat.le_of_ble_eq_true rfl⟩, List.forall_mem_cons.mpr ⟨clk_V X (vX6_cellOf l) nX6_cellOf sX6_cellOf ⟨by decide, rfl⟩ (gd_of (i := 486) (by decide +kernel) rfl) ⟨Nat.le_of_ble_eq_true rfl, Nat.le_of_ble_eq_true rfl⟩, List.forall_mem_cons.mpr ⟨clk_V X (vX6_kindOf l) nX6_kindOf sX6_kindOf ⟨by decide, rfl⟩ (gd_of (i := 548) (by decide +kernel) rfl) ⟨Nat.le_of_ble_eq_true rfl, Nat.le_of_ble_eq_true rfl⟩, fun _ h => absurd h List.not_mem_nil⟩⟩⟩)
theorem nX11_gapsBetween : MNO yX11_gapsBetween cX11_gapsBetween 4 (some .int) 2 := ⟨gd_of (i := 542) (by decide +kernel) rfl, gd_of (i := 68) (by decide +kernel) rfl, by decide +kernel, by decide +kernel⟩
theorem sX11_gapsBetween : Cond.static yX11_gapsBetween ∈ gdW := gd_of (i := 541) (by decide +kernel) rfl
theorem kX11_gapsBetween : MCK yX11_gapsBetween.cls cX11_gapsBetween mX11_gapsBetween false := ⟨by unfold dchk; decide +kernel, [], [], [], [], by decide +kernel, by decide +kernel, by decide +kernel, by decide +kernel⟩
theorem vX11_gapsBetween (l : Launch) : MetM l yX11_gapsBetween cX11_gapsBetween 4 (some .int) 0 0 0 0 fX11_gapsBetween := metM_of false nX11_gapsBetween rfl kX11_gapsBetween (fun h => by cases h) cokg (fun p e s m args below meth c D aC A ad0 N0 X => fun _ h => absurd h List.not_mem_nil)
theorem nX3_add : MNO yX3_add cX3_add 2 none 1 := ⟨gd_of (i := 624) (by decide +kernel) rfl, gd_of (i := 73) (by decide +kernel) rfl, by decide +kernel, by decide +kernel⟩
theorem sX3_add : Cond.instanceMethod yX3_add ∈ gdW ∧ Cond.selects yX3_add.cls yX3_add yX3_add ∈ gdW := ⟨gd_of (i := 623) (by decide +kernel) rfl, gd_of (i := 21) (by decide +kernel) rfl⟩
theorem kX3_add : MCK yX3_add.cls cX3_add mX3_add false := ⟨by unfold dchk; decide +kernel, [184, 185], [], [], [], by decide +kernel, by decide +kernel, by decide +kernel, by decide +kernel⟩
theorem vX3_add (l : Launch) : MetM l yX3_add cX3_add 2 none 0 0 0 0 fX3_add := metM_of false nX3_add rfl kX3_add (fun h => by cases h) cokg (fun p e s m args below meth c D aC A ad0 N0 X => fun _ h => absurd h List.not_mem_nil)
end
section
/-! more contracts (by program) -/
theorem nX3_gather : MNO yX3_gather cX3_gather 6 none 3 := ⟨gd_of (i := 614) (by decide +kernel) rfl, gd_of (i := 73) (by decide +kernel) rfl, by decide +kernel, by decide +kernel⟩
theorem sX3_gather : Cond.instanceMethod yX3_gather ∈ gdW ∧ Cond.selects yX3_gather.cls yX3_gather yX3_gather ∈ gdW := ⟨gd_of (i := 612) (by decide +kernel) rfl, gd_of (i := 613) (by decide +kernel) rfl⟩
theorem kX3_gather : MCK yX3_gather.cls cX3_gather mX3_gather false := ⟨by unfold dchk; decide +kernel, [185, 138], [], [], [], by decide +kernel, by decide +kernel, by decide +kernel, by decide +kernel⟩
theorem vX3_gather (l : Launch) : MetM l yX3_gather cX3_gather 6 none 3 66 0 0 fX3_gather := metM_of false nX3_gather rfl kX3_gather (fun h => by cases h) cokg (fun p e s m args below meth c D aC A ad0 N0 X => List.forall_mem_cons.mpr ⟨clk_V X (vX8_countWith l) nX8_countWith sX8_countWith ⟨by decide, rfl⟩ (gd_of (i := 615) (by decide +kernel) rfl) ⟨Nat.le_of_ble_eq_true rfl, Nat.le_of_ble_eq_true rfl⟩, List.forall_mem_cons.mpr ⟨clk_V X (vX6_mayOvertake l) nX6_mayOvertake sX6_mayOvertake ⟨by decide, rfl⟩ (gd_of (i := 619) (by decide +kernel) rfl) ⟨Nat.le_of_ble_eq_true rfl, Nat.le_of_ble_eq_true rfl⟩, List.forall_mem_cons.mpr ⟨clk_SN X (vX11_gapsBetween l) nX11_gapsBetween sX11_gapsBetween (ns_of (i := 620) (by decide +kernel) rfl) ⟨Nat.le_of_ble_eq_true rfl, Nat.le_of_ble_eq_true rfl⟩, List.forall_mem_cons.mpr ⟨clk_V X (vX3_add l) nX3_add sX3_add ⟨by decide, rfl⟩ (gd_of (i := 621) (by decide +kernel) rfl) ⟨Nat.le_of_ble_eq_true rfl, Nat.le_of_ble_eq_true rfl⟩, fun _ h => absurd h List.not_mem_nil⟩⟩⟩⟩)
theorem nX3_holdersAt : MNO yX3_holdersAt cX3_holdersAt 2 (some .int) 1 := ⟨gd_of (i := 632) (by decide +kernel) rfl, gd_of (i := 73) (by decide +kernel) rfl, by decide +kernel, by decide +kernel⟩
theorem sX3_holdersAt : Cond.instanceMethod yX3_holdersAt ∈ gdW ∧ Cond.selects yX3_holdersAt.cls yX3_holdersAt yX3_holdersAt ∈ gdW := ⟨gd_of (i := 631) (by decide +kernel) rfl, gd_of (i := 22) (by decide +kernel) rfl⟩
theorem kX3_holdersAt : MCK yX3_holdersAt.cls cX3_holdersAt mX3_holdersAt false := ⟨by unfold dchk; decide +kernel, [184], [], [], [], by decide +kernel, by decide +kernel, by decide +kernel, by decide +kernel⟩
theorem vX3_holdersAt (l : Launch) : MetM l yX3_holdersAt cX3_holdersAt 2 (some .int) 0 0 0 0 fX3_holdersAt := metM_of false nX3_holdersAt rfl kX3_holdersAt (fun h => by cases h) cokg (fun p e s m args below meth c D aC A ad0 N0 X => fun _ h => absurd h List.not_mem_nil)
theorem nX3_countHeld : MNO yX3_countHeld cX3_countHeld 4 (some .int) 1 := ⟨gd_of (i := 628) (by decide +kernel) rfl, gd_of (i := 73) (by decide +kernel) rfl, by decide +kernel, by decide +kernel⟩
theorem sX3_countHeld : Cond.instanceMethod yX3_countHeld ∈ gdW ∧ Cond.selects yX3_countHeld.cls yX3_countHeld yX3_countHeld ∈ gdW := ⟨gd_of (i := 626) (by decide +kernel) rfl, gd_of (i := 627) (by decide +kernel) rfl⟩
theorem kX3_countHeld : MCK yX3_countHeld.cls cX3_countHeld mX3_countHeld false := ⟨by unfold dchk; decide +kernel, [185], [], [], [], by decide +kernel, by decide +kernel, by decide +kernel, by decide +kernel⟩
theorem vX3_countHeld (l : Launch) : MetM l yX3_countHeld cX3_countHeld 4 (some .int) 1 21 0 0 fX3_countHeld := metM_of false nX3_countHeld rfl kX3_countHeld (fun h => by cases h) cokg (fun p e s m args below meth c D aC A ad0 N0 X => List.forall_mem_cons.mpr ⟨clk_V X (vX3_holdersAt l) nX3_holdersAt sX3_holdersAt ⟨by decide, rfl⟩ (gd_of (i := 629) (by decide +kernel) rfl) ⟨Nat.le_of_ble_eq_true rfl, Nat.le_of_ble_eq_true rfl⟩, fun _ h => absurd h List.not_mem_nil⟩)
theorem nX3_areAllHeld : MNO yX3_areAllHeld cX3_areAllHeld 2 (some .boolean) 1 := ⟨gd_of (i := 636) (by decide +kernel) rfl, gd_of (i := 73) (by decide +kernel) rfl, by decide +kernel, by decide +kernel⟩
theorem sX3_areAllHeld : Cond.instanceMethod yX3_areAllHeld ∈ gdW ∧ Cond.selects yX3_areAllHeld.cls yX3_areAllHeld yX3_areAllHeld ∈ gdW := ⟨gd_of (i := 634) (by decide +kernel) rfl, gd_of (i := 635) (by decide +kernel) rfl⟩
theorem kX3_areAllHeld : MCK yX3_areAllHeld.cls cX3_areAllHeld mX3_areAllHeld false := ⟨by unfold dchk; decide +kernel, [185], [], [], [], by decide +kernel, by decide +kernel, by decide +kernel, by decide +kernel⟩
theorem vX3_areAllHeld (l : Launch) : MetM l yX3_areAllHeld cX3_areAllHeld 2 (some .boolean) 2 44 0 0 fX3_areAllHeld := metM_of false nX3_areAllHeld rfl kX3_areAllHeld (fun h => by cases h) cokg (fun p e s m args below meth c D aC A ad0 N0 X => List.forall_mem_cons.mpr ⟨clk_V X (vX3_countHeld l) nX3_countHeld sX3_countHeld ⟨by decide, rfl⟩ (gd_of (i := 637) (by decide +kernel) rfl) ⟨Nat.le_of_ble_eq_true rfl, Nat.le_of_ble_eq_true rfl⟩, fun _ h => absurd h List.not_mem_nil⟩)
theorem nJ6_bitCount_0f7a4 : MNO yJ6_bitCount_0f7a4 cJ6_bitCount_0f7a4 1 (some .int) 1 := ⟨gd_of (i := 654) (by decide +kernel) rfl, gd_of (i := 82) (by decide +kernel) rfl, by decide +kernel, by decide +kernel⟩
theorem sJ6_bitCount_0f7a4 : Cond.static yJ6_bitCount_0f7a4 ∈ gdW := gd_of (i := 653) (by decide +kernel) rfl
theorem kJ6_bitCount_0f7a4 : MCK yJ6_bitCount_0f7a4.cls cJ6_bitCount_0f7a4 mJ6_bitCount_0f7a4 false := ⟨by unfold dchk; decide +kernel, [], [], [655, 656, 657], [], by decide +kernel, by decide +kernel, by decide +kernel, by decide +kernel⟩
theorem vJ6_bitCount_0f7a4 (l : Launch) : MetM l yJ6_bitCount_0f7a4 cJ6_bitCount_0f7a4 1 (some .int) 0 0 0 0 fJ6_bitCount_0f7a4 := metM_of false nJ6_bitCount_0f7a4 rfl kJ6_bitCount_0f7a4 (fun h => by cases h) cokg (fun p e s m args below meth c D aC A ad0 N0 X => fun _ h => absurd h List.not_mem_nil)
theorem nX3_neededOf : MNO yX3_neededOf cX3_neededOf 5 (some .int) 1 := ⟨gd_of (i := 651) (by decide +kernel) rfl, gd_of (i := 73) (by decide +kernel) rfl, by decide +kernel, by decide +kernel⟩
theorem sX3_neededOf : Cond.instanceMethod yX3_neededOf ∈ gdW ∧ Cond.selects yX3_neededOf.cls yX3_neededOf yX3_neededOf ∈ gdW := ⟨gd_of (i := 649) (by decide +kernel) rfl, gd_of (i := 650) (by decide +kernel) rfl⟩
theorem kX3_neededOf : MCK yX3_neededOf.cls cX3_neededOf mX3_neededOf false := ⟨by unfold dchk; decide +kernel, [185], [], [], [], by decide +kernel, by decide +kernel, by decide +kernel, by decide +kernel⟩
theorem vX3_neededOf (l : Launch) : MetM l yX3_neededOf cX3_neededOf 5 (some .int) 1 21 0 0 fX3_neededOf := metM_of false nX3_neededOf rfl kX3_neededOf (fun h => by cases h) cokg (fun p e s m args below meth c D aC A ad0 N0 X => List.forall_mem_cons.mpr ⟨clk_V X (vX3_holdersAt l) nX3_holdersAt sX3_holdersAt ⟨by decide, rfl⟩ (gd_of (i := 629) (by decide +kernel) rfl) ⟨Nat.le_of_ble_eq_true rfl, Nat.le_of_ble_eq_true rfl⟩, List.forall_mem_cons.mpr ⟨clk_S X (vJ6_bitCount_0f7a4 l) nJ6_bitCount_0f7a4 sJ6_bitCount_0f7a4 (gd_of (i := 652) (by decide +kernel) rfl) ⟨Nat.le_of_ble_eq_true rfl, Nat.le_of_ble_eq_true rfl⟩, fun _ h => absurd h List.not_mem_nil⟩⟩)
theorem nX9_costOfSet : MNO yX9_costOfSet cX9_costOfSet 4 (some .int) 1 := ⟨gd_of (i := 515) (by decide +kernel) rfl, gd_of (i := 74) (by decide +kernel) rfl, by decide +kernel, by decide +kernel⟩
theorem sX9_costOfSet : Cond.instanceMethod yX9_costOfSet ∈ gdW ∧ Cond.selects yX9_costOfSet.cls yX9_costOfSet yX9_costOfSet ∈ gdW := ⟨gd_of (i := 513) (by decide +kernel) rfl, gd_of (i := 514) (by decide +kernel) rfl⟩
theorem kX9_costOfSet : MCK yX9_costOfSet.cls cX9_costOfSet mX9_costOfSet false := ⟨by unfold dchk; decide +kernel, [205], [], [], [], by decide +kernel, by decide +kernel, by decide +kernel, by decide +kernel⟩
theorem vX9_costOfSet (l : Launch) : MetM l yX9_costOfSet cX9_costOfSet 4 (some .int) 1 21 0 0 fX9_costOfSet := metM_of false nX9_costOfSet rfl kX9_costOfSet (fun h => by cases h) cokg (fun p e s m args below meth c D aC A ad0 N0 X => List.forall_mem_cons.mpr ⟨clk_SN X (vX11_has l) nX11_has sX11_has (ns_of (i := 516) (by decide +kernel) rfl) ⟨Nat.le_of_ble_eq_true rfl, Nat.le_of_ble_eq_true rfl⟩, fun _ h => absurd h List.not_mem_nil⟩)
theorem nX3_cheapestSet : MNO yX3_cheapestSet cX3_cheapestSet 6 (some .int) 2 := ⟨gd_of (i := 645) (by decide +kernel) rfl, gd_of (i := 73) (by decide +kernel) rfl, by decide +kernel, by decide +kernel⟩
theorem sX3_cheapestSet : Cond.instanceMethod yX3_cheapestSet ∈ gdW ∧ Cond.selects yX3_cheapestSet.cls yX3_cheapestSet yX3_cheapestSet ∈ gdW := ⟨gd_of (i := 643) (by decide +kernel) rfl, gd_of (i := 644) (by decide +kernel) rfl⟩
theorem kX3_cheapestSet : MCK yX3_cheapestSet.cls cX3_cheapestSet mX3_cheapestSet false := ⟨by unfold dchk; decide +kernel, [], [], [], [], by decide +kernel, by decide +kernel, by decide +kernel, by decide +kernel⟩
theorem vX3_cheapestSet (l : Launch) : MetM l yX3_cheapestSet cX3_cheapestSet 6 (some .int) 3 65 0 0 fX3_cheapestSet := metM_of false nX3_cheapestSet rfl kX3_cheapestSet (fun h => by cases h) cokg (fun p e s m args below meth c D aC A ad0 N0 X => List.forall_mem_cons.mpr ⟨clk_V X (vX9_costOfSet l) nX9_costOfSet sX9_costOfSet ⟨by decide, rfl⟩ (gd_of (i := 646) (by decide +kernel) rfl) ⟨Nat.le_of_ble_eq_true rfl, Nat.le_of_ble_eq_true rfl⟩, List.forall_mem_cons.mpr ⟨clk_V X (vX3_areAllHeld l) nX3_areAllHeld sX3_areAllHeld ⟨by decide, rfl⟩ (gd_of (i := 647) (by decide +kernel) rfl) ⟨Nat.le_of_ble_eq_true rfl, Nat.le_of_ble_eq_true rfl⟩, fun _ h => absurd h List.not_mem_nil⟩⟩)
theorem nX4_init : MNO yX4_init cX4_init 1 none 0 := ⟨gd_of (i := 280) (by decide +kernel) rfl, gd_of (i := 79) (by decide +kernel) rfl, by decide +kernel, by decide +kernel⟩
theorem sX4_init : Cond.instanceMethod yX4_init ∈ gdW ∧ yX4_init.name = "<init>" := ⟨gd_of (i := 279) (by decide +kernel) rfl, rfl⟩
theorem kX4_init : MCK yX4_init.cls cX4_init mX4_init true := ⟨by unfold dchk; decide +kernel, [282, 283, 284, 285, 286, 287, 288], [(18, 284), (22, 285), (25, 286)], [], [], by decide +kernel, by decide +kernel, by decide +kernel, by decide +kernel⟩
theorem vX4_init (l : Launch) : MetM l yX4_init cX4_init 1 none 1 22 5 2064 fX4_init := metM_of true nX4_init rfl kX4_init (fun _ => rfl) cokg (fun p e s m args below meth c D aC A ad0 N0 X => List.forall_mem_cons.mpr ⟨clk_O X objI (gd_of (i := 281) (by decide +kernel) rfl) ⟨Nat.le_of_ble_eq_true rfl, Nat.le_of_ble_eq_true rfl⟩, fun _ h => absurd h List.not_mem_nil⟩)
theorem nX6_hasStep : MNO yX6_hasStep cX6_hasStep 2 (some .boolean) 1 := ⟨gd_of (i := 534) (by decide +kernel) rfl, gd_of (i := 71) (by decide +kernel) rfl, by decide +kernel, by decide +kernel⟩
theorem sX6_hasStep : Cond.instanceMethod yX6_hasStep ∈ gdW ∧ Cond.selects yX6_hasStep.cls yX6_hasStep yX6_hasStep ∈ gdW := ⟨gd_of (i := 532) (by decide +kernel) rfl, gd_of (i := 533) (by decide +kernel) rfl⟩
theorem kX6_hasStep : MCK yX6_hasStep.cls cX6_hasStep mX6_hasStep false := ⟨by unfold dchk; decide +kernel, [136], [], [], [], by decide +kernel, by decide +kernel, by decide +kernel, by decide +kernel⟩
theorem vX6_hasStep (l : Launch) : MetM l yX6_hasStep cX6_hasStep 2 (some .boolean) 0 0 0 0 fX6_hasStep := metM_of false nX6_hasStep rfl kX6_hasStep (fun h => by cases h) cokg (fun p e s m args below meth c D aC A ad0 N0 X => fun _ h => absurd h List.not_mem_nil)
theorem nX4_weigh : MNO yX4_weigh cX4_weigh 4 none 1 := ⟨gd_of (i := 530) (by decide +kernel) rfl, gd_of (i := 79) (by decide +kernel) rfl, by decide +kernel, by decide +kernel⟩
theorem sX4_weigh : Cond.instanceMethod yX4_weigh ∈ gdW ∧ Cond.selects yX4_weigh.cls yX4_weigh yX4_weigh ∈ gdW := ⟨gd_of (i := 529) (by decide +kernel) rfl, gd_of (i := 11) (by decide +kernel) rfl⟩
theorem kX4_weigh : MCK yX4_weigh.cls cX4_weigh mX4_weigh false := ⟨by unfold dchk; decide +kernel, [286], [], [], [], by decide +kernel, by decide +kernel, by decide +kernel, by decide +kernel⟩
theorem vX4_weigh (l : Launch) : MetM l yX4_weigh cX4_weigh 4 none 1 21 0 0 fX4_weigh := metM_of false nX4_weigh rfl kX4_weigh (fun h => by cases h) cokg (fun p e s m args below meth c D aC A ad0 N0 X => List.forall_mem_cons.mpr ⟨clk_V X (vX6_hasStep l) nX6_hasStep sX6_hasStep ⟨by decide, rfl⟩ (gd_of (i := 531) (by decide +kernel) rfl) ⟨Nat.le_of_ble_eq_true rfl, Nat.le_of_ble_eq_true rfl⟩, List.forall_mem_cons.mpr ⟨clk_V X (vX6_isWriter l) nX6_isWriter sX6_isWriter ⟨by decide, rfl⟩ (gd_of (i := 535) (by decide +kernel) rfl) ⟨Nat.le_of_ble_eq_true rfl, Nat.le_of_ble_eq_true rfl⟩, fun _ h => absurd h List.not_mem_nil⟩⟩)
theorem nX6_threadOf : MNO yX6_threadOf cX6_threadOf 2 (some .int) 1 := ⟨gd_of (i := 426) (by decide +kernel) rfl, gd_of (i := 71) (by decide +kernel) rfl, by decide +kernel, by decide +kernel⟩
theorem sX6_threadOf : Cond.instanceMethod yX6_threadOf ∈ gdW ∧ Cond.selects yX6_threadOf.cls yX6_threadOf yX6_threadOf ∈ gdW := ⟨gd_of (i := 424) (by decide +kernel) rfl, gd_of (i := 425) (by decide +kernel) rfl⟩
theorem kX6_threadOf : MCK yX6_threadOf.cls cX6_threadOf mX6_threadOf false := ⟨by unfold dchk; decide +kernel, [131], [], [], [], by decide +kernel, by decide +kernel, by decide +kernel, by decide +kernel⟩
theorem vX6_threadOf (l : Launch) : MetM l yX6_threadOf cX6_threadOf 2 (some .int) 0 0 0 0 fX6_threadOf := metM_of false nX6_threadOf rfl kX6_threadOf (fun h => by cases h) cokg (fun p e s m args below meth c D aC A ad0 N0 X => fun _ h => absurd h List.not_mem_nil)
theorem nX6_isAhead : MNO yX6_isAhead cX6_isAhead 3 (some .boolean) 2 := ⟨gd_of (i := 458) (by decide +kernel) rfl, gd_of (i := 71) (by decide +kernel) rfl, by decide +kernel, by decide +kernel⟩
theorem sX6_isAhead : Cond.instanceMethod yX6_isAhead ∈ gdW ∧ Cond.selects yX6_isAhead.cls yX6_isAhead yX6_isAhead ∈ gdW := ⟨gd_of (i := 456) (by decide +kernel) rfl, gd_of (i := 457) (by decide +kernel) rfl⟩
theorem kX6_isAhead : MCK yX6_isAhead.cls cX6_isAhead mX6_isAhead false := ⟨by unfold dchk; decide +kernel, [], [], [], [], by decide +kernel, by decide +kernel, by decide +kernel, by decide +kernel⟩
theorem vX6_isAhead (l : Launch) : MetM l yX6_isAhead cX6_isAhead 3 (some .boolean) 1 21 0 0 fX6_isAhead := metM_of false nX6_isAhead rfl kX6_isAhead (fun h => by cases h) cokg (fun p e s m args below meth c D aC A ad0 N0 X => List.forall_mem_cons.mpr ⟨clk_V X (vX6_threadOf l) nX6_threadOf sX6_threadOf ⟨by decide, rfl⟩ (gd_of (i := 423) (by decide +kernel) rfl) ⟨Nat.le_of_ble_eq_true rfl, Nat.le_of_ble_eq_true rfl⟩, fun _ h => absurd h List.not_mem_nil⟩)
theorem nX6_waitsOf : MNO yX6_waitsOf cX6_waitsOf 7 (some .int) 3 := ⟨gd_of (i := 539) (by decide +kernel) rfl, gd_of (i := 71) (by decide +kernel) rfl, by decide +kernel, by decide +kernel⟩
theorem sX6_waitsOf : Cond.instanceMethod yX6_waitsOf ∈ gdW ∧ Cond.selects yX6_waitsOf.cls yX6_waitsOf yX6_waitsOf ∈ gdW := ⟨gd_of (i := 537) (by decide +kernel) rfl, gd_of (i := 538) (by decide +kernel) rfl⟩
theorem kX6_waitsOf : MCK yX6_waitsOf.cls cX6_waitsOf mX6_waitsOf false := ⟨by unfold dchk; decide +kernel, [136], [], [], [], by decide +kernel, by decide +kernel, by decide +kernel, by decide +kernel⟩
theorem vX6_waitsOf (l : Launch) : MetM l yX6_waitsOf cX6_waitsOf 7 (some .int) 3 66 0 0 fX6_waitsOf := metM_of false nX6_waitsOf rfl kX6_waitsOf (fun h => by cases h) cokg (fun p e s m args below meth c D aC A ad0 N0 X => List.forall_mem_cons.mpr ⟨clk_SN X (vX11_gapsBetween l) nX11_gapsBetween sX11_gapsBetween (ns_of (i := 540) (by decide +kernel) rfl) ⟨Nat.le_of_ble_eq_true rfl, Nat.le_of_ble_eq_true rfl⟩, List.forall_mem_cons.mpr ⟨clk_V X (vX6_isAhead l) nX6_isAhead sX6_isAhead ⟨by decide, rfl⟩ (gd_of (i := 543) (by decide +kernel) rfl) ⟨Nat.le_of_ble_eq_true rfl, Nat.le_of_ble_eq_true rfl⟩, List.forall_mem_cons.mpr ⟨clk_V X (vX6_mayOvertake l) nX6_mayOvertake sX6_mayOvertake ⟨by decide, rfl⟩ (gd_of (i := 544) (by decide +kernel) rfl) ⟨Nat.le_of_ble_eq_true rfl, Nat.le_of_ble_eq_true rfl⟩, fun _ h => absurd h List.not_mem_nil⟩⟩⟩)
theorem nX4_behind : MNO yX4_behind cX4_behind 11 (some .long) 3 := ⟨gd_of (i := 566) (by decide +kernel) rfl, gd_of (i := 79) (by decide +kernel) rfl, by decide +kernel, by decide +kernel⟩
theorem sX4_behind : Cond.instanceMethod yX4_behind ∈ gdW ∧ Cond.selects yX4_behind.cls yX4_behind yX4_behind ∈ gdW := ⟨gd_of (i := 565) (by decide +kernel) rfl, gd_of (i := 15) (by decide +kernel) rfl⟩
theorem kX4_behind : MCK yX4_behind.cls cX4_behind mX4_behind false := ⟨by unfold dchk; decide +kernel, [286], [], [568, 569], [], by decide +kernel, by decide +kernel, by decide +kernel, by decide +kernel⟩
theorem vX4_behind (l : Launch) : MetM l yX4_behind cX4_behind 11 (some .long) 1 21 0 0 fX4_behind := metM_of false nX4_behind rfl kX4_behind (fun h => by cases h) cokg (fun p e s m args below meth c D aC A ad0 N0 X => List.forall_mem_cons.mpr ⟨clk_V X (vX6_isWriter l) nX6_isWriter sX6_isWriter ⟨by decide, rfl⟩ (gd_of (i := 535) (by decide +kernel) rfl) ⟨Nat.le_of_ble_eq_true rfl, Nat.le_of_ble_eq_true rfl⟩, List.forall_mem_cons.mpr ⟨clk_V X (vX6_cellOf l) nX6_cellOf sX6_cellOf ⟨by decide, rfl⟩ (gd_of (i := 567) (by decide +kernel) rfl) ⟨Nat.le_of_ble_eq_true rfl, Nat.le_of_ble_eq_true rfl⟩, fun _ h => absurd h List.not_mem_nil⟩⟩)
theorem nX4_putNext : MNO yX4_putNext cX4_putNext 4 none 2 := ⟨gd_of (i := 578) (by decide +kernel) rfl, gd_of (i := 79) (by decide +kernel) rfl, by decide +kernel, by decide +kernel⟩
theorem sX4_putNext : Cond.instanceMethod yX4_putNext ∈ gdW ∧ Cond.selects yX4_putNext.cls yX4_putNext yX4_putNext ∈ gdW := ⟨gd_of (i := 577) (by decide +kernel) rfl, gd_of (i := 17) (by decide +kernel) rfl⟩
theorem kX4_putNext : MCK yX4_putNext.cls cX4_putNext mX4_putNext false := ⟨by unfold dchk; decide +kernel, [283, 284, 288], [], [], [], by decide +kernel, by decide +kernel, by decide +kernel, by decide +kernel⟩
theorem vX4_putNext (l : Launch) : MetM l yX4_putNext cX4_putNext 4 none 0 0 0 0 fX4_putNext := metM_of false nX4_putNext rfl kX4_putNext (fun h => by cases h) cokg (fun p e s m args below meth c D aC A ad0 N0 X => fun _ h => absurd h List.not_mem_nil)
theorem nX4_addNext : MNO yX4_addNext cX4_addNext 7 none 1 := ⟨gd_of (i := 573) (by decide +kernel) rfl, gd_of (i := 79) (by decide +kernel) rfl, by decide +kernel, by decide +kernel⟩
theorem sX4_addNext : Cond.instanceMethod yX4_addNext ∈ gdW ∧ Cond.selects yX4_addNext.cls yX4_addNext yX4_addNext ∈ gdW := ⟨gd_of (i := 572) (by decide +kernel) rfl, gd_of (i := 16) (by decide +kernel) rfl⟩
theorem kX4_addNext : MCK yX4_addNext.cls cX4_addNext mX4_addNext false := ⟨by unfold dchk; decide +kernel, [283, 284], [], [574], [], by decide +kernel, by decide +kernel, by decide +kernel, by decide +kernel⟩
theorem vX4_addNext (l : Launch) : MetM l yX4_addNext cX4_addNext 7 none 1 23 0 0 fX4_addNext := metM_of false nX4_addNext rfl kX4_addNext (fun h => by cases h) cokg (fun p e s m args below meth c D aC A ad0 N0 X => List.forall_mem_cons.mpr ⟨clk_V X (vX4_putNext l) nX4_putNext sX4_putNext ⟨by decide, rfl⟩ (gd_of (i := 575) (by decide +kernel) rfl) ⟨Nat.le_of_ble_eq_true rfl, Nat.le_of_ble_eq_true rfl⟩, fun _ h => absurd h List.not_mem_nil⟩)
theorem nX4_doEach : MNO yX4_doEach cX4_doEach 6 none 2 := ⟨gd_of (i := 561) (by decide +kernel) rfl, gd_of (i := 79) (by decide +kernel) rfl, by decide +kernel, by decide +kernel⟩
theorem sX4_doEach : Cond.instanceMethod yX4_doEach ∈ gdW ∧ Cond.selects yX4_doEach.cls yX4_doEach yX4_doEach ∈ gdW := ⟨gd_of (i := 560) (by decide +kernel) rfl, gd_of (i := 14) (by decide +kernel) rfl⟩
theorem kX4_doEach : MCK yX4_doEach.cls cX4_doEach mX4_doEach false := ⟨by unfold dchk; decide +kernel, [285, 137], [], [], [], by decide +kernel, by decide +kernel, by decide +kernel, by decide +kernel⟩
theorem vX4_doEach (l : Launch) : MetM l yX4_doEach cX4_doEach 6 none 2 51 0 0 fX4_doEach := metM_of false nX4_doEach rfl kX4_doEach (fun h => by cases h) cokg (fun p e s m args below meth c D aC A ad0 N0 X => List.forall_mem_cons.mpr ⟨clk_SN X (vX11_has l) nX11_has sX11_has (ns_of (i := 562) (by decide +kernel) rfl) ⟨Nat.le_of_ble_eq_true rfl, Nat.le_of_ble_eq_true rfl⟩, List.forall_mem_cons.mpr ⟨clk_V X (vX4_behind l) nX4_behind sX4_behind ⟨by decide, rfl⟩ (gd_of (i := 563) (by decide +kernel) rfl) ⟨Nat.le_of_ble_eq_true rfl, Nat.le_of_ble_eq_true rfl⟩, List.forall_mem_cons.mpr ⟨clk_V X (vX4_addNext l) nX4_addNext sX4_addNext ⟨by decide, rfl⟩ (gd_of (i := 570) (by decide +kernel) rfl) ⟨Nat.le_of_ble_eq_true rfl, Nat.le_of_ble_eq_true rfl⟩, fun _ h => absurd h List.not_mem_nil⟩⟩⟩)
theorem nX4_doOneMore : MNO yX4_doOneMore cX4_doOneMore 3 none 1 := ⟨gd_of (i := 556) (by decide +kernel) rfl, gd_of (i := 79) (by decide +kernel) rfl, by decide +kernel, by decide +kernel⟩
theorem sX4_doOneMore : Cond.instanceMethod yX4_doOneMore ∈ gdW ∧ Cond.selects yX4_doOneMore.cls yX4_doOneMore yX4_doOneMore ∈ gdW := ⟨gd_of (i := 555) (by decide +kernel) rfl, gd_of (i := 13) (by decide +kernel) rfl⟩
theorem kX4_doOneMore : MCK yX4_doOneMore.cls cX4_doOneMore mX4_doOneMore false := ⟨by unfold dchk; decide +kernel, [282, 283, 284, 287, 288], [], [], [], by decide +kernel, by decide +kernel, by decide +kernel, by decide +kernel⟩
theorem vX4_doOneMore (l : Launch) : MetM l yX4_doOneMore cX4_doOneMore 3 none 3 76 0 0 fX4_doOneMore := metM_of false nX4_doOneMore rfl kX4_doOneMore (fun h => by cases h) cokg (fun p e s m args below meth c D aC A ad0 N0 X => List.forall_mem_cons.mpr ⟨clk_S X (vJ7_fill_53178 l) nJ7_fill_53178 sJ7_fill_53178 (gd_of (i := 557) (by decide +kernel) rfl) ⟨Nat.le_of_ble_eq_true rfl, Nat.le_of_ble_eq_true rfl⟩, List.forall_mem_cons.mpr ⟨clk_V X (vX4_doEach l) nX4_doEach sX4_doEach ⟨by decide, rfl⟩ (gd_of (i := 558) (by decide +kernel) rfl) ⟨Nat.le_of_ble_eq_true rfl, Nat.le_of_ble_eq_true rfl⟩, fun _ h => absurd h List.not_mem_nil⟩⟩)
theorem nX7_clear : MNO yX7_clear cX7_clear 1 none 0 := ⟨gd_of (i := 582) (by decide +kernel) rfl, gd_of (i := 80) (by decide +kernel) rfl, by decide +kernel, by decide +kernel⟩
theorem sX7_clear : Cond.instanceMethod yX7_clear ∈ gdW ∧ Cond.selects yX7_clear.cls yX7_clear yX7_clear ∈ gdW := ⟨gd_of (i := 580) (by decide +kernel) rfl, gd_of (i := 581) (by decide +kernel) rfl⟩
theorem kX7_clear : MCK yX7_clear.cls cX7_clear mX7_clear false := ⟨by unfold dchk; decide +kernel, [312], [], [], [], by decide +kernel, by decide +kernel, by decide +kernel, by decide +kernel⟩
theorem vX7_clear (l : Launch) : MetM l yX7_clear cX7_clear 1 none 0 0 0 0 fX7_clear := metM_of false nX7_clear rfl kX7_clear (fun h => by cases h) cokg (fun p e s m args below meth c D aC A ad0 N0 X => fun _ h => absurd h List.not_mem_nil)
theorem nX7_add : MNO yX7_add cX7_add 4 none 1 := ⟨gd_of (i := 586) (by decide +kernel) rfl, gd_of (i := 80) (by decide +kernel) rfl, by decide +kernel, by decide +kernel⟩
theorem sX7_add : Cond.instanceMethod yX7_add ∈ gdW ∧ Cond.selects yX7_add.cls yX7_add yX7_add ∈ gdW := ⟨gd_of (i := 584) (by decide +kernel) rfl, gd_of (i := 585) (by decide +kernel) rfl⟩
theorem kX7_add : MCK yX7_add.cls cX7_add mX7_add false := ⟨by unfold dchk; decide +kernel, [311, 312], [], [], [], by decide +kernel, by decide +kernel, by decide +kernel, by decide +kernel⟩
theorem vX7_add (l : Launch) : MetM l yX7_add cX7_add 4 none 2 46 0 0 fX7_add := metM_of false nX7_add rfl kX7_add (fun h => by cases h) cokg (fun p e s m args below meth c D aC A ad0 N0 X => List.forall_mem_cons.mpr ⟨clk_V X (vX7_placeOf l) nX7_placeOf sX7_placeOf ⟨by decide, rfl⟩ (gd_of (i := 587) (by decide +kernel) rfl) ⟨Nat.le_of_ble_eq_true rfl, Nat.le_of_ble_eq_true rfl⟩, List.forall_mem_cons.mpr ⟨clk_V X (vX7_at l) nX7_at sX7_at ⟨by decide, rfl⟩ (gd_of (i := 591) (by decide +kernel) rfl) ⟨Nat.le_of_ble_eq_true rfl, Nat.le_of_ble_eq_true rfl⟩, fun _ h => absurd h List.not_mem_nil⟩⟩)
theorem nX4_findReadings : MNO yX4_findReadings cX4_findReadings 6 none 4 := ⟨gd_of (i := 526) (by decide +kernel) rfl, gd_of (i := 79) (by decide +kernel) rfl, by decide +kernel, by decide +kernel⟩
theorem sX4_findReadings : Cond.instanceMethod yX4_findReadings ∈ gdW ∧ Cond.selects yX4_findReadings.cls yX4_findReadings yX4_findReadings ∈ gdW := ⟨gd_of (i := 524) (by decide +kernel) rfl, gd_of (i := 525) (by decide +kernel) rfl⟩
theorem kX4_findReadings : MCK yX4_findReadings.cls cX4_findReadings mX4_findReadings false := ⟨by unfold dchk; decide +kernel, [282, 285, 287, 137], [], [], [], by decide +kernel, by decide +kernel, by decide +kernel, by decide +kernel⟩
theorem vX4_findReadings (l : Launch) : MetM l yX4_findReadings cX4_findReadings 6 none 4 98 0 0 fX4_findReadings := metM_of false nX4_findReadings rfl kX4_findReadings (fun h => by cases h) cokg (fun p e s m args below meth c D aC A ad0 N0 X => List.forall_mem_cons.mpr ⟨clk_V X (vX4_weigh l) nX4_weigh sX4_weigh ⟨by decide, rfl⟩ (gd_of (i := 527) (by decide +kernel) rfl) ⟨Nat.le_of_ble_eq_true rfl, Nat.le_of_ble_eq_true rfl⟩, List.forall_mem_cons.mpr ⟨clk_V X (vX6_waitsOf l) nX6_waitsOf sX6_waitsOf ⟨by decide, rfl⟩ (gd_of (i := 536) (by decide +kernel) rfl) ⟨Nat.le_of_ble_eq_true rfl, Nat.le_of_ble_eq_true rfl⟩, List.forall_mem_cons.mpr ⟨clk_V X (vX4_doOneMore l) nX4_doOneMore sX4_doOneMore ⟨by decide, rfl⟩ (gd_of (i := 553) (by decide +kernel) rfl) ⟨Nat.le_of_ble_eq_true rfl, Nat.le_of_ble_eq_true rfl⟩, List.forall_mem_cons.mpr ⟨clk_V X (vX7_clear l) nX7_clear sX7_clear ⟨by decide, rfl⟩ (gd_of (i := 579) (by decide +kernel) rfl) ⟨Nat.le_of_ble_eq_true rfl, Nat.le_of_ble_eq_true rfl⟩, List.forall_mem_cons.mpr ⟨clk_V X (vX7_add l) nX7_add sX7_add ⟨by decide, rfl⟩ (gd_of (i := 583) (by decide +kernel) rfl) ⟨Nat.le_of_ble_eq_true rfl, Nat.le_of_ble_eq_true rfl⟩, fun _ h => absurd h List.not_mem_nil⟩⟩⟩⟩⟩)
theorem nX5_init : MNO yX5_init cX5_init 1 none 0 := ⟨gd_of (i := 112) (by decide +kernel) rfl, gd_of (i := 70) (by decide +kernel) rfl, by decide +kernel, by decide +kernel⟩
theorem sX5_init : Cond.instanceMethod yX5_init ∈ gdW ∧ yX5_init.name = "<init>" := ⟨gd_of (i := 111) (by decide +kernel) rfl, rfl⟩
theorem kX5_init : MCK yX5_init.cls cX5_init mX5_init true := ⟨by unfold dchk; decide +kernel, [114, 116, 117], [], [], [], by decide +kernel, by decide +kernel, by decide +kernel, by decide +kernel⟩
theorem vX5_init (l : Launch) : MetM l yX5_init cX5_init 1 none 1 22 0 0 fX5_init := metM_of true nX5_init rfl kX5_init (fun _ => rfl) cokg (fun p e s m args below meth c D aC A ad0 N0 X => List.forall_mem_cons.mpr ⟨clk_O X objI (gd_of (i := 113) (by decide +kernel) rfl) ⟨Nat.le_of_ble_eq_true rfl, Nat.le_of_ble_eq_true rfl⟩, fun _ h => absurd h List.not_mem_nil⟩)
theorem nX6_clear : MNO yX6_clear cX6_clear 1 none 0 := ⟨gd_of (i := 398) (by decide +kernel) rfl, gd_of (i := 71) (by decide +kernel) rfl, by decide +kernel, by decide +kernel⟩
theorem sX6_clear : Cond.instanceMethod yX6_clear ∈ gdW ∧ Cond.selects yX6_clear.cls yX6_clear yX6_clear ∈ gdW := ⟨gd_of (i := 396) (by decide +kernel) rfl, gd_of (i := 397) (by decide +kernel) rfl⟩
theorem kX6_clear : MCK yX6_clear.cls cX6_clear mX6_clear false := ⟨by unfold dchk; decide +kernel, [133, 136, 142, 143], [], [], [], by decide +kernel, by decide +kernel, by decide +kernel, by decide +kernel⟩
theorem vX6_clear (l : Launch) : MetM l yX6_clear cX6_clear 1 none 0 0 0 0 fX6_clear := metM_of false nX6_clear rfl kX6_clear (fun h => by cases h) cokg (fun p e s m args below meth c D aC A ad0 N0 X => fun _ h => absurd h List.not_mem_nil)
theorem nX10_letterAt : MNO yX10_letterAt cX10_letterAt 2 (some .int) 1 := ⟨gd_of (i := 402) (by decide +kernel) rfl, gd_of (i := 69) (by decide +kernel) rfl, by decide +kernel, by decide +kernel⟩
theorem sX10_letterAt : Cond.instanceMethod yX10_letterAt ∈ gdW ∧ Cond.selects yX10_letterAt.cls yX10_letterAt yX10_letterAt ∈ gdW := ⟨gd_of (i := 400) (by decide +kernel) rfl, gd_of (i := 401) (by decide +kernel) rfl⟩
theorem kX10_letterAt : MCK yX10_letterAt.cls cX10_letterAt mX10_letterAt false := ⟨by unfold dchk; decide +kernel, [98], [], [], [], by decide +kernel, by decide +kernel, by decide +kernel, by decide +kernel⟩
theorem vX10_letterAt (l : Launch) : MetM l yX10_letterAt cX10_letterAt 2 (some .int) 0 0 0 0 fX10_letterAt := metM_of false nX10_letterAt rfl kX10_letterAt (fun h => by cases h) cokg (fun p e s m args below meth c D aC A ad0 N0 X => fun _ h => absurd h List.not_mem_nil)
theorem nX6_addThread : MNO yX6_addThread cX6_addThread 1 (some .boolean) 0 := ⟨gd_of (i := 414) (by decide +kernel) rfl, gd_of (i := 71) (by decide +kernel) rfl, by decide +kernel, by decide +kernel⟩
theorem sX6_addThread : Cond.instanceMethod yX6_addThread ∈ gdW ∧ Cond.selects yX6_addThread.cls yX6_addThread yX6_addThread ∈ gdW := ⟨gd_of (i := 412) (by decide +kernel) rfl, gd_of (i := 413) (by decide +kernel) rfl⟩
theorem kX6_addThread : MCK yX6_addThread.cls cX6_addThread mX6_addThread false := ⟨by unfold dchk; decide +kernel, [133], [], [], [], by decide +kernel, by decide +kernel, by decide +kernel, by decide +kernel⟩
theorem vX6_addThread (l : Launch) : MetM l yX6_addThread cX6_addThread 1 (some .boolean) 0 0 0 0 fX6_addThread := metM_of false nX6_addThread rfl kX6_addThread (fun h => by cases h) cokg (fun p e s m args below meth c D aC A ad0 N0 X => fun _ h => absurd h List.not_mem_nil)
theorem nX5_takeWord : MNO yX5_takeWord cX5_takeWord 3 (some .int) 2 := ⟨gd_of (i := 410) (by decide +kernel) rfl, gd_of (i := 70) (by decide +kernel) rfl, by decide +kernel, by decide +kernel⟩
theorem sX5_takeWord : Cond.instanceMethod yX5_takeWord ∈ gdW ∧ Cond.selects yX5_takeWord.cls yX5_takeWord yX5_takeWord ∈ gdW := ⟨gd_of (i := 409) (by decide +kernel) rfl, gd_of (i := 1) (by decide +kernel) rfl⟩
theorem kX5_takeWord : MCK yX5_takeWord.cls cX5_takeWord mX5_takeWord false := ⟨by unfold dchk; decide +kernel, [116, 117, 134, 141], [], [], [], by decide +kernel, by decide +kernel, by decide +kernel, by decide +kernel⟩
theorem vX5_takeWord (l : Launch) : MetM l yX5_takeWord cX5_takeWord 3 (some .int) 1 20 0 0 fX5_takeWord := metM_of false nX5_takeWord rfl kX5_takeWord (fun h => by cases h) cokg (fun p e s m args below meth c D aC A ad0 N0 X => List.forall_mem_cons.mpr ⟨clk_V X (vX6_addThread l) nX6_addThread sX6_addThread ⟨by decide, rfl⟩ (gd_of (i := 411) (by decide +kernel) rfl) ⟨Nat.le_of_ble_eq_true rfl, Nat.le_of_ble_eq_true rfl⟩, fun _ h => absurd h List.not_mem_nil⟩)
theorem nX6_addStep : MNO yX6_addStep cX6_addStep 4 none 2 := ⟨gd_of (i := 422) (by decide +kernel) rfl, gd_of (i := 71) (by decide +kernel) rfl, by decide +kernel, by decide +kernel⟩
theorem sX6_addStep : Cond.instanceMethod yX6_addStep ∈ gdW ∧ Cond.selects yX6_addStep.cls yX6_addStep yX6_addStep ∈ gdW := ⟨gd_of (i := 420) (by decide +kernel) rfl, gd_of (i := 421) (by decide +kernel) rfl⟩
theorem kX6_addStep : MCK yX6_addStep.cls cX6_addStep mX6_addStep false := ⟨by unfold dchk; decide +kernel, [131, 132, 133, 136, 142, 143], [], [], [], by decide +kernel, by decide +kernel, by decide +kernel, by decide +kernel⟩
theorem vX6_addStep (l : Launch) : MetM l yX6_addStep cX6_addStep 4 none 1 21 0 0 fX6_addStep := metM_of false nX6_addStep rfl kX6_addStep (fun h => by cases h) cokg (fun p e s m args below meth c D aC A ad0 N0 X => List.forall_mem_cons.mpr ⟨clk_V X (vX6_threadOf l) nX6_threadOf sX6_threadOf ⟨by decide, rfl⟩ (gd_of (i := 423) (by decide +kernel) rfl) ⟨Nat.le_of_ble_eq_true rfl, Nat.le_of_ble_eq_true rfl⟩, fun _ h => absurd h List.not_mem_nil⟩)
theorem nX5_takeCell : MNO yX5_takeCell cX5_takeCell 3 (some .int) 2 := ⟨gd_of (i := 418) (by decide +kernel) rfl, gd_of (i := 70) (by decide +kernel) rfl, by decide +kernel, by decide +kernel⟩
theorem sX5_takeCell : Cond.instanceMethod yX5_takeCell ∈ gdW ∧ Cond.selects yX5_takeCell.cls yX5_takeCell yX5_takeCell ∈ gdW := ⟨gd_of (i := 417) (by decide +kernel) rfl, gd_of (i := 2) (by decide +kernel) rfl⟩
theorem kX5_takeCell : MCK yX5_takeCell.cls cX5_takeCell mX5_takeCell false := ⟨by unfold dchk; decide +kernel, [116, 117], [], [], [], by decide +kernel, by decide +kernel, by decide +kernel, by decide +kernel⟩
theorem vX5_takeCell (l : Launch) : MetM l yX5_takeCell cX5_takeCell 3 (some .int) 2 44 0 0 fX5_takeCell := metM_of false nX5_takeCell rfl kX5_takeCell (fun h => by cases h) cokg (fun p e s m args below meth c D aC A ad0 N0 X => List.forall_mem_cons.mpr ⟨clk_V X (vX6_addStep l) nX6_addStep sX6_addStep ⟨by decide, rfl⟩ (gd_of (i := 419) (by decide +kernel) rfl) ⟨Nat.le_of_ble_eq_true rfl, Nat.le_of_ble_eq_true rfl⟩, fun _ h => absurd h List.not_mem_nil⟩)
theorem nX5_take : MNO yX5_take cX5_take 3 (some .int) 2 := ⟨gd_of (i := 406) (by decide +kernel) rfl, gd_of (i := 70) (by decide +kernel) rfl, by decide +kernel, by decide +kernel⟩
theorem sX5_take : Cond.instanceMethod yX5_take ∈ gdW ∧ Cond.selects yX5_take.cls yX5_take yX5_take ∈ gdW := ⟨gd_of (i := 405) (by decide +kernel) rfl, gd_of (i := 0) (by decide +kernel) rfl⟩
theorem kX5_take : MCK yX5_take.cls cX5_take mX5_take false := ⟨by unfold dchk; decide +kernel, [116], [], [], [], by decide +kernel, by decide +kernel, by decide +kernel, by decide +kernel⟩
theorem vX5_take (l : Launch) : MetM l yX5_take cX5_take 3 (some .int) 3 66 0 0 fX5_take := metM_of false nX5_take rfl kX5_take (fun h => by cases h) cokg (fun p e s m args below meth c D aC A ad0 N0 X => List.forall_mem_cons.mpr ⟨clk_V X (vX5_takeWord l) nX5_takeWord sX5_takeWord ⟨by decide, rfl⟩ (gd_of (i := 407) (by decide +kernel) rfl) ⟨Nat.le_of_ble_eq_true rfl, Nat.le_of_ble_eq_true rfl⟩, List.forall_mem_cons.mpr ⟨clk_V X (vX5_takeCell l) nX5_takeCell sX5_takeCell ⟨by decide, rfl⟩ (gd_of (i := 415) (by decide +kernel) rfl) ⟨Nat.le_of_ble_eq_true rfl, Nat.le_of_ble_eq_true rfl⟩, fun _ h => absurd h List.not_mem_nil⟩⟩)
end
section
/-! more contracts (by program) -/
theorem nX5_parse : MNO yX5_parse cX5_parse 6 (some .int) 2 := ⟨gd_of (i := 394) (by decide +kernel) rfl, gd_of (i := 70) (by decide +kernel) rfl, by decide +kernel, by decide +kernel⟩
theorem sX5_parse : Cond.instanceMethod yX5_parse ∈ gdW ∧ Cond.selects yX5_parse.cls yX5_parse yX5_parse ∈ gdW := ⟨gd_of (i := 392) (by decide +kernel) rfl, gd_of (i := 393) (by decide +kernel) rfl⟩
theorem kX5_parse : MCK yX5_parse.cls cX5_parse mX5_parse false := ⟨by unfold dchk; decide +kernel, [114, 116, 100], [], [], [], by decide +kernel, by decide +kernel, by decide +kernel, by decide +kernel⟩
theorem vX5_parse (l : Launch) : MetM l yX5_parse cX5_parse 6 (some .int) 4 88 0 0 fX5_parse := metM_of false nX5_parse rfl kX5_parse (fun h => by cases h) cokg (fun p e s m args below meth c D aC A ad0 N0 X => List.forall_mem_cons.mpr ⟨clk_V X (vX6_clear l) nX6_clear sX6_clear ⟨by decide, rfl⟩ (gd_of (i := 395) (by decide +kernel) rfl) ⟨Nat.le_of_ble_eq_true rfl, Nat.le_of_ble_eq_true rfl⟩, List.forall_mem_cons.mpr ⟨clk_V X (vX10_letterAt l) nX10_letterAt sX10_letterAt ⟨by decide, rfl⟩ (gd_of (i := 399) (by decide +kernel) rfl) ⟨Nat.le_of_ble_eq_true rfl, Nat.le_of_ble_eq_true rfl⟩, List.forall_mem_cons.mpr ⟨clk_V X (vX5_take l) nX5_take sX5_take ⟨by decide, rfl⟩ (gd_of (i := 403) (by decide +kernel) rfl) ⟨Nat.le_of_ble_eq_true rfl, Nat.le_of_ble_eq_true rfl⟩, fun _ h => absurd h List.not_mem_nil⟩⟩⟩)
theorem nX6_init : MNO yX6_init cX6_init 1 none 0 := ⟨gd_of (i := 129) (by decide +kernel) rfl, gd_of (i := 71) (by decide +kernel) rfl, by decide +kernel, by decide +kernel⟩
theorem sX6_init : Cond.instanceMethod yX6_init ∈ gdW ∧ yX6_init.name = "<init>" := ⟨gd_of (i := 128) (by decide +kernel) rfl, rfl⟩
theorem kX6_init : MCK yX6_init.cls cX6_init mX6_init true := ⟨by unfold dchk; decide +kernel, [131, 132, 133, 136, 142, 143], [(9, 131), (15, 132)], [], [], by decide +kernel, by decide +kernel, by decide +kernel, by decide +kernel⟩
theorem vX6_init (l : Launch) : MetM l yX6_init cX6_init 1 none 1 22 2 16 fX6_init := metM_of true nX6_init rfl kX6_init (fun _ => rfl) cokg (fun p e s m args below meth c D aC A ad0 N0 X => List.forall_mem_cons.mpr ⟨clk_O X objI (gd_of (i := 130) (by decide +kernel) rfl) ⟨Nat.le_of_ble_eq_true rfl, Nat.le_of_ble_eq_true rfl⟩, fun _ h => absurd h List.not_mem_nil⟩)
theorem nX6_hasGap : MNO yX6_hasGap cX6_hasGap 2 (some .boolean) 1 := ⟨gd_of (i := 676) (by decide +kernel) rfl, gd_of (i := 71) (by decide +kernel) rfl, by decide +kernel, by decide +kernel⟩
theorem sX6_hasGap : Cond.instanceMethod yX6_hasGap ∈ gdW ∧ Cond.selects yX6_hasGap.cls yX6_hasGap yX6_hasGap ∈ gdW := ⟨gd_of (i := 674) (by decide +kernel) rfl, gd_of (i := 675) (by decide +kernel) rfl⟩
theorem kX6_hasGap : MCK yX6_hasGap.cls cX6_hasGap mX6_hasGap false := ⟨by unfold dchk; decide +kernel, [143], [], [], [], by decide +kernel, by decide +kernel, by decide +kernel, by decide +kernel⟩
theorem vX6_hasGap (l : Launch) : MetM l yX6_hasGap cX6_hasGap 2 (some .boolean) 1 21 0 0 fX6_hasGap := metM_of false nX6_hasGap rfl kX6_hasGap (fun h => by cases h) cokg (fun p e s m args below meth c D aC A ad0 N0 X => List.forall_mem_cons.mpr ⟨clk_V X (vX6_hasStep l) nX6_hasStep sX6_hasStep ⟨by decide, rfl⟩ (gd_of (i := 677) (by decide +kernel) rfl) ⟨Nat.le_of_ble_eq_true rfl, Nat.le_of_ble_eq_true rfl⟩, List.forall_mem_cons.mpr ⟨clk_SN X (vX11_has l) nX11_has sX11_has (ns_of (i := 552) (by decide +kernel) rfl) ⟨Nat.le_of_ble_eq_true rfl, Nat.le_of_ble_eq_true rfl⟩, fun _ h => absurd h List.not_mem_nil⟩⟩)
theorem nX6_areInConflict : MNO yX6_areInConflict cX6_areInConflict 3 (some .boolean) 2 := ⟨gd_of (i := 485) (by decide +kernel) rfl, gd_of (i := 71) (by decide +kernel) rfl, by decide +kernel, by decide +kernel⟩
theorem sX6_areInConflict : Cond.instanceMethod yX6_areInConflict ∈ gdW ∧ Cond.selects yX6_areInConflict.cls yX6_areInConflict yX6_areInConflict ∈ gdW := ⟨gd_of (i := 483) (by decide +kernel) rfl, gd_of (i := 484) (by decide +kernel) rfl⟩
theorem kX6_areInConflict : MCK yX6_areInConflict.cls cX6_areInConflict mX6_areInConflict false := ⟨by unfold dchk; decide +kernel, [], [], [], [], by decide +kernel, by decide +kernel, by decide +kernel, by decide +kernel⟩
theorem vX6_areInConflict (l : Launch) : MetM l yX6_areInConflict cX6_areInConflict 3 (some .boolean) 1 21 0 0 fX6_areInConflict := metM_of false nX6_areInConflict rfl kX6_areInConflict (fun h => by cases h) cokg (fun p e s m args below meth c D aC A ad0 N0 X => List.forall_mem_cons.mpr ⟨clk_V X (vX6_threadOf l) nX6_threadOf sX6_threadOf ⟨by decide, rfl⟩ (gd_of (i := 423) (by decide +kernel) rfl) ⟨Nat.le_of_ble_eq_true rfl, Nat.le_of_ble_eq_true rfl⟩, List.forall_mem_cons.mpr ⟨clk_V X (vX6_cellOf l) nX6_cellOf sX6_cellOf ⟨by decide, rfl⟩ (gd_of (i := 486) (by decide +kernel) rfl) ⟨Nat.le_of_ble_eq_true rfl, Nat.le_of_ble_eq_true rfl⟩, List.forall_mem_cons.mpr ⟨clk_V X (vX6_isWriter l) nX6_isWriter sX6_isWriter ⟨by decide, rfl⟩ (gd_of (i := 487) (by decide +kernel) rfl) ⟨Nat.le_of_ble_eq_true rfl, Nat.le_of_ble_eq_true rfl⟩, fun _ h => absurd h List.not_mem_nil⟩⟩⟩)
theorem nX6_conflictsOf : MNO yX6_conflictsOf cX6_conflictsOf 4 (some .int) 1 := ⟨gd_of (i := 686) (by decide +kernel) rfl, gd_of (i := 71) (by decide +kernel) rfl, by decide +kernel, by decide +kernel⟩
theorem sX6_conflictsOf : Cond.instanceMethod yX6_conflictsOf ∈ gdW ∧ Cond.selects yX6_conflictsOf.cls yX6_conflictsOf yX6_conflictsOf ∈ gdW := ⟨gd_of (i := 684) (by decide +kernel) rfl, gd_of (i := 685) (by decide +kernel) rfl⟩
theorem kX6_conflictsOf : MCK yX6_conflictsOf.cls cX6_conflictsOf mX6_conflictsOf false := ⟨by unfold dchk; decide +kernel, [136], [], [], [], by decide +kernel, by decide +kernel, by decide +kernel, by decide +kernel⟩
theorem vX6_conflictsOf (l : Launch) : MetM l yX6_conflictsOf cX6_conflictsOf 4 (some .int) 2 43 0 0 fX6_conflictsOf := metM_of false nX6_conflictsOf rfl kX6_conflictsOf (fun h => by cases h) cokg (fun p e s m args below meth c D aC A ad0 N0 X => List.forall_mem_cons.mpr ⟨clk_V X (vX6_areInConflict l) nX6_areInConflict sX6_areInConflict ⟨by decide, rfl⟩ (gd_of (i := 687) (by decide +kernel) rfl) ⟨Nat.le_of_ble_eq_true rfl, Nat.le_of_ble_eq_true rfl⟩, fun _ h => absurd h List.not_mem_nil⟩)
theorem nX7_init : MNO yX7_init cX7_init 1 none 0 := ⟨gd_of (i := 309) (by decide +kernel) rfl, gd_of (i := 80) (by decide +kernel) rfl, by decide +kernel, by decide +kernel⟩
theorem sX7_init : Cond.instanceMethod yX7_init ∈ gdW ∧ yX7_init.name = "<init>" := ⟨gd_of (i := 308) (by decide +kernel) rfl, rfl⟩
theorem kX7_init : MCK yX7_init.cls cX7_init mX7_init true := ⟨by unfold dchk; decide +kernel, [311, 312], [(11, 311)], [], [], by decide +kernel, by decide +kernel, by decide +kernel, by decide +kernel⟩
theorem vX7_init (l : Launch) : MetM l yX7_init cX7_init 1 none 1 22 1 256 fX7_init := metM_of true nX7_init rfl kX7_init (fun _ => rfl) cokg (fun p e s m args below meth c D aC A ad0 N0 X => List.forall_mem_cons.mpr ⟨clk_O X objI (gd_of (i := 310) (by decide +kernel) rfl) ⟨Nat.le_of_ble_eq_true rfl, Nat.le_of_ble_eq_true rfl⟩, fun _ h => absurd h List.not_mem_nil⟩)
theorem nX7_countWithout : MNO yX7_countWithout cX7_countWithout 4 (some .int) 1 := ⟨gd_of (i := 602) (by decide +kernel) rfl, gd_of (i := 80) (by decide +kernel) rfl, by decide +kernel, by decide +kernel⟩
theorem sX7_countWithout : Cond.instanceMethod yX7_countWithout ∈ gdW ∧ Cond.selects yX7_countWithout.cls yX7_countWithout yX7_countWithout ∈ gdW := ⟨gd_of (i := 600) (by decide +kernel) rfl, gd_of (i := 601) (by decide +kernel) rfl⟩
theorem kX7_countWithout : MCK yX7_countWithout.cls cX7_countWithout mX7_countWithout false := ⟨by unfold dchk; decide +kernel, [312], [], [], [], by decide +kernel, by decide +kernel, by decide +kernel, by decide +kernel⟩
theorem vX7_countWithout (l : Launch) : MetM l yX7_countWithout cX7_countWithout 4 (some .int) 3 67 0 0 fX7_countWithout := metM_of false nX7_countWithout rfl kX7_countWithout (fun h => by cases h) cokg (fun p e s m args below meth c D aC A ad0 N0 X => List.forall_mem_cons.mpr ⟨clk_V X (vX7_at l) nX7_at sX7_at ⟨by decide, rfl⟩ (gd_of (i := 591) (by decide +kernel) rfl) ⟨Nat.le_of_ble_eq_true rfl, Nat.le_of_ble_eq_true rfl⟩, List.forall_mem_cons.mpr ⟨clk_V X (vX7_holds l) nX7_holds sX7_holds ⟨by decide, rfl⟩ (gd_of (i := 603) (by decide +kernel) rfl) ⟨Nat.le_of_ble_eq_true rfl, Nat.le_of_ble_eq_true rfl⟩, fun _ h => absurd h List.not_mem_nil⟩⟩)
theorem nX7_atWithout : MNO yX7_atWithout cX7_atWithout 5 (some .int) 2 := ⟨gd_of (i := 705) (by decide +kernel) rfl, gd_of (i := 80) (by decide +kernel) rfl, by decide +kernel, by decide +kernel⟩
theorem sX7_atWithout : Cond.instanceMethod yX7_atWithout ∈ gdW ∧ Cond.selects yX7_atWithout.cls yX7_atWithout yX7_atWithout ∈ gdW := ⟨gd_of (i := 703) (by decide +kernel) rfl, gd_of (i := 704) (by decide +kernel) rfl⟩
theorem kX7_atWithout : MCK yX7_atWithout.cls cX7_atWithout mX7_atWithout false := ⟨by unfold dchk; decide +kernel, [312], [], [], [], by decide +kernel, by decide +kernel, by decide +kernel, by decide +kernel⟩
theorem vX7_atWithout (l : Launch) : MetM l yX7_atWithout cX7_atWithout 5 (some .int) 3 67 0 0 fX7_atWithout := metM_of false nX7_atWithout rfl kX7_atWithout (fun h => by cases h) cokg (fun p e s m args below meth c D aC A ad0 N0 X => List.forall_mem_cons.mpr ⟨clk_V X (vX7_at l) nX7_at sX7_at ⟨by decide, rfl⟩ (gd_of (i := 591) (by decide +kernel) rfl) ⟨Nat.le_of_ble_eq_true rfl, Nat.le_of_ble_eq_true rfl⟩, List.forall_mem_cons.mpr ⟨clk_V X (vX7_holds l) nX7_holds sX7_holds ⟨by decide, rfl⟩ (gd_of (i := 603) (by decide +kernel) rfl) ⟨Nat.le_of_ble_eq_true rfl, Nat.le_of_ble_eq_true rfl⟩, fun _ h => absurd h List.not_mem_nil⟩⟩)
theorem nX8_init : MNO yX8_init cX8_init 1 none 0 := ⟨gd_of (i := 162) (by decide +kernel) rfl, gd_of (i := 72) (by decide +kernel) rfl, by decide +kernel, by decide +kernel⟩
theorem sX8_init : Cond.instanceMethod yX8_init ∈ gdW ∧ yX8_init.name = "<init>" := ⟨gd_of (i := 161) (by decide +kernel) rfl, rfl⟩
theorem kX8_init : MCK yX8_init.cls cX8_init mX8_init true := ⟨by unfold dchk; decide +kernel, [164, 165, 166, 167], [(11, 164), (15, 165)], [], [], by decide +kernel, by decide +kernel, by decide +kernel, by decide +kernel⟩
theorem vX8_init (l : Launch) : MetM l yX8_init cX8_init 1 none 1 22 2 100 fX8_init := metM_of true nX8_init rfl kX8_init (fun _ => rfl) cokg (fun p e s m args below meth c D aC A ad0 N0 X => List.forall_mem_cons.mpr ⟨clk_O X objI (gd_of (i := 163) (by decide +kernel) rfl) ⟨Nat.le_of_ble_eq_true rfl, Nat.le_of_ble_eq_true rfl⟩, fun _ h => absurd h List.not_mem_nil⟩)
theorem nX8_addGift : MNO yX8_addGift cX8_addGift 2 none 1 := ⟨gd_of (i := 454) (by decide +kernel) rfl, gd_of (i := 72) (by decide +kernel) rfl, by decide +kernel, by decide +kernel⟩
theorem sX8_addGift : Cond.instanceMethod yX8_addGift ∈ gdW ∧ Cond.selects yX8_addGift.cls yX8_addGift yX8_addGift ∈ gdW := ⟨gd_of (i := 453) (by decide +kernel) rfl, gd_of (i := 5) (by decide +kernel) rfl⟩
theorem kX8_addGift : MCK yX8_addGift.cls cX8_addGift mX8_addGift false := ⟨by unfold dchk; decide +kernel, [164, 166], [], [], [], by decide +kernel, by decide +kernel, by decide +kernel, by decide +kernel⟩
theorem vX8_addGift (l : Launch) : MetM l yX8_addGift cX8_addGift 2 none 0 0 0 0 fX8_addGift := metM_of false nX8_addGift rfl kX8_addGift (fun h => by cases h) cokg (fun p e s m args below meth c D aC A ad0 N0 X => fun _ h => absurd h List.not_mem_nil)
theorem nX8_gatherGifts : MNO yX8_gatherGifts cX8_gatherGifts 4 none 1 := ⟨gd_of (i := 443) (by decide +kernel) rfl, gd_of (i := 72) (by decide +kernel) rfl, by decide +kernel, by decide +kernel⟩
theorem sX8_gatherGifts : Cond.instanceMethod yX8_gatherGifts ∈ gdW ∧ Cond.selects yX8_gatherGifts.cls yX8_gatherGifts yX8_gatherGifts ∈ gdW := ⟨gd_of (i := 442) (by decide +kernel) rfl, gd_of (i := 4) (by decide +kernel) rfl⟩
theorem kX8_gatherGifts : MCK yX8_gatherGifts.cls cX8_gatherGifts mX8_gatherGifts false := ⟨by unfold dchk; decide +kernel, [166, 140], [], [], [], by decide +kernel, by decide +kernel, by decide +kernel, by decide +kernel⟩
theorem vX8_gatherGifts (l : Launch) : MetM l yX8_gatherGifts cX8_gatherGifts 4 none 2 43 0 0 fX8_gatherGifts := metM_of false nX8_gatherGifts rfl kX8_gatherGifts (fun h => by cases h) cokg (fun p e s m args below meth c D aC A ad0 N0 X => List.forall_mem_cons.mpr ⟨clk_S X (vX8_giftOf l) nX8_giftOf sX8_giftOf (gd_of (i := 448) (by decide +kernel) rfl) ⟨Nat.le_of_ble_eq_true rfl, Nat.le_of_ble_eq_true rfl⟩, List.forall_mem_cons.mpr ⟨clk_V X (vX6_isWriter l) nX6_isWriter sX6_isWriter ⟨by decide, rfl⟩ (gd_of (i := 444) (by decide +kernel) rfl) ⟨Nat.le_of_ble_eq_true rfl, Nat.le_of_ble_eq_true rfl⟩, List.forall_mem_cons.mpr ⟨clk_V X (vX8_addGift l) nX8_addGift sX8_addGift ⟨by decide, rfl⟩ (gd_of (i := 451) (by decide +kernel) rfl) ⟨Nat.le_of_ble_eq_true rfl, Nat.le_of_ble_eq_true rfl⟩, List.forall_mem_cons.mpr ⟨clk_V X (vX6_isAhead l) nX6_isAhead sX6_isAhead ⟨by decide, rfl⟩ (gd_of (i := 455) (by decide +kernel) rfl) ⟨Nat.le_of_ble_eq_true rfl, Nat.le_of_ble_eq_true rfl⟩, List.forall_mem_cons.mpr ⟨clk_V X (vX6_cellOf l) nX6_cellOf sX6_cellOf ⟨by decide, rfl⟩ (gd_of (i := 459) (by decide +kernel) rfl) ⟨Nat.le_of_ble_eq_true rfl, Nat.le_of_ble_eq_true rfl⟩, fun _ h => absurd h List.not_mem_nil⟩⟩⟩⟩⟩)
theorem nX8_giftAt : MNO yX8_giftAt cX8_giftAt 2 (some .int) 1 := ⟨gd_of (i := 466) (by decide +kernel) rfl, gd_of (i := 72) (by decide +kernel) rfl, by decide +kernel, by decide +kernel⟩
theorem sX8_giftAt : Cond.instanceMethod yX8_giftAt ∈ gdW ∧ Cond.selects yX8_giftAt.cls yX8_giftAt yX8_giftAt ∈ gdW := ⟨gd_of (i := 465) (by decide +kernel) rfl, gd_of (i := 6) (by decide +kernel) rfl⟩
theorem kX8_giftAt : MCK yX8_giftAt.cls cX8_giftAt mX8_giftAt false := ⟨by unfold dchk; decide +kernel, [164], [], [], [], by decide +kernel, by decide +kernel, by decide +kernel, by decide +kernel⟩
theorem vX8_giftAt (l : Launch) : MetM l yX8_giftAt cX8_giftAt 2 (some .int) 0 0 0 0 fX8_giftAt := metM_of false nX8_giftAt rfl kX8_giftAt (fun h => by cases h) cokg (fun p e s m args below meth c D aC A ad0 N0 X => fun _ h => absurd h List.not_mem_nil)
theorem nX8_firstOf : MNO yX8_firstOf cX8_firstOf 1 (some .int) 1 := ⟨gd_of (i := 473) (by decide +kernel) rfl, gd_of (i := 72) (by decide +kernel) rfl, by decide +kernel, by decide +kernel⟩
theorem sX8_firstOf : Cond.static yX8_firstOf ∈ gdW := gd_of (i := 472) (by decide +kernel) rfl
theorem kX8_firstOf : MCK yX8_firstOf.cls cX8_firstOf mX8_firstOf false := ⟨by unfold dchk; decide +kernel, [], [], [], [], by decide +kernel, by decide +kernel, by decide +kernel, by decide +kernel⟩
theorem vX8_firstOf (l : Launch) : MetM l yX8_firstOf cX8_firstOf 1 (some .int) 0 0 0 0 fX8_firstOf := metM_of false nX8_firstOf rfl kX8_firstOf (fun h => by cases h) cokg (fun p e s m args below meth c D aC A ad0 N0 X => fun _ h => absurd h List.not_mem_nil)
theorem nX8_lastOf : MNO yX8_lastOf cX8_lastOf 1 (some .int) 1 := ⟨gd_of (i := 481) (by decide +kernel) rfl, gd_of (i := 72) (by decide +kernel) rfl, by decide +kernel, by decide +kernel⟩
theorem sX8_lastOf : Cond.static yX8_lastOf ∈ gdW := gd_of (i := 480) (by decide +kernel) rfl
theorem kX8_lastOf : MCK yX8_lastOf.cls cX8_lastOf mX8_lastOf false := ⟨by unfold dchk; decide +kernel, [], [], [], [], by decide +kernel, by decide +kernel, by decide +kernel, by decide +kernel⟩
theorem vX8_lastOf (l : Launch) : MetM l yX8_lastOf cX8_lastOf 1 (some .int) 0 0 0 0 fX8_lastOf := metM_of false nX8_lastOf rfl kX8_lastOf (fun h => by cases h) cokg (fun p e s m args below meth c D aC A ad0 N0 X => fun _ h => absurd h List.not_mem_nil)
theorem nX8_isAlone : MNO yX8_isAlone cX8_isAlone 1 (some .boolean) 1 := ⟨gd_of (i := 490) (by decide +kernel) rfl, gd_of (i := 72) (by decide +kernel) rfl, by decide +kernel, by decide +kernel⟩
theorem sX8_isAlone : Cond.static yX8_isAlone ∈ gdW := gd_of (i := 489) (by decide +kernel) rfl
theorem kX8_isAlone : MCK yX8_isAlone.cls cX8_isAlone mX8_isAlone false := ⟨by unfold dchk; decide +kernel, [], [], [], [], by decide +kernel, by decide +kernel, by decide +kernel, by decide +kernel⟩
theorem vX8_isAlone (l : Launch) : MetM l yX8_isAlone cX8_isAlone 1 (some .boolean) 1 20 0 0 fX8_isAlone := metM_of false nX8_isAlone rfl kX8_isAlone (fun h => by cases h) cokg (fun p e s m args below meth c D aC A ad0 N0 X => List.forall_mem_cons.mpr ⟨clk_S X (vX8_firstOf l) nX8_firstOf sX8_firstOf (gd_of (i := 471) (by decide +kernel) rfl) ⟨Nat.le_of_ble_eq_true rfl, Nat.le_of_ble_eq_true rfl⟩, List.forall_mem_cons.mpr ⟨clk_S X (vX8_lastOf l) nX8_lastOf sX8_lastOf (gd_of (i := 479) (by decide +kernel) rfl) ⟨Nat.le_of_ble_eq_true rfl, Nat.le_of_ble_eq_true rfl⟩, fun _ h => absurd h List.not_mem_nil⟩⟩)
theorem nX8_leadsTo : MNO yX8_leadsTo cX8_leadsTo 6 (some .boolean) 3 := ⟨gd_of (i := 478) (by decide +kernel) rfl, gd_of (i := 72) (by decide +kernel) rfl, by decide +kernel, by decide +kernel⟩
theorem sX8_leadsTo : Cond.instanceMethod yX8_leadsTo ∈ gdW ∧ Cond.selects yX8_leadsTo.cls yX8_leadsTo yX8_leadsTo ∈ gdW := ⟨gd_of (i := 477) (by decide +kernel) rfl, gd_of (i := 8) (by decide +kernel) rfl⟩
theorem kX8_leadsTo : MCK yX8_leadsTo.cls cX8_leadsTo mX8_leadsTo false := ⟨by unfold dchk; decide +kernel, [], [], [], [], by decide +kernel, by decide +kernel, by decide +kernel, by decide +kernel⟩
theorem vX8_leadsTo (l : Launch) : MetM l yX8_leadsTo cX8_leadsTo 6 (some .boolean) 2 43 0 0 fX8_leadsTo := metM_of false nX8_leadsTo rfl kX8_leadsTo (fun h => by cases h) cokg (fun p e s m args below meth c D aC A ad0 N0 X => List.forall_mem_cons.mpr ⟨clk_V X (vX6_isWriter l) nX6_isWriter sX6_isWriter ⟨by decide, rfl⟩ (gd_of (i := 444) (by decide +kernel) rfl) ⟨Nat.le_of_ble_eq_true rfl, Nat.le_of_ble_eq_true rfl⟩, List.forall_mem_cons.mpr ⟨clk_S X (vX8_firstOf l) nX8_firstOf sX8_firstOf (gd_of (i := 471) (by decide +kernel) rfl) ⟨Nat.le_of_ble_eq_true rfl, Nat.le_of_ble_eq_true rfl⟩, List.forall_mem_cons.mpr ⟨clk_S X (vX8_isAlone l) nX8_isAlone sX8_isAlone (gd_of (i := 488) (by decide +kernel) rfl) ⟨Nat.le_of_ble_eq_true rfl, Nat.le_of_ble_eq_true rfl⟩, List.forall_mem_cons.mpr ⟨clk_S X (vX8_lastOf l) nX8_lastOf sX8_lastOf (gd_of (i := 479) (by decide +kernel) rfl) ⟨Nat.le_of_ble_eq_true rfl, Nat.le_of_ble_eq_true rfl⟩, List.forall_mem_cons.mpr ⟨clk_V X (vX6_areInConflict l) nX6_areInConflict sX6_areInConflict ⟨by decide, rfl⟩ (gd_of (i := 482) (by decide +kernel) rfl) ⟨Nat.le_of_ble_eq_true rfl, Nat.le_of_ble_eq_true rfl⟩, fun _ h => absurd h List.not_mem_nil⟩⟩⟩⟩⟩)
theorem nX8_countGiven : MNO yX8_countGiven cX8_countGiven 2 none 1 := ⟨gd_of (i := 494) (by decide +kernel) rfl, gd_of (i := 72) (by decide +kernel) rfl, by decide +kernel, by decide +kernel⟩
theorem sX8_countGiven : Cond.instanceMethod yX8_countGiven ∈ gdW ∧ Cond.selects yX8_countGiven.cls yX8_countGiven yX8_countGiven ∈ gdW := ⟨gd_of (i := 493) (by decide +kernel) rfl, gd_of (i := 9) (by decide +kernel) rfl⟩
theorem kX8_countGiven : MCK yX8_countGiven.cls cX8_countGiven mX8_countGiven false := ⟨by unfold dchk; decide +kernel, [165], [], [], [], by decide +kernel, by decide +kernel, by decide +kernel, by decide +kernel⟩
theorem vX8_countGiven (l : Launch) : MetM l yX8_countGiven cX8_countGiven 2 none 0 0 0 0 fX8_countGiven := metM_of false nX8_countGiven rfl kX8_countGiven (fun h => by cases h) cokg (fun p e s m args below meth c D aC A ad0 N0 X => fun _ h => absurd h List.not_mem_nil)
theorem nX8_findBegunWith : MNO yX8_findBegunWith cX8_findBegunWith 9 none 3 := ⟨gd_of (i := 470) (by decide +kernel) rfl, gd_of (i := 72) (by decide +kernel) rfl, by decide +kernel, by decide +kernel⟩
theorem sX8_findBegunWith : Cond.instanceMethod yX8_findBegunWith ∈ gdW ∧ Cond.selects yX8_findBegunWith.cls yX8_findBegunWith yX8_findBegunWith ∈ gdW := ⟨gd_of (i := 469) (by decide +kernel) rfl, gd_of (i := 7) (by decide +kernel) rfl⟩
theorem kX8_findBegunWith : MCK yX8_findBegunWith.cls cX8_findBegunWith mX8_findBegunWith false := ⟨by unfold dchk; decide +kernel, [166, 167], [], [], [], by decide +kernel, by decide +kernel, by decide +kernel, by decide +kernel⟩
theorem vX8_findBegunWith (l : Launch) : MetM l yX8_findBegunWith cX8_findBegunWith 9 none 3 68 0 0 fX8_findBegunWith := metM_of false nX8_findBegunWith rfl kX8_findBegunWith (fun h => by cases h) cokg (fun p e s m args below meth c D aC A ad0 N0 X => List.forall_mem_cons.mpr ⟨clk_V X (vX8_giftAt l) nX8_giftAt sX8_giftAt ⟨by decide, rfl⟩ (gd_of (i := 463) (by decide +kernel) rfl) ⟨Nat.le_of_ble_eq_true rfl, Nat.le_of_ble_eq_true rfl⟩, List.forall_mem_cons.mpr ⟨clk_S X (vX8_firstOf l) nX8_firstOf sX8_firstOf (gd_of (i := 471) (by decide +kernel) rfl) ⟨Nat.le_of_ble_eq_true rfl, Nat.le_of_ble_eq_true rfl⟩, List.forall_mem_cons.mpr ⟨clk_V X (vX6_threadOf l) nX6_threadOf sX6_threadOf ⟨by decide, rfl⟩ (gd_of (i := 474) (by decide +kernel) rfl) ⟨Nat.le_of_ble_eq_true rfl, Nat.le_of_ble_eq_true rfl⟩, List.forall_mem_cons.mpr ⟨clk_V X (vX8_leadsTo l) nX8_leadsTo sX8_leadsTo ⟨by decide, rfl⟩ (gd_of (i := 475) (by decide +kernel) rfl) ⟨Nat.le_of_ble_eq_true rfl, Nat.le_of_ble_eq_true rfl⟩, List.forall_mem_cons.mpr ⟨clk_S X (vX8_isAlone l) nX8_isAlone sX8_isAlone (gd_of (i := 488) (by decide +kernel) rfl) ⟨Nat.le_of_ble_eq_true rfl, Nat.le_of_ble_eq_true rfl⟩, List.forall_mem_cons.mpr ⟨clk_V X (vX8_countGiven l) nX8_countGiven sX8_countGiven ⟨by decide, rfl⟩ (gd_of (i := 491) (by decide +kernel) rfl) ⟨Nat.le_of_ble_eq_true rfl, Nat.le_of_ble_eq_true rfl⟩, fun _ h => absurd h List.not_mem_nil⟩⟩⟩⟩⟩⟩)
theorem nX8_find : MNO yX8_find cX8_find 4 none 1 := ⟨gd_of (i := 438) (by decide +kernel) rfl, gd_of (i := 72) (by decide +kernel) rfl, by decide +kernel, by decide +kernel⟩
theorem sX8_find : Cond.instanceMethod yX8_find ∈ gdW ∧ Cond.selects yX8_find.cls yX8_find yX8_find ∈ gdW := ⟨gd_of (i := 436) (by decide +kernel) rfl, gd_of (i := 437) (by decide +kernel) rfl⟩
theorem kX8_find : MCK yX8_find.cls cX8_find mX8_find false := ⟨by unfold dchk; decide +kernel, [165, 166, 167], [], [], [], by decide +kernel, by decide +kernel, by decide +kernel, by decide +kernel⟩
theorem vX8_find (l : Launch) : MetM l yX8_find cX8_find 4 none 4 96 0 0 fX8_find := metM_of false nX8_find rfl kX8_find (fun h => by cases h) cokg (fun p e s m args below meth c D aC A ad0 N0 X => List.forall_mem_cons.mpr ⟨clk_S X (vJ7_fill_53178 l) nJ7_fill_53178 sJ7_fill_53178 (gd_of (i := 439) (by decide +kernel) rfl) ⟨Nat.le_of_ble_eq_true rfl, Nat.le_of_ble_eq_true rfl⟩, List.forall_mem_cons.mpr ⟨clk_V X (vX8_gatherGifts l) nX8_gatherGifts sX8_gatherGifts ⟨by decide, rfl⟩ (gd_of (i := 440) (by decide +kernel) rfl) ⟨Nat.le_of_ble_eq_true rfl, Nat.le_of_ble_eq_true rfl⟩, List.forall_mem_cons.mpr ⟨clk_V X (vX8_giftAt l) nX8_giftAt sX8_giftAt ⟨by decide, rfl⟩ (gd_of (i := 463) (by decide +kernel) rfl) ⟨Nat.le_of_ble_eq_true rfl, Nat.le_of_ble_eq_true rfl⟩, List.forall_mem_cons.mpr ⟨clk_V X (vX8_findBegunWith l) nX8_findBegunWith sX8_findBegunWith ⟨by decide, rfl⟩ (gd_of (i := 467) (by decide +kernel) rfl) ⟨Nat.le_of_ble_eq_true rfl, Nat.le_of_ble_eq_true rfl⟩, fun _ h => absurd h List.not_mem_nil⟩⟩⟩⟩)
theorem nX9_setFence : MNO yX9_setFence cX9_setFence 3 none 2 := ⟨gd_of (i := 734) (by decide +kernel) rfl, gd_of (i := 74) (by decide +kernel) rfl, by decide +kernel, by decide +kernel⟩
theorem sX9_setFence : Cond.instanceMethod yX9_setFence ∈ gdW ∧ Cond.selects yX9_setFence.cls yX9_setFence yX9_setFence ∈ gdW := ⟨gd_of (i := 732) (by decide +kernel) rfl, gd_of (i := 733) (by decide +kernel) rfl⟩
theorem kX9_setFence : MCK yX9_setFence.cls cX9_setFence mX9_setFence false := ⟨by unfold dchk; decide +kernel, [206], [], [], [], by decide +kernel, by decide +kernel, by decide +kernel, by decide +kernel⟩
theorem vX9_setFence (l : Launch) : MetM l yX9_setFence cX9_setFence 3 none 0 0 0 0 fX9_setFence := metM_of false nX9_setFence rfl kX9_setFence (fun h => by cases h) cokg (fun p e s m args below meth c D aC A ad0 N0 X => fun _ h => absurd h List.not_mem_nil)
theorem nX9_setCost : MNO yX9_setCost cX9_setCost 3 none 2 := ⟨gd_of (i := 742) (by decide +kernel) rfl, gd_of (i := 74) (by decide +kernel) rfl, by decide +kernel, by decide +kernel⟩
theorem sX9_setCost : Cond.instanceMethod yX9_setCost ∈ gdW ∧ Cond.selects yX9_setCost.cls yX9_setCost yX9_setCost ∈ gdW := ⟨gd_of (i := 740) (by decide +kernel) rfl, gd_of (i := 741) (by decide +kernel) rfl⟩
theorem kX9_setCost : MCK yX9_setCost.cls cX9_setCost mX9_setCost false := ⟨by unfold dchk; decide +kernel, [205], [], [], [], by decide +kernel, by decide +kernel, by decide +kernel, by decide +kernel⟩
theorem vX9_setCost (l : Launch) : MetM l yX9_setCost cX9_setCost 3 none 0 0 0 0 fX9_setCost := metM_of false nX9_setCost rfl kX9_setCost (fun h => by cases h) cokg (fun p e s m args below meth c D aC A ad0 N0 X => fun _ h => absurd h List.not_mem_nil)
theorem nX10_init : MNO yX10_init cX10_init 1 none 0 := ⟨gd_of (i := 96) (by decide +kernel) rfl, gd_of (i := 69) (by decide +kernel) rfl, by decide +kernel, by decide +kernel⟩
theorem sX10_init : Cond.instanceMethod yX10_init ∈ gdW ∧ yX10_init.name = "<init>" := ⟨gd_of (i := 95) (by decide +kernel) rfl, rfl⟩
theorem kX10_init : MCK yX10_init.cls cX10_init mX10_init true := ⟨by unfold dchk; decide +kernel, [98, 99], [(9, 98)], [], [], by decide +kernel, by decide +kernel, by decide +kernel, by decide +kernel⟩
theorem vX10_init (l : Launch) : MetM l yX10_init cX10_init 1 none 1 22 1 120 fX10_init := metM_of true nX10_init rfl kX10_init (fun _ => rfl) cokg (fun p e s m args below meth c D aC A ad0 N0 X => List.forall_mem_cons.mpr ⟨clk_O X objI (gd_of (i := 97) (by decide +kernel) rfl) ⟨Nat.le_of_ble_eq_true rfl, Nat.le_of_ble_eq_true rfl⟩, fun _ h => absurd h List.not_mem_nil⟩)
theorem nX10_add : MNO yX10_add cX10_add 2 (some .boolean) 1 := ⟨gd_of (i := 385) (by decide +kernel) rfl, gd_of (i := 69) (by decide +kernel) rfl, by decide +kernel, by decide +kernel⟩
theorem sX10_add : Cond.instanceMethod yX10_add ∈ gdW ∧ Cond.selects yX10_add.cls yX10_add yX10_add ∈ gdW := ⟨gd_of (i := 383) (by decide +kernel) rfl, gd_of (i := 384) (by decide +kernel) rfl⟩
theorem kX10_add : MCK yX10_add.cls cX10_add mX10_add false := ⟨by unfold dchk; decide +kernel, [98, 99], [], [], [], by decide +kernel, by decide +kernel, by decide +kernel, by decide +kernel⟩
theorem vX10_add (l : Launch) : MetM l yX10_add cX10_add 2 (some .boolean) 0 0 0 0 fX10_add := metM_of false nX10_add rfl kX10_add (fun h => by cases h) cokg (fun p e s m args below meth c D aC A ad0 N0 X => fun _ h => absurd h List.not_mem_nil)
theorem nX10_clear : MNO yX10_clear cX10_clear 1 none 0 := ⟨gd_of (i := 430) (by decide +kernel) rfl, gd_of (i := 69) (by decide +kernel) rfl, by decide +kernel, by decide +kernel⟩
theorem sX10_clear : Cond.instanceMethod yX10_clear ∈ gdW ∧ Cond.selects yX10_clear.cls yX10_clear yX10_clear ∈ gdW := ⟨gd_of (i := 428) (by decide +kernel) rfl, gd_of (i := 429) (by decide +kernel) rfl⟩
theorem kX10_clear : MCK yX10_clear.cls cX10_clear mX10_clear false := ⟨by unfold dchk; decide +kernel, [99], [], [], [], by decide +kernel, by decide +kernel, by decide +kernel, by decide +kernel⟩
theorem vX10_clear (l : Launch) : MetM l yX10_clear cX10_clear 1 none 0 0 0 0 fX10_clear := metM_of false nX10_clear rfl kX10_clear (fun h => by cases h) cokg (fun p e s m args below meth c D aC A ad0 N0 X => fun _ h => absurd h List.not_mem_nil)
theorem nX11_init : MNO yX11_init cX11_init 2 none 0 := ⟨gd_of (i := 88) (by decide +kernel) rfl, gd_of (i := 68) (by decide +kernel) rfl, by decide +kernel, by decide +kernel⟩
theorem sX11_init : Cond.instanceMethod yX11_init ∈ gdW ∧ yX11_init.name = "<init>" := ⟨gd_of (i := 87) (by decide +kernel) rfl, rfl⟩
theorem kX11_init : MCK yX11_init.cls cX11_init mX11_init true := ⟨by unfold dchk; decide +kernel, [319, 320, 321, 322, 323, 324, 325, 326, 327, 328, 329, 330, 331, 332, 333, 334, 335, 336, 337], [(10, 319), (19, 320), (36, 323), (43, 324), (50, 325), (57, 326), (63, 327), (71, 328), (78, 329), (85, 330), (89, 331)], [], [92, 108, 125, 158, 178, 192, 217, 237, 259, 276, 305], by decide +kernel, by decide +kernel, by decide +kernel, by decide +kernel⟩
theorem vX11_init (l : Launch) : MetM l yX11_init cX11_init 2 none 4 84 77 3197 fX11_init := metM_of true nX11_init rfl kX11_init (fun _ => rfl) cokg (fun p e s m args below meth c D aC A ad0 N0 X => List.forall_mem_cons.mpr ⟨clk_O X objI (gd_of (i := 89) (by decide +kernel) rfl) ⟨Nat.le_of_ble_eq_true rfl, Nat.le_of_ble_eq_true rfl⟩, List.forall_mem_cons.mpr ⟨clk_IN X (vX10_init l) nX10_init sX10_init (ns_of (i := 94) (by decide +kernel) rfl) ⟨Nat.le_of_ble_eq_true rfl, Nat.le_of_ble_eq_true rfl⟩, List.forall_mem_cons.mpr ⟨clk_IN X (vX5_init l) nX5_init sX5_init (ns_of (i := 110) (by decide +kernel) rfl) ⟨Nat.le_of_ble_eq_true rfl, Nat.le_of_ble_eq_true rfl⟩, List.forall_mem_cons.mpr ⟨clk_IN X (vX6_init l) nX6_init sX6_init (ns_of (i := 127) (by decide +kernel) rfl) ⟨Nat.le_of_ble_eq_true rfl, Nat.le_of_ble_eq_true rfl⟩, List.forall_mem_cons.mpr ⟨clk_IN X (vX8_init l) nX8_init sX8_init (ns_of (i := 160) (by decide +kernel) rfl) ⟨Nat.le_of_ble_eq_true rfl, Nat.le_of_ble_eq_true rfl⟩, List.forall_mem_cons.mpr ⟨clk_IN X (vX3_init l) nX3_init sX3_init (ns_of (i := 180) (by decide +kernel) rfl) ⟨Nat.le_of_ble_eq_true rfl, Nat.le_of_ble_eq_true rfl⟩, List.forall_mem_cons.mpr ⟨clk_I X (vX9_init l) nX9_init sX9_init (gd_of (i := 194) (by decide +kernel) rfl) ⟨Nat.le_of_ble_eq_true rfl, Nat.le_of_ble_eq_true rfl⟩, List.forall_mem_cons.mpr ⟨clk_I X (vX1_init l) nX1_init sX1_init (gd_of (i := 219) (by decide +kernel) rfl) ⟨Nat.le_of_ble_eq_true rfl, Nat.le_of_ble_eq_true rfl⟩, List.forall_mem_cons.mpr ⟨clk_IN X (vX2_init l) nX2_init sX2_init (ns_of (i := 240) (by decide +kernel) rfl) ⟨Nat.le_of_ble_eq_true rfl, Nat.le_of_ble_eq_true rfl⟩, List.forall_mem_cons.mpr ⟨clk_IN X (vX0_init l) nX0_init sX0_init (ns_of (i := 261) (by decide +kernel) rfl) ⟨Nat.le_of_ble_eq_true rfl, Nat.le_of_ble_eq_true rfl⟩, List.forall_mem_cons.mpr ⟨clk_IN X (vX4_init l) nX4_init sX4_init (ns_of (i := 278) (by decide +kernel) rfl) ⟨Nat.le_of_ble_eq_true rfl, Nat.le_of_ble_eq_true rfl⟩, List.forall_mem_cons.mpr ⟨clk_IN X (vX7_init l) nX7_init sX7_init (ns_of (i := 307) (by decide +kernel) rfl) ⟨Nat.le_of_ble_eq_true rfl, Nat.le_of_ble_eq_true rfl⟩, fun _ h => absurd h List.not_mem_nil⟩⟩⟩⟩⟩⟩⟩⟩⟩⟩⟩⟩)
theorem nX11_feed : MNO yX11_feed cX11_feed 2 (some .int) 1 := ⟨gd_of (i := 380) (by decide +kernel) rfl, gd_of (i := 68) (by decide +kernel) rfl, by decide +kernel, by decide +kernel⟩
theorem sX11_feed : Cond.instanceMethod yX11_feed ∈ gdW ∧ Cond.selects yX11_feed.cls yX11_feed yX11_feed ∈ gdW := ⟨gd_of (i := 378) (by decide +kernel) rfl, gd_of (i := 379) (by decide +kernel) rfl⟩
theorem kX11_feed : MCK yX11_feed.cls cX11_feed mX11_feed false := ⟨by unfold dchk; decide +kernel, [319, 101], [], [381, 386], [], by decide +kernel, by decide +kernel, by decide +kernel, by decide +kernel⟩
theorem vX11_feed (l : Launch) : MetM l yX11_feed cX11_feed 2 (some .int) 1 21 0 0 fX11_feed := metM_of false nX11_feed rfl kX11_feed (fun h => by cases h) cokg (fun p e s m args below meth c D aC A ad0 N0 X => List.forall_mem_cons.mpr ⟨clk_V X (vX10_add l) nX10_add sX10_add ⟨by decide, rfl⟩ (gd_of (i := 382) (by decide +kernel) rfl) ⟨Nat.le_of_ble_eq_true rfl, Nat.le_of_ble_eq_true rfl⟩, fun _ h => absurd h List.not_mem_nil⟩)
theorem nX11_startAnew : MNO yX11_startAnew cX11_startAnew 2 none 0 := ⟨gd_of (i := 434) (by decide +kernel) rfl, gd_of (i := 68) (by decide +kernel) rfl, by decide +kernel, by decide +kernel⟩
theorem sX11_startAnew : Cond.instanceMethod yX11_startAnew ∈ gdW ∧ Cond.selects yX11_startAnew.cls yX11_startAnew yX11_startAnew ∈ gdW := ⟨gd_of (i := 433) (by decide +kernel) rfl, gd_of (i := 3) (by decide +kernel) rfl⟩
theorem kX11_startAnew : MCK yX11_startAnew.cls cX11_startAnew mX11_startAnew false := ⟨by unfold dchk; decide +kernel, [321, 323, 325, 326, 327, 328, 332, 335, 251], [], [], [], by decide +kernel, by decide +kernel, by decide +kernel, by decide +kernel⟩
theorem vX11_startAnew (l : Launch) : MetM l yX11_startAnew cX11_startAnew 2 none 5 119 0 0 fX11_startAnew := metM_of false nX11_startAnew rfl kX11_startAnew (fun h => by cases h) cokg (fun p e s m args below meth c D aC A ad0 N0 X => List.forall_mem_cons.mpr ⟨clk_V X (vX0_clear l) nX0_clear sX0_clear ⟨by decide, rfl⟩ (gd_of (i := 500) (by decide +kernel) rfl) ⟨Nat.le_of_ble_eq_true rfl, Nat.le_of_ble_eq_true rfl⟩, List.forall_mem_cons.mpr ⟨clk_V X (vX1_clear l) nX1_clear sX1_clear ⟨by decide, rfl⟩ (gd_of (i := 496) (by decide +kernel) rfl) ⟨Nat.le_of_ble_eq_true rfl, Nat.le_of_ble_eq_true rfl⟩, List.forall_mem_cons.mpr ⟨clk_V X (vX8_find l) nX8_find sX8_find ⟨by decide, rfl⟩ (gd_of (i := 435) (by decide +kernel) rfl) ⟨Nat.le_of_ble_eq_true rfl, Nat.le_of_ble_eq_true rfl⟩, List.forall_mem_cons.mpr ⟨clk_V X (vX9_clear l) nX9_clear sX9_clear ⟨by decide, rfl⟩ (gd_of (i := 495) (by decide +kernel) rfl) ⟨Nat.le_of_ble_eq_true rfl, Nat.le_of_ble_eq_true rfl⟩, fun _ h => absurd h List.not_mem_nil⟩⟩⟩⟩)
theorem nX11_threads : MNO yX11_threads cX11_threads 3 (some .int) 0 := ⟨gd_of (i := 390) (by decide +kernel) rfl, gd_of (i := 68) (by decide +kernel) rfl, by decide +kernel, by decide +kernel⟩
theorem sX11_threads : Cond.instanceMethod yX11_threads ∈ gdW ∧ Cond.selects yX11_threads.cls yX11_threads yX11_threads ∈ gdW := ⟨gd_of (i := 388) (by decide +kernel) rfl, gd_of (i := 389) (by decide +kernel) rfl⟩
theorem kX11_threads : MCK yX11_threads.cls cX11_threads mX11_threads false := ⟨by unfold dchk; decide +kernel, [319, 320, 321, 322, 337, 115, 139], [], [], [], by decide +kernel, by decide +kernel, by decide +kernel, by decide +kernel⟩
theorem vX11_threads (l : Launch) : MetM l yX11_threads cX11_threads 3 (some .int) 6 140 0 0 fX11_threads := metM_of false nX11_threads rfl kX11_threads (fun h => by cases h) cokg (fun p e s m args below meth c D aC A ad0 N0 X => List.forall_mem_cons.mpr ⟨clk_V X (vX5_parse l) nX5_parse sX5_parse ⟨by decide, rfl⟩ (gd_of (i := 391) (by decide +kernel) rfl) ⟨Nat.le_of_ble_eq_true rfl, Nat.le_of_ble_eq_true rfl⟩, List.forall_mem_cons.mpr ⟨clk_V X (vX10_clear l) nX10_clear sX10_clear ⟨by decide, rfl⟩ (gd_of (i := 427) (by decide +kernel) rfl) ⟨Nat.le_of_ble_eq_true rfl, Nat.le_of_ble_eq_true rfl⟩, List.forall_mem_cons.mpr ⟨clk_V X (vX11_startAnew l) nX11_startAnew sX11_startAnew ⟨by decide, rfl⟩ (gd_of (i := 431) (by decide +kernel) rfl) ⟨Nat.le_of_ble_eq_true rfl, Nat.le_of_ble_eq_true rfl⟩, fun _ h => absurd h List.not_mem_nil⟩⟩⟩)
theorem nX11_fault : MNO yX11_fault cX11_fault 1 (some .int) 0 := ⟨gd_of (i := 507) (by decide +kernel) rfl, gd_of (i := 68) (by decide +kernel) rfl, by decide +kernel, by decide +kernel⟩
theorem sX11_fault : Cond.instanceMethod yX11_fault ∈ gdW ∧ Cond.selects yX11_fault.cls yX11_fault yX11_fault ∈ gdW := ⟨gd_of (i := 505) (by decide +kernel) rfl, gd_of (i := 506) (by decide +kernel) rfl⟩
theorem kX11_fault : MCK yX11_fault.cls cX11_fault mX11_fault false := ⟨by unfold dchk; decide +kernel, [337], [], [], [], by decide +kernel, by decide +kernel, by decide +kernel, by decide +kernel⟩
theorem vX11_fault (l : Launch) : MetM l yX11_fault cX11_fault 1 (some .int) 0 0 0 0 fX11_fault := metM_of false nX11_fault rfl kX11_fault (fun h => by cases h) cokg (fun p e s m args below meth c D aC A ad0 N0 X => fun _ h => absurd h List.not_mem_nil)
theorem nX11_readingsNow : MNO yX11_readingsNow cX11_readingsNow 1 (some (.object "FenceWays$ReadingList")) 0 := ⟨gd_of (i := 522) (by decide +kernel) rfl, gd_of (i := 68) (by decide +kernel) rfl, by decide +kernel, by decide +kernel⟩
theorem sX11_readingsNow : Cond.instanceMethod yX11_readingsNow ∈ gdW ∧ Cond.selects yX11_readingsNow.cls yX11_readingsNow yX11_readingsNow ∈ gdW := ⟨gd_of (i := 521) (by decide +kernel) rfl, gd_of (i := 10) (by decide +kernel) rfl⟩
theorem kX11_readingsNow : MCK yX11_readingsNow.cls cX11_readingsNow mX11_readingsNow false := ⟨by unfold dchk; decide +kernel, [321, 325, 329, 330, 332, 333, 334, 209, 207], [], [], [], by decide +kernel, by decide +kernel, by decide +kernel, by decide +kernel⟩
theorem vX11_readingsNow (l : Launch) : MetM l yX11_readingsNow cX11_readingsNow 1 (some (.object "FenceWays$ReadingList")) 5 123 0 0 fX11_readingsNow := metM_of false nX11_readingsNow ⟨_, rfl⟩ kX11_readingsNow (fun h => by cases h) cokg (fun p e s m args below meth c D aC A ad0 N0 X => List.forall_mem_cons.mpr ⟨clk_V X (vX4_findReadings l) nX4_findReadings sX4_findReadings ⟨by decide, rfl⟩ (gd_of (i := 523) (by decide +kernel) rfl) ⟨Nat.le_of_ble_eq_true rfl, Nat.le_of_ble_eq_true rfl⟩, fun _ h => absurd h List.not_mem_nil⟩)
end
section
/-! more contracts (by program) -/
theorem nX11_strictNow : MNO yX11_strictNow cX11_strictNow 1 (some (.object "FenceWays$ReadingList")) 0 := ⟨gd_of (i := 598) (by decide +kernel) rfl, gd_of (i := 68) (by decide +kernel) rfl, by decide +kernel, by decide +kernel⟩
theorem sX11_strictNow : Cond.instanceMethod yX11_strictNow ∈ gdW ∧ Cond.selects yX11_strictNow.cls yX11_strictNow yX11_strictNow ∈ gdW := ⟨gd_of (i := 597) (by decide +kernel) rfl, gd_of (i := 19) (by decide +kernel) rfl⟩
theorem kX11_strictNow : MCK yX11_strictNow.cls cX11_strictNow mX11_strictNow false := ⟨by unfold dchk; decide +kernel, [321, 329, 331, 335], [], [], [], by decide +kernel, by decide +kernel, by decide +kernel, by decide +kernel⟩
theorem vX11_strictNow (l : Launch) : MetM l yX11_strictNow cX11_strictNow 1 (some (.object "FenceWays$ReadingList")) 5 123 0 0 fX11_strictNow := metM_of false nX11_strictNow ⟨_, rfl⟩ kX11_strictNow (fun h => by cases h) cokg (fun p e s m args below meth c D aC A ad0 N0 X => List.forall_mem_cons.mpr ⟨clk_V X (vX4_findReadings l) nX4_findReadings sX4_findReadings ⟨by decide, rfl⟩ (gd_of (i := 523) (by decide +kernel) rfl) ⟨Nat.le_of_ble_eq_true rfl, Nat.le_of_ble_eq_true rfl⟩, fun _ h => absurd h List.not_mem_nil⟩)
theorem nX11_looseNow : MNO yX11_looseNow cX11_looseNow 1 (some (.object "FenceWays$LoosePairs")) 0 := ⟨gd_of (i := 610) (by decide +kernel) rfl, gd_of (i := 68) (by decide +kernel) rfl, by decide +kernel, by decide +kernel⟩
theorem sX11_looseNow : Cond.instanceMethod yX11_looseNow ∈ gdW ∧ Cond.selects yX11_looseNow.cls yX11_looseNow yX11_looseNow ∈ gdW := ⟨gd_of (i := 609) (by decide +kernel) rfl, gd_of (i := 20) (by decide +kernel) rfl⟩
theorem kX11_looseNow : MCK yX11_looseNow.cls cX11_looseNow mX11_looseNow false := ⟨by unfold dchk; decide +kernel, [321, 323, 324, 325, 209], [], [], [], by decide +kernel, by decide +kernel, by decide +kernel, by decide +kernel⟩
theorem vX11_looseNow (l : Launch) : MetM l yX11_looseNow cX11_looseNow 1 (some (.object "FenceWays$LoosePairs")) 4 91 0 0 fX11_looseNow := metM_of false nX11_looseNow ⟨_, rfl⟩ kX11_looseNow (fun h => by cases h) cokg (fun p e s m args below meth c D aC A ad0 N0 X => List.forall_mem_cons.mpr ⟨clk_V X (vX3_gather l) nX3_gather sX3_gather ⟨by decide, rfl⟩ (gd_of (i := 611) (by decide +kernel) rfl) ⟨Nat.le_of_ble_eq_true rfl, Nat.le_of_ble_eq_true rfl⟩, fun _ h => absurd h List.not_mem_nil⟩)
theorem nX11_bestSet : MNO yX11_bestSet cX11_bestSet 1 (some .int) 0 := ⟨gd_of (i := 641) (by decide +kernel) rfl, gd_of (i := 68) (by decide +kernel) rfl, by decide +kernel, by decide +kernel⟩
theorem sX11_bestSet : Cond.instanceMethod yX11_bestSet ∈ gdW ∧ Cond.selects yX11_bestSet.cls yX11_bestSet yX11_bestSet ∈ gdW := ⟨gd_of (i := 640) (by decide +kernel) rfl, gd_of (i := 23) (by decide +kernel) rfl⟩
theorem kX11_bestSet : MCK yX11_bestSet.cls cX11_bestSet mX11_bestSet false := ⟨by unfold dchk; decide +kernel, [321, 325, 144], [], [], [], by decide +kernel, by decide +kernel, by decide +kernel, by decide +kernel⟩
theorem vX11_bestSet (l : Launch) : MetM l yX11_bestSet cX11_bestSet 1 (some .int) 5 111 0 0 fX11_bestSet := metM_of false nX11_bestSet rfl kX11_bestSet (fun h => by cases h) cokg (fun p e s m args below meth c D aC A ad0 N0 X => List.forall_mem_cons.mpr ⟨clk_V X (vX11_looseNow l) nX11_looseNow sX11_looseNow ⟨by decide, rfl⟩ (gd_of (i := 607) (by decide +kernel) rfl) ⟨Nat.le_of_ble_eq_true rfl, Nat.le_of_ble_eq_true rfl⟩, List.forall_mem_cons.mpr ⟨clk_V X (vX3_cheapestSet l) nX3_cheapestSet sX3_cheapestSet ⟨by decide, rfl⟩ (gd_of (i := 642) (by decide +kernel) rfl) ⟨Nat.le_of_ble_eq_true rfl, Nat.le_of_ble_eq_true rfl⟩, fun _ h => absurd h List.not_mem_nil⟩⟩)
theorem nX11_told : MNO yX11_told cX11_told 2 (some .int) 1 := ⟨gd_of (i := 511) (by decide +kernel) rfl, gd_of (i := 68) (by decide +kernel) rfl, by decide +kernel, by decide +kernel⟩
theorem sX11_told : Cond.instanceMethod yX11_told ∈ gdW ∧ Cond.selects yX11_told.cls yX11_told yX11_told ∈ gdW := ⟨gd_of (i := 509) (by decide +kernel) rfl, gd_of (i := 510) (by decide +kernel) rfl⟩
theorem kX11_told : MCK yX11_told.cls cX11_told mX11_told false := ⟨by unfold dchk; decide +kernel, [319, 321, 323, 325, 326, 328, 101, 139, 135, 209, 207, 313, 168, 186, 268, 229], [], [381], [], by decide +kernel, by decide +kernel, by decide +kernel, by decide +kernel⟩
theorem vX11_told (l : Launch) : MetM l yX11_told cX11_told 2 (some .int) 6 143 0 0 fX11_told := metM_of false nX11_told rfl kX11_told (fun h => by cases h) cokg (fun p e s m args below meth c D aC A ad0 N0 X => List.forall_mem_cons.mpr ⟨clk_V X (vX9_costOfSet l) nX9_costOfSet sX9_costOfSet ⟨by decide, rfl⟩ (gd_of (i := 512) (by decide +kernel) rfl) ⟨Nat.le_of_ble_eq_true rfl, Nat.le_of_ble_eq_true rfl⟩, List.forall_mem_cons.mpr ⟨clk_V X (vX11_readingsNow l) nX11_readingsNow sX11_readingsNow ⟨by decide, rfl⟩ (gd_of (i := 519) (by decide +kernel) rfl) ⟨Nat.le_of_ble_eq_true rfl, Nat.le_of_ble_eq_true rfl⟩, List.forall_mem_cons.mpr ⟨clk_V X (vX11_strictNow l) nX11_strictNow sX11_strictNow ⟨by decide, rfl⟩ (gd_of (i := 595) (by decide +kernel) rfl) ⟨Nat.le_of_ble_eq_true rfl, Nat.le_of_ble_eq_true rfl⟩, List.forall_mem_cons.mpr ⟨clk_V X (vX7_countWithout l) nX7_countWithout sX7_countWithout ⟨by decide, rfl⟩ (gd_of (i := 599) (by decide +kernel) rfl) ⟨Nat.le_of_ble_eq_true rfl, Nat.le_of_ble_eq_true rfl⟩, List.forall_mem_cons.mpr ⟨clk_V X (vX11_looseNow l) nX11_looseNow sX11_looseNow ⟨by decide, rfl⟩ (gd_of (i := 607) (by decide +kernel) rfl) ⟨Nat.le_of_ble_eq_true rfl, Nat.le_of_ble_eq_true rfl⟩, List.forall_mem_cons.mpr ⟨clk_V X (vX3_countHeld l) nX3_countHeld sX3_countHeld ⟨by decide, rfl⟩ (gd_of (i := 625) (by decide +kernel) rfl) ⟨Nat.le_of_ble_eq_true rfl, Nat.le_of_ble_eq_true rfl⟩, List.forall_mem_cons.mpr ⟨clk_V X (vX3_areAllHeld l) nX3_areAllHeld sX3_areAllHeld ⟨by decide, rfl⟩ (gd_of (i := 633) (by decide +kernel) rfl) ⟨Nat.le_of_ble_eq_true rfl, Nat.le_of_ble_eq_true rfl⟩, List.forall_mem_cons.mpr ⟨clk_V X (vX11_bestSet l) nX11_bestSet sX11_bestSet ⟨by decide, rfl⟩ (gd_of (i := 638) (by decide +kernel) rfl) ⟨Nat.le_of_ble_eq_true rfl, Nat.le_of_ble_eq_true rfl⟩, List.forall_mem_cons.mpr ⟨clk_V X (vX3_neededOf l) nX3_neededOf sX3_neededOf ⟨by decide, rfl⟩ (gd_of (i := 648) (by decide +kernel) rfl) ⟨Nat.le_of_ble_eq_true rfl, Nat.le_of_ble_eq_true rfl⟩, List.forall_mem_cons.mpr ⟨clk_V X (vX0_firstWrong l) nX0_firstWrong sX0_firstWrong ⟨by decide, rfl⟩ (gd_of (i := 658) (by decide +kernel) rfl) ⟨Nat.le_of_ble_eq_true rfl, Nat.le_of_ble_eq_true rfl⟩, fun _ h => absurd h List.not_mem_nil⟩⟩⟩⟩⟩⟩⟩⟩⟩⟩)
theorem nX11_step : MNO yX11_step cX11_step 3 (some .int) 2 := ⟨gd_of (i := 667) (by decide +kernel) rfl, gd_of (i := 68) (by decide +kernel) rfl, by decide +kernel, by decide +kernel⟩
theorem sX11_step : Cond.instanceMethod yX11_step ∈ gdW ∧ Cond.selects yX11_step.cls yX11_step yX11_step ∈ gdW := ⟨gd_of (i := 665) (by decide +kernel) rfl, gd_of (i := 666) (by decide +kernel) rfl⟩
theorem kX11_step : MCK yX11_step.cls cX11_step mX11_step false := ⟨by unfold dchk; decide +kernel, [321, 325, 209, 207], [], [381, 669], [], by decide +kernel, by decide +kernel, by decide +kernel, by decide +kernel⟩
theorem vX11_step (l : Launch) : MetM l yX11_step cX11_step 3 (some .int) 5 111 0 0 fX11_step := metM_of false nX11_step rfl kX11_step (fun h => by cases h) cokg (fun p e s m args below meth c D aC A ad0 N0 X => List.forall_mem_cons.mpr ⟨clk_V X (vX11_looseNow l) nX11_looseNow sX11_looseNow ⟨by decide, rfl⟩ (gd_of (i := 607) (by decide +kernel) rfl) ⟨Nat.le_of_ble_eq_true rfl, Nat.le_of_ble_eq_true rfl⟩, List.forall_mem_cons.mpr ⟨clk_V X (vX3_countHeld l) nX3_countHeld sX3_countHeld ⟨by decide, rfl⟩ (gd_of (i := 625) (by decide +kernel) rfl) ⟨Nat.le_of_ble_eq_true rfl, Nat.le_of_ble_eq_true rfl⟩, List.forall_mem_cons.mpr ⟨clk_V X (vX6_hasStep l) nX6_hasStep sX6_hasStep ⟨by decide, rfl⟩ (gd_of (i := 668) (by decide +kernel) rfl) ⟨Nat.le_of_ble_eq_true rfl, Nat.le_of_ble_eq_true rfl⟩, List.forall_mem_cons.mpr ⟨clk_V X (vX6_threadOf l) nX6_threadOf sX6_threadOf ⟨by decide, rfl⟩ (gd_of (i := 670) (by decide +kernel) rfl) ⟨Nat.le_of_ble_eq_true rfl, Nat.le_of_ble_eq_true rfl⟩, List.forall_mem_cons.mpr ⟨clk_V X (vX6_cellOf l) nX6_cellOf sX6_cellOf ⟨by decide, rfl⟩ (gd_of (i := 671) (by decide +kernel) rfl) ⟨Nat.le_of_ble_eq_true rfl, Nat.le_of_ble_eq_true rfl⟩, List.forall_mem_cons.mpr ⟨clk_V X (vX6_isWriter l) nX6_isWriter sX6_isWriter ⟨by decide, rfl⟩ (gd_of (i := 672) (by decide +kernel) rfl) ⟨Nat.le_of_ble_eq_true rfl, Nat.le_of_ble_eq_true rfl⟩, List.forall_mem_cons.mpr ⟨clk_V X (vX6_hasGap l) nX6_hasGap sX6_hasGap ⟨by decide, rfl⟩ (gd_of (i := 673) (by decide +kernel) rfl) ⟨Nat.le_of_ble_eq_true rfl, Nat.le_of_ble_eq_true rfl⟩, List.forall_mem_cons.mpr ⟨clk_V X (vX9_costOf l) nX9_costOf sX9_costOf ⟨by decide, rfl⟩ (gd_of (i := 678) (by decide +kernel) rfl) ⟨Nat.le_of_ble_eq_true rfl, Nat.le_of_ble_eq_true rfl⟩, List.forall_mem_cons.mpr ⟨clk_V X (vX6_waitsOf l) nX6_waitsOf sX6_waitsOf ⟨by decide, rfl⟩ (gd_of (i := 682) (by decide +kernel) rfl) ⟨Nat.le_of_ble_eq_true rfl, Nat.le_of_ble_eq_true rfl⟩, List.forall_mem_cons.mpr ⟨clk_V X (vX6_conflictsOf l) nX6_conflictsOf sX6_conflictsOf ⟨by decide, rfl⟩ (gd_of (i := 683) (by decide +kernel) rfl) ⟨Nat.le_of_ble_eq_true rfl, Nat.le_of_ble_eq_true rfl⟩, fun _ h => absurd h List.not_mem_nil⟩⟩⟩⟩⟩⟩⟩⟩⟩⟩)
theorem nX11_pair : MNO yX11_pair cX11_pair 5 (some .int) 3 := ⟨gd_of (i := 691) (by decide +kernel) rfl, gd_of (i := 68) (by decide +kernel) rfl, by decide +kernel, by decide +kernel⟩
theorem sX11_pair : Cond.instanceMethod yX11_pair ∈ gdW ∧ Cond.selects yX11_pair.cls yX11_pair yX11_pair ∈ gdW := ⟨gd_of (i := 689) (by decide +kernel) rfl, gd_of (i := 690) (by decide +kernel) rfl⟩
theorem kX11_pair : MCK yX11_pair.cls cX11_pair mX11_pair false := ⟨by unfold dchk; decide +kernel, [321, 323, 325, 209, 207], [], [381, 669, 693], [], by decide +kernel, by decide +kernel, by decide +kernel, by decide +kernel⟩
theorem vX11_pair (l : Launch) : MetM l yX11_pair cX11_pair 5 (some .int) 3 66 0 0 fX11_pair := metM_of false nX11_pair rfl kX11_pair (fun h => by cases h) cokg (fun p e s m args below meth c D aC A ad0 N0 X => List.forall_mem_cons.mpr ⟨clk_V X (vX6_hasStep l) nX6_hasStep sX6_hasStep ⟨by decide, rfl⟩ (gd_of (i := 668) (by decide +kernel) rfl) ⟨Nat.le_of_ble_eq_true rfl, Nat.le_of_ble_eq_true rfl⟩, List.forall_mem_cons.mpr ⟨clk_V X (vX6_isAhead l) nX6_isAhead sX6_isAhead ⟨by decide, rfl⟩ (gd_of (i := 692) (by decide +kernel) rfl) ⟨Nat.le_of_ble_eq_true rfl, Nat.le_of_ble_eq_true rfl⟩, List.forall_mem_cons.mpr ⟨clk_V X (vX8_countWith l) nX8_countWith sX8_countWith ⟨by decide, rfl⟩ (gd_of (i := 694) (by decide +kernel) rfl) ⟨Nat.le_of_ble_eq_true rfl, Nat.le_of_ble_eq_true rfl⟩, List.forall_mem_cons.mpr ⟨clk_V X (vX6_mayOvertake l) nX6_mayOvertake sX6_mayOvertake ⟨by decide, rfl⟩ (gd_of (i := 695) (by decide +kernel) rfl) ⟨Nat.le_of_ble_eq_true rfl, Nat.le_of_ble_eq_true rfl⟩, List.forall_mem_cons.mpr ⟨clk_S X (vX11_gapsBetween l) nX11_gapsBetween sX11_gapsBetween (gd_of (i := 696) (by decide +kernel) rfl) ⟨Nat.le_of_ble_eq_true rfl, Nat.le_of_ble_eq_true rfl⟩, fun _ h => absurd h List.not_mem_nil⟩⟩⟩⟩⟩)
theorem nX11_reading : MNO yX11_reading cX11_reading 3 (some .int) 2 := ⟨gd_of (i := 700) (by decide +kernel) rfl, gd_of (i := 68) (by decide +kernel) rfl, by decide +kernel, by decide +kernel⟩
theorem sX11_reading : Cond.instanceMethod yX11_reading ∈ gdW ∧ Cond.selects yX11_reading.cls yX11_reading yX11_reading ∈ gdW := ⟨gd_of (i := 698) (by decide +kernel) rfl, gd_of (i := 699) (by decide +kernel) rfl⟩
theorem kX11_reading : MCK yX11_reading.cls cX11_reading mX11_reading false := ⟨by unfold dchk; decide +kernel, [], [], [381], [], by decide +kernel, by decide +kernel, by decide +kernel, by decide +kernel⟩
theorem vX11_reading (l : Launch) : MetM l yX11_reading cX11_reading 3 (some .int) 6 143 0 0 fX11_reading := metM_of false nX11_reading rfl kX11_reading (fun h => by cases h) cokg (fun p e s m args below meth c D aC A ad0 N0 X => List.forall_mem_cons.mpr ⟨clk_V X (vX11_readingsNow l) nX11_readingsNow sX11_readingsNow ⟨by decide, rfl⟩ (gd_of (i := 519) (by decide +kernel) rfl) ⟨Nat.le_of_ble_eq_true rfl, Nat.le_of_ble_eq_true rfl⟩, List.forall_mem_cons.mpr ⟨clk_V X (vX11_strictNow l) nX11_strictNow sX11_strictNow ⟨by decide, rfl⟩ (gd_of (i := 595) (by decide +kernel) rfl) ⟨Nat.le_of_ble_eq_true rfl, Nat.le_of_ble_eq_true rfl⟩, List.forall_mem_cons.mpr ⟨clk_V X (vX7_at l) nX7_at sX7_at ⟨by decide, rfl⟩ (gd_of (i := 701) (by decide +kernel) rfl) ⟨Nat.le_of_ble_eq_true rfl, Nat.le_of_ble_eq_true rfl⟩, List.forall_mem_cons.mpr ⟨clk_V X (vX7_atWithout l) nX7_atWithout sX7_atWithout ⟨by decide, rfl⟩ (gd_of (i := 702) (by decide +kernel) rfl) ⟨Nat.le_of_ble_eq_true rfl, Nat.le_of_ble_eq_true rfl⟩, fun _ h => absurd h List.not_mem_nil⟩⟩⟩⟩)
theorem nX11_can : MNO yX11_can cX11_can 2 (some .int) 1 := ⟨gd_of (i := 709) (by decide +kernel) rfl, gd_of (i := 68) (by decide +kernel) rfl, by decide +kernel, by decide +kernel⟩
theorem sX11_can : Cond.instanceMethod yX11_can ∈ gdW ∧ Cond.selects yX11_can.cls yX11_can yX11_can ∈ gdW := ⟨gd_of (i := 707) (by decide +kernel) rfl, gd_of (i := 708) (by decide +kernel) rfl⟩
theorem kX11_can : MCK yX11_can.cls cX11_can mX11_can false := ⟨by unfold dchk; decide +kernel, [], [], [], [], by decide +kernel, by decide +kernel, by decide +kernel, by decide +kernel⟩
theorem vX11_can (l : Launch) : MetM l yX11_can cX11_can 2 (some .int) 6 143 0 0 fX11_can := metM_of false nX11_can rfl kX11_can (fun h => by cases h) cokg (fun p e s m args below meth c D aC A ad0 N0 X => List.forall_mem_cons.mpr ⟨clk_V X (vX11_readingsNow l) nX11_readingsNow sX11_readingsNow ⟨by decide, rfl⟩ (gd_of (i := 519) (by decide +kernel) rfl) ⟨Nat.le_of_ble_eq_true rfl, Nat.le_of_ble_eq_true rfl⟩, List.forall_mem_cons.mpr ⟨clk_V X (vX11_strictNow l) nX11_strictNow sX11_strictNow ⟨by decide, rfl⟩ (gd_of (i := 595) (by decide +kernel) rfl) ⟨Nat.le_of_ble_eq_true rfl, Nat.le_of_ble_eq_true rfl⟩, List.forall_mem_cons.mpr ⟨clk_V X (vX7_holds l) nX7_holds sX7_holds ⟨by decide, rfl⟩ (gd_of (i := 710) (by decide +kernel) rfl) ⟨Nat.le_of_ble_eq_true rfl, Nat.le_of_ble_eq_true rfl⟩, fun _ h => absurd h List.not_mem_nil⟩⟩⟩)
theorem nX11_fence : MNO yX11_fence cX11_fence 3 (some .int) 2 := ⟨gd_of (i := 714) (by decide +kernel) rfl, gd_of (i := 68) (by decide +kernel) rfl, by decide +kernel, by decide +kernel⟩
theorem sX11_fence : Cond.instanceMethod yX11_fence ∈ gdW ∧ Cond.selects yX11_fence.cls yX11_fence yX11_fence ∈ gdW := ⟨gd_of (i := 712) (by decide +kernel) rfl, gd_of (i := 713) (by decide +kernel) rfl⟩
theorem kX11_fence : MCK yX11_fence.cls cX11_fence mX11_fence false := ⟨by unfold dchk; decide +kernel, [321, 325, 326, 207], [], [669], [], by decide +kernel, by decide +kernel, by decide +kernel, by decide +kernel⟩
theorem vX11_fence (l : Launch) : MetM l yX11_fence cX11_fence 3 (some .int) 3 65 0 0 fX11_fence := metM_of false nX11_fence rfl kX11_fence (fun h => by cases h) cokg (fun p e s m args below meth c D aC A ad0 N0 X => List.forall_mem_cons.mpr ⟨clk_V X (vX9_costOfSet l) nX9_costOfSet sX9_costOfSet ⟨by decide, rfl⟩ (gd_of (i := 512) (by decide +kernel) rfl) ⟨Nat.le_of_ble_eq_true rfl, Nat.le_of_ble_eq_true rfl⟩, List.forall_mem_cons.mpr ⟨clk_V X (vX6_hasGap l) nX6_hasGap sX6_hasGap ⟨by decide, rfl⟩ (gd_of (i := 673) (by decide +kernel) rfl) ⟨Nat.le_of_ble_eq_true rfl, Nat.le_of_ble_eq_true rfl⟩, List.forall_mem_cons.mpr ⟨clk_V X (vX1_add l) nX1_add sX1_add ⟨by decide, rfl⟩ (gd_of (i := 715) (by decide +kernel) rfl) ⟨Nat.le_of_ble_eq_true rfl, Nat.le_of_ble_eq_true rfl⟩, List.forall_mem_cons.mpr ⟨clk_V X (vX9_setFence l) nX9_setFence sX9_setFence ⟨by decide, rfl⟩ (gd_of (i := 731) (by decide +kernel) rfl) ⟨Nat.le_of_ble_eq_true rfl, Nat.le_of_ble_eq_true rfl⟩, fun _ h => absurd h List.not_mem_nil⟩⟩⟩⟩)
theorem nX11_cost : MNO yX11_cost cX11_cost 4 (some .int) 2 := ⟨gd_of (i := 738) (by decide +kernel) rfl, gd_of (i := 68) (by decide +kernel) rfl, by decide +kernel, by decide +kernel⟩
theorem sX11_cost : Cond.instanceMethod yX11_cost ∈ gdW ∧ Cond.selects yX11_cost.cls yX11_cost yX11_cost ∈ gdW := ⟨gd_of (i := 736) (by decide +kernel) rfl, gd_of (i := 737) (by decide +kernel) rfl⟩
theorem kX11_cost : MCK yX11_cost.cls cX11_cost mX11_cost false := ⟨by unfold dchk; decide +kernel, [321, 325, 326], [], [381, 669], [], by decide +kernel, by decide +kernel, by decide +kernel, by decide +kernel⟩
theorem vX11_cost (l : Launch) : MetM l yX11_cost cX11_cost 4 (some .int) 3 65 0 0 fX11_cost := metM_of false nX11_cost rfl kX11_cost (fun h => by cases h) cokg (fun p e s m args below meth c D aC A ad0 N0 X => List.forall_mem_cons.mpr ⟨clk_V X (vX6_hasGap l) nX6_hasGap sX6_hasGap ⟨by decide, rfl⟩ (gd_of (i := 673) (by decide +kernel) rfl) ⟨Nat.le_of_ble_eq_true rfl, Nat.le_of_ble_eq_true rfl⟩, List.forall_mem_cons.mpr ⟨clk_V X (vX9_costOf l) nX9_costOf sX9_costOf ⟨by decide, rfl⟩ (gd_of (i := 678) (by decide +kernel) rfl) ⟨Nat.le_of_ble_eq_true rfl, Nat.le_of_ble_eq_true rfl⟩, List.forall_mem_cons.mpr ⟨clk_V X (vX1_add l) nX1_add sX1_add ⟨by decide, rfl⟩ (gd_of (i := 715) (by decide +kernel) rfl) ⟨Nat.le_of_ble_eq_true rfl, Nat.le_of_ble_eq_true rfl⟩, List.forall_mem_cons.mpr ⟨clk_V X (vX9_setCost l) nX9_setCost sX9_setCost ⟨by decide, rfl⟩ (gd_of (i := 739) (by decide +kernel) rfl) ⟨Nat.le_of_ble_eq_true rfl, Nat.le_of_ble_eq_true rfl⟩, fun _ h => absurd h List.not_mem_nil⟩⟩⟩⟩)
theorem nX11_overtaking : MNO yX11_overtaking cX11_overtaking 2 (some .int) 1 := ⟨gd_of (i := 746) (by decide +kernel) rfl, gd_of (i := 68) (by decide +kernel) rfl, by decide +kernel, by decide +kernel⟩
theorem sX11_overtaking : Cond.instanceMethod yX11_overtaking ∈ gdW ∧ Cond.selects yX11_overtaking.cls yX11_overtaking yX11_overtaking ∈ gdW := ⟨gd_of (i := 744) (by decide +kernel) rfl, gd_of (i := 745) (by decide +kernel) rfl⟩
theorem kX11_overtaking : MCK yX11_overtaking.cls cX11_overtaking mX11_overtaking false := ⟨by unfold dchk; decide +kernel, [325, 326, 209, 313], [], [381], [], by decide +kernel, by decide +kernel, by decide +kernel, by decide +kernel⟩
theorem vX11_overtaking (l : Launch) : MetM l yX11_overtaking cX11_overtaking 2 (some .int) 6 143 0 0 fX11_overtaking := metM_of false nX11_overtaking rfl kX11_overtaking (fun h => by cases h) cokg (fun p e s m args below meth c D aC A ad0 N0 X => List.forall_mem_cons.mpr ⟨clk_V X (vX11_readingsNow l) nX11_readingsNow sX11_readingsNow ⟨by decide, rfl⟩ (gd_of (i := 519) (by decide +kernel) rfl) ⟨Nat.le_of_ble_eq_true rfl, Nat.le_of_ble_eq_true rfl⟩, List.forall_mem_cons.mpr ⟨clk_V X (vX1_add l) nX1_add sX1_add ⟨by decide, rfl⟩ (gd_of (i := 715) (by decide +kernel) rfl) ⟨Nat.le_of_ble_eq_true rfl, Nat.le_of_ble_eq_true rfl⟩, fun _ h => absurd h List.not_mem_nil⟩⟩)
theorem nX11_best : MNO yX11_best cX11_best 2 (some .int) 0 := ⟨gd_of (i := 750) (by decide +kernel) rfl, gd_of (i := 68) (by decide +kernel) rfl, by decide +kernel, by decide +kernel⟩
theorem sX11_best : Cond.instanceMethod yX11_best ∈ gdW ∧ Cond.selects yX11_best.cls yX11_best yX11_best ∈ gdW := ⟨gd_of (i := 748) (by decide +kernel) rfl, gd_of (i := 749) (by decide +kernel) rfl⟩
theorem kX11_best : MCK yX11_best.cls cX11_best mX11_best false := ⟨by unfold dchk; decide +kernel, [325, 326, 207], [], [], [], by decide +kernel, by decide +kernel, by decide +kernel, by decide +kernel⟩
theorem vX11_best (l : Launch) : MetM l yX11_best cX11_best 2 (some .int) 6 131 0 0 fX11_best := metM_of false nX11_best rfl kX11_best (fun h => by cases h) cokg (fun p e s m args below meth c D aC A ad0 N0 X => List.forall_mem_cons.mpr ⟨clk_V X (vX9_costOfSet l) nX9_costOfSet sX9_costOfSet ⟨by decide, rfl⟩ (gd_of (i := 512) (by decide +kernel) rfl) ⟨Nat.le_of_ble_eq_true rfl, Nat.le_of_ble_eq_true rfl⟩, List.forall_mem_cons.mpr ⟨clk_V X (vX11_bestSet l) nX11_bestSet sX11_bestSet ⟨by decide, rfl⟩ (gd_of (i := 638) (by decide +kernel) rfl) ⟨Nat.le_of_ble_eq_true rfl, Nat.le_of_ble_eq_true rfl⟩, List.forall_mem_cons.mpr ⟨clk_V X (vX1_add l) nX1_add sX1_add ⟨by decide, rfl⟩ (gd_of (i := 715) (by decide +kernel) rfl) ⟨Nat.le_of_ble_eq_true rfl, Nat.le_of_ble_eq_true rfl⟩, fun _ h => absurd h List.not_mem_nil⟩⟩⟩)
theorem nX11_draw : MNO yX11_draw cX11_draw 2 (some .int) 1 := ⟨gd_of (i := 762) (by decide +kernel) rfl, gd_of (i := 68) (by decide +kernel) rfl, by decide +kernel, by decide +kernel⟩
theorem sX11_draw : Cond.instanceMethod yX11_draw ∈ gdW ∧ Cond.selects yX11_draw.cls yX11_draw yX11_draw ∈ gdW := ⟨gd_of (i := 761) (by decide +kernel) rfl, gd_of (i := 26) (by decide +kernel) rfl⟩
theorem kX11_draw : MCK yX11_draw.cls cX11_draw mX11_draw false := ⟨by unfold dchk; decide +kernel, [336], [], [763, 764, 765], [], by decide +kernel, by decide +kernel, by decide +kernel, by decide +kernel⟩
theorem vX11_draw (l : Launch) : MetM l yX11_draw cX11_draw 2 (some .int) 0 0 0 0 fX11_draw := metM_of false nX11_draw rfl kX11_draw (fun h => by cases h) cokg (fun p e s m args below meth c D aC A ad0 N0 X => fun _ h => absurd h List.not_mem_nil)
theorem nX11_driftOnce : MNO yX11_driftOnce cX11_driftOnce 5 none 0 := ⟨gd_of (i := 758) (by decide +kernel) rfl, gd_of (i := 68) (by decide +kernel) rfl, by decide +kernel, by decide +kernel⟩
theorem sX11_driftOnce : Cond.instanceMethod yX11_driftOnce ∈ gdW ∧ Cond.selects yX11_driftOnce.cls yX11_driftOnce yX11_driftOnce ∈ gdW := ⟨gd_of (i := 757) (by decide +kernel) rfl, gd_of (i := 25) (by decide +kernel) rfl⟩
theorem kX11_driftOnce : MCK yX11_driftOnce.cls cX11_driftOnce mX11_driftOnce false := ⟨by unfold dchk; decide +kernel, [321, 325, 326, 139, 209, 207], [], [], [], by decide +kernel, by decide +kernel, by decide +kernel, by decide +kernel⟩
theorem vX11_driftOnce (l : Launch) : MetM l yX11_driftOnce cX11_driftOnce 5 none 3 65 0 0 fX11_driftOnce := metM_of false nX11_driftOnce rfl kX11_driftOnce (fun h => by cases h) cokg (fun p e s m args below meth c D aC A ad0 N0 X => List.forall_mem_cons.mpr ⟨clk_V X (vX6_hasGap l) nX6_hasGap sX6_hasGap ⟨by decide, rfl⟩ (gd_of (i := 673) (by decide +kernel) rfl) ⟨Nat.le_of_ble_eq_true rfl, Nat.le_of_ble_eq_true rfl⟩, List.forall_mem_cons.mpr ⟨clk_V X (vX1_add l) nX1_add sX1_add ⟨by decide, rfl⟩ (gd_of (i := 715) (by decide +kernel) rfl) ⟨Nat.le_of_ble_eq_true rfl, Nat.le_of_ble_eq_true rfl⟩, List.forall_mem_cons.mpr ⟨clk_V X (vX9_setFence l) nX9_setFence sX9_setFence ⟨by decide, rfl⟩ (gd_of (i := 731) (by decide +kernel) rfl) ⟨Nat.le_of_ble_eq_true rfl, Nat.le_of_ble_eq_true rfl⟩, List.forall_mem_cons.mpr ⟨clk_V X (vX9_setCost l) nX9_setCost sX9_setCost ⟨by decide, rfl⟩ (gd_of (i := 739) (by decide +kernel) rfl) ⟨Nat.le_of_ble_eq_true rfl, Nat.le_of_ble_eq_true rfl⟩, List.forall_mem_cons.mpr ⟨clk_V X (vX11_draw l) nX11_draw sX11_draw ⟨by decide, rfl⟩ (gd_of (i := 759) (by decide +kernel) rfl) ⟨Nat.le_of_ble_eq_true rfl, Nat.le_of_ble_eq_true rfl⟩, List.forall_mem_cons.mpr ⟨clk_S X (vX11_has l) nX11_has sX11_has (gd_of (i := 766) (by decide +kernel) rfl) ⟨Nat.le_of_ble_eq_true rfl, Nat.le_of_ble_eq_true rfl⟩, fun _ h => absurd h List.not_mem_nil⟩⟩⟩⟩⟩⟩)
theorem nX11_drift : MNO yX11_drift cX11_drift 3 (some .int) 1 := ⟨gd_of (i := 754) (by decide +kernel) rfl, gd_of (i := 68) (by decide +kernel) rfl, by decide +kernel, by decide +kernel⟩
theorem sX11_drift : Cond.instanceMethod yX11_drift ∈ gdW ∧ Cond.selects yX11_drift.cls yX11_drift yX11_drift ∈ gdW := ⟨gd_of (i := 752) (by decide +kernel) rfl, gd_of (i := 753) (by decide +kernel) rfl⟩
theorem kX11_drift : MCK yX11_drift.cls cX11_drift mX11_drift false := ⟨by unfold dchk; decide +kernel, [321, 325, 139, 207], [], [381], [], by decide +kernel, by decide +kernel, by decide +kernel, by decide +kernel⟩
theorem vX11_drift (l : Launch) : MetM l yX11_drift cX11_drift 3 (some .int) 4 89 0 0 fX11_drift := metM_of false nX11_drift rfl kX11_drift (fun h => by cases h) cokg (fun p e s m args below meth c D aC A ad0 N0 X => List.forall_mem_cons.mpr ⟨clk_V X (vX11_driftOnce l) nX11_driftOnce sX11_driftOnce ⟨by decide, rfl⟩ (gd_of (i := 755) (by decide +kernel) rfl) ⟨Nat.le_of_ble_eq_true rfl, Nat.le_of_ble_eq_true rfl⟩, fun _ h => absurd h List.not_mem_nil⟩)
theorem nX11_undo : MNO yX11_undo cX11_undo 2 (some .int) 1 := ⟨gd_of (i := 770) (by decide +kernel) rfl, gd_of (i := 68) (by decide +kernel) rfl, by decide +kernel, by decide +kernel⟩
theorem sX11_undo : Cond.instanceMethod yX11_undo ∈ gdW ∧ Cond.selects yX11_undo.cls yX11_undo yX11_undo ∈ gdW := ⟨gd_of (i := 768) (by decide +kernel) rfl, gd_of (i := 769) (by decide +kernel) rfl⟩
theorem kX11_undo : MCK yX11_undo.cls cX11_undo mX11_undo false := ⟨by unfold dchk; decide +kernel, [325, 326, 229], [], [381, 693], [], by decide +kernel, by decide +kernel, by decide +kernel, by decide +kernel⟩
theorem vX11_undo (l : Launch) : MetM l yX11_undo cX11_undo 2 (some .int) 3 66 0 0 fX11_undo := metM_of false nX11_undo rfl kX11_undo (fun h => by cases h) cokg (fun p e s m args below meth c D aC A ad0 N0 X => List.forall_mem_cons.mpr ⟨clk_V X (vX1_takeBack l) nX1_takeBack sX1_takeBack ⟨by decide, rfl⟩ (gd_of (i := 771) (by decide +kernel) rfl) ⟨Nat.le_of_ble_eq_true rfl, Nat.le_of_ble_eq_true rfl⟩, fun _ h => absurd h List.not_mem_nil⟩)
theorem nX11_write : MNO yX11_write cX11_write 3 (some .int) 2 := ⟨gd_of (i := 778) (by decide +kernel) rfl, gd_of (i := 68) (by decide +kernel) rfl, by decide +kernel, by decide +kernel⟩
theorem sX11_write : Cond.instanceMethod yX11_write ∈ gdW ∧ Cond.selects yX11_write.cls yX11_write yX11_write ∈ gdW := ⟨gd_of (i := 776) (by decide +kernel) rfl, gd_of (i := 777) (by decide +kernel) rfl⟩
theorem kX11_write : MCK yX11_write.cls cX11_write mX11_write false := ⟨by unfold dchk; decide +kernel, [328, 268], [], [381, 386, 779], [], by decide +kernel, by decide +kernel, by decide +kernel, by decide +kernel⟩
theorem vX11_write (l : Launch) : MetM l yX11_write cX11_write 3 (some .int) 1 22 0 0 fX11_write := metM_of false nX11_write rfl kX11_write (fun h => by cases h) cokg (fun p e s m args below meth c D aC A ad0 N0 X => List.forall_mem_cons.mpr ⟨clk_V X (vX0_add l) nX0_add sX0_add ⟨by decide, rfl⟩ (gd_of (i := 780) (by decide +kernel) rfl) ⟨Nat.le_of_ble_eq_true rfl, Nat.le_of_ble_eq_true rfl⟩, fun _ h => absurd h List.not_mem_nil⟩)
theorem nX11_tear : MNO yX11_tear cX11_tear 2 (some .int) 0 := ⟨gd_of (i := 787) (by decide +kernel) rfl, gd_of (i := 68) (by decide +kernel) rfl, by decide +kernel, by decide +kernel⟩
theorem sX11_tear : Cond.instanceMethod yX11_tear ∈ gdW ∧ Cond.selects yX11_tear.cls yX11_tear yX11_tear ∈ gdW := ⟨gd_of (i := 785) (by decide +kernel) rfl, gd_of (i := 786) (by decide +kernel) rfl⟩
theorem kX11_tear : MCK yX11_tear.cls cX11_tear mX11_tear false := ⟨by unfold dchk; decide +kernel, [328, 268], [], [], [], by decide +kernel, by decide +kernel, by decide +kernel, by decide +kernel⟩
theorem vX11_tear (l : Launch) : MetM l yX11_tear cX11_tear 2 (some .int) 1 20 0 0 fX11_tear := metM_of false nX11_tear rfl kX11_tear (fun h => by cases h) cokg (fun p e s m args below meth c D aC A ad0 N0 X => List.forall_mem_cons.mpr ⟨clk_V X (vX0_clear l) nX0_clear sX0_clear ⟨by decide, rfl⟩ (gd_of (i := 500) (by decide +kernel) rfl) ⟨Nat.le_of_ble_eq_true rfl, Nat.le_of_ble_eq_true rfl⟩, fun _ h => absurd h List.not_mem_nil⟩)
theorem nX11_seed : MNO yX11_seed cX11_seed 3 (some .int) 1 := ⟨gd_of (i := 791) (by decide +kernel) rfl, gd_of (i := 68) (by decide +kernel) rfl, by decide +kernel, by decide +kernel⟩
theorem sX11_seed : Cond.instanceMethod yX11_seed ∈ gdW ∧ Cond.selects yX11_seed.cls yX11_seed yX11_seed ∈ gdW := ⟨gd_of (i := 789) (by decide +kernel) rfl, gd_of (i := 790) (by decide +kernel) rfl⟩
theorem kX11_seed : MCK yX11_seed.cls cX11_seed mX11_seed false := ⟨by unfold dchk; decide +kernel, [336], [], [381], [], by decide +kernel, by decide +kernel, by decide +kernel, by decide +kernel⟩
theorem vX11_seed (l : Launch) : MetM l yX11_seed cX11_seed 3 (some .int) 0 0 0 0 fX11_seed := metM_of false nX11_seed rfl kX11_seed (fun h => by cases h) cokg (fun p e s m args below meth c D aC A ad0 N0 X => fun _ h => absurd h List.not_mem_nil)
theorem nX11_keep : MNO yX11_keep cX11_keep 2 (some .int) 1 := ⟨gd_of (i := 795) (by decide +kernel) rfl, gd_of (i := 68) (by decide +kernel) rfl, by decide +kernel, by decide +kernel⟩
theorem sX11_keep : Cond.instanceMethod yX11_keep ∈ gdW ∧ Cond.selects yX11_keep.cls yX11_keep yX11_keep ∈ gdW := ⟨gd_of (i := 793) (by decide +kernel) rfl, gd_of (i := 794) (by decide +kernel) rfl⟩
theorem kX11_keep : MCK yX11_keep.cls cX11_keep mX11_keep false := ⟨by unfold dchk; decide +kernel, [325, 326, 327, 336], [], [669], [], by decide +kernel, by decide +kernel, by decide +kernel, by decide +kernel⟩
theorem vX11_keep (l : Launch) : MetM l yX11_keep cX11_keep 2 (some .int) 3 65 0 0 fX11_keep := metM_of false nX11_keep rfl kX11_keep (fun h => by cases h) cokg (fun p e s m args below meth c D aC A ad0 N0 X => List.forall_mem_cons.mpr ⟨clk_V X (vX2_hold l) nX2_hold sX2_hold ⟨by decide, rfl⟩ (gd_of (i := 796) (by decide +kernel) rfl) ⟨Nat.le_of_ble_eq_true rfl, Nat.le_of_ble_eq_true rfl⟩, List.forall_mem_cons.mpr ⟨clk_V X (vX1_clear l) nX1_clear sX1_clear ⟨by decide, rfl⟩ (gd_of (i := 496) (by decide +kernel) rfl) ⟨Nat.le_of_ble_eq_true rfl, Nat.le_of_ble_eq_true rfl⟩, fun _ h => absurd h List.not_mem_nil⟩⟩)
theorem nX11_goBack : MNO yX11_goBack cX11_goBack 3 (some .int) 1 := ⟨gd_of (i := 804) (by decide +kernel) rfl, gd_of (i := 68) (by decide +kernel) rfl, by decide +kernel, by decide +kernel⟩
theorem sX11_goBack : Cond.instanceMethod yX11_goBack ∈ gdW ∧ Cond.selects yX11_goBack.cls yX11_goBack yX11_goBack ∈ gdW := ⟨gd_of (i := 802) (by decide +kernel) rfl, gd_of (i := 803) (by decide +kernel) rfl⟩
theorem kX11_goBack : MCK yX11_goBack.cls cX11_goBack mX11_goBack false := ⟨by unfold dchk; decide +kernel, [325, 326, 327, 336, 251, 247, 249], [], [669, 693], [], by decide +kernel, by decide +kernel, by decide +kernel, by decide +kernel⟩
theorem vX11_goBack (l : Launch) : MetM l yX11_goBack cX11_goBack 3 (some .int) 2 43 0 0 fX11_goBack := metM_of false nX11_goBack rfl kX11_goBack (fun h => by cases h) cokg (fun p e s m args below meth c D aC A ad0 N0 X => List.forall_mem_cons.mpr ⟨clk_V X (vX1_clear l) nX1_clear sX1_clear ⟨by decide, rfl⟩ (gd_of (i := 496) (by decide +kernel) rfl) ⟨Nat.le_of_ble_eq_true rfl, Nat.le_of_ble_eq_true rfl⟩, List.forall_mem_cons.mpr ⟨clk_V X (vX9_copy l) nX9_copy sX9_copy ⟨by decide, rfl⟩ (gd_of (i := 805) (by decide +kernel) rfl) ⟨Nat.le_of_ble_eq_true rfl, Nat.le_of_ble_eq_true rfl⟩, fun _ h => absurd h List.not_mem_nil⟩⟩)
theorem nX12_has : MNO yX12_has cX12_has 2 (some .boolean) 2 := ⟨gd_of (i := 838) (by decide +kernel) rfl, gd_of (i := 81) (by decide +kernel) rfl, by decide +kernel, by decide +kernel⟩
theorem sX12_has : Cond.static yX12_has ∈ gdW := gd_of (i := 837) (by decide +kernel) rfl
theorem kX12_has : MCK yX12_has.cls cX12_has mX12_has false := ⟨by unfold dchk; decide +kernel, [], [], [], [], by decide +kernel, by decide +kernel, by decide +kernel, by decide +kernel⟩
theorem vX12_has (l : Launch) : MetM l yX12_has cX12_has 2 (some .boolean) 0 0 0 0 fX12_has := metM_of false nX12_has rfl kX12_has (fun h => by cases h) cokg (fun p e s m args below meth c D aC A ad0 N0 X => fun _ h => absurd h List.not_mem_nil)
theorem nX12_isAhead : MNO yX12_isAhead cX12_isAhead 3 (some .boolean) 2 := ⟨gd_of (i := 823) (by decide +kernel) rfl, gd_of (i := 81) (by decide +kernel) rfl, by decide +kernel, by decide +kernel⟩
theorem sX12_isAhead : Cond.instanceMethod yX12_isAhead ∈ gdW ∧ Cond.selects yX12_isAhead.cls yX12_isAhead yX12_isAhead ∈ gdW := ⟨gd_of (i := 822) (by decide +kernel) rfl, gd_of (i := 29) (by decide +kernel) rfl⟩
theorem kX12_isAhead : MCK yX12_isAhead.cls cX12_isAhead mX12_isAhead false := ⟨by unfold dchk; decide +kernel, [855], [], [], [], by decide +kernel, by decide +kernel, by decide +kernel, by decide +kernel⟩
theorem vX12_isAhead (l : Launch) : MetM l yX12_isAhead cX12_isAhead 3 (some .boolean) 0 0 0 0 fX12_isAhead := metM_of false nX12_isAhead rfl kX12_isAhead (fun h => by cases h) cokg (fun p e s m args below meth c D aC A ad0 N0 X => fun _ h => absurd h List.not_mem_nil)
theorem nX12_ahead : MNO yX12_ahead cX12_ahead 4 (some .int) 1 := ⟨gd_of (i := 819) (by decide +kernel) rfl, gd_of (i := 81) (by decide +kernel) rfl, by decide +kernel, by decide +kernel⟩
theorem sX12_ahead : Cond.instanceMethod yX12_ahead ∈ gdW ∧ Cond.selects yX12_ahead.cls yX12_ahead yX12_ahead ∈ gdW := ⟨gd_of (i := 818) (by decide +kernel) rfl, gd_of (i := 28) (by decide +kernel) rfl⟩
theorem kX12_ahead : MCK yX12_ahead.cls cX12_ahead mX12_ahead false := ⟨by unfold dchk; decide +kernel, [], [], [], [], by decide +kernel, by decide +kernel, by decide +kernel, by decide +kernel⟩
theorem vX12_ahead (l : Launch) : MetM l yX12_ahead cX12_ahead 4 (some .int) 1 22 0 0 fX12_ahead := metM_of false nX12_ahead rfl kX12_ahead (fun h => by cases h) cokg (fun p e s m args below meth c D aC A ad0 N0 X => List.forall_mem_cons.mpr ⟨clk_V X (vX12_isAhead l) nX12_isAhead sX12_isAhead ⟨by decide, rfl⟩ (gd_of (i := 820) (by decide +kernel) rfl) ⟨Nat.le_of_ble_eq_true rfl, Nat.le_of_ble_eq_true rfl⟩, fun _ h => absurd h List.not_mem_nil⟩)
theorem nX12_kind : MNO yX12_kind cX12_kind 3 (some .int) 2 := ⟨gd_of (i := 835) (by decide +kernel) rfl, gd_of (i := 81) (by decide +kernel) rfl, by decide +kernel, by decide +kernel⟩
theorem sX12_kind : Cond.instanceMethod yX12_kind ∈ gdW ∧ Cond.selects yX12_kind.cls yX12_kind yX12_kind ∈ gdW := ⟨gd_of (i := 834) (by decide +kernel) rfl, gd_of (i := 32) (by decide +kernel) rfl⟩
theorem kX12_kind : MCK yX12_kind.cls cX12_kind mX12_kind false := ⟨by unfold dchk; decide +kernel, [857], [], [], [], by decide +kernel, by decide +kernel, by decide +kernel, by decide +kernel⟩
theorem vX12_kind (l : Launch) : MetM l yX12_kind cX12_kind 3 (some .int) 0 0 0 0 fX12_kind := metM_of false nX12_kind rfl kX12_kind (fun h => by cases h) cokg (fun p e s m args below meth c D aC A ad0 N0 X => fun _ h => absurd h List.not_mem_nil)
theorem nX12_isBound : MNO yX12_isBound cX12_isBound 3 (some .boolean) 2 := ⟨gd_of (i := 831) (by decide +kernel) rfl, gd_of (i := 81) (by decide +kernel) rfl, by decide +kernel, by decide +kernel⟩
theorem sX12_isBound : Cond.instanceMethod yX12_isBound ∈ gdW ∧ Cond.selects yX12_isBound.cls yX12_isBound yX12_isBound ∈ gdW := ⟨gd_of (i := 830) (by decide +kernel) rfl, gd_of (i := 31) (by decide +kernel) rfl⟩
theorem kX12_isBound : MCK yX12_isBound.cls cX12_isBound mX12_isBound false := ⟨by unfold dchk; decide +kernel, [856, 860], [], [], [], by decide +kernel, by decide +kernel, by decide +kernel, by decide +kernel⟩
theorem vX12_isBound (l : Launch) : MetM l yX12_isBound cX12_isBound 3 (some .boolean) 1 22 0 0 fX12_isBound := metM_of false nX12_isBound rfl kX12_isBound (fun h => by cases h) cokg (fun p e s m args below meth c D aC A ad0 N0 X => List.forall_mem_cons.mpr ⟨clk_V X (vX12_kind l) nX12_kind sX12_kind ⟨by decide, rfl⟩ (gd_of (i := 832) (by decide +kernel) rfl) ⟨Nat.le_of_ble_eq_true rfl, Nat.le_of_ble_eq_true rfl⟩, List.forall_mem_cons.mpr ⟨clk_S X (vX12_has l) nX12_has sX12_has (gd_of (i := 836) (by decide +kernel) rfl) ⟨Nat.le_of_ble_eq_true rfl, Nat.le_of_ble_eq_true rfl⟩, fun _ h => absurd h List.not_mem_nil⟩⟩)
theorem nX12_between : MNO yX12_between cX12_between 2 (some .int) 2 := ⟨gd_of (i := 841) (by decide +kernel) rfl, gd_of (i := 81) (by decide +kernel) rfl, by decide +kernel, by decide +kernel⟩
theorem sX12_between : Cond.static yX12_between ∈ gdW := gd_of (i := 840) (by decide +kernel) rfl
theorem kX12_between : MCK yX12_between.cls cX12_between mX12_between false := ⟨by unfold dchk; decide +kernel, [], [], [], [], by decide +kernel, by decide +kernel, by decide +kernel, by decide +kernel⟩
theorem vX12_between (l : Launch) : MetM l yX12_between cX12_between 2 (some .int) 0 0 0 0 fX12_between := metM_of false nX12_between rfl kX12_between (fun h => by cases h) cokg (fun p e s m args below meth c D aC A ad0 N0 X => fun _ h => absurd h List.not_mem_nil)
theorem nX12_waits : MNO yX12_waits cX12_waits 4 (some .int) 1 := ⟨gd_of (i := 827) (by decide +kernel) rfl, gd_of (i := 81) (by decide +kernel) rfl, by decide +kernel, by decide +kernel⟩
theorem sX12_waits : Cond.instanceMethod yX12_waits ∈ gdW ∧ Cond.selects yX12_waits.cls yX12_waits yX12_waits ∈ gdW := ⟨gd_of (i := 826) (by decide +kernel) rfl, gd_of (i := 30) (by decide +kernel) rfl⟩
theorem kX12_waits : MCK yX12_waits.cls cX12_waits mX12_waits false := ⟨by unfold dchk; decide +kernel, [859], [], [], [], by decide +kernel, by decide +kernel, by decide +kernel, by decide +kernel⟩
theorem vX12_waits (l : Launch) : MetM l yX12_waits cX12_waits 4 (some .int) 2 44 0 0 fX12_waits := metM_of false nX12_waits rfl kX12_waits (fun h => by cases h) cokg (fun p e s m args below meth c D aC A ad0 N0 X => List.forall_mem_cons.mpr ⟨clk_V X (vX12_isAhead l) nX12_isAhead sX12_isAhead ⟨by decide, rfl⟩ (gd_of (i := 820) (by decide +kernel) rfl) ⟨Nat.le_of_ble_eq_true rfl, Nat.le_of_ble_eq_true rfl⟩, List.forall_mem_cons.mpr ⟨clk_V X (vX12_isBound l) nX12_isBound sX12_isBound ⟨by decide, rfl⟩ (gd_of (i := 828) (by decide +kernel) rfl) ⟨Nat.le_of_ble_eq_true rfl, Nat.le_of_ble_eq_true rfl⟩, List.forall_mem_cons.mpr ⟨clk_S X (vX12_between l) nX12_between sX12_between (gd_of (i := 839) (by decide +kernel) rfl) ⟨Nat.le_of_ble_eq_true rfl, Nat.le_of_ble_eq_true rfl⟩, fun _ h => absurd h List.not_mem_nil⟩⟩⟩)
theorem nX12_comes : MNO yX12_comes cX12_comes 6 (some .int) 3 := ⟨gd_of (i := 844) (by decide +kernel) rfl, gd_of (i := 81) (by decide +kernel) rfl, by decide +kernel, by decide +kernel⟩
theorem sX12_comes : Cond.static yX12_comes ∈ gdW := gd_of (i := 843) (by decide +kernel) rfl
theorem kX12_comes : MCK yX12_comes.cls cX12_comes mX12_comes false := ⟨by unfold dchk; decide +kernel, [], [], [], [], by decide +kernel, by decide +kernel, by decide +kernel, by decide +kernel⟩
theorem vX12_comes (l : Launch) : MetM l yX12_comes cX12_comes 6 (some .int) 0 0 0 0 fX12_comes := metM_of false nX12_comes rfl kX12_comes (fun h => by cases h) cokg (fun p e s m args below meth c D aC A ad0 N0 X => fun _ h => absurd h List.not_mem_nil)
theorem nX12_weight : MNO yX12_weight cX12_weight 4 (some .int) 1 := ⟨gd_of (i := 852) (by decide +kernel) rfl, gd_of (i := 81) (by decide +kernel) rfl, by decide +kernel, by decide +kernel⟩
theorem sX12_weight : Cond.instanceMethod yX12_weight ∈ gdW ∧ Cond.selects yX12_weight.cls yX12_weight yX12_weight ∈ gdW := ⟨gd_of (i := 851) (by decide +kernel) rfl, gd_of (i := 34) (by decide +kernel) rfl⟩
theorem kX12_weight : MCK yX12_weight.cls cX12_weight mX12_weight false := ⟨by unfold dchk; decide +kernel, [857, 854], [], [], [], by decide +kernel, by decide +kernel, by decide +kernel, by decide +kernel⟩
theorem vX12_weight (l : Launch) : MetM l yX12_weight cX12_weight 4 (some .int) 0 0 0 0 fX12_weight := metM_of false nX12_weight rfl kX12_weight (fun h => by cases h) cokg (fun p e s m args below meth c D aC A ad0 N0 X => fun _ h => absurd h List.not_mem_nil)
end
section
/-! more contracts (by program) -/
theorem nX12_does : MNO yX12_does cX12_does 4 none 2 := ⟨gd_of (i := 848) (by decide +kernel) rfl, gd_of (i := 81) (by decide +kernel) rfl, by decide +kernel, by decide +kernel⟩
theorem sX12_does : Cond.instanceMethod yX12_does ∈ gdW ∧ Cond.selects yX12_does.cls yX12_does yX12_does ∈ gdW := ⟨gd_of (i := 847) (by decide +kernel) rfl, gd_of (i := 33) (by decide +kernel) rfl⟩
theorem kX12_does : MCK yX12_does.cls cX12_does mX12_does false := ⟨by unfold dchk; decide +kernel, [856, 857, 868, 869, 870], [], [], [], by decide +kernel, by decide +kernel, by decide +kernel, by decide +kernel⟩
theorem vX12_does (l : Launch) : MetM l yX12_does cX12_does 4 none 1 23 0 0 fX12_does := metM_of false nX12_does rfl kX12_does (fun h => by cases h) cokg (fun p e s m args below meth c D aC A ad0 N0 X => List.forall_mem_cons.mpr ⟨clk_V X (vX12_weight l) nX12_weight sX12_weight ⟨by decide, rfl⟩ (gd_of (i := 849) (by decide +kernel) rfl) ⟨Nat.le_of_ble_eq_true rfl, Nat.le_of_ble_eq_true rfl⟩, fun _ h => absurd h List.not_mem_nil⟩)
theorem nX12_goes : MNO yX12_goes cX12_goes 7 (some .int) 2 := ⟨gd_of (i := 815) (by decide +kernel) rfl, gd_of (i := 81) (by decide +kernel) rfl, by decide +kernel, by decide +kernel⟩
theorem sX12_goes : Cond.instanceMethod yX12_goes ∈ gdW ∧ Cond.selects yX12_goes.cls yX12_goes yX12_goes ∈ gdW := ⟨gd_of (i := 814) (by decide +kernel) rfl, gd_of (i := 27) (by decide +kernel) rfl⟩
theorem kX12_goes : MCK yX12_goes.cls cX12_goes mX12_goes false := ⟨by unfold dchk; decide +kernel, [866, 867, 868, 869, 854], [], [], [], by decide +kernel, by decide +kernel, by decide +kernel, by decide +kernel⟩
theorem vX12_goes (l : Launch) : MetM l yX12_goes cX12_goes 7 (some .int) 3 67 0 0 fX12_goes := metM_of false nX12_goes rfl kX12_goes (fun h => by cases h) cokg (fun p e s m args below meth c D aC A ad0 N0 X => List.forall_mem_cons.mpr ⟨clk_S X (vX12_has l) nX12_has sX12_has (gd_of (i := 836) (by decide +kernel) rfl) ⟨Nat.le_of_ble_eq_true rfl, Nat.le_of_ble_eq_true rfl⟩, List.forall_mem_cons.mpr ⟨clk_V X (vX12_ahead l) nX12_ahead sX12_ahead ⟨by decide, rfl⟩ (gd_of (i := 816) (by decide +kernel) rfl) ⟨Nat.le_of_ble_eq_true rfl, Nat.le_of_ble_eq_true rfl⟩, List.forall_mem_cons.mpr ⟨clk_V X (vX12_waits l) nX12_waits sX12_waits ⟨by decide, rfl⟩ (gd_of (i := 824) (by decide +kernel) rfl) ⟨Nat.le_of_ble_eq_true rfl, Nat.le_of_ble_eq_true rfl⟩, List.forall_mem_cons.mpr ⟨clk_S X (vX12_comes l) nX12_comes sX12_comes (gd_of (i := 842) (by decide +kernel) rfl) ⟨Nat.le_of_ble_eq_true rfl, Nat.le_of_ble_eq_true rfl⟩, List.forall_mem_cons.mpr ⟨clk_V X (vX12_does l) nX12_does sX12_does ⟨by decide, rfl⟩ (gd_of (i := 845) (by decide +kernel) rfl) ⟨Nat.le_of_ble_eq_true rfl, Nat.le_of_ble_eq_true rfl⟩, fun _ h => absurd h List.not_mem_nil⟩⟩⟩⟩⟩)
theorem nX12_init : MNO yX12_init cX12_init 1 none 0 := ⟨gd_of (i := 810) (by decide +kernel) rfl, gd_of (i := 81) (by decide +kernel) rfl, by decide +kernel, by decide +kernel⟩
theorem sX12_init : Cond.instanceMethod yX12_init ∈ gdW ∧ yX12_init.name = "<init>" := ⟨gd_of (i := 809) (by decide +kernel) rfl, rfl⟩
theorem kX12_init : MCK yX12_init.cls cX12_init mX12_init true := ⟨by unfold dchk; decide +kernel, [855, 856, 857, 858, 860, 861, 862, 866, 867, 868, 869, 870, 872, 873, 874, 876, 878, 882, 883, 884, 886, 887, 888, 891, 892, 893, 894, 895, 896, 897, 863], [(7, 855), (13, 856), (16, 857), (20, 858), (27, 861), (30, 862), (33, 866), (36, 867), (39, 868), (42, 869), (45, 870), (48, 872), (51, 873), (54, 874), (57, 876), (63, 882), (66, 883), (69, 884), (72, 886), (75, 887), (78, 888), (81, 891), (84, 892), (87, 893), (90, 894), (93, 895), (96, 896), (99, 897)], [], [], by decide +kernel, by decide +kernel, by decide +kernel, by decide +kernel⟩
theorem vX12_init (l : Launch) : MetM l yX12_init cX12_init 1 none 4 93 28 2686 fX12_init := metM_of true nX12_init rfl kX12_init (fun _ => rfl) cokg (fun p e s m args below meth c D aC A ad0 N0 X => List.forall_mem_cons.mpr ⟨clk_O X objI (gd_of (i := 811) (by decide +kernel) rfl) ⟨Nat.le_of_ble_eq_true rfl, Nat.le_of_ble_eq_true rfl⟩, List.forall_mem_cons.mpr ⟨clk_V X (vX12_goes l) nX12_goes sX12_goes ⟨by decide, rfl⟩ (gd_of (i := 812) (by decide +kernel) rfl) ⟨Nat.le_of_ble_eq_true rfl, Nat.le_of_ble_eq_true rfl⟩, fun _ h => absurd h List.not_mem_nil⟩⟩)
theorem nX12_isStep : MNO yX12_isStep cX12_isStep 2 (some .boolean) 1 := ⟨gd_of (i := 1017) (by decide +kernel) rfl, gd_of (i := 81) (by decide +kernel) rfl, by decide +kernel, by decide +kernel⟩
theorem sX12_isStep : Cond.instanceMethod yX12_isStep ∈ gdW ∧ Cond.selects yX12_isStep.cls yX12_isStep yX12_isStep ∈ gdW := ⟨gd_of (i := 1016) (by decide +kernel) rfl, gd_of (i := 37) (by decide +kernel) rfl⟩
theorem kX12_isStep : MCK yX12_isStep.cls cX12_isStep mX12_isStep false := ⟨by unfold dchk; decide +kernel, [854], [], [], [], by decide +kernel, by decide +kernel, by decide +kernel, by decide +kernel⟩
theorem vX12_isStep (l : Launch) : MetM l yX12_isStep cX12_isStep 2 (some .boolean) 0 0 0 0 fX12_isStep := metM_of false nX12_isStep rfl kX12_isStep (fun h => by cases h) cokg (fun p e s m args below meth c D aC A ad0 N0 X => fun _ h => absurd h List.not_mem_nil)
theorem nX12_isGap : MNO yX12_isGap cX12_isGap 2 (some .boolean) 1 := ⟨gd_of (i := 1022) (by decide +kernel) rfl, gd_of (i := 81) (by decide +kernel) rfl, by decide +kernel, by decide +kernel⟩
theorem sX12_isGap : Cond.instanceMethod yX12_isGap ∈ gdW ∧ Cond.selects yX12_isGap.cls yX12_isGap yX12_isGap ∈ gdW := ⟨gd_of (i := 1021) (by decide +kernel) rfl, gd_of (i := 38) (by decide +kernel) rfl⟩
theorem kX12_isGap : MCK yX12_isGap.cls cX12_isGap mX12_isGap false := ⟨by unfold dchk; decide +kernel, [855, 854], [], [], [], by decide +kernel, by decide +kernel, by decide +kernel, by decide +kernel⟩
theorem vX12_isGap (l : Launch) : MetM l yX12_isGap cX12_isGap 2 (some .boolean) 0 0 0 0 fX12_isGap := metM_of false nX12_isGap rfl kX12_isGap (fun h => by cases h) cokg (fun p e s m args below meth c D aC A ad0 N0 X => fun _ h => absurd h List.not_mem_nil)
theorem nX12_isConflict : MNO yX12_isConflict cX12_isConflict 3 (some .boolean) 2 := ⟨gd_of (i := 1042) (by decide +kernel) rfl, gd_of (i := 81) (by decide +kernel) rfl, by decide +kernel, by decide +kernel⟩
theorem sX12_isConflict : Cond.instanceMethod yX12_isConflict ∈ gdW ∧ Cond.selects yX12_isConflict.cls yX12_isConflict yX12_isConflict ∈ gdW := ⟨gd_of (i := 1041) (by decide +kernel) rfl, gd_of (i := 43) (by decide +kernel) rfl⟩
theorem kX12_isConflict : MCK yX12_isConflict.cls cX12_isConflict mX12_isConflict false := ⟨by unfold dchk; decide +kernel, [855, 856, 857], [], [], [], by decide +kernel, by decide +kernel, by decide +kernel, by decide +kernel⟩
theorem vX12_isConflict (l : Launch) : MetM l yX12_isConflict cX12_isConflict 3 (some .boolean) 0 0 0 0 fX12_isConflict := metM_of false nX12_isConflict rfl kX12_isConflict (fun h => by cases h) cokg (fun p e s m args below meth c D aC A ad0 N0 X => fun _ h => absurd h List.not_mem_nil)
theorem nX12_conflicts : MNO yX12_conflicts cX12_conflicts 4 (some .int) 1 := ⟨gd_of (i := 1038) (by decide +kernel) rfl, gd_of (i := 81) (by decide +kernel) rfl, by decide +kernel, by decide +kernel⟩
theorem sX12_conflicts : Cond.instanceMethod yX12_conflicts ∈ gdW ∧ Cond.selects yX12_conflicts.cls yX12_conflicts yX12_conflicts ∈ gdW := ⟨gd_of (i := 1037) (by decide +kernel) rfl, gd_of (i := 42) (by decide +kernel) rfl⟩
theorem kX12_conflicts : MCK yX12_conflicts.cls cX12_conflicts mX12_conflicts false := ⟨by unfold dchk; decide +kernel, [854], [], [], [], by decide +kernel, by decide +kernel, by decide +kernel, by decide +kernel⟩
theorem vX12_conflicts (l : Launch) : MetM l yX12_conflicts cX12_conflicts 4 (some .int) 1 22 0 0 fX12_conflicts := metM_of false nX12_conflicts rfl kX12_conflicts (fun h => by cases h) cokg (fun p e s m args below meth c D aC A ad0 N0 X => List.forall_mem_cons.mpr ⟨clk_V X (vX12_isConflict l) nX12_isConflict sX12_isConflict ⟨by decide, rfl⟩ (gd_of (i := 1039) (by decide +kernel) rfl) ⟨Nat.le_of_ble_eq_true rfl, Nat.le_of_ble_eq_true rfl⟩, fun _ h => absurd h List.not_mem_nil⟩)
theorem nX12_readings : MNO yX12_readings cX12_readings 1 (some .int) 0 := ⟨gd_of (i := 1002) (by decide +kernel) rfl, gd_of (i := 81) (by decide +kernel) rfl, by decide +kernel, by decide +kernel⟩
theorem sX12_readings : Cond.instanceMethod yX12_readings ∈ gdW ∧ Cond.selects yX12_readings.cls yX12_readings yX12_readings ∈ gdW := ⟨gd_of (i := 1001) (by decide +kernel) rfl, gd_of (i := 36) (by decide +kernel) rfl⟩
theorem kX12_readings : MCK yX12_readings.cls cX12_readings mX12_readings false := ⟨by unfold dchk; decide +kernel, [862, 865, 864], [], [], [], by decide +kernel, by decide +kernel, by decide +kernel, by decide +kernel⟩
theorem vX12_readings (l : Launch) : MetM l yX12_readings cX12_readings 1 (some .int) 4 93 0 0 fX12_readings := metM_of false nX12_readings rfl kX12_readings (fun h => by cases h) cokg (fun p e s m args below meth c D aC A ad0 N0 X => List.forall_mem_cons.mpr ⟨clk_V X (vX12_goes l) nX12_goes sX12_goes ⟨by decide, rfl⟩ (gd_of (i := 812) (by decide +kernel) rfl) ⟨Nat.le_of_ble_eq_true rfl, Nat.le_of_ble_eq_true rfl⟩, fun _ h => absurd h List.not_mem_nil⟩)
theorem nX12_isIn : MNO yX12_isIn cX12_isIn 5 (some .boolean) 3 := ⟨gd_of (i := 1005) (by decide +kernel) rfl, gd_of (i := 81) (by decide +kernel) rfl, by decide +kernel, by decide +kernel⟩
theorem sX12_isIn : Cond.static yX12_isIn ∈ gdW := gd_of (i := 1004) (by decide +kernel) rfl
theorem kX12_isIn : MCK yX12_isIn.cls cX12_isIn mX12_isIn false := ⟨by unfold dchk; decide +kernel, [], [], [], [], by decide +kernel, by decide +kernel, by decide +kernel, by decide +kernel⟩
theorem vX12_isIn (l : Launch) : MetM l yX12_isIn cX12_isIn 5 (some .boolean) 0 0 0 0 fX12_isIn := metM_of false nX12_isIn rfl kX12_isIn (fun h => by cases h) cokg (fun p e s m args below meth c D aC A ad0 N0 X => fun _ h => absurd h List.not_mem_nil)
theorem nX12_stray : MNO yX12_stray cX12_stray 4 (some .int) 1 := ⟨gd_of (i := 998) (by decide +kernel) rfl, gd_of (i := 81) (by decide +kernel) rfl, by decide +kernel, by decide +kernel⟩
theorem sX12_stray : Cond.instanceMethod yX12_stray ∈ gdW ∧ Cond.selects yX12_stray.cls yX12_stray yX12_stray ∈ gdW := ⟨gd_of (i := 997) (by decide +kernel) rfl, gd_of (i := 35) (by decide +kernel) rfl⟩
theorem kX12_stray : MCK yX12_stray.cls cX12_stray mX12_stray false := ⟨by unfold dchk; decide +kernel, [861, 862, 863], [], [], [], by decide +kernel, by decide +kernel, by decide +kernel, by decide +kernel⟩
theorem vX12_stray (l : Launch) : MetM l yX12_stray cX12_stray 4 (some .int) 5 113 0 0 fX12_stray := metM_of false nX12_stray rfl kX12_stray (fun h => by cases h) cokg (fun p e s m args below meth c D aC A ad0 N0 X => List.forall_mem_cons.mpr ⟨clk_V X (vX12_readings l) nX12_readings sX12_readings ⟨by decide, rfl⟩ (gd_of (i := 999) (by decide +kernel) rfl) ⟨Nat.le_of_ble_eq_true rfl, Nat.le_of_ble_eq_true rfl⟩, List.forall_mem_cons.mpr ⟨clk_S X (vX12_isIn l) nX12_isIn sX12_isIn (gd_of (i := 1003) (by decide +kernel) rfl) ⟨Nat.le_of_ble_eq_true rfl, Nat.le_of_ble_eq_true rfl⟩, fun _ h => absurd h List.not_mem_nil⟩⟩)
theorem nX12_reading : MNO yX12_reading cX12_reading 4 (some .int) 2 := ⟨gd_of (i := 993) (by decide +kernel) rfl, gd_of (i := 81) (by decide +kernel) rfl, by decide +kernel, by decide +kernel⟩
theorem sX12_reading : Cond.instanceMethod yX12_reading ∈ gdW ∧ Cond.selects yX12_reading.cls yX12_reading yX12_reading ∈ gdW := ⟨gd_of (i := 991) (by decide +kernel) rfl, gd_of (i := 992) (by decide +kernel) rfl⟩
theorem kX12_reading : MCK yX12_reading.cls cX12_reading mX12_reading false := ⟨by unfold dchk; decide +kernel, [861, 862, 863], [], [994], [], by decide +kernel, by decide +kernel, by decide +kernel, by decide +kernel⟩
theorem vX12_reading (l : Launch) : MetM l yX12_reading cX12_reading 4 (some .int) 6 136 0 0 fX12_reading := metM_of false nX12_reading rfl kX12_reading (fun h => by cases h) cokg (fun p e s m args below meth c D aC A ad0 N0 X => List.forall_mem_cons.mpr ⟨clk_V X (vX12_readings l) nX12_readings sX12_readings ⟨by decide, rfl⟩ (gd_of (i := 999) (by decide +kernel) rfl) ⟨Nat.le_of_ble_eq_true rfl, Nat.le_of_ble_eq_true rfl⟩, List.forall_mem_cons.mpr ⟨clk_V X (vX12_stray l) nX12_stray sX12_stray ⟨by decide, rfl⟩ (gd_of (i := 995) (by decide +kernel) rfl) ⟨Nat.le_of_ble_eq_true rfl, Nat.le_of_ble_eq_true rfl⟩, fun _ h => absurd h List.not_mem_nil⟩⟩)
theorem nX12_can : MNO yX12_can cX12_can 2 (some .int) 1 := ⟨gd_of (i := 1009) (by decide +kernel) rfl, gd_of (i := 81) (by decide +kernel) rfl, by decide +kernel, by decide +kernel⟩
theorem sX12_can : Cond.instanceMethod yX12_can ∈ gdW ∧ Cond.selects yX12_can.cls yX12_can yX12_can ∈ gdW := ⟨gd_of (i := 1007) (by decide +kernel) rfl, gd_of (i := 1008) (by decide +kernel) rfl⟩
theorem kX12_can : MCK yX12_can.cls cX12_can mX12_can false := ⟨by unfold dchk; decide +kernel, [861, 862, 863], [], [], [], by decide +kernel, by decide +kernel, by decide +kernel, by decide +kernel⟩
theorem vX12_can (l : Launch) : MetM l yX12_can cX12_can 2 (some .int) 5 113 0 0 fX12_can := metM_of false nX12_can rfl kX12_can (fun h => by cases h) cokg (fun p e s m args below meth c D aC A ad0 N0 X => List.forall_mem_cons.mpr ⟨clk_V X (vX12_readings l) nX12_readings sX12_readings ⟨by decide, rfl⟩ (gd_of (i := 999) (by decide +kernel) rfl) ⟨Nat.le_of_ble_eq_true rfl, Nat.le_of_ble_eq_true rfl⟩, List.forall_mem_cons.mpr ⟨clk_S X (vX12_isIn l) nX12_isIn sX12_isIn (gd_of (i := 1003) (by decide +kernel) rfl) ⟨Nat.le_of_ble_eq_true rfl, Nat.le_of_ble_eq_true rfl⟩, fun _ h => absurd h List.not_mem_nil⟩⟩)
theorem nX12_laysGifts : MNO yX12_laysGifts cX12_laysGifts 3 none 0 := ⟨gd_of (i := 1084) (by decide +kernel) rfl, gd_of (i := 81) (by decide +kernel) rfl, by decide +kernel, by decide +kernel⟩
theorem sX12_laysGifts : Cond.instanceMethod yX12_laysGifts ∈ gdW ∧ Cond.selects yX12_laysGifts.cls yX12_laysGifts yX12_laysGifts ∈ gdW := ⟨gd_of (i := 1083) (by decide +kernel) rfl, gd_of (i := 50) (by decide +kernel) rfl⟩
theorem kX12_laysGifts : MCK yX12_laysGifts.cls cX12_laysGifts mX12_laysGifts false := ⟨by unfold dchk; decide +kernel, [856, 857, 873, 874, 854, 875], [], [], [], by decide +kernel, by decide +kernel, by decide +kernel, by decide +kernel⟩
theorem vX12_laysGifts (l : Launch) : MetM l yX12_laysGifts cX12_laysGifts 3 none 1 22 0 0 fX12_laysGifts := metM_of false nX12_laysGifts rfl kX12_laysGifts (fun h => by cases h) cokg (fun p e s m args below meth c D aC A ad0 N0 X => List.forall_mem_cons.mpr ⟨clk_V X (vX12_isAhead l) nX12_isAhead sX12_isAhead ⟨by decide, rfl⟩ (gd_of (i := 820) (by decide +kernel) rfl) ⟨Nat.le_of_ble_eq_true rfl, Nat.le_of_ble_eq_true rfl⟩, fun _ h => absurd h List.not_mem_nil⟩)
theorem nX12_isOne : MNO yX12_isOne cX12_isOne 2 (some .boolean) 1 := ⟨gd_of (i := 1092) (by decide +kernel) rfl, gd_of (i := 81) (by decide +kernel) rfl, by decide +kernel, by decide +kernel⟩
theorem sX12_isOne : Cond.instanceMethod yX12_isOne ∈ gdW ∧ Cond.selects yX12_isOne.cls yX12_isOne yX12_isOne ∈ gdW := ⟨gd_of (i := 1091) (by decide +kernel) rfl, gd_of (i := 52) (by decide +kernel) rfl⟩
theorem kX12_isOne : MCK yX12_isOne.cls cX12_isOne mX12_isOne false := ⟨by unfold dchk; decide +kernel, [873, 874], [], [], [], by decide +kernel, by decide +kernel, by decide +kernel, by decide +kernel⟩
theorem vX12_isOne (l : Launch) : MetM l yX12_isOne cX12_isOne 2 (some .boolean) 0 0 0 0 fX12_isOne := metM_of false nX12_isOne rfl kX12_isOne (fun h => by cases h) cokg (fun p e s m args below meth c D aC A ad0 N0 X => fun _ h => absurd h List.not_mem_nil)
theorem nX12_meets : MNO yX12_meets cX12_meets 3 (some .boolean) 2 := ⟨gd_of (i := 1096) (by decide +kernel) rfl, gd_of (i := 81) (by decide +kernel) rfl, by decide +kernel, by decide +kernel⟩
theorem sX12_meets : Cond.instanceMethod yX12_meets ∈ gdW ∧ Cond.selects yX12_meets.cls yX12_meets yX12_meets ∈ gdW := ⟨gd_of (i := 1095) (by decide +kernel) rfl, gd_of (i := 53) (by decide +kernel) rfl⟩
theorem kX12_meets : MCK yX12_meets.cls cX12_meets mX12_meets false := ⟨by unfold dchk; decide +kernel, [873, 874], [], [], [], by decide +kernel, by decide +kernel, by decide +kernel, by decide +kernel⟩
theorem vX12_meets (l : Launch) : MetM l yX12_meets cX12_meets 3 (some .boolean) 1 22 0 0 fX12_meets := metM_of false nX12_meets rfl kX12_meets (fun h => by cases h) cokg (fun p e s m args below meth c D aC A ad0 N0 X => List.forall_mem_cons.mpr ⟨clk_V X (vX12_isConflict l) nX12_isConflict sX12_isConflict ⟨by decide, rfl⟩ (gd_of (i := 1039) (by decide +kernel) rfl) ⟨Nat.le_of_ble_eq_true rfl, Nat.le_of_ble_eq_true rfl⟩, fun _ h => absurd h List.not_mem_nil⟩)
theorem nX12_fits : MNO yX12_fits cX12_fits 4 (some .boolean) 3 := ⟨gd_of (i := 1108) (by decide +kernel) rfl, gd_of (i := 81) (by decide +kernel) rfl, by decide +kernel, by decide +kernel⟩
theorem sX12_fits : Cond.instanceMethod yX12_fits ∈ gdW ∧ Cond.selects yX12_fits.cls yX12_fits yX12_fits ∈ gdW := ⟨gd_of (i := 1107) (by decide +kernel) rfl, gd_of (i := 56) (by decide +kernel) rfl⟩
theorem kX12_fits : MCK yX12_fits.cls cX12_fits mX12_fits false := ⟨by unfold dchk; decide +kernel, [857, 873, 874], [], [], [], by decide +kernel, by decide +kernel, by decide +kernel, by decide +kernel⟩
theorem vX12_fits (l : Launch) : MetM l yX12_fits cX12_fits 4 (some .boolean) 1 21 0 0 fX12_fits := metM_of false nX12_fits rfl kX12_fits (fun h => by cases h) cokg (fun p e s m args below meth c D aC A ad0 N0 X => List.forall_mem_cons.mpr ⟨clk_V X (vX12_isOne l) nX12_isOne sX12_isOne ⟨by decide, rfl⟩ (gd_of (i := 1089) (by decide +kernel) rfl) ⟨Nat.le_of_ble_eq_true rfl, Nat.le_of_ble_eq_true rfl⟩, fun _ h => absurd h List.not_mem_nil⟩)
theorem nX12_gives : MNO yX12_gives cX12_gives 2 none 1 := ⟨gd_of (i := 1100) (by decide +kernel) rfl, gd_of (i := 81) (by decide +kernel) rfl, by decide +kernel, by decide +kernel⟩
theorem sX12_gives : Cond.instanceMethod yX12_gives ∈ gdW ∧ Cond.selects yX12_gives.cls yX12_gives yX12_gives ∈ gdW := ⟨gd_of (i := 1099) (by decide +kernel) rfl, gd_of (i := 54) (by decide +kernel) rfl⟩
theorem kX12_gives : MCK yX12_gives.cls cX12_gives mX12_gives false := ⟨by unfold dchk; decide +kernel, [872, 873, 874], [], [], [], by decide +kernel, by decide +kernel, by decide +kernel, by decide +kernel⟩
theorem vX12_gives (l : Launch) : MetM l yX12_gives cX12_gives 2 none 1 21 0 0 fX12_gives := metM_of false nX12_gives rfl kX12_gives (fun h => by cases h) cokg (fun p e s m args below meth c D aC A ad0 N0 X => List.forall_mem_cons.mpr ⟨clk_V X (vX12_isOne l) nX12_isOne sX12_isOne ⟨by decide, rfl⟩ (gd_of (i := 1089) (by decide +kernel) rfl) ⟨Nat.le_of_ble_eq_true rfl, Nat.le_of_ble_eq_true rfl⟩, fun _ h => absurd h List.not_mem_nil⟩)
theorem nX12_laysTwos : MNO yX12_laysTwos cX12_laysTwos 4 none 0 := ⟨gd_of (i := 1088) (by decide +kernel) rfl, gd_of (i := 81) (by decide +kernel) rfl, by decide +kernel, by decide +kernel⟩
theorem sX12_laysTwos : Cond.instanceMethod yX12_laysTwos ∈ gdW ∧ Cond.selects yX12_laysTwos.cls yX12_laysTwos yX12_laysTwos ∈ gdW := ⟨gd_of (i := 1087) (by decide +kernel) rfl, gd_of (i := 51) (by decide +kernel) rfl⟩
theorem kX12_laysTwos : MCK yX12_laysTwos.cls cX12_laysTwos mX12_laysTwos false := ⟨by unfold dchk; decide +kernel, [855, 873, 875, 871], [], [], [], by decide +kernel, by decide +kernel, by decide +kernel, by decide +kernel⟩
theorem vX12_laysTwos (l : Launch) : MetM l yX12_laysTwos cX12_laysTwos 4 none 2 44 0 0 fX12_laysTwos := metM_of false nX12_laysTwos rfl kX12_laysTwos (fun h => by cases h) cokg (fun p e s m args below meth c D aC A ad0 N0 X => List.forall_mem_cons.mpr ⟨clk_V X (vX12_isOne l) nX12_isOne sX12_isOne ⟨by decide, rfl⟩ (gd_of (i := 1089) (by decide +kernel) rfl) ⟨Nat.le_of_ble_eq_true rfl, Nat.le_of_ble_eq_true rfl⟩, List.forall_mem_cons.mpr ⟨clk_V X (vX12_meets l) nX12_meets sX12_meets ⟨by decide, rfl⟩ (gd_of (i := 1093) (by decide +kernel) rfl) ⟨Nat.le_of_ble_eq_true rfl, Nat.le_of_ble_eq_true rfl⟩, List.forall_mem_cons.mpr ⟨clk_V X (vX12_gives l) nX12_gives sX12_gives ⟨by decide, rfl⟩ (gd_of (i := 1097) (by decide +kernel) rfl) ⟨Nat.le_of_ble_eq_true rfl, Nat.le_of_ble_eq_true rfl⟩, fun _ h => absurd h List.not_mem_nil⟩⟩⟩)
theorem nX12_laysThrees : MNO yX12_laysThrees cX12_laysThrees 5 none 2 := ⟨gd_of (i := 1104) (by decide +kernel) rfl, gd_of (i := 81) (by decide +kernel) rfl, by decide +kernel, by decide +kernel⟩
theorem sX12_laysThrees : Cond.instanceMethod yX12_laysThrees ∈ gdW ∧ Cond.selects yX12_laysThrees.cls yX12_laysThrees yX12_laysThrees ∈ gdW := ⟨gd_of (i := 1103) (by decide +kernel) rfl, gd_of (i := 55) (by decide +kernel) rfl⟩
theorem kX12_laysThrees : MCK yX12_laysThrees.cls cX12_laysThrees mX12_laysThrees false := ⟨by unfold dchk; decide +kernel, [855, 873, 875, 871], [], [], [], by decide +kernel, by decide +kernel, by decide +kernel, by decide +kernel⟩
theorem vX12_laysThrees (l : Launch) : MetM l yX12_laysThrees cX12_laysThrees 5 none 2 44 0 0 fX12_laysThrees := metM_of false nX12_laysThrees rfl kX12_laysThrees (fun h => by cases h) cokg (fun p e s m args below meth c D aC A ad0 N0 X => List.forall_mem_cons.mpr ⟨clk_V X (vX12_meets l) nX12_meets sX12_meets ⟨by decide, rfl⟩ (gd_of (i := 1093) (by decide +kernel) rfl) ⟨Nat.le_of_ble_eq_true rfl, Nat.le_of_ble_eq_true rfl⟩, List.forall_mem_cons.mpr ⟨clk_V X (vX12_gives l) nX12_gives sX12_gives ⟨by decide, rfl⟩ (gd_of (i := 1097) (by decide +kernel) rfl) ⟨Nat.le_of_ble_eq_true rfl, Nat.le_of_ble_eq_true rfl⟩, List.forall_mem_cons.mpr ⟨clk_V X (vX12_fits l) nX12_fits sX12_fits ⟨by decide, rfl⟩ (gd_of (i := 1105) (by decide +kernel) rfl) ⟨Nat.le_of_ble_eq_true rfl, Nat.le_of_ble_eq_true rfl⟩, fun _ h => absurd h List.not_mem_nil⟩⟩⟩)
theorem nX12_laysRings : MNO yX12_laysRings cX12_laysRings 3 none 0 := ⟨gd_of (i := 1080) (by decide +kernel) rfl, gd_of (i := 81) (by decide +kernel) rfl, by decide +kernel, by decide +kernel⟩
theorem sX12_laysRings : Cond.instanceMethod yX12_laysRings ∈ gdW ∧ Cond.selects yX12_laysRings.cls yX12_laysRings yX12_laysRings ∈ gdW := ⟨gd_of (i := 1079) (by decide +kernel) rfl, gd_of (i := 49) (by decide +kernel) rfl⟩
theorem kX12_laysRings : MCK yX12_laysRings.cls cX12_laysRings mX12_laysRings false := ⟨by unfold dchk; decide +kernel, [855, 872, 873, 875, 871], [], [], [], by decide +kernel, by decide +kernel, by decide +kernel, by decide +kernel⟩
theorem vX12_laysRings (l : Launch) : MetM l yX12_laysRings cX12_laysRings 3 none 3 68 0 0 fX12_laysRings := metM_of false nX12_laysRings rfl kX12_laysRings (fun h => by cases h) cokg (fun p e s m args below meth c D aC A ad0 N0 X => List.forall_mem_cons.mpr ⟨clk_V X (vX12_meets l) nX12_meets sX12_meets ⟨by decide, rfl⟩ (gd_of (i := 1093) (by decide +kernel) rfl) ⟨Nat.le_of_ble_eq_true rfl, Nat.le_of_ble_eq_true rfl⟩, List.forall_mem_cons.mpr ⟨clk_V X (vX12_laysGifts l) nX12_laysGifts sX12_laysGifts ⟨by decide, rfl⟩ (gd_of (i := 1081) (by decide +kernel) rfl) ⟨Nat.le_of_ble_eq_true rfl, Nat.le_of_ble_eq_true rfl⟩, List.forall_mem_cons.mpr ⟨clk_V X (vX12_laysTwos l) nX12_laysTwos sX12_laysTwos ⟨by decide, rfl⟩ (gd_of (i := 1085) (by decide +kernel) rfl) ⟨Nat.le_of_ble_eq_true rfl, Nat.le_of_ble_eq_true rfl⟩, List.forall_mem_cons.mpr ⟨clk_V X (vX12_laysThrees l) nX12_laysThrees sX12_laysThrees ⟨by decide, rfl⟩ (gd_of (i := 1101) (by decide +kernel) rfl) ⟨Nat.le_of_ble_eq_true rfl, Nat.le_of_ble_eq_true rfl⟩, fun _ h => absurd h List.not_mem_nil⟩⟩⟩⟩)
theorem nX12_isPair : MNO yX12_isPair cX12_isPair 3 (some .boolean) 2 := ⟨gd_of (i := 1034) (by decide +kernel) rfl, gd_of (i := 81) (by decide +kernel) rfl, by decide +kernel, by decide +kernel⟩
theorem sX12_isPair : Cond.instanceMethod yX12_isPair ∈ gdW ∧ Cond.selects yX12_isPair.cls yX12_isPair yX12_isPair ∈ gdW := ⟨gd_of (i := 1033) (by decide +kernel) rfl, gd_of (i := 41) (by decide +kernel) rfl⟩
theorem kX12_isPair : MCK yX12_isPair.cls cX12_isPair mX12_isPair false := ⟨by unfold dchk; decide +kernel, [872], [], [], [], by decide +kernel, by decide +kernel, by decide +kernel, by decide +kernel⟩
theorem vX12_isPair (l : Launch) : MetM l yX12_isPair cX12_isPair 3 (some .boolean) 0 0 0 0 fX12_isPair := metM_of false nX12_isPair rfl kX12_isPair (fun h => by cases h) cokg (fun p e s m args below meth c D aC A ad0 N0 X => fun _ h => absurd h List.not_mem_nil)
theorem nX12_isLoose : MNO yX12_isLoose cX12_isLoose 3 (some .boolean) 2 := ⟨gd_of (i := 1030) (by decide +kernel) rfl, gd_of (i := 81) (by decide +kernel) rfl, by decide +kernel, by decide +kernel⟩
theorem sX12_isLoose : Cond.instanceMethod yX12_isLoose ∈ gdW ∧ Cond.selects yX12_isLoose.cls yX12_isLoose yX12_isLoose ∈ gdW := ⟨gd_of (i := 1029) (by decide +kernel) rfl, gd_of (i := 40) (by decide +kernel) rfl⟩
theorem kX12_isLoose : MCK yX12_isLoose.cls cX12_isLoose mX12_isLoose false := ⟨by unfold dchk; decide +kernel, [], [], [], [], by decide +kernel, by decide +kernel, by decide +kernel, by decide +kernel⟩
theorem vX12_isLoose (l : Launch) : MetM l yX12_isLoose cX12_isLoose 3 (some .boolean) 2 44 0 0 fX12_isLoose := metM_of false nX12_isLoose rfl kX12_isLoose (fun h => by cases h) cokg (fun p e s m args below meth c D aC A ad0 N0 X => List.forall_mem_cons.mpr ⟨clk_V X (vX12_isBound l) nX12_isBound sX12_isBound ⟨by decide, rfl⟩ (gd_of (i := 828) (by decide +kernel) rfl) ⟨Nat.le_of_ble_eq_true rfl, Nat.le_of_ble_eq_true rfl⟩, List.forall_mem_cons.mpr ⟨clk_V X (vX12_isPair l) nX12_isPair sX12_isPair ⟨by decide, rfl⟩ (gd_of (i := 1031) (by decide +kernel) rfl) ⟨Nat.le_of_ble_eq_true rfl, Nat.le_of_ble_eq_true rfl⟩, fun _ h => absurd h List.not_mem_nil⟩⟩)
theorem nX12_holds : MNO yX12_holds cX12_holds 5 (some .int) 1 := ⟨gd_of (i := 1026) (by decide +kernel) rfl, gd_of (i := 81) (by decide +kernel) rfl, by decide +kernel, by decide +kernel⟩
theorem sX12_holds : Cond.instanceMethod yX12_holds ∈ gdW ∧ Cond.selects yX12_holds.cls yX12_holds yX12_holds ∈ gdW := ⟨gd_of (i := 1025) (by decide +kernel) rfl, gd_of (i := 39) (by decide +kernel) rfl⟩
theorem kX12_holds : MCK yX12_holds.cls cX12_holds mX12_holds false := ⟨by unfold dchk; decide +kernel, [854], [], [], [], by decide +kernel, by decide +kernel, by decide +kernel, by decide +kernel⟩
theorem vX12_holds (l : Launch) : MetM l yX12_holds cX12_holds 5 (some .int) 3 66 0 0 fX12_holds := metM_of false nX12_holds rfl kX12_holds (fun h => by cases h) cokg (fun p e s m args below meth c D aC A ad0 N0 X => List.forall_mem_cons.mpr ⟨clk_S X (vX12_between l) nX12_between sX12_between (gd_of (i := 839) (by decide +kernel) rfl) ⟨Nat.le_of_ble_eq_true rfl, Nat.le_of_ble_eq_true rfl⟩, List.forall_mem_cons.mpr ⟨clk_V X (vX12_isLoose l) nX12_isLoose sX12_isLoose ⟨by decide, rfl⟩ (gd_of (i := 1027) (by decide +kernel) rfl) ⟨Nat.le_of_ble_eq_true rfl, Nat.le_of_ble_eq_true rfl⟩, fun _ h => absurd h List.not_mem_nil⟩⟩)
theorem nX12_loosePairs : MNO yX12_loosePairs cX12_loosePairs 1 (some .int) 0 := ⟨gd_of (i := 1144) (by decide +kernel) rfl, gd_of (i := 81) (by decide +kernel) rfl, by decide +kernel, by decide +kernel⟩
theorem sX12_loosePairs : Cond.instanceMethod yX12_loosePairs ∈ gdW ∧ Cond.selects yX12_loosePairs.cls yX12_loosePairs yX12_loosePairs ∈ gdW := ⟨gd_of (i := 1143) (by decide +kernel) rfl, gd_of (i := 60) (by decide +kernel) rfl⟩
theorem kX12_loosePairs : MCK yX12_loosePairs.cls cX12_loosePairs mX12_loosePairs false := ⟨by unfold dchk; decide +kernel, [], [], [], [], by decide +kernel, by decide +kernel, by decide +kernel, by decide +kernel⟩
theorem vX12_loosePairs (l : Launch) : MetM l yX12_loosePairs cX12_loosePairs 1 (some .int) 4 90 0 0 fX12_loosePairs := metM_of false nX12_loosePairs rfl kX12_loosePairs (fun h => by cases h) cokg (fun p e s m args below meth c D aC A ad0 N0 X => List.forall_mem_cons.mpr ⟨clk_V X (vX12_holds l) nX12_holds sX12_holds ⟨by decide, rfl⟩ (gd_of (i := 1023) (by decide +kernel) rfl) ⟨Nat.le_of_ble_eq_true rfl, Nat.le_of_ble_eq_true rfl⟩, fun _ h => absurd h List.not_mem_nil⟩)
theorem nX12_gaps : MNO yX12_gaps cX12_gaps 3 (some .int) 0 := ⟨gd_of (i := 1148) (by decide +kernel) rfl, gd_of (i := 81) (by decide +kernel) rfl, by decide +kernel, by decide +kernel⟩
theorem sX12_gaps : Cond.instanceMethod yX12_gaps ∈ gdW ∧ Cond.selects yX12_gaps.cls yX12_gaps yX12_gaps ∈ gdW := ⟨gd_of (i := 1147) (by decide +kernel) rfl, gd_of (i := 61) (by decide +kernel) rfl⟩
theorem kX12_gaps : MCK yX12_gaps.cls cX12_gaps mX12_gaps false := ⟨by unfold dchk; decide +kernel, [854], [], [], [], by decide +kernel, by decide +kernel, by decide +kernel, by decide +kernel⟩
theorem vX12_gaps (l : Launch) : MetM l yX12_gaps cX12_gaps 3 (some .int) 1 21 0 0 fX12_gaps := metM_of false nX12_gaps rfl kX12_gaps (fun h => by cases h) cokg (fun p e s m args below meth c D aC A ad0 N0 X => List.forall_mem_cons.mpr ⟨clk_V X (vX12_isGap l) nX12_isGap sX12_isGap ⟨by decide, rfl⟩ (gd_of (i := 1019) (by decide +kernel) rfl) ⟨Nat.le_of_ble_eq_true rfl, Nat.le_of_ble_eq_true rfl⟩, fun _ h => absurd h List.not_mem_nil⟩)
theorem nX12_price : MNO yX12_price cX12_price 4 (some .int) 1 := ⟨gd_of (i := 1124) (by decide +kernel) rfl, gd_of (i := 81) (by decide +kernel) rfl, by decide +kernel, by decide +kernel⟩
theorem sX12_price : Cond.instanceMethod yX12_price ∈ gdW ∧ Cond.selects yX12_price.cls yX12_price yX12_price ∈ gdW := ⟨gd_of (i := 1123) (by decide +kernel) rfl, gd_of (i := 58) (by decide +kernel) rfl⟩
theorem kX12_price : MCK yX12_price.cls cX12_price mX12_price false := ⟨by unfold dchk; decide +kernel, [858], [], [], [], by decide +kernel, by decide +kernel, by decide +kernel, by decide +kernel⟩
theorem vX12_price (l : Launch) : MetM l yX12_price cX12_price 4 (some .int) 1 21 0 0 fX12_price := metM_of false nX12_price rfl kX12_price (fun h => by cases h) cokg (fun p e s m args below meth c D aC A ad0 N0 X => List.forall_mem_cons.mpr ⟨clk_S X (vX12_has l) nX12_has sX12_has (gd_of (i := 836) (by decide +kernel) rfl) ⟨Nat.le_of_ble_eq_true rfl, Nat.le_of_ble_eq_true rfl⟩, fun _ h => absurd h List.not_mem_nil⟩)
theorem nX12_cheapest : MNO yX12_cheapest cX12_cheapest 5 (some .int) 0 := ⟨gd_of (i := 1140) (by decide +kernel) rfl, gd_of (i := 81) (by decide +kernel) rfl, by decide +kernel, by decide +kernel⟩
theorem sX12_cheapest : Cond.instanceMethod yX12_cheapest ∈ gdW ∧ Cond.selects yX12_cheapest.cls yX12_cheapest yX12_cheapest ∈ gdW := ⟨gd_of (i := 1139) (by decide +kernel) rfl, gd_of (i := 59) (by decide +kernel) rfl⟩
theorem kX12_cheapest : MCK yX12_cheapest.cls cX12_cheapest mX12_cheapest false := ⟨by unfold dchk; decide +kernel, [], [], [], [], by decide +kernel, by decide +kernel, by decide +kernel, by decide +kernel⟩
theorem vX12_cheapest (l : Launch) : MetM l yX12_cheapest cX12_cheapest 5 (some .int) 5 110 0 0 fX12_cheapest := metM_of false nX12_cheapest rfl kX12_cheapest (fun h => by cases h) cokg (fun p e s m args below meth c D aC A ad0 N0 X => List.forall_mem_cons.mpr ⟨clk_V X (vX12_holds l) nX12_holds sX12_holds ⟨by decide, rfl⟩ (gd_of (i := 1023) (by decide +kernel) rfl) ⟨Nat.le_of_ble_eq_true rfl, Nat.le_of_ble_eq_true rfl⟩, List.forall_mem_cons.mpr ⟨clk_V X (vX12_loosePairs l) nX12_loosePairs sX12_loosePairs ⟨by decide, rfl⟩ (gd_of (i := 1141) (by decide +kernel) rfl) ⟨Nat.le_of_ble_eq_true rfl, Nat.le_of_ble_eq_true rfl⟩, List.forall_mem_cons.mpr ⟨clk_V X (vX12_gaps l) nX12_gaps sX12_gaps ⟨by decide, rfl⟩ (gd_of (i := 1145) (by decide +kernel) rfl) ⟨Nat.le_of_ble_eq_true rfl, Nat.le_of_ble_eq_true rfl⟩, List.forall_mem_cons.mpr ⟨clk_V X (vX12_price l) nX12_price sX12_price ⟨by decide, rfl⟩ (gd_of (i := 1121) (by decide +kernel) rfl) ⟨Nat.le_of_ble_eq_true rfl, Nat.le_of_ble_eq_true rfl⟩, fun _ h => absurd h List.not_mem_nil⟩⟩⟩⟩)
theorem nX12_needed : MNO yX12_needed cX12_needed 3 (some .int) 0 := ⟨gd_of (i := 1201) (by decide +kernel) rfl, gd_of (i := 81) (by decide +kernel) rfl, by decide +kernel, by decide +kernel⟩
theorem sX12_needed : Cond.instanceMethod yX12_needed ∈ gdW ∧ Cond.selects yX12_needed.cls yX12_needed yX12_needed ∈ gdW := ⟨gd_of (i := 1200) (by decide +kernel) rfl, gd_of (i := 65) (by decide +kernel) rfl⟩
theorem kX12_needed : MCK yX12_needed.cls cX12_needed mX12_needed false := ⟨by unfold dchk; decide +kernel, [854, 859], [], [], [], by decide +kernel, by decide +kernel, by decide +kernel, by decide +kernel⟩
theorem vX12_needed (l : Launch) : MetM l yX12_needed cX12_needed 3 (some .int) 4 90 0 0 fX12_needed := metM_of false nX12_needed rfl kX12_needed (fun h => by cases h) cokg (fun p e s m args below meth c D aC A ad0 N0 X => List.forall_mem_cons.mpr ⟨clk_S X (vX12_has l) nX12_has sX12_has (gd_of (i := 836) (by decide +kernel) rfl) ⟨Nat.le_of_ble_eq_true rfl, Nat.le_of_ble_eq_true rfl⟩, List.forall_mem_cons.mpr ⟨clk_V X (vX12_holds l) nX12_holds sX12_holds ⟨by decide, rfl⟩ (gd_of (i := 1023) (by decide +kernel) rfl) ⟨Nat.le_of_ble_eq_true rfl, Nat.le_of_ble_eq_true rfl⟩, fun _ h => absurd h List.not_mem_nil⟩⟩)
theorem nX12_step : MNO yX12_step cX12_step 3 (some .int) 2 := ⟨gd_of (i := 1013) (by decide +kernel) rfl, gd_of (i := 81) (by decide +kernel) rfl, by decide +kernel, by decide +kernel⟩
theorem sX12_step : Cond.instanceMethod yX12_step ∈ gdW ∧ Cond.selects yX12_step.cls yX12_step yX12_step ∈ gdW := ⟨gd_of (i := 1011) (by decide +kernel) rfl, gd_of (i := 1012) (by decide +kernel) rfl⟩
theorem kX12_step : MCK yX12_step.cls cX12_step mX12_step false := ⟨by unfold dchk; decide +kernel, [855, 856, 857, 858], [], [994, 1018], [], by decide +kernel, by decide +kernel, by decide +kernel, by decide +kernel⟩
theorem vX12_step (l : Launch) : MetM l yX12_step cX12_step 3 (some .int) 4 90 0 0 fX12_step := metM_of false nX12_step rfl kX12_step (fun h => by cases h) cokg (fun p e s m args below meth c D aC A ad0 N0 X => List.forall_mem_cons.mpr ⟨clk_V X (vX12_waits l) nX12_waits sX12_waits ⟨by decide, rfl⟩ (gd_of (i := 824) (by decide +kernel) rfl) ⟨Nat.le_of_ble_eq_true rfl, Nat.le_of_ble_eq_true rfl⟩, List.forall_mem_cons.mpr ⟨clk_V X (vX12_holds l) nX12_holds sX12_holds ⟨by decide, rfl⟩ (gd_of (i := 1023) (by decide +kernel) rfl) ⟨Nat.le_of_ble_eq_true rfl, Nat.le_of_ble_eq_true rfl⟩, List.forall_mem_cons.mpr ⟨clk_V X (vX12_isGap l) nX12_isGap sX12_isGap ⟨by decide, rfl⟩ (gd_of (i := 1019) (by decide +kernel) rfl) ⟨Nat.le_of_ble_eq_true rfl, Nat.le_of_ble_eq_true rfl⟩, List.forall_mem_cons.mpr ⟨clk_V X (vX12_isStep l) nX12_isStep sX12_isStep ⟨by decide, rfl⟩ (gd_of (i := 1014) (by decide +kernel) rfl) ⟨Nat.le_of_ble_eq_true rfl, Nat.le_of_ble_eq_true rfl⟩, List.forall_mem_cons.mpr ⟨clk_V X (vX12_conflicts l) nX12_conflicts sX12_conflicts ⟨by decide, rfl⟩ (gd_of (i := 1035) (by decide +kernel) rfl) ⟨Nat.le_of_ble_eq_true rfl, Nat.le_of_ble_eq_true rfl⟩, fun _ h => absurd h List.not_mem_nil⟩⟩⟩⟩⟩)
theorem nX12_pair : MNO yX12_pair cX12_pair 4 (some .int) 3 := ⟨gd_of (i := 1046) (by decide +kernel) rfl, gd_of (i := 81) (by decide +kernel) rfl, by decide +kernel, by decide +kernel⟩
theorem sX12_pair : Cond.instanceMethod yX12_pair ∈ gdW ∧ Cond.selects yX12_pair.cls yX12_pair yX12_pair ∈ gdW := ⟨gd_of (i := 1044) (by decide +kernel) rfl, gd_of (i := 1045) (by decide +kernel) rfl⟩
theorem kX12_pair : MCK yX12_pair.cls cX12_pair mX12_pair false := ⟨by unfold dchk; decide +kernel, [872, 859], [], [994, 1018, 1047], [], by decide +kernel, by decide +kernel, by decide +kernel, by decide +kernel⟩
theorem vX12_pair (l : Launch) : MetM l yX12_pair cX12_pair 4 (some .int) 3 66 0 0 fX12_pair := metM_of false nX12_pair rfl kX12_pair (fun h => by cases h) cokg (fun p e s m args below meth c D aC A ad0 N0 X => List.forall_mem_cons.mpr ⟨clk_V X (vX12_isAhead l) nX12_isAhead sX12_isAhead ⟨by decide, rfl⟩ (gd_of (i := 820) (by decide +kernel) rfl) ⟨Nat.le_of_ble_eq_true rfl, Nat.le_of_ble_eq_true rfl⟩, List.forall_mem_cons.mpr ⟨clk_S X (vX12_between l) nX12_between sX12_between (gd_of (i := 839) (by decide +kernel) rfl) ⟨Nat.le_of_ble_eq_true rfl, Nat.le_of_ble_eq_true rfl⟩, List.forall_mem_cons.mpr ⟨clk_V X (vX12_isPair l) nX12_isPair sX12_isPair ⟨by decide, rfl⟩ (gd_of (i := 1031) (by decide +kernel) rfl) ⟨Nat.le_of_ble_eq_true rfl, Nat.le_of_ble_eq_true rfl⟩, List.forall_mem_cons.mpr ⟨clk_V X (vX12_isLoose l) nX12_isLoose sX12_isLoose ⟨by decide, rfl⟩ (gd_of (i := 1027) (by decide +kernel) rfl) ⟨Nat.le_of_ble_eq_true rfl, Nat.le_of_ble_eq_true rfl⟩, List.forall_mem_cons.mpr ⟨clk_V X (vX12_isStep l) nX12_isStep sX12_isStep ⟨by decide, rfl⟩ (gd_of (i := 1014) (by decide +kernel) rfl) ⟨Nat.le_of_ble_eq_true rfl, Nat.le_of_ble_eq_true rfl⟩, fun _ h => absurd h List.not_mem_nil⟩⟩⟩⟩⟩)
end
section
/-! more contracts (by program) -/
theorem nX12_feed : MNO yX12_feed cX12_feed 2 (some .int) 1 := ⟨gd_of (i := 1051) (by decide +kernel) rfl, gd_of (i := 81) (by decide +kernel) rfl, by decide +kernel, by decide +kernel⟩
theorem sX12_feed : Cond.instanceMethod yX12_feed ∈ gdW ∧ Cond.selects yX12_feed.cls yX12_feed yX12_feed ∈ gdW := ⟨gd_of (i := 1049) (by decide +kernel) rfl, gd_of (i := 1050) (by decide +kernel) rfl⟩
theorem kX12_feed : MCK yX12_feed.cls cX12_feed mX12_feed false := ⟨by unfold dchk; decide +kernel, [876, 877], [], [994, 1052], [], by decide +kernel, by decide +kernel, by decide +kernel, by decide +kernel⟩
theorem vX12_feed (l : Launch) : MetM l yX12_feed cX12_feed 2 (some .int) 0 0 0 0 fX12_feed := metM_of false nX12_feed rfl kX12_feed (fun h => by cases h) cokg (fun p e s m args below meth c D aC A ad0 N0 X => fun _ h => absurd h List.not_mem_nil)
theorem nX12_sign : MNO yX12_sign cX12_sign 1 (some .int) 0 := ⟨gd_of (i := 1064) (by decide +kernel) rfl, gd_of (i := 81) (by decide +kernel) rfl, by decide +kernel, by decide +kernel⟩
theorem sX12_sign : Cond.instanceMethod yX12_sign ∈ gdW ∧ Cond.selects yX12_sign.cls yX12_sign yX12_sign ∈ gdW := ⟨gd_of (i := 1063) (by decide +kernel) rfl, gd_of (i := 45) (by decide +kernel) rfl⟩
theorem kX12_sign : MCK yX12_sign.cls cX12_sign mX12_sign false := ⟨by unfold dchk; decide +kernel, [876, 877, 879], [], [], [], by decide +kernel, by decide +kernel, by decide +kernel, by decide +kernel⟩
theorem vX12_sign (l : Launch) : MetM l yX12_sign cX12_sign 1 (some .int) 0 0 0 0 fX12_sign := metM_of false nX12_sign rfl kX12_sign (fun h => by cases h) cokg (fun p e s m args below meth c D aC A ad0 N0 X => fun _ h => absurd h List.not_mem_nil)
theorem nX12_ends : MNO yX12_ends cX12_ends 1 (some .int) 0 := ⟨gd_of (i := 1072) (by decide +kernel) rfl, gd_of (i := 81) (by decide +kernel) rfl, by decide +kernel, by decide +kernel⟩
theorem sX12_ends : Cond.instanceMethod yX12_ends ∈ gdW ∧ Cond.selects yX12_ends.cls yX12_ends yX12_ends ∈ gdW := ⟨gd_of (i := 1071) (by decide +kernel) rfl, gd_of (i := 47) (by decide +kernel) rfl⟩
theorem kX12_ends : MCK yX12_ends.cls cX12_ends mX12_ends false := ⟨by unfold dchk; decide +kernel, [879], [], [], [], by decide +kernel, by decide +kernel, by decide +kernel, by decide +kernel⟩
theorem vX12_ends (l : Launch) : MetM l yX12_ends cX12_ends 1 (some .int) 1 20 0 0 fX12_ends := metM_of false nX12_ends rfl kX12_ends (fun h => by cases h) cokg (fun p e s m args below meth c D aC A ad0 N0 X => List.forall_mem_cons.mpr ⟨clk_V X (vX12_sign l) nX12_sign sX12_sign ⟨by decide, rfl⟩ (gd_of (i := 1061) (by decide +kernel) rfl) ⟨Nat.le_of_ble_eq_true rfl, Nat.le_of_ble_eq_true rfl⟩, fun _ h => absurd h List.not_mem_nil⟩)
theorem nX12_readsThread : MNO yX12_readsThread cX12_readsThread 1 (some .int) 0 := ⟨gd_of (i := 1068) (by decide +kernel) rfl, gd_of (i := 81) (by decide +kernel) rfl, by decide +kernel, by decide +kernel⟩
theorem sX12_readsThread : Cond.instanceMethod yX12_readsThread ∈ gdW ∧ Cond.selects yX12_readsThread.cls yX12_readsThread yX12_readsThread ∈ gdW := ⟨gd_of (i := 1067) (by decide +kernel) rfl, gd_of (i := 46) (by decide +kernel) rfl⟩
theorem kX12_readsThread : MCK yX12_readsThread.cls cX12_readsThread mX12_readsThread false := ⟨by unfold dchk; decide +kernel, [879, 880], [], [], [], by decide +kernel, by decide +kernel, by decide +kernel, by decide +kernel⟩
theorem vX12_readsThread (l : Launch) : MetM l yX12_readsThread cX12_readsThread 1 (some .int) 2 40 0 0 fX12_readsThread := metM_of false nX12_readsThread rfl kX12_readsThread (fun h => by cases h) cokg (fun p e s m args below meth c D aC A ad0 N0 X => List.forall_mem_cons.mpr ⟨clk_V X (vX12_ends l) nX12_ends sX12_ends ⟨by decide, rfl⟩ (gd_of (i := 1069) (by decide +kernel) rfl) ⟨Nat.le_of_ble_eq_true rfl, Nat.le_of_ble_eq_true rfl⟩, fun _ h => absurd h List.not_mem_nil⟩)
theorem nX12_readsStep : MNO yX12_readsStep cX12_readsStep 3 (some .int) 1 := ⟨gd_of (i := 1076) (by decide +kernel) rfl, gd_of (i := 81) (by decide +kernel) rfl, by decide +kernel, by decide +kernel⟩
theorem sX12_readsStep : Cond.instanceMethod yX12_readsStep ∈ gdW ∧ Cond.selects yX12_readsStep.cls yX12_readsStep yX12_readsStep ∈ gdW := ⟨gd_of (i := 1075) (by decide +kernel) rfl, gd_of (i := 48) (by decide +kernel) rfl⟩
theorem kX12_readsStep : MCK yX12_readsStep.cls cX12_readsStep mX12_readsStep false := ⟨by unfold dchk; decide +kernel, [882, 883, 884, 879, 880, 881], [], [], [], by decide +kernel, by decide +kernel, by decide +kernel, by decide +kernel⟩
theorem vX12_readsStep (l : Launch) : MetM l yX12_readsStep cX12_readsStep 3 (some .int) 2 40 0 0 fX12_readsStep := metM_of false nX12_readsStep rfl kX12_readsStep (fun h => by cases h) cokg (fun p e s m args below meth c D aC A ad0 N0 X => List.forall_mem_cons.mpr ⟨clk_V X (vX12_sign l) nX12_sign sX12_sign ⟨by decide, rfl⟩ (gd_of (i := 1061) (by decide +kernel) rfl) ⟨Nat.le_of_ble_eq_true rfl, Nat.le_of_ble_eq_true rfl⟩, List.forall_mem_cons.mpr ⟨clk_V X (vX12_ends l) nX12_ends sX12_ends ⟨by decide, rfl⟩ (gd_of (i := 1069) (by decide +kernel) rfl) ⟨Nat.le_of_ble_eq_true rfl, Nat.le_of_ble_eq_true rfl⟩, fun _ h => absurd h List.not_mem_nil⟩⟩)
theorem nX12_reads : MNO yX12_reads cX12_reads 3 (some .int) 0 := ⟨gd_of (i := 1060) (by decide +kernel) rfl, gd_of (i := 81) (by decide +kernel) rfl, by decide +kernel, by decide +kernel⟩
theorem sX12_reads : Cond.instanceMethod yX12_reads ∈ gdW ∧ Cond.selects yX12_reads.cls yX12_reads yX12_reads ∈ gdW := ⟨gd_of (i := 1059) (by decide +kernel) rfl, gd_of (i := 44) (by decide +kernel) rfl⟩
theorem kX12_reads : MCK yX12_reads.cls cX12_reads mX12_reads false := ⟨by unfold dchk; decide +kernel, [879, 880, 881], [], [], [], by decide +kernel, by decide +kernel, by decide +kernel, by decide +kernel⟩
theorem vX12_reads (l : Launch) : MetM l yX12_reads cX12_reads 3 (some .int) 3 62 0 0 fX12_reads := metM_of false nX12_reads rfl kX12_reads (fun h => by cases h) cokg (fun p e s m args below meth c D aC A ad0 N0 X => List.forall_mem_cons.mpr ⟨clk_V X (vX12_sign l) nX12_sign sX12_sign ⟨by decide, rfl⟩ (gd_of (i := 1061) (by decide +kernel) rfl) ⟨Nat.le_of_ble_eq_true rfl, Nat.le_of_ble_eq_true rfl⟩, List.forall_mem_cons.mpr ⟨clk_V X (vX12_readsThread l) nX12_readsThread sX12_readsThread ⟨by decide, rfl⟩ (gd_of (i := 1065) (by decide +kernel) rfl) ⟨Nat.le_of_ble_eq_true rfl, Nat.le_of_ble_eq_true rfl⟩, List.forall_mem_cons.mpr ⟨clk_V X (vX12_readsStep l) nX12_readsStep sX12_readsStep ⟨by decide, rfl⟩ (gd_of (i := 1073) (by decide +kernel) rfl) ⟨Nat.le_of_ble_eq_true rfl, Nat.le_of_ble_eq_true rfl⟩, fun _ h => absurd h List.not_mem_nil⟩⟩⟩)
theorem nX12_threads : MNO yX12_threads cX12_threads 3 (some .int) 0 := ⟨gd_of (i := 1056) (by decide +kernel) rfl, gd_of (i := 81) (by decide +kernel) rfl, by decide +kernel, by decide +kernel⟩
theorem sX12_threads : Cond.instanceMethod yX12_threads ∈ gdW ∧ Cond.selects yX12_threads.cls yX12_threads yX12_threads ∈ gdW := ⟨gd_of (i := 1054) (by decide +kernel) rfl, gd_of (i := 1055) (by decide +kernel) rfl⟩
theorem kX12_threads : MCK yX12_threads.cls cX12_threads mX12_threads false := ⟨by unfold dchk; decide +kernel, [855, 856, 857, 858, 860, 861, 878, 882, 883, 884, 893, 863, 854, 859, 865, 877, 879, 880, 881, 853, 890, 885], [], [], [], by decide +kernel, by decide +kernel, by decide +kernel, by decide +kernel⟩
theorem vX12_threads (l : Launch) : MetM l yX12_threads cX12_threads 3 (some .int) 4 93 0 0 fX12_threads := metM_of false nX12_threads rfl kX12_threads (fun h => by cases h) cokg (fun p e s m args below meth c D aC A ad0 N0 X => List.forall_mem_cons.mpr ⟨clk_V X (vX12_goes l) nX12_goes sX12_goes ⟨by decide, rfl⟩ (gd_of (i := 812) (by decide +kernel) rfl) ⟨Nat.le_of_ble_eq_true rfl, Nat.le_of_ble_eq_true rfl⟩, List.forall_mem_cons.mpr ⟨clk_V X (vX12_reads l) nX12_reads sX12_reads ⟨by decide, rfl⟩ (gd_of (i := 1057) (by decide +kernel) rfl) ⟨Nat.le_of_ble_eq_true rfl, Nat.le_of_ble_eq_true rfl⟩, List.forall_mem_cons.mpr ⟨clk_V X (vX12_laysRings l) nX12_laysRings sX12_laysRings ⟨by decide, rfl⟩ (gd_of (i := 1077) (by decide +kernel) rfl) ⟨Nat.le_of_ble_eq_true rfl, Nat.le_of_ble_eq_true rfl⟩, fun _ h => absurd h List.not_mem_nil⟩⟩⟩)
theorem nX12_fault : MNO yX12_fault cX12_fault 1 (some .int) 0 := ⟨gd_of (i := 1112) (by decide +kernel) rfl, gd_of (i := 81) (by decide +kernel) rfl, by decide +kernel, by decide +kernel⟩
theorem sX12_fault : Cond.instanceMethod yX12_fault ∈ gdW ∧ Cond.selects yX12_fault.cls yX12_fault yX12_fault ∈ gdW := ⟨gd_of (i := 1110) (by decide +kernel) rfl, gd_of (i := 1111) (by decide +kernel) rfl⟩
theorem kX12_fault : MCK yX12_fault.cls cX12_fault mX12_fault false := ⟨by unfold dchk; decide +kernel, [878], [], [], [], by decide +kernel, by decide +kernel, by decide +kernel, by decide +kernel⟩
theorem vX12_fault (l : Launch) : MetM l yX12_fault cX12_fault 1 (some .int) 0 0 0 0 fX12_fault := metM_of false nX12_fault rfl kX12_fault (fun h => by cases h) cokg (fun p e s m args below meth c D aC A ad0 N0 X => fun _ h => absurd h List.not_mem_nil)
theorem nX12_marks : MNO yX12_marks cX12_marks 2 none 0 := ⟨gd_of (i := 1120) (by decide +kernel) rfl, gd_of (i := 81) (by decide +kernel) rfl, by decide +kernel, by decide +kernel⟩
theorem sX12_marks : Cond.instanceMethod yX12_marks ∈ gdW ∧ Cond.selects yX12_marks.cls yX12_marks yX12_marks ∈ gdW := ⟨gd_of (i := 1119) (by decide +kernel) rfl, gd_of (i := 57) (by decide +kernel) rfl⟩
theorem kX12_marks : MCK yX12_marks.cls cX12_marks mX12_marks false := ⟨by unfold dchk; decide +kernel, [858, 860, 886, 887, 888, 859, 865, 885], [], [], [], by decide +kernel, by decide +kernel, by decide +kernel, by decide +kernel⟩
theorem vX12_marks (l : Launch) : MetM l yX12_marks cX12_marks 2 none 0 0 0 0 fX12_marks := metM_of false nX12_marks rfl kX12_marks (fun h => by cases h) cokg (fun p e s m args below meth c D aC A ad0 N0 X => fun _ h => absurd h List.not_mem_nil)
theorem nX12_fence : MNO yX12_fence cX12_fence 3 (some .int) 2 := ⟨gd_of (i := 1116) (by decide +kernel) rfl, gd_of (i := 81) (by decide +kernel) rfl, by decide +kernel, by decide +kernel⟩
theorem sX12_fence : Cond.instanceMethod yX12_fence ∈ gdW ∧ Cond.selects yX12_fence.cls yX12_fence yX12_fence ∈ gdW := ⟨gd_of (i := 1114) (by decide +kernel) rfl, gd_of (i := 1115) (by decide +kernel) rfl⟩
theorem kX12_fence : MCK yX12_fence.cls cX12_fence mX12_fence false := ⟨by unfold dchk; decide +kernel, [859], [], [1018], [], by decide +kernel, by decide +kernel, by decide +kernel, by decide +kernel⟩
theorem vX12_fence (l : Launch) : MetM l yX12_fence cX12_fence 3 (some .int) 2 44 0 0 fX12_fence := metM_of false nX12_fence rfl kX12_fence (fun h => by cases h) cokg (fun p e s m args below meth c D aC A ad0 N0 X => List.forall_mem_cons.mpr ⟨clk_V X (vX12_isGap l) nX12_isGap sX12_isGap ⟨by decide, rfl⟩ (gd_of (i := 1019) (by decide +kernel) rfl) ⟨Nat.le_of_ble_eq_true rfl, Nat.le_of_ble_eq_true rfl⟩, List.forall_mem_cons.mpr ⟨clk_V X (vX12_price l) nX12_price sX12_price ⟨by decide, rfl⟩ (gd_of (i := 1121) (by decide +kernel) rfl) ⟨Nat.le_of_ble_eq_true rfl, Nat.le_of_ble_eq_true rfl⟩, List.forall_mem_cons.mpr ⟨clk_V X (vX12_marks l) nX12_marks sX12_marks ⟨by decide, rfl⟩ (gd_of (i := 1117) (by decide +kernel) rfl) ⟨Nat.le_of_ble_eq_true rfl, Nat.le_of_ble_eq_true rfl⟩, fun _ h => absurd h List.not_mem_nil⟩⟩⟩)
theorem nX12_cost : MNO yX12_cost cX12_cost 4 (some .int) 2 := ⟨gd_of (i := 1128) (by decide +kernel) rfl, gd_of (i := 81) (by decide +kernel) rfl, by decide +kernel, by decide +kernel⟩
theorem sX12_cost : Cond.instanceMethod yX12_cost ∈ gdW ∧ Cond.selects yX12_cost.cls yX12_cost yX12_cost ∈ gdW := ⟨gd_of (i := 1126) (by decide +kernel) rfl, gd_of (i := 1127) (by decide +kernel) rfl⟩
theorem kX12_cost : MCK yX12_cost.cls cX12_cost mX12_cost false := ⟨by unfold dchk; decide +kernel, [858], [], [994, 1018], [], by decide +kernel, by decide +kernel, by decide +kernel, by decide +kernel⟩
theorem vX12_cost (l : Launch) : MetM l yX12_cost cX12_cost 4 (some .int) 1 21 0 0 fX12_cost := metM_of false nX12_cost rfl kX12_cost (fun h => by cases h) cokg (fun p e s m args below meth c D aC A ad0 N0 X => List.forall_mem_cons.mpr ⟨clk_V X (vX12_isGap l) nX12_isGap sX12_isGap ⟨by decide, rfl⟩ (gd_of (i := 1019) (by decide +kernel) rfl) ⟨Nat.le_of_ble_eq_true rfl, Nat.le_of_ble_eq_true rfl⟩, List.forall_mem_cons.mpr ⟨clk_V X (vX12_marks l) nX12_marks sX12_marks ⟨by decide, rfl⟩ (gd_of (i := 1117) (by decide +kernel) rfl) ⟨Nat.le_of_ble_eq_true rfl, Nat.le_of_ble_eq_true rfl⟩, fun _ h => absurd h List.not_mem_nil⟩⟩)
theorem nX12_overtaking : MNO yX12_overtaking cX12_overtaking 2 (some .int) 1 := ⟨gd_of (i := 1132) (by decide +kernel) rfl, gd_of (i := 81) (by decide +kernel) rfl, by decide +kernel, by decide +kernel⟩
theorem sX12_overtaking : Cond.instanceMethod yX12_overtaking ∈ gdW ∧ Cond.selects yX12_overtaking.cls yX12_overtaking yX12_overtaking ∈ gdW := ⟨gd_of (i := 1130) (by decide +kernel) rfl, gd_of (i := 1131) (by decide +kernel) rfl⟩
theorem kX12_overtaking : MCK yX12_overtaking.cls cX12_overtaking mX12_overtaking false := ⟨by unfold dchk; decide +kernel, [860], [], [994], [], by decide +kernel, by decide +kernel, by decide +kernel, by decide +kernel⟩
theorem vX12_overtaking (l : Launch) : MetM l yX12_overtaking cX12_overtaking 2 (some .int) 5 113 0 0 fX12_overtaking := metM_of false nX12_overtaking rfl kX12_overtaking (fun h => by cases h) cokg (fun p e s m args below meth c D aC A ad0 N0 X => List.forall_mem_cons.mpr ⟨clk_V X (vX12_readings l) nX12_readings sX12_readings ⟨by decide, rfl⟩ (gd_of (i := 999) (by decide +kernel) rfl) ⟨Nat.le_of_ble_eq_true rfl, Nat.le_of_ble_eq_true rfl⟩, List.forall_mem_cons.mpr ⟨clk_V X (vX12_marks l) nX12_marks sX12_marks ⟨by decide, rfl⟩ (gd_of (i := 1117) (by decide +kernel) rfl) ⟨Nat.le_of_ble_eq_true rfl, Nat.le_of_ble_eq_true rfl⟩, fun _ h => absurd h List.not_mem_nil⟩⟩)
theorem nX12_best : MNO yX12_best cX12_best 1 (some .int) 0 := ⟨gd_of (i := 1136) (by decide +kernel) rfl, gd_of (i := 81) (by decide +kernel) rfl, by decide +kernel, by decide +kernel⟩
theorem sX12_best : Cond.instanceMethod yX12_best ∈ gdW ∧ Cond.selects yX12_best.cls yX12_best yX12_best ∈ gdW := ⟨gd_of (i := 1134) (by decide +kernel) rfl, gd_of (i := 1135) (by decide +kernel) rfl⟩
theorem kX12_best : MCK yX12_best.cls cX12_best mX12_best false := ⟨by unfold dchk; decide +kernel, [859], [], [], [], by decide +kernel, by decide +kernel, by decide +kernel, by decide +kernel⟩
theorem vX12_best (l : Launch) : MetM l yX12_best cX12_best 1 (some .int) 6 134 0 0 fX12_best := metM_of false nX12_best rfl kX12_best (fun h => by cases h) cokg (fun p e s m args below meth c D aC A ad0 N0 X => List.forall_mem_cons.mpr ⟨clk_V X (vX12_price l) nX12_price sX12_price ⟨by decide, rfl⟩ (gd_of (i := 1121) (by decide +kernel) rfl) ⟨Nat.le_of_ble_eq_true rfl, Nat.le_of_ble_eq_true rfl⟩, List.forall_mem_cons.mpr ⟨clk_V X (vX12_marks l) nX12_marks sX12_marks ⟨by decide, rfl⟩ (gd_of (i := 1117) (by decide +kernel) rfl) ⟨Nat.le_of_ble_eq_true rfl, Nat.le_of_ble_eq_true rfl⟩, List.forall_mem_cons.mpr ⟨clk_V X (vX12_cheapest l) nX12_cheapest sX12_cheapest ⟨by decide, rfl⟩ (gd_of (i := 1137) (by decide +kernel) rfl) ⟨Nat.le_of_ble_eq_true rfl, Nat.le_of_ble_eq_true rfl⟩, fun _ h => absurd h List.not_mem_nil⟩⟩⟩)
theorem nX12_draw : MNO yX12_draw cX12_draw 2 (some .int) 1 := ⟨gd_of (i := 1160) (by decide +kernel) rfl, gd_of (i := 81) (by decide +kernel) rfl, by decide +kernel, by decide +kernel⟩
theorem sX12_draw : Cond.instanceMethod yX12_draw ∈ gdW ∧ Cond.selects yX12_draw.cls yX12_draw yX12_draw ∈ gdW := ⟨gd_of (i := 1159) (by decide +kernel) rfl, gd_of (i := 63) (by decide +kernel) rfl⟩
theorem kX12_draw : MCK yX12_draw.cls cX12_draw mX12_draw false := ⟨by unfold dchk; decide +kernel, [889], [], [1161, 1162, 1163, 1164], [], by decide +kernel, by decide +kernel, by decide +kernel, by decide +kernel⟩
theorem vX12_draw (l : Launch) : MetM l yX12_draw cX12_draw 2 (some .int) 0 0 0 0 fX12_draw := metM_of false nX12_draw rfl kX12_draw (fun h => by cases h) cokg (fun p e s m args below meth c D aC A ad0 N0 X => fun _ h => absurd h List.not_mem_nil)
theorem nX12_drawn : MNO yX12_drawn cX12_drawn 5 none 0 := ⟨gd_of (i := 1156) (by decide +kernel) rfl, gd_of (i := 81) (by decide +kernel) rfl, by decide +kernel, by decide +kernel⟩
theorem sX12_drawn : Cond.instanceMethod yX12_drawn ∈ gdW ∧ Cond.selects yX12_drawn.cls yX12_drawn yX12_drawn ∈ gdW := ⟨gd_of (i := 1155) (by decide +kernel) rfl, gd_of (i := 62) (by decide +kernel) rfl⟩
theorem kX12_drawn : MCK yX12_drawn.cls cX12_drawn mX12_drawn false := ⟨by unfold dchk; decide +kernel, [858, 860, 854, 859], [], [], [], by decide +kernel, by decide +kernel, by decide +kernel, by decide +kernel⟩
theorem vX12_drawn (l : Launch) : MetM l yX12_drawn cX12_drawn 5 none 1 21 0 0 fX12_drawn := metM_of false nX12_drawn rfl kX12_drawn (fun h => by cases h) cokg (fun p e s m args below meth c D aC A ad0 N0 X => List.forall_mem_cons.mpr ⟨clk_V X (vX12_isGap l) nX12_isGap sX12_isGap ⟨by decide, rfl⟩ (gd_of (i := 1019) (by decide +kernel) rfl) ⟨Nat.le_of_ble_eq_true rfl, Nat.le_of_ble_eq_true rfl⟩, List.forall_mem_cons.mpr ⟨clk_V X (vX12_marks l) nX12_marks sX12_marks ⟨by decide, rfl⟩ (gd_of (i := 1117) (by decide +kernel) rfl) ⟨Nat.le_of_ble_eq_true rfl, Nat.le_of_ble_eq_true rfl⟩, List.forall_mem_cons.mpr ⟨clk_V X (vX12_draw l) nX12_draw sX12_draw ⟨by decide, rfl⟩ (gd_of (i := 1157) (by decide +kernel) rfl) ⟨Nat.le_of_ble_eq_true rfl, Nat.le_of_ble_eq_true rfl⟩, fun _ h => absurd h List.not_mem_nil⟩⟩⟩)
theorem nX12_drift : MNO yX12_drift cX12_drift 3 (some .int) 1 := ⟨gd_of (i := 1152) (by decide +kernel) rfl, gd_of (i := 81) (by decide +kernel) rfl, by decide +kernel, by decide +kernel⟩
theorem sX12_drift : Cond.instanceMethod yX12_drift ∈ gdW ∧ Cond.selects yX12_drift.cls yX12_drift yX12_drift ∈ gdW := ⟨gd_of (i := 1150) (by decide +kernel) rfl, gd_of (i := 1151) (by decide +kernel) rfl⟩
theorem kX12_drift : MCK yX12_drift.cls cX12_drift mX12_drift false := ⟨by unfold dchk; decide +kernel, [854, 859], [], [994], [], by decide +kernel, by decide +kernel, by decide +kernel, by decide +kernel⟩
theorem vX12_drift (l : Launch) : MetM l yX12_drift cX12_drift 3 (some .int) 2 45 0 0 fX12_drift := metM_of false nX12_drift rfl kX12_drift (fun h => by cases h) cokg (fun p e s m args below meth c D aC A ad0 N0 X => List.forall_mem_cons.mpr ⟨clk_V X (vX12_drawn l) nX12_drawn sX12_drawn ⟨by decide, rfl⟩ (gd_of (i := 1153) (by decide +kernel) rfl) ⟨Nat.le_of_ble_eq_true rfl, Nat.le_of_ble_eq_true rfl⟩, fun _ h => absurd h List.not_mem_nil⟩)
theorem nX12_undo : MNO yX12_undo cX12_undo 3 (some .int) 1 := ⟨gd_of (i := 1168) (by decide +kernel) rfl, gd_of (i := 81) (by decide +kernel) rfl, by decide +kernel, by decide +kernel⟩
theorem sX12_undo : Cond.instanceMethod yX12_undo ∈ gdW ∧ Cond.selects yX12_undo.cls yX12_undo yX12_undo ∈ gdW := ⟨gd_of (i := 1166) (by decide +kernel) rfl, gd_of (i := 1167) (by decide +kernel) rfl⟩
theorem kX12_undo : MCK yX12_undo.cls cX12_undo mX12_undo false := ⟨by unfold dchk; decide +kernel, [858, 860, 886, 887, 888, 859, 865, 885], [], [994, 1047], [], by decide +kernel, by decide +kernel, by decide +kernel, by decide +kernel⟩
theorem vX12_undo (l : Launch) : MetM l yX12_undo cX12_undo 3 (some .int) 0 0 0 0 fX12_undo := metM_of false nX12_undo rfl kX12_undo (fun h => by cases h) cokg (fun p e s m args below meth c D aC A ad0 N0 X => fun _ h => absurd h List.not_mem_nil)
theorem nX12_write : MNO yX12_write cX12_write 3 (some .int) 2 := ⟨gd_of (i := 1172) (by decide +kernel) rfl, gd_of (i := 81) (by decide +kernel) rfl, by decide +kernel, by decide +kernel⟩
theorem sX12_write : Cond.instanceMethod yX12_write ∈ gdW ∧ Cond.selects yX12_write.cls yX12_write yX12_write ∈ gdW := ⟨gd_of (i := 1170) (by decide +kernel) rfl, gd_of (i := 1171) (by decide +kernel) rfl⟩
theorem kX12_write : MCK yX12_write.cls cX12_write mX12_write false := ⟨by unfold dchk; decide +kernel, [891, 892, 890], [], [994, 1052, 1173], [], by decide +kernel, by decide +kernel, by decide +kernel, by decide +kernel⟩
theorem vX12_write (l : Launch) : MetM l yX12_write cX12_write 3 (some .int) 0 0 0 0 fX12_write := metM_of false nX12_write rfl kX12_write (fun h => by cases h) cokg (fun p e s m args below meth c D aC A ad0 N0 X => fun _ h => absurd h List.not_mem_nil)
theorem nX12_tear : MNO yX12_tear cX12_tear 2 (some .int) 0 := ⟨gd_of (i := 1177) (by decide +kernel) rfl, gd_of (i := 81) (by decide +kernel) rfl, by decide +kernel, by decide +kernel⟩
theorem sX12_tear : Cond.instanceMethod yX12_tear ∈ gdW ∧ Cond.selects yX12_tear.cls yX12_tear yX12_tear ∈ gdW := ⟨gd_of (i := 1175) (by decide +kernel) rfl, gd_of (i := 1176) (by decide +kernel) rfl⟩
theorem kX12_tear : MCK yX12_tear.cls cX12_tear mX12_tear false := ⟨by unfold dchk; decide +kernel, [890], [], [], [], by decide +kernel, by decide +kernel, by decide +kernel, by decide +kernel⟩
theorem vX12_tear (l : Launch) : MetM l yX12_tear cX12_tear 2 (some .int) 0 0 0 0 fX12_tear := metM_of false nX12_tear rfl kX12_tear (fun h => by cases h) cokg (fun p e s m args below meth c D aC A ad0 N0 X => fun _ h => absurd h List.not_mem_nil)
theorem nX12_wrong : MNO yX12_wrong cX12_wrong 2 (some .int) 0 := ⟨gd_of (i := 1205) (by decide +kernel) rfl, gd_of (i := 81) (by decide +kernel) rfl, by decide +kernel, by decide +kernel⟩
theorem sX12_wrong : Cond.instanceMethod yX12_wrong ∈ gdW ∧ Cond.selects yX12_wrong.cls yX12_wrong yX12_wrong ∈ gdW := ⟨gd_of (i := 1204) (by decide +kernel) rfl, gd_of (i := 66) (by decide +kernel) rfl⟩
theorem kX12_wrong : MCK yX12_wrong.cls cX12_wrong mX12_wrong false := ⟨by unfold dchk; decide +kernel, [891, 892, 890], [], [], [], by decide +kernel, by decide +kernel, by decide +kernel, by decide +kernel⟩
theorem vX12_wrong (l : Launch) : MetM l yX12_wrong cX12_wrong 2 (some .int) 6 134 0 0 fX12_wrong := metM_of false nX12_wrong rfl kX12_wrong (fun h => by cases h) cokg (fun p e s m args below meth c D aC A ad0 N0 X => List.forall_mem_cons.mpr ⟨clk_V X (vX12_can l) nX12_can sX12_can ⟨by decide, rfl⟩ (gd_of (i := 1206) (by decide +kernel) rfl) ⟨Nat.le_of_ble_eq_true rfl, Nat.le_of_ble_eq_true rfl⟩, fun _ h => absurd h List.not_mem_nil⟩)
theorem nX12_seed : MNO yX12_seed cX12_seed 3 (some .int) 1 := ⟨gd_of (i := 1181) (by decide +kernel) rfl, gd_of (i := 81) (by decide +kernel) rfl, by decide +kernel, by decide +kernel⟩
theorem sX12_seed : Cond.instanceMethod yX12_seed ∈ gdW ∧ Cond.selects yX12_seed.cls yX12_seed yX12_seed ∈ gdW := ⟨gd_of (i := 1179) (by decide +kernel) rfl, gd_of (i := 1180) (by decide +kernel) rfl⟩
theorem kX12_seed : MCK yX12_seed.cls cX12_seed mX12_seed false := ⟨by unfold dchk; decide +kernel, [889], [], [994], [], by decide +kernel, by decide +kernel, by decide +kernel, by decide +kernel⟩
theorem vX12_seed (l : Launch) : MetM l yX12_seed cX12_seed 3 (some .int) 0 0 0 0 fX12_seed := metM_of false nX12_seed rfl kX12_seed (fun h => by cases h) cokg (fun p e s m args below meth c D aC A ad0 N0 X => fun _ h => absurd h List.not_mem_nil)
theorem nX12_keep : MNO yX12_keep cX12_keep 3 (some .int) 1 := ⟨gd_of (i := 1185) (by decide +kernel) rfl, gd_of (i := 81) (by decide +kernel) rfl, by decide +kernel, by decide +kernel⟩
theorem sX12_keep : Cond.instanceMethod yX12_keep ∈ gdW ∧ Cond.selects yX12_keep.cls yX12_keep yX12_keep ∈ gdW := ⟨gd_of (i := 1183) (by decide +kernel) rfl, gd_of (i := 1184) (by decide +kernel) rfl⟩
theorem kX12_keep : MCK yX12_keep.cls cX12_keep mX12_keep false := ⟨by unfold dchk; decide +kernel, [858, 860, 893, 894, 895, 896, 897, 859, 885, 889], [], [1018], [], by decide +kernel, by decide +kernel, by decide +kernel, by decide +kernel⟩
theorem vX12_keep (l : Launch) : MetM l yX12_keep cX12_keep 3 (some .int) 0 0 0 0 fX12_keep := metM_of false nX12_keep rfl kX12_keep (fun h => by cases h) cokg (fun p e s m args below meth c D aC A ad0 N0 X => fun _ h => absurd h List.not_mem_nil)
theorem nX12_goBack : MNO yX12_goBack cX12_goBack 3 (some .int) 1 := ⟨gd_of (i := 1189) (by decide +kernel) rfl, gd_of (i := 81) (by decide +kernel) rfl, by decide +kernel, by decide +kernel⟩
theorem sX12_goBack : Cond.instanceMethod yX12_goBack ∈ gdW ∧ Cond.selects yX12_goBack.cls yX12_goBack yX12_goBack ∈ gdW := ⟨gd_of (i := 1187) (by decide +kernel) rfl, gd_of (i := 1188) (by decide +kernel) rfl⟩
theorem kX12_goBack : MCK yX12_goBack.cls cX12_goBack mX12_goBack false := ⟨by unfold dchk; decide +kernel, [858, 860, 893, 894, 895, 896, 897, 859, 865, 885, 889], [], [1018, 1047], [], by decide +kernel, by decide +kernel, by decide +kernel, by decide +kernel⟩
theorem vX12_goBack (l : Launch) : MetM l yX12_goBack cX12_goBack 3 (some .int) 0 0 0 0 fX12_goBack := metM_of false nX12_goBack rfl kX12_goBack (fun h => by cases h) cokg (fun p e s m args below meth c D aC A ad0 N0 X => fun _ h => absurd h List.not_mem_nil)
theorem nX12_toldMore : MNO yX12_toldMore cX12_toldMore 2 (some .int) 1 := ⟨gd_of (i := 1197) (by decide +kernel) rfl, gd_of (i := 81) (by decide +kernel) rfl, by decide +kernel, by decide +kernel⟩
theorem sX12_toldMore : Cond.instanceMethod yX12_toldMore ∈ gdW ∧ Cond.selects yX12_toldMore.cls yX12_toldMore yX12_toldMore ∈ gdW := ⟨gd_of (i := 1196) (by decide +kernel) rfl, gd_of (i := 64) (by decide +kernel) rfl⟩
theorem kX12_toldMore : MCK yX12_toldMore.cls cX12_toldMore mX12_toldMore false := ⟨by unfold dchk; decide +kernel, [859, 890, 885], [], [994], [], by decide +kernel, by decide +kernel, by decide +kernel, by decide +kernel⟩
theorem vX12_toldMore (l : Launch) : MetM l yX12_toldMore cX12_toldMore 2 (some .int) 7 155 0 0 fX12_toldMore := metM_of false nX12_toldMore rfl kX12_toldMore (fun h => by cases h) cokg (fun p e s m args below meth c D aC A ad0 N0 X => List.forall_mem_cons.mpr ⟨clk_V X (vX12_holds l) nX12_holds sX12_holds ⟨by decide, rfl⟩ (gd_of (i := 1023) (by decide +kernel) rfl) ⟨Nat.le_of_ble_eq_true rfl, Nat.le_of_ble_eq_true rfl⟩, List.forall_mem_cons.mpr ⟨clk_V X (vX12_loosePairs l) nX12_loosePairs sX12_loosePairs ⟨by decide, rfl⟩ (gd_of (i := 1141) (by decide +kernel) rfl) ⟨Nat.le_of_ble_eq_true rfl, Nat.le_of_ble_eq_true rfl⟩, List.forall_mem_cons.mpr ⟨clk_V X (vX12_price l) nX12_price sX12_price ⟨by decide, rfl⟩ (gd_of (i := 1121) (by decide +kernel) rfl) ⟨Nat.le_of_ble_eq_true rfl, Nat.le_of_ble_eq_true rfl⟩, List.forall_mem_cons.mpr ⟨clk_V X (vX12_cheapest l) nX12_cheapest sX12_cheapest ⟨by decide, rfl⟩ (gd_of (i := 1137) (by decide +kernel) rfl) ⟨Nat.le_of_ble_eq_true rfl, Nat.le_of_ble_eq_true rfl⟩, List.forall_mem_cons.mpr ⟨clk_V X (vX12_needed l) nX12_needed sX12_needed ⟨by decide, rfl⟩ (gd_of (i := 1198) (by decide +kernel) rfl) ⟨Nat.le_of_ble_eq_true rfl, Nat.le_of_ble_eq_true rfl⟩, List.forall_mem_cons.mpr ⟨clk_V X (vX12_wrong l) nX12_wrong sX12_wrong ⟨by decide, rfl⟩ (gd_of (i := 1202) (by decide +kernel) rfl) ⟨Nat.le_of_ble_eq_true rfl, Nat.le_of_ble_eq_true rfl⟩, fun _ h => absurd h List.not_mem_nil⟩⟩⟩⟩⟩⟩)
theorem nX12_told : MNO yX12_told cX12_told 2 (some .int) 1 := ⟨gd_of (i := 1193) (by decide +kernel) rfl, gd_of (i := 81) (by decide +kernel) rfl, by decide +kernel, by decide +kernel⟩
theorem sX12_told : Cond.instanceMethod yX12_told ∈ gdW ∧ Cond.selects yX12_told.cls yX12_told yX12_told ∈ gdW := ⟨gd_of (i := 1191) (by decide +kernel) rfl, gd_of (i := 1192) (by decide +kernel) rfl⟩
theorem kX12_told : MCK yX12_told.cls cX12_told mX12_told false := ⟨by unfold dchk; decide +kernel, [860, 863, 854, 859, 871, 877, 853], [], [], [], by decide +kernel, by decide +kernel, by decide +kernel, by decide +kernel⟩
theorem vX12_told (l : Launch) : MetM l yX12_told cX12_told 2 (some .int) 8 176 0 0 fX12_told := metM_of false nX12_told rfl kX12_told (fun h => by cases h) cokg (fun p e s m args below meth c D aC A ad0 N0 X => List.forall_mem_cons.mpr ⟨clk_V X (vX12_readings l) nX12_readings sX12_readings ⟨by decide, rfl⟩ (gd_of (i := 999) (by decide +kernel) rfl) ⟨Nat.le_of_ble_eq_true rfl, Nat.le_of_ble_eq_true rfl⟩, List.forall_mem_cons.mpr ⟨clk_V X (vX12_price l) nX12_price sX12_price ⟨by decide, rfl⟩ (gd_of (i := 1121) (by decide +kernel) rfl) ⟨Nat.le_of_ble_eq_true rfl, Nat.le_of_ble_eq_true rfl⟩, List.forall_mem_cons.mpr ⟨clk_V X (vX12_toldMore l) nX12_toldMore sX12_toldMore ⟨by decide, rfl⟩ (gd_of (i := 1194) (by decide +kernel) rfl) ⟨Nat.le_of_ble_eq_true rfl, Nat.le_of_ble_eq_true rfl⟩, fun _ h => absurd h List.not_mem_nil⟩⟩⟩)
end
