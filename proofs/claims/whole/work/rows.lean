section
-- ===== PART A: goes FIRST, ahead of the names: the tables' words, and 'selects' of the private methods out of them =====
/-- a private method of a class that the tables say can be made, by its rows of tables_1 -/
def lw_okq (q : MethodName × Nat) : Prop := (q.1.cls ≠ "java/lang/invoke/MethodHandle" ∧ q.1.cls ≠ "java/lang/invoke/VarHandle") ∧ Cond.instantiable q.1.cls q.2 ∈ tables_1 ∧ Cond.privateMethod q.1 ∈ tables_1 ∧ Cond.instanceMethod q.1 ∈ tables_1
theorem lw_p0 : lw_okq (⟨"FenceWays$Parser", "take", "(ILFenceWays$Plan;)I"⟩, 3) := ⟨⟨by decide +kernel, by decide +kernel⟩, List.mem_of_getElem? (i := 42) (by decide +kernel), List.mem_of_getElem? (i := 337) (by decide +kernel), List.mem_of_getElem? (i := 338) (by decide +kernel)⟩
theorem lw_p1 : lw_okq (⟨"FenceWays$Parser", "takeWord", "(ILFenceWays$Plan;)I"⟩, 3) := ⟨⟨by decide +kernel, by decide +kernel⟩, List.mem_of_getElem? (i := 42) (by decide +kernel), List.mem_of_getElem? (i := 341) (by decide +kernel), List.mem_of_getElem? (i := 342) (by decide +kernel)⟩
theorem lw_p2 : lw_okq (⟨"FenceWays$Parser", "takeCell", "(ILFenceWays$Plan;)I"⟩, 3) := ⟨⟨by decide +kernel, by decide +kernel⟩, List.mem_of_getElem? (i := 42) (by decide +kernel), List.mem_of_getElem? (i := 349) (by decide +kernel), List.mem_of_getElem? (i := 350) (by decide +kernel)⟩
theorem lw_p3 : lw_okq (⟨"FenceWays", "startAnew", "()V"⟩, 19) := ⟨⟨by decide +kernel, by decide +kernel⟩, List.mem_of_getElem? (i := 18) (by decide +kernel), List.mem_of_getElem? (i := 365) (by decide +kernel), List.mem_of_getElem? (i := 366) (by decide +kernel)⟩
theorem lw_p4 : lw_okq (⟨"FenceWays$Rings", "gatherGifts", "(LFenceWays$Plan;)V"⟩, 4) := ⟨⟨by decide +kernel, by decide +kernel⟩, List.mem_of_getElem? (i := 92) (by decide +kernel), List.mem_of_getElem? (i := 374) (by decide +kernel), List.mem_of_getElem? (i := 375) (by decide +kernel)⟩
theorem lw_p5 : lw_okq (⟨"FenceWays$Rings", "addGift", "(I)V"⟩, 4) := ⟨⟨by decide +kernel, by decide +kernel⟩, List.mem_of_getElem? (i := 92) (by decide +kernel), List.mem_of_getElem? (i := 385) (by decide +kernel), List.mem_of_getElem? (i := 386) (by decide +kernel)⟩
theorem lw_p6 : lw_okq (⟨"FenceWays$Rings", "giftAt", "(I)I"⟩, 4) := ⟨⟨by decide +kernel, by decide +kernel⟩, List.mem_of_getElem? (i := 92) (by decide +kernel), List.mem_of_getElem? (i := 397) (by decide +kernel), List.mem_of_getElem? (i := 398) (by decide +kernel)⟩
theorem lw_p7 : lw_okq (⟨"FenceWays$Rings", "findBegunWith", "(LFenceWays$Plan;II)V"⟩, 4) := ⟨⟨by decide +kernel, by decide +kernel⟩, List.mem_of_getElem? (i := 92) (by decide +kernel), List.mem_of_getElem? (i := 401) (by decide +kernel), List.mem_of_getElem? (i := 402) (by decide +kernel)⟩
theorem lw_p8 : lw_okq (⟨"FenceWays$Rings", "leadsTo", "(LFenceWays$Plan;II)Z"⟩, 4) := ⟨⟨by decide +kernel, by decide +kernel⟩, List.mem_of_getElem? (i := 92) (by decide +kernel), List.mem_of_getElem? (i := 409) (by decide +kernel), List.mem_of_getElem? (i := 410) (by decide +kernel)⟩
theorem lw_p9 : lw_okq (⟨"FenceWays$Rings", "countGiven", "(I)V"⟩, 4) := ⟨⟨by decide +kernel, by decide +kernel⟩, List.mem_of_getElem? (i := 92) (by decide +kernel), List.mem_of_getElem? (i := 425) (by decide +kernel), List.mem_of_getElem? (i := 426) (by decide +kernel)⟩
theorem lw_p10 : lw_okq (⟨"FenceWays", "readingsNow", "()LFenceWays$ReadingList;"⟩, 19) := ⟨⟨by decide +kernel, by decide +kernel⟩, List.mem_of_getElem? (i := 18) (by decide +kernel), List.mem_of_getElem? (i := 453) (by decide +kernel), List.mem_of_getElem? (i := 454) (by decide +kernel)⟩
theorem lw_p11 : lw_okq (⟨"FenceWays$Orders", "weigh", "(LFenceWays$Plan;)V"⟩, 7) := ⟨⟨by decide +kernel, by decide +kernel⟩, List.mem_of_getElem? (i := 210) (by decide +kernel), List.mem_of_getElem? (i := 461) (by decide +kernel), List.mem_of_getElem? (i := 462) (by decide +kernel)⟩
theorem lw_p12 : lw_okq (⟨"FenceWays$Plan", "kindOf", "(II)I"⟩, 6) := ⟨⟨by decide +kernel, by decide +kernel⟩, List.mem_of_getElem? (i := 59) (by decide +kernel), List.mem_of_getElem? (i := 482) (by decide +kernel), List.mem_of_getElem? (i := 483) (by decide +kernel)⟩
theorem lw_p13 : lw_okq (⟨"FenceWays$Orders", "doOneMore", "(LFenceWays$Plan;)V"⟩, 7) := ⟨⟨by decide +kernel, by decide +kernel⟩, List.mem_of_getElem? (i := 210) (by decide +kernel), List.mem_of_getElem? (i := 487) (by decide +kernel), List.mem_of_getElem? (i := 488) (by decide +kernel)⟩
theorem lw_p14 : lw_okq (⟨"FenceWays$Orders", "doEach", "(LFenceWays$Plan;J)V"⟩, 7) := ⟨⟨by decide +kernel, by decide +kernel⟩, List.mem_of_getElem? (i := 210) (by decide +kernel), List.mem_of_getElem? (i := 492) (by decide +kernel), List.mem_of_getElem? (i := 493) (by decide +kernel)⟩
theorem lw_p15 : lw_okq (⟨"FenceWays$Orders", "behind", "(LFenceWays$Plan;JI)J"⟩, 7) := ⟨⟨by decide +kernel, by decide +kernel⟩, List.mem_of_getElem? (i := 210) (by decide +kernel), List.mem_of_getElem? (i := 497) (by decide +kernel), List.mem_of_getElem? (i := 498) (by decide +kernel)⟩
def lw_privs_1 : List (MethodName × Nat) := [(⟨"FenceWays$Parser", "take", "(ILFenceWays$Plan;)I"⟩, 3), (⟨"FenceWays$Parser", "takeWord", "(ILFenceWays$Plan;)I"⟩, 3), (⟨"FenceWays$Parser", "takeCell", "(ILFenceWays$Plan;)I"⟩, 3), (⟨"FenceWays", "startAnew", "()V"⟩, 19), (⟨"FenceWays$Rings", "gatherGifts", "(LFenceWays$Plan;)V"⟩, 4), (⟨"FenceWays$Rings", "addGift", "(I)V"⟩, 4), (⟨"FenceWays$Rings", "giftAt", "(I)I"⟩, 4), (⟨"FenceWays$Rings", "findBegunWith", "(LFenceWays$Plan;II)V"⟩, 4), (⟨"FenceWays$Rings", "leadsTo", "(LFenceWays$Plan;II)Z"⟩, 4), (⟨"FenceWays$Rings", "countGiven", "(I)V"⟩, 4), (⟨"FenceWays", "readingsNow", "()LFenceWays$ReadingList;"⟩, 19), (⟨"FenceWays$Orders", "weigh", "(LFenceWays$Plan;)V"⟩, 7), (⟨"FenceWays$Plan", "kindOf", "(II)I"⟩, 6), (⟨"FenceWays$Orders", "doOneMore", "(LFenceWays$Plan;)V"⟩, 7), (⟨"FenceWays$Orders", "doEach", "(LFenceWays$Plan;J)V"⟩, 7), (⟨"FenceWays$Orders", "behind", "(LFenceWays$Plan;JI)J"⟩, 7)]
theorem lw_r1 : ∀ q ∈ lw_privs_1, lw_okq q := List.forall_mem_cons.mpr ⟨lw_p0, List.forall_mem_cons.mpr ⟨lw_p1, List.forall_mem_cons.mpr ⟨lw_p2, List.forall_mem_cons.mpr ⟨lw_p3, List.forall_mem_cons.mpr ⟨lw_p4, List.forall_mem_cons.mpr ⟨lw_p5, List.forall_mem_cons.mpr ⟨lw_p6, List.forall_mem_cons.mpr ⟨lw_p7, List.forall_mem_cons.mpr ⟨lw_p8, List.forall_mem_cons.mpr ⟨lw_p9, List.forall_mem_cons.mpr ⟨lw_p10, List.forall_mem_cons.mpr ⟨lw_p11, List.forall_mem_cons.mpr ⟨lw_p12, List.forall_mem_cons.mpr ⟨lw_p13, List.forall_mem_cons.mpr ⟨lw_p14, List.forall_mem_cons.mpr ⟨lw_p15, fun _ h => absurd h List.not_mem_nil⟩⟩⟩⟩⟩⟩⟩⟩⟩⟩⟩⟩⟩⟩⟩⟩
theorem lw_p16 : lw_okq (⟨"FenceWays$Orders", "addNext", "(J)V"⟩, 7) := ⟨⟨by decide +kernel, by decide +kernel⟩, List.mem_of_getElem? (i := 210) (by decide +kernel), List.mem_of_getElem? (i := 504) (by decide +kernel), List.mem_of_getElem? (i := 505) (by decide +kernel)⟩
theorem lw_p17 : lw_okq (⟨"FenceWays$Orders", "putNext", "(IJ)V"⟩, 7) := ⟨⟨by decide +kernel, by decide +kernel⟩, List.mem_of_getElem? (i := 210) (by decide +kernel), List.mem_of_getElem? (i := 509) (by decide +kernel), List.mem_of_getElem? (i := 510) (by decide +kernel)⟩
theorem lw_p18 : lw_okq (⟨"FenceWays$ReadingList", "placeOf", "(I)I"⟩, 2) := ⟨⟨by decide +kernel, by decide +kernel⟩, List.mem_of_getElem? (i := 239) (by decide +kernel), List.mem_of_getElem? (i := 521) (by decide +kernel), List.mem_of_getElem? (i := 522) (by decide +kernel)⟩
theorem lw_p19 : lw_okq (⟨"FenceWays", "strictNow", "()LFenceWays$ReadingList;"⟩, 19) := ⟨⟨by decide +kernel, by decide +kernel⟩, List.mem_of_getElem? (i := 18) (by decide +kernel), List.mem_of_getElem? (i := 529) (by decide +kernel), List.mem_of_getElem? (i := 530) (by decide +kernel)⟩
theorem lw_p20 : lw_okq (⟨"FenceWays", "looseNow", "()LFenceWays$LoosePairs;"⟩, 19) := ⟨⟨by decide +kernel, by decide +kernel⟩, List.mem_of_getElem? (i := 18) (by decide +kernel), List.mem_of_getElem? (i := 541) (by decide +kernel), List.mem_of_getElem? (i := 542) (by decide +kernel)⟩
theorem lw_p21 : lw_okq (⟨"FenceWays$LoosePairs", "add", "(I)V"⟩, 2) := ⟨⟨by decide +kernel, by decide +kernel⟩, List.mem_of_getElem? (i := 112) (by decide +kernel), List.mem_of_getElem? (i := 555) (by decide +kernel), List.mem_of_getElem? (i := 556) (by decide +kernel)⟩
theorem lw_p22 : lw_okq (⟨"FenceWays$LoosePairs", "holdersAt", "(I)I"⟩, 2) := ⟨⟨by decide +kernel, by decide +kernel⟩, List.mem_of_getElem? (i := 112) (by decide +kernel), List.mem_of_getElem? (i := 563) (by decide +kernel), List.mem_of_getElem? (i := 564) (by decide +kernel)⟩
theorem lw_p23 : lw_okq (⟨"FenceWays", "bestSet", "()I"⟩, 19) := ⟨⟨by decide +kernel, by decide +kernel⟩, List.mem_of_getElem? (i := 18) (by decide +kernel), List.mem_of_getElem? (i := 572) (by decide +kernel), List.mem_of_getElem? (i := 573) (by decide +kernel)⟩
theorem lw_p24 : lw_okq (⟨"FenceWays$History", "settingAt", "(I)LFenceWays$Setting;"⟩, 3) := ⟨⟨by decide +kernel, by decide +kernel⟩, List.mem_of_getElem? (i := 151) (by decide +kernel), List.mem_of_getElem? (i := 653) (by decide +kernel), List.mem_of_getElem? (i := 654) (by decide +kernel)⟩
theorem lw_p25 : lw_okq (⟨"FenceWays", "driftOnce", "()V"⟩, 19) := ⟨⟨by decide +kernel, by decide +kernel⟩, List.mem_of_getElem? (i := 18) (by decide +kernel), List.mem_of_getElem? (i := 689) (by decide +kernel), List.mem_of_getElem? (i := 690) (by decide +kernel)⟩
theorem lw_p26 : lw_okq (⟨"FenceWays", "draw", "(I)I"⟩, 19) := ⟨⟨by decide +kernel, by decide +kernel⟩, List.mem_of_getElem? (i := 18) (by decide +kernel), List.mem_of_getElem? (i := 693) (by decide +kernel), List.mem_of_getElem? (i := 694) (by decide +kernel)⟩
theorem lw_p27 : lw_okq (⟨"FenceWaysModel", "goes", "([IZ)I"⟩, 45) := ⟨⟨by decide +kernel, by decide +kernel⟩, List.mem_of_getElem? (i := 740) (by decide +kernel), List.mem_of_getElem? (i := 746) (by decide +kernel), List.mem_of_getElem? (i := 747) (by decide +kernel)⟩
theorem lw_p28 : lw_okq (⟨"FenceWaysModel", "ahead", "(I)I"⟩, 45) := ⟨⟨by decide +kernel, by decide +kernel⟩, List.mem_of_getElem? (i := 740) (by decide +kernel), List.mem_of_getElem? (i := 750) (by decide +kernel), List.mem_of_getElem? (i := 751) (by decide +kernel)⟩
theorem lw_p29 : lw_okq (⟨"FenceWaysModel", "isAhead", "(II)Z"⟩, 45) := ⟨⟨by decide +kernel, by decide +kernel⟩, List.mem_of_getElem? (i := 740) (by decide +kernel), List.mem_of_getElem? (i := 754) (by decide +kernel), List.mem_of_getElem? (i := 755) (by decide +kernel)⟩
theorem lw_p30 : lw_okq (⟨"FenceWaysModel", "waits", "(I)I"⟩, 45) := ⟨⟨by decide +kernel, by decide +kernel⟩, List.mem_of_getElem? (i := 740) (by decide +kernel), List.mem_of_getElem? (i := 758) (by decide +kernel), List.mem_of_getElem? (i := 759) (by decide +kernel)⟩
theorem lw_p31 : lw_okq (⟨"FenceWaysModel", "isBound", "(II)Z"⟩, 45) := ⟨⟨by decide +kernel, by decide +kernel⟩, List.mem_of_getElem? (i := 740) (by decide +kernel), List.mem_of_getElem? (i := 762) (by decide +kernel), List.mem_of_getElem? (i := 763) (by decide +kernel)⟩
def lw_privs_2 : List (MethodName × Nat) := [(⟨"FenceWays$Orders", "addNext", "(J)V"⟩, 7), (⟨"FenceWays$Orders", "putNext", "(IJ)V"⟩, 7), (⟨"FenceWays$ReadingList", "placeOf", "(I)I"⟩, 2), (⟨"FenceWays", "strictNow", "()LFenceWays$ReadingList;"⟩, 19), (⟨"FenceWays", "looseNow", "()LFenceWays$LoosePairs;"⟩, 19), (⟨"FenceWays$LoosePairs", "add", "(I)V"⟩, 2), (⟨"FenceWays$LoosePairs", "holdersAt", "(I)I"⟩, 2), (⟨"FenceWays", "bestSet", "()I"⟩, 19), (⟨"FenceWays$History", "settingAt", "(I)LFenceWays$Setting;"⟩, 3), (⟨"FenceWays", "driftOnce", "()V"⟩, 19), (⟨"FenceWays", "draw", "(I)I"⟩, 19), (⟨"FenceWaysModel", "goes", "([IZ)I"⟩, 45), (⟨"FenceWaysModel", "ahead", "(I)I"⟩, 45), (⟨"FenceWaysModel", "isAhead", "(II)Z"⟩, 45), (⟨"FenceWaysModel", "waits", "(I)I"⟩, 45), (⟨"FenceWaysModel", "isBound", "(II)Z"⟩, 45)]
theorem lw_r2 : ∀ q ∈ lw_privs_2, lw_okq q := List.forall_mem_cons.mpr ⟨lw_p16, List.forall_mem_cons.mpr ⟨lw_p17, List.forall_mem_cons.mpr ⟨lw_p18, List.forall_mem_cons.mpr ⟨lw_p19, List.forall_mem_cons.mpr ⟨lw_p20, List.forall_mem_cons.mpr ⟨lw_p21, List.forall_mem_cons.mpr ⟨lw_p22, List.forall_mem_cons.mpr ⟨lw_p23, List.forall_mem_cons.mpr ⟨lw_p24, List.forall_mem_cons.mpr ⟨lw_p25, List.forall_mem_cons.mpr ⟨lw_p26, List.forall_mem_cons.mpr ⟨lw_p27, List.forall_mem_cons.mpr ⟨lw_p28, List.forall_mem_cons.mpr ⟨lw_p29, List.forall_mem_cons.mpr ⟨lw_p30, List.forall_mem_cons.mpr ⟨lw_p31, fun _ h => absurd h List.not_mem_nil⟩⟩⟩⟩⟩⟩⟩⟩⟩⟩⟩⟩⟩⟩⟩⟩
theorem lw_p32 : lw_okq (⟨"FenceWaysModel", "kind", "(II)I"⟩, 45) := ⟨⟨by decide +kernel, by decide +kernel⟩, List.mem_of_getElem? (i := 740) (by decide +kernel), List.mem_of_getElem? (i := 766) (by decide +kernel), List.mem_of_getElem? (i := 767) (by decide +kernel)⟩
theorem lw_p33 : lw_okq (⟨"FenceWaysModel", "does", "(II)V"⟩, 45) := ⟨⟨by decide +kernel, by decide +kernel⟩, List.mem_of_getElem? (i := 740) (by decide +kernel), List.mem_of_getElem? (i := 779) (by decide +kernel), List.mem_of_getElem? (i := 780) (by decide +kernel)⟩
theorem lw_p34 : lw_okq (⟨"FenceWaysModel", "weight", "(I)I"⟩, 45) := ⟨⟨by decide +kernel, by decide +kernel⟩, List.mem_of_getElem? (i := 740) (by decide +kernel), List.mem_of_getElem? (i := 783) (by decide +kernel), List.mem_of_getElem? (i := 784) (by decide +kernel)⟩
theorem lw_p35 : lw_okq (⟨"FenceWaysModel", "stray", "(I)I"⟩, 45) := ⟨⟨by decide +kernel, by decide +kernel⟩, List.mem_of_getElem? (i := 740) (by decide +kernel), List.mem_of_getElem? (i := 929) (by decide +kernel), List.mem_of_getElem? (i := 930) (by decide +kernel)⟩
theorem lw_p36 : lw_okq (⟨"FenceWaysModel", "readings", "()I"⟩, 45) := ⟨⟨by decide +kernel, by decide +kernel⟩, List.mem_of_getElem? (i := 740) (by decide +kernel), List.mem_of_getElem? (i := 933) (by decide +kernel), List.mem_of_getElem? (i := 934) (by decide +kernel)⟩
theorem lw_p37 : lw_okq (⟨"FenceWaysModel", "isStep", "(I)Z"⟩, 45) := ⟨⟨by decide +kernel, by decide +kernel⟩, List.mem_of_getElem? (i := 740) (by decide +kernel), List.mem_of_getElem? (i := 948) (by decide +kernel), List.mem_of_getElem? (i := 949) (by decide +kernel)⟩
theorem lw_p38 : lw_okq (⟨"FenceWaysModel", "isGap", "(I)Z"⟩, 45) := ⟨⟨by decide +kernel, by decide +kernel⟩, List.mem_of_getElem? (i := 740) (by decide +kernel), List.mem_of_getElem? (i := 953) (by decide +kernel), List.mem_of_getElem? (i := 954) (by decide +kernel)⟩
theorem lw_p39 : lw_okq (⟨"FenceWaysModel", "holds", "(I)I"⟩, 45) := ⟨⟨by decide +kernel, by decide +kernel⟩, List.mem_of_getElem? (i := 740) (by decide +kernel), List.mem_of_getElem? (i := 957) (by decide +kernel), List.mem_of_getElem? (i := 958) (by decide +kernel)⟩
theorem lw_p40 : lw_okq (⟨"FenceWaysModel", "isLoose", "(II)Z"⟩, 45) := ⟨⟨by decide +kernel, by decide +kernel⟩, List.mem_of_getElem? (i := 740) (by decide +kernel), List.mem_of_getElem? (i := 961) (by decide +kernel), List.mem_of_getElem? (i := 962) (by decide +kernel)⟩
theorem lw_p41 : lw_okq (⟨"FenceWaysModel", "isPair", "(II)Z"⟩, 45) := ⟨⟨by decide +kernel, by decide +kernel⟩, List.mem_of_getElem? (i := 740) (by decide +kernel), List.mem_of_getElem? (i := 965) (by decide +kernel), List.mem_of_getElem? (i := 966) (by decide +kernel)⟩
theorem lw_p42 : lw_okq (⟨"FenceWaysModel", "conflicts", "(I)I"⟩, 45) := ⟨⟨by decide +kernel, by decide +kernel⟩, List.mem_of_getElem? (i := 740) (by decide +kernel), List.mem_of_getElem? (i := 969) (by decide +kernel), List.mem_of_getElem? (i := 970) (by decide +kernel)⟩
theorem lw_p43 : lw_okq (⟨"FenceWaysModel", "isConflict", "(II)Z"⟩, 45) := ⟨⟨by decide +kernel, by decide +kernel⟩, List.mem_of_getElem? (i := 740) (by decide +kernel), List.mem_of_getElem? (i := 973) (by decide +kernel), List.mem_of_getElem? (i := 974) (by decide +kernel)⟩
theorem lw_p44 : lw_okq (⟨"FenceWaysModel", "reads", "()I"⟩, 45) := ⟨⟨by decide +kernel, by decide +kernel⟩, List.mem_of_getElem? (i := 740) (by decide +kernel), List.mem_of_getElem? (i := 991) (by decide +kernel), List.mem_of_getElem? (i := 992) (by decide +kernel)⟩
theorem lw_p45 : lw_okq (⟨"FenceWaysModel", "sign", "()I"⟩, 45) := ⟨⟨by decide +kernel, by decide +kernel⟩, List.mem_of_getElem? (i := 740) (by decide +kernel), List.mem_of_getElem? (i := 995) (by decide +kernel), List.mem_of_getElem? (i := 996) (by decide +kernel)⟩
theorem lw_p46 : lw_okq (⟨"FenceWaysModel", "readsThread", "()I"⟩, 45) := ⟨⟨by decide +kernel, by decide +kernel⟩, List.mem_of_getElem? (i := 740) (by decide +kernel), List.mem_of_getElem? (i := 999) (by decide +kernel), List.mem_of_getElem? (i := 1000) (by decide +kernel)⟩
theorem lw_p47 : lw_okq (⟨"FenceWaysModel", "ends", "()I"⟩, 45) := ⟨⟨by decide +kernel, by decide +kernel⟩, List.mem_of_getElem? (i := 740) (by decide +kernel), List.mem_of_getElem? (i := 1003) (by decide +kernel), List.mem_of_getElem? (i := 1004) (by decide +kernel)⟩
def lw_privs_3 : List (MethodName × Nat) := [(⟨"FenceWaysModel", "kind", "(II)I"⟩, 45), (⟨"FenceWaysModel", "does", "(II)V"⟩, 45), (⟨"FenceWaysModel", "weight", "(I)I"⟩, 45), (⟨"FenceWaysModel", "stray", "(I)I"⟩, 45), (⟨"FenceWaysModel", "readings", "()I"⟩, 45), (⟨"FenceWaysModel", "isStep", "(I)Z"⟩, 45), (⟨"FenceWaysModel", "isGap", "(I)Z"⟩, 45), (⟨"FenceWaysModel", "holds", "(I)I"⟩, 45), (⟨"FenceWaysModel", "isLoose", "(II)Z"⟩, 45), (⟨"FenceWaysModel", "isPair", "(II)Z"⟩, 45), (⟨"FenceWaysModel", "conflicts", "(I)I"⟩, 45), (⟨"FenceWaysModel", "isConflict", "(II)Z"⟩, 45), (⟨"FenceWaysModel", "reads", "()I"⟩, 45), (⟨"FenceWaysModel", "sign", "()I"⟩, 45), (⟨"FenceWaysModel", "readsThread", "()I"⟩, 45), (⟨"FenceWaysModel", "ends", "()I"⟩, 45)]
theorem lw_r3 : ∀ q ∈ lw_privs_3, lw_okq q := List.forall_mem_cons.mpr ⟨lw_p32, List.forall_mem_cons.mpr ⟨lw_p33, List.forall_mem_cons.mpr ⟨lw_p34, List.forall_mem_cons.mpr ⟨lw_p35, List.forall_mem_cons.mpr ⟨lw_p36, List.forall_mem_cons.mpr ⟨lw_p37, List.forall_mem_cons.mpr ⟨lw_p38, List.forall_mem_cons.mpr ⟨lw_p39, List.forall_mem_cons.mpr ⟨lw_p40, List.forall_mem_cons.mpr ⟨lw_p41, List.forall_mem_cons.mpr ⟨lw_p42, List.forall_mem_cons.mpr ⟨lw_p43, List.forall_mem_cons.mpr ⟨lw_p44, List.forall_mem_cons.mpr ⟨lw_p45, List.forall_mem_cons.mpr ⟨lw_p46, List.forall_mem_cons.mpr ⟨lw_p47, fun _ h => absurd h List.not_mem_nil⟩⟩⟩⟩⟩⟩⟩⟩⟩⟩⟩⟩⟩⟩⟩⟩
theorem lw_p48 : lw_okq (⟨"FenceWaysModel", "readsStep", "(Z)I"⟩, 45) := ⟨⟨by decide +kernel, by decide +kernel⟩, List.mem_of_getElem? (i := 740) (by decide +kernel), List.mem_of_getElem? (i := 1007) (by decide +kernel), List.mem_of_getElem? (i := 1008) (by decide +kernel)⟩
theorem lw_p49 : lw_okq (⟨"FenceWaysModel", "laysRings", "()V"⟩, 45) := ⟨⟨by decide +kernel, by decide +kernel⟩, List.mem_of_getElem? (i := 740) (by decide +kernel), List.mem_of_getElem? (i := 1011) (by decide +kernel), List.mem_of_getElem? (i := 1012) (by decide +kernel)⟩
theorem lw_p50 : lw_okq (⟨"FenceWaysModel", "laysGifts", "()V"⟩, 45) := ⟨⟨by decide +kernel, by decide +kernel⟩, List.mem_of_getElem? (i := 740) (by decide +kernel), List.mem_of_getElem? (i := 1015) (by decide +kernel), List.mem_of_getElem? (i := 1016) (by decide +kernel)⟩
theorem lw_p51 : lw_okq (⟨"FenceWaysModel", "laysTwos", "()V"⟩, 45) := ⟨⟨by decide +kernel, by decide +kernel⟩, List.mem_of_getElem? (i := 740) (by decide +kernel), List.mem_of_getElem? (i := 1019) (by decide +kernel), List.mem_of_getElem? (i := 1020) (by decide +kernel)⟩
theorem lw_p52 : lw_okq (⟨"FenceWaysModel", "isOne", "(I)Z"⟩, 45) := ⟨⟨by decide +kernel, by decide +kernel⟩, List.mem_of_getElem? (i := 740) (by decide +kernel), List.mem_of_getElem? (i := 1023) (by decide +kernel), List.mem_of_getElem? (i := 1024) (by decide +kernel)⟩
theorem lw_p53 : lw_okq (⟨"FenceWaysModel", "meets", "(II)Z"⟩, 45) := ⟨⟨by decide +kernel, by decide +kernel⟩, List.mem_of_getElem? (i := 740) (by decide +kernel), List.mem_of_getElem? (i := 1027) (by decide +kernel), List.mem_of_getElem? (i := 1028) (by decide +kernel)⟩
theorem lw_p54 : lw_okq (⟨"FenceWaysModel", "gives", "(I)V"⟩, 45) := ⟨⟨by decide +kernel, by decide +kernel⟩, List.mem_of_getElem? (i := 740) (by decide +kernel), List.mem_of_getElem? (i := 1031) (by decide +kernel), List.mem_of_getElem? (i := 1032) (by decide +kernel)⟩
theorem lw_p55 : lw_okq (⟨"FenceWaysModel", "laysThrees", "(II)V"⟩, 45) := ⟨⟨by decide +kernel, by decide +kernel⟩, List.mem_of_getElem? (i := 740) (by decide +kernel), List.mem_of_getElem? (i := 1035) (by decide +kernel), List.mem_of_getElem? (i := 1036) (by decide +kernel)⟩
theorem lw_p56 : lw_okq (⟨"FenceWaysModel", "fits", "(III)Z"⟩, 45) := ⟨⟨by decide +kernel, by decide +kernel⟩, List.mem_of_getElem? (i := 740) (by decide +kernel), List.mem_of_getElem? (i := 1039) (by decide +kernel), List.mem_of_getElem? (i := 1040) (by decide +kernel)⟩
theorem lw_p57 : lw_okq (⟨"FenceWaysModel", "marks", "()V"⟩, 45) := ⟨⟨by decide +kernel, by decide +kernel⟩, List.mem_of_getElem? (i := 740) (by decide +kernel), List.mem_of_getElem? (i := 1051) (by decide +kernel), List.mem_of_getElem? (i := 1052) (by decide +kernel)⟩
theorem lw_p58 : lw_okq (⟨"FenceWaysModel", "price", "(I)I"⟩, 45) := ⟨⟨by decide +kernel, by decide +kernel⟩, List.mem_of_getElem? (i := 740) (by decide +kernel), List.mem_of_getElem? (i := 1055) (by decide +kernel), List.mem_of_getElem? (i := 1056) (by decide +kernel)⟩
theorem lw_p59 : lw_okq (⟨"FenceWaysModel", "cheapest", "()I"⟩, 45) := ⟨⟨by decide +kernel, by decide +kernel⟩, List.mem_of_getElem? (i := 740) (by decide +kernel), List.mem_of_getElem? (i := 1071) (by decide +kernel), List.mem_of_getElem? (i := 1072) (by decide +kernel)⟩
theorem lw_p60 : lw_okq (⟨"FenceWaysModel", "loosePairs", "()I"⟩, 45) := ⟨⟨by decide +kernel, by decide +kernel⟩, List.mem_of_getElem? (i := 740) (by decide +kernel), List.mem_of_getElem? (i := 1075) (by decide +kernel), List.mem_of_getElem? (i := 1076) (by decide +kernel)⟩
theorem lw_p61 : lw_okq (⟨"FenceWaysModel", "gaps", "()I"⟩, 45) := ⟨⟨by decide +kernel, by decide +kernel⟩, List.mem_of_getElem? (i := 740) (by decide +kernel), List.mem_of_getElem? (i := 1079) (by decide +kernel), List.mem_of_getElem? (i := 1080) (by decide +kernel)⟩
theorem lw_p62 : lw_okq (⟨"FenceWaysModel", "drawn", "()V"⟩, 45) := ⟨⟨by decide +kernel, by decide +kernel⟩, List.mem_of_getElem? (i := 740) (by decide +kernel), List.mem_of_getElem? (i := 1087) (by decide +kernel), List.mem_of_getElem? (i := 1088) (by decide +kernel)⟩
theorem lw_p63 : lw_okq (⟨"FenceWaysModel", "draw", "(I)I"⟩, 45) := ⟨⟨by decide +kernel, by decide +kernel⟩, List.mem_of_getElem? (i := 740) (by decide +kernel), List.mem_of_getElem? (i := 1091) (by decide +kernel), List.mem_of_getElem? (i := 1092) (by decide +kernel)⟩
def lw_privs_4 : List (MethodName × Nat) := [(⟨"FenceWaysModel", "readsStep", "(Z)I"⟩, 45), (⟨"FenceWaysModel", "laysRings", "()V"⟩, 45), (⟨"FenceWaysModel", "laysGifts", "()V"⟩, 45), (⟨"FenceWaysModel", "laysTwos", "()V"⟩, 45), (⟨"FenceWaysModel", "isOne", "(I)Z"⟩, 45), (⟨"FenceWaysModel", "meets", "(II)Z"⟩, 45), (⟨"FenceWaysModel", "gives", "(I)V"⟩, 45), (⟨"FenceWaysModel", "laysThrees", "(II)V"⟩, 45), (⟨"FenceWaysModel", "fits", "(III)Z"⟩, 45), (⟨"FenceWaysModel", "marks", "()V"⟩, 45), (⟨"FenceWaysModel", "price", "(I)I"⟩, 45), (⟨"FenceWaysModel", "cheapest", "()I"⟩, 45), (⟨"FenceWaysModel", "loosePairs", "()I"⟩, 45), (⟨"FenceWaysModel", "gaps", "()I"⟩, 45), (⟨"FenceWaysModel", "drawn", "()V"⟩, 45), (⟨"FenceWaysModel", "draw", "(I)I"⟩, 45)]
theorem lw_r4 : ∀ q ∈ lw_privs_4, lw_okq q := List.forall_mem_cons.mpr ⟨lw_p48, List.forall_mem_cons.mpr ⟨lw_p49, List.forall_mem_cons.mpr ⟨lw_p50, List.forall_mem_cons.mpr ⟨lw_p51, List.forall_mem_cons.mpr ⟨lw_p52, List.forall_mem_cons.mpr ⟨lw_p53, List.forall_mem_cons.mpr ⟨lw_p54, List.forall_mem_cons.mpr ⟨lw_p55, List.forall_mem_cons.mpr ⟨lw_p56, List.forall_mem_cons.mpr ⟨lw_p57, List.forall_mem_cons.mpr ⟨lw_p58, List.forall_mem_cons.mpr ⟨lw_p59, List.forall_mem_cons.mpr ⟨lw_p60, List.forall_mem_cons.mpr ⟨lw_p61, List.forall_mem_cons.mpr ⟨lw_p62, List.forall_mem_cons.mpr ⟨lw_p63, fun _ h => absurd h List.not_mem_nil⟩⟩⟩⟩⟩⟩⟩⟩⟩⟩⟩⟩⟩⟩⟩⟩
theorem lw_p64 : lw_okq (⟨"FenceWaysModel", "toldMore", "(I)I"⟩, 45) := ⟨⟨by decide +kernel, by decide +kernel⟩, List.mem_of_getElem? (i := 740) (by decide +kernel), List.mem_of_getElem? (i := 1128) (by decide +kernel), List.mem_of_getElem? (i := 1129) (by decide +kernel)⟩
theorem lw_p65 : lw_okq (⟨"FenceWaysModel", "needed", "()I"⟩, 45) := ⟨⟨by decide +kernel, by decide +kernel⟩, List.mem_of_getElem? (i := 740) (by decide +kernel), List.mem_of_getElem? (i := 1132) (by decide +kernel), List.mem_of_getElem? (i := 1133) (by decide +kernel)⟩
theorem lw_p66 : lw_okq (⟨"FenceWaysModel", "wrong", "()I"⟩, 45) := ⟨⟨by decide +kernel, by decide +kernel⟩, List.mem_of_getElem? (i := 740) (by decide +kernel), List.mem_of_getElem? (i := 1136) (by decide +kernel), List.mem_of_getElem? (i := 1137) (by decide +kernel)⟩
def lw_privs_5 : List (MethodName × Nat) := [(⟨"FenceWaysModel", "toldMore", "(I)I"⟩, 45), (⟨"FenceWaysModel", "needed", "()I"⟩, 45), (⟨"FenceWaysModel", "wrong", "()I"⟩, 45)]
theorem lw_r5 : ∀ q ∈ lw_privs_5, lw_okq q := List.forall_mem_cons.mpr ⟨lw_p64, List.forall_mem_cons.mpr ⟨lw_p65, List.forall_mem_cons.mpr ⟨lw_p66, fun _ h => absurd h List.not_mem_nil⟩⟩⟩
def lw_privs : List (MethodName × Nat) := lw_privs_1 ++ (lw_privs_2 ++ (lw_privs_3 ++ (lw_privs_4 ++ (lw_privs_5))))
def lw_tbl : List Cond := k2_sels lw_privs ++ tables_1
theorem lw_privs_ok : ∀ q ∈ lw_privs, lw_okq q := by
  show ∀ q ∈ lw_privs_1 ++ (lw_privs_2 ++ (lw_privs_3 ++ (lw_privs_4 ++ (lw_privs_5)))), lw_okq q
  exact List.forall_mem_append.mpr ⟨lw_r1, List.forall_mem_append.mpr ⟨lw_r2, List.forall_mem_append.mpr ⟨lw_r3, List.forall_mem_append.mpr ⟨lw_r4, lw_r5⟩⟩⟩⟩
end
section
def RX0 : String := "FenceWays$Book"
def TX0 : u_T := fun k => match k with
  | 0 => ("FenceWays$Book", "numbers", "[I", true)
  | 1 => ("FenceWays$Book", "thatCan", "I", false)
  | _ => ("FenceWays$Book", "count", "I", false)
def tyX0 : Nat → FieldType := fun k => match k with
  | 0 => .array .int
  | 1 => .int
  | _ => .int
abbrev wsX00 : List Cond := u_ws RX0 TX0 3
theorem nmX0 : ∀ a, a < 3 → ∀ b, b < 3 → a ≠ b → (TX0 a).2.1 ≠ (TX0 b).2.1 := by decide +kernel
theorem tyX0_ok : ∀ k, k < 3 → parseFieldDescriptor (TX0 k).2.2.1 = some (tyX0 k) := by decide +kernel
abbrev cX0_init : ByteArray := prog_2_method_1_code
def yX0_init : MethodName := ⟨RX0, "<init>", "()V"⟩
abbrev cX0_clear : ByteArray := prog_2_method_2_code
def yX0_clear : MethodName := ⟨RX0, "clear", "()V"⟩
abbrev cX0_add : ByteArray := prog_2_method_3_code
def yX0_add : MethodName := ⟨RX0, "add", "(IZ)Z"⟩
abbrev cX0_firstWrong : ByteArray := prog_2_method_4_code
def yX0_firstWrong : MethodName := ⟨RX0, "firstWrong", "(LFenceWays$ReadingList;)I"⟩
def RX1 : String := "FenceWays$History"
def TX1 : u_T := fun k => match k with
  | 0 => ("FenceWays$History", "settings", "[LFenceWays$Setting;", true)
  | 1 => ("FenceWays$History", "oldest", "I", false)
  | _ => ("FenceWays$History", "count", "I", false)
def tyX1 : Nat → FieldType := fun k => match k with
  | 0 => .array (.object "FenceWays$Setting")
  | 1 => .int
  | _ => .int
abbrev wsX10 : List Cond := u_ws RX1 TX1 3
theorem nmX1 : ∀ a, a < 3 → ∀ b, b < 3 → a ≠ b → (TX1 a).2.1 ≠ (TX1 b).2.1 := by decide +kernel
theorem tyX1_ok : ∀ k, k < 3 → parseFieldDescriptor (TX1 k).2.2.1 = some (tyX1 k) := by decide +kernel
abbrev cX1_init : ByteArray := prog_3_method_1_code
def yX1_init : MethodName := ⟨RX1, "<init>", "()V"⟩
abbrev cX1_clear : ByteArray := prog_3_method_2_code
def yX1_clear : MethodName := ⟨RX1, "clear", "()V"⟩
abbrev cX1_add : ByteArray := prog_3_method_3_code
def yX1_add : MethodName := ⟨RX1, "add", "(LFenceWays$Setting;)V"⟩
abbrev cX1_takeBack : ByteArray := prog_3_method_4_code
def yX1_takeBack : MethodName := ⟨RX1, "takeBack", "(ILFenceWays$Setting;)V"⟩
abbrev cX1_settingAt : ByteArray := prog_3_method_5_code
def yX1_settingAt : MethodName := ⟨RX1, "settingAt", "(I)LFenceWays$Setting;"⟩
def RX2 : String := "FenceWays$Image"
def TX2 : u_T := fun k => match k with
  | 0 => ("FenceWays$Image", "setting", "LFenceWays$Setting;", true)
  | 1 => ("FenceWays$Image", "seedThen", "I", false)
  | _ => ("FenceWays$Image", "isKept", "Z", false)
def tyX2 : Nat → FieldType := fun k => match k with
  | 0 => .object "FenceWays$Setting"
  | 1 => .int
  | _ => .boolean
abbrev wsX20 : List Cond := u_ws RX2 TX2 3
theorem nmX2 : ∀ a, a < 3 → ∀ b, b < 3 → a ≠ b → (TX2 a).2.1 ≠ (TX2 b).2.1 := by decide +kernel
theorem tyX2_ok : ∀ k, k < 3 → parseFieldDescriptor (TX2 k).2.2.1 = some (tyX2 k) := by decide +kernel
abbrev cX2_init : ByteArray := prog_4_method_1_code
def yX2_init : MethodName := ⟨RX2, "<init>", "()V"⟩
abbrev cX2_hold : ByteArray := prog_4_method_2_code
def yX2_hold : MethodName := ⟨RX2, "hold", "(LFenceWays$Setting;I)V"⟩
def RX3 : String := "FenceWays$LoosePairs"
def TX3 : u_T := fun k => match k with
  | 0 => ("FenceWays$LoosePairs", "holders", "[I", true)
  | _ => ("FenceWays$LoosePairs", "count", "I", false)
def tyX3 : Nat → FieldType := fun k => match k with
  | 0 => .array .int
  | _ => .int
abbrev wsX30 : List Cond := u_ws RX3 TX3 2
theorem nmX3 : ∀ a, a < 2 → ∀ b, b < 2 → a ≠ b → (TX3 a).2.1 ≠ (TX3 b).2.1 := by decide +kernel
theorem tyX3_ok : ∀ k, k < 2 → parseFieldDescriptor (TX3 k).2.2.1 = some (tyX3 k) := by decide +kernel
abbrev cX3_init : ByteArray := prog_5_method_1_code
def yX3_init : MethodName := ⟨RX3, "<init>", "()V"⟩
abbrev cX3_gather : ByteArray := prog_5_method_2_code
def yX3_gather : MethodName := ⟨RX3, "gather", "(LFenceWays$Plan;LFenceWays$Rings;I)V"⟩
abbrev cX3_countHeld : ByteArray := prog_5_method_3_code
def yX3_countHeld : MethodName := ⟨RX3, "countHeld", "(I)I"⟩
abbrev cX3_areAllHeld : ByteArray := prog_5_method_4_code
def yX3_areAllHeld : MethodName := ⟨RX3, "areAllHeld", "(I)Z"⟩
abbrev cX3_neededOf : ByteArray := prog_5_method_5_code
def yX3_neededOf : MethodName := ⟨RX3, "neededOf", "(I)I"⟩
abbrev cX3_cheapestSet : ByteArray := prog_5_method_6_code
def yX3_cheapestSet : MethodName := ⟨RX3, "cheapestSet", "(ILFenceWays$Setting;)I"⟩
abbrev cX3_add : ByteArray := prog_5_method_7_code
def yX3_add : MethodName := ⟨RX3, "add", "(I)V"⟩
abbrev cX3_holdersAt : ByteArray := prog_5_method_8_code
def yX3_holdersAt : MethodName := ⟨RX3, "holdersAt", "(I)I"⟩
def RX4 : String := "FenceWays$Orders"
def TX4 : u_T := fun k => match k with
  | 0 => ("FenceWays$Orders", "states", "[J", false)
  | 1 => ("FenceWays$Orders", "nextStates", "[J", false)
  | 2 => ("FenceWays$Orders", "slots", "[I", true)
  | 3 => ("FenceWays$Orders", "waits", "[I", true)
  | 4 => ("FenceWays$Orders", "weights", "[I", true)
  | 5 => ("FenceWays$Orders", "count", "I", false)
  | _ => ("FenceWays$Orders", "nextCount", "I", false)
def tyX4 : Nat → FieldType := fun k => match k with
  | 0 => .array .long
  | 1 => .array .long
  | 2 => .array .int
  | 3 => .array .int
  | 4 => .array .int
  | 5 => .int
  | _ => .int
abbrev wsX40 : List Cond := u_ws RX4 TX4 7
theorem nmX4 : ∀ a, a < 7 → ∀ b, b < 7 → a ≠ b → (TX4 a).2.1 ≠ (TX4 b).2.1 := by decide +kernel
theorem tyX4_ok : ∀ k, k < 7 → parseFieldDescriptor (TX4 k).2.2.1 = some (tyX4 k) := by decide +kernel
abbrev cX4_init : ByteArray := prog_6_method_1_code
def yX4_init : MethodName := ⟨RX4, "<init>", "()V"⟩
abbrev cX4_findReadings : ByteArray := prog_6_method_2_code
def yX4_findReadings : MethodName := ⟨RX4, "findReadings", "(LFenceWays$Plan;IILFenceWays$ReadingList;)V"⟩
abbrev cX4_weigh : ByteArray := prog_6_method_3_code
def yX4_weigh : MethodName := ⟨RX4, "weigh", "(LFenceWays$Plan;)V"⟩
abbrev cX4_doOneMore : ByteArray := prog_6_method_4_code
def yX4_doOneMore : MethodName := ⟨RX4, "doOneMore", "(LFenceWays$Plan;)V"⟩
abbrev cX4_doEach : ByteArray := prog_6_method_5_code
def yX4_doEach : MethodName := ⟨RX4, "doEach", "(LFenceWays$Plan;J)V"⟩
abbrev cX4_behind : ByteArray := prog_6_method_6_code
def yX4_behind : MethodName := ⟨RX4, "behind", "(LFenceWays$Plan;JI)J"⟩
abbrev cX4_addNext : ByteArray := prog_6_method_7_code
def yX4_addNext : MethodName := ⟨RX4, "addNext", "(J)V"⟩
abbrev cX4_putNext : ByteArray := prog_6_method_8_code
def yX4_putNext : MethodName := ⟨RX4, "putNext", "(IJ)V"⟩
def RX5 : String := "FenceWays$Parser"
def TX5 : u_T := fun k => match k with
  | 0 => ("FenceWays$Parser", "faultPlace", "I", false)
  | 1 => ("FenceWays$Parser", "state", "I", false)
  | _ => ("FenceWays$Parser", "stepWrites", "Z", false)
def tyX5 : Nat → FieldType := fun k => match k with
  | 0 => .int
  | 1 => .int
  | _ => .boolean
abbrev wsX50 : List Cond := u_ws RX5 TX5 3
theorem nmX5 : ∀ a, a < 3 → ∀ b, b < 3 → a ≠ b → (TX5 a).2.1 ≠ (TX5 b).2.1 := by decide +kernel
theorem tyX5_ok : ∀ k, k < 3 → parseFieldDescriptor (TX5 k).2.2.1 = some (tyX5 k) := by decide +kernel
abbrev cX5_init : ByteArray := prog_7_method_1_code
def yX5_init : MethodName := ⟨RX5, "<init>", "()V"⟩
abbrev cX5_parse : ByteArray := prog_7_method_2_code
def yX5_parse : MethodName := ⟨RX5, "parse", "(LFenceWays$Text;LFenceWays$Plan;)I"⟩
abbrev cX5_take : ByteArray := prog_7_method_3_code
def yX5_take : MethodName := ⟨RX5, "take", "(ILFenceWays$Plan;)I"⟩
abbrev cX5_takeWord : ByteArray := prog_7_method_4_code
def yX5_takeWord : MethodName := ⟨RX5, "takeWord", "(ILFenceWays$Plan;)I"⟩
abbrev cX5_takeCell : ByteArray := prog_7_method_5_code
def yX5_takeCell : MethodName := ⟨RX5, "takeCell", "(ILFenceWays$Plan;)I"⟩
def RX6 : String := "FenceWays$Plan"
def TX6 : u_T := fun k => match k with
  | 0 => ("FenceWays$Plan", "threads", "[I", true)
  | 1 => ("FenceWays$Plan", "cells", "[I", true)
  | 2 => ("FenceWays$Plan", "threadCount", "I", false)
  | 3 => ("FenceWays$Plan", "stepCount", "I", false)
  | 4 => ("FenceWays$Plan", "writers", "I", false)
  | _ => ("FenceWays$Plan", "gaps", "I", false)
def tyX6 : Nat → FieldType := fun k => match k with
  | 0 => .array .int
  | 1 => .array .int
  | 2 => .int
  | 3 => .int
  | 4 => .int
  | _ => .int
abbrev wsX60 : List Cond := u_ws RX6 TX6 6
theorem nmX6 : ∀ a, a < 6 → ∀ b, b < 6 → a ≠ b → (TX6 a).2.1 ≠ (TX6 b).2.1 := by decide +kernel
theorem tyX6_ok : ∀ k, k < 6 → parseFieldDescriptor (TX6 k).2.2.1 = some (tyX6 k) := by decide +kernel
abbrev cX6_init : ByteArray := prog_8_method_1_code
def yX6_init : MethodName := ⟨RX6, "<init>", "()V"⟩
abbrev cX6_clear : ByteArray := prog_8_method_2_code
def yX6_clear : MethodName := ⟨RX6, "clear", "()V"⟩
abbrev cX6_addThread : ByteArray := prog_8_method_3_code
def yX6_addThread : MethodName := ⟨RX6, "addThread", "()Z"⟩
abbrev cX6_addStep : ByteArray := prog_8_method_4_code
def yX6_addStep : MethodName := ⟨RX6, "addStep", "(IZ)V"⟩
abbrev cX6_hasStep : ByteArray := prog_8_method_5_code
def yX6_hasStep : MethodName := ⟨RX6, "hasStep", "(I)Z"⟩
abbrev cX6_hasGap : ByteArray := prog_8_method_6_code
def yX6_hasGap : MethodName := ⟨RX6, "hasGap", "(I)Z"⟩
abbrev cX6_threadOf : ByteArray := prog_8_method_7_code
def yX6_threadOf : MethodName := ⟨RX6, "threadOf", "(I)I"⟩
abbrev cX6_cellOf : ByteArray := prog_8_method_8_code
def yX6_cellOf : MethodName := ⟨RX6, "cellOf", "(I)I"⟩
abbrev cX6_isWriter : ByteArray := prog_8_method_9_code
def yX6_isWriter : MethodName := ⟨RX6, "isWriter", "(I)Z"⟩
abbrev cX6_isAhead : ByteArray := prog_8_method_10_code
def yX6_isAhead : MethodName := ⟨RX6, "isAhead", "(II)Z"⟩
abbrev cX6_areInConflict : ByteArray := prog_8_method_11_code
def yX6_areInConflict : MethodName := ⟨RX6, "areInConflict", "(II)Z"⟩
abbrev cX6_conflictsOf : ByteArray := prog_8_method_12_code
def yX6_conflictsOf : MethodName := ⟨RX6, "conflictsOf", "(I)I"⟩
abbrev cX6_mayOvertake : ByteArray := prog_8_method_13_code
def yX6_mayOvertake : MethodName := ⟨RX6, "mayOvertake", "(III)Z"⟩
abbrev cX6_waitsOf : ByteArray := prog_8_method_14_code
def yX6_waitsOf : MethodName := ⟨RX6, "waitsOf", "(III)I"⟩
abbrev cX6_kindOf : ByteArray := prog_8_method_15_code
def yX6_kindOf : MethodName := ⟨RX6, "kindOf", "(II)I"⟩
def RX7 : String := "FenceWays$ReadingList"
def TX7 : u_T := fun k => match k with
  | 0 => ("FenceWays$ReadingList", "numbers", "[I", true)
  | _ => ("FenceWays$ReadingList", "count", "I", false)
def tyX7 : Nat → FieldType := fun k => match k with
  | 0 => .array .int
  | _ => .int
abbrev wsX70 : List Cond := u_ws RX7 TX7 2
theorem nmX7 : ∀ a, a < 2 → ∀ b, b < 2 → a ≠ b → (TX7 a).2.1 ≠ (TX7 b).2.1 := by decide +kernel
theorem tyX7_ok : ∀ k, k < 2 → parseFieldDescriptor (TX7 k).2.2.1 = some (tyX7 k) := by decide +kernel
abbrev cX7_init : ByteArray := prog_9_method_1_code
def yX7_init : MethodName := ⟨RX7, "<init>", "()V"⟩
abbrev cX7_clear : ByteArray := prog_9_method_2_code
def yX7_clear : MethodName := ⟨RX7, "clear", "()V"⟩
abbrev cX7_add : ByteArray := prog_9_method_3_code
def yX7_add : MethodName := ⟨RX7, "add", "(I)V"⟩
abbrev cX7_at : ByteArray := prog_9_method_4_code
def yX7_at : MethodName := ⟨RX7, "at", "(I)I"⟩
abbrev cX7_holds : ByteArray := prog_9_method_5_code
def yX7_holds : MethodName := ⟨RX7, "holds", "(I)Z"⟩
abbrev cX7_countWithout : ByteArray := prog_9_method_6_code
def yX7_countWithout : MethodName := ⟨RX7, "countWithout", "(LFenceWays$ReadingList;)I"⟩
abbrev cX7_atWithout : ByteArray := prog_9_method_7_code
def yX7_atWithout : MethodName := ⟨RX7, "atWithout", "(ILFenceWays$ReadingList;)I"⟩
abbrev cX7_placeOf : ByteArray := prog_9_method_8_code
def yX7_placeOf : MethodName := ⟨RX7, "placeOf", "(I)I"⟩
def RX8 : String := "FenceWays$Rings"
def TX8 : u_T := fun k => match k with
  | 0 => ("FenceWays$Rings", "gifts", "[I", true)
  | 1 => ("FenceWays$Rings", "countOf", "[I", true)
  | 2 => ("FenceWays$Rings", "giftCount", "I", false)
  | _ => ("FenceWays$Rings", "count", "I", false)
def tyX8 : Nat → FieldType := fun k => match k with
  | 0 => .array .int
  | 1 => .array .int
  | 2 => .int
  | _ => .int
abbrev wsX80 : List Cond := u_ws RX8 TX8 4
theorem nmX8 : ∀ a, a < 4 → ∀ b, b < 4 → a ≠ b → (TX8 a).2.1 ≠ (TX8 b).2.1 := by decide +kernel
theorem tyX8_ok : ∀ k, k < 4 → parseFieldDescriptor (TX8 k).2.2.1 = some (tyX8 k) := by decide +kernel
abbrev cX8_init : ByteArray := prog_10_method_1_code
def yX8_init : MethodName := ⟨RX8, "<init>", "()V"⟩
abbrev cX8_find : ByteArray := prog_10_method_2_code
def yX8_find : MethodName := ⟨RX8, "find", "(LFenceWays$Plan;)V"⟩
abbrev cX8_countWith : ByteArray := prog_10_method_3_code
def yX8_countWith : MethodName := ⟨RX8, "countWith", "(II)I"⟩
abbrev cX8_gatherGifts : ByteArray := prog_10_method_4_code
def yX8_gatherGifts : MethodName := ⟨RX8, "gatherGifts", "(LFenceWays$Plan;)V"⟩
abbrev cX8_addGift : ByteArray := prog_10_method_5_code
def yX8_addGift : MethodName := ⟨RX8, "addGift", "(I)V"⟩
abbrev cX8_findBegunWith : ByteArray := prog_10_method_6_code
def yX8_findBegunWith : MethodName := ⟨RX8, "findBegunWith", "(LFenceWays$Plan;II)V"⟩
abbrev cX8_leadsTo : ByteArray := prog_10_method_7_code
def yX8_leadsTo : MethodName := ⟨RX8, "leadsTo", "(LFenceWays$Plan;II)Z"⟩
abbrev cX8_countGiven : ByteArray := prog_10_method_8_code
def yX8_countGiven : MethodName := ⟨RX8, "countGiven", "(I)V"⟩
abbrev cX8_giftAt : ByteArray := prog_10_method_9_code
def yX8_giftAt : MethodName := ⟨RX8, "giftAt", "(I)I"⟩
abbrev cX8_giftOf : ByteArray := prog_10_method_10_code
def yX8_giftOf : MethodName := ⟨RX8, "giftOf", "(II)I"⟩
abbrev cX8_firstOf : ByteArray := prog_10_method_11_code
def yX8_firstOf : MethodName := ⟨RX8, "firstOf", "(I)I"⟩
abbrev cX8_lastOf : ByteArray := prog_10_method_12_code
def yX8_lastOf : MethodName := ⟨RX8, "lastOf", "(I)I"⟩
abbrev cX8_isAlone : ByteArray := prog_10_method_13_code
def yX8_isAlone : MethodName := ⟨RX8, "isAlone", "(I)Z"⟩
def RX9 : String := "FenceWays$Setting"
def TX9 : u_T := fun k => match k with
  | 0 => ("FenceWays$Setting", "costs", "[I", true)
  | 1 => ("FenceWays$Setting", "fences", "I", false)
  | _ => ("FenceWays$Setting", "kinds", "I", false)
def tyX9 : Nat → FieldType := fun k => match k with
  | 0 => .array .int
  | 1 => .int
  | _ => .int
abbrev wsX90 : List Cond := u_ws RX9 TX9 3
theorem nmX9 : ∀ a, a < 3 → ∀ b, b < 3 → a ≠ b → (TX9 a).2.1 ≠ (TX9 b).2.1 := by decide +kernel
theorem tyX9_ok : ∀ k, k < 3 → parseFieldDescriptor (TX9 k).2.2.1 = some (tyX9 k) := by decide +kernel
abbrev cX9_init : ByteArray := prog_11_method_1_code
def yX9_init : MethodName := ⟨RX9, "<init>", "()V"⟩
abbrev cX9_clear : ByteArray := prog_11_method_2_code
def yX9_clear : MethodName := ⟨RX9, "clear", "()V"⟩
abbrev cX9_copy : ByteArray := prog_11_method_3_code
def yX9_copy : MethodName := ⟨RX9, "copy", "(LFenceWays$Setting;)V"⟩
abbrev cX9_setFence : ByteArray := prog_11_method_4_code
def yX9_setFence : MethodName := ⟨RX9, "setFence", "(IZ)V"⟩
abbrev cX9_setCost : ByteArray := prog_11_method_5_code
def yX9_setCost : MethodName := ⟨RX9, "setCost", "(II)V"⟩
abbrev cX9_costOf : ByteArray := prog_11_method_6_code
def yX9_costOf : MethodName := ⟨RX9, "costOf", "(I)I"⟩
abbrev cX9_costOfSet : ByteArray := prog_11_method_7_code
def yX9_costOfSet : MethodName := ⟨RX9, "costOfSet", "(I)I"⟩
def RX10 : String := "FenceWays$Text"
def TX10 : u_T := fun k => match k with
  | 0 => ("FenceWays$Text", "letters", "[I", true)
  | _ => ("FenceWays$Text", "length", "I", false)
def tyX10 : Nat → FieldType := fun k => match k with
  | 0 => .array .int
  | _ => .int
abbrev wsX100 : List Cond := u_ws RX10 TX10 2
theorem nmX10 : ∀ a, a < 2 → ∀ b, b < 2 → a ≠ b → (TX10 a).2.1 ≠ (TX10 b).2.1 := by decide +kernel
theorem tyX10_ok : ∀ k, k < 2 → parseFieldDescriptor (TX10 k).2.2.1 = some (tyX10 k) := by decide +kernel
abbrev cX10_init : ByteArray := prog_12_method_1_code
def yX10_init : MethodName := ⟨RX10, "<init>", "()V"⟩
abbrev cX10_add : ByteArray := prog_12_method_2_code
def yX10_add : MethodName := ⟨RX10, "add", "(I)Z"⟩
abbrev cX10_letterAt : ByteArray := prog_12_method_3_code
def yX10_letterAt : MethodName := ⟨RX10, "letterAt", "(I)I"⟩
abbrev cX10_clear : ByteArray := prog_12_method_4_code
def yX10_clear : MethodName := ⟨RX10, "clear", "()V"⟩
def RX11 : String := "FenceWays"
def TX11 : u_T := fun k => match k with
  | 0 => ("FenceWays", "text", "LFenceWays$Text;", true)
  | 1 => ("FenceWays", "parser", "LFenceWays$Parser;", true)
  | 2 => ("FenceWays", "plan", "LFenceWays$Plan;", false)
  | 3 => ("FenceWays", "draft", "LFenceWays$Plan;", false)
  | 4 => ("FenceWays", "rings", "LFenceWays$Rings;", true)
  | 5 => ("FenceWays", "loosePairs", "LFenceWays$LoosePairs;", true)
  | 6 => ("FenceWays", "setting", "LFenceWays$Setting;", true)
  | 7 => ("FenceWays", "history", "LFenceWays$History;", true)
  | 8 => ("FenceWays", "images", "[LFenceWays$Image;", true)
  | 9 => ("FenceWays", "book", "LFenceWays$Book;", true)
  | 10 => ("FenceWays", "orders", "LFenceWays$Orders;", true)
  | 11 => ("FenceWays", "readings", "LFenceWays$ReadingList;", true)
  | 12 => ("FenceWays", "strictReadings", "LFenceWays$ReadingList;", true)
  | 13 => ("FenceWays", "readingsAreKnown", "Z", false)
  | 14 => ("FenceWays", "fencesOfReadings", "I", false)
  | 15 => ("FenceWays", "kindsOfReadings", "I", false)
  | 16 => ("FenceWays", "strictAreKnown", "Z", false)
  | 17 => ("FenceWays", "seedNow", "I", false)
  | _ => ("FenceWays", "faultPlace", "I", false)
def tyX11 : Nat → FieldType := fun k => match k with
  | 0 => .object "FenceWays$Text"
  | 1 => .object "FenceWays$Parser"
  | 2 => .object "FenceWays$Plan"
  | 3 => .object "FenceWays$Plan"
  | 4 => .object "FenceWays$Rings"
  | 5 => .object "FenceWays$LoosePairs"
  | 6 => .object "FenceWays$Setting"
  | 7 => .object "FenceWays$History"
  | 8 => .array (.object "FenceWays$Image")
  | 9 => .object "FenceWays$Book"
  | 10 => .object "FenceWays$Orders"
  | 11 => .object "FenceWays$ReadingList"
  | 12 => .object "FenceWays$ReadingList"
  | 13 => .boolean
  | 14 => .int
  | 15 => .int
  | 16 => .boolean
  | 17 => .int
  | _ => .int
abbrev wsX110 : List Cond := u_ws RX11 TX11 19
theorem nmX11 : ∀ a, a < 19 → ∀ b, b < 19 → a ≠ b → (TX11 a).2.1 ≠ (TX11 b).2.1 := by decide +kernel
theorem tyX11_ok : ∀ k, k < 19 → parseFieldDescriptor (TX11 k).2.2.1 = some (tyX11 k) := by decide +kernel
abbrev cX11_init : ByteArray := prog_1_method_1_code
def yX11_init : MethodName := ⟨RX11, "<init>", "()V"⟩
abbrev cX11_feed : ByteArray := prog_1_method_2_code
def yX11_feed : MethodName := ⟨RX11, "feed", "(I)I"⟩
abbrev cX11_threads : ByteArray := prog_1_method_3_code
def yX11_threads : MethodName := ⟨RX11, "threads", "()I"⟩
abbrev cX11_fault : ByteArray := prog_1_method_4_code
def yX11_fault : MethodName := ⟨RX11, "fault", "()I"⟩
abbrev cX11_told : ByteArray := prog_1_method_5_code
def yX11_told : MethodName := ⟨RX11, "told", "(I)I"⟩
abbrev cX11_step : ByteArray := prog_1_method_6_code
def yX11_step : MethodName := ⟨RX11, "step", "(II)I"⟩
abbrev cX11_pair : ByteArray := prog_1_method_7_code
def yX11_pair : MethodName := ⟨RX11, "pair", "(III)I"⟩
abbrev cX11_reading : ByteArray := prog_1_method_8_code
def yX11_reading : MethodName := ⟨RX11, "reading", "(II)I"⟩
abbrev cX11_can : ByteArray := prog_1_method_9_code
def yX11_can : MethodName := ⟨RX11, "can", "(I)I"⟩
abbrev cX11_fence : ByteArray := prog_1_method_10_code
def yX11_fence : MethodName := ⟨RX11, "fence", "(IZ)I"⟩
abbrev cX11_cost : ByteArray := prog_1_method_11_code
def yX11_cost : MethodName := ⟨RX11, "cost", "(II)I"⟩
abbrev cX11_overtaking : ByteArray := prog_1_method_12_code
def yX11_overtaking : MethodName := ⟨RX11, "overtaking", "(I)I"⟩
abbrev cX11_best : ByteArray := prog_1_method_13_code
def yX11_best : MethodName := ⟨RX11, "best", "()I"⟩
abbrev cX11_drift : ByteArray := prog_1_method_14_code
def yX11_drift : MethodName := ⟨RX11, "drift", "(I)I"⟩
abbrev cX11_undo : ByteArray := prog_1_method_15_code
def yX11_undo : MethodName := ⟨RX11, "undo", "(I)I"⟩
abbrev cX11_write : ByteArray := prog_1_method_16_code
def yX11_write : MethodName := ⟨RX11, "write", "(IZ)I"⟩
abbrev cX11_tear : ByteArray := prog_1_method_17_code
def yX11_tear : MethodName := ⟨RX11, "tear", "()I"⟩
abbrev cX11_seed : ByteArray := prog_1_method_18_code
def yX11_seed : MethodName := ⟨RX11, "seed", "(I)I"⟩
abbrev cX11_keep : ByteArray := prog_1_method_19_code
def yX11_keep : MethodName := ⟨RX11, "keep", "(I)I"⟩
abbrev cX11_goBack : ByteArray := prog_1_method_20_code
def yX11_goBack : MethodName := ⟨RX11, "goBack", "(I)I"⟩
abbrev cX11_startAnew : ByteArray := prog_1_method_21_code
def yX11_startAnew : MethodName := ⟨RX11, "startAnew", "()V"⟩
abbrev cX11_driftOnce : ByteArray := prog_1_method_22_code
def yX11_driftOnce : MethodName := ⟨RX11, "driftOnce", "()V"⟩
abbrev cX11_draw : ByteArray := prog_1_method_23_code
def yX11_draw : MethodName := ⟨RX11, "draw", "(I)I"⟩
abbrev cX11_readingsNow : ByteArray := prog_1_method_24_code
def yX11_readingsNow : MethodName := ⟨RX11, "readingsNow", "()LFenceWays$ReadingList;"⟩
abbrev cX11_strictNow : ByteArray := prog_1_method_25_code
def yX11_strictNow : MethodName := ⟨RX11, "strictNow", "()LFenceWays$ReadingList;"⟩
abbrev cX11_looseNow : ByteArray := prog_1_method_26_code
def yX11_looseNow : MethodName := ⟨RX11, "looseNow", "()LFenceWays$LoosePairs;"⟩
abbrev cX11_bestSet : ByteArray := prog_1_method_27_code
def yX11_bestSet : MethodName := ⟨RX11, "bestSet", "()I"⟩
abbrev cX11_has : ByteArray := prog_1_method_28_code
def yX11_has : MethodName := ⟨RX11, "has", "(II)Z"⟩
abbrev cX11_gapsBetween : ByteArray := prog_1_method_29_code
def yX11_gapsBetween : MethodName := ⟨RX11, "gapsBetween", "(II)I"⟩
def RX12 : String := "FenceWaysModel"
def TX12 : u_T := fun k => match k with
  | 0 => ("FenceWaysModel", "threads", "I", false)
  | 1 => ("FenceWaysModel", "steps", "I", false)
  | 2 => ("FenceWaysModel", "thread", "[I", true)
  | 3 => ("FenceWaysModel", "cell", "[I", true)
  | 4 => ("FenceWaysModel", "writes", "[Z", true)
  | 5 => ("FenceWaysModel", "costs", "[I", true)
  | 6 => ("FenceWaysModel", "fences", "I", false)
  | 7 => ("FenceWaysModel", "over", "I", false)
  | 8 => ("FenceWaysModel", "strict", "[I", true)
  | 9 => ("FenceWaysModel", "loose", "[I", true)
  | 10 => ("FenceWaysModel", "strictMany", "I", false)
  | 11 => ("FenceWaysModel", "looseMany", "I", false)
  | 12 => ("FenceWaysModel", "isLaid", "Z", false)
  | 13 => ("FenceWaysModel", "wait", "[I", true)
  | 14 => ("FenceWaysModel", "next", "[I", true)
  | 15 => ("FenceWaysModel", "picked", "[I", true)
  | 16 => ("FenceWaysModel", "told", "[I", true)
  | 17 => ("FenceWaysModel", "held", "[I", true)
  | 18 => ("FenceWaysModel", "rings", "I", false)
  | 19 => ("FenceWaysModel", "given", "[I", true)
  | 20 => ("FenceWaysModel", "firsts", "[I", true)
  | 21 => ("FenceWaysModel", "lasts", "[I", true)
  | 22 => ("FenceWaysModel", "gifts", "I", false)
  | 23 => ("FenceWaysModel", "text", "[I", true)
  | 24 => ("FenceWaysModel", "letters", "I", false)
  | 25 => ("FenceWaysModel", "faultAt", "I", false)
  | 26 => ("FenceWaysModel", "readAt", "I", false)
  | 27 => ("FenceWaysModel", "newThreads", "I", false)
  | 28 => ("FenceWaysModel", "newSteps", "I", false)
  | 29 => ("FenceWaysModel", "newThread", "[I", true)
  | 30 => ("FenceWaysModel", "newCell", "[I", true)
  | 31 => ("FenceWaysModel", "newWrites", "[Z", true)
  | 32 => ("FenceWaysModel", "past", "I", false)
  | 33 => ("FenceWaysModel", "pastFences", "[I", true)
  | 34 => ("FenceWaysModel", "pastOver", "[I", true)
  | 35 => ("FenceWaysModel", "pastCosts", "[I", true)
  | 36 => ("FenceWaysModel", "seed", "J", false)
  | 37 => ("FenceWaysModel", "entries", "I", false)
  | 38 => ("FenceWaysModel", "numbers", "[I", true)
  | 39 => ("FenceWaysModel", "says", "[Z", true)
  | 40 => ("FenceWaysModel", "isKept", "[Z", true)
  | 41 => ("FenceWaysModel", "keptFences", "[I", true)
  | 42 => ("FenceWaysModel", "keptOver", "[I", true)
  | 43 => ("FenceWaysModel", "keptCosts", "[I", true)
  | _ => ("FenceWaysModel", "keptSeed", "[J", true)
def tyX12 : Nat → FieldType := fun k => match k with
  | 0 => .int
  | 1 => .int
  | 2 => .array .int
  | 3 => .array .int
  | 4 => .array .boolean
  | 5 => .array .int
  | 6 => .int
  | 7 => .int
  | 8 => .array .int
  | 9 => .array .int
  | 10 => .int
  | 11 => .int
  | 12 => .boolean
  | 13 => .array .int
  | 14 => .array .int
  | 15 => .array .int
  | 16 => .array .int
  | 17 => .array .int
  | 18 => .int
  | 19 => .array .int
  | 20 => .array .int
  | 21 => .array .int
  | 22 => .int
  | 23 => .array .int
  | 24 => .int
  | 25 => .int
  | 26 => .int
  | 27 => .int
  | 28 => .int
  | 29 => .array .int
  | 30 => .array .int
  | 31 => .array .boolean
  | 32 => .int
  | 33 => .array .int
  | 34 => .array .int
  | 35 => .array .int
  | 36 => .long
  | 37 => .int
  | 38 => .array .int
  | 39 => .array .boolean
  | 40 => .array .boolean
  | 41 => .array .int
  | 42 => .array .int
  | 43 => .array .int
  | _ => .array .long
abbrev wsX120 : List Cond := u_ws RX12 TX12 45
theorem nmX12 : ∀ a, a < 45 → ∀ b, b < 45 → a ≠ b → (TX12 a).2.1 ≠ (TX12 b).2.1 := by decide +kernel
theorem tyX12_ok : ∀ k, k < 45 → parseFieldDescriptor (TX12 k).2.2.1 = some (tyX12 k) := by decide +kernel
abbrev cX12_init : ByteArray := prog_14_method_1_code
def yX12_init : MethodName := ⟨RX12, "<init>", "()V"⟩
abbrev cX12_isStep : ByteArray := prog_14_method_2_code
def yX12_isStep : MethodName := ⟨RX12, "isStep", "(I)Z"⟩
abbrev cX12_isGap : ByteArray := prog_14_method_3_code
def yX12_isGap : MethodName := ⟨RX12, "isGap", "(I)Z"⟩
abbrev cX12_isAhead : ByteArray := prog_14_method_4_code
def yX12_isAhead : MethodName := ⟨RX12, "isAhead", "(II)Z"⟩
abbrev cX12_has : ByteArray := prog_14_method_5_code
def yX12_has : MethodName := ⟨RX12, "has", "(II)Z"⟩
abbrev cX12_kind : ByteArray := prog_14_method_7_code
def yX12_kind : MethodName := ⟨RX12, "kind", "(II)I"⟩
abbrev cX12_between : ByteArray := prog_14_method_8_code
def yX12_between : MethodName := ⟨RX12, "between", "(II)I"⟩
abbrev cX12_isBound : ByteArray := prog_14_method_9_code
def yX12_isBound : MethodName := ⟨RX12, "isBound", "(II)Z"⟩
abbrev cX12_waits : ByteArray := prog_14_method_10_code
def yX12_waits : MethodName := ⟨RX12, "waits", "(I)I"⟩
abbrev cX12_isConflict : ByteArray := prog_14_method_11_code
def yX12_isConflict : MethodName := ⟨RX12, "isConflict", "(II)Z"⟩
abbrev cX12_conflicts : ByteArray := prog_14_method_12_code
def yX12_conflicts : MethodName := ⟨RX12, "conflicts", "(I)I"⟩
abbrev cX12_weight : ByteArray := prog_14_method_13_code
def yX12_weight : MethodName := ⟨RX12, "weight", "(I)I"⟩
abbrev cX12_comes : ByteArray := prog_14_method_14_code
def yX12_comes : MethodName := ⟨RX12, "comes", "([III)I"⟩
abbrev cX12_does : ByteArray := prog_14_method_15_code
def yX12_does : MethodName := ⟨RX12, "does", "(II)V"⟩
abbrev cX12_goes : ByteArray := prog_14_method_16_code
def yX12_goes : MethodName := ⟨RX12, "goes", "([IZ)I"⟩
abbrev cX12_ahead : ByteArray := prog_14_method_17_code
def yX12_ahead : MethodName := ⟨RX12, "ahead", "(I)I"⟩
abbrev cX12_readings : ByteArray := prog_14_method_18_code
def yX12_readings : MethodName := ⟨RX12, "readings", "()I"⟩
abbrev cX12_isIn : ByteArray := prog_14_method_19_code
def yX12_isIn : MethodName := ⟨RX12, "isIn", "([III)Z"⟩
abbrev cX12_stray : ByteArray := prog_14_method_20_code
def yX12_stray : MethodName := ⟨RX12, "stray", "(I)I"⟩
abbrev cX12_reading : ByteArray := prog_14_method_21_code
def yX12_reading : MethodName := ⟨RX12, "reading", "(II)I"⟩
abbrev cX12_can : ByteArray := prog_14_method_22_code
def yX12_can : MethodName := ⟨RX12, "can", "(I)I"⟩
abbrev cX12_laysGifts : ByteArray := prog_14_method_23_code
def yX12_laysGifts : MethodName := ⟨RX12, "laysGifts", "()V"⟩
abbrev cX12_isOne : ByteArray := prog_14_method_24_code
def yX12_isOne : MethodName := ⟨RX12, "isOne", "(I)Z"⟩
abbrev cX12_meets : ByteArray := prog_14_method_25_code
def yX12_meets : MethodName := ⟨RX12, "meets", "(II)Z"⟩
abbrev cX12_fits : ByteArray := prog_14_method_26_code
def yX12_fits : MethodName := ⟨RX12, "fits", "(III)Z"⟩
abbrev cX12_gives : ByteArray := prog_14_method_27_code
def yX12_gives : MethodName := ⟨RX12, "gives", "(I)V"⟩
abbrev cX12_laysTwos : ByteArray := prog_14_method_28_code
def yX12_laysTwos : MethodName := ⟨RX12, "laysTwos", "()V"⟩
abbrev cX12_laysThrees : ByteArray := prog_14_method_29_code
def yX12_laysThrees : MethodName := ⟨RX12, "laysThrees", "(II)V"⟩
abbrev cX12_laysRings : ByteArray := prog_14_method_30_code
def yX12_laysRings : MethodName := ⟨RX12, "laysRings", "()V"⟩
abbrev cX12_isPair : ByteArray := prog_14_method_31_code
def yX12_isPair : MethodName := ⟨RX12, "isPair", "(II)Z"⟩
abbrev cX12_isLoose : ByteArray := prog_14_method_32_code
def yX12_isLoose : MethodName := ⟨RX12, "isLoose", "(II)Z"⟩
abbrev cX12_holds : ByteArray := prog_14_method_33_code
def yX12_holds : MethodName := ⟨RX12, "holds", "(I)I"⟩
abbrev cX12_loosePairs : ByteArray := prog_14_method_34_code
def yX12_loosePairs : MethodName := ⟨RX12, "loosePairs", "()I"⟩
abbrev cX12_gaps : ByteArray := prog_14_method_35_code
def yX12_gaps : MethodName := ⟨RX12, "gaps", "()I"⟩
abbrev cX12_price : ByteArray := prog_14_method_36_code
def yX12_price : MethodName := ⟨RX12, "price", "(I)I"⟩
abbrev cX12_cheapest : ByteArray := prog_14_method_37_code
def yX12_cheapest : MethodName := ⟨RX12, "cheapest", "()I"⟩
abbrev cX12_needed : ByteArray := prog_14_method_38_code
def yX12_needed : MethodName := ⟨RX12, "needed", "()I"⟩
abbrev cX12_step : ByteArray := prog_14_method_39_code
def yX12_step : MethodName := ⟨RX12, "step", "(II)I"⟩
abbrev cX12_pair : ByteArray := prog_14_method_40_code
def yX12_pair : MethodName := ⟨RX12, "pair", "(III)I"⟩
abbrev cX12_feed : ByteArray := prog_14_method_41_code
def yX12_feed : MethodName := ⟨RX12, "feed", "(I)I"⟩
abbrev cX12_sign : ByteArray := prog_14_method_42_code
def yX12_sign : MethodName := ⟨RX12, "sign", "()I"⟩
abbrev cX12_ends : ByteArray := prog_14_method_43_code
def yX12_ends : MethodName := ⟨RX12, "ends", "()I"⟩
abbrev cX12_readsThread : ByteArray := prog_14_method_44_code
def yX12_readsThread : MethodName := ⟨RX12, "readsThread", "()I"⟩
abbrev cX12_readsStep : ByteArray := prog_14_method_45_code
def yX12_readsStep : MethodName := ⟨RX12, "readsStep", "(Z)I"⟩
abbrev cX12_reads : ByteArray := prog_14_method_46_code
def yX12_reads : MethodName := ⟨RX12, "reads", "()I"⟩
abbrev cX12_threads : ByteArray := prog_14_method_47_code
def yX12_threads : MethodName := ⟨RX12, "threads", "()I"⟩
abbrev cX12_fault : ByteArray := prog_14_method_48_code
def yX12_fault : MethodName := ⟨RX12, "fault", "()I"⟩
abbrev cX12_marks : ByteArray := prog_14_method_49_code
def yX12_marks : MethodName := ⟨RX12, "marks", "()V"⟩
abbrev cX12_fence : ByteArray := prog_14_method_50_code
def yX12_fence : MethodName := ⟨RX12, "fence", "(IZ)I"⟩
abbrev cX12_cost : ByteArray := prog_14_method_51_code
def yX12_cost : MethodName := ⟨RX12, "cost", "(II)I"⟩
abbrev cX12_overtaking : ByteArray := prog_14_method_52_code
def yX12_overtaking : MethodName := ⟨RX12, "overtaking", "(I)I"⟩
abbrev cX12_best : ByteArray := prog_14_method_53_code
def yX12_best : MethodName := ⟨RX12, "best", "()I"⟩
abbrev cX12_draw : ByteArray := prog_14_method_54_code
def yX12_draw : MethodName := ⟨RX12, "draw", "(I)I"⟩
abbrev cX12_drawn : ByteArray := prog_14_method_55_code
def yX12_drawn : MethodName := ⟨RX12, "drawn", "()V"⟩
abbrev cX12_drift : ByteArray := prog_14_method_56_code
def yX12_drift : MethodName := ⟨RX12, "drift", "(I)I"⟩
abbrev cX12_undo : ByteArray := prog_14_method_57_code
def yX12_undo : MethodName := ⟨RX12, "undo", "(I)I"⟩
abbrev cX12_write : ByteArray := prog_14_method_58_code
def yX12_write : MethodName := ⟨RX12, "write", "(IZ)I"⟩
abbrev cX12_tear : ByteArray := prog_14_method_59_code
def yX12_tear : MethodName := ⟨RX12, "tear", "()I"⟩
abbrev cX12_wrong : ByteArray := prog_14_method_60_code
def yX12_wrong : MethodName := ⟨RX12, "wrong", "()I"⟩
abbrev cX12_seed : ByteArray := prog_14_method_61_code
def yX12_seed : MethodName := ⟨RX12, "seed", "(I)I"⟩
abbrev cX12_keep : ByteArray := prog_14_method_62_code
def yX12_keep : MethodName := ⟨RX12, "keep", "(I)I"⟩
abbrev cX12_goBack : ByteArray := prog_14_method_63_code
def yX12_goBack : MethodName := ⟨RX12, "goBack", "(I)I"⟩
abbrev cX12_toldMore : ByteArray := prog_14_method_64_code
def yX12_toldMore : MethodName := ⟨RX12, "toldMore", "(I)I"⟩
abbrev cX12_told : ByteArray := prog_14_method_65_code
def yX12_told : MethodName := ⟨RX12, "told", "(I)I"⟩
def RJ6 : String := "java/lang/Integer"
def TJ6 : u_T := fun k => match k with
  | _ => ("", "", "", false)
def tyJ6 : Nat → FieldType := fun k => match k with
  | _ => .int
abbrev cJ6_bitCount_0f7a4 : ByteArray := prog_15_method_49_code
def yJ6_bitCount_0f7a4 : MethodName := ⟨RJ6, "bitCount", "(I)I"⟩
def RJ9 : String := "java/lang/Math"
def TJ9 : u_T := fun k => match k with
  | _ => ("", "", "", false)
def tyJ9 : Nat → FieldType := fun k => match k with
  | _ => .int
abbrev cJ9_floorMod_7cf53 : ByteArray := prog_16_method_50_code
def yJ9_floorMod_7cf53 : MethodName := ⟨RJ9, "floorMod", "(II)I"⟩
def RJ7 : String := "java/util/Arrays"
def TJ7 : u_T := fun k => match k with
  | _ => ("", "", "", false)
def tyJ7 : Nat → FieldType := fun k => match k with
  | _ => .int
abbrev cJ7_fill_53178 : ByteArray := prog_17_method_103_code
def yJ7_fill_53178 : MethodName := ⟨RJ7, "fill", "([II)V"⟩
def RL : String := "FenceWaysLaw"
abbrev cL_law : ByteArray := code
def yL_law : MethodName := ⟨RL, "law", "([I)Z"⟩
abbrev vwCl : List vw_C := [(RX0, TX0, 3), (RX1, TX1, 3), (RX2, TX2, 3), (RX3, TX3, 2), (RX4, TX4, 7), (RX5, TX5, 3), (RX6, TX6, 6), (RX7, TX7, 2), (RX8, TX8, 4), (RX9, TX9, 3), (RX10, TX10, 2), (RX11, TX11, 19), (RX12, TX12, 45)]
end
section
/-! THE SMALL MACHINE: a heap of typed rows by place, a step as a function of what comes behind it; its runs; stretches of code by evaluation -/
/-- how many cells; kind and length by place; ints, longs, places by place and index -/
abbrev HP : Type := Nat × (Nat → Nat × Nat) × (Nat → Nat → Int32) × (Nat → Nat → Int64) × (Nat → Nat → Nat)
abbrev MR : Type := Option Value × HP
abbrev CF : Type := List Value → HP → Option MR
/-- pc, cells and slots made, locals, stack, heap -/
abbrev MS : Type := Nat × Nat × Nat × List Value × List Value × HP
/-- instructions (with the next place, and where jumps go); fields; constants; calls (arguments, the receiver's class, cells, slots, meaning); classes to make; what may be made; kind of the answer; locals that are dead at a place -/
abbrev MI : Type := List (Nat × Instr × Nat × List Nat) × List (Nat × Nat × Nat) × List (Nat × Value) × List (Nat × Nat × Nat × Nat × Nat × CF) × List (Nat × Nat) × (Nat × Nat) × Nat × List (Nat × List Nat)
def mNul : Nat := 999999
def lkp {α : Type} (k : Nat) : List (Nat × α) → Option α
  | [] => none
  | (q, a) :: r => bif Nat.beq k q then some a else lkp k r
def up1 {α : Type} (f : Nat → α) (k : Nat) (x : α) : Nat → α := fun j => if j = k then x else f j
def up2 {α : Type} (f : Nat → Nat → α) (p k : Nat) (x : α) : Nat → Nat → α := fun q => if q = p then up1 (f p) k x else f q
def inb (i : Int32) (n : Nat) : Bool := !(decide (i < 0)) && !(Nat.ble n i.toNatClampNeg)
def isB (x : Int32) : Bool := decide (x = 0) || decide (x = 1)
/-- a field's type by class and place: 0 int, 1 boolean, 2 long, 3 a reference -/
def ftyc (t : FieldType) : Nat := match t with
  | .int => 0
  | .boolean => 1
  | .long => 2
  | _ => 3
def ftyT (ci : Nat) : Nat → FieldType := match ci with
  | 0 => tyX0 | 1 => tyX1 | 2 => tyX2 | 3 => tyX3 | 4 => tyX4 | 5 => tyX5 | 6 => tyX6 | 7 => tyX7 | 8 => tyX8 | 9 => tyX9 | 10 => tyX10 | 11 => tyX11 | _ => tyX12
def nfd (ci : Nat) : Nat := match ci with
  | 0 => 3 | 1 => 3 | 2 => 3 | 3 => 2 | 4 => 7 | 5 => 3 | 6 => 6 | 7 => 2 | 8 => 4 | 9 => 3 | 10 => 2 | 11 => 19 | _ => 45
/-- the kind of an array of objects of a class -/
def akd (ci : Nat) : Nat := match ci with
  | 2 => 3
  | 9 => 4
  | _ => 5
def killv (ls : List Value) (j : Nat) : Option Value → List Value
  | some v => bif Nat.beq v.category 2 then ls.set j .null else ls
  | none => ls
def kill (ls : List Value) : Nat → List Value
  | 0 => ls
  | j + 1 => killv ls j ls[j]?
def swk {ρ : Type} (k : Nat → Option ρ) (d : Nat) (x : Int32) : Int → List Nat → Option ρ
  | _, [] => k d
  | lo, t :: r => if x = Int32.ofInt lo then k t else swk k d x (lo + 1) r
def setK {ρ : Type} : List Value → Nat → Value → (List Value → Option ρ) → Option ρ
  | [], _, _, κ => κ []
  | _ :: r, 0, v, κ => κ (v :: r)
  | a :: r, n + 1, v, κ => setK r n v (fun r' => κ (a :: r'))
def killKv {ρ : Type} (ls : List Value) (j : Nat) (κ : List Value → Option ρ) : Option Value → Option ρ
  | some v => bif Nat.beq v.category 2 then setK ls j .null κ else κ ls
  | none => κ ls
def killK {ρ : Type} (ls : List Value) (i : Nat) (κ : List Value → Option ρ) : Option ρ := match i with
  | 0 => κ ls
  | j + 1 => killKv ls j κ ls[j]?
def stK {ρ : Type} (ls : List Value) (i : Nat) (v : Value) (κ : List Value → Option ρ) : Option ρ := killK ls i (fun l => setK l i v κ)
def mskK {ρ : Type} : List Nat → List Value → (List Value → Option ρ) → Option ρ
  | [], ls, κ => κ ls
  | k :: r, ls, κ => setK ls k .null (fun l => mskK r l κ)
def mkoK {ρ : Type} (o : Option (List Nat)) (ls : List Value) (κ : List Value → Option ρ) : Option ρ := match o with
  | none => κ ls
  | some ks => mskK ks ls κ
/-- a new cell -/
def alc (h : HP) (kd n : Nat) : HP := (h.1 + 1, up1 h.2.1 h.1 (kd, n), up1 h.2.2.1 h.1 (fun _ => 0), up1 h.2.2.2.1 h.1 (fun _ => 0), up1 h.2.2.2.2 h.1 (fun _ => mNul))
def hI (h : HP) (p k : Nat) (x : Int32) : HP := (h.1, h.2.1, up2 h.2.2.1 p k x, h.2.2.2.1, h.2.2.2.2)
def hJ (h : HP) (p k : Nat) (x : Int64) : HP := (h.1, h.2.1, h.2.2.1, up2 h.2.2.2.1 p k x, h.2.2.2.2)
def hR (h : HP) (p k : Nat) (x : Nat) : HP := (h.1, h.2.1, h.2.2.1, h.2.2.2.1, up2 h.2.2.2.2 p k x)
def hIK {ρ : Type} (h : HP) (p k : Nat) (x : Int32) (κ : HP → Option ρ) : Option ρ := match h with
  | (n, sh, I, J, R) => κ (n, sh, up2 I p k x, J, R)
def hJK {ρ : Type} (h : HP) (p k : Nat) (x : Int64) (κ : HP → Option ρ) : Option ρ := match h with
  | (n, sh, I, J, R) => κ (n, sh, I, up2 J p k x, R)
def hRK {ρ : Type} (h : HP) (p k : Nat) (x : Nat) (κ : HP → Option ρ) : Option ρ := match h with
  | (n, sh, I, J, R) => κ (n, sh, I, J, up2 R p k x)
def alcK {ρ : Type} (h : HP) (kd m : Nat) (κ : Nat → HP → Option ρ) : Option ρ := match h with
  | (n, sh, I, J, R) => κ n (n + 1, up1 sh n (kd, m), up1 I n (fun _ => 0), up1 J n (fun _ => 0), up1 R n (fun _ => mNul))
/-- one step: k is what comes behind, e the end -/
def stpI {ρ : Type} (M : MI) (k : MS → Option ρ) (e : MR → Option ρ) (nx : Nat) (tg : List Nat) (c s : Nat) (ls st : List Value) (h : HP) (i : Instr) : Option ρ :=
  match i with
  | .iconst v => k (nx, c, s, ls, .int (Int32.ofInt v) :: st, h)
  | .bipush v => k (nx, c, s, ls, .int (Int8.ofInt v).toInt32 :: st, h)
  | .sipush v => k (nx, c, s, ls, .int (Int16.ofInt v).toInt32 :: st, h)
  | .lconst v => k (nx, c, s, ls, .long (Int64.ofNat (v : Nat)) :: st, h)
  | .ldc x => match lkp x M.2.2.1 with
    | some (.int v) => k (nx, c, s, ls, .int v :: st, h)
    | _ => none
  | .ldc_w x => match lkp x M.2.2.1 with
    | some (.int v) => k (nx, c, s, ls, .int v :: st, h)
    | _ => none
  | .ldc2_w x => match lkp x M.2.2.1 with
    | some (.long v) => k (nx, c, s, ls, .long v :: st, h)
    | _ => none
  | .iload x => match ls[x]? with
    | some (.int v) => k (nx, c, s, ls, .int v :: st, h)
    | _ => none
  | .iload_n x => match ls[(x : Nat)]? with
    | some (.int v) => k (nx, c, s, ls, .int v :: st, h)
    | _ => none
  | .lload x => match ls[x]? with
    | some (.long v) => k (nx, c, s, ls, .long v :: st, h)
    | _ => none
  | .lload_n x => match ls[(x : Nat)]? with
    | some (.long v) => k (nx, c, s, ls, .long v :: st, h)
    | _ => none
  | .aload x => match ls[x]? with
    | some (.ref v) => k (nx, c, s, ls, .ref v :: st, h)
    | _ => none
  | .aload_n x => match ls[(x : Nat)]? with
    | some (.ref v) => k (nx, c, s, ls, .ref v :: st, h)
    | _ => none
  | .istore x => match st with
    | .int v :: r => bif Nat.blt x ls.length then stK ls x (.int v) (fun l => k (nx, c, s, l, r, h)) else none
    | _ => none
  | .istore_n x => match st with
    | .int v :: r => bif Nat.blt (x : Nat) ls.length then stK ls (x : Nat) (.int v) (fun l => k (nx, c, s, l, r, h)) else none
    | _ => none
  | .astore x => match st with
    | .ref v :: r => bif Nat.blt x ls.length then stK ls x (.ref v) (fun l => k (nx, c, s, l, r, h)) else none
    | _ => none
  | .astore_n x => match st with
    | .ref v :: r => bif Nat.blt (x : Nat) ls.length then stK ls (x : Nat) (.ref v) (fun l => k (nx, c, s, l, r, h)) else none
    | _ => none
  | .lstore x => match st with
    | .long v :: r => bif Nat.blt (x + 1) ls.length then stK ls x (.long v) (fun l => setK l (x + 1) .null (fun l => k (nx, c, s, l, r, h))) else none
    | _ => none
  | .lstore_n x => match st with
    | .long v :: r => bif Nat.blt ((x : Nat) + 1) ls.length then stK ls (x : Nat) (.long v) (fun l => setK l ((x : Nat) + 1) .null (fun l => k (nx, c, s, l, r, h))) else none
    | _ => none
  | .iinc x n => match ls[x]? with
    | some (.int v) => stK ls x (.int (v + Int32.ofInt n)) (fun l => k (nx, c, s, l, st, h))
    | _ => none
  | .iadd => match st with
    | .int y :: .int x :: r => k (nx, c, s, ls, .int (x + y) :: r, h)
    | _ => none
  | .isub => match st with
    | .int y :: .int x :: r => k (nx, c, s, ls, .int (x - y) :: r, h)
    | _ => none
  | .imul => match st with
    | .int y :: .int x :: r => k (nx, c, s, ls, .int (x * y) :: r, h)
    | _ => none
  | .iand => match st with
    | .int y :: .int x :: r => k (nx, c, s, ls, .int (x &&& y) :: r, h)
    | _ => none
  | .ior => match st with
    | .int y :: .int x :: r => k (nx, c, s, ls, .int (x ||| y) :: r, h)
    | _ => none
  | .ixor => match st with
    | .int y :: .int x :: r => k (nx, c, s, ls, .int (x ^^^ y) :: r, h)
    | _ => none
  | .ishl => match st with
    | .int y :: .int x :: r => k (nx, c, s, ls, .int (x <<< (y &&& 31)) :: r, h)
    | _ => none
  | .ishr => match st with
    | .int y :: .int x :: r => k (nx, c, s, ls, .int (x >>> (y &&& 31)) :: r, h)
    | _ => none
  | .iushr => match st with
    | .int y :: .int x :: r => k (nx, c, s, ls, .int ((x.toUInt32 >>> (y.toUInt32 &&& Int32.toUInt32 31)).toInt32) :: r, h)
    | _ => none
  | .idiv => match st with
    | .int y :: .int x :: r => if y = 0 then none else k (nx, c, s, ls, .int (x / y) :: r, h)
    | _ => none
  | .irem => match st with
    | .int y :: .int x :: r => if y = 0 then none else k (nx, c, s, ls, .int (x - x / y * y) :: r, h)
    | _ => none
  | .ladd => match st with
    | .long y :: .long x :: r => k (nx, c, s, ls, .long (x + y) :: r, h)
    | _ => none
  | .lmul => match st with
    | .long y :: .long x :: r => k (nx, c, s, ls, .long (x * y) :: r, h)
    | _ => none
  | .land => match st with
    | .long y :: .long x :: r => k (nx, c, s, ls, .long (x &&& y) :: r, h)
    | _ => none
  | .lor => match st with
    | .long y :: .long x :: r => k (nx, c, s, ls, .long (x ||| y) :: r, h)
    | _ => none
  | .lxor => match st with
    | .long y :: .long x :: r => k (nx, c, s, ls, .long (x ^^^ y) :: r, h)
    | _ => none
  | .lshl => match st with
    | .int y :: .long x :: r => k (nx, c, s, ls, .long (x <<< (y.toInt64 &&& 63)) :: r, h)
    | _ => none
  | .lushr => match st with
    | .int y :: .long x :: r => k (nx, c, s, ls, .long ((x.toUInt64 >>> (y.toInt64.toUInt64 &&& Int64.toUInt64 63)).toInt64) :: r, h)
    | _ => none
  | .ldiv => match st with
    | .long y :: .long x :: r => if y = 0 then none else k (nx, c, s, ls, .long (x / y) :: r, h)
    | _ => none
  | .lrem => match st with
    | .long y :: .long x :: r => if y = 0 then none else k (nx, c, s, ls, .long (x - x / y * y) :: r, h)
    | _ => none
  | .lcmp => match st with
    | .long y :: .long x :: r => k (nx, c, s, ls, .int (lg_cmp x y) :: r, h)
    | _ => none
  | .i2l => match st with
    | .int x :: r => k (nx, c, s, ls, .long x.toInt64 :: r, h)
    | _ => none
  | .l2i => match st with
    | .long x :: r => k (nx, c, s, ls, .int x.toInt32 :: r, h)
    | _ => none
  | .dup => match st with
    | .int x :: r => k (nx, c, s, ls, .int x :: .int x :: r, h)
    | .ref x :: r => k (nx, c, s, ls, .ref x :: .ref x :: r, h)
    | _ => none
  | .dup2 => match st with
    | .int x :: .ref y :: r => k (nx, c, s, ls, .int x :: .ref y :: .int x :: .ref y :: r, h)
    | _ => none
  | .goto _ => match tg with
    | t :: _ => k (t, c, s, ls, st, h)
    | [] => none
  | .ifCond q _ => match st with
    | .int x :: r => match q with
      | .eq => match tg with
        | t :: _ => if x = 0 then k (t, c, s, ls, r, h) else k (nx, c, s, ls, r, h)
        | [] => none
      | .ne => match tg with
        | t :: _ => if x = 0 then k (nx, c, s, ls, r, h) else k (t, c, s, ls, r, h)
        | [] => none
      | .lt => match tg with
        | t :: _ => if x < 0 then k (t, c, s, ls, r, h) else k (nx, c, s, ls, r, h)
        | [] => none
      | .ge => match tg with
        | t :: _ => if 0 ≤ x then k (t, c, s, ls, r, h) else k (nx, c, s, ls, r, h)
        | [] => none
      | .gt => match tg with
        | t :: _ => if 0 < x then k (t, c, s, ls, r, h) else k (nx, c, s, ls, r, h)
        | [] => none
      | .le => match tg with
        | t :: _ => if x ≤ 0 then k (t, c, s, ls, r, h) else k (nx, c, s, ls, r, h)
        | [] => none
    | _ => none
  | .if_icmp q _ => match st with
    | .int y :: .int x :: r => match q with
      | .eq => match tg with
        | t :: _ => if x = y then k (t, c, s, ls, r, h) else k (nx, c, s, ls, r, h)
        | [] => none
      | .ne => match tg with
        | t :: _ => if x = y then k (nx, c, s, ls, r, h) else k (t, c, s, ls, r, h)
        | [] => none
      | .lt => match tg with
        | t :: _ => if x < y then k (t, c, s, ls, r, h) else k (nx, c, s, ls, r, h)
        | [] => none
      | .ge => match tg with
        | t :: _ => if y ≤ x then k (t, c, s, ls, r, h) else k (nx, c, s, ls, r, h)
        | [] => none
      | .gt => match tg with
        | t :: _ => if y < x then k (t, c, s, ls, r, h) else k (nx, c, s, ls, r, h)
        | [] => none
      | .le => match tg with
        | t :: _ => if x ≤ y then k (t, c, s, ls, r, h) else k (nx, c, s, ls, r, h)
        | [] => none
    | _ => none
  | .tableswitch _ lo _ _ => match st with
    | .int x :: r => match tg with
      | d :: ts => swk (fun t => k (t, c, s, ls, r, h)) d x lo ts
      | [] => none
    | _ => none
  | .getfield x => match st with
    | .ref p :: r => match lkp x M.2.1 with
      | some (ci, j) => if (h.2.1 p).1 = 10 + ci ∧ p < h.1 ∧ j < nfd ci then
          match ftyc (ftyT ci j) with
          | 0 => k (nx, c, s, ls, .int (h.2.2.1 p j) :: r, h)
          | 1 => k (nx, c, s, ls, .int (h.2.2.1 p j) :: r, h)
          | 2 => k (nx, c, s, ls, .long (h.2.2.2.1 p j) :: r, h)
          | _ => if h.2.2.2.2 p j < h.1 then k (nx, c, s, ls, .ref (h.2.2.2.2 p j) :: r, h) else none
        else none
      | none => none
    | _ => none
  | .putfield x => match st with
    | .int v :: .ref p :: r => match lkp x M.2.1 with
      | some (ci, j) => if (h.2.1 p).1 = 10 + ci ∧ p < h.1 ∧ j < nfd ci then
          match ftyc (ftyT ci j) with
          | 0 => hIK h p j v (fun h' => k (nx, c, s, ls, r, h'))
          | 1 => bif isB v then hIK h p j v (fun h' => k (nx, c, s, ls, r, h')) else none
          | _ => none
        else none
      | none => none
    | .long v :: .ref p :: r => match lkp x M.2.1 with
      | some (ci, j) => if (h.2.1 p).1 = 10 + ci ∧ p < h.1 ∧ j < nfd ci then
          match ftyc (ftyT ci j) with
          | 2 => hJK h p j v (fun h' => k (nx, c, s, ls, r, h'))
          | _ => none
        else none
      | none => none
    | .ref v :: .ref p :: r => match lkp x M.2.1 with
      | some (ci, j) => if (h.2.1 p).1 = 10 + ci ∧ p < h.1 ∧ j < nfd ci ∧ v < h.1 then
          match ftyc (ftyT ci j) with
          | 3 => hRK h p j v (fun h' => k (nx, c, s, ls, r, h'))
          | _ => none
        else none
      | none => none
    | _ => none
  | .iaload => match st with
    | .int i :: .ref p :: r => if (h.2.1 p).1 = 0 ∧ p < h.1 then bif inb i (h.2.1 p).2 then k (nx, c, s, ls, .int (h.2.2.1 p i.toNatClampNeg) :: r, h) else none else none
    | _ => none
  | .baload => match st with
    | .int i :: .ref p :: r => if (h.2.1 p).1 = 1 ∧ p < h.1 then bif inb i (h.2.1 p).2 then k (nx, c, s, ls, .int (h.2.2.1 p i.toNatClampNeg) :: r, h) else none else none
    | _ => none
  | .laload => match st with
    | .int i :: .ref p :: r => if (h.2.1 p).1 = 2 ∧ p < h.1 then bif inb i (h.2.1 p).2 then k (nx, c, s, ls, .long (h.2.2.2.1 p i.toNatClampNeg) :: r, h) else none else none
    | _ => none
  | .aaload => match st with
    | .int i :: .ref p :: r => if ((h.2.1 p).1 = 3 ∨ (h.2.1 p).1 = 4) ∧ p < h.1 then bif inb i (h.2.1 p).2 then if h.2.2.2.2 p i.toNatClampNeg < h.1 then k (nx, c, s, ls, .ref (h.2.2.2.2 p i.toNatClampNeg) :: r, h) else none else none else none
    | _ => none
  | .iastore => match st with
    | .int v :: .int i :: .ref p :: r => if (h.2.1 p).1 = 0 ∧ p < h.1 then bif inb i (h.2.1 p).2 then hIK h p i.toNatClampNeg v (fun h' => k (nx, c, s, ls, r, h')) else none else none
    | _ => none
  | .bastore => match st with
    | .int v :: .int i :: .ref p :: r => if (h.2.1 p).1 = 1 ∧ p < h.1 then bif inb i (h.2.1 p).2 && isB v then hIK h p i.toNatClampNeg v (fun h' => k (nx, c, s, ls, r, h')) else none else none
    | _ => none
  | .lastore => match st with
    | .long v :: .int i :: .ref p :: r => if (h.2.1 p).1 = 2 ∧ p < h.1 then bif inb i (h.2.1 p).2 then hJK h p i.toNatClampNeg v (fun h' => k (nx, c, s, ls, r, h')) else none else none
    | _ => none
  | .aastore => match st with
    | .ref v :: .int i :: .ref p :: r => if ((h.2.1 p).1 = 3 ∧ (h.2.1 v).1 = 12 ∨ (h.2.1 p).1 = 4 ∧ (h.2.1 v).1 = 19) ∧ p < h.1 ∧ v < h.1 then bif inb i (h.2.1 p).2 then hRK h p i.toNatClampNeg v (fun h' => k (nx, c, s, ls, r, h')) else none else none
    | _ => none
  | .arraylength => match st with
    | .ref p :: r => if (h.2.1 p).1 < 5 ∧ p < h.1 then k (nx, c, s, ls, .int (Int32.ofNat (h.2.1 p).2) :: r, h) else none
    | _ => none
  | .new x => match lkp x M.2.2.2.2.1 with
    | some ci => if c + 1 ≤ M.2.2.2.2.2.1.1 ∧ s + nfd ci ≤ M.2.2.2.2.2.1.2 ∧ h.1 + 1 ≤ mNul then alcK h (10 + ci) 0 (fun n h' => k (nx, c + 1, s + nfd ci, ls, .ref n :: st, h')) else none
    | none => none
  | .newarray ty => match st with
    | .int n :: r => if ¬ n < 0 ∧ n.toNatClampNeg ≤ 4096 ∧ c + 1 ≤ M.2.2.2.2.2.1.1 ∧ s + n.toNatClampNeg ≤ M.2.2.2.2.2.1.2 ∧ h.1 + 1 ≤ mNul then
        match ty with
        | .int => alcK h 0 n.toNatClampNeg (fun q h' => k (nx, c + 1, s + n.toNatClampNeg, ls, .ref q :: r, h'))
        | .boolean => alcK h 1 n.toNatClampNeg (fun q h' => k (nx, c + 1, s + n.toNatClampNeg, ls, .ref q :: r, h'))
        | .long => alcK h 2 n.toNatClampNeg (fun q h' => k (nx, c + 1, s + n.toNatClampNeg, ls, .ref q :: r, h'))
        | _ => none
      else none
    | _ => none
  | .anewarray x => match st with
    | .int n :: r => match lkp x M.2.2.2.2.1 with
      | some ci => if ¬ n < 0 ∧ n.toNatClampNeg ≤ 4096 ∧ c + 1 ≤ M.2.2.2.2.2.1.1 ∧ s + n.toNatClampNeg ≤ M.2.2.2.2.2.1.2 ∧ h.1 + 1 ≤ mNul ∧ (ci = 2 ∨ ci = 9) then
          alcK h (akd ci) n.toNatClampNeg (fun q h' => k (nx, c + 1, s + n.toNatClampNeg, ls, .ref q :: r, h')) else none
      | none => none
    | _ => none
  | .invokevirtual x => match lkp (4 * x) M.2.2.2.1 with
    | some (n, rc, mc, ms, f) => match (st.take n).reverse with
      | .ref p :: as => if n ≤ st.length ∧ ((st.drop n).map (fun v => v.category)).sum ≤ 8 ∧ c + mc ≤ M.2.2.2.2.2.1.1 ∧ s + ms ≤ M.2.2.2.2.2.1.2 ∧ (h.2.1 p).1 = 10 + rc ∧ p < h.1 then
          match f (.ref p :: as) h with
          | some (r, h') => k (nx, c + mc, s + ms, ls, r.toList ++ st.drop n, h')
          | none => none
        else none
      | _ => none
    | none => none
  | .invokespecial x => match lkp (4 * x + 1) M.2.2.2.1 with
    | some (n, _, mc, ms, f) => match (st.take n).reverse with
      | .ref p :: as => if n ≤ st.length ∧ ((st.drop n).map (fun v => v.category)).sum ≤ 8 ∧ c + mc ≤ M.2.2.2.2.2.1.1 ∧ s + ms ≤ M.2.2.2.2.2.1.2 then
          match f (.ref p :: as) h with
          | some (r, h') => k (nx, c + mc, s + ms, ls, r.toList ++ st.drop n, h')
          | none => none
        else none
      | _ => none
    | none => none
  | .invokestatic x => match lkp (4 * x + 2) M.2.2.2.1 with
    | some (n, _, mc, ms, f) => if n ≤ st.length ∧ ((st.drop n).map (fun v => v.category)).sum ≤ 8 ∧ c + mc ≤ M.2.2.2.2.2.1.1 ∧ s + ms ≤ M.2.2.2.2.2.1.2 then
        match f (st.take n).reverse h with
        | some (r, h') => k (nx, c + mc, s + ms, ls, r.toList ++ st.drop n, h')
        | none => none
      else none
    | none => none
  | .ireturn => match st with
    | [.int v] => match M.2.2.2.2.2.2.1 with
      | 1 => e (some (.int v), h)
      | 2 => bif isB v then e (some (.int v), h) else none
      | _ => none
    | _ => none
  | .lreturn => match st with
    | [.long v] => match M.2.2.2.2.2.2.1 with
      | 3 => e (some (.long v), h)
      | _ => none
    | _ => none
  | .areturn => match st with
    | [.ref v] => match M.2.2.2.2.2.2.1 with
      | 4 => e (some (.ref v), h)
      | _ => none
    | _ => none
  | .return_ => match st with
    | [] => match M.2.2.2.2.2.2.1 with
      | 0 => e (none, h)
      | _ => none
    | _ => none
  | _ => none
def msk : List Nat → List Value → List Value
  | [], ls => ls
  | k :: r, ls => msk r (ls.set k .null)
def mko : Option (List Nat) → List Value → List Value
  | none, ls => ls
  | some ks, ls => msk ks ls
def stp {ρ : Type} (M : MI) (k : MS → Option ρ) (e : MR → Option ρ) (σ : MS) : Option ρ := match σ with
  | (pc, c, s, ls, st, h) => match lkp pc M.1 with
    | some (i, nx, tg) => mkoK (lkp pc M.2.2.2.2.2.2.2) ls (fun l => stpI M k e nx tg c s l st h i)
    | none => none
def runN (M : MI) : Nat → MS → Option MR
  | 0, _ => none
  | n + 1, σ => stp M (runN M n) some σ
end
section
/-! the small machine's runs: a step by what comes behind it; a run is one step and the rest; stretches -/
theorem setK_eq {ρ : Type} : ∀ (ls : List Value) (i : Nat) (v : Value) (κ : List Value → Option ρ), setK ls i v κ = κ (ls.set i v) := by
  intro ls
  induction ls with
  | nil => intro i v κ; rfl
  | cons a r ih =>
    intro i v κ
    cases i with
    | zero => rfl
    | succ n => exact ih n v (fun r' => κ (a :: r'))
theorem killK_eq {ρ : Type} (ls : List Value) (i : Nat) (κ : List Value → Option ρ) : killK ls i κ = κ (kill ls i) := by
  cases i with
  | zero => rfl
  | succ j =>
    show killKv ls j κ ls[j]? = κ (killv ls j ls[j]?)
    generalize ls[j]? = o
    cases o with
    | none => rfl
    | some v =>
      show (bif Nat.beq v.category 2 then setK ls j .null κ else κ ls) = κ (bif Nat.beq v.category 2 then ls.set j .null else ls)
      cases Nat.beq v.category 2
      · rfl
      · exact setK_eq ls j .null κ
theorem stK_eq {ρ : Type} (ls : List Value) (i : Nat) (v : Value) (κ : List Value → Option ρ) : stK ls i v κ = κ ((kill ls i).set i v) := by
  unfold stK
  rw [killK_eq, setK_eq]
theorem mskK_eq {ρ : Type} : ∀ (ks : List Nat) (ls : List Value) (κ : List Value → Option ρ), mskK ks ls κ = κ (msk ks ls) := by
  intro ks
  induction ks with
  | nil => intro ls κ; rfl
  | cons k r ih =>
    intro ls κ
    show setK ls k .null (fun l => mskK r l κ) = κ (msk r (ls.set k .null))
    rw [setK_eq, ih]
theorem mkoK_eq {ρ : Type} (o : Option (List Nat)) (ls : List Value) (κ : List Value → Option ρ) : mkoK o ls κ = κ (mko o ls) := by
  cases o with
  | none => rfl
  | some ks => exact mskK_eq ks ls κ
theorem hIK_eq {ρ : Type} (h : HP) (p k : Nat) (x : Int32) (κ : HP → Option ρ) : hIK h p k x κ = κ (hI h p k x) := rfl
theorem hJK_eq {ρ : Type} (h : HP) (p k : Nat) (x : Int64) (κ : HP → Option ρ) : hJK h p k x κ = κ (hJ h p k x) := rfl
theorem hRK_eq {ρ : Type} (h : HP) (p k : Nat) (x : Nat) (κ : HP → Option ρ) : hRK h p k x κ = κ (hR h p k x) := rfl
theorem alcK_eq {ρ : Type} (h : HP) (kd m : Nat) (κ : Nat → HP → Option ρ) : alcK h kd m κ = κ h.1 (alc h kd m) := rfl
theorem swk_nf {ρ τ : Type} {d : Nat} {x : Int32} {k : Nat → Option ρ} {g : Nat → Option τ} {f : τ → Option ρ} (h : ∀ t, k t = (g t).bind f) : ∀ (r : List Nat) (lo : Int), swk k d x lo r = (swk g d x lo r).bind f := by
  intro r
  induction r with
  | nil => intro lo; exact h _
  | cons t r ih =>
    intro lo
    unfold swk
    split
    · exact h _
    · exact ih _
set_option maxHeartbeats 4000000 in
theorem stpI_nf {ρ : Type} (M : MI) (k : MS → Option ρ) (e : MR → Option ρ) (nx : Nat) (tg : List Nat) (c s : Nat) (ls st : List Value) (h : HP) (i : Instr) :
    stpI M k e nx tg c s ls st h i = (stpI M (fun σ => some (Sum.inl σ)) (fun r => some (Sum.inr r)) nx tg c s ls st h i).bind (fun x => Sum.elim k e x) := by
  cases i <;> first
    | rfl
    | (simp only [stpI, stK_eq, setK_eq, hIK_eq, hJK_eq, hRK_eq, alcK_eq]; (repeat' split) <;> first | rfl | (refine swk_nf ?_ _ _; intro off; rfl) | (cases hq : inb _ _ <;> rfl) | (cases hq : isB _ <;> rfl) | (cases hq : Nat.blt _ _ <;> rfl) | (cases hq : inb _ _ <;> cases hq2 : isB _ <;> rfl))
theorem stp_nf {ρ : Type} (M : MI) (k : MS → Option ρ) (e : MR → Option ρ) (σ : MS) :
    stp M k e σ = (stp M (fun σ => some (Sum.inl σ)) (fun r => some (Sum.inr r)) σ).bind (fun x => Sum.elim k e x) := by
  obtain ⟨pc, c, s, ls, st, h⟩ := σ
  unfold stp
  simp only [mkoK_eq]
  split
  · exact stpI_nf ..
  · rfl
theorem stp_some {ρ : Type} {M : MI} {k : MS → Option ρ} {e : MR → Option ρ} {σ : MS} {r : ρ} (h : stp M k e σ = some r) : (∃ σ', stp M (fun σ => some (Sum.inl σ)) (fun r => some (Sum.inr r)) σ = some (Sum.inl σ') ∧ k σ' = some r) ∨ ∃ x : MR, stp M (fun σ => some (Sum.inl σ)) (fun r => some (Sum.inr r)) σ = some (Sum.inr x) ∧ e x = some r := by
  rw [stp_nf] at h
  cases hq : stp M (fun σ => some (Sum.inl σ)) (fun r => some (Sum.inr r)) σ with
  | none => rw [hq] at h; cases h
  | some x =>
    rw [hq] at h
    cases x with
    | inl σ' => exact Or.inl ⟨σ', rfl, h⟩
    | inr x => exact Or.inr ⟨x, rfl, h⟩
theorem stp_mono {ρ : Type} {M : MI} {k k' : MS → Option ρ} {e : MR → Option ρ} (hk : ∀ σ r, k σ = some r → k' σ = some r) {σ : MS} {r : ρ} (h : stp M k e σ = some r) : stp M k' e σ = some r := by
  rw [stp_nf]
  rcases stp_some h with ⟨σ', h1, h2⟩ | ⟨x, h1, h2⟩
  · rw [h1]; exact hk _ _ h2
  · rw [h1]; exact h2
theorem runN_mono1 (M : MI) : ∀ (n : Nat) (σ : MS) (r : MR), runN M n σ = some r → runN M (n + 1) σ = some r := by
  intro n
  induction n with
  | zero => intro σ r h; cases h
  | succ n ih => intro σ r h; exact stp_mono (k := runN M n) (k' := runN M (n + 1)) (fun σ r => ih σ r) h
theorem runN_mono (M : MI) {n m : Nat} (hnm : n ≤ m) {σ : MS} {r : MR} (h : runN M n σ = some r) : runN M m σ = some r := by
  induction hnm with
  | refl => exact h
  | step _ ih => exact runN_mono1 M _ _ _ ih
noncomputable def run (M : MI) (σ : MS) : Option MR := @dite _ (∃ r, ∃ n, runN M n σ = some r) (Classical.propDecidable _) (fun h => some (Classical.choose h)) (fun _ => none)
theorem run_of {M : MI} {n : Nat} {σ : MS} {r : MR} (h : runN M n σ = some r) : run M σ = some r := by
  have hx : ∃ r, ∃ n, runN M n σ = some r := ⟨r, n, h⟩
  unfold run
  rw [dif_pos hx]
  obtain ⟨m, hm⟩ := Classical.choose_spec hx
  have h1 := runN_mono M (Nat.le_max_left n m) h
  have h2 := runN_mono M (Nat.le_max_right n m) hm
  rw [h1] at h2
  exact h2.symm
theorem run_ex {M : MI} {σ : MS} {r : MR} (h : run M σ = some r) : ∃ n, runN M n σ = some r := by
  unfold run at h
  by_cases hx : ∃ r, ∃ n, runN M n σ = some r
  · rw [dif_pos hx] at h
    have := Classical.choose_spec hx
    rw [Option.some.inj h] at this
    exact this
  · rw [dif_neg hx] at h
    cases h
theorem run_eq (M : MI) (σ : MS) : run M σ = stp M (run M) some σ := by
  cases hq : stp M (run M) some σ with
  | some r =>
    rcases stp_some hq with ⟨σ', h1, h2⟩ | ⟨x, h1, h2⟩
    · obtain ⟨n, hn⟩ := run_ex h2
      refine run_of (n := n + 1) ?_
      show stp M (runN M n) some σ = some r
      rw [stp_nf, h1]
      exact hn
    · refine run_of (n := 1) ?_
      show stp M (runN M 0) some σ = some r
      rw [stp_nf, h1]
      exact h2
  | none =>
    cases hr : run M σ with
    | none => rfl
    | some r =>
      obtain ⟨n, hn⟩ := run_ex hr
      cases n with
      | zero => cases hn
      | succ n =>
        have h1 := stp_mono (k := runN M n) (k' := run M) (fun σ r h => run_of h) hn
        rw [h1] at hq
        cases hq
/-- a stretch of at most n steps, up to the places where it stops -/
noncomputable def exK (M : MI) (stop : List Nat) : Nat → MS → Option MR
  | 0, σ => run M σ
  | n + 1, σ => stp M (fun σ' => bif stop.elem σ'.1 then run M σ' else exK M stop n σ') some σ
theorem exK_eq (M : MI) (stop : List Nat) : ∀ (n : Nat) (σ : MS), exK M stop n σ = run M σ := by
  intro n
  induction n with
  | zero => intro σ; rfl
  | succ n ih =>
    intro σ
    rw [run_eq]
    show stp M (fun σ' => bif stop.elem σ'.1 then run M σ' else exK M stop n σ') some σ = _
    have : (fun σ' : MS => bif stop.elem σ'.1 then run M σ' else exK M stop n σ') = run M := by
      funext σ'
      cases stop.elem σ'.1
      · exact ih σ'
      · rfl
    rw [this]
/-- a method's meaning: its run from its entry, with n locals -/
def mLoc : Nat → List Value → List Value
  | n, [] => List.replicate n .null
  | n, v :: r => bif Nat.beq v.category 2 then v :: .null :: mLoc (n - 2) r else v :: mLoc (n - 1) r
def catS (as : List Value) : Nat := (as.map (fun v => v.category)).sum
noncomputable def mth (M : MI) (n : Nat) : CF := fun as h => bif Nat.ble (catS as) n then run M (0, 0, 0, mLoc n as, [], h) else none
end
section
/-! the small machine's heap and the machine's: what stands at a place -/
def mv (ad : Nat → Nat) : Value → Value
  | .ref p => .ref (ad p)
  | v => v
def rvv (ad : Nat → Nat) (r : Nat) : Value := if r = mNul then .null else .ref (ad r)
def rvo (ad : Nat → Nat) (r : Nat) : Option Nat := if r = mNul then none else some (ad r)
def fvv (ad : Nat → Nat) (h : HP) (p ci j : Nat) : Value := match ftyc (ftyT ci j) with
  | 0 => .int (h.2.2.1 p j)
  | 1 => .int (h.2.2.1 p j)
  | 2 => .long (h.2.2.2.1 p j)
  | _ => rvv ad (h.2.2.2.2 p j)
def cel (aC : Nat → ClassId) (ad : Nat → Nat) (h : HP) (p : Nat) : va_E := match (h.2.1 p).1 with
  | 0 => .inl (aC 0, (h.2.1 p).2, .inl (h.2.2.1 p))
  | 1 => .inl (aC 1, (h.2.1 p).2, .inl (h.2.2.1 p))
  | 2 => .inl (aC 2, (h.2.1 p).2, .inr (.inl (h.2.2.2.1 p)))
  | 3 => .inl (aC 3, (h.2.1 p).2, .inr (.inr (.inr (.inr (fun i => rvo ad (h.2.2.2.2 p i))))))
  | 4 => .inl (aC 4, (h.2.1 p).2, .inr (.inr (.inr (.inr (fun i => rvo ad (h.2.2.2.2 p i))))))
  | k => .inr (k - 10, (List.range (nfd (k - 10))).map (fvv ad h p (k - 10)))
def wof (aC : Nat → ClassId) (ad : Nat → Nat) (h : HP) : va_W := (List.range h.1).map (fun p => (ad p, cel aC ad h p))
theorem wof_get {aC : Nat → ClassId} {ad : Nat → Nat} {h : HP} {p : Nat} (hp : p < h.1) : (wof aC ad h)[p]? = some (ad p, cel aC ad h p) := by
  simp [wof, hp]
theorem wof_len {aC : Nat → ClassId} {ad : Nat → Nat} {h : HP} : (wof aC ad h).length = h.1 := by simp [wof]
theorem cel_congr {aC : Nat → ClassId} {ad ad' : Nat → Nat} {h h' : HP} {p : Nat} (h1 : h'.2.1 p = h.2.1 p) (h2 : h'.2.2.1 p = h.2.2.1 p) (h3 : h'.2.2.2.1 p = h.2.2.2.1 p) (h4 : h'.2.2.2.2 p = h.2.2.2.2 p) (h5 : ∀ j, h.2.2.2.2 p j = mNul ∨ ad' (h.2.2.2.2 p j) = ad (h.2.2.2.2 p j)) : cel aC ad' h' p = cel aC ad h p := by
  have e1 : ∀ j, rvv ad' (h'.2.2.2.2 p j) = rvv ad (h.2.2.2.2 p j) := fun j => by
    rw [h4]; unfold rvv
    split
    · rfl
    · rcases h5 j with q | q
      · contradiction
      · rw [q]
  have e2 : ∀ j, rvo ad' (h'.2.2.2.2 p j) = rvo ad (h.2.2.2.2 p j) := fun j => by
    rw [h4]; unfold rvo
    split
    · rfl
    · rcases h5 j with q | q
      · contradiction
      · rw [q]
  have e3 : ∀ ci, fvv ad' h' p ci = fvv ad h p ci := fun ci => by
    funext j
    unfold fvv
    rw [h2, h3, e1]
  unfold cel
  simp only [h1, h2, h3, e2, e3]
theorem wof_set {aC : Nat → ClassId} {ad : Nat → Nat} {h h' : HP} {p : Nat} {E : va_E} (hn : h'.1 = h.1) (hp : cel aC ad h' p = E) (ho : ∀ q, q ≠ p → cel aC ad h' q = cel aC ad h q) : (wof aC ad h).set p (ad p, E) = wof aC ad h' := by
  apply List.ext_getElem?
  intro k
  rw [List.getElem?_set]
  by_cases hk : p = k
  · subst hk
    rw [if_pos rfl]
    by_cases hl : p < h.1
    · rw [if_pos (by rw [wof_len]; exact hl), wof_get (by rw [hn]; exact hl), hp]
    · rw [if_neg (by rw [wof_len]; exact hl)]
      symm
      apply List.getElem?_eq_none
      rw [wof_len, hn]; omega
  · rw [if_neg hk]
    by_cases hl : k < h.1
    · rw [wof_get hl, wof_get (by rw [hn]; exact hl), ho k (fun q => hk q.symm)]
    · rw [List.getElem?_eq_none (by rw [wof_len]; omega), List.getElem?_eq_none (by rw [wof_len, hn]; omega)]
theorem up2_ne {α : Type} {f : Nat → Nat → α} {p k : Nat} {x : α} {q : Nat} (h : q ≠ p) : up2 f p k x q = f q := by unfold up2; rw [if_neg h]
theorem up2_eq {α : Type} {f : Nat → Nat → α} {p k : Nat} {x : α} : up2 f p k x p = up1 (f p) k x := by unfold up2; rw [if_pos rfl]
theorem up1_ne {α : Type} {f : Nat → α} {p : Nat} {x : α} {q : Nat} (h : q ≠ p) : up1 f p x q = f q := by unfold up1; rw [if_neg h]
theorem up1_eq {α : Type} {f : Nat → α} {p : Nat} {x : α} : up1 f p x p = x := by unfold up1; rw [if_pos rfl]
theorem cel_hI {aC : Nat → ClassId} {ad : Nat → Nat} {h : HP} {p k : Nat} {x : Int32} {q : Nat} (hq : q ≠ p) : cel aC ad (hI h p k x) q = cel aC ad h q := cel_congr rfl (up2_ne hq) rfl rfl (fun _ => Or.inr rfl)
theorem cel_hJ {aC : Nat → ClassId} {ad : Nat → Nat} {h : HP} {p k : Nat} {x : Int64} {q : Nat} (hq : q ≠ p) : cel aC ad (hJ h p k x) q = cel aC ad h q := cel_congr rfl rfl (up2_ne hq) rfl (fun _ => Or.inr rfl)
theorem cel_hR {aC : Nat → ClassId} {ad : Nat → Nat} {h : HP} {p k : Nat} {x : Nat} {q : Nat} (hq : q ≠ p) : cel aC ad (hR h p k x) q = cel aC ad h q := by
  have e : (hR h p k x).2.2.2.2 q = h.2.2.2.2 q := up2_ne hq
  exact cel_congr rfl rfl rfl e (fun _ => Or.inr rfl)
/-- what a class number says -/
theorem cel_obj {aC : Nat → ClassId} {ad : Nat → Nat} {h : HP} {p ci : Nat} (hk : (h.2.1 p).1 = 10 + ci) : cel aC ad h p = .inr (ci, (List.range (nfd ci)).map (fvv ad h p ci)) := by
  unfold cel
  rw [hk]
  have e : 10 + ci = (ci + 5) + 5 := by omega
  rw [e]
  show Sum.inr ((ci + 5) + 5 - 10, _) = _
  have e2 : (ci + 5) + 5 - 10 = ci := by omega
  rw [e2]
theorem cel_0 {aC : Nat → ClassId} {ad : Nat → Nat} {h : HP} {p : Nat} (hk : (h.2.1 p).1 = 0) : cel aC ad h p = .inl (aC 0, (h.2.1 p).2, .inl (h.2.2.1 p)) := by unfold cel; rw [hk]; rfl
theorem cel_1 {aC : Nat → ClassId} {ad : Nat → Nat} {h : HP} {p : Nat} (hk : (h.2.1 p).1 = 1) : cel aC ad h p = .inl (aC 1, (h.2.1 p).2, .inl (h.2.2.1 p)) := by unfold cel; rw [hk]; rfl
theorem cel_2 {aC : Nat → ClassId} {ad : Nat → Nat} {h : HP} {p : Nat} (hk : (h.2.1 p).1 = 2) : cel aC ad h p = .inl (aC 2, (h.2.1 p).2, .inr (.inl (h.2.2.2.1 p))) := by unfold cel; rw [hk]; rfl
theorem cel_3 {aC : Nat → ClassId} {ad : Nat → Nat} {h : HP} {p : Nat} (hk : (h.2.1 p).1 = 3) : cel aC ad h p = .inl (aC 3, (h.2.1 p).2, .inr (.inr (.inr (.inr (fun i => rvo ad (h.2.2.2.2 p i)))))) := by unfold cel; rw [hk]; rfl
theorem cel_4 {aC : Nat → ClassId} {ad : Nat → Nat} {h : HP} {p : Nat} (hk : (h.2.1 p).1 = 4) : cel aC ad h p = .inl (aC 4, (h.2.1 p).2, .inr (.inr (.inr (.inr (fun i => rvo ad (h.2.2.2.2 p i)))))) := by unfold cel; rw [hk]; rfl
theorem map_set_range {α : Type} {n j : Nat} {f g : Nat → α} {v : α} (hj : g j = v) (ho : ∀ i, i ≠ j → g i = f i) : ((List.range n).map f).set j v = (List.range n).map g := by
  apply List.ext_getElem?
  intro k
  rw [List.getElem?_set]
  by_cases hk : j = k
  · subst hk
    rw [if_pos rfl]
    by_cases hl : j < n
    · rw [if_pos (by simp; exact hl)]; simp [hl, hj]
    · rw [if_neg (by simp; omega)]; symm; apply List.getElem?_eq_none; simp; omega
  · rw [if_neg hk]
    by_cases hl : k < n
    · simp [hl, ho k (fun q => hk q.symm)]
    · rw [List.getElem?_eq_none (by simp; omega), List.getElem?_eq_none (by simp; omega)]
theorem fvv_ne {ad : Nat → Nat} {h h' : HP} {p ci j i : Nat} (h1 : h'.2.2.1 p i = h.2.2.1 p i) (h2 : h'.2.2.2.1 p i = h.2.2.2.1 p i) (h3 : h'.2.2.2.2 p i = h.2.2.2.2 p i) : fvv ad h' p ci i = fvv ad h p ci i := by
  unfold fvv; rw [h1, h2, h3]
/-- the values a heap holds are places that there are -/
def okv (n : Nat) : Value → Prop
  | .ref p => p < n
  | _ => True
def okS (n : Nat) (st : List Value) : Prop := ∀ v ∈ st, okv n v
def okH (h : HP) : Prop := ∀ p j, h.2.2.2.2 p j = mNul ∨ h.2.2.2.2 p j < h.1
theorem okS.nil {n : Nat} : okS n [] := fun _ h => absurd h List.not_mem_nil
theorem okS.cons {n : Nat} {v : Value} {st : List Value} (h : okv n v) (hs : okS n st) : okS n (v :: st) := fun w hw => (List.mem_cons.mp hw).elim (fun e => e ▸ h) (hs w)
theorem okS.hd {n : Nat} {v : Value} {st : List Value} (h : okS n (v :: st)) : okv n v := h v List.mem_cons_self
theorem okS.tl {n : Nat} {v : Value} {st : List Value} (h : okS n (v :: st)) : okS n st := fun w hw => h w (List.mem_cons_of_mem _ hw)
theorem okv.up {n n' : Nat} (hn : n ≤ n') {v : Value} (h : okv n v) : okv n' v := by
  cases v <;> first | trivial | exact Nat.lt_of_lt_of_le h hn
theorem okS.up {n n' : Nat} (hn : n ≤ n') {st : List Value} (h : okS n st) : okS n' st := fun v hv => (h v hv).up hn
theorem mv_congr {ad ad' : Nat → Nat} {n : Nat} (ha : ∀ p, p < n → ad' p = ad p) {v : Value} (h : okv n v) : mv ad' v = mv ad v := by
  cases v <;> first | rfl | (show Value.ref _ = Value.ref _; rw [ha _ h])
theorem mvs_congr {ad ad' : Nat → Nat} {n : Nat} (ha : ∀ p, p < n → ad' p = ad p) {st : List Value} (h : okS n st) : st.map (mv ad') = st.map (mv ad) := List.map_congr_left fun v hv => mv_congr ha (h v hv)
theorem mv_cat {ad : Nat → Nat} {v : Value} : (mv ad v).category = v.category := by cases v <;> rfl
/-- a new cell -/
theorem wof_alc {aC : Nat → ClassId} {ad : Nat → Nat} {h : HP} {kd n q : Nat} {E : va_E} (hok : okH h) (hE : cel aC (up1 ad h.1 q) (alc h kd n) h.1 = E) : wof aC ad h ++ [(q, E)] = wof aC (up1 ad h.1 q) (alc h kd n) := by
  have e : wof aC (up1 ad h.1 q) (alc h kd n) = (List.range h.1).map (fun p => (up1 ad h.1 q p, cel aC (up1 ad h.1 q) (alc h kd n) p)) ++ [(up1 ad h.1 q h.1, cel aC (up1 ad h.1 q) (alc h kd n) h.1)] := by
    show List.map _ (List.range (h.1 + 1)) = _
    rw [List.range_succ, List.map_append]
    rfl
  rw [e, hE, up1_eq]
  congr 1
  unfold wof
  apply List.map_congr_left
  intro p hp
  have hlt : p < h.1 := List.mem_range.mp hp
  have hne : p ≠ h.1 := by omega
  have e1 : cel aC (up1 ad h.1 q) (alc h kd n) p = cel aC ad h p := by
    refine cel_congr (up1_ne hne) (up1_ne hne) (up1_ne hne) (up1_ne hne) fun j => ?_
    rcases hok p j with z | z
    · exact Or.inl z
    · exact Or.inr (up1_ne (by omega))
  rw [e1, up1_ne hne]
theorem okH.alc {h : HP} {kd n : Nat} (hok : okH h) : okH (alc h kd n) := by
  intro p j
  show up1 h.2.2.2.2 h.1 (fun _ => mNul) p j = mNul ∨ up1 h.2.2.2.2 h.1 (fun _ => mNul) p j < h.1 + 1
  by_cases hp : p = h.1
  · subst hp; rw [up1_eq]; exact Or.inl rfl
  · rw [up1_ne hp]
    rcases hok p j with z | z
    · exact Or.inl z
    · exact Or.inr (by omega)
theorem okH.hI {h : HP} {p k : Nat} {x : Int32} (hok : okH h) : okH (hI h p k x) := hok
theorem okH.hJ {h : HP} {p k : Nat} {x : Int64} (hok : okH h) : okH (hJ h p k x) := hok
theorem okH.hR {h : HP} {p k : Nat} {x : Nat} (hok : okH h) (hx : x < h.1) : okH (hR h p k x) := by
  intro q j
  show up2 h.2.2.2.2 p k x q j = mNul ∨ up2 h.2.2.2.2 p k x q j < h.1
  by_cases hq : q = p
  · subst hq
    rw [up2_eq]
    by_cases hj : j = k
    · subst hj; rw [up1_eq]; exact Or.inr hx
    · rw [up1_ne hj]; exact hok q j
  · rw [up2_ne hq]; exact hok q j
/-! locals -/
def lv1 (ad : Nat → Nat) (i : Nat) : Option Value → Option (Nat × Value)
  | some Value.null => none
  | some v => some (i, mv ad v)
  | none => none
theorem lv1_some {ad : Nat → Nat} {i : Nat} {v : Value} (h : v ≠ .null) : lv1 ad i (some v) = some (i, mv ad v) := by
  cases v <;> first | rfl | exact absurd rfl h
def lvl (ad : Nat → Nat) (vs : List Value) : List (Nat × Value) := (List.range vs.length).filterMap (fun i => lv1 ad i vs[i]?)
theorem lvl_mem {ad : Nat → Nat} {vs : List Value} {q : Nat × Value} : q ∈ lvl ad vs ↔ ∃ v, vs[q.1]? = some v ∧ v ≠ .null ∧ q.2 = mv ad v := by
  unfold lvl
  rw [List.mem_filterMap]
  constructor
  · rintro ⟨i, hi, h⟩
    cases hv : vs[i]? with
    | none => rw [hv] at h; cases h
    | some v =>
      rw [hv] at h
      by_cases hn : v = .null
      · subst hn; cases h
      · rw [lv1_some hn] at h
        cases h
        exact ⟨v, hv, hn, rfl⟩
  · rintro ⟨v, h1, h2, h3⟩
    refine ⟨q.1, List.mem_range.mpr (List.getElem?_eq_some_iff.mp h1).1, ?_⟩
    rw [h1, lv1_some h2, ← h3]
def LV (ad : Nat → Nat) (ls : Array Slot) (nL : Nat) (vs : List Value) : Prop := lv_has ls nL (lvl ad vs) ∧ vs.length = nL
theorem LV.at {ad : Nat → Nat} {ls : Array Slot} {nL : Nat} {vs : List Value} (h : LV ad ls nL vs) {i : Nat} {v : Value} (hv : vs[i]? = some v) (hn : v ≠ .null) : ls[i]? = some (.val (mv ad v)) := h.1.2.2 (i, mv ad v) (lvl_mem.mpr ⟨v, hv, hn, rfl⟩)
theorem LV.congr {ad ad' : Nat → Nat} {ls : Array Slot} {nL n : Nat} {vs : List Value} (ha : ∀ p, p < n → ad' p = ad p) (ho : okS n vs) (h : LV ad ls nL vs) : LV ad' ls nL vs := by
  refine ⟨⟨h.1.1, h.1.2.1, fun q hq => ?_⟩, h.2⟩
  obtain ⟨v, h1, h2, h3⟩ := lvl_mem.mp hq
  rw [h3, mv_congr ha (ho v (List.mem_of_getElem? h1))]
  exact h.at h1 h2
theorem kill_len {ls : List Value} {i : Nat} : (kill ls i).length = ls.length := by
  cases i with
  | zero => rfl
  | succ j =>
    show (killv ls j ls[j]?).length = _
    cases ls[j]? with
    | none => rfl
    | some v =>
      show (bif Nat.beq v.category 2 then ls.set j .null else ls).length = _
      cases Nat.beq v.category 2
      · rfl
      · exact List.length_set
theorem kill_get {ls : List Value} {i k : Nat} {v : Value} (h : (kill ls i)[k]? = some v) (hn : v ≠ .null) : ls[k]? = some v ∧ ¬ (k + 1 = i ∧ v.category = 2) := by
  cases i with
  | zero => exact ⟨h, fun q => by omega⟩
  | succ j =>
    replace h : (killv ls j ls[j]?)[k]? = some v := h
    cases hv : ls[j]? with
    | none =>
      rw [hv] at h
      replace h : ls[k]? = some v := h
      refine ⟨h, fun q => ?_⟩
      have : k = j := by omega
      subst this
      rw [h] at hv
      cases hv
    | some w =>
      rw [hv] at h
      replace h : (bif Nat.beq w.category 2 then ls.set j .null else ls)[k]? = some v := h
      cases hb : Nat.beq w.category 2 with
      | false =>
        rw [hb] at h
        replace h : ls[k]? = some v := h
        refine ⟨h, fun q => ?_⟩
        have : k = j := by omega
        subst this
        rw [h] at hv; cases hv
        rw [q.2] at hb; cases hb
      | true =>
        rw [hb] at h
        replace h : (ls.set j .null)[k]? = some v := h
        rw [List.getElem?_set] at h
        by_cases hk : j = k
        · rw [if_pos hk] at h
          by_cases hl : j < ls.length
          · rw [if_pos hl] at h; cases h; exact absurd rfl hn
          · rw [if_neg hl] at h; cases h
        · rw [if_neg hk] at h
          exact ⟨h, fun q => by omega⟩
theorem kill_ok {n : Nat} {ls : List Value} {i : Nat} (h : okS n ls) : okS n (kill ls i) := by
  intro v hv
  by_cases hn : v = .null
  · subst hn; trivial
  · obtain ⟨k, hk⟩ := List.getElem?_of_mem hv
    exact h v (List.mem_of_getElem? (kill_get hk hn).1)
theorem set_ok {n : Nat} {ls : List Value} {i : Nat} {x : Value} (h : okS n ls) (hx : okv n x) : okS n (ls.set i x) := by
  intro v hv
  rcases List.mem_or_eq_of_mem_set hv with q | q
  · exact h v q
  · subst q; exact hx
theorem LV.st1 {ad : Nat → Nat} {ls' : Array Slot} {nL : Nat} {vs : List Value} {i : Nat} {x : Value} (hlen : vs.length = nL) (hi : i < nL) (h : lv_has ls' nL ((i, mv ad x) :: (lvl ad vs).filter (fun q => !(q.1 == i) && !(q.1 + 1 == i && q.2.category == 2)))) : LV ad ls' nL ((kill vs i).set i x) := by
  refine ⟨⟨h.1, h.2.1, fun q hq => ?_⟩, by rw [List.length_set, kill_len]; exact hlen⟩
  obtain ⟨v, h1, h2, h3⟩ := lvl_mem.mp hq
  apply h.2.2
  rw [List.getElem?_set] at h1
  by_cases hk : i = q.1
  · rw [if_pos hk] at h1
    rw [if_pos (by rw [kill_len, hlen]; exact hi)] at h1
    cases h1
    refine List.mem_cons.mpr (Or.inl ?_)
    rw [hk, ← h3]
  · rw [if_neg hk] at h1
    obtain ⟨g1, g2⟩ := kill_get h1 h2
    refine List.mem_cons.mpr (Or.inr (List.mem_filter.mpr ⟨lvl_mem.mpr ⟨v, g1, h2, h3⟩, ?_⟩))
    rw [h3, mv_cat]
    have e1 : (q.1 == i) = false := by simp; exact fun z => hk z.symm
    rw [e1]
    cases e2 : (q.1 + 1 == i && v.category == 2) with
    | false => rfl
    | true =>
      simp only [Bool.and_eq_true, beq_iff_eq] at e2
      exact absurd e2 g2
theorem LV.st2 {ad : Nat → Nat} {ls' : Array Slot} {nL : Nat} {vs : List Value} {i : Nat} {x : Value} (hlen : vs.length = nL) (hi : i + 1 < nL) (h : lv_has ls' nL ((i, mv ad x) :: (lvl ad vs).filter (fun q => !(q.1 == i) && (!(q.1 == i + 1) && !(q.1 + 1 == i && q.2.category == 2))))) : LV ad ls' nL (((kill vs i).set i x).set (i + 1) .null) := by
  refine ⟨⟨h.1, h.2.1, fun q hq => ?_⟩, by rw [List.length_set, List.length_set, kill_len]; exact hlen⟩
  obtain ⟨v, h1, h2, h3⟩ := lvl_mem.mp hq
  apply h.2.2
  rw [List.getElem?_set] at h1
  by_cases hk1 : i + 1 = q.1
  · rw [if_pos hk1] at h1
    rw [if_pos (by rw [List.length_set, kill_len, hlen]; exact hi)] at h1
    cases h1
    exact absurd rfl h2
  rw [if_neg hk1, List.getElem?_set] at h1
  by_cases hk : i = q.1
  · rw [if_pos hk] at h1
    rw [if_pos (by rw [kill_len, hlen]; omega)] at h1
    cases h1
    refine List.mem_cons.mpr (Or.inl ?_)
    rw [hk, ← h3]
  · rw [if_neg hk] at h1
    obtain ⟨g1, g2⟩ := kill_get h1 h2
    refine List.mem_cons.mpr (Or.inr (List.mem_filter.mpr ⟨lvl_mem.mpr ⟨v, g1, h2, h3⟩, ?_⟩))
    rw [h3, mv_cat]
    have e1 : (q.1 == i) = false := by simp; exact fun z => hk z.symm
    have e3 : (q.1 == i + 1) = false := by simp; exact fun z => hk1 z.symm
    rw [e1, e3]
    cases e2 : (q.1 + 1 == i && v.category == 2) with
    | false => rfl
    | true =>
      simp only [Bool.and_eq_true, beq_iff_eq] at e2
      exact absurd e2 g2
theorem msk_len : ∀ {ks : List Nat} {ls : List Value}, (msk ks ls).length = ls.length := by
  intro ks
  induction ks with
  | nil => intro ls; rfl
  | cons k r ih => intro ls; show (msk r (ls.set k .null)).length = _; rw [ih, List.length_set]
theorem msk_get : ∀ {ks : List Nat} {ls : List Value} {i : Nat} {v : Value}, (msk ks ls)[i]? = some v → v ≠ .null → ls[i]? = some v := by
  intro ks
  induction ks with
  | nil => intro ls i v h _; exact h
  | cons k r ih =>
    intro ls i v h hn
    have h1 := ih (ls := ls.set k .null) h hn
    rw [List.getElem?_set] at h1
    by_cases hk : k = i
    · rw [if_pos hk] at h1
      by_cases hl : k < ls.length
      · rw [if_pos hl] at h1; cases h1; exact absurd rfl hn
      · rw [if_neg hl] at h1; cases h1
    · rw [if_neg hk] at h1; exact h1
theorem mko_len {o : Option (List Nat)} {ls : List Value} : (mko o ls).length = ls.length := by
  cases o with
  | none => rfl
  | some ks => exact msk_len
theorem mko_get {o : Option (List Nat)} {ls : List Value} {i : Nat} {v : Value} (h : (mko o ls)[i]? = some v) (hn : v ≠ .null) : ls[i]? = some v := by
  cases o with
  | none => exact h
  | some ks => exact msk_get h hn
theorem mko_ok {n : Nat} {o : Option (List Nat)} {ls : List Value} (h : okS n ls) : okS n (mko o ls) := by
  intro v hv
  by_cases hn : v = .null
  · subst hn; trivial
  · obtain ⟨k, hk⟩ := List.getElem?_of_mem hv
    exact h v (List.mem_of_getElem? (mko_get hk hn))
theorem LV.mko {ad : Nat → Nat} {ls : Array Slot} {nL : Nat} {vs : List Value} {o : Option (List Nat)} (h : LV ad ls nL vs) : LV ad ls nL (mko o vs) := by
  refine ⟨⟨h.1.1, h.1.2.1, fun q hq => ?_⟩, by rw [mko_len]; exact h.2⟩
  obtain ⟨v, h1, h2, h3⟩ := lvl_mem.mp hq
  rw [h3]
  exact h.at (mko_get h1 h2) h2
end
section
/-! what the small machine does, the machine does (laid by wip/whole/gen_sound.py) -/
def tyL (aC : Nat → ClassId) : List (ClassId × FieldType) := [(aC 0, .int), (aC 1, .boolean), (aC 2, .long), (aC 3, .object RX2), (aC 4, .object RX9)]
def nst : Cond → Bool
  | .fieldLinkNest .. => true
  | .methodLinkNest .. => true
  | _ => false
def nsW : List Cond := lw_tbl.filter nst
def gdW : List Cond := lw_tbl.filter goodWord
def KS (D : va_G) (aC : Nat → ClassId) (U : State) : Prop := va_K D vwCl (tyL aC) U ∧ (∀ w ∈ nsW, va_Nw w U) ∧ va_AO RX2 U ∧ va_AO RX9 U
theorem KS.warm {D : va_G} {aC : Nat → ClassId} {s U : State} (hW : s.WarmedH U.vm) (h : KS D aC s) : KS D aC U := by
  refine ⟨va_K.moved hW.alike h.1, fun w hw => ?_, va_AO.moved hW.alike h.2.2.1, va_AO.moved hW.alike h.2.2.2⟩
  have hz := h.2.1 w hw
  have hn : nst w = true := (List.mem_filter.mp hw).2
  cases w <;> first | exact va_Nw.warmF hW hz | exact va_Nw.warmM hW hz | cases hn
theorem KS.same {D : va_G} {aC : Nat → ClassId} {u U : State} (hv : u.vm = U.vm) (h : KS D aC u) : KS D aC U := by
  refine ⟨va_K.moved (hv ▸ Vm.Alike.refl u.vm) h.1, fun w hw => ?_, va_AO.moved (hv ▸ Vm.Alike.refl u.vm) h.2.2.1, va_AO.moved (hv ▸ Vm.Alike.refl u.vm) h.2.2.2⟩
  have hz := h.2.1 w hw
  have hn : nst w = true := (List.mem_filter.mp hw).2
  refine va_Nw.same ?_ hv hz
  cases w <;> first | rfl | cases hn
def clN (ci : Nat) : String := match ci with
  | 0 => RX0 | 1 => RX1 | 2 => RX2 | 3 => RX3 | 4 => RX4 | 5 => RX5 | 6 => RX6 | 7 => RX7 | 8 => RX8 | 9 => RX9 | 10 => RX10 | 11 => RX11 | _ => RX12
def clT (ci : Nat) : u_T := match ci with
  | 0 => TX0 | 1 => TX1 | 2 => TX2 | 3 => TX3 | 4 => TX4 | 5 => TX5 | 6 => TX6 | 7 => TX7 | 8 => TX8 | 9 => TX9 | 10 => TX10 | 11 => TX11 | _ => TX12
theorem clsL {ci : Nat} (h : ci < 13) : vwCl[ci]? = some (clN ci, clT ci, nfd ci) := by
  match ci, h with
  | 0, _ => rfl
  | 1, _ => rfl
  | 2, _ => rfl
  | 3, _ => rfl
  | 4, _ => rfl
  | 5, _ => rfl
  | 6, _ => rfl
  | 7, _ => rfl
  | 8, _ => rfl
  | 9, _ => rfl
  | 10, _ => rfl
  | 11, _ => rfl
  | 12, _ => rfl
  | k + 13, h => omega
theorem clsT {ci : Nat} (h : ci < 13) : ∀ k, k < nfd ci → parseFieldDescriptor (clT ci k).2.2.1 = some (ftyT ci k) := by
  match ci, h with
  | 0, _ => exact tyX0_ok
  | 1, _ => exact tyX1_ok
  | 2, _ => exact tyX2_ok
  | 3, _ => exact tyX3_ok
  | 4, _ => exact tyX4_ok
  | 5, _ => exact tyX5_ok
  | 6, _ => exact tyX6_ok
  | 7, _ => exact tyX7_ok
  | 8, _ => exact tyX8_ok
  | 9, _ => exact tyX9_ok
  | 10, _ => exact tyX10_ok
  | 11, _ => exact tyX11_ok
  | 12, _ => exact tyX12_ok
  | k + 13, h => omega
theorem clsM {ci : Nat} (h : ci < 13) : ∀ a, a < nfd ci → ∀ b, b < nfd ci → a ≠ b → (clT ci a).2.1 ≠ (clT ci b).2.1 := by
  match ci, h with
  | 0, _ => exact nmX0
  | 1, _ => exact nmX1
  | 2, _ => exact nmX2
  | 3, _ => exact nmX3
  | 4, _ => exact nmX4
  | 5, _ => exact nmX5
  | 6, _ => exact nmX6
  | 7, _ => exact nmX7
  | 8, _ => exact nmX8
  | 9, _ => exact nmX9
  | 10, _ => exact nmX10
  | 11, _ => exact nmX11
  | 12, _ => exact nmX12
  | k + 13, h => omega
/-- a field's link: its class's own, or a nest mate's -/
def FOK (own : String) (args : Array Value) (s : State) (x ci j : Nat) : Prop := (Cond.fieldLink own x (clT ci j).1 (clT ci j).2.1 (clT ci j).2.2.1).before args s = true ∨ ∃ host, (Cond.fieldLinkNest own x (clT ci j).1 (clT ci j).2.1 (clT ci j).2.2.1 host).before args s = true
def PFK (own : String) (meth : Method) (args : Array Value) (s : State) (x ci j : Nat) : Prop := ((clT ci j).2.2.2 = false ∧ FOK own args s x ci j) ∨ ((clT ci j).2.2.2 = true ∧ meth.name = "<init>" ∧ (clT ci j).1 = own ∧ (Cond.fieldLink own x (clT ci j).1 (clT ci j).2.1 (clT ci j).2.2.1).before args s = true)
def lenOk (i : Instr) (n : Nat) : Bool := match i with
  | .tableswitch .. => true
  | .bipush _ => n == 2
  | .ldc _ => n == 2
  | .iload _ => n == 2
  | .lload _ => n == 2
  | .aload _ => n == 2
  | .istore _ => n == 2
  | .lstore _ => n == 2
  | .astore _ => n == 2
  | .newarray _ => n == 2
  | .sipush _ => n == 3
  | .ldc_w _ => n == 3
  | .ldc2_w _ => n == 3
  | .iinc .. => n == 3
  | .goto _ => n == 3
  | .ifCond .. => n == 3
  | .if_icmp .. => n == 3
  | .getfield _ => n == 3
  | .putfield _ => n == 3
  | .new _ => n == 3
  | .anewarray _ => n == 3
  | .invokevirtual _ => n == 3
  | .invokespecial _ => n == 3
  | .invokestatic _ => n == 3
  | _ => n == 1
def tgAll (pc : Nat) : List Int → List Nat → Bool
  | [], [] => true
  | o :: os, t :: ts => decide ((pc : Int) + o = (t : Int)) && tgAll pc os ts
  | _, _ => false
def tgOk (pc : Nat) (i : Instr) (tg : List Nat) : Bool := match i with
  | .goto off => tgAll pc [off] tg
  | .ifCond _ off => tgAll pc [off] tg
  | .if_icmp _ off => tgAll pc [off] tg
  | .tableswitch d lo hi offs => tgAll pc (d :: offs.toList) tg && decide (-2147483648 ≤ lo) && decide (lo + offs.size ≤ 2147483648) && decide (hi + 1 = lo + offs.size)
  | _ => true
theorem tgAll_1 {pc : Nat} {off : Int} {t : Nat} {ts : List Nat} (h : tgAll pc [off] (t :: ts) = true) : (pc : Int) + off = (t : Int) := by
  unfold tgAll at h
  simp only [Bool.and_eq_true, decide_eq_true_eq] at h
  exact h.1
theorem tgAll_len {pc : Nat} : ∀ {os : List Int} {ts : List Nat}, tgAll pc os ts = true → ts.length = os.length := by
  intro os
  induction os with
  | nil => intro ts h; cases ts with
    | nil => rfl
    | cons t ts => cases h
  | cons o os ih =>
    intro ts h
    cases ts with
    | nil => cases h
    | cons t ts =>
      unfold tgAll at h
      simp only [Bool.and_eq_true] at h
      simp [ih h.2]
theorem tgAll_get {pc : Nat} : ∀ {os : List Int} {ts : List Nat} {k : Nat} {t : Nat}, tgAll pc os ts = true → ts[k]? = some t → ∃ o, os[k]? = some o ∧ (pc : Int) + o = (t : Int) := by
  intro os
  induction os with
  | nil => intro ts k t h hk; cases ts with
    | nil => cases hk
    | cons t ts => cases h
  | cons o os ih =>
    intro ts k t h hk
    cases ts with
    | nil => cases h
    | cons t0 ts =>
      unfold tgAll at h
      simp only [Bool.and_eq_true, decide_eq_true_eq] at h
      cases k with
      | zero => cases hk; exact ⟨o, rfl, h.1⟩
      | succ k => exact ih h.2 hk
def MOK (own : String) (cc : ByteArray) (M : MI) (meth : Method) (args : Array Value) (s : State) : Prop :=
  (∀ pc i nx tg, lkp pc M.1 = some (i, nx, tg) → ∃ n, decode cc pc = .ok (i, n) ∧ lenOk i n = true ∧ nx = pc + n ∧ tgOk pc i tg = true) ∧
  (∀ x ci j, lkp x M.2.1 = some (ci, j) → ci < 13 ∧ FOK own args s x ci j) ∧
  (∀ pc x nx ci j, lkp pc M.1 = some (.putfield x, nx) → lkp x M.2.1 = some (ci, j) → PFK own meth args s x ci j) ∧
  (∀ x v, lkp x M.2.2.1 = some (.int v) → (Cond.constant own x v).before args s = true) ∧
  (∀ x v, lkp x M.2.2.1 = some (.long v) → (Cond.constantLong own x v).before args s = true) ∧
  (∀ x ci, lkp x M.2.2.2.2.1 = some ci → ci < 13 ∧ (Cond.classLink own x (clN ci)).before args s = true)
/-- what all methods know of the classes -/
def COK (args : Array Value) (s : State) : Prop := (∀ w ∈ gdW, w.before args s = true) ∧ (∀ ci, ci < 13 → (∀ w ∈ u_ws (clN ci) (clT ci) (nfd ci), w ∈ gdW) ∧ (Cond.instantiable (clN ci) (nfd ci)).before args s = true ∧ (Cond.initialized (clN ci)).before args s = true) ∧ (Cond.arrayClass .int).before args s = true ∧ (Cond.arrayClass .boolean).before args s = true ∧ (Cond.arrayClass .long).before args s = true
def RTY (k : Nat) (o : Option FieldType) : Prop := match k with
  | 0 => o = none
  | 1 => o = some .int
  | 2 => o = some .boolean
  | 3 => o = some .long
  | _ => ∃ n, o = some (.object n)
def Hp (D : va_G) (aC : Nat → ClassId) (A : Nat → Prop) (s : State) (ad0 : Nat → Nat) (N0 : Nat) (ad : Nat → Nat) (h : HP) (H : Heap) (locs : List Loc) : Prop :=
  va_P D vwCl (wof aC ad h) H ∧ va_D A (wof aC ad h) ∧ va_S A s.heap H locs ∧ h.1 ≤ mNul ∧ N0 ≤ h.1 ∧ (∀ p, p < N0 → ad p = ad0 p) ∧ okH h
def Qm (D : va_G) (aC : Nat → ClassId) (A : Nat → Prop) (ad0 : Nat → Nat) (N0 : Nat) (r : Option Value) (hF : HP) : Array Value → State → Outcome → State → Prop := fun _ st oc t =>
  (∃ ad : Nat → Nat, oc = .returned (r.map (mv ad)) ∧ va_P D vwCl (wof aC ad hF) t.heap ∧ va_D A (wof aC ad hF) ∧ hF.1 ≤ mNul ∧ N0 ≤ hF.1 ∧ (∀ p, p < N0 → ad p = ad0 p) ∧ okH hF ∧ (∀ v, r = some v → okv hF.1 v)) ∧ va_F A st t
theorem inb_in {i : Int32} {n : Nat} (h : inb i n = true) : vp_in i n := by
  unfold inb at h
  simp only [Bool.and_eq_true, Bool.not_eq_true', decide_eq_false_iff_not] at h
  rintro (q | q)
  · exact h.1 q
  · have := Nat.ble_eq.mpr q
    rw [this] at h
    cases h.2
theorem isB_nar {x : Int32} (h : isB x = true) : narrow .boolean (.int x) = .int x ∧ fits .boolean (.int x) = true ∧ vp_nar .boolean x = x := by
  unfold isB at h
  simp only [Bool.or_eq_true, decide_eq_true_eq] at h
  rcases h with rfl | rfl <;> exact ⟨rfl, rfl, rfl⟩
theorem arr_uniq {D : va_G} {cl : List vw_C} {tys tys' : List (ClassId × FieldType)} {s : State} {a b : ClassId} {ty : FieldType} {i j : Nat} (h1 : va_K D cl tys s) (h2 : va_K D cl tys' s) (hi : tys[i]? = some (a, ty)) (hj : tys'[j]? = some (b, ty)) : a = b := by
  have e1 := (h1.2 i _ hi).2
  have e2 := (h2.2 j _ hj).2
  cases ty with
  | object C =>
    obtain ⟨_, _, _, _, _, g1⟩ := e1
    obtain ⟨_, _, _, _, _, g2⟩ := e2
    exact Option.some.inj (g1.symm.trans g2)
  | _ => exact Option.some.inj (e1.symm.trans e2)
theorem swk_some {ρ : Type} {k : Nat → Option ρ} {d : Nat} {x : Int32} {r : ρ} : ∀ (ts : List Nat) (lo : Int), swk k d x lo ts = some r → (∃ (i t : Nat), ts[i]? = some t ∧ x = Int32.ofInt (lo + i) ∧ k t = some r) ∨ ((∀ i : Nat, i < ts.length → x ≠ Int32.ofInt (lo + i)) ∧ k d = some r) := by
  intro ts
  induction ts with
  | nil => intro lo h; exact Or.inr ⟨fun i hi => absurd hi (Nat.not_lt_zero i), h⟩
  | cons t ts ih =>
    intro lo h
    unfold swk at h
    split at h
    · rename_i hx
      exact Or.inl ⟨0, t, rfl, by simpa using hx, h⟩
    · rename_i hx
      rcases ih (lo + 1) h with ⟨i, t', h1, h2, h3⟩ | ⟨h1, h2⟩
      · refine Or.inl ⟨i + 1, t', h1, ?_, h3⟩
        rw [h2]; congr 1; push_cast; omega
      · refine Or.inr ⟨fun i hi => ?_, h2⟩
        cases i with
        | zero => simpa using hx
        | succ i =>
          have := h1 i (by simpa using hi)
          intro z
          apply this
          rw [z]; congr 1; push_cast; omega
theorem fty_ref {ci j : Nat} {a : Nat} (hci : ci < 13) (hj : j < nfd ci) : ftyc (ftyT ci j) = 3 → narrow (ftyT ci j) (.ref a) = .ref a ∧ fits (ftyT ci j) (.ref a) = true := by
  intro h
  have hk : ∀ ci, ci < 13 → ∀ j, j < nfd ci → (ftyc (ftyT ci j) = 3 → ((match ftyT ci j with | .object _ => true | .array _ => true | _ => false) = true)) := by decide +kernel
  have h2 := hk ci hci j hj h
  cases hq : ftyT ci j with
  | object n => exact ⟨rfl, rfl⟩
  | array t => exact ⟨rfl, rfl⟩
  | _ => rw [hq] at h2; cases h2
theorem fty_dflt {ci j : Nat} {ad : Nat → Nat} (hci : ci < 13) (hj : j < nfd ci) : (match ftyc (ftyT ci j) with | 0 => Value.int 0 | 1 => .int 0 | 2 => .long 0 | _ => rvv ad mNul) = defaultValue (ftyT ci j) := by
  have hn : rvv ad mNul = .null := by unfold rvv; rw [if_pos rfl]
  rw [hn]
  have hk : ∀ ci, ci < 13 → ∀ j, j < nfd ci → (match ftyc (ftyT ci j) with | 0 => Value.int 0 | 1 => .int 0 | 2 => .long 0 | _ => Value.null) = defaultValue (ftyT ci j) := by decide +kernel
  exact hk ci hci j hj
section SND
variable {p : Program} {l : Launch} {e : Env} {R : Room} {s : State} {m : MethodId} {args : Array Value} {below : List Frame} {meth : Method} {c : Code} {cc : ByteArray} {nL : Nat} {own : String} {D : va_G} {aC : Nat → ClassId} {A : Nat → Prop} {ad0 : Nat → Nat} {N0 : Nat}
/-- a call: the callee's meaning is what happens -/
def CLK (p : Program) (l : Launch) (e : Env) (R : Room) (s : State) (m : MethodId) (args : Array Value) (below : List Frame) (meth : Method) (c : Code) (cc : ByteArray) (nL : Nat) (D : va_G) (aC : Nat → ClassId) (A : Nat → Prop) (ad0 : Nat → Nat) (N0 : Nat) (op : Instr) (n : Nat) (rc : Option Nat) (mc ms : Nat) (f : CF) : Prop :=
  ∀ (Q : State → Prop) (pc : Nat) (ls : Array Slot) (rest : List Value) (As : List Value) (h h' : HP) (r : Option Value) (ad : Nat → Nat) (H : Heap) (locs : List Loc) (cells slots : Nat),
    As.length = n → f As h = some (r, h') → decode cc pc = .ok (op, 3) → ls.size = nL → (rest.map fun v => v.category).sum ≤ 8 → cells + mc ≤ R.cells → slots + ms ≤ R.slots → Hp D aC A s ad0 N0 ad h H locs → okS h.1 As →
    (∀ ci, rc = some ci → ∃ q as, As = .ref q :: as ∧ (ci < 13 → (h.2.1 q).1 = 10 + ci ∧ q < h.1)) →
    (∀ (ad' : Nat → Nat) (H' : Heap) (locs' : List Loc), Hp D aC A s ad0 N0 ad' h' H' locs' → (∀ q, q < h.1 → ad' q = ad q) → h.1 ≤ h'.1 → (∀ v, r = some v → okv h'.1 v) → W p l e R s m args below meth c H' locs' (cells + mc) (slots + ms) Q (F0 m (pc + 3) ls (r.toList.map (mv ad') ++ rest))) →
    W p l e R s m args below meth c H locs cells slots Q (F0 m pc ls ((As.map (mv ad)).reverse ++ rest))
def CLS (p : Program) (l : Launch) (e : Env) (R : Room) (s : State) (m : MethodId) (args : Array Value) (below : List Frame) (meth : Method) (c : Code) (cc : ByteArray) (nL : Nat) (D : va_G) (aC : Nat → ClassId) (A : Nat → Prop) (ad0 : Nat → Nat) (N0 : Nat) (M : MI) : Prop :=
  (∀ pc x nx n rc mc ms f, lkp pc M.1 = some (.invokevirtual x, nx) → lkp (4 * x) M.2.2.2.1 = some (n, rc, mc, ms, f) → CLK p l e R s m args below meth c cc nL D aC A ad0 N0 (.invokevirtual x) n (some rc) mc ms f) ∧
  (∀ pc x nx n rc mc ms f, lkp pc M.1 = some (.invokespecial x, nx) → lkp (4 * x + 1) M.2.2.2.1 = some (n, rc, mc, ms, f) → CLK p l e R s m args below meth c cc nL D aC A ad0 N0 (.invokespecial x) n (some 99) mc ms f) ∧
  (∀ pc x nx n rc mc ms f, lkp pc M.1 = some (.invokestatic x, nx) → lkp (4 * x + 2) M.2.2.2.1 = some (n, rc, mc, ms, f) → CLK p l e R s m args below meth c cc nL D aC A ad0 N0 (.invokestatic x) n none mc ms f)
/-- putfield, whatever its link -/
theorem snd_put {Q : State → Prop} {H : Heap} {locs : List Loc} {cl sl pc : Nat} {ls : Array Slot} {rest : List Value} {ad : Nat → Nat} {h h' : HP} {q x ci j : Nat} {v : Value} (hx : p.tables.exec = Jvm.exec) (hb : c.code = cc) (hown : s.vm.findClass own = some m.cls) (hC : COK args s) (hK : KS D aC s)
    (hP : va_P D vwCl (wof aC ad h) H) (hD : va_D A (wof aC ad h)) (hS : va_S A s.heap H locs) (hci : ci < 13) (hg : (h.2.1 q).1 = 10 + ci ∧ q < h.1 ∧ j < nfd ci) (hpf : PFK own meth args s x ci j) (hd : decode cc pc = .ok (.putfield x, 3))
    (hn : narrow (ftyT ci j) v = v) (hfit : fits (ftyT ci j) v = true) (hsame : (wof aC ad h).set q (ad q, .inr (ci, ((List.range (nfd ci)).map (fvv ad h q ci)).set j v)) = wof aC ad h')
    (kk : ∀ (H1 : Heap) (locs1 : List Loc), va_P D vwCl (wof aC ad h') H1 → va_D A (wof aC ad h') → va_S A s.heap H1 locs1 → W p l e R s m args below meth c H1 locs1 cl sl Q (F0 m (pc + 3) ls rest)) :
    W p l e R s m args below meth c H locs cl sl Q (F0 m pc ls (v :: .ref (ad q) :: rest)) := by
  have he : (wof aC ad h)[q]? = some (ad q, .inr (ci, (List.range (nfd ci)).map (fvv ad h q ci))) := by rw [wof_get hg.2.1, cel_obj hg.1]
  have hl : j < ((List.range (nfd ci)).map (fvv ad h q ci)).length := by simp; exact hg.2.2
  have kk' : ∀ (H1 : Heap) (locs1 : List Loc), va_P D vwCl ((wof aC ad h).set q (ad q, .inr (ci, ((List.range (nfd ci)).map (fvv ad h q ci)).set j v))) H1 → va_D A ((wof aC ad h).set q (ad q, .inr (ci, ((List.range (nfd ci)).map (fvv ad h q ci)).set j v))) → va_S A s.heap H1 locs1 → W p l e R s m args below meth c H1 locs1 cl sl Q (F0 m (pc + 3) ls rest) := by
    rw [hsame]; exact kk
  rcases hpf with ⟨hfin, hf | ⟨host, hf⟩⟩ | ⟨hfin, hini, hdecl, hf⟩
  · exact va_put (C := clN ci) (T := clT ci) (N := nfd ci) hx hb hC.1 (hC.2.1 ci hci).1 (ftyT ci) (clsT hci) (clsM hci) hown hK.1 hP hD hS q he (clsL hci) j hg.2.2 hf (fun _ z => z) hfin (clsT hci j hg.2.2) hn hfit hl hd kk'
  · exact va_putN (C := clN ci) (T := clT ci) (N := nfd ci) hx hb hC.1 (hC.2.1 ci hci).1 (ftyT ci) (clsT hci) (clsM hci) hown hK.1 hP hD hS q he (clsL hci) j hg.2.2 hf (fun _ z => z) hfin (clsT hci j hg.2.2) hn hfit hl hd kk'
  · exact va_putF (C := clN ci) (T := clT ci) (N := nfd ci) hx hb hC.1 (hC.2.1 ci hci).1 (ftyT ci) (clsT hci) (clsM hci) hown hK.1 hP hD hS q he (clsL hci) j hg.2.2 hf (fun _ z => z) hfin hini hdecl (clsT hci j hg.2.2) hn hfit hl hd kk'
set_option maxHeartbeats 40000000 in
set_option maxRecDepth 100000 in
theorem snd_run {M : MI} {r : Option Value} {hF : HP} (hx : p.tables.exec = Jvm.exec) (hb : c.code = cc) (hml : c.maxLocals = nL) (hown : s.vm.findClass own = some m.cls) (hlocks : meth.locks = false) (hret : RTY M.2.2.2.2.2.2.1 meth.sig.returnType)
    (hRc : R.cells = M.2.2.2.2.2.1.1) (hRs : R.slots = M.2.2.2.2.2.1.2) (hC : COK args s) (hK : KS D aC s) (hA : ∀ q, s.heap.size ≤ q → A q) (hM : MOK own cc M meth args s) (hcal : CLS p l e R s m args below meth c cc nL D aC A ad0 N0 M) :
    ∀ (n pc cl sl : Nat) (vs st : List Value) (h : HP), runN M n (pc, cl, sl, vs, st, h) = some (r, hF) → ∀ (ad : Nat → Nat) (H : Heap) (locs : List Loc) (ls : Array Slot), Hp D aC A s ad0 N0 ad h H locs → cl ≤ M.2.2.2.2.2.1.1 → sl ≤ M.2.2.2.2.2.1.2 → LV ad ls nL vs → okS h.1 vs → okS h.1 st →
      W p l e R s m args below meth c H locs cl sl (MQ below (Qm D aC A ad0 N0 r hF) args s M.2.2.2.2.2.1.1 M.2.2.2.2.2.1.2 A) (F0 m pc ls (st.map (mv ad))) := by
  intro n
  induction n with
  | zero => intro pc cl sl vs st h hr; cases hr
  | succ n ih =>
  intro pc cl sl vs st h hrun ad H locs ls hH hcl hsl hL hokL hokS
  replace hrun : stp M (runN M n) some (pc, cl, sl, vs, st, h) = some (r, hF) := hrun
  unfold stp at hrun
  simp only at hrun
  cases hi : lkp pc M.1 with
  | none => rw [hi] at hrun; cases hrun
  | some ii =>
  obtain ⟨i, nx, tg⟩ := ii
  rw [hi] at hrun
  obtain ⟨k, hd, hlen, hnx, htg⟩ := hM.1 pc i nx tg hi
  replace hrun : mkoK (lkp pc M.2.2.2.2.2.2.2) vs (fun l => stpI M (runN M n) some nx tg cl sl l st h i) = some (r, hF) := hrun
  rw [mkoK_eq] at hrun
  replace hL := hL.mko (o := lkp pc M.2.2.2.2.2.2.2)
  replace hokL := mko_ok (o := lkp pc M.2.2.2.2.2.2.2) hokL
  generalize mko (lkp pc M.2.2.2.2.2.2.2) vs = vs at hrun hL hokL
  obtain ⟨hP, hD, hS, hmx, hN0, had, hok⟩ := id hH
  cases i with
  | iconst v =>
    obtain rfl : k = 1 := by simpa [lenOk] using hlen
    subst hnx
    simp only [stpI, stK_eq, setK_eq, hIK_eq, hJK_eq, hRK_eq, alcK_eq] at hrun
    refine lv_iconst hx hb hd rfl ?_
    exact ih _ _ _ _ _ _ hrun ad H locs ls hH hcl hsl hL hokL (hokS.cons trivial)
  | bipush v =>
    obtain rfl : k = 2 := by simpa [lenOk] using hlen
    subst hnx
    simp only [stpI, stK_eq, setK_eq, hIK_eq, hJK_eq, hRK_eq, alcK_eq] at hrun
    refine lv_bipush hx hb hd rfl ?_
    exact ih _ _ _ _ _ _ hrun ad H locs ls hH hcl hsl hL hokL (hokS.cons trivial)
  | sipush v =>
    obtain rfl : k = 3 := by simpa [lenOk] using hlen
    subst hnx
    simp only [stpI, stK_eq, setK_eq, hIK_eq, hJK_eq, hRK_eq, alcK_eq] at hrun
    refine lv_sipush hx hb hd rfl ?_
    exact ih _ _ _ _ _ _ hrun ad H locs ls hH hcl hsl hL hokL (hokS.cons trivial)
  | lconst v =>
    obtain rfl : k = 1 := by simpa [lenOk] using hlen
    subst hnx
    simp only [stpI, stK_eq, setK_eq, hIK_eq, hJK_eq, hRK_eq, alcK_eq] at hrun
    refine lv_lconst hx hb hd rfl ?_
    exact ih _ _ _ _ _ _ hrun ad H locs ls hH hcl hsl hL hokL (hokS.cons trivial)
  | ldc x =>
    obtain rfl : k = 2 := by simpa [lenOk] using hlen
    subst hnx
    simp only [stpI, stK_eq, setK_eq, hIK_eq, hJK_eq, hRK_eq, alcK_eq] at hrun
    split at hrun
    · rename_i v hv
      refine lv_ldc hx hb hown (hM.2.2.2.1 x v hv) hd ?_
      exact ih _ _ _ _ _ _ hrun ad H locs ls hH hcl hsl hL hokL (hokS.cons trivial)
    · cases hrun
  | ldc_w x =>
    obtain rfl : k = 3 := by simpa [lenOk] using hlen
    subst hnx
    simp only [stpI, stK_eq, setK_eq, hIK_eq, hJK_eq, hRK_eq, alcK_eq] at hrun
    split at hrun
    · rename_i v hv
      refine lv_ldcw hx hb hown (hM.2.2.2.1 x v hv) hd ?_
      exact ih _ _ _ _ _ _ hrun ad H locs ls hH hcl hsl hL hokL (hokS.cons trivial)
    · cases hrun
  | ldc2_w x =>
    obtain rfl : k = 3 := by simpa [lenOk] using hlen
    subst hnx
    simp only [stpI, stK_eq, setK_eq, hIK_eq, hJK_eq, hRK_eq, alcK_eq] at hrun
    split at hrun
    · rename_i v hv
      refine lv_ldc2 hx hb hown (hM.2.2.2.2.1 x v hv) hd ?_
      exact ih _ _ _ _ _ _ hrun ad H locs ls hH hcl hsl hL hokL (hokS.cons trivial)
    · cases hrun
  | iload x =>
    obtain rfl : k = 2 := by simpa [lenOk] using hlen
    subst hnx
    simp only [stpI, stK_eq, setK_eq, hIK_eq, hJK_eq, hRK_eq, alcK_eq] at hrun
    split at hrun
    · rename_i v hv
      refine lv_iload hx hb hd (hL.at hv (fun z => by cases z)) ?_
      exact ih _ _ _ _ _ _ hrun ad H locs ls hH hcl hsl hL hokL (hokS.cons trivial)
    · cases hrun
  | iload_n x =>
    obtain rfl : k = 1 := by simpa [lenOk] using hlen
    subst hnx
    simp only [stpI, stK_eq, setK_eq, hIK_eq, hJK_eq, hRK_eq, alcK_eq] at hrun
    split at hrun
    · rename_i v hv
      refine lv_iload_n hx hb hd rfl (hL.at hv (fun z => by cases z)) ?_
      exact ih _ _ _ _ _ _ hrun ad H locs ls hH hcl hsl hL hokL (hokS.cons trivial)
    · cases hrun
  | lload x =>
    obtain rfl : k = 2 := by simpa [lenOk] using hlen
    subst hnx
    simp only [stpI, stK_eq, setK_eq, hIK_eq, hJK_eq, hRK_eq, alcK_eq] at hrun
    split at hrun
    · rename_i v hv
      refine lv_lload hx hb hd (hL.at hv (fun z => by cases z)) ?_
      exact ih _ _ _ _ _ _ hrun ad H locs ls hH hcl hsl hL hokL (hokS.cons trivial)
    · cases hrun
  | lload_n x =>
    obtain rfl : k = 1 := by simpa [lenOk] using hlen
    subst hnx
    simp only [stpI, stK_eq, setK_eq, hIK_eq, hJK_eq, hRK_eq, alcK_eq] at hrun
    split at hrun
    · rename_i v hv
      refine lv_lload_n hx hb hd rfl (hL.at hv (fun z => by cases z)) ?_
      exact ih _ _ _ _ _ _ hrun ad H locs ls hH hcl hsl hL hokL (hokS.cons trivial)
    · cases hrun
  | aload x =>
    obtain rfl : k = 2 := by simpa [lenOk] using hlen
    subst hnx
    simp only [stpI, stK_eq, setK_eq, hIK_eq, hJK_eq, hRK_eq, alcK_eq] at hrun
    split at hrun
    · rename_i v hv
      refine lv_aload hx hb hd (hL.at hv (fun z => by cases z)) ?_
      exact ih _ _ _ _ _ _ hrun ad H locs ls hH hcl hsl hL hokL (hokS.cons (hokL _ (List.mem_of_getElem? hv)))
    · cases hrun
  | aload_n x =>
    obtain rfl : k = 1 := by simpa [lenOk] using hlen
    subst hnx
    simp only [stpI, stK_eq, setK_eq, hIK_eq, hJK_eq, hRK_eq, alcK_eq] at hrun
    split at hrun
    · rename_i v hv
      refine lv_aload_n hx hb hd rfl (hL.at hv (fun z => by cases z)) ?_
      exact ih _ _ _ _ _ _ hrun ad H locs ls hH hcl hsl hL hokL (hokS.cons (hokL _ (List.mem_of_getElem? hv)))
    · cases hrun
  | istore x =>
    obtain rfl : k = 2 := by simpa [lenOk] using hlen
    subst hnx
    simp only [stpI, stK_eq, setK_eq, hIK_eq, hJK_eq, hRK_eq, alcK_eq] at hrun
    split at hrun
    · rename_i v r'
      cases hq : Nat.blt x vs.length with
      | false => rw [hq] at hrun; cases hrun
      | true =>
        rw [hq] at hrun
        have hlt : x < nL := by rw [← hL.2]; exact Nat.blt_eq.mp hq
        refine lv_istore hx hb hd hL.1 hlt rfl (fun ls' hl' => ?_)
        exact ih _ _ _ _ _ _ hrun ad H locs ls' hH hcl hsl (LV.st1 (x := .int v) hL.2 hlt hl') (set_ok (kill_ok hokL) hokS.hd) hokS.tl
    · cases hrun
  | istore_n x =>
    obtain rfl : k = 1 := by simpa [lenOk] using hlen
    subst hnx
    simp only [stpI, stK_eq, setK_eq, hIK_eq, hJK_eq, hRK_eq, alcK_eq] at hrun
    split at hrun
    · rename_i v r'
      cases hq : Nat.blt (x : Nat) vs.length with
      | false => rw [hq] at hrun; cases hrun
      | true =>
        rw [hq] at hrun
        have hlt : (x : Nat) < nL := by rw [← hL.2]; exact Nat.blt_eq.mp hq
        refine lv_istore_n hx hb hd rfl hL.1 hlt rfl (fun ls' hl' => ?_)
        exact ih _ _ _ _ _ _ hrun ad H locs ls' hH hcl hsl (LV.st1 (x := .int v) hL.2 hlt hl') (set_ok (kill_ok hokL) hokS.hd) hokS.tl
    · cases hrun
  | astore x =>
    obtain rfl : k = 2 := by simpa [lenOk] using hlen
    subst hnx
    simp only [stpI, stK_eq, setK_eq, hIK_eq, hJK_eq, hRK_eq, alcK_eq] at hrun
    split at hrun
    · rename_i v r'
      cases hq : Nat.blt x vs.length with
      | false => rw [hq] at hrun; cases hrun
      | true =>
        rw [hq] at hrun
        have hlt : x < nL := by rw [← hL.2]; exact Nat.blt_eq.mp hq
        refine lv_astore hx hb hd hL.1 hlt rfl (fun ls' hl' => ?_)
        exact ih _ _ _ _ _ _ hrun ad H locs ls' hH hcl hsl (LV.st1 (x := .ref v) hL.2 hlt hl') (set_ok (kill_ok hokL) hokS.hd) hokS.tl
    · cases hrun
  | astore_n x =>
    obtain rfl : k = 1 := by simpa [lenOk] using hlen
    subst hnx
    simp only [stpI, stK_eq, setK_eq, hIK_eq, hJK_eq, hRK_eq, alcK_eq] at hrun
    split at hrun
    · rename_i v r'
      cases hq : Nat.blt (x : Nat) vs.length with
      | false => rw [hq] at hrun; cases hrun
      | true =>
        rw [hq] at hrun
        have hlt : (x : Nat) < nL := by rw [← hL.2]; exact Nat.blt_eq.mp hq
        refine lv_astore_n hx hb hd rfl hL.1 hlt rfl (fun ls' hl' => ?_)
        exact ih _ _ _ _ _ _ hrun ad H locs ls' hH hcl hsl (LV.st1 (x := .ref v) hL.2 hlt hl') (set_ok (kill_ok hokL) hokS.hd) hokS.tl
    · cases hrun
  | lstore x =>
    obtain rfl : k = 2 := by simpa [lenOk] using hlen
    subst hnx
    simp only [stpI, stK_eq, setK_eq, hIK_eq, hJK_eq, hRK_eq, alcK_eq] at hrun
    split at hrun
    · rename_i v r'
      cases hq : Nat.blt (x + 1) vs.length with
      | false => rw [hq] at hrun; cases hrun
      | true =>
        rw [hq] at hrun
        have hlt : x + 1 < nL := by rw [← hL.2]; exact Nat.blt_eq.mp hq
        refine lv_lstore hx hb hd hL.1 hlt rfl (fun ls' hl' => ?_)
        exact ih _ _ _ _ _ _ hrun ad H locs ls' hH hcl hsl (LV.st2 (x := .long v) hL.2 hlt hl') (set_ok (set_ok (kill_ok hokL) trivial) trivial) hokS.tl
    · cases hrun
  | lstore_n x =>
    obtain rfl : k = 1 := by simpa [lenOk] using hlen
    subst hnx
    simp only [stpI, stK_eq, setK_eq, hIK_eq, hJK_eq, hRK_eq, alcK_eq] at hrun
    split at hrun
    · rename_i v r'
      cases hq : Nat.blt ((x : Nat) + 1) vs.length with
      | false => rw [hq] at hrun; cases hrun
      | true =>
        rw [hq] at hrun
        have hlt : (x : Nat) + 1 < nL := by rw [← hL.2]; exact Nat.blt_eq.mp hq
        refine lv_lstore_n hx hb hd rfl hL.1 hlt rfl (fun ls' hl' => ?_)
        exact ih _ _ _ _ _ _ hrun ad H locs ls' hH hcl hsl (LV.st2 (x := .long v) hL.2 hlt hl') (set_ok (set_ok (kill_ok hokL) trivial) trivial) hokS.tl
    · cases hrun
  | iinc x n0 =>
    obtain rfl : k = 3 := by simpa [lenOk] using hlen
    subst hnx
    simp only [stpI, stK_eq, setK_eq, hIK_eq, hJK_eq, hRK_eq, alcK_eq] at hrun
    split at hrun
    · rename_i v hv
      have hlt : x < nL := by rw [← hL.2]; exact (List.getElem?_eq_some_iff.mp hv).1
      obtain ⟨kk, hkk⟩ := List.getElem?_of_mem (lvl_mem (ad := ad) (q := (x, Value.int v)) |>.mpr ⟨_, hv, (fun z => by cases z), rfl⟩)
      refine lv_iinc hx hb hd hL.1 hkk rfl hlt rfl (fun ls' hl' => ?_)
      exact ih _ _ _ _ _ _ hrun ad H locs ls' hH hcl hsl (LV.st1 (x := .int _) hL.2 hlt hl') (set_ok (kill_ok hokL) trivial) hokS
    · cases hrun
  | iadd =>
    obtain rfl : k = 1 := by simpa [lenOk] using hlen
    subst hnx
    simp only [stpI, stK_eq, setK_eq, hIK_eq, hJK_eq, hRK_eq, alcK_eq] at hrun
    split at hrun
    · refine lv_iadd hx hb hd ?_
      exact ih _ _ _ _ _ _ hrun ad H locs ls hH hcl hsl hL hokL (hokS.tl.tl.cons trivial)
    · cases hrun
  | isub =>
    obtain rfl : k = 1 := by simpa [lenOk] using hlen
    subst hnx
    simp only [stpI, stK_eq, setK_eq, hIK_eq, hJK_eq, hRK_eq, alcK_eq] at hrun
    split at hrun
    · refine lv_isub hx hb hd ?_
      exact ih _ _ _ _ _ _ hrun ad H locs ls hH hcl hsl hL hokL (hokS.tl.tl.cons trivial)
    · cases hrun
  | imul =>
    obtain rfl : k = 1 := by simpa [lenOk] using hlen
    subst hnx
    simp only [stpI, stK_eq, setK_eq, hIK_eq, hJK_eq, hRK_eq, alcK_eq] at hrun
    split at hrun
    · refine lv_imul hx hb hd ?_
      exact ih _ _ _ _ _ _ hrun ad H locs ls hH hcl hsl hL hokL (hokS.tl.tl.cons trivial)
    · cases hrun
  | iand =>
    obtain rfl : k = 1 := by simpa [lenOk] using hlen
    subst hnx
    simp only [stpI, stK_eq, setK_eq, hIK_eq, hJK_eq, hRK_eq, alcK_eq] at hrun
    split at hrun
    · refine lv_iand hx hb hd ?_
      exact ih _ _ _ _ _ _ hrun ad H locs ls hH hcl hsl hL hokL (hokS.tl.tl.cons trivial)
    · cases hrun
  | ior =>
    obtain rfl : k = 1 := by simpa [lenOk] using hlen
    subst hnx
    simp only [stpI, stK_eq, setK_eq, hIK_eq, hJK_eq, hRK_eq, alcK_eq] at hrun
    split at hrun
    · refine lv_ior hx hb hd ?_
      exact ih _ _ _ _ _ _ hrun ad H locs ls hH hcl hsl hL hokL (hokS.tl.tl.cons trivial)
    · cases hrun
  | ixor =>
    obtain rfl : k = 1 := by simpa [lenOk] using hlen
    subst hnx
    simp only [stpI, stK_eq, setK_eq, hIK_eq, hJK_eq, hRK_eq, alcK_eq] at hrun
    split at hrun
    · refine lv_ixor hx hb hd ?_
      exact ih _ _ _ _ _ _ hrun ad H locs ls hH hcl hsl hL hokL (hokS.tl.tl.cons trivial)
    · cases hrun
  | ishl =>
    obtain rfl : k = 1 := by simpa [lenOk] using hlen
    subst hnx
    simp only [stpI, stK_eq, setK_eq, hIK_eq, hJK_eq, hRK_eq, alcK_eq] at hrun
    split at hrun
    · refine lv_ishl hx hb hd ?_
      exact ih _ _ _ _ _ _ hrun ad H locs ls hH hcl hsl hL hokL (hokS.tl.tl.cons trivial)
    · cases hrun
  | ishr =>
    obtain rfl : k = 1 := by simpa [lenOk] using hlen
    subst hnx
    simp only [stpI, stK_eq, setK_eq, hIK_eq, hJK_eq, hRK_eq, alcK_eq] at hrun
    split at hrun
    · refine lv_ishr hx hb hd ?_
      exact ih _ _ _ _ _ _ hrun ad H locs ls hH hcl hsl hL hokL (hokS.tl.tl.cons trivial)
    · cases hrun
  | ladd =>
    obtain rfl : k = 1 := by simpa [lenOk] using hlen
    subst hnx
    simp only [stpI, stK_eq, setK_eq, hIK_eq, hJK_eq, hRK_eq, alcK_eq] at hrun
    split at hrun
    · refine lv_ladd hx hb hd ?_
      exact ih _ _ _ _ _ _ hrun ad H locs ls hH hcl hsl hL hokL (hokS.tl.tl.cons trivial)
    · cases hrun
  | lmul =>
    obtain rfl : k = 1 := by simpa [lenOk] using hlen
    subst hnx
    simp only [stpI, stK_eq, setK_eq, hIK_eq, hJK_eq, hRK_eq, alcK_eq] at hrun
    split at hrun
    · refine lv_lmul hx hb hd ?_
      exact ih _ _ _ _ _ _ hrun ad H locs ls hH hcl hsl hL hokL (hokS.tl.tl.cons trivial)
    · cases hrun
  | land =>
    obtain rfl : k = 1 := by simpa [lenOk] using hlen
    subst hnx
    simp only [stpI, stK_eq, setK_eq, hIK_eq, hJK_eq, hRK_eq, alcK_eq] at hrun
    split at hrun
    · refine lv_land hx hb hd ?_
      exact ih _ _ _ _ _ _ hrun ad H locs ls hH hcl hsl hL hokL (hokS.tl.tl.cons trivial)
    · cases hrun
  | lor =>
    obtain rfl : k = 1 := by simpa [lenOk] using hlen
    subst hnx
    simp only [stpI, stK_eq, setK_eq, hIK_eq, hJK_eq, hRK_eq, alcK_eq] at hrun
    split at hrun
    · refine lv_lor hx hb hd ?_
      exact ih _ _ _ _ _ _ hrun ad H locs ls hH hcl hsl hL hokL (hokS.tl.tl.cons trivial)
    · cases hrun
  | lxor =>
    obtain rfl : k = 1 := by simpa [lenOk] using hlen
    subst hnx
    simp only [stpI, stK_eq, setK_eq, hIK_eq, hJK_eq, hRK_eq, alcK_eq] at hrun
    split at hrun
    · refine lv_lxor hx hb hd ?_
      exact ih _ _ _ _ _ _ hrun ad H locs ls hH hcl hsl hL hokL (hokS.tl.tl.cons trivial)
    · cases hrun
  | iushr =>
    obtain rfl : k = 1 := by simpa [lenOk] using hlen
    subst hnx
    simp only [stpI, stK_eq, setK_eq, hIK_eq, hJK_eq, hRK_eq, alcK_eq] at hrun
    split at hrun
    · refine lv_iushr hx hb hd rfl ?_
      exact ih _ _ _ _ _ _ hrun ad H locs ls hH hcl hsl hL hokL (hokS.tl.tl.cons trivial)
    · cases hrun
  | lshl =>
    obtain rfl : k = 1 := by simpa [lenOk] using hlen
    subst hnx
    simp only [stpI, stK_eq, setK_eq, hIK_eq, hJK_eq, hRK_eq, alcK_eq] at hrun
    split at hrun
    · refine lv_lshl hx hb hd rfl ?_
      exact ih _ _ _ _ _ _ hrun ad H locs ls hH hcl hsl hL hokL (hokS.tl.tl.cons trivial)
    · cases hrun
  | lushr =>
    obtain rfl : k = 1 := by simpa [lenOk] using hlen
    subst hnx
    simp only [stpI, stK_eq, setK_eq, hIK_eq, hJK_eq, hRK_eq, alcK_eq] at hrun
    split at hrun
    · refine lv_lushr hx hb hd rfl ?_
      exact ih _ _ _ _ _ _ hrun ad H locs ls hH hcl hsl hL hokL (hokS.tl.tl.cons trivial)
    · cases hrun
  | idiv =>
    obtain rfl : k = 1 := by simpa [lenOk] using hlen
    subst hnx
    simp only [stpI, stK_eq, setK_eq, hIK_eq, hJK_eq, hRK_eq, alcK_eq] at hrun
    split at hrun
    · split at hrun
      · cases hrun
      · rename_i hne
        refine lv_idiv hx hb hd hne ?_
        exact ih _ _ _ _ _ _ hrun ad H locs ls hH hcl hsl hL hokL (hokS.tl.tl.cons trivial)
    · cases hrun
  | irem =>
    obtain rfl : k = 1 := by simpa [lenOk] using hlen
    subst hnx
    simp only [stpI, stK_eq, setK_eq, hIK_eq, hJK_eq, hRK_eq, alcK_eq] at hrun
    split at hrun
    · split at hrun
      · cases hrun
      · rename_i hne
        refine lv_irem hx hb hd hne ?_
        exact ih _ _ _ _ _ _ hrun ad H locs ls hH hcl hsl hL hokL (hokS.tl.tl.cons trivial)
    · cases hrun
  | ldiv =>
    obtain rfl : k = 1 := by simpa [lenOk] using hlen
    subst hnx
    simp only [stpI, stK_eq, setK_eq, hIK_eq, hJK_eq, hRK_eq, alcK_eq] at hrun
    split at hrun
    · split at hrun
      · cases hrun
      · rename_i hne
        refine lv_ldiv hx hb hd hne ?_
        exact ih _ _ _ _ _ _ hrun ad H locs ls hH hcl hsl hL hokL (hokS.tl.tl.cons trivial)
    · cases hrun
  | lrem =>
    obtain rfl : k = 1 := by simpa [lenOk] using hlen
    subst hnx
    simp only [stpI, stK_eq, setK_eq, hIK_eq, hJK_eq, hRK_eq, alcK_eq] at hrun
    split at hrun
    · split at hrun
      · cases hrun
      · rename_i hne
        refine lv_lrem hx hb hd hne ?_
        exact ih _ _ _ _ _ _ hrun ad H locs ls hH hcl hsl hL hokL (hokS.tl.tl.cons trivial)
    · cases hrun
  | lcmp =>
    obtain rfl : k = 1 := by simpa [lenOk] using hlen
    subst hnx
    simp only [stpI, stK_eq, setK_eq, hIK_eq, hJK_eq, hRK_eq, alcK_eq] at hrun
    split at hrun
    · refine W.lcmp hx hb hd ?_
      exact ih _ _ _ _ _ _ hrun ad H locs ls hH hcl hsl hL hokL (hokS.tl.tl.cons trivial)
    · cases hrun
  | i2l =>
    obtain rfl : k = 1 := by simpa [lenOk] using hlen
    subst hnx
    simp only [stpI, stK_eq, setK_eq, hIK_eq, hJK_eq, hRK_eq, alcK_eq] at hrun
    split at hrun
    · refine lv_i2l hx hb hd rfl ?_
      exact ih _ _ _ _ _ _ hrun ad H locs ls hH hcl hsl hL hokL (hokS.tl.cons trivial)
    · cases hrun
  | l2i =>
    obtain rfl : k = 1 := by simpa [lenOk] using hlen
    subst hnx
    simp only [stpI, stK_eq, setK_eq, hIK_eq, hJK_eq, hRK_eq, alcK_eq] at hrun
    split at hrun
    · refine lv_l2i hx hb hd rfl ?_
      exact ih _ _ _ _ _ _ hrun ad H locs ls hH hcl hsl hL hokL (hokS.tl.cons trivial)
    · cases hrun
  | dup =>
    obtain rfl : k = 1 := by simpa [lenOk] using hlen
    subst hnx
    simp only [stpI, stK_eq, setK_eq, hIK_eq, hJK_eq, hRK_eq, alcK_eq] at hrun
    split at hrun
    · refine lv_dup hx hb hd rfl ?_
      exact ih _ _ _ _ _ _ hrun ad H locs ls hH hcl hsl hL hokL (hokS.cons trivial)
    · refine lv_dup hx hb hd rfl ?_
      exact ih _ _ _ _ _ _ hrun ad H locs ls hH hcl hsl hL hokL (hokS.cons hokS.hd)
    · cases hrun
  | dup2 =>
    obtain rfl : k = 1 := by simpa [lenOk] using hlen
    subst hnx
    simp only [stpI, stK_eq, setK_eq, hIK_eq, hJK_eq, hRK_eq, alcK_eq] at hrun
    split at hrun
    · refine lv_dup2_11 hx hb hd rfl rfl ?_
      exact ih _ _ _ _ _ _ hrun ad H locs ls hH hcl hsl hL hokL ((hokS.cons hokS.tl.hd).cons trivial)
    · cases hrun
  | goto off =>
    obtain rfl : k = 3 := by simpa [lenOk] using hlen
    subst hnx
    simp only [stpI, stK_eq, setK_eq, hIK_eq, hJK_eq, hRK_eq, alcK_eq] at hrun
    split at hrun
    · refine lv_goto hx hb hd (tgAll_1 htg) ?_
      exact ih _ _ _ _ _ _ hrun ad H locs ls hH hcl hsl hL hokL hokS
    · cases hrun
  | ifCond q off =>
    obtain rfl : k = 3 := by simpa [lenOk] using hlen
    subst hnx
    simp only [stpI, stK_eq, setK_eq, hIK_eq, hJK_eq, hRK_eq, alcK_eq] at hrun
    split at hrun
    · cases q with
      | eq =>
        simp only at hrun
        cases tg with
        | nil => cases hrun
        | cons t ts =>
          have ht : (pc : Int) + off = (t : Int) := tgAll_1 htg
          simp only at hrun
          split at hrun
          · rename_i hq
            refine lv_if_eq hx hb hd ht (fun _ => ?_) (fun z => absurd hq z)
            exact ih _ _ _ _ _ _ hrun ad H locs ls hH hcl hsl hL hokL hokS.tl
          · rename_i hq
            refine lv_if_eq hx hb hd ht (fun z => absurd z hq) (fun _ => ?_)
            exact ih _ _ _ _ _ _ hrun ad H locs ls hH hcl hsl hL hokL hokS.tl
      | ne =>
        simp only at hrun
        cases tg with
        | nil => cases hrun
        | cons t ts =>
          have ht : (pc : Int) + off = (t : Int) := tgAll_1 htg
          simp only at hrun
          split at hrun
          · rename_i hq
            refine lv_if_ne hx hb hd ht (fun z => absurd hq z) (fun _ => ?_)
            exact ih _ _ _ _ _ _ hrun ad H locs ls hH hcl hsl hL hokL hokS.tl
          · rename_i hq
            refine lv_if_ne hx hb hd ht (fun _ => ?_) (fun z => absurd z hq)
            exact ih _ _ _ _ _ _ hrun ad H locs ls hH hcl hsl hL hokL hokS.tl
      | lt =>
        simp only at hrun
        cases tg with
        | nil => cases hrun
        | cons t ts =>
          have ht : (pc : Int) + off = (t : Int) := tgAll_1 htg
          simp only at hrun
          split at hrun
          · rename_i hq
            refine lv_if_lt hx hb hd ht (fun _ => ?_) (fun z => absurd hq z)
            exact ih _ _ _ _ _ _ hrun ad H locs ls hH hcl hsl hL hokL hokS.tl
          · rename_i hq
            refine lv_if_lt hx hb hd ht (fun z => absurd z hq) (fun _ => ?_)
            exact ih _ _ _ _ _ _ hrun ad H locs ls hH hcl hsl hL hokL hokS.tl
      | ge =>
        simp only at hrun
        cases tg with
        | nil => cases hrun
        | cons t ts =>
          have ht : (pc : Int) + off = (t : Int) := tgAll_1 htg
          simp only at hrun
          split at hrun
          · rename_i hq
            refine lv_if_ge hx hb hd ht (fun _ => ?_) (fun z => absurd hq z)
            exact ih _ _ _ _ _ _ hrun ad H locs ls hH hcl hsl hL hokL hokS.tl
          · rename_i hq
            refine lv_if_ge hx hb hd ht (fun z => absurd z hq) (fun _ => ?_)
            exact ih _ _ _ _ _ _ hrun ad H locs ls hH hcl hsl hL hokL hokS.tl
      | gt =>
        simp only at hrun
        cases tg with
        | nil => cases hrun
        | cons t ts =>
          have ht : (pc : Int) + off = (t : Int) := tgAll_1 htg
          simp only at hrun
          split at hrun
          · rename_i hq
            refine lv_if_gt hx hb hd ht (fun _ => ?_) (fun z => absurd hq z)
            exact ih _ _ _ _ _ _ hrun ad H locs ls hH hcl hsl hL hokL hokS.tl
          · rename_i hq
            refine lv_if_gt hx hb hd ht (fun z => absurd z hq) (fun _ => ?_)
            exact ih _ _ _ _ _ _ hrun ad H locs ls hH hcl hsl hL hokL hokS.tl
      | le =>
        simp only at hrun
        cases tg with
        | nil => cases hrun
        | cons t ts =>
          have ht : (pc : Int) + off = (t : Int) := tgAll_1 htg
          simp only at hrun
          split at hrun
          · rename_i hq
            refine lv_if_le hx hb hd ht (fun _ => ?_) (fun z => absurd hq z)
            exact ih _ _ _ _ _ _ hrun ad H locs ls hH hcl hsl hL hokL hokS.tl
          · rename_i hq
            refine lv_if_le hx hb hd ht (fun z => absurd z hq) (fun _ => ?_)
            exact ih _ _ _ _ _ _ hrun ad H locs ls hH hcl hsl hL hokL hokS.tl
    · cases hrun
  | if_icmp q off =>
    obtain rfl : k = 3 := by simpa [lenOk] using hlen
    subst hnx
    simp only [stpI, stK_eq, setK_eq, hIK_eq, hJK_eq, hRK_eq, alcK_eq] at hrun
    split at hrun
    · cases q with
      | eq =>
        simp only at hrun
        cases tg with
        | nil => cases hrun
        | cons t ts =>
          have ht : (pc : Int) + off = (t : Int) := tgAll_1 htg
          simp only at hrun
          split at hrun
          · rename_i hq
            refine lv_icmp_eq hx hb hd ht (fun _ => ?_) (fun z => absurd hq z)
            exact ih _ _ _ _ _ _ hrun ad H locs ls hH hcl hsl hL hokL hokS.tl.tl
          · rename_i hq
            refine lv_icmp_eq hx hb hd ht (fun z => absurd z hq) (fun _ => ?_)
            exact ih _ _ _ _ _ _ hrun ad H locs ls hH hcl hsl hL hokL hokS.tl.tl
      | ne =>
        simp only at hrun
        cases tg with
        | nil => cases hrun
        | cons t ts =>
          have ht : (pc : Int) + off = (t : Int) := tgAll_1 htg
          simp only at hrun
          split at hrun
          · rename_i hq
            refine lv_icmp_ne hx hb hd ht (fun z => absurd hq z) (fun _ => ?_)
            exact ih _ _ _ _ _ _ hrun ad H locs ls hH hcl hsl hL hokL hokS.tl.tl
          · rename_i hq
            refine lv_icmp_ne hx hb hd ht (fun _ => ?_) (fun z => absurd z hq)
            exact ih _ _ _ _ _ _ hrun ad H locs ls hH hcl hsl hL hokL hokS.tl.tl
      | lt =>
        simp only at hrun
        cases tg with
        | nil => cases hrun
        | cons t ts =>
          have ht : (pc : Int) + off = (t : Int) := tgAll_1 htg
          simp only at hrun
          split at hrun
          · rename_i hq
            refine lv_icmp_lt hx hb hd ht (fun _ => ?_) (fun z => absurd hq z)
            exact ih _ _ _ _ _ _ hrun ad H locs ls hH hcl hsl hL hokL hokS.tl.tl
          · rename_i hq
            refine lv_icmp_lt hx hb hd ht (fun z => absurd z hq) (fun _ => ?_)
            exact ih _ _ _ _ _ _ hrun ad H locs ls hH hcl hsl hL hokL hokS.tl.tl
      | ge =>
        simp only at hrun
        cases tg with
        | nil => cases hrun
        | cons t ts =>
          have ht : (pc : Int) + off = (t : Int) := tgAll_1 htg
          simp only at hrun
          split at hrun
          · rename_i hq
            refine lv_icmp_ge hx hb hd ht (fun _ => ?_) (fun z => absurd hq z)
            exact ih _ _ _ _ _ _ hrun ad H locs ls hH hcl hsl hL hokL hokS.tl.tl
          · rename_i hq
            refine lv_icmp_ge hx hb hd ht (fun z => absurd z hq) (fun _ => ?_)
            exact ih _ _ _ _ _ _ hrun ad H locs ls hH hcl hsl hL hokL hokS.tl.tl
      | gt =>
        simp only at hrun
        cases tg with
        | nil => cases hrun
        | cons t ts =>
          have ht : (pc : Int) + off = (t : Int) := tgAll_1 htg
          simp only at hrun
          split at hrun
          · rename_i hq
            refine lv_icmp_gt hx hb hd ht (fun _ => ?_) (fun z => absurd hq z)
            exact ih _ _ _ _ _ _ hrun ad H locs ls hH hcl hsl hL hokL hokS.tl.tl
          · rename_i hq
            refine lv_icmp_gt hx hb hd ht (fun z => absurd z hq) (fun _ => ?_)
            exact ih _ _ _ _ _ _ hrun ad H locs ls hH hcl hsl hL hokL hokS.tl.tl
      | le =>
        simp only at hrun
        cases tg with
        | nil => cases hrun
        | cons t ts =>
          have ht : (pc : Int) + off = (t : Int) := tgAll_1 htg
          simp only at hrun
          split at hrun
          · rename_i hq
            refine lv_icmp_le hx hb hd ht (fun _ => ?_) (fun z => absurd hq z)
            exact ih _ _ _ _ _ _ hrun ad H locs ls hH hcl hsl hL hokL hokS.tl.tl
          · rename_i hq
            refine lv_icmp_le hx hb hd ht (fun z => absurd z hq) (fun _ => ?_)
            exact ih _ _ _ _ _ _ hrun ad H locs ls hH hcl hsl hL hokL hokS.tl.tl
    · cases hrun
  | tableswitch d lo hi0 offs =>
    subst hnx
    simp only [stpI, stK_eq, setK_eq, hIK_eq, hJK_eq, hRK_eq, alcK_eq] at hrun
    split at hrun
    · rename_i x r'
      split at hrun
      · rename_i d' ts
        have htg' : tgAll pc (d :: offs.toList) (d' :: ts) = true ∧ -2147483648 ≤ lo ∧ lo + offs.size ≤ 2147483648 ∧ hi0 + 1 = lo + offs.size := by
          unfold tgOk at htg
          simp only [Bool.and_eq_true, decide_eq_true_eq] at htg
          exact ⟨htg.1.1.1, htg.1.1.2, htg.1.2, htg.2⟩
        obtain ⟨hta, hg1, hg2, hg3⟩ := htg'
        have htl : ts.length = offs.size := by
          have := tgAll_len hta
          simpa using this
        rcases swk_some _ _ hrun with ⟨i, t, h1, h2, h3⟩ | ⟨h1, h3⟩
        · have hil : i < offs.size := by
            have := (List.getElem?_eq_some_iff.mp h1).1
            omega
          obtain ⟨o, ho1, ho2⟩ := tgAll_get (k := i + 1) hta (by simpa using h1)
          have hxi : x.toInt = lo + i := by rw [h2]; exact Int32.toInt_ofInt_of_le (by omega) (by omega)
          refine lv_tableIn hx hb hd (by omega) (by omega) (off := o) ?_ ho2 ?_
          · rw [hxi, show (lo + (i : Int) - lo).toNat = i by omega, ← Array.getElem?_toList]; simpa using ho1
          · exact ih _ _ _ _ _ _ h3 ad H locs ls hH hcl hsl hL hokL hokS.tl
        · obtain ⟨o, ho1, ho2⟩ := tgAll_get (k := 0) (t := d') hta rfl
          have ho1' : d = o := by simpa using ho1
          subst ho1'
          refine lv_tableOut hx hb hd ?_ ho2 ?_
          · rcases Int.lt_or_le x.toInt lo with z | z
            · exact Or.inl z
            · right
              rcases Int.lt_or_le hi0 x.toInt with z2 | z2
              · exact z2
              · exfalso
                refine h1 (x.toInt - lo).toNat (by omega) ?_
                rw [show lo + ((x.toInt - lo).toNat : Int) = x.toInt by omega]
                exact (Int32.ofInt_toInt x).symm
          · exact ih _ _ _ _ _ _ h3 ad H locs ls hH hcl hsl hL hokL hokS.tl
      · cases hrun
    · cases hrun
  | getfield x =>
    obtain rfl : k = 3 := by simpa [lenOk] using hlen
    subst hnx
    simp only [stpI, stK_eq, setK_eq, hIK_eq, hJK_eq, hRK_eq, alcK_eq] at hrun
    split at hrun
    · rename_i q r'
      cases hf0 : lkp x M.2.1 with
      | none => rw [hf0] at hrun; cases hrun
      | some cj =>
      obtain ⟨ci, j⟩ := cj
      rw [hf0] at hrun
      simp only at hrun
      obtain ⟨hci, hfo⟩ := hM.2.1 x ci j hf0
      split at hrun
      · rename_i hg
        split at hrun
        · rename_i hty
          have hv : ((List.range (nfd ci)).map (fvv ad h q ci))[j]? = some (.int (h.2.2.1 q j)) := by simp [hg.2.2, fvv, hty]
          rcases hfo with hf | ⟨host, hf⟩
          · refine va_get (C := clN ci) (T := clT ci) (N := nfd ci) hx hb hC.1 (hC.2.1 ci hci).1 hown hK.1 hP q (by rw [wof_get hg.2.1, cel_obj hg.1]) (clsL hci) j hg.2.2 hf (fun _ z => z) hv hd ?_
            exact ih _ _ _ _ _ _ hrun ad H locs ls hH hcl hsl hL hokL (hokS.tl.cons trivial)
          · refine va_getN (C := clN ci) (T := clT ci) (N := nfd ci) hx hb hC.1 (hC.2.1 ci hci).1 hown hK.1 hP q (by rw [wof_get hg.2.1, cel_obj hg.1]) (clsL hci) j hg.2.2 hf (fun _ z => z) hv hd ?_
            exact ih _ _ _ _ _ _ hrun ad H locs ls hH hcl hsl hL hokL (hokS.tl.cons trivial)
        · rename_i hty
          have hv : ((List.range (nfd ci)).map (fvv ad h q ci))[j]? = some (.int (h.2.2.1 q j)) := by simp [hg.2.2, fvv, hty]
          rcases hfo with hf | ⟨host, hf⟩
          · refine va_get (C := clN ci) (T := clT ci) (N := nfd ci) hx hb hC.1 (hC.2.1 ci hci).1 hown hK.1 hP q (by rw [wof_get hg.2.1, cel_obj hg.1]) (clsL hci) j hg.2.2 hf (fun _ z => z) hv hd ?_
            exact ih _ _ _ _ _ _ hrun ad H locs ls hH hcl hsl hL hokL (hokS.tl.cons trivial)
          · refine va_getN (C := clN ci) (T := clT ci) (N := nfd ci) hx hb hC.1 (hC.2.1 ci hci).1 hown hK.1 hP q (by rw [wof_get hg.2.1, cel_obj hg.1]) (clsL hci) j hg.2.2 hf (fun _ z => z) hv hd ?_
            exact ih _ _ _ _ _ _ hrun ad H locs ls hH hcl hsl hL hokL (hokS.tl.cons trivial)
        · rename_i hty
          have hv : ((List.range (nfd ci)).map (fvv ad h q ci))[j]? = some (.long (h.2.2.2.1 q j)) := by simp [hg.2.2, fvv, hty]
          rcases hfo with hf | ⟨host, hf⟩
          · refine va_get (C := clN ci) (T := clT ci) (N := nfd ci) hx hb hC.1 (hC.2.1 ci hci).1 hown hK.1 hP q (by rw [wof_get hg.2.1, cel_obj hg.1]) (clsL hci) j hg.2.2 hf (fun _ z => z) hv hd ?_
            exact ih _ _ _ _ _ _ hrun ad H locs ls hH hcl hsl hL hokL (hokS.tl.cons trivial)
          · refine va_getN (C := clN ci) (T := clT ci) (N := nfd ci) hx hb hC.1 (hC.2.1 ci hci).1 hown hK.1 hP q (by rw [wof_get hg.2.1, cel_obj hg.1]) (clsL hci) j hg.2.2 hf (fun _ z => z) hv hd ?_
            exact ih _ _ _ _ _ _ hrun ad H locs ls hH hcl hsl hL hokL (hokS.tl.cons trivial)
        · rename_i hn0 hn1 hn2
          split at hrun
          · rename_i hlt
            have hne : h.2.2.2.2 q j ≠ mNul := by omega
            have hv : ((List.range (nfd ci)).map (fvv ad h q ci))[j]? = some (.ref (ad (h.2.2.2.2 q j))) := by
              have e9 : fvv ad h q ci j = .ref (ad (h.2.2.2.2 q j)) := by
                unfold fvv
                split <;> first | contradiction | (rename_i z; first | exact absurd z hn0 | exact absurd z hn1 | exact absurd z hn2) | (unfold rvv; rw [if_neg hne])
              simp [hg.2.2, e9]
            rcases hfo with hf | ⟨host, hf⟩
            · refine va_get (C := clN ci) (T := clT ci) (N := nfd ci) hx hb hC.1 (hC.2.1 ci hci).1 hown hK.1 hP q (by rw [wof_get hg.2.1, cel_obj hg.1]) (clsL hci) j hg.2.2 hf (fun _ z => z) hv hd ?_
              exact ih _ _ _ _ _ _ hrun ad H locs ls hH hcl hsl hL hokL (hokS.tl.cons hlt)
            · refine va_getN (C := clN ci) (T := clT ci) (N := nfd ci) hx hb hC.1 (hC.2.1 ci hci).1 hown hK.1 hP q (by rw [wof_get hg.2.1, cel_obj hg.1]) (clsL hci) j hg.2.2 hf (fun _ z => z) hv hd ?_
              exact ih _ _ _ _ _ _ hrun ad H locs ls hH hcl hsl hL hokL (hokS.tl.cons hlt)
          · cases hrun
      · cases hrun
    · cases hrun
  | putfield x =>
    obtain rfl : k = 3 := by simpa [lenOk] using hlen
    subst hnx
    simp only [stpI, stK_eq, setK_eq, hIK_eq, hJK_eq, hRK_eq, alcK_eq] at hrun
    split at hrun
    · rename_i v q r'
      cases hf0 : lkp x M.2.1 with
      | none => rw [hf0] at hrun; cases hrun
      | some cj =>
      obtain ⟨ci, j⟩ := cj
      rw [hf0] at hrun
      simp only at hrun
      have hci := (hM.2.1 x ci j hf0).1
      have hpf := hM.2.2.1 pc x _ ci j hi hf0
      split at hrun
      · rename_i hg
        have key : ftyc (ftyT ci j) = 0 ∨ ftyc (ftyT ci j) = 1 → narrow (ftyT ci j) (.int v) = .int v → fits (ftyT ci j) (.int v) = true → runN M n (pc + 3, cl, sl, vs, r', hI h q j v) = some (r, hF) → W p l e R s m args below meth c H locs cl sl (MQ below (Qm D aC A ad0 N0 r hF) args s M.2.2.2.2.2.1.1 M.2.2.2.2.2.1.2 A) (F0 m pc ls (List.map (mv ad) (.int v :: .ref q :: r'))) := by
          intro hty hn hfit hrun
          refine snd_put (h' := hI h q j v) hx hb hown hC hK hP hD hS hci hg hpf hd hn hfit ?_ (fun H1 locs1 hP1 hD1 hS1 => ?_)
          · refine wof_set rfl ?_ (fun q' hq' => cel_hI hq')
            rw [cel_obj (h := hI h q j v) hg.1]
            congr 2
            refine (map_set_range ?_ (fun i hne => ?_)).symm
            · unfold fvv
              rcases hty with z | z <;> rw [z] <;> (show Value.int (up2 h.2.2.1 q j v q j) = _; rw [up2_eq, up1_eq]; rfl)
            · refine fvv_ne (j := j) ?_ rfl rfl
              show up2 h.2.2.1 q j v q i = _
              rw [up2_eq, up1_ne hne]
          · exact ih _ _ _ _ _ _ hrun ad H1 locs1 ls ⟨hP1, hD1, hS1, hmx, hN0, had, hok⟩ hcl hsl hL hokL hokS.tl.tl
        split at hrun
        · rename_i hty
          have hint : ftyT ci j = .int := by
            revert hty; unfold ftyc; split <;> first | (intro _; assumption) | (intro z; cases z)
          exact key (Or.inl hty) (by rw [hint]; rfl) (by rw [hint]; rfl) hrun
        · rename_i hty
          have hbo : ftyT ci j = .boolean := by
            revert hty; unfold ftyc; split <;> first | (intro _; assumption) | (intro z; cases z)
          cases hq : isB v with
          | false => rw [hq] at hrun; cases hrun
          | true =>
            rw [hq] at hrun
            exact key (Or.inr hty) (by rw [hbo]; exact (isB_nar hq).1) (by rw [hbo]; exact (isB_nar hq).2.1) hrun
        · cases hrun
      · cases hrun
    · rename_i v q r'
      cases hf0 : lkp x M.2.1 with
      | none => rw [hf0] at hrun; cases hrun
      | some cj =>
      obtain ⟨ci, j⟩ := cj
      rw [hf0] at hrun
      simp only at hrun
      have hci := (hM.2.1 x ci j hf0).1
      have hpf := hM.2.2.1 pc x _ ci j hi hf0
      split at hrun
      · rename_i hg
        split at hrun
        · rename_i hty
          have hlo : ftyT ci j = .long := by
            revert hty; unfold ftyc; split <;> first | (intro _; assumption) | (intro z; cases z)
          refine snd_put (h' := hJ h q j v) hx hb hown hC hK hP hD hS hci hg hpf hd (by rw [hlo]; rfl) (by rw [hlo]; rfl) ?_ (fun H1 locs1 hP1 hD1 hS1 => ?_)
          · refine wof_set rfl ?_ (fun q' hq' => cel_hJ hq')
            rw [cel_obj (h := hJ h q j v) hg.1]
            congr 2
            refine (map_set_range ?_ (fun i hne => ?_)).symm
            · unfold fvv
              rw [hty]
              show Value.long (up2 h.2.2.2.1 q j v q j) = _
              rw [up2_eq, up1_eq]
              rfl
            · refine fvv_ne (j := j) rfl ?_ rfl
              show up2 h.2.2.2.1 q j v q i = _
              rw [up2_eq, up1_ne hne]
          · exact ih _ _ _ _ _ _ hrun ad H1 locs1 ls ⟨hP1, hD1, hS1, hmx, hN0, had, hok⟩ hcl hsl hL hokL hokS.tl.tl
        · cases hrun
      · cases hrun
    · rename_i v q r'
      cases hf0 : lkp x M.2.1 with
      | none => rw [hf0] at hrun; cases hrun
      | some cj =>
      obtain ⟨ci, j⟩ := cj
      rw [hf0] at hrun
      simp only at hrun
      have hci := (hM.2.1 x ci j hf0).1
      have hpf := hM.2.2.1 pc x _ ci j hi hf0
      split at hrun
      · rename_i hg
        have hvm : v ≠ mNul := Nat.ne_of_lt (Nat.lt_of_lt_of_le hg.2.2.2 hmx)
        split at hrun
        · rename_i hty
          have hre : narrow (ftyT ci j) (.ref (ad v)) = .ref (ad v) ∧ fits (ftyT ci j) (.ref (ad v)) = true := by
            revert hty
            exact fty_ref hci hg.2.2.1
          refine snd_put (h' := hR h q j v) hx hb hown hC hK hP hD hS hci ⟨hg.1, hg.2.1, hg.2.2.1⟩ hpf hd hre.1 hre.2 ?_ (fun H1 locs1 hP1 hD1 hS1 => ?_)
          · refine wof_set rfl ?_ (fun q' hq' => cel_hR hq')
            rw [cel_obj (h := hR h q j v) hg.1]
            congr 2
            refine (map_set_range ?_ (fun i hne => ?_)).symm
            · unfold fvv
              rw [hty]
              show rvv ad (up2 h.2.2.2.2 q j v q j) = _
              rw [up2_eq, up1_eq]
              unfold rvv
              rw [if_neg hvm]
              rfl
            · refine fvv_ne (j := j) rfl rfl ?_
              show up2 h.2.2.2.2 q j v q i = _
              rw [up2_eq, up1_ne hne]
          · exact ih _ _ _ _ _ _ hrun ad H1 locs1 ls ⟨hP1, hD1, hS1, hmx, hN0, had, hok.hR hg.2.2.2⟩ hcl hsl hL hokL hokS.tl.tl
        · cases hrun
      · cases hrun
    · cases hrun
  | iaload =>
    obtain rfl : k = 1 := by simpa [lenOk] using hlen
    subst hnx
    simp only [stpI, stK_eq, setK_eq, hIK_eq, hJK_eq, hRK_eq, alcK_eq] at hrun
    split at hrun
    · rename_i i q r'
      split at hrun
      · rename_i hg
        cases hq : inb i (h.2.1 q).2 with
        | false => rw [hq] at hrun; cases hrun
        | true =>
          rw [hq] at hrun
          refine va_iald hx hb hK.1 hP q 0 (by rw [wof_get hg.2, cel_0 hg.1]) rfl (inb_in hq) hd ?_
          exact ih _ _ _ _ _ _ hrun ad H locs ls hH hcl hsl hL hokL (hokS.tl.tl.cons trivial)
      · cases hrun
    · cases hrun
  | baload =>
    obtain rfl : k = 1 := by simpa [lenOk] using hlen
    subst hnx
    simp only [stpI, stK_eq, setK_eq, hIK_eq, hJK_eq, hRK_eq, alcK_eq] at hrun
    split at hrun
    · rename_i i q r'
      split at hrun
      · rename_i hg
        cases hq : inb i (h.2.1 q).2 with
        | false => rw [hq] at hrun; cases hrun
        | true =>
          rw [hq] at hrun
          refine va_zald hx hb hK.1 hP q 1 (by rw [wof_get hg.2, cel_1 hg.1]) rfl (inb_in hq) hd ?_
          exact ih _ _ _ _ _ _ hrun ad H locs ls hH hcl hsl hL hokL (hokS.tl.tl.cons trivial)
      · cases hrun
    · cases hrun
  | laload =>
    obtain rfl : k = 1 := by simpa [lenOk] using hlen
    subst hnx
    simp only [stpI, stK_eq, setK_eq, hIK_eq, hJK_eq, hRK_eq, alcK_eq] at hrun
    split at hrun
    · rename_i i q r'
      split at hrun
      · rename_i hg
        cases hq : inb i (h.2.1 q).2 with
        | false => rw [hq] at hrun; cases hrun
        | true =>
          rw [hq] at hrun
          refine va_lald hx hb hK.1 hP q 2 (by rw [wof_get hg.2, cel_2 hg.1]) rfl (inb_in hq) hd ?_
          exact ih _ _ _ _ _ _ hrun ad H locs ls hH hcl hsl hL hokL (hokS.tl.tl.cons trivial)
      · cases hrun
    · cases hrun
  | aaload =>
    obtain rfl : k = 1 := by simpa [lenOk] using hlen
    subst hnx
    simp only [stpI, stK_eq, setK_eq, hIK_eq, hJK_eq, hRK_eq, alcK_eq] at hrun
    split at hrun
    · rename_i i q r'
      split at hrun
      · rename_i hg
        cases hq : inb i (h.2.1 q).2 with
        | false => rw [hq] at hrun; cases hrun
        | true =>
          rw [hq] at hrun
          simp only [cond_true] at hrun
          split at hrun
          · rename_i hlt
            have hne : h.2.2.2.2 q i.toNatClampNeg ≠ mNul := by omega
            have hv : va_rf (rvo ad (h.2.2.2.2 q i.toNatClampNeg)) = .ref (ad (h.2.2.2.2 q i.toNatClampNeg)) := by unfold rvo; rw [if_neg hne]; rfl
            rcases hg.1 with hk | hk
            · refine va_aldq (C := RX2) hx hb hK.1 hP q 3 (by rw [wof_get hg.2, cel_3 hk]) rfl (inb_in hq) hd ?_
              rw [hv]
              exact ih _ _ _ _ _ _ hrun ad H locs ls hH hcl hsl hL hokL (hokS.tl.tl.cons hlt)
            · refine va_aldq (C := RX9) hx hb hK.1 hP q 4 (by rw [wof_get hg.2, cel_4 hk]) rfl (inb_in hq) hd ?_
              rw [hv]
              exact ih _ _ _ _ _ _ hrun ad H locs ls hH hcl hsl hL hokL (hokS.tl.tl.cons hlt)
          · cases hrun
      · cases hrun
    · cases hrun
  | iastore =>
    obtain rfl : k = 1 := by simpa [lenOk] using hlen
    subst hnx
    simp only [stpI, stK_eq, setK_eq, hIK_eq, hJK_eq, hRK_eq, alcK_eq] at hrun
    split at hrun
    · rename_i v i q r'
      split at hrun
      · rename_i hg
        cases hq : inb i (h.2.1 q).2 with
        | false => rw [hq] at hrun; cases hrun
        | true =>
          rw [hq] at hrun
          skip
          have hset : (wof aC ad h).set q (ad q, .inl (aC 0, (h.2.1 q).2, .inl (upd (h.2.2.1 q) i.toNatClampNeg v))) = wof aC ad (hI h q i.toNatClampNeg v) := by
            refine wof_set rfl ?_ (fun q' hq' => cel_hI hq')
            rw [cel_0 (h := hI h q i.toNatClampNeg v) hg.1]
            show Sum.inl (aC 0, (h.2.1 q).2, Sum.inl (up2 h.2.2.1 q i.toNatClampNeg v q)) = _; rw [up2_eq]; rfl
          refine va_iast hx hb hK.1 hP hD hS q 0 (by rw [wof_get hg.2, cel_0 hg.1]) rfl (inb_in hq) hd (fun H1 locs1 hP1 hD1 hS1 => ?_)
          skip
          rw [hset] at hP1 hD1
          exact ih _ _ _ _ _ _ hrun ad H1 locs1 ls ⟨hP1, hD1, hS1, hmx, hN0, had, hok⟩ hcl hsl hL hokL hokS.tl.tl.tl
      · cases hrun
    · cases hrun
  | bastore =>
    obtain rfl : k = 1 := by simpa [lenOk] using hlen
    subst hnx
    simp only [stpI, stK_eq, setK_eq, hIK_eq, hJK_eq, hRK_eq, alcK_eq] at hrun
    split at hrun
    · rename_i v i q r'
      split at hrun
      · rename_i hg
        cases hq : (inb i (h.2.1 q).2 && isB v) with
        | false => rw [hq] at hrun; cases hrun
        | true =>
          rw [hq] at hrun
          simp only [Bool.and_eq_true] at hq
          have hset : (wof aC ad h).set q (ad q, .inl (aC 1, (h.2.1 q).2, .inl (upd (h.2.2.1 q) i.toNatClampNeg v))) = wof aC ad (hI h q i.toNatClampNeg v) := by
            refine wof_set rfl ?_ (fun q' hq' => cel_hI hq')
            rw [cel_1 (h := hI h q i.toNatClampNeg v) hg.1]
            show Sum.inl (aC 1, (h.2.1 q).2, Sum.inl (up2 h.2.2.1 q i.toNatClampNeg v q)) = _; rw [up2_eq]; rfl
          refine va_zast hx hb hK.1 hP hD hS q 1 (by rw [wof_get hg.2, cel_1 hg.1]) rfl (inb_in hq.1) hd (fun H1 locs1 hP1 hD1 hS1 => ?_)
          rw [(isB_nar hq.2).2.2] at hP1 hD1
          rw [hset] at hP1 hD1
          exact ih _ _ _ _ _ _ hrun ad H1 locs1 ls ⟨hP1, hD1, hS1, hmx, hN0, had, hok⟩ hcl hsl hL hokL hokS.tl.tl.tl
      · cases hrun
    · cases hrun
  | lastore =>
    obtain rfl : k = 1 := by simpa [lenOk] using hlen
    subst hnx
    simp only [stpI, stK_eq, setK_eq, hIK_eq, hJK_eq, hRK_eq, alcK_eq] at hrun
    split at hrun
    · rename_i v i q r'
      split at hrun
      · rename_i hg
        cases hq : inb i (h.2.1 q).2 with
        | false => rw [hq] at hrun; cases hrun
        | true =>
          rw [hq] at hrun
          skip
          have hset : (wof aC ad h).set q (ad q, .inl (aC 2, (h.2.1 q).2, .inr (.inl (vp_updL (h.2.2.2.1 q) i.toNatClampNeg v)))) = wof aC ad (hJ h q i.toNatClampNeg v) := by
            refine wof_set rfl ?_ (fun q' hq' => cel_hJ hq')
            rw [cel_2 (h := hJ h q i.toNatClampNeg v) hg.1]
            show Sum.inl (aC 2, (h.2.1 q).2, Sum.inr (Sum.inl (up2 h.2.2.2.1 q i.toNatClampNeg v q))) = _; rw [up2_eq]; rfl
          refine va_last hx hb hK.1 hP hD hS q 2 (by rw [wof_get hg.2, cel_2 hg.1]) rfl (inb_in hq) hd (fun H1 locs1 hP1 hD1 hS1 => ?_)
          skip
          rw [hset] at hP1 hD1
          exact ih _ _ _ _ _ _ hrun ad H1 locs1 ls ⟨hP1, hD1, hS1, hmx, hN0, had, hok⟩ hcl hsl hL hokL hokS.tl.tl.tl
      · cases hrun
    · cases hrun
  | aastore =>
    obtain rfl : k = 1 := by simpa [lenOk] using hlen
    subst hnx
    simp only [stpI, stK_eq, setK_eq, hIK_eq, hJK_eq, hRK_eq, alcK_eq] at hrun
    split at hrun
    · rename_i v i q r'
      split at hrun
      · rename_i hg
        have hvm : v ≠ mNul := Nat.ne_of_lt (Nat.lt_of_lt_of_le hg.2.2 hmx)
        cases hq : inb i (h.2.1 q).2 with
        | false => rw [hq] at hrun; cases hrun
        | true =>
        rw [hq] at hrun
        rcases hg.1 with ⟨hk, hk2⟩ | ⟨hk, hk2⟩
        ·
          have hset : (wof aC ad h).set q (ad q, .inl (aC 3, (h.2.1 q).2, .inr (.inr (.inr (.inr (va_up (fun i => rvo ad (h.2.2.2.2 q i)) i.toNatClampNeg (some (ad v)))))))) = wof aC ad (hR h q i.toNatClampNeg v) := by
            refine wof_set rfl ?_ (fun q' hq' => cel_hR hq')
            rw [cel_3 (h := hR h q i.toNatClampNeg v) hk]
            congr 7
            funext i'
            show rvo ad (up2 h.2.2.2.2 q i.toNatClampNeg v q i') = va_up _ _ _ _
            rw [up2_eq]
            unfold va_up
            by_cases hz : i' = i.toNatClampNeg
            · rw [if_pos hz, hz, up1_eq]; unfold rvo; rw [if_neg hvm]
            · rw [if_neg hz, up1_ne hz]
          refine va_astq (r := (clN 2, clT 2, nfd 2)) hx hb hK.1 hP hD hS q 3 v 2 (by rw [wof_get hg.2.1, cel_3 hk]) rfl (by rw [wof_get hg.2.2, cel_obj (ci := 2) hk2]) (clsL (by decide)) (inb_in hq) hd (fun H1 locs1 hP1 hD1 hS1 => ?_)
          rw [hset] at hP1 hD1
          exact ih _ _ _ _ _ _ hrun ad H1 locs1 ls ⟨hP1, hD1, hS1, hmx, hN0, had, hok.hR hg.2.2⟩ hcl hsl hL hokL hokS.tl.tl.tl
        ·
          have hset : (wof aC ad h).set q (ad q, .inl (aC 4, (h.2.1 q).2, .inr (.inr (.inr (.inr (va_up (fun i => rvo ad (h.2.2.2.2 q i)) i.toNatClampNeg (some (ad v)))))))) = wof aC ad (hR h q i.toNatClampNeg v) := by
            refine wof_set rfl ?_ (fun q' hq' => cel_hR hq')
            rw [cel_4 (h := hR h q i.toNatClampNeg v) hk]
            congr 7
            funext i'
            show rvo ad (up2 h.2.2.2.2 q i.toNatClampNeg v q i') = va_up _ _ _ _
            rw [up2_eq]
            unfold va_up
            by_cases hz : i' = i.toNatClampNeg
            · rw [if_pos hz, hz, up1_eq]; unfold rvo; rw [if_neg hvm]
            · rw [if_neg hz, up1_ne hz]
          refine va_astq (r := (clN 9, clT 9, nfd 9)) hx hb hK.1 hP hD hS q 4 v 9 (by rw [wof_get hg.2.1, cel_4 hk]) rfl (by rw [wof_get hg.2.2, cel_obj (ci := 9) hk2]) (clsL (by decide)) (inb_in hq) hd (fun H1 locs1 hP1 hD1 hS1 => ?_)
          rw [hset] at hP1 hD1
          exact ih _ _ _ _ _ _ hrun ad H1 locs1 ls ⟨hP1, hD1, hS1, hmx, hN0, had, hok.hR hg.2.2⟩ hcl hsl hL hokL hokS.tl.tl.tl
      · cases hrun
    · cases hrun
  | arraylength =>
    obtain rfl : k = 1 := by simpa [lenOk] using hlen
    subst hnx
    simp only [stpI, stK_eq, setK_eq, hIK_eq, hJK_eq, hRK_eq, alcK_eq] at hrun
    split at hrun
    · rename_i q r'
      split at hrun
      · rename_i hg
        have hlt : ∀ (k : Nat) (E : vp_A) (ty : FieldType), (wof aC ad h)[q]? = some (ad q, .inl (aC k, E)) → E.1 = (h.2.1 q).2 → (tyL aC)[k]? = some (aC k, ty) → W p l e R s m args below meth c H locs cl sl (MQ below (Qm D aC A ad0 N0 r hF) args s M.2.2.2.2.2.1.1 M.2.2.2.2.2.1.2 A) (F0 m pc ls (List.map (mv ad) (.ref q :: r'))) := by
          intro k E ty h1 h2 h3
          refine va_alen hx hb hK.1 hP q k h1 h3 (by rw [h2]) hd ?_
          exact ih _ _ _ _ _ _ hrun ad H locs ls hH hcl hsl hL hokL (hokS.tl.cons trivial)
        obtain ⟨hg1, hg2⟩ := hg
        rcases (show (h.2.1 q).1 = 0 ∨ (h.2.1 q).1 = 1 ∨ (h.2.1 q).1 = 2 ∨ (h.2.1 q).1 = 3 ∨ (h.2.1 q).1 = 4 by omega) with z | z | z | z | z
        · exact hlt 0 _ .int (by rw [wof_get hg2, cel_0 z]) rfl rfl
        · exact hlt 1 _ .boolean (by rw [wof_get hg2, cel_1 z]) rfl rfl
        · exact hlt 2 _ .long (by rw [wof_get hg2, cel_2 z]) rfl rfl
        · exact hlt 3 _ (.object RX2) (by rw [wof_get hg2, cel_3 z]) rfl rfl
        · exact hlt 4 _ (.object RX9) (by rw [wof_get hg2, cel_4 z]) rfl rfl
      · cases hrun
    · cases hrun
  | new x =>
    obtain rfl : k = 3 := by simpa [lenOk] using hlen
    subst hnx
    simp only [stpI, stK_eq, setK_eq, hIK_eq, hJK_eq, hRK_eq, alcK_eq] at hrun
    cases hf0 : lkp x M.2.2.2.2.1 with
    | none => rw [hf0] at hrun; cases hrun
    | some ci =>
    rw [hf0] at hrun
    simp only at hrun
    obtain ⟨hci, hcl0⟩ := hM.2.2.2.2.2 x ci hf0
    split at hrun
    · rename_i hg
      obtain ⟨hin, hinst, hini⟩ := hC.2.1 ci hci
      refine va_new (C := clN ci) (T := clT ci) (N := nfd ci) (ci := ci) (fs := (List.range (nfd ci)).map (fun j => defaultValue (ftyT ci j))) hx hb hC.1 hin (ftyT ci) (clsT hci) hown hcl0 hinst hini hK.1 hP hD hS hA (clsL hci) (fun j hj => by simp [vp_V, hj]) (by rw [hRc]; exact hg.1) (by rw [hRs]; exact hg.2.1) hd (fun q H1 hP1 hD1 hS1 => ?_)
      have hset := wof_alc (aC := aC) (ad := ad) (kd := 10 + ci) (n := 0) (q := q) (E := .inr (ci, (List.range (nfd ci)).map (fun j => defaultValue (ftyT ci j)))) hok (by
        rw [cel_obj (ci := ci) (show ((alc h (10 + ci) 0).2.1 h.1).1 = 10 + ci from by show (up1 h.2.1 h.1 (10 + ci, 0) h.1).1 = _; rw [up1_eq])]
        congr 2
        apply List.map_congr_left
        intro j hj
        unfold fvv
        have e1 : (alc h (10 + ci) 0).2.2.1 h.1 j = 0 := by show up1 h.2.2.1 h.1 (fun _ => 0) h.1 j = 0; rw [up1_eq]
        have e2 : (alc h (10 + ci) 0).2.2.2.1 h.1 j = 0 := by show up1 h.2.2.2.1 h.1 (fun _ => 0) h.1 j = 0; rw [up1_eq]
        have e3 : (alc h (10 + ci) 0).2.2.2.2 h.1 j = mNul := by show up1 h.2.2.2.2 h.1 (fun _ => mNul) h.1 j = mNul; rw [up1_eq]
        rw [e1, e2, e3]
        exact fty_dflt hci (List.mem_range.mp hj))
      rw [hset] at hP1 hD1
      have hfr := ih _ _ _ _ _ _ hrun (up1 ad h.1 q) H1 locs ls ⟨hP1, hD1, hS1, hg.2.2, Nat.le_succ_of_le hN0, (fun p0 hp0 => by rw [up1_ne (by omega)]; exact had p0 hp0), hok.alc⟩ hg.1 hg.2.1 (hL.congr (fun p0 hp0 => up1_ne (by omega)) hokL) (hokL.up (Nat.le_succ _)) ((hokS.up (Nat.le_succ _)).cons (Nat.lt_succ_self _))
      rw [List.map_cons, mvs_congr (fun p0 (hp0 : p0 < h.1) => up1_ne (by omega)) hokS] at hfr
      have e9 : mv (up1 ad h.1 q) (.ref h.1) = .ref q := by show Value.ref (up1 ad h.1 q h.1) = _; rw [up1_eq]
      rw [e9] at hfr
      exact hfr
    · cases hrun
  | newarray ty =>
    obtain rfl : k = 2 := by simpa [lenOk] using hlen
    subst hnx
    simp only [stpI, stK_eq, setK_eq, hIK_eq, hJK_eq, hRK_eq, alcK_eq] at hrun
    split at hrun
    · rename_i n0 r'
      split at hrun
      · rename_i hg
        split at hrun
        · refine va_newa (atype := .int) (ty := .int) (a0 := (n0.toNatClampNeg, .inl (fun _ => 0))) hx hb hC.2.2.1 rfl hK.1 hP hD hS hA (fun cA => rfl) hg.1 rfl ?_ (by rw [hRc]; exact hg.2.2.1) (by rw [hRs]; exact hg.2.2.2.1) hd (fun q cA H1 hK1 hP1 hD1 hS1 => ?_)
          · have := hg.2.1
            show n0.toNatClampNeg * 4 ≤ 536870912
            omega
          have hcA : cA = aC 0 := arr_uniq (i := 5) (j := 0) hK1 hK.1 rfl rfl
          subst hcA
          have hset := wof_alc (aC := aC) (ad := ad) (kd := 0) (n := n0.toNatClampNeg) (q := q) (E := .inl (aC 0, n0.toNatClampNeg, .inl (fun _ => 0))) hok (by
            rw [cel_0 (show ((alc h 0 n0.toNatClampNeg).2.1 h.1).1 = 0 from by show (up1 h.2.1 h.1 (0, n0.toNatClampNeg) h.1).1 = _; rw [up1_eq])]
            have e0 : (alc h 0 n0.toNatClampNeg).2.1 h.1 = (0, n0.toNatClampNeg) := by show up1 h.2.1 h.1 (0, n0.toNatClampNeg) h.1 = _; rw [up1_eq]
            have e1 : (alc h 0 n0.toNatClampNeg).2.2.1 h.1 = (fun _ => 0) := by show up1 h.2.2.1 h.1 (fun _ => 0) h.1 = _; rw [up1_eq]
            have e2 : (alc h 0 n0.toNatClampNeg).2.2.2.1 h.1 = (fun _ => 0) := by show up1 h.2.2.2.1 h.1 (fun _ => 0) h.1 = _; rw [up1_eq]
            simp only [e0, e1, e2])
          rw [hset] at hP1 hD1
          have hfr := ih _ _ _ _ _ _ hrun (up1 ad h.1 q) H1 locs ls ⟨hP1, hD1, hS1, hg.2.2.2.2, Nat.le_succ_of_le hN0, (fun p0 hp0 => by rw [up1_ne (by omega)]; exact had p0 hp0), hok.alc⟩ hg.2.2.1 hg.2.2.2.1 (hL.congr (fun p0 hp0 => up1_ne (by omega)) hokL) (hokL.up (Nat.le_succ _)) ((hokS.tl.up (Nat.le_succ _)).cons (Nat.lt_succ_self _))
          rw [List.map_cons, mvs_congr (fun p0 (hp0 : p0 < h.1) => up1_ne (by omega)) hokS.tl] at hfr
          have e9 : mv (up1 ad h.1 q) (.ref h.1) = .ref q := by show Value.ref (up1 ad h.1 q h.1) = _; rw [up1_eq]
          rw [e9] at hfr
          exact hfr
        · refine va_newa (atype := .boolean) (ty := .boolean) (a0 := (n0.toNatClampNeg, .inl (fun _ => 0))) hx hb hC.2.2.2.1 rfl hK.1 hP hD hS hA (fun cA => rfl) hg.1 rfl ?_ (by rw [hRc]; exact hg.2.2.1) (by rw [hRs]; exact hg.2.2.2.1) hd (fun q cA H1 hK1 hP1 hD1 hS1 => ?_)
          · have := hg.2.1
            show n0.toNatClampNeg * 1 ≤ 536870912
            omega
          have hcA : cA = aC 1 := arr_uniq (i := 5) (j := 1) hK1 hK.1 rfl rfl
          subst hcA
          have hset := wof_alc (aC := aC) (ad := ad) (kd := 1) (n := n0.toNatClampNeg) (q := q) (E := .inl (aC 1, n0.toNatClampNeg, .inl (fun _ => 0))) hok (by
            rw [cel_1 (show ((alc h 1 n0.toNatClampNeg).2.1 h.1).1 = 1 from by show (up1 h.2.1 h.1 (1, n0.toNatClampNeg) h.1).1 = _; rw [up1_eq])]
            have e0 : (alc h 1 n0.toNatClampNeg).2.1 h.1 = (1, n0.toNatClampNeg) := by show up1 h.2.1 h.1 (1, n0.toNatClampNeg) h.1 = _; rw [up1_eq]
            have e1 : (alc h 1 n0.toNatClampNeg).2.2.1 h.1 = (fun _ => 0) := by show up1 h.2.2.1 h.1 (fun _ => 0) h.1 = _; rw [up1_eq]
            have e2 : (alc h 1 n0.toNatClampNeg).2.2.2.1 h.1 = (fun _ => 0) := by show up1 h.2.2.2.1 h.1 (fun _ => 0) h.1 = _; rw [up1_eq]
            simp only [e0, e1, e2])
          rw [hset] at hP1 hD1
          have hfr := ih _ _ _ _ _ _ hrun (up1 ad h.1 q) H1 locs ls ⟨hP1, hD1, hS1, hg.2.2.2.2, Nat.le_succ_of_le hN0, (fun p0 hp0 => by rw [up1_ne (by omega)]; exact had p0 hp0), hok.alc⟩ hg.2.2.1 hg.2.2.2.1 (hL.congr (fun p0 hp0 => up1_ne (by omega)) hokL) (hokL.up (Nat.le_succ _)) ((hokS.tl.up (Nat.le_succ _)).cons (Nat.lt_succ_self _))
          rw [List.map_cons, mvs_congr (fun p0 (hp0 : p0 < h.1) => up1_ne (by omega)) hokS.tl] at hfr
          have e9 : mv (up1 ad h.1 q) (.ref h.1) = .ref q := by show Value.ref (up1 ad h.1 q h.1) = _; rw [up1_eq]
          rw [e9] at hfr
          exact hfr
        · refine va_newa (atype := .long) (ty := .long) (a0 := (n0.toNatClampNeg, .inr (.inl (fun _ => 0)))) hx hb hC.2.2.2.2 rfl hK.1 hP hD hS hA (fun cA => rfl) hg.1 rfl ?_ (by rw [hRc]; exact hg.2.2.1) (by rw [hRs]; exact hg.2.2.2.1) hd (fun q cA H1 hK1 hP1 hD1 hS1 => ?_)
          · have := hg.2.1
            show n0.toNatClampNeg * 8 ≤ 536870912
            omega
          have hcA : cA = aC 2 := arr_uniq (i := 5) (j := 2) hK1 hK.1 rfl rfl
          subst hcA
          have hset := wof_alc (aC := aC) (ad := ad) (kd := 2) (n := n0.toNatClampNeg) (q := q) (E := .inl (aC 2, n0.toNatClampNeg, .inr (.inl (fun _ => 0)))) hok (by
            rw [cel_2 (show ((alc h 2 n0.toNatClampNeg).2.1 h.1).1 = 2 from by show (up1 h.2.1 h.1 (2, n0.toNatClampNeg) h.1).1 = _; rw [up1_eq])]
            have e0 : (alc h 2 n0.toNatClampNeg).2.1 h.1 = (2, n0.toNatClampNeg) := by show up1 h.2.1 h.1 (2, n0.toNatClampNeg) h.1 = _; rw [up1_eq]
            have e1 : (alc h 2 n0.toNatClampNeg).2.2.1 h.1 = (fun _ => 0) := by show up1 h.2.2.1 h.1 (fun _ => 0) h.1 = _; rw [up1_eq]
            have e2 : (alc h 2 n0.toNatClampNeg).2.2.2.1 h.1 = (fun _ => 0) := by show up1 h.2.2.2.1 h.1 (fun _ => 0) h.1 = _; rw [up1_eq]
            simp only [e0, e1, e2])
          rw [hset] at hP1 hD1
          have hfr := ih _ _ _ _ _ _ hrun (up1 ad h.1 q) H1 locs ls ⟨hP1, hD1, hS1, hg.2.2.2.2, Nat.le_succ_of_le hN0, (fun p0 hp0 => by rw [up1_ne (by omega)]; exact had p0 hp0), hok.alc⟩ hg.2.2.1 hg.2.2.2.1 (hL.congr (fun p0 hp0 => up1_ne (by omega)) hokL) (hokL.up (Nat.le_succ _)) ((hokS.tl.up (Nat.le_succ _)).cons (Nat.lt_succ_self _))
          rw [List.map_cons, mvs_congr (fun p0 (hp0 : p0 < h.1) => up1_ne (by omega)) hokS.tl] at hfr
          have e9 : mv (up1 ad h.1 q) (.ref h.1) = .ref q := by show Value.ref (up1 ad h.1 q h.1) = _; rw [up1_eq]
          rw [e9] at hfr
          exact hfr
        · cases hrun
      · cases hrun
    · cases hrun
  | anewarray x =>
    obtain rfl : k = 3 := by simpa [lenOk] using hlen
    subst hnx
    simp only [stpI, stK_eq, setK_eq, hIK_eq, hJK_eq, hRK_eq, alcK_eq] at hrun
    split at hrun
    · rename_i n0 r'
      cases hf0 : lkp x M.2.2.2.2.1 with
      | none => rw [hf0] at hrun; cases hrun
      | some ci =>
      rw [hf0] at hrun
      simp only at hrun
      obtain ⟨hci, hcl0⟩ := hM.2.2.2.2.2 x ci hf0
      split at hrun
      · rename_i hg
        rcases hg.2.2.2.2.2 with rfl | rfl
        ·
          refine va_newq (C := clN 2) hx hb hown hcl0 hK.2.2.1 hK.1 hP hD hS hA hg.1 rfl (by have := hg.2.1; omega) (by rw [hRc]; exact hg.2.2.1) (by rw [hRs]; exact hg.2.2.2.1) hd (fun q cA H1 hK1 hP1 hD1 hS1 => ?_)
          have hcA : cA = aC 3 := arr_uniq (i := 5) (j := 3) hK1 hK.1 rfl rfl
          subst hcA
          have hset := wof_alc (aC := aC) (ad := ad) (kd := 3) (n := n0.toNatClampNeg) (q := q) (E := .inl (aC 3, n0.toNatClampNeg, .inr (.inr (.inr (.inr (fun _ => none)))))) hok (by
            rw [cel_3 (show ((alc h 3 n0.toNatClampNeg).2.1 h.1).1 = 3 from by show (up1 h.2.1 h.1 (3, n0.toNatClampNeg) h.1).1 = _; rw [up1_eq])]
            have e0 : (alc h 3 n0.toNatClampNeg).2.1 h.1 = (3, n0.toNatClampNeg) := by show up1 h.2.1 h.1 (3, n0.toNatClampNeg) h.1 = _; rw [up1_eq]
            have e3 : (alc h 3 n0.toNatClampNeg).2.2.2.2 h.1 = (fun _ => mNul) := by show up1 h.2.2.2.2 h.1 (fun _ => mNul) h.1 = _; rw [up1_eq]
            simp only [e0, e3]
            congr 7)
          rw [hset] at hP1 hD1
          have hfr := ih _ _ _ _ _ _ hrun (up1 ad h.1 q) H1 locs ls ⟨hP1, hD1, hS1, hg.2.2.2.2.1, Nat.le_succ_of_le hN0, (fun p0 hp0 => by rw [up1_ne (by omega)]; exact had p0 hp0), hok.alc⟩ hg.2.2.1 hg.2.2.2.1 (hL.congr (fun p0 hp0 => up1_ne (by omega)) hokL) (hokL.up (Nat.le_succ _)) ((hokS.tl.up (Nat.le_succ _)).cons (Nat.lt_succ_self _))
          rw [List.map_cons, mvs_congr (fun p0 (hp0 : p0 < h.1) => up1_ne (by omega)) hokS.tl] at hfr
          have e9 : mv (up1 ad h.1 q) (.ref h.1) = .ref q := by show Value.ref (up1 ad h.1 q h.1) = _; rw [up1_eq]
          rw [e9] at hfr
          exact hfr
        ·
          refine va_newq (C := clN 9) hx hb hown hcl0 hK.2.2.2 hK.1 hP hD hS hA hg.1 rfl (by have := hg.2.1; omega) (by rw [hRc]; exact hg.2.2.1) (by rw [hRs]; exact hg.2.2.2.1) hd (fun q cA H1 hK1 hP1 hD1 hS1 => ?_)
          have hcA : cA = aC 4 := arr_uniq (i := 5) (j := 4) hK1 hK.1 rfl rfl
          subst hcA
          have hset := wof_alc (aC := aC) (ad := ad) (kd := 4) (n := n0.toNatClampNeg) (q := q) (E := .inl (aC 4, n0.toNatClampNeg, .inr (.inr (.inr (.inr (fun _ => none)))))) hok (by
            rw [cel_4 (show ((alc h 4 n0.toNatClampNeg).2.1 h.1).1 = 4 from by show (up1 h.2.1 h.1 (4, n0.toNatClampNeg) h.1).1 = _; rw [up1_eq])]
            have e0 : (alc h 4 n0.toNatClampNeg).2.1 h.1 = (4, n0.toNatClampNeg) := by show up1 h.2.1 h.1 (4, n0.toNatClampNeg) h.1 = _; rw [up1_eq]
            have e3 : (alc h 4 n0.toNatClampNeg).2.2.2.2 h.1 = (fun _ => mNul) := by show up1 h.2.2.2.2 h.1 (fun _ => mNul) h.1 = _; rw [up1_eq]
            simp only [e0, e3]
            congr 7)
          rw [hset] at hP1 hD1
          have hfr := ih _ _ _ _ _ _ hrun (up1 ad h.1 q) H1 locs ls ⟨hP1, hD1, hS1, hg.2.2.2.2.1, Nat.le_succ_of_le hN0, (fun p0 hp0 => by rw [up1_ne (by omega)]; exact had p0 hp0), hok.alc⟩ hg.2.2.1 hg.2.2.2.1 (hL.congr (fun p0 hp0 => up1_ne (by omega)) hokL) (hokL.up (Nat.le_succ _)) ((hokS.tl.up (Nat.le_succ _)).cons (Nat.lt_succ_self _))
          rw [List.map_cons, mvs_congr (fun p0 (hp0 : p0 < h.1) => up1_ne (by omega)) hokS.tl] at hfr
          have e9 : mv (up1 ad h.1 q) (.ref h.1) = .ref q := by show Value.ref (up1 ad h.1 q h.1) = _; rw [up1_eq]
          rw [e9] at hfr
          exact hfr
      · cases hrun
    · cases hrun
  | invokevirtual x =>
    obtain rfl : k = 3 := by simpa [lenOk] using hlen
    subst hnx
    simp only [stpI, stK_eq, setK_eq, hIK_eq, hJK_eq, hRK_eq, alcK_eq] at hrun
    cases hf0 : lkp (4 * x) M.2.2.2.1 with
    | none => rw [hf0] at hrun; cases hrun
    | some w =>
    obtain ⟨na, rc, mc, ms, f⟩ := w
    rw [hf0] at hrun
    simp only at hrun
    have hclk := hcal.1 pc x _ na rc mc ms f hi hf0
    split at hrun
    · rename_i q as hta
      split at hrun
      · rename_i hg
        split at hrun
        · rename_i r1 h1 hfr
          have hlen2 : ((st.take na).reverse).length = na := by simp; omega
          have hst : st.map (mv ad) = ((Value.ref q :: as).map (mv ad)).reverse ++ (st.drop na).map (mv ad) := by
            rw [← hta]; rw [← List.map_reverse, List.reverse_reverse, ← List.map_append, List.take_append_drop]
          rw [hst]
          refine hclk _ pc ls _ (Value.ref q :: as) h h1 r1 ad H locs cl sl (by rw [← hta]; exact hlen2) hfr hd (hL.1.1) ?_ ?_ ?_ hH ?_ ?_ ?_
          · rw [List.map_map, show ((fun v : Value => v.category) ∘ mv ad) = (fun v => v.category) from funext fun v => mv_cat]; exact hg.2.1
          · rw [hRc]; exact hg.2.2.1
          · rw [hRs]; exact hg.2.2.2.1
          · intro v hv
            rw [← hta] at hv
            exact hokS v (List.mem_of_mem_take (List.mem_reverse.mp hv))
          · intro ci hci; cases hci; exact ⟨q, as, rfl, fun _ => ⟨hg.2.2.2.2.1, hg.2.2.2.2.2⟩⟩
          · intro ad' H' locs' hH' had' hle hr1
            have hfin := ih _ _ _ _ _ _ hrun ad' H' locs' ls hH' hg.2.2.1 hg.2.2.2.1 (hL.congr had' hokL) (hokL.up hle) (fun v hv => by
              rcases List.mem_append.mp hv with z | z
              · cases r1 with
                | none => cases z
                | some v1 => rw [List.mem_singleton.mp z]; exact hr1 v1 rfl
              · exact okv.up hle (hokS v (List.mem_of_mem_drop z)))
            rw [List.map_append, mvs_congr had' (fun v hv => hokS v (List.mem_of_mem_drop hv))] at hfin
            exact hfin
        · cases hrun
      · cases hrun
    · cases hrun
  | invokespecial x =>
    obtain rfl : k = 3 := by simpa [lenOk] using hlen
    subst hnx
    simp only [stpI, stK_eq, setK_eq, hIK_eq, hJK_eq, hRK_eq, alcK_eq] at hrun
    cases hf0 : lkp (4 * x + 1) M.2.2.2.1 with
    | none => rw [hf0] at hrun; cases hrun
    | some w =>
    obtain ⟨na, rc, mc, ms, f⟩ := w
    rw [hf0] at hrun
    simp only at hrun
    have hclk := hcal.2.1 pc x _ na rc mc ms f hi hf0
    split at hrun
    · rename_i q as hta
      split at hrun
      · rename_i hg
        split at hrun
        · rename_i r1 h1 hfr
          have hlen2 : ((st.take na).reverse).length = na := by simp; omega
          have hst : st.map (mv ad) = ((Value.ref q :: as).map (mv ad)).reverse ++ (st.drop na).map (mv ad) := by
            rw [← hta]; rw [← List.map_reverse, List.reverse_reverse, ← List.map_append, List.take_append_drop]
          rw [hst]
          refine hclk _ pc ls _ (Value.ref q :: as) h h1 r1 ad H locs cl sl (by rw [← hta]; exact hlen2) hfr hd (hL.1.1) ?_ ?_ ?_ hH ?_ ?_ ?_
          · rw [List.map_map, show ((fun v : Value => v.category) ∘ mv ad) = (fun v => v.category) from funext fun v => mv_cat]; exact hg.2.1
          · rw [hRc]; exact hg.2.2.1
          · rw [hRs]; exact hg.2.2.2
          · intro v hv
            rw [← hta] at hv
            exact hokS v (List.mem_of_mem_take (List.mem_reverse.mp hv))
          · intro ci hci; cases hci; exact ⟨q, as, rfl, fun z => absurd z (by decide)⟩
          · intro ad' H' locs' hH' had' hle hr1
            have hfin := ih _ _ _ _ _ _ hrun ad' H' locs' ls hH' hg.2.2.1 hg.2.2.2 (hL.congr had' hokL) (hokL.up hle) (fun v hv => by
              rcases List.mem_append.mp hv with z | z
              · cases r1 with
                | none => cases z
                | some v1 => rw [List.mem_singleton.mp z]; exact hr1 v1 rfl
              · exact okv.up hle (hokS v (List.mem_of_mem_drop z)))
            rw [List.map_append, mvs_congr had' (fun v hv => hokS v (List.mem_of_mem_drop hv))] at hfin
            exact hfin
        · cases hrun
      · cases hrun
    · cases hrun
  | invokestatic x =>
    obtain rfl : k = 3 := by simpa [lenOk] using hlen
    subst hnx
    simp only [stpI, stK_eq, setK_eq, hIK_eq, hJK_eq, hRK_eq, alcK_eq] at hrun
    cases hf0 : lkp (4 * x + 2) M.2.2.2.1 with
    | none => rw [hf0] at hrun; cases hrun
    | some w =>
    obtain ⟨na, rc, mc, ms, f⟩ := w
    rw [hf0] at hrun
    simp only at hrun
    have hclk := hcal.2.2 pc x _ na rc mc ms f hi hf0
    split at hrun
    · rename_i hg
      split at hrun
      · rename_i r1 h1 hfr
        have hlen2 : ((st.take na).reverse).length = na := by simp; omega
        have hst : st.map (mv ad) = (((st.take na).reverse).map (mv ad)).reverse ++ (st.drop na).map (mv ad) := by
          rw [← List.map_reverse, List.reverse_reverse, ← List.map_append, List.take_append_drop]
        rw [hst]
        refine hclk _ pc ls _ ((st.take na).reverse) h h1 r1 ad H locs cl sl (by exact hlen2) hfr hd (hL.1.1) ?_ ?_ ?_ hH ?_ ?_ ?_
        · rw [List.map_map, show ((fun v : Value => v.category) ∘ mv ad) = (fun v => v.category) from funext fun v => mv_cat]; exact hg.2.1
        · rw [hRc]; exact hg.2.2.1
        · rw [hRs]; exact hg.2.2.2
        · intro v hv
          skip
          exact hokS v (List.mem_of_mem_take (List.mem_reverse.mp hv))
        · intro ci hci; cases hci
        · intro ad' H' locs' hH' had' hle hr1
          have hfin := ih _ _ _ _ _ _ hrun ad' H' locs' ls hH' hg.2.2.1 hg.2.2.2 (hL.congr had' hokL) (hokL.up hle) (fun v hv => by
            rcases List.mem_append.mp hv with z | z
            · cases r1 with
              | none => cases z
              | some v1 => rw [List.mem_singleton.mp z]; exact hr1 v1 rfl
            · exact okv.up hle (hokS v (List.mem_of_mem_drop z)))
          rw [List.map_append, mvs_congr had' (fun v hv => hokS v (List.mem_of_mem_drop hv))] at hfin
          exact hfin
      · cases hrun
    · cases hrun
  | ireturn =>
    obtain rfl : k = 1 := by simpa [lenOk] using hlen
    subst hnx
    simp only [stpI, stK_eq, setK_eq, hIK_eq, hJK_eq, hRK_eq, alcK_eq] at hrun
    split at hrun
    · rename_i v
      split at hrun
      · rename_i hrk
        cases hrun
        have hr' : meth.sig.returnType = some .int := by rw [hrk] at hret; exact hret
        refine W.widen hcl hsl ?_
        exact W.iret hx hb hr' (fun t ht hW => ⟨⟨ad, rfl, by rw [ht]; exact hP, hD, hmx, hN0, had, hok, (fun w hw => by cases hw; trivial)⟩, hS.F ht⟩) hS.2.2 hd hlocks
      · rename_i hrk
        have hr' : meth.sig.returnType = some .boolean := by rw [hrk] at hret; exact hret
        cases hq : isB v with
        | false => rw [hq] at hrun; cases hrun
        | true =>
          rw [hq] at hrun
          cases hrun
          refine W.widen hcl hsl ?_
          exact W.zret hx hb hr' (isB_nar hq).1 (fun t ht hW => ⟨⟨ad, rfl, by rw [ht]; exact hP, hD, hmx, hN0, had, hok, (fun w hw => by cases hw; trivial)⟩, hS.F ht⟩) hS.2.2 hd hlocks
      · cases hrun
    · cases hrun
  | lreturn =>
    obtain rfl : k = 1 := by simpa [lenOk] using hlen
    subst hnx
    simp only [stpI, stK_eq, setK_eq, hIK_eq, hJK_eq, hRK_eq, alcK_eq] at hrun
    split at hrun
    · rename_i v
      split at hrun
      · rename_i hrk
        cases hrun
        have hr' : meth.sig.returnType = some .long := by rw [hrk] at hret; exact hret
        refine W.widen hcl hsl ?_
        exact W.lret hx hb hr' (fun t ht hW => ⟨⟨ad, rfl, by rw [ht]; exact hP, hD, hmx, hN0, had, hok, (fun w hw => by cases hw; trivial)⟩, hS.F ht⟩) hS.2.2 hd hlocks
      · cases hrun
    · cases hrun
  | areturn =>
    obtain rfl : k = 1 := by simpa [lenOk] using hlen
    subst hnx
    simp only [stpI, stK_eq, setK_eq, hIK_eq, hJK_eq, hRK_eq, alcK_eq] at hrun
    split at hrun
    · rename_i v
      split at hrun
      · rename_i hrk
        cases hrun
        obtain ⟨nm, hr'⟩ : ∃ nm, meth.sig.returnType = some (.object nm) := by rw [hrk] at hret; exact hret
        refine W.widen hcl hsl ?_
        exact W.aret hx hb hr' (Or.inl ⟨nm, rfl⟩) (Or.inr ⟨ad v, rfl⟩) (fun t ht hW => ⟨⟨ad, rfl, by rw [ht]; exact hP, hD, hmx, hN0, had, hok, (fun w hw => by cases hw; exact hokS.hd)⟩, hS.F ht⟩) hS.2.2 hd hlocks
      · cases hrun
    · cases hrun
  | return_ =>
    obtain rfl : k = 1 := by simpa [lenOk] using hlen
    subst hnx
    simp only [stpI, stK_eq, setK_eq, hIK_eq, hJK_eq, hRK_eq, alcK_eq] at hrun
    split at hrun
    · split at hrun
      · rename_i hrk
        cases hrun
        have hr' : meth.sig.returnType = none := by rw [hrk] at hret; exact hret
        refine W.widen hcl hsl ?_
        exact W.vret hx hb hr' (fun t ht hW => ⟨⟨ad, rfl, by rw [ht]; exact hP, hD, hmx, hN0, had, hok, (fun w hw => by cases hw)⟩, hS.F ht⟩) hS.2.2 hd hlocks
      · cases hrun
    · cases hrun
  | _ => simp only [stpI] at hrun; cases hrun
end SND
end
section
/-! contracts out of meanings -/
theorem lkp_mem {α : Type} {k : Nat} {a : α} : ∀ {l : List (Nat × α)}, lkp k l = some a → (k, a) ∈ l := by
  intro l
  induction l with
  | nil => intro h; cases h
  | cons q r ih =>
    obtain ⟨q, b⟩ := q
    intro h
    unfold lkp at h
    cases hq : Nat.beq k q with
    | true =>
      rw [hq] at h
      have e : k = q := Nat.eq_of_beq_eq_true hq
      cases h
      rw [e]
      exact List.mem_cons_self
    | false => rw [hq] at h; exact List.mem_cons_of_mem _ (ih h)
theorem gd_of {i : Nat} {w : Cond} (h : lw_tbl[i]? = some w) (hg : goodWord w = true) : w ∈ gdW := List.mem_filter.mpr ⟨List.mem_of_getElem? h, hg⟩
theorem ns_of {i : Nat} {w : Cond} (h : lw_tbl[i]? = some w) (hg : nst w = true) : w ∈ nsW := List.mem_filter.mpr ⟨List.mem_of_getElem? h, hg⟩
def fchk (own : String) : List (Nat × Nat × Nat) → List Nat → Bool
  | [], _ => true
  | (x, ci, j) :: r, i :: is => decide (ci < 13) && (decide (lw_tbl[i]? = some (.fieldLink own x (clT ci j).1 (clT ci j).2.1 (clT ci j).2.2.1)) || decide (lw_tbl[i]? = some (.fieldLinkNest own x (clT ci j).1 (clT ci j).2.1 (clT ci j).2.2.1 RX11))) && fchk own r is
  | _ :: _, [] => false
def pchk (own : String) (ini : Bool) (fl : List (Nat × Nat × Nat)) (pf : List (Nat × Nat)) : List (Nat × Instr × Nat × List Nat) → Bool
  | [] => true
  | (_, .putfield x, _) :: r => (match lkp x fl with
      | some (ci, j) => (!(clT ci j).2.2.2) || (ini && decide ((clT ci j).1 = own) && (match lkp x pf with
        | some i => decide (lw_tbl[i]? = some (.fieldLink own x (clT ci j).1 (clT ci j).2.1 (clT ci j).2.2.1))
        | none => false))
      | none => true) && pchk own ini fl pf r
  | _ :: r => pchk own ini fl pf r
def kchk (own : String) : List (Nat × Value) → List Nat → Bool
  | [], _ => true
  | (x, .int v) :: r, i :: is => decide (lw_tbl[i]? = some (.constant own x v)) && kchk own r is
  | (x, .long v) :: r, i :: is => decide (lw_tbl[i]? = some (.constantLong own x v)) && kchk own r is
  | _ :: _, _ => false
def nchk (own : String) : List (Nat × Nat) → List Nat → Bool
  | [], _ => true
  | (x, ci) :: r, i :: is => decide (ci < 13) && decide (lw_tbl[i]? = some (.classLink own x (clN ci))) && nchk own r is
  | _ :: _, [] => false
def dchk (cc : ByteArray) (l : List (Nat × Instr × Nat × List Nat)) : Prop := ∀ q ∈ l, decode cc q.1 = .ok (q.2.1, q.2.2.1 - q.1) ∧ lenOk q.2.1 (q.2.2.1 - q.1) = true ∧ q.1 ≤ q.2.2.1 ∧ tgOk q.1 q.2.1 q.2.2.2 = true
theorem fchk_ok {own : String} {args : Array Value} {s : State} (hg : ∀ w ∈ gdW, w.before args s = true) (hn : ∀ w ∈ nsW, va_Nw w s) : ∀ {l : List (Nat × Nat × Nat)} {is : List Nat}, fchk own l is = true → ∀ x ci j, (x, ci, j) ∈ l → ci < 13 ∧ FOK own args s x ci j := by
  intro l
  induction l with
  | nil => intro is _ x ci j h; cases h
  | cons q r ih =>
    obtain ⟨x0, ci0, j0⟩ := q
    intro is h x ci j hm
    cases is with
    | nil => cases h
    | cons i is =>
      unfold fchk at h
      simp only [Bool.and_eq_true, Bool.or_eq_true, decide_eq_true_eq] at h
      rcases List.mem_cons.mp hm with z | z
      · cases z
        refine ⟨h.1.1, ?_⟩
        rcases h.1.2 with w | w
        · exact Or.inl (hg _ (gd_of w rfl))
        · exact Or.inr ⟨_, va_Nw.use rfl (hn _ (ns_of w rfl))⟩
      · exact ih h.2 x ci j z
theorem pchk_ok {own : String} {ini : Bool} {meth : Method} {args : Array Value} {s : State} {fl : List (Nat × Nat × Nat)} {pf : List (Nat × Nat)} (hg : ∀ w ∈ gdW, w.before args s = true) (hin : ini = true → meth.name = "<init>") (hfo : ∀ x ci j, (x, ci, j) ∈ fl → ci < 13 ∧ FOK own args s x ci j) : ∀ {l : List (Nat × Instr × Nat × List Nat)}, pchk own ini fl pf l = true → ∀ pc x n ci j, (pc, Instr.putfield x, n) ∈ l → lkp x fl = some (ci, j) → PFK own meth args s x ci j := by
  intro l
  induction l with
  | nil => intro _ pc x n ci j h; cases h
  | cons q r ih =>
    intro h pc x n ci j hm hl
    rcases List.mem_cons.mp hm with z | z
    · subst z
      unfold pchk at h
      rw [hl] at h
      simp only [Bool.and_eq_true, Bool.or_eq_true, Bool.not_eq_true', decide_eq_true_eq] at h
      rcases h.1 with w | w
      · exact Or.inl ⟨w, (hfo x ci j (lkp_mem hl)).2⟩
      · cases hp : lkp x pf with
        | none => rw [hp] at w; cases w.2
        | some i =>
          rw [hp] at w
          simp only [decide_eq_true_eq] at w
          cases hf : (clT ci j).2.2.2 with
          | false => exact Or.inl ⟨hf, (hfo x ci j (lkp_mem hl)).2⟩
          | true => exact Or.inr ⟨hf, hin w.1.1, w.1.2, hg _ (gd_of w.2 rfl)⟩
    · refine ih ?_ pc x n ci j z hl
      obtain ⟨q1, q2, q3⟩ := q
      cases q2 <;> first | exact h | (unfold pchk at h; simp only [Bool.and_eq_true] at h; exact h.2)
theorem kchk_ok {own : String} {args : Array Value} {s : State} (hg : ∀ w ∈ gdW, w.before args s = true) : ∀ {l : List (Nat × Value)} {is : List Nat}, kchk own l is = true → (∀ x v, (x, Value.int v) ∈ l → (Cond.constant own x v).before args s = true) ∧ (∀ x v, (x, Value.long v) ∈ l → (Cond.constantLong own x v).before args s = true) := by
  intro l
  induction l with
  | nil => intro is _; exact ⟨fun x v h => absurd h List.not_mem_nil, fun x v h => absurd h List.not_mem_nil⟩
  | cons q r ih =>
    obtain ⟨x0, v0⟩ := q
    intro is h
    cases is with
    | nil => cases v0 <;> cases h
    | cons i is =>
      cases v0 with
      | int v0 =>
        unfold kchk at h
        simp only [Bool.and_eq_true, decide_eq_true_eq] at h
        obtain ⟨h1, h2⟩ := ih h.2
        refine ⟨fun x v hm => ?_, fun x v hm => ?_⟩
        · rcases List.mem_cons.mp hm with z | z
          · cases z; exact hg _ (gd_of h.1 rfl)
          · exact h1 x v z
        · rcases List.mem_cons.mp hm with z | z
          · cases z
          · exact h2 x v z
      | long v0 =>
        unfold kchk at h
        simp only [Bool.and_eq_true, decide_eq_true_eq] at h
        obtain ⟨h1, h2⟩ := ih h.2
        refine ⟨fun x v hm => ?_, fun x v hm => ?_⟩
        · rcases List.mem_cons.mp hm with z | z
          · cases z
          · exact h1 x v z
        · rcases List.mem_cons.mp hm with z | z
          · cases z; exact hg _ (gd_of h.1 rfl)
          · exact h2 x v z
      | _ => cases h
theorem nchk_ok {own : String} {args : Array Value} {s : State} (hg : ∀ w ∈ gdW, w.before args s = true) : ∀ {l : List (Nat × Nat)} {is : List Nat}, nchk own l is = true → ∀ x ci, (x, ci) ∈ l → ci < 13 ∧ (Cond.classLink own x (clN ci)).before args s = true := by
  intro l
  induction l with
  | nil => intro is _ x ci h; cases h
  | cons q r ih =>
    obtain ⟨x0, ci0⟩ := q
    intro is h x ci hm
    cases is with
    | nil => cases h
    | cons i is =>
      unfold nchk at h
      simp only [Bool.and_eq_true, decide_eq_true_eq] at h
      rcases List.mem_cons.mp hm with z | z
      · cases z
        exact ⟨h.1.1, hg _ (gd_of h.1.2 rfl)⟩
      · exact ih h.2 x ci z
/-- all that a method's data must show -/
def MCK (own : String) (cc : ByteArray) (M : MI) (ini : Bool) : Prop := dchk cc M.1 ∧ ∃ ps pf pk pn, fchk own M.2.1 ps = true ∧ pchk own ini M.2.1 pf M.1 = true ∧ kchk own M.2.2.1 pk = true ∧ nchk own M.2.2.2.2.1 pn = true
theorem mok_of {own : String} {cc : ByteArray} {M : MI} {ini : Bool} (h : MCK own cc M ini) {meth : Method} {args : Array Value} {s : State} (hg : ∀ w ∈ gdW, w.before args s = true) (hn : ∀ w ∈ nsW, va_Nw w s) (hin : ini = true → meth.name = "<init>") : MOK own cc M meth args s := by
  obtain ⟨h1, ps, pf, pk, pn, h2, h3, h4, h5⟩ := h
  refine ⟨fun pc i nx tg hl => ⟨nx - pc, (h1 (pc, i, nx, tg) (lkp_mem hl)).1, (h1 (pc, i, nx, tg) (lkp_mem hl)).2.1, by have hle : pc ≤ nx := (h1 (pc, i, nx, tg) (lkp_mem hl)).2.2.1; omega, (h1 (pc, i, nx, tg) (lkp_mem hl)).2.2.2⟩, fun x ci j hl => fchk_ok hg hn h2 x ci j (lkp_mem hl), fun pc x n ci j hl hl2 => pchk_ok hg hin (fchk_ok hg hn h2) h3 pc x n ci j (lkp_mem hl) hl2, fun x v hl => (kchk_ok hg h4).1 x v (lkp_mem hl), fun x v hl => (kchk_ok hg h4).2 x v (lkp_mem hl), fun x ci hl => nchk_ok hg h5 x ci (lkp_mem hl)⟩
/-- a method's contract: whatever its meaning answers -/
def Pm (D : va_G) (aC : Nat → ClassId) (ad : Nat → Nat) (h : HP) (As : List Value) (sz : Nat) : Array Value → State → Prop := va_Pc (As.map (mv ad)) (fun U => U.heap.size = sz ∧ va_P D vwCl (wof aC ad h) U.heap ∧ KS D aC U ∧ va_D (fun _ => True) (wof aC ad h))
theorem Pm.blind {D : va_G} {aC : Nat → ClassId} {ad : Nat → Nat} {h : HP} {As : List Value} {sz : Nat} : FrameBlind (Pm D aC ad h As sz) := by
  intro a U g mk q
  obtain ⟨q0, q1, qP, qK, qD⟩ := q
  exact ⟨q0, q1, qP, KS.same (u := U) (U := U.calling g mk a) rfl qK, qD⟩
def MetM (l : Launch) (y : MethodName) (cc : ByteArray) (maxL : Nat) (ret : Option FieldType) (fr lo mc ms : Nat) (f : CF) : Prop :=
  ∀ (D : va_G) (aC : Nat → ClassId) (ad : Nat → Nat) (h h' : HP) (As : List Value) (r : Option Value) (sz : Nat), f As h = some (r, h') → okH h → h.1 ≤ mNul → okS h.1 As →
    Met l y (.code y cc maxL ret :: gdW) ({ frames := fr, cells := mc, slots := ms, locals := lo }) (Pm D aC ad h As sz) (Qm D aC (va_A (wof aC ad h) sz) ad h.1 r h') mc ms (va_A (wof aC ad h) sz)
def CTX (p : Program) (s : State) (m : MethodId) (args : Array Value) (c : Code) (cc : ByteArray) (nL : Nat) (own : String) (D : va_G) (aC : Nat → ClassId) (A : Nat → Prop) : Prop := p.tables.exec = Jvm.exec ∧ c.code = cc ∧ c.maxLocals = nL ∧ s.vm.findClass own = some m.cls ∧ COK args s ∧ KS D aC s ∧ (∀ q, s.heap.size ≤ q → A q)
def CLKk (p : Program) (l : Launch) (e : Env) (R : Room) (s : State) (m : MethodId) (args : Array Value) (below : List Frame) (meth : Method) (c : Code) (cc : ByteArray) (nL : Nat) (D : va_G) (aC : Nat → ClassId) (A : Nat → Prop) (ad0 : Nat → Nat) (N0 : Nat) (q : Nat × Nat × Nat × Nat × Nat × CF) : Prop := match q.1 % 4 with
  | 0 => CLK p l e R s m args below meth c cc nL D aC A ad0 N0 (.invokevirtual (q.1 / 4)) q.2.1 (some q.2.2.1) q.2.2.2.1 q.2.2.2.2.1 q.2.2.2.2.2
  | 1 => CLK p l e R s m args below meth c cc nL D aC A ad0 N0 (.invokespecial (q.1 / 4)) q.2.1 (some 99) q.2.2.2.1 q.2.2.2.2.1 q.2.2.2.2.2
  | _ => CLK p l e R s m args below meth c cc nL D aC A ad0 N0 (.invokestatic (q.1 / 4)) q.2.1 none q.2.2.2.1 q.2.2.2.2.1 q.2.2.2.2.2
theorem cls_of {p : Program} {l : Launch} {e : Env} {R : Room} {s : State} {m : MethodId} {args : Array Value} {below : List Frame} {meth : Method} {c : Code} {cc : ByteArray} {nL : Nat} {D : va_G} {aC : Nat → ClassId} {A : Nat → Prop} {ad0 : Nat → Nat} {N0 : Nat} {M : MI} (h : ∀ q ∈ M.2.2.2.1, CLKk p l e R s m args below meth c cc nL D aC A ad0 N0 q) : CLS p l e R s m args below meth c cc nL D aC A ad0 N0 M := by
  refine ⟨fun pc x k n rc mc ms f h1 h2 => ?_, fun pc x k n rc mc ms f h1 h2 => ?_, fun pc x k n rc mc ms f h1 h2 => ?_⟩
  · have := h _ (lkp_mem h2)
    unfold CLKk at this
    simp only [show 4 * x % 4 = 0 by omega, show 4 * x / 4 = x by omega] at this
    exact this
  · have := h _ (lkp_mem h2)
    unfold CLKk at this
    simp only [show (4 * x + 1) % 4 = 1 by omega, show (4 * x + 1) / 4 = x by omega] at this
    exact this
  · have := h _ (lkp_mem h2)
    unfold CLKk at this
    simp only [show (4 * x + 2) % 4 = 2 by omega, show (4 * x + 2) / 4 = x by omega] at this
    exact this
/-! a call out of the callee's contract -/
theorem run_done {p : Program} {l : Launch} {e : Env} {R : Room} {s : State} {m : MethodId} {args : Array Value} {below : List Frame} {meth : Method} {c : Code} {H : Heap} {locs : List Loc} {cells slots : Nat} {Q : State → Prop} {pc : Nat} {ls : Array Slot} {rest st0 : List Value} {a : Array Value} {D : va_G} {aC : Nat → ClassId} {A : Nat → Prop} {ad0 ad : Nat → Nat} {N0 : Nat} {h h' : HP} {r : Option Value} {mc ms : Nat} {As : List Value}
    (hr : va_Run p l e R s m args below meth c H locs cells slots mc ms (F0 m pc ls st0) rest (Qm D aC (va_A (wof aC ad h) H.size) ad h.1 r h' a) (va_A (wof aC ad h) H.size)) (hA : ∀ q, s.heap.size ≤ q → A q) (hH : Hp D aC A s ad0 N0 ad h H locs)
    (kk : ∀ (ad' : Nat → Nat) (H' : Heap) (locs' : List Loc), Hp D aC A s ad0 N0 ad' h' H' locs' → (∀ q, q < h.1 → ad' q = ad q) → h.1 ≤ h'.1 → (∀ v, r = some v → okv h'.1 v) → W p l e R s m args below meth c H' locs' (cells + mc) (slots + ms) Q (F0 m (pc + 3) ls (r.toList.map (mv ad') ++ rest))) :
    W p l e R s m args below meth c H locs cells slots Q (F0 m pc ls st0) := by
  intro T hT X
  obtain ⟨hP, hD, hS, hmx, hN0, had, hok⟩ := hH
  obtain ⟨v, st₀, t, T', L, h0, X', hL, e1, e2, ⟨⟨ad', hv, hP1, hD1, hmx1, hN1, had1, hok1, hr1⟩, hz, hk⟩, st⟩ := hr T hT X
  rw [h0] at hz hk
  have hF : ∀ q, va_A (wof aC ad h) H.size q → A q := va_free hD hS hA (List.range h.1) (by
    apply List.ext_getElem?
    intro k
    rw [List.getElem?_map, List.getElem?_map]
    by_cases hk : k < h.1
    · rw [List.getElem?_range hk, wof_get hk]; simp [wof_get hk]
    · rw [List.getElem?_eq_none (by simp; omega), List.getElem?_eq_none (by rw [wof_len]; omega)]; rfl)
  have hv' : v = r.map (mv ad') := by cases hv; rfl
  obtain ⟨t2, a1, b1⟩ := kk ad' T'.heap (locs ++ L) ⟨by rw [e1]; exact hP1, hD1.weaken (fun k q _ z => hF _ z), ⟨Nat.le_trans hS.1 (by rw [e1]; exact hz), fun q h1 h2 => by rw [e1, hk q (Nat.lt_of_lt_of_le h1 hS.1) (fun z => h2 (hF q z))]; exact hS.2.1 q h1 h2, fun q hq => by
      rcases List.mem_append.mp hq with z | z
      · exact hS.2.2 q z
      · exact hF _ (hL q z)⟩, hmx1, Nat.le_trans hN0 hN1, fun p0 hp0 => by rw [had1 p0 (Nat.lt_of_lt_of_le hp0 hN0)]; exact had p0 hp0, hok1⟩ had1 hN1 hr1 T' rfl X'
  refine ⟨t2, st t2 ?_, b1⟩
  subst hv'
  have e9 : (r.map (mv ad')).toList = r.toList.map (mv ad') := by cases r <;> rfl
  rw [e9]
  exact a1
def MNO (y : MethodName) (cc : ByteArray) (maxL : Nat) (ret : Option FieldType) (np : Nat) : Prop := Cond.code y cc maxL ret ∈ gdW ∧ Cond.initialized y.cls ∈ gdW ∧ (y.cls ≠ "java/lang/invoke/MethodHandle" ∧ y.cls ≠ "java/lang/invoke/VarHandle" ∧ (parseMethodDescriptor y.desc).map (fun d => d.parameters.length) = some np) ∧ plainName y.cls = true
theorem gdGood {ws : List Cond} {y : MethodName} {cc : ByteArray} {maxL : Nat} {ret : Option FieldType} (h : Cond.code y cc maxL ret ∈ gdW) (hw : ∀ w ∈ gdW, w ∈ ws) : GoodIn ws (.code y cc maxL ret :: gdW) := by
  intro w hm
  have h1 : w ∈ gdW := (List.mem_cons.mp hm).elim (fun z => z ▸ h) id
  exact ⟨hw w h1, good_of_word (List.mem_filter.mp h1).2⟩
theorem pm_pre {D : va_G} {aC : Nat → ClassId} {ad : Nat → Nat} {h : HP} {As : List Value} {H : Heap} {s : State} {A : Nat → Prop} (hP : va_P D vwCl (wof aC ad h) H) (hD : va_D A (wof aC ad h)) (hK : KS D aC s) : ∀ U : State, U.heap = H → s.WarmedH U.vm → Pm D aC ad h As H.size ((As.map (mv ad)).toArray) U :=
  fun U hU hW => ⟨rfl, by rw [hU], by rw [hU]; exact hP, hK.warm hW, hD.weaken (fun _ _ _ _ => trivial)⟩
section CLKS
variable {p : Program} {l : Launch} {e : Env} {R : Room} {s : State} {m : MethodId} {args : Array Value} {below : List Frame} {meth : Method} {c : Code} {cc : ByteArray} {nL : Nat} {own : String} {D : va_G} {aC : Nat → ClassId} {A : Nat → Prop} {ad0 : Nat → Nat} {N0 : Nat} {y : MethodName} {bytes : ByteArray} {maxL : Nat} {ret : Option FieldType} {np fr lo mc ms x rc : Nat} {f : CF}
theorem room_rest {rest : List Value} {pc : Nat} {ls : Array Slot} {st : List Value} (h : (rest.map fun v => v.category).sum ≤ 8) : 2 * (F0 m pc ls st).monitorRoom + (rest.map fun v => v.category).sum ≤ 8 := lv_room h
theorem clk_V (X : CTX p s m args c cc nL own D aC A) (hM : MetM l y bytes maxL ret fr lo mc ms f) (hy : MNO y bytes maxL ret np) (hin : Cond.instanceMethod y ∈ gdW ∧ Cond.selects y.cls y y ∈ gdW) (hrc : rc < 13 ∧ y.cls = clN rc) (hl : Cond.methodLink own x y ∈ gdW) (hR : fr + 1 ≤ R.frames ∧ 8 + (maxL + 11) + lo ≤ R.locals) : CLK p l e R s m args below meth c cc nL D aC A ad0 N0 (.invokevirtual x) (np + 1) (some rc) mc ms f := by
  obtain ⟨hx, hb, hml, hown, hC, hK, hA⟩ := X
  intro Q pc ls rest As h h' r ad H locs cells slots hlen hf hd hsz hrest hc1 hs1 hH hokA hrcv kk
  obtain ⟨hP, hD, hS, hmx, hN0, had, hok⟩ := id hH
  obtain ⟨q, as, rfl, hkq⟩ := hrcv rc rfl
  obtain ⟨hk, hq⟩ := hkq hrc.1
  have hcw : CallW R s args own y.cls x y bytes maxL ret (.code y bytes maxL ret :: gdW) ({ frames := fr, cells := mc, slots := ms, locals := lo }) mc ms np :=
    ⟨callB_of np hC.1 (gdGood hy.1 (fun w z => z)) rfl rfl rfl (hC.1 _ hy.2.1) (hC.1 _ hl) hy.2.2.1 hR, hC.1 _ hin.1, hC.1 _ hin.2⟩
  have hrun := va_runV (S := ⟨hx, hb, hml, hown, hC.1⟩) (As := as.map (mv ad)) (rest := rest) (b := ad q) (g := F0 m pc ls (((Value.ref q :: as).map (mv ad)).reverse ++ rest)) (H := H) (locs := locs) (cells := cells) (slots := slots) (l := l) (e := e) (below := below) (meth := meth) (hM D aC ad h h' (.ref q :: as) r H.size hf hok hmx hokA) hcw
    ⟨Pm.blind, by
      have hz := va_recv hK.1 hP (clsL hrc.1) (q0 := q) (a := ad q) (fs := (List.range (nfd rc)).map (fvv ad h q rc)) (by rw [wof_get hq, cel_obj hk])
      rw [← hrc.2] at hz
      exact hz, pm_pre hP hD hK⟩ rfl (by simpa using hlen) hsz (by simp [mv]) (room_rest hrest) hd ⟨hc1, hs1⟩
  exact run_done (As := .ref q :: as) hrun hA hH kk
theorem clk_VN (X : CTX p s m args c cc nL own D aC A) (hM : MetM l y bytes maxL ret fr lo mc ms f) (hy : MNO y bytes maxL ret np) (hin : Cond.instanceMethod y ∈ gdW ∧ Cond.selects y.cls y y ∈ gdW) (hrc : rc < 13 ∧ y.cls = clN rc) (hl : Cond.methodLinkNest own x y RX11 ∈ nsW) (hR : fr + 1 ≤ R.frames ∧ 8 + (maxL + 11) + lo ≤ R.locals) : CLK p l e R s m args below meth c cc nL D aC A ad0 N0 (.invokevirtual x) (np + 1) (some rc) mc ms f := by
  obtain ⟨hx, hb, hml, hown, hC, hK, hA⟩ := X
  intro Q pc ls rest As h h' r ad H locs cells slots hlen hf hd hsz hrest hc1 hs1 hH hokA hrcv kk
  obtain ⟨hP, hD, hS, hmx, hN0, had, hok⟩ := id hH
  obtain ⟨q, as, rfl, hkq⟩ := hrcv rc rfl
  obtain ⟨hk, hq⟩ := hkq hrc.1
  have hrun := va_runVN (S := ⟨hx, hb, hml, hown, hC.1⟩) (As := as.map (mv ad)) (rest := rest) (b := ad q) (g := F0 m pc ls (((Value.ref q :: as).map (mv ad)).reverse ++ rest)) (H := H) (locs := locs) (cells := cells) (slots := slots) (l := l) (e := e) (below := below) (meth := meth) (hM D aC ad h h' (.ref q :: as) r H.size hf hok hmx hokA)
    ⟨va_cnB np hC.1 (gdGood hy.1 (fun w z => z)) rfl rfl rfl (hK.2.1 _ hl) (hC.1 _ hy.2.1) hy.2.2.1 hR, hC.1 _ hin.1, hC.1 _ hin.2⟩
    ⟨Pm.blind, by
      have hz := va_recv hK.1 hP (clsL hrc.1) (q0 := q) (a := ad q) (fs := (List.range (nfd rc)).map (fvv ad h q rc)) (by rw [wof_get hq, cel_obj hk])
      rw [← hrc.2] at hz
      exact hz, pm_pre hP hD hK⟩ rfl (by simpa using hlen) hsz (by simp [mv]) (room_rest hrest) hd ⟨hc1, hs1⟩
  exact run_done (As := .ref q :: as) hrun hA hH kk
theorem clk_S (X : CTX p s m args c cc nL own D aC A) (hM : MetM l y bytes maxL ret fr lo mc ms f) (hy : MNO y bytes maxL ret np) (hst : Cond.static y ∈ gdW) (hl : Cond.methodLink own x y ∈ gdW) (hR : fr + 1 ≤ R.frames ∧ 8 + (maxL + 11) + lo ≤ R.locals) : CLK p l e R s m args below meth c cc nL D aC A ad0 N0 (.invokestatic x) np none mc ms f := by
  obtain ⟨hx, hb, hml, hown, hC, hK, hA⟩ := X
  intro Q pc ls rest As h h' r ad H locs cells slots hlen hf hd hsz hrest hc1 hs1 hH hokA hrcv kk
  obtain ⟨hP, hD, hS, hmx, hN0, had, hok⟩ := id hH
  have hrun := va_runS (S := ⟨hx, hb, hml, hown, hC.1⟩) (As := As.map (mv ad)) (rest := rest) (g := F0 m pc ls ((As.map (mv ad)).reverse ++ rest)) (H := H) (locs := locs) (cells := cells) (slots := slots) (l := l) (e := e) (below := below) (meth := meth) (hM D aC ad h h' As r H.size hf hok hmx hokA)
    ⟨callB_of np hC.1 (gdGood hy.1 (fun w z => z)) rfl rfl rfl (hC.1 _ hy.2.1) (hC.1 _ hl) hy.2.2.1 hR, hC.1 _ hst⟩
    ⟨Pm.blind, pm_pre hP hD hK⟩ rfl (by simpa using hlen) hsz rfl (room_rest hrest) hd ⟨hc1, hs1⟩
  exact run_done (As := As) hrun hA hH kk
theorem clk_SN (X : CTX p s m args c cc nL own D aC A) (hM : MetM l y bytes maxL ret fr lo mc ms f) (hy : MNO y bytes maxL ret np) (hst : Cond.static y ∈ gdW) (hl : Cond.methodLinkNest own x y RX11 ∈ nsW) (hR : fr + 1 ≤ R.frames ∧ 8 + (maxL + 11) + lo ≤ R.locals) : CLK p l e R s m args below meth c cc nL D aC A ad0 N0 (.invokestatic x) np none mc ms f := by
  obtain ⟨hx, hb, hml, hown, hC, hK, hA⟩ := X
  intro Q pc ls rest As h h' r ad H locs cells slots hlen hf hd hsz hrest hc1 hs1 hH hokA hrcv kk
  obtain ⟨hP, hD, hS, hmx, hN0, had, hok⟩ := id hH
  have hrun := va_runSN (S := ⟨hx, hb, hml, hown, hC.1⟩) (As := As.map (mv ad)) (rest := rest) (g := F0 m pc ls ((As.map (mv ad)).reverse ++ rest)) (H := H) (locs := locs) (cells := cells) (slots := slots) (l := l) (e := e) (below := below) (meth := meth) (hM D aC ad h h' As r H.size hf hok hmx hokA)
    ⟨va_cnB np hC.1 (gdGood hy.1 (fun w z => z)) rfl rfl rfl (hK.2.1 _ hl) (hC.1 _ hy.2.1) hy.2.2.1 hR, hC.1 _ hst, trivial⟩
    ⟨Pm.blind, pm_pre hP hD hK⟩ rfl (by simpa using hlen) hsz rfl (room_rest hrest) hd ⟨hc1, hs1⟩
  exact run_done (As := As) hrun hA hH kk
theorem clk_I (X : CTX p s m args c cc nL own D aC A) (hM : MetM l y bytes maxL none fr lo mc ms f) (hy : MNO y bytes maxL none np) (hin : Cond.instanceMethod y ∈ gdW ∧ y.name = "<init>") (hl : Cond.methodLink own x y ∈ gdW) (hR : fr + 1 ≤ R.frames ∧ 8 + (maxL + 11) + lo ≤ R.locals) : CLK p l e R s m args below meth c cc nL D aC A ad0 N0 (.invokespecial x) (np + 1) (some 99) mc ms f := by
  obtain ⟨hx, hb, hml, hown, hC, hK, hA⟩ := X
  intro Q pc ls rest As h h' r ad H locs cells slots hlen hf hd hsz hrest hc1 hs1 hH hokA hrcv kk
  obtain ⟨hP, hD, hS, hmx, hN0, had, hok⟩ := id hH
  obtain ⟨q, as, rfl, -⟩ := hrcv 99 rfl
  have hrun := va_runI (S := ⟨hx, hb, hml, hown, hC.1⟩) (As := as.map (mv ad)) (rest := rest) (b := ad q) (g := F0 m pc ls (((Value.ref q :: as).map (mv ad)).reverse ++ rest)) (H := H) (locs := locs) (cells := cells) (slots := slots) (l := l) (e := e) (below := below) (meth := meth) (hM D aC ad h h' (.ref q :: as) r H.size hf hok hmx hokA)
    ⟨callB_of np hC.1 (gdGood hy.1 (fun w z => z)) rfl rfl rfl (hC.1 _ hy.2.1) (hC.1 _ hl) hy.2.2.1 hR, hin.2, hC.1 _ hin.1⟩
    ⟨Pm.blind, pm_pre hP hD hK⟩ rfl (by simpa using hlen) hsz (by simp [mv]) (room_rest hrest) hd ⟨hc1, hs1⟩
  exact run_done (As := .ref q :: as) hrun hA hH kk
theorem clk_IN (X : CTX p s m args c cc nL own D aC A) (hM : MetM l y bytes maxL none fr lo mc ms f) (hy : MNO y bytes maxL none np) (hin : Cond.instanceMethod y ∈ gdW ∧ y.name = "<init>") (hl : Cond.methodLinkNest own x y RX11 ∈ nsW) (hR : fr + 1 ≤ R.frames ∧ 8 + (maxL + 11) + lo ≤ R.locals) : CLK p l e R s m args below meth c cc nL D aC A ad0 N0 (.invokespecial x) (np + 1) (some 99) mc ms f := by
  obtain ⟨hx, hb, hml, hown, hC, hK, hA⟩ := X
  intro Q pc ls rest As h h' r ad H locs cells slots hlen hf hd hsz hrest hc1 hs1 hH hokA hrcv kk
  obtain ⟨hP, hD, hS, hmx, hN0, had, hok⟩ := id hH
  obtain ⟨q, as, rfl, -⟩ := hrcv 99 rfl
  have hrun := va_runIN (S := ⟨hx, hb, hml, hown, hC.1⟩) (As := as.map (mv ad)) (rest := rest) (b := ad q) (g := F0 m pc ls (((Value.ref q :: as).map (mv ad)).reverse ++ rest)) (H := H) (locs := locs) (cells := cells) (slots := slots) (l := l) (e := e) (below := below) (meth := meth) (hM D aC ad h h' (.ref q :: as) r H.size hf hok hmx hokA)
    ⟨va_cnB np hC.1 (gdGood hy.1 (fun w z => z)) rfl rfl rfl (hK.2.1 _ hl) (hC.1 _ hy.2.1) hy.2.2.1 hR, hin.2, hC.1 _ hin.1⟩
    ⟨Pm.blind, pm_pre hP hD hK⟩ rfl (by simpa using hlen) hsz (by simp [mv]) (room_rest hrest) hd ⟨hc1, hs1⟩
  exact run_done (As := .ref q :: as) hrun hA hH kk
theorem clk_O (X : CTX p s m args c cc nL own D aC A) (hin : Cond.instanceMethod Lib.objectInit ∈ gdW ∧ Cond.code Lib.objectInit ⟨#[0xb1]⟩ 1 none ∈ gdW) (hl : Cond.methodLink own x Lib.objectInit ∈ gdW) (hR : 1 ≤ R.frames ∧ 20 ≤ R.locals) : CLK p l e R s m args below meth c cc nL D aC A ad0 N0 (.invokespecial x) 1 (some 99) 0 0 (fun _ h => some (none, h)) := by
  obtain ⟨hx, hb, hml, hown, hC, hK, hA⟩ := X
  intro Q pc ls rest As h h' r ad H locs cells slots hlen hf hd hsz hrest hc1 hs1 hH hokA hrcv kk
  obtain ⟨q, as, rfl, -⟩ := hrcv 99 rfl
  have has : as = [] := by
    cases as with
    | nil => rfl
    | cons v as => simp at hlen
  subst has
  cases hf
  refine W.objInit (rest := rest) hx hb hown (hC.1 _ hl) (hC.1 _ hin.1) (hC.1 _ hin.2) rfl (by rw [hml]; exact hsz) rfl hd hR.1 ?_ ?_
  · have := room_rest (m := m) (pc := pc) (ls := ls) (st := ((Value.ref q :: []).map (mv ad)).reverse ++ rest) hrest
    omega
  · exact kk ad H locs hH (fun _ _ => rfl) (Nat.le_refl _) (fun v z => by cases z)
theorem as_cons {n : Nat} {As : List Value} (h : As.length = n + 1) : ∃ v as, As = v :: as ∧ as.length = n := by
  cases As with
  | nil => cases h
  | cons v as => exact ⟨v, as, rfl, by simpa using h⟩
end CLKS
theorem mLoc_len : ∀ {as : List Value} {n : Nat}, catS as ≤ n → (mLoc n as).length = n := by
  intro as
  induction as with
  | nil => intro n _; exact List.length_replicate
  | cons v as ih =>
    intro n h
    have hc : catS (v :: as) = v.category + catS as := by simp [catS]
    rw [hc] at h
    unfold mLoc
    rcases lv_cat v with z | z
    · rw [z]
      show (v :: mLoc (n - 1) as).length = n
      rw [List.length_cons, ih (by omega)]
      omega
    · rw [z]
      show (v :: Value.null :: mLoc (n - 2) as).length = n
      rw [List.length_cons, List.length_cons, ih (by omega)]
      omega
theorem mLoc_get {ad : Nat → Nat} : ∀ {as : List Value} {n i k : Nat} {v : Value}, (mLoc n as)[k]? = some v → v ≠ .null → (i + k, mv ad v) ∈ lv_args i (as.map (mv ad)) := by
  intro as
  induction as with
  | nil =>
    intro n i k v h hn
    have := List.eq_of_mem_replicate (List.mem_of_getElem? (show (List.replicate n Value.null)[k]? = some v from h))
    exact absurd this hn
  | cons w as ih =>
    intro n i k v h hn
    unfold mLoc at h
    rw [List.map_cons]
    unfold lv_args
    rw [mv_cat]
    rcases lv_cat w with z | z
    · rw [z] at h ⊢
      replace h : (w :: mLoc (n - 1) as)[k]? = some v := h
      cases k with
      | zero => cases h; exact List.mem_cons_self
      | succ k =>
        have h2 : (mLoc (n - 1) as)[k]? = some v := h
        have := ih (i := i + 1) h2 hn
        rw [show i + (k + 1) = i + 1 + k by omega]
        exact List.mem_cons_of_mem _ this
    · rw [z] at h ⊢
      replace h : (w :: Value.null :: mLoc (n - 2) as)[k]? = some v := h
      cases k with
      | zero => cases h; exact List.mem_cons_self
      | succ k =>
        cases k with
        | zero => cases h; exact absurd rfl hn
        | succ k =>
          have h2 : (mLoc (n - 2) as)[k]? = some v := h
          have := ih (i := i + 2) h2 hn
          rw [show i + (k + 1 + 1) = i + 2 + k by omega]
          exact List.mem_cons_of_mem _ this
theorem mLoc_ok {N : Nat} : ∀ {as : List Value} {n : Nat}, okS N as → okS N (mLoc n as) := by
  intro as
  induction as with
  | nil => intro n _ v hv; rw [List.eq_of_mem_replicate (show v ∈ List.replicate n Value.null from hv)]; trivial
  | cons w as ih =>
    intro n h
    unfold mLoc
    cases Nat.beq w.category 2
    · exact (ih h.tl).cons h.hd
    · exact okS.cons h.hd (okS.cons (v := .null) trivial (ih h.tl))
theorem sl_len : ∀ {vs : List Value}, (lg_sl vs).length = catS vs := by
  intro vs
  induction vs with
  | nil => rfl
  | cons v vs ih =>
    have hc : catS (v :: vs) = v.category + catS vs := by simp [catS]
    have e : lg_sl (v :: vs) = (if v.category = 2 then [Slot.val v, Slot.second] else [Slot.val v]) ++ lg_sl vs := by simp [lg_sl]
    rw [hc, e, List.length_append, ih]
    rcases lv_cat v with z | z <;> simp [z]
theorem catS_map {ad : Nat → Nat} {as : List Value} : catS (as.map (mv ad)) = catS as := by
  unfold catS
  rw [List.map_map, show ((fun v : Value => v.category) ∘ mv ad) = (fun v => v.category) from funext fun v => mv_cat]
set_option maxHeartbeats 4000000 in
/-- a method's contract out of its data and its callees' -/
theorem metM_of {l : Launch} {y : MethodName} {cc : ByteArray} {maxL np : Nat} {ret : Option FieldType} {fr lo : Nat} {M : MI} (ini : Bool) (hy : MNO y cc maxL ret np) (hret : RTY M.2.2.2.2.2.2.1 ret) (hK : MCK y.cls cc M ini) (hini : ini = true → y.name = "<init>") (hCg : ∀ (args : Array Value) (s : State), (∀ w ∈ gdW, w.before args s = true) → COK args s)
    (hcal : ∀ (p : Program) (e : Env) (s : State) (m : MethodId) (args : Array Value) (below : List Frame) (meth : Method) (c : Code) (D : va_G) (aC : Nat → ClassId) (A : Nat → Prop) (ad0 : Nat → Nat) (N0 : Nat), CTX p s m args c cc maxL y.cls D aC A → ∀ q ∈ M.2.2.2.1, CLKk p l e ({ frames := fr, cells := M.2.2.2.2.2.1.1, slots := M.2.2.2.2.2.1.2, locals := lo }) s m args below meth c cc maxL D aC A ad0 N0 q) :
    MetM l y cc maxL ret fr lo M.2.2.2.2.2.1.1 M.2.2.2.2.2.1.2 (mth M maxL) := by
  intro D aC ad h h' As r sz hf hok hmx hokA
  unfold mth at hf
  cases hcat : Nat.ble (catS As) maxL with
  | false => rw [hcat] at hf; cases hf
  | true =>
  rw [hcat] at hf
  replace hf : run M (0, 0, 0, mLoc maxL As, [], h) = some (r, h') := hf
  have hcat' : catS As ≤ maxL := Nat.le_of_ble_eq_true hcat
  obtain ⟨n, hn⟩ := run_ex hf
  refine Met.ofW (cc := cc) (maxL := maxL) (ret := ret) hy.2.2.2 rfl ?_
  intro p e s m args below meth c s₁ B hml hv
  obtain ⟨rfl, hsz, hP, hKS, hD0⟩ := hv
  have hts := atoms_spec (ws := Cond.code y cc maxL ret :: gdW) B.pre
  have hg : ∀ w ∈ gdW, w.before (As.map (mv ad)).toArray s = true := fun w z => hts w (List.mem_cons_of_mem _ z)
  have hown : s.vm.findClass y.cls = some m.cls := findClass_of_methodNamed B.named
  have hnm : meth.name = y.name := (name_of_methodNamed B.named B.method).1
  subst hsz
  have hCO := hCg _ s hg
  have hA : ∀ q, s.heap.size ≤ q → va_A (wof aC ad h) s.heap.size q := fun q z => Or.inr z
  rw [lg_entry_eq]
  have hls := lv_entry (As.map (mv ad)) (n := maxL) (by rw [sl_len, catS_map]; exact hcat')
  have hLV : LV ad ((lg_sl (As.map (mv ad)) ++ List.replicate (maxL - (lg_sl (As.map (mv ad))).length) Slot.unset).toArray) maxL (mLoc maxL As) := by
    refine ⟨⟨hls.1, hls.2.1, fun q hq => ?_⟩, mLoc_len hcat'⟩
    obtain ⟨v, h1, h2, h3⟩ := lvl_mem.mp hq
    have := mLoc_get (ad := ad) (i := 0) h1 h2
    rw [Nat.zero_add, ← h3] at this
    exact hls.2.2 q this
  exact snd_run (own := y.cls) (ad0 := ad) (N0 := h.1) B.exec B.bytes hml hown B.notSynchronized (by rw [B.returns]; exact hret) rfl rfl hCO hKS hA (mok_of hK hg hKS.2.1 (fun z => by rw [hnm]; exact hini z)) (cls_of (hcal p e s m _ below meth c D aC _ ad h.1 ⟨B.exec, B.bytes, hml, hown, hCO, hKS, hA⟩)) n 0 0 0 _ [] h hn ad s.heap [] _ ⟨hP, hD0.self, va_S.rf, hmx, Nat.le_refl _, fun _ _ => rfl, hok⟩ (Nat.zero_le _) (Nat.zero_le _) hLV (mLoc_ok hokA) okS.nil
end
section
/-! Math.floorMod of two ints, the first not below 0, the other above: no entry runs in its place -/
def fmc : ByteArray := cJ9_floorMod_7cf53
theorem fmd_0 : decode fmc 0 = .ok (.iload_n 0, 1) := by decide +kernel
theorem fmd_1 : decode fmc 1 = .ok (.iload_n 1, 1) := by decide +kernel
theorem fmd_2 : decode fmc 2 = .ok (.irem, 1) := by decide +kernel
theorem fmd_3 : decode fmc 3 = .ok (.istore_n 2, 1) := by decide +kernel
theorem fmd_4 : decode fmc 4 = .ok (.iload_n 0, 1) := by decide +kernel
theorem fmd_5 : decode fmc 5 = .ok (.iload_n 1, 1) := by decide +kernel
theorem fmd_6 : decode fmc 6 = .ok (.ixor, 1) := by decide +kernel
theorem fmd_7 : decode fmc 7 = .ok (.ifCond .ge 11, 3) := by decide +kernel
theorem fmd_18 : decode fmc 18 = .ok (.iload_n 2, 1) := by decide +kernel
theorem fmd_19 : decode fmc 19 = .ok (.ireturn, 1) := by decide +kernel
def fmy : MethodName := yJ9_floorMod_7cf53
theorem fm_noRow0 : (NativeRow.find? natives fmy.cls fmy.name fmy.desc).isNone = true := by decide +kernel
theorem fm_noRow (p : Program) : NativeRow.find? p.tables.natives fmy.cls fmy.name fmy.desc = none := by
  cases p <;> exact Option.isNone_iff_eq_none.mp fm_noRow0
def fmspec : Spec where
  pre := .and (.code fmy fmc 3 (some .int)) (.and (.count 2) (.and (.isInt (.arg 0)) (.and (.isInt (.arg 1)) (.and (.le (.int 0) (.arg 0)) (.lt (.int 0) (.arg 1))))))
  post := .and .returned (.eq .result (.rem (.arg 0) (.arg 1)))
  changes := some []
theorem xor_nn {a b : Int32} (ha : 0 ≤ a) (hb : 0 < b) : 0 ≤ a ^^^ b := by
  have h1 : a.toBitVec.msb = false := by
    have := Int32.le_iff_toInt_le.mp ha
    rw [BitVec.msb_eq_toInt]
    simp only [decide_eq_false_iff_not]
    have e : a.toBitVec.toInt = a.toInt := rfl
    rw [e]
    have z : (0 : Int32).toInt = 0 := by decide
    omega
  have h2 : b.toBitVec.msb = false := by
    have := Int32.lt_iff_toInt_lt.mp hb
    rw [BitVec.msb_eq_toInt]
    simp only [decide_eq_false_iff_not]
    have e : b.toBitVec.toInt = b.toInt := rfl
    rw [e]
    have z : (0 : Int32).toInt = 0 := by decide
    omega
  have h3 : (a ^^^ b).toBitVec.msb = false := by
    show (a.toBitVec ^^^ b.toBitVec).msb = false
    rw [BitVec.msb_xor, h1, h2]; rfl
  rw [BitVec.msb_eq_toInt] at h3
  simp only [decide_eq_false_iff_not] at h3
  apply Int32.le_iff_toInt_le.mpr
  have z : (0 : Int32).toInt = 0 := by decide
  have e : (a ^^^ b).toBitVec.toInt = (a ^^^ b).toInt := rfl
  rw [e] at h3
  omega
theorem fm_meets (l : Launch) : MeetsLoose l fmy fmspec := by
  refine MeetsLoose.of_body_ov (code := fmc) (maxLocals := 3) (ret := some .int) fm_noRow ?_ ?_
  · intro args s h
    simp only [fmspec, Cond.before_and, Bool.and_eq_true] at h
    exact h.1
  · intro p e s m args below meth c s₁ B
    have hpre := B.pre
    simp only [fmspec, Cond.before_and, Bool.and_eq_true] at hpre
    obtain ⟨a, b, rfl⟩ := Cond.two_ints hpre.2.1 hpre.2.2.1 hpre.2.2.2.1
    have ha : 0 ≤ a := by simpa [Cond.before, Cond.holds, Cond.value, Term.eval] using hpre.2.2.2.2.1
    have hb : 0 < b := by simpa [Cond.before, Cond.holds, Cond.value, Term.eval] using hpre.2.2.2.2.2
    have hb0 : ¬ b = 0 := fun z => by subst z; exact absurd hb (by decide)
    have hx := xor_nn ha hb
    have hloc : argsToLocals #[.int a, .int b] 3 = #[.val (.int a), .val (.int b), .unset] := rfl
    have fin : ∀ r : Int32, (∀ fs, Steps p.tables e below (s₁.setTop (entryFrame m #[.int a, .int b] 3)) (s₁.setFrames fs) ∨ handOver s₁ (some (.int r)) below ≠ some fs) →
        (fmspec.post.after #[.int a, .int b] s (.returned (some (.int r))) = fun _ => true) →
        ∃ s₂ o, Steps p.tables e below (s₁.setTop (entryFrame m #[.int a, .int b] 3)) s₂ ∧ s₂.status = .running ∧ Ended s₂ below o ∧
          fmspec.ensures #[.int a, .int b] s o s₂ := by
      intro r hwalk hpost
      obtain ⟨fs, hfs⟩ := handOver_isSome (s := s₁) (some (.int r)) B.hears₁
      refine ⟨s₁.setFrames fs, .returned (some (.int r)), (hwalk fs).resolve_right (fun h => h hfs), B.here.running, B.ended hfs (by intro h; cases h), ?_, State.sameBut_nil.mpr ?_⟩
      · rw [hpost]
      · rw [State.frames_setFrames _ B.cur₁, B.back]
    refine fin (a - a / b * b) (fun fs => ?_) (by funext s'; simp [fmspec, Cond.after, Cond.holds, Cond.value, Term.eval, hb0]; exact irem_eq_mod _ _)
    by_cases hfs : handOver s₁ (some (.int (a - a / b * b))) below = some fs
    · left
      unfold entryFrame; rw [hloc]
      refine Steps.instrAtOv (c := _) (by simpa using B.here) ?_
      simp [jvm, wpRun, exec, B.here.top, B.exec, B.bytes, fmd_0]
      refine Steps.instrAtOv (c := _) (by simpa using B.here) ?_
      simp [jvm, wpRun, exec, B.here.top, B.exec, B.bytes, fmd_1]
      refine Steps.instrAtOv (c := _) (by simpa using B.here) ?_
      simp [jvm, wpRun, exec, B.here.top, B.exec, B.bytes, fmd_2, hb0]
      refine Steps.instrAtOv (c := _) (by simpa using B.here) ?_
      simp [jvm, wpRun, exec, B.here.top, B.exec, B.bytes, fmd_3, storeLocals, storeSelf, setAt, Value.category]
      refine Steps.instrAtOv (c := _) (by simpa using B.here) ?_
      simp [jvm, wpRun, exec, B.here.top, B.exec, B.bytes, fmd_4]
      refine Steps.instrAtOv (c := _) (by simpa using B.here) ?_
      simp [jvm, wpRun, exec, B.here.top, B.exec, B.bytes, fmd_5]
      refine Steps.instrAtOv (c := _) (by simpa using B.here) ?_
      simp [jvm, wpRun, exec, B.here.top, B.exec, B.bytes, fmd_6]
      refine Steps.instrAtOv (c := _) (by simpa using B.here) ?_
      simp [jvm, wpRun, exec, B.here.top, B.exec, B.bytes, fmd_7, ifCond.holds, hx]
      refine Steps.instrAtOv (c := _) (by simpa using B.here) ?_
      simp [jvm, wpRun, exec, B.here.top, B.exec, B.bytes, fmd_18]
      refine Steps.instrAtOv (c := _) (by simpa using B.here) ?_
      simp [jvm, wpRun, exec, B.here.top, B.exec, B.bytes, fmd_19, B.method₁, B.returns, narrow]
      intro acts
      rw [ret_to B.frames₁ B.method₁ B.notSynchronized rfl rfl hfs]
      exact Steps.refl _
    · exact Or.inr hfs
def fmF : CF := fun as h => match as with
  | [.int a, .int b] => if 0 ≤ a ∧ 0 < b then some (some (.int (a - a / b * b)), h) else none
  | _ => none
section FMC
variable {p : Program} {l : Launch} {e : Env} {R : Room} {s : State} {m : MethodId} {args : Array Value} {below : List Frame} {meth : Method} {c : Code} {cells slots : Nat} {T : State} {locs : List Loc}
theorem fm_V (X : Stand p l e R s m args below meth c T locs cells slots) (hexec : p.tables.exec = Jvm.exec) {own : String} {index : Nat} (hown : s.vm.findClass own = some m.cls)
    (hlink : (Cond.methodLink own index fmy).before args s = true) (hstat : (Cond.static fmy).before args s = true) (hinit : (Cond.initialized "java/lang/Math").before args s = true)
    (hcode : (Cond.code fmy fmc 3 (some .int)).before args s = true)
    {g : JFrame} (hg : g.method = m) (hsize : g.locals.size = c.maxLocals) {a b : Int32} (ha : 0 ≤ a) (hb : 0 < b) {rest : List Value} (hstack : g.stack = .int b :: .int a :: rest) (hdg : decode c.code g.pc = .ok (.invokestatic index, 3))
    (hframes : 1 ≤ R.frames) (hlocals : 2 * g.monitorRoom + (rest.map fun v => v.category).sum + 14 ≤ R.locals) (hcells : cells ≤ R.cells) (hslots : slots ≤ R.slots) :
    ∃ vm', Stand p l e R s m args below meth c (T.setVm vm') locs cells slots ∧
      ∀ target, Steps p.tables e below ((T.setVm vm').setTop { g with pc := g.pc + 3, stack := .int (a - a / b * b) :: rest }) target → Steps p.tables e below (T.setTop g) target := by
  have hb0 : ¬ b = 0 := fun z => by subst z; exact absurd hb (by decide)
  obtain ⟨v, T', X', ⟨first, t, hpost⟩, hstep⟩ := X.staticByContractV hexec hown hlink hstat hinit hcode (by decide)
    (fm_meets l)
    rfl rfl rfl rfl
    (fun args' first o s₂ h => by
      simp only [fmspec, Cond.after_and, Bool.and_eq_true] at h
      cases o with
      | returned r => exact ⟨r, rfl⟩
      | threw y => simp [Cond.after, Cond.holds, Cond.value] at h)
    hg hsize (argsL := [.int a, .int b]) (rest := rest)
    (fun sig hs => by
      have h : parseMethodDescriptor "(II)I" = some { parameters := [.int, .int], returnType := some .int } := by decide +kernel
      rw [show fmy.desc = "(II)I" from rfl, h] at hs
      rw [← Option.some.inj hs]; rfl)
    hstack hdg
    (fun vm' hW => by
      simp only [fmspec, Cond.before_and, Bool.and_eq_true]
      refine ⟨?_, rfl, rfl, rfl, ?_, ?_⟩
      · have q := hcode
        rw [← Cond.code_setVm hW.alike] at q
        simp only [Cond.before, Cond.holds, Cond.value, State.methodNamed?, State.vm_setVm] at q ⊢
        exact q
      · simpa [Cond.before, Cond.holds, Cond.value, Term.eval] using ha
      · simpa [Cond.before, Cond.holds, Cond.value, Term.eval] using hb)
    (by show 0 + 1 ≤ R.frames; omega) (by show 2 * g.monitorRoom + (rest.map fun v => v.category).sum + (3 + 11) + 0 ≤ R.locals; omega) (by show cells + 0 ≤ R.cells; omega) (by show slots + 0 ≤ R.slots; omega)
  refine ⟨T', X', fun target h => hstep target ?_⟩
  obtain rfl : v = some (.int (a - a / b * b)) := by
    rcases v with _ | w
    · simp [fmspec, Cond.after, Cond.holds, Cond.value, Term.eval, hb0] at hpost
    · cases w <;> simp [fmspec, Cond.after, Cond.holds, Cond.value, Term.eval, hb0] at hpost
      rw [irem_eq_mod]
      simp [hpost]
  exact h
end FMC
theorem clk_F {p : Program} {l : Launch} {e : Env} {R : Room} {s : State} {m : MethodId} {args : Array Value} {below : List Frame} {meth : Method} {c : Code} {cc : ByteArray} {nL : Nat} {own : String} {D : va_G} {aC : Nat → ClassId} {A : Nat → Prop} {ad0 : Nat → Nat} {N0 x : Nat} (X : CTX p s m args c cc nL own D aC A) (hst : Cond.static fmy ∈ gdW ∧ Cond.initialized "java/lang/Math" ∈ gdW ∧ Cond.code fmy fmc 3 (some .int) ∈ gdW) (hl : Cond.methodLink own x fmy ∈ gdW) (hR : 1 ≤ R.frames ∧ 22 ≤ R.locals) : CLK p l e R s m args below meth c cc nL D aC A ad0 N0 (.invokestatic x) 2 none 0 0 fmF := by
  obtain ⟨hx, hb, hml, hown, hC, hK, hA⟩ := X
  intro Q pc ls rest As h h' r ad H locs cells slots hlen hf hd hsz hrest hc1 hs1 hH hokA hrcv kk
  unfold fmF at hf
  split at hf
  · rename_i a b
    split at hf
    · rename_i hg
      cases hf
      intro T hT X
      obtain ⟨vm', X', st⟩ := fm_V X hx hown (hC.1 _ hl) (hC.1 _ hst.1) (hC.1 _ hst.2.1) (hC.1 _ hst.2.2) (g := F0 m pc ls (.int b :: .int a :: rest)) rfl (by rw [hml]; exact hsz) hg.1 hg.2 (rest := rest) rfl (by rw [hb]; exact hd) hR.1 (by have := room_rest (m := m) (pc := pc) (ls := ls) (st := .int b :: .int a :: rest) hrest; omega) hc1 hs1
      obtain ⟨t, a1, b1⟩ := kk ad H locs hH (fun _ _ => rfl) (Nat.le_refl _) (fun v z => by cases z; trivial) (T.setVm vm') hT X'
      exact ⟨t, st t a1, b1⟩
    · cases hf
  · cases hf
end
section
/-! EACH METHOD as data of the small machine, leaves first (by program) -/
def fObj : CF := fun _ h => some (none, h)
def iX0_init : List (Nat × Instr × Nat × List Nat) := [(0, .aload_n 0, 1, []), (1, .invokespecial 3, 4, []), (4, .aload_n 0, 5, []), (5, .bipush 20, 7, []), (7, .newarray .int, 9, []), (9, .putfield 9, 12, []), (12, .aload_n 0, 13, []), (13, .iconst 0, 14, []), (14, .putfield 15, 17, []), (17, .aload_n 0, 18, []), (18, .iconst 0, 19, []), (19, .putfield 19, 22, []), (22, .return_, 23, [])]
noncomputable def mX0_init : MI := (iX0_init, [(9, 0, 0), (15, 0, 1), (19, 0, 2)], [], [(13, 1, 99, 0, 0, fObj)], [], (1, 20), 0, [])
noncomputable def fX0_init : CF := mth mX0_init 1
def iX0_clear : List (Nat × Instr × Nat × List Nat) := [(0, .aload_n 0, 1, []), (1, .iconst 0, 2, []), (2, .putfield 15, 5, []), (5, .aload_n 0, 6, []), (6, .iconst 0, 7, []), (7, .putfield 19, 10, []), (10, .return_, 11, [])]
noncomputable def mX0_clear : MI := (iX0_clear, [(15, 0, 1), (19, 0, 2)], [], [], [], (0, 0), 0, [])
noncomputable def fX0_clear : CF := mth mX0_clear 1
def iX0_add : List (Nat × Instr × Nat × List Nat) := [(0, .aload_n 0, 1, []), (1, .getfield 19, 4, []), (4, .ifCond .lt 15, 7, [19]), (7, .aload_n 0, 8, []), (8, .getfield 19, 11, []), (11, .aload_n 0, 12, []), (12, .getfield 9, 15, []), (15, .arraylength, 16, []), (16, .if_icmp .lt 5, 19, [21]), (19, .iconst 0, 20, []), (20, .ireturn, 21, []), (21, .aload_n 0, 22, []), (22, .getfield 9, 25, []), (25, .aload_n 0, 26, []), (26, .getfield 19, 29, []), (29, .iload_n 1, 30, []), (30, .iastore, 31, []), (31, .iload_n 2, 32, []), (32, .ifCond .eq 18, 35, [50]), (35, .aload_n 0, 36, []), (36, .dup, 37, []), (37, .getfield 15, 40, []), (40, .iconst 1, 41, []), (41, .aload_n 0, 42, []), (42, .getfield 19, 45, []), (45, .ishl, 46, []), (46, .ior, 47, []), (47, .putfield 15, 50, []), (50, .aload_n 0, 51, []), (51, .dup, 52, []), (52, .getfield 19, 55, []), (55, .iconst 1, 56, []), (56, .iadd, 57, []), (57, .putfield 19, 60, []), (60, .iconst 1, 61, []), (61, .ireturn, 62, [])]
noncomputable def mX0_add : MI := (iX0_add, [(9, 0, 0), (15, 0, 1), (19, 0, 2)], [], [], [], (0, 0), 2, [])
noncomputable def fX0_add : CF := mth mX0_add 3
def iX7_at : List (Nat × Instr × Nat × List Nat) := [(0, .iload_n 1, 1, []), (1, .ifCond .lt 29, 4, [30]), (4, .iload_n 1, 5, []), (5, .aload_n 0, 6, []), (6, .getfield 15, 9, []), (9, .if_icmp .ge 21, 12, [30]), (12, .iload_n 1, 13, []), (13, .aload_n 0, 14, []), (14, .getfield 11, 17, []), (17, .arraylength, 18, []), (18, .if_icmp .ge 12, 21, [30]), (21, .aload_n 0, 22, []), (22, .getfield 11, 25, []), (25, .iload_n 1, 26, []), (26, .iaload, 27, []), (27, .goto 4, 30, [31]), (30, .iconst (-1), 31, []), (31, .ireturn, 32, [])]
noncomputable def mX7_at : MI := (iX7_at, [(11, 7, 0), (15, 7, 1)], [], [], [], (0, 0), 1, [])
noncomputable def fX7_at : CF := mth mX7_at 2
def iX7_placeOf : List (Nat × Instr × Nat × List Nat) := [(0, .iconst 0, 1, []), (1, .istore_n 2, 2, []), (2, .aload_n 0, 3, []), (3, .getfield 15, 6, []), (6, .istore_n 3, 7, []), (7, .iconst 0, 8, []), (8, .istore 4, 10, []), (10, .iload_n 2, 11, []), (11, .iload_n 3, 12, []), (12, .if_icmp .ge 45, 15, [57]), (15, .iload 4, 17, []), (17, .sipush 256, 20, []), (20, .if_icmp .ge 37, 23, [57]), (23, .iload_n 2, 24, []), (24, .iload_n 3, 25, []), (25, .iadd, 26, []), (26, .iconst 2, 27, []), (27, .idiv, 28, []), (28, .istore 5, 30, []), (30, .aload_n 0, 31, []), (31, .iload 5, 33, []), (33, .invokevirtual 23, 36, []), (36, .iload_n 1, 37, []), (37, .if_icmp .ge 11, 40, [48]), (40, .iload 5, 42, []), (42, .iconst 1, 43, []), (43, .iadd, 44, []), (44, .istore_n 2, 45, []), (45, .goto 6, 48, [51]), (48, .iload 5, 50, []), (50, .istore_n 3, 51, []), (51, .iinc 4 1, 54, []), (54, .goto (-44), 57, [10]), (57, .iload_n 2, 58, []), (58, .ireturn, 59, [])]
noncomputable def mX7_placeOf : MI := (iX7_placeOf, [(15, 7, 1)], [], [(92, 2, 7, 0, 0, fX7_at)], [], (0, 0), 1, [(10, [5])])
noncomputable def fX7_placeOf : CF := mth mX7_placeOf 6
def iX7_holds : List (Nat × Instr × Nat × List Nat) := [(0, .iload_n 1, 1, []), (1, .ifCond .lt 20, 4, [21]), (4, .aload_n 0, 5, []), (5, .aload_n 0, 6, []), (6, .iload_n 1, 7, []), (7, .invokevirtual 19, 10, []), (10, .invokevirtual 23, 13, []), (13, .iload_n 1, 14, []), (14, .if_icmp .ne 7, 17, [21]), (17, .iconst 1, 18, []), (18, .goto 4, 21, [22]), (21, .iconst 0, 22, []), (22, .ireturn, 23, [])]
noncomputable def mX7_holds : MI := (iX7_holds, [], [], [(76, 2, 7, 0, 0, fX7_placeOf), (92, 2, 7, 0, 0, fX7_at)], [], (0, 0), 2, [(10, [0]), (13, [0])])
noncomputable def fX7_holds : CF := mth mX7_holds 2
def iX11_has : List (Nat × Instr × Nat × List Nat) := [(0, .iload_n 1, 1, []), (1, .ifCond .lt 21, 4, [22]), (4, .iload_n 1, 5, []), (5, .bipush 31, 7, []), (7, .if_icmp .ge 15, 10, [22]), (10, .iload_n 0, 11, []), (11, .iload_n 1, 12, []), (12, .iushr, 13, []), (13, .iconst 1, 14, []), (14, .iand, 15, []), (15, .ifCond .eq 7, 18, [22]), (18, .iconst 1, 19, []), (19, .goto 4, 22, [23]), (22, .iconst 0, 23, []), (23, .ireturn, 24, [])]
noncomputable def mX11_has : MI := (iX11_has, [], [], [], [], (0, 0), 2, [])
noncomputable def fX11_has : CF := mth mX11_has 2
def iX0_firstWrong : List (Nat × Instr × Nat × List Nat) := [(0, .iconst 0, 1, []), (1, .istore_n 2, 2, []), (2, .iload_n 2, 3, []), (3, .aload_n 0, 4, []), (4, .getfield 19, 7, []), (7, .if_icmp .ge 41, 10, [48]), (10, .iload_n 2, 11, []), (11, .aload_n 0, 12, []), (12, .getfield 9, 15, []), (15, .arraylength, 16, []), (16, .if_icmp .ge 32, 19, [48]), (19, .aload_n 1, 20, []), (20, .aload_n 0, 21, []), (21, .getfield 9, 24, []), (24, .iload_n 2, 25, []), (25, .iaload, 26, []), (26, .invokevirtual 22, 29, []), (29, .aload_n 0, 30, []), (30, .getfield 15, 33, []), (33, .iload_n 2, 34, []), (34, .invokestatic 28, 37, []), (37, .if_icmp .eq 5, 40, [42]), (40, .iload_n 2, 41, []), (41, .ireturn, 42, []), (42, .iinc 2 1, 45, []), (45, .goto (-43), 48, [2]), (48, .iconst (-1), 49, []), (49, .ireturn, 50, [])]
noncomputable def mX0_firstWrong : MI := (iX0_firstWrong, [(9, 0, 0), (15, 0, 1), (19, 0, 2)], [], [(88, 2, 7, 0, 0, fX7_holds), (114, 2, 11, 0, 0, fX11_has)], [], (0, 0), 1, [])
noncomputable def fX0_firstWrong : CF := mth mX0_firstWrong 3
def iJ7_fill_53178 : List (Nat × Instr × Nat × List Nat) := [(0, .iconst 0, 1, []), (1, .istore_n 2, 2, []), (2, .aload_n 0, 3, []), (3, .arraylength, 4, []), (4, .istore_n 3, 5, []), (5, .iload_n 2, 6, []), (6, .iload_n 3, 7, []), (7, .if_icmp .ge 13, 10, [20]), (10, .aload_n 0, 11, []), (11, .iload_n 2, 12, []), (12, .iload_n 1, 13, []), (13, .iastore, 14, []), (14, .iinc 2 1, 17, []), (17, .goto (-12), 20, [5]), (20, .return_, 21, [])]
noncomputable def mJ7_fill_53178 : MI := (iJ7_fill_53178, [], [], [], [], (0, 0), 0, [])
noncomputable def fJ7_fill_53178 : CF := mth mJ7_fill_53178 4
def iX9_clear : List (Nat × Instr × Nat × List Nat) := [(0, .aload_n 0, 1, []), (1, .getfield 9, 4, []), (4, .iconst 1, 5, []), (5, .invokestatic 18, 8, []), (8, .aload_n 0, 9, []), (9, .iconst 0, 10, []), (10, .putfield 24, 13, []), (13, .aload_n 0, 14, []), (14, .bipush 15, 16, []), (16, .putfield 28, 19, []), (19, .return_, 20, [])]
noncomputable def mX9_clear : MI := (iX9_clear, [(9, 9, 0), (24, 9, 1), (28, 9, 2)], [], [(74, 2, 99, 0, 0, fJ7_fill_53178)], [], (0, 0), 0, [])
noncomputable def fX9_clear : CF := mth mX9_clear 1
def iX9_init : List (Nat × Instr × Nat × List Nat) := [(0, .aload_n 0, 1, []), (1, .invokespecial 3, 4, []), (4, .aload_n 0, 5, []), (5, .bipush 8, 7, []), (7, .newarray .int, 9, []), (9, .putfield 9, 12, []), (12, .aload_n 0, 13, []), (13, .invokevirtual 15, 16, []), (16, .return_, 17, [])]
noncomputable def mX9_init : MI := (iX9_init, [(9, 9, 0)], [], [(13, 1, 99, 0, 0, fObj), (60, 1, 9, 0, 0, fX9_clear)], [], (1, 8), 0, [(16, [0])])
noncomputable def fX9_init : CF := mth mX9_init 1
def iX1_init : List (Nat × Instr × Nat × List Nat) := [(0, .aload_n 0, 1, []), (1, .invokespecial 3, 4, []), (4, .aload_n 0, 5, []), (5, .bipush 20, 7, []), (7, .anewarray 9, 10, []), (10, .putfield 11, 13, []), (13, .iconst 0, 14, []), (14, .istore_n 1, 15, []), (15, .iload_n 1, 16, []), (16, .aload_n 0, 17, []), (17, .getfield 11, 20, []), (20, .arraylength, 21, []), (21, .if_icmp .ge 22, 24, [43]), (24, .aload_n 0, 25, []), (25, .getfield 11, 28, []), (28, .iload_n 1, 29, []), (29, .new 9, 32, []), (32, .dup, 33, []), (33, .invokespecial 17, 36, []), (36, .aastore, 37, []), (37, .iinc 1 1, 40, []), (40, .goto (-25), 43, [15]), (43, .aload_n 0, 44, []), (44, .iconst 0, 45, []), (45, .putfield 18, 48, []), (48, .aload_n 0, 49, []), (49, .iconst 0, 50, []), (50, .putfield 22, 53, []), (53, .return_, 54, [])]
noncomputable def mX1_init : MI := (iX1_init, [(11, 1, 0), (18, 1, 1), (22, 1, 2)], [], [(13, 1, 99, 0, 0, fObj), (69, 1, 9, 1, 8, fX9_init)], [(9, 9)], (41, 240), 0, [(4, [1])])
noncomputable def fX1_init : CF := mth mX1_init 2
def iX1_clear : List (Nat × Instr × Nat × List Nat) := [(0, .aload_n 0, 1, []), (1, .iconst 0, 2, []), (2, .putfield 18, 5, []), (5, .aload_n 0, 6, []), (6, .iconst 0, 7, []), (7, .putfield 22, 10, []), (10, .return_, 11, [])]
noncomputable def mX1_clear : MI := (iX1_clear, [(18, 1, 1), (22, 1, 2)], [], [], [], (0, 0), 0, [])
noncomputable def fX1_clear : CF := mth mX1_clear 1
def fJ9_floorMod_7cf53 : CF := fmF
def iX1_settingAt : List (Nat × Instr × Nat × List Nat) := [(0, .aload_n 0, 1, []), (1, .getfield 18, 4, []), (4, .iload_n 1, 5, []), (5, .iadd, 6, []), (6, .bipush 20, 8, []), (8, .invokestatic 33, 11, []), (11, .istore_n 2, 12, []), (12, .aload_n 0, 13, []), (13, .getfield 11, 16, []), (16, .iload_n 2, 17, []), (17, .aload_n 0, 18, []), (18, .getfield 11, 21, []), (21, .arraylength, 22, []), (22, .if_icmp .ge 7, 25, [29]), (25, .iload_n 2, 26, []), (26, .goto 4, 29, [30]), (29, .iconst 0, 30, []), (30, .aaload, 31, []), (31, .areturn, 32, [])]
noncomputable def mX1_settingAt : MI := (iX1_settingAt, [(11, 1, 0), (18, 1, 1)], [], [(134, 2, 99, 0, 0, fJ9_floorMod_7cf53)], [], (0, 0), 4, [(11, [1, 2])])
noncomputable def fX1_settingAt : CF := mth mX1_settingAt 3
def iX9_costOf : List (Nat × Instr × Nat × List Nat) := [(0, .iload_n 1, 1, []), (1, .ifCond .lt 21, 4, [22]), (4, .iload_n 1, 5, []), (5, .aload_n 0, 6, []), (6, .getfield 9, 9, []), (9, .arraylength, 10, []), (10, .if_icmp .ge 12, 13, [22]), (13, .aload_n 0, 14, []), (14, .getfield 9, 17, []), (17, .iload_n 1, 18, []), (18, .iaload, 19, []), (19, .goto 4, 22, [23]), (22, .iconst 0, 23, []), (23, .ireturn, 24, [])]
noncomputable def mX9_costOf : MI := (iX9_costOf, [(9, 9, 0)], [], [], [], (0, 0), 1, [])
noncomputable def fX9_costOf : CF := mth mX9_costOf 2
def iX9_copy : List (Nat × Instr × Nat × List Nat) := [(0, .iconst 0, 1, []), (1, .istore_n 2, 2, []), (2, .iload_n 2, 3, []), (3, .aload_n 0, 4, []), (4, .getfield 9, 7, []), (7, .arraylength, 8, []), (8, .if_icmp .ge 20, 11, [28]), (11, .aload_n 0, 12, []), (12, .getfield 9, 15, []), (15, .iload_n 2, 16, []), (16, .aload_n 1, 17, []), (17, .iload_n 2, 18, []), (18, .invokevirtual 31, 21, []), (21, .iastore, 22, []), (22, .iinc 2 1, 25, []), (25, .goto (-23), 28, [2]), (28, .aload_n 0, 29, []), (29, .aload_n 1, 30, []), (30, .getfield 24, 33, []), (33, .putfield 24, 36, []), (36, .aload_n 0, 37, []), (37, .aload_n 1, 38, []), (38, .getfield 28, 41, []), (41, .putfield 28, 44, []), (44, .return_, 45, [])]
noncomputable def mX9_copy : MI := (iX9_copy, [(9, 9, 0), (24, 9, 1), (28, 9, 2)], [], [(124, 2, 9, 0, 0, fX9_costOf)], [], (0, 0), 0, [])
noncomputable def fX9_copy : CF := mth mX9_copy 3
def iX1_add : List (Nat × Instr × Nat × List Nat) := [(0, .aload_n 0, 1, []), (1, .aload_n 0, 2, []), (2, .getfield 22, 5, []), (5, .invokevirtual 25, 8, []), (8, .aload_n 1, 9, []), (9, .invokevirtual 29, 12, []), (12, .aload_n 0, 13, []), (13, .getfield 22, 16, []), (16, .bipush 20, 18, []), (18, .if_icmp .ge 16, 21, [34]), (21, .aload_n 0, 22, []), (22, .dup, 23, []), (23, .getfield 22, 26, []), (26, .iconst 1, 27, []), (27, .iadd, 28, []), (28, .putfield 22, 31, []), (31, .goto 16, 34, [47]), (34, .aload_n 0, 35, []), (35, .aload_n 0, 36, []), (36, .getfield 18, 39, []), (39, .iconst 1, 40, []), (40, .iadd, 41, []), (41, .bipush 20, 43, []), (43, .irem, 44, []), (44, .putfield 18, 47, []), (47, .return_, 48, [])]
noncomputable def mX1_add : MI := (iX1_add, [(18, 1, 1), (22, 1, 2)], [], [(100, 2, 1, 0, 0, fX1_settingAt), (116, 2, 9, 0, 0, fX9_copy)], [], (0, 0), 0, [(12, [1])])
noncomputable def fX1_add : CF := mth mX1_add 2
def iX1_takeBack : List (Nat × Instr × Nat × List Nat) := [(0, .iload_n 1, 1, []), (1, .iconst 1, 2, []), (2, .if_icmp .lt 11, 5, [13]), (5, .iload_n 1, 6, []), (6, .aload_n 0, 7, []), (7, .getfield 22, 10, []), (10, .if_icmp .le 4, 13, [14]), (13, .return_, 14, []), (14, .aload_n 0, 15, []), (15, .dup, 16, []), (16, .getfield 22, 19, []), (19, .iload_n 1, 20, []), (20, .isub, 21, []), (21, .putfield 22, 24, []), (24, .aload_n 2, 25, []), (25, .aload_n 0, 26, []), (26, .aload_n 0, 27, []), (27, .getfield 22, 30, []), (30, .invokevirtual 25, 33, []), (33, .invokevirtual 29, 36, []), (36, .return_, 37, [])]
noncomputable def mX1_takeBack : MI := (iX1_takeBack, [(22, 1, 2)], [], [(100, 2, 1, 0, 0, fX1_settingAt), (116, 2, 9, 0, 0, fX9_copy)], [], (0, 0), 0, [(33, [0, 1, 2]), (36, [0, 1, 2])])
noncomputable def fX1_takeBack : CF := mth mX1_takeBack 3
def iX2_init : List (Nat × Instr × Nat × List Nat) := [(0, .aload_n 0, 1, []), (1, .invokespecial 1, 4, []), (4, .aload_n 0, 5, []), (5, .new 7, 8, []), (8, .dup, 9, []), (9, .invokespecial 9, 12, []), (12, .putfield 10, 15, []), (15, .aload_n 0, 16, []), (16, .iconst 0, 17, []), (17, .putfield 16, 20, []), (20, .aload_n 0, 21, []), (21, .iconst 0, 22, []), (22, .putfield 20, 25, []), (25, .return_, 26, [])]
noncomputable def mX2_init : MI := (iX2_init, [(10, 2, 0), (16, 2, 1), (20, 2, 2)], [], [(5, 1, 99, 0, 0, fObj), (37, 1, 9, 1, 8, fX9_init)], [(7, 9)], (2, 11), 0, [])
noncomputable def fX2_init : CF := mth mX2_init 1
def iX2_hold : List (Nat × Instr × Nat × List Nat) := [(0, .aload_n 0, 1, []), (1, .getfield 10, 4, []), (4, .aload_n 1, 5, []), (5, .invokevirtual 24, 8, []), (8, .aload_n 0, 9, []), (9, .iload_n 2, 10, []), (10, .putfield 16, 13, []), (13, .aload_n 0, 14, []), (14, .iconst 1, 15, []), (15, .putfield 20, 18, []), (18, .return_, 19, [])]
noncomputable def mX2_hold : MI := (iX2_hold, [(10, 2, 0), (16, 2, 1), (20, 2, 2)], [], [(96, 2, 9, 0, 0, fX9_copy)], [], (0, 0), 0, [(8, [1])])
noncomputable def fX2_hold : CF := mth mX2_hold 3
def iX3_init : List (Nat × Instr × Nat × List Nat) := [(0, .aload_n 0, 1, []), (1, .invokespecial 1, 4, []), (4, .aload_n 0, 5, []), (5, .bipush 28, 7, []), (7, .newarray .int, 9, []), (9, .putfield 9, 12, []), (12, .aload_n 0, 13, []), (13, .iconst 0, 14, []), (14, .putfield 13, 17, []), (17, .return_, 18, [])]
noncomputable def mX3_init : MI := (iX3_init, [(9, 3, 0), (13, 3, 1)], [], [(5, 1, 99, 0, 0, fObj)], [], (1, 28), 0, [])
noncomputable def fX3_init : CF := mth mX3_init 1
def iX8_giftOf : List (Nat × Instr × Nat × List Nat) := [(0, .iload_n 0, 1, []), (1, .bipush 8, 3, []), (3, .imul, 4, []), (4, .iload_n 1, 5, []), (5, .iadd, 6, []), (6, .ireturn, 7, [])]
noncomputable def mX8_giftOf : MI := (iX8_giftOf, [], [], [], [], (0, 0), 1, [])
noncomputable def fX8_giftOf : CF := mth mX8_giftOf 2
def iX8_countWith : List (Nat × Instr × Nat × List Nat) := [(0, .iload_n 1, 1, []), (1, .iload_n 2, 2, []), (2, .invokestatic 43, 5, []), (5, .istore_n 3, 6, []), (6, .iload_n 3, 7, []), (7, .ifCond .lt 21, 10, [28]), (10, .iload_n 3, 11, []), (11, .aload_n 0, 12, []), (12, .getfield 15, 15, []), (15, .arraylength, 16, []), (16, .if_icmp .ge 12, 19, [28]), (19, .aload_n 0, 20, []), (20, .getfield 15, 23, []), (23, .iload_n 3, 24, []), (24, .iaload, 25, []), (25, .goto 4, 28, [29]), (28, .iconst 0, 29, []), (29, .ireturn, 30, [])]
noncomputable def mX8_countWith : MI := (iX8_countWith, [(15, 8, 1)], [], [(174, 2, 8, 0, 0, fX8_giftOf)], [], (0, 0), 1, [(5, [1, 2, 3])])
noncomputable def fX8_countWith : CF := mth mX8_countWith 4
def iX6_cellOf : List (Nat × Instr × Nat × List Nat) := [(0, .iload_n 1, 1, []), (1, .ifCond .lt 21, 4, [22]), (4, .iload_n 1, 5, []), (5, .aload_n 0, 6, []), (6, .getfield 15, 9, []), (9, .arraylength, 10, []), (10, .if_icmp .ge 12, 13, [22]), (13, .aload_n 0, 14, []), (14, .getfield 15, 17, []), (17, .iload_n 1, 18, []), (18, .iaload, 19, []), (19, .goto 4, 22, [23]), (22, .iconst (-1), 23, []), (23, .ireturn, 24, [])]
noncomputable def mX6_cellOf : MI := (iX6_cellOf, [(15, 6, 1)], [], [], [], (0, 0), 1, [])
noncomputable def fX6_cellOf : CF := mth mX6_cellOf 2
def iX6_isWriter : List (Nat × Instr × Nat × List Nat) := [(0, .iload_n 1, 1, []), (1, .ifCond .lt 24, 4, [25]), (4, .iload_n 1, 5, []), (5, .bipush 8, 7, []), (7, .if_icmp .ge 18, 10, [25]), (10, .aload_n 0, 11, []), (11, .getfield 25, 14, []), (14, .iload_n 1, 15, []), (15, .iushr, 16, []), (16, .iconst 1, 17, []), (17, .iand, 18, []), (18, .ifCond .eq 7, 21, [25]), (21, .iconst 1, 22, []), (22, .goto 4, 25, [26]), (25, .iconst 0, 26, []), (26, .ireturn, 27, [])]
noncomputable def mX6_isWriter : MI := (iX6_isWriter, [(25, 6, 4)], [], [], [], (0, 0), 2, [])
noncomputable def fX6_isWriter : CF := mth mX6_isWriter 2
def iX6_kindOf : List (Nat × Instr × Nat × List Nat) := [(0, .aload_n 0, 1, []), (1, .iload_n 1, 2, []), (2, .invokevirtual 46, 5, []), (5, .ifCond .eq 17, 8, [22]), (8, .aload_n 0, 9, []), (9, .iload_n 2, 10, []), (10, .invokevirtual 46, 13, []), (13, .ifCond .eq 7, 16, [20]), (16, .iconst 1, 17, []), (17, .goto 4, 20, [21]), (20, .iconst 0, 21, []), (21, .ireturn, 22, []), (22, .aload_n 0, 23, []), (23, .iload_n 2, 24, []), (24, .invokevirtual 46, 27, []), (27, .ifCond .eq 7, 30, [34]), (30, .iconst 3, 31, []), (31, .goto 4, 34, [35]), (34, .iconst 2, 35, []), (35, .ireturn, 36, [])]
noncomputable def mX6_kindOf : MI := (iX6_kindOf, [], [], [(184, 2, 6, 0, 0, fX6_isWriter)], [], (0, 0), 1, [(5, [1]), (13, [0, 1, 2]), (27, [0, 1, 2])])
noncomputable def fX6_kindOf : CF := mth mX6_kindOf 3
def iX6_mayOvertake : List (Nat × Instr × Nat × List Nat) := [(0, .aload_n 0, 1, []), (1, .iload_n 1, 2, []), (2, .invokevirtual 43, 5, []), (5, .aload_n 0, 6, []), (6, .iload_n 2, 7, []), (7, .invokevirtual 43, 10, []), (10, .if_icmp .eq 20, 13, [30]), (13, .iload_n 3, 14, []), (14, .aload_n 0, 15, []), (15, .iload_n 1, 16, []), (16, .iload_n 2, 17, []), (17, .invokevirtual 52, 20, []), (20, .invokestatic 39, 23, []), (23, .ifCond .eq 7, 26, [30]), (26, .iconst 1, 27, []), (27, .goto 4, 30, [31]), (30, .iconst 0, 31, []), (31, .ireturn, 32, [])]
noncomputable def mX6_mayOvertake : MI := (iX6_mayOvertake, [], [], [(158, 2, 11, 0, 0, fX11_has), (172, 2, 6, 0, 0, fX6_cellOf), (208, 3, 6, 0, 0, fX6_kindOf)], [], (0, 0), 2, [(20, [0, 1, 2, 3]), (23, [0, 1, 2, 3])])
noncomputable def fX6_mayOvertake : CF := mth mX6_mayOvertake 4
def iX11_gapsBetween : List (Nat × Instr × Nat × List Nat) := [(0, .iconst 0, 1, []), (1, .istore_n 2, 2, []), (2, .iload_n 0, 3, []), (3, .iconst 1, 4, []), (4, .iadd, 5, []), (5, .istore_n 3, 6, []), (6, .iload_n 3, 7, []), (7, .iload_n 1, 8, []), (8, .if_icmp .gt 21, 11, [29]), (11, .iload_n 3, 12, []), (12, .bipush 8, 14, []), (14, .if_icmp .ge 15, 17, [29]), (17, .iload_n 2, 18, []), (18, .iconst 1, 19, []), (19, .iload_n 3, 20, []), (20, .ishl, 21, []), (21, .ior, 22, []), (22, .istore_n 2, 23, []), (23, .iinc 3 1, 26, []), (26, .goto (-20), 29, [6]), (29, .iload_n 2, 30, []), (30, .ireturn, 31, [])]
noncomputable def mX11_gapsBetween : MI := (iX11_gapsBetween, [], [], [], [], (0, 0), 1, [(6, [0])])
noncomputable def fX11_gapsBetween : CF := mth mX11_gapsBetween 4
def iX3_add : List (Nat × Instr × Nat × List Nat) := [(0, .aload_n 0, 1, []), (1, .getfield 13, 4, []), (4, .ifCond .lt 35, 7, [39]), (7, .aload_n 0, 8, []), (8, .getfield 13, 11, []), (11, .aload_n 0, 12, []), (12, .getfield 9, 15, []), (15, .arraylength, 16, []), (16, .if_icmp .ge 23, 19, [39]), (19, .aload_n 0, 20, []), (20, .getfield 9, 23, []), (23, .aload_n 0, 24, []), (24, .getfield 13, 27, []), (27, .iload_n 1, 28, []), (28, .iastore, 29, []), (29, .aload_n 0, 30, []), (30, .dup, 31, []), (31, .getfield 13, 34, []), (34, .iconst 1, 35, []), (35, .iadd, 36, []), (36, .putfield 13, 39, []), (39, .return_, 40, [])]
noncomputable def mX3_add : MI := (iX3_add, [(9, 3, 0), (13, 3, 1)], [], [], [], (0, 0), 0, [])
noncomputable def fX3_add : CF := mth mX3_add 2
def iX3_gather : List (Nat × Instr × Nat × List Nat) := [(0, .aload_n 0, 1, []), (1, .iconst 0, 2, []), (2, .putfield 13, 5, []), (5, .iconst 0, 6, []), (6, .istore 4, 8, []), (8, .iload 4, 10, []), (10, .aload_n 1, 11, []), (11, .getfield 17, 14, []), (14, .if_icmp .ge 64, 17, [78]), (17, .iload 4, 19, []), (19, .iconst 1, 20, []), (20, .iadd, 21, []), (21, .istore 5, 23, []), (23, .iload 5, 25, []), (25, .aload_n 1, 26, []), (26, .getfield 17, 29, []), (29, .if_icmp .ge 43, 32, [72]), (32, .aload_n 2, 33, []), (33, .iload 4, 35, []), (35, .iload 5, 37, []), (37, .invokevirtual 22, 40, []), (40, .ifCond .le 26, 43, [66]), (43, .aload_n 1, 44, []), (44, .iload 4, 46, []), (46, .iload 5, 48, []), (48, .iload_n 3, 49, []), (49, .invokevirtual 28, 52, []), (52, .ifCond .eq 14, 55, [66]), (55, .aload_n 0, 56, []), (56, .iload 4, 58, []), (58, .iload 5, 60, []), (60, .invokestatic 32, 63, []), (63, .invokevirtual 37, 66, []), (66, .iinc 5 1, 69, []), (69, .goto (-46), 72, [23]), (72, .iinc 4 1, 75, []), (75, .goto (-67), 78, [8]), (78, .return_, 79, [])]
noncomputable def mX3_gather : MI := (iX3_gather, [(13, 3, 1), (17, 6, 3)], [], [(88, 3, 8, 0, 0, fX8_countWith), (112, 4, 6, 0, 0, fX6_mayOvertake), (130, 2, 11, 0, 0, fX11_gapsBetween), (148, 2, 3, 0, 0, fX3_add)], [], (0, 0), 0, [(8, [5])])
noncomputable def fX3_gather : CF := mth mX3_gather 6
def iX3_holdersAt : List (Nat × Instr × Nat × List Nat) := [(0, .iload_n 1, 1, []), (1, .ifCond .lt 21, 4, [22]), (4, .iload_n 1, 5, []), (5, .aload_n 0, 6, []), (6, .getfield 9, 9, []), (9, .arraylength, 10, []), (10, .if_icmp .ge 12, 13, [22]), (13, .aload_n 0, 14, []), (14, .getfield 9, 17, []), (17, .iload_n 1, 18, []), (18, .iaload, 19, []), (19, .goto 4, 22, [23]), (22, .iconst 0, 23, []), (23, .ireturn, 24, [])]
noncomputable def mX3_holdersAt : MI := (iX3_holdersAt, [(9, 3, 0)], [], [], [], (0, 0), 1, [])
noncomputable def fX3_holdersAt : CF := mth mX3_holdersAt 2
def iX3_countHeld : List (Nat × Instr × Nat × List Nat) := [(0, .iconst 0, 1, []), (1, .istore_n 2, 2, []), (2, .iconst 0, 3, []), (3, .istore_n 3, 4, []), (4, .iload_n 3, 5, []), (5, .aload_n 0, 6, []), (6, .getfield 13, 9, []), (9, .if_icmp .ge 22, 12, [31]), (12, .aload_n 0, 13, []), (13, .iload_n 3, 14, []), (14, .invokevirtual 41, 17, []), (17, .iload_n 1, 18, []), (18, .iand, 19, []), (19, .ifCond .eq 6, 22, [25]), (22, .iinc 2 1, 25, []), (25, .iinc 3 1, 28, []), (28, .goto (-24), 31, [4]), (31, .iload_n 2, 32, []), (32, .ireturn, 33, [])]
noncomputable def mX3_countHeld : MI := (iX3_countHeld, [(13, 3, 1)], [], [(164, 2, 3, 0, 0, fX3_holdersAt)], [], (0, 0), 1, [])
noncomputable def fX3_countHeld : CF := mth mX3_countHeld 4
def iX3_areAllHeld : List (Nat × Instr × Nat × List Nat) := [(0, .aload_n 0, 1, []), (1, .iload_n 1, 2, []), (2, .invokevirtual 45, 5, []), (5, .aload_n 0, 6, []), (6, .getfield 13, 9, []), (9, .if_icmp .ne 7, 12, [16]), (12, .iconst 1, 13, []), (13, .goto 4, 16, [17]), (16, .iconst 0, 17, []), (17, .ireturn, 18, [])]
noncomputable def mX3_areAllHeld : MI := (iX3_areAllHeld, [(13, 3, 1)], [], [(180, 2, 3, 0, 0, fX3_countHeld)], [], (0, 0), 2, [(5, [1])])
noncomputable def fX3_areAllHeld : CF := mth mX3_areAllHeld 2
def iJ6_bitCount_0f7a4 : List (Nat × Instr × Nat × List Nat) := [(0, .iload_n 0, 1, []), (1, .iload_n 0, 2, []), (2, .iconst 1, 3, []), (3, .iushr, 4, []), (4, .ldc_w 265, 7, []), (7, .iand, 8, []), (8, .isub, 9, []), (9, .istore_n 0, 10, []), (10, .iload_n 0, 11, []), (11, .ldc_w 266, 14, []), (14, .iand, 15, []), (15, .iload_n 0, 16, []), (16, .iconst 2, 17, []), (17, .iushr, 18, []), (18, .ldc_w 266, 21, []), (21, .iand, 22, []), (22, .iadd, 23, []), (23, .istore_n 0, 24, []), (24, .iload_n 0, 25, []), (25, .iload_n 0, 26, []), (26, .iconst 4, 27, []), (27, .iushr, 28, []), (28, .iadd, 29, []), (29, .ldc_w 267, 32, []), (32, .iand, 33, []), (33, .istore_n 0, 34, []), (34, .iload_n 0, 35, []), (35, .iload_n 0, 36, []), (36, .bipush 8, 38, []), (38, .iushr, 39, []), (39, .iadd, 40, []), (40, .istore_n 0, 41, []), (41, .iload_n 0, 42, []), (42, .iload_n 0, 43, []), (43, .bipush 16, 45, []), (45, .iushr, 46, []), (46, .iadd, 47, []), (47, .istore_n 0, 48, []), (48, .iload_n 0, 49, []), (49, .bipush 63, 51, []), (51, .iand, 52, []), (52, .ireturn, 53, [])]
noncomputable def mJ6_bitCount_0f7a4 : MI := (iJ6_bitCount_0f7a4, [], [(265, .int (1431655765)), (266, .int (858993459)), (267, .int (252645135))], [], [], (0, 0), 1, [])
noncomputable def fJ6_bitCount_0f7a4 : CF := mth mJ6_bitCount_0f7a4 1
def iX3_neededOf : List (Nat × Instr × Nat × List Nat) := [(0, .iconst 0, 1, []), (1, .istore_n 2, 2, []), (2, .iconst 0, 3, []), (3, .istore_n 3, 4, []), (4, .iload_n 3, 5, []), (5, .aload_n 0, 6, []), (6, .getfield 13, 9, []), (9, .if_icmp .ge 32, 12, [41]), (12, .aload_n 0, 13, []), (13, .iload_n 3, 14, []), (14, .invokevirtual 41, 17, []), (17, .iload_n 1, 18, []), (18, .iand, 19, []), (19, .istore 4, 21, []), (21, .iload 4, 23, []), (23, .invokestatic 48, 26, []), (26, .iconst 1, 27, []), (27, .if_icmp .ne 8, 30, [35]), (30, .iload_n 2, 31, []), (31, .iload 4, 33, []), (33, .ior, 34, []), (34, .istore_n 2, 35, []), (35, .iinc 3 1, 38, []), (38, .goto (-34), 41, [4]), (41, .iload_n 2, 42, []), (42, .ireturn, 43, [])]
noncomputable def mX3_neededOf : MI := (iX3_neededOf, [(13, 3, 1)], [], [(164, 2, 3, 0, 0, fX3_holdersAt), (194, 1, 99, 0, 0, fJ6_bitCount_0f7a4)], [], (0, 0), 1, [(4, [4]), (17, [4])])
noncomputable def fX3_neededOf : CF := mth mX3_neededOf 5
def iX9_costOfSet : List (Nat × Instr × Nat × List Nat) := [(0, .iconst 0, 1, []), (1, .istore_n 2, 2, []), (2, .iconst 0, 3, []), (3, .istore_n 3, 4, []), (4, .iload_n 3, 5, []), (5, .aload_n 0, 6, []), (6, .getfield 9, 9, []), (9, .arraylength, 10, []), (10, .if_icmp .ge 26, 13, [36]), (13, .iload_n 1, 14, []), (14, .iload_n 3, 15, []), (15, .invokestatic 35, 18, []), (18, .ifCond .eq 12, 21, [30]), (21, .iload_n 2, 22, []), (22, .aload_n 0, 23, []), (23, .getfield 9, 26, []), (26, .iload_n 3, 27, []), (27, .iaload, 28, []), (28, .iadd, 29, []), (29, .istore_n 2, 30, []), (30, .iinc 3 1, 33, []), (33, .goto (-29), 36, [4]), (36, .iload_n 2, 37, []), (37, .ireturn, 38, [])]
noncomputable def mX9_costOfSet : MI := (iX9_costOfSet, [(9, 9, 0)], [], [(142, 2, 11, 0, 0, fX11_has)], [], (0, 0), 1, [])
noncomputable def fX9_costOfSet : CF := mth mX9_costOfSet 4
def iX3_cheapestSet : List (Nat × Instr × Nat × List Nat) := [(0, .iload_n 1, 1, []), (1, .istore_n 3, 2, []), (2, .aload_n 2, 3, []), (3, .iload_n 1, 4, []), (4, .invokevirtual 53, 7, []), (7, .istore 4, 9, []), (9, .iconst 0, 10, []), (10, .istore 5, 12, []), (12, .iload 5, 14, []), (14, .iload_n 1, 15, []), (15, .if_icmp .gt 49, 18, [64]), (18, .iload 5, 20, []), (20, .iload_n 1, 21, []), (21, .iconst (-1), 22, []), (22, .ixor, 23, []), (23, .iand, 24, []), (24, .ifCond .ne 34, 27, [58]), (27, .aload_n 2, 28, []), (28, .iload 5, 30, []), (30, .invokevirtual 53, 33, []), (33, .iload 4, 35, []), (35, .if_icmp .ge 23, 38, [58]), (38, .aload_n 0, 39, []), (39, .iload 5, 41, []), (41, .invokevirtual 58, 44, []), (44, .ifCond .eq 14, 47, [58]), (47, .iload 5, 49, []), (49, .istore_n 3, 50, []), (50, .aload_n 2, 51, []), (51, .iload 5, 53, []), (53, .invokevirtual 53, 56, []), (56, .istore 4, 58, []), (58, .iinc 5 1, 61, []), (61, .goto (-49), 64, [12]), (64, .iload_n 3, 65, []), (65, .ireturn, 66, [])]
noncomputable def mX3_cheapestSet : MI := (iX3_cheapestSet, [], [], [(212, 2, 9, 0, 0, fX9_costOfSet), (232, 2, 3, 0, 0, fX3_areAllHeld)], [], (0, 0), 1, [(7, [4, 5]), (56, [4])])
noncomputable def fX3_cheapestSet : CF := mth mX3_cheapestSet 6
def iX4_init : List (Nat × Instr × Nat × List Nat) := [(0, .aload_n 0, 1, []), (1, .invokespecial 3, 4, []), (4, .aload_n 0, 5, []), (5, .sipush 512, 8, []), (8, .newarray .long, 10, []), (10, .putfield 11, 13, []), (13, .aload_n 0, 14, []), (14, .sipush 512, 17, []), (17, .newarray .long, 19, []), (19, .putfield 15, 22, []), (22, .aload_n 0, 23, []), (23, .sipush 1024, 26, []), (26, .newarray .int, 28, []), (28, .putfield 18, 31, []), (31, .aload_n 0, 32, []), (32, .bipush 8, 34, []), (34, .newarray .int, 36, []), (36, .putfield 22, 39, []), (39, .aload_n 0, 40, []), (40, .bipush 8, 42, []), (42, .newarray .int, 44, []), (44, .putfield 25, 47, []), (47, .aload_n 0, 48, []), (48, .iconst 0, 49, []), (49, .putfield 28, 52, []), (52, .aload_n 0, 53, []), (53, .iconst 0, 54, []), (54, .putfield 32, 57, []), (57, .return_, 58, [])]
noncomputable def mX4_init : MI := (iX4_init, [(11, 4, 0), (15, 4, 1), (18, 4, 2), (22, 4, 3), (25, 4, 4), (28, 4, 5), (32, 4, 6)], [], [(13, 1, 99, 0, 0, fObj)], [], (5, 2064), 0, [])
noncomputable def fX4_init : CF := mth mX4_init 1
def iX6_hasStep : List (Nat × Instr × Nat × List Nat) := [(0, .iload_n 1, 1, []), (1, .ifCond .lt 15, 4, [16]), (4, .iload_n 1, 5, []), (5, .aload_n 0, 6, []), (6, .getfield 22, 9, []), (9, .if_icmp .ge 7, 12, [16]), (12, .iconst 1, 13, []), (13, .goto 4, 16, [17]), (16, .iconst 0, 17, []), (17, .ireturn, 18, [])]
noncomputable def mX6_hasStep : MI := (iX6_hasStep, [(22, 6, 3)], [], [], [], (0, 0), 2, [])
noncomputable def fX6_hasStep : CF := mth mX6_hasStep 2
def iX4_weigh : List (Nat × Instr × Nat × List Nat) := [(0, .iconst 1, 1, []), (1, .istore_n 2, 2, []), (2, .aload_n 0, 3, []), (3, .getfield 25, 6, []), (6, .arraylength, 7, []), (7, .iconst 1, 8, []), (8, .isub, 9, []), (9, .istore_n 3, 10, []), (10, .iload_n 3, 11, []), (11, .ifCond .lt 37, 14, [48]), (14, .aload_n 0, 15, []), (15, .getfield 25, 18, []), (18, .iload_n 3, 19, []), (19, .iload_n 2, 20, []), (20, .iastore, 21, []), (21, .aload_n 1, 22, []), (22, .iload_n 3, 23, []), (23, .invokevirtual 60, 26, []), (26, .ifCond .eq 16, 29, [42]), (29, .aload_n 1, 30, []), (30, .iload_n 3, 31, []), (31, .invokevirtual 64, 34, []), (34, .ifCond .ne 8, 37, [42]), (37, .iload_n 2, 38, []), (38, .bipush 9, 40, []), (40, .imul, 41, []), (41, .istore_n 2, 42, []), (42, .iinc 3 (-1), 45, []), (45, .goto (-35), 48, [10]), (48, .return_, 49, [])]
noncomputable def mX4_weigh : MI := (iX4_weigh, [(25, 4, 4)], [], [(240, 2, 6, 0, 0, fX6_hasStep), (256, 2, 6, 0, 0, fX6_isWriter)], [], (0, 0), 0, [])
noncomputable def fX4_weigh : CF := mth mX4_weigh 4
def iX6_threadOf : List (Nat × Instr × Nat × List Nat) := [(0, .iload_n 1, 1, []), (1, .ifCond .lt 21, 4, [22]), (4, .iload_n 1, 5, []), (5, .aload_n 0, 6, []), (6, .getfield 9, 9, []), (9, .arraylength, 10, []), (10, .if_icmp .ge 12, 13, [22]), (13, .aload_n 0, 14, []), (14, .getfield 9, 17, []), (17, .iload_n 1, 18, []), (18, .iaload, 19, []), (19, .goto 4, 22, [23]), (22, .iconst (-1), 23, []), (23, .ireturn, 24, [])]
noncomputable def mX6_threadOf : MI := (iX6_threadOf, [(9, 6, 0)], [], [], [], (0, 0), 1, [])
noncomputable def fX6_threadOf : CF := mth mX6_threadOf 2
def iX6_isAhead : List (Nat × Instr × Nat × List Nat) := [(0, .iload_n 1, 1, []), (1, .iload_n 2, 2, []), (2, .if_icmp .ge 20, 5, [22]), (5, .aload_n 0, 6, []), (6, .iload_n 1, 7, []), (7, .invokevirtual 31, 10, []), (10, .aload_n 0, 11, []), (11, .iload_n 2, 12, []), (12, .invokevirtual 31, 15, []), (15, .if_icmp .ne 7, 18, [22]), (18, .iconst 1, 19, []), (19, .goto 4, 22, [23]), (22, .iconst 0, 23, []), (23, .ireturn, 24, [])]
noncomputable def mX6_isAhead : MI := (iX6_isAhead, [], [], [(124, 2, 6, 0, 0, fX6_threadOf)], [], (0, 0), 2, [(10, [1]), (15, [0, 1, 2])])
noncomputable def fX6_isAhead : CF := mth mX6_isAhead 3
def iX6_waitsOf : List (Nat × Instr × Nat × List Nat) := [(0, .iconst 0, 1, []), (1, .istore 4, 3, []), (3, .iconst 0, 4, []), (4, .istore 5, 6, []), (6, .iload 5, 8, []), (8, .iload_n 1, 9, []), (9, .if_icmp .ge 71, 12, [80]), (12, .iload 5, 14, []), (14, .aload_n 0, 15, []), (15, .getfield 22, 18, []), (18, .if_icmp .ge 62, 21, [80]), (21, .iload_n 2, 22, []), (22, .iload 5, 24, []), (24, .iload_n 1, 25, []), (25, .invokestatic 56, 28, []), (28, .iand, 29, []), (29, .ifCond .eq 7, 32, [36]), (32, .iconst 1, 33, []), (33, .goto 4, 36, [37]), (36, .iconst 0, 37, []), (37, .istore 6, 39, []), (39, .aload_n 0, 40, []), (40, .iload 5, 42, []), (42, .iload_n 1, 43, []), (43, .invokevirtual 59, 46, []), (46, .ifCond .eq 28, 49, [74]), (49, .iload 6, 51, []), (51, .ifCond .ne 14, 54, [65]), (54, .aload_n 0, 55, []), (55, .iload 5, 57, []), (57, .iload_n 1, 58, []), (58, .iload_n 3, 59, []), (59, .invokevirtual 62, 62, []), (62, .ifCond .ne 12, 65, [74]), (65, .iload 4, 67, []), (67, .iconst 1, 68, []), (68, .iload 5, 70, []), (70, .ishl, 71, []), (71, .ior, 72, []), (72, .istore 4, 74, []), (74, .iinc 5 1, 77, []), (77, .goto (-71), 80, [6]), (80, .iload 4, 82, []), (82, .ireturn, 83, [])]
noncomputable def mX6_waitsOf : MI := (iX6_waitsOf, [(22, 6, 3)], [], [(226, 2, 11, 0, 0, fX11_gapsBetween), (236, 3, 6, 0, 0, fX6_isAhead), (248, 4, 6, 0, 0, fX6_mayOvertake)], [], (0, 0), 1, [(6, [6]), (28, [6]), (62, [6])])
noncomputable def fX6_waitsOf : CF := mth mX6_waitsOf 7
def iX4_behind : List (Nat × Instr × Nat × List Nat) := [(0, .lload_n 2, 1, []), (1, .lconst 1, 2, []), (2, .iload 4, 4, []), (4, .lshl, 5, []), (5, .lor, 6, []), (6, .lstore 5, 8, []), (8, .bipush 8, 10, []), (10, .iconst 4, 11, []), (11, .aload_n 1, 12, []), (12, .iload 4, 14, []), (14, .invokevirtual 89, 17, []), (17, .imul, 18, []), (18, .iadd, 19, []), (19, .istore 7, 21, []), (21, .aload_n 1, 22, []), (22, .iload 4, 24, []), (24, .invokevirtual 64, 27, []), (27, .ifCond .eq 26, 30, [53]), (30, .lload 5, 32, []), (32, .ldc2_w 93, 35, []), (35, .iload 7, 37, []), (37, .lshl, 38, []), (38, .ldc2_w 95, 41, []), (41, .lxor, 42, []), (42, .land, 43, []), (43, .iload 4, 45, []), (45, .iconst 1, 46, []), (46, .iadd, 47, []), (47, .i2l, 48, []), (48, .iload 7, 50, []), (50, .lshl, 51, []), (51, .lor, 52, []), (52, .lreturn, 53, []), (53, .iload 4, 55, []), (55, .ifCond .lt 23, 58, [78]), (58, .iload 4, 60, []), (60, .aload_n 0, 61, []), (61, .getfield 25, 64, []), (64, .arraylength, 65, []), (65, .if_icmp .ge 13, 68, [78]), (68, .aload_n 0, 69, []), (69, .getfield 25, 72, []), (72, .iload 4, 74, []), (74, .iaload, 75, []), (75, .goto 4, 78, [79]), (78, .iconst 0, 79, []), (79, .istore 8, 81, []), (81, .lload_n 2, 82, []), (82, .iload 7, 84, []), (84, .lushr, 85, []), (85, .ldc2_w 93, 88, []), (88, .land, 89, []), (89, .lstore 9, 91, []), (91, .lload 5, 93, []), (93, .lload 9, 95, []), (95, .iload 8, 97, []), (97, .i2l, 98, []), (98, .lmul, 99, []), (99, .bipush 20, 101, []), (101, .lshl, 102, []), (102, .ladd, 103, []), (103, .lreturn, 104, [])]
noncomputable def mX4_behind : MI := (iX4_behind, [(25, 4, 4)], [(93, .long (15)), (95, .long (-1))], [(256, 2, 6, 0, 0, fX6_isWriter), (356, 2, 6, 0, 0, fX6_cellOf)], [], (0, 0), 3, [(17, [3, 6, 7, 8, 9, 10]), (27, [1, 3, 6, 8, 9, 10])])
noncomputable def fX4_behind : CF := mth mX4_behind 11
def iX4_putNext : List (Nat × Instr × Nat × List Nat) := [(0, .aload_n 0, 1, []), (1, .getfield 32, 4, []), (4, .ifCond .lt 58, 7, [62]), (7, .aload_n 0, 8, []), (8, .getfield 32, 11, []), (11, .aload_n 0, 12, []), (12, .getfield 15, 15, []), (15, .arraylength, 16, []), (16, .if_icmp .ge 46, 19, [62]), (19, .iload_n 1, 20, []), (20, .ifCond .lt 42, 23, [62]), (23, .iload_n 1, 24, []), (24, .aload_n 0, 25, []), (25, .getfield 18, 28, []), (28, .arraylength, 29, []), (29, .if_icmp .ge 33, 32, [62]), (32, .aload_n 0, 33, []), (33, .getfield 15, 36, []), (36, .aload_n 0, 37, []), (37, .getfield 32, 40, []), (40, .lload_n 2, 41, []), (41, .lastore, 42, []), (42, .aload_n 0, 43, []), (43, .dup, 44, []), (44, .getfield 32, 47, []), (47, .iconst 1, 48, []), (48, .iadd, 49, []), (49, .putfield 32, 52, []), (52, .aload_n 0, 53, []), (53, .getfield 18, 56, []), (56, .iload_n 1, 57, []), (57, .aload_n 0, 58, []), (58, .getfield 32, 61, []), (61, .iastore, 62, []), (62, .return_, 63, [])]
noncomputable def mX4_putNext : MI := (iX4_putNext, [(15, 4, 1), (18, 4, 2), (32, 4, 6)], [], [], [], (0, 0), 0, [])
noncomputable def fX4_putNext : CF := mth mX4_putNext 4
def iX4_addNext : List (Nat × Instr × Nat × List Nat) := [(0, .lload_n 1, 1, []), (1, .ldc2_w 97, 4, []), (4, .lmul, 5, []), (5, .bipush 54, 7, []), (7, .lushr, 8, []), (8, .l2i, 9, []), (9, .istore_n 3, 10, []), (10, .iconst 0, 11, []), (11, .istore 4, 13, []), (13, .iload 4, 15, []), (15, .sipush 1024, 18, []), (18, .if_icmp .ge 66, 21, [84]), (21, .iload_n 3, 22, []), (22, .iload 4, 24, []), (24, .iadd, 25, []), (25, .sipush 1023, 28, []), (28, .iand, 29, []), (29, .istore 5, 31, []), (31, .aload_n 0, 32, []), (32, .getfield 18, 35, []), (35, .iload 5, 37, []), (37, .iaload, 38, []), (38, .iconst 1, 39, []), (39, .isub, 40, []), (40, .istore 6, 42, []), (42, .iload 6, 44, []), (44, .ifCond .lt 13, 47, [57]), (47, .iload 6, 49, []), (49, .aload_n 0, 50, []), (50, .getfield 15, 53, []), (53, .arraylength, 54, []), (54, .if_icmp .lt 11, 57, [65]), (57, .aload_n 0, 58, []), (58, .iload 5, 60, []), (60, .lload_n 1, 61, []), (61, .invokevirtual 99, 64, []), (64, .return_, 65, []), (65, .aload_n 0, 66, []), (66, .getfield 15, 69, []), (69, .iload 6, 71, []), (71, .laload, 72, []), (72, .lload_n 1, 73, []), (73, .lcmp, 74, []), (74, .ifCond .ne 4, 77, [78]), (77, .return_, 78, []), (78, .iinc 4 1, 81, []), (81, .goto (-68), 84, [13]), (84, .return_, 85, [])]
noncomputable def mX4_addNext : MI := (iX4_addNext, [(15, 4, 1), (18, 4, 2)], [(97, .long (-7046029254386353131))], [(396, 3, 4, 0, 0, fX4_putNext)], [], (0, 0), 0, [(13, [2, 5, 6]), (64, [0, 1, 2, 3, 4, 5, 6])])
noncomputable def fX4_addNext : CF := mth mX4_addNext 7
def iX4_doEach : List (Nat × Instr × Nat × List Nat) := [(0, .lload_n 2, 1, []), (1, .l2i, 2, []), (2, .iconst (-1), 3, []), (3, .ixor, 4, []), (4, .sipush 255, 7, []), (7, .iand, 8, []), (8, .istore 4, 10, []), (10, .iconst 0, 11, []), (11, .istore 5, 13, []), (13, .iload 5, 15, []), (15, .aload_n 1, 16, []), (16, .getfield 39, 19, []), (19, .if_icmp .ge 54, 22, [73]), (22, .iload 5, 24, []), (24, .aload_n 0, 25, []), (25, .getfield 22, 28, []), (28, .arraylength, 29, []), (29, .if_icmp .ge 44, 32, [73]), (32, .iload 4, 34, []), (34, .iload 5, 36, []), (36, .invokestatic 77, 39, []), (39, .ifCond .eq 28, 42, [67]), (42, .aload_n 0, 43, []), (43, .getfield 22, 46, []), (46, .iload 5, 48, []), (48, .iaload, 49, []), (49, .iload 4, 51, []), (51, .iand, 52, []), (52, .ifCond .ne 15, 55, [67]), (55, .aload_n 0, 56, []), (56, .aload_n 0, 57, []), (57, .aload_n 1, 58, []), (58, .lload_n 2, 59, []), (59, .iload 5, 61, []), (61, .invokevirtual 81, 64, []), (64, .invokevirtual 85, 67, []), (67, .iinc 5 1, 70, []), (70, .goto (-57), 73, [13]), (73, .return_, 74, [])]
noncomputable def mX4_doEach : MI := (iX4_doEach, [(22, 4, 3), (39, 6, 3)], [], [(310, 2, 11, 0, 0, fX11_has), (324, 4, 4, 0, 0, fX4_behind), (340, 2, 4, 0, 0, fX4_addNext)], [], (0, 0), 0, [(13, [3]), (39, [3]), (64, [3]), (67, [3])])
noncomputable def fX4_doEach : CF := mth mX4_doEach 6
def iX4_doOneMore : List (Nat × Instr × Nat × List Nat) := [(0, .aload_n 0, 1, []), (1, .getfield 18, 4, []), (4, .iconst 0, 5, []), (5, .invokestatic 67, 8, []), (8, .aload_n 0, 9, []), (9, .iconst 0, 10, []), (10, .putfield 32, 13, []), (13, .iconst 0, 14, []), (14, .istore_n 2, 15, []), (15, .iload_n 2, 16, []), (16, .aload_n 0, 17, []), (17, .getfield 28, 20, []), (20, .if_icmp .ge 29, 23, [49]), (23, .iload_n 2, 24, []), (24, .aload_n 0, 25, []), (25, .getfield 11, 28, []), (28, .arraylength, 29, []), (29, .if_icmp .ge 20, 32, [49]), (32, .aload_n 0, 33, []), (33, .aload_n 1, 34, []), (34, .aload_n 0, 35, []), (35, .getfield 11, 38, []), (38, .iload_n 2, 39, []), (39, .laload, 40, []), (40, .invokevirtual 73, 43, []), (43, .iinc 2 1, 46, []), (46, .goto (-31), 49, [15]), (49, .aload_n 0, 50, []), (50, .getfield 11, 53, []), (53, .astore_n 2, 54, []), (54, .aload_n 0, 55, []), (55, .aload_n 0, 56, []), (56, .getfield 15, 59, []), (59, .putfield 11, 62, []), (62, .aload_n 0, 63, []), (63, .aload_n 2, 64, []), (64, .putfield 15, 67, []), (67, .aload_n 0, 68, []), (68, .aload_n 0, 69, []), (69, .getfield 32, 72, []), (72, .putfield 28, 75, []), (75, .return_, 76, [])]
noncomputable def mX4_doOneMore : MI := (iX4_doOneMore, [(11, 4, 0), (15, 4, 1), (18, 4, 2), (28, 4, 5), (32, 4, 6)], [], [(270, 2, 99, 0, 0, fJ7_fill_53178), (292, 3, 4, 0, 0, fX4_doEach)], [], (0, 0), 0, [(8, [2])])
noncomputable def fX4_doOneMore : CF := mth mX4_doOneMore 3
def iX7_clear : List (Nat × Instr × Nat × List Nat) := [(0, .aload_n 0, 1, []), (1, .iconst 0, 2, []), (2, .putfield 15, 5, []), (5, .return_, 6, [])]
noncomputable def mX7_clear : MI := (iX7_clear, [(15, 7, 1)], [], [], [], (0, 0), 0, [])
noncomputable def fX7_clear : CF := mth mX7_clear 1
def iX7_add : List (Nat × Instr × Nat × List Nat) := [(0, .aload_n 0, 1, []), (1, .iload_n 1, 2, []), (2, .invokevirtual 19, 5, []), (5, .istore_n 2, 6, []), (6, .aload_n 0, 7, []), (7, .iload_n 2, 8, []), (8, .invokevirtual 23, 11, []), (11, .iload_n 1, 12, []), (12, .if_icmp .eq 27, 15, [39]), (15, .iload_n 2, 16, []), (16, .ifCond .lt 23, 19, [39]), (19, .iload_n 2, 20, []), (20, .aload_n 0, 21, []), (21, .getfield 15, 24, []), (24, .if_icmp .gt 15, 27, [39]), (27, .aload_n 0, 28, []), (28, .getfield 15, 31, []), (31, .aload_n 0, 32, []), (32, .getfield 11, 35, []), (35, .arraylength, 36, []), (36, .if_icmp .lt 4, 39, [40]), (39, .return_, 40, []), (40, .aload_n 0, 41, []), (41, .getfield 15, 44, []), (44, .istore_n 3, 45, []), (45, .iload_n 3, 46, []), (46, .iload_n 2, 47, []), (47, .if_icmp .le 23, 50, [70]), (50, .aload_n 0, 51, []), (51, .getfield 11, 54, []), (54, .iload_n 3, 55, []), (55, .aload_n 0, 56, []), (56, .getfield 11, 59, []), (59, .iload_n 3, 60, []), (60, .iconst 1, 61, []), (61, .isub, 62, []), (62, .iaload, 63, []), (63, .iastore, 64, []), (64, .iinc 3 (-1), 67, []), (67, .goto (-22), 70, [45]), (70, .aload_n 0, 71, []), (71, .getfield 11, 74, []), (74, .iload_n 2, 75, []), (75, .iload_n 1, 76, []), (76, .iastore, 77, []), (77, .aload_n 0, 78, []), (78, .dup, 79, []), (79, .getfield 15, 82, []), (82, .iconst 1, 83, []), (83, .iadd, 84, []), (84, .putfield 15, 87, []), (87, .return_, 88, [])]
noncomputable def mX7_add : MI := (iX7_add, [(11, 7, 0), (15, 7, 1)], [], [(76, 2, 7, 0, 0, fX7_placeOf), (92, 2, 7, 0, 0, fX7_at)], [], (0, 0), 0, [(5, [2, 3]), (11, [3])])
noncomputable def fX7_add : CF := mth mX7_add 4
def iX4_findReadings : List (Nat × Instr × Nat × List Nat) := [(0, .aload_n 0, 1, []), (1, .aload_n 1, 2, []), (2, .invokevirtual 35, 5, []), (5, .iconst 0, 6, []), (6, .istore 5, 8, []), (8, .iload 5, 10, []), (10, .aload_n 1, 11, []), (11, .getfield 39, 14, []), (14, .if_icmp .ge 34, 17, [48]), (17, .iload 5, 19, []), (19, .aload_n 0, 20, []), (20, .getfield 22, 23, []), (23, .arraylength, 24, []), (24, .if_icmp .ge 24, 27, [48]), (27, .aload_n 0, 28, []), (28, .getfield 22, 31, []), (31, .iload 5, 33, []), (33, .aload_n 1, 34, []), (34, .iload 5, 36, []), (36, .iload_n 2, 37, []), (37, .iload_n 3, 38, []), (38, .invokevirtual 44, 41, []), (41, .iastore, 42, []), (42, .iinc 5 1, 45, []), (45, .goto (-37), 48, [8]), (48, .aload_n 0, 49, []), (49, .getfield 11, 52, []), (52, .iconst 0, 53, []), (53, .lconst 0, 54, []), (54, .lastore, 55, []), (55, .aload_n 0, 56, []), (56, .iconst 1, 57, []), (57, .putfield 28, 60, []), (60, .iconst 0, 61, []), (61, .istore 5, 63, []), (63, .iload 5, 65, []), (65, .aload_n 1, 66, []), (66, .getfield 39, 69, []), (69, .if_icmp .ge 14, 72, [83]), (72, .aload_n 0, 73, []), (73, .aload_n 1, 74, []), (74, .invokevirtual 48, 77, []), (77, .iinc 5 1, 80, []), (80, .goto (-17), 83, [63]), (83, .aload 4, 85, []), (85, .invokevirtual 51, 88, []), (88, .iconst 0, 89, []), (89, .istore 5, 91, []), (91, .iload 5, 93, []), (93, .aload_n 0, 94, []), (94, .getfield 28, 97, []), (97, .if_icmp .ge 35, 100, [132]), (100, .iload 5, 102, []), (102, .aload_n 0, 103, []), (103, .getfield 11, 106, []), (106, .arraylength, 107, []), (107, .if_icmp .ge 25, 110, [132]), (110, .aload 4, 112, []), (112, .aload_n 0, 113, []), (113, .getfield 11, 116, []), (116, .iload 5, 118, []), (118, .laload, 119, []), (119, .bipush 20, 121, []), (121, .lushr, 122, []), (122, .l2i, 123, []), (123, .invokevirtual 56, 126, []), (126, .iinc 5 1, 129, []), (129, .goto (-38), 132, [91]), (132, .return_, 133, [])]
noncomputable def mX4_findReadings : MI := (iX4_findReadings, [(11, 4, 0), (22, 4, 3), (28, 4, 5), (39, 6, 3)], [], [(140, 2, 4, 0, 0, fX4_weigh), (176, 4, 6, 0, 0, fX6_waitsOf), (192, 2, 4, 0, 0, fX4_doOneMore), (204, 1, 7, 0, 0, fX7_clear), (224, 2, 7, 0, 0, fX7_add)], [], (0, 0), 0, [(5, [5]), (63, [2, 3]), (77, [2, 3]), (88, [1, 2, 3, 5]), (91, [1, 2, 3]), (126, [1, 2, 3])])
noncomputable def fX4_findReadings : CF := mth mX4_findReadings 6
def iX5_init : List (Nat × Instr × Nat × List Nat) := [(0, .aload_n 0, 1, []), (1, .invokespecial 3, 4, []), (4, .aload_n 0, 5, []), (5, .iconst (-1), 6, []), (6, .putfield 9, 9, []), (9, .aload_n 0, 10, []), (10, .iconst 0, 11, []), (11, .putfield 15, 14, []), (14, .aload_n 0, 15, []), (15, .iconst 0, 16, []), (16, .putfield 18, 19, []), (19, .return_, 20, [])]
noncomputable def mX5_init : MI := (iX5_init, [(9, 5, 0), (15, 5, 1), (18, 5, 2)], [], [(13, 1, 99, 0, 0, fObj)], [], (0, 0), 0, [])
noncomputable def fX5_init : CF := mth mX5_init 1
def iX6_clear : List (Nat × Instr × Nat × List Nat) := [(0, .aload_n 0, 1, []), (1, .iconst 0, 2, []), (2, .putfield 18, 5, []), (5, .aload_n 0, 6, []), (6, .iconst 0, 7, []), (7, .putfield 22, 10, []), (10, .aload_n 0, 11, []), (11, .iconst 0, 12, []), (12, .putfield 25, 15, []), (15, .aload_n 0, 16, []), (16, .iconst 0, 17, []), (17, .putfield 28, 20, []), (20, .return_, 21, [])]
noncomputable def mX6_clear : MI := (iX6_clear, [(18, 6, 2), (22, 6, 3), (25, 6, 4), (28, 6, 5)], [], [], [], (0, 0), 0, [])
noncomputable def fX6_clear : CF := mth mX6_clear 1
def iX10_letterAt : List (Nat × Instr × Nat × List Nat) := [(0, .iload_n 1, 1, []), (1, .ifCond .lt 21, 4, [22]), (4, .iload_n 1, 5, []), (5, .aload_n 0, 6, []), (6, .getfield 9, 9, []), (9, .arraylength, 10, []), (10, .if_icmp .ge 12, 13, [22]), (13, .aload_n 0, 14, []), (14, .getfield 9, 17, []), (17, .iload_n 1, 18, []), (18, .iaload, 19, []), (19, .goto 4, 22, [23]), (22, .iconst (-1), 23, []), (23, .ireturn, 24, [])]
noncomputable def mX10_letterAt : MI := (iX10_letterAt, [(9, 10, 0)], [], [], [], (0, 0), 1, [])
noncomputable def fX10_letterAt : CF := mth mX10_letterAt 2
def iX6_addThread : List (Nat × Instr × Nat × List Nat) := [(0, .aload_n 0, 1, []), (1, .getfield 18, 4, []), (4, .iconst 3, 5, []), (5, .if_icmp .lt 5, 8, [10]), (8, .iconst 0, 9, []), (9, .ireturn, 10, []), (10, .aload_n 0, 11, []), (11, .dup, 12, []), (12, .getfield 18, 15, []), (15, .iconst 1, 16, []), (16, .iadd, 17, []), (17, .putfield 18, 20, []), (20, .iconst 1, 21, []), (21, .ireturn, 22, [])]
noncomputable def mX6_addThread : MI := (iX6_addThread, [(18, 6, 2)], [], [], [], (0, 0), 2, [])
noncomputable def fX6_addThread : CF := mth mX6_addThread 1
def iX5_takeWord : List (Nat × Instr × Nat × List Nat) := [(0, .iload_n 1, 1, []), (1, .bipush 116, 3, []), (3, .if_icmp .ne 21, 6, [24]), (6, .aload_n 0, 7, []), (7, .iconst 2, 8, []), (8, .putfield 15, 11, []), (11, .aload_n 2, 12, []), (12, .invokevirtual 46, 15, []), (15, .ifCond .eq 7, 18, [22]), (18, .iconst 0, 19, []), (19, .goto 4, 22, [23]), (22, .iconst 3, 23, []), (23, .ireturn, 24, []), (24, .iload_n 1, 25, []), (25, .bipush 114, 27, []), (27, .if_icmp .eq 9, 30, [36]), (30, .iload_n 1, 31, []), (31, .bipush 119, 33, []), (33, .if_icmp .ne 10, 36, [43]), (36, .aload_n 2, 37, []), (37, .getfield 50, 40, []), (40, .ifCond .ne 5, 43, [45]), (43, .iconst 1, 44, []), (44, .ireturn, 45, []), (45, .aload_n 2, 46, []), (46, .getfield 53, 49, []), (49, .bipush 8, 51, []), (51, .if_icmp .lt 5, 54, [56]), (54, .iconst 3, 55, []), (55, .ireturn, 56, []), (56, .aload_n 0, 57, []), (57, .iload_n 1, 58, []), (58, .bipush 119, 60, []), (60, .if_icmp .ne 7, 63, [67]), (63, .iconst 1, 64, []), (64, .goto 4, 67, [68]), (67, .iconst 0, 68, []), (68, .putfield 18, 71, []), (71, .aload_n 0, 72, []), (72, .iconst 1, 73, []), (73, .putfield 15, 76, []), (76, .iconst 0, 77, []), (77, .ireturn, 78, [])]
noncomputable def mX5_takeWord : MI := (iX5_takeWord, [(15, 5, 1), (18, 5, 2), (50, 6, 2), (53, 6, 3)], [], [(184, 1, 6, 0, 0, fX6_addThread)], [], (0, 0), 1, [(15, [0, 1, 2])])
noncomputable def fX5_takeWord : CF := mth mX5_takeWord 3
def iX6_addStep : List (Nat × Instr × Nat × List Nat) := [(0, .aload_n 0, 1, []), (1, .getfield 22, 4, []), (4, .istore_n 3, 5, []), (5, .iload_n 3, 6, []), (6, .ifCond .lt 21, 9, [27]), (9, .iload_n 3, 10, []), (10, .aload_n 0, 11, []), (11, .getfield 9, 14, []), (14, .arraylength, 15, []), (15, .if_icmp .ge 12, 18, [27]), (18, .iload_n 3, 19, []), (19, .aload_n 0, 20, []), (20, .getfield 15, 23, []), (23, .arraylength, 24, []), (24, .if_icmp .lt 4, 27, [28]), (27, .return_, 28, []), (28, .aload_n 0, 29, []), (29, .getfield 9, 32, []), (32, .iload_n 3, 33, []), (33, .aload_n 0, 34, []), (34, .getfield 18, 37, []), (37, .iconst 1, 38, []), (38, .isub, 39, []), (39, .iastore, 40, []), (40, .aload_n 0, 41, []), (41, .getfield 15, 44, []), (44, .iload_n 3, 45, []), (45, .iload_n 1, 46, []), (46, .iastore, 47, []), (47, .aload_n 0, 48, []), (48, .dup, 49, []), (49, .getfield 22, 52, []), (52, .iconst 1, 53, []), (53, .iadd, 54, []), (54, .putfield 22, 57, []), (57, .iload_n 2, 58, []), (58, .ifCond .eq 15, 61, [73]), (61, .aload_n 0, 62, []), (62, .dup, 63, []), (63, .getfield 25, 66, []), (66, .iconst 1, 67, []), (67, .iload_n 3, 68, []), (68, .ishl, 69, []), (69, .ior, 70, []), (70, .putfield 25, 73, []), (73, .iload_n 3, 74, []), (74, .ifCond .le 30, 77, [104]), (77, .aload_n 0, 78, []), (78, .iload_n 3, 79, []), (79, .iconst 1, 80, []), (80, .isub, 81, []), (81, .invokevirtual 31, 84, []), (84, .aload_n 0, 85, []), (85, .iload_n 3, 86, []), (86, .invokevirtual 31, 89, []), (89, .if_icmp .ne 15, 92, [104]), (92, .aload_n 0, 93, []), (93, .dup, 94, []), (94, .getfield 28, 97, []), (97, .iconst 1, 98, []), (98, .iload_n 3, 99, []), (99, .ishl, 100, []), (100, .ior, 101, []), (101, .putfield 28, 104, []), (104, .return_, 105, [])]
noncomputable def mX6_addStep : MI := (iX6_addStep, [(9, 6, 0), (15, 6, 1), (18, 6, 2), (22, 6, 3), (25, 6, 4), (28, 6, 5)], [], [(124, 2, 6, 0, 0, fX6_threadOf)], [], (0, 0), 0, [(84, [1, 2]), (89, [1, 2])])
noncomputable def fX6_addStep : CF := mth mX6_addStep 4
def iX5_takeCell : List (Nat × Instr × Nat × List Nat) := [(0, .iload_n 1, 1, []), (1, .bipush 48, 3, []), (3, .if_icmp .lt 9, 6, [12]), (6, .iload_n 1, 7, []), (7, .bipush 57, 9, []), (9, .if_icmp .le 5, 12, [14]), (12, .iconst 1, 13, []), (13, .ireturn, 14, []), (14, .iload_n 1, 15, []), (15, .bipush 48, 17, []), (17, .isub, 18, []), (18, .iconst 2, 19, []), (19, .if_icmp .le 5, 22, [24]), (22, .iconst 2, 23, []), (23, .ireturn, 24, []), (24, .aload_n 2, 25, []), (25, .iload_n 1, 26, []), (26, .bipush 48, 28, []), (28, .isub, 29, []), (29, .aload_n 0, 30, []), (30, .getfield 18, 33, []), (33, .invokevirtual 56, 36, []), (36, .aload_n 0, 37, []), (37, .iconst 2, 38, []), (38, .putfield 15, 41, []), (41, .iconst 0, 42, []), (42, .ireturn, 43, [])]
noncomputable def mX5_takeCell : MI := (iX5_takeCell, [(15, 5, 1), (18, 5, 2)], [], [(224, 3, 6, 0, 0, fX6_addStep)], [], (0, 0), 1, [(36, [1, 2])])
noncomputable def fX5_takeCell : CF := mth mX5_takeCell 3
def iX5_take : List (Nat × Instr × Nat × List Nat) := [(0, .aload_n 0, 1, []), (1, .getfield 15, 4, []), (4, .ifCond .ne 10, 7, [14]), (7, .aload_n 0, 8, []), (8, .iload_n 1, 9, []), (9, .aload_n 2, 10, []), (10, .invokevirtual 40, 13, []), (13, .ireturn, 14, []), (14, .aload_n 0, 15, []), (15, .getfield 15, 18, []), (18, .iconst 1, 19, []), (19, .if_icmp .ne 10, 22, [29]), (22, .aload_n 0, 23, []), (23, .iload_n 1, 24, []), (24, .aload_n 2, 25, []), (25, .invokevirtual 43, 28, []), (28, .ireturn, 29, []), (29, .iload_n 1, 30, []), (30, .bipush 59, 32, []), (32, .if_icmp .eq 5, 35, [37]), (35, .iconst 1, 36, []), (36, .ireturn, 37, []), (37, .aload_n 0, 38, []), (38, .iconst 0, 39, []), (39, .putfield 15, 42, []), (42, .iconst 0, 43, []), (43, .ireturn, 44, [])]
noncomputable def mX5_take : MI := (iX5_take, [(15, 5, 1)], [], [(160, 3, 5, 0, 0, fX5_takeWord), (172, 3, 5, 0, 0, fX5_takeCell)], [], (0, 0), 1, [(13, [0, 1, 2]), (28, [0, 1, 2])])
noncomputable def fX5_take : CF := mth mX5_take 3
def iX5_parse : List (Nat × Instr × Nat × List Nat) := [(0, .aload_n 2, 1, []), (1, .invokevirtual 22, 4, []), (4, .aload_n 0, 5, []), (5, .iconst 0, 6, []), (6, .putfield 15, 9, []), (9, .iconst 0, 10, []), (10, .istore_n 3, 11, []), (11, .iload_n 3, 12, []), (12, .aload_n 1, 13, []), (13, .getfield 27, 16, []), (16, .if_icmp .ge 49, 19, [65]), (19, .aload_n 1, 20, []), (20, .iload_n 3, 21, []), (21, .invokevirtual 32, 24, []), (24, .istore 4, 26, []), (26, .iload 4, 28, []), (28, .bipush 32, 30, []), (30, .if_icmp .ne 7, 33, [37]), (33, .iconst 0, 34, []), (34, .goto 10, 37, [44]), (37, .aload_n 0, 38, []), (38, .iload 4, 40, []), (40, .aload_n 2, 41, []), (41, .invokevirtual 36, 44, []), (44, .istore 5, 46, []), (46, .iload 5, 48, []), (48, .ifCond .eq 11, 51, [59]), (51, .aload_n 0, 52, []), (52, .iload_n 3, 53, []), (53, .putfield 9, 56, []), (56, .iload 5, 58, []), (58, .ireturn, 59, []), (59, .iinc 3 1, 62, []), (62, .goto (-51), 65, [11]), (65, .aload_n 0, 66, []), (66, .getfield 15, 69, []), (69, .ifCond .eq 13, 72, [82]), (72, .aload_n 0, 73, []), (73, .aload_n 1, 74, []), (74, .getfield 27, 77, []), (77, .putfield 9, 80, []), (80, .iconst 1, 81, []), (81, .ireturn, 82, []), (82, .aload_n 0, 83, []), (83, .iconst (-1), 84, []), (84, .putfield 9, 87, []), (87, .iconst 0, 88, []), (88, .ireturn, 89, [])]
noncomputable def mX5_parse : MI := (iX5_parse, [(9, 5, 0), (15, 5, 1), (27, 10, 1)], [], [(88, 1, 6, 0, 0, fX6_clear), (128, 2, 10, 0, 0, fX10_letterAt), (144, 3, 5, 0, 0, fX5_take)], [], (0, 0), 1, [(4, [3, 4, 5]), (11, [4, 5]), (24, [4, 5]), (44, [4, 5])])
noncomputable def fX5_parse : CF := mth mX5_parse 6
def iX6_init : List (Nat × Instr × Nat × List Nat) := [(0, .aload_n 0, 1, []), (1, .invokespecial 3, 4, []), (4, .aload_n 0, 5, []), (5, .bipush 8, 7, []), (7, .newarray .int, 9, []), (9, .putfield 9, 12, []), (12, .aload_n 0, 13, []), (13, .bipush 8, 15, []), (15, .newarray .int, 17, []), (17, .putfield 15, 20, []), (20, .aload_n 0, 21, []), (21, .iconst 0, 22, []), (22, .putfield 18, 25, []), (25, .aload_n 0, 26, []), (26, .iconst 0, 27, []), (27, .putfield 22, 30, []), (30, .aload_n 0, 31, []), (31, .iconst 0, 32, []), (32, .putfield 25, 35, []), (35, .aload_n 0, 36, []), (36, .iconst 0, 37, []), (37, .putfield 28, 40, []), (40, .return_, 41, [])]
noncomputable def mX6_init : MI := (iX6_init, [(9, 6, 0), (15, 6, 1), (18, 6, 2), (22, 6, 3), (25, 6, 4), (28, 6, 5)], [], [(13, 1, 99, 0, 0, fObj)], [], (2, 16), 0, [])
noncomputable def fX6_init : CF := mth mX6_init 1
def iX6_hasGap : List (Nat × Instr × Nat × List Nat) := [(0, .aload_n 0, 1, []), (1, .iload_n 1, 2, []), (2, .invokevirtual 35, 5, []), (5, .ifCond .eq 18, 8, [23]), (8, .aload_n 0, 9, []), (9, .getfield 28, 12, []), (12, .iload_n 1, 13, []), (13, .invokestatic 39, 16, []), (16, .ifCond .eq 7, 19, [23]), (19, .iconst 1, 20, []), (20, .goto 4, 23, [24]), (23, .iconst 0, 24, []), (24, .ireturn, 25, [])]
noncomputable def mX6_hasGap : MI := (iX6_hasGap, [(28, 6, 5)], [], [(140, 2, 6, 0, 0, fX6_hasStep), (158, 2, 11, 0, 0, fX11_has)], [], (0, 0), 2, [(16, [0, 1])])
noncomputable def fX6_hasGap : CF := mth mX6_hasGap 2
def iX6_areInConflict : List (Nat × Instr × Nat × List Nat) := [(0, .aload_n 0, 1, []), (1, .iload_n 1, 2, []), (2, .invokevirtual 31, 5, []), (5, .aload_n 0, 6, []), (6, .iload_n 2, 7, []), (7, .invokevirtual 31, 10, []), (10, .if_icmp .eq 36, 13, [46]), (13, .aload_n 0, 14, []), (14, .iload_n 1, 15, []), (15, .invokevirtual 43, 18, []), (18, .aload_n 0, 19, []), (19, .iload_n 2, 20, []), (20, .invokevirtual 43, 23, []), (23, .if_icmp .ne 23, 26, [46]), (26, .aload_n 0, 27, []), (27, .iload_n 1, 28, []), (28, .invokevirtual 46, 31, []), (31, .ifCond .ne 11, 34, [42]), (34, .aload_n 0, 35, []), (35, .iload_n 2, 36, []), (36, .invokevirtual 46, 39, []), (39, .ifCond .eq 7, 42, [46]), (42, .iconst 1, 43, []), (43, .goto 4, 46, [47]), (46, .iconst 0, 47, []), (47, .ireturn, 48, [])]
noncomputable def mX6_areInConflict : MI := (iX6_areInConflict, [], [], [(124, 2, 6, 0, 0, fX6_threadOf), (172, 2, 6, 0, 0, fX6_cellOf), (184, 2, 6, 0, 0, fX6_isWriter)], [], (0, 0), 2, [(31, [1]), (39, [0, 1, 2])])
noncomputable def fX6_areInConflict : CF := mth mX6_areInConflict 3
def iX6_conflictsOf : List (Nat × Instr × Nat × List Nat) := [(0, .iconst 0, 1, []), (1, .istore_n 2, 2, []), (2, .iconst 0, 3, []), (3, .istore_n 3, 4, []), (4, .iload_n 3, 5, []), (5, .aload_n 0, 6, []), (6, .getfield 22, 9, []), (9, .if_icmp .ge 24, 12, [33]), (12, .aload_n 0, 13, []), (13, .iload_n 1, 14, []), (14, .iload_n 3, 15, []), (15, .invokevirtual 49, 18, []), (18, .ifCond .eq 9, 21, [27]), (21, .iload_n 2, 22, []), (22, .iconst 1, 23, []), (23, .iload_n 3, 24, []), (24, .ishl, 25, []), (25, .ior, 26, []), (26, .istore_n 2, 27, []), (27, .iinc 3 1, 30, []), (30, .goto (-26), 33, [4]), (33, .iload_n 2, 34, []), (34, .ireturn, 35, [])]
noncomputable def mX6_conflictsOf : MI := (iX6_conflictsOf, [(22, 6, 3)], [], [(196, 3, 6, 0, 0, fX6_areInConflict)], [], (0, 0), 1, [])
noncomputable def fX6_conflictsOf : CF := mth mX6_conflictsOf 4
def iX7_init : List (Nat × Instr × Nat × List Nat) := [(0, .aload_n 0, 1, []), (1, .invokespecial 3, 4, []), (4, .aload_n 0, 5, []), (5, .sipush 256, 8, []), (8, .newarray .int, 10, []), (10, .putfield 11, 13, []), (13, .aload_n 0, 14, []), (14, .iconst 0, 15, []), (15, .putfield 15, 18, []), (18, .return_, 19, [])]
noncomputable def mX7_init : MI := (iX7_init, [(11, 7, 0), (15, 7, 1)], [], [(13, 1, 99, 0, 0, fObj)], [], (1, 256), 0, [])
noncomputable def fX7_init : CF := mth mX7_init 1
def iX7_countWithout : List (Nat × Instr × Nat × List Nat) := [(0, .iconst 0, 1, []), (1, .istore_n 2, 2, []), (2, .iconst 0, 3, []), (3, .istore_n 3, 4, []), (4, .iload_n 3, 5, []), (5, .aload_n 0, 6, []), (6, .getfield 15, 9, []), (9, .if_icmp .ge 24, 12, [33]), (12, .aload_n 1, 13, []), (13, .aload_n 0, 14, []), (14, .iload_n 3, 15, []), (15, .invokevirtual 23, 18, []), (18, .invokevirtual 26, 21, []), (21, .ifCond .ne 6, 24, [27]), (24, .iinc 2 1, 27, []), (27, .iinc 3 1, 30, []), (30, .goto (-26), 33, [4]), (33, .iload_n 2, 34, []), (34, .ireturn, 35, [])]
noncomputable def mX7_countWithout : MI := (iX7_countWithout, [(15, 7, 1)], [], [(92, 2, 7, 0, 0, fX7_at), (104, 2, 7, 0, 0, fX7_holds)], [], (0, 0), 1, [])
noncomputable def fX7_countWithout : CF := mth mX7_countWithout 4
def iX7_atWithout : List (Nat × Instr × Nat × List Nat) := [(0, .iconst 0, 1, []), (1, .istore_n 3, 2, []), (2, .iconst 0, 3, []), (3, .istore 4, 5, []), (5, .iload 4, 7, []), (7, .aload_n 0, 8, []), (8, .getfield 15, 11, []), (11, .if_icmp .ge 37, 14, [48]), (14, .aload_n 2, 15, []), (15, .aload_n 0, 16, []), (16, .iload 4, 18, []), (18, .invokevirtual 23, 21, []), (21, .invokevirtual 26, 24, []), (24, .ifCond .ne 18, 27, [42]), (27, .iload_n 3, 28, []), (28, .iload_n 1, 29, []), (29, .if_icmp .ne 10, 32, [39]), (32, .aload_n 0, 33, []), (33, .iload 4, 35, []), (35, .invokevirtual 23, 38, []), (38, .ireturn, 39, []), (39, .iinc 3 1, 42, []), (42, .iinc 4 1, 45, []), (45, .goto (-40), 48, [5]), (48, .iconst (-1), 49, []), (49, .ireturn, 50, [])]
noncomputable def mX7_atWithout : MI := (iX7_atWithout, [(15, 7, 1)], [], [(92, 2, 7, 0, 0, fX7_at), (104, 2, 7, 0, 0, fX7_holds)], [], (0, 0), 1, [(38, [0, 1, 2, 3, 4])])
noncomputable def fX7_atWithout : CF := mth mX7_atWithout 5
def iX8_init : List (Nat × Instr × Nat × List Nat) := [(0, .aload_n 0, 1, []), (1, .invokespecial 3, 4, []), (4, .aload_n 0, 5, []), (5, .bipush 36, 7, []), (7, .newarray .int, 9, []), (9, .putfield 11, 12, []), (12, .aload_n 0, 13, []), (13, .bipush 64, 15, []), (15, .newarray .int, 17, []), (17, .putfield 15, 20, []), (20, .aload_n 0, 21, []), (21, .iconst 0, 22, []), (22, .putfield 18, 25, []), (25, .aload_n 0, 26, []), (26, .iconst 0, 27, []), (27, .putfield 22, 30, []), (30, .return_, 31, [])]
noncomputable def mX8_init : MI := (iX8_init, [(11, 8, 0), (15, 8, 1), (18, 8, 2), (22, 8, 3)], [], [(13, 1, 99, 0, 0, fObj)], [], (2, 100), 0, [])
noncomputable def fX8_init : CF := mth mX8_init 1
def iX8_addGift : List (Nat × Instr × Nat × List Nat) := [(0, .aload_n 0, 1, []), (1, .getfield 18, 4, []), (4, .ifCond .lt 35, 7, [39]), (7, .aload_n 0, 8, []), (8, .getfield 18, 11, []), (11, .aload_n 0, 12, []), (12, .getfield 11, 15, []), (15, .arraylength, 16, []), (16, .if_icmp .ge 23, 19, [39]), (19, .aload_n 0, 20, []), (20, .getfield 11, 23, []), (23, .aload_n 0, 24, []), (24, .getfield 18, 27, []), (27, .iload_n 1, 28, []), (28, .iastore, 29, []), (29, .aload_n 0, 30, []), (30, .dup, 31, []), (31, .getfield 18, 34, []), (34, .iconst 1, 35, []), (35, .iadd, 36, []), (36, .putfield 18, 39, []), (39, .return_, 40, [])]
noncomputable def mX8_addGift : MI := (iX8_addGift, [(11, 8, 0), (18, 8, 2)], [], [], [], (0, 0), 0, [])
noncomputable def fX8_addGift : CF := mth mX8_addGift 2
def iX8_gatherGifts : List (Nat × Instr × Nat × List Nat) := [(0, .aload_n 0, 1, []), (1, .iconst 0, 2, []), (2, .putfield 18, 5, []), (5, .iconst 0, 6, []), (6, .istore_n 2, 7, []), (7, .iload_n 2, 8, []), (8, .aload_n 1, 9, []), (9, .getfield 47, 12, []), (12, .if_icmp .ge 75, 15, [87]), (15, .aload_n 1, 16, []), (16, .iload_n 2, 17, []), (17, .invokevirtual 52, 20, []), (20, .ifCond .eq 12, 23, [32]), (23, .aload_n 0, 24, []), (24, .iload_n 2, 25, []), (25, .iload_n 2, 26, []), (26, .invokestatic 43, 29, []), (29, .invokevirtual 56, 32, []), (32, .iload_n 2, 33, []), (33, .iconst 1, 34, []), (34, .iadd, 35, []), (35, .istore_n 3, 36, []), (36, .iload_n 3, 37, []), (37, .aload_n 1, 38, []), (38, .getfield 47, 41, []), (41, .if_icmp .ge 40, 44, [81]), (44, .aload_n 1, 45, []), (45, .iload_n 2, 46, []), (46, .iload_n 3, 47, []), (47, .invokevirtual 60, 50, []), (50, .ifCond .eq 25, 53, [75]), (53, .aload_n 1, 54, []), (54, .iload_n 2, 55, []), (55, .invokevirtual 64, 58, []), (58, .aload_n 1, 59, []), (59, .iload_n 3, 60, []), (60, .invokevirtual 64, 63, []), (63, .if_icmp .eq 12, 66, [75]), (66, .aload_n 0, 67, []), (67, .iload_n 2, 68, []), (68, .iload_n 3, 69, []), (69, .invokestatic 43, 72, []), (72, .invokevirtual 56, 75, []), (75, .iinc 3 1, 78, []), (78, .goto (-42), 81, [36]), (81, .iinc 2 1, 84, []), (84, .goto (-77), 87, [7]), (87, .return_, 88, [])]
noncomputable def mX8_gatherGifts : MI := (iX8_gatherGifts, [(18, 8, 2), (47, 6, 3)], [], [(174, 2, 8, 0, 0, fX8_giftOf), (208, 2, 6, 0, 0, fX6_isWriter), (224, 2, 8, 0, 0, fX8_addGift), (240, 3, 6, 0, 0, fX6_isAhead), (256, 2, 6, 0, 0, fX6_cellOf)], [], (0, 0), 0, [(7, [3]), (20, [3]), (29, [3]), (32, [3])])
noncomputable def fX8_gatherGifts : CF := mth mX8_gatherGifts 4
def iX8_giftAt : List (Nat × Instr × Nat × List Nat) := [(0, .iload_n 1, 1, []), (1, .ifCond .lt 21, 4, [22]), (4, .iload_n 1, 5, []), (5, .aload_n 0, 6, []), (6, .getfield 11, 9, []), (9, .arraylength, 10, []), (10, .if_icmp .ge 12, 13, [22]), (13, .aload_n 0, 14, []), (14, .getfield 11, 17, []), (17, .iload_n 1, 18, []), (18, .iaload, 19, []), (19, .goto 4, 22, [23]), (22, .iconst 0, 23, []), (23, .ireturn, 24, [])]
noncomputable def mX8_giftAt : MI := (iX8_giftAt, [(11, 8, 0)], [], [], [], (0, 0), 1, [])
noncomputable def fX8_giftAt : CF := mth mX8_giftAt 2
def iX8_firstOf : List (Nat × Instr × Nat × List Nat) := [(0, .iload_n 0, 1, []), (1, .bipush 8, 3, []), (3, .idiv, 4, []), (4, .ireturn, 5, [])]
noncomputable def mX8_firstOf : MI := (iX8_firstOf, [], [], [], [], (0, 0), 1, [])
noncomputable def fX8_firstOf : CF := mth mX8_firstOf 1
def iX8_lastOf : List (Nat × Instr × Nat × List Nat) := [(0, .iload_n 0, 1, []), (1, .bipush 8, 3, []), (3, .irem, 4, []), (4, .ireturn, 5, [])]
noncomputable def mX8_lastOf : MI := (iX8_lastOf, [], [], [], [], (0, 0), 1, [])
noncomputable def fX8_lastOf : CF := mth mX8_lastOf 1
def iX8_isAlone : List (Nat × Instr × Nat × List Nat) := [(0, .iload_n 0, 1, []), (1, .invokestatic 67, 4, []), (4, .iload_n 0, 5, []), (5, .invokestatic 83, 8, []), (8, .if_icmp .ne 7, 11, [15]), (11, .iconst 1, 12, []), (12, .goto 4, 15, [16]), (15, .iconst 0, 16, []), (16, .ireturn, 17, [])]
noncomputable def mX8_isAlone : MI := (iX8_isAlone, [], [], [(270, 1, 8, 0, 0, fX8_firstOf), (334, 1, 8, 0, 0, fX8_lastOf)], [], (0, 0), 2, [(8, [0])])
noncomputable def fX8_isAlone : CF := mth mX8_isAlone 1
def iX8_leadsTo : List (Nat × Instr × Nat × List Nat) := [(0, .iload_n 2, 1, []), (1, .invokestatic 83, 4, []), (4, .istore 4, 6, []), (6, .iload_n 3, 7, []), (7, .invokestatic 67, 10, []), (10, .istore 5, 12, []), (12, .aload_n 1, 13, []), (13, .iload 4, 15, []), (15, .iload 5, 17, []), (17, .invokevirtual 86, 20, []), (20, .ifCond .ne 5, 23, [25]), (23, .iconst 0, 24, []), (24, .ireturn, 25, []), (25, .iload_n 2, 26, []), (26, .invokestatic 77, 29, []), (29, .ifCond .eq 12, 32, [41]), (32, .aload_n 1, 33, []), (33, .iload 5, 35, []), (35, .invokevirtual 52, 38, []), (38, .ifCond .ne 23, 41, [61]), (41, .iload_n 3, 42, []), (42, .invokestatic 77, 45, []), (45, .ifCond .eq 12, 48, [57]), (48, .aload_n 1, 49, []), (49, .iload 4, 51, []), (51, .invokevirtual 52, 54, []), (54, .ifCond .ne 7, 57, [61]), (57, .iconst 1, 58, []), (58, .goto 4, 61, [62]), (61, .iconst 0, 62, []), (62, .ireturn, 63, [])]
noncomputable def mX8_leadsTo : MI := (iX8_leadsTo, [], [], [(208, 2, 6, 0, 0, fX6_isWriter), (270, 1, 8, 0, 0, fX8_firstOf), (310, 1, 8, 0, 0, fX8_isAlone), (334, 1, 8, 0, 0, fX8_lastOf), (344, 3, 6, 0, 0, fX6_areInConflict)], [], (0, 0), 2, [(4, [0, 4, 5]), (10, [0, 5]), (20, [0]), (29, [0, 2]), (38, [0, 2, 5]), (45, [0, 2, 3, 5]), (54, [0, 1, 2, 3, 4, 5])])
noncomputable def fX8_leadsTo : CF := mth mX8_leadsTo 6
def iX8_countGiven : List (Nat × Instr × Nat × List Nat) := [(0, .iload_n 1, 1, []), (1, .ifCond .lt 22, 4, [23]), (4, .iload_n 1, 5, []), (5, .aload_n 0, 6, []), (6, .getfield 15, 9, []), (9, .arraylength, 10, []), (10, .if_icmp .ge 13, 13, [23]), (13, .aload_n 0, 14, []), (14, .getfield 15, 17, []), (17, .iload_n 1, 18, []), (18, .dup2, 19, []), (19, .iaload, 20, []), (20, .iconst 1, 21, []), (21, .iadd, 22, []), (22, .iastore, 23, []), (23, .return_, 24, [])]
noncomputable def mX8_countGiven : MI := (iX8_countGiven, [(15, 8, 1)], [], [], [], (0, 0), 0, [])
noncomputable def fX8_countGiven : CF := mth mX8_countGiven 2
def iX8_findBegunWith : List (Nat × Instr × Nat × List Nat) := [(0, .aload_n 1, 1, []), (1, .iload_n 2, 2, []), (2, .invokestatic 67, 5, []), (5, .invokevirtual 70, 8, []), (8, .istore 4, 10, []), (10, .aload_n 1, 11, []), (11, .iload_n 3, 12, []), (12, .invokestatic 67, 15, []), (15, .invokevirtual 70, 18, []), (18, .istore 5, 20, []), (20, .iload 4, 22, []), (22, .iload 5, 24, []), (24, .if_icmp .ge 13, 27, [37]), (27, .aload_n 0, 28, []), (28, .aload_n 1, 29, []), (29, .iload_n 2, 30, []), (30, .iload_n 3, 31, []), (31, .invokevirtual 73, 34, []), (34, .ifCond .ne 4, 37, [38]), (37, .return_, 38, []), (38, .iload_n 2, 39, []), (39, .invokestatic 77, 42, []), (42, .ifCond .ne 40, 45, [82]), (45, .iload_n 3, 46, []), (46, .invokestatic 77, 49, []), (49, .ifCond .ne 33, 52, [82]), (52, .aload_n 0, 53, []), (53, .aload_n 1, 54, []), (54, .iload_n 3, 55, []), (55, .iload_n 2, 56, []), (56, .invokevirtual 73, 59, []), (59, .ifCond .eq 23, 62, [82]), (62, .aload_n 0, 63, []), (63, .dup, 64, []), (64, .getfield 22, 67, []), (67, .iconst 1, 68, []), (68, .iadd, 69, []), (69, .putfield 22, 72, []), (72, .aload_n 0, 73, []), (73, .iload_n 2, 74, []), (74, .invokevirtual 80, 77, []), (77, .aload_n 0, 78, []), (78, .iload_n 3, 79, []), (79, .invokevirtual 80, 82, []), (82, .iconst 0, 83, []), (83, .istore 6, 85, []), (85, .iload 6, 87, []), (87, .aload_n 0, 88, []), (88, .getfield 18, 91, []), (91, .if_icmp .ge 90, 94, [181]), (94, .aload_n 0, 95, []), (95, .iload 6, 97, []), (97, .invokevirtual 35, 100, []), (100, .istore 7, 102, []), (102, .aload_n 1, 103, []), (103, .iload 7, 105, []), (105, .invokestatic 67, 108, []), (108, .invokevirtual 70, 111, []), (111, .istore 8, 113, []), (113, .iload 4, 115, []), (115, .iload 8, 117, []), (117, .if_icmp .ge 58, 120, [175]), (120, .iload 5, 122, []), (122, .iload 8, 124, []), (124, .if_icmp .eq 51, 127, [175]), (127, .aload_n 0, 128, []), (128, .aload_n 1, 129, []), (129, .iload_n 3, 130, []), (130, .iload 7, 132, []), (132, .invokevirtual 73, 135, []), (135, .ifCond .eq 40, 138, [175]), (138, .aload_n 0, 139, []), (139, .aload_n 1, 140, []), (140, .iload 7, 142, []), (142, .iload_n 2, 143, []), (143, .invokevirtual 73, 146, []), (146, .ifCond .eq 29, 149, [175]), (149, .aload_n 0, 150, []), (150, .dup, 151, []), (151, .getfield 22, 154, []), (154, .iconst 1, 155, []), (155, .iadd, 156, []), (156, .putfield 22, 159, []), (159, .aload_n 0, 160, []), (160, .iload_n 2, 161, []), (161, .invokevirtual 80, 164, []), (164, .aload_n 0, 165, []), (165, .iload_n 3, 166, []), (166, .invokevirtual 80, 169, []), (169, .aload_n 0, 170, []), (170, .iload 7, 172, []), (172, .invokevirtual 80, 175, []), (175, .iinc 6 1, 178, []), (178, .goto (-93), 181, [85]), (181, .return_, 182, [])]
noncomputable def mX8_findBegunWith : MI := (iX8_findBegunWith, [(18, 8, 2), (22, 8, 3)], [], [(140, 2, 8, 0, 0, fX8_giftAt), (270, 1, 8, 0, 0, fX8_firstOf), (280, 2, 6, 0, 0, fX6_threadOf), (292, 4, 8, 0, 0, fX8_leadsTo), (310, 1, 8, 0, 0, fX8_isAlone), (320, 2, 8, 0, 0, fX8_countGiven)], [], (0, 0), 0, [(5, [4, 5, 6, 7, 8]), (8, [4, 5, 6, 7, 8]), (15, [5, 6, 7, 8]), (18, [5, 6, 7, 8]), (34, [6, 7, 8]), (42, [6, 7, 8]), (49, [6, 7, 8]), (59, [6, 7, 8]), (77, [6, 7, 8]), (82, [6, 7, 8]), (85, [7, 8]), (100, [7, 8]), (108, [8]), (111, [8]), (135, [8]), (146, [8]), (164, [8]), (169, [8]), (175, [7, 8])])
noncomputable def fX8_findBegunWith : CF := mth mX8_findBegunWith 9
def iX8_find : List (Nat × Instr × Nat × List Nat) := [(0, .aload_n 0, 1, []), (1, .getfield 15, 4, []), (4, .iconst 0, 5, []), (5, .invokestatic 25, 8, []), (8, .aload_n 0, 9, []), (9, .iconst 0, 10, []), (10, .putfield 22, 13, []), (13, .aload_n 0, 14, []), (14, .aload_n 1, 15, []), (15, .invokevirtual 31, 18, []), (18, .iconst 0, 19, []), (19, .istore_n 2, 20, []), (20, .iload_n 2, 21, []), (21, .aload_n 0, 22, []), (22, .getfield 18, 25, []), (25, .if_icmp .ge 40, 28, [65]), (28, .iconst 0, 29, []), (29, .istore_n 3, 30, []), (30, .iload_n 3, 31, []), (31, .aload_n 0, 32, []), (32, .getfield 18, 35, []), (35, .if_icmp .ge 24, 38, [59]), (38, .aload_n 0, 39, []), (39, .aload_n 1, 40, []), (40, .aload_n 0, 41, []), (41, .iload_n 2, 42, []), (42, .invokevirtual 35, 45, []), (45, .aload_n 0, 46, []), (46, .iload_n 3, 47, []), (47, .invokevirtual 35, 50, []), (50, .invokevirtual 39, 53, []), (53, .iinc 3 1, 56, []), (56, .goto (-26), 59, [30]), (59, .iinc 2 1, 62, []), (62, .goto (-42), 65, [20]), (65, .return_, 66, [])]
noncomputable def mX8_find : MI := (iX8_find, [(15, 8, 1), (18, 8, 2), (22, 8, 3)], [], [(102, 2, 99, 0, 0, fJ7_fill_53178), (124, 2, 8, 0, 0, fX8_gatherGifts), (140, 2, 8, 0, 0, fX8_giftAt), (156, 4, 8, 0, 0, fX8_findBegunWith)], [], (0, 0), 0, [(8, [2, 3]), (18, [2, 3]), (20, [3])])
noncomputable def fX8_find : CF := mth mX8_find 4
def iX9_setFence : List (Nat × Instr × Nat × List Nat) := [(0, .aload_n 0, 1, []), (1, .iload_n 2, 2, []), (2, .ifCond .eq 14, 5, [16]), (5, .aload_n 0, 6, []), (6, .getfield 24, 9, []), (9, .iconst 1, 10, []), (10, .iload_n 1, 11, []), (11, .ishl, 12, []), (12, .ior, 13, []), (13, .goto 13, 16, [26]), (16, .aload_n 0, 17, []), (17, .getfield 24, 20, []), (20, .iconst 1, 21, []), (21, .iload_n 1, 22, []), (22, .ishl, 23, []), (23, .iconst (-1), 24, []), (24, .ixor, 25, []), (25, .iand, 26, []), (26, .putfield 24, 29, []), (29, .return_, 30, [])]
noncomputable def mX9_setFence : MI := (iX9_setFence, [(24, 9, 1)], [], [], [], (0, 0), 0, [])
noncomputable def fX9_setFence : CF := mth mX9_setFence 3
def iX9_setCost : List (Nat × Instr × Nat × List Nat) := [(0, .iload_n 1, 1, []), (1, .ifCond .lt 19, 4, [20]), (4, .iload_n 1, 5, []), (5, .aload_n 0, 6, []), (6, .getfield 9, 9, []), (9, .arraylength, 10, []), (10, .if_icmp .ge 10, 13, [20]), (13, .aload_n 0, 14, []), (14, .getfield 9, 17, []), (17, .iload_n 1, 18, []), (18, .iload_n 2, 19, []), (19, .iastore, 20, []), (20, .return_, 21, [])]
noncomputable def mX9_setCost : MI := (iX9_setCost, [(9, 9, 0)], [], [], [], (0, 0), 0, [])
noncomputable def fX9_setCost : CF := mth mX9_setCost 3
def iX10_init : List (Nat × Instr × Nat × List Nat) := [(0, .aload_n 0, 1, []), (1, .invokespecial 3, 4, []), (4, .aload_n 0, 5, []), (5, .bipush 120, 7, []), (7, .newarray .int, 9, []), (9, .putfield 9, 12, []), (12, .aload_n 0, 13, []), (13, .iconst 0, 14, []), (14, .putfield 15, 17, []), (17, .return_, 18, [])]
noncomputable def mX10_init : MI := (iX10_init, [(9, 10, 0), (15, 10, 1)], [], [(13, 1, 99, 0, 0, fObj)], [], (1, 120), 0, [])
noncomputable def fX10_init : CF := mth mX10_init 1
def iX10_add : List (Nat × Instr × Nat × List Nat) := [(0, .aload_n 0, 1, []), (1, .getfield 15, 4, []), (4, .ifCond .lt 15, 7, [19]), (7, .aload_n 0, 8, []), (8, .getfield 15, 11, []), (11, .aload_n 0, 12, []), (12, .getfield 9, 15, []), (15, .arraylength, 16, []), (16, .if_icmp .lt 5, 19, [21]), (19, .iconst 0, 20, []), (20, .ireturn, 21, []), (21, .aload_n 0, 22, []), (22, .getfield 9, 25, []), (25, .aload_n 0, 26, []), (26, .getfield 15, 29, []), (29, .iload_n 1, 30, []), (30, .iastore, 31, []), (31, .aload_n 0, 32, []), (32, .dup, 33, []), (33, .getfield 15, 36, []), (36, .iconst 1, 37, []), (37, .iadd, 38, []), (38, .putfield 15, 41, []), (41, .iconst 1, 42, []), (42, .ireturn, 43, [])]
noncomputable def mX10_add : MI := (iX10_add, [(9, 10, 0), (15, 10, 1)], [], [], [], (0, 0), 2, [])
noncomputable def fX10_add : CF := mth mX10_add 2
def iX10_clear : List (Nat × Instr × Nat × List Nat) := [(0, .aload_n 0, 1, []), (1, .iconst 0, 2, []), (2, .putfield 15, 5, []), (5, .return_, 6, [])]
noncomputable def mX10_clear : MI := (iX10_clear, [(15, 10, 1)], [], [], [], (0, 0), 0, [])
noncomputable def fX10_clear : CF := mth mX10_clear 1
def iX11_init : List (Nat × Instr × Nat × List Nat) := [(0, .aload_n 0, 1, []), (1, .invokespecial 1, 4, []), (4, .aload_n 0, 5, []), (5, .new 7, 8, []), (8, .dup, 9, []), (9, .invokespecial 9, 12, []), (12, .putfield 10, 15, []), (15, .aload_n 0, 16, []), (16, .new 16, 19, []), (19, .dup, 20, []), (20, .invokespecial 18, 23, []), (23, .putfield 19, 26, []), (26, .aload_n 0, 27, []), (27, .new 23, 30, []), (30, .dup, 31, []), (31, .invokespecial 25, 34, []), (34, .putfield 26, 37, []), (37, .aload_n 0, 38, []), (38, .new 23, 41, []), (41, .dup, 42, []), (42, .invokespecial 25, 45, []), (45, .putfield 30, 48, []), (48, .aload_n 0, 49, []), (49, .new 33, 52, []), (52, .dup, 53, []), (53, .invokespecial 35, 56, []), (56, .putfield 36, 59, []), (59, .aload_n 0, 60, []), (60, .new 40, 63, []), (63, .dup, 64, []), (64, .invokespecial 42, 67, []), (67, .putfield 43, 70, []), (70, .aload_n 0, 71, []), (71, .new 47, 74, []), (74, .dup, 75, []), (75, .invokespecial 49, 78, []), (78, .putfield 50, 81, []), (81, .aload_n 0, 82, []), (82, .new 54, 85, []), (85, .dup, 86, []), (86, .invokespecial 56, 89, []), (89, .putfield 57, 92, []), (92, .aload_n 0, 93, []), (93, .iconst 2, 94, []), (94, .anewarray 61, 97, []), (97, .putfield 63, 100, []), (100, .iconst 0, 101, []), (101, .istore_n 1, 102, []), (102, .iload_n 1, 103, []), (103, .aload_n 0, 104, []), (104, .getfield 63, 107, []), (107, .arraylength, 108, []), (108, .if_icmp .ge 22, 111, [130]), (111, .aload_n 0, 112, []), (112, .getfield 63, 115, []), (115, .iload_n 1, 116, []), (116, .new 61, 119, []), (119, .dup, 120, []), (120, .invokespecial 67, 123, []), (123, .aastore, 124, []), (124, .iinc 1 1, 127, []), (127, .goto (-25), 130, [102]), (130, .aload_n 0, 131, []), (131, .new 68, 134, []), (134, .dup, 135, []), (135, .invokespecial 70, 138, []), (138, .putfield 71, 141, []), (141, .aload_n 0, 142, []), (142, .new 75, 145, []), (145, .dup, 146, []), (146, .invokespecial 77, 149, []), (149, .putfield 78, 152, []), (152, .aload_n 0, 153, []), (153, .new 82, 156, []), (156, .dup, 157, []), (157, .invokespecial 84, 160, []), (160, .putfield 85, 163, []), (163, .aload_n 0, 164, []), (164, .new 82, 167, []), (167, .dup, 168, []), (168, .invokespecial 84, 171, []), (171, .putfield 89, 174, []), (174, .aload_n 0, 175, []), (175, .iconst 0, 176, []), (176, .putfield 92, 179, []), (179, .aload_n 0, 180, []), (180, .iconst 0, 181, []), (181, .putfield 96, 184, []), (184, .aload_n 0, 185, []), (185, .iconst 0, 186, []), (186, .putfield 100, 189, []), (189, .aload_n 0, 190, []), (190, .iconst 0, 191, []), (191, .putfield 103, 194, []), (194, .aload_n 0, 195, []), (195, .iconst 0, 196, []), (196, .putfield 106, 199, []), (199, .aload_n 0, 200, []), (200, .iconst (-1), 201, []), (201, .putfield 109, 204, []), (204, .return_, 205, [])]
noncomputable def mX11_init : MI := (iX11_init, [(10, 11, 0), (19, 11, 1), (26, 11, 2), (30, 11, 3), (36, 11, 4), (43, 11, 5), (50, 11, 6), (57, 11, 7), (63, 11, 8), (71, 11, 9), (78, 11, 10), (85, 11, 11), (89, 11, 12), (92, 11, 13), (96, 11, 14), (100, 11, 15), (103, 11, 16), (106, 11, 17), (109, 11, 18)], [], [(5, 1, 99, 0, 0, fObj), (37, 1, 10, 1, 120, fX10_init), (73, 1, 5, 0, 0, fX5_init), (101, 1, 6, 2, 16, fX6_init), (141, 1, 8, 2, 100, fX8_init), (169, 1, 3, 1, 28, fX3_init), (197, 1, 9, 1, 8, fX9_init), (225, 1, 1, 41, 240, fX1_init), (269, 1, 2, 2, 11, fX2_init), (281, 1, 0, 1, 20, fX0_init), (309, 1, 4, 5, 2064, fX4_init), (337, 1, 7, 1, 256, fX7_init)], [(7, 10), (16, 5), (23, 6), (33, 8), (40, 3), (47, 9), (54, 1), (61, 2), (68, 0), (75, 4), (82, 7)], (77, 3197), 0, [(4, [1]), (12, [1]), (23, [1]), (34, [1]), (45, [1]), (56, [1]), (67, [1]), (78, [1]), (89, [1]), (138, [1]), (149, [1]), (160, [1]), (171, [1])])
noncomputable def fX11_init : CF := mth mX11_init 2
def iX11_feed : List (Nat × Instr × Nat × List Nat) := [(0, .iload_n 1, 1, []), (1, .ifCond .lt 10, 4, [11]), (4, .iload_n 1, 5, []), (5, .sipush 255, 8, []), (8, .if_icmp .le 6, 11, [14]), (11, .ldc 112, 13, []), (13, .ireturn, 14, []), (14, .aload_n 0, 15, []), (15, .getfield 10, 18, []), (18, .iload_n 1, 19, []), (19, .invokevirtual 113, 22, []), (22, .ifCond .eq 13, 25, [35]), (25, .aload_n 0, 26, []), (26, .getfield 10, 29, []), (29, .getfield 117, 32, []), (32, .goto 5, 35, [37]), (35, .ldc 120, 37, []), (37, .ireturn, 38, [])]
noncomputable def mX11_feed : MI := (iX11_feed, [(10, 11, 0), (117, 10, 1)], [(112, .int (-1000000002)), (120, .int (-1000000004))], [(452, 2, 10, 0, 0, fX10_add)], [], (0, 0), 1, [(22, [1])])
noncomputable def fX11_feed : CF := mth mX11_feed 2
def iX11_startAnew : List (Nat × Instr × Nat × List Nat) := [(0, .aload_n 0, 1, []), (1, .getfield 36, 4, []), (4, .aload_n 0, 5, []), (5, .getfield 26, 8, []), (8, .invokevirtual 276, 11, []), (11, .aload_n 0, 12, []), (12, .getfield 50, 15, []), (15, .invokevirtual 280, 18, []), (18, .aload_n 0, 19, []), (19, .getfield 57, 22, []), (22, .invokevirtual 265, 25, []), (25, .iconst 0, 26, []), (26, .istore_n 1, 27, []), (27, .iload_n 1, 28, []), (28, .aload_n 0, 29, []), (29, .getfield 63, 32, []), (32, .arraylength, 33, []), (33, .if_icmp .ge 19, 36, [52]), (36, .aload_n 0, 37, []), (37, .getfield 63, 40, []), (40, .iload_n 1, 41, []), (41, .aaload, 42, []), (42, .iconst 0, 43, []), (43, .putfield 266, 46, []), (46, .iinc 1 1, 49, []), (49, .goto (-22), 52, [27]), (52, .aload_n 0, 53, []), (53, .getfield 71, 56, []), (56, .invokevirtual 260, 59, []), (59, .aload_n 0, 60, []), (60, .iconst 0, 61, []), (61, .putfield 92, 64, []), (64, .aload_n 0, 65, []), (65, .iconst 0, 66, []), (66, .putfield 103, 69, []), (69, .return_, 70, [])]
noncomputable def mX11_startAnew : MI := (iX11_startAnew, [(26, 11, 2), (36, 11, 4), (50, 11, 6), (57, 11, 7), (63, 11, 8), (71, 11, 9), (92, 11, 13), (103, 11, 16), (266, 2, 2)], [], [(1040, 1, 0, 0, 0, fX0_clear), (1060, 1, 1, 0, 0, fX1_clear), (1104, 2, 8, 0, 0, fX8_find), (1120, 1, 9, 0, 0, fX9_clear)], [], (0, 0), 0, [(11, [1]), (18, [1]), (25, [1]), (59, [1])])
noncomputable def fX11_startAnew : CF := mth mX11_startAnew 2
def iX11_threads : List (Nat × Instr × Nat × List Nat) := [(0, .aload_n 0, 1, []), (1, .getfield 19, 4, []), (4, .aload_n 0, 5, []), (5, .getfield 10, 8, []), (8, .aload_n 0, 9, []), (9, .getfield 30, 12, []), (12, .invokevirtual 121, 15, []), (15, .istore_n 1, 16, []), (16, .aload_n 0, 17, []), (17, .aload_n 0, 18, []), (18, .getfield 19, 21, []), (21, .getfield 125, 24, []), (24, .putfield 109, 27, []), (27, .aload_n 0, 28, []), (28, .getfield 10, 31, []), (31, .invokevirtual 126, 34, []), (34, .iload_n 1, 35, []), (35, .ifCond .eq 8, 38, [43]), (38, .bipush (-10), 40, []), (40, .iload_n 1, 41, []), (41, .isub, 42, []), (42, .ireturn, 43, []), (43, .aload_n 0, 44, []), (44, .getfield 26, 47, []), (47, .astore_n 2, 48, []), (48, .aload_n 0, 49, []), (49, .aload_n 0, 50, []), (50, .getfield 30, 53, []), (53, .putfield 26, 56, []), (56, .aload_n 0, 57, []), (57, .aload_n 2, 58, []), (58, .putfield 30, 61, []), (61, .aload_n 0, 62, []), (62, .invokevirtual 129, 65, []), (65, .aload_n 0, 66, []), (66, .getfield 26, 69, []), (69, .getfield 132, 72, []), (72, .ireturn, 73, [])]
noncomputable def mX11_threads : MI := (iX11_threads, [(10, 11, 0), (19, 11, 1), (26, 11, 2), (30, 11, 3), (109, 11, 18), (125, 5, 0), (132, 6, 3)], [], [(484, 3, 5, 0, 0, fX5_parse), (504, 1, 10, 0, 0, fX10_clear), (516, 1, 11, 0, 0, fX11_startAnew)], [], (0, 0), 1, [(15, [1, 2]), (34, [2]), (65, [1, 2])])
noncomputable def fX11_threads : CF := mth mX11_threads 3
def iX11_fault : List (Nat × Instr × Nat × List Nat) := [(0, .aload_n 0, 1, []), (1, .getfield 109, 4, []), (4, .ireturn, 5, [])]
noncomputable def mX11_fault : MI := (iX11_fault, [(109, 11, 18)], [], [], [], (0, 0), 1, [])
noncomputable def fX11_fault : CF := mth mX11_fault 1
def iX11_readingsNow : List (Nat × Instr × Nat × List Nat) := [(0, .aload_n 0, 1, []), (1, .getfield 92, 4, []), (4, .ifCond .eq 31, 7, [35]), (7, .aload_n 0, 8, []), (8, .getfield 96, 11, []), (11, .aload_n 0, 12, []), (12, .getfield 50, 15, []), (15, .getfield 141, 18, []), (18, .if_icmp .ne 17, 21, [35]), (21, .aload_n 0, 22, []), (22, .getfield 100, 25, []), (25, .aload_n 0, 26, []), (26, .getfield 50, 29, []), (29, .getfield 138, 32, []), (32, .if_icmp .eq 59, 35, [91]), (35, .aload_n 0, 36, []), (36, .getfield 78, 39, []), (39, .aload_n 0, 40, []), (40, .getfield 26, 43, []), (43, .aload_n 0, 44, []), (44, .getfield 50, 47, []), (47, .getfield 141, 50, []), (50, .aload_n 0, 51, []), (51, .getfield 50, 54, []), (54, .getfield 138, 57, []), (57, .aload_n 0, 58, []), (58, .getfield 85, 61, []), (61, .invokevirtual 293, 64, []), (64, .aload_n 0, 65, []), (65, .iconst 1, 66, []), (66, .putfield 92, 69, []), (69, .aload_n 0, 70, []), (70, .aload_n 0, 71, []), (71, .getfield 50, 74, []), (74, .getfield 141, 77, []), (77, .putfield 96, 80, []), (80, .aload_n 0, 81, []), (81, .aload_n 0, 82, []), (82, .getfield 50, 85, []), (85, .getfield 138, 88, []), (88, .putfield 100, 91, []), (91, .aload_n 0, 92, []), (92, .getfield 85, 95, []), (95, .areturn, 96, [])]
noncomputable def mX11_readingsNow : MI := (iX11_readingsNow, [(26, 11, 2), (50, 11, 6), (78, 11, 10), (85, 11, 11), (92, 11, 13), (96, 11, 14), (100, 11, 15), (138, 9, 2), (141, 9, 1)], [], [(1172, 5, 4, 0, 0, fX4_findReadings)], [], (0, 0), 4, [])
noncomputable def fX11_readingsNow : CF := mth mX11_readingsNow 1
def iX11_strictNow : List (Nat × Instr × Nat × List Nat) := [(0, .aload_n 0, 1, []), (1, .getfield 103, 4, []), (4, .ifCond .ne 25, 7, [29]), (7, .aload_n 0, 8, []), (8, .getfield 78, 11, []), (11, .aload_n 0, 12, []), (12, .getfield 26, 15, []), (15, .iconst 0, 16, []), (16, .iconst 0, 17, []), (17, .aload_n 0, 18, []), (18, .getfield 89, 21, []), (21, .invokevirtual 293, 24, []), (24, .aload_n 0, 25, []), (25, .iconst 1, 26, []), (26, .putfield 103, 29, []), (29, .aload_n 0, 30, []), (30, .getfield 89, 33, []), (33, .areturn, 34, [])]
noncomputable def mX11_strictNow : MI := (iX11_strictNow, [(26, 11, 2), (78, 11, 10), (89, 11, 12), (103, 11, 16)], [], [(1172, 5, 4, 0, 0, fX4_findReadings)], [], (0, 0), 4, [])
noncomputable def fX11_strictNow : CF := mth mX11_strictNow 1
def iX11_looseNow : List (Nat × Instr × Nat × List Nat) := [(0, .aload_n 0, 1, []), (1, .getfield 43, 4, []), (4, .aload_n 0, 5, []), (5, .getfield 26, 8, []), (8, .aload_n 0, 9, []), (9, .getfield 36, 12, []), (12, .aload_n 0, 13, []), (13, .getfield 50, 16, []), (16, .getfield 138, 19, []), (19, .invokevirtual 297, 22, []), (22, .aload_n 0, 23, []), (23, .getfield 43, 26, []), (26, .areturn, 27, [])]
noncomputable def mX11_looseNow : MI := (iX11_looseNow, [(26, 11, 2), (36, 11, 4), (43, 11, 5), (50, 11, 6), (138, 9, 2)], [], [(1188, 4, 3, 0, 0, fX3_gather)], [], (0, 0), 4, [])
noncomputable def fX11_looseNow : CF := mth mX11_looseNow 1
def iX11_bestSet : List (Nat × Instr × Nat × List Nat) := [(0, .aload_n 0, 1, []), (1, .invokevirtual 163, 4, []), (4, .aload_n 0, 5, []), (5, .getfield 26, 8, []), (8, .getfield 301, 11, []), (11, .aload_n 0, 12, []), (12, .getfield 50, 15, []), (15, .invokevirtual 304, 18, []), (18, .ireturn, 19, [])]
noncomputable def mX11_bestSet : MI := (iX11_bestSet, [(26, 11, 2), (50, 11, 6), (301, 6, 5)], [], [(652, 1, 11, 0, 0, fX11_looseNow), (1216, 3, 3, 0, 0, fX3_cheapestSet)], [], (0, 0), 1, [(18, [0])])
noncomputable def fX11_bestSet : CF := mth mX11_bestSet 1
def iX11_told : List (Nat × Instr × Nat × List Nat) := [(0, .iload_n 1, 1, []), (1, .tableswitch 288 0 18 #[91, 99, 107, 115, 123, 131, 146, 154, 162, 174, 182, 190, 205, 228, 233, 245, 260, 268, 280], 92, [289, 92, 100, 108, 116, 124, 132, 147, 155, 163, 175, 183, 191, 206, 229, 234, 246, 261, 269, 281]), (92, .aload_n 0, 93, []), (93, .getfield 26, 96, []), (96, .getfield 135, 99, []), (99, .ireturn, 100, []), (100, .aload_n 0, 101, []), (101, .getfield 26, 104, []), (104, .getfield 132, 107, []), (107, .ireturn, 108, []), (108, .aload_n 0, 109, []), (109, .getfield 10, 112, []), (112, .getfield 117, 115, []), (115, .ireturn, 116, []), (116, .aload_n 0, 117, []), (117, .getfield 50, 120, []), (120, .getfield 138, 123, []), (123, .ireturn, 124, []), (124, .aload_n 0, 125, []), (125, .getfield 50, 128, []), (128, .getfield 141, 131, []), (131, .ireturn, 132, []), (132, .aload_n 0, 133, []), (133, .getfield 50, 136, []), (136, .aload_n 0, 137, []), (137, .getfield 50, 140, []), (140, .getfield 141, 143, []), (143, .invokevirtual 144, 146, []), (146, .ireturn, 147, []), (147, .aload_n 0, 148, []), (148, .invokevirtual 148, 151, []), (151, .getfield 152, 154, []), (154, .ireturn, 155, []), (155, .aload_n 0, 156, []), (156, .invokevirtual 155, 159, []), (159, .getfield 152, 162, []), (162, .ireturn, 163, []), (163, .aload_n 0, 164, []), (164, .invokevirtual 148, 167, []), (167, .aload_n 0, 168, []), (168, .invokevirtual 155, 171, []), (171, .invokevirtual 158, 174, []), (174, .ireturn, 175, []), (175, .aload_n 0, 176, []), (176, .getfield 36, 179, []), (179, .getfield 162, 182, []), (182, .ireturn, 183, []), (183, .aload_n 0, 184, []), (184, .invokevirtual 163, 187, []), (187, .getfield 167, 190, []), (190, .ireturn, 191, []), (191, .aload_n 0, 192, []), (192, .invokevirtual 163, 195, []), (195, .aload_n 0, 196, []), (196, .getfield 50, 199, []), (199, .getfield 141, 202, []), (202, .invokevirtual 168, 205, []), (205, .ireturn, 206, []), (206, .aload_n 0, 207, []), (207, .invokevirtual 163, 210, []), (210, .aload_n 0, 211, []), (211, .getfield 50, 214, []), (214, .getfield 141, 217, []), (217, .invokevirtual 171, 220, []), (220, .ifCond .eq 7, 223, [227]), (223, .iconst 1, 224, []), (224, .goto 4, 227, [228]), (227, .iconst 0, 228, []), (228, .ireturn, 229, []), (229, .aload_n 0, 230, []), (230, .invokevirtual 174, 233, []), (233, .ireturn, 234, []), (234, .aload_n 0, 235, []), (235, .getfield 50, 238, []), (238, .aload_n 0, 239, []), (239, .invokevirtual 174, 242, []), (242, .invokevirtual 144, 245, []), (245, .ireturn, 246, []), (246, .aload_n 0, 247, []), (247, .invokevirtual 163, 250, []), (250, .aload_n 0, 251, []), (251, .getfield 50, 254, []), (254, .getfield 141, 257, []), (257, .invokevirtual 178, 260, []), (260, .ireturn, 261, []), (261, .aload_n 0, 262, []), (262, .getfield 71, 265, []), (265, .getfield 181, 268, []), (268, .ireturn, 269, []), (269, .aload_n 0, 270, []), (270, .getfield 71, 273, []), (273, .aload_n 0, 274, []), (274, .invokevirtual 148, 277, []), (277, .invokevirtual 182, 280, []), (280, .ireturn, 281, []), (281, .aload_n 0, 282, []), (282, .getfield 57, 285, []), (285, .getfield 185, 288, []), (288, .ireturn, 289, []), (289, .ldc 112, 291, []), (291, .ireturn, 292, [])]
noncomputable def mX11_told : MI := (iX11_told, [(10, 11, 0), (26, 11, 2), (36, 11, 4), (50, 11, 6), (57, 11, 7), (71, 11, 9), (117, 10, 1), (132, 6, 3), (135, 6, 2), (138, 9, 2), (141, 9, 1), (152, 7, 1), (162, 8, 3), (167, 3, 1), (181, 0, 2), (185, 1, 2)], [(112, .int (-1000000002))], [(576, 2, 9, 0, 0, fX9_costOfSet), (592, 1, 11, 0, 0, fX11_readingsNow), (620, 1, 11, 0, 0, fX11_strictNow), (632, 2, 7, 0, 0, fX7_countWithout), (652, 1, 11, 0, 0, fX11_looseNow), (672, 2, 3, 0, 0, fX3_countHeld), (684, 2, 3, 0, 0, fX3_areAllHeld), (696, 1, 11, 0, 0, fX11_bestSet), (712, 2, 3, 0, 0, fX3_neededOf), (728, 2, 0, 0, 0, fX0_firstWrong)], [], (0, 0), 1, [(146, [0, 1]), (151, [0, 1]), (159, [0, 1]), (167, [1]), (171, [0, 1]), (174, [0, 1]), (187, [0, 1]), (195, [1]), (205, [0, 1]), (210, [1]), (220, [0, 1]), (233, [0, 1]), (242, [0, 1]), (245, [0, 1]), (250, [1]), (260, [0, 1]), (277, [0, 1]), (280, [0, 1])])
noncomputable def fX11_told : CF := mth mX11_told 2
def iX11_step : List (Nat × Instr × Nat × List Nat) := [(0, .aload_n 0, 1, []), (1, .getfield 26, 4, []), (4, .iload_n 1, 5, []), (5, .invokevirtual 186, 8, []), (8, .ifCond .ne 6, 11, [14]), (11, .ldc 189, 13, []), (13, .ireturn, 14, []), (14, .iload_n 2, 15, []), (15, .tableswitch 158 0 6 #[41, 50, 59, 76, 100, 126, 149], 56, [173, 56, 65, 74, 91, 115, 141, 164]), (56, .aload_n 0, 57, []), (57, .getfield 26, 60, []), (60, .iload_n 1, 61, []), (61, .invokevirtual 190, 64, []), (64, .ireturn, 65, []), (65, .aload_n 0, 66, []), (66, .getfield 26, 69, []), (69, .iload_n 1, 70, []), (70, .invokevirtual 193, 73, []), (73, .ireturn, 74, []), (74, .aload_n 0, 75, []), (75, .getfield 26, 78, []), (78, .iload_n 1, 79, []), (79, .invokevirtual 196, 82, []), (82, .ifCond .eq 7, 85, [89]), (85, .iconst 1, 86, []), (86, .goto 4, 89, [90]), (89, .iconst 0, 90, []), (90, .ireturn, 91, []), (91, .aload_n 0, 92, []), (92, .getfield 26, 95, []), (95, .iload_n 1, 96, []), (96, .invokevirtual 199, 99, []), (99, .ifCond .eq 14, 102, [113]), (102, .aload_n 0, 103, []), (103, .getfield 50, 106, []), (106, .iload_n 1, 107, []), (107, .invokevirtual 202, 110, []), (110, .goto 4, 113, [114]), (113, .iconst (-1), 114, []), (114, .ireturn, 115, []), (115, .aload_n 0, 116, []), (116, .getfield 26, 119, []), (119, .iload_n 1, 120, []), (120, .invokevirtual 199, 123, []), (123, .ifCond .eq 16, 126, [139]), (126, .aload_n 0, 127, []), (127, .invokevirtual 163, 130, []), (130, .iconst 1, 131, []), (131, .iload_n 1, 132, []), (132, .ishl, 133, []), (133, .invokevirtual 168, 136, []), (136, .goto 4, 139, [140]), (139, .iconst (-1), 140, []), (140, .ireturn, 141, []), (141, .aload_n 0, 142, []), (142, .getfield 26, 145, []), (145, .iload_n 1, 146, []), (146, .aload_n 0, 147, []), (147, .getfield 50, 150, []), (150, .getfield 141, 153, []), (153, .aload_n 0, 154, []), (154, .getfield 50, 157, []), (157, .getfield 138, 160, []), (160, .invokevirtual 205, 163, []), (163, .ireturn, 164, []), (164, .aload_n 0, 165, []), (165, .getfield 26, 168, []), (168, .iload_n 1, 169, []), (169, .invokevirtual 209, 172, []), (172, .ireturn, 173, []), (173, .ldc 112, 175, []), (175, .ireturn, 176, [])]
noncomputable def mX11_step : MI := (iX11_step, [(26, 11, 2), (50, 11, 6), (138, 9, 2), (141, 9, 1)], [(112, .int (-1000000002)), (189, .int (-1000000001))], [(652, 1, 11, 0, 0, fX11_looseNow), (672, 2, 3, 0, 0, fX3_countHeld), (744, 2, 6, 0, 0, fX6_hasStep), (760, 2, 6, 0, 0, fX6_threadOf), (772, 2, 6, 0, 0, fX6_cellOf), (784, 2, 6, 0, 0, fX6_isWriter), (796, 2, 6, 0, 0, fX6_hasGap), (808, 2, 9, 0, 0, fX9_costOf), (820, 4, 6, 0, 0, fX6_waitsOf), (836, 2, 6, 0, 0, fX6_conflictsOf)], [], (0, 0), 1, [(64, [0, 1, 2]), (73, [0, 1, 2]), (82, [0, 1, 2]), (99, [2]), (110, [0, 1, 2]), (123, [2]), (130, [0, 2]), (136, [0, 1, 2]), (163, [0, 1, 2]), (172, [0, 1, 2])])
noncomputable def fX11_step : CF := mth mX11_step 3
def iX11_pair : List (Nat × Instr × Nat × List Nat) := [(0, .aload_n 0, 1, []), (1, .getfield 26, 4, []), (4, .iload_n 1, 5, []), (5, .invokevirtual 186, 8, []), (8, .ifCond .eq 19, 11, [27]), (11, .aload_n 0, 12, []), (12, .getfield 26, 15, []), (15, .iload_n 2, 16, []), (16, .invokevirtual 186, 19, []), (19, .ifCond .eq 8, 22, [27]), (22, .iload_n 1, 23, []), (23, .iload_n 2, 24, []), (24, .if_icmp .ne 6, 27, [30]), (27, .ldc 189, 29, []), (29, .ireturn, 30, []), (30, .iload_n 3, 31, []), (31, .ifCond .lt 8, 34, [39]), (34, .iload_n 3, 35, []), (35, .iconst 3, 36, []), (36, .if_icmp .le 6, 39, [42]), (39, .ldc 112, 41, []), (41, .ireturn, 42, []), (42, .aload_n 0, 43, []), (43, .getfield 26, 46, []), (46, .iload_n 1, 47, []), (47, .iload_n 2, 48, []), (48, .invokevirtual 212, 51, []), (51, .ifCond .ne 6, 54, [57]), (54, .ldc 216, 56, []), (56, .ireturn, 57, []), (57, .aload_n 0, 58, []), (58, .getfield 36, 61, []), (61, .iload_n 1, 62, []), (62, .iload_n 2, 63, []), (63, .invokevirtual 217, 66, []), (66, .istore 4, 68, []), (68, .iload_n 3, 69, []), (69, .tableswitch 95 0 2 #[27, 38, 68], 96, [164, 96, 107, 137]), (96, .iload 4, 98, []), (98, .ifCond .le 7, 101, [105]), (101, .iconst 1, 102, []), (102, .goto 4, 105, [106]), (105, .iconst 0, 106, []), (106, .ireturn, 107, []), (107, .iload 4, 109, []), (109, .ifCond .le 26, 112, [135]), (112, .aload_n 0, 113, []), (113, .getfield 26, 116, []), (116, .iload_n 1, 117, []), (117, .iload_n 2, 118, []), (118, .aload_n 0, 119, []), (119, .getfield 50, 122, []), (122, .getfield 138, 125, []), (125, .invokevirtual 221, 128, []), (128, .ifCond .eq 7, 131, [135]), (131, .iconst 1, 132, []), (132, .goto 4, 135, [136]), (135, .iconst 0, 136, []), (136, .ireturn, 137, []), (137, .iload 4, 139, []), (139, .ifCond .le 23, 142, [162]), (142, .aload_n 0, 143, []), (143, .getfield 50, 146, []), (146, .getfield 141, 149, []), (149, .iload_n 1, 150, []), (150, .iload_n 2, 151, []), (151, .invokestatic 225, 154, []), (154, .iand, 155, []), (155, .ifCond .eq 7, 158, [162]), (158, .iconst 1, 159, []), (159, .goto 4, 162, [163]), (162, .iconst 0, 163, []), (163, .ireturn, 164, []), (164, .iload 4, 166, []), (166, .ireturn, 167, [])]
noncomputable def mX11_pair : MI := (iX11_pair, [(26, 11, 2), (36, 11, 4), (50, 11, 6), (138, 9, 2), (141, 9, 1)], [(112, .int (-1000000002)), (189, .int (-1000000001)), (216, .int (-1000000003))], [(744, 2, 6, 0, 0, fX6_hasStep), (848, 3, 6, 0, 0, fX6_isAhead), (868, 3, 8, 0, 0, fX8_countWith), (884, 4, 6, 0, 0, fX6_mayOvertake), (902, 2, 11, 0, 0, fX11_gapsBetween)], [], (0, 0), 1, [(8, [4]), (19, [4]), (51, [4]), (66, [4]), (128, [0, 1, 2, 3, 4]), (154, [0, 1, 2, 3, 4])])
noncomputable def fX11_pair : CF := mth mX11_pair 5
def iX11_reading : List (Nat × Instr × Nat × List Nat) := [(0, .iload_n 2, 1, []), (1, .tableswitch 58 0 2 #[27, 36, 45], 28, [59, 28, 37, 46]), (28, .aload_n 0, 29, []), (29, .invokevirtual 148, 32, []), (32, .iload_n 1, 33, []), (33, .invokevirtual 228, 36, []), (36, .ireturn, 37, []), (37, .aload_n 0, 38, []), (38, .invokevirtual 155, 41, []), (41, .iload_n 1, 42, []), (42, .invokevirtual 228, 45, []), (45, .ireturn, 46, []), (46, .aload_n 0, 47, []), (47, .invokevirtual 148, 50, []), (50, .iload_n 1, 51, []), (51, .aload_n 0, 52, []), (52, .invokevirtual 155, 55, []), (55, .invokevirtual 231, 58, []), (58, .ireturn, 59, []), (59, .ldc 112, 61, []), (61, .ireturn, 62, [])]
noncomputable def mX11_reading : MI := (iX11_reading, [], [(112, .int (-1000000002))], [(592, 1, 11, 0, 0, fX11_readingsNow), (620, 1, 11, 0, 0, fX11_strictNow), (912, 2, 7, 0, 0, fX7_at), (924, 3, 7, 0, 0, fX7_atWithout)], [], (0, 0), 1, [(32, [0, 2]), (36, [0, 1, 2]), (41, [0, 2]), (45, [0, 1, 2]), (50, [2]), (55, [0, 1, 2]), (58, [0, 1, 2])])
noncomputable def fX11_reading : CF := mth mX11_reading 3
def iX11_can : List (Nat × Instr × Nat × List Nat) := [(0, .aload_n 0, 1, []), (1, .invokevirtual 155, 4, []), (4, .iload_n 1, 5, []), (5, .invokevirtual 235, 8, []), (8, .ifCond .eq 5, 11, [13]), (11, .iconst 2, 12, []), (12, .ireturn, 13, []), (13, .aload_n 0, 14, []), (14, .invokevirtual 148, 17, []), (17, .iload_n 1, 18, []), (18, .invokevirtual 235, 21, []), (21, .ifCond .eq 7, 24, [28]), (24, .iconst 1, 25, []), (25, .goto 4, 28, [29]), (28, .iconst 0, 29, []), (29, .ireturn, 30, [])]
noncomputable def mX11_can : MI := (iX11_can, [], [], [(592, 1, 11, 0, 0, fX11_readingsNow), (620, 1, 11, 0, 0, fX11_strictNow), (940, 2, 7, 0, 0, fX7_holds)], [], (0, 0), 1, [(17, [0]), (21, [0, 1])])
noncomputable def fX11_can : CF := mth mX11_can 2
def iX11_fence : List (Nat × Instr × Nat × List Nat) := [(0, .aload_n 0, 1, []), (1, .getfield 26, 4, []), (4, .iload_n 1, 5, []), (5, .invokevirtual 199, 8, []), (8, .ifCond .ne 6, 11, [14]), (11, .ldc 189, 13, []), (13, .ireturn, 14, []), (14, .aload_n 0, 15, []), (15, .getfield 57, 18, []), (18, .aload_n 0, 19, []), (19, .getfield 50, 22, []), (22, .invokevirtual 238, 25, []), (25, .aload_n 0, 26, []), (26, .getfield 50, 29, []), (29, .iload_n 1, 30, []), (30, .iload_n 2, 31, []), (31, .invokevirtual 241, 34, []), (34, .aload_n 0, 35, []), (35, .getfield 50, 38, []), (38, .aload_n 0, 39, []), (39, .getfield 50, 42, []), (42, .getfield 141, 45, []), (45, .invokevirtual 144, 48, []), (48, .ireturn, 49, [])]
noncomputable def mX11_fence : MI := (iX11_fence, [(26, 11, 2), (50, 11, 6), (57, 11, 7), (141, 9, 1)], [(189, .int (-1000000001))], [(576, 2, 9, 0, 0, fX9_costOfSet), (796, 2, 6, 0, 0, fX6_hasGap), (952, 2, 1, 0, 0, fX1_add), (964, 3, 9, 0, 0, fX9_setFence)], [], (0, 0), 1, [(34, [1, 2]), (48, [0, 1, 2])])
noncomputable def fX11_fence : CF := mth mX11_fence 3
def iX11_cost : List (Nat × Instr × Nat × List Nat) := [(0, .aload_n 0, 1, []), (1, .getfield 26, 4, []), (4, .iload_n 1, 5, []), (5, .invokevirtual 199, 8, []), (8, .ifCond .ne 6, 11, [14]), (11, .ldc 189, 13, []), (13, .ireturn, 14, []), (14, .iload_n 2, 15, []), (15, .iconst 1, 16, []), (16, .if_icmp .lt 9, 19, [25]), (19, .iload_n 2, 20, []), (20, .bipush 9, 22, []), (22, .if_icmp .le 6, 25, [28]), (25, .ldc 112, 27, []), (27, .ireturn, 28, []), (28, .aload_n 0, 29, []), (29, .getfield 50, 32, []), (32, .iload_n 1, 33, []), (33, .invokevirtual 202, 36, []), (36, .istore_n 3, 37, []), (37, .aload_n 0, 38, []), (38, .getfield 57, 41, []), (41, .aload_n 0, 42, []), (42, .getfield 50, 45, []), (45, .invokevirtual 238, 48, []), (48, .aload_n 0, 49, []), (49, .getfield 50, 52, []), (52, .iload_n 1, 53, []), (53, .iload_n 2, 54, []), (54, .invokevirtual 245, 57, []), (57, .iload_n 3, 58, []), (58, .ireturn, 59, [])]
noncomputable def mX11_cost : MI := (iX11_cost, [(26, 11, 2), (50, 11, 6), (57, 11, 7)], [(112, .int (-1000000002)), (189, .int (-1000000001))], [(796, 2, 6, 0, 0, fX6_hasGap), (808, 2, 9, 0, 0, fX9_costOf), (952, 2, 1, 0, 0, fX1_add), (980, 3, 9, 0, 0, fX9_setCost)], [], (0, 0), 1, [(8, [3]), (36, [3]), (57, [0, 1, 2])])
noncomputable def fX11_cost : CF := mth mX11_cost 4
def iX11_overtaking : List (Nat × Instr × Nat × List Nat) := [(0, .iload_n 1, 1, []), (1, .ifCond .lt 9, 4, [10]), (4, .iload_n 1, 5, []), (5, .bipush 15, 7, []), (7, .if_icmp .le 6, 10, [13]), (10, .ldc 112, 12, []), (12, .ireturn, 13, []), (13, .aload_n 0, 14, []), (14, .getfield 57, 17, []), (17, .aload_n 0, 18, []), (18, .getfield 50, 21, []), (21, .invokevirtual 238, 24, []), (24, .aload_n 0, 25, []), (25, .getfield 50, 28, []), (28, .iload_n 1, 29, []), (29, .putfield 138, 32, []), (32, .aload_n 0, 33, []), (33, .invokevirtual 148, 36, []), (36, .getfield 152, 39, []), (39, .ireturn, 40, [])]
noncomputable def mX11_overtaking : MI := (iX11_overtaking, [(50, 11, 6), (57, 11, 7), (138, 9, 2), (152, 7, 1)], [(112, .int (-1000000002))], [(592, 1, 11, 0, 0, fX11_readingsNow), (952, 2, 1, 0, 0, fX1_add)], [], (0, 0), 1, [(36, [0, 1])])
noncomputable def fX11_overtaking : CF := mth mX11_overtaking 2
def iX11_best : List (Nat × Instr × Nat × List Nat) := [(0, .aload_n 0, 1, []), (1, .invokevirtual 174, 4, []), (4, .istore_n 1, 5, []), (5, .aload_n 0, 6, []), (6, .getfield 57, 9, []), (9, .aload_n 0, 10, []), (10, .getfield 50, 13, []), (13, .invokevirtual 238, 16, []), (16, .aload_n 0, 17, []), (17, .getfield 50, 20, []), (20, .iload_n 1, 21, []), (21, .putfield 141, 24, []), (24, .aload_n 0, 25, []), (25, .getfield 50, 28, []), (28, .iload_n 1, 29, []), (29, .invokevirtual 144, 32, []), (32, .ireturn, 33, [])]
noncomputable def mX11_best : MI := (iX11_best, [(50, 11, 6), (57, 11, 7), (141, 9, 1)], [], [(576, 2, 9, 0, 0, fX9_costOfSet), (696, 1, 11, 0, 0, fX11_bestSet), (952, 2, 1, 0, 0, fX1_add)], [], (0, 0), 1, [(4, [1]), (32, [0, 1])])
noncomputable def fX11_best : CF := mth mX11_best 2
def iX11_draw : List (Nat × Instr × Nat × List Nat) := [(0, .aload_n 0, 1, []), (1, .aload_n 0, 2, []), (2, .getfield 106, 5, []), (5, .i2l, 6, []), (6, .ldc2_w 287, 9, []), (9, .lmul, 10, []), (10, .ldc2_w 289, 13, []), (13, .ladd, 14, []), (14, .ldc2_w 291, 17, []), (17, .land, 18, []), (18, .l2i, 19, []), (19, .putfield 106, 22, []), (22, .iload_n 1, 23, []), (23, .ifCond .le 15, 26, [38]), (26, .aload_n 0, 27, []), (27, .getfield 106, 30, []), (30, .bipush 16, 32, []), (32, .iushr, 33, []), (33, .iload_n 1, 34, []), (34, .irem, 35, []), (35, .goto 4, 38, [39]), (38, .iconst 0, 39, []), (39, .ireturn, 40, [])]
noncomputable def mX11_draw : MI := (iX11_draw, [(106, 11, 17)], [(287, .long (1103515245)), (289, .long (12345)), (291, .long (2147483647))], [], [], (0, 0), 1, [])
noncomputable def fX11_draw : CF := mth mX11_draw 2
def iX11_driftOnce : List (Nat × Instr × Nat × List Nat) := [(0, .aload_n 0, 1, []), (1, .iconst 4, 2, []), (2, .invokevirtual 281, 5, []), (5, .istore_n 1, 6, []), (6, .aload_n 0, 7, []), (7, .aload_n 0, 8, []), (8, .getfield 26, 11, []), (11, .getfield 132, 14, []), (14, .invokevirtual 281, 17, []), (17, .istore_n 2, 18, []), (18, .aload_n 0, 19, []), (19, .bipush 9, 21, []), (21, .invokevirtual 281, 24, []), (24, .istore_n 3, 25, []), (25, .aload_n 0, 26, []), (26, .bipush 16, 28, []), (28, .invokevirtual 281, 31, []), (31, .istore 4, 33, []), (33, .aload_n 0, 34, []), (34, .getfield 57, 37, []), (37, .aload_n 0, 38, []), (38, .getfield 50, 41, []), (41, .invokevirtual 238, 44, []), (44, .iload_n 1, 45, []), (45, .iconst 3, 46, []), (46, .if_icmp .ne 15, 49, [61]), (49, .aload_n 0, 50, []), (50, .getfield 50, 53, []), (53, .iload 4, 55, []), (55, .putfield 138, 58, []), (58, .goto 60, 61, [118]), (61, .aload_n 0, 62, []), (62, .getfield 26, 65, []), (65, .iload_n 2, 66, []), (66, .invokevirtual 199, 69, []), (69, .ifCond .eq 49, 72, [118]), (72, .iload_n 1, 73, []), (73, .iconst 2, 74, []), (74, .if_icmp .ne 17, 77, [91]), (77, .aload_n 0, 78, []), (78, .getfield 50, 81, []), (81, .iload_n 2, 82, []), (82, .iload_n 3, 83, []), (83, .iconst 1, 84, []), (84, .iadd, 85, []), (85, .invokevirtual 245, 88, []), (88, .goto 30, 91, [118]), (91, .aload_n 0, 92, []), (92, .getfield 50, 95, []), (95, .iload_n 2, 96, []), (96, .aload_n 0, 97, []), (97, .getfield 50, 100, []), (100, .getfield 141, 103, []), (103, .iload_n 2, 104, []), (104, .invokestatic 284, 107, []), (107, .ifCond .ne 7, 110, [114]), (110, .iconst 1, 111, []), (111, .goto 4, 114, [115]), (114, .iconst 0, 115, []), (115, .invokevirtual 241, 118, []), (118, .return_, 119, [])]
noncomputable def mX11_driftOnce : MI := (iX11_driftOnce, [(26, 11, 2), (50, 11, 6), (57, 11, 7), (132, 6, 3), (138, 9, 2), (141, 9, 1)], [], [(796, 2, 6, 0, 0, fX6_hasGap), (952, 2, 1, 0, 0, fX1_add), (964, 3, 9, 0, 0, fX9_setFence), (980, 3, 9, 0, 0, fX9_setCost), (1124, 2, 11, 0, 0, fX11_draw), (1138, 2, 11, 0, 0, fX11_has)], [], (0, 0), 0, [(5, [1, 2, 3, 4]), (17, [2, 3, 4]), (24, [3, 4]), (31, [4]), (69, [4]), (88, [0, 1, 2, 3, 4]), (107, [0, 1, 2, 3, 4]), (118, [0, 1, 2, 3, 4])])
noncomputable def fX11_driftOnce : CF := mth mX11_driftOnce 5
def iX11_drift : List (Nat × Instr × Nat × List Nat) := [(0, .iload_n 1, 1, []), (1, .iconst 1, 2, []), (2, .if_icmp .lt 9, 5, [11]), (5, .iload_n 1, 6, []), (6, .bipush 20, 8, []), (8, .if_icmp .le 6, 11, [14]), (11, .ldc 112, 13, []), (13, .ireturn, 14, []), (14, .aload_n 0, 15, []), (15, .getfield 26, 18, []), (18, .getfield 132, 21, []), (21, .ifCond .le 20, 24, [41]), (24, .iconst 0, 25, []), (25, .istore_n 2, 26, []), (26, .iload_n 2, 27, []), (27, .iload_n 1, 28, []), (28, .if_icmp .ge 13, 31, [41]), (31, .aload_n 0, 32, []), (32, .invokevirtual 249, 35, []), (35, .iinc 2 1, 38, []), (38, .goto (-12), 41, [26]), (41, .aload_n 0, 42, []), (42, .getfield 50, 45, []), (45, .getfield 141, 48, []), (48, .ireturn, 49, [])]
noncomputable def mX11_drift : MI := (iX11_drift, [(26, 11, 2), (50, 11, 6), (132, 6, 3), (141, 9, 1)], [(112, .int (-1000000002))], [(996, 1, 11, 0, 0, fX11_driftOnce)], [], (0, 0), 1, [])
noncomputable def fX11_drift : CF := mth mX11_drift 3
def iX11_undo : List (Nat × Instr × Nat × List Nat) := [(0, .iload_n 1, 1, []), (1, .iconst 1, 2, []), (2, .if_icmp .lt 9, 5, [11]), (5, .iload_n 1, 6, []), (6, .bipush 20, 8, []), (8, .if_icmp .le 6, 11, [14]), (11, .ldc 112, 13, []), (13, .ireturn, 14, []), (14, .iload_n 1, 15, []), (15, .aload_n 0, 16, []), (16, .getfield 57, 19, []), (19, .getfield 185, 22, []), (22, .if_icmp .le 6, 25, [28]), (25, .ldc 216, 27, []), (27, .ireturn, 28, []), (28, .aload_n 0, 29, []), (29, .getfield 57, 32, []), (32, .iload_n 1, 33, []), (33, .aload_n 0, 34, []), (34, .getfield 50, 37, []), (37, .invokevirtual 252, 40, []), (40, .aload_n 0, 41, []), (41, .getfield 57, 44, []), (44, .getfield 185, 47, []), (47, .ireturn, 48, [])]
noncomputable def mX11_undo : MI := (iX11_undo, [(50, 11, 6), (57, 11, 7), (185, 1, 2)], [(112, .int (-1000000002)), (216, .int (-1000000003))], [(1008, 3, 1, 0, 0, fX1_takeBack)], [], (0, 0), 1, [(40, [1])])
noncomputable def fX11_undo : CF := mth mX11_undo 2
def iX11_write : List (Nat × Instr × Nat × List Nat) := [(0, .iload_n 1, 1, []), (1, .ifCond .lt 10, 4, [11]), (4, .iload_n 1, 5, []), (5, .ldc_w 256, 8, []), (8, .if_icmp .le 6, 11, [14]), (11, .ldc 112, 13, []), (13, .ireturn, 14, []), (14, .aload_n 0, 15, []), (15, .getfield 71, 18, []), (18, .iload_n 1, 19, []), (19, .iload_n 2, 20, []), (20, .invokevirtual 257, 23, []), (23, .ifCond .eq 13, 26, [36]), (26, .aload_n 0, 27, []), (27, .getfield 71, 30, []), (30, .getfield 181, 33, []), (33, .goto 5, 36, [38]), (36, .ldc 120, 38, []), (38, .ireturn, 39, [])]
noncomputable def mX11_write : MI := (iX11_write, [(71, 11, 9), (181, 0, 2)], [(112, .int (-1000000002)), (120, .int (-1000000004)), (256, .int (43046720))], [(1028, 3, 0, 0, 0, fX0_add)], [], (0, 0), 1, [(23, [1, 2])])
noncomputable def fX11_write : CF := mth mX11_write 3
def iX11_tear : List (Nat × Instr × Nat × List Nat) := [(0, .aload_n 0, 1, []), (1, .getfield 71, 4, []), (4, .getfield 181, 7, []), (7, .istore_n 1, 8, []), (8, .aload_n 0, 9, []), (9, .getfield 71, 12, []), (12, .invokevirtual 260, 15, []), (15, .iload_n 1, 16, []), (16, .ireturn, 17, [])]
noncomputable def mX11_tear : MI := (iX11_tear, [(71, 11, 9), (181, 0, 2)], [], [(1040, 1, 0, 0, 0, fX0_clear)], [], (0, 0), 1, [(15, [0])])
noncomputable def fX11_tear : CF := mth mX11_tear 2
def iX11_seed : List (Nat × Instr × Nat × List Nat) := [(0, .iload_n 1, 1, []), (1, .ifCond .ge 6, 4, [7]), (4, .ldc 112, 6, []), (6, .ireturn, 7, []), (7, .aload_n 0, 8, []), (8, .getfield 106, 11, []), (11, .istore_n 2, 12, []), (12, .aload_n 0, 13, []), (13, .iload_n 1, 14, []), (14, .putfield 106, 17, []), (17, .iload_n 2, 18, []), (18, .ireturn, 19, [])]
noncomputable def mX11_seed : MI := (iX11_seed, [(106, 11, 17)], [(112, .int (-1000000002))], [], [], (0, 0), 1, [])
noncomputable def fX11_seed : CF := mth mX11_seed 3
def iX11_keep : List (Nat × Instr × Nat × List Nat) := [(0, .iload_n 1, 1, []), (1, .ifCond .lt 12, 4, [13]), (4, .iload_n 1, 5, []), (5, .aload_n 0, 6, []), (6, .getfield 63, 9, []), (9, .arraylength, 10, []), (10, .if_icmp .lt 6, 13, [16]), (13, .ldc 189, 15, []), (15, .ireturn, 16, []), (16, .aload_n 0, 17, []), (17, .getfield 63, 20, []), (20, .iload_n 1, 21, []), (21, .aaload, 22, []), (22, .aload_n 0, 23, []), (23, .getfield 50, 26, []), (26, .aload_n 0, 27, []), (27, .getfield 106, 30, []), (30, .invokevirtual 261, 33, []), (33, .aload_n 0, 34, []), (34, .getfield 57, 37, []), (37, .invokevirtual 265, 40, []), (40, .iconst 1, 41, []), (41, .ireturn, 42, [])]
noncomputable def mX11_keep : MI := (iX11_keep, [(50, 11, 6), (57, 11, 7), (63, 11, 8), (106, 11, 17)], [(189, .int (-1000000001))], [(1044, 3, 2, 0, 0, fX2_hold), (1060, 1, 1, 0, 0, fX1_clear)], [], (0, 0), 1, [(33, [1]), (40, [0, 1])])
noncomputable def fX11_keep : CF := mth mX11_keep 2
def iX11_goBack : List (Nat × Instr × Nat × List Nat) := [(0, .iload_n 1, 1, []), (1, .ifCond .lt 12, 4, [13]), (4, .iload_n 1, 5, []), (5, .aload_n 0, 6, []), (6, .getfield 63, 9, []), (9, .arraylength, 10, []), (10, .if_icmp .lt 6, 13, [16]), (13, .ldc 189, 15, []), (15, .ireturn, 16, []), (16, .aload_n 0, 17, []), (17, .getfield 63, 20, []), (20, .iload_n 1, 21, []), (21, .aaload, 22, []), (22, .astore_n 2, 23, []), (23, .aload_n 2, 24, []), (24, .getfield 266, 27, []), (27, .ifCond .ne 6, 30, [33]), (30, .ldc 216, 32, []), (32, .ireturn, 33, []), (33, .aload_n 0, 34, []), (34, .getfield 50, 37, []), (37, .aload_n 2, 38, []), (38, .getfield 269, 41, []), (41, .invokevirtual 270, 44, []), (44, .aload_n 0, 45, []), (45, .aload_n 2, 46, []), (46, .getfield 273, 49, []), (49, .putfield 106, 52, []), (52, .aload_n 0, 53, []), (53, .getfield 57, 56, []), (56, .invokevirtual 265, 59, []), (59, .iconst 1, 60, []), (60, .ireturn, 61, [])]
noncomputable def mX11_goBack : MI := (iX11_goBack, [(50, 11, 6), (57, 11, 7), (63, 11, 8), (106, 11, 17), (266, 2, 2), (269, 2, 0), (273, 2, 1)], [(189, .int (-1000000001)), (216, .int (-1000000003))], [(1060, 1, 1, 0, 0, fX1_clear), (1080, 2, 9, 0, 0, fX9_copy)], [], (0, 0), 1, [(16, [2]), (44, [1]), (59, [0, 1, 2])])
noncomputable def fX11_goBack : CF := mth mX11_goBack 3
def iX12_has : List (Nat × Instr × Nat × List Nat) := [(0, .iload_n 0, 1, []), (1, .iload_n 1, 2, []), (2, .ishr, 3, []), (3, .iconst 1, 4, []), (4, .iand, 5, []), (5, .iconst 1, 6, []), (6, .if_icmp .ne 7, 9, [13]), (9, .iconst 1, 10, []), (10, .goto 4, 13, [14]), (13, .iconst 0, 14, []), (14, .ireturn, 15, [])]
noncomputable def mX12_has : MI := (iX12_has, [], [], [], [], (0, 0), 2, [])
noncomputable def fX12_has : CF := mth mX12_has 2
def iX12_isAhead : List (Nat × Instr × Nat × List Nat) := [(0, .iload_n 1, 1, []), (1, .iload_n 2, 2, []), (2, .if_icmp .ge 22, 5, [24]), (5, .aload_n 0, 6, []), (6, .getfield 7, 9, []), (9, .iload_n 1, 10, []), (10, .iaload, 11, []), (11, .aload_n 0, 12, []), (12, .getfield 7, 15, []), (15, .iload_n 2, 16, []), (16, .iaload, 17, []), (17, .if_icmp .ne 7, 20, [24]), (20, .iconst 1, 21, []), (21, .goto 4, 24, [25]), (24, .iconst 0, 25, []), (25, .ireturn, 26, [])]
noncomputable def mX12_isAhead : MI := (iX12_isAhead, [(7, 12, 2)], [], [], [], (0, 0), 2, [])
noncomputable def fX12_isAhead : CF := mth mX12_isAhead 3
def iX12_ahead : List (Nat × Instr × Nat × List Nat) := [(0, .iconst 0, 1, []), (1, .istore_n 2, 2, []), (2, .iconst 0, 3, []), (3, .istore_n 3, 4, []), (4, .iload_n 3, 5, []), (5, .iload_n 1, 6, []), (6, .if_icmp .ge 28, 9, [34]), (9, .iload_n 2, 10, []), (10, .aload_n 0, 11, []), (11, .iload_n 3, 12, []), (12, .iload_n 1, 13, []), (13, .invokevirtual 121, 16, []), (16, .ifCond .eq 9, 19, [25]), (19, .iconst 1, 20, []), (20, .iload_n 3, 21, []), (21, .ishl, 22, []), (22, .goto 4, 25, [26]), (25, .iconst 0, 26, []), (26, .ior, 27, []), (27, .istore_n 2, 28, []), (28, .iinc 3 1, 31, []), (31, .goto (-27), 34, [4]), (34, .iload_n 2, 35, []), (35, .ireturn, 36, [])]
noncomputable def mX12_ahead : MI := (iX12_ahead, [], [], [(484, 3, 12, 0, 0, fX12_isAhead)], [], (0, 0), 1, [(16, [2])])
noncomputable def fX12_ahead : CF := mth mX12_ahead 4
def iX12_kind : List (Nat × Instr × Nat × List Nat) := [(0, .aload_n 0, 1, []), (1, .getfield 16, 4, []), (4, .iload_n 1, 5, []), (5, .baload, 6, []), (6, .ifCond .eq 20, 9, [26]), (9, .aload_n 0, 10, []), (10, .getfield 16, 13, []), (13, .iload_n 2, 14, []), (14, .baload, 15, []), (15, .ifCond .eq 7, 18, [22]), (18, .iconst 1, 19, []), (19, .goto 21, 22, [40]), (22, .iconst 0, 23, []), (23, .goto 17, 26, [40]), (26, .aload_n 0, 27, []), (27, .getfield 16, 30, []), (30, .iload_n 2, 31, []), (31, .baload, 32, []), (32, .ifCond .eq 7, 35, [39]), (35, .iconst 3, 36, []), (36, .goto 4, 39, [40]), (39, .iconst 2, 40, []), (40, .ireturn, 41, [])]
noncomputable def mX12_kind : MI := (iX12_kind, [(16, 12, 4)], [], [], [], (0, 0), 1, [])
noncomputable def fX12_kind : CF := mth mX12_kind 3
def iX12_isBound : List (Nat × Instr × Nat × List Nat) := [(0, .aload_n 0, 1, []), (1, .getfield 13, 4, []), (4, .iload_n 1, 5, []), (5, .iaload, 6, []), (6, .aload_n 0, 7, []), (7, .getfield 13, 10, []), (10, .iload_n 2, 11, []), (11, .iaload, 12, []), (12, .if_icmp .eq 19, 15, [31]), (15, .aload_n 0, 16, []), (16, .getfield 23, 19, []), (19, .aload_n 0, 20, []), (20, .iload_n 1, 21, []), (21, .iload_n 2, 22, []), (22, .invokevirtual 113, 25, []), (25, .invokestatic 117, 28, []), (28, .ifCond .ne 7, 31, [35]), (31, .iconst 1, 32, []), (32, .goto 4, 35, [36]), (35, .iconst 0, 36, []), (36, .ireturn, 37, [])]
noncomputable def mX12_isBound : MI := (iX12_isBound, [(13, 12, 3), (23, 12, 7)], [], [(452, 3, 12, 0, 0, fX12_kind), (470, 2, 12, 0, 0, fX12_has)], [], (0, 0), 2, [(25, [0, 1, 2]), (28, [0, 1, 2])])
noncomputable def fX12_isBound : CF := mth mX12_isBound 3
def iX12_between : List (Nat × Instr × Nat × List Nat) := [(0, .iconst 1, 1, []), (1, .iload_n 1, 2, []), (2, .iconst 1, 3, []), (3, .iadd, 4, []), (4, .ishl, 5, []), (5, .iconst 1, 6, []), (6, .iload_n 0, 7, []), (7, .iconst 1, 8, []), (8, .iadd, 9, []), (9, .ishl, 10, []), (10, .isub, 11, []), (11, .ireturn, 12, [])]
noncomputable def mX12_between : MI := (iX12_between, [], [], [], [], (0, 0), 1, [])
noncomputable def fX12_between : CF := mth mX12_between 2
def iX12_waits : List (Nat × Instr × Nat × List Nat) := [(0, .iconst 0, 1, []), (1, .istore_n 2, 2, []), (2, .iconst 0, 3, []), (3, .istore_n 3, 4, []), (4, .iload_n 3, 5, []), (5, .iload_n 1, 6, []), (6, .if_icmp .ge 46, 9, [52]), (9, .aload_n 0, 10, []), (10, .iload_n 3, 11, []), (11, .iload_n 1, 12, []), (12, .invokevirtual 121, 15, []), (15, .ifCond .eq 31, 18, [46]), (18, .aload_n 0, 19, []), (19, .iload_n 3, 20, []), (20, .iload_n 1, 21, []), (21, .invokevirtual 124, 24, []), (24, .ifCond .ne 16, 27, [40]), (27, .aload_n 0, 28, []), (28, .getfield 127, 31, []), (31, .iload_n 3, 32, []), (32, .iload_n 1, 33, []), (33, .invokestatic 130, 36, []), (36, .iand, 37, []), (37, .ifCond .eq 9, 40, [46]), (40, .iload_n 2, 41, []), (41, .iconst 1, 42, []), (42, .iload_n 3, 43, []), (43, .ishl, 44, []), (44, .ior, 45, []), (45, .istore_n 2, 46, []), (46, .iinc 3 1, 49, []), (49, .goto (-45), 52, [4]), (52, .iload_n 2, 53, []), (53, .ireturn, 54, [])]
noncomputable def mX12_waits : MI := (iX12_waits, [(127, 12, 6)], [], [(484, 3, 12, 0, 0, fX12_isAhead), (496, 3, 12, 0, 0, fX12_isBound), (522, 2, 12, 0, 0, fX12_between)], [], (0, 0), 1, [])
noncomputable def fX12_waits : CF := mth mX12_waits 4
def iX12_comes : List (Nat × Instr × Nat × List Nat) := [(0, .iconst 0, 1, []), (1, .istore_n 3, 2, []), (2, .iload_n 1, 3, []), (3, .istore 4, 5, []), (5, .iload_n 3, 6, []), (6, .iload 4, 8, []), (8, .if_icmp .ge 34, 11, [42]), (11, .iload_n 3, 12, []), (12, .iload 4, 14, []), (14, .iadd, 15, []), (15, .iconst 2, 16, []), (16, .idiv, 17, []), (17, .istore 5, 19, []), (19, .aload_n 0, 20, []), (20, .iload 5, 22, []), (22, .iaload, 23, []), (23, .iload_n 2, 24, []), (24, .if_icmp .ge 11, 27, [35]), (27, .iload 5, 29, []), (29, .iconst 1, 30, []), (30, .iadd, 31, []), (31, .istore_n 3, 32, []), (32, .goto 7, 35, [39]), (35, .iload 5, 37, []), (37, .istore 4, 39, []), (39, .goto (-34), 42, [5]), (42, .iload_n 3, 43, []), (43, .iload_n 1, 44, []), (44, .if_icmp .ge 10, 47, [54]), (47, .aload_n 0, 48, []), (48, .iload_n 3, 49, []), (49, .iaload, 50, []), (50, .iload_n 2, 51, []), (51, .if_icmp .eq 10, 54, [61]), (54, .iload_n 1, 55, []), (55, .sipush 1024, 58, []), (58, .if_icmp .ne 5, 61, [63]), (61, .iload_n 1, 62, []), (62, .ireturn, 63, []), (63, .iload_n 1, 64, []), (64, .istore 5, 66, []), (66, .iload 5, 68, []), (68, .iload_n 3, 69, []), (69, .if_icmp .le 19, 72, [88]), (72, .aload_n 0, 73, []), (73, .iload 5, 75, []), (75, .aload_n 0, 76, []), (76, .iload 5, 78, []), (78, .iconst 1, 79, []), (79, .isub, 80, []), (80, .iaload, 81, []), (81, .iastore, 82, []), (82, .iinc 5 (-1), 85, []), (85, .goto (-19), 88, [66]), (88, .aload_n 0, 89, []), (89, .iload_n 3, 90, []), (90, .iload_n 2, 91, []), (91, .iastore, 92, []), (92, .iload_n 1, 93, []), (93, .iconst 1, 94, []), (94, .iadd, 95, []), (95, .ireturn, 96, [])]
noncomputable def mX12_comes : MI := (iX12_comes, [], [], [], [], (0, 0), 1, [(5, [5]), (66, [4])])
noncomputable def fX12_comes : CF := mth mX12_comes 6
def iX12_weight : List (Nat × Instr × Nat × List Nat) := [(0, .iconst 1, 1, []), (1, .istore_n 2, 2, []), (2, .iload_n 1, 3, []), (3, .iconst 1, 4, []), (4, .iadd, 5, []), (5, .istore_n 3, 6, []), (6, .iload_n 3, 7, []), (7, .aload_n 0, 8, []), (8, .getfield 110, 11, []), (11, .if_icmp .ge 27, 14, [38]), (14, .iload_n 2, 15, []), (15, .aload_n 0, 16, []), (16, .getfield 16, 19, []), (19, .iload_n 3, 20, []), (20, .baload, 21, []), (21, .ifCond .eq 7, 24, [28]), (24, .iconst 1, 25, []), (25, .goto 5, 28, [30]), (28, .bipush 9, 30, []), (30, .imul, 31, []), (31, .istore_n 2, 32, []), (32, .iinc 3 1, 35, []), (35, .goto (-29), 38, [6]), (38, .iload_n 2, 39, []), (39, .ireturn, 40, [])]
noncomputable def mX12_weight : MI := (iX12_weight, [(16, 12, 4), (110, 12, 1)], [], [], [], (0, 0), 1, [(6, [1])])
noncomputable def fX12_weight : CF := mth mX12_weight 4
def iX12_does : List (Nat × Instr × Nat × List Nat) := [(0, .aload_n 0, 1, []), (1, .getfield 39, 4, []), (4, .iload_n 1, 5, []), (5, .iload_n 2, 6, []), (6, .iastore, 7, []), (7, .iconst 0, 8, []), (8, .istore_n 3, 9, []), (9, .iload_n 3, 10, []), (10, .iconst 3, 11, []), (11, .if_icmp .ge 31, 14, [42]), (14, .aload_n 0, 15, []), (15, .getfield 45, 18, []), (18, .iconst 3, 19, []), (19, .iload_n 1, 20, []), (20, .imul, 21, []), (21, .iconst 3, 22, []), (22, .iadd, 23, []), (23, .iload_n 3, 24, []), (24, .iadd, 25, []), (25, .aload_n 0, 26, []), (26, .getfield 45, 29, []), (29, .iconst 3, 30, []), (30, .iload_n 1, 31, []), (31, .imul, 32, []), (32, .iload_n 3, 33, []), (33, .iadd, 34, []), (34, .iaload, 35, []), (35, .iastore, 36, []), (36, .iinc 3 1, 39, []), (39, .goto (-30), 42, [9]), (42, .aload_n 0, 43, []), (43, .getfield 42, 46, []), (46, .iload_n 1, 47, []), (47, .iconst 1, 48, []), (48, .iadd, 49, []), (49, .aload_n 0, 50, []), (50, .getfield 42, 53, []), (53, .iload_n 1, 54, []), (54, .iaload, 55, []), (55, .iastore, 56, []), (56, .aload_n 0, 57, []), (57, .getfield 16, 60, []), (60, .iload_n 2, 61, []), (61, .baload, 62, []), (62, .ifCond .eq 26, 65, [88]), (65, .aload_n 0, 66, []), (66, .getfield 45, 69, []), (69, .iconst 3, 70, []), (70, .iload_n 1, 71, []), (71, .imul, 72, []), (72, .iconst 3, 73, []), (73, .iadd, 74, []), (74, .aload_n 0, 75, []), (75, .getfield 13, 78, []), (78, .iload_n 2, 79, []), (79, .iaload, 80, []), (80, .iadd, 81, []), (81, .iload_n 2, 82, []), (82, .iconst 1, 83, []), (83, .iadd, 84, []), (84, .iastore, 85, []), (85, .goto 35, 88, [120]), (88, .aload_n 0, 89, []), (89, .getfield 42, 92, []), (92, .iload_n 1, 93, []), (93, .iconst 1, 94, []), (94, .iadd, 95, []), (95, .dup2, 96, []), (96, .iaload, 97, []), (97, .aload_n 0, 98, []), (98, .getfield 45, 101, []), (101, .iconst 3, 102, []), (102, .iload_n 1, 103, []), (103, .imul, 104, []), (104, .aload_n 0, 105, []), (105, .getfield 13, 108, []), (108, .iload_n 2, 109, []), (109, .iaload, 110, []), (110, .iadd, 111, []), (111, .iaload, 112, []), (112, .aload_n 0, 113, []), (113, .iload_n 2, 114, []), (114, .invokevirtual 136, 117, []), (117, .imul, 118, []), (118, .iadd, 119, []), (119, .iastore, 120, []), (120, .return_, 121, [])]
noncomputable def mX12_does : MI := (iX12_does, [(13, 12, 3), (16, 12, 4), (39, 12, 15), (42, 12, 16), (45, 12, 17)], [], [(544, 2, 12, 0, 0, fX12_weight)], [], (0, 0), 0, [(117, [0, 1, 2, 3])])
noncomputable def fX12_does : CF := mth mX12_does 4
def iX12_goes : List (Nat × Instr × Nat × List Nat) := [(0, .iconst 0, 1, []), (1, .istore_n 3, 2, []), (2, .iload_n 3, 3, []), (3, .aload_n 0, 4, []), (4, .getfield 110, 7, []), (7, .if_icmp .ge 32, 10, [39]), (10, .aload_n 0, 11, []), (11, .getfield 33, 14, []), (14, .iload_n 3, 15, []), (15, .iload_n 2, 16, []), (16, .ifCond .eq 11, 19, [27]), (19, .aload_n 0, 20, []), (20, .iload_n 3, 21, []), (21, .invokevirtual 140, 24, []), (24, .goto 8, 27, [32]), (27, .aload_n 0, 28, []), (28, .iload_n 3, 29, []), (29, .invokevirtual 143, 32, []), (32, .iastore, 33, []), (33, .iinc 3 1, 36, []), (36, .goto (-34), 39, [2]), (39, .iconst 0, 40, []), (40, .istore_n 3, 41, []), (41, .iconst 0, 42, []), (42, .istore 4, 44, []), (44, .iconst 0, 45, []), (45, .istore 5, 47, []), (47, .aload_n 0, 48, []), (48, .getfield 36, 51, []), (51, .iconst 0, 52, []), (52, .iconst 0, 53, []), (53, .iastore, 54, []), (54, .iload 5, 56, []), (56, .ifCond .lt 157, 59, [213]), (59, .iload 5, 61, []), (61, .aload_n 0, 62, []), (62, .getfield 110, 65, []), (65, .if_icmp .ne 16, 68, [81]), (68, .aload_n 1, 69, []), (69, .iload_n 3, 70, []), (70, .aload_n 0, 71, []), (71, .getfield 42, 74, []), (74, .iload 5, 76, []), (76, .iaload, 77, []), (77, .invokestatic 146, 80, []), (80, .istore_n 3, 81, []), (81, .iload 5, 83, []), (83, .aload_n 0, 84, []), (84, .getfield 110, 87, []), (87, .if_icmp .ne 10, 90, [97]), (90, .aload_n 0, 91, []), (91, .getfield 110, 94, []), (94, .goto 10, 97, [104]), (97, .aload_n 0, 98, []), (98, .getfield 36, 101, []), (101, .iload 5, 103, []), (103, .iaload, 104, []), (104, .istore 6, 106, []), (106, .iload 6, 108, []), (108, .aload_n 0, 109, []), (109, .getfield 110, 112, []), (112, .if_icmp .ne 34, 115, [146]), (115, .iinc 5 (-1), 118, []), (118, .iload 4, 120, []), (120, .iload 5, 122, []), (122, .ifCond .ge 7, 125, [129]), (125, .iconst 0, 126, []), (126, .goto 14, 129, [140]), (129, .iconst 1, 130, []), (130, .aload_n 0, 131, []), (131, .getfield 39, 134, []), (134, .iload 5, 136, []), (136, .iaload, 137, []), (137, .ishl, 138, []), (138, .iconst (-1), 139, []), (139, .ixor, 140, []), (140, .iand, 141, []), (141, .istore 4, 143, []), (143, .goto 67, 146, [210]), (146, .aload_n 0, 147, []), (147, .getfield 36, 150, []), (150, .iload 5, 152, []), (152, .dup2, 153, []), (153, .iaload, 154, []), (154, .iconst 1, 155, []), (155, .iadd, 156, []), (156, .iastore, 157, []), (157, .iload 4, 159, []), (159, .iload 6, 161, []), (161, .invokestatic 117, 164, []), (164, .ifCond .ne 46, 167, [210]), (167, .aload_n 0, 168, []), (168, .getfield 33, 171, []), (171, .iload 6, 173, []), (173, .iaload, 174, []), (174, .iload 4, 176, []), (176, .iconst (-1), 177, []), (177, .ixor, 178, []), (178, .iand, 179, []), (179, .ifCond .ne 31, 182, [210]), (182, .aload_n 0, 183, []), (183, .iload 5, 185, []), (185, .iload 6, 187, []), (187, .invokevirtual 150, 190, []), (190, .iload 4, 192, []), (192, .iconst 1, 193, []), (193, .iload 6, 195, []), (195, .ishl, 196, []), (196, .ior, 197, []), (197, .istore 4, 199, []), (199, .iinc 5 1, 202, []), (202, .aload_n 0, 203, []), (203, .getfield 36, 206, []), (206, .iload 5, 208, []), (208, .iconst 0, 209, []), (209, .iastore, 210, []), (210, .goto (-156), 213, [54]), (213, .iload_n 3, 214, []), (214, .ireturn, 215, [])]
noncomputable def mX12_goes : MI := (iX12_goes, [(33, 12, 13), (36, 12, 14), (39, 12, 15), (42, 12, 16), (110, 12, 1)], [], [(470, 2, 12, 0, 0, fX12_has), (560, 2, 12, 0, 0, fX12_ahead), (572, 2, 12, 0, 0, fX12_waits), (586, 3, 12, 0, 0, fX12_comes), (600, 3, 12, 0, 0, fX12_does)], [], (0, 0), 1, [(2, [4, 5, 6]), (24, [4, 5, 6]), (32, [4, 5, 6]), (54, [2, 6]), (80, [2, 3, 6]), (81, [2, 6]), (104, [2, 6]), (118, [2, 6]), (129, [2, 4, 6]), (140, [2, 4, 6]), (146, [2]), (164, [2]), (190, [2])])
noncomputable def fX12_goes : CF := mth mX12_goes 7
def iX12_init : List (Nat × Instr × Nat × List Nat) := [(0, .aload_n 0, 1, []), (1, .invokespecial 1, 4, []), (4, .aload_n 0, 5, []), (5, .bipush 8, 7, []), (7, .newarray .int, 9, []), (9, .putfield 7, 12, []), (12, .aload_n 0, 13, []), (13, .bipush 8, 15, []), (15, .newarray .int, 17, []), (17, .putfield 13, 20, []), (20, .aload_n 0, 21, []), (21, .bipush 8, 23, []), (23, .newarray .boolean, 25, []), (25, .putfield 16, 28, []), (28, .aload_n 0, 29, []), (29, .bipush 8, 31, []), (31, .newarray .int, 33, []), (33, .putfield 20, 36, []), (36, .aload_n 0, 37, []), (37, .bipush 15, 39, []), (39, .putfield 23, 42, []), (42, .aload_n 0, 43, []), (43, .sipush 1024, 46, []), (46, .newarray .int, 48, []), (48, .putfield 27, 51, []), (51, .aload_n 0, 52, []), (52, .sipush 1024, 55, []), (55, .newarray .int, 57, []), (57, .putfield 30, 60, []), (60, .aload_n 0, 61, []), (61, .bipush 8, 63, []), (63, .newarray .int, 65, []), (65, .putfield 33, 68, []), (68, .aload_n 0, 69, []), (69, .bipush 9, 71, []), (71, .newarray .int, 73, []), (73, .putfield 36, 76, []), (76, .aload_n 0, 77, []), (77, .bipush 9, 79, []), (79, .newarray .int, 81, []), (81, .putfield 39, 84, []), (84, .aload_n 0, 85, []), (85, .bipush 9, 87, []), (87, .newarray .int, 89, []), (89, .putfield 42, 92, []), (92, .aload_n 0, 93, []), (93, .bipush 27, 95, []), (95, .newarray .int, 97, []), (97, .putfield 45, 100, []), (100, .aload_n 0, 101, []), (101, .bipush 64, 103, []), (103, .newarray .int, 105, []), (105, .putfield 48, 108, []), (108, .aload_n 0, 109, []), (109, .bipush 36, 111, []), (111, .newarray .int, 113, []), (113, .putfield 51, 116, []), (116, .aload_n 0, 117, []), (117, .bipush 36, 119, []), (119, .newarray .int, 121, []), (121, .putfield 54, 124, []), (124, .aload_n 0, 125, []), (125, .bipush 120, 127, []), (127, .newarray .int, 129, []), (129, .putfield 57, 132, []), (132, .aload_n 0, 133, []), (133, .iconst (-1), 134, []), (134, .putfield 60, 137, []), (137, .aload_n 0, 138, []), (138, .bipush 8, 140, []), (140, .newarray .int, 142, []), (142, .putfield 63, 145, []), (145, .aload_n 0, 146, []), (146, .bipush 8, 148, []), (148, .newarray .int, 150, []), (150, .putfield 66, 153, []), (153, .aload_n 0, 154, []), (154, .bipush 8, 156, []), (156, .newarray .boolean, 158, []), (158, .putfield 69, 161, []), (161, .aload_n 0, 162, []), (162, .bipush 20, 164, []), (164, .newarray .int, 166, []), (166, .putfield 72, 169, []), (169, .aload_n 0, 170, []), (170, .bipush 20, 172, []), (172, .newarray .int, 174, []), (174, .putfield 75, 177, []), (177, .aload_n 0, 178, []), (178, .sipush 160, 181, []), (181, .newarray .int, 183, []), (183, .putfield 78, 186, []), (186, .aload_n 0, 187, []), (187, .bipush 20, 189, []), (189, .newarray .int, 191, []), (191, .putfield 81, 194, []), (194, .aload_n 0, 195, []), (195, .bipush 20, 197, []), (197, .newarray .boolean, 199, []), (199, .putfield 84, 202, []), (202, .aload_n 0, 203, []), (203, .iconst 2, 204, []), (204, .newarray .boolean, 206, []), (206, .putfield 87, 209, []), (209, .aload_n 0, 210, []), (210, .iconst 2, 211, []), (211, .newarray .int, 213, []), (213, .putfield 90, 216, []), (216, .aload_n 0, 217, []), (217, .iconst 2, 218, []), (218, .newarray .int, 220, []), (220, .putfield 93, 223, []), (223, .aload_n 0, 224, []), (224, .bipush 16, 226, []), (226, .newarray .int, 228, []), (228, .putfield 96, 231, []), (231, .aload_n 0, 232, []), (232, .iconst 2, 233, []), (233, .newarray .long, 235, []), (235, .putfield 99, 238, []), (238, .aload_n 0, 239, []), (239, .aload_n 0, 240, []), (240, .aload_n 0, 241, []), (241, .getfield 27, 244, []), (244, .iconst 1, 245, []), (245, .invokevirtual 103, 248, []), (248, .putfield 107, 251, []), (251, .return_, 252, [])]
noncomputable def mX12_init : MI := (iX12_init, [(7, 12, 2), (13, 12, 3), (16, 12, 4), (20, 12, 5), (23, 12, 7), (27, 12, 8), (30, 12, 9), (33, 12, 13), (36, 12, 14), (39, 12, 15), (42, 12, 16), (45, 12, 17), (48, 12, 19), (51, 12, 20), (54, 12, 21), (57, 12, 23), (60, 12, 25), (63, 12, 29), (66, 12, 30), (69, 12, 31), (72, 12, 33), (75, 12, 34), (78, 12, 35), (81, 12, 38), (84, 12, 39), (87, 12, 40), (90, 12, 41), (93, 12, 42), (96, 12, 43), (99, 12, 44), (107, 12, 10)], [], [(5, 1, 99, 0, 0, fObj), (412, 3, 12, 0, 0, fX12_goes)], [], (28, 2686), 0, [(248, [0])])
noncomputable def fX12_init : CF := mth mX12_init 1
def iX12_isStep : List (Nat × Instr × Nat × List Nat) := [(0, .iload_n 1, 1, []), (1, .ifCond .lt 15, 4, [16]), (4, .iload_n 1, 5, []), (5, .aload_n 0, 6, []), (6, .getfield 110, 9, []), (9, .if_icmp .ge 7, 12, [16]), (12, .iconst 1, 13, []), (13, .goto 4, 16, [17]), (16, .iconst 0, 17, []), (17, .ireturn, 18, [])]
noncomputable def mX12_isStep : MI := (iX12_isStep, [(110, 12, 1)], [], [], [], (0, 0), 2, [])
noncomputable def fX12_isStep : CF := mth mX12_isStep 2
def iX12_isGap : List (Nat × Instr × Nat × List Nat) := [(0, .iload_n 1, 1, []), (1, .ifCond .le 32, 4, [33]), (4, .iload_n 1, 5, []), (5, .aload_n 0, 6, []), (6, .getfield 110, 9, []), (9, .if_icmp .ge 24, 12, [33]), (12, .aload_n 0, 13, []), (13, .getfield 7, 16, []), (16, .iload_n 1, 17, []), (17, .iaload, 18, []), (18, .aload_n 0, 19, []), (19, .getfield 7, 22, []), (22, .iload_n 1, 23, []), (23, .iconst 1, 24, []), (24, .isub, 25, []), (25, .iaload, 26, []), (26, .if_icmp .ne 7, 29, [33]), (29, .iconst 1, 30, []), (30, .goto 4, 33, [34]), (33, .iconst 0, 34, []), (34, .ireturn, 35, [])]
noncomputable def mX12_isGap : MI := (iX12_isGap, [(7, 12, 2), (110, 12, 1)], [], [], [], (0, 0), 2, [])
noncomputable def fX12_isGap : CF := mth mX12_isGap 2
def iX12_isConflict : List (Nat × Instr × Nat × List Nat) := [(0, .aload_n 0, 1, []), (1, .getfield 7, 4, []), (4, .iload_n 1, 5, []), (5, .iaload, 6, []), (6, .aload_n 0, 7, []), (7, .getfield 7, 10, []), (10, .iload_n 2, 11, []), (11, .iaload, 12, []), (12, .if_icmp .eq 40, 15, [52]), (15, .aload_n 0, 16, []), (16, .getfield 13, 19, []), (19, .iload_n 1, 20, []), (20, .iaload, 21, []), (21, .aload_n 0, 22, []), (22, .getfield 13, 25, []), (25, .iload_n 2, 26, []), (26, .iaload, 27, []), (27, .if_icmp .ne 25, 30, [52]), (30, .aload_n 0, 31, []), (31, .getfield 16, 34, []), (34, .iload_n 1, 35, []), (35, .baload, 36, []), (36, .ifCond .ne 12, 39, [48]), (39, .aload_n 0, 40, []), (40, .getfield 16, 43, []), (43, .iload_n 2, 44, []), (44, .baload, 45, []), (45, .ifCond .eq 7, 48, [52]), (48, .iconst 1, 49, []), (49, .goto 4, 52, [53]), (52, .iconst 0, 53, []), (53, .ireturn, 54, [])]
noncomputable def mX12_isConflict : MI := (iX12_isConflict, [(7, 12, 2), (13, 12, 3), (16, 12, 4)], [], [], [], (0, 0), 2, [])
noncomputable def fX12_isConflict : CF := mth mX12_isConflict 3
def iX12_conflicts : List (Nat × Instr × Nat × List Nat) := [(0, .iconst 0, 1, []), (1, .istore_n 2, 2, []), (2, .iconst 0, 3, []), (3, .istore_n 3, 4, []), (4, .iload_n 3, 5, []), (5, .aload_n 0, 6, []), (6, .getfield 110, 9, []), (9, .if_icmp .ge 28, 12, [37]), (12, .iload_n 2, 13, []), (13, .aload_n 0, 14, []), (14, .iload_n 1, 15, []), (15, .iload_n 3, 16, []), (16, .invokevirtual 133, 19, []), (19, .ifCond .eq 9, 22, [28]), (22, .iconst 1, 23, []), (23, .iload_n 3, 24, []), (24, .ishl, 25, []), (25, .goto 4, 28, [29]), (28, .iconst 0, 29, []), (29, .ior, 30, []), (30, .istore_n 2, 31, []), (31, .iinc 3 1, 34, []), (34, .goto (-30), 37, [4]), (37, .iload_n 2, 38, []), (38, .ireturn, 39, [])]
noncomputable def mX12_conflicts : MI := (iX12_conflicts, [(110, 12, 1)], [], [(532, 3, 12, 0, 0, fX12_isConflict)], [], (0, 0), 1, [(19, [2])])
noncomputable def fX12_conflicts : CF := mth mX12_conflicts 4
def iX12_readings : List (Nat × Instr × Nat × List Nat) := [(0, .aload_n 0, 1, []), (1, .getfield 154, 4, []), (4, .ifCond .ne 21, 7, [25]), (7, .aload_n 0, 8, []), (8, .aload_n 0, 9, []), (9, .aload_n 0, 10, []), (10, .getfield 30, 13, []), (13, .iconst 0, 14, []), (14, .invokevirtual 103, 17, []), (17, .putfield 158, 20, []), (20, .aload_n 0, 21, []), (21, .iconst 1, 22, []), (22, .putfield 154, 25, []), (25, .aload_n 0, 26, []), (26, .getfield 158, 29, []), (29, .ireturn, 30, [])]
noncomputable def mX12_readings : MI := (iX12_readings, [(30, 12, 9), (154, 12, 12), (158, 12, 11)], [], [(412, 3, 12, 0, 0, fX12_goes)], [], (0, 0), 1, [])
noncomputable def fX12_readings : CF := mth mX12_readings 1
def iX12_isIn : List (Nat × Instr × Nat × List Nat) := [(0, .iconst 0, 1, []), (1, .istore_n 3, 2, []), (2, .iconst 0, 3, []), (3, .istore 4, 5, []), (5, .iload 4, 7, []), (7, .iload_n 1, 8, []), (8, .if_icmp .ge 27, 11, [35]), (11, .iload_n 3, 12, []), (12, .ifCond .ne 23, 15, [35]), (15, .aload_n 0, 16, []), (16, .iload 4, 18, []), (18, .iaload, 19, []), (19, .iload_n 2, 20, []), (20, .if_icmp .ne 7, 23, [27]), (23, .iconst 1, 24, []), (24, .goto 4, 27, [28]), (27, .iconst 0, 28, []), (28, .istore_n 3, 29, []), (29, .iinc 4 1, 32, []), (32, .goto (-27), 35, [5]), (35, .iload_n 3, 36, []), (36, .ireturn, 37, [])]
noncomputable def mX12_isIn : MI := (iX12_isIn, [], [], [], [], (0, 0), 2, [])
noncomputable def fX12_isIn : CF := mth mX12_isIn 5
def iX12_stray : List (Nat × Instr × Nat × List Nat) := [(0, .iload_n 1, 1, []), (1, .istore_n 2, 2, []), (2, .iconst 0, 3, []), (3, .istore_n 3, 4, []), (4, .iload_n 3, 5, []), (5, .aload_n 0, 6, []), (6, .invokevirtual 161, 9, []), (9, .if_icmp .ge 43, 12, [52]), (12, .aload_n 0, 13, []), (13, .getfield 27, 16, []), (16, .aload_n 0, 17, []), (17, .getfield 107, 20, []), (20, .aload_n 0, 21, []), (21, .getfield 30, 24, []), (24, .iload_n 3, 25, []), (25, .iaload, 26, []), (26, .invokestatic 165, 29, []), (29, .ifCond .ne 17, 32, [46]), (32, .iload_n 2, 33, []), (33, .ifCond .ne 10, 36, [43]), (36, .aload_n 0, 37, []), (37, .getfield 30, 40, []), (40, .iload_n 3, 41, []), (41, .iaload, 42, []), (42, .ireturn, 43, []), (43, .iinc 2 (-1), 46, []), (46, .iinc 3 1, 49, []), (49, .goto (-45), 52, [4]), (52, .iconst (-1), 53, []), (53, .ireturn, 54, [])]
noncomputable def mX12_stray : MI := (iX12_stray, [(27, 12, 8), (30, 12, 9), (107, 12, 10)], [], [(644, 1, 12, 0, 0, fX12_readings), (662, 3, 12, 0, 0, fX12_isIn)], [], (0, 0), 1, [(4, [1]), (9, [1]), (29, [1])])
noncomputable def fX12_stray : CF := mth mX12_stray 4
def iX12_reading : List (Nat × Instr × Nat × List Nat) := [(0, .iload_n 2, 1, []), (1, .ifCond .lt 8, 4, [9]), (4, .iload_n 2, 5, []), (5, .iconst 2, 6, []), (6, .if_icmp .le 6, 9, [12]), (9, .ldc 169, 11, []), (11, .ireturn, 12, []), (12, .iload_n 1, 13, []), (13, .ifCond .ge 5, 16, [18]), (16, .iconst (-1), 17, []), (17, .ireturn, 18, []), (18, .iload_n 2, 19, []), (19, .iconst 2, 20, []), (20, .if_icmp .ne 9, 23, [29]), (23, .aload_n 0, 24, []), (24, .iload_n 1, 25, []), (25, .invokevirtual 170, 28, []), (28, .ireturn, 29, []), (29, .iload_n 2, 30, []), (30, .ifCond .ne 10, 33, [40]), (33, .aload_n 0, 34, []), (34, .invokevirtual 161, 37, []), (37, .goto 7, 40, [44]), (40, .aload_n 0, 41, []), (41, .getfield 107, 44, []), (44, .istore_n 3, 45, []), (45, .iload_n 1, 46, []), (46, .iload_n 3, 47, []), (47, .if_icmp .lt 7, 50, [54]), (50, .iconst (-1), 51, []), (51, .goto 22, 54, [73]), (54, .iload_n 2, 55, []), (55, .ifCond .ne 12, 58, [67]), (58, .aload_n 0, 59, []), (59, .getfield 30, 62, []), (62, .iload_n 1, 63, []), (63, .iaload, 64, []), (64, .goto 9, 67, [73]), (67, .aload_n 0, 68, []), (68, .getfield 27, 71, []), (71, .iload_n 1, 72, []), (72, .iaload, 73, []), (73, .ireturn, 74, [])]
noncomputable def mX12_reading : MI := (iX12_reading, [(27, 12, 8), (30, 12, 9), (107, 12, 10)], [(169, .int (-1000000002))], [(644, 1, 12, 0, 0, fX12_readings), (680, 2, 12, 0, 0, fX12_stray)], [], (0, 0), 1, [(28, [0, 1, 2, 3]), (37, [3])])
noncomputable def fX12_reading : CF := mth mX12_reading 4
def iX12_can : List (Nat × Instr × Nat × List Nat) := [(0, .aload_n 0, 1, []), (1, .getfield 27, 4, []), (4, .aload_n 0, 5, []), (5, .getfield 107, 8, []), (8, .iload_n 1, 9, []), (9, .invokestatic 165, 12, []), (12, .ifCond .eq 5, 15, [17]), (15, .iconst 2, 16, []), (16, .ireturn, 17, []), (17, .aload_n 0, 18, []), (18, .getfield 30, 21, []), (21, .aload_n 0, 22, []), (22, .invokevirtual 161, 25, []), (25, .iload_n 1, 26, []), (26, .invokestatic 165, 29, []), (29, .ifCond .eq 7, 32, [36]), (32, .iconst 1, 33, []), (33, .goto 4, 36, [37]), (36, .iconst 0, 37, []), (37, .ireturn, 38, [])]
noncomputable def mX12_can : MI := (iX12_can, [(27, 12, 8), (30, 12, 9), (107, 12, 10)], [], [(644, 1, 12, 0, 0, fX12_readings), (662, 3, 12, 0, 0, fX12_isIn)], [], (0, 0), 1, [(25, [0]), (29, [0, 1])])
noncomputable def fX12_can : CF := mth mX12_can 2
def iX12_laysGifts : List (Nat × Instr × Nat × List Nat) := [(0, .aload_n 0, 1, []), (1, .iconst 0, 2, []), (2, .putfield 173, 5, []), (5, .iconst 0, 6, []), (6, .istore_n 1, 7, []), (7, .iload_n 1, 8, []), (8, .aload_n 0, 9, []), (9, .getfield 110, 12, []), (12, .if_icmp .ge 96, 15, [108]), (15, .iload_n 1, 16, []), (16, .istore_n 2, 17, []), (17, .iload_n 2, 18, []), (18, .aload_n 0, 19, []), (19, .getfield 110, 22, []), (22, .if_icmp .ge 80, 25, [102]), (25, .iload_n 1, 26, []), (26, .iload_n 2, 27, []), (27, .if_icmp .ne 15, 30, [42]), (30, .aload_n 0, 31, []), (31, .getfield 16, 34, []), (34, .iload_n 1, 35, []), (35, .baload, 36, []), (36, .ifCond .eq 60, 39, [96]), (39, .goto 27, 42, [66]), (42, .aload_n 0, 43, []), (43, .iload_n 1, 44, []), (44, .iload_n 2, 45, []), (45, .invokevirtual 121, 48, []), (48, .ifCond .eq 48, 51, [96]), (51, .aload_n 0, 52, []), (52, .getfield 13, 55, []), (55, .iload_n 1, 56, []), (56, .iaload, 57, []), (57, .aload_n 0, 58, []), (58, .getfield 13, 61, []), (61, .iload_n 2, 62, []), (62, .iaload, 63, []), (63, .if_icmp .eq 33, 66, [96]), (66, .aload_n 0, 67, []), (67, .getfield 51, 70, []), (70, .aload_n 0, 71, []), (71, .getfield 173, 74, []), (74, .iload_n 1, 75, []), (75, .iastore, 76, []), (76, .aload_n 0, 77, []), (77, .getfield 54, 80, []), (80, .aload_n 0, 81, []), (81, .getfield 173, 84, []), (84, .iload_n 2, 85, []), (85, .iastore, 86, []), (86, .aload_n 0, 87, []), (87, .dup, 88, []), (88, .getfield 173, 91, []), (91, .iconst 1, 92, []), (92, .iadd, 93, []), (93, .putfield 173, 96, []), (96, .iinc 2 1, 99, []), (99, .goto (-82), 102, [17]), (102, .iinc 1 1, 105, []), (105, .goto (-98), 108, [7]), (108, .return_, 109, [])]
noncomputable def mX12_laysGifts : MI := (iX12_laysGifts, [(13, 12, 3), (16, 12, 4), (51, 12, 20), (54, 12, 21), (110, 12, 1), (173, 12, 22)], [], [(484, 3, 12, 0, 0, fX12_isAhead)], [], (0, 0), 0, [(7, [2])])
noncomputable def fX12_laysGifts : CF := mth mX12_laysGifts 3
def iX12_isOne : List (Nat × Instr × Nat × List Nat) := [(0, .aload_n 0, 1, []), (1, .getfield 51, 4, []), (4, .iload_n 1, 5, []), (5, .iaload, 6, []), (6, .aload_n 0, 7, []), (7, .getfield 54, 10, []), (10, .iload_n 1, 11, []), (11, .iaload, 12, []), (12, .if_icmp .ne 7, 15, [19]), (15, .iconst 1, 16, []), (16, .goto 4, 19, [20]), (19, .iconst 0, 20, []), (20, .ireturn, 21, [])]
noncomputable def mX12_isOne : MI := (iX12_isOne, [(51, 12, 20), (54, 12, 21)], [], [], [], (0, 0), 2, [])
noncomputable def fX12_isOne : CF := mth mX12_isOne 2
def iX12_meets : List (Nat × Instr × Nat × List Nat) := [(0, .aload_n 0, 1, []), (1, .aload_n 0, 2, []), (2, .getfield 54, 5, []), (5, .iload_n 1, 6, []), (6, .iaload, 7, []), (7, .aload_n 0, 8, []), (8, .getfield 51, 11, []), (11, .iload_n 2, 12, []), (12, .iaload, 13, []), (13, .invokevirtual 133, 16, []), (16, .ireturn, 17, [])]
noncomputable def mX12_meets : MI := (iX12_meets, [(51, 12, 20), (54, 12, 21)], [], [(532, 3, 12, 0, 0, fX12_isConflict)], [], (0, 0), 2, [(16, [0, 1, 2])])
noncomputable def fX12_meets : CF := mth mX12_meets 3
def iX12_fits : List (Nat × Instr × Nat × List Nat) := [(0, .aload_n 0, 1, []), (1, .iload_n 2, 2, []), (2, .invokevirtual 176, 5, []), (5, .ifCond .eq 31, 8, [36]), (8, .aload_n 0, 9, []), (9, .getfield 16, 12, []), (12, .aload_n 0, 13, []), (13, .getfield 54, 16, []), (16, .iload_n 1, 17, []), (17, .iaload, 18, []), (18, .baload, 19, []), (19, .ifCond .ne 21, 22, [40]), (22, .aload_n 0, 23, []), (23, .getfield 16, 26, []), (26, .aload_n 0, 27, []), (27, .getfield 51, 30, []), (30, .iload_n 3, 31, []), (31, .iaload, 32, []), (32, .baload, 33, []), (33, .ifCond .ne 7, 36, [40]), (36, .iconst 1, 37, []), (37, .goto 4, 40, [41]), (40, .iconst 0, 41, []), (41, .ireturn, 42, [])]
noncomputable def mX12_fits : MI := (iX12_fits, [(16, 12, 4), (51, 12, 20), (54, 12, 21)], [], [(704, 2, 12, 0, 0, fX12_isOne)], [], (0, 0), 2, [(5, [2])])
noncomputable def fX12_fits : CF := mth mX12_fits 4
def iX12_gives : List (Nat × Instr × Nat × List Nat) := [(0, .aload_n 0, 1, []), (1, .getfield 48, 4, []), (4, .bipush 8, 6, []), (6, .aload_n 0, 7, []), (7, .getfield 51, 10, []), (10, .iload_n 1, 11, []), (11, .iaload, 12, []), (12, .imul, 13, []), (13, .aload_n 0, 14, []), (14, .getfield 54, 17, []), (17, .iload_n 1, 18, []), (18, .iaload, 19, []), (19, .iadd, 20, []), (20, .dup2, 21, []), (21, .iaload, 22, []), (22, .aload_n 0, 23, []), (23, .iload_n 1, 24, []), (24, .invokevirtual 176, 27, []), (27, .ifCond .eq 7, 30, [34]), (30, .iconst 0, 31, []), (31, .goto 4, 34, [35]), (34, .iconst 1, 35, []), (35, .iadd, 36, []), (36, .iastore, 37, []), (37, .return_, 38, [])]
noncomputable def mX12_gives : MI := (iX12_gives, [(48, 12, 19), (51, 12, 20), (54, 12, 21)], [], [(704, 2, 12, 0, 0, fX12_isOne)], [], (0, 0), 0, [(27, [0, 1])])
noncomputable def fX12_gives : CF := mth mX12_gives 2
def iX12_laysTwos : List (Nat × Instr × Nat × List Nat) := [(0, .iconst 0, 1, []), (1, .istore_n 1, 2, []), (2, .iload_n 1, 3, []), (3, .aload_n 0, 4, []), (4, .getfield 173, 7, []), (7, .if_icmp .ge 114, 10, [121]), (10, .iconst 0, 11, []), (11, .istore_n 2, 12, []), (12, .iload_n 2, 13, []), (13, .aload_n 0, 14, []), (14, .getfield 173, 17, []), (17, .if_icmp .ge 98, 20, [115]), (20, .aload_n 0, 21, []), (21, .iload_n 1, 22, []), (22, .invokevirtual 176, 25, []), (25, .ifCond .ne 40, 28, [65]), (28, .aload_n 0, 29, []), (29, .iload_n 2, 30, []), (30, .invokevirtual 176, 33, []), (33, .ifCond .ne 32, 36, [65]), (36, .aload_n 0, 37, []), (37, .getfield 7, 40, []), (40, .aload_n 0, 41, []), (41, .getfield 51, 44, []), (44, .iload_n 1, 45, []), (45, .iaload, 46, []), (46, .iaload, 47, []), (47, .aload_n 0, 48, []), (48, .getfield 7, 51, []), (51, .aload_n 0, 52, []), (52, .getfield 51, 55, []), (55, .iload_n 2, 56, []), (56, .iaload, 57, []), (57, .iaload, 58, []), (58, .if_icmp .ge 7, 61, [65]), (61, .iconst 1, 62, []), (62, .goto 4, 65, [66]), (65, .iconst 0, 66, []), (66, .istore_n 3, 67, []), (67, .iload_n 3, 68, []), (68, .ifCond .eq 41, 71, [109]), (71, .aload_n 0, 72, []), (72, .iload_n 1, 73, []), (73, .iload_n 2, 74, []), (74, .invokevirtual 180, 77, []), (77, .ifCond .eq 32, 80, [109]), (80, .aload_n 0, 81, []), (81, .iload_n 2, 82, []), (82, .iload_n 1, 83, []), (83, .invokevirtual 180, 86, []), (86, .ifCond .eq 23, 89, [109]), (89, .aload_n 0, 90, []), (90, .dup, 91, []), (91, .getfield 183, 94, []), (94, .iconst 1, 95, []), (95, .iadd, 96, []), (96, .putfield 183, 99, []), (99, .aload_n 0, 100, []), (100, .iload_n 1, 101, []), (101, .invokevirtual 186, 104, []), (104, .aload_n 0, 105, []), (105, .iload_n 2, 106, []), (106, .invokevirtual 186, 109, []), (109, .iinc 2 1, 112, []), (112, .goto (-100), 115, [12]), (115, .iinc 1 1, 118, []), (118, .goto (-116), 121, [2]), (121, .return_, 122, [])]
noncomputable def mX12_laysTwos : MI := (iX12_laysTwos, [(7, 12, 2), (51, 12, 20), (173, 12, 22), (183, 12, 18)], [], [(704, 2, 12, 0, 0, fX12_isOne), (720, 3, 12, 0, 0, fX12_meets), (744, 2, 12, 0, 0, fX12_gives)], [], (0, 0), 0, [(2, [2, 3]), (12, [3]), (25, [3]), (33, [3]), (77, [3]), (86, [3]), (104, [3]), (109, [3])])
noncomputable def fX12_laysTwos : CF := mth mX12_laysTwos 4
def iX12_laysThrees : List (Nat × Instr × Nat × List Nat) := [(0, .iconst 0, 1, []), (1, .istore_n 3, 2, []), (2, .iload_n 3, 3, []), (3, .aload_n 0, 4, []), (4, .getfield 173, 7, []), (7, .if_icmp .ge 133, 10, [140]), (10, .aload_n 0, 11, []), (11, .getfield 7, 14, []), (14, .aload_n 0, 15, []), (15, .getfield 51, 18, []), (18, .iload_n 3, 19, []), (19, .iaload, 20, []), (20, .iaload, 21, []), (21, .ifCond .eq 50, 24, [71]), (24, .aload_n 0, 25, []), (25, .getfield 7, 28, []), (28, .aload_n 0, 29, []), (29, .getfield 51, 32, []), (32, .iload_n 3, 33, []), (33, .iaload, 34, []), (34, .iaload, 35, []), (35, .aload_n 0, 36, []), (36, .getfield 7, 39, []), (39, .aload_n 0, 40, []), (40, .getfield 51, 43, []), (43, .iload_n 2, 44, []), (44, .iaload, 45, []), (45, .iaload, 46, []), (46, .if_icmp .eq 25, 49, [71]), (49, .aload_n 0, 50, []), (50, .iload_n 2, 51, []), (51, .iload_n 3, 52, []), (52, .invokevirtual 180, 55, []), (55, .ifCond .eq 16, 58, [71]), (58, .aload_n 0, 59, []), (59, .iload_n 3, 60, []), (60, .iload_n 1, 61, []), (61, .invokevirtual 180, 64, []), (64, .ifCond .eq 7, 67, [71]), (67, .iconst 1, 68, []), (68, .goto 4, 71, [72]), (71, .iconst 0, 72, []), (72, .istore 4, 74, []), (74, .iload 4, 76, []), (76, .ifCond .eq 58, 79, [134]), (79, .aload_n 0, 80, []), (80, .iload_n 3, 81, []), (81, .iload_n 1, 82, []), (82, .iload_n 2, 83, []), (83, .invokevirtual 190, 86, []), (86, .ifCond .eq 48, 89, [134]), (89, .aload_n 0, 90, []), (90, .iload_n 1, 91, []), (91, .iload_n 2, 92, []), (92, .iload_n 3, 93, []), (93, .invokevirtual 190, 96, []), (96, .ifCond .eq 38, 99, [134]), (99, .aload_n 0, 100, []), (100, .iload_n 2, 101, []), (101, .iload_n 3, 102, []), (102, .iload_n 1, 103, []), (103, .invokevirtual 190, 106, []), (106, .ifCond .eq 28, 109, [134]), (109, .aload_n 0, 110, []), (110, .dup, 111, []), (111, .getfield 183, 114, []), (114, .iconst 1, 115, []), (115, .iadd, 116, []), (116, .putfield 183, 119, []), (119, .aload_n 0, 120, []), (120, .iload_n 1, 121, []), (121, .invokevirtual 186, 124, []), (124, .aload_n 0, 125, []), (125, .iload_n 2, 126, []), (126, .invokevirtual 186, 129, []), (129, .aload_n 0, 130, []), (130, .iload_n 3, 131, []), (131, .invokevirtual 186, 134, []), (134, .iinc 3 1, 137, []), (137, .goto (-135), 140, [2]), (140, .return_, 141, [])]
noncomputable def mX12_laysThrees : MI := (iX12_laysThrees, [(7, 12, 2), (51, 12, 20), (173, 12, 22), (183, 12, 18)], [], [(720, 3, 12, 0, 0, fX12_meets), (744, 2, 12, 0, 0, fX12_gives), (760, 4, 12, 0, 0, fX12_fits)], [], (0, 0), 0, [(2, [4]), (55, [4]), (64, [4]), (86, [4]), (96, [4]), (106, [4]), (124, [4]), (129, [4]), (134, [4])])
noncomputable def fX12_laysThrees : CF := mth mX12_laysThrees 5
def iX12_laysRings : List (Nat × Instr × Nat × List Nat) := [(0, .aload_n 0, 1, []), (1, .iconst 0, 2, []), (2, .putfield 183, 5, []), (5, .iconst 0, 6, []), (6, .istore_n 1, 7, []), (7, .iload_n 1, 8, []), (8, .bipush 64, 10, []), (10, .if_icmp .ge 16, 13, [26]), (13, .aload_n 0, 14, []), (14, .getfield 48, 17, []), (17, .iload_n 1, 18, []), (18, .iconst 0, 19, []), (19, .iastore, 20, []), (20, .iinc 1 1, 23, []), (23, .goto (-16), 26, [7]), (26, .aload_n 0, 27, []), (27, .invokevirtual 194, 30, []), (30, .aload_n 0, 31, []), (31, .invokevirtual 197, 34, []), (34, .iconst 0, 35, []), (35, .istore_n 1, 36, []), (36, .iload_n 1, 37, []), (37, .aload_n 0, 38, []), (38, .getfield 173, 41, []), (41, .if_icmp .ge 68, 44, [109]), (44, .iconst 0, 45, []), (45, .istore_n 2, 46, []), (46, .iload_n 2, 47, []), (47, .aload_n 0, 48, []), (48, .getfield 173, 51, []), (51, .if_icmp .ge 52, 54, [103]), (54, .aload_n 0, 55, []), (55, .getfield 7, 58, []), (58, .aload_n 0, 59, []), (59, .getfield 51, 62, []), (62, .iload_n 1, 63, []), (63, .iaload, 64, []), (64, .iaload, 65, []), (65, .ifCond .ne 32, 68, [97]), (68, .aload_n 0, 69, []), (69, .getfield 7, 72, []), (72, .aload_n 0, 73, []), (73, .getfield 51, 76, []), (76, .iload_n 2, 77, []), (77, .iaload, 78, []), (78, .iaload, 79, []), (79, .ifCond .le 18, 82, [97]), (82, .aload_n 0, 83, []), (83, .iload_n 1, 84, []), (84, .iload_n 2, 85, []), (85, .invokevirtual 180, 88, []), (88, .ifCond .eq 9, 91, [97]), (91, .aload_n 0, 92, []), (92, .iload_n 1, 93, []), (93, .iload_n 2, 94, []), (94, .invokevirtual 200, 97, []), (97, .iinc 2 1, 100, []), (100, .goto (-54), 103, [46]), (103, .iinc 1 1, 106, []), (106, .goto (-70), 109, [36]), (109, .return_, 110, [])]
noncomputable def mX12_laysRings : MI := (iX12_laysRings, [(7, 12, 2), (48, 12, 19), (51, 12, 20), (173, 12, 22), (183, 12, 18)], [], [(720, 3, 12, 0, 0, fX12_meets), (776, 1, 12, 0, 0, fX12_laysGifts), (788, 1, 12, 0, 0, fX12_laysTwos), (800, 3, 12, 0, 0, fX12_laysThrees)], [], (0, 0), 0, [(7, [2]), (30, [1, 2]), (34, [1, 2]), (36, [2])])
noncomputable def fX12_laysRings : CF := mth mX12_laysRings 3
def iX12_isPair : List (Nat × Instr × Nat × List Nat) := [(0, .aload_n 0, 1, []), (1, .getfield 48, 4, []), (4, .bipush 8, 6, []), (6, .iload_n 1, 7, []), (7, .imul, 8, []), (8, .iload_n 2, 9, []), (9, .iadd, 10, []), (10, .iaload, 11, []), (11, .ifCond .le 7, 14, [18]), (14, .iconst 1, 15, []), (15, .goto 4, 18, [19]), (18, .iconst 0, 19, []), (19, .ireturn, 20, [])]
noncomputable def mX12_isPair : MI := (iX12_isPair, [(48, 12, 19)], [], [], [], (0, 0), 2, [])
noncomputable def fX12_isPair : CF := mth mX12_isPair 3
def iX12_isLoose : List (Nat × Instr × Nat × List Nat) := [(0, .aload_n 0, 1, []), (1, .iload_n 1, 2, []), (2, .iload_n 2, 3, []), (3, .invokevirtual 203, 6, []), (6, .ifCond .eq 16, 9, [22]), (9, .aload_n 0, 10, []), (10, .iload_n 1, 11, []), (11, .iload_n 2, 12, []), (12, .invokevirtual 124, 15, []), (15, .ifCond .ne 7, 18, [22]), (18, .iconst 1, 19, []), (19, .goto 4, 22, [23]), (22, .iconst 0, 23, []), (23, .ireturn, 24, [])]
noncomputable def mX12_isLoose : MI := (iX12_isLoose, [], [], [(496, 3, 12, 0, 0, fX12_isBound), (812, 3, 12, 0, 0, fX12_isPair)], [], (0, 0), 2, [(15, [0, 1, 2])])
noncomputable def fX12_isLoose : CF := mth mX12_isLoose 3
def iX12_holds : List (Nat × Instr × Nat × List Nat) := [(0, .iconst 0, 1, []), (1, .istore_n 2, 2, []), (2, .iconst 0, 3, []), (3, .istore_n 3, 4, []), (4, .iload_n 3, 5, []), (5, .aload_n 0, 6, []), (6, .getfield 110, 9, []), (9, .if_icmp .ge 58, 12, [67]), (12, .iload_n 3, 13, []), (13, .iconst 1, 14, []), (14, .iadd, 15, []), (15, .istore 4, 17, []), (17, .iload 4, 19, []), (19, .aload_n 0, 20, []), (20, .getfield 110, 23, []), (23, .if_icmp .ge 38, 26, [61]), (26, .iload_n 2, 27, []), (27, .aload_n 0, 28, []), (28, .iload_n 3, 29, []), (29, .iload 4, 31, []), (31, .invokevirtual 206, 34, []), (34, .ifCond .eq 18, 37, [52]), (37, .iload_n 1, 38, []), (38, .iload_n 3, 39, []), (39, .iload 4, 41, []), (41, .invokestatic 130, 44, []), (44, .iand, 45, []), (45, .ifCond .eq 7, 48, [52]), (48, .iconst 1, 49, []), (49, .goto 4, 52, [53]), (52, .iconst 0, 53, []), (53, .iadd, 54, []), (54, .istore_n 2, 55, []), (55, .iinc 4 1, 58, []), (58, .goto (-41), 61, [17]), (61, .iinc 3 1, 64, []), (64, .goto (-60), 67, [4]), (67, .iload_n 2, 68, []), (68, .ireturn, 69, [])]
noncomputable def mX12_holds : MI := (iX12_holds, [(110, 12, 1)], [], [(522, 2, 12, 0, 0, fX12_between), (824, 3, 12, 0, 0, fX12_isLoose)], [], (0, 0), 1, [(4, [4]), (34, [2]), (44, [2])])
noncomputable def fX12_holds : CF := mth mX12_holds 5
def iX12_loosePairs : List (Nat × Instr × Nat × List Nat) := [(0, .aload_n 0, 1, []), (1, .iconst (-1), 2, []), (2, .invokevirtual 209, 5, []), (5, .ireturn, 6, [])]
noncomputable def mX12_loosePairs : MI := (iX12_loosePairs, [], [], [(836, 2, 12, 0, 0, fX12_holds)], [], (0, 0), 1, [(5, [0])])
noncomputable def fX12_loosePairs : CF := mth mX12_loosePairs 1
def iX12_gaps : List (Nat × Instr × Nat × List Nat) := [(0, .iconst 0, 1, []), (1, .istore_n 1, 2, []), (2, .iconst 1, 3, []), (3, .istore_n 2, 4, []), (4, .iload_n 2, 5, []), (5, .aload_n 0, 6, []), (6, .getfield 110, 9, []), (9, .if_icmp .ge 27, 12, [36]), (12, .iload_n 1, 13, []), (13, .aload_n 0, 14, []), (14, .iload_n 2, 15, []), (15, .invokevirtual 212, 18, []), (18, .ifCond .eq 9, 21, [27]), (21, .iconst 1, 22, []), (22, .iload_n 2, 23, []), (23, .ishl, 24, []), (24, .goto 4, 27, [28]), (27, .iconst 0, 28, []), (28, .ior, 29, []), (29, .istore_n 1, 30, []), (30, .iinc 2 1, 33, []), (33, .goto (-29), 36, [4]), (36, .iload_n 1, 37, []), (37, .ireturn, 38, [])]
noncomputable def mX12_gaps : MI := (iX12_gaps, [(110, 12, 1)], [], [(848, 2, 12, 0, 0, fX12_isGap)], [], (0, 0), 1, [(18, [1])])
noncomputable def fX12_gaps : CF := mth mX12_gaps 3
def iX12_price : List (Nat × Instr × Nat × List Nat) := [(0, .iconst 0, 1, []), (1, .istore_n 2, 2, []), (2, .iconst 0, 3, []), (3, .istore_n 3, 4, []), (4, .iload_n 3, 5, []), (5, .bipush 8, 7, []), (7, .if_icmp .ge 30, 10, [37]), (10, .iload_n 2, 11, []), (11, .iload_n 1, 12, []), (12, .iload_n 3, 13, []), (13, .invokestatic 117, 16, []), (16, .ifCond .eq 12, 19, [28]), (19, .aload_n 0, 20, []), (20, .getfield 20, 23, []), (23, .iload_n 3, 24, []), (24, .iaload, 25, []), (25, .goto 4, 28, [29]), (28, .iconst 0, 29, []), (29, .iadd, 30, []), (30, .istore_n 2, 31, []), (31, .iinc 3 1, 34, []), (34, .goto (-30), 37, [4]), (37, .iload_n 2, 38, []), (38, .ireturn, 39, [])]
noncomputable def mX12_price : MI := (iX12_price, [(20, 12, 5)], [], [(470, 2, 12, 0, 0, fX12_has)], [], (0, 0), 1, [(16, [2])])
noncomputable def fX12_price : CF := mth mX12_price 4
def iX12_cheapest : List (Nat × Instr × Nat × List Nat) := [(0, .aload_n 0, 1, []), (1, .invokevirtual 215, 4, []), (4, .istore_n 1, 5, []), (5, .iconst (-1), 6, []), (6, .istore_n 2, 7, []), (7, .iconst 0, 8, []), (8, .istore_n 3, 9, []), (9, .iload_n 3, 10, []), (10, .sipush 256, 13, []), (13, .if_icmp .ge 61, 16, [74]), (16, .iload_n 3, 17, []), (17, .aload_n 0, 18, []), (18, .invokevirtual 218, 21, []), (21, .iconst (-1), 22, []), (22, .ixor, 23, []), (23, .iand, 24, []), (24, .ifCond .ne 25, 27, [49]), (27, .iload_n 2, 28, []), (28, .iconst (-1), 29, []), (29, .if_icmp .eq 16, 32, [45]), (32, .aload_n 0, 33, []), (33, .iload_n 3, 34, []), (34, .invokevirtual 221, 37, []), (37, .aload_n 0, 38, []), (38, .iload_n 2, 39, []), (39, .invokevirtual 221, 42, []), (42, .if_icmp .ge 7, 45, [49]), (45, .iconst 1, 46, []), (46, .goto 4, 49, [50]), (49, .iconst 0, 50, []), (50, .istore 4, 52, []), (52, .iload 4, 54, []), (54, .ifCond .eq 14, 57, [68]), (57, .aload_n 0, 58, []), (58, .iload_n 3, 59, []), (59, .invokevirtual 209, 62, []), (62, .iload_n 1, 63, []), (63, .if_icmp .ne 5, 66, [68]), (66, .iload_n 3, 67, []), (67, .istore_n 2, 68, []), (68, .iinc 3 1, 71, []), (71, .goto (-62), 74, [9]), (74, .iload_n 2, 75, []), (75, .ireturn, 76, [])]
noncomputable def mX12_cheapest : MI := (iX12_cheapest, [], [], [(836, 2, 12, 0, 0, fX12_holds), (860, 1, 12, 0, 0, fX12_loosePairs), (872, 1, 12, 0, 0, fX12_gaps), (884, 2, 12, 0, 0, fX12_price)], [], (0, 0), 1, [(4, [1, 2, 3, 4]), (9, [4]), (21, [4]), (37, [4]), (42, [4]), (62, [4])])
noncomputable def fX12_cheapest : CF := mth mX12_cheapest 5
def iX12_needed : List (Nat × Instr × Nat × List Nat) := [(0, .iconst 0, 1, []), (1, .istore_n 1, 2, []), (2, .iconst 1, 3, []), (3, .istore_n 2, 4, []), (4, .iload_n 2, 5, []), (5, .aload_n 0, 6, []), (6, .getfield 110, 9, []), (9, .if_icmp .ge 55, 12, [64]), (12, .iload_n 1, 13, []), (13, .aload_n 0, 14, []), (14, .getfield 127, 17, []), (17, .iload_n 2, 18, []), (18, .invokestatic 117, 21, []), (21, .ifCond .eq 34, 24, [55]), (24, .aload_n 0, 25, []), (25, .aload_n 0, 26, []), (26, .getfield 127, 29, []), (29, .iconst 1, 30, []), (30, .iload_n 2, 31, []), (31, .ishl, 32, []), (32, .iconst (-1), 33, []), (33, .ixor, 34, []), (34, .iand, 35, []), (35, .invokevirtual 209, 38, []), (38, .aload_n 0, 39, []), (39, .aload_n 0, 40, []), (40, .getfield 127, 43, []), (43, .invokevirtual 209, 46, []), (46, .if_icmp .ge 9, 49, [55]), (49, .iconst 1, 50, []), (50, .iload_n 2, 51, []), (51, .ishl, 52, []), (52, .goto 4, 55, [56]), (55, .iconst 0, 56, []), (56, .ior, 57, []), (57, .istore_n 1, 58, []), (58, .iinc 2 1, 61, []), (61, .goto (-57), 64, [4]), (64, .iload_n 1, 65, []), (65, .ireturn, 66, [])]
noncomputable def mX12_needed : MI := (iX12_needed, [(110, 12, 1), (127, 12, 6)], [], [(470, 2, 12, 0, 0, fX12_has), (836, 2, 12, 0, 0, fX12_holds)], [], (0, 0), 1, [(21, [1]), (38, [1]), (46, [1])])
noncomputable def fX12_needed : CF := mth mX12_needed 3
def iX12_step : List (Nat × Instr × Nat × List Nat) := [(0, .aload_n 0, 1, []), (1, .iload_n 1, 2, []), (2, .invokevirtual 224, 5, []), (5, .ifCond .ne 6, 8, [11]), (8, .ldc 227, 10, []), (10, .ireturn, 11, []), (11, .iload_n 2, 12, []), (12, .tableswitch 124 0 6 #[44, 51, 58, 73, 92, 112, 118], 56, [136, 56, 63, 70, 85, 104, 124, 130]), (56, .aload_n 0, 57, []), (57, .getfield 7, 60, []), (60, .iload_n 1, 61, []), (61, .iaload, 62, []), (62, .ireturn, 63, []), (63, .aload_n 0, 64, []), (64, .getfield 13, 67, []), (67, .iload_n 1, 68, []), (68, .iaload, 69, []), (69, .ireturn, 70, []), (70, .aload_n 0, 71, []), (71, .getfield 16, 74, []), (74, .iload_n 1, 75, []), (75, .baload, 76, []), (76, .ifCond .eq 7, 79, [83]), (79, .iconst 1, 80, []), (80, .goto 4, 83, [84]), (83, .iconst 0, 84, []), (84, .ireturn, 85, []), (85, .aload_n 0, 86, []), (86, .iload_n 1, 87, []), (87, .invokevirtual 212, 90, []), (90, .ifCond .eq 12, 93, [102]), (93, .aload_n 0, 94, []), (94, .getfield 20, 97, []), (97, .iload_n 1, 98, []), (98, .iaload, 99, []), (99, .goto 4, 102, [103]), (102, .iconst (-1), 103, []), (103, .ireturn, 104, []), (104, .aload_n 0, 105, []), (105, .iload_n 1, 106, []), (106, .invokevirtual 212, 109, []), (109, .ifCond .eq 13, 112, [122]), (112, .aload_n 0, 113, []), (113, .iconst 1, 114, []), (114, .iload_n 1, 115, []), (115, .ishl, 116, []), (116, .invokevirtual 209, 119, []), (119, .goto 4, 122, [123]), (122, .iconst (-1), 123, []), (123, .ireturn, 124, []), (124, .aload_n 0, 125, []), (125, .iload_n 1, 126, []), (126, .invokevirtual 143, 129, []), (129, .ireturn, 130, []), (130, .aload_n 0, 131, []), (131, .iload_n 1, 132, []), (132, .invokevirtual 228, 135, []), (135, .ireturn, 136, []), (136, .ldc 169, 138, []), (138, .ireturn, 139, [])]
noncomputable def mX12_step : MI := (iX12_step, [(7, 12, 2), (13, 12, 3), (16, 12, 4), (20, 12, 5)], [(169, .int (-1000000002)), (227, .int (-1000000001))], [(572, 2, 12, 0, 0, fX12_waits), (836, 2, 12, 0, 0, fX12_holds), (848, 2, 12, 0, 0, fX12_isGap), (896, 2, 12, 0, 0, fX12_isStep), (912, 2, 12, 0, 0, fX12_conflicts)], [], (0, 0), 1, [(90, [2]), (109, [2]), (119, [0, 1, 2]), (129, [0, 1, 2]), (135, [0, 1, 2])])
noncomputable def fX12_step : CF := mth mX12_step 3
def iX12_pair : List (Nat × Instr × Nat × List Nat) := [(0, .aload_n 0, 1, []), (1, .iload_n 1, 2, []), (2, .invokevirtual 224, 5, []), (5, .ifCond .eq 16, 8, [21]), (8, .aload_n 0, 9, []), (9, .iload_n 2, 10, []), (10, .invokevirtual 224, 13, []), (13, .ifCond .eq 8, 16, [21]), (16, .iload_n 1, 17, []), (17, .iload_n 2, 18, []), (18, .if_icmp .ne 6, 21, [24]), (21, .ldc 227, 23, []), (23, .ireturn, 24, []), (24, .iload_n 3, 25, []), (25, .ifCond .lt 8, 28, [33]), (28, .iload_n 3, 29, []), (29, .iconst 3, 30, []), (30, .if_icmp .le 6, 33, [36]), (33, .ldc 169, 35, []), (35, .ireturn, 36, []), (36, .aload_n 0, 37, []), (37, .iload_n 1, 38, []), (38, .iload_n 2, 39, []), (39, .invokevirtual 121, 42, []), (42, .ifCond .ne 6, 45, [48]), (45, .ldc 231, 47, []), (47, .ireturn, 48, []), (48, .iload_n 3, 49, []), (49, .tableswitch 85 0 2 #[27, 42, 57], 76, [134, 76, 91, 106]), (76, .aload_n 0, 77, []), (77, .iload_n 1, 78, []), (78, .iload_n 2, 79, []), (79, .invokevirtual 203, 82, []), (82, .ifCond .eq 7, 85, [89]), (85, .iconst 1, 86, []), (86, .goto 4, 89, [90]), (89, .iconst 0, 90, []), (90, .ireturn, 91, []), (91, .aload_n 0, 92, []), (92, .iload_n 1, 93, []), (93, .iload_n 2, 94, []), (94, .invokevirtual 206, 97, []), (97, .ifCond .eq 7, 100, [104]), (100, .iconst 1, 101, []), (101, .goto 4, 104, [105]), (104, .iconst 0, 105, []), (105, .ireturn, 106, []), (106, .aload_n 0, 107, []), (107, .iload_n 1, 108, []), (108, .iload_n 2, 109, []), (109, .invokevirtual 203, 112, []), (112, .ifCond .eq 20, 115, [132]), (115, .aload_n 0, 116, []), (116, .getfield 127, 119, []), (119, .iload_n 1, 120, []), (120, .iload_n 2, 121, []), (121, .invokestatic 130, 124, []), (124, .iand, 125, []), (125, .ifCond .eq 7, 128, [132]), (128, .iconst 1, 129, []), (129, .goto 4, 132, [133]), (132, .iconst 0, 133, []), (133, .ireturn, 134, []), (134, .aload_n 0, 135, []), (135, .getfield 48, 138, []), (138, .bipush 8, 140, []), (140, .iload_n 1, 141, []), (141, .imul, 142, []), (142, .iload_n 2, 143, []), (143, .iadd, 144, []), (144, .iaload, 145, []), (145, .ireturn, 146, [])]
noncomputable def mX12_pair : MI := (iX12_pair, [(48, 12, 19), (127, 12, 6)], [(169, .int (-1000000002)), (227, .int (-1000000001)), (231, .int (-1000000003))], [(484, 3, 12, 0, 0, fX12_isAhead), (522, 2, 12, 0, 0, fX12_between), (812, 3, 12, 0, 0, fX12_isPair), (824, 3, 12, 0, 0, fX12_isLoose), (896, 2, 12, 0, 0, fX12_isStep)], [], (0, 0), 1, [(82, [0, 1, 2, 3]), (97, [0, 1, 2, 3]), (112, [3]), (124, [0, 1, 2, 3])])
noncomputable def fX12_pair : CF := mth mX12_pair 4
def iX12_feed : List (Nat × Instr × Nat × List Nat) := [(0, .iload_n 1, 1, []), (1, .ifCond .lt 10, 4, [11]), (4, .iload_n 1, 5, []), (5, .sipush 255, 8, []), (8, .if_icmp .le 6, 11, [14]), (11, .ldc 169, 13, []), (13, .ireturn, 14, []), (14, .aload_n 0, 15, []), (15, .getfield 232, 18, []), (18, .bipush 120, 20, []), (20, .if_icmp .ne 6, 23, [26]), (23, .ldc 235, 25, []), (25, .ireturn, 26, []), (26, .aload_n 0, 27, []), (27, .getfield 57, 30, []), (30, .aload_n 0, 31, []), (31, .getfield 232, 34, []), (34, .iload_n 1, 35, []), (35, .iastore, 36, []), (36, .aload_n 0, 37, []), (37, .dup, 38, []), (38, .getfield 232, 41, []), (41, .iconst 1, 42, []), (42, .iadd, 43, []), (43, .putfield 232, 46, []), (46, .aload_n 0, 47, []), (47, .getfield 232, 50, []), (50, .ireturn, 51, [])]
noncomputable def mX12_feed : MI := (iX12_feed, [(57, 12, 23), (232, 12, 24)], [(169, .int (-1000000002)), (235, .int (-1000000004))], [], [], (0, 0), 1, [])
noncomputable def fX12_feed : CF := mth mX12_feed 2
def iX12_sign : List (Nat × Instr × Nat × List Nat) := [(0, .aload_n 0, 1, []), (1, .getfield 236, 4, []), (4, .aload_n 0, 5, []), (5, .getfield 232, 8, []), (8, .if_icmp .ge 30, 11, [38]), (11, .aload_n 0, 12, []), (12, .getfield 57, 15, []), (15, .aload_n 0, 16, []), (16, .getfield 236, 19, []), (19, .iaload, 20, []), (20, .bipush 32, 22, []), (22, .if_icmp .ne 16, 25, [38]), (25, .aload_n 0, 26, []), (26, .dup, 27, []), (27, .getfield 236, 30, []), (30, .iconst 1, 31, []), (31, .iadd, 32, []), (32, .putfield 236, 35, []), (35, .goto (-35), 38, [0]), (38, .aload_n 0, 39, []), (39, .getfield 236, 42, []), (42, .aload_n 0, 43, []), (43, .getfield 232, 46, []), (46, .if_icmp .ge 15, 49, [61]), (49, .aload_n 0, 50, []), (50, .getfield 57, 53, []), (53, .aload_n 0, 54, []), (54, .getfield 236, 57, []), (57, .iaload, 58, []), (58, .goto 4, 61, [62]), (61, .iconst (-1), 62, []), (62, .ireturn, 63, [])]
noncomputable def mX12_sign : MI := (iX12_sign, [(57, 12, 23), (232, 12, 24), (236, 12, 26)], [], [], [], (0, 0), 1, [])
noncomputable def fX12_sign : CF := mth mX12_sign 1
def iX12_ends : List (Nat × Instr × Nat × List Nat) := [(0, .aload_n 0, 1, []), (1, .invokevirtual 239, 4, []), (4, .bipush 59, 6, []), (6, .if_icmp .eq 5, 9, [11]), (9, .iconst 1, 10, []), (10, .ireturn, 11, []), (11, .aload_n 0, 12, []), (12, .dup, 13, []), (13, .getfield 236, 16, []), (16, .iconst 1, 17, []), (17, .iadd, 18, []), (18, .putfield 236, 21, []), (21, .iconst 0, 22, []), (22, .ireturn, 23, [])]
noncomputable def mX12_ends : MI := (iX12_ends, [(236, 12, 26)], [], [(956, 1, 12, 0, 0, fX12_sign)], [], (0, 0), 1, [])
noncomputable def fX12_ends : CF := mth mX12_ends 1
def iX12_readsThread : List (Nat × Instr × Nat × List Nat) := [(0, .aload_n 0, 1, []), (1, .getfield 242, 4, []), (4, .iconst 3, 5, []), (5, .if_icmp .ne 5, 8, [10]), (8, .iconst 3, 9, []), (9, .ireturn, 10, []), (10, .aload_n 0, 11, []), (11, .dup, 12, []), (12, .getfield 242, 15, []), (15, .iconst 1, 16, []), (16, .iadd, 17, []), (17, .putfield 242, 20, []), (20, .aload_n 0, 21, []), (21, .dup, 22, []), (22, .getfield 236, 25, []), (25, .iconst 1, 26, []), (26, .iadd, 27, []), (27, .putfield 236, 30, []), (30, .aload_n 0, 31, []), (31, .invokevirtual 245, 34, []), (34, .ireturn, 35, [])]
noncomputable def mX12_readsThread : MI := (iX12_readsThread, [(236, 12, 26), (242, 12, 27)], [], [(980, 1, 12, 0, 0, fX12_ends)], [], (0, 0), 1, [(34, [0])])
noncomputable def fX12_readsThread : CF := mth mX12_readsThread 1
def iX12_readsStep : List (Nat × Instr × Nat × List Nat) := [(0, .aload_n 0, 1, []), (1, .getfield 242, 4, []), (4, .ifCond .ne 5, 7, [9]), (7, .iconst 1, 8, []), (8, .ireturn, 9, []), (9, .aload_n 0, 10, []), (10, .getfield 248, 13, []), (13, .bipush 8, 15, []), (15, .if_icmp .ne 5, 18, [20]), (18, .iconst 3, 19, []), (19, .ireturn, 20, []), (20, .aload_n 0, 21, []), (21, .dup, 22, []), (22, .getfield 236, 25, []), (25, .iconst 1, 26, []), (26, .iadd, 27, []), (27, .putfield 236, 30, []), (30, .aload_n 0, 31, []), (31, .invokevirtual 239, 34, []), (34, .istore_n 2, 35, []), (35, .iload_n 2, 36, []), (36, .bipush 48, 38, []), (38, .if_icmp .lt 9, 41, [47]), (41, .iload_n 2, 42, []), (42, .bipush 57, 44, []), (44, .if_icmp .le 5, 47, [49]), (47, .iconst 1, 48, []), (48, .ireturn, 49, []), (49, .iload_n 2, 50, []), (50, .bipush 50, 52, []), (52, .if_icmp .le 5, 55, [57]), (55, .iconst 2, 56, []), (56, .ireturn, 57, []), (57, .aload_n 0, 58, []), (58, .dup, 59, []), (59, .getfield 236, 62, []), (62, .iconst 1, 63, []), (63, .iadd, 64, []), (64, .putfield 236, 67, []), (67, .aload_n 0, 68, []), (68, .getfield 63, 71, []), (71, .aload_n 0, 72, []), (72, .getfield 248, 75, []), (75, .aload_n 0, 76, []), (76, .getfield 242, 79, []), (79, .iconst 1, 80, []), (80, .isub, 81, []), (81, .iastore, 82, []), (82, .aload_n 0, 83, []), (83, .getfield 66, 86, []), (86, .aload_n 0, 87, []), (87, .getfield 248, 90, []), (90, .iload_n 2, 91, []), (91, .bipush 48, 93, []), (93, .isub, 94, []), (94, .iastore, 95, []), (95, .aload_n 0, 96, []), (96, .getfield 69, 99, []), (99, .aload_n 0, 100, []), (100, .getfield 248, 103, []), (103, .iload_n 1, 104, []), (104, .bastore, 105, []), (105, .aload_n 0, 106, []), (106, .dup, 107, []), (107, .getfield 248, 110, []), (110, .iconst 1, 111, []), (111, .iadd, 112, []), (112, .putfield 248, 115, []), (115, .aload_n 0, 116, []), (116, .invokevirtual 245, 119, []), (119, .ireturn, 120, [])]
noncomputable def mX12_readsStep : MI := (iX12_readsStep, [(63, 12, 29), (66, 12, 30), (69, 12, 31), (236, 12, 26), (242, 12, 27), (248, 12, 28)], [], [(956, 1, 12, 0, 0, fX12_sign), (980, 1, 12, 0, 0, fX12_ends)], [], (0, 0), 1, [(34, [2]), (119, [0, 1, 2])])
noncomputable def fX12_readsStep : CF := mth mX12_readsStep 3
def iX12_reads : List (Nat × Instr × Nat × List Nat) := [(0, .aload_n 0, 1, []), (1, .iconst 0, 2, []), (2, .putfield 236, 5, []), (5, .aload_n 0, 6, []), (6, .iconst 0, 7, []), (7, .putfield 242, 10, []), (10, .aload_n 0, 11, []), (11, .iconst 0, 12, []), (12, .putfield 248, 15, []), (15, .iconst 0, 16, []), (16, .istore_n 1, 17, []), (17, .iload_n 1, 18, []), (18, .ifCond .ne 64, 21, [82]), (21, .aload_n 0, 22, []), (22, .invokevirtual 239, 25, []), (25, .iconst (-1), 26, []), (26, .if_icmp .eq 56, 29, [82]), (29, .aload_n 0, 30, []), (30, .invokevirtual 239, 33, []), (33, .istore_n 2, 34, []), (34, .iload_n 2, 35, []), (35, .bipush 116, 37, []), (37, .if_icmp .ne 10, 40, [47]), (40, .aload_n 0, 41, []), (41, .invokevirtual 251, 44, []), (44, .goto 34, 47, [78]), (47, .iload_n 2, 48, []), (48, .bipush 114, 50, []), (50, .if_icmp .eq 9, 53, [59]), (53, .iload_n 2, 54, []), (54, .bipush 119, 56, []), (56, .if_icmp .ne 21, 59, [77]), (59, .aload_n 0, 60, []), (60, .iload_n 2, 61, []), (61, .bipush 119, 63, []), (63, .if_icmp .ne 7, 66, [70]), (66, .iconst 1, 67, []), (67, .goto 4, 70, [71]), (70, .iconst 0, 71, []), (71, .invokevirtual 254, 74, []), (74, .goto 4, 77, [78]), (77, .iconst 1, 78, []), (78, .istore_n 1, 79, []), (79, .goto (-62), 82, [17]), (82, .iload_n 1, 83, []), (83, .ireturn, 84, [])]
noncomputable def mX12_reads : MI := (iX12_reads, [(236, 12, 26), (242, 12, 27), (248, 12, 28)], [], [(956, 1, 12, 0, 0, fX12_sign), (1004, 1, 12, 0, 0, fX12_readsThread), (1016, 2, 12, 0, 0, fX12_readsStep)], [], (0, 0), 1, [(17, [2]), (25, [2]), (33, [1, 2]), (44, [1, 2]), (74, [1, 2])])
noncomputable def fX12_reads : CF := mth mX12_reads 3
def iX12_threads : List (Nat × Instr × Nat × List Nat) := [(0, .aload_n 0, 1, []), (1, .invokevirtual 258, 4, []), (4, .istore_n 1, 5, []), (5, .aload_n 0, 6, []), (6, .iconst 0, 7, []), (7, .putfield 232, 10, []), (10, .iload_n 1, 11, []), (11, .ifCond .le 16, 14, [27]), (14, .aload_n 0, 15, []), (15, .aload_n 0, 16, []), (16, .getfield 236, 19, []), (19, .putfield 60, 22, []), (22, .bipush (-10), 24, []), (24, .iload_n 1, 25, []), (25, .isub, 26, []), (26, .ireturn, 27, []), (27, .aload_n 0, 28, []), (28, .iconst (-1), 29, []), (29, .putfield 60, 32, []), (32, .aload_n 0, 33, []), (33, .aload_n 0, 34, []), (34, .getfield 242, 37, []), (37, .putfield 261, 40, []), (40, .aload_n 0, 41, []), (41, .aload_n 0, 42, []), (42, .getfield 248, 45, []), (45, .putfield 110, 48, []), (48, .iconst 0, 49, []), (49, .istore_n 2, 50, []), (50, .iload_n 2, 51, []), (51, .aload_n 0, 52, []), (52, .getfield 110, 55, []), (55, .if_icmp .ge 45, 58, [100]), (58, .aload_n 0, 59, []), (59, .getfield 7, 62, []), (62, .iload_n 2, 63, []), (63, .aload_n 0, 64, []), (64, .getfield 63, 67, []), (67, .iload_n 2, 68, []), (68, .iaload, 69, []), (69, .iastore, 70, []), (70, .aload_n 0, 71, []), (71, .getfield 13, 74, []), (74, .iload_n 2, 75, []), (75, .aload_n 0, 76, []), (76, .getfield 66, 79, []), (79, .iload_n 2, 80, []), (80, .iaload, 81, []), (81, .iastore, 82, []), (82, .aload_n 0, 83, []), (83, .getfield 16, 86, []), (86, .iload_n 2, 87, []), (87, .aload_n 0, 88, []), (88, .getfield 69, 91, []), (91, .iload_n 2, 92, []), (92, .baload, 93, []), (93, .bastore, 94, []), (94, .iinc 2 1, 97, []), (97, .goto (-47), 100, [50]), (100, .iconst 0, 101, []), (101, .istore_n 2, 102, []), (102, .iload_n 2, 103, []), (103, .bipush 8, 105, []), (105, .if_icmp .ge 16, 108, [121]), (108, .aload_n 0, 109, []), (109, .getfield 20, 112, []), (112, .iload_n 2, 113, []), (113, .iconst 1, 114, []), (114, .iastore, 115, []), (115, .iinc 2 1, 118, []), (118, .goto (-16), 121, [102]), (121, .aload_n 0, 122, []), (122, .iconst 0, 123, []), (123, .putfield 127, 126, []), (126, .aload_n 0, 127, []), (127, .bipush 15, 129, []), (129, .putfield 23, 132, []), (132, .aload_n 0, 133, []), (133, .iconst 0, 134, []), (134, .putfield 154, 137, []), (137, .aload_n 0, 138, []), (138, .aload_n 0, 139, []), (139, .aload_n 0, 140, []), (140, .getfield 27, 143, []), (143, .iconst 1, 144, []), (144, .invokevirtual 103, 147, []), (147, .putfield 107, 150, []), (150, .aload_n 0, 151, []), (151, .invokevirtual 264, 154, []), (154, .aload_n 0, 155, []), (155, .iconst 0, 156, []), (156, .putfield 267, 159, []), (159, .aload_n 0, 160, []), (160, .iconst 0, 161, []), (161, .putfield 270, 164, []), (164, .aload_n 0, 165, []), (165, .getfield 87, 168, []), (168, .iconst 0, 169, []), (169, .iconst 0, 170, []), (170, .bastore, 171, []), (171, .aload_n 0, 172, []), (172, .getfield 87, 175, []), (175, .iconst 1, 176, []), (176, .iconst 0, 177, []), (177, .bastore, 178, []), (178, .aload_n 0, 179, []), (179, .getfield 110, 182, []), (182, .ireturn, 183, [])]
noncomputable def mX12_threads : MI := (iX12_threads, [(7, 12, 2), (13, 12, 3), (16, 12, 4), (20, 12, 5), (23, 12, 7), (27, 12, 8), (60, 12, 25), (63, 12, 29), (66, 12, 30), (69, 12, 31), (87, 12, 40), (107, 12, 10), (110, 12, 1), (127, 12, 6), (154, 12, 12), (232, 12, 24), (236, 12, 26), (242, 12, 27), (248, 12, 28), (261, 12, 0), (267, 12, 37), (270, 12, 32)], [], [(412, 3, 12, 0, 0, fX12_goes), (1032, 1, 12, 0, 0, fX12_reads), (1056, 1, 12, 0, 0, fX12_laysRings)], [], (0, 0), 1, [(4, [1, 2]), (50, [1]), (102, [1]), (147, [1, 2]), (154, [1, 2])])
noncomputable def fX12_threads : CF := mth mX12_threads 3
def iX12_fault : List (Nat × Instr × Nat × List Nat) := [(0, .aload_n 0, 1, []), (1, .getfield 60, 4, []), (4, .ireturn, 5, [])]
noncomputable def mX12_fault : MI := (iX12_fault, [(60, 12, 25)], [], [], [], (0, 0), 1, [])
noncomputable def fX12_fault : CF := mth mX12_fault 1
def iX12_marks : List (Nat × Instr × Nat × List Nat) := [(0, .aload_n 0, 1, []), (1, .getfield 270, 4, []), (4, .bipush 20, 6, []), (6, .if_icmp .ne 86, 9, [92]), (9, .iconst 1, 10, []), (10, .istore_n 1, 11, []), (11, .iload_n 1, 12, []), (12, .bipush 20, 14, []), (14, .if_icmp .ge 37, 17, [51]), (17, .aload_n 0, 18, []), (18, .getfield 72, 21, []), (21, .iload_n 1, 22, []), (22, .iconst 1, 23, []), (23, .isub, 24, []), (24, .aload_n 0, 25, []), (25, .getfield 72, 28, []), (28, .iload_n 1, 29, []), (29, .iaload, 30, []), (30, .iastore, 31, []), (31, .aload_n 0, 32, []), (32, .getfield 75, 35, []), (35, .iload_n 1, 36, []), (36, .iconst 1, 37, []), (37, .isub, 38, []), (38, .aload_n 0, 39, []), (39, .getfield 75, 42, []), (42, .iload_n 1, 43, []), (43, .iaload, 44, []), (44, .iastore, 45, []), (45, .iinc 1 1, 48, []), (48, .goto (-37), 51, [11]), (51, .bipush 8, 53, []), (53, .istore_n 1, 54, []), (54, .iload_n 1, 55, []), (55, .sipush 160, 58, []), (58, .if_icmp .ge 24, 61, [82]), (61, .aload_n 0, 62, []), (62, .getfield 78, 65, []), (65, .iload_n 1, 66, []), (66, .bipush 8, 68, []), (68, .isub, 69, []), (69, .aload_n 0, 70, []), (70, .getfield 78, 73, []), (73, .iload_n 1, 74, []), (74, .iaload, 75, []), (75, .iastore, 76, []), (76, .iinc 1 1, 79, []), (79, .goto (-25), 82, [54]), (82, .aload_n 0, 83, []), (83, .dup, 84, []), (84, .getfield 270, 87, []), (87, .iconst 1, 88, []), (88, .isub, 89, []), (89, .putfield 270, 92, []), (92, .aload_n 0, 93, []), (93, .getfield 72, 96, []), (96, .aload_n 0, 97, []), (97, .getfield 270, 100, []), (100, .aload_n 0, 101, []), (101, .getfield 127, 104, []), (104, .iastore, 105, []), (105, .aload_n 0, 106, []), (106, .getfield 75, 109, []), (109, .aload_n 0, 110, []), (110, .getfield 270, 113, []), (113, .aload_n 0, 114, []), (114, .getfield 23, 117, []), (117, .iastore, 118, []), (118, .iconst 0, 119, []), (119, .istore_n 1, 120, []), (120, .iload_n 1, 121, []), (121, .bipush 8, 123, []), (123, .if_icmp .ge 29, 126, [152]), (126, .aload_n 0, 127, []), (127, .getfield 78, 130, []), (130, .bipush 8, 132, []), (132, .aload_n 0, 133, []), (133, .getfield 270, 136, []), (136, .imul, 137, []), (137, .iload_n 1, 138, []), (138, .iadd, 139, []), (139, .aload_n 0, 140, []), (140, .getfield 20, 143, []), (143, .iload_n 1, 144, []), (144, .iaload, 145, []), (145, .iastore, 146, []), (146, .iinc 1 1, 149, []), (149, .goto (-29), 152, [120]), (152, .aload_n 0, 153, []), (153, .dup, 154, []), (154, .getfield 270, 157, []), (157, .iconst 1, 158, []), (158, .iadd, 159, []), (159, .putfield 270, 162, []), (162, .aload_n 0, 163, []), (163, .iconst 0, 164, []), (164, .putfield 154, 167, []), (167, .return_, 168, [])]
noncomputable def mX12_marks : MI := (iX12_marks, [(20, 12, 5), (23, 12, 7), (72, 12, 33), (75, 12, 34), (78, 12, 35), (127, 12, 6), (154, 12, 12), (270, 12, 32)], [], [], [], (0, 0), 0, [])
noncomputable def fX12_marks : CF := mth mX12_marks 2
def iX12_fence : List (Nat × Instr × Nat × List Nat) := [(0, .aload_n 0, 1, []), (1, .iload_n 1, 2, []), (2, .invokevirtual 212, 5, []), (5, .ifCond .ne 6, 8, [11]), (8, .ldc 227, 10, []), (10, .ireturn, 11, []), (11, .aload_n 0, 12, []), (12, .invokevirtual 273, 15, []), (15, .aload_n 0, 16, []), (16, .iload_n 2, 17, []), (17, .ifCond .eq 14, 20, [31]), (20, .aload_n 0, 21, []), (21, .getfield 127, 24, []), (24, .iconst 1, 25, []), (25, .iload_n 1, 26, []), (26, .ishl, 27, []), (27, .ior, 28, []), (28, .goto 13, 31, [41]), (31, .aload_n 0, 32, []), (32, .getfield 127, 35, []), (35, .iconst 1, 36, []), (36, .iload_n 1, 37, []), (37, .ishl, 38, []), (38, .iconst (-1), 39, []), (39, .ixor, 40, []), (40, .iand, 41, []), (41, .putfield 127, 44, []), (44, .aload_n 0, 45, []), (45, .aload_n 0, 46, []), (46, .getfield 127, 49, []), (49, .invokevirtual 221, 52, []), (52, .ireturn, 53, [])]
noncomputable def mX12_fence : MI := (iX12_fence, [(127, 12, 6)], [(227, .int (-1000000001))], [(848, 2, 12, 0, 0, fX12_isGap), (884, 2, 12, 0, 0, fX12_price), (1092, 1, 12, 0, 0, fX12_marks)], [], (0, 0), 1, [(52, [0, 1, 2])])
noncomputable def fX12_fence : CF := mth mX12_fence 3
def iX12_cost : List (Nat × Instr × Nat × List Nat) := [(0, .aload_n 0, 1, []), (1, .iload_n 1, 2, []), (2, .invokevirtual 212, 5, []), (5, .ifCond .ne 6, 8, [11]), (8, .ldc 227, 10, []), (10, .ireturn, 11, []), (11, .iload_n 2, 12, []), (12, .iconst 1, 13, []), (13, .if_icmp .lt 9, 16, [22]), (16, .iload_n 2, 17, []), (17, .bipush 9, 19, []), (19, .if_icmp .le 6, 22, [25]), (22, .ldc 169, 24, []), (24, .ireturn, 25, []), (25, .aload_n 0, 26, []), (26, .invokevirtual 273, 29, []), (29, .aload_n 0, 30, []), (30, .getfield 20, 33, []), (33, .iload_n 1, 34, []), (34, .iaload, 35, []), (35, .istore_n 3, 36, []), (36, .aload_n 0, 37, []), (37, .getfield 20, 40, []), (40, .iload_n 1, 41, []), (41, .iload_n 2, 42, []), (42, .iastore, 43, []), (43, .iload_n 3, 44, []), (44, .ireturn, 45, [])]
noncomputable def mX12_cost : MI := (iX12_cost, [(20, 12, 5)], [(169, .int (-1000000002)), (227, .int (-1000000001))], [(848, 2, 12, 0, 0, fX12_isGap), (1092, 1, 12, 0, 0, fX12_marks)], [], (0, 0), 1, [(5, [3]), (29, [3])])
noncomputable def fX12_cost : CF := mth mX12_cost 4
def iX12_overtaking : List (Nat × Instr × Nat × List Nat) := [(0, .iload_n 1, 1, []), (1, .ifCond .lt 9, 4, [10]), (4, .iload_n 1, 5, []), (5, .bipush 15, 7, []), (7, .if_icmp .le 6, 10, [13]), (10, .ldc 169, 12, []), (12, .ireturn, 13, []), (13, .aload_n 0, 14, []), (14, .invokevirtual 273, 17, []), (17, .aload_n 0, 18, []), (18, .iload_n 1, 19, []), (19, .putfield 23, 22, []), (22, .aload_n 0, 23, []), (23, .invokevirtual 161, 26, []), (26, .ireturn, 27, [])]
noncomputable def mX12_overtaking : MI := (iX12_overtaking, [(23, 12, 7)], [(169, .int (-1000000002))], [(644, 1, 12, 0, 0, fX12_readings), (1092, 1, 12, 0, 0, fX12_marks)], [], (0, 0), 1, [(26, [0, 1])])
noncomputable def fX12_overtaking : CF := mth mX12_overtaking 2
def iX12_best : List (Nat × Instr × Nat × List Nat) := [(0, .aload_n 0, 1, []), (1, .invokevirtual 273, 4, []), (4, .aload_n 0, 5, []), (5, .aload_n 0, 6, []), (6, .invokevirtual 276, 9, []), (9, .putfield 127, 12, []), (12, .aload_n 0, 13, []), (13, .aload_n 0, 14, []), (14, .getfield 127, 17, []), (17, .invokevirtual 221, 20, []), (20, .ireturn, 21, [])]
noncomputable def mX12_best : MI := (iX12_best, [(127, 12, 6)], [], [(884, 2, 12, 0, 0, fX12_price), (1092, 1, 12, 0, 0, fX12_marks), (1104, 1, 12, 0, 0, fX12_cheapest)], [], (0, 0), 1, [(20, [0])])
noncomputable def fX12_best : CF := mth mX12_best 1
def iX12_draw : List (Nat × Instr × Nat × List Nat) := [(0, .aload_n 0, 1, []), (1, .aload_n 0, 2, []), (2, .getfield 279, 5, []), (5, .ldc2_w 283, 8, []), (8, .lmul, 9, []), (9, .ldc2_w 285, 12, []), (12, .ladd, 13, []), (13, .ldc2_w 287, 16, []), (16, .lrem, 17, []), (17, .putfield 279, 20, []), (20, .aload_n 0, 21, []), (21, .getfield 279, 24, []), (24, .ldc2_w 289, 27, []), (27, .ldiv, 28, []), (28, .iload_n 1, 29, []), (29, .i2l, 30, []), (30, .lrem, 31, []), (31, .l2i, 32, []), (32, .ireturn, 33, [])]
noncomputable def mX12_draw : MI := (iX12_draw, [(279, 12, 36)], [(283, .long (1103515245)), (285, .long (12345)), (287, .long (2147483648)), (289, .long (65536))], [], [], (0, 0), 1, [])
noncomputable def fX12_draw : CF := mth mX12_draw 2
def iX12_drawn : List (Nat × Instr × Nat × List Nat) := [(0, .aload_n 0, 1, []), (1, .iconst 4, 2, []), (2, .invokevirtual 291, 5, []), (5, .istore_n 1, 6, []), (6, .aload_n 0, 7, []), (7, .aload_n 0, 8, []), (8, .getfield 110, 11, []), (11, .invokevirtual 291, 14, []), (14, .istore_n 2, 15, []), (15, .aload_n 0, 16, []), (16, .bipush 9, 18, []), (18, .invokevirtual 291, 21, []), (21, .istore_n 3, 22, []), (22, .aload_n 0, 23, []), (23, .bipush 16, 25, []), (25, .invokevirtual 291, 28, []), (28, .istore 4, 30, []), (30, .aload_n 0, 31, []), (31, .invokevirtual 273, 34, []), (34, .iload_n 1, 35, []), (35, .iconst 3, 36, []), (36, .if_icmp .ne 12, 39, [48]), (39, .aload_n 0, 40, []), (40, .iload 4, 42, []), (42, .putfield 23, 45, []), (45, .goto 48, 48, [93]), (48, .aload_n 0, 49, []), (49, .iload_n 2, 50, []), (50, .invokevirtual 212, 53, []), (53, .ifCond .eq 20, 56, [73]), (56, .iload_n 1, 57, []), (57, .iconst 2, 58, []), (58, .if_icmp .ne 15, 61, [73]), (61, .aload_n 0, 62, []), (62, .getfield 20, 65, []), (65, .iload_n 2, 66, []), (66, .iload_n 3, 67, []), (67, .iconst 1, 68, []), (68, .iadd, 69, []), (69, .iastore, 70, []), (70, .goto 23, 73, [93]), (73, .aload_n 0, 74, []), (74, .iload_n 2, 75, []), (75, .invokevirtual 212, 78, []), (78, .ifCond .eq 15, 81, [93]), (81, .aload_n 0, 82, []), (82, .dup, 83, []), (83, .getfield 127, 86, []), (86, .iconst 1, 87, []), (87, .iload_n 2, 88, []), (88, .ishl, 89, []), (89, .ixor, 90, []), (90, .putfield 127, 93, []), (93, .return_, 94, [])]
noncomputable def mX12_drawn : MI := (iX12_drawn, [(20, 12, 5), (23, 12, 7), (110, 12, 1), (127, 12, 6)], [], [(848, 2, 12, 0, 0, fX12_isGap), (1092, 1, 12, 0, 0, fX12_marks), (1164, 2, 12, 0, 0, fX12_draw)], [], (0, 0), 0, [(5, [1, 2, 3, 4]), (14, [2, 3, 4]), (21, [3, 4]), (28, [4]), (53, [4]), (78, [1, 3, 4])])
noncomputable def fX12_drawn : CF := mth mX12_drawn 5
def iX12_drift : List (Nat × Instr × Nat × List Nat) := [(0, .iload_n 1, 1, []), (1, .iconst 1, 2, []), (2, .if_icmp .lt 9, 5, [11]), (5, .iload_n 1, 6, []), (6, .bipush 20, 8, []), (8, .if_icmp .le 6, 11, [14]), (11, .ldc 169, 13, []), (13, .ireturn, 14, []), (14, .iconst 0, 15, []), (15, .istore_n 2, 16, []), (16, .iload_n 2, 17, []), (17, .iload_n 1, 18, []), (18, .if_icmp .ge 20, 21, [38]), (21, .aload_n 0, 22, []), (22, .getfield 110, 25, []), (25, .ifCond .le 13, 28, [38]), (28, .aload_n 0, 29, []), (29, .invokevirtual 294, 32, []), (32, .iinc 2 1, 35, []), (35, .goto (-19), 38, [16]), (38, .aload_n 0, 39, []), (39, .getfield 127, 42, []), (42, .ireturn, 43, [])]
noncomputable def mX12_drift : MI := (iX12_drift, [(110, 12, 1), (127, 12, 6)], [(169, .int (-1000000002))], [(1176, 1, 12, 0, 0, fX12_drawn)], [], (0, 0), 1, [])
noncomputable def fX12_drift : CF := mth mX12_drift 3
def iX12_undo : List (Nat × Instr × Nat × List Nat) := [(0, .iload_n 1, 1, []), (1, .iconst 1, 2, []), (2, .if_icmp .lt 9, 5, [11]), (5, .iload_n 1, 6, []), (6, .bipush 20, 8, []), (8, .if_icmp .le 6, 11, [14]), (11, .ldc 169, 13, []), (13, .ireturn, 14, []), (14, .iload_n 1, 15, []), (15, .aload_n 0, 16, []), (16, .getfield 270, 19, []), (19, .if_icmp .le 6, 22, [25]), (22, .ldc 231, 24, []), (24, .ireturn, 25, []), (25, .aload_n 0, 26, []), (26, .dup, 27, []), (27, .getfield 270, 30, []), (30, .iload_n 1, 31, []), (31, .isub, 32, []), (32, .putfield 270, 35, []), (35, .aload_n 0, 36, []), (36, .aload_n 0, 37, []), (37, .getfield 72, 40, []), (40, .aload_n 0, 41, []), (41, .getfield 270, 44, []), (44, .iaload, 45, []), (45, .putfield 127, 48, []), (48, .aload_n 0, 49, []), (49, .aload_n 0, 50, []), (50, .getfield 75, 53, []), (53, .aload_n 0, 54, []), (54, .getfield 270, 57, []), (57, .iaload, 58, []), (58, .putfield 23, 61, []), (61, .iconst 0, 62, []), (62, .istore_n 2, 63, []), (63, .iload_n 2, 64, []), (64, .bipush 8, 66, []), (66, .if_icmp .ge 29, 69, [95]), (69, .aload_n 0, 70, []), (70, .getfield 20, 73, []), (73, .iload_n 2, 74, []), (74, .aload_n 0, 75, []), (75, .getfield 78, 78, []), (78, .bipush 8, 80, []), (80, .aload_n 0, 81, []), (81, .getfield 270, 84, []), (84, .imul, 85, []), (85, .iload_n 2, 86, []), (86, .iadd, 87, []), (87, .iaload, 88, []), (88, .iastore, 89, []), (89, .iinc 2 1, 92, []), (92, .goto (-29), 95, [63]), (95, .aload_n 0, 96, []), (96, .iconst 0, 97, []), (97, .putfield 154, 100, []), (100, .aload_n 0, 101, []), (101, .getfield 270, 104, []), (104, .ireturn, 105, [])]
noncomputable def mX12_undo : MI := (iX12_undo, [(20, 12, 5), (23, 12, 7), (72, 12, 33), (75, 12, 34), (78, 12, 35), (127, 12, 6), (154, 12, 12), (270, 12, 32)], [(169, .int (-1000000002)), (231, .int (-1000000003))], [], [], (0, 0), 1, [(63, [1])])
noncomputable def fX12_undo : CF := mth mX12_undo 3
def iX12_write : List (Nat × Instr × Nat × List Nat) := [(0, .iload_n 1, 1, []), (1, .ifCond .lt 10, 4, [11]), (4, .iload_n 1, 5, []), (5, .ldc_w 297, 8, []), (8, .if_icmp .le 6, 11, [14]), (11, .ldc 169, 13, []), (13, .ireturn, 14, []), (14, .aload_n 0, 15, []), (15, .getfield 267, 18, []), (18, .bipush 20, 20, []), (20, .if_icmp .ne 6, 23, [26]), (23, .ldc 235, 25, []), (25, .ireturn, 26, []), (26, .aload_n 0, 27, []), (27, .getfield 81, 30, []), (30, .aload_n 0, 31, []), (31, .getfield 267, 34, []), (34, .iload_n 1, 35, []), (35, .iastore, 36, []), (36, .aload_n 0, 37, []), (37, .getfield 84, 40, []), (40, .aload_n 0, 41, []), (41, .getfield 267, 44, []), (44, .iload_n 2, 45, []), (45, .bastore, 46, []), (46, .aload_n 0, 47, []), (47, .dup, 48, []), (48, .getfield 267, 51, []), (51, .iconst 1, 52, []), (52, .iadd, 53, []), (53, .putfield 267, 56, []), (56, .aload_n 0, 57, []), (57, .getfield 267, 60, []), (60, .ireturn, 61, [])]
noncomputable def mX12_write : MI := (iX12_write, [(81, 12, 38), (84, 12, 39), (267, 12, 37)], [(169, .int (-1000000002)), (235, .int (-1000000004)), (297, .int (43046720))], [], [], (0, 0), 1, [])
noncomputable def fX12_write : CF := mth mX12_write 3
def iX12_tear : List (Nat × Instr × Nat × List Nat) := [(0, .aload_n 0, 1, []), (1, .getfield 267, 4, []), (4, .istore_n 1, 5, []), (5, .aload_n 0, 6, []), (6, .iconst 0, 7, []), (7, .putfield 267, 10, []), (10, .iload_n 1, 11, []), (11, .ireturn, 12, [])]
noncomputable def mX12_tear : MI := (iX12_tear, [(267, 12, 37)], [], [], [], (0, 0), 1, [])
noncomputable def fX12_tear : CF := mth mX12_tear 2
def iX12_wrong : List (Nat × Instr × Nat × List Nat) := [(0, .iconst 0, 1, []), (1, .istore_n 1, 2, []), (2, .iload_n 1, 3, []), (3, .aload_n 0, 4, []), (4, .getfield 267, 7, []), (7, .if_icmp .ge 38, 10, [45]), (10, .aload_n 0, 11, []), (11, .aload_n 0, 12, []), (12, .getfield 81, 15, []), (15, .iload_n 1, 16, []), (16, .iaload, 17, []), (17, .invokevirtual 298, 20, []), (20, .ifCond .le 7, 23, [27]), (23, .iconst 1, 24, []), (24, .goto 4, 27, [28]), (27, .iconst 0, 28, []), (28, .aload_n 0, 29, []), (29, .getfield 84, 32, []), (32, .iload_n 1, 33, []), (33, .baload, 34, []), (34, .if_icmp .eq 5, 37, [39]), (37, .iload_n 1, 38, []), (38, .ireturn, 39, []), (39, .iinc 1 1, 42, []), (42, .goto (-40), 45, [2]), (45, .iconst (-1), 46, []), (46, .ireturn, 47, [])]
noncomputable def mX12_wrong : MI := (iX12_wrong, [(81, 12, 38), (84, 12, 39), (267, 12, 37)], [], [(1192, 2, 12, 0, 0, fX12_can)], [], (0, 0), 1, [])
noncomputable def fX12_wrong : CF := mth mX12_wrong 2
def iX12_seed : List (Nat × Instr × Nat × List Nat) := [(0, .iload_n 1, 1, []), (1, .ifCond .ge 6, 4, [7]), (4, .ldc 169, 6, []), (6, .ireturn, 7, []), (7, .aload_n 0, 8, []), (8, .getfield 279, 11, []), (11, .l2i, 12, []), (12, .istore_n 2, 13, []), (13, .aload_n 0, 14, []), (14, .iload_n 1, 15, []), (15, .i2l, 16, []), (16, .putfield 279, 19, []), (19, .iload_n 2, 20, []), (20, .ireturn, 21, [])]
noncomputable def mX12_seed : MI := (iX12_seed, [(279, 12, 36)], [(169, .int (-1000000002))], [], [], (0, 0), 1, [])
noncomputable def fX12_seed : CF := mth mX12_seed 3
def iX12_keep : List (Nat × Instr × Nat × List Nat) := [(0, .iload_n 1, 1, []), (1, .ifCond .lt 8, 4, [9]), (4, .iload_n 1, 5, []), (5, .iconst 1, 6, []), (6, .if_icmp .le 6, 9, [12]), (9, .ldc 227, 11, []), (11, .ireturn, 12, []), (12, .aload_n 0, 13, []), (13, .getfield 87, 16, []), (16, .iload_n 1, 17, []), (17, .iconst 1, 18, []), (18, .bastore, 19, []), (19, .aload_n 0, 20, []), (20, .getfield 90, 23, []), (23, .iload_n 1, 24, []), (24, .aload_n 0, 25, []), (25, .getfield 127, 28, []), (28, .iastore, 29, []), (29, .aload_n 0, 30, []), (30, .getfield 93, 33, []), (33, .iload_n 1, 34, []), (34, .aload_n 0, 35, []), (35, .getfield 23, 38, []), (38, .iastore, 39, []), (39, .aload_n 0, 40, []), (40, .getfield 99, 43, []), (43, .iload_n 1, 44, []), (44, .aload_n 0, 45, []), (45, .getfield 279, 48, []), (48, .lastore, 49, []), (49, .iconst 0, 50, []), (50, .istore_n 2, 51, []), (51, .iload_n 2, 52, []), (52, .bipush 8, 54, []), (54, .if_icmp .ge 26, 57, [80]), (57, .aload_n 0, 58, []), (58, .getfield 96, 61, []), (61, .bipush 8, 63, []), (63, .iload_n 1, 64, []), (64, .imul, 65, []), (65, .iload_n 2, 66, []), (66, .iadd, 67, []), (67, .aload_n 0, 68, []), (68, .getfield 20, 71, []), (71, .iload_n 2, 72, []), (72, .iaload, 73, []), (73, .iastore, 74, []), (74, .iinc 2 1, 77, []), (77, .goto (-26), 80, [51]), (80, .aload_n 0, 81, []), (81, .iconst 0, 82, []), (82, .putfield 270, 85, []), (85, .iconst 1, 86, []), (86, .ireturn, 87, [])]
noncomputable def mX12_keep : MI := (iX12_keep, [(20, 12, 5), (23, 12, 7), (87, 12, 40), (90, 12, 41), (93, 12, 42), (96, 12, 43), (99, 12, 44), (127, 12, 6), (270, 12, 32), (279, 12, 36)], [(227, .int (-1000000001))], [], [], (0, 0), 1, [])
noncomputable def fX12_keep : CF := mth mX12_keep 3
def iX12_goBack : List (Nat × Instr × Nat × List Nat) := [(0, .iload_n 1, 1, []), (1, .ifCond .lt 8, 4, [9]), (4, .iload_n 1, 5, []), (5, .iconst 1, 6, []), (6, .if_icmp .le 6, 9, [12]), (9, .ldc 227, 11, []), (11, .ireturn, 12, []), (12, .aload_n 0, 13, []), (13, .getfield 87, 16, []), (16, .iload_n 1, 17, []), (17, .baload, 18, []), (18, .ifCond .ne 6, 21, [24]), (21, .ldc 231, 23, []), (23, .ireturn, 24, []), (24, .aload_n 0, 25, []), (25, .aload_n 0, 26, []), (26, .getfield 90, 29, []), (29, .iload_n 1, 30, []), (30, .iaload, 31, []), (31, .putfield 127, 34, []), (34, .aload_n 0, 35, []), (35, .aload_n 0, 36, []), (36, .getfield 93, 39, []), (39, .iload_n 1, 40, []), (40, .iaload, 41, []), (41, .putfield 23, 44, []), (44, .aload_n 0, 45, []), (45, .aload_n 0, 46, []), (46, .getfield 99, 49, []), (49, .iload_n 1, 50, []), (50, .laload, 51, []), (51, .putfield 279, 54, []), (54, .iconst 0, 55, []), (55, .istore_n 2, 56, []), (56, .iload_n 2, 57, []), (57, .bipush 8, 59, []), (59, .if_icmp .ge 26, 62, [85]), (62, .aload_n 0, 63, []), (63, .getfield 20, 66, []), (66, .iload_n 2, 67, []), (67, .aload_n 0, 68, []), (68, .getfield 96, 71, []), (71, .bipush 8, 73, []), (73, .iload_n 1, 74, []), (74, .imul, 75, []), (75, .iload_n 2, 76, []), (76, .iadd, 77, []), (77, .iaload, 78, []), (78, .iastore, 79, []), (79, .iinc 2 1, 82, []), (82, .goto (-26), 85, [56]), (85, .aload_n 0, 86, []), (86, .iconst 0, 87, []), (87, .putfield 270, 90, []), (90, .aload_n 0, 91, []), (91, .iconst 0, 92, []), (92, .putfield 154, 95, []), (95, .iconst 1, 96, []), (96, .ireturn, 97, [])]
noncomputable def mX12_goBack : MI := (iX12_goBack, [(20, 12, 5), (23, 12, 7), (87, 12, 40), (90, 12, 41), (93, 12, 42), (96, 12, 43), (99, 12, 44), (127, 12, 6), (154, 12, 12), (270, 12, 32), (279, 12, 36)], [(227, .int (-1000000001)), (231, .int (-1000000003))], [], [], (0, 0), 1, [])
noncomputable def fX12_goBack : CF := mth mX12_goBack 3
def iX12_toldMore : List (Nat × Instr × Nat × List Nat) := [(0, .iload_n 1, 1, []), (1, .tableswitch 120 10 18 #[51, 56, 65, 86, 91, 100, 105, 110, 115], 52, [121, 52, 57, 66, 87, 92, 101, 106, 111, 116]), (52, .aload_n 0, 53, []), (53, .invokevirtual 215, 56, []), (56, .ireturn, 57, []), (57, .aload_n 0, 58, []), (58, .aload_n 0, 59, []), (59, .getfield 127, 62, []), (62, .invokevirtual 209, 65, []), (65, .ireturn, 66, []), (66, .aload_n 0, 67, []), (67, .aload_n 0, 68, []), (68, .getfield 127, 71, []), (71, .invokevirtual 209, 74, []), (74, .aload_n 0, 75, []), (75, .invokevirtual 215, 78, []), (78, .if_icmp .ne 7, 81, [85]), (81, .iconst 1, 82, []), (82, .goto 4, 85, [86]), (85, .iconst 0, 86, []), (86, .ireturn, 87, []), (87, .aload_n 0, 88, []), (88, .invokevirtual 276, 91, []), (91, .ireturn, 92, []), (92, .aload_n 0, 93, []), (93, .aload_n 0, 94, []), (94, .invokevirtual 276, 97, []), (97, .invokevirtual 221, 100, []), (100, .ireturn, 101, []), (101, .aload_n 0, 102, []), (102, .invokevirtual 301, 105, []), (105, .ireturn, 106, []), (106, .aload_n 0, 107, []), (107, .getfield 267, 110, []), (110, .ireturn, 111, []), (111, .aload_n 0, 112, []), (112, .invokevirtual 304, 115, []), (115, .ireturn, 116, []), (116, .aload_n 0, 117, []), (117, .getfield 270, 120, []), (120, .ireturn, 121, []), (121, .ldc 169, 123, []), (123, .ireturn, 124, [])]
noncomputable def mX12_toldMore : MI := (iX12_toldMore, [(127, 12, 6), (267, 12, 37), (270, 12, 32)], [(169, .int (-1000000002))], [(836, 2, 12, 0, 0, fX12_holds), (860, 1, 12, 0, 0, fX12_loosePairs), (884, 2, 12, 0, 0, fX12_price), (1104, 1, 12, 0, 0, fX12_cheapest), (1204, 1, 12, 0, 0, fX12_needed), (1216, 1, 12, 0, 0, fX12_wrong)], [], (0, 0), 1, [(56, [0, 1]), (65, [0, 1]), (74, [1]), (78, [0, 1]), (91, [0, 1]), (97, [0, 1]), (100, [0, 1]), (105, [0, 1]), (115, [0, 1])])
noncomputable def fX12_toldMore : CF := mth mX12_toldMore 2
def iX12_told : List (Nat × Instr × Nat × List Nat) := [(0, .iload_n 1, 1, []), (1, .tableswitch 114 0 9 #[55, 60, 65, 70, 75, 80, 89, 94, 99, 109], 56, [115, 56, 61, 66, 71, 76, 81, 90, 95, 100, 110]), (56, .aload_n 0, 57, []), (57, .getfield 261, 60, []), (60, .ireturn, 61, []), (61, .aload_n 0, 62, []), (62, .getfield 110, 65, []), (65, .ireturn, 66, []), (66, .aload_n 0, 67, []), (67, .getfield 232, 70, []), (70, .ireturn, 71, []), (71, .aload_n 0, 72, []), (72, .getfield 23, 75, []), (75, .ireturn, 76, []), (76, .aload_n 0, 77, []), (77, .getfield 127, 80, []), (80, .ireturn, 81, []), (81, .aload_n 0, 82, []), (82, .aload_n 0, 83, []), (83, .getfield 127, 86, []), (86, .invokevirtual 221, 89, []), (89, .ireturn, 90, []), (90, .aload_n 0, 91, []), (91, .invokevirtual 161, 94, []), (94, .ireturn, 95, []), (95, .aload_n 0, 96, []), (96, .getfield 107, 99, []), (99, .ireturn, 100, []), (100, .aload_n 0, 101, []), (101, .invokevirtual 161, 104, []), (104, .aload_n 0, 105, []), (105, .getfield 107, 108, []), (108, .isub, 109, []), (109, .ireturn, 110, []), (110, .aload_n 0, 111, []), (111, .getfield 183, 114, []), (114, .ireturn, 115, []), (115, .aload_n 0, 116, []), (116, .iload_n 1, 117, []), (117, .invokevirtual 307, 120, []), (120, .ireturn, 121, [])]
noncomputable def mX12_told : MI := (iX12_told, [(23, 12, 7), (107, 12, 10), (110, 12, 1), (127, 12, 6), (183, 12, 18), (232, 12, 24), (261, 12, 0)], [], [(644, 1, 12, 0, 0, fX12_readings), (884, 2, 12, 0, 0, fX12_price), (1228, 2, 12, 0, 0, fX12_toldMore)], [], (0, 0), 1, [(89, [0, 1]), (94, [0, 1]), (104, [1]), (120, [0, 1])])
noncomputable def fX12_told : CF := mth mX12_told 2
end
section
/-! THE REFERENCE'S WORLD and its methods as equations (by program) -/
def callK (o : Option MR) (k : Option Value → HP → Option MR) : Option MR := match o with
  | some (r, h') => k r h'
  | none => none
theorem callK_some (r : Option Value) (h : HP) (k : Option Value → HP → Option MR) : callK (some (r, h)) k = k r h := rfl
theorem mth_eq {M : MI} {n : Nat} {as : List Value} {h : HP} (hc : Nat.ble (catS as) n = true) : mth M n as h = run M (0, 0, 0, mLoc n as, [], h) := by unfold mth; rw [hc]; rfl
theorem callK_none (k : Option Value → HP → Option MR) : callK none k = none := rfl
def shML : List (Nat × Nat) := [(22, 0), (0, 8), (0, 8), (1, 8), (0, 8), (0, 1024), (0, 1024), (0, 8), (0, 9), (0, 9), (0, 9), (0, 27), (0, 64), (0, 36), (0, 36), (0, 120), (0, 8), (0, 8), (1, 8), (0, 20), (0, 20), (0, 160), (0, 20), (1, 20), (1, 2), (0, 2), (0, 2), (0, 16), (2, 2)]
def shM : Nat → Nat × Nat := fun p => (shML[p]?).getD (99, 0)
def RML : List Nat := [mNul, mNul, 1, 2, 3, 4, mNul, mNul, 5, 6, mNul, mNul, mNul, 7, 8, 9, 10, 11, mNul, 12, 13, 14, mNul, 15, mNul, mNul, mNul, mNul, mNul, 16, 17, 18, mNul, 19, 20, 21, mNul, mNul, 22, 23, 24, 25, 26, 27, 28]
def RM : Nat → Nat → Nat := fun p k => if p = 0 then (RML[k]?).getD mNul else mNul
def mH (I : Nat → Nat → Int32) (J : Nat → Nat → Int64) : HP := (29, shM, I, J, RM)
set_option maxRecDepth 100000 in
theorem eX12_has (I : Nat → Nat → Int32) (J : Nat → Nat → Int64) (x0 : Int32) (x1 : Int32) : fX12_has [.int x0, .int x1] (mH I J) = (if ((x0 >>> (x1 &&& 31)) &&& (nI 1)) = (nI 1) then some (some (.int (nI 1)), (mH I J)) else some (some (.int (nI 0)), (mH I J))) := (mth_eq (M := mX12_has) (n := 2) rfl).trans ((exK_eq mX12_has [] 16 _).symm.trans rfl)
set_option maxRecDepth 100000 in
theorem eX12_isAhead (I : Nat → Nat → Int32) (J : Nat → Nat → Int64) (x1 : Int32) (x2 : Int32) : fX12_isAhead [.ref 0, .int x1, .int x2] (mH I J) = (if x2 ≤ x1 then some (some (.int (nI 0)), (mH I J)) else (bif inb x1 8 then (bif inb x2 8 then (if (I 1 (x1).toNatClampNeg) = (I 1 (x2).toNatClampNeg) then some (some (.int (nI 1)), (mH I J)) else some (some (.int (nI 0)), (mH I J))) else none) else none)) := (mth_eq (M := mX12_isAhead) (n := 3) rfl).trans ((exK_eq mX12_isAhead [] 21 _).symm.trans rfl)
set_option maxRecDepth 100000 in
theorem eX12_ahead (I : Nat → Nat → Int32) (J : Nat → Nat → Int64) (x1 : Int32) : fX12_ahead [.ref 0, .int x1] (mH I J) = run mX12_ahead (4, 0, 0, [.ref 0, .int x1, .int (nI 0), .int (nI 0)], [], (mH I J)) := (mth_eq (M := mX12_ahead) (n := 4) rfl).trans ((exK_eq mX12_ahead [4] 29 _).symm.trans rfl)
set_option maxRecDepth 100000 in
theorem bX12_ahead_4 (I : Nat → Nat → Int32) (J : Nat → Nat → Int64) (x1 : Int32) (x2 : Int32) (x3 : Int32) : run mX12_ahead (4, 0, 0, [.ref 0, .int x1, .int x2, .int x3], [], (mH I J)) = (if x1 ≤ x3 then some (some (.int x2), (mH I J)) else (callK (fX12_isAhead [.ref 0, .int x3, .int x1] (mH I J)) (fun r h' => run mX12_ahead (16, 0, 0, [.ref 0, .int x1, .int x2, .int x3], r.toList ++ [.int x2], h')))) := (exK_eq mX12_ahead [4, 16] 29 _).symm.trans rfl
set_option maxRecDepth 100000 in
theorem bX12_ahead_16 (I : Nat → Nat → Int32) (J : Nat → Nat → Int64) (s0 : Int32) (s1 : Int32) (x1 : Int32) (x3 : Int32) (z2 : Value) : run mX12_ahead (16, 0, 0, [.ref 0, .int x1, z2, .int x3], [.int s1, .int s0], (mH I J)) = (if s1 = (nI 0) then run mX12_ahead (4, 0, 0, [.ref 0, .int x1, .int (s0 ||| (nI 0)), .int (x3 + (nI 1))], [], (mH I J)) else run mX12_ahead (4, 0, 0, [.ref 0, .int x1, .int (s0 ||| ((nI 1) <<< (x3 &&& 31))), .int (x3 + (nI 1))], [], (mH I J))) := (exK_eq mX12_ahead [4, 16] 29 _).symm.trans rfl
set_option maxRecDepth 100000 in
theorem eX12_kind (I : Nat → Nat → Int32) (J : Nat → Nat → Int64) (x1 : Int32) (x2 : Int32) : fX12_kind [.ref 0, .int x1, .int x2] (mH I J) = (bif inb x1 8 then (if (I 3 (x1).toNatClampNeg) = (nI 0) then (bif inb x2 8 then (if (I 3 (x2).toNatClampNeg) = (nI 0) then some (some (.int (nI 2)), (mH I J)) else some (some (.int (nI 3)), (mH I J))) else none) else (bif inb x2 8 then (if (I 3 (x2).toNatClampNeg) = (nI 0) then some (some (.int (nI 0)), (mH I J)) else some (some (.int (nI 1)), (mH I J))) else none)) else none) := (mth_eq (M := mX12_kind) (n := 3) rfl).trans ((exK_eq mX12_kind [] 28 _).symm.trans rfl)
set_option maxRecDepth 100000 in
theorem eX12_isBound (I : Nat → Nat → Int32) (J : Nat → Nat → Int64) (x1 : Int32) (x2 : Int32) : fX12_isBound [.ref 0, .int x1, .int x2] (mH I J) = (bif inb x1 8 then (bif inb x2 8 then (if (I 2 (x1).toNatClampNeg) = (I 2 (x2).toNatClampNeg) then some (some (.int (nI 1)), (mH I J)) else (callK (fX12_kind [.ref 0, .int x1, .int x2] (mH I J)) (fun r h' => run mX12_isBound (25, 0, 0, [.ref 0, .int x1, .int x2], r.toList ++ [.int (I 0 7)], h')))) else none) else none) := (mth_eq (M := mX12_isBound) (n := 3) rfl).trans ((exK_eq mX12_isBound [25] 26 _).symm.trans rfl)
set_option maxRecDepth 100000 in
theorem bX12_isBound_25 (I : Nat → Nat → Int32) (J : Nat → Nat → Int64) (s0 : Int32) (s1 : Int32) (z0 : Value) (z1 : Value) (z2 : Value) : run mX12_isBound (25, 0, 0, [z0, z1, z2], [.int s1, .int s0], (mH I J)) = (callK (fX12_has [.int s0, .int s1] (mH I J)) (fun r h' => run mX12_isBound (28, 0, 0, [.null, .null, .null], r.toList ++ [], h'))) := (exK_eq mX12_isBound [25, 28] 26 _).symm.trans rfl
set_option maxRecDepth 100000 in
theorem bX12_isBound_28 (I : Nat → Nat → Int32) (J : Nat → Nat → Int64) (s0 : Int32) (z0 : Value) (z1 : Value) (z2 : Value) : run mX12_isBound (28, 0, 0, [z0, z1, z2], [.int s0], (mH I J)) = (if s0 = (nI 0) then some (some (.int (nI 1)), (mH I J)) else some (some (.int (nI 0)), (mH I J))) := (exK_eq mX12_isBound [25, 28] 26 _).symm.trans rfl
set_option maxRecDepth 100000 in
theorem eX12_between (I : Nat → Nat → Int32) (J : Nat → Nat → Int64) (x0 : Int32) (x1 : Int32) : fX12_between [.int x0, .int x1] (mH I J) = some (some (.int (((nI 1) <<< ((x1 + (nI 1)) &&& 31)) - ((nI 1) <<< ((x0 + (nI 1)) &&& 31)))), (mH I J)) := (mth_eq (M := mX12_between) (n := 2) rfl).trans ((exK_eq mX12_between [] 17 _).symm.trans rfl)
set_option maxRecDepth 100000 in
theorem eX12_waits (I : Nat → Nat → Int32) (J : Nat → Nat → Int64) (x1 : Int32) : fX12_waits [.ref 0, .int x1] (mH I J) = run mX12_waits (4, 0, 0, [.ref 0, .int x1, .int (nI 0), .int (nI 0)], [], (mH I J)) := (mth_eq (M := mX12_waits) (n := 4) rfl).trans ((exK_eq mX12_waits [4] 39 _).symm.trans rfl)
set_option maxRecDepth 100000 in
theorem bX12_waits_4 (I : Nat → Nat → Int32) (J : Nat → Nat → Int64) (x1 : Int32) (x2 : Int32) (x3 : Int32) : run mX12_waits (4, 0, 0, [.ref 0, .int x1, .int x2, .int x3], [], (mH I J)) = (if x1 ≤ x3 then some (some (.int x2), (mH I J)) else (callK (fX12_isAhead [.ref 0, .int x3, .int x1] (mH I J)) (fun r h' => run mX12_waits (15, 0, 0, [.ref 0, .int x1, .int x2, .int x3], r.toList ++ [], h')))) := (exK_eq mX12_waits [4, 15] 39 _).symm.trans rfl
set_option maxRecDepth 100000 in
theorem bX12_waits_15 (I : Nat → Nat → Int32) (J : Nat → Nat → Int64) (s0 : Int32) (x1 : Int32) (x2 : Int32) (x3 : Int32) : run mX12_waits (15, 0, 0, [.ref 0, .int x1, .int x2, .int x3], [.int s0], (mH I J)) = (if s0 = (nI 0) then run mX12_waits (4, 0, 0, [.ref 0, .int x1, .int x2, .int (x3 + (nI 1))], [], (mH I J)) else (callK (fX12_isBound [.ref 0, .int x3, .int x1] (mH I J)) (fun r h' => run mX12_waits (24, 0, 0, [.ref 0, .int x1, .int x2, .int x3], r.toList ++ [], h')))) := (exK_eq mX12_waits [4, 15, 24] 39 _).symm.trans rfl
set_option maxRecDepth 100000 in
theorem bX12_waits_24 (I : Nat → Nat → Int32) (J : Nat → Nat → Int64) (s0 : Int32) (x1 : Int32) (x2 : Int32) (x3 : Int32) : run mX12_waits (24, 0, 0, [.ref 0, .int x1, .int x2, .int x3], [.int s0], (mH I J)) = (if s0 = (nI 0) then (callK (fX12_between [.int x3, .int x1] (mH I J)) (fun r h' => run mX12_waits (36, 0, 0, [.ref 0, .int x1, .int x2, .int x3], r.toList ++ [.int (I 0 6)], h'))) else run mX12_waits (4, 0, 0, [.ref 0, .int x1, .int (x2 ||| ((nI 1) <<< (x3 &&& 31))), .int (x3 + (nI 1))], [], (mH I J))) := (exK_eq mX12_waits [4, 15, 24, 36] 39 _).symm.trans rfl
set_option maxRecDepth 100000 in
theorem bX12_waits_36 (I : Nat → Nat → Int32) (J : Nat → Nat → Int64) (s0 : Int32) (s1 : Int32) (x1 : Int32) (x2 : Int32) (x3 : Int32) : run mX12_waits (36, 0, 0, [.ref 0, .int x1, .int x2, .int x3], [.int s1, .int s0], (mH I J)) = (if (s0 &&& s1) = (nI 0) then run mX12_waits (4, 0, 0, [.ref 0, .int x1, .int x2, .int (x3 + (nI 1))], [], (mH I J)) else run mX12_waits (4, 0, 0, [.ref 0, .int x1, .int (x2 ||| ((nI 1) <<< (x3 &&& 31))), .int (x3 + (nI 1))], [], (mH I J))) := (exK_eq mX12_waits [4, 15, 24, 36] 39 _).symm.trans rfl
set_option maxRecDepth 100000 in
theorem eX12_comes (I : Nat → Nat → Int32) (J : Nat → Nat → Int64) {P : Nat} (hP : P = 5 ∨ P = 6) (x1 : Int32) (x2 : Int32) : fX12_comes [.ref P, .int x1, .int x2] (mH I J) = run mX12_comes (5, 0, 0, [.ref P, .int x1, .int x2, .int (nI 0), .int x1, .null], [], (mH I J)) := by
  rcases hP with rfl | rfl
  all_goals exact (mth_eq (M := mX12_comes) (n := 6) rfl).trans ((exK_eq mX12_comes [5, 66] 67 _).symm.trans rfl)
set_option maxRecDepth 100000 in
theorem bX12_comes_5 (I : Nat → Nat → Int32) (J : Nat → Nat → Int64) {P : Nat} (hP : P = 5 ∨ P = 6) (x1 : Int32) (x2 : Int32) (x3 : Int32) (x4 : Int32) (z5 : Value) : run mX12_comes (5, 0, 0, [.ref P, .int x1, .int x2, .int x3, .int x4, z5], [], (mH I J)) = (if x4 ≤ x3 then (if x1 ≤ x3 then (if x1 = (nI 1024) then some (some (.int x1), (mH I J)) else run mX12_comes (66, 0, 0, [.ref P, .int x1, .int x2, .int x3, .int x4, .int x1], [], (mH I J))) else (bif inb x3 1024 then (if (I P (x3).toNatClampNeg) = x2 then some (some (.int x1), (mH I J)) else (if x1 = (nI 1024) then some (some (.int x1), (mH I J)) else run mX12_comes (66, 0, 0, [.ref P, .int x1, .int x2, .int x3, .int x4, .int x1], [], (mH I J)))) else none)) else (bif inb ((x3 + x4) / (nI 2)) 1024 then (if x2 ≤ (I P (((x3 + x4) / (nI 2))).toNatClampNeg) then run mX12_comes (5, 0, 0, [.ref P, .int x1, .int x2, .int x3, .int ((x3 + x4) / (nI 2)), .int ((x3 + x4) / (nI 2))], [], (mH I J)) else run mX12_comes (5, 0, 0, [.ref P, .int x1, .int x2, .int (((x3 + x4) / (nI 2)) + (nI 1)), .int x4, .int ((x3 + x4) / (nI 2))], [], (mH I J))) else none)) := by
  rcases hP with rfl | rfl
  all_goals exact (exK_eq mX12_comes [5, 66] 67 _).symm.trans rfl
set_option maxRecDepth 100000 in
theorem bX12_comes_66 (I : Nat → Nat → Int32) (J : Nat → Nat → Int64) {P : Nat} (hP : P = 5 ∨ P = 6) (x1 : Int32) (x2 : Int32) (x3 : Int32) (x5 : Int32) (z4 : Value) : run mX12_comes (66, 0, 0, [.ref P, .int x1, .int x2, .int x3, z4, .int x5], [], (mH I J)) = (if x5 ≤ x3 then (bif inb x3 1024 then some (some (.int (x1 + (nI 1))), (mH (up2 I P (x3).toNatClampNeg x2) J)) else none) else (bif inb (x5 - (nI 1)) 1024 then (bif inb x5 1024 then run mX12_comes (66, 0, 0, [.ref P, .int x1, .int x2, .int x3, .null, .int (x5 + Int32.ofInt (-1))], [], (mH (up2 I P (x5).toNatClampNeg (I P ((x5 - (nI 1))).toNatClampNeg)) J)) else none) else none)) := by
  rcases hP with rfl | rfl
  all_goals exact (exK_eq mX12_comes [5, 66] 67 _).symm.trans rfl
set_option maxRecDepth 100000 in
theorem eX12_weight (I : Nat → Nat → Int32) (J : Nat → Nat → Int64) (x1 : Int32) : fX12_weight [.ref 0, .int x1] (mH I J) = run mX12_weight (6, 0, 0, [.ref 0, .int x1, .int (nI 1), .int (x1 + (nI 1))], [], (mH I J)) := (mth_eq (M := mX12_weight) (n := 4) rfl).trans ((exK_eq mX12_weight [6] 30 _).symm.trans rfl)
set_option maxRecDepth 100000 in
theorem bX12_weight_6 (I : Nat → Nat → Int32) (J : Nat → Nat → Int64) (x2 : Int32) (x3 : Int32) (z1 : Value) : run mX12_weight (6, 0, 0, [.ref 0, z1, .int x2, .int x3], [], (mH I J)) = (if (I 0 1) ≤ x3 then some (some (.int x2), (mH I J)) else (bif inb x3 8 then (if (I 3 (x3).toNatClampNeg) = (nI 0) then run mX12_weight (6, 0, 0, [.ref 0, .null, .int (x2 * (nI 9)), .int (x3 + (nI 1))], [], (mH I J)) else run mX12_weight (6, 0, 0, [.ref 0, .null, .int (x2 * (nI 1)), .int (x3 + (nI 1))], [], (mH I J))) else none)) := (exK_eq mX12_weight [6] 30 _).symm.trans rfl
set_option maxRecDepth 100000 in
theorem eX12_does (I : Nat → Nat → Int32) (J : Nat → Nat → Int64) (x1 : Int32) (x2 : Int32) : fX12_does [.ref 0, .int x1, .int x2] (mH I J) = (bif inb x1 9 then run mX12_does (9, 0, 0, [.ref 0, .int x1, .int x2, .int (nI 0)], [], (mH (up2 I 9 (x1).toNatClampNeg x2) J)) else none) := (mth_eq (M := mX12_does) (n := 4) rfl).trans ((exK_eq mX12_does [9] 92 _).symm.trans rfl)
set_option maxRecDepth 100000 in
theorem bX12_does_9 (I : Nat → Nat → Int32) (J : Nat → Nat → Int64) (x1 : Int32) (x2 : Int32) (x3 : Int32) : run mX12_does (9, 0, 0, [.ref 0, .int x1, .int x2, .int x3], [], (mH I J)) = (if (nI 3) ≤ x3 then (bif inb x1 9 then (bif inb (x1 + (nI 1)) 9 then (bif inb x2 8 then (if (I 3 (x2).toNatClampNeg) = (nI 0) then (bif inb (x1 + (nI 1)) 9 then (bif inb x2 8 then (bif inb (((nI 3) * x1) + (I 2 (x2).toNatClampNeg)) 27 then (callK (fX12_weight [.ref 0, .int x2] (mH (up2 I 10 ((x1 + (nI 1))).toNatClampNeg (I 10 (x1).toNatClampNeg)) J)) (fun r h' => run mX12_does (117, 0, 0, [.ref 0, .int x1, .int x2, .int x3], r.toList ++ [.int (I 11 ((((nI 3) * x1) + (I 2 (x2).toNatClampNeg))).toNatClampNeg), .int ((up2 I 10 ((x1 + (nI 1))).toNatClampNeg (I 10 (x1).toNatClampNeg)) 10 ((x1 + (nI 1))).toNatClampNeg), .int (x1 + (nI 1)), .ref 10], h'))) else none) else none) else none) else (bif inb x2 8 then (bif inb ((((nI 3) * x1) + (nI 3)) + (I 2 (x2).toNatClampNeg)) 27 then some (none, (mH (up2 (up2 I 10 ((x1 + (nI 1))).toNatClampNeg (I 10 (x1).toNatClampNeg)) 11 (((((nI 3) * x1) + (nI 3)) + (I 2 (x2).toNatClampNeg))).toNatClampNeg (x2 + (nI 1))) J)) else none) else none)) else none) else none) else none) else (bif inb (((nI 3) * x1) + x3) 27 then (bif inb ((((nI 3) * x1) + (nI 3)) + x3) 27 then run mX12_does (9, 0, 0, [.ref 0, .int x1, .int x2, .int (x3 + (nI 1))], [], (mH (up2 I 11 (((((nI 3) * x1) + (nI 3)) + x3)).toNatClampNeg (I 11 ((((nI 3) * x1) + x3)).toNatClampNeg)) J)) else none) else none)) := (exK_eq mX12_does [9, 117] 92 _).symm.trans rfl
set_option maxRecDepth 100000 in
theorem bX12_does_117 (I : Nat → Nat → Int32) (J : Nat → Nat → Int64) (s1 : Int32) (s2 : Int32) (s3 : Int32) (s4 : Int32) (z0 : Value) (z1 : Value) (z2 : Value) (z3 : Value) : run mX12_does (117, 0, 0, [z0, z1, z2, z3], [.int s4, .int s3, .int s2, .int s1, .ref 10], (mH I J)) = (bif inb s1 9 then some (none, (mH (up2 I 10 (s1).toNatClampNeg (s2 + (s3 * s4))) J)) else none) := (exK_eq mX12_does [9, 117] 92 _).symm.trans rfl
set_option maxRecDepth 100000 in
theorem eX12_goes (I : Nat → Nat → Int32) (J : Nat → Nat → Int64) {P : Nat} (hP : P = 5 ∨ P = 6) (x2 : Int32) : fX12_goes [.ref 0, .ref P, .int x2] (mH I J) = run mX12_goes (2, 0, 0, [.ref 0, .ref P, .int x2, .int (nI 0), .null, .null, .null], [], (mH I J)) := by
  rcases hP with rfl | rfl
  all_goals exact (mth_eq (M := mX12_goes) (n := 7) rfl).trans ((exK_eq mX12_goes [2, 54, 81, 104, 118, 129, 140, 146] 124 _).symm.trans rfl)
set_option maxRecDepth 100000 in
theorem bX12_goes_2 (I : Nat → Nat → Int32) (J : Nat → Nat → Int64) {P : Nat} (hP : P = 5 ∨ P = 6) (x2 : Int32) (x3 : Int32) (z4 : Value) (z5 : Value) (z6 : Value) : run mX12_goes (2, 0, 0, [.ref 0, .ref P, .int x2, .int x3, z4, z5, z6], [], (mH I J)) = (if (I 0 1) ≤ x3 then run mX12_goes (54, 0, 0, [.ref 0, .ref P, .int x2, .int (nI 0), .int (nI 0), .int (nI 0), .null], [], (mH (up2 I 8 0 (nI 0)) J)) else (if x2 = (nI 0) then (callK (fX12_waits [.ref 0, .int x3] (mH I J)) (fun r h' => run mX12_goes (32, 0, 0, [.ref 0, .ref P, .int x2, .int x3, .null, .null, .null], r.toList ++ [.int x3, .ref 7], h'))) else (callK (fX12_ahead [.ref 0, .int x3] (mH I J)) (fun r h' => run mX12_goes (24, 0, 0, [.ref 0, .ref P, .int x2, .int x3, .null, .null, .null], r.toList ++ [.int x3, .ref 7], h'))))) := by
  rcases hP with rfl | rfl
  all_goals exact (exK_eq mX12_goes [2, 24, 32, 54, 81, 104, 118, 129, 140, 146] 124 _).symm.trans rfl
set_option maxRecDepth 100000 in
theorem bX12_goes_54 (I : Nat → Nat → Int32) (J : Nat → Nat → Int64) {P : Nat} (hP : P = 5 ∨ P = 6) (x3 : Int32) (x4 : Int32) (x5 : Int32) (z2 : Value) (z6 : Value) : run mX12_goes (54, 0, 0, [.ref 0, .ref P, z2, .int x3, .int x4, .int x5, z6], [], (mH I J)) = (if x5 < (nI 0) then some (some (.int x3), (mH I J)) else (if x5 = (I 0 1) then (bif inb x5 9 then (callK (fX12_comes [.ref P, .int x3, .int (I 10 (x5).toNatClampNeg)] (mH I J)) (fun r h' => run mX12_goes (80, 0, 0, [.ref 0, .ref P, .null, .int x3, .int x4, .int x5, .null], r.toList ++ [], h'))) else none) else run mX12_goes (81, 0, 0, [.ref 0, .ref P, .null, .int x3, .int x4, .int x5, .null], [], (mH I J)))) := by
  rcases hP with rfl | rfl
  all_goals exact (exK_eq mX12_goes [2, 24, 32, 54, 80, 81, 104, 118, 129, 140, 146] 124 _).symm.trans rfl
set_option maxRecDepth 100000 in
theorem bX12_goes_32 (I : Nat → Nat → Int32) (J : Nat → Nat → Int64) {P : Nat} (hP : P = 5 ∨ P = 6) (s1 : Int32) (s2 : Int32) (x2 : Int32) (x3 : Int32) (z4 : Value) (z5 : Value) (z6 : Value) : run mX12_goes (32, 0, 0, [.ref 0, .ref P, .int x2, .int x3, z4, z5, z6], [.int s2, .int s1, .ref 7], (mH I J)) = (bif inb s1 8 then run mX12_goes (2, 0, 0, [.ref 0, .ref P, .int x2, .int (x3 + (nI 1)), .null, .null, .null], [], (mH (up2 I 7 (s1).toNatClampNeg s2) J)) else none) := by
  rcases hP with rfl | rfl
  all_goals exact (exK_eq mX12_goes [2, 24, 32, 54, 80, 81, 104, 118, 129, 140, 146] 124 _).symm.trans rfl
set_option maxRecDepth 100000 in
theorem bX12_goes_24 (I : Nat → Nat → Int32) (J : Nat → Nat → Int64) {P : Nat} (hP : P = 5 ∨ P = 6) (s1 : Int32) (s2 : Int32) (x2 : Int32) (x3 : Int32) (z4 : Value) (z5 : Value) (z6 : Value) : run mX12_goes (24, 0, 0, [.ref 0, .ref P, .int x2, .int x3, z4, z5, z6], [.int s2, .int s1, .ref 7], (mH I J)) = run mX12_goes (32, 0, 0, [.ref 0, .ref P, .int x2, .int x3, .null, .null, .null], [.int s2, .int s1, .ref 7], (mH I J)) := by
  rcases hP with rfl | rfl
  all_goals exact (exK_eq mX12_goes [2, 24, 32, 54, 80, 81, 104, 118, 129, 140, 146] 124 _).symm.trans rfl
set_option maxRecDepth 100000 in
theorem bX12_goes_80 (I : Nat → Nat → Int32) (J : Nat → Nat → Int64) {P : Nat} (hP : P = 5 ∨ P = 6) (s0 : Int32) (x4 : Int32) (x5 : Int32) (z2 : Value) (z3 : Value) (z6 : Value) : run mX12_goes (80, 0, 0, [.ref 0, .ref P, z2, z3, .int x4, .int x5, z6], [.int s0], (mH I J)) = run mX12_goes (81, 0, 0, [.ref 0, .ref P, .null, .int s0, .int x4, .int x5, .null], [], (mH I J)) := by
  rcases hP with rfl | rfl
  all_goals exact (exK_eq mX12_goes [2, 24, 32, 54, 80, 81, 104, 118, 129, 140, 146] 124 _).symm.trans rfl
set_option maxRecDepth 100000 in
theorem bX12_goes_81 (I : Nat → Nat → Int32) (J : Nat → Nat → Int64) {P : Nat} (hP : P = 5 ∨ P = 6) (x3 : Int32) (x4 : Int32) (x5 : Int32) (z2 : Value) (z6 : Value) : run mX12_goes (81, 0, 0, [.ref 0, .ref P, z2, .int x3, .int x4, .int x5, z6], [], (mH I J)) = (if x5 = (I 0 1) then run mX12_goes (104, 0, 0, [.ref 0, .ref P, .null, .int x3, .int x4, .int x5, .null], [.int (I 0 1)], (mH I J)) else (bif inb x5 9 then run mX12_goes (104, 0, 0, [.ref 0, .ref P, .null, .int x3, .int x4, .int x5, .null], [.int (I 8 (x5).toNatClampNeg)], (mH I J)) else none)) := by
  rcases hP with rfl | rfl
  all_goals exact (exK_eq mX12_goes [2, 24, 32, 54, 80, 81, 104, 118, 129, 140, 146] 124 _).symm.trans rfl
set_option maxRecDepth 100000 in
theorem bX12_goes_104 (I : Nat → Nat → Int32) (J : Nat → Nat → Int64) {P : Nat} (hP : P = 5 ∨ P = 6) (s0 : Int32) (x3 : Int32) (x4 : Int32) (x5 : Int32) (z2 : Value) (z6 : Value) : run mX12_goes (104, 0, 0, [.ref 0, .ref P, z2, .int x3, .int x4, .int x5, z6], [.int s0], (mH I J)) = (if s0 = (I 0 1) then run mX12_goes (118, 0, 0, [.ref 0, .ref P, .null, .int x3, .int x4, .int (x5 + Int32.ofInt (-1)), .int s0], [], (mH I J)) else run mX12_goes (146, 0, 0, [.ref 0, .ref P, .null, .int x3, .int x4, .int x5, .int s0], [], (mH I J))) := by
  rcases hP with rfl | rfl
  all_goals exact (exK_eq mX12_goes [2, 24, 32, 54, 80, 81, 104, 118, 129, 140, 146] 124 _).symm.trans rfl
set_option maxRecDepth 100000 in
theorem bX12_goes_118 (I : Nat → Nat → Int32) (J : Nat → Nat → Int64) {P : Nat} (hP : P = 5 ∨ P = 6) (x3 : Int32) (x4 : Int32) (x5 : Int32) (z2 : Value) (z6 : Value) : run mX12_goes (118, 0, 0, [.ref 0, .ref P, z2, .int x3, .int x4, .int x5, z6], [], (mH I J)) = (if (nI 0) ≤ x5 then run mX12_goes (129, 0, 0, [.ref 0, .ref P, .null, .int x3, .int x4, .int x5, .null], [.int x4], (mH I J)) else run mX12_goes (140, 0, 0, [.ref 0, .ref P, .null, .int x3, .int x4, .int x5, .null], [.int (nI 0), .int x4], (mH I J))) := by
  rcases hP with rfl | rfl
  all_goals exact (exK_eq mX12_goes [2, 24, 32, 54, 80, 81, 104, 118, 129, 140, 146] 124 _).symm.trans rfl
set_option maxRecDepth 100000 in
theorem bX12_goes_146 (I : Nat → Nat → Int32) (J : Nat → Nat → Int64) {P : Nat} (hP : P = 5 ∨ P = 6) (x3 : Int32) (x4 : Int32) (x5 : Int32) (x6 : Int32) (z2 : Value) : run mX12_goes (146, 0, 0, [.ref 0, .ref P, z2, .int x3, .int x4, .int x5, .int x6], [], (mH I J)) = (bif inb x5 9 then (bif inb x5 9 then (callK (fX12_has [.int x4, .int x6] (mH (up2 I 8 (x5).toNatClampNeg ((I 8 (x5).toNatClampNeg) + (nI 1))) J)) (fun r h' => run mX12_goes (164, 0, 0, [.ref 0, .ref P, .null, .int x3, .int x4, .int x5, .int x6], r.toList ++ [], h'))) else none) else none) := by
  rcases hP with rfl | rfl
  all_goals exact (exK_eq mX12_goes [2, 24, 32, 54, 80, 81, 104, 118, 129, 140, 146, 164] 124 _).symm.trans rfl
set_option maxRecDepth 100000 in
theorem bX12_goes_129 (I : Nat → Nat → Int32) (J : Nat → Nat → Int64) {P : Nat} (hP : P = 5 ∨ P = 6) (s0 : Int32) (x3 : Int32) (x5 : Int32) (z2 : Value) (z4 : Value) (z6 : Value) : run mX12_goes (129, 0, 0, [.ref 0, .ref P, z2, .int x3, z4, .int x5, z6], [.int s0], (mH I J)) = (bif inb x5 9 then run mX12_goes (140, 0, 0, [.ref 0, .ref P, .null, .int x3, .null, .int x5, .null], [.int (((nI 1) <<< ((I 9 (x5).toNatClampNeg) &&& 31)) ^^^ (Int32.ofInt (-1))), .int s0], (mH I J)) else none) := by
  rcases hP with rfl | rfl
  all_goals exact (exK_eq mX12_goes [2, 24, 32, 54, 80, 81, 104, 118, 129, 140, 146, 164] 124 _).symm.trans rfl
set_option maxRecDepth 100000 in
theorem bX12_goes_140 (I : Nat → Nat → Int32) (J : Nat → Nat → Int64) {P : Nat} (hP : P = 5 ∨ P = 6) (s0 : Int32) (s1 : Int32) (x3 : Int32) (x5 : Int32) (z2 : Value) (z4 : Value) (z6 : Value) : run mX12_goes (140, 0, 0, [.ref 0, .ref P, z2, .int x3, z4, .int x5, z6], [.int s1, .int s0], (mH I J)) = run mX12_goes (54, 0, 0, [.ref 0, .ref P, .null, .int x3, .int (s0 &&& s1), .int x5, .null], [], (mH I J)) := by
  rcases hP with rfl | rfl
  all_goals exact (exK_eq mX12_goes [2, 24, 32, 54, 80, 81, 104, 118, 129, 140, 146, 164] 124 _).symm.trans rfl
set_option maxRecDepth 100000 in
theorem bX12_goes_164 (I : Nat → Nat → Int32) (J : Nat → Nat → Int64) {P : Nat} (hP : P = 5 ∨ P = 6) (s0 : Int32) (x3 : Int32) (x4 : Int32) (x5 : Int32) (x6 : Int32) (z2 : Value) : run mX12_goes (164, 0, 0, [.ref 0, .ref P, z2, .int x3, .int x4, .int x5, .int x6], [.int s0], (mH I J)) = (if s0 = (nI 0) then (bif inb x6 8 then (if ((I 7 (x6).toNatClampNeg) &&& (x4 ^^^ (Int32.ofInt (-1)))) = (nI 0) then (callK (fX12_does [.ref 0, .int x5, .int x6] (mH I J)) (fun r h' => run mX12_goes (190, 0, 0, [.ref 0, .ref P, .null, .int x3, .int x4, .int x5, .int x6], r.toList ++ [], h'))) else run mX12_goes (54, 0, 0, [.ref 0, .ref P, .null, .int x3, .int x4, .int x5, .int x6], [], (mH I J))) else none) else run mX12_goes (54, 0, 0, [.ref 0, .ref P, .null, .int x3, .int x4, .int x5, .int x6], [], (mH I J))) := by
  rcases hP with rfl | rfl
  all_goals exact (exK_eq mX12_goes [2, 24, 32, 54, 80, 81, 104, 118, 129, 140, 146, 164, 190] 124 _).symm.trans rfl
set_option maxRecDepth 100000 in
theorem bX12_goes_190 (I : Nat → Nat → Int32) (J : Nat → Nat → Int64) {P : Nat} (hP : P = 5 ∨ P = 6) (x3 : Int32) (x4 : Int32) (x5 : Int32) (x6 : Int32) (z2 : Value) : run mX12_goes (190, 0, 0, [.ref 0, .ref P, z2, .int x3, .int x4, .int x5, .int x6], [], (mH I J)) = (bif inb (x5 + (nI 1)) 9 then run mX12_goes (54, 0, 0, [.ref 0, .ref P, .null, .int x3, .int (x4 ||| ((nI 1) <<< (x6 &&& 31))), .int (x5 + (nI 1)), .int x6], [], (mH (up2 I 8 ((x5 + (nI 1))).toNatClampNeg (nI 0)) J)) else none) := by
  rcases hP with rfl | rfl
  all_goals exact (exK_eq mX12_goes [2, 24, 32, 54, 80, 81, 104, 118, 129, 140, 146, 164, 190] 124 _).symm.trans rfl
set_option maxRecDepth 100000 in
theorem eX12_isStep (I : Nat → Nat → Int32) (J : Nat → Nat → Int64) (x1 : Int32) : fX12_isStep [.ref 0, .int x1] (mH I J) = (if x1 < (nI 0) then some (some (.int (nI 0)), (mH I J)) else (if (I 0 1) ≤ x1 then some (some (.int (nI 0)), (mH I J)) else some (some (.int (nI 1)), (mH I J)))) := (mth_eq (M := mX12_isStep) (n := 2) rfl).trans ((exK_eq mX12_isStep [] 15 _).symm.trans rfl)
set_option maxRecDepth 100000 in
theorem eX12_isGap (I : Nat → Nat → Int32) (J : Nat → Nat → Int64) (x1 : Int32) : fX12_isGap [.ref 0, .int x1] (mH I J) = (if x1 ≤ (nI 0) then some (some (.int (nI 0)), (mH I J)) else (if (I 0 1) ≤ x1 then some (some (.int (nI 0)), (mH I J)) else (bif inb x1 8 then (bif inb (x1 - (nI 1)) 8 then (if (I 1 (x1).toNatClampNeg) = (I 1 ((x1 - (nI 1))).toNatClampNeg) then some (some (.int (nI 1)), (mH I J)) else some (some (.int (nI 0)), (mH I J))) else none) else none))) := (mth_eq (M := mX12_isGap) (n := 2) rfl).trans ((exK_eq mX12_isGap [] 26 _).symm.trans rfl)
set_option maxRecDepth 100000 in
theorem eX12_isConflict (I : Nat → Nat → Int32) (J : Nat → Nat → Int64) (x1 : Int32) (x2 : Int32) : fX12_isConflict [.ref 0, .int x1, .int x2] (mH I J) = (bif inb x1 8 then (bif inb x2 8 then (if (I 1 (x1).toNatClampNeg) = (I 1 (x2).toNatClampNeg) then some (some (.int (nI 0)), (mH I J)) else (bif inb x1 8 then (bif inb x2 8 then (if (I 2 (x1).toNatClampNeg) = (I 2 (x2).toNatClampNeg) then (bif inb x1 8 then (if (I 3 (x1).toNatClampNeg) = (nI 0) then (bif inb x2 8 then (if (I 3 (x2).toNatClampNeg) = (nI 0) then some (some (.int (nI 0)), (mH I J)) else some (some (.int (nI 1)), (mH I J))) else none) else some (some (.int (nI 1)), (mH I J))) else none) else some (some (.int (nI 0)), (mH I J))) else none) else none)) else none) else none) := (mth_eq (M := mX12_isConflict) (n := 3) rfl).trans ((exK_eq mX12_isConflict [] 37 _).symm.trans rfl)
set_option maxRecDepth 100000 in
theorem eX12_conflicts (I : Nat → Nat → Int32) (J : Nat → Nat → Int64) (x1 : Int32) : fX12_conflicts [.ref 0, .int x1] (mH I J) = run mX12_conflicts (4, 0, 0, [.ref 0, .int x1, .int (nI 0), .int (nI 0)], [], (mH I J)) := (mth_eq (M := mX12_conflicts) (n := 4) rfl).trans ((exK_eq mX12_conflicts [4] 30 _).symm.trans rfl)
set_option maxRecDepth 100000 in
theorem bX12_conflicts_4 (I : Nat → Nat → Int32) (J : Nat → Nat → Int64) (x1 : Int32) (x2 : Int32) (x3 : Int32) : run mX12_conflicts (4, 0, 0, [.ref 0, .int x1, .int x2, .int x3], [], (mH I J)) = (if (I 0 1) ≤ x3 then some (some (.int x2), (mH I J)) else (callK (fX12_isConflict [.ref 0, .int x1, .int x3] (mH I J)) (fun r h' => run mX12_conflicts (19, 0, 0, [.ref 0, .int x1, .int x2, .int x3], r.toList ++ [.int x2], h')))) := (exK_eq mX12_conflicts [4, 19] 30 _).symm.trans rfl
set_option maxRecDepth 100000 in
theorem bX12_conflicts_19 (I : Nat → Nat → Int32) (J : Nat → Nat → Int64) (s0 : Int32) (s1 : Int32) (x1 : Int32) (x3 : Int32) (z2 : Value) : run mX12_conflicts (19, 0, 0, [.ref 0, .int x1, z2, .int x3], [.int s1, .int s0], (mH I J)) = (if s1 = (nI 0) then run mX12_conflicts (4, 0, 0, [.ref 0, .int x1, .int (s0 ||| (nI 0)), .int (x3 + (nI 1))], [], (mH I J)) else run mX12_conflicts (4, 0, 0, [.ref 0, .int x1, .int (s0 ||| ((nI 1) <<< (x3 &&& 31))), .int (x3 + (nI 1))], [], (mH I J))) := (exK_eq mX12_conflicts [4, 19] 30 _).symm.trans rfl
set_option maxRecDepth 100000 in
theorem eX12_readings (I : Nat → Nat → Int32) (J : Nat → Nat → Int64)  : fX12_readings [.ref 0] (mH I J) = (if (I 0 12) = (nI 0) then (callK (fX12_goes [.ref 0, .ref 6, .int (nI 0)] (mH I J)) (fun r h' => run mX12_readings (17, 0, 0, [.ref 0], r.toList ++ [.ref 0], h'))) else some (some (.int (I 0 11)), (mH I J))) := (mth_eq (M := mX12_readings) (n := 1) rfl).trans ((exK_eq mX12_readings [17] 21 _).symm.trans rfl)
set_option maxRecDepth 100000 in
theorem bX12_readings_17 (I : Nat → Nat → Int32) (J : Nat → Nat → Int64) (s1 : Int32) : run mX12_readings (17, 0, 0, [.ref 0], [.int s1, .ref 0], (mH I J)) = some (some (.int s1), (mH (up2 (up2 I 0 11 s1) 0 12 (nI 1)) J)) := (exK_eq mX12_readings [17] 21 _).symm.trans rfl
set_option maxRecDepth 100000 in
theorem eX12_isIn (I : Nat → Nat → Int32) (J : Nat → Nat → Int64) {P : Nat} (hP : P = 5 ∨ P = 6) (x1 : Int32) (x2 : Int32) : fX12_isIn [.ref P, .int x1, .int x2] (mH I J) = run mX12_isIn (5, 0, 0, [.ref P, .int x1, .int x2, .int (nI 0), .int (nI 0)], [], (mH I J)) := by
  rcases hP with rfl | rfl
  all_goals exact (mth_eq (M := mX12_isIn) (n := 5) rfl).trans ((exK_eq mX12_isIn [5] 27 _).symm.trans rfl)
set_option maxRecDepth 100000 in
theorem bX12_isIn_5 (I : Nat → Nat → Int32) (J : Nat → Nat → Int64) {P : Nat} (hP : P = 5 ∨ P = 6) (x1 : Int32) (x2 : Int32) (x3 : Int32) (x4 : Int32) : run mX12_isIn (5, 0, 0, [.ref P, .int x1, .int x2, .int x3, .int x4], [], (mH I J)) = (if x1 ≤ x4 then (bif isB x3 then some (some (.int x3), (mH I J)) else none) else (if x3 = (nI 0) then (bif inb x4 1024 then (if (I P (x4).toNatClampNeg) = x2 then run mX12_isIn (5, 0, 0, [.ref P, .int x1, .int x2, .int (nI 1), .int (x4 + (nI 1))], [], (mH I J)) else run mX12_isIn (5, 0, 0, [.ref P, .int x1, .int x2, .int (nI 0), .int (x4 + (nI 1))], [], (mH I J))) else none) else (bif isB x3 then some (some (.int x3), (mH I J)) else none))) := by
  rcases hP with rfl | rfl
  all_goals exact (exK_eq mX12_isIn [5] 27 _).symm.trans rfl
set_option maxRecDepth 100000 in
theorem eX12_stray (I : Nat → Nat → Int32) (J : Nat → Nat → Int64) (x1 : Int32) : fX12_stray [.ref 0, .int x1] (mH I J) = run mX12_stray (4, 0, 0, [.ref 0, .int x1, .int x1, .int (nI 0)], [], (mH I J)) := (mth_eq (M := mX12_stray) (n := 4) rfl).trans ((exK_eq mX12_stray [4] 35 _).symm.trans rfl)
set_option maxRecDepth 100000 in
theorem bX12_stray_4 (I : Nat → Nat → Int32) (J : Nat → Nat → Int64) (x2 : Int32) (x3 : Int32) (z1 : Value) : run mX12_stray (4, 0, 0, [.ref 0, z1, .int x2, .int x3], [], (mH I J)) = (callK (fX12_readings [.ref 0] (mH I J)) (fun r h' => run mX12_stray (9, 0, 0, [.ref 0, .null, .int x2, .int x3], r.toList ++ [.int x3], h'))) := (exK_eq mX12_stray [4, 9] 35 _).symm.trans rfl
set_option maxRecDepth 100000 in
theorem bX12_stray_9 (I : Nat → Nat → Int32) (J : Nat → Nat → Int64) (s0 : Int32) (s1 : Int32) (x2 : Int32) (x3 : Int32) (z1 : Value) : run mX12_stray (9, 0, 0, [.ref 0, z1, .int x2, .int x3], [.int s1, .int s0], (mH I J)) = (if s1 ≤ s0 then some (some (.int (Int32.ofInt (-1))), (mH I J)) else (bif inb x3 1024 then (callK (fX12_isIn [.ref 5, .int (I 0 10), .int (I 6 (x3).toNatClampNeg)] (mH I J)) (fun r h' => run mX12_stray (29, 0, 0, [.ref 0, .null, .int x2, .int x3], r.toList ++ [], h'))) else none)) := (exK_eq mX12_stray [4, 9, 29] 35 _).symm.trans rfl
set_option maxRecDepth 100000 in
theorem bX12_stray_29 (I : Nat → Nat → Int32) (J : Nat → Nat → Int64) (s0 : Int32) (x2 : Int32) (x3 : Int32) (z1 : Value) : run mX12_stray (29, 0, 0, [.ref 0, z1, .int x2, .int x3], [.int s0], (mH I J)) = (if s0 = (nI 0) then (if x2 = (nI 0) then (bif inb x3 1024 then some (some (.int (I 6 (x3).toNatClampNeg)), (mH I J)) else none) else run mX12_stray (4, 0, 0, [.ref 0, .null, .int (x2 + Int32.ofInt (-1)), .int (x3 + (nI 1))], [], (mH I J))) else run mX12_stray (4, 0, 0, [.ref 0, .null, .int x2, .int (x3 + (nI 1))], [], (mH I J))) := (exK_eq mX12_stray [4, 9, 29] 35 _).symm.trans rfl
set_option maxRecDepth 100000 in
theorem eX12_reading (I : Nat → Nat → Int32) (J : Nat → Nat → Int64) (x1 : Int32) (x2 : Int32) : fX12_reading [.ref 0, .int x1, .int x2] (mH I J) = (if x2 < (nI 0) then some (some (.int (-1000000002)), (mH I J)) else (if x2 ≤ (nI 2) then (if (nI 0) ≤ x1 then (if x2 = (nI 2) then (callK (fX12_stray [.ref 0, .int x1] (mH I J)) (fun r h' => run mX12_reading (28, 0, 0, [.ref 0, .int x1, .int x2, .null], r.toList ++ [], h'))) else (if x2 = (nI 0) then (callK (fX12_readings [.ref 0] (mH I J)) (fun r h' => run mX12_reading (37, 0, 0, [.ref 0, .int x1, .int x2, .null], r.toList ++ [], h'))) else (if x1 < (I 0 10) then (if x2 = (nI 0) then (bif inb x1 1024 then some (some (.int (I 6 (x1).toNatClampNeg)), (mH I J)) else none) else (bif inb x1 1024 then some (some (.int (I 5 (x1).toNatClampNeg)), (mH I J)) else none)) else some (some (.int (Int32.ofInt (-1))), (mH I J))))) else some (some (.int (Int32.ofInt (-1))), (mH I J))) else some (some (.int (-1000000002)), (mH I J)))) := (mth_eq (M := mX12_reading) (n := 4) rfl).trans ((exK_eq mX12_reading [28, 37] 48 _).symm.trans rfl)
set_option maxRecDepth 100000 in
theorem bX12_reading_28 (I : Nat → Nat → Int32) (J : Nat → Nat → Int64) (s0 : Int32) (z0 : Value) (z1 : Value) (z2 : Value) (z3 : Value) : run mX12_reading (28, 0, 0, [z0, z1, z2, z3], [.int s0], (mH I J)) = some (some (.int s0), (mH I J)) := (exK_eq mX12_reading [28, 37] 48 _).symm.trans rfl
set_option maxRecDepth 100000 in
theorem bX12_reading_37 (I : Nat → Nat → Int32) (J : Nat → Nat → Int64) (s0 : Int32) (x1 : Int32) (x2 : Int32) (z3 : Value) : run mX12_reading (37, 0, 0, [.ref 0, .int x1, .int x2, z3], [.int s0], (mH I J)) = (if x1 < s0 then (if x2 = (nI 0) then (bif inb x1 1024 then some (some (.int (I 6 (x1).toNatClampNeg)), (mH I J)) else none) else (bif inb x1 1024 then some (some (.int (I 5 (x1).toNatClampNeg)), (mH I J)) else none)) else some (some (.int (Int32.ofInt (-1))), (mH I J))) := (exK_eq mX12_reading [28, 37] 48 _).symm.trans rfl
set_option maxRecDepth 100000 in
theorem eX12_can (I : Nat → Nat → Int32) (J : Nat → Nat → Int64) (x1 : Int32) : fX12_can [.ref 0, .int x1] (mH I J) = (callK (fX12_isIn [.ref 5, .int (I 0 10), .int x1] (mH I J)) (fun r h' => run mX12_can (12, 0, 0, [.ref 0, .int x1], r.toList ++ [], h'))) := (mth_eq (M := mX12_can) (n := 2) rfl).trans ((exK_eq mX12_can [12] 25 _).symm.trans rfl)
set_option maxRecDepth 100000 in
theorem bX12_can_12 (I : Nat → Nat → Int32) (J : Nat → Nat → Int64) (s0 : Int32) (x1 : Int32) : run mX12_can (12, 0, 0, [.ref 0, .int x1], [.int s0], (mH I J)) = (if s0 = (nI 0) then (callK (fX12_readings [.ref 0] (mH I J)) (fun r h' => run mX12_can (25, 0, 0, [.ref 0, .int x1], r.toList ++ [.ref 6], h'))) else some (some (.int (nI 2)), (mH I J))) := (exK_eq mX12_can [12, 25] 25 _).symm.trans rfl
set_option maxRecDepth 100000 in
theorem bX12_can_25 (I : Nat → Nat → Int32) (J : Nat → Nat → Int64) (s1 : Int32) (x1 : Int32) (z0 : Value) : run mX12_can (25, 0, 0, [z0, .int x1], [.int s1, .ref 6], (mH I J)) = (callK (fX12_isIn [.ref 6, .int s1, .int x1] (mH I J)) (fun r h' => run mX12_can (29, 0, 0, [.null, .int x1], r.toList ++ [], h'))) := (exK_eq mX12_can [12, 25, 29] 25 _).symm.trans rfl
set_option maxRecDepth 100000 in
theorem bX12_can_29 (I : Nat → Nat → Int32) (J : Nat → Nat → Int64) (s0 : Int32) (z0 : Value) (z1 : Value) : run mX12_can (29, 0, 0, [z0, z1], [.int s0], (mH I J)) = (if s0 = (nI 0) then some (some (.int (nI 0)), (mH I J)) else some (some (.int (nI 1)), (mH I J))) := (exK_eq mX12_can [12, 25, 29] 25 _).symm.trans rfl
set_option maxRecDepth 100000 in
theorem eX12_laysGifts (I : Nat → Nat → Int32) (J : Nat → Nat → Int64)  : fX12_laysGifts [.ref 0] (mH I J) = run mX12_laysGifts (7, 0, 0, [.ref 0, .int (nI 0), .null], [], (mH (up2 I 0 22 (nI 0)) J)) := (mth_eq (M := mX12_laysGifts) (n := 3) rfl).trans ((exK_eq mX12_laysGifts [7, 17] 66 _).symm.trans rfl)
set_option maxRecDepth 100000 in
theorem bX12_laysGifts_7 (I : Nat → Nat → Int32) (J : Nat → Nat → Int64) (x1 : Int32) (z2 : Value) : run mX12_laysGifts (7, 0, 0, [.ref 0, .int x1, z2], [], (mH I J)) = (if (I 0 1) ≤ x1 then some (none, (mH I J)) else run mX12_laysGifts (17, 0, 0, [.ref 0, .int x1, .int x1], [], (mH I J))) := (exK_eq mX12_laysGifts [7, 17] 66 _).symm.trans rfl
set_option maxRecDepth 100000 in
theorem bX12_laysGifts_17 (I : Nat → Nat → Int32) (J : Nat → Nat → Int64) (x1 : Int32) (x2 : Int32) : run mX12_laysGifts (17, 0, 0, [.ref 0, .int x1, .int x2], [], (mH I J)) = (if (I 0 1) ≤ x2 then run mX12_laysGifts (7, 0, 0, [.ref 0, .int (x1 + (nI 1)), .int x2], [], (mH I J)) else (if x1 = x2 then (bif inb x1 8 then (if (I 3 (x1).toNatClampNeg) = (nI 0) then run mX12_laysGifts (17, 0, 0, [.ref 0, .int x1, .int (x2 + (nI 1))], [], (mH I J)) else (bif inb (I 0 22) 36 then (bif inb (I 0 22) 36 then run mX12_laysGifts (17, 0, 0, [.ref 0, .int x1, .int (x2 + (nI 1))], [], (mH (up2 (up2 (up2 I 13 ((I 0 22)).toNatClampNeg x1) 14 ((I 0 22)).toNatClampNeg x2) 0 22 ((I 0 22) + (nI 1))) J)) else none) else none)) else none) else (callK (fX12_isAhead [.ref 0, .int x1, .int x2] (mH I J)) (fun r h' => run mX12_laysGifts (48, 0, 0, [.ref 0, .int x1, .int x2], r.toList ++ [], h'))))) := (exK_eq mX12_laysGifts [7, 17, 48] 66 _).symm.trans rfl
set_option maxRecDepth 100000 in
theorem bX12_laysGifts_48 (I : Nat → Nat → Int32) (J : Nat → Nat → Int64) (s0 : Int32) (x1 : Int32) (x2 : Int32) : run mX12_laysGifts (48, 0, 0, [.ref 0, .int x1, .int x2], [.int s0], (mH I J)) = (if s0 = (nI 0) then run mX12_laysGifts (17, 0, 0, [.ref 0, .int x1, .int (x2 + (nI 1))], [], (mH I J)) else (bif inb x1 8 then (bif inb x2 8 then (if (I 2 (x1).toNatClampNeg) = (I 2 (x2).toNatClampNeg) then run mX12_laysGifts (17, 0, 0, [.ref 0, .int x1, .int (x2 + (nI 1))], [], (mH I J)) else (bif inb (I 0 22) 36 then (bif inb (I 0 22) 36 then run mX12_laysGifts (17, 0, 0, [.ref 0, .int x1, .int (x2 + (nI 1))], [], (mH (up2 (up2 (up2 I 13 ((I 0 22)).toNatClampNeg x1) 14 ((I 0 22)).toNatClampNeg x2) 0 22 ((I 0 22) + (nI 1))) J)) else none) else none)) else none) else none)) := (exK_eq mX12_laysGifts [7, 17, 48] 66 _).symm.trans rfl
set_option maxRecDepth 100000 in
theorem eX12_isOne (I : Nat → Nat → Int32) (J : Nat → Nat → Int64) (x1 : Int32) : fX12_isOne [.ref 0, .int x1] (mH I J) = (bif inb x1 36 then (bif inb x1 36 then (if (I 13 (x1).toNatClampNeg) = (I 14 (x1).toNatClampNeg) then some (some (.int (nI 1)), (mH I J)) else some (some (.int (nI 0)), (mH I J))) else none) else none) := (mth_eq (M := mX12_isOne) (n := 2) rfl).trans ((exK_eq mX12_isOne [] 18 _).symm.trans rfl)
set_option maxRecDepth 100000 in
theorem eX12_meets (I : Nat → Nat → Int32) (J : Nat → Nat → Int64) (x1 : Int32) (x2 : Int32) : fX12_meets [.ref 0, .int x1, .int x2] (mH I J) = (bif inb x1 36 then (bif inb x2 36 then (callK (fX12_isConflict [.ref 0, .int (I 14 (x1).toNatClampNeg), .int (I 13 (x2).toNatClampNeg)] (mH I J)) (fun r h' => run mX12_meets (16, 0, 0, [.ref 0, .int x1, .int x2], r.toList ++ [], h'))) else none) else none) := (mth_eq (M := mX12_meets) (n := 3) rfl).trans ((exK_eq mX12_meets [16] 16 _).symm.trans rfl)
set_option maxRecDepth 100000 in
theorem bX12_meets_16 (I : Nat → Nat → Int32) (J : Nat → Nat → Int64) (s0 : Int32) (z0 : Value) (z1 : Value) (z2 : Value) : run mX12_meets (16, 0, 0, [z0, z1, z2], [.int s0], (mH I J)) = (bif isB s0 then some (some (.int s0), (mH I J)) else none) := (exK_eq mX12_meets [16] 16 _).symm.trans rfl
set_option maxRecDepth 100000 in
theorem eX12_fits (I : Nat → Nat → Int32) (J : Nat → Nat → Int64) (x1 : Int32) (x2 : Int32) (x3 : Int32) : fX12_fits [.ref 0, .int x1, .int x2, .int x3] (mH I J) = (callK (fX12_isOne [.ref 0, .int x2] (mH I J)) (fun r h' => run mX12_fits (5, 0, 0, [.ref 0, .int x1, .int x2, .int x3], r.toList ++ [], h'))) := (mth_eq (M := mX12_fits) (n := 4) rfl).trans ((exK_eq mX12_fits [5] 29 _).symm.trans rfl)
set_option maxRecDepth 100000 in
theorem bX12_fits_5 (I : Nat → Nat → Int32) (J : Nat → Nat → Int64) (s0 : Int32) (x1 : Int32) (x3 : Int32) (z2 : Value) : run mX12_fits (5, 0, 0, [.ref 0, .int x1, z2, .int x3], [.int s0], (mH I J)) = (if s0 = (nI 0) then some (some (.int (nI 1)), (mH I J)) else (bif inb x1 36 then (bif inb (I 14 (x1).toNatClampNeg) 8 then (if (I 3 ((I 14 (x1).toNatClampNeg)).toNatClampNeg) = (nI 0) then (bif inb x3 36 then (bif inb (I 13 (x3).toNatClampNeg) 8 then (if (I 3 ((I 13 (x3).toNatClampNeg)).toNatClampNeg) = (nI 0) then some (some (.int (nI 1)), (mH I J)) else some (some (.int (nI 0)), (mH I J))) else none) else none) else some (some (.int (nI 0)), (mH I J))) else none) else none)) := (exK_eq mX12_fits [5] 29 _).symm.trans rfl
set_option maxRecDepth 100000 in
theorem eX12_gives (I : Nat → Nat → Int32) (J : Nat → Nat → Int64) (x1 : Int32) : fX12_gives [.ref 0, .int x1] (mH I J) = (bif inb x1 36 then (bif inb x1 36 then (bif inb (((nI 8) * (I 13 (x1).toNatClampNeg)) + (I 14 (x1).toNatClampNeg)) 64 then (callK (fX12_isOne [.ref 0, .int x1] (mH I J)) (fun r h' => run mX12_gives (27, 0, 0, [.ref 0, .int x1], r.toList ++ [.int (I 12 ((((nI 8) * (I 13 (x1).toNatClampNeg)) + (I 14 (x1).toNatClampNeg))).toNatClampNeg), .int (((nI 8) * (I 13 (x1).toNatClampNeg)) + (I 14 (x1).toNatClampNeg)), .ref 12], h'))) else none) else none) else none) := (mth_eq (M := mX12_gives) (n := 2) rfl).trans ((exK_eq mX12_gives [27] 30 _).symm.trans rfl)
set_option maxRecDepth 100000 in
theorem bX12_gives_27 (I : Nat → Nat → Int32) (J : Nat → Nat → Int64) (s1 : Int32) (s2 : Int32) (s3 : Int32) (z0 : Value) (z1 : Value) : run mX12_gives (27, 0, 0, [z0, z1], [.int s3, .int s2, .int s1, .ref 12], (mH I J)) = (if s3 = (nI 0) then (bif inb s1 64 then some (none, (mH (up2 I 12 (s1).toNatClampNeg (s2 + (nI 1))) J)) else none) else (bif inb s1 64 then some (none, (mH (up2 I 12 (s1).toNatClampNeg (s2 + (nI 0))) J)) else none)) := (exK_eq mX12_gives [27] 30 _).symm.trans rfl
set_option maxRecDepth 100000 in
theorem eX12_laysTwos (I : Nat → Nat → Int32) (J : Nat → Nat → Int64)  : fX12_laysTwos [.ref 0] (mH I J) = run mX12_laysTwos (2, 0, 0, [.ref 0, .int (nI 0), .null, .null], [], (mH I J)) := (mth_eq (M := mX12_laysTwos) (n := 4) rfl).trans ((exK_eq mX12_laysTwos [2, 12] 73 _).symm.trans rfl)
set_option maxRecDepth 100000 in
theorem bX12_laysTwos_2 (I : Nat → Nat → Int32) (J : Nat → Nat → Int64) (x1 : Int32) (z2 : Value) (z3 : Value) : run mX12_laysTwos (2, 0, 0, [.ref 0, .int x1, z2, z3], [], (mH I J)) = (if (I 0 22) ≤ x1 then some (none, (mH I J)) else run mX12_laysTwos (12, 0, 0, [.ref 0, .int x1, .int (nI 0), .null], [], (mH I J))) := (exK_eq mX12_laysTwos [2, 12] 73 _).symm.trans rfl
set_option maxRecDepth 100000 in
theorem bX12_laysTwos_12 (I : Nat → Nat → Int32) (J : Nat → Nat → Int64) (x1 : Int32) (x2 : Int32) (z3 : Value) : run mX12_laysTwos (12, 0, 0, [.ref 0, .int x1, .int x2, z3], [], (mH I J)) = (if (I 0 22) ≤ x2 then run mX12_laysTwos (2, 0, 0, [.ref 0, .int (x1 + (nI 1)), .int x2, .null], [], (mH I J)) else (callK (fX12_isOne [.ref 0, .int x1] (mH I J)) (fun r h' => run mX12_laysTwos (25, 0, 0, [.ref 0, .int x1, .int x2, .null], r.toList ++ [], h')))) := (exK_eq mX12_laysTwos [2, 12, 25] 73 _).symm.trans rfl
set_option maxRecDepth 100000 in
theorem bX12_laysTwos_25 (I : Nat → Nat → Int32) (J : Nat → Nat → Int64) (s0 : Int32) (x1 : Int32) (x2 : Int32) (z3 : Value) : run mX12_laysTwos (25, 0, 0, [.ref 0, .int x1, .int x2, z3], [.int s0], (mH I J)) = (if s0 = (nI 0) then (callK (fX12_isOne [.ref 0, .int x2] (mH I J)) (fun r h' => run mX12_laysTwos (33, 0, 0, [.ref 0, .int x1, .int x2, .null], r.toList ++ [], h'))) else run mX12_laysTwos (12, 0, 0, [.ref 0, .int x1, .int (x2 + (nI 1)), .null], [], (mH I J))) := (exK_eq mX12_laysTwos [2, 12, 25, 33] 73 _).symm.trans rfl
set_option maxRecDepth 100000 in
theorem bX12_laysTwos_33 (I : Nat → Nat → Int32) (J : Nat → Nat → Int64) (s0 : Int32) (x1 : Int32) (x2 : Int32) (z3 : Value) : run mX12_laysTwos (33, 0, 0, [.ref 0, .int x1, .int x2, z3], [.int s0], (mH I J)) = (if s0 = (nI 0) then (bif inb x1 36 then (bif inb (I 13 (x1).toNatClampNeg) 8 then (bif inb x2 36 then (bif inb (I 13 (x2).toNatClampNeg) 8 then (if (I 1 ((I 13 (x2).toNatClampNeg)).toNatClampNeg) ≤ (I 1 ((I 13 (x1).toNatClampNeg)).toNatClampNeg) then run mX12_laysTwos (12, 0, 0, [.ref 0, .int x1, .int (x2 + (nI 1)), .null], [], (mH I J)) else (callK (fX12_meets [.ref 0, .int x1, .int x2] (mH I J)) (fun r h' => run mX12_laysTwos (77, 0, 0, [.ref 0, .int x1, .int x2, .int (nI 1)], r.toList ++ [], h')))) else none) else none) else none) else none) else run mX12_laysTwos (12, 0, 0, [.ref 0, .int x1, .int (x2 + (nI 1)), .null], [], (mH I J))) := (exK_eq mX12_laysTwos [2, 12, 25, 33, 77] 73 _).symm.trans rfl
set_option maxRecDepth 100000 in
theorem bX12_laysTwos_77 (I : Nat → Nat → Int32) (J : Nat → Nat → Int64) (s0 : Int32) (x1 : Int32) (x2 : Int32) (z3 : Value) : run mX12_laysTwos (77, 0, 0, [.ref 0, .int x1, .int x2, z3], [.int s0], (mH I J)) = (if s0 = (nI 0) then run mX12_laysTwos (12, 0, 0, [.ref 0, .int x1, .int (x2 + (nI 1)), .null], [], (mH I J)) else (callK (fX12_meets [.ref 0, .int x2, .int x1] (mH I J)) (fun r h' => run mX12_laysTwos (86, 0, 0, [.ref 0, .int x1, .int x2, .null], r.toList ++ [], h')))) := (exK_eq mX12_laysTwos [2, 12, 25, 33, 77, 86] 73 _).symm.trans rfl
set_option maxRecDepth 100000 in
theorem bX12_laysTwos_86 (I : Nat → Nat → Int32) (J : Nat → Nat → Int64) (s0 : Int32) (x1 : Int32) (x2 : Int32) (z3 : Value) : run mX12_laysTwos (86, 0, 0, [.ref 0, .int x1, .int x2, z3], [.int s0], (mH I J)) = (if s0 = (nI 0) then run mX12_laysTwos (12, 0, 0, [.ref 0, .int x1, .int (x2 + (nI 1)), .null], [], (mH I J)) else (callK (fX12_gives [.ref 0, .int x1] (mH (up2 I 0 18 ((I 0 18) + (nI 1))) J)) (fun r h' => run mX12_laysTwos (104, 0, 0, [.ref 0, .int x1, .int x2, .null], r.toList ++ [], h')))) := (exK_eq mX12_laysTwos [2, 12, 25, 33, 77, 86, 104] 73 _).symm.trans rfl
set_option maxRecDepth 100000 in
theorem bX12_laysTwos_104 (I : Nat → Nat → Int32) (J : Nat → Nat → Int64) (x1 : Int32) (x2 : Int32) (z3 : Value) : run mX12_laysTwos (104, 0, 0, [.ref 0, .int x1, .int x2, z3], [], (mH I J)) = (callK (fX12_gives [.ref 0, .int x2] (mH I J)) (fun r h' => run mX12_laysTwos (109, 0, 0, [.ref 0, .int x1, .int x2, .null], r.toList ++ [], h'))) := (exK_eq mX12_laysTwos [2, 12, 25, 33, 77, 86, 104, 109] 73 _).symm.trans rfl
set_option maxRecDepth 100000 in
theorem bX12_laysTwos_109 (I : Nat → Nat → Int32) (J : Nat → Nat → Int64) (x1 : Int32) (x2 : Int32) (z3 : Value) : run mX12_laysTwos (109, 0, 0, [.ref 0, .int x1, .int x2, z3], [], (mH I J)) = run mX12_laysTwos (12, 0, 0, [.ref 0, .int x1, .int (x2 + (nI 1)), .null], [], (mH I J)) := (exK_eq mX12_laysTwos [2, 12, 25, 33, 77, 86, 104, 109] 73 _).symm.trans rfl
set_option maxRecDepth 100000 in
theorem eX12_laysThrees (I : Nat → Nat → Int32) (J : Nat → Nat → Int64) (x1 : Int32) (x2 : Int32) : fX12_laysThrees [.ref 0, .int x1, .int x2] (mH I J) = run mX12_laysThrees (2, 0, 0, [.ref 0, .int x1, .int x2, .int (nI 0), .null], [], (mH I J)) := (mth_eq (M := mX12_laysThrees) (n := 5) rfl).trans ((exK_eq mX12_laysThrees [2] 86 _).symm.trans rfl)
set_option maxRecDepth 100000 in
theorem bX12_laysThrees_2 (I : Nat → Nat → Int32) (J : Nat → Nat → Int64) (x1 : Int32) (x2 : Int32) (x3 : Int32) (z4 : Value) : run mX12_laysThrees (2, 0, 0, [.ref 0, .int x1, .int x2, .int x3, z4], [], (mH I J)) = (if (I 0 22) ≤ x3 then some (none, (mH I J)) else (bif inb x3 36 then (bif inb (I 13 (x3).toNatClampNeg) 8 then (if (I 1 ((I 13 (x3).toNatClampNeg)).toNatClampNeg) = (nI 0) then run mX12_laysThrees (2, 0, 0, [.ref 0, .int x1, .int x2, .int (x3 + (nI 1)), .null], [], (mH I J)) else (bif inb x3 36 then (bif inb (I 13 (x3).toNatClampNeg) 8 then (bif inb x2 36 then (bif inb (I 13 (x2).toNatClampNeg) 8 then (if (I 1 ((I 13 (x3).toNatClampNeg)).toNatClampNeg) = (I 1 ((I 13 (x2).toNatClampNeg)).toNatClampNeg) then run mX12_laysThrees (2, 0, 0, [.ref 0, .int x1, .int x2, .int (x3 + (nI 1)), .null], [], (mH I J)) else (callK (fX12_meets [.ref 0, .int x2, .int x3] (mH I J)) (fun r h' => run mX12_laysThrees (55, 0, 0, [.ref 0, .int x1, .int x2, .int x3, .null], r.toList ++ [], h')))) else none) else none) else none) else none)) else none) else none)) := (exK_eq mX12_laysThrees [2, 55] 86 _).symm.trans rfl
set_option maxRecDepth 100000 in
theorem bX12_laysThrees_55 (I : Nat → Nat → Int32) (J : Nat → Nat → Int64) (s0 : Int32) (x1 : Int32) (x2 : Int32) (x3 : Int32) (z4 : Value) : run mX12_laysThrees (55, 0, 0, [.ref 0, .int x1, .int x2, .int x3, z4], [.int s0], (mH I J)) = (if s0 = (nI 0) then run mX12_laysThrees (2, 0, 0, [.ref 0, .int x1, .int x2, .int (x3 + (nI 1)), .null], [], (mH I J)) else (callK (fX12_meets [.ref 0, .int x3, .int x1] (mH I J)) (fun r h' => run mX12_laysThrees (64, 0, 0, [.ref 0, .int x1, .int x2, .int x3, .null], r.toList ++ [], h')))) := (exK_eq mX12_laysThrees [2, 55, 64] 86 _).symm.trans rfl
set_option maxRecDepth 100000 in
theorem bX12_laysThrees_64 (I : Nat → Nat → Int32) (J : Nat → Nat → Int64) (s0 : Int32) (x1 : Int32) (x2 : Int32) (x3 : Int32) (z4 : Value) : run mX12_laysThrees (64, 0, 0, [.ref 0, .int x1, .int x2, .int x3, z4], [.int s0], (mH I J)) = (if s0 = (nI 0) then run mX12_laysThrees (2, 0, 0, [.ref 0, .int x1, .int x2, .int (x3 + (nI 1)), .null], [], (mH I J)) else (callK (fX12_fits [.ref 0, .int x3, .int x1, .int x2] (mH I J)) (fun r h' => run mX12_laysThrees (86, 0, 0, [.ref 0, .int x1, .int x2, .int x3, .int (nI 1)], r.toList ++ [], h')))) := (exK_eq mX12_laysThrees [2, 55, 64, 86] 86 _).symm.trans rfl
set_option maxRecDepth 100000 in
theorem bX12_laysThrees_86 (I : Nat → Nat → Int32) (J : Nat → Nat → Int64) (s0 : Int32) (x1 : Int32) (x2 : Int32) (x3 : Int32) (z4 : Value) : run mX12_laysThrees (86, 0, 0, [.ref 0, .int x1, .int x2, .int x3, z4], [.int s0], (mH I J)) = (if s0 = (nI 0) then run mX12_laysThrees (2, 0, 0, [.ref 0, .int x1, .int x2, .int (x3 + (nI 1)), .null], [], (mH I J)) else (callK (fX12_fits [.ref 0, .int x1, .int x2, .int x3] (mH I J)) (fun r h' => run mX12_laysThrees (96, 0, 0, [.ref 0, .int x1, .int x2, .int x3, .null], r.toList ++ [], h')))) := (exK_eq mX12_laysThrees [2, 55, 64, 86, 96] 86 _).symm.trans rfl
set_option maxRecDepth 100000 in
theorem bX12_laysThrees_96 (I : Nat → Nat → Int32) (J : Nat → Nat → Int64) (s0 : Int32) (x1 : Int32) (x2 : Int32) (x3 : Int32) (z4 : Value) : run mX12_laysThrees (96, 0, 0, [.ref 0, .int x1, .int x2, .int x3, z4], [.int s0], (mH I J)) = (if s0 = (nI 0) then run mX12_laysThrees (2, 0, 0, [.ref 0, .int x1, .int x2, .int (x3 + (nI 1)), .null], [], (mH I J)) else (callK (fX12_fits [.ref 0, .int x2, .int x3, .int x1] (mH I J)) (fun r h' => run mX12_laysThrees (106, 0, 0, [.ref 0, .int x1, .int x2, .int x3, .null], r.toList ++ [], h')))) := (exK_eq mX12_laysThrees [2, 55, 64, 86, 96, 106] 86 _).symm.trans rfl
set_option maxRecDepth 100000 in
theorem bX12_laysThrees_106 (I : Nat → Nat → Int32) (J : Nat → Nat → Int64) (s0 : Int32) (x1 : Int32) (x2 : Int32) (x3 : Int32) (z4 : Value) : run mX12_laysThrees (106, 0, 0, [.ref 0, .int x1, .int x2, .int x3, z4], [.int s0], (mH I J)) = (if s0 = (nI 0) then run mX12_laysThrees (2, 0, 0, [.ref 0, .int x1, .int x2, .int (x3 + (nI 1)), .null], [], (mH I J)) else (callK (fX12_gives [.ref 0, .int x1] (mH (up2 I 0 18 ((I 0 18) + (nI 1))) J)) (fun r h' => run mX12_laysThrees (124, 0, 0, [.ref 0, .int x1, .int x2, .int x3, .null], r.toList ++ [], h')))) := (exK_eq mX12_laysThrees [2, 55, 64, 86, 96, 106, 124] 86 _).symm.trans rfl
set_option maxRecDepth 100000 in
theorem bX12_laysThrees_124 (I : Nat → Nat → Int32) (J : Nat → Nat → Int64) (x1 : Int32) (x2 : Int32) (x3 : Int32) (z4 : Value) : run mX12_laysThrees (124, 0, 0, [.ref 0, .int x1, .int x2, .int x3, z4], [], (mH I J)) = (callK (fX12_gives [.ref 0, .int x2] (mH I J)) (fun r h' => run mX12_laysThrees (129, 0, 0, [.ref 0, .int x1, .int x2, .int x3, .null], r.toList ++ [], h'))) := (exK_eq mX12_laysThrees [2, 55, 64, 86, 96, 106, 124, 129] 86 _).symm.trans rfl
set_option maxRecDepth 100000 in
theorem bX12_laysThrees_129 (I : Nat → Nat → Int32) (J : Nat → Nat → Int64) (x1 : Int32) (x2 : Int32) (x3 : Int32) (z4 : Value) : run mX12_laysThrees (129, 0, 0, [.ref 0, .int x1, .int x2, .int x3, z4], [], (mH I J)) = (callK (fX12_gives [.ref 0, .int x3] (mH I J)) (fun r h' => run mX12_laysThrees (134, 0, 0, [.ref 0, .int x1, .int x2, .int x3, .null], r.toList ++ [], h'))) := (exK_eq mX12_laysThrees [2, 55, 64, 86, 96, 106, 124, 129, 134] 86 _).symm.trans rfl
set_option maxRecDepth 100000 in
theorem bX12_laysThrees_134 (I : Nat → Nat → Int32) (J : Nat → Nat → Int64) (x1 : Int32) (x2 : Int32) (x3 : Int32) (z4 : Value) : run mX12_laysThrees (134, 0, 0, [.ref 0, .int x1, .int x2, .int x3, z4], [], (mH I J)) = run mX12_laysThrees (2, 0, 0, [.ref 0, .int x1, .int x2, .int (x3 + (nI 1)), .null], [], (mH I J)) := (exK_eq mX12_laysThrees [2, 55, 64, 86, 96, 106, 124, 129, 134] 86 _).symm.trans rfl
set_option maxRecDepth 100000 in
theorem eX12_laysRings (I : Nat → Nat → Int32) (J : Nat → Nat → Int64)  : fX12_laysRings [.ref 0] (mH I J) = run mX12_laysRings (7, 0, 0, [.ref 0, .int (nI 0), .null], [], (mH (up2 I 0 18 (nI 0)) J)) := (mth_eq (M := mX12_laysRings) (n := 3) rfl).trans ((exK_eq mX12_laysRings [7, 36, 46] 66 _).symm.trans rfl)
set_option maxRecDepth 100000 in
theorem bX12_laysRings_7 (I : Nat → Nat → Int32) (J : Nat → Nat → Int64) (x1 : Int32) (z2 : Value) : run mX12_laysRings (7, 0, 0, [.ref 0, .int x1, z2], [], (mH I J)) = (if (nI 64) ≤ x1 then (callK (fX12_laysGifts [.ref 0] (mH I J)) (fun r h' => run mX12_laysRings (30, 0, 0, [.ref 0, .int x1, .null], r.toList ++ [], h'))) else (bif inb x1 64 then run mX12_laysRings (7, 0, 0, [.ref 0, .int (x1 + (nI 1)), .null], [], (mH (up2 I 12 (x1).toNatClampNeg (nI 0)) J)) else none)) := (exK_eq mX12_laysRings [7, 30, 36, 46] 66 _).symm.trans rfl
set_option maxRecDepth 100000 in
theorem bX12_laysRings_30 (I : Nat → Nat → Int32) (J : Nat → Nat → Int64) (z1 : Value) (z2 : Value) : run mX12_laysRings (30, 0, 0, [.ref 0, z1, z2], [], (mH I J)) = (callK (fX12_laysTwos [.ref 0] (mH I J)) (fun r h' => run mX12_laysRings (34, 0, 0, [.ref 0, .null, .null], r.toList ++ [], h'))) := (exK_eq mX12_laysRings [7, 30, 34, 36, 46] 66 _).symm.trans rfl
set_option maxRecDepth 100000 in
theorem bX12_laysRings_34 (I : Nat → Nat → Int32) (J : Nat → Nat → Int64) (z1 : Value) (z2 : Value) : run mX12_laysRings (34, 0, 0, [.ref 0, z1, z2], [], (mH I J)) = run mX12_laysRings (36, 0, 0, [.ref 0, .int (nI 0), .null], [], (mH I J)) := (exK_eq mX12_laysRings [7, 30, 34, 36, 46] 66 _).symm.trans rfl
set_option maxRecDepth 100000 in
theorem bX12_laysRings_36 (I : Nat → Nat → Int32) (J : Nat → Nat → Int64) (x1 : Int32) (z2 : Value) : run mX12_laysRings (36, 0, 0, [.ref 0, .int x1, z2], [], (mH I J)) = (if (I 0 22) ≤ x1 then some (none, (mH I J)) else run mX12_laysRings (46, 0, 0, [.ref 0, .int x1, .int (nI 0)], [], (mH I J))) := (exK_eq mX12_laysRings [7, 30, 34, 36, 46] 66 _).symm.trans rfl
set_option maxRecDepth 100000 in
theorem bX12_laysRings_46 (I : Nat → Nat → Int32) (J : Nat → Nat → Int64) (x1 : Int32) (x2 : Int32) : run mX12_laysRings (46, 0, 0, [.ref 0, .int x1, .int x2], [], (mH I J)) = (if (I 0 22) ≤ x2 then run mX12_laysRings (36, 0, 0, [.ref 0, .int (x1 + (nI 1)), .int x2], [], (mH I J)) else (bif inb x1 36 then (bif inb (I 13 (x1).toNatClampNeg) 8 then (if (I 1 ((I 13 (x1).toNatClampNeg)).toNatClampNeg) = (nI 0) then (bif inb x2 36 then (bif inb (I 13 (x2).toNatClampNeg) 8 then (if (I 1 ((I 13 (x2).toNatClampNeg)).toNatClampNeg) ≤ (nI 0) then run mX12_laysRings (46, 0, 0, [.ref 0, .int x1, .int (x2 + (nI 1))], [], (mH I J)) else (callK (fX12_meets [.ref 0, .int x1, .int x2] (mH I J)) (fun r h' => run mX12_laysRings (88, 0, 0, [.ref 0, .int x1, .int x2], r.toList ++ [], h')))) else none) else none) else run mX12_laysRings (46, 0, 0, [.ref 0, .int x1, .int (x2 + (nI 1))], [], (mH I J))) else none) else none)) := (exK_eq mX12_laysRings [7, 30, 34, 36, 46, 88] 66 _).symm.trans rfl
set_option maxRecDepth 100000 in
theorem bX12_laysRings_88 (I : Nat → Nat → Int32) (J : Nat → Nat → Int64) (s0 : Int32) (x1 : Int32) (x2 : Int32) : run mX12_laysRings (88, 0, 0, [.ref 0, .int x1, .int x2], [.int s0], (mH I J)) = (if s0 = (nI 0) then run mX12_laysRings (97, 0, 0, [.ref 0, .int x1, .int x2], [], (mH I J)) else (callK (fX12_laysThrees [.ref 0, .int x1, .int x2] (mH I J)) (fun r h' => run mX12_laysRings (97, 0, 0, [.ref 0, .int x1, .int x2], r.toList ++ [], h')))) := (exK_eq mX12_laysRings [7, 30, 34, 36, 46, 88, 97] 66 _).symm.trans rfl
set_option maxRecDepth 100000 in
theorem bX12_laysRings_97 (I : Nat → Nat → Int32) (J : Nat → Nat → Int64) (x1 : Int32) (x2 : Int32) : run mX12_laysRings (97, 0, 0, [.ref 0, .int x1, .int x2], [], (mH I J)) = run mX12_laysRings (46, 0, 0, [.ref 0, .int x1, .int (x2 + (nI 1))], [], (mH I J)) := (exK_eq mX12_laysRings [7, 30, 34, 36, 46, 88, 97] 66 _).symm.trans rfl
set_option maxRecDepth 100000 in
theorem eX12_isPair (I : Nat → Nat → Int32) (J : Nat → Nat → Int64) (x1 : Int32) (x2 : Int32) : fX12_isPair [.ref 0, .int x1, .int x2] (mH I J) = (bif inb (((nI 8) * x1) + x2) 64 then (if (I 12 ((((nI 8) * x1) + x2)).toNatClampNeg) ≤ (nI 0) then some (some (.int (nI 0)), (mH I J)) else some (some (.int (nI 1)), (mH I J))) else none) := (mth_eq (M := mX12_isPair) (n := 3) rfl).trans ((exK_eq mX12_isPair [] 18 _).symm.trans rfl)
set_option maxRecDepth 100000 in
theorem eX12_isLoose (I : Nat → Nat → Int32) (J : Nat → Nat → Int64) (x1 : Int32) (x2 : Int32) : fX12_isLoose [.ref 0, .int x1, .int x2] (mH I J) = (callK (fX12_isPair [.ref 0, .int x1, .int x2] (mH I J)) (fun r h' => run mX12_isLoose (6, 0, 0, [.ref 0, .int x1, .int x2], r.toList ++ [], h'))) := (mth_eq (M := mX12_isLoose) (n := 3) rfl).trans ((exK_eq mX12_isLoose [6] 19 _).symm.trans rfl)
set_option maxRecDepth 100000 in
theorem bX12_isLoose_6 (I : Nat → Nat → Int32) (J : Nat → Nat → Int64) (s0 : Int32) (x1 : Int32) (x2 : Int32) : run mX12_isLoose (6, 0, 0, [.ref 0, .int x1, .int x2], [.int s0], (mH I J)) = (if s0 = (nI 0) then some (some (.int (nI 0)), (mH I J)) else (callK (fX12_isBound [.ref 0, .int x1, .int x2] (mH I J)) (fun r h' => run mX12_isLoose (15, 0, 0, [.ref 0, .int x1, .int x2], r.toList ++ [], h')))) := (exK_eq mX12_isLoose [6, 15] 19 _).symm.trans rfl
set_option maxRecDepth 100000 in
theorem bX12_isLoose_15 (I : Nat → Nat → Int32) (J : Nat → Nat → Int64) (s0 : Int32) (z0 : Value) (z1 : Value) (z2 : Value) : run mX12_isLoose (15, 0, 0, [z0, z1, z2], [.int s0], (mH I J)) = (if s0 = (nI 0) then some (some (.int (nI 1)), (mH I J)) else some (some (.int (nI 0)), (mH I J))) := (exK_eq mX12_isLoose [6, 15] 19 _).symm.trans rfl
set_option maxRecDepth 100000 in
theorem eX12_holds (I : Nat → Nat → Int32) (J : Nat → Nat → Int64) (x1 : Int32) : fX12_holds [.ref 0, .int x1] (mH I J) = run mX12_holds (4, 0, 0, [.ref 0, .int x1, .int (nI 0), .int (nI 0), .null], [], (mH I J)) := (mth_eq (M := mX12_holds) (n := 5) rfl).trans ((exK_eq mX12_holds [4, 17] 44 _).symm.trans rfl)
set_option maxRecDepth 100000 in
theorem bX12_holds_4 (I : Nat → Nat → Int32) (J : Nat → Nat → Int64) (x1 : Int32) (x2 : Int32) (x3 : Int32) (z4 : Value) : run mX12_holds (4, 0, 0, [.ref 0, .int x1, .int x2, .int x3, z4], [], (mH I J)) = (if (I 0 1) ≤ x3 then some (some (.int x2), (mH I J)) else run mX12_holds (17, 0, 0, [.ref 0, .int x1, .int x2, .int x3, .int (x3 + (nI 1))], [], (mH I J))) := (exK_eq mX12_holds [4, 17] 44 _).symm.trans rfl
set_option maxRecDepth 100000 in
theorem bX12_holds_17 (I : Nat → Nat → Int32) (J : Nat → Nat → Int64) (x1 : Int32) (x2 : Int32) (x3 : Int32) (x4 : Int32) : run mX12_holds (17, 0, 0, [.ref 0, .int x1, .int x2, .int x3, .int x4], [], (mH I J)) = (if (I 0 1) ≤ x4 then run mX12_holds (4, 0, 0, [.ref 0, .int x1, .int x2, .int (x3 + (nI 1)), .int x4], [], (mH I J)) else (callK (fX12_isLoose [.ref 0, .int x3, .int x4] (mH I J)) (fun r h' => run mX12_holds (34, 0, 0, [.ref 0, .int x1, .int x2, .int x3, .int x4], r.toList ++ [.int x2], h')))) := (exK_eq mX12_holds [4, 17, 34] 44 _).symm.trans rfl
set_option maxRecDepth 100000 in
theorem bX12_holds_34 (I : Nat → Nat → Int32) (J : Nat → Nat → Int64) (s0 : Int32) (s1 : Int32) (x1 : Int32) (x3 : Int32) (x4 : Int32) (z2 : Value) : run mX12_holds (34, 0, 0, [.ref 0, .int x1, z2, .int x3, .int x4], [.int s1, .int s0], (mH I J)) = (if s1 = (nI 0) then run mX12_holds (17, 0, 0, [.ref 0, .int x1, .int (s0 + (nI 0)), .int x3, .int (x4 + (nI 1))], [], (mH I J)) else (callK (fX12_between [.int x3, .int x4] (mH I J)) (fun r h' => run mX12_holds (44, 0, 0, [.ref 0, .int x1, .null, .int x3, .int x4], r.toList ++ [.int x1, .int s0], h')))) := (exK_eq mX12_holds [4, 17, 34, 44] 44 _).symm.trans rfl
set_option maxRecDepth 100000 in
theorem bX12_holds_44 (I : Nat → Nat → Int32) (J : Nat → Nat → Int64) (s0 : Int32) (s1 : Int32) (s2 : Int32) (x1 : Int32) (x3 : Int32) (x4 : Int32) (z2 : Value) : run mX12_holds (44, 0, 0, [.ref 0, .int x1, z2, .int x3, .int x4], [.int s2, .int s1, .int s0], (mH I J)) = (if (s1 &&& s2) = (nI 0) then run mX12_holds (17, 0, 0, [.ref 0, .int x1, .int (s0 + (nI 0)), .int x3, .int (x4 + (nI 1))], [], (mH I J)) else run mX12_holds (17, 0, 0, [.ref 0, .int x1, .int (s0 + (nI 1)), .int x3, .int (x4 + (nI 1))], [], (mH I J))) := (exK_eq mX12_holds [4, 17, 34, 44] 44 _).symm.trans rfl
set_option maxRecDepth 100000 in
theorem eX12_loosePairs (I : Nat → Nat → Int32) (J : Nat → Nat → Int64)  : fX12_loosePairs [.ref 0] (mH I J) = (callK (fX12_holds [.ref 0, .int (Int32.ofInt (-1))] (mH I J)) (fun r h' => run mX12_loosePairs (5, 0, 0, [.ref 0], r.toList ++ [], h'))) := (mth_eq (M := mX12_loosePairs) (n := 1) rfl).trans ((exK_eq mX12_loosePairs [5] 9 _).symm.trans rfl)
set_option maxRecDepth 100000 in
theorem bX12_loosePairs_5 (I : Nat → Nat → Int32) (J : Nat → Nat → Int64) (s0 : Int32) (z0 : Value) : run mX12_loosePairs (5, 0, 0, [z0], [.int s0], (mH I J)) = some (some (.int s0), (mH I J)) := (exK_eq mX12_loosePairs [5] 9 _).symm.trans rfl
set_option maxRecDepth 100000 in
theorem eX12_gaps (I : Nat → Nat → Int32) (J : Nat → Nat → Int64)  : fX12_gaps [.ref 0] (mH I J) = run mX12_gaps (4, 0, 0, [.ref 0, .int (nI 0), .int (nI 1)], [], (mH I J)) := (mth_eq (M := mX12_gaps) (n := 3) rfl).trans ((exK_eq mX12_gaps [4] 29 _).symm.trans rfl)
set_option maxRecDepth 100000 in
theorem bX12_gaps_4 (I : Nat → Nat → Int32) (J : Nat → Nat → Int64) (x1 : Int32) (x2 : Int32) : run mX12_gaps (4, 0, 0, [.ref 0, .int x1, .int x2], [], (mH I J)) = (if (I 0 1) ≤ x2 then some (some (.int x1), (mH I J)) else (callK (fX12_isGap [.ref 0, .int x2] (mH I J)) (fun r h' => run mX12_gaps (18, 0, 0, [.ref 0, .int x1, .int x2], r.toList ++ [.int x1], h')))) := (exK_eq mX12_gaps [4, 18] 29 _).symm.trans rfl
set_option maxRecDepth 100000 in
theorem bX12_gaps_18 (I : Nat → Nat → Int32) (J : Nat → Nat → Int64) (s0 : Int32) (s1 : Int32) (x2 : Int32) (z1 : Value) : run mX12_gaps (18, 0, 0, [.ref 0, z1, .int x2], [.int s1, .int s0], (mH I J)) = (if s1 = (nI 0) then run mX12_gaps (4, 0, 0, [.ref 0, .int (s0 ||| (nI 0)), .int (x2 + (nI 1))], [], (mH I J)) else run mX12_gaps (4, 0, 0, [.ref 0, .int (s0 ||| ((nI 1) <<< (x2 &&& 31))), .int (x2 + (nI 1))], [], (mH I J))) := (exK_eq mX12_gaps [4, 18] 29 _).symm.trans rfl
set_option maxRecDepth 100000 in
theorem eX12_price (I : Nat → Nat → Int32) (J : Nat → Nat → Int64) (x1 : Int32) : fX12_price [.ref 0, .int x1] (mH I J) = run mX12_price (4, 0, 0, [.ref 0, .int x1, .int (nI 0), .int (nI 0)], [], (mH I J)) := (mth_eq (M := mX12_price) (n := 4) rfl).trans ((exK_eq mX12_price [4] 29 _).symm.trans rfl)
set_option maxRecDepth 100000 in
theorem bX12_price_4 (I : Nat → Nat → Int32) (J : Nat → Nat → Int64) (x1 : Int32) (x2 : Int32) (x3 : Int32) : run mX12_price (4, 0, 0, [.ref 0, .int x1, .int x2, .int x3], [], (mH I J)) = (if (nI 8) ≤ x3 then some (some (.int x2), (mH I J)) else (callK (fX12_has [.int x1, .int x3] (mH I J)) (fun r h' => run mX12_price (16, 0, 0, [.ref 0, .int x1, .int x2, .int x3], r.toList ++ [.int x2], h')))) := (exK_eq mX12_price [4, 16] 29 _).symm.trans rfl
set_option maxRecDepth 100000 in
theorem bX12_price_16 (I : Nat → Nat → Int32) (J : Nat → Nat → Int64) (s0 : Int32) (s1 : Int32) (x1 : Int32) (x3 : Int32) (z2 : Value) : run mX12_price (16, 0, 0, [.ref 0, .int x1, z2, .int x3], [.int s1, .int s0], (mH I J)) = (if s1 = (nI 0) then run mX12_price (4, 0, 0, [.ref 0, .int x1, .int (s0 + (nI 0)), .int (x3 + (nI 1))], [], (mH I J)) else (bif inb x3 8 then run mX12_price (4, 0, 0, [.ref 0, .int x1, .int (s0 + (I 4 (x3).toNatClampNeg)), .int (x3 + (nI 1))], [], (mH I J)) else none)) := (exK_eq mX12_price [4, 16] 29 _).symm.trans rfl
set_option maxRecDepth 100000 in
theorem eX12_cheapest (I : Nat → Nat → Int32) (J : Nat → Nat → Int64)  : fX12_cheapest [.ref 0] (mH I J) = (callK (fX12_loosePairs [.ref 0] (mH I J)) (fun r h' => run mX12_cheapest (4, 0, 0, [.ref 0, .null, .null, .null, .null], r.toList ++ [], h'))) := (mth_eq (M := mX12_cheapest) (n := 5) rfl).trans ((exK_eq mX12_cheapest [4, 9] 49 _).symm.trans rfl)
set_option maxRecDepth 100000 in
theorem bX12_cheapest_4 (I : Nat → Nat → Int32) (J : Nat → Nat → Int64) (s0 : Int32) (z1 : Value) (z2 : Value) (z3 : Value) (z4 : Value) : run mX12_cheapest (4, 0, 0, [.ref 0, z1, z2, z3, z4], [.int s0], (mH I J)) = run mX12_cheapest (9, 0, 0, [.ref 0, .int s0, .int (Int32.ofInt (-1)), .int (nI 0), .null], [], (mH I J)) := (exK_eq mX12_cheapest [4, 9] 49 _).symm.trans rfl
set_option maxRecDepth 100000 in
theorem bX12_cheapest_9 (I : Nat → Nat → Int32) (J : Nat → Nat → Int64) (x1 : Int32) (x2 : Int32) (x3 : Int32) (z4 : Value) : run mX12_cheapest (9, 0, 0, [.ref 0, .int x1, .int x2, .int x3, z4], [], (mH I J)) = (if (nI 256) ≤ x3 then some (some (.int x2), (mH I J)) else (callK (fX12_gaps [.ref 0] (mH I J)) (fun r h' => run mX12_cheapest (21, 0, 0, [.ref 0, .int x1, .int x2, .int x3, .null], r.toList ++ [.int x3], h')))) := (exK_eq mX12_cheapest [4, 9, 21] 49 _).symm.trans rfl
set_option maxRecDepth 100000 in
theorem bX12_cheapest_21 (I : Nat → Nat → Int32) (J : Nat → Nat → Int64) (s0 : Int32) (s1 : Int32) (x1 : Int32) (x2 : Int32) (x3 : Int32) (z4 : Value) : run mX12_cheapest (21, 0, 0, [.ref 0, .int x1, .int x2, .int x3, z4], [.int s1, .int s0], (mH I J)) = (if (s0 &&& (s1 ^^^ (Int32.ofInt (-1)))) = (nI 0) then (if x2 = (Int32.ofInt (-1)) then (callK (fX12_holds [.ref 0, .int x3] (mH I J)) (fun r h' => run mX12_cheapest (62, 0, 0, [.ref 0, .int x1, .int x2, .int x3, .int (nI 1)], r.toList ++ [], h'))) else (callK (fX12_price [.ref 0, .int x3] (mH I J)) (fun r h' => run mX12_cheapest (37, 0, 0, [.ref 0, .int x1, .int x2, .int x3, .null], r.toList ++ [], h')))) else run mX12_cheapest (9, 0, 0, [.ref 0, .int x1, .int x2, .int (x3 + (nI 1)), .int (nI 0)], [], (mH I J))) := (exK_eq mX12_cheapest [4, 9, 21, 37, 62] 49 _).symm.trans rfl
set_option maxRecDepth 100000 in
theorem bX12_cheapest_62 (I : Nat → Nat → Int32) (J : Nat → Nat → Int64) (s0 : Int32) (x1 : Int32) (x2 : Int32) (x3 : Int32) (z4 : Value) : run mX12_cheapest (62, 0, 0, [.ref 0, .int x1, .int x2, .int x3, z4], [.int s0], (mH I J)) = (if s0 = x1 then run mX12_cheapest (9, 0, 0, [.ref 0, .int x1, .int x3, .int (x3 + (nI 1)), .null], [], (mH I J)) else run mX12_cheapest (9, 0, 0, [.ref 0, .int x1, .int x2, .int (x3 + (nI 1)), .null], [], (mH I J))) := (exK_eq mX12_cheapest [4, 9, 21, 37, 62] 49 _).symm.trans rfl
set_option maxRecDepth 100000 in
theorem bX12_cheapest_37 (I : Nat → Nat → Int32) (J : Nat → Nat → Int64) (s0 : Int32) (x1 : Int32) (x2 : Int32) (x3 : Int32) (z4 : Value) : run mX12_cheapest (37, 0, 0, [.ref 0, .int x1, .int x2, .int x3, z4], [.int s0], (mH I J)) = (callK (fX12_price [.ref 0, .int x2] (mH I J)) (fun r h' => run mX12_cheapest (42, 0, 0, [.ref 0, .int x1, .int x2, .int x3, .null], r.toList ++ [.int s0], h'))) := (exK_eq mX12_cheapest [4, 9, 21, 37, 42, 62] 49 _).symm.trans rfl
set_option maxRecDepth 100000 in
theorem bX12_cheapest_42 (I : Nat → Nat → Int32) (J : Nat → Nat → Int64) (s0 : Int32) (s1 : Int32) (x1 : Int32) (x2 : Int32) (x3 : Int32) (z4 : Value) : run mX12_cheapest (42, 0, 0, [.ref 0, .int x1, .int x2, .int x3, z4], [.int s1, .int s0], (mH I J)) = (if s1 ≤ s0 then run mX12_cheapest (9, 0, 0, [.ref 0, .int x1, .int x2, .int (x3 + (nI 1)), .int (nI 0)], [], (mH I J)) else (callK (fX12_holds [.ref 0, .int x3] (mH I J)) (fun r h' => run mX12_cheapest (62, 0, 0, [.ref 0, .int x1, .int x2, .int x3, .int (nI 1)], r.toList ++ [], h')))) := (exK_eq mX12_cheapest [4, 9, 21, 37, 42, 62] 49 _).symm.trans rfl
set_option maxRecDepth 100000 in
theorem eX12_needed (I : Nat → Nat → Int32) (J : Nat → Nat → Int64)  : fX12_needed [.ref 0] (mH I J) = run mX12_needed (4, 0, 0, [.ref 0, .int (nI 0), .int (nI 1)], [], (mH I J)) := (mth_eq (M := mX12_needed) (n := 3) rfl).trans ((exK_eq mX12_needed [4] 45 _).symm.trans rfl)
set_option maxRecDepth 100000 in
theorem bX12_needed_4 (I : Nat → Nat → Int32) (J : Nat → Nat → Int64) (x1 : Int32) (x2 : Int32) : run mX12_needed (4, 0, 0, [.ref 0, .int x1, .int x2], [], (mH I J)) = (if (I 0 1) ≤ x2 then some (some (.int x1), (mH I J)) else (callK (fX12_has [.int (I 0 6), .int x2] (mH I J)) (fun r h' => run mX12_needed (21, 0, 0, [.ref 0, .int x1, .int x2], r.toList ++ [.int x1], h')))) := (exK_eq mX12_needed [4, 21] 45 _).symm.trans rfl
set_option maxRecDepth 100000 in
theorem bX12_needed_21 (I : Nat → Nat → Int32) (J : Nat → Nat → Int64) (s0 : Int32) (s1 : Int32) (x2 : Int32) (z1 : Value) : run mX12_needed (21, 0, 0, [.ref 0, z1, .int x2], [.int s1, .int s0], (mH I J)) = (if s1 = (nI 0) then run mX12_needed (4, 0, 0, [.ref 0, .int (s0 ||| (nI 0)), .int (x2 + (nI 1))], [], (mH I J)) else (callK (fX12_holds [.ref 0, .int ((I 0 6) &&& (((nI 1) <<< (x2 &&& 31)) ^^^ (Int32.ofInt (-1))))] (mH I J)) (fun r h' => run mX12_needed (38, 0, 0, [.ref 0, .null, .int x2], r.toList ++ [.int s0], h')))) := (exK_eq mX12_needed [4, 21, 38] 45 _).symm.trans rfl
set_option maxRecDepth 100000 in
theorem bX12_needed_38 (I : Nat → Nat → Int32) (J : Nat → Nat → Int64) (s0 : Int32) (s1 : Int32) (x2 : Int32) (z1 : Value) : run mX12_needed (38, 0, 0, [.ref 0, z1, .int x2], [.int s1, .int s0], (mH I J)) = (callK (fX12_holds [.ref 0, .int (I 0 6)] (mH I J)) (fun r h' => run mX12_needed (46, 0, 0, [.ref 0, .null, .int x2], r.toList ++ [.int s1, .int s0], h'))) := (exK_eq mX12_needed [4, 21, 38, 46] 45 _).symm.trans rfl
set_option maxRecDepth 100000 in
theorem bX12_needed_46 (I : Nat → Nat → Int32) (J : Nat → Nat → Int64) (s0 : Int32) (s1 : Int32) (s2 : Int32) (x2 : Int32) (z1 : Value) : run mX12_needed (46, 0, 0, [.ref 0, z1, .int x2], [.int s2, .int s1, .int s0], (mH I J)) = (if s2 ≤ s1 then run mX12_needed (4, 0, 0, [.ref 0, .int (s0 ||| (nI 0)), .int (x2 + (nI 1))], [], (mH I J)) else run mX12_needed (4, 0, 0, [.ref 0, .int (s0 ||| ((nI 1) <<< (x2 &&& 31))), .int (x2 + (nI 1))], [], (mH I J))) := (exK_eq mX12_needed [4, 21, 38, 46] 45 _).symm.trans rfl
end
section
set_option maxRecDepth 100000 in
theorem eX12_step (I : Nat → Nat → Int32) (J : Nat → Nat → Int64) (x1 : Int32) (x2 : Int32) : fX12_step [.ref 0, .int x1, .int x2] (mH I J) = (callK (fX12_isStep [.ref 0, .int x1] (mH I J)) (fun r h' => run mX12_step (5, 0, 0, [.ref 0, .int x1, .int x2], r.toList ++ [], h'))) := (mth_eq (M := mX12_step) (n := 3) rfl).trans ((exK_eq mX12_step [5] 65 _).symm.trans rfl)
set_option maxRecDepth 100000 in
theorem bX12_step_5 (I : Nat → Nat → Int32) (J : Nat → Nat → Int64) (s0 : Int32) (x1 : Int32) (x2 : Int32) : run mX12_step (5, 0, 0, [.ref 0, .int x1, .int x2], [.int s0], (mH I J)) = (if s0 = (nI 0) then some (some (.int (-1000000001)), (mH I J)) else (if x2 = (nI 0) then (bif inb x1 8 then some (some (.int (I 1 (x1).toNatClampNeg)), (mH I J)) else none) else (if x2 = (nI 1) then (bif inb x1 8 then some (some (.int (I 2 (x1).toNatClampNeg)), (mH I J)) else none) else (if x2 = (nI 2) then (bif inb x1 8 then (if (I 3 (x1).toNatClampNeg) = (nI 0) then some (some (.int (nI 0)), (mH I J)) else some (some (.int (nI 1)), (mH I J))) else none) else (if x2 = (nI 3) then (callK (fX12_isGap [.ref 0, .int x1] (mH I J)) (fun r h' => run mX12_step (90, 0, 0, [.ref 0, .int x1, .int x2], r.toList ++ [], h'))) else (if x2 = (nI 4) then (callK (fX12_isGap [.ref 0, .int x1] (mH I J)) (fun r h' => run mX12_step (109, 0, 0, [.ref 0, .int x1, .int x2], r.toList ++ [], h'))) else (if x2 = (nI 5) then (callK (fX12_waits [.ref 0, .int x1] (mH I J)) (fun r h' => run mX12_step (129, 0, 0, [.ref 0, .int x1, .int x2], r.toList ++ [], h'))) else (if x2 = (nI 6) then (callK (fX12_conflicts [.ref 0, .int x1] (mH I J)) (fun r h' => run mX12_step (135, 0, 0, [.ref 0, .int x1, .int x2], r.toList ++ [], h'))) else some (some (.int (-1000000002)), (mH I J)))))))))) := (exK_eq mX12_step [5, 90, 109, 129, 135] 65 _).symm.trans rfl
set_option maxRecDepth 100000 in
theorem bX12_step_90 (I : Nat → Nat → Int32) (J : Nat → Nat → Int64) (s0 : Int32) (x1 : Int32) (z2 : Value) : run mX12_step (90, 0, 0, [.ref 0, .int x1, z2], [.int s0], (mH I J)) = (if s0 = (nI 0) then some (some (.int (Int32.ofInt (-1))), (mH I J)) else (bif inb x1 8 then some (some (.int (I 4 (x1).toNatClampNeg)), (mH I J)) else none)) := (exK_eq mX12_step [5, 90, 109, 129, 135] 65 _).symm.trans rfl
set_option maxRecDepth 100000 in
theorem bX12_step_109 (I : Nat → Nat → Int32) (J : Nat → Nat → Int64) (s0 : Int32) (x1 : Int32) (z2 : Value) : run mX12_step (109, 0, 0, [.ref 0, .int x1, z2], [.int s0], (mH I J)) = (if s0 = (nI 0) then some (some (.int (Int32.ofInt (-1))), (mH I J)) else (callK (fX12_holds [.ref 0, .int ((nI 1) <<< (x1 &&& 31))] (mH I J)) (fun r h' => run mX12_step (119, 0, 0, [.ref 0, .int x1, .null], r.toList ++ [], h')))) := (exK_eq mX12_step [5, 90, 109, 119, 129, 135] 65 _).symm.trans rfl
set_option maxRecDepth 100000 in
theorem bX12_step_129 (I : Nat → Nat → Int32) (J : Nat → Nat → Int64) (s0 : Int32) (z0 : Value) (z1 : Value) (z2 : Value) : run mX12_step (129, 0, 0, [z0, z1, z2], [.int s0], (mH I J)) = some (some (.int s0), (mH I J)) := (exK_eq mX12_step [5, 90, 109, 119, 129, 135] 65 _).symm.trans rfl
set_option maxRecDepth 100000 in
theorem bX12_step_135 (I : Nat → Nat → Int32) (J : Nat → Nat → Int64) (s0 : Int32) (z0 : Value) (z1 : Value) (z2 : Value) : run mX12_step (135, 0, 0, [z0, z1, z2], [.int s0], (mH I J)) = some (some (.int s0), (mH I J)) := (exK_eq mX12_step [5, 90, 109, 119, 129, 135] 65 _).symm.trans rfl
set_option maxRecDepth 100000 in
theorem bX12_step_119 (I : Nat → Nat → Int32) (J : Nat → Nat → Int64) (s0 : Int32) (z0 : Value) (z1 : Value) (z2 : Value) : run mX12_step (119, 0, 0, [z0, z1, z2], [.int s0], (mH I J)) = some (some (.int s0), (mH I J)) := (exK_eq mX12_step [5, 90, 109, 119, 129, 135] 65 _).symm.trans rfl
set_option maxRecDepth 100000 in
theorem eX12_pair (I : Nat → Nat → Int32) (J : Nat → Nat → Int64) (x1 : Int32) (x2 : Int32) (x3 : Int32) : fX12_pair [.ref 0, .int x1, .int x2, .int x3] (mH I J) = (callK (fX12_isStep [.ref 0, .int x1] (mH I J)) (fun r h' => run mX12_pair (5, 0, 0, [.ref 0, .int x1, .int x2, .int x3], r.toList ++ [], h'))) := (mth_eq (M := mX12_pair) (n := 4) rfl).trans ((exK_eq mX12_pair [5] 77 _).symm.trans rfl)
set_option maxRecDepth 100000 in
theorem bX12_pair_5 (I : Nat → Nat → Int32) (J : Nat → Nat → Int64) (s0 : Int32) (x1 : Int32) (x2 : Int32) (x3 : Int32) : run mX12_pair (5, 0, 0, [.ref 0, .int x1, .int x2, .int x3], [.int s0], (mH I J)) = (if s0 = (nI 0) then some (some (.int (-1000000001)), (mH I J)) else (callK (fX12_isStep [.ref 0, .int x2] (mH I J)) (fun r h' => run mX12_pair (13, 0, 0, [.ref 0, .int x1, .int x2, .int x3], r.toList ++ [], h')))) := (exK_eq mX12_pair [5, 13] 77 _).symm.trans rfl
set_option maxRecDepth 100000 in
theorem bX12_pair_13 (I : Nat → Nat → Int32) (J : Nat → Nat → Int64) (s0 : Int32) (x1 : Int32) (x2 : Int32) (x3 : Int32) : run mX12_pair (13, 0, 0, [.ref 0, .int x1, .int x2, .int x3], [.int s0], (mH I J)) = (if s0 = (nI 0) then some (some (.int (-1000000001)), (mH I J)) else (if x1 = x2 then some (some (.int (-1000000001)), (mH I J)) else (if x3 < (nI 0) then some (some (.int (-1000000002)), (mH I J)) else (if x3 ≤ (nI 3) then (callK (fX12_isAhead [.ref 0, .int x1, .int x2] (mH I J)) (fun r h' => run mX12_pair (42, 0, 0, [.ref 0, .int x1, .int x2, .int x3], r.toList ++ [], h'))) else some (some (.int (-1000000002)), (mH I J)))))) := (exK_eq mX12_pair [5, 13, 42] 77 _).symm.trans rfl
set_option maxRecDepth 100000 in
theorem bX12_pair_42 (I : Nat → Nat → Int32) (J : Nat → Nat → Int64) (s0 : Int32) (x1 : Int32) (x2 : Int32) (x3 : Int32) : run mX12_pair (42, 0, 0, [.ref 0, .int x1, .int x2, .int x3], [.int s0], (mH I J)) = (if s0 = (nI 0) then some (some (.int (-1000000003)), (mH I J)) else (if x3 = (nI 0) then (callK (fX12_isPair [.ref 0, .int x1, .int x2] (mH I J)) (fun r h' => run mX12_pair (82, 0, 0, [.ref 0, .int x1, .int x2, .int x3], r.toList ++ [], h'))) else (if x3 = (nI 1) then (callK (fX12_isLoose [.ref 0, .int x1, .int x2] (mH I J)) (fun r h' => run mX12_pair (97, 0, 0, [.ref 0, .int x1, .int x2, .int x3], r.toList ++ [], h'))) else (if x3 = (nI 2) then (callK (fX12_isPair [.ref 0, .int x1, .int x2] (mH I J)) (fun r h' => run mX12_pair (112, 0, 0, [.ref 0, .int x1, .int x2, .int x3], r.toList ++ [], h'))) else (bif inb (((nI 8) * x1) + x2) 64 then some (some (.int (I 12 ((((nI 8) * x1) + x2)).toNatClampNeg)), (mH I J)) else none))))) := (exK_eq mX12_pair [5, 13, 42, 82, 97, 112] 77 _).symm.trans rfl
set_option maxRecDepth 100000 in
theorem bX12_pair_82 (I : Nat → Nat → Int32) (J : Nat → Nat → Int64) (s0 : Int32) (z0 : Value) (z1 : Value) (z2 : Value) (z3 : Value) : run mX12_pair (82, 0, 0, [z0, z1, z2, z3], [.int s0], (mH I J)) = (if s0 = (nI 0) then some (some (.int (nI 0)), (mH I J)) else some (some (.int (nI 1)), (mH I J))) := (exK_eq mX12_pair [5, 13, 42, 82, 97, 112] 77 _).symm.trans rfl
set_option maxRecDepth 100000 in
theorem bX12_pair_97 (I : Nat → Nat → Int32) (J : Nat → Nat → Int64) (s0 : Int32) (z0 : Value) (z1 : Value) (z2 : Value) (z3 : Value) : run mX12_pair (97, 0, 0, [z0, z1, z2, z3], [.int s0], (mH I J)) = (if s0 = (nI 0) then some (some (.int (nI 0)), (mH I J)) else some (some (.int (nI 1)), (mH I J))) := (exK_eq mX12_pair [5, 13, 42, 82, 97, 112] 77 _).symm.trans rfl
set_option maxRecDepth 100000 in
theorem bX12_pair_112 (I : Nat → Nat → Int32) (J : Nat → Nat → Int64) (s0 : Int32) (x1 : Int32) (x2 : Int32) (z3 : Value) : run mX12_pair (112, 0, 0, [.ref 0, .int x1, .int x2, z3], [.int s0], (mH I J)) = (if s0 = (nI 0) then some (some (.int (nI 0)), (mH I J)) else (callK (fX12_between [.int x1, .int x2] (mH I J)) (fun r h' => run mX12_pair (124, 0, 0, [.ref 0, .int x1, .int x2, .null], r.toList ++ [.int (I 0 6)], h')))) := (exK_eq mX12_pair [5, 13, 42, 82, 97, 112, 124] 77 _).symm.trans rfl
set_option maxRecDepth 100000 in
theorem bX12_pair_124 (I : Nat → Nat → Int32) (J : Nat → Nat → Int64) (s0 : Int32) (s1 : Int32) (z0 : Value) (z1 : Value) (z2 : Value) (z3 : Value) : run mX12_pair (124, 0, 0, [z0, z1, z2, z3], [.int s1, .int s0], (mH I J)) = (if (s0 &&& s1) = (nI 0) then some (some (.int (nI 0)), (mH I J)) else some (some (.int (nI 1)), (mH I J))) := (exK_eq mX12_pair [5, 13, 42, 82, 97, 112, 124] 77 _).symm.trans rfl
set_option maxRecDepth 100000 in
theorem eX12_feed (I : Nat → Nat → Int32) (J : Nat → Nat → Int64) (x1 : Int32) : fX12_feed [.ref 0, .int x1] (mH I J) = (if x1 < (nI 0) then some (some (.int (-1000000002)), (mH I J)) else (if x1 ≤ (nI 255) then (if (I 0 24) = (nI 120) then some (some (.int (-1000000004)), (mH I J)) else (bif inb (I 0 24) 120 then some (some (.int ((I 0 24) + (nI 1))), (mH (up2 (up2 I 15 ((I 0 24)).toNatClampNeg x1) 0 24 ((I 0 24) + (nI 1))) J)) else none)) else some (some (.int (-1000000002)), (mH I J)))) := (mth_eq (M := mX12_feed) (n := 2) rfl).trans ((exK_eq mX12_feed [] 33 _).symm.trans rfl)
set_option maxRecDepth 100000 in
theorem eX12_sign (I : Nat → Nat → Int32) (J : Nat → Nat → Int64)  : fX12_sign [.ref 0] (mH I J) = (if (I 0 24) ≤ (I 0 26) then (if (I 0 24) ≤ (I 0 26) then some (some (.int (Int32.ofInt (-1))), (mH I J)) else (bif inb (I 0 26) 120 then some (some (.int (I 15 ((I 0 26)).toNatClampNeg)), (mH I J)) else none)) else (bif inb (I 0 26) 120 then (if (I 15 ((I 0 26)).toNatClampNeg) = (nI 32) then run mX12_sign (0, 0, 0, [.ref 0], [], (mH (up2 I 0 26 ((I 0 26) + (nI 1))) J)) else (if (I 0 24) ≤ (I 0 26) then some (some (.int (Int32.ofInt (-1))), (mH I J)) else (bif inb (I 0 26) 120 then some (some (.int (I 15 ((I 0 26)).toNatClampNeg)), (mH I J)) else none))) else none)) := (mth_eq (M := mX12_sign) (n := 1) rfl).trans ((exK_eq mX12_sign [0] 37 _).symm.trans rfl)
set_option maxRecDepth 100000 in
theorem bX12_sign_0 (I : Nat → Nat → Int32) (J : Nat → Nat → Int64)  : run mX12_sign (0, 0, 0, [.ref 0], [], (mH I J)) = (if (I 0 24) ≤ (I 0 26) then (if (I 0 24) ≤ (I 0 26) then some (some (.int (Int32.ofInt (-1))), (mH I J)) else (bif inb (I 0 26) 120 then some (some (.int (I 15 ((I 0 26)).toNatClampNeg)), (mH I J)) else none)) else (bif inb (I 0 26) 120 then (if (I 15 ((I 0 26)).toNatClampNeg) = (nI 32) then run mX12_sign (0, 0, 0, [.ref 0], [], (mH (up2 I 0 26 ((I 0 26) + (nI 1))) J)) else (if (I 0 24) ≤ (I 0 26) then some (some (.int (Int32.ofInt (-1))), (mH I J)) else (bif inb (I 0 26) 120 then some (some (.int (I 15 ((I 0 26)).toNatClampNeg)), (mH I J)) else none))) else none)) := (exK_eq mX12_sign [0] 37 _).symm.trans rfl
set_option maxRecDepth 100000 in
theorem eX12_ends (I : Nat → Nat → Int32) (J : Nat → Nat → Int64)  : fX12_ends [.ref 0] (mH I J) = (callK (fX12_sign [.ref 0] (mH I J)) (fun r h' => run mX12_ends (4, 0, 0, [.ref 0], r.toList ++ [], h'))) := (mth_eq (M := mX12_ends) (n := 1) rfl).trans ((exK_eq mX12_ends [4] 19 _).symm.trans rfl)
set_option maxRecDepth 100000 in
theorem bX12_ends_4 (I : Nat → Nat → Int32) (J : Nat → Nat → Int64) (s0 : Int32) : run mX12_ends (4, 0, 0, [.ref 0], [.int s0], (mH I J)) = (if s0 = (nI 59) then some (some (.int (nI 0)), (mH (up2 I 0 26 ((I 0 26) + (nI 1))) J)) else some (some (.int (nI 1)), (mH I J))) := (exK_eq mX12_ends [4] 19 _).symm.trans rfl
set_option maxRecDepth 100000 in
theorem eX12_readsThread (I : Nat → Nat → Int32) (J : Nat → Nat → Int64)  : fX12_readsThread [.ref 0] (mH I J) = (if (I 0 27) = (nI 3) then some (some (.int (nI 3)), (mH I J)) else (callK (fX12_ends [.ref 0] (mH (up2 (up2 I 0 27 ((I 0 27) + (nI 1))) 0 26 ((I 0 26) + (nI 1))) J)) (fun r h' => run mX12_readsThread (34, 0, 0, [.ref 0], r.toList ++ [], h')))) := (mth_eq (M := mX12_readsThread) (n := 1) rfl).trans ((exK_eq mX12_readsThread [34] 26 _).symm.trans rfl)
set_option maxRecDepth 100000 in
theorem bX12_readsThread_34 (I : Nat → Nat → Int32) (J : Nat → Nat → Int64) (s0 : Int32) (z0 : Value) : run mX12_readsThread (34, 0, 0, [z0], [.int s0], (mH I J)) = some (some (.int s0), (mH I J)) := (exK_eq mX12_readsThread [34] 26 _).symm.trans rfl
set_option maxRecDepth 100000 in
theorem eX12_readsStep (I : Nat → Nat → Int32) (J : Nat → Nat → Int64) (x1 : Int32) : fX12_readsStep [.ref 0, .int x1] (mH I J) = (if (I 0 27) = (nI 0) then some (some (.int (nI 1)), (mH I J)) else (if (I 0 28) = (nI 8) then some (some (.int (nI 3)), (mH I J)) else (callK (fX12_sign [.ref 0] (mH (up2 I 0 26 ((I 0 26) + (nI 1))) J)) (fun r h' => run mX12_readsStep (34, 0, 0, [.ref 0, .int x1, .null], r.toList ++ [], h'))))) := (mth_eq (M := mX12_readsStep) (n := 3) rfl).trans ((exK_eq mX12_readsStep [34] 76 _).symm.trans rfl)
set_option maxRecDepth 100000 in
theorem bX12_readsStep_34 (I : Nat → Nat → Int32) (J : Nat → Nat → Int64) (s0 : Int32) (x1 : Int32) (z2 : Value) : run mX12_readsStep (34, 0, 0, [.ref 0, .int x1, z2], [.int s0], (mH I J)) = (if s0 < (nI 48) then some (some (.int (nI 1)), (mH I J)) else (if s0 ≤ (nI 57) then (if s0 ≤ (nI 50) then (bif inb (I 0 28) 8 then (bif inb (I 0 28) 8 then (bif inb (I 0 28) 8 && isB x1 then (callK (fX12_ends [.ref 0] (mH (up2 (up2 (up2 (up2 (up2 I 0 26 ((I 0 26) + (nI 1))) 16 ((I 0 28)).toNatClampNeg ((I 0 27) - (nI 1))) 17 ((I 0 28)).toNatClampNeg (s0 - (nI 48))) 18 ((I 0 28)).toNatClampNeg x1) 0 28 ((I 0 28) + (nI 1))) J)) (fun r h' => run mX12_readsStep (119, 0, 0, [.ref 0, .int x1, .int s0], r.toList ++ [], h'))) else none) else none) else none) else some (some (.int (nI 2)), (mH I J))) else some (some (.int (nI 1)), (mH I J)))) := (exK_eq mX12_readsStep [34, 119] 76 _).symm.trans rfl
set_option maxRecDepth 100000 in
theorem bX12_readsStep_119 (I : Nat → Nat → Int32) (J : Nat → Nat → Int64) (s0 : Int32) (z0 : Value) (z1 : Value) (z2 : Value) : run mX12_readsStep (119, 0, 0, [z0, z1, z2], [.int s0], (mH I J)) = some (some (.int s0), (mH I J)) := (exK_eq mX12_readsStep [34, 119] 76 _).symm.trans rfl
set_option maxRecDepth 100000 in
theorem eX12_reads (I : Nat → Nat → Int32) (J : Nat → Nat → Int64)  : fX12_reads [.ref 0] (mH I J) = run mX12_reads (17, 0, 0, [.ref 0, .int (nI 0), .null], [], (mH (up2 (up2 (up2 I 0 26 (nI 0)) 0 27 (nI 0)) 0 28 (nI 0)) J)) := (mth_eq (M := mX12_reads) (n := 3) rfl).trans ((exK_eq mX12_reads [17] 51 _).symm.trans rfl)
set_option maxRecDepth 100000 in
theorem bX12_reads_17 (I : Nat → Nat → Int32) (J : Nat → Nat → Int64) (x1 : Int32) (z2 : Value) : run mX12_reads (17, 0, 0, [.ref 0, .int x1, z2], [], (mH I J)) = (if x1 = (nI 0) then (callK (fX12_sign [.ref 0] (mH I J)) (fun r h' => run mX12_reads (25, 0, 0, [.ref 0, .int x1, .null], r.toList ++ [], h'))) else some (some (.int x1), (mH I J))) := (exK_eq mX12_reads [17, 25] 51 _).symm.trans rfl
set_option maxRecDepth 100000 in
theorem bX12_reads_25 (I : Nat → Nat → Int32) (J : Nat → Nat → Int64) (s0 : Int32) (x1 : Int32) (z2 : Value) : run mX12_reads (25, 0, 0, [.ref 0, .int x1, z2], [.int s0], (mH I J)) = (if s0 = (Int32.ofInt (-1)) then some (some (.int x1), (mH I J)) else (callK (fX12_sign [.ref 0] (mH I J)) (fun r h' => run mX12_reads (33, 0, 0, [.ref 0, .int x1, .null], r.toList ++ [], h')))) := (exK_eq mX12_reads [17, 25, 33] 51 _).symm.trans rfl
set_option maxRecDepth 100000 in
theorem bX12_reads_33 (I : Nat → Nat → Int32) (J : Nat → Nat → Int64) (s0 : Int32) (z1 : Value) (z2 : Value) : run mX12_reads (33, 0, 0, [.ref 0, z1, z2], [.int s0], (mH I J)) = (if s0 = (nI 116) then (callK (fX12_readsThread [.ref 0] (mH I J)) (fun r h' => run mX12_reads (44, 0, 0, [.ref 0, .null, .int s0], r.toList ++ [], h'))) else (if s0 = (nI 114) then (if s0 = (nI 119) then (callK (fX12_readsStep [.ref 0, .int (nI 1)] (mH I J)) (fun r h' => run mX12_reads (74, 0, 0, [.ref 0, .null, .int s0], r.toList ++ [], h'))) else (callK (fX12_readsStep [.ref 0, .int (nI 0)] (mH I J)) (fun r h' => run mX12_reads (74, 0, 0, [.ref 0, .null, .int s0], r.toList ++ [], h')))) else (if s0 = (nI 119) then (if s0 = (nI 119) then (callK (fX12_readsStep [.ref 0, .int (nI 1)] (mH I J)) (fun r h' => run mX12_reads (74, 0, 0, [.ref 0, .null, .int s0], r.toList ++ [], h'))) else (callK (fX12_readsStep [.ref 0, .int (nI 0)] (mH I J)) (fun r h' => run mX12_reads (74, 0, 0, [.ref 0, .null, .int s0], r.toList ++ [], h')))) else run mX12_reads (17, 0, 0, [.ref 0, .int (nI 1), .int s0], [], (mH I J))))) := (exK_eq mX12_reads [17, 25, 33, 44, 74] 51 _).symm.trans rfl
set_option maxRecDepth 100000 in
theorem bX12_reads_44 (I : Nat → Nat → Int32) (J : Nat → Nat → Int64) (s0 : Int32) (z1 : Value) (z2 : Value) : run mX12_reads (44, 0, 0, [.ref 0, z1, z2], [.int s0], (mH I J)) = run mX12_reads (17, 0, 0, [.ref 0, .int s0, .null], [], (mH I J)) := (exK_eq mX12_reads [17, 25, 33, 44, 74] 51 _).symm.trans rfl
set_option maxRecDepth 100000 in
theorem bX12_reads_74 (I : Nat → Nat → Int32) (J : Nat → Nat → Int64) (s0 : Int32) (z1 : Value) (z2 : Value) : run mX12_reads (74, 0, 0, [.ref 0, z1, z2], [.int s0], (mH I J)) = run mX12_reads (17, 0, 0, [.ref 0, .int s0, .null], [], (mH I J)) := (exK_eq mX12_reads [17, 25, 33, 44, 74] 51 _).symm.trans rfl
set_option maxRecDepth 100000 in
theorem eX12_threads (I : Nat → Nat → Int32) (J : Nat → Nat → Int64)  : fX12_threads [.ref 0] (mH I J) = (callK (fX12_reads [.ref 0] (mH I J)) (fun r h' => run mX12_threads (4, 0, 0, [.ref 0, .null, .null], r.toList ++ [], h'))) := (mth_eq (M := mX12_threads) (n := 3) rfl).trans ((exK_eq mX12_threads [4, 50, 102] 113 _).symm.trans rfl)
set_option maxRecDepth 100000 in
theorem bX12_threads_4 (I : Nat → Nat → Int32) (J : Nat → Nat → Int64) (s0 : Int32) (z1 : Value) (z2 : Value) : run mX12_threads (4, 0, 0, [.ref 0, z1, z2], [.int s0], (mH I J)) = (if s0 ≤ (nI 0) then run mX12_threads (50, 0, 0, [.ref 0, .int s0, .int (nI 0)], [], (mH (up2 (up2 (up2 (up2 I 0 24 (nI 0)) 0 25 (Int32.ofInt (-1))) 0 0 (I 0 27)) 0 1 (I 0 28)) J)) else some (some (.int ((Int32.ofInt (-10)) - s0)), (mH (up2 (up2 I 0 24 (nI 0)) 0 25 (I 0 26)) J))) := (exK_eq mX12_threads [4, 50, 102] 113 _).symm.trans rfl
set_option maxRecDepth 100000 in
theorem bX12_threads_50 (I : Nat → Nat → Int32) (J : Nat → Nat → Int64) (x2 : Int32) (z1 : Value) : run mX12_threads (50, 0, 0, [.ref 0, z1, .int x2], [], (mH I J)) = (if (I 0 1) ≤ x2 then run mX12_threads (102, 0, 0, [.ref 0, .null, .int (nI 0)], [], (mH I J)) else (bif inb x2 8 then (bif inb x2 8 then (bif inb x2 8 then (bif inb x2 8 then (bif inb x2 8 then (bif inb x2 8 && isB (I 18 (x2).toNatClampNeg) then run mX12_threads (50, 0, 0, [.ref 0, .null, .int (x2 + (nI 1))], [], (mH (up2 (up2 (up2 I 1 (x2).toNatClampNeg (I 16 (x2).toNatClampNeg)) 2 (x2).toNatClampNeg (I 17 (x2).toNatClampNeg)) 3 (x2).toNatClampNeg (I 18 (x2).toNatClampNeg)) J)) else none) else none) else none) else none) else none) else none)) := (exK_eq mX12_threads [4, 50, 102] 113 _).symm.trans rfl
set_option maxRecDepth 100000 in
theorem bX12_threads_102 (I : Nat → Nat → Int32) (J : Nat → Nat → Int64) (x2 : Int32) (z1 : Value) : run mX12_threads (102, 0, 0, [.ref 0, z1, .int x2], [], (mH I J)) = (if (nI 8) ≤ x2 then (callK (fX12_goes [.ref 0, .ref 5, .int (nI 1)] (mH (up2 (up2 (up2 I 0 6 (nI 0)) 0 7 (nI 15)) 0 12 (nI 0)) J)) (fun r h' => run mX12_threads (147, 0, 0, [.ref 0, .null, .int x2], r.toList ++ [.ref 0], h'))) else (bif inb x2 8 then run mX12_threads (102, 0, 0, [.ref 0, .null, .int (x2 + (nI 1))], [], (mH (up2 I 4 (x2).toNatClampNeg (nI 1)) J)) else none)) := (exK_eq mX12_threads [4, 50, 102, 147] 113 _).symm.trans rfl
set_option maxRecDepth 100000 in
theorem bX12_threads_147 (I : Nat → Nat → Int32) (J : Nat → Nat → Int64) (s1 : Int32) (z1 : Value) (z2 : Value) : run mX12_threads (147, 0, 0, [.ref 0, z1, z2], [.int s1, .ref 0], (mH I J)) = (callK (fX12_laysRings [.ref 0] (mH (up2 I 0 10 s1) J)) (fun r h' => run mX12_threads (154, 0, 0, [.ref 0, .null, .null], r.toList ++ [], h'))) := (exK_eq mX12_threads [4, 50, 102, 147, 154] 113 _).symm.trans rfl
set_option maxRecDepth 100000 in
theorem bX12_threads_154 (I : Nat → Nat → Int32) (J : Nat → Nat → Int64) (z1 : Value) (z2 : Value) : run mX12_threads (154, 0, 0, [.ref 0, z1, z2], [], (mH I J)) = some (some (.int (I 0 1)), (mH (up2 (up2 (up2 (up2 I 0 37 (nI 0)) 0 32 (nI 0)) 24 0 (nI 0)) 24 1 (nI 0)) J)) := (exK_eq mX12_threads [4, 50, 102, 147, 154] 113 _).symm.trans rfl
set_option maxRecDepth 100000 in
theorem eX12_fault (I : Nat → Nat → Int32) (J : Nat → Nat → Int64)  : fX12_fault [.ref 0] (mH I J) = some (some (.int (I 0 25)), (mH I J)) := (mth_eq (M := mX12_fault) (n := 1) rfl).trans ((exK_eq mX12_fault [] 8 _).symm.trans rfl)
set_option maxRecDepth 100000 in
theorem eX12_marks (I : Nat → Nat → Int32) (J : Nat → Nat → Int64)  : fX12_marks [.ref 0] (mH I J) = (if (I 0 32) = (nI 20) then run mX12_marks (11, 0, 0, [.ref 0, .int (nI 1)], [], (mH I J)) else (bif inb (I 0 32) 20 then (bif inb (I 0 32) 20 then run mX12_marks (120, 0, 0, [.ref 0, .int (nI 0)], [], (mH (up2 (up2 I 19 ((I 0 32)).toNatClampNeg (I 0 6)) 20 ((I 0 32)).toNatClampNeg (I 0 7)) J)) else none) else none)) := (mth_eq (M := mX12_marks) (n := 2) rfl).trans ((exK_eq mX12_marks [11, 54, 120] 103 _).symm.trans rfl)
set_option maxRecDepth 100000 in
theorem bX12_marks_11 (I : Nat → Nat → Int32) (J : Nat → Nat → Int64) (x1 : Int32) : run mX12_marks (11, 0, 0, [.ref 0, .int x1], [], (mH I J)) = (if (nI 20) ≤ x1 then run mX12_marks (54, 0, 0, [.ref 0, .int (nI 8)], [], (mH I J)) else (bif inb x1 20 then (bif inb (x1 - (nI 1)) 20 then (bif inb x1 20 then (bif inb (x1 - (nI 1)) 20 then run mX12_marks (11, 0, 0, [.ref 0, .int (x1 + (nI 1))], [], (mH (up2 (up2 I 19 ((x1 - (nI 1))).toNatClampNeg (I 19 (x1).toNatClampNeg)) 20 ((x1 - (nI 1))).toNatClampNeg (I 20 (x1).toNatClampNeg)) J)) else none) else none) else none) else none)) := (exK_eq mX12_marks [11, 54, 120] 103 _).symm.trans rfl
set_option maxRecDepth 100000 in
theorem bX12_marks_120 (I : Nat → Nat → Int32) (J : Nat → Nat → Int64) (x1 : Int32) : run mX12_marks (120, 0, 0, [.ref 0, .int x1], [], (mH I J)) = (if (nI 8) ≤ x1 then some (none, (mH (up2 (up2 I 0 32 ((I 0 32) + (nI 1))) 0 12 (nI 0)) J)) else (bif inb x1 8 then (bif inb (((nI 8) * (I 0 32)) + x1) 160 then run mX12_marks (120, 0, 0, [.ref 0, .int (x1 + (nI 1))], [], (mH (up2 I 21 ((((nI 8) * (I 0 32)) + x1)).toNatClampNeg (I 4 (x1).toNatClampNeg)) J)) else none) else none)) := (exK_eq mX12_marks [11, 54, 120] 103 _).symm.trans rfl
set_option maxRecDepth 100000 in
theorem bX12_marks_54 (I : Nat → Nat → Int32) (J : Nat → Nat → Int64) (x1 : Int32) : run mX12_marks (54, 0, 0, [.ref 0, .int x1], [], (mH I J)) = (if (nI 160) ≤ x1 then (bif inb ((I 0 32) - (nI 1)) 20 then (bif inb ((I 0 32) - (nI 1)) 20 then run mX12_marks (120, 0, 0, [.ref 0, .int (nI 0)], [], (mH (up2 (up2 (up2 I 0 32 ((I 0 32) - (nI 1))) 19 (((I 0 32) - (nI 1))).toNatClampNeg (I 0 6)) 20 (((I 0 32) - (nI 1))).toNatClampNeg (I 0 7)) J)) else none) else none) else (bif inb x1 160 then (bif inb (x1 - (nI 8)) 160 then run mX12_marks (54, 0, 0, [.ref 0, .int (x1 + (nI 1))], [], (mH (up2 I 21 ((x1 - (nI 8))).toNatClampNeg (I 21 (x1).toNatClampNeg)) J)) else none) else none)) := (exK_eq mX12_marks [11, 54, 120] 103 _).symm.trans rfl
set_option maxRecDepth 100000 in
theorem eX12_fence (I : Nat → Nat → Int32) (J : Nat → Nat → Int64) (x1 : Int32) (x2 : Int32) : fX12_fence [.ref 0, .int x1, .int x2] (mH I J) = (callK (fX12_isGap [.ref 0, .int x1] (mH I J)) (fun r h' => run mX12_fence (5, 0, 0, [.ref 0, .int x1, .int x2], r.toList ++ [], h'))) := (mth_eq (M := mX12_fence) (n := 3) rfl).trans ((exK_eq mX12_fence [5] 37 _).symm.trans rfl)
set_option maxRecDepth 100000 in
theorem bX12_fence_5 (I : Nat → Nat → Int32) (J : Nat → Nat → Int64) (s0 : Int32) (x1 : Int32) (x2 : Int32) : run mX12_fence (5, 0, 0, [.ref 0, .int x1, .int x2], [.int s0], (mH I J)) = (if s0 = (nI 0) then some (some (.int (-1000000001)), (mH I J)) else (callK (fX12_marks [.ref 0] (mH I J)) (fun r h' => run mX12_fence (15, 0, 0, [.ref 0, .int x1, .int x2], r.toList ++ [], h')))) := (exK_eq mX12_fence [5, 15] 37 _).symm.trans rfl
set_option maxRecDepth 100000 in
theorem bX12_fence_15 (I : Nat → Nat → Int32) (J : Nat → Nat → Int64) (x1 : Int32) (x2 : Int32) : run mX12_fence (15, 0, 0, [.ref 0, .int x1, .int x2], [], (mH I J)) = (if x2 = (nI 0) then (callK (fX12_price [.ref 0, .int ((I 0 6) &&& (((nI 1) <<< (x1 &&& 31)) ^^^ (Int32.ofInt (-1))))] (mH (up2 I 0 6 ((I 0 6) &&& (((nI 1) <<< (x1 &&& 31)) ^^^ (Int32.ofInt (-1))))) J)) (fun r h' => run mX12_fence (52, 0, 0, [.ref 0, .int x1, .int x2], r.toList ++ [], h'))) else (callK (fX12_price [.ref 0, .int ((I 0 6) ||| ((nI 1) <<< (x1 &&& 31)))] (mH (up2 I 0 6 ((I 0 6) ||| ((nI 1) <<< (x1 &&& 31)))) J)) (fun r h' => run mX12_fence (52, 0, 0, [.ref 0, .int x1, .int x2], r.toList ++ [], h')))) := (exK_eq mX12_fence [5, 15, 52] 37 _).symm.trans rfl
set_option maxRecDepth 100000 in
theorem bX12_fence_52 (I : Nat → Nat → Int32) (J : Nat → Nat → Int64) (s0 : Int32) (z0 : Value) (z1 : Value) (z2 : Value) : run mX12_fence (52, 0, 0, [z0, z1, z2], [.int s0], (mH I J)) = some (some (.int s0), (mH I J)) := (exK_eq mX12_fence [5, 15, 52] 37 _).symm.trans rfl
set_option maxRecDepth 100000 in
theorem eX12_cost (I : Nat → Nat → Int32) (J : Nat → Nat → Int64) (x1 : Int32) (x2 : Int32) : fX12_cost [.ref 0, .int x1, .int x2] (mH I J) = (callK (fX12_isGap [.ref 0, .int x1] (mH I J)) (fun r h' => run mX12_cost (5, 0, 0, [.ref 0, .int x1, .int x2, .null], r.toList ++ [], h'))) := (mth_eq (M := mX12_cost) (n := 4) rfl).trans ((exK_eq mX12_cost [5] 33 _).symm.trans rfl)
set_option maxRecDepth 100000 in
theorem bX12_cost_5 (I : Nat → Nat → Int32) (J : Nat → Nat → Int64) (s0 : Int32) (x1 : Int32) (x2 : Int32) (z3 : Value) : run mX12_cost (5, 0, 0, [.ref 0, .int x1, .int x2, z3], [.int s0], (mH I J)) = (if s0 = (nI 0) then some (some (.int (-1000000001)), (mH I J)) else (if x2 < (nI 1) then some (some (.int (-1000000002)), (mH I J)) else (if x2 ≤ (nI 9) then (callK (fX12_marks [.ref 0] (mH I J)) (fun r h' => run mX12_cost (29, 0, 0, [.ref 0, .int x1, .int x2, .null], r.toList ++ [], h'))) else some (some (.int (-1000000002)), (mH I J))))) := (exK_eq mX12_cost [5, 29] 33 _).symm.trans rfl
set_option maxRecDepth 100000 in
theorem bX12_cost_29 (I : Nat → Nat → Int32) (J : Nat → Nat → Int64) (x1 : Int32) (x2 : Int32) (z3 : Value) : run mX12_cost (29, 0, 0, [.ref 0, .int x1, .int x2, z3], [], (mH I J)) = (bif inb x1 8 then (bif inb x1 8 then some (some (.int (I 4 (x1).toNatClampNeg)), (mH (up2 I 4 (x1).toNatClampNeg x2) J)) else none) else none) := (exK_eq mX12_cost [5, 29] 33 _).symm.trans rfl
set_option maxRecDepth 100000 in
theorem eX12_overtaking (I : Nat → Nat → Int32) (J : Nat → Nat → Int64) (x1 : Int32) : fX12_overtaking [.ref 0, .int x1] (mH I J) = (if x1 < (nI 0) then some (some (.int (-1000000002)), (mH I J)) else (if x1 ≤ (nI 15) then (callK (fX12_marks [.ref 0] (mH I J)) (fun r h' => run mX12_overtaking (17, 0, 0, [.ref 0, .int x1], r.toList ++ [], h'))) else some (some (.int (-1000000002)), (mH I J)))) := (mth_eq (M := mX12_overtaking) (n := 2) rfl).trans ((exK_eq mX12_overtaking [17] 20 _).symm.trans rfl)
set_option maxRecDepth 100000 in
theorem bX12_overtaking_17 (I : Nat → Nat → Int32) (J : Nat → Nat → Int64) (x1 : Int32) : run mX12_overtaking (17, 0, 0, [.ref 0, .int x1], [], (mH I J)) = (callK (fX12_readings [.ref 0] (mH (up2 I 0 7 x1) J)) (fun r h' => run mX12_overtaking (26, 0, 0, [.ref 0, .int x1], r.toList ++ [], h'))) := (exK_eq mX12_overtaking [17, 26] 20 _).symm.trans rfl
set_option maxRecDepth 100000 in
theorem bX12_overtaking_26 (I : Nat → Nat → Int32) (J : Nat → Nat → Int64) (s0 : Int32) (z0 : Value) (z1 : Value) : run mX12_overtaking (26, 0, 0, [z0, z1], [.int s0], (mH I J)) = some (some (.int s0), (mH I J)) := (exK_eq mX12_overtaking [17, 26] 20 _).symm.trans rfl
set_option maxRecDepth 100000 in
theorem eX12_best (I : Nat → Nat → Int32) (J : Nat → Nat → Int64)  : fX12_best [.ref 0] (mH I J) = (callK (fX12_marks [.ref 0] (mH I J)) (fun r h' => run mX12_best (4, 0, 0, [.ref 0], r.toList ++ [], h'))) := (mth_eq (M := mX12_best) (n := 1) rfl).trans ((exK_eq mX12_best [4] 16 _).symm.trans rfl)
set_option maxRecDepth 100000 in
theorem bX12_best_4 (I : Nat → Nat → Int32) (J : Nat → Nat → Int64)  : run mX12_best (4, 0, 0, [.ref 0], [], (mH I J)) = (callK (fX12_cheapest [.ref 0] (mH I J)) (fun r h' => run mX12_best (9, 0, 0, [.ref 0], r.toList ++ [.ref 0], h'))) := (exK_eq mX12_best [4, 9] 16 _).symm.trans rfl
set_option maxRecDepth 100000 in
theorem bX12_best_9 (I : Nat → Nat → Int32) (J : Nat → Nat → Int64) (s1 : Int32) : run mX12_best (9, 0, 0, [.ref 0], [.int s1, .ref 0], (mH I J)) = (callK (fX12_price [.ref 0, .int s1] (mH (up2 I 0 6 s1) J)) (fun r h' => run mX12_best (20, 0, 0, [.ref 0], r.toList ++ [], h'))) := (exK_eq mX12_best [4, 9, 20] 16 _).symm.trans rfl
set_option maxRecDepth 100000 in
theorem bX12_best_20 (I : Nat → Nat → Int32) (J : Nat → Nat → Int64) (s0 : Int32) (z0 : Value) : run mX12_best (20, 0, 0, [z0], [.int s0], (mH I J)) = some (some (.int s0), (mH I J)) := (exK_eq mX12_best [4, 9, 20] 16 _).symm.trans rfl
set_option maxRecDepth 100000 in
theorem eX12_draw (I : Nat → Nat → Int32) (J : Nat → Nat → Int64) (x1 : Int32) : fX12_draw [.ref 0, .int x1] (mH I J) = (if (Int32.toInt64 x1) = (0) then none else some (some (.int (Int64.toInt32 ((((((J 0 36) * (1103515245)) + (12345)) - (((J 0 36) * (1103515245)) + (12345)) / (2147483648) * (2147483648)) / (65536)) - (((((J 0 36) * (1103515245)) + (12345)) - (((J 0 36) * (1103515245)) + (12345)) / (2147483648) * (2147483648)) / (65536)) / (Int32.toInt64 x1) * (Int32.toInt64 x1)))), (mH I (up2 J 0 36 ((((J 0 36) * (1103515245)) + (12345)) - (((J 0 36) * (1103515245)) + (12345)) / (2147483648) * (2147483648)))))) := (mth_eq (M := mX12_draw) (n := 2) rfl).trans ((exK_eq mX12_draw [] 24 _).symm.trans rfl)
set_option maxRecDepth 100000 in
theorem eX12_drawn (I : Nat → Nat → Int32) (J : Nat → Nat → Int64)  : fX12_drawn [.ref 0] (mH I J) = (callK (fX12_draw [.ref 0, .int (nI 4)] (mH I J)) (fun r h' => run mX12_drawn (5, 0, 0, [.ref 0, .null, .null, .null, .null], r.toList ++ [], h'))) := (mth_eq (M := mX12_drawn) (n := 5) rfl).trans ((exK_eq mX12_drawn [5] 59 _).symm.trans rfl)
set_option maxRecDepth 100000 in
theorem bX12_drawn_5 (I : Nat → Nat → Int32) (J : Nat → Nat → Int64) (s0 : Int32) (z1 : Value) (z2 : Value) (z3 : Value) (z4 : Value) : run mX12_drawn (5, 0, 0, [.ref 0, z1, z2, z3, z4], [.int s0], (mH I J)) = (callK (fX12_draw [.ref 0, .int (I 0 1)] (mH I J)) (fun r h' => run mX12_drawn (14, 0, 0, [.ref 0, .int s0, .null, .null, .null], r.toList ++ [], h'))) := (exK_eq mX12_drawn [5, 14] 59 _).symm.trans rfl
set_option maxRecDepth 100000 in
theorem bX12_drawn_14 (I : Nat → Nat → Int32) (J : Nat → Nat → Int64) (s0 : Int32) (x1 : Int32) (z2 : Value) (z3 : Value) (z4 : Value) : run mX12_drawn (14, 0, 0, [.ref 0, .int x1, z2, z3, z4], [.int s0], (mH I J)) = (callK (fX12_draw [.ref 0, .int (nI 9)] (mH I J)) (fun r h' => run mX12_drawn (21, 0, 0, [.ref 0, .int x1, .int s0, .null, .null], r.toList ++ [], h'))) := (exK_eq mX12_drawn [5, 14, 21] 59 _).symm.trans rfl
set_option maxRecDepth 100000 in
theorem bX12_drawn_21 (I : Nat → Nat → Int32) (J : Nat → Nat → Int64) (s0 : Int32) (x1 : Int32) (x2 : Int32) (z3 : Value) (z4 : Value) : run mX12_drawn (21, 0, 0, [.ref 0, .int x1, .int x2, z3, z4], [.int s0], (mH I J)) = (callK (fX12_draw [.ref 0, .int (nI 16)] (mH I J)) (fun r h' => run mX12_drawn (28, 0, 0, [.ref 0, .int x1, .int x2, .int s0, .null], r.toList ++ [], h'))) := (exK_eq mX12_drawn [5, 14, 21, 28] 59 _).symm.trans rfl
set_option maxRecDepth 100000 in
theorem bX12_drawn_28 (I : Nat → Nat → Int32) (J : Nat → Nat → Int64) (s0 : Int32) (x1 : Int32) (x2 : Int32) (x3 : Int32) (z4 : Value) : run mX12_drawn (28, 0, 0, [.ref 0, .int x1, .int x2, .int x3, z4], [.int s0], (mH I J)) = (callK (fX12_marks [.ref 0] (mH I J)) (fun r h' => run mX12_drawn (34, 0, 0, [.ref 0, .int x1, .int x2, .int x3, .int s0], r.toList ++ [], h'))) := (exK_eq mX12_drawn [5, 14, 21, 28, 34] 59 _).symm.trans rfl
set_option maxRecDepth 100000 in
theorem bX12_drawn_34 (I : Nat → Nat → Int32) (J : Nat → Nat → Int64) (x1 : Int32) (x2 : Int32) (x3 : Int32) (x4 : Int32) : run mX12_drawn (34, 0, 0, [.ref 0, .int x1, .int x2, .int x3, .int x4], [], (mH I J)) = (if x1 = (nI 3) then some (none, (mH (up2 I 0 7 x4) J)) else (callK (fX12_isGap [.ref 0, .int x2] (mH I J)) (fun r h' => run mX12_drawn (53, 0, 0, [.ref 0, .int x1, .int x2, .int x3, .int x4], r.toList ++ [], h')))) := (exK_eq mX12_drawn [5, 14, 21, 28, 34, 53] 59 _).symm.trans rfl
set_option maxRecDepth 100000 in
theorem bX12_drawn_53 (I : Nat → Nat → Int32) (J : Nat → Nat → Int64) (s0 : Int32) (x1 : Int32) (x2 : Int32) (x3 : Int32) (z4 : Value) : run mX12_drawn (53, 0, 0, [.ref 0, .int x1, .int x2, .int x3, z4], [.int s0], (mH I J)) = (if s0 = (nI 0) then (callK (fX12_isGap [.ref 0, .int x2] (mH I J)) (fun r h' => run mX12_drawn (78, 0, 0, [.ref 0, .int x1, .int x2, .int x3, .null], r.toList ++ [], h'))) else (if x1 = (nI 2) then (bif inb x2 8 then some (none, (mH (up2 I 4 (x2).toNatClampNeg (x3 + (nI 1))) J)) else none) else (callK (fX12_isGap [.ref 0, .int x2] (mH I J)) (fun r h' => run mX12_drawn (78, 0, 0, [.ref 0, .int x1, .int x2, .int x3, .null], r.toList ++ [], h'))))) := (exK_eq mX12_drawn [5, 14, 21, 28, 34, 53, 78] 59 _).symm.trans rfl
set_option maxRecDepth 100000 in
theorem bX12_drawn_78 (I : Nat → Nat → Int32) (J : Nat → Nat → Int64) (s0 : Int32) (x2 : Int32) (z1 : Value) (z3 : Value) (z4 : Value) : run mX12_drawn (78, 0, 0, [.ref 0, z1, .int x2, z3, z4], [.int s0], (mH I J)) = (if s0 = (nI 0) then some (none, (mH I J)) else some (none, (mH (up2 I 0 6 ((I 0 6) ^^^ ((nI 1) <<< (x2 &&& 31)))) J))) := (exK_eq mX12_drawn [5, 14, 21, 28, 34, 53, 78] 59 _).symm.trans rfl
set_option maxRecDepth 100000 in
theorem eX12_drift (I : Nat → Nat → Int32) (J : Nat → Nat → Int64) (x1 : Int32) : fX12_drift [.ref 0, .int x1] (mH I J) = (if x1 < (nI 1) then some (some (.int (-1000000002)), (mH I J)) else (if x1 ≤ (nI 20) then run mX12_drift (16, 0, 0, [.ref 0, .int x1, .int (nI 0)], [], (mH I J)) else some (some (.int (-1000000002)), (mH I J)))) := (mth_eq (M := mX12_drift) (n := 3) rfl).trans ((exK_eq mX12_drift [16] 28 _).symm.trans rfl)
set_option maxRecDepth 100000 in
theorem bX12_drift_16 (I : Nat → Nat → Int32) (J : Nat → Nat → Int64) (x1 : Int32) (x2 : Int32) : run mX12_drift (16, 0, 0, [.ref 0, .int x1, .int x2], [], (mH I J)) = (if x1 ≤ x2 then some (some (.int (I 0 6)), (mH I J)) else (if (I 0 1) ≤ (nI 0) then some (some (.int (I 0 6)), (mH I J)) else (callK (fX12_drawn [.ref 0] (mH I J)) (fun r h' => run mX12_drift (32, 0, 0, [.ref 0, .int x1, .int x2], r.toList ++ [], h'))))) := (exK_eq mX12_drift [16, 32] 28 _).symm.trans rfl
set_option maxRecDepth 100000 in
theorem bX12_drift_32 (I : Nat → Nat → Int32) (J : Nat → Nat → Int64) (x1 : Int32) (x2 : Int32) : run mX12_drift (32, 0, 0, [.ref 0, .int x1, .int x2], [], (mH I J)) = run mX12_drift (16, 0, 0, [.ref 0, .int x1, .int (x2 + (nI 1))], [], (mH I J)) := (exK_eq mX12_drift [16, 32] 28 _).symm.trans rfl
set_option maxRecDepth 100000 in
theorem eX12_undo (I : Nat → Nat → Int32) (J : Nat → Nat → Int64) (x1 : Int32) : fX12_undo [.ref 0, .int x1] (mH I J) = (if x1 < (nI 1) then some (some (.int (-1000000002)), (mH I J)) else (if x1 ≤ (nI 20) then (if x1 ≤ (I 0 32) then (bif inb ((I 0 32) - x1) 20 then (bif inb ((I 0 32) - x1) 20 then run mX12_undo (63, 0, 0, [.ref 0, .int x1, .int (nI 0)], [], (mH (up2 (up2 (up2 I 0 32 ((I 0 32) - x1)) 0 6 (I 19 (((I 0 32) - x1)).toNatClampNeg)) 0 7 (I 20 (((I 0 32) - x1)).toNatClampNeg)) J)) else none) else none) else some (some (.int (-1000000003)), (mH I J))) else some (some (.int (-1000000002)), (mH I J)))) := (mth_eq (M := mX12_undo) (n := 3) rfl).trans ((exK_eq mX12_undo [63] 65 _).symm.trans rfl)
set_option maxRecDepth 100000 in
theorem bX12_undo_63 (I : Nat → Nat → Int32) (J : Nat → Nat → Int64) (x2 : Int32) (z1 : Value) : run mX12_undo (63, 0, 0, [.ref 0, z1, .int x2], [], (mH I J)) = (if (nI 8) ≤ x2 then some (some (.int (I 0 32)), (mH (up2 I 0 12 (nI 0)) J)) else (bif inb (((nI 8) * (I 0 32)) + x2) 160 then (bif inb x2 8 then run mX12_undo (63, 0, 0, [.ref 0, .null, .int (x2 + (nI 1))], [], (mH (up2 I 4 (x2).toNatClampNeg (I 21 ((((nI 8) * (I 0 32)) + x2)).toNatClampNeg)) J)) else none) else none)) := (exK_eq mX12_undo [63] 65 _).symm.trans rfl
set_option maxRecDepth 100000 in
theorem eX12_write (I : Nat → Nat → Int32) (J : Nat → Nat → Int64) (x1 : Int32) (x2 : Int32) : fX12_write [.ref 0, .int x1, .int x2] (mH I J) = (if x1 < (nI 0) then some (some (.int (-1000000002)), (mH I J)) else (if x1 ≤ (nI 43046720) then (if (I 0 37) = (nI 20) then some (some (.int (-1000000004)), (mH I J)) else (bif inb (I 0 37) 20 then (bif inb (I 0 37) 20 && isB x2 then some (some (.int ((I 0 37) + (nI 1))), (mH (up2 (up2 (up2 I 22 ((I 0 37)).toNatClampNeg x1) 23 ((I 0 37)).toNatClampNeg x2) 0 37 ((I 0 37) + (nI 1))) J)) else none) else none)) else some (some (.int (-1000000002)), (mH I J)))) := (mth_eq (M := mX12_write) (n := 3) rfl).trans ((exK_eq mX12_write [] 39 _).symm.trans rfl)
set_option maxRecDepth 100000 in
theorem eX12_tear (I : Nat → Nat → Int32) (J : Nat → Nat → Int64)  : fX12_tear [.ref 0] (mH I J) = some (some (.int (I 0 37)), (mH (up2 I 0 37 (nI 0)) J)) := (mth_eq (M := mX12_tear) (n := 2) rfl).trans ((exK_eq mX12_tear [] 13 _).symm.trans rfl)
set_option maxRecDepth 100000 in
theorem eX12_wrong (I : Nat → Nat → Int32) (J : Nat → Nat → Int64)  : fX12_wrong [.ref 0] (mH I J) = run mX12_wrong (2, 0, 0, [.ref 0, .int (nI 0)], [], (mH I J)) := (mth_eq (M := mX12_wrong) (n := 2) rfl).trans ((exK_eq mX12_wrong [2] 32 _).symm.trans rfl)
set_option maxRecDepth 100000 in
theorem bX12_wrong_2 (I : Nat → Nat → Int32) (J : Nat → Nat → Int64) (x1 : Int32) : run mX12_wrong (2, 0, 0, [.ref 0, .int x1], [], (mH I J)) = (if (I 0 37) ≤ x1 then some (some (.int (Int32.ofInt (-1))), (mH I J)) else (bif inb x1 20 then (callK (fX12_can [.ref 0, .int (I 22 (x1).toNatClampNeg)] (mH I J)) (fun r h' => run mX12_wrong (20, 0, 0, [.ref 0, .int x1], r.toList ++ [], h'))) else none)) := (exK_eq mX12_wrong [2, 20] 32 _).symm.trans rfl
set_option maxRecDepth 100000 in
theorem bX12_wrong_20 (I : Nat → Nat → Int32) (J : Nat → Nat → Int64) (s0 : Int32) (x1 : Int32) : run mX12_wrong (20, 0, 0, [.ref 0, .int x1], [.int s0], (mH I J)) = (if s0 ≤ (nI 0) then (bif inb x1 20 then (if (nI 0) = (I 23 (x1).toNatClampNeg) then run mX12_wrong (2, 0, 0, [.ref 0, .int (x1 + (nI 1))], [], (mH I J)) else some (some (.int x1), (mH I J))) else none) else (bif inb x1 20 then (if (nI 1) = (I 23 (x1).toNatClampNeg) then run mX12_wrong (2, 0, 0, [.ref 0, .int (x1 + (nI 1))], [], (mH I J)) else some (some (.int x1), (mH I J))) else none)) := (exK_eq mX12_wrong [2, 20] 32 _).symm.trans rfl
set_option maxRecDepth 100000 in
theorem eX12_seed (I : Nat → Nat → Int32) (J : Nat → Nat → Int64) (x1 : Int32) : fX12_seed [.ref 0, .int x1] (mH I J) = (if (nI 0) ≤ x1 then some (some (.int (Int64.toInt32 (J 0 36))), (mH I (up2 J 0 36 (Int32.toInt64 x1)))) else some (some (.int (-1000000002)), (mH I J))) := (mth_eq (M := mX12_seed) (n := 3) rfl).trans ((exK_eq mX12_seed [] 19 _).symm.trans rfl)
set_option maxRecDepth 100000 in
theorem eX12_keep (I : Nat → Nat → Int32) (J : Nat → Nat → Int64) (x1 : Int32) : fX12_keep [.ref 0, .int x1] (mH I J) = (if x1 < (nI 0) then some (some (.int (-1000000001)), (mH I J)) else (if x1 ≤ (nI 1) then (bif inb x1 2 && true then (bif inb x1 2 then (bif inb x1 2 then (bif inb x1 2 then run mX12_keep (51, 0, 0, [.ref 0, .int x1, .int (nI 0)], [], (mH (up2 (up2 (up2 I 24 (x1).toNatClampNeg (nI 1)) 25 (x1).toNatClampNeg (I 0 6)) 26 (x1).toNatClampNeg (I 0 7)) (up2 J 28 (x1).toNatClampNeg (J 0 36)))) else none) else none) else none) else none) else some (some (.int (-1000000001)), (mH I J)))) := (mth_eq (M := mX12_keep) (n := 3) rfl).trans ((exK_eq mX12_keep [51] 59 _).symm.trans rfl)
set_option maxRecDepth 100000 in
theorem bX12_keep_51 (I : Nat → Nat → Int32) (J : Nat → Nat → Int64) (x1 : Int32) (x2 : Int32) : run mX12_keep (51, 0, 0, [.ref 0, .int x1, .int x2], [], (mH I J)) = (if (nI 8) ≤ x2 then some (some (.int (nI 1)), (mH (up2 I 0 32 (nI 0)) J)) else (bif inb x2 8 then (bif inb (((nI 8) * x1) + x2) 16 then run mX12_keep (51, 0, 0, [.ref 0, .int x1, .int (x2 + (nI 1))], [], (mH (up2 I 27 ((((nI 8) * x1) + x2)).toNatClampNeg (I 4 (x2).toNatClampNeg)) J)) else none) else none)) := (exK_eq mX12_keep [51] 59 _).symm.trans rfl
set_option maxRecDepth 100000 in
theorem eX12_goBack (I : Nat → Nat → Int32) (J : Nat → Nat → Int64) (x1 : Int32) : fX12_goBack [.ref 0, .int x1] (mH I J) = (if x1 < (nI 0) then some (some (.int (-1000000001)), (mH I J)) else (if x1 ≤ (nI 1) then (bif inb x1 2 then (if (I 24 (x1).toNatClampNeg) = (nI 0) then some (some (.int (-1000000003)), (mH I J)) else (bif inb x1 2 then (bif inb x1 2 then (bif inb x1 2 then run mX12_goBack (56, 0, 0, [.ref 0, .int x1, .int (nI 0)], [], (mH (up2 (up2 I 0 6 (I 25 (x1).toNatClampNeg)) 0 7 (I 26 (x1).toNatClampNeg)) (up2 J 0 36 (J 28 (x1).toNatClampNeg)))) else none) else none) else none)) else none) else some (some (.int (-1000000001)), (mH I J)))) := (mth_eq (M := mX12_goBack) (n := 3) rfl).trans ((exK_eq mX12_goBack [56] 64 _).symm.trans rfl)
set_option maxRecDepth 100000 in
theorem bX12_goBack_56 (I : Nat → Nat → Int32) (J : Nat → Nat → Int64) (x1 : Int32) (x2 : Int32) : run mX12_goBack (56, 0, 0, [.ref 0, .int x1, .int x2], [], (mH I J)) = (if (nI 8) ≤ x2 then some (some (.int (nI 1)), (mH (up2 (up2 I 0 32 (nI 0)) 0 12 (nI 0)) J)) else (bif inb (((nI 8) * x1) + x2) 16 then (bif inb x2 8 then run mX12_goBack (56, 0, 0, [.ref 0, .int x1, .int (x2 + (nI 1))], [], (mH (up2 I 4 (x2).toNatClampNeg (I 27 ((((nI 8) * x1) + x2)).toNatClampNeg)) J)) else none) else none)) := (exK_eq mX12_goBack [56] 64 _).symm.trans rfl
set_option maxRecDepth 100000 in
theorem eX12_toldMore (I : Nat → Nat → Int32) (J : Nat → Nat → Int64) (x1 : Int32) : fX12_toldMore [.ref 0, .int x1] (mH I J) = (if x1 = (nI 10) then (callK (fX12_loosePairs [.ref 0] (mH I J)) (fun r h' => run mX12_toldMore (56, 0, 0, [.ref 0, .int x1], r.toList ++ [], h'))) else (if x1 = (nI 11) then (callK (fX12_holds [.ref 0, .int (I 0 6)] (mH I J)) (fun r h' => run mX12_toldMore (65, 0, 0, [.ref 0, .int x1], r.toList ++ [], h'))) else (if x1 = (nI 12) then (callK (fX12_holds [.ref 0, .int (I 0 6)] (mH I J)) (fun r h' => run mX12_toldMore (74, 0, 0, [.ref 0, .int x1], r.toList ++ [], h'))) else (if x1 = (nI 13) then (callK (fX12_cheapest [.ref 0] (mH I J)) (fun r h' => run mX12_toldMore (91, 0, 0, [.ref 0, .int x1], r.toList ++ [], h'))) else (if x1 = (nI 14) then (callK (fX12_cheapest [.ref 0] (mH I J)) (fun r h' => run mX12_toldMore (97, 0, 0, [.ref 0, .int x1], r.toList ++ [.ref 0], h'))) else (if x1 = (nI 15) then (callK (fX12_needed [.ref 0] (mH I J)) (fun r h' => run mX12_toldMore (105, 0, 0, [.ref 0, .int x1], r.toList ++ [], h'))) else (if x1 = (nI 16) then some (some (.int (I 0 37)), (mH I J)) else (if x1 = (nI 17) then (callK (fX12_wrong [.ref 0] (mH I J)) (fun r h' => run mX12_toldMore (115, 0, 0, [.ref 0, .int x1], r.toList ++ [], h'))) else (if x1 = (nI 18) then some (some (.int (I 0 32)), (mH I J)) else some (some (.int (-1000000002)), (mH I J))))))))))) := (mth_eq (M := mX12_toldMore) (n := 2) rfl).trans ((exK_eq mX12_toldMore [56, 65, 74, 91, 97, 105, 115] 48 _).symm.trans rfl)
set_option maxRecDepth 100000 in
theorem bX12_toldMore_56 (I : Nat → Nat → Int32) (J : Nat → Nat → Int64) (s0 : Int32) (z0 : Value) (z1 : Value) : run mX12_toldMore (56, 0, 0, [z0, z1], [.int s0], (mH I J)) = some (some (.int s0), (mH I J)) := (exK_eq mX12_toldMore [56, 65, 74, 91, 97, 105, 115] 48 _).symm.trans rfl
set_option maxRecDepth 100000 in
theorem bX12_toldMore_65 (I : Nat → Nat → Int32) (J : Nat → Nat → Int64) (s0 : Int32) (z0 : Value) (z1 : Value) : run mX12_toldMore (65, 0, 0, [z0, z1], [.int s0], (mH I J)) = some (some (.int s0), (mH I J)) := (exK_eq mX12_toldMore [56, 65, 74, 91, 97, 105, 115] 48 _).symm.trans rfl
set_option maxRecDepth 100000 in
theorem bX12_toldMore_74 (I : Nat → Nat → Int32) (J : Nat → Nat → Int64) (s0 : Int32) (z1 : Value) : run mX12_toldMore (74, 0, 0, [.ref 0, z1], [.int s0], (mH I J)) = (callK (fX12_loosePairs [.ref 0] (mH I J)) (fun r h' => run mX12_toldMore (78, 0, 0, [.ref 0, .null], r.toList ++ [.int s0], h'))) := (exK_eq mX12_toldMore [56, 65, 74, 78, 91, 97, 105, 115] 48 _).symm.trans rfl
set_option maxRecDepth 100000 in
theorem bX12_toldMore_91 (I : Nat → Nat → Int32) (J : Nat → Nat → Int64) (s0 : Int32) (z0 : Value) (z1 : Value) : run mX12_toldMore (91, 0, 0, [z0, z1], [.int s0], (mH I J)) = some (some (.int s0), (mH I J)) := (exK_eq mX12_toldMore [56, 65, 74, 78, 91, 97, 105, 115] 48 _).symm.trans rfl
set_option maxRecDepth 100000 in
theorem bX12_toldMore_97 (I : Nat → Nat → Int32) (J : Nat → Nat → Int64) (s1 : Int32) (z0 : Value) (z1 : Value) : run mX12_toldMore (97, 0, 0, [z0, z1], [.int s1, .ref 0], (mH I J)) = (callK (fX12_price [.ref 0, .int s1] (mH I J)) (fun r h' => run mX12_toldMore (100, 0, 0, [.null, .null], r.toList ++ [], h'))) := (exK_eq mX12_toldMore [56, 65, 74, 78, 91, 97, 100, 105, 115] 48 _).symm.trans rfl
set_option maxRecDepth 100000 in
theorem bX12_toldMore_105 (I : Nat → Nat → Int32) (J : Nat → Nat → Int64) (s0 : Int32) (z0 : Value) (z1 : Value) : run mX12_toldMore (105, 0, 0, [z0, z1], [.int s0], (mH I J)) = some (some (.int s0), (mH I J)) := (exK_eq mX12_toldMore [56, 65, 74, 78, 91, 97, 100, 105, 115] 48 _).symm.trans rfl
set_option maxRecDepth 100000 in
theorem bX12_toldMore_115 (I : Nat → Nat → Int32) (J : Nat → Nat → Int64) (s0 : Int32) (z0 : Value) (z1 : Value) : run mX12_toldMore (115, 0, 0, [z0, z1], [.int s0], (mH I J)) = some (some (.int s0), (mH I J)) := (exK_eq mX12_toldMore [56, 65, 74, 78, 91, 97, 100, 105, 115] 48 _).symm.trans rfl
set_option maxRecDepth 100000 in
theorem bX12_toldMore_78 (I : Nat → Nat → Int32) (J : Nat → Nat → Int64) (s0 : Int32) (s1 : Int32) (z0 : Value) (z1 : Value) : run mX12_toldMore (78, 0, 0, [z0, z1], [.int s1, .int s0], (mH I J)) = (if s0 = s1 then some (some (.int (nI 1)), (mH I J)) else some (some (.int (nI 0)), (mH I J))) := (exK_eq mX12_toldMore [56, 65, 74, 78, 91, 97, 100, 105, 115] 48 _).symm.trans rfl
set_option maxRecDepth 100000 in
theorem bX12_toldMore_100 (I : Nat → Nat → Int32) (J : Nat → Nat → Int64) (s0 : Int32) (z0 : Value) (z1 : Value) : run mX12_toldMore (100, 0, 0, [z0, z1], [.int s0], (mH I J)) = some (some (.int s0), (mH I J)) := (exK_eq mX12_toldMore [56, 65, 74, 78, 91, 97, 100, 105, 115] 48 _).symm.trans rfl
set_option maxRecDepth 100000 in
theorem eX12_told (I : Nat → Nat → Int32) (J : Nat → Nat → Int64) (x1 : Int32) : fX12_told [.ref 0, .int x1] (mH I J) = (if x1 = (nI 0) then some (some (.int (I 0 0)), (mH I J)) else (if x1 = (nI 1) then some (some (.int (I 0 1)), (mH I J)) else (if x1 = (nI 2) then some (some (.int (I 0 24)), (mH I J)) else (if x1 = (nI 3) then some (some (.int (I 0 7)), (mH I J)) else (if x1 = (nI 4) then some (some (.int (I 0 6)), (mH I J)) else (if x1 = (nI 5) then (callK (fX12_price [.ref 0, .int (I 0 6)] (mH I J)) (fun r h' => run mX12_told (89, 0, 0, [.ref 0, .int x1], r.toList ++ [], h'))) else (if x1 = (nI 6) then (callK (fX12_readings [.ref 0] (mH I J)) (fun r h' => run mX12_told (94, 0, 0, [.ref 0, .int x1], r.toList ++ [], h'))) else (if x1 = (nI 7) then some (some (.int (I 0 10)), (mH I J)) else (if x1 = (nI 8) then (callK (fX12_readings [.ref 0] (mH I J)) (fun r h' => run mX12_told (104, 0, 0, [.ref 0, .int x1], r.toList ++ [], h'))) else (if x1 = (nI 9) then some (some (.int (I 0 18)), (mH I J)) else (callK (fX12_toldMore [.ref 0, .int x1] (mH I J)) (fun r h' => run mX12_told (120, 0, 0, [.ref 0, .int x1], r.toList ++ [], h'))))))))))))) := (mth_eq (M := mX12_told) (n := 2) rfl).trans ((exK_eq mX12_told [89, 94, 104, 120] 46 _).symm.trans rfl)
set_option maxRecDepth 100000 in
theorem bX12_told_89 (I : Nat → Nat → Int32) (J : Nat → Nat → Int64) (s0 : Int32) (z0 : Value) (z1 : Value) : run mX12_told (89, 0, 0, [z0, z1], [.int s0], (mH I J)) = some (some (.int s0), (mH I J)) := (exK_eq mX12_told [89, 94, 104, 120] 46 _).symm.trans rfl
set_option maxRecDepth 100000 in
theorem bX12_told_94 (I : Nat → Nat → Int32) (J : Nat → Nat → Int64) (s0 : Int32) (z0 : Value) (z1 : Value) : run mX12_told (94, 0, 0, [z0, z1], [.int s0], (mH I J)) = some (some (.int s0), (mH I J)) := (exK_eq mX12_told [89, 94, 104, 120] 46 _).symm.trans rfl
set_option maxRecDepth 100000 in
theorem bX12_told_104 (I : Nat → Nat → Int32) (J : Nat → Nat → Int64) (s0 : Int32) (z1 : Value) : run mX12_told (104, 0, 0, [.ref 0, z1], [.int s0], (mH I J)) = some (some (.int (s0 - (I 0 10))), (mH I J)) := (exK_eq mX12_told [89, 94, 104, 120] 46 _).symm.trans rfl
set_option maxRecDepth 100000 in
theorem bX12_told_120 (I : Nat → Nat → Int32) (J : Nat → Nat → Int64) (s0 : Int32) (z0 : Value) (z1 : Value) : run mX12_told (120, 0, 0, [z0, z1], [.int s0], (mH I J)) = some (some (.int s0), (mH I J)) := (exK_eq mX12_told [89, 94, 104, 120] 46 _).symm.trans rfl
end
section
/-! THE CLASS'S WORLD and its methods as equations (by program) -/
def shXL : List (Nat × Nat) := [(21, 0), (20, 0), (0, 120), (15, 0), (16, 0), (0, 8), (0, 8), (16, 0), (0, 8), (0, 8), (18, 0), (0, 36), (0, 64), (13, 0), (0, 28), (19, 0), (0, 8), (11, 0), (4, 20), (19, 0), (0, 8), (19, 0), (0, 8), (19, 0), (0, 8), (19, 0), (0, 8), (19, 0), (0, 8), (19, 0), (0, 8), (19, 0), (0, 8), (19, 0), (0, 8), (19, 0), (0, 8), (19, 0), (0, 8), (19, 0), (0, 8), (19, 0), (0, 8), (19, 0), (0, 8), (19, 0), (0, 8), (19, 0), (0, 8), (19, 0), (0, 8), (19, 0), (0, 8), (19, 0), (0, 8), (19, 0), (0, 8), (19, 0), (0, 8), (3, 2), (12, 0), (19, 0), (0, 8), (12, 0), (19, 0), (0, 8), (10, 0), (0, 20), (14, 0), (2, 512), (2, 512), (0, 1024), (0, 8), (0, 8), (17, 0), (0, 256), (17, 0), (0, 256)]
def shX : Nat → Nat × Nat := fun p => (shXL[p]?).getD (99, 0)
def RXL : List (List Nat) := [[1, 3, 4, 7, 10, 13, 15, 17, 59, 66, 68, 74, 76], [2], [], [], [5, 6], [], [], [8, 9], [], [], [11, 12], [], [], [14], [], [16], [], [18], [19, 21, 23, 25, 27, 29, 31, 33, 35, 37, 39, 41, 43, 45, 47, 49, 51, 53, 55, 57], [20], [], [22], [], [24], [], [26], [], [28], [], [30], [], [32], [], [34], [], [36], [], [38], [], [40], [], [42], [], [44], [], [46], [], [48], [], [50], [], [52], [], [54], [], [56], [], [58], [], [60, 63], [61], [62], [], [64], [65], [], [67], [], [69, 70, 71, 72, 73], [], [], [], [], [], [75], [], [77], []]
def plP (b : Bool) : Nat := bif b then 7 else 4
def stA (b : Bool) : Nat := bif b then 70 else 69
def RX (pl st : Bool) : Nat → Nat → Nat := fun p k => bif Nat.beq p 0 && Nat.beq k 2 then plP pl else bif Nat.beq p 0 && Nat.beq k 3 then plP (!pl) else bif Nat.beq p 68 && Nat.beq k 0 then stA st else bif Nat.beq p 68 && Nat.beq k 1 then stA (!st) else (((RXL[p]?).getD [])[k]?).getD mNul
def cH (I : Nat → Nat → Int32) (J : Nat → Nat → Int64) (pl st : Bool) : HP := (78, shX, I, J, RX pl st)
def setL : List Nat := [15, 19, 21, 23, 25, 27, 29, 31, 33, 35, 37, 39, 41, 43, 45, 47, 49, 51, 53, 55, 57, 61, 64]
def othL : List Nat := [19, 21, 23, 25, 27, 29, 31, 33, 35, 37, 39, 41, 43, 45, 47, 49, 51, 53, 55, 57, 61, 64]
def hisL : List Nat := [19, 21, 23, 25, 27, 29, 31, 33, 35, 37, 39, 41, 43, 45, 47, 49, 51, 53, 55, 57]
set_option maxRecDepth 100000 in
theorem eX0_clear (I : Nat → Nat → Int32) (J : Nat → Nat → Int64) (pl st : Bool)  : fX0_clear [.ref 66] (cH I J pl st) = some (none, (cH (up2 (up2 I 66 1 (nI 0)) 66 2 (nI 0)) J pl st)) := (mth_eq (M := mX0_clear) (n := 1) rfl).trans ((exK_eq mX0_clear [] 12 _).symm.trans rfl)
set_option maxRecDepth 100000 in
theorem eX0_add (I : Nat → Nat → Int32) (J : Nat → Nat → Int64) (pl st : Bool) (x1 : Int32) (x2 : Int32) : fX0_add [.ref 66, .int x1, .int x2] (cH I J pl st) = (if (I 66 2) < (nI 0) then some (some (.int (nI 0)), (cH I J pl st)) else (if (I 66 2) < (nI 20) then (bif inb (I 66 2) 20 then (if x2 = (nI 0) then some (some (.int (nI 1)), (cH (up2 (up2 I 67 ((I 66 2)).toNatClampNeg x1) 66 2 ((I 66 2) + (nI 1))) J pl st)) else some (some (.int (nI 1)), (cH (up2 (up2 (up2 I 67 ((I 66 2)).toNatClampNeg x1) 66 1 ((I 66 1) ||| ((nI 1) <<< ((I 66 2) &&& 31)))) 66 2 ((I 66 2) + (nI 1))) J pl st))) else none) else some (some (.int (nI 0)), (cH I J pl st)))) := (mth_eq (M := mX0_add) (n := 3) rfl).trans ((exK_eq mX0_add [] 41 _).symm.trans rfl)
set_option maxRecDepth 100000 in
theorem eX7_at (I : Nat → Nat → Int32) (J : Nat → Nat → Int64) (pl st : Bool) {P : Nat} (hP : P = 74 ∨ P = 76) (x1 : Int32) : fX7_at [.ref P, .int x1] (cH I J pl st) = (if x1 < (nI 0) then some (some (.int (Int32.ofInt (-1))), (cH I J pl st)) else (if (I P 1) ≤ x1 then some (some (.int (Int32.ofInt (-1))), (cH I J pl st)) else (if (nI 256) ≤ x1 then some (some (.int (Int32.ofInt (-1))), (cH I J pl st)) else (bif inb x1 256 then some (some (.int (I (P + 1) (x1).toNatClampNeg)), (cH I J pl st)) else none)))) := by
  rcases hP with rfl | rfl
  all_goals exact (mth_eq (M := mX7_at) (n := 2) rfl).trans ((exK_eq mX7_at [] 23 _).symm.trans rfl)
set_option maxRecDepth 100000 in
theorem eX7_placeOf (I : Nat → Nat → Int32) (J : Nat → Nat → Int64) (pl st : Bool) {P : Nat} (hP : P = 74 ∨ P = 76) (x1 : Int32) : fX7_placeOf [.ref P, .int x1] (cH I J pl st) = run mX7_placeOf (10, 0, 0, [.ref P, .int x1, .int (nI 0), .int (I P 1), .int (nI 0), .null], [], (cH I J pl st)) := by
  rcases hP with rfl | rfl
  all_goals exact (mth_eq (M := mX7_placeOf) (n := 6) rfl).trans ((exK_eq mX7_placeOf [10] 40 _).symm.trans rfl)
set_option maxRecDepth 100000 in
theorem bX7_placeOf_10 (I : Nat → Nat → Int32) (J : Nat → Nat → Int64) (pl st : Bool) {P : Nat} (hP : P = 74 ∨ P = 76) (x1 : Int32) (x2 : Int32) (x3 : Int32) (x4 : Int32) (z5 : Value) : run mX7_placeOf (10, 0, 0, [.ref P, .int x1, .int x2, .int x3, .int x4, z5], [], (cH I J pl st)) = (if x3 ≤ x2 then some (some (.int x2), (cH I J pl st)) else (if (nI 256) ≤ x4 then some (some (.int x2), (cH I J pl st)) else (callK (fX7_at [.ref P, .int ((x2 + x3) / (nI 2))] (cH I J pl st)) (fun r h' => run mX7_placeOf (36, 0, 0, [.ref P, .int x1, .int x2, .int x3, .int x4, .int ((x2 + x3) / (nI 2))], r.toList ++ [], h'))))) := by
  rcases hP with rfl | rfl
  all_goals exact (exK_eq mX7_placeOf [10, 36] 40 _).symm.trans rfl
set_option maxRecDepth 100000 in
theorem bX7_placeOf_36 (I : Nat → Nat → Int32) (J : Nat → Nat → Int64) (pl st : Bool) {P : Nat} (hP : P = 74 ∨ P = 76) (s0 : Int32) (x1 : Int32) (x2 : Int32) (x3 : Int32) (x4 : Int32) (x5 : Int32) : run mX7_placeOf (36, 0, 0, [.ref P, .int x1, .int x2, .int x3, .int x4, .int x5], [.int s0], (cH I J pl st)) = (if x1 ≤ s0 then run mX7_placeOf (10, 0, 0, [.ref P, .int x1, .int x2, .int x5, .int (x4 + (nI 1)), .int x5], [], (cH I J pl st)) else run mX7_placeOf (10, 0, 0, [.ref P, .int x1, .int (x5 + (nI 1)), .int x3, .int (x4 + (nI 1)), .int x5], [], (cH I J pl st))) := by
  rcases hP with rfl | rfl
  all_goals exact (exK_eq mX7_placeOf [10, 36] 40 _).symm.trans rfl
set_option maxRecDepth 100000 in
theorem eX7_holds (I : Nat → Nat → Int32) (J : Nat → Nat → Int64) (pl st : Bool) {P : Nat} (hP : P = 74 ∨ P = 76) (x1 : Int32) : fX7_holds [.ref P, .int x1] (cH I J pl st) = (if x1 < (nI 0) then some (some (.int (nI 0)), (cH I J pl st)) else (callK (fX7_placeOf [.ref P, .int x1] (cH I J pl st)) (fun r h' => run mX7_holds (10, 0, 0, [.ref P, .int x1], r.toList ++ [.ref P], h')))) := by
  rcases hP with rfl | rfl
  all_goals exact (mth_eq (M := mX7_holds) (n := 2) rfl).trans ((exK_eq mX7_holds [10] 18 _).symm.trans rfl)
set_option maxRecDepth 100000 in
theorem bX7_holds_10 (I : Nat → Nat → Int32) (J : Nat → Nat → Int64) (pl st : Bool) {P : Nat} (hP : P = 74 ∨ P = 76) (s1 : Int32) (x1 : Int32) (z0 : Value) : run mX7_holds (10, 0, 0, [z0, .int x1], [.int s1, .ref P], (cH I J pl st)) = (callK (fX7_at [.ref P, .int s1] (cH I J pl st)) (fun r h' => run mX7_holds (13, 0, 0, [.null, .int x1], r.toList ++ [], h'))) := by
  rcases hP with rfl | rfl
  all_goals exact (exK_eq mX7_holds [10, 13] 18 _).symm.trans rfl
set_option maxRecDepth 100000 in
theorem bX7_holds_13 (I : Nat → Nat → Int32) (J : Nat → Nat → Int64) (pl st : Bool) {P : Nat} (hP : P = 74 ∨ P = 76) (s0 : Int32) (x1 : Int32) (z0 : Value) : run mX7_holds (13, 0, 0, [z0, .int x1], [.int s0], (cH I J pl st)) = (if s0 = x1 then some (some (.int (nI 1)), (cH I J pl st)) else some (some (.int (nI 0)), (cH I J pl st))) := by
  rcases hP with rfl | rfl
  all_goals exact (exK_eq mX7_holds [10, 13] 18 _).symm.trans rfl
set_option maxRecDepth 100000 in
theorem eX11_has (I : Nat → Nat → Int32) (J : Nat → Nat → Int64) (pl st : Bool) (x0 : Int32) (x1 : Int32) : fX11_has [.int x0, .int x1] (cH I J pl st) = (if x1 < (nI 0) then some (some (.int (nI 0)), (cH I J pl st)) else (if (nI 31) ≤ x1 then some (some (.int (nI 0)), (cH I J pl st)) else (if (((Int32.toUInt32 x0 >>> (Int32.toUInt32 x1 &&& Int32.toUInt32 31)).toInt32) &&& (nI 1)) = (nI 0) then some (some (.int (nI 0)), (cH I J pl st)) else some (some (.int (nI 1)), (cH I J pl st))))) := (mth_eq (M := mX11_has) (n := 2) rfl).trans ((exK_eq mX11_has [] 20 _).symm.trans rfl)
set_option maxRecDepth 100000 in
theorem eX0_firstWrong (I : Nat → Nat → Int32) (J : Nat → Nat → Int64) (pl st : Bool)  : fX0_firstWrong [.ref 66, .ref 74] (cH I J pl st) = run mX0_firstWrong (2, 0, 0, [.ref 66, .ref 74, .int (nI 0)], [], (cH I J pl st)) := (mth_eq (M := mX0_firstWrong) (n := 3) rfl).trans ((exK_eq mX0_firstWrong [2] 33 _).symm.trans rfl)
set_option maxRecDepth 100000 in
theorem bX0_firstWrong_2 (I : Nat → Nat → Int32) (J : Nat → Nat → Int64) (pl st : Bool) (x2 : Int32) : run mX0_firstWrong (2, 0, 0, [.ref 66, .ref 74, .int x2], [], (cH I J pl st)) = (if (I 66 2) ≤ x2 then some (some (.int (Int32.ofInt (-1))), (cH I J pl st)) else (if (nI 20) ≤ x2 then some (some (.int (Int32.ofInt (-1))), (cH I J pl st)) else (bif inb x2 20 then (callK (fX7_holds [.ref 74, .int (I 67 (x2).toNatClampNeg)] (cH I J pl st)) (fun r h' => run mX0_firstWrong (29, 0, 0, [.ref 66, .ref 74, .int x2], r.toList ++ [], h'))) else none))) := (exK_eq mX0_firstWrong [2, 29] 33 _).symm.trans rfl
set_option maxRecDepth 100000 in
theorem bX0_firstWrong_29 (I : Nat → Nat → Int32) (J : Nat → Nat → Int64) (pl st : Bool) (s0 : Int32) (x2 : Int32) : run mX0_firstWrong (29, 0, 0, [.ref 66, .ref 74, .int x2], [.int s0], (cH I J pl st)) = (callK (fX11_has [.int (I 66 1), .int x2] (cH I J pl st)) (fun r h' => run mX0_firstWrong (37, 0, 0, [.ref 66, .ref 74, .int x2], r.toList ++ [.int s0], h'))) := (exK_eq mX0_firstWrong [2, 29, 37] 33 _).symm.trans rfl
set_option maxRecDepth 100000 in
theorem bX0_firstWrong_37 (I : Nat → Nat → Int32) (J : Nat → Nat → Int64) (pl st : Bool) (s0 : Int32) (s1 : Int32) (x2 : Int32) : run mX0_firstWrong (37, 0, 0, [.ref 66, .ref 74, .int x2], [.int s1, .int s0], (cH I J pl st)) = (if s0 = s1 then run mX0_firstWrong (2, 0, 0, [.ref 66, .ref 74, .int (x2 + (nI 1))], [], (cH I J pl st)) else some (some (.int x2), (cH I J pl st))) := (exK_eq mX0_firstWrong [2, 29, 37] 33 _).symm.trans rfl
set_option maxRecDepth 100000 in
theorem eJ7_fill_53178_o (I : Nat → Nat → Int32) (J : Nat → Nat → Int64) (pl st : Bool) (x1 : Int32) : fJ7_fill_53178 [.ref 71, .int x1] (cH I J pl st) = run mJ7_fill_53178 (5, 0, 0, [.ref 71, .int x1, .int (nI 0), .int (nI 1024)], [], (cH I J pl st)) := (mth_eq (M := mJ7_fill_53178) (n := 4) rfl).trans ((exK_eq mJ7_fill_53178 [5] 20 _).symm.trans rfl)
set_option maxRecDepth 100000 in
theorem bJ7_fill_53178_5_o (I : Nat → Nat → Int32) (J : Nat → Nat → Int64) (pl st : Bool) (x1 : Int32) (x2 : Int32) (x3 : Int32) : run mJ7_fill_53178 (5, 0, 0, [.ref 71, .int x1, .int x2, .int x3], [], (cH I J pl st)) = (if x3 ≤ x2 then some (none, (cH I J pl st)) else (bif inb x2 1024 then run mJ7_fill_53178 (5, 0, 0, [.ref 71, .int x1, .int (x2 + (nI 1)), .int x3], [], (cH (up2 I 71 (x2).toNatClampNeg x1) J pl st)) else none)) := (exK_eq mJ7_fill_53178 [5] 20 _).symm.trans rfl
set_option maxRecDepth 100000 in
theorem eJ7_fill_53178_r (I : Nat → Nat → Int32) (J : Nat → Nat → Int64) (pl st : Bool) (x1 : Int32) : fJ7_fill_53178 [.ref 12, .int x1] (cH I J pl st) = run mJ7_fill_53178 (5, 0, 0, [.ref 12, .int x1, .int (nI 0), .int (nI 64)], [], (cH I J pl st)) := (mth_eq (M := mJ7_fill_53178) (n := 4) rfl).trans ((exK_eq mJ7_fill_53178 [5] 20 _).symm.trans rfl)
set_option maxRecDepth 100000 in
theorem bJ7_fill_53178_5_r (I : Nat → Nat → Int32) (J : Nat → Nat → Int64) (pl st : Bool) (x1 : Int32) (x2 : Int32) (x3 : Int32) : run mJ7_fill_53178 (5, 0, 0, [.ref 12, .int x1, .int x2, .int x3], [], (cH I J pl st)) = (if x3 ≤ x2 then some (none, (cH I J pl st)) else (bif inb x2 64 then run mJ7_fill_53178 (5, 0, 0, [.ref 12, .int x1, .int (x2 + (nI 1)), .int x3], [], (cH (up2 I 12 (x2).toNatClampNeg x1) J pl st)) else none)) := (exK_eq mJ7_fill_53178 [5] 20 _).symm.trans rfl
set_option maxRecDepth 100000 in
theorem eJ7_fill_53178_s (I : Nat → Nat → Int32) (J : Nat → Nat → Int64) (pl st : Bool) (x1 : Int32) : fJ7_fill_53178 [.ref 16, .int x1] (cH I J pl st) = run mJ7_fill_53178 (5, 0, 0, [.ref 16, .int x1, .int (nI 0), .int (nI 8)], [], (cH I J pl st)) := (mth_eq (M := mJ7_fill_53178) (n := 4) rfl).trans ((exK_eq mJ7_fill_53178 [5] 20 _).symm.trans rfl)
set_option maxRecDepth 100000 in
theorem bJ7_fill_53178_5_s (I : Nat → Nat → Int32) (J : Nat → Nat → Int64) (pl st : Bool) (x1 : Int32) (x2 : Int32) (x3 : Int32) : run mJ7_fill_53178 (5, 0, 0, [.ref 16, .int x1, .int x2, .int x3], [], (cH I J pl st)) = (if x3 ≤ x2 then some (none, (cH I J pl st)) else (bif inb x2 8 then run mJ7_fill_53178 (5, 0, 0, [.ref 16, .int x1, .int (x2 + (nI 1)), .int x3], [], (cH (up2 I 16 (x2).toNatClampNeg x1) J pl st)) else none)) := (exK_eq mJ7_fill_53178 [5] 20 _).symm.trans rfl
set_option maxRecDepth 100000 in
theorem eX9_clear (I : Nat → Nat → Int32) (J : Nat → Nat → Int64) (pl st : Bool)  : fX9_clear [.ref 15] (cH I J pl st) = (callK (fJ7_fill_53178 [.ref 16, .int (nI 1)] (cH I J pl st)) (fun r h' => run mX9_clear (8, 0, 0, [.ref 15], r.toList ++ [], h'))) := (mth_eq (M := mX9_clear) (n := 1) rfl).trans ((exK_eq mX9_clear [8] 16 _).symm.trans rfl)
set_option maxRecDepth 100000 in
theorem bX9_clear_8 (I : Nat → Nat → Int32) (J : Nat → Nat → Int64) (pl st : Bool)  : run mX9_clear (8, 0, 0, [.ref 15], [], (cH I J pl st)) = some (none, (cH (up2 (up2 I 15 1 (nI 0)) 15 2 (nI 15)) J pl st)) := (exK_eq mX9_clear [8] 16 _).symm.trans rfl
set_option maxRecDepth 100000 in
theorem eX1_clear (I : Nat → Nat → Int32) (J : Nat → Nat → Int64) (pl st : Bool)  : fX1_clear [.ref 17] (cH I J pl st) = some (none, (cH (up2 (up2 I 17 1 (nI 0)) 17 2 (nI 0)) J pl st)) := (mth_eq (M := mX1_clear) (n := 1) rfl).trans ((exK_eq mX1_clear [] 12 _).symm.trans rfl)
set_option maxRecDepth 100000 in
theorem eX1_settingAt (I : Nat → Nat → Int32) (J : Nat → Nat → Int64) (pl st : Bool) (x1 : Int32) : fX1_settingAt [.ref 17, .int x1] (cH I J pl st) = (callK (fJ9_floorMod_7cf53 [.int ((I 17 1) + x1), .int (nI 20)] (cH I J pl st)) (fun r h' => run mX1_settingAt (11, 0, 0, [.ref 17, .int x1, .null], r.toList ++ [], h'))) := (mth_eq (M := mX1_settingAt) (n := 3) rfl).trans ((exK_eq mX1_settingAt [11] 24 _).symm.trans rfl)
set_option maxRecDepth 100000 in
theorem bX1_settingAt_11 (I : Nat → Nat → Int32) (J : Nat → Nat → Int64) (pl st : Bool) (s0 : Int32) (z1 : Value) (z2 : Value) : run mX1_settingAt (11, 0, 0, [.ref 17, z1, z2], [.int s0], (cH I J pl st)) = (if (nI 20) ≤ s0 then some (some (.ref 19), (cH I J pl st)) else (bif inb s0 20 then (if (RX pl st 18 (s0).toNatClampNeg) < 78 then some (some (.ref (RX pl st 18 (s0).toNatClampNeg)), (cH I J pl st)) else none) else none)) := (exK_eq mX1_settingAt [11] 24 _).symm.trans rfl
set_option maxRecDepth 100000 in
theorem eX9_costOf (I : Nat → Nat → Int32) (J : Nat → Nat → Int64) (pl st : Bool) {P : Nat} (hP : P ∈ setL) (x1 : Int32) : fX9_costOf [.ref P, .int x1] (cH I J pl st) = (if x1 < (nI 0) then some (some (.int (nI 0)), (cH I J pl st)) else (if (nI 8) ≤ x1 then some (some (.int (nI 0)), (cH I J pl st)) else (bif inb x1 8 then some (some (.int (I (P + 1) (x1).toNatClampNeg)), (cH I J pl st)) else none))) := by
  simp only [setL, List.mem_cons, List.not_mem_nil, or_false] at hP
  rcases hP with rfl | rfl | rfl | rfl | rfl | rfl | rfl | rfl | rfl | rfl | rfl | rfl | rfl | rfl | rfl | rfl | rfl | rfl | rfl | rfl | rfl | rfl | rfl
  all_goals exact (mth_eq (M := mX9_costOf) (n := 2) rfl).trans ((exK_eq mX9_costOf [] 19 _).symm.trans rfl)
set_option maxRecDepth 100000 in
theorem eX9_copy_to (I : Nat → Nat → Int32) (J : Nat → Nat → Int64) (pl st : Bool) {P : Nat} (hP : P ∈ othL)  : fX9_copy [.ref P, .ref 15] (cH I J pl st) = run mX9_copy (2, 0, 0, [.ref P, .ref 15, .int (nI 0)], [], (cH I J pl st)) := by
  simp only [othL, List.mem_cons, List.not_mem_nil, or_false] at hP
  rcases hP with rfl | rfl | rfl | rfl | rfl | rfl | rfl | rfl | rfl | rfl | rfl | rfl | rfl | rfl | rfl | rfl | rfl | rfl | rfl | rfl | rfl | rfl
  all_goals exact (mth_eq (M := mX9_copy) (n := 3) rfl).trans ((exK_eq mX9_copy [2] 30 _).symm.trans rfl)
set_option maxRecDepth 100000 in
theorem bX9_copy_2_to (I : Nat → Nat → Int32) (J : Nat → Nat → Int64) (pl st : Bool) {P : Nat} (hP : P ∈ othL) (x2 : Int32) : run mX9_copy (2, 0, 0, [.ref P, .ref 15, .int x2], [], (cH I J pl st)) = (if (nI 8) ≤ x2 then some (none, (cH (up2 (up2 I P 1 (I 15 1)) P 2 (I 15 2)) J pl st)) else (callK (fX9_costOf [.ref 15, .int x2] (cH I J pl st)) (fun r h' => run mX9_copy (21, 0, 0, [.ref P, .ref 15, .int x2], r.toList ++ [.int x2, .ref (P + 1)], h')))) := by
  simp only [othL, List.mem_cons, List.not_mem_nil, or_false] at hP
  rcases hP with rfl | rfl | rfl | rfl | rfl | rfl | rfl | rfl | rfl | rfl | rfl | rfl | rfl | rfl | rfl | rfl | rfl | rfl | rfl | rfl | rfl | rfl
  all_goals exact (exK_eq mX9_copy [2, 21] 30 _).symm.trans rfl
set_option maxRecDepth 100000 in
theorem bX9_copy_21_to (I : Nat → Nat → Int32) (J : Nat → Nat → Int64) (pl st : Bool) {P : Nat} (hP : P ∈ othL) (s1 : Int32) (s2 : Int32) (x2 : Int32) : run mX9_copy (21, 0, 0, [.ref P, .ref 15, .int x2], [.int s2, .int s1, .ref (P + 1)], (cH I J pl st)) = (bif inb s1 8 then run mX9_copy (2, 0, 0, [.ref P, .ref 15, .int (x2 + (nI 1))], [], (cH (up2 I (P + 1) (s1).toNatClampNeg s2) J pl st)) else none) := by
  simp only [othL, List.mem_cons, List.not_mem_nil, or_false] at hP
  rcases hP with rfl | rfl | rfl | rfl | rfl | rfl | rfl | rfl | rfl | rfl | rfl | rfl | rfl | rfl | rfl | rfl | rfl | rfl | rfl | rfl | rfl | rfl
  all_goals exact (exK_eq mX9_copy [2, 21] 30 _).symm.trans rfl
set_option maxRecDepth 100000 in
theorem eX9_copy_of (I : Nat → Nat → Int32) (J : Nat → Nat → Int64) (pl st : Bool) {P : Nat} (hP : P ∈ othL)  : fX9_copy [.ref 15, .ref P] (cH I J pl st) = run mX9_copy (2, 0, 0, [.ref 15, .ref P, .int (nI 0)], [], (cH I J pl st)) := by
  simp only [othL, List.mem_cons, List.not_mem_nil, or_false] at hP
  rcases hP with rfl | rfl | rfl | rfl | rfl | rfl | rfl | rfl | rfl | rfl | rfl | rfl | rfl | rfl | rfl | rfl | rfl | rfl | rfl | rfl | rfl | rfl
  all_goals exact (mth_eq (M := mX9_copy) (n := 3) rfl).trans ((exK_eq mX9_copy [2] 30 _).symm.trans rfl)
set_option maxRecDepth 100000 in
theorem bX9_copy_2_of (I : Nat → Nat → Int32) (J : Nat → Nat → Int64) (pl st : Bool) {P : Nat} (hP : P ∈ othL) (x2 : Int32) : run mX9_copy (2, 0, 0, [.ref 15, .ref P, .int x2], [], (cH I J pl st)) = (if (nI 8) ≤ x2 then some (none, (cH (up2 (up2 I 15 1 (I P 1)) 15 2 (I P 2)) J pl st)) else (callK (fX9_costOf [.ref P, .int x2] (cH I J pl st)) (fun r h' => run mX9_copy (21, 0, 0, [.ref 15, .ref P, .int x2], r.toList ++ [.int x2, .ref 16], h')))) := by
  simp only [othL, List.mem_cons, List.not_mem_nil, or_false] at hP
  rcases hP with rfl | rfl | rfl | rfl | rfl | rfl | rfl | rfl | rfl | rfl | rfl | rfl | rfl | rfl | rfl | rfl | rfl | rfl | rfl | rfl | rfl | rfl
  all_goals exact (exK_eq mX9_copy [2, 21] 30 _).symm.trans rfl
set_option maxRecDepth 100000 in
theorem bX9_copy_21_of (I : Nat → Nat → Int32) (J : Nat → Nat → Int64) (pl st : Bool) {P : Nat} (hP : P ∈ othL) (s1 : Int32) (s2 : Int32) (x2 : Int32) : run mX9_copy (21, 0, 0, [.ref 15, .ref P, .int x2], [.int s2, .int s1, .ref 16], (cH I J pl st)) = (bif inb s1 8 then run mX9_copy (2, 0, 0, [.ref 15, .ref P, .int (x2 + (nI 1))], [], (cH (up2 I 16 (s1).toNatClampNeg s2) J pl st)) else none) := by
  simp only [othL, List.mem_cons, List.not_mem_nil, or_false] at hP
  rcases hP with rfl | rfl | rfl | rfl | rfl | rfl | rfl | rfl | rfl | rfl | rfl | rfl | rfl | rfl | rfl | rfl | rfl | rfl | rfl | rfl | rfl | rfl
  all_goals exact (exK_eq mX9_copy [2, 21] 30 _).symm.trans rfl
set_option maxRecDepth 100000 in
theorem eX1_add (I : Nat → Nat → Int32) (J : Nat → Nat → Int64) (pl st : Bool) {P : Nat} (hP : P ∈ hisL)  : fX1_add [.ref 17, .ref 15] (cH I J pl st) = (callK (fX1_settingAt [.ref 17, .int (I 17 2)] (cH I J pl st)) (fun r h' => run mX1_add (8, 0, 0, [.ref 17, .ref 15], r.toList ++ [], h'))) := by
  simp only [hisL, List.mem_cons, List.not_mem_nil, or_false] at hP
  rcases hP with rfl | rfl | rfl | rfl | rfl | rfl | rfl | rfl | rfl | rfl | rfl | rfl | rfl | rfl | rfl | rfl | rfl | rfl | rfl | rfl
  all_goals exact (mth_eq (M := mX1_add) (n := 2) rfl).trans ((exK_eq mX1_add [8] 31 _).symm.trans rfl)
set_option maxRecDepth 100000 in
theorem bX1_add_8 (I : Nat → Nat → Int32) (J : Nat → Nat → Int64) (pl st : Bool) {P : Nat} (hP : P ∈ hisL)  : run mX1_add (8, 0, 0, [.ref 17, .ref 15], [.ref P], (cH I J pl st)) = (callK (fX9_copy [.ref P, .ref 15] (cH I J pl st)) (fun r h' => run mX1_add (12, 0, 0, [.ref 17, .ref 15], r.toList ++ [], h'))) := by
  simp only [hisL, List.mem_cons, List.not_mem_nil, or_false] at hP
  rcases hP with rfl | rfl | rfl | rfl | rfl | rfl | rfl | rfl | rfl | rfl | rfl | rfl | rfl | rfl | rfl | rfl | rfl | rfl | rfl | rfl
  all_goals exact (exK_eq mX1_add [8, 12] 31 _).symm.trans rfl
set_option maxRecDepth 100000 in
theorem bX1_add_12 (I : Nat → Nat → Int32) (J : Nat → Nat → Int64) (pl st : Bool) {P : Nat} (hP : P ∈ hisL) (z1 : Value) : run mX1_add (12, 0, 0, [.ref 17, z1], [], (cH I J pl st)) = (if (nI 20) ≤ (I 17 2) then some (none, (cH (up2 I 17 1 (((I 17 1) + (nI 1)) - ((I 17 1) + (nI 1)) / (nI 20) * (nI 20))) J pl st)) else some (none, (cH (up2 I 17 2 ((I 17 2) + (nI 1))) J pl st))) := by
  simp only [hisL, List.mem_cons, List.not_mem_nil, or_false] at hP
  rcases hP with rfl | rfl | rfl | rfl | rfl | rfl | rfl | rfl | rfl | rfl | rfl | rfl | rfl | rfl | rfl | rfl | rfl | rfl | rfl | rfl
  all_goals exact (exK_eq mX1_add [8, 12] 31 _).symm.trans rfl
set_option maxRecDepth 100000 in
theorem eX1_takeBack (I : Nat → Nat → Int32) (J : Nat → Nat → Int64) (pl st : Bool) {P : Nat} (hP : P ∈ hisL) (x1 : Int32) : fX1_takeBack [.ref 17, .int x1, .ref 15] (cH I J pl st) = (if x1 < (nI 1) then some (none, (cH I J pl st)) else (if x1 ≤ (I 17 2) then (callK (fX1_settingAt [.ref 17, .int ((I 17 2) - x1)] (cH (up2 I 17 2 ((I 17 2) - x1)) J pl st)) (fun r h' => run mX1_takeBack (33, 0, 0, [.ref 17, .int x1, .ref 15], r.toList ++ [.ref 15], h'))) else some (none, (cH I J pl st)))) := by
  simp only [hisL, List.mem_cons, List.not_mem_nil, or_false] at hP
  rcases hP with rfl | rfl | rfl | rfl | rfl | rfl | rfl | rfl | rfl | rfl | rfl | rfl | rfl | rfl | rfl | rfl | rfl | rfl | rfl | rfl
  all_goals exact (mth_eq (M := mX1_takeBack) (n := 3) rfl).trans ((exK_eq mX1_takeBack [33] 26 _).symm.trans rfl)
set_option maxRecDepth 100000 in
theorem bX1_takeBack_33 (I : Nat → Nat → Int32) (J : Nat → Nat → Int64) (pl st : Bool) {P : Nat} (hP : P ∈ hisL) (z0 : Value) (z1 : Value) (z2 : Value) : run mX1_takeBack (33, 0, 0, [z0, z1, z2], [.ref P, .ref 15], (cH I J pl st)) = (callK (fX9_copy [.ref 15, .ref P] (cH I J pl st)) (fun r h' => run mX1_takeBack (36, 0, 0, [.null, .null, .null], r.toList ++ [], h'))) := by
  simp only [hisL, List.mem_cons, List.not_mem_nil, or_false] at hP
  rcases hP with rfl | rfl | rfl | rfl | rfl | rfl | rfl | rfl | rfl | rfl | rfl | rfl | rfl | rfl | rfl | rfl | rfl | rfl | rfl | rfl
  all_goals exact (exK_eq mX1_takeBack [33, 36] 26 _).symm.trans rfl
set_option maxRecDepth 100000 in
theorem bX1_takeBack_36 (I : Nat → Nat → Int32) (J : Nat → Nat → Int64) (pl st : Bool) {P : Nat} (hP : P ∈ hisL) (z0 : Value) (z1 : Value) (z2 : Value) : run mX1_takeBack (36, 0, 0, [z0, z1, z2], [], (cH I J pl st)) = some (none, (cH I J pl st)) := by
  simp only [hisL, List.mem_cons, List.not_mem_nil, or_false] at hP
  rcases hP with rfl | rfl | rfl | rfl | rfl | rfl | rfl | rfl | rfl | rfl | rfl | rfl | rfl | rfl | rfl | rfl | rfl | rfl | rfl | rfl
  all_goals exact (exK_eq mX1_takeBack [33, 36] 26 _).symm.trans rfl
set_option maxRecDepth 100000 in
theorem eX2_hold (I : Nat → Nat → Int32) (J : Nat → Nat → Int64) (pl st : Bool) {P : Nat} (hP : P = 60 ∨ P = 63) (x2 : Int32) : fX2_hold [.ref P, .ref 15, .int x2] (cH I J pl st) = (callK (fX9_copy [.ref (P + 1), .ref 15] (cH I J pl st)) (fun r h' => run mX2_hold (8, 0, 0, [.ref P, .ref 15, .int x2], r.toList ++ [], h'))) := by
  rcases hP with rfl | rfl
  all_goals exact (mth_eq (M := mX2_hold) (n := 3) rfl).trans ((exK_eq mX2_hold [8] 16 _).symm.trans rfl)
set_option maxRecDepth 100000 in
theorem bX2_hold_8 (I : Nat → Nat → Int32) (J : Nat → Nat → Int64) (pl st : Bool) {P : Nat} (hP : P = 60 ∨ P = 63) (x2 : Int32) (z1 : Value) : run mX2_hold (8, 0, 0, [.ref P, z1, .int x2], [], (cH I J pl st)) = some (none, (cH (up2 (up2 I P 1 x2) P 2 (nI 1)) J pl st)) := by
  rcases hP with rfl | rfl
  all_goals exact (exK_eq mX2_hold [8] 16 _).symm.trans rfl
set_option maxRecDepth 100000 in
theorem eX8_giftOf (I : Nat → Nat → Int32) (J : Nat → Nat → Int64) (pl st : Bool) (x0 : Int32) (x1 : Int32) : fX8_giftOf [.int x0, .int x1] (cH I J pl st) = some (some (.int ((x0 * (nI 8)) + x1)), (cH I J pl st)) := (mth_eq (M := mX8_giftOf) (n := 2) rfl).trans ((exK_eq mX8_giftOf [] 11 _).symm.trans rfl)
set_option maxRecDepth 100000 in
theorem eX8_countWith (I : Nat → Nat → Int32) (J : Nat → Nat → Int64) (pl st : Bool) (x1 : Int32) (x2 : Int32) : fX8_countWith [.ref 10, .int x1, .int x2] (cH I J pl st) = (callK (fX8_giftOf [.int x1, .int x2] (cH I J pl st)) (fun r h' => run mX8_countWith (5, 0, 0, [.ref 10, .int x1, .int x2, .null], r.toList ++ [], h'))) := (mth_eq (M := mX8_countWith) (n := 4) rfl).trans ((exK_eq mX8_countWith [5] 23 _).symm.trans rfl)
set_option maxRecDepth 100000 in
theorem bX8_countWith_5 (I : Nat → Nat → Int32) (J : Nat → Nat → Int64) (pl st : Bool) (s0 : Int32) (z1 : Value) (z2 : Value) (z3 : Value) : run mX8_countWith (5, 0, 0, [.ref 10, z1, z2, z3], [.int s0], (cH I J pl st)) = (if s0 < (nI 0) then some (some (.int (nI 0)), (cH I J pl st)) else (if (nI 64) ≤ s0 then some (some (.int (nI 0)), (cH I J pl st)) else (bif inb s0 64 then some (some (.int (I 12 (s0).toNatClampNeg)), (cH I J pl st)) else none))) := (exK_eq mX8_countWith [5] 23 _).symm.trans rfl
set_option maxRecDepth 100000 in
theorem eX6_cellOf (I : Nat → Nat → Int32) (J : Nat → Nat → Int64) (pl st : Bool) {P : Nat} (hP : P = 4 ∨ P = 7) (x1 : Int32) : fX6_cellOf [.ref P, .int x1] (cH I J pl st) = (if x1 < (nI 0) then some (some (.int (Int32.ofInt (-1))), (cH I J pl st)) else (if (nI 8) ≤ x1 then some (some (.int (Int32.ofInt (-1))), (cH I J pl st)) else (bif inb x1 8 then some (some (.int (I (P + 2) (x1).toNatClampNeg)), (cH I J pl st)) else none))) := by
  rcases hP with rfl | rfl
  all_goals exact (mth_eq (M := mX6_cellOf) (n := 2) rfl).trans ((exK_eq mX6_cellOf [] 19 _).symm.trans rfl)
set_option maxRecDepth 100000 in
theorem eX6_isWriter (I : Nat → Nat → Int32) (J : Nat → Nat → Int64) (pl st : Bool) {P : Nat} (hP : P = 4 ∨ P = 7) (x1 : Int32) : fX6_isWriter [.ref P, .int x1] (cH I J pl st) = (if x1 < (nI 0) then some (some (.int (nI 0)), (cH I J pl st)) else (if (nI 8) ≤ x1 then some (some (.int (nI 0)), (cH I J pl st)) else (if (((Int32.toUInt32 (I P 4) >>> (Int32.toUInt32 x1 &&& Int32.toUInt32 31)).toInt32) &&& (nI 1)) = (nI 0) then some (some (.int (nI 0)), (cH I J pl st)) else some (some (.int (nI 1)), (cH I J pl st))))) := by
  rcases hP with rfl | rfl
  all_goals exact (mth_eq (M := mX6_isWriter) (n := 2) rfl).trans ((exK_eq mX6_isWriter [] 21 _).symm.trans rfl)
set_option maxRecDepth 100000 in
theorem eX6_kindOf (I : Nat → Nat → Int32) (J : Nat → Nat → Int64) (pl st : Bool) {P : Nat} (hP : P = 4 ∨ P = 7) (x1 : Int32) (x2 : Int32) : fX6_kindOf [.ref P, .int x1, .int x2] (cH I J pl st) = (callK (fX6_isWriter [.ref P, .int x1] (cH I J pl st)) (fun r h' => run mX6_kindOf (5, 0, 0, [.ref P, .int x1, .int x2], r.toList ++ [], h'))) := by
  rcases hP with rfl | rfl
  all_goals exact (mth_eq (M := mX6_kindOf) (n := 3) rfl).trans ((exK_eq mX6_kindOf [5] 25 _).symm.trans rfl)
set_option maxRecDepth 100000 in
theorem bX6_kindOf_5 (I : Nat → Nat → Int32) (J : Nat → Nat → Int64) (pl st : Bool) {P : Nat} (hP : P = 4 ∨ P = 7) (s0 : Int32) (x2 : Int32) (z1 : Value) : run mX6_kindOf (5, 0, 0, [.ref P, z1, .int x2], [.int s0], (cH I J pl st)) = (if s0 = (nI 0) then (callK (fX6_isWriter [.ref P, .int x2] (cH I J pl st)) (fun r h' => run mX6_kindOf (27, 0, 0, [.ref P, .null, .int x2], r.toList ++ [], h'))) else (callK (fX6_isWriter [.ref P, .int x2] (cH I J pl st)) (fun r h' => run mX6_kindOf (13, 0, 0, [.ref P, .null, .int x2], r.toList ++ [], h')))) := by
  rcases hP with rfl | rfl
  all_goals exact (exK_eq mX6_kindOf [5, 13, 27] 25 _).symm.trans rfl
set_option maxRecDepth 100000 in
theorem bX6_kindOf_27 (I : Nat → Nat → Int32) (J : Nat → Nat → Int64) (pl st : Bool) {P : Nat} (hP : P = 4 ∨ P = 7) (s0 : Int32) (z0 : Value) (z1 : Value) (z2 : Value) : run mX6_kindOf (27, 0, 0, [z0, z1, z2], [.int s0], (cH I J pl st)) = (if s0 = (nI 0) then some (some (.int (nI 2)), (cH I J pl st)) else some (some (.int (nI 3)), (cH I J pl st))) := by
  rcases hP with rfl | rfl
  all_goals exact (exK_eq mX6_kindOf [5, 13, 27] 25 _).symm.trans rfl
set_option maxRecDepth 100000 in
theorem bX6_kindOf_13 (I : Nat → Nat → Int32) (J : Nat → Nat → Int64) (pl st : Bool) {P : Nat} (hP : P = 4 ∨ P = 7) (s0 : Int32) (z0 : Value) (z1 : Value) (z2 : Value) : run mX6_kindOf (13, 0, 0, [z0, z1, z2], [.int s0], (cH I J pl st)) = (if s0 = (nI 0) then some (some (.int (nI 0)), (cH I J pl st)) else some (some (.int (nI 1)), (cH I J pl st))) := by
  rcases hP with rfl | rfl
  all_goals exact (exK_eq mX6_kindOf [5, 13, 27] 25 _).symm.trans rfl
set_option maxRecDepth 100000 in
theorem eX6_mayOvertake (I : Nat → Nat → Int32) (J : Nat → Nat → Int64) (pl st : Bool) {P : Nat} (hP : P = 4 ∨ P = 7) (x1 : Int32) (x2 : Int32) (x3 : Int32) : fX6_mayOvertake [.ref P, .int x1, .int x2, .int x3] (cH I J pl st) = (callK (fX6_cellOf [.ref P, .int x1] (cH I J pl st)) (fun r h' => run mX6_mayOvertake (5, 0, 0, [.ref P, .int x1, .int x2, .int x3], r.toList ++ [], h'))) := by
  rcases hP with rfl | rfl
  all_goals exact (mth_eq (M := mX6_mayOvertake) (n := 4) rfl).trans ((exK_eq mX6_mayOvertake [5] 23 _).symm.trans rfl)
set_option maxRecDepth 100000 in
theorem bX6_mayOvertake_5 (I : Nat → Nat → Int32) (J : Nat → Nat → Int64) (pl st : Bool) {P : Nat} (hP : P = 4 ∨ P = 7) (s0 : Int32) (x1 : Int32) (x2 : Int32) (x3 : Int32) : run mX6_mayOvertake (5, 0, 0, [.ref P, .int x1, .int x2, .int x3], [.int s0], (cH I J pl st)) = (callK (fX6_cellOf [.ref P, .int x2] (cH I J pl st)) (fun r h' => run mX6_mayOvertake (10, 0, 0, [.ref P, .int x1, .int x2, .int x3], r.toList ++ [.int s0], h'))) := by
  rcases hP with rfl | rfl
  all_goals exact (exK_eq mX6_mayOvertake [5, 10] 23 _).symm.trans rfl
set_option maxRecDepth 100000 in
theorem bX6_mayOvertake_10 (I : Nat → Nat → Int32) (J : Nat → Nat → Int64) (pl st : Bool) {P : Nat} (hP : P = 4 ∨ P = 7) (s0 : Int32) (s1 : Int32) (x1 : Int32) (x2 : Int32) (x3 : Int32) : run mX6_mayOvertake (10, 0, 0, [.ref P, .int x1, .int x2, .int x3], [.int s1, .int s0], (cH I J pl st)) = (if s0 = s1 then some (some (.int (nI 0)), (cH I J pl st)) else (callK (fX6_kindOf [.ref P, .int x1, .int x2] (cH I J pl st)) (fun r h' => run mX6_mayOvertake (20, 0, 0, [.ref P, .int x1, .int x2, .int x3], r.toList ++ [.int x3], h')))) := by
  rcases hP with rfl | rfl
  all_goals exact (exK_eq mX6_mayOvertake [5, 10, 20] 23 _).symm.trans rfl
set_option maxRecDepth 100000 in
theorem bX6_mayOvertake_20 (I : Nat → Nat → Int32) (J : Nat → Nat → Int64) (pl st : Bool) {P : Nat} (hP : P = 4 ∨ P = 7) (s0 : Int32) (s1 : Int32) (z0 : Value) (z1 : Value) (z2 : Value) (z3 : Value) : run mX6_mayOvertake (20, 0, 0, [z0, z1, z2, z3], [.int s1, .int s0], (cH I J pl st)) = (callK (fX11_has [.int s0, .int s1] (cH I J pl st)) (fun r h' => run mX6_mayOvertake (23, 0, 0, [.null, .null, .null, .null], r.toList ++ [], h'))) := by
  rcases hP with rfl | rfl
  all_goals exact (exK_eq mX6_mayOvertake [5, 10, 20, 23] 23 _).symm.trans rfl
set_option maxRecDepth 100000 in
theorem bX6_mayOvertake_23 (I : Nat → Nat → Int32) (J : Nat → Nat → Int64) (pl st : Bool) {P : Nat} (hP : P = 4 ∨ P = 7) (s0 : Int32) (z0 : Value) (z1 : Value) (z2 : Value) (z3 : Value) : run mX6_mayOvertake (23, 0, 0, [z0, z1, z2, z3], [.int s0], (cH I J pl st)) = (if s0 = (nI 0) then some (some (.int (nI 0)), (cH I J pl st)) else some (some (.int (nI 1)), (cH I J pl st))) := by
  rcases hP with rfl | rfl
  all_goals exact (exK_eq mX6_mayOvertake [5, 10, 20, 23] 23 _).symm.trans rfl
set_option maxRecDepth 100000 in
theorem eX11_gapsBetween (I : Nat → Nat → Int32) (J : Nat → Nat → Int64) (pl st : Bool) (x0 : Int32) (x1 : Int32) : fX11_gapsBetween [.int x0, .int x1] (cH I J pl st) = run mX11_gapsBetween (6, 0, 0, [.int x0, .int x1, .int (nI 0), .int (x0 + (nI 1))], [], (cH I J pl st)) := (mth_eq (M := mX11_gapsBetween) (n := 4) rfl).trans ((exK_eq mX11_gapsBetween [6] 27 _).symm.trans rfl)
set_option maxRecDepth 100000 in
theorem bX11_gapsBetween_6 (I : Nat → Nat → Int32) (J : Nat → Nat → Int64) (pl st : Bool) (x1 : Int32) (x2 : Int32) (x3 : Int32) (z0 : Value) : run mX11_gapsBetween (6, 0, 0, [z0, .int x1, .int x2, .int x3], [], (cH I J pl st)) = (if x1 < x3 then some (some (.int x2), (cH I J pl st)) else (if (nI 8) ≤ x3 then some (some (.int x2), (cH I J pl st)) else run mX11_gapsBetween (6, 0, 0, [.null, .int x1, .int (x2 ||| ((nI 1) <<< (x3 &&& 31))), .int (x3 + (nI 1))], [], (cH I J pl st)))) := (exK_eq mX11_gapsBetween [6] 27 _).symm.trans rfl
set_option maxRecDepth 100000 in
theorem eX3_add (I : Nat → Nat → Int32) (J : Nat → Nat → Int64) (pl st : Bool) (x1 : Int32) : fX3_add [.ref 13, .int x1] (cH I J pl st) = (if (I 13 1) < (nI 0) then some (none, (cH I J pl st)) else (if (nI 28) ≤ (I 13 1) then some (none, (cH I J pl st)) else (bif inb (I 13 1) 28 then some (none, (cH (up2 (up2 I 14 ((I 13 1)).toNatClampNeg x1) 13 1 ((I 13 1) + (nI 1))) J pl st)) else none))) := (mth_eq (M := mX3_add) (n := 2) rfl).trans ((exK_eq mX3_add [] 27 _).symm.trans rfl)
set_option maxRecDepth 100000 in
theorem eX3_gather (I : Nat → Nat → Int32) (J : Nat → Nat → Int64) (pl st : Bool) {P : Nat} (hP : P = 4 ∨ P = 7) (x3 : Int32) : fX3_gather [.ref 13, .ref P, .ref 10, .int x3] (cH I J pl st) = run mX3_gather (8, 0, 0, [.ref 13, .ref P, .ref 10, .int x3, .int (nI 0), .null], [], (cH (up2 I 13 1 (nI 0)) J pl st)) := by
  rcases hP with rfl | rfl
  all_goals exact (mth_eq (M := mX3_gather) (n := 6) rfl).trans ((exK_eq mX3_gather [8, 23] 43 _).symm.trans rfl)
set_option maxRecDepth 100000 in
theorem bX3_gather_8 (I : Nat → Nat → Int32) (J : Nat → Nat → Int64) (pl st : Bool) {P : Nat} (hP : P = 4 ∨ P = 7) (x3 : Int32) (x4 : Int32) (z5 : Value) : run mX3_gather (8, 0, 0, [.ref 13, .ref P, .ref 10, .int x3, .int x4, z5], [], (cH I J pl st)) = (if (I P 3) ≤ x4 then some (none, (cH I J pl st)) else run mX3_gather (23, 0, 0, [.ref 13, .ref P, .ref 10, .int x3, .int x4, .int (x4 + (nI 1))], [], (cH I J pl st))) := by
  rcases hP with rfl | rfl
  all_goals exact (exK_eq mX3_gather [8, 23] 43 _).symm.trans rfl
set_option maxRecDepth 100000 in
theorem bX3_gather_23 (I : Nat → Nat → Int32) (J : Nat → Nat → Int64) (pl st : Bool) {P : Nat} (hP : P = 4 ∨ P = 7) (x3 : Int32) (x4 : Int32) (x5 : Int32) : run mX3_gather (23, 0, 0, [.ref 13, .ref P, .ref 10, .int x3, .int x4, .int x5], [], (cH I J pl st)) = (if (I P 3) ≤ x5 then run mX3_gather (8, 0, 0, [.ref 13, .ref P, .ref 10, .int x3, .int (x4 + (nI 1)), .int x5], [], (cH I J pl st)) else (callK (fX8_countWith [.ref 10, .int x4, .int x5] (cH I J pl st)) (fun r h' => run mX3_gather (40, 0, 0, [.ref 13, .ref P, .ref 10, .int x3, .int x4, .int x5], r.toList ++ [], h')))) := by
  rcases hP with rfl | rfl
  all_goals exact (exK_eq mX3_gather [8, 23, 40] 43 _).symm.trans rfl
set_option maxRecDepth 100000 in
theorem bX3_gather_40 (I : Nat → Nat → Int32) (J : Nat → Nat → Int64) (pl st : Bool) {P : Nat} (hP : P = 4 ∨ P = 7) (s0 : Int32) (x3 : Int32) (x4 : Int32) (x5 : Int32) : run mX3_gather (40, 0, 0, [.ref 13, .ref P, .ref 10, .int x3, .int x4, .int x5], [.int s0], (cH I J pl st)) = (if s0 ≤ (nI 0) then run mX3_gather (23, 0, 0, [.ref 13, .ref P, .ref 10, .int x3, .int x4, .int (x5 + (nI 1))], [], (cH I J pl st)) else (callK (fX6_mayOvertake [.ref P, .int x4, .int x5, .int x3] (cH I J pl st)) (fun r h' => run mX3_gather (52, 0, 0, [.ref 13, .ref P, .ref 10, .int x3, .int x4, .int x5], r.toList ++ [], h')))) := by
  rcases hP with rfl | rfl
  all_goals exact (exK_eq mX3_gather [8, 23, 40, 52] 43 _).symm.trans rfl
set_option maxRecDepth 100000 in
theorem bX3_gather_52 (I : Nat → Nat → Int32) (J : Nat → Nat → Int64) (pl st : Bool) {P : Nat} (hP : P = 4 ∨ P = 7) (s0 : Int32) (x3 : Int32) (x4 : Int32) (x5 : Int32) : run mX3_gather (52, 0, 0, [.ref 13, .ref P, .ref 10, .int x3, .int x4, .int x5], [.int s0], (cH I J pl st)) = (if s0 = (nI 0) then run mX3_gather (23, 0, 0, [.ref 13, .ref P, .ref 10, .int x3, .int x4, .int (x5 + (nI 1))], [], (cH I J pl st)) else (callK (fX11_gapsBetween [.int x4, .int x5] (cH I J pl st)) (fun r h' => run mX3_gather (63, 0, 0, [.ref 13, .ref P, .ref 10, .int x3, .int x4, .int x5], r.toList ++ [.ref 13], h')))) := by
  rcases hP with rfl | rfl
  all_goals exact (exK_eq mX3_gather [8, 23, 40, 52, 63] 43 _).symm.trans rfl
set_option maxRecDepth 100000 in
theorem bX3_gather_63 (I : Nat → Nat → Int32) (J : Nat → Nat → Int64) (pl st : Bool) {P : Nat} (hP : P = 4 ∨ P = 7) (s1 : Int32) (x3 : Int32) (x4 : Int32) (x5 : Int32) : run mX3_gather (63, 0, 0, [.ref 13, .ref P, .ref 10, .int x3, .int x4, .int x5], [.int s1, .ref 13], (cH I J pl st)) = (callK (fX3_add [.ref 13, .int s1] (cH I J pl st)) (fun r h' => run mX3_gather (66, 0, 0, [.ref 13, .ref P, .ref 10, .int x3, .int x4, .int x5], r.toList ++ [], h'))) := by
  rcases hP with rfl | rfl
  all_goals exact (exK_eq mX3_gather [8, 23, 40, 52, 63, 66] 43 _).symm.trans rfl
set_option maxRecDepth 100000 in
theorem bX3_gather_66 (I : Nat → Nat → Int32) (J : Nat → Nat → Int64) (pl st : Bool) {P : Nat} (hP : P = 4 ∨ P = 7) (x3 : Int32) (x4 : Int32) (x5 : Int32) : run mX3_gather (66, 0, 0, [.ref 13, .ref P, .ref 10, .int x3, .int x4, .int x5], [], (cH I J pl st)) = run mX3_gather (23, 0, 0, [.ref 13, .ref P, .ref 10, .int x3, .int x4, .int (x5 + (nI 1))], [], (cH I J pl st)) := by
  rcases hP with rfl | rfl
  all_goals exact (exK_eq mX3_gather [8, 23, 40, 52, 63, 66] 43 _).symm.trans rfl
set_option maxRecDepth 100000 in
theorem eX3_holdersAt (I : Nat → Nat → Int32) (J : Nat → Nat → Int64) (pl st : Bool) (x1 : Int32) : fX3_holdersAt [.ref 13, .int x1] (cH I J pl st) = (if x1 < (nI 0) then some (some (.int (nI 0)), (cH I J pl st)) else (if (nI 28) ≤ x1 then some (some (.int (nI 0)), (cH I J pl st)) else (bif inb x1 28 then some (some (.int (I 14 (x1).toNatClampNeg)), (cH I J pl st)) else none))) := (mth_eq (M := mX3_holdersAt) (n := 2) rfl).trans ((exK_eq mX3_holdersAt [] 19 _).symm.trans rfl)
set_option maxRecDepth 100000 in
theorem eX3_countHeld (I : Nat → Nat → Int32) (J : Nat → Nat → Int64) (pl st : Bool) (x1 : Int32) : fX3_countHeld [.ref 13, .int x1] (cH I J pl st) = run mX3_countHeld (4, 0, 0, [.ref 13, .int x1, .int (nI 0), .int (nI 0)], [], (cH I J pl st)) := (mth_eq (M := mX3_countHeld) (n := 4) rfl).trans ((exK_eq mX3_countHeld [4] 24 _).symm.trans rfl)
set_option maxRecDepth 100000 in
theorem bX3_countHeld_4 (I : Nat → Nat → Int32) (J : Nat → Nat → Int64) (pl st : Bool) (x1 : Int32) (x2 : Int32) (x3 : Int32) : run mX3_countHeld (4, 0, 0, [.ref 13, .int x1, .int x2, .int x3], [], (cH I J pl st)) = (if (I 13 1) ≤ x3 then some (some (.int x2), (cH I J pl st)) else (callK (fX3_holdersAt [.ref 13, .int x3] (cH I J pl st)) (fun r h' => run mX3_countHeld (17, 0, 0, [.ref 13, .int x1, .int x2, .int x3], r.toList ++ [], h')))) := (exK_eq mX3_countHeld [4, 17] 24 _).symm.trans rfl
set_option maxRecDepth 100000 in
theorem bX3_countHeld_17 (I : Nat → Nat → Int32) (J : Nat → Nat → Int64) (pl st : Bool) (s0 : Int32) (x1 : Int32) (x2 : Int32) (x3 : Int32) : run mX3_countHeld (17, 0, 0, [.ref 13, .int x1, .int x2, .int x3], [.int s0], (cH I J pl st)) = (if (s0 &&& x1) = (nI 0) then run mX3_countHeld (4, 0, 0, [.ref 13, .int x1, .int x2, .int (x3 + (nI 1))], [], (cH I J pl st)) else run mX3_countHeld (4, 0, 0, [.ref 13, .int x1, .int (x2 + (nI 1)), .int (x3 + (nI 1))], [], (cH I J pl st))) := (exK_eq mX3_countHeld [4, 17] 24 _).symm.trans rfl
set_option maxRecDepth 100000 in
theorem eX3_areAllHeld (I : Nat → Nat → Int32) (J : Nat → Nat → Int64) (pl st : Bool) (x1 : Int32) : fX3_areAllHeld [.ref 13, .int x1] (cH I J pl st) = (callK (fX3_countHeld [.ref 13, .int x1] (cH I J pl st)) (fun r h' => run mX3_areAllHeld (5, 0, 0, [.ref 13, .int x1], r.toList ++ [], h'))) := (mth_eq (M := mX3_areAllHeld) (n := 2) rfl).trans ((exK_eq mX3_areAllHeld [5] 15 _).symm.trans rfl)
set_option maxRecDepth 100000 in
theorem bX3_areAllHeld_5 (I : Nat → Nat → Int32) (J : Nat → Nat → Int64) (pl st : Bool) (s0 : Int32) (z1 : Value) : run mX3_areAllHeld (5, 0, 0, [.ref 13, z1], [.int s0], (cH I J pl st)) = (if s0 = (I 13 1) then some (some (.int (nI 1)), (cH I J pl st)) else some (some (.int (nI 0)), (cH I J pl st))) := (exK_eq mX3_areAllHeld [5] 15 _).symm.trans rfl
set_option maxRecDepth 100000 in
theorem eJ6_bitCount_0f7a4 (I : Nat → Nat → Int32) (J : Nat → Nat → Int64) (pl st : Bool) (x0 : Int32) : fJ6_bitCount_0f7a4 [.int x0] (cH I J pl st) = some (some (.int ((((((((x0 - (((Int32.toUInt32 x0 >>> (Int32.toUInt32 (nI 1) &&& Int32.toUInt32 31)).toInt32) &&& (nI 1431655765))) &&& (nI 858993459)) + (((Int32.toUInt32 (x0 - (((Int32.toUInt32 x0 >>> (Int32.toUInt32 (nI 1) &&& Int32.toUInt32 31)).toInt32) &&& (nI 1431655765))) >>> (Int32.toUInt32 (nI 2) &&& Int32.toUInt32 31)).toInt32) &&& (nI 858993459))) + ((Int32.toUInt32 (((x0 - (((Int32.toUInt32 x0 >>> (Int32.toUInt32 (nI 1) &&& Int32.toUInt32 31)).toInt32) &&& (nI 1431655765))) &&& (nI 858993459)) + (((Int32.toUInt32 (x0 - (((Int32.toUInt32 x0 >>> (Int32.toUInt32 (nI 1) &&& Int32.toUInt32 31)).toInt32) &&& (nI 1431655765))) >>> (Int32.toUInt32 (nI 2) &&& Int32.toUInt32 31)).toInt32) &&& (nI 858993459))) >>> (Int32.toUInt32 (nI 4) &&& Int32.toUInt32 31)).toInt32)) &&& (nI 252645135)) + ((Int32.toUInt32 (((((x0 - (((Int32.toUInt32 x0 >>> (Int32.toUInt32 (nI 1) &&& Int32.toUInt32 31)).toInt32) &&& (nI 1431655765))) &&& (nI 858993459)) + (((Int32.toUInt32 (x0 - (((Int32.toUInt32 x0 >>> (Int32.toUInt32 (nI 1) &&& Int32.toUInt32 31)).toInt32) &&& (nI 1431655765))) >>> (Int32.toUInt32 (nI 2) &&& Int32.toUInt32 31)).toInt32) &&& (nI 858993459))) + ((Int32.toUInt32 (((x0 - (((Int32.toUInt32 x0 >>> (Int32.toUInt32 (nI 1) &&& Int32.toUInt32 31)).toInt32) &&& (nI 1431655765))) &&& (nI 858993459)) + (((Int32.toUInt32 (x0 - (((Int32.toUInt32 x0 >>> (Int32.toUInt32 (nI 1) &&& Int32.toUInt32 31)).toInt32) &&& (nI 1431655765))) >>> (Int32.toUInt32 (nI 2) &&& Int32.toUInt32 31)).toInt32) &&& (nI 858993459))) >>> (Int32.toUInt32 (nI 4) &&& Int32.toUInt32 31)).toInt32)) &&& (nI 252645135)) >>> (Int32.toUInt32 (nI 8) &&& Int32.toUInt32 31)).toInt32)) + ((Int32.toUInt32 ((((((x0 - (((Int32.toUInt32 x0 >>> (Int32.toUInt32 (nI 1) &&& Int32.toUInt32 31)).toInt32) &&& (nI 1431655765))) &&& (nI 858993459)) + (((Int32.toUInt32 (x0 - (((Int32.toUInt32 x0 >>> (Int32.toUInt32 (nI 1) &&& Int32.toUInt32 31)).toInt32) &&& (nI 1431655765))) >>> (Int32.toUInt32 (nI 2) &&& Int32.toUInt32 31)).toInt32) &&& (nI 858993459))) + ((Int32.toUInt32 (((x0 - (((Int32.toUInt32 x0 >>> (Int32.toUInt32 (nI 1) &&& Int32.toUInt32 31)).toInt32) &&& (nI 1431655765))) &&& (nI 858993459)) + (((Int32.toUInt32 (x0 - (((Int32.toUInt32 x0 >>> (Int32.toUInt32 (nI 1) &&& Int32.toUInt32 31)).toInt32) &&& (nI 1431655765))) >>> (Int32.toUInt32 (nI 2) &&& Int32.toUInt32 31)).toInt32) &&& (nI 858993459))) >>> (Int32.toUInt32 (nI 4) &&& Int32.toUInt32 31)).toInt32)) &&& (nI 252645135)) + ((Int32.toUInt32 (((((x0 - (((Int32.toUInt32 x0 >>> (Int32.toUInt32 (nI 1) &&& Int32.toUInt32 31)).toInt32) &&& (nI 1431655765))) &&& (nI 858993459)) + (((Int32.toUInt32 (x0 - (((Int32.toUInt32 x0 >>> (Int32.toUInt32 (nI 1) &&& Int32.toUInt32 31)).toInt32) &&& (nI 1431655765))) >>> (Int32.toUInt32 (nI 2) &&& Int32.toUInt32 31)).toInt32) &&& (nI 858993459))) + ((Int32.toUInt32 (((x0 - (((Int32.toUInt32 x0 >>> (Int32.toUInt32 (nI 1) &&& Int32.toUInt32 31)).toInt32) &&& (nI 1431655765))) &&& (nI 858993459)) + (((Int32.toUInt32 (x0 - (((Int32.toUInt32 x0 >>> (Int32.toUInt32 (nI 1) &&& Int32.toUInt32 31)).toInt32) &&& (nI 1431655765))) >>> (Int32.toUInt32 (nI 2) &&& Int32.toUInt32 31)).toInt32) &&& (nI 858993459))) >>> (Int32.toUInt32 (nI 4) &&& Int32.toUInt32 31)).toInt32)) &&& (nI 252645135)) >>> (Int32.toUInt32 (nI 8) &&& Int32.toUInt32 31)).toInt32)) >>> (Int32.toUInt32 (nI 16) &&& Int32.toUInt32 31)).toInt32)) &&& (nI 63))), (cH I J pl st)) := (mth_eq (M := mJ6_bitCount_0f7a4) (n := 1) rfl).trans ((exK_eq mJ6_bitCount_0f7a4 [] 47 _).symm.trans rfl)
set_option maxRecDepth 100000 in
theorem eX3_neededOf (I : Nat → Nat → Int32) (J : Nat → Nat → Int64) (pl st : Bool) (x1 : Int32) : fX3_neededOf [.ref 13, .int x1] (cH I J pl st) = run mX3_neededOf (4, 0, 0, [.ref 13, .int x1, .int (nI 0), .int (nI 0), .null], [], (cH I J pl st)) := (mth_eq (M := mX3_neededOf) (n := 5) rfl).trans ((exK_eq mX3_neededOf [4] 31 _).symm.trans rfl)
set_option maxRecDepth 100000 in
theorem bX3_neededOf_4 (I : Nat → Nat → Int32) (J : Nat → Nat → Int64) (pl st : Bool) (x1 : Int32) (x2 : Int32) (x3 : Int32) (z4 : Value) : run mX3_neededOf (4, 0, 0, [.ref 13, .int x1, .int x2, .int x3, z4], [], (cH I J pl st)) = (if (I 13 1) ≤ x3 then some (some (.int x2), (cH I J pl st)) else (callK (fX3_holdersAt [.ref 13, .int x3] (cH I J pl st)) (fun r h' => run mX3_neededOf (17, 0, 0, [.ref 13, .int x1, .int x2, .int x3, .null], r.toList ++ [], h')))) := (exK_eq mX3_neededOf [4, 17] 31 _).symm.trans rfl
set_option maxRecDepth 100000 in
theorem bX3_neededOf_17 (I : Nat → Nat → Int32) (J : Nat → Nat → Int64) (pl st : Bool) (s0 : Int32) (x1 : Int32) (x2 : Int32) (x3 : Int32) (z4 : Value) : run mX3_neededOf (17, 0, 0, [.ref 13, .int x1, .int x2, .int x3, z4], [.int s0], (cH I J pl st)) = (callK (fJ6_bitCount_0f7a4 [.int (s0 &&& x1)] (cH I J pl st)) (fun r h' => run mX3_neededOf (26, 0, 0, [.ref 13, .int x1, .int x2, .int x3, .int (s0 &&& x1)], r.toList ++ [], h'))) := (exK_eq mX3_neededOf [4, 17, 26] 31 _).symm.trans rfl
set_option maxRecDepth 100000 in
theorem bX3_neededOf_26 (I : Nat → Nat → Int32) (J : Nat → Nat → Int64) (pl st : Bool) (s0 : Int32) (x1 : Int32) (x2 : Int32) (x3 : Int32) (x4 : Int32) : run mX3_neededOf (26, 0, 0, [.ref 13, .int x1, .int x2, .int x3, .int x4], [.int s0], (cH I J pl st)) = (if s0 = (nI 1) then run mX3_neededOf (4, 0, 0, [.ref 13, .int x1, .int (x2 ||| x4), .int (x3 + (nI 1)), .int x4], [], (cH I J pl st)) else run mX3_neededOf (4, 0, 0, [.ref 13, .int x1, .int x2, .int (x3 + (nI 1)), .int x4], [], (cH I J pl st))) := (exK_eq mX3_neededOf [4, 17, 26] 31 _).symm.trans rfl
set_option maxRecDepth 100000 in
theorem eX9_costOfSet (I : Nat → Nat → Int32) (J : Nat → Nat → Int64) (pl st : Bool) (x1 : Int32) : fX9_costOfSet [.ref 15, .int x1] (cH I J pl st) = run mX9_costOfSet (4, 0, 0, [.ref 15, .int x1, .int (nI 0), .int (nI 0)], [], (cH I J pl st)) := (mth_eq (M := mX9_costOfSet) (n := 4) rfl).trans ((exK_eq mX9_costOfSet [4] 29 _).symm.trans rfl)
set_option maxRecDepth 100000 in
theorem bX9_costOfSet_4 (I : Nat → Nat → Int32) (J : Nat → Nat → Int64) (pl st : Bool) (x1 : Int32) (x2 : Int32) (x3 : Int32) : run mX9_costOfSet (4, 0, 0, [.ref 15, .int x1, .int x2, .int x3], [], (cH I J pl st)) = (if (nI 8) ≤ x3 then some (some (.int x2), (cH I J pl st)) else (callK (fX11_has [.int x1, .int x3] (cH I J pl st)) (fun r h' => run mX9_costOfSet (18, 0, 0, [.ref 15, .int x1, .int x2, .int x3], r.toList ++ [], h')))) := (exK_eq mX9_costOfSet [4, 18] 29 _).symm.trans rfl
set_option maxRecDepth 100000 in
theorem bX9_costOfSet_18 (I : Nat → Nat → Int32) (J : Nat → Nat → Int64) (pl st : Bool) (s0 : Int32) (x1 : Int32) (x2 : Int32) (x3 : Int32) : run mX9_costOfSet (18, 0, 0, [.ref 15, .int x1, .int x2, .int x3], [.int s0], (cH I J pl st)) = (if s0 = (nI 0) then run mX9_costOfSet (4, 0, 0, [.ref 15, .int x1, .int x2, .int (x3 + (nI 1))], [], (cH I J pl st)) else (bif inb x3 8 then run mX9_costOfSet (4, 0, 0, [.ref 15, .int x1, .int (x2 + (I 16 (x3).toNatClampNeg)), .int (x3 + (nI 1))], [], (cH I J pl st)) else none)) := (exK_eq mX9_costOfSet [4, 18] 29 _).symm.trans rfl
set_option maxRecDepth 100000 in
theorem eX3_cheapestSet (I : Nat → Nat → Int32) (J : Nat → Nat → Int64) (pl st : Bool) (x1 : Int32) : fX3_cheapestSet [.ref 13, .int x1, .ref 15] (cH I J pl st) = (callK (fX9_costOfSet [.ref 15, .int x1] (cH I J pl st)) (fun r h' => run mX3_cheapestSet (7, 0, 0, [.ref 13, .int x1, .ref 15, .int x1, .null, .null], r.toList ++ [], h'))) := (mth_eq (M := mX3_cheapestSet) (n := 6) rfl).trans ((exK_eq mX3_cheapestSet [7, 12] 41 _).symm.trans rfl)
set_option maxRecDepth 100000 in
theorem bX3_cheapestSet_7 (I : Nat → Nat → Int32) (J : Nat → Nat → Int64) (pl st : Bool) (s0 : Int32) (x1 : Int32) (x3 : Int32) (z4 : Value) (z5 : Value) : run mX3_cheapestSet (7, 0, 0, [.ref 13, .int x1, .ref 15, .int x3, z4, z5], [.int s0], (cH I J pl st)) = run mX3_cheapestSet (12, 0, 0, [.ref 13, .int x1, .ref 15, .int x3, .int s0, .int (nI 0)], [], (cH I J pl st)) := (exK_eq mX3_cheapestSet [7, 12] 41 _).symm.trans rfl
set_option maxRecDepth 100000 in
theorem bX3_cheapestSet_12 (I : Nat → Nat → Int32) (J : Nat → Nat → Int64) (pl st : Bool) (x1 : Int32) (x3 : Int32) (x4 : Int32) (x5 : Int32) : run mX3_cheapestSet (12, 0, 0, [.ref 13, .int x1, .ref 15, .int x3, .int x4, .int x5], [], (cH I J pl st)) = (if x1 < x5 then some (some (.int x3), (cH I J pl st)) else (if (x5 &&& (x1 ^^^ (Int32.ofInt (-1)))) = (nI 0) then (callK (fX9_costOfSet [.ref 15, .int x5] (cH I J pl st)) (fun r h' => run mX3_cheapestSet (33, 0, 0, [.ref 13, .int x1, .ref 15, .int x3, .int x4, .int x5], r.toList ++ [], h'))) else run mX3_cheapestSet (12, 0, 0, [.ref 13, .int x1, .ref 15, .int x3, .int x4, .int (x5 + (nI 1))], [], (cH I J pl st)))) := (exK_eq mX3_cheapestSet [7, 12, 33] 41 _).symm.trans rfl
set_option maxRecDepth 100000 in
theorem bX3_cheapestSet_33 (I : Nat → Nat → Int32) (J : Nat → Nat → Int64) (pl st : Bool) (s0 : Int32) (x1 : Int32) (x3 : Int32) (x4 : Int32) (x5 : Int32) : run mX3_cheapestSet (33, 0, 0, [.ref 13, .int x1, .ref 15, .int x3, .int x4, .int x5], [.int s0], (cH I J pl st)) = (if x4 ≤ s0 then run mX3_cheapestSet (12, 0, 0, [.ref 13, .int x1, .ref 15, .int x3, .int x4, .int (x5 + (nI 1))], [], (cH I J pl st)) else (callK (fX3_areAllHeld [.ref 13, .int x5] (cH I J pl st)) (fun r h' => run mX3_cheapestSet (44, 0, 0, [.ref 13, .int x1, .ref 15, .int x3, .int x4, .int x5], r.toList ++ [], h')))) := (exK_eq mX3_cheapestSet [7, 12, 33, 44] 41 _).symm.trans rfl
set_option maxRecDepth 100000 in
theorem bX3_cheapestSet_44 (I : Nat → Nat → Int32) (J : Nat → Nat → Int64) (pl st : Bool) (s0 : Int32) (x1 : Int32) (x3 : Int32) (x4 : Int32) (x5 : Int32) : run mX3_cheapestSet (44, 0, 0, [.ref 13, .int x1, .ref 15, .int x3, .int x4, .int x5], [.int s0], (cH I J pl st)) = (if s0 = (nI 0) then run mX3_cheapestSet (12, 0, 0, [.ref 13, .int x1, .ref 15, .int x3, .int x4, .int (x5 + (nI 1))], [], (cH I J pl st)) else (callK (fX9_costOfSet [.ref 15, .int x5] (cH I J pl st)) (fun r h' => run mX3_cheapestSet (56, 0, 0, [.ref 13, .int x1, .ref 15, .int x5, .int x4, .int x5], r.toList ++ [], h')))) := (exK_eq mX3_cheapestSet [7, 12, 33, 44, 56] 41 _).symm.trans rfl
set_option maxRecDepth 100000 in
theorem bX3_cheapestSet_56 (I : Nat → Nat → Int32) (J : Nat → Nat → Int64) (pl st : Bool) (s0 : Int32) (x1 : Int32) (x3 : Int32) (x5 : Int32) (z4 : Value) : run mX3_cheapestSet (56, 0, 0, [.ref 13, .int x1, .ref 15, .int x3, z4, .int x5], [.int s0], (cH I J pl st)) = run mX3_cheapestSet (12, 0, 0, [.ref 13, .int x1, .ref 15, .int x3, .int s0, .int (x5 + (nI 1))], [], (cH I J pl st)) := (exK_eq mX3_cheapestSet [7, 12, 33, 44, 56] 41 _).symm.trans rfl
set_option maxRecDepth 100000 in
theorem eX6_hasStep (I : Nat → Nat → Int32) (J : Nat → Nat → Int64) (pl st : Bool) {P : Nat} (hP : P = 4 ∨ P = 7) (x1 : Int32) : fX6_hasStep [.ref P, .int x1] (cH I J pl st) = (if x1 < (nI 0) then some (some (.int (nI 0)), (cH I J pl st)) else (if (I P 3) ≤ x1 then some (some (.int (nI 0)), (cH I J pl st)) else some (some (.int (nI 1)), (cH I J pl st)))) := by
  rcases hP with rfl | rfl
  all_goals exact (mth_eq (M := mX6_hasStep) (n := 2) rfl).trans ((exK_eq mX6_hasStep [] 15 _).symm.trans rfl)
set_option maxRecDepth 100000 in
theorem eX4_weigh (I : Nat → Nat → Int32) (J : Nat → Nat → Int64) (pl st : Bool) {P : Nat} (hP : P = 4 ∨ P = 7)  : fX4_weigh [.ref 68, .ref P] (cH I J pl st) = run mX4_weigh (10, 0, 0, [.ref 68, .ref P, .int (nI 1), .int ((nI 8) - (nI 1))], [], (cH I J pl st)) := by
  rcases hP with rfl | rfl
  all_goals exact (mth_eq (M := mX4_weigh) (n := 4) rfl).trans ((exK_eq mX4_weigh [10] 35 _).symm.trans rfl)
set_option maxRecDepth 100000 in
theorem bX4_weigh_10 (I : Nat → Nat → Int32) (J : Nat → Nat → Int64) (pl st : Bool) {P : Nat} (hP : P = 4 ∨ P = 7) (x2 : Int32) (x3 : Int32) : run mX4_weigh (10, 0, 0, [.ref 68, .ref P, .int x2, .int x3], [], (cH I J pl st)) = (if x3 < (nI 0) then some (none, (cH I J pl st)) else (bif inb x3 8 then (callK (fX6_hasStep [.ref P, .int x3] (cH (up2 I 73 (x3).toNatClampNeg x2) J pl st)) (fun r h' => run mX4_weigh (26, 0, 0, [.ref 68, .ref P, .int x2, .int x3], r.toList ++ [], h'))) else none)) := by
  rcases hP with rfl | rfl
  all_goals exact (exK_eq mX4_weigh [10, 26] 35 _).symm.trans rfl
set_option maxRecDepth 100000 in
theorem bX4_weigh_26 (I : Nat → Nat → Int32) (J : Nat → Nat → Int64) (pl st : Bool) {P : Nat} (hP : P = 4 ∨ P = 7) (s0 : Int32) (x2 : Int32) (x3 : Int32) : run mX4_weigh (26, 0, 0, [.ref 68, .ref P, .int x2, .int x3], [.int s0], (cH I J pl st)) = (if s0 = (nI 0) then run mX4_weigh (10, 0, 0, [.ref 68, .ref P, .int x2, .int (x3 + Int32.ofInt (-1))], [], (cH I J pl st)) else (callK (fX6_isWriter [.ref P, .int x3] (cH I J pl st)) (fun r h' => run mX4_weigh (34, 0, 0, [.ref 68, .ref P, .int x2, .int x3], r.toList ++ [], h')))) := by
  rcases hP with rfl | rfl
  all_goals exact (exK_eq mX4_weigh [10, 26, 34] 35 _).symm.trans rfl
set_option maxRecDepth 100000 in
theorem bX4_weigh_34 (I : Nat → Nat → Int32) (J : Nat → Nat → Int64) (pl st : Bool) {P : Nat} (hP : P = 4 ∨ P = 7) (s0 : Int32) (x2 : Int32) (x3 : Int32) : run mX4_weigh (34, 0, 0, [.ref 68, .ref P, .int x2, .int x3], [.int s0], (cH I J pl st)) = (if s0 = (nI 0) then run mX4_weigh (10, 0, 0, [.ref 68, .ref P, .int (x2 * (nI 9)), .int (x3 + Int32.ofInt (-1))], [], (cH I J pl st)) else run mX4_weigh (10, 0, 0, [.ref 68, .ref P, .int x2, .int (x3 + Int32.ofInt (-1))], [], (cH I J pl st))) := by
  rcases hP with rfl | rfl
  all_goals exact (exK_eq mX4_weigh [10, 26, 34] 35 _).symm.trans rfl
set_option maxRecDepth 100000 in
theorem eX6_threadOf (I : Nat → Nat → Int32) (J : Nat → Nat → Int64) (pl st : Bool) {P : Nat} (hP : P = 4 ∨ P = 7) (x1 : Int32) : fX6_threadOf [.ref P, .int x1] (cH I J pl st) = (if x1 < (nI 0) then some (some (.int (Int32.ofInt (-1))), (cH I J pl st)) else (if (nI 8) ≤ x1 then some (some (.int (Int32.ofInt (-1))), (cH I J pl st)) else (bif inb x1 8 then some (some (.int (I (P + 1) (x1).toNatClampNeg)), (cH I J pl st)) else none))) := by
  rcases hP with rfl | rfl
  all_goals exact (mth_eq (M := mX6_threadOf) (n := 2) rfl).trans ((exK_eq mX6_threadOf [] 19 _).symm.trans rfl)
set_option maxRecDepth 100000 in
theorem eX6_isAhead (I : Nat → Nat → Int32) (J : Nat → Nat → Int64) (pl st : Bool) {P : Nat} (hP : P = 4 ∨ P = 7) (x1 : Int32) (x2 : Int32) : fX6_isAhead [.ref P, .int x1, .int x2] (cH I J pl st) = (if x2 ≤ x1 then some (some (.int (nI 0)), (cH I J pl st)) else (callK (fX6_threadOf [.ref P, .int x1] (cH I J pl st)) (fun r h' => run mX6_isAhead (10, 0, 0, [.ref P, .int x1, .int x2], r.toList ++ [], h')))) := by
  rcases hP with rfl | rfl
  all_goals exact (mth_eq (M := mX6_isAhead) (n := 3) rfl).trans ((exK_eq mX6_isAhead [10] 19 _).symm.trans rfl)
set_option maxRecDepth 100000 in
theorem bX6_isAhead_10 (I : Nat → Nat → Int32) (J : Nat → Nat → Int64) (pl st : Bool) {P : Nat} (hP : P = 4 ∨ P = 7) (s0 : Int32) (x2 : Int32) (z1 : Value) : run mX6_isAhead (10, 0, 0, [.ref P, z1, .int x2], [.int s0], (cH I J pl st)) = (callK (fX6_threadOf [.ref P, .int x2] (cH I J pl st)) (fun r h' => run mX6_isAhead (15, 0, 0, [.ref P, .null, .int x2], r.toList ++ [.int s0], h'))) := by
  rcases hP with rfl | rfl
  all_goals exact (exK_eq mX6_isAhead [10, 15] 19 _).symm.trans rfl
set_option maxRecDepth 100000 in
theorem bX6_isAhead_15 (I : Nat → Nat → Int32) (J : Nat → Nat → Int64) (pl st : Bool) {P : Nat} (hP : P = 4 ∨ P = 7) (s0 : Int32) (s1 : Int32) (z0 : Value) (z1 : Value) (z2 : Value) : run mX6_isAhead (15, 0, 0, [z0, z1, z2], [.int s1, .int s0], (cH I J pl st)) = (if s0 = s1 then some (some (.int (nI 1)), (cH I J pl st)) else some (some (.int (nI 0)), (cH I J pl st))) := by
  rcases hP with rfl | rfl
  all_goals exact (exK_eq mX6_isAhead [10, 15] 19 _).symm.trans rfl
set_option maxRecDepth 100000 in
theorem eX6_waitsOf (I : Nat → Nat → Int32) (J : Nat → Nat → Int64) (pl st : Bool) {P : Nat} (hP : P = 4 ∨ P = 7) (x1 : Int32) (x2 : Int32) (x3 : Int32) : fX6_waitsOf [.ref P, .int x1, .int x2, .int x3] (cH I J pl st) = run mX6_waitsOf (6, 0, 0, [.ref P, .int x1, .int x2, .int x3, .int (nI 0), .int (nI 0), .null], [], (cH I J pl st)) := by
  rcases hP with rfl | rfl
  all_goals exact (mth_eq (M := mX6_waitsOf) (n := 7) rfl).trans ((exK_eq mX6_waitsOf [6] 49 _).symm.trans rfl)
set_option maxRecDepth 100000 in
theorem bX6_waitsOf_6 (I : Nat → Nat → Int32) (J : Nat → Nat → Int64) (pl st : Bool) {P : Nat} (hP : P = 4 ∨ P = 7) (x1 : Int32) (x2 : Int32) (x3 : Int32) (x4 : Int32) (x5 : Int32) (z6 : Value) : run mX6_waitsOf (6, 0, 0, [.ref P, .int x1, .int x2, .int x3, .int x4, .int x5, z6], [], (cH I J pl st)) = (if x1 ≤ x5 then some (some (.int x4), (cH I J pl st)) else (if (I P 3) ≤ x5 then some (some (.int x4), (cH I J pl st)) else (callK (fX11_gapsBetween [.int x5, .int x1] (cH I J pl st)) (fun r h' => run mX6_waitsOf (28, 0, 0, [.ref P, .int x1, .int x2, .int x3, .int x4, .int x5, .null], r.toList ++ [.int x2], h'))))) := by
  rcases hP with rfl | rfl
  all_goals exact (exK_eq mX6_waitsOf [6, 28] 49 _).symm.trans rfl
set_option maxRecDepth 100000 in
theorem bX6_waitsOf_28 (I : Nat → Nat → Int32) (J : Nat → Nat → Int64) (pl st : Bool) {P : Nat} (hP : P = 4 ∨ P = 7) (s0 : Int32) (s1 : Int32) (x1 : Int32) (x2 : Int32) (x3 : Int32) (x4 : Int32) (x5 : Int32) (z6 : Value) : run mX6_waitsOf (28, 0, 0, [.ref P, .int x1, .int x2, .int x3, .int x4, .int x5, z6], [.int s1, .int s0], (cH I J pl st)) = (if (s0 &&& s1) = (nI 0) then (callK (fX6_isAhead [.ref P, .int x5, .int x1] (cH I J pl st)) (fun r h' => run mX6_waitsOf (46, 0, 0, [.ref P, .int x1, .int x2, .int x3, .int x4, .int x5, .int (nI 0)], r.toList ++ [], h'))) else (callK (fX6_isAhead [.ref P, .int x5, .int x1] (cH I J pl st)) (fun r h' => run mX6_waitsOf (46, 0, 0, [.ref P, .int x1, .int x2, .int x3, .int x4, .int x5, .int (nI 1)], r.toList ++ [], h')))) := by
  rcases hP with rfl | rfl
  all_goals exact (exK_eq mX6_waitsOf [6, 28, 46] 49 _).symm.trans rfl
set_option maxRecDepth 100000 in
theorem bX6_waitsOf_46 (I : Nat → Nat → Int32) (J : Nat → Nat → Int64) (pl st : Bool) {P : Nat} (hP : P = 4 ∨ P = 7) (s0 : Int32) (x1 : Int32) (x2 : Int32) (x3 : Int32) (x4 : Int32) (x5 : Int32) (x6 : Int32) : run mX6_waitsOf (46, 0, 0, [.ref P, .int x1, .int x2, .int x3, .int x4, .int x5, .int x6], [.int s0], (cH I J pl st)) = (if s0 = (nI 0) then run mX6_waitsOf (6, 0, 0, [.ref P, .int x1, .int x2, .int x3, .int x4, .int (x5 + (nI 1)), .int x6], [], (cH I J pl st)) else (if x6 = (nI 0) then (callK (fX6_mayOvertake [.ref P, .int x5, .int x1, .int x3] (cH I J pl st)) (fun r h' => run mX6_waitsOf (62, 0, 0, [.ref P, .int x1, .int x2, .int x3, .int x4, .int x5, .int x6], r.toList ++ [], h'))) else run mX6_waitsOf (6, 0, 0, [.ref P, .int x1, .int x2, .int x3, .int (x4 ||| ((nI 1) <<< (x5 &&& 31))), .int (x5 + (nI 1)), .int x6], [], (cH I J pl st)))) := by
  rcases hP with rfl | rfl
  all_goals exact (exK_eq mX6_waitsOf [6, 28, 46, 62] 49 _).symm.trans rfl
set_option maxRecDepth 100000 in
theorem bX6_waitsOf_62 (I : Nat → Nat → Int32) (J : Nat → Nat → Int64) (pl st : Bool) {P : Nat} (hP : P = 4 ∨ P = 7) (s0 : Int32) (x1 : Int32) (x2 : Int32) (x3 : Int32) (x4 : Int32) (x5 : Int32) (z6 : Value) : run mX6_waitsOf (62, 0, 0, [.ref P, .int x1, .int x2, .int x3, .int x4, .int x5, z6], [.int s0], (cH I J pl st)) = (if s0 = (nI 0) then run mX6_waitsOf (6, 0, 0, [.ref P, .int x1, .int x2, .int x3, .int (x4 ||| ((nI 1) <<< (x5 &&& 31))), .int (x5 + (nI 1)), .null], [], (cH I J pl st)) else run mX6_waitsOf (6, 0, 0, [.ref P, .int x1, .int x2, .int x3, .int x4, .int (x5 + (nI 1)), .null], [], (cH I J pl st))) := by
  rcases hP with rfl | rfl
  all_goals exact (exK_eq mX6_waitsOf [6, 28, 46, 62] 49 _).symm.trans rfl
set_option maxRecDepth 100000 in
theorem eX4_behind (I : Nat → Nat → Int32) (J : Nat → Nat → Int64) (pl st : Bool) {P : Nat} (hP : P = 4 ∨ P = 7) (x2 : Int64) (x4 : Int32) : fX4_behind [.ref 68, .ref P, .long x2, .int x4] (cH I J pl st) = (callK (fX6_cellOf [.ref P, .int x4] (cH I J pl st)) (fun r h' => run mX4_behind (17, 0, 0, [.ref 68, .ref P, .long x2, .null, .int x4, .long (x2 ||| (1 <<< (Int32.toInt64 x4 &&& 63))), .null, .null, .null, .null, .null], r.toList ++ [.int (nI 4), .int (nI 8)], h'))) := by
  rcases hP with rfl | rfl
  all_goals exact (mth_eq (M := mX4_behind) (n := 11) rfl).trans ((exK_eq mX4_behind [17] 67 _).symm.trans rfl)
set_option maxRecDepth 100000 in
theorem bX4_behind_17 (I : Nat → Nat → Int32) (J : Nat → Nat → Int64) (pl st : Bool) {P : Nat} (hP : P = 4 ∨ P = 7) (s0 : Int32) (s1 : Int32) (s2 : Int32) (x2 : Int64) (x4 : Int32) (x5 : Int64) (z10 : Value) (z7 : Value) (z8 : Value) (z9 : Value) : run mX4_behind (17, 0, 0, [.ref 68, .ref P, .long x2, .null, .int x4, .long x5, .null, z7, z8, z9, z10], [.int s2, .int s1, .int s0], (cH I J pl st)) = (callK (fX6_isWriter [.ref P, .int x4] (cH I J pl st)) (fun r h' => run mX4_behind (27, 0, 0, [.ref 68, .ref P, .long x2, .null, .int x4, .long x5, .null, .int (s0 + (s1 * s2)), .null, .null, .null], r.toList ++ [], h'))) := by
  rcases hP with rfl | rfl
  all_goals exact (exK_eq mX4_behind [17, 27] 67 _).symm.trans rfl
set_option maxRecDepth 100000 in
theorem bX4_behind_27 (I : Nat → Nat → Int32) (J : Nat → Nat → Int64) (pl st : Bool) {P : Nat} (hP : P = 4 ∨ P = 7) (s0 : Int32) (x2 : Int64) (x4 : Int32) (x5 : Int64) (x7 : Int32) (z1 : Value) (z10 : Value) (z8 : Value) (z9 : Value) : run mX4_behind (27, 0, 0, [.ref 68, z1, .long x2, .null, .int x4, .long x5, .null, .int x7, z8, z9, z10], [.int s0], (cH I J pl st)) = (if s0 = (nI 0) then (if x4 < (nI 0) then some (some (.long (x5 + (((((Int64.toUInt64 x2 >>> ((Int32.toInt64 x7).toUInt64 &&& Int64.toUInt64 63)).toInt64) &&& (15)) * (Int32.toInt64 (nI 0))) <<< (Int32.toInt64 (nI 20) &&& 63)))), (cH I J pl st)) else (if (nI 8) ≤ x4 then some (some (.long (x5 + (((((Int64.toUInt64 x2 >>> ((Int32.toInt64 x7).toUInt64 &&& Int64.toUInt64 63)).toInt64) &&& (15)) * (Int32.toInt64 (nI 0))) <<< (Int32.toInt64 (nI 20) &&& 63)))), (cH I J pl st)) else (bif inb x4 8 then some (some (.long (x5 + (((((Int64.toUInt64 x2 >>> ((Int32.toInt64 x7).toUInt64 &&& Int64.toUInt64 63)).toInt64) &&& (15)) * (Int32.toInt64 (I 73 (x4).toNatClampNeg))) <<< (Int32.toInt64 (nI 20) &&& 63)))), (cH I J pl st)) else none))) else some (some (.long ((x5 &&& (((15) <<< (Int32.toInt64 x7 &&& 63)) ^^^ (-1))) ||| ((Int32.toInt64 (x4 + (nI 1))) <<< (Int32.toInt64 x7 &&& 63)))), (cH I J pl st))) := by
  rcases hP with rfl | rfl
  all_goals exact (exK_eq mX4_behind [17, 27] 67 _).symm.trans rfl
set_option maxRecDepth 100000 in
theorem eX4_putNext (I : Nat → Nat → Int32) (J : Nat → Nat → Int64) (pl st : Bool)  (x1 : Int32) (x2 : Int64) : fX4_putNext [.ref 68, .int x1, .long x2] (cH I J pl st) = (if (I 68 6) < (nI 0) then some (none, (cH I J pl st)) else (if (nI 512) ≤ (I 68 6) then some (none, (cH I J pl st)) else (if x1 < (nI 0) then some (none, (cH I J pl st)) else (if (nI 1024) ≤ x1 then some (none, (cH I J pl st)) else (bif inb (I 68 6) 512 then (bif inb x1 1024 then some (none, (cH (up2 (up2 I 68 6 ((I 68 6) + (nI 1))) 71 (x1).toNatClampNeg ((I 68 6) + (nI 1))) (up2 J (stA (!st)) ((I 68 6)).toNatClampNeg x2) pl st)) else none) else none))))) := by
  cases st
  all_goals exact (mth_eq (M := mX4_putNext) (n := 4) rfl).trans ((exK_eq mX4_putNext [] 40 _).symm.trans rfl)
set_option maxRecDepth 100000 in
theorem eX4_addNext (I : Nat → Nat → Int32) (J : Nat → Nat → Int64) (pl st : Bool)  (x1 : Int64) : fX4_addNext [.ref 68, .long x1] (cH I J pl st) = run mX4_addNext (13, 0, 0, [.ref 68, .long x1, .null, .int (Int64.toInt32 ((Int64.toUInt64 (x1 * (-7046029254386353131)) >>> ((Int32.toInt64 (nI 54)).toUInt64 &&& Int64.toUInt64 63)).toInt64)), .int (nI 0), .null, .null], [], (cH I J pl st)) := by
  cases st
  all_goals exact (mth_eq (M := mX4_addNext) (n := 7) rfl).trans ((exK_eq mX4_addNext [13] 53 _).symm.trans rfl)
set_option maxRecDepth 100000 in
theorem bX4_addNext_13 (I : Nat → Nat → Int32) (J : Nat → Nat → Int64) (pl st : Bool)  (x1 : Int64) (x3 : Int32) (x4 : Int32) (z5 : Value) (z6 : Value) : run mX4_addNext (13, 0, 0, [.ref 68, .long x1, .null, .int x3, .int x4, z5, z6], [], (cH I J pl st)) = (if (nI 1024) ≤ x4 then some (none, (cH I J pl st)) else (bif inb ((x3 + x4) &&& (nI 1023)) 1024 then (if ((I 71 (((x3 + x4) &&& (nI 1023))).toNatClampNeg) - (nI 1)) < (nI 0) then (callK (fX4_putNext [.ref 68, .int ((x3 + x4) &&& (nI 1023)), .long x1] (cH I J pl st)) (fun r h' => run mX4_addNext (64, 0, 0, [.ref 68, .long x1, .null, .int x3, .int x4, .int ((x3 + x4) &&& (nI 1023)), .int ((I 71 (((x3 + x4) &&& (nI 1023))).toNatClampNeg) - (nI 1))], r.toList ++ [], h'))) else (if ((I 71 (((x3 + x4) &&& (nI 1023))).toNatClampNeg) - (nI 1)) < (nI 512) then (bif inb ((I 71 (((x3 + x4) &&& (nI 1023))).toNatClampNeg) - (nI 1)) 512 then (if (lg_cmp (J (stA (!st)) (((I 71 (((x3 + x4) &&& (nI 1023))).toNatClampNeg) - (nI 1))).toNatClampNeg) x1) = (nI 0) then some (none, (cH I J pl st)) else run mX4_addNext (13, 0, 0, [.ref 68, .long x1, .null, .int x3, .int (x4 + (nI 1)), .int ((x3 + x4) &&& (nI 1023)), .int ((I 71 (((x3 + x4) &&& (nI 1023))).toNatClampNeg) - (nI 1))], [], (cH I J pl st))) else none) else (callK (fX4_putNext [.ref 68, .int ((x3 + x4) &&& (nI 1023)), .long x1] (cH I J pl st)) (fun r h' => run mX4_addNext (64, 0, 0, [.ref 68, .long x1, .null, .int x3, .int x4, .int ((x3 + x4) &&& (nI 1023)), .int ((I 71 (((x3 + x4) &&& (nI 1023))).toNatClampNeg) - (nI 1))], r.toList ++ [], h'))))) else none)) := by
  cases st
  all_goals exact (exK_eq mX4_addNext [13, 64] 53 _).symm.trans rfl
set_option maxRecDepth 100000 in
theorem bX4_addNext_64 (I : Nat → Nat → Int32) (J : Nat → Nat → Int64) (pl st : Bool)  (z0 : Value) (z1 : Value) (z2 : Value) (z3 : Value) (z4 : Value) (z5 : Value) (z6 : Value) : run mX4_addNext (64, 0, 0, [z0, z1, z2, z3, z4, z5, z6], [], (cH I J pl st)) = some (none, (cH I J pl st)) := by
  cases st
  all_goals exact (exK_eq mX4_addNext [13, 64] 53 _).symm.trans rfl
set_option maxRecDepth 100000 in
theorem eX4_doEach (I : Nat → Nat → Int32) (J : Nat → Nat → Int64) (pl st : Bool) {P : Nat} (hP : P = 4 ∨ P = 7) (x2 : Int64) : fX4_doEach [.ref 68, .ref P, .long x2] (cH I J pl st) = run mX4_doEach (13, 0, 0, [.ref 68, .ref P, .long x2, .null, .int (((Int64.toInt32 x2) ^^^ (Int32.ofInt (-1))) &&& (nI 255)), .int (nI 0)], [], (cH I J pl st)) := by
  rcases hP with rfl | rfl
  all_goals exact (mth_eq (M := mX4_doEach) (n := 6) rfl).trans ((exK_eq mX4_doEach [13] 44 _).symm.trans rfl)
set_option maxRecDepth 100000 in
theorem bX4_doEach_13 (I : Nat → Nat → Int32) (J : Nat → Nat → Int64) (pl st : Bool) {P : Nat} (hP : P = 4 ∨ P = 7) (x2 : Int64) (x4 : Int32) (x5 : Int32) : run mX4_doEach (13, 0, 0, [.ref 68, .ref P, .long x2, .null, .int x4, .int x5], [], (cH I J pl st)) = (if (I P 3) ≤ x5 then some (none, (cH I J pl st)) else (if (nI 8) ≤ x5 then some (none, (cH I J pl st)) else (callK (fX11_has [.int x4, .int x5] (cH I J pl st)) (fun r h' => run mX4_doEach (39, 0, 0, [.ref 68, .ref P, .long x2, .null, .int x4, .int x5], r.toList ++ [], h'))))) := by
  rcases hP with rfl | rfl
  all_goals exact (exK_eq mX4_doEach [13, 39] 44 _).symm.trans rfl
set_option maxRecDepth 100000 in
theorem bX4_doEach_39 (I : Nat → Nat → Int32) (J : Nat → Nat → Int64) (pl st : Bool) {P : Nat} (hP : P = 4 ∨ P = 7) (s0 : Int32) (x2 : Int64) (x4 : Int32) (x5 : Int32) : run mX4_doEach (39, 0, 0, [.ref 68, .ref P, .long x2, .null, .int x4, .int x5], [.int s0], (cH I J pl st)) = (if s0 = (nI 0) then run mX4_doEach (13, 0, 0, [.ref 68, .ref P, .long x2, .null, .int x4, .int (x5 + (nI 1))], [], (cH I J pl st)) else (bif inb x5 8 then (if ((I 72 (x5).toNatClampNeg) &&& x4) = (nI 0) then (callK (fX4_behind [.ref 68, .ref P, .long x2, .int x5] (cH I J pl st)) (fun r h' => run mX4_doEach (64, 0, 0, [.ref 68, .ref P, .long x2, .null, .int x4, .int x5], r.toList ++ [.ref 68], h'))) else run mX4_doEach (13, 0, 0, [.ref 68, .ref P, .long x2, .null, .int x4, .int (x5 + (nI 1))], [], (cH I J pl st))) else none)) := by
  rcases hP with rfl | rfl
  all_goals exact (exK_eq mX4_doEach [13, 39, 64] 44 _).symm.trans rfl
set_option maxRecDepth 100000 in
theorem bX4_doEach_64 (I : Nat → Nat → Int32) (J : Nat → Nat → Int64) (pl st : Bool) {P : Nat} (hP : P = 4 ∨ P = 7) (s1 : Int64) (x2 : Int64) (x4 : Int32) (x5 : Int32) : run mX4_doEach (64, 0, 0, [.ref 68, .ref P, .long x2, .null, .int x4, .int x5], [.long s1, .ref 68], (cH I J pl st)) = (callK (fX4_addNext [.ref 68, .long s1] (cH I J pl st)) (fun r h' => run mX4_doEach (67, 0, 0, [.ref 68, .ref P, .long x2, .null, .int x4, .int x5], r.toList ++ [], h'))) := by
  rcases hP with rfl | rfl
  all_goals exact (exK_eq mX4_doEach [13, 39, 64, 67] 44 _).symm.trans rfl
set_option maxRecDepth 100000 in
theorem bX4_doEach_67 (I : Nat → Nat → Int32) (J : Nat → Nat → Int64) (pl st : Bool) {P : Nat} (hP : P = 4 ∨ P = 7) (x2 : Int64) (x4 : Int32) (x5 : Int32) : run mX4_doEach (67, 0, 0, [.ref 68, .ref P, .long x2, .null, .int x4, .int x5], [], (cH I J pl st)) = run mX4_doEach (13, 0, 0, [.ref 68, .ref P, .long x2, .null, .int x4, .int (x5 + (nI 1))], [], (cH I J pl st)) := by
  rcases hP with rfl | rfl
  all_goals exact (exK_eq mX4_doEach [13, 39, 64, 67] 44 _).symm.trans rfl
end
section
set_option maxRecDepth 100000 in
theorem eX4_doOneMore (I : Nat → Nat → Int32) (J : Nat → Nat → Int64) (pl st : Bool) {P : Nat} (hP : P = 4 ∨ P = 7)  : fX4_doOneMore [.ref 68, .ref P] (cH I J pl st) = (callK (fJ7_fill_53178 [.ref 71, .int (nI 0)] (cH I J pl st)) (fun r h' => run mX4_doOneMore (8, 0, 0, [.ref 68, .ref P, .null], r.toList ++ [], h'))) := by
  cases st <;> rcases hP with rfl | rfl
  all_goals exact (mth_eq (M := mX4_doOneMore) (n := 3) rfl).trans ((exK_eq mX4_doOneMore [8, 15] 47 _).symm.trans rfl)
set_option maxRecDepth 100000 in
theorem bX4_doOneMore_8 (I : Nat → Nat → Int32) (J : Nat → Nat → Int64) (pl st : Bool) {P : Nat} (hP : P = 4 ∨ P = 7) (z2 : Value) : run mX4_doOneMore (8, 0, 0, [.ref 68, .ref P, z2], [], (cH I J pl st)) = run mX4_doOneMore (15, 0, 0, [.ref 68, .ref P, .int (nI 0)], [], (cH (up2 I 68 6 (nI 0)) J pl st)) := by
  cases st <;> rcases hP with rfl | rfl
  all_goals exact (exK_eq mX4_doOneMore [8, 15] 47 _).symm.trans rfl
set_option maxRecDepth 100000 in
theorem bX4_doOneMore_15 (I : Nat → Nat → Int32) (J : Nat → Nat → Int64) (pl st : Bool) {P : Nat} (hP : P = 4 ∨ P = 7) (x2 : Int32) : run mX4_doOneMore (15, 0, 0, [.ref 68, .ref P, .int x2], [], (cH I J pl st)) = (if (I 68 5) ≤ x2 then some (none, (78, shX, (up2 I 68 5 (I 68 6)), J, (up2 (up2 (RX pl st) 68 0 (stA (!st))) 68 1 (stA st)))) else (if (nI 512) ≤ x2 then some (none, (78, shX, (up2 I 68 5 (I 68 6)), J, (up2 (up2 (RX pl st) 68 0 (stA (!st))) 68 1 (stA st)))) else (bif inb x2 512 then (callK (fX4_doEach [.ref 68, .ref P, .long (J (stA st) (x2).toNatClampNeg)] (cH I J pl st)) (fun r h' => run mX4_doOneMore (43, 0, 0, [.ref 68, .ref P, .int x2], r.toList ++ [], h'))) else none))) := by
  cases st <;> rcases hP with rfl | rfl
  all_goals exact (exK_eq mX4_doOneMore [8, 15, 43] 47 _).symm.trans rfl
set_option maxRecDepth 100000 in
theorem bX4_doOneMore_43 (I : Nat → Nat → Int32) (J : Nat → Nat → Int64) (pl st : Bool) {P : Nat} (hP : P = 4 ∨ P = 7) (x2 : Int32) : run mX4_doOneMore (43, 0, 0, [.ref 68, .ref P, .int x2], [], (cH I J pl st)) = run mX4_doOneMore (15, 0, 0, [.ref 68, .ref P, .int (x2 + (nI 1))], [], (cH I J pl st)) := by
  cases st <;> rcases hP with rfl | rfl
  all_goals exact (exK_eq mX4_doOneMore [8, 15, 43] 47 _).symm.trans rfl
set_option maxRecDepth 100000 in
theorem eX7_clear (I : Nat → Nat → Int32) (J : Nat → Nat → Int64) (pl st : Bool) {P : Nat} (hP : P = 74 ∨ P = 76)  : fX7_clear [.ref P] (cH I J pl st) = some (none, (cH (up2 I P 1 (nI 0)) J pl st)) := by
  rcases hP with rfl | rfl
  all_goals exact (mth_eq (M := mX7_clear) (n := 1) rfl).trans ((exK_eq mX7_clear [] 9 _).symm.trans rfl)
set_option maxRecDepth 100000 in
theorem eX7_add (I : Nat → Nat → Int32) (J : Nat → Nat → Int64) (pl st : Bool) {P : Nat} (hP : P = 74 ∨ P = 76) (x1 : Int32) : fX7_add [.ref P, .int x1] (cH I J pl st) = (callK (fX7_placeOf [.ref P, .int x1] (cH I J pl st)) (fun r h' => run mX7_add (5, 0, 0, [.ref P, .int x1, .null, .null], r.toList ++ [], h'))) := by
  rcases hP with rfl | rfl
  all_goals exact (mth_eq (M := mX7_add) (n := 4) rfl).trans ((exK_eq mX7_add [5, 45] 57 _).symm.trans rfl)
set_option maxRecDepth 100000 in
theorem bX7_add_5 (I : Nat → Nat → Int32) (J : Nat → Nat → Int64) (pl st : Bool) {P : Nat} (hP : P = 74 ∨ P = 76) (s0 : Int32) (x1 : Int32) (z2 : Value) (z3 : Value) : run mX7_add (5, 0, 0, [.ref P, .int x1, z2, z3], [.int s0], (cH I J pl st)) = (callK (fX7_at [.ref P, .int s0] (cH I J pl st)) (fun r h' => run mX7_add (11, 0, 0, [.ref P, .int x1, .int s0, .null], r.toList ++ [], h'))) := by
  rcases hP with rfl | rfl
  all_goals exact (exK_eq mX7_add [5, 11, 45] 57 _).symm.trans rfl
set_option maxRecDepth 100000 in
theorem bX7_add_11 (I : Nat → Nat → Int32) (J : Nat → Nat → Int64) (pl st : Bool) {P : Nat} (hP : P = 74 ∨ P = 76) (s0 : Int32) (x1 : Int32) (x2 : Int32) (z3 : Value) : run mX7_add (11, 0, 0, [.ref P, .int x1, .int x2, z3], [.int s0], (cH I J pl st)) = (if s0 = x1 then some (none, (cH I J pl st)) else (if x2 < (nI 0) then some (none, (cH I J pl st)) else (if (I P 1) < x2 then some (none, (cH I J pl st)) else (if (I P 1) < (nI 256) then run mX7_add (45, 0, 0, [.ref P, .int x1, .int x2, .int (I P 1)], [], (cH I J pl st)) else some (none, (cH I J pl st)))))) := by
  rcases hP with rfl | rfl
  all_goals exact (exK_eq mX7_add [5, 11, 45] 57 _).symm.trans rfl
set_option maxRecDepth 100000 in
theorem bX7_add_45 (I : Nat → Nat → Int32) (J : Nat → Nat → Int64) (pl st : Bool) {P : Nat} (hP : P = 74 ∨ P = 76) (x1 : Int32) (x2 : Int32) (x3 : Int32) : run mX7_add (45, 0, 0, [.ref P, .int x1, .int x2, .int x3], [], (cH I J pl st)) = (if x3 ≤ x2 then (bif inb x2 256 then some (none, (cH (up2 (up2 I (P + 1) (x2).toNatClampNeg x1) P 1 ((I P 1) + (nI 1))) J pl st)) else none) else (bif inb (x3 - (nI 1)) 256 then (bif inb x3 256 then run mX7_add (45, 0, 0, [.ref P, .int x1, .int x2, .int (x3 + Int32.ofInt (-1))], [], (cH (up2 I (P + 1) (x3).toNatClampNeg (I (P + 1) ((x3 - (nI 1))).toNatClampNeg)) J pl st)) else none) else none)) := by
  rcases hP with rfl | rfl
  all_goals exact (exK_eq mX7_add [5, 11, 45] 57 _).symm.trans rfl
set_option maxRecDepth 100000 in
theorem eX4_findReadings (I : Nat → Nat → Int32) (J : Nat → Nat → Int64) (pl st : Bool) {P : Nat} (hP : P = 4 ∨ P = 7) {Q : Nat} (hQ : Q = 74 ∨ Q = 76) (x2 : Int32) (x3 : Int32) : fX4_findReadings [.ref 68, .ref P, .int x2, .int x3, .ref Q] (cH I J pl st) = (callK (fX4_weigh [.ref 68, .ref P] (cH I J pl st)) (fun r h' => run mX4_findReadings (5, 0, 0, [.ref 68, .ref P, .int x2, .int x3, .ref Q, .null], r.toList ++ [], h'))) := by
  cases st <;> rcases hP with rfl | rfl <;> rcases hQ with rfl | rfl
  all_goals exact (mth_eq (M := mX4_findReadings) (n := 6) rfl).trans ((exK_eq mX4_findReadings [5, 8, 63, 91] 74 _).symm.trans rfl)
set_option maxRecDepth 100000 in
theorem bX4_findReadings_5 (I : Nat → Nat → Int32) (J : Nat → Nat → Int64) (pl st : Bool) {P : Nat} (hP : P = 4 ∨ P = 7) {Q : Nat} (hQ : Q = 74 ∨ Q = 76) (x2 : Int32) (x3 : Int32) (z5 : Value) : run mX4_findReadings (5, 0, 0, [.ref 68, .ref P, .int x2, .int x3, .ref Q, z5], [], (cH I J pl st)) = run mX4_findReadings (8, 0, 0, [.ref 68, .ref P, .int x2, .int x3, .ref Q, .int (nI 0)], [], (cH I J pl st)) := by
  cases st <;> rcases hP with rfl | rfl <;> rcases hQ with rfl | rfl
  all_goals exact (exK_eq mX4_findReadings [5, 8, 63, 91] 74 _).symm.trans rfl
set_option maxRecDepth 100000 in
theorem bX4_findReadings_8 (I : Nat → Nat → Int32) (J : Nat → Nat → Int64) (pl st : Bool) {P : Nat} (hP : P = 4 ∨ P = 7) {Q : Nat} (hQ : Q = 74 ∨ Q = 76) (x2 : Int32) (x3 : Int32) (x5 : Int32) : run mX4_findReadings (8, 0, 0, [.ref 68, .ref P, .int x2, .int x3, .ref Q, .int x5], [], (cH I J pl st)) = (if (I P 3) ≤ x5 then run mX4_findReadings (63, 0, 0, [.ref 68, .ref P, .int x2, .int x3, .ref Q, .int (nI 0)], [], (cH (up2 I 68 5 (nI 1)) (up2 J (stA st) 0 0) pl st)) else (if (nI 8) ≤ x5 then run mX4_findReadings (63, 0, 0, [.ref 68, .ref P, .int x2, .int x3, .ref Q, .int (nI 0)], [], (cH (up2 I 68 5 (nI 1)) (up2 J (stA st) 0 0) pl st)) else (callK (fX6_waitsOf [.ref P, .int x5, .int x2, .int x3] (cH I J pl st)) (fun r h' => run mX4_findReadings (41, 0, 0, [.ref 68, .ref P, .int x2, .int x3, .ref Q, .int x5], r.toList ++ [.int x5, .ref 72], h'))))) := by
  cases st <;> rcases hP with rfl | rfl <;> rcases hQ with rfl | rfl
  all_goals exact (exK_eq mX4_findReadings [5, 8, 41, 63, 91] 74 _).symm.trans rfl
set_option maxRecDepth 100000 in
theorem bX4_findReadings_63 (I : Nat → Nat → Int32) (J : Nat → Nat → Int64) (pl st : Bool) {P : Nat} (hP : P = 4 ∨ P = 7) {Q : Nat} (hQ : Q = 74 ∨ Q = 76) (x5 : Int32) (z2 : Value) (z3 : Value) : run mX4_findReadings (63, 0, 0, [.ref 68, .ref P, z2, z3, .ref Q, .int x5], [], (cH I J pl st)) = (if (I P 3) ≤ x5 then (callK (fX7_clear [.ref Q] (cH I J pl st)) (fun r h' => run mX4_findReadings (88, 0, 0, [.ref 68, .ref P, .null, .null, .ref Q, .int x5], r.toList ++ [], h'))) else (callK (fX4_doOneMore [.ref 68, .ref P] (cH I J pl st)) (fun r h' => run mX4_findReadings (77, 0, 0, [.ref 68, .ref P, .null, .null, .ref Q, .int x5], r.toList ++ [], h')))) := by
  cases st <;> rcases hP with rfl | rfl <;> rcases hQ with rfl | rfl
  all_goals exact (exK_eq mX4_findReadings [5, 8, 41, 63, 77, 88, 91] 74 _).symm.trans rfl
set_option maxRecDepth 100000 in
theorem bX4_findReadings_41 (I : Nat → Nat → Int32) (J : Nat → Nat → Int64) (pl st : Bool) {P : Nat} (hP : P = 4 ∨ P = 7) {Q : Nat} (hQ : Q = 74 ∨ Q = 76) (s1 : Int32) (s2 : Int32) (x2 : Int32) (x3 : Int32) (x5 : Int32) : run mX4_findReadings (41, 0, 0, [.ref 68, .ref P, .int x2, .int x3, .ref Q, .int x5], [.int s2, .int s1, .ref 72], (cH I J pl st)) = (bif inb s1 8 then run mX4_findReadings (8, 0, 0, [.ref 68, .ref P, .int x2, .int x3, .ref Q, .int (x5 + (nI 1))], [], (cH (up2 I 72 (s1).toNatClampNeg s2) J pl st)) else none) := by
  cases st <;> rcases hP with rfl | rfl <;> rcases hQ with rfl | rfl
  all_goals exact (exK_eq mX4_findReadings [5, 8, 41, 63, 77, 88, 91] 74 _).symm.trans rfl
set_option maxRecDepth 100000 in
theorem bX4_findReadings_88 (I : Nat → Nat → Int32) (J : Nat → Nat → Int64) (pl st : Bool) {P : Nat} (hP : P = 4 ∨ P = 7) {Q : Nat} (hQ : Q = 74 ∨ Q = 76) (z1 : Value) (z2 : Value) (z3 : Value) (z5 : Value) : run mX4_findReadings (88, 0, 0, [.ref 68, z1, z2, z3, .ref Q, z5], [], (cH I J pl st)) = run mX4_findReadings (91, 0, 0, [.ref 68, .null, .null, .null, .ref Q, .int (nI 0)], [], (cH I J pl st)) := by
  cases st <;> rcases hP with rfl | rfl <;> rcases hQ with rfl | rfl
  all_goals exact (exK_eq mX4_findReadings [5, 8, 41, 63, 77, 88, 91] 74 _).symm.trans rfl
set_option maxRecDepth 100000 in
theorem bX4_findReadings_77 (I : Nat → Nat → Int32) (J : Nat → Nat → Int64) (pl st : Bool) {P : Nat} (hP : P = 4 ∨ P = 7) {Q : Nat} (hQ : Q = 74 ∨ Q = 76) (x5 : Int32) (z2 : Value) (z3 : Value) : run mX4_findReadings (77, 0, 0, [.ref 68, .ref P, z2, z3, .ref Q, .int x5], [], (cH I J pl st)) = run mX4_findReadings (63, 0, 0, [.ref 68, .ref P, .null, .null, .ref Q, .int (x5 + (nI 1))], [], (cH I J pl st)) := by
  cases st <;> rcases hP with rfl | rfl <;> rcases hQ with rfl | rfl
  all_goals exact (exK_eq mX4_findReadings [5, 8, 41, 63, 77, 88, 91] 74 _).symm.trans rfl
set_option maxRecDepth 100000 in
theorem bX4_findReadings_91 (I : Nat → Nat → Int32) (J : Nat → Nat → Int64) (pl st : Bool) {P : Nat} (hP : P = 4 ∨ P = 7) {Q : Nat} (hQ : Q = 74 ∨ Q = 76) (x5 : Int32) (z1 : Value) (z2 : Value) (z3 : Value) : run mX4_findReadings (91, 0, 0, [.ref 68, z1, z2, z3, .ref Q, .int x5], [], (cH I J pl st)) = (if (I 68 5) ≤ x5 then some (none, (cH I J pl st)) else (if (nI 512) ≤ x5 then some (none, (cH I J pl st)) else (bif inb x5 512 then (callK (fX7_add [.ref Q, .int (Int64.toInt32 ((Int64.toUInt64 (J (stA st) (x5).toNatClampNeg) >>> ((Int32.toInt64 (nI 20)).toUInt64 &&& Int64.toUInt64 63)).toInt64))] (cH I J pl st)) (fun r h' => run mX4_findReadings (126, 0, 0, [.ref 68, .null, .null, .null, .ref Q, .int x5], r.toList ++ [], h'))) else none))) := by
  cases st <;> rcases hP with rfl | rfl <;> rcases hQ with rfl | rfl
  all_goals exact (exK_eq mX4_findReadings [5, 8, 41, 63, 77, 88, 91, 126] 74 _).symm.trans rfl
set_option maxRecDepth 100000 in
theorem bX4_findReadings_126 (I : Nat → Nat → Int32) (J : Nat → Nat → Int64) (pl st : Bool) {P : Nat} (hP : P = 4 ∨ P = 7) {Q : Nat} (hQ : Q = 74 ∨ Q = 76) (x5 : Int32) (z1 : Value) (z2 : Value) (z3 : Value) : run mX4_findReadings (126, 0, 0, [.ref 68, z1, z2, z3, .ref Q, .int x5], [], (cH I J pl st)) = run mX4_findReadings (91, 0, 0, [.ref 68, .null, .null, .null, .ref Q, .int (x5 + (nI 1))], [], (cH I J pl st)) := by
  cases st <;> rcases hP with rfl | rfl <;> rcases hQ with rfl | rfl
  all_goals exact (exK_eq mX4_findReadings [5, 8, 41, 63, 77, 88, 91, 126] 74 _).symm.trans rfl
set_option maxRecDepth 100000 in
theorem eX6_clear (I : Nat → Nat → Int32) (J : Nat → Nat → Int64) (pl st : Bool) {P : Nat} (hP : P = 4 ∨ P = 7)  : fX6_clear [.ref P] (cH I J pl st) = some (none, (cH (up2 (up2 (up2 (up2 I P 2 (nI 0)) P 3 (nI 0)) P 4 (nI 0)) P 5 (nI 0)) J pl st)) := by
  rcases hP with rfl | rfl
  all_goals exact (mth_eq (M := mX6_clear) (n := 1) rfl).trans ((exK_eq mX6_clear [] 18 _).symm.trans rfl)
set_option maxRecDepth 100000 in
theorem eX10_letterAt (I : Nat → Nat → Int32) (J : Nat → Nat → Int64) (pl st : Bool) (x1 : Int32) : fX10_letterAt [.ref 1, .int x1] (cH I J pl st) = (if x1 < (nI 0) then some (some (.int (Int32.ofInt (-1))), (cH I J pl st)) else (if (nI 120) ≤ x1 then some (some (.int (Int32.ofInt (-1))), (cH I J pl st)) else (bif inb x1 120 then some (some (.int (I 2 (x1).toNatClampNeg)), (cH I J pl st)) else none))) := (mth_eq (M := mX10_letterAt) (n := 2) rfl).trans ((exK_eq mX10_letterAt [] 19 _).symm.trans rfl)
set_option maxRecDepth 100000 in
theorem eX6_addThread (I : Nat → Nat → Int32) (J : Nat → Nat → Int64) (pl st : Bool) {P : Nat} (hP : P = 4 ∨ P = 7)  : fX6_addThread [.ref P] (cH I J pl st) = (if (I P 2) < (nI 3) then some (some (.int (nI 1)), (cH (up2 I P 2 ((I P 2) + (nI 1))) J pl st)) else some (some (.int (nI 0)), (cH I J pl st))) := by
  rcases hP with rfl | rfl
  all_goals exact (mth_eq (M := mX6_addThread) (n := 1) rfl).trans ((exK_eq mX6_addThread [] 19 _).symm.trans rfl)
set_option maxRecDepth 100000 in
theorem eX5_takeWord (I : Nat → Nat → Int32) (J : Nat → Nat → Int64) (pl st : Bool) {P : Nat} (hP : P = 4 ∨ P = 7) (x1 : Int32) : fX5_takeWord [.ref 3, .int x1, .ref P] (cH I J pl st) = (if x1 = (nI 116) then (callK (fX6_addThread [.ref P] (cH (up2 I 3 1 (nI 2)) J pl st)) (fun r h' => run mX5_takeWord (15, 0, 0, [.ref 3, .int x1, .ref P], r.toList ++ [], h'))) else (if x1 = (nI 114) then (if (I P 2) = (nI 0) then some (some (.int (nI 1)), (cH I J pl st)) else (if (I P 3) < (nI 8) then (if x1 = (nI 119) then some (some (.int (nI 0)), (cH (up2 (up2 I 3 2 (nI 1)) 3 1 (nI 1)) J pl st)) else some (some (.int (nI 0)), (cH (up2 (up2 I 3 2 (nI 0)) 3 1 (nI 1)) J pl st))) else some (some (.int (nI 3)), (cH I J pl st)))) else (if x1 = (nI 119) then (if (I P 2) = (nI 0) then some (some (.int (nI 1)), (cH I J pl st)) else (if (I P 3) < (nI 8) then (if x1 = (nI 119) then some (some (.int (nI 0)), (cH (up2 (up2 I 3 2 (nI 1)) 3 1 (nI 1)) J pl st)) else some (some (.int (nI 0)), (cH (up2 (up2 I 3 2 (nI 0)) 3 1 (nI 1)) J pl st))) else some (some (.int (nI 3)), (cH I J pl st)))) else some (some (.int (nI 1)), (cH I J pl st))))) := by
  rcases hP with rfl | rfl
  all_goals exact (mth_eq (M := mX5_takeWord) (n := 3) rfl).trans ((exK_eq mX5_takeWord [15] 48 _).symm.trans rfl)
set_option maxRecDepth 100000 in
theorem bX5_takeWord_15 (I : Nat → Nat → Int32) (J : Nat → Nat → Int64) (pl st : Bool) {P : Nat} (hP : P = 4 ∨ P = 7) (s0 : Int32) (z0 : Value) (z1 : Value) (z2 : Value) : run mX5_takeWord (15, 0, 0, [z0, z1, z2], [.int s0], (cH I J pl st)) = (if s0 = (nI 0) then some (some (.int (nI 3)), (cH I J pl st)) else some (some (.int (nI 0)), (cH I J pl st))) := by
  rcases hP with rfl | rfl
  all_goals exact (exK_eq mX5_takeWord [15] 48 _).symm.trans rfl
set_option maxRecDepth 100000 in
theorem eX6_addStep (I : Nat → Nat → Int32) (J : Nat → Nat → Int64) (pl st : Bool) {P : Nat} (hP : P = 4 ∨ P = 7) (x1 : Int32) (x2 : Int32) : fX6_addStep [.ref P, .int x1, .int x2] (cH I J pl st) = (if (I P 3) < (nI 0) then some (none, (cH I J pl st)) else (if (nI 8) ≤ (I P 3) then some (none, (cH I J pl st)) else (if (I P 3) < (nI 8) then (bif inb (I P 3) 8 then (bif inb (I P 3) 8 then (if x2 = (nI 0) then (if (I P 3) ≤ (nI 0) then some (none, (cH (up2 (up2 (up2 I (P + 1) ((I P 3)).toNatClampNeg ((I P 2) - (nI 1))) (P + 2) ((I P 3)).toNatClampNeg x1) P 3 ((I P 3) + (nI 1))) J pl st)) else (callK (fX6_threadOf [.ref P, .int ((I P 3) - (nI 1))] (cH (up2 (up2 (up2 I (P + 1) ((I P 3)).toNatClampNeg ((I P 2) - (nI 1))) (P + 2) ((I P 3)).toNatClampNeg x1) P 3 ((I P 3) + (nI 1))) J pl st)) (fun r h' => run mX6_addStep (84, 0, 0, [.ref P, .int x1, .int x2, .int (I P 3)], r.toList ++ [], h')))) else (if (I P 3) ≤ (nI 0) then some (none, (cH (up2 (up2 (up2 (up2 I (P + 1) ((I P 3)).toNatClampNeg ((I P 2) - (nI 1))) (P + 2) ((I P 3)).toNatClampNeg x1) P 3 ((I P 3) + (nI 1))) P 4 ((I P 4) ||| ((nI 1) <<< ((I P 3) &&& 31)))) J pl st)) else (callK (fX6_threadOf [.ref P, .int ((I P 3) - (nI 1))] (cH (up2 (up2 (up2 (up2 I (P + 1) ((I P 3)).toNatClampNeg ((I P 2) - (nI 1))) (P + 2) ((I P 3)).toNatClampNeg x1) P 3 ((I P 3) + (nI 1))) P 4 ((I P 4) ||| ((nI 1) <<< ((I P 3) &&& 31)))) J pl st)) (fun r h' => run mX6_addStep (84, 0, 0, [.ref P, .int x1, .int x2, .int (I P 3)], r.toList ++ [], h'))))) else none) else none) else some (none, (cH I J pl st))))) := by
  rcases hP with rfl | rfl
  all_goals exact (mth_eq (M := mX6_addStep) (n := 4) rfl).trans ((exK_eq mX6_addStep [84] 70 _).symm.trans rfl)
set_option maxRecDepth 100000 in
theorem bX6_addStep_84 (I : Nat → Nat → Int32) (J : Nat → Nat → Int64) (pl st : Bool) {P : Nat} (hP : P = 4 ∨ P = 7) (s0 : Int32) (x3 : Int32) (z1 : Value) (z2 : Value) : run mX6_addStep (84, 0, 0, [.ref P, z1, z2, .int x3], [.int s0], (cH I J pl st)) = (callK (fX6_threadOf [.ref P, .int x3] (cH I J pl st)) (fun r h' => run mX6_addStep (89, 0, 0, [.ref P, .null, .null, .int x3], r.toList ++ [.int s0], h'))) := by
  rcases hP with rfl | rfl
  all_goals exact (exK_eq mX6_addStep [84, 89] 70 _).symm.trans rfl
set_option maxRecDepth 100000 in
theorem bX6_addStep_89 (I : Nat → Nat → Int32) (J : Nat → Nat → Int64) (pl st : Bool) {P : Nat} (hP : P = 4 ∨ P = 7) (s0 : Int32) (s1 : Int32) (x3 : Int32) (z1 : Value) (z2 : Value) : run mX6_addStep (89, 0, 0, [.ref P, z1, z2, .int x3], [.int s1, .int s0], (cH I J pl st)) = (if s0 = s1 then some (none, (cH (up2 I P 5 ((I P 5) ||| ((nI 1) <<< (x3 &&& 31)))) J pl st)) else some (none, (cH I J pl st))) := by
  rcases hP with rfl | rfl
  all_goals exact (exK_eq mX6_addStep [84, 89] 70 _).symm.trans rfl
set_option maxRecDepth 100000 in
theorem eX5_takeCell (I : Nat → Nat → Int32) (J : Nat → Nat → Int64) (pl st : Bool) {P : Nat} (hP : P = 4 ∨ P = 7) (x1 : Int32) : fX5_takeCell [.ref 3, .int x1, .ref P] (cH I J pl st) = (if x1 < (nI 48) then some (some (.int (nI 1)), (cH I J pl st)) else (if x1 ≤ (nI 57) then (if (x1 - (nI 48)) ≤ (nI 2) then (callK (fX6_addStep [.ref P, .int (x1 - (nI 48)), .int (I 3 2)] (cH I J pl st)) (fun r h' => run mX5_takeCell (36, 0, 0, [.ref 3, .int x1, .ref P], r.toList ++ [], h'))) else some (some (.int (nI 2)), (cH I J pl st))) else some (some (.int (nI 1)), (cH I J pl st)))) := by
  rcases hP with rfl | rfl
  all_goals exact (mth_eq (M := mX5_takeCell) (n := 3) rfl).trans ((exK_eq mX5_takeCell [36] 32 _).symm.trans rfl)
set_option maxRecDepth 100000 in
theorem bX5_takeCell_36 (I : Nat → Nat → Int32) (J : Nat → Nat → Int64) (pl st : Bool) {P : Nat} (hP : P = 4 ∨ P = 7) (z1 : Value) (z2 : Value) : run mX5_takeCell (36, 0, 0, [.ref 3, z1, z2], [], (cH I J pl st)) = some (some (.int (nI 0)), (cH (up2 I 3 1 (nI 2)) J pl st)) := by
  rcases hP with rfl | rfl
  all_goals exact (exK_eq mX5_takeCell [36] 32 _).symm.trans rfl
set_option maxRecDepth 100000 in
theorem eX5_take (I : Nat → Nat → Int32) (J : Nat → Nat → Int64) (pl st : Bool) {P : Nat} (hP : P = 4 ∨ P = 7) (x1 : Int32) : fX5_take [.ref 3, .int x1, .ref P] (cH I J pl st) = (if (I 3 1) = (nI 0) then (callK (fX5_takeWord [.ref 3, .int x1, .ref P] (cH I J pl st)) (fun r h' => run mX5_take (13, 0, 0, [.ref 3, .int x1, .ref P], r.toList ++ [], h'))) else (if (I 3 1) = (nI 1) then (callK (fX5_takeCell [.ref 3, .int x1, .ref P] (cH I J pl st)) (fun r h' => run mX5_take (28, 0, 0, [.ref 3, .int x1, .ref P], r.toList ++ [], h'))) else (if x1 = (nI 59) then some (some (.int (nI 0)), (cH (up2 I 3 1 (nI 0)) J pl st)) else some (some (.int (nI 1)), (cH I J pl st))))) := by
  rcases hP with rfl | rfl
  all_goals exact (mth_eq (M := mX5_take) (n := 3) rfl).trans ((exK_eq mX5_take [13, 28] 32 _).symm.trans rfl)
set_option maxRecDepth 100000 in
theorem bX5_take_13 (I : Nat → Nat → Int32) (J : Nat → Nat → Int64) (pl st : Bool) {P : Nat} (hP : P = 4 ∨ P = 7) (s0 : Int32) (z0 : Value) (z1 : Value) (z2 : Value) : run mX5_take (13, 0, 0, [z0, z1, z2], [.int s0], (cH I J pl st)) = some (some (.int s0), (cH I J pl st)) := by
  rcases hP with rfl | rfl
  all_goals exact (exK_eq mX5_take [13, 28] 32 _).symm.trans rfl
set_option maxRecDepth 100000 in
theorem bX5_take_28 (I : Nat → Nat → Int32) (J : Nat → Nat → Int64) (pl st : Bool) {P : Nat} (hP : P = 4 ∨ P = 7) (s0 : Int32) (z0 : Value) (z1 : Value) (z2 : Value) : run mX5_take (28, 0, 0, [z0, z1, z2], [.int s0], (cH I J pl st)) = some (some (.int s0), (cH I J pl st)) := by
  rcases hP with rfl | rfl
  all_goals exact (exK_eq mX5_take [13, 28] 32 _).symm.trans rfl
set_option maxRecDepth 100000 in
theorem eX5_parse (I : Nat → Nat → Int32) (J : Nat → Nat → Int64) (pl st : Bool) {P : Nat} (hP : P = 4 ∨ P = 7)  : fX5_parse [.ref 3, .ref 1, .ref P] (cH I J pl st) = (callK (fX6_clear [.ref P] (cH I J pl st)) (fun r h' => run mX5_parse (4, 0, 0, [.ref 3, .ref 1, .ref P, .null, .null, .null], r.toList ++ [], h'))) := by
  rcases hP with rfl | rfl
  all_goals exact (mth_eq (M := mX5_parse) (n := 6) rfl).trans ((exK_eq mX5_parse [4, 11] 53 _).symm.trans rfl)
set_option maxRecDepth 100000 in
theorem bX5_parse_4 (I : Nat → Nat → Int32) (J : Nat → Nat → Int64) (pl st : Bool) {P : Nat} (hP : P = 4 ∨ P = 7) (z3 : Value) (z4 : Value) (z5 : Value) : run mX5_parse (4, 0, 0, [.ref 3, .ref 1, .ref P, z3, z4, z5], [], (cH I J pl st)) = run mX5_parse (11, 0, 0, [.ref 3, .ref 1, .ref P, .int (nI 0), .null, .null], [], (cH (up2 I 3 1 (nI 0)) J pl st)) := by
  rcases hP with rfl | rfl
  all_goals exact (exK_eq mX5_parse [4, 11] 53 _).symm.trans rfl
set_option maxRecDepth 100000 in
theorem bX5_parse_11 (I : Nat → Nat → Int32) (J : Nat → Nat → Int64) (pl st : Bool) {P : Nat} (hP : P = 4 ∨ P = 7) (x3 : Int32) (z4 : Value) (z5 : Value) : run mX5_parse (11, 0, 0, [.ref 3, .ref 1, .ref P, .int x3, z4, z5], [], (cH I J pl st)) = (if (I 1 1) ≤ x3 then (if (I 3 1) = (nI 0) then some (some (.int (nI 0)), (cH (up2 I 3 0 (Int32.ofInt (-1))) J pl st)) else some (some (.int (nI 1)), (cH (up2 I 3 0 (I 1 1)) J pl st))) else (callK (fX10_letterAt [.ref 1, .int x3] (cH I J pl st)) (fun r h' => run mX5_parse (24, 0, 0, [.ref 3, .ref 1, .ref P, .int x3, .null, .null], r.toList ++ [], h')))) := by
  rcases hP with rfl | rfl
  all_goals exact (exK_eq mX5_parse [4, 11, 24] 53 _).symm.trans rfl
set_option maxRecDepth 100000 in
theorem bX5_parse_24 (I : Nat → Nat → Int32) (J : Nat → Nat → Int64) (pl st : Bool) {P : Nat} (hP : P = 4 ∨ P = 7) (s0 : Int32) (x3 : Int32) (z4 : Value) (z5 : Value) : run mX5_parse (24, 0, 0, [.ref 3, .ref 1, .ref P, .int x3, z4, z5], [.int s0], (cH I J pl st)) = (if s0 = (nI 32) then run mX5_parse (44, 0, 0, [.ref 3, .ref 1, .ref P, .int x3, .int s0, .null], [.int (nI 0)], (cH I J pl st)) else (callK (fX5_take [.ref 3, .int s0, .ref P] (cH I J pl st)) (fun r h' => run mX5_parse (44, 0, 0, [.ref 3, .ref 1, .ref P, .int x3, .int s0, .null], r.toList ++ [], h')))) := by
  rcases hP with rfl | rfl
  all_goals exact (exK_eq mX5_parse [4, 11, 24, 44] 53 _).symm.trans rfl
set_option maxRecDepth 100000 in
theorem bX5_parse_44 (I : Nat → Nat → Int32) (J : Nat → Nat → Int64) (pl st : Bool) {P : Nat} (hP : P = 4 ∨ P = 7) (s0 : Int32) (x3 : Int32) (z4 : Value) (z5 : Value) : run mX5_parse (44, 0, 0, [.ref 3, .ref 1, .ref P, .int x3, z4, z5], [.int s0], (cH I J pl st)) = (if s0 = (nI 0) then run mX5_parse (11, 0, 0, [.ref 3, .ref 1, .ref P, .int (x3 + (nI 1)), .null, .int s0], [], (cH I J pl st)) else some (some (.int s0), (cH (up2 I 3 0 x3) J pl st))) := by
  rcases hP with rfl | rfl
  all_goals exact (exK_eq mX5_parse [4, 11, 24, 44] 53 _).symm.trans rfl
set_option maxRecDepth 100000 in
theorem eX6_hasGap (I : Nat → Nat → Int32) (J : Nat → Nat → Int64) (pl st : Bool) {P : Nat} (hP : P = 4 ∨ P = 7) (x1 : Int32) : fX6_hasGap [.ref P, .int x1] (cH I J pl st) = (callK (fX6_hasStep [.ref P, .int x1] (cH I J pl st)) (fun r h' => run mX6_hasGap (5, 0, 0, [.ref P, .int x1], r.toList ++ [], h'))) := by
  rcases hP with rfl | rfl
  all_goals exact (mth_eq (M := mX6_hasGap) (n := 2) rfl).trans ((exK_eq mX6_hasGap [5] 18 _).symm.trans rfl)
set_option maxRecDepth 100000 in
theorem bX6_hasGap_5 (I : Nat → Nat → Int32) (J : Nat → Nat → Int64) (pl st : Bool) {P : Nat} (hP : P = 4 ∨ P = 7) (s0 : Int32) (x1 : Int32) : run mX6_hasGap (5, 0, 0, [.ref P, .int x1], [.int s0], (cH I J pl st)) = (if s0 = (nI 0) then some (some (.int (nI 0)), (cH I J pl st)) else (callK (fX11_has [.int (I P 5), .int x1] (cH I J pl st)) (fun r h' => run mX6_hasGap (16, 0, 0, [.ref P, .int x1], r.toList ++ [], h')))) := by
  rcases hP with rfl | rfl
  all_goals exact (exK_eq mX6_hasGap [5, 16] 18 _).symm.trans rfl
set_option maxRecDepth 100000 in
theorem bX6_hasGap_16 (I : Nat → Nat → Int32) (J : Nat → Nat → Int64) (pl st : Bool) {P : Nat} (hP : P = 4 ∨ P = 7) (s0 : Int32) (z0 : Value) (z1 : Value) : run mX6_hasGap (16, 0, 0, [z0, z1], [.int s0], (cH I J pl st)) = (if s0 = (nI 0) then some (some (.int (nI 0)), (cH I J pl st)) else some (some (.int (nI 1)), (cH I J pl st))) := by
  rcases hP with rfl | rfl
  all_goals exact (exK_eq mX6_hasGap [5, 16] 18 _).symm.trans rfl
set_option maxRecDepth 100000 in
theorem eX6_areInConflict (I : Nat → Nat → Int32) (J : Nat → Nat → Int64) (pl st : Bool) {P : Nat} (hP : P = 4 ∨ P = 7) (x1 : Int32) (x2 : Int32) : fX6_areInConflict [.ref P, .int x1, .int x2] (cH I J pl st) = (callK (fX6_threadOf [.ref P, .int x1] (cH I J pl st)) (fun r h' => run mX6_areInConflict (5, 0, 0, [.ref P, .int x1, .int x2], r.toList ++ [], h'))) := by
  rcases hP with rfl | rfl
  all_goals exact (mth_eq (M := mX6_areInConflict) (n := 3) rfl).trans ((exK_eq mX6_areInConflict [5] 31 _).symm.trans rfl)
set_option maxRecDepth 100000 in
theorem bX6_areInConflict_5 (I : Nat → Nat → Int32) (J : Nat → Nat → Int64) (pl st : Bool) {P : Nat} (hP : P = 4 ∨ P = 7) (s0 : Int32) (x1 : Int32) (x2 : Int32) : run mX6_areInConflict (5, 0, 0, [.ref P, .int x1, .int x2], [.int s0], (cH I J pl st)) = (callK (fX6_threadOf [.ref P, .int x2] (cH I J pl st)) (fun r h' => run mX6_areInConflict (10, 0, 0, [.ref P, .int x1, .int x2], r.toList ++ [.int s0], h'))) := by
  rcases hP with rfl | rfl
  all_goals exact (exK_eq mX6_areInConflict [5, 10] 31 _).symm.trans rfl
set_option maxRecDepth 100000 in
theorem bX6_areInConflict_10 (I : Nat → Nat → Int32) (J : Nat → Nat → Int64) (pl st : Bool) {P : Nat} (hP : P = 4 ∨ P = 7) (s0 : Int32) (s1 : Int32) (x1 : Int32) (x2 : Int32) : run mX6_areInConflict (10, 0, 0, [.ref P, .int x1, .int x2], [.int s1, .int s0], (cH I J pl st)) = (if s0 = s1 then some (some (.int (nI 0)), (cH I J pl st)) else (callK (fX6_cellOf [.ref P, .int x1] (cH I J pl st)) (fun r h' => run mX6_areInConflict (18, 0, 0, [.ref P, .int x1, .int x2], r.toList ++ [], h')))) := by
  rcases hP with rfl | rfl
  all_goals exact (exK_eq mX6_areInConflict [5, 10, 18] 31 _).symm.trans rfl
set_option maxRecDepth 100000 in
theorem bX6_areInConflict_18 (I : Nat → Nat → Int32) (J : Nat → Nat → Int64) (pl st : Bool) {P : Nat} (hP : P = 4 ∨ P = 7) (s0 : Int32) (x1 : Int32) (x2 : Int32) : run mX6_areInConflict (18, 0, 0, [.ref P, .int x1, .int x2], [.int s0], (cH I J pl st)) = (callK (fX6_cellOf [.ref P, .int x2] (cH I J pl st)) (fun r h' => run mX6_areInConflict (23, 0, 0, [.ref P, .int x1, .int x2], r.toList ++ [.int s0], h'))) := by
  rcases hP with rfl | rfl
  all_goals exact (exK_eq mX6_areInConflict [5, 10, 18, 23] 31 _).symm.trans rfl
set_option maxRecDepth 100000 in
theorem bX6_areInConflict_23 (I : Nat → Nat → Int32) (J : Nat → Nat → Int64) (pl st : Bool) {P : Nat} (hP : P = 4 ∨ P = 7) (s0 : Int32) (s1 : Int32) (x1 : Int32) (x2 : Int32) : run mX6_areInConflict (23, 0, 0, [.ref P, .int x1, .int x2], [.int s1, .int s0], (cH I J pl st)) = (if s0 = s1 then (callK (fX6_isWriter [.ref P, .int x1] (cH I J pl st)) (fun r h' => run mX6_areInConflict (31, 0, 0, [.ref P, .int x1, .int x2], r.toList ++ [], h'))) else some (some (.int (nI 0)), (cH I J pl st))) := by
  rcases hP with rfl | rfl
  all_goals exact (exK_eq mX6_areInConflict [5, 10, 18, 23, 31] 31 _).symm.trans rfl
set_option maxRecDepth 100000 in
theorem bX6_areInConflict_31 (I : Nat → Nat → Int32) (J : Nat → Nat → Int64) (pl st : Bool) {P : Nat} (hP : P = 4 ∨ P = 7) (s0 : Int32) (x2 : Int32) (z1 : Value) : run mX6_areInConflict (31, 0, 0, [.ref P, z1, .int x2], [.int s0], (cH I J pl st)) = (if s0 = (nI 0) then (callK (fX6_isWriter [.ref P, .int x2] (cH I J pl st)) (fun r h' => run mX6_areInConflict (39, 0, 0, [.ref P, .null, .int x2], r.toList ++ [], h'))) else some (some (.int (nI 1)), (cH I J pl st))) := by
  rcases hP with rfl | rfl
  all_goals exact (exK_eq mX6_areInConflict [5, 10, 18, 23, 31, 39] 31 _).symm.trans rfl
set_option maxRecDepth 100000 in
theorem bX6_areInConflict_39 (I : Nat → Nat → Int32) (J : Nat → Nat → Int64) (pl st : Bool) {P : Nat} (hP : P = 4 ∨ P = 7) (s0 : Int32) (z0 : Value) (z1 : Value) (z2 : Value) : run mX6_areInConflict (39, 0, 0, [z0, z1, z2], [.int s0], (cH I J pl st)) = (if s0 = (nI 0) then some (some (.int (nI 0)), (cH I J pl st)) else some (some (.int (nI 1)), (cH I J pl st))) := by
  rcases hP with rfl | rfl
  all_goals exact (exK_eq mX6_areInConflict [5, 10, 18, 23, 31, 39] 31 _).symm.trans rfl
set_option maxRecDepth 100000 in
theorem eX6_conflictsOf (I : Nat → Nat → Int32) (J : Nat → Nat → Int64) (pl st : Bool) {P : Nat} (hP : P = 4 ∨ P = 7) (x1 : Int32) : fX6_conflictsOf [.ref P, .int x1] (cH I J pl st) = run mX6_conflictsOf (4, 0, 0, [.ref P, .int x1, .int (nI 0), .int (nI 0)], [], (cH I J pl st)) := by
  rcases hP with rfl | rfl
  all_goals exact (mth_eq (M := mX6_conflictsOf) (n := 4) rfl).trans ((exK_eq mX6_conflictsOf [4] 28 _).symm.trans rfl)
set_option maxRecDepth 100000 in
theorem bX6_conflictsOf_4 (I : Nat → Nat → Int32) (J : Nat → Nat → Int64) (pl st : Bool) {P : Nat} (hP : P = 4 ∨ P = 7) (x1 : Int32) (x2 : Int32) (x3 : Int32) : run mX6_conflictsOf (4, 0, 0, [.ref P, .int x1, .int x2, .int x3], [], (cH I J pl st)) = (if (I P 3) ≤ x3 then some (some (.int x2), (cH I J pl st)) else (callK (fX6_areInConflict [.ref P, .int x1, .int x3] (cH I J pl st)) (fun r h' => run mX6_conflictsOf (18, 0, 0, [.ref P, .int x1, .int x2, .int x3], r.toList ++ [], h')))) := by
  rcases hP with rfl | rfl
  all_goals exact (exK_eq mX6_conflictsOf [4, 18] 28 _).symm.trans rfl
set_option maxRecDepth 100000 in
theorem bX6_conflictsOf_18 (I : Nat → Nat → Int32) (J : Nat → Nat → Int64) (pl st : Bool) {P : Nat} (hP : P = 4 ∨ P = 7) (s0 : Int32) (x1 : Int32) (x2 : Int32) (x3 : Int32) : run mX6_conflictsOf (18, 0, 0, [.ref P, .int x1, .int x2, .int x3], [.int s0], (cH I J pl st)) = (if s0 = (nI 0) then run mX6_conflictsOf (4, 0, 0, [.ref P, .int x1, .int x2, .int (x3 + (nI 1))], [], (cH I J pl st)) else run mX6_conflictsOf (4, 0, 0, [.ref P, .int x1, .int (x2 ||| ((nI 1) <<< (x3 &&& 31))), .int (x3 + (nI 1))], [], (cH I J pl st))) := by
  rcases hP with rfl | rfl
  all_goals exact (exK_eq mX6_conflictsOf [4, 18] 28 _).symm.trans rfl
set_option maxRecDepth 100000 in
theorem eX7_countWithout (I : Nat → Nat → Int32) (J : Nat → Nat → Int64) (pl st : Bool)  : fX7_countWithout [.ref 74, .ref 76] (cH I J pl st) = run mX7_countWithout (4, 0, 0, [.ref 74, .ref 76, .int (nI 0), .int (nI 0)], [], (cH I J pl st)) := (mth_eq (M := mX7_countWithout) (n := 4) rfl).trans ((exK_eq mX7_countWithout [4] 24 _).symm.trans rfl)
set_option maxRecDepth 100000 in
theorem bX7_countWithout_4 (I : Nat → Nat → Int32) (J : Nat → Nat → Int64) (pl st : Bool) (x2 : Int32) (x3 : Int32) : run mX7_countWithout (4, 0, 0, [.ref 74, .ref 76, .int x2, .int x3], [], (cH I J pl st)) = (if (I 74 1) ≤ x3 then some (some (.int x2), (cH I J pl st)) else (callK (fX7_at [.ref 74, .int x3] (cH I J pl st)) (fun r h' => run mX7_countWithout (18, 0, 0, [.ref 74, .ref 76, .int x2, .int x3], r.toList ++ [.ref 76], h')))) := (exK_eq mX7_countWithout [4, 18] 24 _).symm.trans rfl
set_option maxRecDepth 100000 in
theorem bX7_countWithout_18 (I : Nat → Nat → Int32) (J : Nat → Nat → Int64) (pl st : Bool) (s1 : Int32) (x2 : Int32) (x3 : Int32) : run mX7_countWithout (18, 0, 0, [.ref 74, .ref 76, .int x2, .int x3], [.int s1, .ref 76], (cH I J pl st)) = (callK (fX7_holds [.ref 76, .int s1] (cH I J pl st)) (fun r h' => run mX7_countWithout (21, 0, 0, [.ref 74, .ref 76, .int x2, .int x3], r.toList ++ [], h'))) := (exK_eq mX7_countWithout [4, 18, 21] 24 _).symm.trans rfl
set_option maxRecDepth 100000 in
theorem bX7_countWithout_21 (I : Nat → Nat → Int32) (J : Nat → Nat → Int64) (pl st : Bool) (s0 : Int32) (x2 : Int32) (x3 : Int32) : run mX7_countWithout (21, 0, 0, [.ref 74, .ref 76, .int x2, .int x3], [.int s0], (cH I J pl st)) = (if s0 = (nI 0) then run mX7_countWithout (4, 0, 0, [.ref 74, .ref 76, .int (x2 + (nI 1)), .int (x3 + (nI 1))], [], (cH I J pl st)) else run mX7_countWithout (4, 0, 0, [.ref 74, .ref 76, .int x2, .int (x3 + (nI 1))], [], (cH I J pl st))) := (exK_eq mX7_countWithout [4, 18, 21] 24 _).symm.trans rfl
set_option maxRecDepth 100000 in
theorem eX7_atWithout (I : Nat → Nat → Int32) (J : Nat → Nat → Int64) (pl st : Bool) (x1 : Int32) : fX7_atWithout [.ref 74, .int x1, .ref 76] (cH I J pl st) = run mX7_atWithout (5, 0, 0, [.ref 74, .int x1, .ref 76, .int (nI 0), .int (nI 0)], [], (cH I J pl st)) := (mth_eq (M := mX7_atWithout) (n := 5) rfl).trans ((exK_eq mX7_atWithout [5] 31 _).symm.trans rfl)
set_option maxRecDepth 100000 in
theorem bX7_atWithout_5 (I : Nat → Nat → Int32) (J : Nat → Nat → Int64) (pl st : Bool) (x1 : Int32) (x3 : Int32) (x4 : Int32) : run mX7_atWithout (5, 0, 0, [.ref 74, .int x1, .ref 76, .int x3, .int x4], [], (cH I J pl st)) = (if (I 74 1) ≤ x4 then some (some (.int (Int32.ofInt (-1))), (cH I J pl st)) else (callK (fX7_at [.ref 74, .int x4] (cH I J pl st)) (fun r h' => run mX7_atWithout (21, 0, 0, [.ref 74, .int x1, .ref 76, .int x3, .int x4], r.toList ++ [.ref 76], h')))) := (exK_eq mX7_atWithout [5, 21] 31 _).symm.trans rfl
set_option maxRecDepth 100000 in
theorem bX7_atWithout_21 (I : Nat → Nat → Int32) (J : Nat → Nat → Int64) (pl st : Bool) (s1 : Int32) (x1 : Int32) (x3 : Int32) (x4 : Int32) : run mX7_atWithout (21, 0, 0, [.ref 74, .int x1, .ref 76, .int x3, .int x4], [.int s1, .ref 76], (cH I J pl st)) = (callK (fX7_holds [.ref 76, .int s1] (cH I J pl st)) (fun r h' => run mX7_atWithout (24, 0, 0, [.ref 74, .int x1, .ref 76, .int x3, .int x4], r.toList ++ [], h'))) := (exK_eq mX7_atWithout [5, 21, 24] 31 _).symm.trans rfl
set_option maxRecDepth 100000 in
theorem bX7_atWithout_24 (I : Nat → Nat → Int32) (J : Nat → Nat → Int64) (pl st : Bool) (s0 : Int32) (x1 : Int32) (x3 : Int32) (x4 : Int32) : run mX7_atWithout (24, 0, 0, [.ref 74, .int x1, .ref 76, .int x3, .int x4], [.int s0], (cH I J pl st)) = (if s0 = (nI 0) then (if x3 = x1 then (callK (fX7_at [.ref 74, .int x4] (cH I J pl st)) (fun r h' => run mX7_atWithout (38, 0, 0, [.ref 74, .int x1, .ref 76, .int x3, .int x4], r.toList ++ [], h'))) else run mX7_atWithout (5, 0, 0, [.ref 74, .int x1, .ref 76, .int (x3 + (nI 1)), .int (x4 + (nI 1))], [], (cH I J pl st))) else run mX7_atWithout (5, 0, 0, [.ref 74, .int x1, .ref 76, .int x3, .int (x4 + (nI 1))], [], (cH I J pl st))) := (exK_eq mX7_atWithout [5, 21, 24, 38] 31 _).symm.trans rfl
set_option maxRecDepth 100000 in
theorem bX7_atWithout_38 (I : Nat → Nat → Int32) (J : Nat → Nat → Int64) (pl st : Bool) (s0 : Int32) (z0 : Value) (z1 : Value) (z2 : Value) (z3 : Value) (z4 : Value) : run mX7_atWithout (38, 0, 0, [z0, z1, z2, z3, z4], [.int s0], (cH I J pl st)) = some (some (.int s0), (cH I J pl st)) := (exK_eq mX7_atWithout [5, 21, 24, 38] 31 _).symm.trans rfl
set_option maxRecDepth 100000 in
theorem eX8_addGift (I : Nat → Nat → Int32) (J : Nat → Nat → Int64) (pl st : Bool) (x1 : Int32) : fX8_addGift [.ref 10, .int x1] (cH I J pl st) = (if (I 10 2) < (nI 0) then some (none, (cH I J pl st)) else (if (nI 36) ≤ (I 10 2) then some (none, (cH I J pl st)) else (bif inb (I 10 2) 36 then some (none, (cH (up2 (up2 I 11 ((I 10 2)).toNatClampNeg x1) 10 2 ((I 10 2) + (nI 1))) J pl st)) else none))) := (mth_eq (M := mX8_addGift) (n := 2) rfl).trans ((exK_eq mX8_addGift [] 27 _).symm.trans rfl)
set_option maxRecDepth 100000 in
theorem eX8_gatherGifts (I : Nat → Nat → Int32) (J : Nat → Nat → Int64) (pl st : Bool) {P : Nat} (hP : P = 4 ∨ P = 7)  : fX8_gatherGifts [.ref 10, .ref P] (cH I J pl st) = run mX8_gatherGifts (7, 0, 0, [.ref 10, .ref P, .int (nI 0), .null], [], (cH (up2 I 10 2 (nI 0)) J pl st)) := by
  rcases hP with rfl | rfl
  all_goals exact (mth_eq (M := mX8_gatherGifts) (n := 4) rfl).trans ((exK_eq mX8_gatherGifts [7, 36] 53 _).symm.trans rfl)
set_option maxRecDepth 100000 in
theorem bX8_gatherGifts_7 (I : Nat → Nat → Int32) (J : Nat → Nat → Int64) (pl st : Bool) {P : Nat} (hP : P = 4 ∨ P = 7) (x2 : Int32) (z3 : Value) : run mX8_gatherGifts (7, 0, 0, [.ref 10, .ref P, .int x2, z3], [], (cH I J pl st)) = (if (I P 3) ≤ x2 then some (none, (cH I J pl st)) else (callK (fX6_isWriter [.ref P, .int x2] (cH I J pl st)) (fun r h' => run mX8_gatherGifts (20, 0, 0, [.ref 10, .ref P, .int x2, .null], r.toList ++ [], h')))) := by
  rcases hP with rfl | rfl
  all_goals exact (exK_eq mX8_gatherGifts [7, 20, 36] 53 _).symm.trans rfl
set_option maxRecDepth 100000 in
theorem bX8_gatherGifts_20 (I : Nat → Nat → Int32) (J : Nat → Nat → Int64) (pl st : Bool) {P : Nat} (hP : P = 4 ∨ P = 7) (s0 : Int32) (x2 : Int32) (z3 : Value) : run mX8_gatherGifts (20, 0, 0, [.ref 10, .ref P, .int x2, z3], [.int s0], (cH I J pl st)) = (if s0 = (nI 0) then run mX8_gatherGifts (36, 0, 0, [.ref 10, .ref P, .int x2, .int (x2 + (nI 1))], [], (cH I J pl st)) else (callK (fX8_giftOf [.int x2, .int x2] (cH I J pl st)) (fun r h' => run mX8_gatherGifts (29, 0, 0, [.ref 10, .ref P, .int x2, .null], r.toList ++ [.ref 10], h')))) := by
  rcases hP with rfl | rfl
  all_goals exact (exK_eq mX8_gatherGifts [7, 20, 29, 36] 53 _).symm.trans rfl
set_option maxRecDepth 100000 in
theorem bX8_gatherGifts_36 (I : Nat → Nat → Int32) (J : Nat → Nat → Int64) (pl st : Bool) {P : Nat} (hP : P = 4 ∨ P = 7) (x2 : Int32) (x3 : Int32) : run mX8_gatherGifts (36, 0, 0, [.ref 10, .ref P, .int x2, .int x3], [], (cH I J pl st)) = (if (I P 3) ≤ x3 then run mX8_gatherGifts (7, 0, 0, [.ref 10, .ref P, .int (x2 + (nI 1)), .int x3], [], (cH I J pl st)) else (callK (fX6_isAhead [.ref P, .int x2, .int x3] (cH I J pl st)) (fun r h' => run mX8_gatherGifts (50, 0, 0, [.ref 10, .ref P, .int x2, .int x3], r.toList ++ [], h')))) := by
  rcases hP with rfl | rfl
  all_goals exact (exK_eq mX8_gatherGifts [7, 20, 29, 36, 50] 53 _).symm.trans rfl
set_option maxRecDepth 100000 in
theorem bX8_gatherGifts_29 (I : Nat → Nat → Int32) (J : Nat → Nat → Int64) (pl st : Bool) {P : Nat} (hP : P = 4 ∨ P = 7) (s1 : Int32) (x2 : Int32) (z3 : Value) : run mX8_gatherGifts (29, 0, 0, [.ref 10, .ref P, .int x2, z3], [.int s1, .ref 10], (cH I J pl st)) = (callK (fX8_addGift [.ref 10, .int s1] (cH I J pl st)) (fun r h' => run mX8_gatherGifts (32, 0, 0, [.ref 10, .ref P, .int x2, .null], r.toList ++ [], h'))) := by
  rcases hP with rfl | rfl
  all_goals exact (exK_eq mX8_gatherGifts [7, 20, 29, 32, 36, 50] 53 _).symm.trans rfl
set_option maxRecDepth 100000 in
theorem bX8_gatherGifts_50 (I : Nat → Nat → Int32) (J : Nat → Nat → Int64) (pl st : Bool) {P : Nat} (hP : P = 4 ∨ P = 7) (s0 : Int32) (x2 : Int32) (x3 : Int32) : run mX8_gatherGifts (50, 0, 0, [.ref 10, .ref P, .int x2, .int x3], [.int s0], (cH I J pl st)) = (if s0 = (nI 0) then run mX8_gatherGifts (36, 0, 0, [.ref 10, .ref P, .int x2, .int (x3 + (nI 1))], [], (cH I J pl st)) else (callK (fX6_cellOf [.ref P, .int x2] (cH I J pl st)) (fun r h' => run mX8_gatherGifts (58, 0, 0, [.ref 10, .ref P, .int x2, .int x3], r.toList ++ [], h')))) := by
  rcases hP with rfl | rfl
  all_goals exact (exK_eq mX8_gatherGifts [7, 20, 29, 32, 36, 50, 58] 53 _).symm.trans rfl
set_option maxRecDepth 100000 in
theorem bX8_gatherGifts_32 (I : Nat → Nat → Int32) (J : Nat → Nat → Int64) (pl st : Bool) {P : Nat} (hP : P = 4 ∨ P = 7) (x2 : Int32) (z3 : Value) : run mX8_gatherGifts (32, 0, 0, [.ref 10, .ref P, .int x2, z3], [], (cH I J pl st)) = run mX8_gatherGifts (36, 0, 0, [.ref 10, .ref P, .int x2, .int (x2 + (nI 1))], [], (cH I J pl st)) := by
  rcases hP with rfl | rfl
  all_goals exact (exK_eq mX8_gatherGifts [7, 20, 29, 32, 36, 50, 58] 53 _).symm.trans rfl
set_option maxRecDepth 100000 in
theorem bX8_gatherGifts_58 (I : Nat → Nat → Int32) (J : Nat → Nat → Int64) (pl st : Bool) {P : Nat} (hP : P = 4 ∨ P = 7) (s0 : Int32) (x2 : Int32) (x3 : Int32) : run mX8_gatherGifts (58, 0, 0, [.ref 10, .ref P, .int x2, .int x3], [.int s0], (cH I J pl st)) = (callK (fX6_cellOf [.ref P, .int x3] (cH I J pl st)) (fun r h' => run mX8_gatherGifts (63, 0, 0, [.ref 10, .ref P, .int x2, .int x3], r.toList ++ [.int s0], h'))) := by
  rcases hP with rfl | rfl
  all_goals exact (exK_eq mX8_gatherGifts [7, 20, 29, 32, 36, 50, 58, 63] 53 _).symm.trans rfl
set_option maxRecDepth 100000 in
theorem bX8_gatherGifts_63 (I : Nat → Nat → Int32) (J : Nat → Nat → Int64) (pl st : Bool) {P : Nat} (hP : P = 4 ∨ P = 7) (s0 : Int32) (s1 : Int32) (x2 : Int32) (x3 : Int32) : run mX8_gatherGifts (63, 0, 0, [.ref 10, .ref P, .int x2, .int x3], [.int s1, .int s0], (cH I J pl st)) = (if s0 = s1 then run mX8_gatherGifts (36, 0, 0, [.ref 10, .ref P, .int x2, .int (x3 + (nI 1))], [], (cH I J pl st)) else (callK (fX8_giftOf [.int x2, .int x3] (cH I J pl st)) (fun r h' => run mX8_gatherGifts (72, 0, 0, [.ref 10, .ref P, .int x2, .int x3], r.toList ++ [.ref 10], h')))) := by
  rcases hP with rfl | rfl
  all_goals exact (exK_eq mX8_gatherGifts [7, 20, 29, 32, 36, 50, 58, 63, 72] 53 _).symm.trans rfl
set_option maxRecDepth 100000 in
theorem bX8_gatherGifts_72 (I : Nat → Nat → Int32) (J : Nat → Nat → Int64) (pl st : Bool) {P : Nat} (hP : P = 4 ∨ P = 7) (s1 : Int32) (x2 : Int32) (x3 : Int32) : run mX8_gatherGifts (72, 0, 0, [.ref 10, .ref P, .int x2, .int x3], [.int s1, .ref 10], (cH I J pl st)) = (callK (fX8_addGift [.ref 10, .int s1] (cH I J pl st)) (fun r h' => run mX8_gatherGifts (75, 0, 0, [.ref 10, .ref P, .int x2, .int x3], r.toList ++ [], h'))) := by
  rcases hP with rfl | rfl
  all_goals exact (exK_eq mX8_gatherGifts [7, 20, 29, 32, 36, 50, 58, 63, 72, 75] 53 _).symm.trans rfl
set_option maxRecDepth 100000 in
theorem bX8_gatherGifts_75 (I : Nat → Nat → Int32) (J : Nat → Nat → Int64) (pl st : Bool) {P : Nat} (hP : P = 4 ∨ P = 7) (x2 : Int32) (x3 : Int32) : run mX8_gatherGifts (75, 0, 0, [.ref 10, .ref P, .int x2, .int x3], [], (cH I J pl st)) = run mX8_gatherGifts (36, 0, 0, [.ref 10, .ref P, .int x2, .int (x3 + (nI 1))], [], (cH I J pl st)) := by
  rcases hP with rfl | rfl
  all_goals exact (exK_eq mX8_gatherGifts [7, 20, 29, 32, 36, 50, 58, 63, 72, 75] 53 _).symm.trans rfl
set_option maxRecDepth 100000 in
theorem eX8_giftAt (I : Nat → Nat → Int32) (J : Nat → Nat → Int64) (pl st : Bool) (x1 : Int32) : fX8_giftAt [.ref 10, .int x1] (cH I J pl st) = (if x1 < (nI 0) then some (some (.int (nI 0)), (cH I J pl st)) else (if (nI 36) ≤ x1 then some (some (.int (nI 0)), (cH I J pl st)) else (bif inb x1 36 then some (some (.int (I 11 (x1).toNatClampNeg)), (cH I J pl st)) else none))) := (mth_eq (M := mX8_giftAt) (n := 2) rfl).trans ((exK_eq mX8_giftAt [] 19 _).symm.trans rfl)
set_option maxRecDepth 100000 in
theorem eX8_firstOf (I : Nat → Nat → Int32) (J : Nat → Nat → Int64) (pl st : Bool) (x0 : Int32) : fX8_firstOf [.int x0] (cH I J pl st) = some (some (.int (x0 / (nI 8))), (cH I J pl st)) := (mth_eq (M := mX8_firstOf) (n := 1) rfl).trans ((exK_eq mX8_firstOf [] 9 _).symm.trans rfl)
set_option maxRecDepth 100000 in
theorem eX8_lastOf (I : Nat → Nat → Int32) (J : Nat → Nat → Int64) (pl st : Bool) (x0 : Int32) : fX8_lastOf [.int x0] (cH I J pl st) = some (some (.int (x0 - x0 / (nI 8) * (nI 8))), (cH I J pl st)) := (mth_eq (M := mX8_lastOf) (n := 1) rfl).trans ((exK_eq mX8_lastOf [] 9 _).symm.trans rfl)
set_option maxRecDepth 100000 in
theorem eX8_isAlone (I : Nat → Nat → Int32) (J : Nat → Nat → Int64) (pl st : Bool) (x0 : Int32) : fX8_isAlone [.int x0] (cH I J pl st) = (callK (fX8_firstOf [.int x0] (cH I J pl st)) (fun r h' => run mX8_isAlone (4, 0, 0, [.int x0], r.toList ++ [], h'))) := (mth_eq (M := mX8_isAlone) (n := 1) rfl).trans ((exK_eq mX8_isAlone [4] 14 _).symm.trans rfl)
set_option maxRecDepth 100000 in
theorem bX8_isAlone_4 (I : Nat → Nat → Int32) (J : Nat → Nat → Int64) (pl st : Bool) (s0 : Int32) (x0 : Int32) : run mX8_isAlone (4, 0, 0, [.int x0], [.int s0], (cH I J pl st)) = (callK (fX8_lastOf [.int x0] (cH I J pl st)) (fun r h' => run mX8_isAlone (8, 0, 0, [.int x0], r.toList ++ [.int s0], h'))) := (exK_eq mX8_isAlone [4, 8] 14 _).symm.trans rfl
set_option maxRecDepth 100000 in
theorem bX8_isAlone_8 (I : Nat → Nat → Int32) (J : Nat → Nat → Int64) (pl st : Bool) (s0 : Int32) (s1 : Int32) (z0 : Value) : run mX8_isAlone (8, 0, 0, [z0], [.int s1, .int s0], (cH I J pl st)) = (if s0 = s1 then some (some (.int (nI 1)), (cH I J pl st)) else some (some (.int (nI 0)), (cH I J pl st))) := (exK_eq mX8_isAlone [4, 8] 14 _).symm.trans rfl
set_option maxRecDepth 100000 in
theorem eX8_leadsTo (I : Nat → Nat → Int32) (J : Nat → Nat → Int64) (pl st : Bool) {P : Nat} (hP : P = 4 ∨ P = 7) (x2 : Int32) (x3 : Int32) : fX8_leadsTo [.ref 10, .ref P, .int x2, .int x3] (cH I J pl st) = (callK (fX8_lastOf [.int x2] (cH I J pl st)) (fun r h' => run mX8_leadsTo (4, 0, 0, [.ref 10, .ref P, .int x2, .int x3, .null, .null], r.toList ++ [], h'))) := by
  rcases hP with rfl | rfl
  all_goals exact (mth_eq (M := mX8_leadsTo) (n := 6) rfl).trans ((exK_eq mX8_leadsTo [4] 36 _).symm.trans rfl)
set_option maxRecDepth 100000 in
theorem bX8_leadsTo_4 (I : Nat → Nat → Int32) (J : Nat → Nat → Int64) (pl st : Bool) {P : Nat} (hP : P = 4 ∨ P = 7) (s0 : Int32) (x2 : Int32) (x3 : Int32) (z0 : Value) (z4 : Value) (z5 : Value) : run mX8_leadsTo (4, 0, 0, [z0, .ref P, .int x2, .int x3, z4, z5], [.int s0], (cH I J pl st)) = (callK (fX8_firstOf [.int x3] (cH I J pl st)) (fun r h' => run mX8_leadsTo (10, 0, 0, [.null, .ref P, .int x2, .int x3, .int s0, .null], r.toList ++ [], h'))) := by
  rcases hP with rfl | rfl
  all_goals exact (exK_eq mX8_leadsTo [4, 10] 36 _).symm.trans rfl
set_option maxRecDepth 100000 in
theorem bX8_leadsTo_10 (I : Nat → Nat → Int32) (J : Nat → Nat → Int64) (pl st : Bool) {P : Nat} (hP : P = 4 ∨ P = 7) (s0 : Int32) (x2 : Int32) (x3 : Int32) (x4 : Int32) (z0 : Value) (z5 : Value) : run mX8_leadsTo (10, 0, 0, [z0, .ref P, .int x2, .int x3, .int x4, z5], [.int s0], (cH I J pl st)) = (callK (fX6_areInConflict [.ref P, .int x4, .int s0] (cH I J pl st)) (fun r h' => run mX8_leadsTo (20, 0, 0, [.null, .ref P, .int x2, .int x3, .int x4, .int s0], r.toList ++ [], h'))) := by
  rcases hP with rfl | rfl
  all_goals exact (exK_eq mX8_leadsTo [4, 10, 20] 36 _).symm.trans rfl
set_option maxRecDepth 100000 in
theorem bX8_leadsTo_20 (I : Nat → Nat → Int32) (J : Nat → Nat → Int64) (pl st : Bool) {P : Nat} (hP : P = 4 ∨ P = 7) (s0 : Int32) (x2 : Int32) (x3 : Int32) (x4 : Int32) (x5 : Int32) (z0 : Value) : run mX8_leadsTo (20, 0, 0, [z0, .ref P, .int x2, .int x3, .int x4, .int x5], [.int s0], (cH I J pl st)) = (if s0 = (nI 0) then some (some (.int (nI 0)), (cH I J pl st)) else (callK (fX8_isAlone [.int x2] (cH I J pl st)) (fun r h' => run mX8_leadsTo (29, 0, 0, [.null, .ref P, .int x2, .int x3, .int x4, .int x5], r.toList ++ [], h')))) := by
  rcases hP with rfl | rfl
  all_goals exact (exK_eq mX8_leadsTo [4, 10, 20, 29] 36 _).symm.trans rfl
set_option maxRecDepth 100000 in
theorem bX8_leadsTo_29 (I : Nat → Nat → Int32) (J : Nat → Nat → Int64) (pl st : Bool) {P : Nat} (hP : P = 4 ∨ P = 7) (s0 : Int32) (x3 : Int32) (x4 : Int32) (x5 : Int32) (z0 : Value) (z2 : Value) : run mX8_leadsTo (29, 0, 0, [z0, .ref P, z2, .int x3, .int x4, .int x5], [.int s0], (cH I J pl st)) = (if s0 = (nI 0) then (callK (fX8_isAlone [.int x3] (cH I J pl st)) (fun r h' => run mX8_leadsTo (45, 0, 0, [.null, .ref P, .null, .int x3, .int x4, .int x5], r.toList ++ [], h'))) else (callK (fX6_isWriter [.ref P, .int x5] (cH I J pl st)) (fun r h' => run mX8_leadsTo (38, 0, 0, [.null, .ref P, .null, .int x3, .int x4, .int x5], r.toList ++ [], h')))) := by
  rcases hP with rfl | rfl
  all_goals exact (exK_eq mX8_leadsTo [4, 10, 20, 29, 38, 45] 36 _).symm.trans rfl
set_option maxRecDepth 100000 in
theorem bX8_leadsTo_45 (I : Nat → Nat → Int32) (J : Nat → Nat → Int64) (pl st : Bool) {P : Nat} (hP : P = 4 ∨ P = 7) (s0 : Int32) (x4 : Int32) (z0 : Value) (z2 : Value) (z3 : Value) (z5 : Value) : run mX8_leadsTo (45, 0, 0, [z0, .ref P, z2, z3, .int x4, z5], [.int s0], (cH I J pl st)) = (if s0 = (nI 0) then some (some (.int (nI 1)), (cH I J pl st)) else (callK (fX6_isWriter [.ref P, .int x4] (cH I J pl st)) (fun r h' => run mX8_leadsTo (54, 0, 0, [.null, .ref P, .null, .null, .int x4, .null], r.toList ++ [], h')))) := by
  rcases hP with rfl | rfl
  all_goals exact (exK_eq mX8_leadsTo [4, 10, 20, 29, 38, 45, 54] 36 _).symm.trans rfl
set_option maxRecDepth 100000 in
theorem bX8_leadsTo_38 (I : Nat → Nat → Int32) (J : Nat → Nat → Int64) (pl st : Bool) {P : Nat} (hP : P = 4 ∨ P = 7) (s0 : Int32) (x3 : Int32) (x4 : Int32) (z0 : Value) (z2 : Value) (z5 : Value) : run mX8_leadsTo (38, 0, 0, [z0, .ref P, z2, .int x3, .int x4, z5], [.int s0], (cH I J pl st)) = (if s0 = (nI 0) then (callK (fX8_isAlone [.int x3] (cH I J pl st)) (fun r h' => run mX8_leadsTo (45, 0, 0, [.null, .ref P, .null, .int x3, .int x4, .null], r.toList ++ [], h'))) else some (some (.int (nI 0)), (cH I J pl st))) := by
  rcases hP with rfl | rfl
  all_goals exact (exK_eq mX8_leadsTo [4, 10, 20, 29, 38, 45, 54] 36 _).symm.trans rfl
set_option maxRecDepth 100000 in
theorem bX8_leadsTo_54 (I : Nat → Nat → Int32) (J : Nat → Nat → Int64) (pl st : Bool) {P : Nat} (hP : P = 4 ∨ P = 7) (s0 : Int32) (z0 : Value) (z1 : Value) (z2 : Value) (z3 : Value) (z4 : Value) (z5 : Value) : run mX8_leadsTo (54, 0, 0, [z0, z1, z2, z3, z4, z5], [.int s0], (cH I J pl st)) = (if s0 = (nI 0) then some (some (.int (nI 1)), (cH I J pl st)) else some (some (.int (nI 0)), (cH I J pl st))) := by
  rcases hP with rfl | rfl
  all_goals exact (exK_eq mX8_leadsTo [4, 10, 20, 29, 38, 45, 54] 36 _).symm.trans rfl
set_option maxRecDepth 100000 in
theorem eX8_countGiven (I : Nat → Nat → Int32) (J : Nat → Nat → Int64) (pl st : Bool) (x1 : Int32) : fX8_countGiven [.ref 10, .int x1] (cH I J pl st) = (if x1 < (nI 0) then some (none, (cH I J pl st)) else (if (nI 64) ≤ x1 then some (none, (cH I J pl st)) else (bif inb x1 64 then (bif inb x1 64 then some (none, (cH (up2 I 12 (x1).toNatClampNeg ((I 12 (x1).toNatClampNeg) + (nI 1))) J pl st)) else none) else none))) := (mth_eq (M := mX8_countGiven) (n := 2) rfl).trans ((exK_eq mX8_countGiven [] 21 _).symm.trans rfl)
set_option maxRecDepth 100000 in
theorem eX8_findBegunWith (I : Nat → Nat → Int32) (J : Nat → Nat → Int64) (pl st : Bool) {P : Nat} (hP : P = 4 ∨ P = 7) (x2 : Int32) (x3 : Int32) : fX8_findBegunWith [.ref 10, .ref P, .int x2, .int x3] (cH I J pl st) = (callK (fX8_firstOf [.int x2] (cH I J pl st)) (fun r h' => run mX8_findBegunWith (5, 0, 0, [.ref 10, .ref P, .int x2, .int x3, .null, .null, .null, .null, .null], r.toList ++ [.ref P], h'))) := by
  rcases hP with rfl | rfl
  all_goals exact (mth_eq (M := mX8_findBegunWith) (n := 9) rfl).trans ((exK_eq mX8_findBegunWith [5, 85] 100 _).symm.trans rfl)
set_option maxRecDepth 100000 in
theorem bX8_findBegunWith_5 (I : Nat → Nat → Int32) (J : Nat → Nat → Int64) (pl st : Bool) {P : Nat} (hP : P = 4 ∨ P = 7) (s1 : Int32) (x2 : Int32) (x3 : Int32) (z4 : Value) (z5 : Value) (z6 : Value) (z7 : Value) (z8 : Value) : run mX8_findBegunWith (5, 0, 0, [.ref 10, .ref P, .int x2, .int x3, z4, z5, z6, z7, z8], [.int s1, .ref P], (cH I J pl st)) = (callK (fX6_threadOf [.ref P, .int s1] (cH I J pl st)) (fun r h' => run mX8_findBegunWith (8, 0, 0, [.ref 10, .ref P, .int x2, .int x3, .null, .null, .null, .null, .null], r.toList ++ [], h'))) := by
  rcases hP with rfl | rfl
  all_goals exact (exK_eq mX8_findBegunWith [5, 8, 85] 100 _).symm.trans rfl
set_option maxRecDepth 100000 in
theorem bX8_findBegunWith_8 (I : Nat → Nat → Int32) (J : Nat → Nat → Int64) (pl st : Bool) {P : Nat} (hP : P = 4 ∨ P = 7) (s0 : Int32) (x2 : Int32) (x3 : Int32) (z4 : Value) (z5 : Value) (z6 : Value) (z7 : Value) (z8 : Value) : run mX8_findBegunWith (8, 0, 0, [.ref 10, .ref P, .int x2, .int x3, z4, z5, z6, z7, z8], [.int s0], (cH I J pl st)) = (callK (fX8_firstOf [.int x3] (cH I J pl st)) (fun r h' => run mX8_findBegunWith (15, 0, 0, [.ref 10, .ref P, .int x2, .int x3, .int s0, .null, .null, .null, .null], r.toList ++ [.ref P], h'))) := by
  rcases hP with rfl | rfl
  all_goals exact (exK_eq mX8_findBegunWith [5, 8, 15, 85] 100 _).symm.trans rfl
set_option maxRecDepth 100000 in
theorem bX8_findBegunWith_15 (I : Nat → Nat → Int32) (J : Nat → Nat → Int64) (pl st : Bool) {P : Nat} (hP : P = 4 ∨ P = 7) (s1 : Int32) (x2 : Int32) (x3 : Int32) (x4 : Int32) (z5 : Value) (z6 : Value) (z7 : Value) (z8 : Value) : run mX8_findBegunWith (15, 0, 0, [.ref 10, .ref P, .int x2, .int x3, .int x4, z5, z6, z7, z8], [.int s1, .ref P], (cH I J pl st)) = (callK (fX6_threadOf [.ref P, .int s1] (cH I J pl st)) (fun r h' => run mX8_findBegunWith (18, 0, 0, [.ref 10, .ref P, .int x2, .int x3, .int x4, .null, .null, .null, .null], r.toList ++ [], h'))) := by
  rcases hP with rfl | rfl
  all_goals exact (exK_eq mX8_findBegunWith [5, 8, 15, 18, 85] 100 _).symm.trans rfl
set_option maxRecDepth 100000 in
theorem bX8_findBegunWith_18 (I : Nat → Nat → Int32) (J : Nat → Nat → Int64) (pl st : Bool) {P : Nat} (hP : P = 4 ∨ P = 7) (s0 : Int32) (x2 : Int32) (x3 : Int32) (x4 : Int32) (z5 : Value) (z6 : Value) (z7 : Value) (z8 : Value) : run mX8_findBegunWith (18, 0, 0, [.ref 10, .ref P, .int x2, .int x3, .int x4, z5, z6, z7, z8], [.int s0], (cH I J pl st)) = (if s0 ≤ x4 then some (none, (cH I J pl st)) else (callK (fX8_leadsTo [.ref 10, .ref P, .int x2, .int x3] (cH I J pl st)) (fun r h' => run mX8_findBegunWith (34, 0, 0, [.ref 10, .ref P, .int x2, .int x3, .int x4, .int s0, .null, .null, .null], r.toList ++ [], h')))) := by
  rcases hP with rfl | rfl
  all_goals exact (exK_eq mX8_findBegunWith [5, 8, 15, 18, 34, 85] 100 _).symm.trans rfl
set_option maxRecDepth 100000 in
theorem bX8_findBegunWith_34 (I : Nat → Nat → Int32) (J : Nat → Nat → Int64) (pl st : Bool) {P : Nat} (hP : P = 4 ∨ P = 7) (s0 : Int32) (x2 : Int32) (x3 : Int32) (x4 : Int32) (x5 : Int32) (z6 : Value) (z7 : Value) (z8 : Value) : run mX8_findBegunWith (34, 0, 0, [.ref 10, .ref P, .int x2, .int x3, .int x4, .int x5, z6, z7, z8], [.int s0], (cH I J pl st)) = (if s0 = (nI 0) then some (none, (cH I J pl st)) else (callK (fX8_isAlone [.int x2] (cH I J pl st)) (fun r h' => run mX8_findBegunWith (42, 0, 0, [.ref 10, .ref P, .int x2, .int x3, .int x4, .int x5, .null, .null, .null], r.toList ++ [], h')))) := by
  rcases hP with rfl | rfl
  all_goals exact (exK_eq mX8_findBegunWith [5, 8, 15, 18, 34, 42, 85] 100 _).symm.trans rfl
set_option maxRecDepth 100000 in
theorem bX8_findBegunWith_42 (I : Nat → Nat → Int32) (J : Nat → Nat → Int64) (pl st : Bool) {P : Nat} (hP : P = 4 ∨ P = 7) (s0 : Int32) (x2 : Int32) (x3 : Int32) (x4 : Int32) (x5 : Int32) (z6 : Value) (z7 : Value) (z8 : Value) : run mX8_findBegunWith (42, 0, 0, [.ref 10, .ref P, .int x2, .int x3, .int x4, .int x5, z6, z7, z8], [.int s0], (cH I J pl st)) = (if s0 = (nI 0) then (callK (fX8_isAlone [.int x3] (cH I J pl st)) (fun r h' => run mX8_findBegunWith (49, 0, 0, [.ref 10, .ref P, .int x2, .int x3, .int x4, .int x5, .null, .null, .null], r.toList ++ [], h'))) else run mX8_findBegunWith (85, 0, 0, [.ref 10, .ref P, .int x2, .int x3, .int x4, .int x5, .int (nI 0), .null, .null], [], (cH I J pl st))) := by
  rcases hP with rfl | rfl
  all_goals exact (exK_eq mX8_findBegunWith [5, 8, 15, 18, 34, 42, 49, 85] 100 _).symm.trans rfl
set_option maxRecDepth 100000 in
theorem bX8_findBegunWith_49 (I : Nat → Nat → Int32) (J : Nat → Nat → Int64) (pl st : Bool) {P : Nat} (hP : P = 4 ∨ P = 7) (s0 : Int32) (x2 : Int32) (x3 : Int32) (x4 : Int32) (x5 : Int32) (z6 : Value) (z7 : Value) (z8 : Value) : run mX8_findBegunWith (49, 0, 0, [.ref 10, .ref P, .int x2, .int x3, .int x4, .int x5, z6, z7, z8], [.int s0], (cH I J pl st)) = (if s0 = (nI 0) then (callK (fX8_leadsTo [.ref 10, .ref P, .int x3, .int x2] (cH I J pl st)) (fun r h' => run mX8_findBegunWith (59, 0, 0, [.ref 10, .ref P, .int x2, .int x3, .int x4, .int x5, .null, .null, .null], r.toList ++ [], h'))) else run mX8_findBegunWith (85, 0, 0, [.ref 10, .ref P, .int x2, .int x3, .int x4, .int x5, .int (nI 0), .null, .null], [], (cH I J pl st))) := by
  rcases hP with rfl | rfl
  all_goals exact (exK_eq mX8_findBegunWith [5, 8, 15, 18, 34, 42, 49, 59, 85] 100 _).symm.trans rfl
set_option maxRecDepth 100000 in
theorem bX8_findBegunWith_85 (I : Nat → Nat → Int32) (J : Nat → Nat → Int64) (pl st : Bool) {P : Nat} (hP : P = 4 ∨ P = 7) (x2 : Int32) (x3 : Int32) (x4 : Int32) (x5 : Int32) (x6 : Int32) (z7 : Value) (z8 : Value) : run mX8_findBegunWith (85, 0, 0, [.ref 10, .ref P, .int x2, .int x3, .int x4, .int x5, .int x6, z7, z8], [], (cH I J pl st)) = (if (I 10 2) ≤ x6 then some (none, (cH I J pl st)) else (callK (fX8_giftAt [.ref 10, .int x6] (cH I J pl st)) (fun r h' => run mX8_findBegunWith (100, 0, 0, [.ref 10, .ref P, .int x2, .int x3, .int x4, .int x5, .int x6, .null, .null], r.toList ++ [], h')))) := by
  rcases hP with rfl | rfl
  all_goals exact (exK_eq mX8_findBegunWith [5, 8, 15, 18, 34, 42, 49, 59, 85, 100] 100 _).symm.trans rfl
set_option maxRecDepth 100000 in
theorem bX8_findBegunWith_59 (I : Nat → Nat → Int32) (J : Nat → Nat → Int64) (pl st : Bool) {P : Nat} (hP : P = 4 ∨ P = 7) (s0 : Int32) (x2 : Int32) (x3 : Int32) (x4 : Int32) (x5 : Int32) (z6 : Value) (z7 : Value) (z8 : Value) : run mX8_findBegunWith (59, 0, 0, [.ref 10, .ref P, .int x2, .int x3, .int x4, .int x5, z6, z7, z8], [.int s0], (cH I J pl st)) = (if s0 = (nI 0) then run mX8_findBegunWith (85, 0, 0, [.ref 10, .ref P, .int x2, .int x3, .int x4, .int x5, .int (nI 0), .null, .null], [], (cH I J pl st)) else (callK (fX8_countGiven [.ref 10, .int x2] (cH (up2 I 10 3 ((I 10 3) + (nI 1))) J pl st)) (fun r h' => run mX8_findBegunWith (77, 0, 0, [.ref 10, .ref P, .int x2, .int x3, .int x4, .int x5, .null, .null, .null], r.toList ++ [], h')))) := by
  rcases hP with rfl | rfl
  all_goals exact (exK_eq mX8_findBegunWith [5, 8, 15, 18, 34, 42, 49, 59, 77, 85, 100] 100 _).symm.trans rfl
set_option maxRecDepth 100000 in
theorem bX8_findBegunWith_100 (I : Nat → Nat → Int32) (J : Nat → Nat → Int64) (pl st : Bool) {P : Nat} (hP : P = 4 ∨ P = 7) (s0 : Int32) (x2 : Int32) (x3 : Int32) (x4 : Int32) (x5 : Int32) (x6 : Int32) (z7 : Value) (z8 : Value) : run mX8_findBegunWith (100, 0, 0, [.ref 10, .ref P, .int x2, .int x3, .int x4, .int x5, .int x6, z7, z8], [.int s0], (cH I J pl st)) = (callK (fX8_firstOf [.int s0] (cH I J pl st)) (fun r h' => run mX8_findBegunWith (108, 0, 0, [.ref 10, .ref P, .int x2, .int x3, .int x4, .int x5, .int x6, .int s0, .null], r.toList ++ [.ref P], h'))) := by
  rcases hP with rfl | rfl
  all_goals exact (exK_eq mX8_findBegunWith [5, 8, 15, 18, 34, 42, 49, 59, 77, 85, 100, 108] 100 _).symm.trans rfl
set_option maxRecDepth 100000 in
theorem bX8_findBegunWith_77 (I : Nat → Nat → Int32) (J : Nat → Nat → Int64) (pl st : Bool) {P : Nat} (hP : P = 4 ∨ P = 7) (x2 : Int32) (x3 : Int32) (x4 : Int32) (x5 : Int32) (z6 : Value) (z7 : Value) (z8 : Value) : run mX8_findBegunWith (77, 0, 0, [.ref 10, .ref P, .int x2, .int x3, .int x4, .int x5, z6, z7, z8], [], (cH I J pl st)) = (callK (fX8_countGiven [.ref 10, .int x3] (cH I J pl st)) (fun r h' => run mX8_findBegunWith (82, 0, 0, [.ref 10, .ref P, .int x2, .int x3, .int x4, .int x5, .null, .null, .null], r.toList ++ [], h'))) := by
  rcases hP with rfl | rfl
  all_goals exact (exK_eq mX8_findBegunWith [5, 8, 15, 18, 34, 42, 49, 59, 77, 82, 85, 100, 108] 100 _).symm.trans rfl
set_option maxRecDepth 100000 in
theorem bX8_findBegunWith_108 (I : Nat → Nat → Int32) (J : Nat → Nat → Int64) (pl st : Bool) {P : Nat} (hP : P = 4 ∨ P = 7) (s1 : Int32) (x2 : Int32) (x3 : Int32) (x4 : Int32) (x5 : Int32) (x6 : Int32) (x7 : Int32) (z8 : Value) : run mX8_findBegunWith (108, 0, 0, [.ref 10, .ref P, .int x2, .int x3, .int x4, .int x5, .int x6, .int x7, z8], [.int s1, .ref P], (cH I J pl st)) = (callK (fX6_threadOf [.ref P, .int s1] (cH I J pl st)) (fun r h' => run mX8_findBegunWith (111, 0, 0, [.ref 10, .ref P, .int x2, .int x3, .int x4, .int x5, .int x6, .int x7, .null], r.toList ++ [], h'))) := by
  rcases hP with rfl | rfl
  all_goals exact (exK_eq mX8_findBegunWith [5, 8, 15, 18, 34, 42, 49, 59, 77, 82, 85, 100, 108, 111] 100 _).symm.trans rfl
set_option maxRecDepth 100000 in
theorem bX8_findBegunWith_82 (I : Nat → Nat → Int32) (J : Nat → Nat → Int64) (pl st : Bool) {P : Nat} (hP : P = 4 ∨ P = 7) (x2 : Int32) (x3 : Int32) (x4 : Int32) (x5 : Int32) (z6 : Value) (z7 : Value) (z8 : Value) : run mX8_findBegunWith (82, 0, 0, [.ref 10, .ref P, .int x2, .int x3, .int x4, .int x5, z6, z7, z8], [], (cH I J pl st)) = run mX8_findBegunWith (85, 0, 0, [.ref 10, .ref P, .int x2, .int x3, .int x4, .int x5, .int (nI 0), .null, .null], [], (cH I J pl st)) := by
  rcases hP with rfl | rfl
  all_goals exact (exK_eq mX8_findBegunWith [5, 8, 15, 18, 34, 42, 49, 59, 77, 82, 85, 100, 108, 111] 100 _).symm.trans rfl
set_option maxRecDepth 100000 in
theorem bX8_findBegunWith_111 (I : Nat → Nat → Int32) (J : Nat → Nat → Int64) (pl st : Bool) {P : Nat} (hP : P = 4 ∨ P = 7) (s0 : Int32) (x2 : Int32) (x3 : Int32) (x4 : Int32) (x5 : Int32) (x6 : Int32) (x7 : Int32) (z8 : Value) : run mX8_findBegunWith (111, 0, 0, [.ref 10, .ref P, .int x2, .int x3, .int x4, .int x5, .int x6, .int x7, z8], [.int s0], (cH I J pl st)) = (if s0 ≤ x4 then run mX8_findBegunWith (85, 0, 0, [.ref 10, .ref P, .int x2, .int x3, .int x4, .int x5, .int (x6 + (nI 1)), .null, .null], [], (cH I J pl st)) else (if x5 = s0 then run mX8_findBegunWith (85, 0, 0, [.ref 10, .ref P, .int x2, .int x3, .int x4, .int x5, .int (x6 + (nI 1)), .null, .null], [], (cH I J pl st)) else (callK (fX8_leadsTo [.ref 10, .ref P, .int x3, .int x7] (cH I J pl st)) (fun r h' => run mX8_findBegunWith (135, 0, 0, [.ref 10, .ref P, .int x2, .int x3, .int x4, .int x5, .int x6, .int x7, .int s0], r.toList ++ [], h'))))) := by
  rcases hP with rfl | rfl
  all_goals exact (exK_eq mX8_findBegunWith [5, 8, 15, 18, 34, 42, 49, 59, 77, 82, 85, 100, 108, 111, 135] 100 _).symm.trans rfl
set_option maxRecDepth 100000 in
theorem bX8_findBegunWith_135 (I : Nat → Nat → Int32) (J : Nat → Nat → Int64) (pl st : Bool) {P : Nat} (hP : P = 4 ∨ P = 7) (s0 : Int32) (x2 : Int32) (x3 : Int32) (x4 : Int32) (x5 : Int32) (x6 : Int32) (x7 : Int32) (z8 : Value) : run mX8_findBegunWith (135, 0, 0, [.ref 10, .ref P, .int x2, .int x3, .int x4, .int x5, .int x6, .int x7, z8], [.int s0], (cH I J pl st)) = (if s0 = (nI 0) then run mX8_findBegunWith (85, 0, 0, [.ref 10, .ref P, .int x2, .int x3, .int x4, .int x5, .int (x6 + (nI 1)), .null, .null], [], (cH I J pl st)) else (callK (fX8_leadsTo [.ref 10, .ref P, .int x7, .int x2] (cH I J pl st)) (fun r h' => run mX8_findBegunWith (146, 0, 0, [.ref 10, .ref P, .int x2, .int x3, .int x4, .int x5, .int x6, .int x7, .null], r.toList ++ [], h')))) := by
  rcases hP with rfl | rfl
  all_goals exact (exK_eq mX8_findBegunWith [5, 8, 15, 18, 34, 42, 49, 59, 77, 82, 85, 100, 108, 111, 135, 146] 100 _).symm.trans rfl
set_option maxRecDepth 100000 in
theorem bX8_findBegunWith_146 (I : Nat → Nat → Int32) (J : Nat → Nat → Int64) (pl st : Bool) {P : Nat} (hP : P = 4 ∨ P = 7) (s0 : Int32) (x2 : Int32) (x3 : Int32) (x4 : Int32) (x5 : Int32) (x6 : Int32) (x7 : Int32) (z8 : Value) : run mX8_findBegunWith (146, 0, 0, [.ref 10, .ref P, .int x2, .int x3, .int x4, .int x5, .int x6, .int x7, z8], [.int s0], (cH I J pl st)) = (if s0 = (nI 0) then run mX8_findBegunWith (85, 0, 0, [.ref 10, .ref P, .int x2, .int x3, .int x4, .int x5, .int (x6 + (nI 1)), .null, .null], [], (cH I J pl st)) else (callK (fX8_countGiven [.ref 10, .int x2] (cH (up2 I 10 3 ((I 10 3) + (nI 1))) J pl st)) (fun r h' => run mX8_findBegunWith (164, 0, 0, [.ref 10, .ref P, .int x2, .int x3, .int x4, .int x5, .int x6, .int x7, .null], r.toList ++ [], h')))) := by
  rcases hP with rfl | rfl
  all_goals exact (exK_eq mX8_findBegunWith [5, 8, 15, 18, 34, 42, 49, 59, 77, 82, 85, 100, 108, 111, 135, 146, 164] 100 _).symm.trans rfl
set_option maxRecDepth 100000 in
theorem bX8_findBegunWith_164 (I : Nat → Nat → Int32) (J : Nat → Nat → Int64) (pl st : Bool) {P : Nat} (hP : P = 4 ∨ P = 7) (x2 : Int32) (x3 : Int32) (x4 : Int32) (x5 : Int32) (x6 : Int32) (x7 : Int32) (z8 : Value) : run mX8_findBegunWith (164, 0, 0, [.ref 10, .ref P, .int x2, .int x3, .int x4, .int x5, .int x6, .int x7, z8], [], (cH I J pl st)) = (callK (fX8_countGiven [.ref 10, .int x3] (cH I J pl st)) (fun r h' => run mX8_findBegunWith (169, 0, 0, [.ref 10, .ref P, .int x2, .int x3, .int x4, .int x5, .int x6, .int x7, .null], r.toList ++ [], h'))) := by
  rcases hP with rfl | rfl
  all_goals exact (exK_eq mX8_findBegunWith [5, 8, 15, 18, 34, 42, 49, 59, 77, 82, 85, 100, 108, 111, 135, 146, 164, 169] 100 _).symm.trans rfl
set_option maxRecDepth 100000 in
theorem bX8_findBegunWith_169 (I : Nat → Nat → Int32) (J : Nat → Nat → Int64) (pl st : Bool) {P : Nat} (hP : P = 4 ∨ P = 7) (x2 : Int32) (x3 : Int32) (x4 : Int32) (x5 : Int32) (x6 : Int32) (x7 : Int32) (z8 : Value) : run mX8_findBegunWith (169, 0, 0, [.ref 10, .ref P, .int x2, .int x3, .int x4, .int x5, .int x6, .int x7, z8], [], (cH I J pl st)) = (callK (fX8_countGiven [.ref 10, .int x7] (cH I J pl st)) (fun r h' => run mX8_findBegunWith (175, 0, 0, [.ref 10, .ref P, .int x2, .int x3, .int x4, .int x5, .int x6, .int x7, .null], r.toList ++ [], h'))) := by
  rcases hP with rfl | rfl
  all_goals exact (exK_eq mX8_findBegunWith [5, 8, 15, 18, 34, 42, 49, 59, 77, 82, 85, 100, 108, 111, 135, 146, 164, 169, 175] 100 _).symm.trans rfl
set_option maxRecDepth 100000 in
theorem bX8_findBegunWith_175 (I : Nat → Nat → Int32) (J : Nat → Nat → Int64) (pl st : Bool) {P : Nat} (hP : P = 4 ∨ P = 7) (x2 : Int32) (x3 : Int32) (x4 : Int32) (x5 : Int32) (x6 : Int32) (z7 : Value) (z8 : Value) : run mX8_findBegunWith (175, 0, 0, [.ref 10, .ref P, .int x2, .int x3, .int x4, .int x5, .int x6, z7, z8], [], (cH I J pl st)) = run mX8_findBegunWith (85, 0, 0, [.ref 10, .ref P, .int x2, .int x3, .int x4, .int x5, .int (x6 + (nI 1)), .null, .null], [], (cH I J pl st)) := by
  rcases hP with rfl | rfl
  all_goals exact (exK_eq mX8_findBegunWith [5, 8, 15, 18, 34, 42, 49, 59, 77, 82, 85, 100, 108, 111, 135, 146, 164, 169, 175] 100 _).symm.trans rfl
end
section
set_option maxRecDepth 100000 in
theorem eX8_find (I : Nat → Nat → Int32) (J : Nat → Nat → Int64) (pl st : Bool) {P : Nat} (hP : P = 4 ∨ P = 7)  : fX8_find [.ref 10, .ref P] (cH I J pl st) = (callK (fJ7_fill_53178 [.ref 12, .int (nI 0)] (cH I J pl st)) (fun r h' => run mX8_find (8, 0, 0, [.ref 10, .ref P, .null, .null], r.toList ++ [], h'))) := by
  rcases hP with rfl | rfl
  all_goals exact (mth_eq (M := mX8_find) (n := 4) rfl).trans ((exK_eq mX8_find [8, 20, 30] 41 _).symm.trans rfl)
set_option maxRecDepth 100000 in
theorem bX8_find_8 (I : Nat → Nat → Int32) (J : Nat → Nat → Int64) (pl st : Bool) {P : Nat} (hP : P = 4 ∨ P = 7) (z2 : Value) (z3 : Value) : run mX8_find (8, 0, 0, [.ref 10, .ref P, z2, z3], [], (cH I J pl st)) = (callK (fX8_gatherGifts [.ref 10, .ref P] (cH (up2 I 10 3 (nI 0)) J pl st)) (fun r h' => run mX8_find (18, 0, 0, [.ref 10, .ref P, .null, .null], r.toList ++ [], h'))) := by
  rcases hP with rfl | rfl
  all_goals exact (exK_eq mX8_find [8, 18, 20, 30] 41 _).symm.trans rfl
set_option maxRecDepth 100000 in
theorem bX8_find_18 (I : Nat → Nat → Int32) (J : Nat → Nat → Int64) (pl st : Bool) {P : Nat} (hP : P = 4 ∨ P = 7) (z2 : Value) (z3 : Value) : run mX8_find (18, 0, 0, [.ref 10, .ref P, z2, z3], [], (cH I J pl st)) = run mX8_find (20, 0, 0, [.ref 10, .ref P, .int (nI 0), .null], [], (cH I J pl st)) := by
  rcases hP with rfl | rfl
  all_goals exact (exK_eq mX8_find [8, 18, 20, 30] 41 _).symm.trans rfl
set_option maxRecDepth 100000 in
theorem bX8_find_20 (I : Nat → Nat → Int32) (J : Nat → Nat → Int64) (pl st : Bool) {P : Nat} (hP : P = 4 ∨ P = 7) (x2 : Int32) (z3 : Value) : run mX8_find (20, 0, 0, [.ref 10, .ref P, .int x2, z3], [], (cH I J pl st)) = (if (I 10 2) ≤ x2 then some (none, (cH I J pl st)) else run mX8_find (30, 0, 0, [.ref 10, .ref P, .int x2, .int (nI 0)], [], (cH I J pl st))) := by
  rcases hP with rfl | rfl
  all_goals exact (exK_eq mX8_find [8, 18, 20, 30] 41 _).symm.trans rfl
set_option maxRecDepth 100000 in
theorem bX8_find_30 (I : Nat → Nat → Int32) (J : Nat → Nat → Int64) (pl st : Bool) {P : Nat} (hP : P = 4 ∨ P = 7) (x2 : Int32) (x3 : Int32) : run mX8_find (30, 0, 0, [.ref 10, .ref P, .int x2, .int x3], [], (cH I J pl st)) = (if (I 10 2) ≤ x3 then run mX8_find (20, 0, 0, [.ref 10, .ref P, .int (x2 + (nI 1)), .int x3], [], (cH I J pl st)) else (callK (fX8_giftAt [.ref 10, .int x2] (cH I J pl st)) (fun r h' => run mX8_find (45, 0, 0, [.ref 10, .ref P, .int x2, .int x3], r.toList ++ [.ref P, .ref 10], h')))) := by
  rcases hP with rfl | rfl
  all_goals exact (exK_eq mX8_find [8, 18, 20, 30, 45] 41 _).symm.trans rfl
set_option maxRecDepth 100000 in
theorem bX8_find_45 (I : Nat → Nat → Int32) (J : Nat → Nat → Int64) (pl st : Bool) {P : Nat} (hP : P = 4 ∨ P = 7) (s2 : Int32) (x2 : Int32) (x3 : Int32) : run mX8_find (45, 0, 0, [.ref 10, .ref P, .int x2, .int x3], [.int s2, .ref P, .ref 10], (cH I J pl st)) = (callK (fX8_giftAt [.ref 10, .int x3] (cH I J pl st)) (fun r h' => run mX8_find (50, 0, 0, [.ref 10, .ref P, .int x2, .int x3], r.toList ++ [.int s2, .ref P, .ref 10], h'))) := by
  rcases hP with rfl | rfl
  all_goals exact (exK_eq mX8_find [8, 18, 20, 30, 45, 50] 41 _).symm.trans rfl
set_option maxRecDepth 100000 in
theorem bX8_find_50 (I : Nat → Nat → Int32) (J : Nat → Nat → Int64) (pl st : Bool) {P : Nat} (hP : P = 4 ∨ P = 7) (s2 : Int32) (s3 : Int32) (x2 : Int32) (x3 : Int32) : run mX8_find (50, 0, 0, [.ref 10, .ref P, .int x2, .int x3], [.int s3, .int s2, .ref P, .ref 10], (cH I J pl st)) = (callK (fX8_findBegunWith [.ref 10, .ref P, .int s2, .int s3] (cH I J pl st)) (fun r h' => run mX8_find (53, 0, 0, [.ref 10, .ref P, .int x2, .int x3], r.toList ++ [], h'))) := by
  rcases hP with rfl | rfl
  all_goals exact (exK_eq mX8_find [8, 18, 20, 30, 45, 50, 53] 41 _).symm.trans rfl
set_option maxRecDepth 100000 in
theorem bX8_find_53 (I : Nat → Nat → Int32) (J : Nat → Nat → Int64) (pl st : Bool) {P : Nat} (hP : P = 4 ∨ P = 7) (x2 : Int32) (x3 : Int32) : run mX8_find (53, 0, 0, [.ref 10, .ref P, .int x2, .int x3], [], (cH I J pl st)) = run mX8_find (30, 0, 0, [.ref 10, .ref P, .int x2, .int (x3 + (nI 1))], [], (cH I J pl st)) := by
  rcases hP with rfl | rfl
  all_goals exact (exK_eq mX8_find [8, 18, 20, 30, 45, 50, 53] 41 _).symm.trans rfl
set_option maxRecDepth 100000 in
theorem eX9_setFence (I : Nat → Nat → Int32) (J : Nat → Nat → Int64) (pl st : Bool) (x1 : Int32) (x2 : Int32) : fX9_setFence [.ref 15, .int x1, .int x2] (cH I J pl st) = (if x2 = (nI 0) then some (none, (cH (up2 I 15 1 ((I 15 1) &&& (((nI 1) <<< (x1 &&& 31)) ^^^ (Int32.ofInt (-1))))) J pl st)) else some (none, (cH (up2 I 15 1 ((I 15 1) ||| ((nI 1) <<< (x1 &&& 31)))) J pl st))) := (mth_eq (M := mX9_setFence) (n := 3) rfl).trans ((exK_eq mX9_setFence [] 25 _).symm.trans rfl)
set_option maxRecDepth 100000 in
theorem eX9_setCost (I : Nat → Nat → Int32) (J : Nat → Nat → Int64) (pl st : Bool) (x1 : Int32) (x2 : Int32) : fX9_setCost [.ref 15, .int x1, .int x2] (cH I J pl st) = (if x1 < (nI 0) then some (none, (cH I J pl st)) else (if (nI 8) ≤ x1 then some (none, (cH I J pl st)) else (bif inb x1 8 then some (none, (cH (up2 I 16 (x1).toNatClampNeg x2) J pl st)) else none))) := (mth_eq (M := mX9_setCost) (n := 3) rfl).trans ((exK_eq mX9_setCost [] 18 _).symm.trans rfl)
set_option maxRecDepth 100000 in
theorem eX10_add (I : Nat → Nat → Int32) (J : Nat → Nat → Int64) (pl st : Bool) (x1 : Int32) : fX10_add [.ref 1, .int x1] (cH I J pl st) = (if (I 1 1) < (nI 0) then some (some (.int (nI 0)), (cH I J pl st)) else (if (I 1 1) < (nI 120) then (bif inb (I 1 1) 120 then some (some (.int (nI 1)), (cH (up2 (up2 I 2 ((I 1 1)).toNatClampNeg x1) 1 1 ((I 1 1) + (nI 1))) J pl st)) else none) else some (some (.int (nI 0)), (cH I J pl st)))) := (mth_eq (M := mX10_add) (n := 2) rfl).trans ((exK_eq mX10_add [] 30 _).symm.trans rfl)
set_option maxRecDepth 100000 in
theorem eX10_clear (I : Nat → Nat → Int32) (J : Nat → Nat → Int64) (pl st : Bool)  : fX10_clear [.ref 1] (cH I J pl st) = some (none, (cH (up2 I 1 1 (nI 0)) J pl st)) := (mth_eq (M := mX10_clear) (n := 1) rfl).trans ((exK_eq mX10_clear [] 9 _).symm.trans rfl)
set_option maxRecDepth 100000 in
theorem eX11_feed (I : Nat → Nat → Int32) (J : Nat → Nat → Int64) (pl st : Bool)  (x1 : Int32) : fX11_feed [.ref 0, .int x1] (cH I J pl st) = (if x1 < (nI 0) then some (some (.int (-1000000002)), (cH I J pl st)) else (if x1 ≤ (nI 255) then (callK (fX10_add [.ref 1, .int x1] (cH I J pl st)) (fun r h' => run mX11_feed (22, 0, 0, [.ref 0, .int x1], r.toList ++ [], h'))) else some (some (.int (-1000000002)), (cH I J pl st)))) := by
  cases pl
  all_goals exact (mth_eq (M := mX11_feed) (n := 2) rfl).trans ((exK_eq mX11_feed [22] 23 _).symm.trans rfl)
set_option maxRecDepth 100000 in
theorem bX11_feed_22 (I : Nat → Nat → Int32) (J : Nat → Nat → Int64) (pl st : Bool)  (s0 : Int32) (z1 : Value) : run mX11_feed (22, 0, 0, [.ref 0, z1], [.int s0], (cH I J pl st)) = (if s0 = (nI 0) then some (some (.int (-1000000004)), (cH I J pl st)) else some (some (.int (I 1 1)), (cH I J pl st))) := by
  cases pl
  all_goals exact (exK_eq mX11_feed [22] 23 _).symm.trans rfl
set_option maxRecDepth 100000 in
theorem eX11_startAnew (I : Nat → Nat → Int32) (J : Nat → Nat → Int64) (pl st : Bool)   : fX11_startAnew [.ref 0] (cH I J pl st) = (callK (fX8_find [.ref 10, .ref (plP pl)] (cH I J pl st)) (fun r h' => run mX11_startAnew (11, 0, 0, [.ref 0, .null], r.toList ++ [], h'))) := by
  cases pl
  all_goals exact (mth_eq (M := mX11_startAnew) (n := 2) rfl).trans ((exK_eq mX11_startAnew [11] 41 _).symm.trans rfl)
set_option maxRecDepth 100000 in
theorem bX11_startAnew_11 (I : Nat → Nat → Int32) (J : Nat → Nat → Int64) (pl st : Bool)  (z1 : Value) : run mX11_startAnew (11, 0, 0, [.ref 0, z1], [], (cH I J pl st)) = (callK (fX9_clear [.ref 15] (cH I J pl st)) (fun r h' => run mX11_startAnew (18, 0, 0, [.ref 0, .null], r.toList ++ [], h'))) := by
  cases pl
  all_goals exact (exK_eq mX11_startAnew [11, 18] 41 _).symm.trans rfl
set_option maxRecDepth 100000 in
theorem bX11_startAnew_18 (I : Nat → Nat → Int32) (J : Nat → Nat → Int64) (pl st : Bool)  (z1 : Value) : run mX11_startAnew (18, 0, 0, [.ref 0, z1], [], (cH I J pl st)) = (callK (fX1_clear [.ref 17] (cH I J pl st)) (fun r h' => run mX11_startAnew (25, 0, 0, [.ref 0, .null], r.toList ++ [], h'))) := by
  cases pl
  all_goals exact (exK_eq mX11_startAnew [11, 18, 25] 41 _).symm.trans rfl
set_option maxRecDepth 100000 in
theorem bX11_startAnew_25 (I : Nat → Nat → Int32) (J : Nat → Nat → Int64) (pl st : Bool)  (z1 : Value) : run mX11_startAnew (25, 0, 0, [.ref 0, z1], [], (cH I J pl st)) = (callK (fX0_clear [.ref 66] (cH (up2 (up2 I 60 2 (nI 0)) 63 2 (nI 0)) J pl st)) (fun r h' => run mX11_startAnew (59, 0, 0, [.ref 0, .int (((nI 0) + (nI 1)) + (nI 1))], r.toList ++ [], h'))) := by
  cases pl
  all_goals exact (exK_eq mX11_startAnew [11, 18, 25, 59] 41 _).symm.trans rfl
set_option maxRecDepth 100000 in
theorem bX11_startAnew_59 (I : Nat → Nat → Int32) (J : Nat → Nat → Int64) (pl st : Bool)  (z1 : Value) : run mX11_startAnew (59, 0, 0, [.ref 0, z1], [], (cH I J pl st)) = some (none, (cH (up2 (up2 I 0 13 (nI 0)) 0 16 (nI 0)) J pl st)) := by
  cases pl
  all_goals exact (exK_eq mX11_startAnew [11, 18, 25, 59] 41 _).symm.trans rfl
set_option maxRecDepth 100000 in
theorem eX11_threads (I : Nat → Nat → Int32) (J : Nat → Nat → Int64) (pl st : Bool)   : fX11_threads [.ref 0] (cH I J pl st) = (callK (fX5_parse [.ref 3, .ref 1, .ref (plP (!pl))] (cH I J pl st)) (fun r h' => run mX11_threads (15, 0, 0, [.ref 0, .null, .null], r.toList ++ [], h'))) := by
  cases pl
  all_goals exact (mth_eq (M := mX11_threads) (n := 3) rfl).trans ((exK_eq mX11_threads [15] 43 _).symm.trans rfl)
set_option maxRecDepth 100000 in
theorem bX11_threads_15 (I : Nat → Nat → Int32) (J : Nat → Nat → Int64) (pl st : Bool)  (s0 : Int32) (z1 : Value) (z2 : Value) : run mX11_threads (15, 0, 0, [.ref 0, z1, z2], [.int s0], (cH I J pl st)) = (callK (fX10_clear [.ref 1] (cH (up2 I 0 18 (I 3 0)) J pl st)) (fun r h' => run mX11_threads (34, 0, 0, [.ref 0, .int s0, .null], r.toList ++ [], h'))) := by
  cases pl
  all_goals exact (exK_eq mX11_threads [15, 34] 43 _).symm.trans rfl
set_option maxRecDepth 100000 in
theorem bX11_threads_34 (I : Nat → Nat → Int32) (J : Nat → Nat → Int64) (pl st : Bool)  (x1 : Int32) (z2 : Value) : run mX11_threads (34, 0, 0, [.ref 0, .int x1, z2], [], (cH I J pl st)) = (if x1 = (nI 0) then (callK (fX11_startAnew [.ref 0] (78, shX, I, J, (up2 (up2 (RX pl st) 0 2 (plP (!pl))) 0 3 (plP pl)))) (fun r h' => run mX11_threads (65, 0, 0, [.ref 0, .int x1, .ref (plP pl)], r.toList ++ [], h'))) else some (some (.int ((Int32.ofInt (-10)) - x1)), (cH I J pl st))) := by
  cases pl
  all_goals exact (exK_eq mX11_threads [15, 34, 65] 43 _).symm.trans rfl
set_option maxRecDepth 100000 in
theorem bX11_threads_65 (I : Nat → Nat → Int32) (J : Nat → Nat → Int64) (pl st : Bool)  (z1 : Value) (z2 : Value) : run mX11_threads (65, 0, 0, [.ref 0, z1, z2], [], (cH I J pl st)) = some (some (.int (I (plP pl) 3)), (cH I J pl st)) := by
  cases pl
  all_goals exact (exK_eq mX11_threads [15, 34, 65] 43 _).symm.trans rfl
set_option maxRecDepth 100000 in
theorem eX11_fault (I : Nat → Nat → Int32) (J : Nat → Nat → Int64) (pl st : Bool)   : fX11_fault [.ref 0] (cH I J pl st) = some (some (.int (I 0 18)), (cH I J pl st)) := by
  cases pl
  all_goals exact (mth_eq (M := mX11_fault) (n := 1) rfl).trans ((exK_eq mX11_fault [] 8 _).symm.trans rfl)
set_option maxRecDepth 100000 in
theorem eX11_readingsNow (I : Nat → Nat → Int32) (J : Nat → Nat → Int64) (pl st : Bool)   : fX11_readingsNow [.ref 0] (cH I J pl st) = (if (I 0 13) = (nI 0) then (callK (fX4_findReadings [.ref 68, .ref (plP pl), .int (I 15 1), .int (I 15 2), .ref 74] (cH I J pl st)) (fun r h' => run mX11_readingsNow (64, 0, 0, [.ref 0], r.toList ++ [], h'))) else (if (I 0 14) = (I 15 1) then (if (I 0 15) = (I 15 2) then some (some (.ref 74), (cH I J pl st)) else (callK (fX4_findReadings [.ref 68, .ref (plP pl), .int (I 15 1), .int (I 15 2), .ref 74] (cH I J pl st)) (fun r h' => run mX11_readingsNow (64, 0, 0, [.ref 0], r.toList ++ [], h')))) else (callK (fX4_findReadings [.ref 68, .ref (plP pl), .int (I 15 1), .int (I 15 2), .ref 74] (cH I J pl st)) (fun r h' => run mX11_readingsNow (64, 0, 0, [.ref 0], r.toList ++ [], h'))))) := by
  cases pl
  all_goals exact (mth_eq (M := mX11_readingsNow) (n := 1) rfl).trans ((exK_eq mX11_readingsNow [64] 49 _).symm.trans rfl)
set_option maxRecDepth 100000 in
theorem bX11_readingsNow_64 (I : Nat → Nat → Int32) (J : Nat → Nat → Int64) (pl st : Bool)   : run mX11_readingsNow (64, 0, 0, [.ref 0], [], (cH I J pl st)) = some (some (.ref 74), (cH (up2 (up2 (up2 I 0 13 (nI 1)) 0 14 (I 15 1)) 0 15 (I 15 2)) J pl st)) := by
  cases pl
  all_goals exact (exK_eq mX11_readingsNow [64] 49 _).symm.trans rfl
set_option maxRecDepth 100000 in
theorem eX11_strictNow (I : Nat → Nat → Int32) (J : Nat → Nat → Int64) (pl st : Bool)   : fX11_strictNow [.ref 0] (cH I J pl st) = (if (I 0 16) = (nI 0) then (callK (fX4_findReadings [.ref 68, .ref (plP pl), .int (nI 0), .int (nI 0), .ref 76] (cH I J pl st)) (fun r h' => run mX11_strictNow (24, 0, 0, [.ref 0], r.toList ++ [], h'))) else some (some (.ref 76), (cH I J pl st))) := by
  cases pl
  all_goals exact (mth_eq (M := mX11_strictNow) (n := 1) rfl).trans ((exK_eq mX11_strictNow [24] 23 _).symm.trans rfl)
set_option maxRecDepth 100000 in
theorem bX11_strictNow_24 (I : Nat → Nat → Int32) (J : Nat → Nat → Int64) (pl st : Bool)   : run mX11_strictNow (24, 0, 0, [.ref 0], [], (cH I J pl st)) = some (some (.ref 76), (cH (up2 I 0 16 (nI 1)) J pl st)) := by
  cases pl
  all_goals exact (exK_eq mX11_strictNow [24] 23 _).symm.trans rfl
set_option maxRecDepth 100000 in
theorem eX11_looseNow (I : Nat → Nat → Int32) (J : Nat → Nat → Int64) (pl st : Bool)   : fX11_looseNow [.ref 0] (cH I J pl st) = (callK (fX3_gather [.ref 13, .ref (plP pl), .ref 10, .int (I 15 2)] (cH I J pl st)) (fun r h' => run mX11_looseNow (22, 0, 0, [.ref 0], r.toList ++ [], h'))) := by
  cases pl
  all_goals exact (mth_eq (M := mX11_looseNow) (n := 1) rfl).trans ((exK_eq mX11_looseNow [22] 18 _).symm.trans rfl)
set_option maxRecDepth 100000 in
theorem bX11_looseNow_22 (I : Nat → Nat → Int32) (J : Nat → Nat → Int64) (pl st : Bool)   : run mX11_looseNow (22, 0, 0, [.ref 0], [], (cH I J pl st)) = some (some (.ref 13), (cH I J pl st)) := by
  cases pl
  all_goals exact (exK_eq mX11_looseNow [22] 18 _).symm.trans rfl
set_option maxRecDepth 100000 in
theorem eX11_bestSet (I : Nat → Nat → Int32) (J : Nat → Nat → Int64) (pl st : Bool)   : fX11_bestSet [.ref 0] (cH I J pl st) = (callK (fX11_looseNow [.ref 0] (cH I J pl st)) (fun r h' => run mX11_bestSet (4, 0, 0, [.ref 0], r.toList ++ [], h'))) := by
  cases pl
  all_goals exact (mth_eq (M := mX11_bestSet) (n := 1) rfl).trans ((exK_eq mX11_bestSet [4] 14 _).symm.trans rfl)
set_option maxRecDepth 100000 in
theorem bX11_bestSet_4 (I : Nat → Nat → Int32) (J : Nat → Nat → Int64) (pl st : Bool)   : run mX11_bestSet (4, 0, 0, [.ref 0], [.ref 13], (cH I J pl st)) = (callK (fX3_cheapestSet [.ref 13, .int (I (plP pl) 5), .ref 15] (cH I J pl st)) (fun r h' => run mX11_bestSet (18, 0, 0, [.ref 0], r.toList ++ [], h'))) := by
  cases pl
  all_goals exact (exK_eq mX11_bestSet [4, 18] 14 _).symm.trans rfl
set_option maxRecDepth 100000 in
theorem bX11_bestSet_18 (I : Nat → Nat → Int32) (J : Nat → Nat → Int64) (pl st : Bool)  (s0 : Int32) (z0 : Value) : run mX11_bestSet (18, 0, 0, [z0], [.int s0], (cH I J pl st)) = some (some (.int s0), (cH I J pl st)) := by
  cases pl
  all_goals exact (exK_eq mX11_bestSet [4, 18] 14 _).symm.trans rfl
set_option maxRecDepth 100000 in
theorem eX11_told (I : Nat → Nat → Int32) (J : Nat → Nat → Int64) (pl st : Bool)  (x1 : Int32) : fX11_told [.ref 0, .int x1] (cH I J pl st) = (if x1 = (nI 0) then some (some (.int (I (plP pl) 2)), (cH I J pl st)) else (if x1 = (nI 1) then some (some (.int (I (plP pl) 3)), (cH I J pl st)) else (if x1 = (nI 2) then some (some (.int (I 1 1)), (cH I J pl st)) else (if x1 = (nI 3) then some (some (.int (I 15 2)), (cH I J pl st)) else (if x1 = (nI 4) then some (some (.int (I 15 1)), (cH I J pl st)) else (if x1 = (nI 5) then (callK (fX9_costOfSet [.ref 15, .int (I 15 1)] (cH I J pl st)) (fun r h' => run mX11_told (146, 0, 0, [.ref 0, .int x1], r.toList ++ [], h'))) else (if x1 = (nI 6) then (callK (fX11_readingsNow [.ref 0] (cH I J pl st)) (fun r h' => run mX11_told (151, 0, 0, [.ref 0, .int x1], r.toList ++ [], h'))) else (if x1 = (nI 7) then (callK (fX11_strictNow [.ref 0] (cH I J pl st)) (fun r h' => run mX11_told (159, 0, 0, [.ref 0, .int x1], r.toList ++ [], h'))) else (if x1 = (nI 8) then (callK (fX11_readingsNow [.ref 0] (cH I J pl st)) (fun r h' => run mX11_told (167, 0, 0, [.ref 0, .int x1], r.toList ++ [], h'))) else (if x1 = (nI 9) then some (some (.int (I 10 3)), (cH I J pl st)) else (if x1 = (nI 10) then (callK (fX11_looseNow [.ref 0] (cH I J pl st)) (fun r h' => run mX11_told (187, 0, 0, [.ref 0, .int x1], r.toList ++ [], h'))) else (if x1 = (nI 11) then (callK (fX11_looseNow [.ref 0] (cH I J pl st)) (fun r h' => run mX11_told (195, 0, 0, [.ref 0, .int x1], r.toList ++ [], h'))) else (if x1 = (nI 12) then (callK (fX11_looseNow [.ref 0] (cH I J pl st)) (fun r h' => run mX11_told (210, 0, 0, [.ref 0, .int x1], r.toList ++ [], h'))) else (if x1 = (nI 13) then (callK (fX11_bestSet [.ref 0] (cH I J pl st)) (fun r h' => run mX11_told (233, 0, 0, [.ref 0, .int x1], r.toList ++ [], h'))) else (if x1 = (nI 14) then (callK (fX11_bestSet [.ref 0] (cH I J pl st)) (fun r h' => run mX11_told (242, 0, 0, [.ref 0, .int x1], r.toList ++ [.ref 15], h'))) else (if x1 = (nI 15) then (callK (fX11_looseNow [.ref 0] (cH I J pl st)) (fun r h' => run mX11_told (250, 0, 0, [.ref 0, .int x1], r.toList ++ [], h'))) else (if x1 = (nI 16) then some (some (.int (I 66 2)), (cH I J pl st)) else (if x1 = (nI 17) then (callK (fX11_readingsNow [.ref 0] (cH I J pl st)) (fun r h' => run mX11_told (277, 0, 0, [.ref 0, .int x1], r.toList ++ [.ref 66], h'))) else (if x1 = (nI 18) then some (some (.int (I 17 2)), (cH I J pl st)) else some (some (.int (-1000000002)), (cH I J pl st))))))))))))))))))))) := by
  cases pl
  all_goals exact (mth_eq (M := mX11_told) (n := 2) rfl).trans ((exK_eq mX11_told [146, 151, 159, 167, 187, 195, 210, 233, 242, 250, 277] 106 _).symm.trans rfl)
set_option maxRecDepth 100000 in
theorem bX11_told_146 (I : Nat → Nat → Int32) (J : Nat → Nat → Int64) (pl st : Bool)  (s0 : Int32) (z0 : Value) (z1 : Value) : run mX11_told (146, 0, 0, [z0, z1], [.int s0], (cH I J pl st)) = some (some (.int s0), (cH I J pl st)) := by
  cases pl
  all_goals exact (exK_eq mX11_told [146, 151, 159, 167, 187, 195, 210, 233, 242, 250, 277] 106 _).symm.trans rfl
set_option maxRecDepth 100000 in
theorem bX11_told_151 (I : Nat → Nat → Int32) (J : Nat → Nat → Int64) (pl st : Bool)  (z0 : Value) (z1 : Value) : run mX11_told (151, 0, 0, [z0, z1], [.ref 74], (cH I J pl st)) = some (some (.int (I 74 1)), (cH I J pl st)) := by
  cases pl
  all_goals exact (exK_eq mX11_told [146, 151, 159, 167, 187, 195, 210, 233, 242, 250, 277] 106 _).symm.trans rfl
set_option maxRecDepth 100000 in
theorem bX11_told_159 (I : Nat → Nat → Int32) (J : Nat → Nat → Int64) (pl st : Bool)  (z0 : Value) (z1 : Value) : run mX11_told (159, 0, 0, [z0, z1], [.ref 76], (cH I J pl st)) = some (some (.int (I 76 1)), (cH I J pl st)) := by
  cases pl
  all_goals exact (exK_eq mX11_told [146, 151, 159, 167, 187, 195, 210, 233, 242, 250, 277] 106 _).symm.trans rfl
set_option maxRecDepth 100000 in
theorem bX11_told_167 (I : Nat → Nat → Int32) (J : Nat → Nat → Int64) (pl st : Bool)  (z1 : Value) : run mX11_told (167, 0, 0, [.ref 0, z1], [.ref 74], (cH I J pl st)) = (callK (fX11_strictNow [.ref 0] (cH I J pl st)) (fun r h' => run mX11_told (171, 0, 0, [.ref 0, .null], r.toList ++ [.ref 74], h'))) := by
  cases pl
  all_goals exact (exK_eq mX11_told [146, 151, 159, 167, 171, 187, 195, 210, 233, 242, 250, 277] 106 _).symm.trans rfl
set_option maxRecDepth 100000 in
theorem bX11_told_187 (I : Nat → Nat → Int32) (J : Nat → Nat → Int64) (pl st : Bool)  (z0 : Value) (z1 : Value) : run mX11_told (187, 0, 0, [z0, z1], [.ref 13], (cH I J pl st)) = some (some (.int (I 13 1)), (cH I J pl st)) := by
  cases pl
  all_goals exact (exK_eq mX11_told [146, 151, 159, 167, 171, 187, 195, 210, 233, 242, 250, 277] 106 _).symm.trans rfl
set_option maxRecDepth 100000 in
theorem bX11_told_195 (I : Nat → Nat → Int32) (J : Nat → Nat → Int64) (pl st : Bool)  (z1 : Value) : run mX11_told (195, 0, 0, [.ref 0, z1], [.ref 13], (cH I J pl st)) = (callK (fX3_countHeld [.ref 13, .int (I 15 1)] (cH I J pl st)) (fun r h' => run mX11_told (205, 0, 0, [.ref 0, .null], r.toList ++ [], h'))) := by
  cases pl
  all_goals exact (exK_eq mX11_told [146, 151, 159, 167, 171, 187, 195, 205, 210, 233, 242, 250, 277] 106 _).symm.trans rfl
set_option maxRecDepth 100000 in
theorem bX11_told_210 (I : Nat → Nat → Int32) (J : Nat → Nat → Int64) (pl st : Bool)  (z1 : Value) : run mX11_told (210, 0, 0, [.ref 0, z1], [.ref 13], (cH I J pl st)) = (callK (fX3_areAllHeld [.ref 13, .int (I 15 1)] (cH I J pl st)) (fun r h' => run mX11_told (220, 0, 0, [.ref 0, .null], r.toList ++ [], h'))) := by
  cases pl
  all_goals exact (exK_eq mX11_told [146, 151, 159, 167, 171, 187, 195, 205, 210, 220, 233, 242, 250, 277] 106 _).symm.trans rfl
set_option maxRecDepth 100000 in
theorem bX11_told_233 (I : Nat → Nat → Int32) (J : Nat → Nat → Int64) (pl st : Bool)  (s0 : Int32) (z0 : Value) (z1 : Value) : run mX11_told (233, 0, 0, [z0, z1], [.int s0], (cH I J pl st)) = some (some (.int s0), (cH I J pl st)) := by
  cases pl
  all_goals exact (exK_eq mX11_told [146, 151, 159, 167, 171, 187, 195, 205, 210, 220, 233, 242, 250, 277] 106 _).symm.trans rfl
set_option maxRecDepth 100000 in
theorem bX11_told_242 (I : Nat → Nat → Int32) (J : Nat → Nat → Int64) (pl st : Bool)  (s1 : Int32) (z0 : Value) (z1 : Value) : run mX11_told (242, 0, 0, [z0, z1], [.int s1, .ref 15], (cH I J pl st)) = (callK (fX9_costOfSet [.ref 15, .int s1] (cH I J pl st)) (fun r h' => run mX11_told (245, 0, 0, [.null, .null], r.toList ++ [], h'))) := by
  cases pl
  all_goals exact (exK_eq mX11_told [146, 151, 159, 167, 171, 187, 195, 205, 210, 220, 233, 242, 245, 250, 277] 106 _).symm.trans rfl
set_option maxRecDepth 100000 in
theorem bX11_told_250 (I : Nat → Nat → Int32) (J : Nat → Nat → Int64) (pl st : Bool)  (z1 : Value) : run mX11_told (250, 0, 0, [.ref 0, z1], [.ref 13], (cH I J pl st)) = (callK (fX3_neededOf [.ref 13, .int (I 15 1)] (cH I J pl st)) (fun r h' => run mX11_told (260, 0, 0, [.ref 0, .null], r.toList ++ [], h'))) := by
  cases pl
  all_goals exact (exK_eq mX11_told [146, 151, 159, 167, 171, 187, 195, 205, 210, 220, 233, 242, 245, 250, 260, 277] 106 _).symm.trans rfl
set_option maxRecDepth 100000 in
theorem bX11_told_277 (I : Nat → Nat → Int32) (J : Nat → Nat → Int64) (pl st : Bool)  (z0 : Value) (z1 : Value) : run mX11_told (277, 0, 0, [z0, z1], [.ref 74, .ref 66], (cH I J pl st)) = (callK (fX0_firstWrong [.ref 66, .ref 74] (cH I J pl st)) (fun r h' => run mX11_told (280, 0, 0, [.null, .null], r.toList ++ [], h'))) := by
  cases pl
  all_goals exact (exK_eq mX11_told [146, 151, 159, 167, 171, 187, 195, 205, 210, 220, 233, 242, 245, 250, 260, 277, 280] 106 _).symm.trans rfl
set_option maxRecDepth 100000 in
theorem bX11_told_171 (I : Nat → Nat → Int32) (J : Nat → Nat → Int64) (pl st : Bool)  (z0 : Value) (z1 : Value) : run mX11_told (171, 0, 0, [z0, z1], [.ref 76, .ref 74], (cH I J pl st)) = (callK (fX7_countWithout [.ref 74, .ref 76] (cH I J pl st)) (fun r h' => run mX11_told (174, 0, 0, [.null, .null], r.toList ++ [], h'))) := by
  cases pl
  all_goals exact (exK_eq mX11_told [146, 151, 159, 167, 171, 174, 187, 195, 205, 210, 220, 233, 242, 245, 250, 260, 277, 280] 106 _).symm.trans rfl
set_option maxRecDepth 100000 in
theorem bX11_told_205 (I : Nat → Nat → Int32) (J : Nat → Nat → Int64) (pl st : Bool)  (s0 : Int32) (z0 : Value) (z1 : Value) : run mX11_told (205, 0, 0, [z0, z1], [.int s0], (cH I J pl st)) = some (some (.int s0), (cH I J pl st)) := by
  cases pl
  all_goals exact (exK_eq mX11_told [146, 151, 159, 167, 171, 174, 187, 195, 205, 210, 220, 233, 242, 245, 250, 260, 277, 280] 106 _).symm.trans rfl
set_option maxRecDepth 100000 in
theorem bX11_told_220 (I : Nat → Nat → Int32) (J : Nat → Nat → Int64) (pl st : Bool)  (s0 : Int32) (z0 : Value) (z1 : Value) : run mX11_told (220, 0, 0, [z0, z1], [.int s0], (cH I J pl st)) = (if s0 = (nI 0) then some (some (.int (nI 0)), (cH I J pl st)) else some (some (.int (nI 1)), (cH I J pl st))) := by
  cases pl
  all_goals exact (exK_eq mX11_told [146, 151, 159, 167, 171, 174, 187, 195, 205, 210, 220, 233, 242, 245, 250, 260, 277, 280] 106 _).symm.trans rfl
set_option maxRecDepth 100000 in
theorem bX11_told_245 (I : Nat → Nat → Int32) (J : Nat → Nat → Int64) (pl st : Bool)  (s0 : Int32) (z0 : Value) (z1 : Value) : run mX11_told (245, 0, 0, [z0, z1], [.int s0], (cH I J pl st)) = some (some (.int s0), (cH I J pl st)) := by
  cases pl
  all_goals exact (exK_eq mX11_told [146, 151, 159, 167, 171, 174, 187, 195, 205, 210, 220, 233, 242, 245, 250, 260, 277, 280] 106 _).symm.trans rfl
set_option maxRecDepth 100000 in
theorem bX11_told_260 (I : Nat → Nat → Int32) (J : Nat → Nat → Int64) (pl st : Bool)  (s0 : Int32) (z0 : Value) (z1 : Value) : run mX11_told (260, 0, 0, [z0, z1], [.int s0], (cH I J pl st)) = some (some (.int s0), (cH I J pl st)) := by
  cases pl
  all_goals exact (exK_eq mX11_told [146, 151, 159, 167, 171, 174, 187, 195, 205, 210, 220, 233, 242, 245, 250, 260, 277, 280] 106 _).symm.trans rfl
set_option maxRecDepth 100000 in
theorem bX11_told_280 (I : Nat → Nat → Int32) (J : Nat → Nat → Int64) (pl st : Bool)  (s0 : Int32) (z0 : Value) (z1 : Value) : run mX11_told (280, 0, 0, [z0, z1], [.int s0], (cH I J pl st)) = some (some (.int s0), (cH I J pl st)) := by
  cases pl
  all_goals exact (exK_eq mX11_told [146, 151, 159, 167, 171, 174, 187, 195, 205, 210, 220, 233, 242, 245, 250, 260, 277, 280] 106 _).symm.trans rfl
set_option maxRecDepth 100000 in
theorem bX11_told_174 (I : Nat → Nat → Int32) (J : Nat → Nat → Int64) (pl st : Bool)  (s0 : Int32) (z0 : Value) (z1 : Value) : run mX11_told (174, 0, 0, [z0, z1], [.int s0], (cH I J pl st)) = some (some (.int s0), (cH I J pl st)) := by
  cases pl
  all_goals exact (exK_eq mX11_told [146, 151, 159, 167, 171, 174, 187, 195, 205, 210, 220, 233, 242, 245, 250, 260, 277, 280] 106 _).symm.trans rfl
set_option maxRecDepth 100000 in
theorem eX11_step (I : Nat → Nat → Int32) (J : Nat → Nat → Int64) (pl st : Bool)  (x1 : Int32) (x2 : Int32) : fX11_step [.ref 0, .int x1, .int x2] (cH I J pl st) = (callK (fX6_hasStep [.ref (plP pl), .int x1] (cH I J pl st)) (fun r h' => run mX11_step (8, 0, 0, [.ref 0, .int x1, .int x2], r.toList ++ [], h'))) := by
  cases pl
  all_goals exact (mth_eq (M := mX11_step) (n := 3) rfl).trans ((exK_eq mX11_step [8] 77 _).symm.trans rfl)
set_option maxRecDepth 100000 in
theorem bX11_step_8 (I : Nat → Nat → Int32) (J : Nat → Nat → Int64) (pl st : Bool)  (s0 : Int32) (x1 : Int32) (x2 : Int32) : run mX11_step (8, 0, 0, [.ref 0, .int x1, .int x2], [.int s0], (cH I J pl st)) = (if s0 = (nI 0) then some (some (.int (-1000000001)), (cH I J pl st)) else (if x2 = (nI 0) then (callK (fX6_threadOf [.ref (plP pl), .int x1] (cH I J pl st)) (fun r h' => run mX11_step (64, 0, 0, [.ref 0, .int x1, .int x2], r.toList ++ [], h'))) else (if x2 = (nI 1) then (callK (fX6_cellOf [.ref (plP pl), .int x1] (cH I J pl st)) (fun r h' => run mX11_step (73, 0, 0, [.ref 0, .int x1, .int x2], r.toList ++ [], h'))) else (if x2 = (nI 2) then (callK (fX6_isWriter [.ref (plP pl), .int x1] (cH I J pl st)) (fun r h' => run mX11_step (82, 0, 0, [.ref 0, .int x1, .int x2], r.toList ++ [], h'))) else (if x2 = (nI 3) then (callK (fX6_hasGap [.ref (plP pl), .int x1] (cH I J pl st)) (fun r h' => run mX11_step (99, 0, 0, [.ref 0, .int x1, .int x2], r.toList ++ [], h'))) else (if x2 = (nI 4) then (callK (fX6_hasGap [.ref (plP pl), .int x1] (cH I J pl st)) (fun r h' => run mX11_step (123, 0, 0, [.ref 0, .int x1, .int x2], r.toList ++ [], h'))) else (if x2 = (nI 5) then (callK (fX6_waitsOf [.ref (plP pl), .int x1, .int (I 15 1), .int (I 15 2)] (cH I J pl st)) (fun r h' => run mX11_step (163, 0, 0, [.ref 0, .int x1, .int x2], r.toList ++ [], h'))) else (if x2 = (nI 6) then (callK (fX6_conflictsOf [.ref (plP pl), .int x1] (cH I J pl st)) (fun r h' => run mX11_step (172, 0, 0, [.ref 0, .int x1, .int x2], r.toList ++ [], h'))) else some (some (.int (-1000000002)), (cH I J pl st)))))))))) := by
  cases pl
  all_goals exact (exK_eq mX11_step [8, 64, 73, 82, 99, 123, 163, 172] 77 _).symm.trans rfl
set_option maxRecDepth 100000 in
theorem bX11_step_64 (I : Nat → Nat → Int32) (J : Nat → Nat → Int64) (pl st : Bool)  (s0 : Int32) (z0 : Value) (z1 : Value) (z2 : Value) : run mX11_step (64, 0, 0, [z0, z1, z2], [.int s0], (cH I J pl st)) = some (some (.int s0), (cH I J pl st)) := by
  cases pl
  all_goals exact (exK_eq mX11_step [8, 64, 73, 82, 99, 123, 163, 172] 77 _).symm.trans rfl
set_option maxRecDepth 100000 in
theorem bX11_step_73 (I : Nat → Nat → Int32) (J : Nat → Nat → Int64) (pl st : Bool)  (s0 : Int32) (z0 : Value) (z1 : Value) (z2 : Value) : run mX11_step (73, 0, 0, [z0, z1, z2], [.int s0], (cH I J pl st)) = some (some (.int s0), (cH I J pl st)) := by
  cases pl
  all_goals exact (exK_eq mX11_step [8, 64, 73, 82, 99, 123, 163, 172] 77 _).symm.trans rfl
set_option maxRecDepth 100000 in
theorem bX11_step_82 (I : Nat → Nat → Int32) (J : Nat → Nat → Int64) (pl st : Bool)  (s0 : Int32) (z0 : Value) (z1 : Value) (z2 : Value) : run mX11_step (82, 0, 0, [z0, z1, z2], [.int s0], (cH I J pl st)) = (if s0 = (nI 0) then some (some (.int (nI 0)), (cH I J pl st)) else some (some (.int (nI 1)), (cH I J pl st))) := by
  cases pl
  all_goals exact (exK_eq mX11_step [8, 64, 73, 82, 99, 123, 163, 172] 77 _).symm.trans rfl
set_option maxRecDepth 100000 in
theorem bX11_step_99 (I : Nat → Nat → Int32) (J : Nat → Nat → Int64) (pl st : Bool)  (s0 : Int32) (x1 : Int32) (z2 : Value) : run mX11_step (99, 0, 0, [.ref 0, .int x1, z2], [.int s0], (cH I J pl st)) = (if s0 = (nI 0) then some (some (.int (Int32.ofInt (-1))), (cH I J pl st)) else (callK (fX9_costOf [.ref 15, .int x1] (cH I J pl st)) (fun r h' => run mX11_step (110, 0, 0, [.ref 0, .int x1, .null], r.toList ++ [], h')))) := by
  cases pl
  all_goals exact (exK_eq mX11_step [8, 64, 73, 82, 99, 110, 123, 163, 172] 77 _).symm.trans rfl
set_option maxRecDepth 100000 in
theorem bX11_step_123 (I : Nat → Nat → Int32) (J : Nat → Nat → Int64) (pl st : Bool)  (s0 : Int32) (x1 : Int32) (z2 : Value) : run mX11_step (123, 0, 0, [.ref 0, .int x1, z2], [.int s0], (cH I J pl st)) = (if s0 = (nI 0) then some (some (.int (Int32.ofInt (-1))), (cH I J pl st)) else (callK (fX11_looseNow [.ref 0] (cH I J pl st)) (fun r h' => run mX11_step (130, 0, 0, [.ref 0, .int x1, .null], r.toList ++ [], h')))) := by
  cases pl
  all_goals exact (exK_eq mX11_step [8, 64, 73, 82, 99, 110, 123, 130, 163, 172] 77 _).symm.trans rfl
set_option maxRecDepth 100000 in
theorem bX11_step_163 (I : Nat → Nat → Int32) (J : Nat → Nat → Int64) (pl st : Bool)  (s0 : Int32) (z0 : Value) (z1 : Value) (z2 : Value) : run mX11_step (163, 0, 0, [z0, z1, z2], [.int s0], (cH I J pl st)) = some (some (.int s0), (cH I J pl st)) := by
  cases pl
  all_goals exact (exK_eq mX11_step [8, 64, 73, 82, 99, 110, 123, 130, 163, 172] 77 _).symm.trans rfl
set_option maxRecDepth 100000 in
theorem bX11_step_172 (I : Nat → Nat → Int32) (J : Nat → Nat → Int64) (pl st : Bool)  (s0 : Int32) (z0 : Value) (z1 : Value) (z2 : Value) : run mX11_step (172, 0, 0, [z0, z1, z2], [.int s0], (cH I J pl st)) = some (some (.int s0), (cH I J pl st)) := by
  cases pl
  all_goals exact (exK_eq mX11_step [8, 64, 73, 82, 99, 110, 123, 130, 163, 172] 77 _).symm.trans rfl
set_option maxRecDepth 100000 in
theorem bX11_step_110 (I : Nat → Nat → Int32) (J : Nat → Nat → Int64) (pl st : Bool)  (s0 : Int32) (z0 : Value) (z1 : Value) (z2 : Value) : run mX11_step (110, 0, 0, [z0, z1, z2], [.int s0], (cH I J pl st)) = some (some (.int s0), (cH I J pl st)) := by
  cases pl
  all_goals exact (exK_eq mX11_step [8, 64, 73, 82, 99, 110, 123, 130, 163, 172] 77 _).symm.trans rfl
set_option maxRecDepth 100000 in
theorem bX11_step_130 (I : Nat → Nat → Int32) (J : Nat → Nat → Int64) (pl st : Bool)  (x1 : Int32) (z0 : Value) (z2 : Value) : run mX11_step (130, 0, 0, [z0, .int x1, z2], [.ref 13], (cH I J pl st)) = (callK (fX3_countHeld [.ref 13, .int ((nI 1) <<< (x1 &&& 31))] (cH I J pl st)) (fun r h' => run mX11_step (136, 0, 0, [.null, .int x1, .null], r.toList ++ [], h'))) := by
  cases pl
  all_goals exact (exK_eq mX11_step [8, 64, 73, 82, 99, 110, 123, 130, 136, 163, 172] 77 _).symm.trans rfl
set_option maxRecDepth 100000 in
theorem bX11_step_136 (I : Nat → Nat → Int32) (J : Nat → Nat → Int64) (pl st : Bool)  (s0 : Int32) (z0 : Value) (z1 : Value) (z2 : Value) : run mX11_step (136, 0, 0, [z0, z1, z2], [.int s0], (cH I J pl st)) = some (some (.int s0), (cH I J pl st)) := by
  cases pl
  all_goals exact (exK_eq mX11_step [8, 64, 73, 82, 99, 110, 123, 130, 136, 163, 172] 77 _).symm.trans rfl
set_option maxRecDepth 100000 in
theorem eX11_pair (I : Nat → Nat → Int32) (J : Nat → Nat → Int64) (pl st : Bool)  (x1 : Int32) (x2 : Int32) (x3 : Int32) : fX11_pair [.ref 0, .int x1, .int x2, .int x3] (cH I J pl st) = (callK (fX6_hasStep [.ref (plP pl), .int x1] (cH I J pl st)) (fun r h' => run mX11_pair (8, 0, 0, [.ref 0, .int x1, .int x2, .int x3, .null], r.toList ++ [], h'))) := by
  cases pl
  all_goals exact (mth_eq (M := mX11_pair) (n := 5) rfl).trans ((exK_eq mX11_pair [8] 80 _).symm.trans rfl)
set_option maxRecDepth 100000 in
theorem bX11_pair_8 (I : Nat → Nat → Int32) (J : Nat → Nat → Int64) (pl st : Bool)  (s0 : Int32) (x1 : Int32) (x2 : Int32) (x3 : Int32) (z4 : Value) : run mX11_pair (8, 0, 0, [.ref 0, .int x1, .int x2, .int x3, z4], [.int s0], (cH I J pl st)) = (if s0 = (nI 0) then some (some (.int (-1000000001)), (cH I J pl st)) else (callK (fX6_hasStep [.ref (plP pl), .int x2] (cH I J pl st)) (fun r h' => run mX11_pair (19, 0, 0, [.ref 0, .int x1, .int x2, .int x3, .null], r.toList ++ [], h')))) := by
  cases pl
  all_goals exact (exK_eq mX11_pair [8, 19] 80 _).symm.trans rfl
set_option maxRecDepth 100000 in
theorem bX11_pair_19 (I : Nat → Nat → Int32) (J : Nat → Nat → Int64) (pl st : Bool)  (s0 : Int32) (x1 : Int32) (x2 : Int32) (x3 : Int32) (z4 : Value) : run mX11_pair (19, 0, 0, [.ref 0, .int x1, .int x2, .int x3, z4], [.int s0], (cH I J pl st)) = (if s0 = (nI 0) then some (some (.int (-1000000001)), (cH I J pl st)) else (if x1 = x2 then some (some (.int (-1000000001)), (cH I J pl st)) else (if x3 < (nI 0) then some (some (.int (-1000000002)), (cH I J pl st)) else (if x3 ≤ (nI 3) then (callK (fX6_isAhead [.ref (plP pl), .int x1, .int x2] (cH I J pl st)) (fun r h' => run mX11_pair (51, 0, 0, [.ref 0, .int x1, .int x2, .int x3, .null], r.toList ++ [], h'))) else some (some (.int (-1000000002)), (cH I J pl st)))))) := by
  cases pl
  all_goals exact (exK_eq mX11_pair [8, 19, 51] 80 _).symm.trans rfl
set_option maxRecDepth 100000 in
theorem bX11_pair_51 (I : Nat → Nat → Int32) (J : Nat → Nat → Int64) (pl st : Bool)  (s0 : Int32) (x1 : Int32) (x2 : Int32) (x3 : Int32) (z4 : Value) : run mX11_pair (51, 0, 0, [.ref 0, .int x1, .int x2, .int x3, z4], [.int s0], (cH I J pl st)) = (if s0 = (nI 0) then some (some (.int (-1000000003)), (cH I J pl st)) else (callK (fX8_countWith [.ref 10, .int x1, .int x2] (cH I J pl st)) (fun r h' => run mX11_pair (66, 0, 0, [.ref 0, .int x1, .int x2, .int x3, .null], r.toList ++ [], h')))) := by
  cases pl
  all_goals exact (exK_eq mX11_pair [8, 19, 51, 66] 80 _).symm.trans rfl
set_option maxRecDepth 100000 in
theorem bX11_pair_66 (I : Nat → Nat → Int32) (J : Nat → Nat → Int64) (pl st : Bool)  (s0 : Int32) (x1 : Int32) (x2 : Int32) (x3 : Int32) (z4 : Value) : run mX11_pair (66, 0, 0, [.ref 0, .int x1, .int x2, .int x3, z4], [.int s0], (cH I J pl st)) = (if x3 = (nI 0) then (if s0 ≤ (nI 0) then some (some (.int (nI 0)), (cH I J pl st)) else some (some (.int (nI 1)), (cH I J pl st))) else (if x3 = (nI 1) then (if s0 ≤ (nI 0) then some (some (.int (nI 0)), (cH I J pl st)) else (callK (fX6_mayOvertake [.ref (plP pl), .int x1, .int x2, .int (I 15 2)] (cH I J pl st)) (fun r h' => run mX11_pair (128, 0, 0, [.ref 0, .int x1, .int x2, .int x3, .int s0], r.toList ++ [], h')))) else (if x3 = (nI 2) then (if s0 ≤ (nI 0) then some (some (.int (nI 0)), (cH I J pl st)) else (callK (fX11_gapsBetween [.int x1, .int x2] (cH I J pl st)) (fun r h' => run mX11_pair (154, 0, 0, [.ref 0, .int x1, .int x2, .int x3, .int s0], r.toList ++ [.int (I 15 1)], h')))) else some (some (.int s0), (cH I J pl st))))) := by
  cases pl
  all_goals exact (exK_eq mX11_pair [8, 19, 51, 66, 128, 154] 80 _).symm.trans rfl
set_option maxRecDepth 100000 in
theorem bX11_pair_128 (I : Nat → Nat → Int32) (J : Nat → Nat → Int64) (pl st : Bool)  (s0 : Int32) (z0 : Value) (z1 : Value) (z2 : Value) (z3 : Value) (z4 : Value) : run mX11_pair (128, 0, 0, [z0, z1, z2, z3, z4], [.int s0], (cH I J pl st)) = (if s0 = (nI 0) then some (some (.int (nI 0)), (cH I J pl st)) else some (some (.int (nI 1)), (cH I J pl st))) := by
  cases pl
  all_goals exact (exK_eq mX11_pair [8, 19, 51, 66, 128, 154] 80 _).symm.trans rfl
set_option maxRecDepth 100000 in
theorem bX11_pair_154 (I : Nat → Nat → Int32) (J : Nat → Nat → Int64) (pl st : Bool)  (s0 : Int32) (s1 : Int32) (z0 : Value) (z1 : Value) (z2 : Value) (z3 : Value) (z4 : Value) : run mX11_pair (154, 0, 0, [z0, z1, z2, z3, z4], [.int s1, .int s0], (cH I J pl st)) = (if (s0 &&& s1) = (nI 0) then some (some (.int (nI 0)), (cH I J pl st)) else some (some (.int (nI 1)), (cH I J pl st))) := by
  cases pl
  all_goals exact (exK_eq mX11_pair [8, 19, 51, 66, 128, 154] 80 _).symm.trans rfl
set_option maxRecDepth 100000 in
theorem eX11_reading (I : Nat → Nat → Int32) (J : Nat → Nat → Int64) (pl st : Bool)  (x1 : Int32) (x2 : Int32) : fX11_reading [.ref 0, .int x1, .int x2] (cH I J pl st) = (if x2 = (nI 0) then (callK (fX11_readingsNow [.ref 0] (cH I J pl st)) (fun r h' => run mX11_reading (32, 0, 0, [.ref 0, .int x1, .int x2], r.toList ++ [], h'))) else (if x2 = (nI 1) then (callK (fX11_strictNow [.ref 0] (cH I J pl st)) (fun r h' => run mX11_reading (41, 0, 0, [.ref 0, .int x1, .int x2], r.toList ++ [], h'))) else (if x2 = (nI 2) then (callK (fX11_readingsNow [.ref 0] (cH I J pl st)) (fun r h' => run mX11_reading (50, 0, 0, [.ref 0, .int x1, .int x2], r.toList ++ [], h'))) else some (some (.int (-1000000002)), (cH I J pl st))))) := by
  cases pl
  all_goals exact (mth_eq (M := mX11_reading) (n := 3) rfl).trans ((exK_eq mX11_reading [32, 41, 50] 26 _).symm.trans rfl)
set_option maxRecDepth 100000 in
theorem bX11_reading_32 (I : Nat → Nat → Int32) (J : Nat → Nat → Int64) (pl st : Bool)  (x1 : Int32) (z0 : Value) (z2 : Value) : run mX11_reading (32, 0, 0, [z0, .int x1, z2], [.ref 74], (cH I J pl st)) = (callK (fX7_at [.ref 74, .int x1] (cH I J pl st)) (fun r h' => run mX11_reading (36, 0, 0, [.null, .int x1, .null], r.toList ++ [], h'))) := by
  cases pl
  all_goals exact (exK_eq mX11_reading [32, 36, 41, 50] 26 _).symm.trans rfl
set_option maxRecDepth 100000 in
theorem bX11_reading_41 (I : Nat → Nat → Int32) (J : Nat → Nat → Int64) (pl st : Bool)  (x1 : Int32) (z0 : Value) (z2 : Value) : run mX11_reading (41, 0, 0, [z0, .int x1, z2], [.ref 76], (cH I J pl st)) = (callK (fX7_at [.ref 76, .int x1] (cH I J pl st)) (fun r h' => run mX11_reading (45, 0, 0, [.null, .int x1, .null], r.toList ++ [], h'))) := by
  cases pl
  all_goals exact (exK_eq mX11_reading [32, 36, 41, 45, 50] 26 _).symm.trans rfl
set_option maxRecDepth 100000 in
theorem bX11_reading_50 (I : Nat → Nat → Int32) (J : Nat → Nat → Int64) (pl st : Bool)  (x1 : Int32) (z2 : Value) : run mX11_reading (50, 0, 0, [.ref 0, .int x1, z2], [.ref 74], (cH I J pl st)) = (callK (fX11_strictNow [.ref 0] (cH I J pl st)) (fun r h' => run mX11_reading (55, 0, 0, [.ref 0, .int x1, .null], r.toList ++ [.int x1, .ref 74], h'))) := by
  cases pl
  all_goals exact (exK_eq mX11_reading [32, 36, 41, 45, 50, 55] 26 _).symm.trans rfl
set_option maxRecDepth 100000 in
theorem bX11_reading_36 (I : Nat → Nat → Int32) (J : Nat → Nat → Int64) (pl st : Bool)  (s0 : Int32) (z0 : Value) (z1 : Value) (z2 : Value) : run mX11_reading (36, 0, 0, [z0, z1, z2], [.int s0], (cH I J pl st)) = some (some (.int s0), (cH I J pl st)) := by
  cases pl
  all_goals exact (exK_eq mX11_reading [32, 36, 41, 45, 50, 55] 26 _).symm.trans rfl
set_option maxRecDepth 100000 in
theorem bX11_reading_45 (I : Nat → Nat → Int32) (J : Nat → Nat → Int64) (pl st : Bool)  (s0 : Int32) (z0 : Value) (z1 : Value) (z2 : Value) : run mX11_reading (45, 0, 0, [z0, z1, z2], [.int s0], (cH I J pl st)) = some (some (.int s0), (cH I J pl st)) := by
  cases pl
  all_goals exact (exK_eq mX11_reading [32, 36, 41, 45, 50, 55] 26 _).symm.trans rfl
set_option maxRecDepth 100000 in
theorem bX11_reading_55 (I : Nat → Nat → Int32) (J : Nat → Nat → Int64) (pl st : Bool)  (s1 : Int32) (z0 : Value) (z1 : Value) (z2 : Value) : run mX11_reading (55, 0, 0, [z0, z1, z2], [.ref 76, .int s1, .ref 74], (cH I J pl st)) = (callK (fX7_atWithout [.ref 74, .int s1, .ref 76] (cH I J pl st)) (fun r h' => run mX11_reading (58, 0, 0, [.null, .null, .null], r.toList ++ [], h'))) := by
  cases pl
  all_goals exact (exK_eq mX11_reading [32, 36, 41, 45, 50, 55, 58] 26 _).symm.trans rfl
set_option maxRecDepth 100000 in
theorem bX11_reading_58 (I : Nat → Nat → Int32) (J : Nat → Nat → Int64) (pl st : Bool)  (s0 : Int32) (z0 : Value) (z1 : Value) (z2 : Value) : run mX11_reading (58, 0, 0, [z0, z1, z2], [.int s0], (cH I J pl st)) = some (some (.int s0), (cH I J pl st)) := by
  cases pl
  all_goals exact (exK_eq mX11_reading [32, 36, 41, 45, 50, 55, 58] 26 _).symm.trans rfl
set_option maxRecDepth 100000 in
theorem eX11_can (I : Nat → Nat → Int32) (J : Nat → Nat → Int64) (pl st : Bool)  (x1 : Int32) : fX11_can [.ref 0, .int x1] (cH I J pl st) = (callK (fX11_strictNow [.ref 0] (cH I J pl st)) (fun r h' => run mX11_can (4, 0, 0, [.ref 0, .int x1], r.toList ++ [], h'))) := by
  cases pl
  all_goals exact (mth_eq (M := mX11_can) (n := 2) rfl).trans ((exK_eq mX11_can [4] 21 _).symm.trans rfl)
set_option maxRecDepth 100000 in
theorem bX11_can_4 (I : Nat → Nat → Int32) (J : Nat → Nat → Int64) (pl st : Bool)  (x1 : Int32) : run mX11_can (4, 0, 0, [.ref 0, .int x1], [.ref 76], (cH I J pl st)) = (callK (fX7_holds [.ref 76, .int x1] (cH I J pl st)) (fun r h' => run mX11_can (8, 0, 0, [.ref 0, .int x1], r.toList ++ [], h'))) := by
  cases pl
  all_goals exact (exK_eq mX11_can [4, 8] 21 _).symm.trans rfl
set_option maxRecDepth 100000 in
theorem bX11_can_8 (I : Nat → Nat → Int32) (J : Nat → Nat → Int64) (pl st : Bool)  (s0 : Int32) (x1 : Int32) : run mX11_can (8, 0, 0, [.ref 0, .int x1], [.int s0], (cH I J pl st)) = (if s0 = (nI 0) then (callK (fX11_readingsNow [.ref 0] (cH I J pl st)) (fun r h' => run mX11_can (17, 0, 0, [.ref 0, .int x1], r.toList ++ [], h'))) else some (some (.int (nI 2)), (cH I J pl st))) := by
  cases pl
  all_goals exact (exK_eq mX11_can [4, 8, 17] 21 _).symm.trans rfl
set_option maxRecDepth 100000 in
theorem bX11_can_17 (I : Nat → Nat → Int32) (J : Nat → Nat → Int64) (pl st : Bool)  (x1 : Int32) (z0 : Value) : run mX11_can (17, 0, 0, [z0, .int x1], [.ref 74], (cH I J pl st)) = (callK (fX7_holds [.ref 74, .int x1] (cH I J pl st)) (fun r h' => run mX11_can (21, 0, 0, [.null, .int x1], r.toList ++ [], h'))) := by
  cases pl
  all_goals exact (exK_eq mX11_can [4, 8, 17, 21] 21 _).symm.trans rfl
set_option maxRecDepth 100000 in
theorem bX11_can_21 (I : Nat → Nat → Int32) (J : Nat → Nat → Int64) (pl st : Bool)  (s0 : Int32) (z0 : Value) (z1 : Value) : run mX11_can (21, 0, 0, [z0, z1], [.int s0], (cH I J pl st)) = (if s0 = (nI 0) then some (some (.int (nI 0)), (cH I J pl st)) else some (some (.int (nI 1)), (cH I J pl st))) := by
  cases pl
  all_goals exact (exK_eq mX11_can [4, 8, 17, 21] 21 _).symm.trans rfl
set_option maxRecDepth 100000 in
theorem eX11_fence (I : Nat → Nat → Int32) (J : Nat → Nat → Int64) (pl st : Bool)  (x1 : Int32) (x2 : Int32) : fX11_fence [.ref 0, .int x1, .int x2] (cH I J pl st) = (callK (fX6_hasGap [.ref (plP pl), .int x1] (cH I J pl st)) (fun r h' => run mX11_fence (8, 0, 0, [.ref 0, .int x1, .int x2], r.toList ++ [], h'))) := by
  cases pl
  all_goals exact (mth_eq (M := mX11_fence) (n := 3) rfl).trans ((exK_eq mX11_fence [8] 29 _).symm.trans rfl)
set_option maxRecDepth 100000 in
theorem bX11_fence_8 (I : Nat → Nat → Int32) (J : Nat → Nat → Int64) (pl st : Bool)  (s0 : Int32) (x1 : Int32) (x2 : Int32) : run mX11_fence (8, 0, 0, [.ref 0, .int x1, .int x2], [.int s0], (cH I J pl st)) = (if s0 = (nI 0) then some (some (.int (-1000000001)), (cH I J pl st)) else (callK (fX1_add [.ref 17, .ref 15] (cH I J pl st)) (fun r h' => run mX11_fence (25, 0, 0, [.ref 0, .int x1, .int x2], r.toList ++ [], h')))) := by
  cases pl
  all_goals exact (exK_eq mX11_fence [8, 25] 29 _).symm.trans rfl
set_option maxRecDepth 100000 in
theorem bX11_fence_25 (I : Nat → Nat → Int32) (J : Nat → Nat → Int64) (pl st : Bool)  (x1 : Int32) (x2 : Int32) : run mX11_fence (25, 0, 0, [.ref 0, .int x1, .int x2], [], (cH I J pl st)) = (callK (fX9_setFence [.ref 15, .int x1, .int x2] (cH I J pl st)) (fun r h' => run mX11_fence (34, 0, 0, [.ref 0, .int x1, .int x2], r.toList ++ [], h'))) := by
  cases pl
  all_goals exact (exK_eq mX11_fence [8, 25, 34] 29 _).symm.trans rfl
set_option maxRecDepth 100000 in
theorem bX11_fence_34 (I : Nat → Nat → Int32) (J : Nat → Nat → Int64) (pl st : Bool)  (z1 : Value) (z2 : Value) : run mX11_fence (34, 0, 0, [.ref 0, z1, z2], [], (cH I J pl st)) = (callK (fX9_costOfSet [.ref 15, .int (I 15 1)] (cH I J pl st)) (fun r h' => run mX11_fence (48, 0, 0, [.ref 0, .null, .null], r.toList ++ [], h'))) := by
  cases pl
  all_goals exact (exK_eq mX11_fence [8, 25, 34, 48] 29 _).symm.trans rfl
set_option maxRecDepth 100000 in
theorem bX11_fence_48 (I : Nat → Nat → Int32) (J : Nat → Nat → Int64) (pl st : Bool)  (s0 : Int32) (z0 : Value) (z1 : Value) (z2 : Value) : run mX11_fence (48, 0, 0, [z0, z1, z2], [.int s0], (cH I J pl st)) = some (some (.int s0), (cH I J pl st)) := by
  cases pl
  all_goals exact (exK_eq mX11_fence [8, 25, 34, 48] 29 _).symm.trans rfl
set_option maxRecDepth 100000 in
theorem eX11_cost (I : Nat → Nat → Int32) (J : Nat → Nat → Int64) (pl st : Bool)  (x1 : Int32) (x2 : Int32) : fX11_cost [.ref 0, .int x1, .int x2] (cH I J pl st) = (callK (fX6_hasGap [.ref (plP pl), .int x1] (cH I J pl st)) (fun r h' => run mX11_cost (8, 0, 0, [.ref 0, .int x1, .int x2, .null], r.toList ++ [], h'))) := by
  cases pl
  all_goals exact (mth_eq (M := mX11_cost) (n := 4) rfl).trans ((exK_eq mX11_cost [8] 37 _).symm.trans rfl)
set_option maxRecDepth 100000 in
theorem bX11_cost_8 (I : Nat → Nat → Int32) (J : Nat → Nat → Int64) (pl st : Bool)  (s0 : Int32) (x1 : Int32) (x2 : Int32) (z3 : Value) : run mX11_cost (8, 0, 0, [.ref 0, .int x1, .int x2, z3], [.int s0], (cH I J pl st)) = (if s0 = (nI 0) then some (some (.int (-1000000001)), (cH I J pl st)) else (if x2 < (nI 1) then some (some (.int (-1000000002)), (cH I J pl st)) else (if x2 ≤ (nI 9) then (callK (fX9_costOf [.ref 15, .int x1] (cH I J pl st)) (fun r h' => run mX11_cost (36, 0, 0, [.ref 0, .int x1, .int x2, .null], r.toList ++ [], h'))) else some (some (.int (-1000000002)), (cH I J pl st))))) := by
  cases pl
  all_goals exact (exK_eq mX11_cost [8, 36] 37 _).symm.trans rfl
set_option maxRecDepth 100000 in
theorem bX11_cost_36 (I : Nat → Nat → Int32) (J : Nat → Nat → Int64) (pl st : Bool)  (s0 : Int32) (x1 : Int32) (x2 : Int32) (z3 : Value) : run mX11_cost (36, 0, 0, [.ref 0, .int x1, .int x2, z3], [.int s0], (cH I J pl st)) = (callK (fX1_add [.ref 17, .ref 15] (cH I J pl st)) (fun r h' => run mX11_cost (48, 0, 0, [.ref 0, .int x1, .int x2, .int s0], r.toList ++ [], h'))) := by
  cases pl
  all_goals exact (exK_eq mX11_cost [8, 36, 48] 37 _).symm.trans rfl
set_option maxRecDepth 100000 in
theorem bX11_cost_48 (I : Nat → Nat → Int32) (J : Nat → Nat → Int64) (pl st : Bool)  (x1 : Int32) (x2 : Int32) (x3 : Int32) : run mX11_cost (48, 0, 0, [.ref 0, .int x1, .int x2, .int x3], [], (cH I J pl st)) = (callK (fX9_setCost [.ref 15, .int x1, .int x2] (cH I J pl st)) (fun r h' => run mX11_cost (57, 0, 0, [.ref 0, .int x1, .int x2, .int x3], r.toList ++ [], h'))) := by
  cases pl
  all_goals exact (exK_eq mX11_cost [8, 36, 48, 57] 37 _).symm.trans rfl
set_option maxRecDepth 100000 in
theorem bX11_cost_57 (I : Nat → Nat → Int32) (J : Nat → Nat → Int64) (pl st : Bool)  (x3 : Int32) (z0 : Value) (z1 : Value) (z2 : Value) : run mX11_cost (57, 0, 0, [z0, z1, z2, .int x3], [], (cH I J pl st)) = some (some (.int x3), (cH I J pl st)) := by
  cases pl
  all_goals exact (exK_eq mX11_cost [8, 36, 48, 57] 37 _).symm.trans rfl
set_option maxRecDepth 100000 in
theorem eX11_overtaking (I : Nat → Nat → Int32) (J : Nat → Nat → Int64) (pl st : Bool)  (x1 : Int32) : fX11_overtaking [.ref 0, .int x1] (cH I J pl st) = (if x1 < (nI 0) then some (some (.int (-1000000002)), (cH I J pl st)) else (if x1 ≤ (nI 15) then (callK (fX1_add [.ref 17, .ref 15] (cH I J pl st)) (fun r h' => run mX11_overtaking (24, 0, 0, [.ref 0, .int x1], r.toList ++ [], h'))) else some (some (.int (-1000000002)), (cH I J pl st)))) := by
  cases pl
  all_goals exact (mth_eq (M := mX11_overtaking) (n := 2) rfl).trans ((exK_eq mX11_overtaking [24] 25 _).symm.trans rfl)
set_option maxRecDepth 100000 in
theorem bX11_overtaking_24 (I : Nat → Nat → Int32) (J : Nat → Nat → Int64) (pl st : Bool)  (x1 : Int32) : run mX11_overtaking (24, 0, 0, [.ref 0, .int x1], [], (cH I J pl st)) = (callK (fX11_readingsNow [.ref 0] (cH (up2 I 15 2 x1) J pl st)) (fun r h' => run mX11_overtaking (36, 0, 0, [.ref 0, .int x1], r.toList ++ [], h'))) := by
  cases pl
  all_goals exact (exK_eq mX11_overtaking [24, 36] 25 _).symm.trans rfl
set_option maxRecDepth 100000 in
theorem bX11_overtaking_36 (I : Nat → Nat → Int32) (J : Nat → Nat → Int64) (pl st : Bool)  (z0 : Value) (z1 : Value) : run mX11_overtaking (36, 0, 0, [z0, z1], [.ref 74], (cH I J pl st)) = some (some (.int (I 74 1)), (cH I J pl st)) := by
  cases pl
  all_goals exact (exK_eq mX11_overtaking [24, 36] 25 _).symm.trans rfl
set_option maxRecDepth 100000 in
theorem eX11_best (I : Nat → Nat → Int32) (J : Nat → Nat → Int64) (pl st : Bool)   : fX11_best [.ref 0] (cH I J pl st) = (callK (fX11_bestSet [.ref 0] (cH I J pl st)) (fun r h' => run mX11_best (4, 0, 0, [.ref 0, .null], r.toList ++ [], h'))) := by
  cases pl
  all_goals exact (mth_eq (M := mX11_best) (n := 2) rfl).trans ((exK_eq mX11_best [4] 22 _).symm.trans rfl)
set_option maxRecDepth 100000 in
theorem bX11_best_4 (I : Nat → Nat → Int32) (J : Nat → Nat → Int64) (pl st : Bool)  (s0 : Int32) (z1 : Value) : run mX11_best (4, 0, 0, [.ref 0, z1], [.int s0], (cH I J pl st)) = (callK (fX1_add [.ref 17, .ref 15] (cH I J pl st)) (fun r h' => run mX11_best (16, 0, 0, [.ref 0, .int s0], r.toList ++ [], h'))) := by
  cases pl
  all_goals exact (exK_eq mX11_best [4, 16] 22 _).symm.trans rfl
set_option maxRecDepth 100000 in
theorem bX11_best_16 (I : Nat → Nat → Int32) (J : Nat → Nat → Int64) (pl st : Bool)  (x1 : Int32) : run mX11_best (16, 0, 0, [.ref 0, .int x1], [], (cH I J pl st)) = (callK (fX9_costOfSet [.ref 15, .int x1] (cH (up2 I 15 1 x1) J pl st)) (fun r h' => run mX11_best (32, 0, 0, [.ref 0, .int x1], r.toList ++ [], h'))) := by
  cases pl
  all_goals exact (exK_eq mX11_best [4, 16, 32] 22 _).symm.trans rfl
set_option maxRecDepth 100000 in
theorem bX11_best_32 (I : Nat → Nat → Int32) (J : Nat → Nat → Int64) (pl st : Bool)  (s0 : Int32) (z0 : Value) (z1 : Value) : run mX11_best (32, 0, 0, [z0, z1], [.int s0], (cH I J pl st)) = some (some (.int s0), (cH I J pl st)) := by
  cases pl
  all_goals exact (exK_eq mX11_best [4, 16, 32] 22 _).symm.trans rfl
set_option maxRecDepth 100000 in
theorem eX11_draw (I : Nat → Nat → Int32) (J : Nat → Nat → Int64) (pl st : Bool)  (x1 : Int32) : fX11_draw [.ref 0, .int x1] (cH I J pl st) = (if x1 ≤ (nI 0) then some (some (.int (nI 0)), (cH (up2 I 0 17 (Int64.toInt32 ((((Int32.toInt64 (I 0 17)) * (1103515245)) + (12345)) &&& (2147483647)))) J pl st)) else (if x1 = (0) then none else some (some (.int (((Int32.toUInt32 (Int64.toInt32 ((((Int32.toInt64 (I 0 17)) * (1103515245)) + (12345)) &&& (2147483647))) >>> (Int32.toUInt32 (nI 16) &&& Int32.toUInt32 31)).toInt32) - ((Int32.toUInt32 (Int64.toInt32 ((((Int32.toInt64 (I 0 17)) * (1103515245)) + (12345)) &&& (2147483647))) >>> (Int32.toUInt32 (nI 16) &&& Int32.toUInt32 31)).toInt32) / x1 * x1)), (cH (up2 I 0 17 (Int64.toInt32 ((((Int32.toInt64 (I 0 17)) * (1103515245)) + (12345)) &&& (2147483647)))) J pl st)))) := by
  cases pl
  all_goals exact (mth_eq (M := mX11_draw) (n := 2) rfl).trans ((exK_eq mX11_draw [] 28 _).symm.trans rfl)
end
section
set_option maxRecDepth 100000 in
theorem eX11_driftOnce (I : Nat → Nat → Int32) (J : Nat → Nat → Int64) (pl st : Bool)   : fX11_driftOnce [.ref 0] (cH I J pl st) = (callK (fX11_draw [.ref 0, .int (nI 4)] (cH I J pl st)) (fun r h' => run mX11_driftOnce (5, 0, 0, [.ref 0, .null, .null, .null, .null], r.toList ++ [], h'))) := by
  cases pl
  all_goals exact (mth_eq (M := mX11_driftOnce) (n := 5) rfl).trans ((exK_eq mX11_driftOnce [5] 66 _).symm.trans rfl)
set_option maxRecDepth 100000 in
theorem bX11_driftOnce_5 (I : Nat → Nat → Int32) (J : Nat → Nat → Int64) (pl st : Bool)  (s0 : Int32) (z1 : Value) (z2 : Value) (z3 : Value) (z4 : Value) : run mX11_driftOnce (5, 0, 0, [.ref 0, z1, z2, z3, z4], [.int s0], (cH I J pl st)) = (callK (fX11_draw [.ref 0, .int (I (plP pl) 3)] (cH I J pl st)) (fun r h' => run mX11_driftOnce (17, 0, 0, [.ref 0, .int s0, .null, .null, .null], r.toList ++ [], h'))) := by
  cases pl
  all_goals exact (exK_eq mX11_driftOnce [5, 17] 66 _).symm.trans rfl
set_option maxRecDepth 100000 in
theorem bX11_driftOnce_17 (I : Nat → Nat → Int32) (J : Nat → Nat → Int64) (pl st : Bool)  (s0 : Int32) (x1 : Int32) (z2 : Value) (z3 : Value) (z4 : Value) : run mX11_driftOnce (17, 0, 0, [.ref 0, .int x1, z2, z3, z4], [.int s0], (cH I J pl st)) = (callK (fX11_draw [.ref 0, .int (nI 9)] (cH I J pl st)) (fun r h' => run mX11_driftOnce (24, 0, 0, [.ref 0, .int x1, .int s0, .null, .null], r.toList ++ [], h'))) := by
  cases pl
  all_goals exact (exK_eq mX11_driftOnce [5, 17, 24] 66 _).symm.trans rfl
set_option maxRecDepth 100000 in
theorem bX11_driftOnce_24 (I : Nat → Nat → Int32) (J : Nat → Nat → Int64) (pl st : Bool)  (s0 : Int32) (x1 : Int32) (x2 : Int32) (z3 : Value) (z4 : Value) : run mX11_driftOnce (24, 0, 0, [.ref 0, .int x1, .int x2, z3, z4], [.int s0], (cH I J pl st)) = (callK (fX11_draw [.ref 0, .int (nI 16)] (cH I J pl st)) (fun r h' => run mX11_driftOnce (31, 0, 0, [.ref 0, .int x1, .int x2, .int s0, .null], r.toList ++ [], h'))) := by
  cases pl
  all_goals exact (exK_eq mX11_driftOnce [5, 17, 24, 31] 66 _).symm.trans rfl
set_option maxRecDepth 100000 in
theorem bX11_driftOnce_31 (I : Nat → Nat → Int32) (J : Nat → Nat → Int64) (pl st : Bool)  (s0 : Int32) (x1 : Int32) (x2 : Int32) (x3 : Int32) (z4 : Value) : run mX11_driftOnce (31, 0, 0, [.ref 0, .int x1, .int x2, .int x3, z4], [.int s0], (cH I J pl st)) = (callK (fX1_add [.ref 17, .ref 15] (cH I J pl st)) (fun r h' => run mX11_driftOnce (44, 0, 0, [.ref 0, .int x1, .int x2, .int x3, .int s0], r.toList ++ [], h'))) := by
  cases pl
  all_goals exact (exK_eq mX11_driftOnce [5, 17, 24, 31, 44] 66 _).symm.trans rfl
set_option maxRecDepth 100000 in
theorem bX11_driftOnce_44 (I : Nat → Nat → Int32) (J : Nat → Nat → Int64) (pl st : Bool)  (x1 : Int32) (x2 : Int32) (x3 : Int32) (x4 : Int32) : run mX11_driftOnce (44, 0, 0, [.ref 0, .int x1, .int x2, .int x3, .int x4], [], (cH I J pl st)) = (if x1 = (nI 3) then some (none, (cH (up2 I 15 2 x4) J pl st)) else (callK (fX6_hasGap [.ref (plP pl), .int x2] (cH I J pl st)) (fun r h' => run mX11_driftOnce (69, 0, 0, [.ref 0, .int x1, .int x2, .int x3, .int x4], r.toList ++ [], h')))) := by
  cases pl
  all_goals exact (exK_eq mX11_driftOnce [5, 17, 24, 31, 44, 69] 66 _).symm.trans rfl
set_option maxRecDepth 100000 in
theorem bX11_driftOnce_69 (I : Nat → Nat → Int32) (J : Nat → Nat → Int64) (pl st : Bool)  (s0 : Int32) (x1 : Int32) (x2 : Int32) (x3 : Int32) (z4 : Value) : run mX11_driftOnce (69, 0, 0, [.ref 0, .int x1, .int x2, .int x3, z4], [.int s0], (cH I J pl st)) = (if s0 = (nI 0) then some (none, (cH I J pl st)) else (if x1 = (nI 2) then (callK (fX9_setCost [.ref 15, .int x2, .int (x3 + (nI 1))] (cH I J pl st)) (fun r h' => run mX11_driftOnce (88, 0, 0, [.ref 0, .int x1, .int x2, .int x3, .null], r.toList ++ [], h'))) else (callK (fX11_has [.int (I 15 1), .int x2] (cH I J pl st)) (fun r h' => run mX11_driftOnce (107, 0, 0, [.ref 0, .int x1, .int x2, .int x3, .null], r.toList ++ [.int x2, .ref 15], h'))))) := by
  cases pl
  all_goals exact (exK_eq mX11_driftOnce [5, 17, 24, 31, 44, 69, 88, 107] 66 _).symm.trans rfl
set_option maxRecDepth 100000 in
theorem bX11_driftOnce_88 (I : Nat → Nat → Int32) (J : Nat → Nat → Int64) (pl st : Bool)  (z0 : Value) (z1 : Value) (z2 : Value) (z3 : Value) (z4 : Value) : run mX11_driftOnce (88, 0, 0, [z0, z1, z2, z3, z4], [], (cH I J pl st)) = some (none, (cH I J pl st)) := by
  cases pl
  all_goals exact (exK_eq mX11_driftOnce [5, 17, 24, 31, 44, 69, 88, 107] 66 _).symm.trans rfl
set_option maxRecDepth 100000 in
theorem bX11_driftOnce_107 (I : Nat → Nat → Int32) (J : Nat → Nat → Int64) (pl st : Bool)  (s1 : Int32) (s2 : Int32) (z0 : Value) (z1 : Value) (z2 : Value) (z3 : Value) (z4 : Value) : run mX11_driftOnce (107, 0, 0, [z0, z1, z2, z3, z4], [.int s2, .int s1, .ref 15], (cH I J pl st)) = (if s2 = (nI 0) then (callK (fX9_setFence [.ref 15, .int s1, .int (nI 1)] (cH I J pl st)) (fun r h' => run mX11_driftOnce (118, 0, 0, [.null, .null, .null, .null, .null], r.toList ++ [], h'))) else (callK (fX9_setFence [.ref 15, .int s1, .int (nI 0)] (cH I J pl st)) (fun r h' => run mX11_driftOnce (118, 0, 0, [.null, .null, .null, .null, .null], r.toList ++ [], h')))) := by
  cases pl
  all_goals exact (exK_eq mX11_driftOnce [5, 17, 24, 31, 44, 69, 88, 107, 118] 66 _).symm.trans rfl
set_option maxRecDepth 100000 in
theorem bX11_driftOnce_118 (I : Nat → Nat → Int32) (J : Nat → Nat → Int64) (pl st : Bool)  (z0 : Value) (z1 : Value) (z2 : Value) (z3 : Value) (z4 : Value) : run mX11_driftOnce (118, 0, 0, [z0, z1, z2, z3, z4], [], (cH I J pl st)) = some (none, (cH I J pl st)) := by
  cases pl
  all_goals exact (exK_eq mX11_driftOnce [5, 17, 24, 31, 44, 69, 88, 107, 118] 66 _).symm.trans rfl
set_option maxRecDepth 100000 in
theorem eX11_drift (I : Nat → Nat → Int32) (J : Nat → Nat → Int64) (pl st : Bool)  (x1 : Int32) : fX11_drift [.ref 0, .int x1] (cH I J pl st) = (if x1 < (nI 1) then some (some (.int (-1000000002)), (cH I J pl st)) else (if x1 ≤ (nI 20) then (if (I (plP pl) 3) ≤ (nI 0) then some (some (.int (I 15 1)), (cH I J pl st)) else run mX11_drift (26, 0, 0, [.ref 0, .int x1, .int (nI 0)], [], (cH I J pl st))) else some (some (.int (-1000000002)), (cH I J pl st)))) := by
  cases pl
  all_goals exact (mth_eq (M := mX11_drift) (n := 3) rfl).trans ((exK_eq mX11_drift [26] 30 _).symm.trans rfl)
set_option maxRecDepth 100000 in
theorem bX11_drift_26 (I : Nat → Nat → Int32) (J : Nat → Nat → Int64) (pl st : Bool)  (x1 : Int32) (x2 : Int32) : run mX11_drift (26, 0, 0, [.ref 0, .int x1, .int x2], [], (cH I J pl st)) = (if x1 ≤ x2 then some (some (.int (I 15 1)), (cH I J pl st)) else (callK (fX11_driftOnce [.ref 0] (cH I J pl st)) (fun r h' => run mX11_drift (35, 0, 0, [.ref 0, .int x1, .int x2], r.toList ++ [], h')))) := by
  cases pl
  all_goals exact (exK_eq mX11_drift [26, 35] 30 _).symm.trans rfl
set_option maxRecDepth 100000 in
theorem bX11_drift_35 (I : Nat → Nat → Int32) (J : Nat → Nat → Int64) (pl st : Bool)  (x1 : Int32) (x2 : Int32) : run mX11_drift (35, 0, 0, [.ref 0, .int x1, .int x2], [], (cH I J pl st)) = run mX11_drift (26, 0, 0, [.ref 0, .int x1, .int (x2 + (nI 1))], [], (cH I J pl st)) := by
  cases pl
  all_goals exact (exK_eq mX11_drift [26, 35] 30 _).symm.trans rfl
set_option maxRecDepth 100000 in
theorem eX11_undo (I : Nat → Nat → Int32) (J : Nat → Nat → Int64) (pl st : Bool)  (x1 : Int32) : fX11_undo [.ref 0, .int x1] (cH I J pl st) = (if x1 < (nI 1) then some (some (.int (-1000000002)), (cH I J pl st)) else (if x1 ≤ (nI 20) then (if x1 ≤ (I 17 2) then (callK (fX1_takeBack [.ref 17, .int x1, .ref 15] (cH I J pl st)) (fun r h' => run mX11_undo (40, 0, 0, [.ref 0, .int x1], r.toList ++ [], h'))) else some (some (.int (-1000000003)), (cH I J pl st))) else some (some (.int (-1000000002)), (cH I J pl st)))) := by
  cases pl
  all_goals exact (mth_eq (M := mX11_undo) (n := 2) rfl).trans ((exK_eq mX11_undo [40] 30 _).symm.trans rfl)
set_option maxRecDepth 100000 in
theorem bX11_undo_40 (I : Nat → Nat → Int32) (J : Nat → Nat → Int64) (pl st : Bool)  (z1 : Value) : run mX11_undo (40, 0, 0, [.ref 0, z1], [], (cH I J pl st)) = some (some (.int (I 17 2)), (cH I J pl st)) := by
  cases pl
  all_goals exact (exK_eq mX11_undo [40] 30 _).symm.trans rfl
set_option maxRecDepth 100000 in
theorem eX11_write (I : Nat → Nat → Int32) (J : Nat → Nat → Int64) (pl st : Bool)  (x1 : Int32) (x2 : Int32) : fX11_write [.ref 0, .int x1, .int x2] (cH I J pl st) = (if x1 < (nI 0) then some (some (.int (-1000000002)), (cH I J pl st)) else (if x1 ≤ (nI 43046720) then (callK (fX0_add [.ref 66, .int x1, .int x2] (cH I J pl st)) (fun r h' => run mX11_write (23, 0, 0, [.ref 0, .int x1, .int x2], r.toList ++ [], h'))) else some (some (.int (-1000000002)), (cH I J pl st)))) := by
  cases pl
  all_goals exact (mth_eq (M := mX11_write) (n := 3) rfl).trans ((exK_eq mX11_write [23] 24 _).symm.trans rfl)
set_option maxRecDepth 100000 in
theorem bX11_write_23 (I : Nat → Nat → Int32) (J : Nat → Nat → Int64) (pl st : Bool)  (s0 : Int32) (z1 : Value) (z2 : Value) : run mX11_write (23, 0, 0, [.ref 0, z1, z2], [.int s0], (cH I J pl st)) = (if s0 = (nI 0) then some (some (.int (-1000000004)), (cH I J pl st)) else some (some (.int (I 66 2)), (cH I J pl st))) := by
  cases pl
  all_goals exact (exK_eq mX11_write [23] 24 _).symm.trans rfl
set_option maxRecDepth 100000 in
theorem eX11_tear (I : Nat → Nat → Int32) (J : Nat → Nat → Int64) (pl st : Bool)   : fX11_tear [.ref 0] (cH I J pl st) = (callK (fX0_clear [.ref 66] (cH I J pl st)) (fun r h' => run mX11_tear (15, 0, 0, [.ref 0, .int (I 66 2)], r.toList ++ [], h'))) := by
  cases pl
  all_goals exact (mth_eq (M := mX11_tear) (n := 2) rfl).trans ((exK_eq mX11_tear [15] 14 _).symm.trans rfl)
set_option maxRecDepth 100000 in
theorem bX11_tear_15 (I : Nat → Nat → Int32) (J : Nat → Nat → Int64) (pl st : Bool)  (x1 : Int32) (z0 : Value) : run mX11_tear (15, 0, 0, [z0, .int x1], [], (cH I J pl st)) = some (some (.int x1), (cH I J pl st)) := by
  cases pl
  all_goals exact (exK_eq mX11_tear [15] 14 _).symm.trans rfl
set_option maxRecDepth 100000 in
theorem eX11_seed (I : Nat → Nat → Int32) (J : Nat → Nat → Int64) (pl st : Bool)  (x1 : Int32) : fX11_seed [.ref 0, .int x1] (cH I J pl st) = (if (nI 0) ≤ x1 then some (some (.int (I 0 17)), (cH (up2 I 0 17 x1) J pl st)) else some (some (.int (-1000000002)), (cH I J pl st))) := by
  cases pl
  all_goals exact (mth_eq (M := mX11_seed) (n := 3) rfl).trans ((exK_eq mX11_seed [] 17 _).symm.trans rfl)
set_option maxRecDepth 100000 in
theorem eX11_keep (I : Nat → Nat → Int32) (J : Nat → Nat → Int64) (pl st : Bool)  (x1 : Int32) : fX11_keep [.ref 0, .int x1] (cH I J pl st) = (if x1 < (nI 0) then some (some (.int (-1000000001)), (cH I J pl st)) else (if x1 < (nI 2) then run mX11_keep (16, 0, 0, [.ref 0, .int x1], [], (cH I J pl st)) else some (some (.int (-1000000001)), (cH I J pl st)))) := by
  cases pl
  all_goals exact (mth_eq (M := mX11_keep) (n := 2) rfl).trans ((exK_eq mX11_keep [16] 30 _).symm.trans rfl)
set_option maxRecDepth 100000 in
theorem bX11_keep_16_v0 (I : Nat → Nat → Int32) (J : Nat → Nat → Int64) (pl st : Bool)   : run mX11_keep (16, 0, 0, [.ref 0, .int 0], [], (cH I J pl st)) = (callK (fX2_hold [.ref 60, .ref 15, .int (I 0 17)] (cH I J pl st)) (fun r h' => run mX11_keep (33, 0, 0, [.ref 0, .int 0], r.toList ++ [], h'))) := by
  cases pl
  all_goals exact (exK_eq mX11_keep [16, 33] 28 _).symm.trans rfl
set_option maxRecDepth 100000 in
theorem bX11_keep_33_v0 (I : Nat → Nat → Int32) (J : Nat → Nat → Int64) (pl st : Bool)  (z1 : Value) : run mX11_keep (33, 0, 0, [.ref 0, z1], [], (cH I J pl st)) = (callK (fX1_clear [.ref 17] (cH I J pl st)) (fun r h' => run mX11_keep (40, 0, 0, [.ref 0, .null], r.toList ++ [], h'))) := by
  cases pl
  all_goals exact (exK_eq mX11_keep [16, 33, 40] 28 _).symm.trans rfl
set_option maxRecDepth 100000 in
theorem bX11_keep_40_v0 (I : Nat → Nat → Int32) (J : Nat → Nat → Int64) (pl st : Bool)  (z0 : Value) (z1 : Value) : run mX11_keep (40, 0, 0, [z0, z1], [], (cH I J pl st)) = some (some (.int (nI 1)), (cH I J pl st)) := by
  cases pl
  all_goals exact (exK_eq mX11_keep [16, 33, 40] 28 _).symm.trans rfl
set_option maxRecDepth 100000 in
theorem bX11_keep_16_v1 (I : Nat → Nat → Int32) (J : Nat → Nat → Int64) (pl st : Bool)   : run mX11_keep (16, 0, 0, [.ref 0, .int 1], [], (cH I J pl st)) = (callK (fX2_hold [.ref 63, .ref 15, .int (I 0 17)] (cH I J pl st)) (fun r h' => run mX11_keep (33, 0, 0, [.ref 0, .int 1], r.toList ++ [], h'))) := by
  cases pl
  all_goals exact (exK_eq mX11_keep [16, 33] 28 _).symm.trans rfl
set_option maxRecDepth 100000 in
theorem bX11_keep_33_v1 (I : Nat → Nat → Int32) (J : Nat → Nat → Int64) (pl st : Bool)  (z1 : Value) : run mX11_keep (33, 0, 0, [.ref 0, z1], [], (cH I J pl st)) = (callK (fX1_clear [.ref 17] (cH I J pl st)) (fun r h' => run mX11_keep (40, 0, 0, [.ref 0, .null], r.toList ++ [], h'))) := by
  cases pl
  all_goals exact (exK_eq mX11_keep [16, 33, 40] 28 _).symm.trans rfl
set_option maxRecDepth 100000 in
theorem bX11_keep_40_v1 (I : Nat → Nat → Int32) (J : Nat → Nat → Int64) (pl st : Bool)  (z0 : Value) (z1 : Value) : run mX11_keep (40, 0, 0, [z0, z1], [], (cH I J pl st)) = some (some (.int (nI 1)), (cH I J pl st)) := by
  cases pl
  all_goals exact (exK_eq mX11_keep [16, 33, 40] 28 _).symm.trans rfl
set_option maxRecDepth 100000 in
theorem eX11_goBack (I : Nat → Nat → Int32) (J : Nat → Nat → Int64) (pl st : Bool)  (x1 : Int32) : fX11_goBack [.ref 0, .int x1] (cH I J pl st) = (if x1 < (nI 0) then some (some (.int (-1000000001)), (cH I J pl st)) else (if x1 < (nI 2) then run mX11_goBack (16, 0, 0, [.ref 0, .int x1, .null], [], (cH I J pl st)) else some (some (.int (-1000000001)), (cH I J pl st)))) := by
  cases pl
  all_goals exact (mth_eq (M := mX11_goBack) (n := 3) rfl).trans ((exK_eq mX11_goBack [16] 30 _).symm.trans rfl)
set_option maxRecDepth 100000 in
theorem bX11_goBack_16_v0 (I : Nat → Nat → Int32) (J : Nat → Nat → Int64) (pl st : Bool)  (z2 : Value) : run mX11_goBack (16, 0, 0, [.ref 0, .int 0, z2], [], (cH I J pl st)) = (if (I 60 2) = (nI 0) then some (some (.int (-1000000003)), (cH I J pl st)) else (callK (fX9_copy [.ref 15, .ref 61] (cH I J pl st)) (fun r h' => run mX11_goBack (44, 0, 0, [.ref 0, .int 0, .ref 60], r.toList ++ [], h')))) := by
  cases pl
  all_goals exact (exK_eq mX11_goBack [16, 44] 38 _).symm.trans rfl
set_option maxRecDepth 100000 in
theorem bX11_goBack_44_v0 (I : Nat → Nat → Int32) (J : Nat → Nat → Int64) (pl st : Bool)  (z1 : Value) : run mX11_goBack (44, 0, 0, [.ref 0, z1, .ref 60], [], (cH I J pl st)) = (callK (fX1_clear [.ref 17] (cH (up2 I 0 17 (I 60 1)) J pl st)) (fun r h' => run mX11_goBack (59, 0, 0, [.ref 0, .null, .ref 60], r.toList ++ [], h'))) := by
  cases pl
  all_goals exact (exK_eq mX11_goBack [16, 44, 59] 38 _).symm.trans rfl
set_option maxRecDepth 100000 in
theorem bX11_goBack_59_v0 (I : Nat → Nat → Int32) (J : Nat → Nat → Int64) (pl st : Bool)  (z0 : Value) (z1 : Value) (z2 : Value) : run mX11_goBack (59, 0, 0, [z0, z1, z2], [], (cH I J pl st)) = some (some (.int (nI 1)), (cH I J pl st)) := by
  cases pl
  all_goals exact (exK_eq mX11_goBack [16, 44, 59] 38 _).symm.trans rfl
set_option maxRecDepth 100000 in
theorem bX11_goBack_16_v1 (I : Nat → Nat → Int32) (J : Nat → Nat → Int64) (pl st : Bool)  (z2 : Value) : run mX11_goBack (16, 0, 0, [.ref 0, .int 1, z2], [], (cH I J pl st)) = (if (I 63 2) = (nI 0) then some (some (.int (-1000000003)), (cH I J pl st)) else (callK (fX9_copy [.ref 15, .ref 64] (cH I J pl st)) (fun r h' => run mX11_goBack (44, 0, 0, [.ref 0, .int 1, .ref 63], r.toList ++ [], h')))) := by
  cases pl
  all_goals exact (exK_eq mX11_goBack [16, 44] 38 _).symm.trans rfl
set_option maxRecDepth 100000 in
theorem bX11_goBack_44_v1 (I : Nat → Nat → Int32) (J : Nat → Nat → Int64) (pl st : Bool)  (z1 : Value) : run mX11_goBack (44, 0, 0, [.ref 0, z1, .ref 63], [], (cH I J pl st)) = (callK (fX1_clear [.ref 17] (cH (up2 I 0 17 (I 63 1)) J pl st)) (fun r h' => run mX11_goBack (59, 0, 0, [.ref 0, .null, .ref 63], r.toList ++ [], h'))) := by
  cases pl
  all_goals exact (exK_eq mX11_goBack [16, 44, 59] 38 _).symm.trans rfl
set_option maxRecDepth 100000 in
theorem bX11_goBack_59_v1 (I : Nat → Nat → Int32) (J : Nat → Nat → Int64) (pl st : Bool)  (z0 : Value) (z1 : Value) (z2 : Value) : run mX11_goBack (59, 0, 0, [z0, z1, z2], [], (cH I J pl st)) = some (some (.int (nI 1)), (cH I J pl st)) := by
  cases pl
  all_goals exact (exK_eq mX11_goBack [16, 44, 59] 38 _).symm.trans rfl
end
section
/-! plain facts on numbers and arrays, to paste: each family by itself; over the kit's rows on nI and upd -/
/-! ===== order of ints, in all its forms, and through longs ===== -/
theorem fa_lt (a b : Int32) : a < b ↔ a.toInt < b.toInt := Int32.lt_iff_toInt_lt
theorem fa_le (a b : Int32) : a ≤ b ↔ a.toInt ≤ b.toInt := Int32.le_iff_toInt_le
theorem fa_eq (a b : Int32) : a = b ↔ a.toInt = b.toInt := Int32.toInt_inj.symm
theorem fa_lt64 (a b : Int64) : a < b ↔ a.toInt < b.toInt := Int64.lt_iff_toInt_lt
theorem fa_le64 (a b : Int64) : a ≤ b ↔ a.toInt ≤ b.toInt := Int64.le_iff_toInt_le
theorem fa_eq64 (a b : Int64) : a = b ↔ a.toInt = b.toInt := Int64.toInt_inj.symm
/-- a comparison of two ints taken as longs -/
theorem fa_wide_lt (a b : Int32) : a.toInt64 < b.toInt64 ↔ a < b := by rw [fa_lt64, fa_lt, Int32.toInt_toInt64, Int32.toInt_toInt64]
theorem fa_wide_le (a b : Int32) : a.toInt64 ≤ b.toInt64 ↔ a ≤ b := by rw [fa_le64, fa_le, Int32.toInt_toInt64, Int32.toInt_toInt64]
theorem fa_wide_eq (a b : Int32) : a.toInt64 = b.toInt64 ↔ a = b := by rw [fa_eq64, fa_eq, Int32.toInt_toInt64, Int32.toInt_toInt64]
/-- one strict comparison gives all the others -/
theorem fa_of_lt {a b : Int32} (h : a < b) : a ≤ b ∧ ¬ b ≤ a ∧ ¬ b < a ∧ a ≠ b ∧ b ≠ a := by
  rw [fa_lt] at h
  refine ⟨?_, ?_, ?_, ?_, ?_⟩
  · rw [fa_le]; omega
  · rw [fa_le]; omega
  · rw [fa_lt]; omega
  · intro e; rw [fa_eq] at e; omega
  · intro e; rw [fa_eq] at e; omega
theorem fa_of_nlt {a b : Int32} (h : ¬ a < b) : b ≤ a := by
  rw [fa_lt] at h
  rw [fa_le]
  omega
theorem fa_of_nle {a b : Int32} (h : ¬ a ≤ b) : b < a := by
  rw [fa_le] at h
  rw [fa_lt]
  omega
theorem fa_le_ne {a b : Int32} (h : a ≤ b) (h2 : a ≠ b) : a < b := by
  rw [fa_le] at h
  rw [fa_lt]
  have h3 : a.toInt ≠ b.toInt := fun e => h2 ((fa_eq a b).mpr e)
  omega
theorem fa_three (a b : Int32) : a < b ∨ a = b ∨ b < a := by
  rw [fa_lt, fa_lt, fa_eq]
  omega
theorem fa_trans {a b c : Int32} (h : a < b) (h2 : b ≤ c) : a < c := by
  rw [fa_lt] at *
  rw [fa_le] at h2
  omega
/-! ===== small literals as numbers ===== -/
theorem fa_lit (n : Nat) : (OfNat.ofNat n : Int32) = nI n := rfl
theorem fa_litL (n : Nat) : (OfNat.ofNat n : Int64) = lN n := rfl
/-! ===== bits of a number: 'or', masks, one bit ===== -/
theorem fa_and (a b : Nat) : nI a &&& nI b = nI (a &&& b) := by
  apply Int32.toBitVec_inj.1
  show BitVec.ofNat 32 a &&& BitVec.ofNat 32 b = BitVec.ofNat 32 (a &&& b)
  apply BitVec.eq_of_getLsbD_eq
  intro i hi
  simp [hi]
theorem fa_or (a b : Nat) : nI a ||| nI b = nI (a ||| b) := by
  apply Int32.toBitVec_inj.1
  show BitVec.ofNat 32 a ||| BitVec.ofNat 32 b = BitVec.ofNat 32 (a ||| b)
  apply BitVec.eq_of_getLsbD_eq
  intro i hi
  simp [hi]
/-- a remainder by a power of two, as a mask -/
theorem fa_mask (n k : Nat) : nI n &&& nI (2 ^ k - 1) = nI (n % 2 ^ k) := by rw [fa_and, Nat.and_two_pow_sub_one_eq_mod]
/-- 'or' of a high part and a low one that don't meet is their sum -/
theorem fa_or_sum {a k : Nat} (b : Nat) (h : a < 2 ^ k) : nI (2 ^ k * b) ||| nI a = nI (2 ^ k * b + a) := by rw [fa_or, Nat.two_pow_add_eq_or_of_lt h]
/-- one bit, by 'and' with a power of two -/
theorem fa_bit {n j : Nat} (hj : j < 31) : nI n &&& nI (2 ^ j) = 0 ↔ n.testBit j = false := by
  have h2 : (2 : Nat) ^ j < 2 ^ 31 := Nat.pow_lt_pow_right (by decide) hj
  have hle : n &&& 2 ^ j ≤ 2 ^ j := Nat.and_le_right
  have e : n &&& 2 ^ j = 0 ↔ n.testBit j = false := by
    constructor
    · intro h
      have h1 : (n &&& 2 ^ j).testBit j = false := by rw [h]; simp
      rw [Nat.testBit_and] at h1
      first | simpa using h1 | simpa [Nat.testBit_two_pow_self] using h1 | simpa [Nat.testBit_two_pow] using h1
    · intro h
      apply Nat.eq_of_testBit_eq
      intro i
      rw [Nat.testBit_and]
      by_cases hi : j = i
      · subst hi; simp [h]
      · first | (simp [Nat.testBit_two_pow, hi]; done) | (simp [Nat.testBit_two_pow_of_ne hi]; done)
  rw [fa_and]
  constructor
  · intro h
    apply e.mp
    rcases Nat.eq_zero_or_pos (n &&& 2 ^ j) with z | z
    · exact z
    · exact absurd h (nI_ne0 z (Nat.lt_of_le_of_lt hle h2))
  · intro h
    rw [e.mpr h]; exact nI_0
/-- a remainder by a power of two of a number that isn't negative, as Java divides -/
theorem fa_rem {a k : Nat} (ha : a < 2 ^ 31) (hk : k < 31) : nI a - nI a / nI (2 ^ k) * nI (2 ^ k) = nI (a % 2 ^ k) := pk_rem ha (Nat.two_pow_pos k) (Nat.pow_lt_pow_right (by decide) hk)
/-! ===== an array behind i stores, a conditional store, a row copied ===== -/
/-- f where k < i, what stood there else -/
def fa_fill {α : Type} (f g : Nat → α) (i : Nat) : Nat → α := fun k => if k < i then f k else g k
theorem fa_fill_0 {α : Type} (f g : Nat → α) : fa_fill f g 0 = g := funext fun k => if_neg (Nat.not_lt_zero k)
theorem fa_fill_in {α : Type} {f g : Nat → α} {i k : Nat} (h : k < i) : fa_fill f g i k = f k := if_pos h
theorem fa_fill_out {α : Type} {f g : Nat → α} {i k : Nat} (h : i ≤ k) : fa_fill f g i k = g k := if_neg (Nat.not_lt.mpr h)
theorem fa_fill_succ (f g : Nat → Int32) (i : Nat) : upd (fa_fill f g i) i (f i) = fa_fill f g (i + 1) := by
  funext k
  by_cases e : k = i
  · subst e
    rw [pk_us]
    exact (if_pos (Nat.lt_succ_self k)).symm
  · rw [pk_un e]
    by_cases h : k < i
    · rw [fa_fill_in h, fa_fill_in (Nat.lt_succ_of_lt h)]
    · rw [fa_fill_out (Nat.le_of_not_lt h), fa_fill_out (by omega)]
/-- a store that changes nothing -/
theorem fa_upd_same {f : Nat → Int32} {i : Nat} {x : Int32} (h : f i = x) : upd f i x = f := by
  funext k
  by_cases e : k = i
  · subst e
    rw [pk_us, h]
  · rw [pk_un e]
/-- a store under a condition, told as one -/
theorem fa_upd_if (c : Prop) [Decidable c] (f : Nat → Int32) (i : Nat) (x : Int32) : (if c then upd f i x else f) = upd f i (if c then x else f i) := by
  by_cases h : c
  · rw [if_pos h, if_pos h]
  · rw [if_neg h, if_neg h, fa_upd_same rfl]
/-- two stores at one place, at two -/
theorem fa_upd_twice (f : Nat → Int32) (i : Nat) (x y : Int32) : upd (upd f i x) i y = upd f i y := by
  funext k
  by_cases e : k = i
  · subst e
    rw [pk_us, pk_us]
  · rw [pk_un e, pk_un e, pk_un e]
theorem fa_upd_swap (f : Nat → Int32) {i j : Nat} (h : i ≠ j) (x y : Int32) : upd (upd f i x) j y = upd (upd f j y) i x := by
  funext k
  by_cases e : k = i
  · subst e
    rw [pk_un h, pk_us, pk_us]
  · by_cases e2 : k = j
    · subst e2
      rw [pk_us, pk_un e, pk_us]
    · rw [pk_un e2, pk_un e, pk_un e, pk_un e2]
/-! ===== the first index with a property; a count ===== -/
/-- the first k < n with p k, n if there is none -/
def fa_first (p : Nat → Bool) : Nat → Nat
  | 0 => 0
  | n + 1 => if fa_first p n < n then fa_first p n else if p n then n else n + 1
theorem fa_first_le (p : Nat → Bool) : ∀ n, fa_first p n ≤ n
  | 0 => Nat.le_refl 0
  | n + 1 => by
    have ih := fa_first_le p n
    unfold fa_first
    split
    · omega
    · split
      · omega
      · omega
theorem fa_first_no (p : Nat → Bool) : ∀ n k, k < fa_first p n → p k = false
  | 0, k, h => absurd h (Nat.not_lt_zero k)
  | n + 1, k, h => by
    have ih := fa_first_no p n
    have hl := fa_first_le p n
    unfold fa_first at h
    split at h
    · exact ih k h
    · rename_i h1
      split at h
      · exact ih k (by omega)
      · rename_i h2
        by_cases e : k = n
        · subst e
          exact Bool.eq_false_iff.mpr h2
        · exact ih k (by omega)
theorem fa_first_yes (p : Nat → Bool) : ∀ n, fa_first p n < n → p (fa_first p n) = true
  | 0, h => absurd h (Nat.not_lt_zero _)
  | n + 1, h => by
    have ih := fa_first_yes p n
    have hl := fa_first_le p n
    unfold fa_first at h ⊢
    split at h
    · rename_i h1
      rw [if_pos h1]
      exact ih h1
    · rename_i h1
      rw [if_neg h1]
      split at h
      · rename_i h2
        rw [if_pos h2]
        exact h2
      · omega
/-- how many k < n have p k -/
def fa_cnt (p : Nat → Bool) : Nat → Nat
  | 0 => 0
  | n + 1 => fa_cnt p n + if p n then 1 else 0
theorem fa_cnt_le (p : Nat → Bool) : ∀ n, fa_cnt p n ≤ n
  | 0 => Nat.le_refl 0
  | n + 1 => by
    have ih := fa_cnt_le p n
    unfold fa_cnt
    split
    · omega
    · omega
theorem fa_cnt_yes {p : Nat → Bool} {n : Nat} (h : p n = true) : fa_cnt p (n + 1) = fa_cnt p n + 1 := by rw [fa_cnt, if_pos h]
theorem fa_cnt_no {p : Nat → Bool} {n : Nat} (h : p n = false) : fa_cnt p (n + 1) = fa_cnt p n := by rw [fa_cnt, if_neg (by rw [h]; decide)]; rfl
theorem fa_cnt_cong {p q : Nat → Bool} : ∀ {n : Nat}, (∀ k, k < n → p k = q k) → fa_cnt p n = fa_cnt q n
  | 0, _ => rfl
  | n + 1, h => by rw [fa_cnt, fa_cnt, fa_cnt_cong (fun k hk => h k (Nat.lt_succ_of_lt hk)), h n (Nat.lt_succ_self n)]
/-! ===== an answer carried into a post; a branch on a boolean answer ===== -/
theorem fa_post {α : Type} {P : α → Prop} {x y : α} (h : x = y) (hp : P y) : P x := h ▸ hp
theorem fa_post2 {α β : Type} {P : α → β → Prop} {x y : α} {u v : β} (h : x = y) (h2 : u = v) (hp : P y v) : P x u := h ▸ h2 ▸ hp
theorem fa_bool {r : Int32} {b : Bool} (h : r = if b then 1 else 0) : (r = 0 ↔ b = false) ∧ (¬ r = 0 ↔ b = true) := by
  subst h
  cases b
  · exact ⟨⟨fun _ => rfl, fun _ => rfl⟩, ⟨fun h => absurd rfl h, fun h => absurd h (by decide)⟩⟩
  · exact ⟨⟨fun h => absurd h (by decide), fun h => absurd h (by decide)⟩, ⟨fun _ => rfl, fun _ => by decide⟩⟩
/-- a boolean's narrowing changes nothing -/
theorem fa_bool_and {r : Int32} (h : r = 0 ∨ r = 1) : r &&& 1 = r := by
  rcases h with rfl | rfl
  · decide
  · decide
theorem fa_bool_prop {c : Prop} [Decidable c] {r : Int32} (h : r = if c then 1 else 0) : (r = 0 ↔ ¬ c) ∧ (¬ r = 0 ↔ c) := by
  subst h
  by_cases hc : c
  · rw [if_pos hc]
    exact ⟨⟨fun h => absurd h (by decide), fun h => absurd hc h⟩, ⟨fun _ => hc, fun _ => by decide⟩⟩
  · rw [if_neg hc]
    exact ⟨⟨fun _ => hc, fun _ => rfl⟩, ⟨fun h => absurd rfl h, fun h => absurd h hc⟩⟩
/-! plain facts to paste, each family by itself; over the kit's nI, lN and upd -/
/-! ===== drawers: more things than places ===== -/
theorem fb_holes : ∀ (m n : Nat) (f : Nat → Nat), (∀ i, i < n → f i < m) → (∀ i j, i < j → j < n → f i ≠ f j) → n ≤ m := by
  intro m
  induction m with
  | zero =>
    intro n f h1 _
    rcases Nat.eq_zero_or_pos n with h | h
    · omega
    · exact absurd (h1 0 h) (Nat.not_lt_zero _)
  | succ m ih =>
    intro n f h1 h2
    by_cases hx : ∃ i, i < n ∧ f i = m
    · obtain ⟨a, ha, hfa⟩ := hx
      have hg := ih (n - 1) (fun i => if i < a then f i else f (i + 1)) (by
        intro i hi
        by_cases q : i < a
        · simp only [if_pos q]
          have b1 := h1 i (by omega)
          have b2 := h2 i a q ha
          omega
        · simp only [if_neg q]
          have b1 := h1 (i + 1) (by omega)
          have b2 := h2 a (i + 1) (by omega) (by omega)
          omega) (by
        intro i j hij hj
        by_cases q : i < a
        · by_cases r : j < a
          · simp only [if_pos q, if_pos r]
            exact h2 i j hij (by omega)
          · simp only [if_pos q, if_neg r]
            exact h2 i (j + 1) (by omega) (by omega)
        · have r : ¬ j < a := by omega
          simp only [if_neg q, if_neg r]
          exact h2 (i + 1) (j + 1) (by omega) (by omega))
      omega
    · have hg := ih n f (fun i hi => by
        have b1 := h1 i hi
        have b2 : f i ≠ m := fun e => hx ⟨i, hi, e⟩
        omega) h2
      omega
/-- two of them in one place -/
theorem fb_twice {m n : Nat} {f : Nat → Nat} (h : ∀ i, i < n → f i < m) (hm : m < n) : ∃ i j, i < j ∧ j < n ∧ f i = f j := by
  refine Classical.byContradiction fun hx => ?_
  have := fb_holes m n f h (fun i j hij hj e => hx ⟨i, j, hij, hj, e⟩)
  omega
/-- as many as places, none twice: each place is taken -/
theorem fb_onto {n : Nat} {f : Nat → Nat} (h : ∀ i, i < n → f i < n) (h2 : ∀ i j, i < j → j < n → f i ≠ f j) {y : Nat} (hy : y < n) : ∃ i, i < n ∧ f i = y := by
  refine Classical.byContradiction fun hx => ?_
  have hne : ∀ i, i < n → f i ≠ y := fun i hi e => hx ⟨i, hi, e⟩
  have := fb_holes (n - 1) n (fun i => if f i < y then f i else f i - 1) (by
    intro i hi
    have b1 := h i hi
    have b2 := hne i hi
    by_cases q : f i < y
    · simp only [if_pos q]; omega
    · simp only [if_neg q]; omega) (by
    intro i j hij hj
    have b1 := hne i (by omega)
    have b2 := hne j hj
    have b3 := h2 i j hij hj
    by_cases q : f i < y
    · by_cases r : f j < y
      · simp only [if_pos q, if_pos r]; exact b3
      · simp only [if_pos q, if_neg r]; omega
    · by_cases r : f j < y
      · simp only [if_neg q, if_pos r]; omega
      · simp only [if_neg q, if_neg r]; omega)
  omega
/-! ===== how many places have a property ===== -/
def fb_ct (p : Nat → Bool) : Nat → Nat
  | 0 => 0
  | n + 1 => fb_ct p n + (if p n then 1 else 0)
theorem fb_ct_succ (p : Nat → Bool) (n : Nat) : fb_ct p (n + 1) = fb_ct p n + (if p n then 1 else 0) := rfl
theorem fb_ct_le (p : Nat → Bool) : ∀ n, fb_ct p n ≤ n
  | 0 => Nat.le_refl _
  | n + 1 => by
    have h := fb_ct_le p n
    rw [fb_ct_succ]
    split <;> omega
theorem fb_ct_step (p : Nat → Bool) (m : Nat) : ∀ n, fb_ct p m ≤ fb_ct p (m + n)
  | 0 => Nat.le_refl _
  | n + 1 => by
    have h := fb_ct_step p m n
    show fb_ct p m ≤ fb_ct p (m + n + 1)
    rw [fb_ct_succ]
    omega
theorem fb_ct_mono (p : Nat → Bool) {m n : Nat} (h : m ≤ n) : fb_ct p m ≤ fb_ct p n := by
  have := fb_ct_step p m (n - m)
  rwa [Nat.add_sub_cancel' h] at this
theorem fb_ct_cong {p q : Nat → Bool} : ∀ {n : Nat}, (∀ k, k < n → p k = q k) → fb_ct p n = fb_ct q n
  | 0, _ => rfl
  | n + 1, h => by
    rw [fb_ct_succ, fb_ct_succ, fb_ct_cong (fun k hk => h k (by omega)), h n (by omega)]
/-- one place changed -/
theorem fb_ct_out (p : Nat → Bool) (b : Bool) {i n : Nat} (h : n ≤ i) : fb_ct (fun k => if k = i then b else p k) n = fb_ct p n :=
  fb_ct_cong fun k hk => if_neg (by omega)
theorem fb_ct_upd (p : Nat → Bool) (b : Bool) {i : Nat} : ∀ {n : Nat}, i < n → fb_ct (fun k => if k = i then b else p k) n + (if p i then 1 else 0) = fb_ct p n + (if b then 1 else 0)
  | 0, h => absurd h (Nat.not_lt_zero i)
  | n + 1, h => by
    rw [fb_ct_succ, fb_ct_succ]
    rcases Nat.lt_or_ge i n with q | q
    · have := fb_ct_upd p b q
      have e : (if n = i then b else p n) = p n := if_neg (by omega)
      rw [e]
      omega
    · have e : i = n := by omega
      subst e
      rw [fb_ct_out p b (Nat.le_refl _)]
      simp only [if_true]
      omega
theorem fb_ct_sub {p q : Nat → Bool} : ∀ {n : Nat}, (∀ k, k < n → p k = true → q k = true) → fb_ct p n ≤ fb_ct q n
  | 0, _ => Nat.le_refl _
  | n + 1, h => by
    have h1 := fb_ct_sub (n := n) (p := p) (q := q) (fun k hk => h k (by omega))
    have h2 := h n (by omega)
    rw [fb_ct_succ, fb_ct_succ]
    cases hp : p n <;> cases hq : q n <;> simp_all <;> omega
theorem fb_ct_or {p q : Nat → Bool} : ∀ {n : Nat}, (∀ k, k < n → ¬ (p k = true ∧ q k = true)) → fb_ct (fun k => p k || q k) n = fb_ct p n + fb_ct q n
  | 0, _ => rfl
  | n + 1, h => by
    have h1 := fb_ct_or (n := n) (p := p) (q := q) (fun k hk => h k (by omega))
    have h2 := h n (by omega)
    rw [fb_ct_succ, fb_ct_succ, fb_ct_succ, h1]
    cases hp : p n <;> cases hq : q n <;> simp_all <;> omega
theorem fb_ct_not (p : Nat → Bool) : ∀ n, fb_ct p n + fb_ct (fun k => !p k) n = n
  | 0 => rfl
  | n + 1 => by
    have h := fb_ct_not p n
    rw [fb_ct_succ, fb_ct_succ]
    cases p n <;> simp <;> omega
theorem fb_ct_split (p : Nat → Bool) (m : Nat) : ∀ n, fb_ct p (m + n) = fb_ct p m + fb_ct (fun k => p (m + k)) n
  | 0 => rfl
  | n + 1 => by
    have h := fb_ct_split p m n
    show fb_ct p (m + n + 1) = _
    rw [fb_ct_succ, fb_ct_succ, h, Nat.add_assoc]
theorem fb_ct_zero {p : Nat → Bool} : ∀ {n : Nat}, fb_ct p n = 0 ↔ ∀ k, k < n → p k = false
  | 0 => ⟨fun _ k hk => absurd hk (Nat.not_lt_zero k), fun _ => rfl⟩
  | n + 1 => by
    have h := fb_ct_zero (p := p) (n := n)
    rw [fb_ct_succ]
    constructor
    · intro e k hk
      have e1 : fb_ct p n = 0 := by omega
      rcases Nat.lt_or_ge k n with q | q
      · exact h.mp e1 k q
      · have ek : k = n := by omega
        subst ek
        cases hp : p k
        · rfl
        · simp [hp] at e
    · intro a
      rw [h.mpr (fun k hk => a k (by omega)), a n (by omega)]
      rfl
theorem fb_ct_pos {p : Nat → Bool} {n : Nat} : 0 < fb_ct p n ↔ ∃ k, k < n ∧ p k = true := by
  constructor
  · intro h
    refine Classical.byContradiction fun hx => ?_
    have := fb_ct_zero.mpr (fun k hk => by
      cases hp : p k
      · rfl
      · exact absurd ⟨k, hk, hp⟩ hx : ∀ k, k < n → p k = false)
    omega
  · rintro ⟨k, hk, hp⟩
    rcases Nat.eq_zero_or_pos (fb_ct p n) with e | e
    · have := fb_ct_zero.mp e k hk
      rw [this] at hp
      cases hp
    · exact e
theorem fb_ct_all {p : Nat → Bool} {n : Nat} : fb_ct p n = n ↔ ∀ k, k < n → p k = true := by
  have h := fb_ct_not p n
  constructor
  · intro e k hk
    have z : fb_ct (fun k => !p k) n = 0 := by omega
    have := fb_ct_zero.mp z k hk
    cases hp : p k
    · simp [hp] at this
    · rfl
  · intro a
    have z : fb_ct (fun k => !p k) n = 0 := fb_ct_zero.mpr (fun k hk => by simp [a k hk])
    omega
/-- the k-th place with the property -/
theorem fb_ct_kth {p : Nat → Bool} {k : Nat} : ∀ {n : Nat}, k < fb_ct p n → ∃ i, i < n ∧ p i = true ∧ fb_ct p i = k
  | 0, h => absurd h (Nat.not_lt_zero k)
  | n + 1, h => by
    rcases Nat.lt_or_ge k (fb_ct p n) with q | q
    · obtain ⟨i, h1, h2⟩ := fb_ct_kth q
      exact ⟨i, by omega, h2⟩
    · rw [fb_ct_succ] at h
      cases hp : p n
      · simp [hp] at h; omega
      · simp [hp] at h
        exact ⟨n, by omega, hp, by omega⟩
theorem fb_ct_kth_one {p : Nat → Bool} {i j : Nat} (hi : p i = true) (hj : p j = true) (e : fb_ct p i = fb_ct p j) : i = j := by
  have key : ∀ a b : Nat, a < b → p a = true → fb_ct p a < fb_ct p b := by
    intro a b hab ha
    have h := fb_ct_mono p (show a + 1 ≤ b from hab)
    rw [fb_ct_succ, ha] at h
    simp at h
    omega
  rcases Nat.lt_trichotomy i j with q | q | q
  · have := key i j q hi; omega
  · exact q
  · have := key j i q hj; omega
/-! ===== sums over a range: one place changed, parts, bounds ===== -/
def fb_sm (f : Nat → Nat) : Nat → Nat
  | 0 => 0
  | n + 1 => fb_sm f n + f n
theorem fb_sm_succ (f : Nat → Nat) (n : Nat) : fb_sm f (n + 1) = fb_sm f n + f n := rfl
theorem fb_sm_cong {f g : Nat → Nat} : ∀ {n : Nat}, (∀ k, k < n → f k = g k) → fb_sm f n = fb_sm g n
  | 0, _ => rfl
  | n + 1, h => by rw [fb_sm_succ, fb_sm_succ, fb_sm_cong (fun k hk => h k (by omega)), h n (by omega)]
theorem fb_sm_out (f : Nat → Nat) (v : Nat) {i n : Nat} (h : n ≤ i) : fb_sm (fun k => if k = i then v else f k) n = fb_sm f n :=
  fb_sm_cong fun k hk => if_neg (by omega)
theorem fb_sm_upd (f : Nat → Nat) (v : Nat) {i : Nat} : ∀ {n : Nat}, i < n → fb_sm (fun k => if k = i then v else f k) n + f i = fb_sm f n + v
  | 0, h => absurd h (Nat.not_lt_zero i)
  | n + 1, h => by
    rw [fb_sm_succ, fb_sm_succ]
    rcases Nat.lt_or_ge i n with q | q
    · have := fb_sm_upd f v q
      have e : (if n = i then v else f n) = f n := if_neg (by omega)
      rw [e]
      omega
    · have e : i = n := by omega
      subst e
      rw [fb_sm_out f v (Nat.le_refl _)]
      simp only [if_true]
      omega
theorem fb_sm_add (f g : Nat → Nat) : ∀ n, fb_sm (fun k => f k + g k) n = fb_sm f n + fb_sm g n
  | 0 => rfl
  | n + 1 => by
    have h := fb_sm_add f g n
    rw [fb_sm_succ, fb_sm_succ, fb_sm_succ, h]
    omega
theorem fb_sm_le {f g : Nat → Nat} : ∀ {n : Nat}, (∀ k, k < n → f k ≤ g k) → fb_sm f n ≤ fb_sm g n
  | 0, _ => Nat.le_refl _
  | n + 1, h => by
    have h1 := fb_sm_le (n := n) (f := f) (g := g) (fun k hk => h k (by omega))
    have h2 := h n (by omega)
    rw [fb_sm_succ, fb_sm_succ]
    omega
theorem fb_sm_const (c : Nat) : ∀ n, fb_sm (fun _ => c) n = n * c
  | 0 => by rw [Nat.zero_mul]; rfl
  | n + 1 => by rw [fb_sm_succ, fb_sm_const c n, Nat.succ_mul]
theorem fb_sm_bound {f : Nat → Nat} {c n : Nat} (h : ∀ k, k < n → f k ≤ c) : fb_sm f n ≤ n * c := by
  rw [← fb_sm_const c n]
  exact fb_sm_le h
theorem fb_sm_mono (f : Nat → Nat) (m : Nat) : ∀ n, fb_sm f m ≤ fb_sm f (m + n)
  | 0 => Nat.le_refl _
  | n + 1 => by
    have h := fb_sm_mono f m n
    show fb_sm f m ≤ fb_sm f (m + n + 1)
    rw [fb_sm_succ]
    omega
theorem fb_sm_part (f : Nat → Nat) {i n : Nat} (h : i < n) : fb_sm f i + f i ≤ fb_sm f n := by
  have := fb_sm_mono f (i + 1) (n - (i + 1))
  rw [fb_sm_succ, show i + 1 + (n - (i + 1)) = n by omega] at this
  exact this
theorem fb_sm_split (f : Nat → Nat) (m : Nat) : ∀ n, fb_sm f (m + n) = fb_sm f m + fb_sm (fun k => f (m + k)) n
  | 0 => rfl
  | n + 1 => by
    have h := fb_sm_split f m n
    show fb_sm f (m + n + 1) = _
    rw [fb_sm_succ, fb_sm_succ, h, Nat.add_assoc]
theorem fb_sm_zero {f : Nat → Nat} {n : Nat} (h : fb_sm f n = 0) : ∀ k, k < n → f k = 0 := fun k hk => by
  have := fb_sm_part f hk
  omega
/-- the same over whole numbers -/
def fb_si (f : Nat → Int) : Nat → Int
  | 0 => 0
  | n + 1 => fb_si f n + f n
theorem fb_si_succ (f : Nat → Int) (n : Nat) : fb_si f (n + 1) = fb_si f n + f n := rfl
theorem fb_si_cong {f g : Nat → Int} : ∀ {n : Nat}, (∀ k, k < n → f k = g k) → fb_si f n = fb_si g n
  | 0, _ => rfl
  | n + 1, h => by rw [fb_si_succ, fb_si_succ, fb_si_cong (fun k hk => h k (by omega)), h n (by omega)]
theorem fb_si_out (f : Nat → Int) (v : Int) {i n : Nat} (h : n ≤ i) : fb_si (fun k => if k = i then v else f k) n = fb_si f n :=
  fb_si_cong fun k hk => if_neg (by omega)
theorem fb_si_upd (f : Nat → Int) (v : Int) {i : Nat} : ∀ {n : Nat}, i < n → fb_si (fun k => if k = i then v else f k) n = fb_si f n - f i + v
  | 0, h => absurd h (Nat.not_lt_zero i)
  | n + 1, h => by
    rw [fb_si_succ, fb_si_succ]
    rcases Nat.lt_or_ge i n with q | q
    · have := fb_si_upd f v q
      have e : (if n = i then v else f n) = f n := if_neg (by omega)
      rw [e]
      omega
    · have e : i = n := by omega
      subst e
      rw [fb_si_out f v (Nat.le_refl _)]
      simp only [if_true]
      omega
theorem fb_si_add (f g : Nat → Int) : ∀ n, fb_si (fun k => f k + g k) n = fb_si f n + fb_si g n
  | 0 => rfl
  | n + 1 => by
    have h := fb_si_add f g n
    rw [fb_si_succ, fb_si_succ, fb_si_succ, h]
    omega
theorem fb_si_sub (f g : Nat → Int) : ∀ n, fb_si (fun k => f k - g k) n = fb_si f n - fb_si g n
  | 0 => rfl
  | n + 1 => by
    have h := fb_si_sub f g n
    rw [fb_si_succ, fb_si_succ, fb_si_succ, h]
    omega
theorem fb_si_mul (c : Int) (f : Nat → Int) : ∀ n, fb_si (fun k => c * f k) n = c * fb_si f n
  | 0 => (Int.mul_zero c).symm
  | n + 1 => by
    have h := fb_si_mul c f n
    rw [fb_si_succ, fb_si_succ, h, Int.mul_add]
theorem fb_si_split (f : Nat → Int) (m : Nat) : ∀ n, fb_si f (m + n) = fb_si f m + fb_si (fun k => f (m + k)) n
  | 0 => (Int.add_zero _).symm
  | n + 1 => by
    have h := fb_si_split f m n
    show fb_si f (m + n + 1) = _
    rw [fb_si_succ, fb_si_succ, h, Int.add_assoc]
theorem fb_si_nat (f : Nat → Nat) : ∀ n, fb_si (fun k => (f k : Int)) n = (fb_sm f n : Int)
  | 0 => rfl
  | n + 1 => by
    have h := fb_si_nat f n
    rw [fb_si_succ, fb_sm_succ, h]
    omega
theorem fb_si_bound {f : Nat → Int} {c : Int} (hc : 0 ≤ c) : ∀ {n : Nat}, (∀ k, k < n → -c ≤ f k ∧ f k ≤ c) → -(n * c) ≤ fb_si f n ∧ fb_si f n ≤ n * c
  | 0, _ => by simp [fb_si]
  | n + 1, h => by
    have h1 := fb_si_bound (n := n) (f := f) hc (fun k hk => h k (by omega))
    have h2 := h n (by omega)
    have e : ((n + 1 : Nat) : Int) * c = n * c + c := by rw [Int.natCast_add, Int.add_mul]; simp
    rw [fb_si_succ, e]
    omega
/-! ===== bits of a long that isn't negative ===== -/
theorem fb_andL (a b : Nat) : lN a &&& lN b = lN (a &&& b) := by
  apply Int64.toBitVec_inj.1
  show BitVec.ofNat 64 a &&& BitVec.ofNat 64 b = BitVec.ofNat 64 (a &&& b)
  apply BitVec.eq_of_getLsbD_eq
  intro i hi
  simp [hi]
theorem fb_orL (a b : Nat) : lN a ||| lN b = lN (a ||| b) := by
  apply Int64.toBitVec_inj.1
  show BitVec.ofNat 64 a ||| BitVec.ofNat 64 b = BitVec.ofNat 64 (a ||| b)
  apply BitVec.eq_of_getLsbD_eq
  intro i hi
  simp [hi]
theorem fb_xorL (a b : Nat) : lN a ^^^ lN b = lN (a ^^^ b) := by
  apply Int64.toBitVec_inj.1
  show BitVec.ofNat 64 a ^^^ BitVec.ofNat 64 b = BitVec.ofNat 64 (a ^^^ b)
  apply BitVec.eq_of_getLsbD_eq
  intro i hi
  simp [hi]
theorem fb_xorI (a b : Nat) : nI a ^^^ nI b = nI (a ^^^ b) := by
  apply Int32.toBitVec_inj.1
  show BitVec.ofNat 32 a ^^^ BitVec.ofNat 32 b = BitVec.ofNat 32 (a ^^^ b)
  apply BitVec.eq_of_getLsbD_eq
  intro i hi
  simp [hi]
theorem fb_maskL (n k : Nat) : lN n &&& lN (2 ^ k - 1) = lN (n % 2 ^ k) := by rw [fb_andL, Nat.and_two_pow_sub_one_eq_mod]
theorem fb_or_sumL {a k : Nat} (b : Nat) (h : a < 2 ^ k) : lN (2 ^ k * b) ||| lN a = lN (2 ^ k * b + a) := by rw [fb_orL, Nat.two_pow_add_eq_or_of_lt h]
theorem fb_lN_inj {a b : Nat} (ha : a < 2 ^ 63) (hb : b < 2 ^ 63) : lN a = lN b ↔ a = b := by
  constructor
  · intro h
    have h1 : (BitVec.ofNat 64 a).toNat = (BitVec.ofNat 64 b).toNat := congrArg (fun x : Int64 => x.toBitVec.toNat) h
    rw [BitVec.toNat_ofNat, BitVec.toNat_ofNat, Nat.mod_eq_of_lt (by omega), Nat.mod_eq_of_lt (by omega)] at h1
    exact h1
  · rintro rfl; rfl
theorem fb_bit_nat (n j : Nat) : n &&& 2 ^ j = 0 ↔ n.testBit j = false := by
  constructor
  · intro h
    have h1 : (n &&& 2 ^ j).testBit j = false := by rw [h]; simp
    rw [Nat.testBit_and] at h1
    simpa using h1
  · intro h
    apply Nat.eq_of_testBit_eq
    intro i
    rw [Nat.testBit_and]
    by_cases hi : j = i
    · subst hi; simp [h]
    · first | (simp [Nat.testBit_two_pow, hi]; done) | (simp [Nat.testBit_two_pow_of_ne hi]; done)
/-- one bit of a long -/
theorem fb_bitL {n j : Nat} (hj : j < 63) : lN n &&& lN (2 ^ j) = 0 ↔ n.testBit j = false := by
  have h2 : (2 : Nat) ^ j < 2 ^ 63 := Nat.pow_lt_pow_right (by decide) hj
  have hle : n &&& 2 ^ j ≤ 2 ^ j := Nat.and_le_right
  rw [fb_andL, ← fb_bit_nat, show (0 : Int64) = lN 0 from rfl]
  exact fb_lN_inj (by omega) (by decide)
/-- a bit set, a bit taken off -/
theorem fb_bit_set (n j i : Nat) : (n ||| 2 ^ j).testBit i = (n.testBit i || decide (i = j)) := by
  rw [Nat.testBit_or]
  by_cases h : j = i
  · subst h; simp
  · have h2 : ¬ i = j := fun e => h e.symm
    first | (simp [Nat.testBit_two_pow, h, h2]; done) | (simp [Nat.testBit_two_pow_of_ne h, h2]; done)
theorem fb_bit_flip (n j i : Nat) : (n ^^^ 2 ^ j).testBit i = (n.testBit i ^^ decide (i = j)) := by
  rw [Nat.testBit_xor]
  by_cases h : j = i
  · subst h; simp
  · have h2 : ¬ i = j := fun e => h e.symm
    first | (simp [Nat.testBit_two_pow, h, h2]; done) | (simp [Nat.testBit_two_pow_of_ne h, h2]; done)
/-! ===== a stretch of an array written over by a function ===== -/
def fb_put {α : Type} (f g : Nat → α) (a n : Nat) : Nat → α := fun k => if a ≤ k ∧ k < a + n then g (k - a) else f k
theorem fb_put_0 {α : Type} (f g : Nat → α) (a : Nat) : fb_put f g a 0 = f := funext fun k => if_neg (by omega)
theorem fb_put_in {α : Type} {f g : Nat → α} {a n k : Nat} (h1 : a ≤ k) (h2 : k < a + n) : fb_put f g a n k = g (k - a) := if_pos ⟨h1, h2⟩
theorem fb_put_out {α : Type} {f g : Nat → α} {a n k : Nat} (h : k < a ∨ a + n ≤ k) : fb_put f g a n k = f k := if_neg (by omega)
theorem fb_put_succ (f g : Nat → Int32) (a n : Nat) : upd (fb_put f g a n) (a + n) (g n) = fb_put f g a (n + 1) := by
  funext k
  by_cases h : k = a + n
  · subst h
    simp [upd, fb_put]
  · by_cases h1 : a ≤ k ∧ k < a + n
    · have h2 : a ≤ k ∧ k < a + (n + 1) := by omega
      simp only [upd, fb_put, if_neg h, if_pos h1, if_pos h2]
    · have h2 : ¬ (a ≤ k ∧ k < a + (n + 1)) := by omega
      simp only [upd, fb_put, if_neg h, if_neg h1, if_neg h2]
/-- .. from the far end down -/
theorem fb_put_down (f g : Nat → Int32) {a n m : Nat} (h : m < n) : upd (fb_put f (fun k => g (k + (m + 1))) (a + (m + 1)) (n - (m + 1))) (a + m) (g m) = fb_put f (fun k => g (k + m)) (a + m) (n - m) := by
  funext k
  by_cases h0 : k = a + m
  · subst h0
    simp only [upd, if_true]
    rw [fb_put_in (by omega) (by omega)]
    exact congrArg g (by omega)
  · simp only [upd, if_neg h0]
    by_cases h1 : a + (m + 1) ≤ k ∧ k < a + (m + 1) + (n - (m + 1))
    · rw [fb_put_in h1.1 h1.2, fb_put_in (by omega) (by omega)]
      exact congrArg g (by omega)
    · rw [fb_put_out (by omega), fb_put_out (by omega)]
theorem fb_put_cong {α : Type} {f f2 g g2 : Nat → α} {a n : Nat} (hf : ∀ k, (k < a ∨ a + n ≤ k) → f k = f2 k) (hg : ∀ k, k < n → g k = g2 k) : fb_put f g a n = fb_put f2 g2 a n := by
  funext k
  by_cases h : a ≤ k ∧ k < a + n
  · rw [fb_put_in h.1 h.2, fb_put_in h.1 h.2, hg _ (by omega)]
  · rw [fb_put_out (by omega), fb_put_out (by omega), hf _ (by omega)]
/-! ===== the least, the first, the best so far; that there is one alone ===== -/
theorem fb_first {p : Nat → Prop} [DecidablePred p] : ∀ {n : Nat}, (∃ i, i < n ∧ p i) → ∃ i, i < n ∧ p i ∧ ∀ j, j < i → ¬ p j
  | 0, h => by obtain ⟨i, hi, -⟩ := h; exact absurd hi (Nat.not_lt_zero i)
  | n + 1, h => by
    by_cases q : ∃ i, i < n ∧ p i
    · obtain ⟨i, h1, h2⟩ := fb_first q
      exact ⟨i, by omega, h2⟩
    · obtain ⟨i, h1, h2⟩ := h
      have e : i = n := by
        rcases Nat.lt_or_ge i n with r | r
        · exact absurd ⟨i, r, h2⟩ q
        · omega
      subst e
      exact ⟨i, by omega, h2, fun j hj hp => q ⟨j, hj, hp⟩⟩
theorem fb_first_one {p : Nat → Prop} {i j : Nat} (hi : p i) (hi2 : ∀ k, k < i → ¬ p k) (hj : p j) (hj2 : ∀ k, k < j → ¬ p k) : i = j := by
  rcases Nat.lt_trichotomy i j with q | q | q
  · exact absurd hi (hj2 i q)
  · exact q
  · exact absurd hj (hi2 j q)
theorem fb_last {p : Nat → Prop} [DecidablePred p] : ∀ {n : Nat}, (∃ i, i < n ∧ p i) → ∃ i, i < n ∧ p i ∧ ∀ j, i < j → j < n → ¬ p j
  | 0, h => by obtain ⟨i, hi, -⟩ := h; exact absurd hi (Nat.not_lt_zero i)
  | n + 1, h => by
    by_cases q : p n
    · exact ⟨n, by omega, q, fun j h1 h2 => by omega⟩
    · obtain ⟨i, h1, h2⟩ := h
      have hi : i < n := by
        rcases Nat.lt_or_ge i n with r | r
        · exact r
        · have e : i = n := by omega
          subst e
          exact absurd h2 q
      obtain ⟨i2, a1, a2, a3⟩ := fb_last (n := n) ⟨i, hi, h2⟩
      refine ⟨i2, by omega, a2, fun j b1 b2 => ?_⟩
      rcases Nat.lt_or_ge j n with r | r
      · exact a3 j b1 r
      · have e : j = n := by omega
        subst e
        exact q
/-- the first greatest -/
theorem fb_best (f : Nat → Int) : ∀ {n : Nat}, 0 < n → ∃ i, i < n ∧ (∀ j, j < n → f j ≤ f i) ∧ ∀ j, j < i → f j < f i
  | 0, h => absurd h (Nat.lt_irrefl 0)
  | 1, _ => ⟨0, by omega, fun j hj => by have e : j = 0 := by omega
                                         subst e; exact Int.le_refl _, fun j hj => absurd hj (Nat.not_lt_zero j)⟩
  | n + 2, _ => by
    obtain ⟨i, h1, h2, h3⟩ := fb_best f (n := n + 1) (by omega)
    by_cases q : f i < f (n + 1)
    · refine ⟨n + 1, by omega, fun j hj => ?_, fun j hj => ?_⟩
      · rcases Nat.lt_or_ge j (n + 1) with r | r
        · have := h2 j r; omega
        · have e : j = n + 1 := by omega
          subst e; exact Int.le_refl _
      · have := h2 j hj; omega
    · refine ⟨i, by omega, fun j hj => ?_, h3⟩
      rcases Nat.lt_or_ge j (n + 1) with r | r
      · exact h2 j r
      · have e : j = n + 1 := by omega
        subst e; omega
theorem fb_best_one {f : Nat → Int} {n i j : Nat} (hi : i < n) (hi2 : ∀ k, k < n → f k ≤ f i) (hi3 : ∀ k, k < i → f k < f i) (hj : j < n) (hj2 : ∀ k, k < n → f k ≤ f j) (hj3 : ∀ k, k < j → f k < f j) : i = j := by
  rcases Nat.lt_trichotomy i j with q | q | q
  · have a := hj3 i q
    have b := hi2 j hj
    omega
  · exact q
  · have a := hi3 j q
    have b := hj2 i hi
    omega
/-- the first least -/
theorem fb_low (f : Nat → Int) {n : Nat} (h : 0 < n) : ∃ i, i < n ∧ (∀ j, j < n → f i ≤ f j) ∧ ∀ j, j < i → f i < f j := by
  obtain ⟨i, h1, h2, h3⟩ := fb_best (fun k => -f k) h
  exact ⟨i, h1, fun j hj => by have := h2 j hj; omega, fun j hj => by have := h3 j hj; omega⟩
/-! ===== signed ints as whole numbers, within bounds ===== -/
theorem fb_rng (x : Int32) : -2147483648 ≤ x.toInt ∧ x.toInt < 2147483648 := by
  have h1 := Int32.le_toInt x
  have h2 := Int32.toInt_lt x
  omega
theorem fb_bmod {z : Int} (h1 : -2147483648 ≤ z) (h2 : z < 2147483648) : z.bmod (2 ^ 32) = z := by
  rw [Int.bmod_eq_of_le (by omega) (by omega)]
theorem fb_addI {x y : Int32} (h1 : -2147483648 ≤ x.toInt + y.toInt) (h2 : x.toInt + y.toInt < 2147483648) : (x + y).toInt = x.toInt + y.toInt := by
  rw [Int32.toInt_add, fb_bmod h1 h2]
theorem fb_subI {x y : Int32} (h1 : -2147483648 ≤ x.toInt - y.toInt) (h2 : x.toInt - y.toInt < 2147483648) : (x - y).toInt = x.toInt - y.toInt := by
  rw [Int32.toInt_sub, fb_bmod h1 h2]
theorem fb_mulI {x y : Int32} (h1 : -2147483648 ≤ x.toInt * y.toInt) (h2 : x.toInt * y.toInt < 2147483648) : (x * y).toInt = x.toInt * y.toInt := by
  rw [Int32.toInt_mul, fb_bmod h1 h2]
theorem fb_negI {x : Int32} (h : x.toInt ≠ -2147483648) : (-x).toInt = -x.toInt := by
  have := fb_rng x
  rw [Int32.toInt_neg, fb_bmod (by omega) (by omega)]
theorem fb_ofI {z : Int} (h1 : -2147483648 ≤ z) (h2 : z < 2147483648) : (Int32.ofInt z).toInt = z := by
  rw [Int32.toInt_ofInt, fb_bmod h1 h2]
theorem fb_asI (x : Int32) : Int32.ofInt x.toInt = x := Int32.ofInt_toInt x
theorem fb_rngL (x : Int64) : -9223372036854775808 ≤ x.toInt ∧ x.toInt < 9223372036854775808 := by
  have h1 := Int64.le_toInt x
  have h2 := Int64.toInt_lt x
  omega
theorem fb_bmodL {z : Int} (h1 : -9223372036854775808 ≤ z) (h2 : z < 9223372036854775808) : z.bmod (2 ^ 64) = z := by
  rw [Int.bmod_eq_of_le (by omega) (by omega)]
theorem fb_addL {x y : Int64} (h1 : -9223372036854775808 ≤ x.toInt + y.toInt) (h2 : x.toInt + y.toInt < 9223372036854775808) : (x + y).toInt = x.toInt + y.toInt := by
  rw [Int64.toInt_add, fb_bmodL h1 h2]
theorem fb_subL {x y : Int64} (h1 : -9223372036854775808 ≤ x.toInt - y.toInt) (h2 : x.toInt - y.toInt < 9223372036854775808) : (x - y).toInt = x.toInt - y.toInt := by
  rw [Int64.toInt_sub, fb_bmodL h1 h2]
theorem fb_mulL {x y : Int64} (h1 : -9223372036854775808 ≤ x.toInt * y.toInt) (h2 : x.toInt * y.toInt < 9223372036854775808) : (x * y).toInt = x.toInt * y.toInt := by
  rw [Int64.toInt_mul, fb_bmodL h1 h2]
/-! ===== Int32 by its bits: bt x i ===== -/
def bt (x : Int32) (i : Nat) : Bool := x.toBitVec.getLsbD i
theorem b_ext {x y : Int32} (h : ∀ i, i < 32 → bt x i = bt y i) : x = y := Int32.toBitVec_inj.mp (BitVec.eq_of_getLsbD_eq (fun i hi => h i hi))
theorem b_or (x y : Int32) (i : Nat) : bt (x ||| y) i = (bt x i || bt y i) := by unfold bt; rw [Int32.toBitVec_or, BitVec.getLsbD_or]
theorem b_and (x y : Int32) (i : Nat) : bt (x &&& y) i = (bt x i && bt y i) := by unfold bt; rw [Int32.toBitVec_and, BitVec.getLsbD_and]
theorem b_xor (x y : Int32) (i : Nat) : bt (x ^^^ y) i = (bt x i ^^ bt y i) := by unfold bt; rw [Int32.toBitVec_xor, BitVec.getLsbD_xor]
theorem b_big {x : Int32} {i : Nat} (h : 32 ≤ i) : bt x i = false := BitVec.getLsbD_of_ge _ _ h
theorem b_255 (i : Nat) : bt 255 i = decide (i < 8) := by
  rcases Nat.lt_or_ge i 32 with h | h
  · exact (by decide +kernel : ∀ i, i < 32 → bt 255 i = decide (i < 8)) i h
  · rw [b_big h, decide_eq_false (by omega)]
theorem b_65535 (i : Nat) : bt 65535 i = decide (i < 16) := by
  rcases Nat.lt_or_ge i 32 with h | h
  · exact (by decide +kernel : ∀ i, i < 32 → bt 65535 i = decide (i < 16)) i h
  · rw [b_big h, decide_eq_false (by omega)]
theorem b_m1 : ∀ i, i < 32 → bt (-1) i = true := by decide +kernel
theorem b_0 (i : Nat) : bt 0 i = false := BitVec.getLsbD_zero
theorem s_l : ∀ n, n < 32 → ((nI n &&& 31).toBitVec.smod 32).toNat = n := by decide +kernel
theorem s_u : ∀ n, n < 32 → (((nI n).toUInt32 &&& Int32.toUInt32 31).toBitVec % 32).toNat = n := by decide +kernel
theorem b_shl (n : Nat) (hn : n < 32) (x : Int32) {i : Nat} (hi : i < 32) : bt (x <<< (nI n &&& 31)) i = (decide (n ≤ i) && bt x (i - n)) := by
  unfold bt
  rw [Int32.toBitVec_shiftLeft]
  show (x.toBitVec <<< ((nI n &&& 31).toBitVec.smod 32).toNat).getLsbD i = _
  rw [s_l n hn, BitVec.getLsbD_shiftLeft]
  rcases Nat.lt_or_ge i n with h | h
  · simp [h, Nat.not_le.mpr h]
  · simp [hi, h, Nat.not_lt.mpr h]
theorem b_ushr (n : Nat) (hn : n < 32) (x : Int32) (i : Nat) : bt ((x.toUInt32 >>> ((nI n).toUInt32 &&& Int32.toUInt32 31)).toInt32) i = bt x (n + i) := by
  show (x.toUInt32 >>> ((nI n).toUInt32 &&& Int32.toUInt32 31)).toBitVec.getLsbD i = x.toUInt32.toBitVec.getLsbD (n + i)
  rw [UInt32.toBitVec_shiftRight]
  show (x.toUInt32.toBitVec >>> (((nI n).toUInt32 &&& Int32.toUInt32 31).toBitVec % 32).toNat).getLsbD i = _
  rw [s_u n hn, BitVec.getLsbD_ushiftRight]
theorem b_sshr (n : Nat) (hn : n < 32) (x : Int32) {i : Nat} (hi : i < 32) : bt (x >>> (nI n &&& 31)) i = if n + i < 32 then bt x (n + i) else bt x 31 := by
  unfold bt
  rw [Int32.toBitVec_shiftRight]
  show (x.toBitVec.sshiftRight ((nI n &&& 31).toBitVec.smod 32).toNat).getLsbD i = _
  rw [s_l n hn, BitVec.getLsbD_sshiftRight, BitVec.msb_eq_getLsbD_last]
  simp [hi]
theorem b_shl8 (x : Int32) {i : Nat} (hi : i < 32) : bt (x <<< ((8 : Int32) &&& 31)) i = (decide (8 ≤ i) && bt x (i - 8)) := b_shl 8 (by omega) x hi
theorem b_shl16 (x : Int32) {i : Nat} (hi : i < 32) : bt (x <<< ((16 : Int32) &&& 31)) i = (decide (16 ≤ i) && bt x (i - 16)) := b_shl 16 (by omega) x hi
theorem b_shl24 (x : Int32) {i : Nat} (hi : i < 32) : bt (x <<< ((24 : Int32) &&& 31)) i = (decide (24 ≤ i) && bt x (i - 24)) := b_shl 24 (by omega) x hi
theorem b_sshr8 (x : Int32) {i : Nat} (hi : i < 32) : bt (x >>> ((8 : Int32) &&& 31)) i = if 8 + i < 32 then bt x (8 + i) else bt x 31 := b_sshr 8 (by omega) x hi
/-! ===== nI under and, xor, >>>, one bit, 65535 ===== -/
theorem nx_and (a b : Nat) : nI a &&& nI b = nI (a &&& b) := by
  apply Int32.toBitVec_inj.1
  show BitVec.ofNat 32 a &&& BitVec.ofNat 32 b = BitVec.ofNat 32 (a &&& b)
  apply BitVec.eq_of_getLsbD_eq
  intro i hi
  simp [hi]
theorem nx_xor (a b : Nat) : nI a ^^^ nI b = nI (a ^^^ b) := by
  apply Int32.toBitVec_inj.1
  show BitVec.ofNat 32 a ^^^ BitVec.ofNat 32 b = BitVec.ofNat 32 (a ^^^ b)
  apply BitVec.eq_of_getLsbD_eq
  intro i hi
  simp [hi]
theorem nx_cnt : ∀ j : Fin 32, (UInt32.ofNat j.val &&& Int32.toUInt32 31).toNat % 32 = j.val := by decide +kernel
theorem nx_ush {k j : Nat} (hk : k < 65536) (hj : j < 32) : ((nI k).toUInt32 >>> ((nI j).toUInt32 &&& Int32.toUInt32 31)).toInt32 = nI (k >>> j) := by
  have hs : k >>> j ≤ k := by
    rw [Nat.shiftRight_eq_div_pow]
    exact Nat.div_le_self _ _
  have e2 : UInt32.ofNat k >>> (UInt32.ofNat j &&& Int32.toUInt32 31) = UInt32.ofNat (k >>> j) := by
    apply UInt32.toNat_inj.1
    have h1 : (UInt32.ofNat k).toNat = k := Nat.mod_eq_of_lt (by omega)
    have h2 : (UInt32.ofNat (k >>> j)).toNat = k >>> j := Nat.mod_eq_of_lt (by omega)
    rw [UInt32.toNat_shiftRight, nx_cnt ⟨j, hj⟩, h1, h2]
  show (UInt32.ofNat k >>> (UInt32.ofNat j &&& Int32.toUInt32 31)).toInt32 = _
  rw [e2]
  rfl
theorem nx_bit {k j : Nat} (hk : k < 65536) (hj : j < 16) : (((nI k).toUInt32 >>> ((nI j).toUInt32 &&& Int32.toUInt32 31)).toInt32 &&& 1) = 0 ↔ k.testBit j = false := by
  rw [nx_ush hk (by omega)]
  show nI (k >>> j) &&& nI 1 = 0 ↔ _
  rw [nx_and, Nat.and_one_is_mod, ← nI_0, nI_eq (by omega) (by omega), Nat.testBit_eq_decide_div_mod_eq, Nat.shiftRight_eq_div_pow, decide_eq_false_iff_not]
  generalize k / 2 ^ j = z
  omega
theorem nx_mod (k : Nat) : nI k &&& 65535 = nI (k % 65536) := by
  show nI k &&& nI 65535 = _
  rw [nx_and, show (65535 : Nat) = 2 ^ 16 - 1 from rfl, Nat.and_two_pow_sub_one_eq_mod]
theorem nx_m16 {k : Nat} (h : k < 65536) : nI k &&& 65535 = nI k := by rw [nx_mod, Nat.mod_eq_of_lt h]
theorem nx_mask (x : Int32) : ∃ k, k < 65536 ∧ x &&& 65535 = nI k := by
  have e : x = nI x.toBitVec.toNat := by
    apply Int32.toBitVec_inj.1
    show x.toBitVec = BitVec.ofNat 32 x.toBitVec.toNat
    simp
  refine ⟨x.toBitVec.toNat % 65536, Nat.mod_lt _ (by omega), ?_⟩
  rw [← nx_mod, ← e]
/-! ===== Int32 as a set of bits: test, set ===== -/
def nf_M (m : Int32) : Nat := 4294967296 - m.toBitVec.toNat
theorem nf_sh : ∀ l, l < 32 → ((1 : Int32) <<< (nI l &&& 31)).toBitVec = BitVec.twoPow 32 l := by decide +kernel
theorem nf_sl : ∀ l, l < 32 → (((nI l).toUInt32 &&& Int32.toUInt32 31).toBitVec % 32).toNat = l := by decide +kernel
theorem nf_tp : ∀ l, l < 32 → BitVec.twoPow 32 l ≠ 0#32 := by decide +kernel
theorem nf_bit (m : Int32) (l : Nat) (hl : l < 32) : ((m.toUInt32 >>> ((nI l).toUInt32 &&& Int32.toUInt32 31)).toInt32 &&& 1) = 0 ↔ (m &&& ((1 : Int32) <<< (nI l &&& 31))) = 0 := by
  have e : ((m.toUInt32 >>> ((nI l).toUInt32 &&& Int32.toUInt32 31)).toInt32).toBitVec = m.toBitVec >>> l := by
    show m.toBitVec >>> (((nI l).toUInt32 &&& Int32.toUInt32 31).toBitVec % 32) = m.toBitVec >>> l
    rw [BitVec.ushiftRight_eq', nf_sl l hl]
  rw [← Int32.toBitVec_inj, ← Int32.toBitVec_inj, Int32.toBitVec_and, Int32.toBitVec_and, nf_sh l hl, e, BitVec.and_twoPow]
  show (m.toBitVec >>> l &&& 1#32) = 0#32 ↔ _ = 0#32
  rw [BitVec.and_one_eq_setWidth_ofBool_getLsbD, BitVec.getLsbD_ushiftRight, Nat.add_zero]
  cases hb : m.toBitVec.getLsbD l
  · exact ⟨fun _ => by simp, fun _ => by decide⟩
  · exact ⟨fun z => absurd z (by decide), fun z => absurd ((if_pos rfl).symm.trans z) (nf_tp l hl)⟩
theorem nf_gr (m k : Int32) (h : m &&& k = 0) (hk : k ≠ 0) : nf_M (m ||| k) < nf_M m := by
  have hm := m.toBitVec.isLt
  have hm' := (m ||| k).toBitVec.isLt
  have h1 : m.toBitVec.toNat ≤ (m ||| k).toBitVec.toNat := by
    rw [Int32.toBitVec_or, BitVec.toNat_or]
    exact Nat.left_le_or
  have h2 : m.toBitVec.toNat ≠ (m ||| k).toBitVec.toNat := by
    intro e
    have e2 : m = m ||| k := Int32.toBitVec_inj.mp (BitVec.eq_of_toNat_eq e)
    apply hk
    apply Int32.toBitVec_inj.mp
    show k.toBitVec = 0#32
    apply BitVec.eq_of_getLsbD_eq
    intro i hi
    have a : m.toBitVec.getLsbD i = (m.toBitVec.getLsbD i || k.toBitVec.getLsbD i) := by rw [← BitVec.getLsbD_or, ← Int32.toBitVec_or, ← e2]
    have b : (m.toBitVec.getLsbD i && k.toBitVec.getLsbD i) = false := by
      rw [← BitVec.getLsbD_and, ← Int32.toBitVec_and, h]
      exact BitVec.getLsbD_zero
    rw [BitVec.getLsbD_zero]
    revert a b
    cases m.toBitVec.getLsbD i <;> cases k.toBitVec.getLsbD i <;> simp
  unfold nf_M
  omega
/-! ===== Int64 as a set of bits: test, set, clear ===== -/
theorem ts_nf {x : Bool} (h : ¬ x = false) : x = true := by cases x <;> first | rfl | exact absurd rfl h
theorem ts_nt {x : Bool} (h : ¬ x = true) : x = false := by cases x <;> first | rfl | exact absurd rfl h
theorem ts_bit {w : Int64} {s : UInt64} {j : Nat} (hj : j < 64) (hs : s.toNat = j) : ((w.toUInt64 >>> s).toInt64 &&& 1) = 0 ↔ w.toBitVec.getLsbD j = false := by
  have e : (w.toUInt64 >>> s).toInt64.toBitVec = w.toBitVec >>> j := by
    apply BitVec.eq_of_toNat_eq
    show (w.toUInt64 >>> s).toNat = _
    rw [UInt64.toNat_shiftRight, hs, Nat.mod_eq_of_lt hj, BitVec.toNat_ushiftRight]
    rfl
  rw [← Int64.toBitVec_inj, Int64.toBitVec_and, e]
  show w.toBitVec >>> j &&& 1#64 = 0#64 ↔ _
  constructor
  · intro h
    have t := congrArg (fun x => x.getLsbD 0) h
    simpa using t
  · intro h
    apply BitVec.eq_of_getLsbD_eq
    intro i hi
    cases i with
    | zero => simp [h]
    | succ i => simp
theorem ts_or {w m : Int64} {j : Nat} (hj : j < 64) (hm : m.toBitVec = BitVec.twoPow 64 j) : (w ||| m) = w ↔ w.toBitVec.getLsbD j = true := by
  rw [← Int64.toBitVec_inj, Int64.toBitVec_or, hm]
  constructor
  · intro h
    have t := congrArg (fun x => x.getLsbD j) h
    simp only [BitVec.getLsbD_or, BitVec.getLsbD_twoPow] at t
    simpa [hj] using t.symm
  · intro h
    apply BitVec.eq_of_getLsbD_eq
    intro i hi
    rw [BitVec.getLsbD_or, BitVec.getLsbD_twoPow]
    by_cases e : j = i
    · subst e; rw [h, Bool.true_or]
    · simp [e]
theorem ts_and {w m : Int64} {j : Nat} (hj : j < 64) (hm : m.toBitVec = BitVec.twoPow 64 j) : (w &&& (m ^^^ (-1))) = w ↔ w.toBitVec.getLsbD j = false := by
  have ha : (-1 : Int64).toBitVec = BitVec.allOnes 64 := by decide
  rw [← Int64.toBitVec_inj, Int64.toBitVec_and, Int64.toBitVec_xor, hm, ha]
  constructor
  · intro h
    have t := congrArg (fun x => x.getLsbD j) h
    simp only [BitVec.getLsbD_and, BitVec.getLsbD_xor, BitVec.getLsbD_twoPow, BitVec.getLsbD_allOnes] at t
    simpa [hj] using t.symm
  · intro h
    apply BitVec.eq_of_getLsbD_eq
    intro i hi
    rw [BitVec.getLsbD_and, BitVec.getLsbD_xor, BitVec.getLsbD_twoPow, BitVec.getLsbD_allOnes]
    by_cases e : j = i
    · subst e; rw [h, Bool.false_and]
    · simp [e, hi]
/-! ===== lN n to 2^64: shifts, and, or, masks, one bit ===== -/
theorem wb_tb (n : Nat) : (lN n).toBitVec = BitVec.ofNat 64 n := rfl
theorem wb_inj {a b : Int64} (h : a.toBitVec = b.toBitVec) : a = b := Int64.toBitVec_inj.mp h
theorem wb_tn {n : Nat} (h : n < 2 ^ 64) : (lN n).toBitVec.toNat = n := by rw [wb_tb, BitVec.toNat_ofNat, Nat.mod_eq_of_lt h]
theorem wb_of (x : Int64) : ∃ n, n < 2 ^ 64 ∧ x = lN n := ⟨x.toBitVec.toNat, x.toBitVec.isLt, wb_inj (by rw [wb_tb]; simp)⟩
theorem wb_of32 (x : Int32) : ∃ n, n < 2 ^ 32 ∧ x = nI n := ⟨x.toBitVec.toNat, x.toBitVec.isLt, Int32.toBitVec_inj.mp (by show _ = BitVec.ofNat 32 _; simp)⟩
theorem wb_c : ∀ k, k < 64 → ((nI k).toInt64 &&& 63) = lN k := by decide +kernel
theorem wb_cu : ∀ k, k < 64 → ((nI k).toInt64.toUInt64 &&& Int64.toUInt64 63) = UInt64.ofNat k := by decide +kernel
theorem wb_sm : ∀ k, k < 64 → (BitVec.ofNat 64 k).smod 64 = BitVec.ofNat 64 k := by decide +kernel
theorem wb_pw {a b : Nat} (h : a ≤ b) : 2 ^ b = 2 ^ a * 2 ^ (b - a) := by rw [← Nat.pow_add]; congr 1; omega
theorem wb_lt2 {a b : Nat} (h : a < b) : 2 ^ a < 2 ^ b := Nat.pow_lt_pow_right (by decide) h
theorem wb_mod (n : Nat) : lN n = lN (n % 2 ^ 64) := wb_inj (by rw [wb_tb, wb_tb]; apply BitVec.eq_of_toNat_eq; rw [BitVec.toNat_ofNat, BitVec.toNat_ofNat, Nat.mod_mod])
theorem wb_shr {n k : Nat} (hn : n < 2 ^ 64) (hk : k < 64) : ((lN n).toUInt64 >>> ((nI k).toInt64.toUInt64 &&& Int64.toUInt64 63)).toInt64 = lN (n / 2 ^ k) := by
  rw [wb_cu k hk]
  apply wb_inj
  apply BitVec.eq_of_toNat_eq
  show ((lN n).toUInt64 >>> UInt64.ofNat k).toNat = (BitVec.ofNat 64 _).toNat
  have h1 : (UInt64.ofNat k).toNat = k := by
    show (BitVec.ofNat 64 k).toNat = k
    rw [BitVec.toNat_ofNat, Nat.mod_eq_of_lt (by omega)]
  have h2 : (lN n).toUInt64.toNat = n := wb_tn hn
  rw [UInt64.toNat_shiftRight, h1, h2, Nat.mod_eq_of_lt hk, Nat.shiftRight_eq_div_pow, BitVec.toNat_ofNat, Nat.mod_eq_of_lt (Nat.lt_of_le_of_lt (Nat.div_le_self _ _) hn)]
theorem wb_shl (n : Nat) {k : Nat} (hk : k < 64) : lN n <<< ((nI k).toInt64 &&& 63) = lN (n * 2 ^ k) := by
  rw [wb_c k hk]
  apply wb_inj
  rw [Int64.toBitVec_shiftLeft, wb_tb, wb_tb, wb_tb, wb_sm k hk]
  apply BitVec.eq_of_toNat_eq
  rw [BitVec.shiftLeft_eq', BitVec.toNat_shiftLeft, BitVec.toNat_ofNat, BitVec.toNat_ofNat, BitVec.toNat_ofNat, Nat.mod_eq_of_lt (show k < 2 ^ 64 by omega), Nat.shiftLeft_eq, Nat.mul_mod, Nat.mod_mod, ← Nat.mul_mod]
theorem wb_and {a b : Nat} (ha : a < 2 ^ 64) (hb : b < 2 ^ 64) : lN a &&& lN b = lN (a &&& b) := by
  apply wb_inj
  rw [Int64.toBitVec_and, wb_tb, wb_tb, wb_tb]
  apply BitVec.eq_of_toNat_eq
  rw [BitVec.toNat_and, BitVec.toNat_ofNat, BitVec.toNat_ofNat, BitVec.toNat_ofNat, Nat.mod_eq_of_lt ha, Nat.mod_eq_of_lt hb, Nat.mod_eq_of_lt (Nat.and_lt_two_pow _ hb)]
theorem wb_or {a b : Nat} (ha : a < 2 ^ 64) (hb : b < 2 ^ 64) : lN a ||| lN b = lN (a ||| b) := by
  apply wb_inj
  rw [Int64.toBitVec_or, wb_tb, wb_tb, wb_tb]
  apply BitVec.eq_of_toNat_eq
  rw [BitVec.toNat_or, BitVec.toNat_ofNat, BitVec.toNat_ofNat, BitVec.toNat_ofNat, Nat.mod_eq_of_lt ha, Nat.mod_eq_of_lt hb, Nat.mod_eq_of_lt (Nat.or_lt_two_pow ha hb)]
theorem wb_mask {n k : Nat} (hn : n < 2 ^ 64) (hk : k < 64) : lN n &&& lN (2 ^ k - 1) = lN (n % 2 ^ k) := by
  rw [wb_and hn (by have := wb_lt2 hk; omega), Nat.and_two_pow_sub_one_eq_mod]
theorem wb_a1 {n : Nat} (hn : n < 2 ^ 64) : lN n &&& 1 = lN (n % 2) := wb_mask (k := 1) hn (by decide)
theorem wb_bit {n k : Nat} (hn : n < 2 ^ 64) (hk : k < 64) : ((lN n).toUInt64 >>> ((nI k).toInt64.toUInt64 &&& Int64.toUInt64 63)).toInt64 &&& 1 = lN (n / 2 ^ k % 2) := by
  rw [wb_shr hn hk, wb_a1 (Nat.lt_of_le_of_lt (Nat.div_le_self _ _) hn)]
theorem wb_xor {q k : Nat} (hk : k < 63) (h : 2 ^ k ≤ q) (h2 : q < 2 ^ (k + 1)) : lN q ^^^ lN (2 ^ k) = lN (q - 2 ^ k) := by
  obtain ⟨r, rfl⟩ : ∃ r, q = 2 ^ k + r := ⟨q - 2 ^ k, by omega⟩
  have hr : r < 2 ^ k := by rw [Nat.pow_succ] at h2; omega
  have hx : (2 ^ k + r) ^^^ 2 ^ k = r := by
    apply Nat.eq_of_testBit_eq
    intro i
    rw [Nat.testBit_xor, Nat.testBit_two_pow]
    rcases Nat.lt_trichotomy i k with h | h | h
    · rw [Nat.testBit_two_pow_add_gt h]
      simp [show ¬ k = i by omega]
    · subst h
      rw [Nat.testBit_two_pow_add_eq]
      simp
    · have a1 : 2 ^ (k + 1) ≤ 2 ^ i := Nat.pow_le_pow_right (by decide) h
      rw [Nat.testBit_lt_two_pow (show 2 ^ k + r < 2 ^ i by omega), Nat.testBit_lt_two_pow (show r < 2 ^ i by omega)]
      simp [show ¬ k = i by omega]
  have b1 := wb_lt2 (show k + 1 < 64 by omega)
  have b2 := wb_lt2 (show k < 64 by omega)
  apply wb_inj
  rw [Int64.toBitVec_xor, wb_tb, wb_tb, wb_tb]
  apply BitVec.eq_of_toNat_eq
  rw [BitVec.toNat_xor, BitVec.toNat_ofNat, BitVec.toNat_ofNat, BitVec.toNat_ofNat, Nat.mod_eq_of_lt (by omega : 2 ^ k + r < 2 ^ 64), Nat.mod_eq_of_lt b2, hx, Nat.add_sub_cancel_left, Nat.mod_eq_of_lt (by omega)]
/-! ===== lN: masks, 'or' of parts that don't overlap is a sum ===== -/
theorem u_tn {n : Nat} (h : n < 2 ^ 64) : (UInt64.ofNat n).toNat = n := Nat.mod_eq_of_lt h
theorem g_and {a b c : Nat} (ha : a < 2 ^ 64) (hb : b < 2 ^ 64) (hc : a &&& b = c) : lN a &&& lN b = lN c := by
  subst hc
  have h : UInt64.ofNat a &&& UInt64.ofNat b = UInt64.ofNat (a &&& b) := UInt64.toNat_inj.mp (by rw [UInt64.toNat_and, u_tn ha, u_tn hb, u_tn (Nat.and_lt_two_pow a hb)])
  have h2 := congrArg UInt64.toInt64 h
  exact h2
theorem g_and1 {a : Nat} (ha : a < 2 ^ 64) : lN a &&& 1 = lN (a % 2) := g_and (b := 1) ha (by decide) (Nat.and_two_pow_sub_one_eq_mod a 1)
theorem g_mask {a s p : Nat} (hp : 2 ^ s = p) (hs : s < 64) (ha : a < 2 ^ 64) : lN a &&& lN (p - 1) = lN (a % p) := by
  subst hp
  have := Nat.pow_lt_pow_right (show 1 < 2 by decide) hs
  exact g_and ha (by omega) (Nat.and_two_pow_sub_one_eq_mod a s)
theorem g_or {k p a b : Nat} (hp : 2 ^ k = p) (ha : a < p) (h : b * p + a < 2 ^ 64) : lN (b * p) ||| lN a = lN (b * p + a) := by
  subst hp
  have h1 : b * 2 ^ k ||| a = b * 2 ^ k + a := by rw [← Nat.shiftLeft_eq, Nat.shiftLeft_add_eq_or_of_lt ha]
  have h3 : UInt64.ofNat (b * 2 ^ k) ||| UInt64.ofNat a = UInt64.ofNat (b * 2 ^ k + a) := UInt64.toNat_inj.mp (by rw [UInt64.toNat_or, u_tn (by omega), u_tn (by omega), u_tn h, h1])
  have h2 := congrArg UInt64.toInt64 h3
  exact h2
theorem g_or' {k p a b : Nat} (hp : 2 ^ k = p) (ha : a < p) (h : a + b * p < 2 ^ 64) : lN a ||| lN (b * p) = lN (a + b * p) := by
  rw [Int64.or_comm, g_or hp ha (by omega), Nat.add_comm]
theorem g_ushr {a k p : Nat} {y : UInt64} (hy : y = UInt64.ofNat k) (hk : k < 64) (hp : 2 ^ k = p) (ha : a < 2 ^ 64) : ((lN a).toUInt64 >>> y).toInt64 = lN (a / p) := by
  subst hy hp
  have h : UInt64.ofNat a >>> UInt64.ofNat k = UInt64.ofNat (a / 2 ^ k) := UInt64.toNat_inj.mp (by rw [UInt64.toNat_shiftRight, u_tn ha, u_tn (by omega), u_tn (Nat.lt_of_le_of_lt (Nat.div_le_self _ _) ha), Nat.mod_eq_of_lt hk, Nat.shiftRight_eq_div_pow])
  have h2 := congrArg UInt64.toInt64 h
  exact h2
theorem g_shl {a k p : Nat} {y : Int64} (hy : y.toBitVec.smod 64 = BitVec.ofNat 64 k) (hk : k < 64) (hp : 2 ^ k = p) (ha : a < 2 ^ 64) : lN a <<< y = lN (a * p) := by
  subst hp
  apply Int64.toBitVec_inj.mp
  rw [Int64.toBitVec_shiftLeft, hy]
  apply BitVec.eq_of_toNat_eq
  have hb : (lN a).toBitVec.toNat = a := Nat.mod_eq_of_lt ha
  have hk' : (BitVec.ofNat 64 k).toNat = k := Nat.mod_eq_of_lt (by omega)
  have h : ((lN a).toBitVec <<< BitVec.ofNat 64 k).toNat = (a * 2 ^ k) % 2 ^ 64 := by simp only [BitVec.shiftLeft_eq', BitVec.toNat_shiftLeft, hb, hk', Nat.shiftLeft_eq]
  exact h
/-! ===== lN to 2^62 under >> and >>> ===== -/
theorem pf_lI {a : Nat} (h : a < 2 ^ 63) : (lN a).toInt = (a : Int) := lg_ofNat_toInt h
theorem pf_shr {a d : Nat} {D : Int64} (hD : (D.toBitVec.smod 64).toNat = d) (h : a < 2 ^ 62) : lN a >>> D = lN (a / 2 ^ d) := by
  have hd : a / 2 ^ d ≤ a := Nat.div_le_self _ _
  apply Int64.toInt_inj.mp
  have e : (lN a >>> D).toInt = (lN a).toInt >>> d := by
    rw [← hD]
    exact BitVec.toInt_sshiftRight ..
  rw [e, Int.shiftRight_eq_div_pow, pf_lI (by omega), pf_lI (by omega)]
  rfl
theorem pf_ushr {a d : Nat} {D : UInt64} (hD : D.toNat % 64 = d) (h : a < 2 ^ 62) : ((lN a).toUInt64 >>> D).toInt64 = lN (a / 2 ^ d) := by
  have hd : a / 2 ^ d ≤ a := Nat.div_le_self _ _
  have e : (lN a).toUInt64 >>> D = UInt64.ofNat (a / 2 ^ d) := UInt64.toNat_inj.mp (by
    rw [UInt64.toNat_shiftRight, hD, Nat.shiftRight_eq_div_pow, UInt64.toNat_ofNat']
    show (UInt64.ofNat a).toNat / 2 ^ d = _
    rw [UInt64.toNat_ofNat', Nat.mod_eq_of_lt (by omega), Nat.mod_eq_of_lt (by omega)])
  rw [e]
  rfl
theorem pf_andw (x : Int64) : ∃ m, m < 2 ^ 32 ∧ x &&& 4294967295 = lN m := ⟨x.toBitVec.toNat % 2 ^ 32, Nat.mod_lt _ (by decide), Int64.toBitVec_inj.mp (BitVec.eq_of_toNat_eq (by
  show (x.toBitVec &&& 4294967295#64).toNat = (BitVec.ofNat 64 (x.toBitVec.toNat % 2 ^ 32)).toNat
  rw [BitVec.toNat_and, show (4294967295#64).toNat = 2 ^ 32 - 1 from by decide, Nat.and_two_pow_sub_one_eq_mod, BitVec.toNat_ofNat]
  omega))⟩
/-! ===== Int64 as an unsigned number: uN x ===== -/
def uN (x : Int64) : Nat := x.toUInt64.toNat
theorem uN_lt (x : Int64) : uN x < 18446744073709551616 := x.toUInt64.toNat_lt
theorem uN_inj {x y : Int64} (h : uN x = uN y) : x = y := congrArg UInt64.toInt64 (UInt64.toNat_inj.mp h)
theorem uN_add (x y : Int64) : uN (x + y) = (uN x + uN y) % 18446744073709551616 := by
  show (x.toUInt64 + y.toUInt64).toNat = _
  exact UInt64.toNat_add _ _
theorem uN_mul (x y : Int64) : uN (x * y) = (uN x * uN y) % 18446744073709551616 := by
  show (x.toUInt64 * y.toUInt64).toNat = _
  exact UInt64.toNat_mul _ _
theorem uN_shl (x : Int64) : uN (x <<< ((1 : Int32).toInt64 &&& 63)) = (2 * uN x) % 18446744073709551616 := by
  have h : (((1 : Int32).toInt64 &&& 63).toBitVec.smod 64).toNat = 1 := by decide
  show (x.toBitVec <<< (((1 : Int32).toInt64 &&& 63).toBitVec.smod 64).toNat).toNat = _
  rw [h, BitVec.toNat_shiftLeft, Nat.shiftLeft_eq, Nat.mul_comm]
  rfl
theorem uN_shr (x : Int64) (s : UInt64) : uN (x.toUInt64 >>> s).toInt64 = uN x / 2 ^ (s.toNat % 64) := by
  show (x.toUInt64 >>> s).toNat = _
  rw [UInt64.toNat_shiftRight, Nat.shiftRight_eq_div_pow]
  rfl
theorem uN_s32 (x : Int64) : uN (x.toUInt64 >>> ((32 : Int32).toInt64.toUInt64 &&& Int64.toUInt64 63)).toInt64 = uN x / 4294967296 := by
  have h : ((32 : Int32).toInt64.toUInt64 &&& Int64.toUInt64 63).toNat % 64 = 32 := by decide
  rw [uN_shr, h]
theorem uN_s63 (x : Int64) : uN (x.toUInt64 >>> ((63 : Int32).toInt64.toUInt64 &&& Int64.toUInt64 63)).toInt64 = uN x / 9223372036854775808 := by
  have h : ((63 : Int32).toInt64.toUInt64 &&& Int64.toUInt64 63).toNat % 64 = 63 := by decide
  rw [uN_shr, h]
theorem uN_lo (x : Int64) : uN (x &&& 4294967295) = uN x % 4294967296 := by
  show (x.toUInt64 &&& Int64.toUInt64 4294967295).toNat = _
  rw [UInt64.toNat_and]
  exact Nat.and_two_pow_sub_one_eq_mod _ 32
theorem uN_bit (x : Int64) : (x &&& 1) = 0 ↔ uN x % 2 = 0 := by
  have h : uN (x &&& 1) = uN x % 2 := by
    show (x.toUInt64 &&& Int64.toUInt64 1).toNat = _
    rw [UInt64.toNat_and]
    exact Nat.and_two_pow_sub_one_eq_mod _ 1
  rw [← h]
  exact ⟨fun z => by rw [z]; rfl, fun z => uN_inj (z.trans rfl)⟩
theorem uN_or {x y : Int64} (hy : uN y < 2) : uN ((x <<< ((1 : Int32).toInt64 &&& 63)) ||| y) = (2 * uN x) % 18446744073709551616 + uN y := by
  have h1 : uN ((x <<< ((1 : Int32).toInt64 &&& 63)) ||| y) = uN (x <<< ((1 : Int32).toInt64 &&& 63)) ||| uN y := UInt64.toNat_or _ _
  have h2 : (2 * uN x) % 18446744073709551616 = 2 ^ 1 * (uN x % 9223372036854775808) := by omega
  rw [h1, uN_shl, h2]
  exact (Nat.two_pow_add_eq_or_of_lt (i := 1) hy _).symm
theorem nat_xor {a : Nat} (h : a < 18446744073709551616) : a ^^^ 2 ^ 63 = (a + 9223372036854775808) % 18446744073709551616 := by
  have h1 : (a ^^^ 2 ^ 63) % 2 ^ 63 = a % 2 ^ 63 := by rw [Nat.xor_mod_two_pow, Nat.mod_self, Nat.xor_zero]
  have h2 : (a ^^^ 2 ^ 63) / 2 ^ 63 = (a / 2 ^ 63) ^^^ 1 := by rw [Nat.xor_div_two_pow, Nat.div_self (Nat.two_pow_pos 63)]
  have h3 : a / 2 ^ 63 = 0 ∨ a / 2 ^ 63 = 1 := by omega
  generalize a ^^^ 2 ^ 63 = t at h1 h2
  rcases h3 with h3 | h3
  · rw [h3] at h2
    have h2 : t / 2 ^ 63 = 1 := h2
    omega
  · rw [h3] at h2
    have h2 : t / 2 ^ 63 = 0 := h2
    omega
theorem uN_xor (x : Int64) : uN (x ^^^ (-9223372036854775808)) = (uN x + 9223372036854775808) % 18446744073709551616 := by
  rw [← nat_xor (uN_lt x)]
  exact UInt64.toNat_xor _ _
theorem uN_int (x : Int64) : x.toInt = if 2 * uN x < 18446744073709551616 then (uN x : Int) else (uN x : Int) - 18446744073709551616 := BitVec.toInt_eq_toNat_cond _
theorem uN_le (x y : Int64) : (x ^^^ (-9223372036854775808)) ≤ (y ^^^ (-9223372036854775808)) ↔ uN x ≤ uN y := by
  have hx := uN_lt x
  have hy := uN_lt y
  rw [Int64.le_iff_toInt_le, uN_int, uN_int, uN_xor, uN_xor]
  omega
theorem uN_sk (x : Int64) {k : Nat} (hk : k < 64) : uN (x.toUInt64 >>> ((nI k).toInt64.toUInt64 &&& Int64.toUInt64 63)).toInt64 = uN x / 2 ^ k := by
  have h : ((nI k).toInt64.toUInt64 &&& Int64.toUInt64 63).toNat % 64 = k := by
    rw [nI_l (by omega), UInt64.toNat_and]
    have e : (lN k).toUInt64.toNat = k % 2 ^ 64 := rfl
    have e2 : (Int64.toUInt64 63).toNat = 2 ^ 6 - 1 := by decide
    rw [e, e2, Nat.and_two_pow_sub_one_eq_mod]
    omega
  rw [uN_shr, h]
/-! ===== Int64 masks of n low bits ===== -/
theorem cr_bits (W U M : BitVec 64) : ((W &&& U) &&& (U &&& (M ^^^ BitVec.allOnes 64))) = 0#64 ↔ (W &&& U) &&& M = W &&& U := by
  constructor
  · intro h
    apply BitVec.eq_of_getLsbD_eq
    intro i hi
    have e := congrArg (fun x => BitVec.getLsbD x i) h
    simp only [BitVec.getLsbD_and, BitVec.getLsbD_xor, BitVec.getLsbD_allOnes, BitVec.getLsbD_zero, hi, decide_true] at e ⊢
    revert e
    cases W.getLsbD i <;> cases U.getLsbD i <;> cases M.getLsbD i <;> decide
  · intro h
    apply BitVec.eq_of_getLsbD_eq
    intro i hi
    have e := congrArg (fun x => BitVec.getLsbD x i) h
    simp only [BitVec.getLsbD_and, BitVec.getLsbD_xor, BitVec.getLsbD_allOnes, BitVec.getLsbD_zero, hi, decide_true] at e ⊢
    revert e
    cases W.getLsbD i <;> cases U.getLsbD i <;> cases M.getLsbD i <;> decide
theorem cr_mask (w U m : Int64) (n : Nat) (hm : m.toBitVec.toNat = 2 ^ n - 1) : ((w &&& U) &&& (U &&& (m ^^^ (-1)))) = 0 ↔ (w &&& U).toBitVec.toNat < 2 ^ n := by
  have e0 : (-1 : Int64).toBitVec = BitVec.allOnes 64 := by decide
  have z0 : (0 : Int64).toBitVec = 0#64 := by decide
  rw [← Int64.toBitVec_inj, z0, Int64.toBitVec_and, Int64.toBitVec_and, Int64.toBitVec_and, Int64.toBitVec_xor, e0, cr_bits]
  generalize w.toBitVec &&& U.toBitVec = T
  rw [← BitVec.toNat_inj, BitVec.toNat_and, hm, Nat.and_two_pow_sub_one_eq_mod]
  constructor
  · intro h
    have t := Nat.mod_lt T.toNat (Nat.two_pow_pos n)
    rw [h] at t
    exact t
  · exact Nat.mod_eq_of_lt
theorem cr_shr (t : Int64) (x : UInt64) (n : Nat) (hx : x.toNat % 64 = n) : (t.toUInt64 >>> x).toInt64 = 0 ↔ t.toBitVec.toNat < 2 ^ n := by
  rw [← Int64.toBitVec_inj, ← BitVec.toNat_inj]
  show (t.toUInt64 >>> x).toNat = 0 ↔ t.toUInt64.toNat < 2 ^ n
  rw [UInt64.toNat_shiftRight, hx, Nat.shiftRight_eq_div_pow]
  constructor
  · intro h
    have d : t.toUInt64.toNat / 2 ^ n < 1 := by
      rw [h]
      decide
    have e := (Nat.div_lt_iff_lt_mul (Nat.two_pow_pos n)).mp d
    rw [Nat.one_mul] at e
    exact e
  · exact Nat.div_eq_of_lt
theorem cr_amt (s : Int64) : ∃ n, n < 64 ∧ s &&& 63 = lN n ∧ (s.toUInt64 &&& Int64.toUInt64 63).toNat % 64 = n := by
  have e : (s.toUInt64 &&& Int64.toUInt64 63).toNat = s.toUInt64.toNat % 2 ^ 6 := by
    rw [UInt64.toNat_and, show (Int64.toUInt64 63).toNat = 2 ^ 6 - 1 from by decide, Nat.and_two_pow_sub_one_eq_mod]
  refine ⟨s.toUInt64.toNat % 2 ^ 6, by omega, ?_, by omega⟩
  rw [← Int64.toBitVec_inj, ← BitVec.toNat_inj]
  show (s.toUInt64 &&& Int64.toUInt64 63).toNat = (BitVec.ofNat 64 (s.toUInt64.toNat % 2 ^ 6)).toNat
  rw [e, BitVec.toNat_ofNat]
  omega
end
section
/-! plain rows for the pure side -/
theorem nI_lt' {a b : Nat} (ha : a < 2147483648) (hb : b < 2147483648) : (nI a < nI b) = (a < b) := propext (nI_ltI ha hb)
theorem nI_le' {a b : Nat} (ha : a < 2147483648) (hb : b < 2147483648) : (nI a ≤ nI b) = (a ≤ b) := propext (nI_leI ha hb)
theorem nI_eq' {a b : Nat} (ha : a < 2147483648) (hb : b < 2147483648) : (nI a = nI b) = (a = b) := propext (nI_eq ha hb)
theorem nI_mul' (a b : Nat) : nI a * nI b = nI (a * b) := pk_mul a b
theorem clp {n : Nat} (h : n < 2147483648) : (nI n).toNatClampNeg = n := nI_clamp h
theorem inb_nI {j m : Nat} (h : j < m) (hm : j < 2147483648) : inb (nI j) m = true := by
  unfold inb
  rw [clp hm]
  have h1 : ¬ nI j < 0 := nI_pos hm
  have h2 : Nat.ble m j = false := by
    cases hq : Nat.ble m j with
    | false => rfl
    | true => exact absurd (Nat.le_of_ble_eq_true hq) (by omega)
  rw [h2, decide_eq_false h1]
  rfl
theorem inb_of {x : Int32} {m : Nat} (h : inb x m = true) (hm : m < 2147483648) : ∃ j, j < m ∧ x = nI j := by
  obtain ⟨j, h1, h2⟩ := vp_in_of (inb_in h) (by omega)
  exact ⟨j, h1, h2⟩
def tI (b : Bool) : Int32 := nI b.toNat
theorem tI_t : tI true = nI 1 := rfl
theorem tI_f : tI false = nI 0 := rfl
theorem tI_0 (b : Bool) : (tI b = nI 0) = (b = false) := by cases b <;> decide
theorem tI_B (b : Bool) : isB (tI b) = true := by cases b <;> decide
theorem ite_tI {α : Type} (b : Bool) (x y : α) : (if tI b = nI 0 then x else y) = if b = true then y else x := by cases b <;> rfl
theorem m1_nI (n : Nat) : nI (n + 1) + Int32.ofInt (-1) = nI n := pk_m1 n
theorem sub_nI {a b : Nat} (h : b ≤ a) : nI a - nI b = nI (a - b) := pk_sub h
theorem or_nI (a b : Nat) : nI a ||| nI b = nI (a ||| b) := fa_or a b
theorem and_nI (a b : Nat) : nI a &&& nI b = nI (a &&& b) := fa_and a b
theorem shl_nI : ∀ k, k < 31 → nI 1 <<< (nI k &&& 31) = nI (2 ^ k) := by decide +kernel
theorem sub1_nI {n : Nat} (h : 0 < n) : nI n - nI 1 = nI (n - 1) := pk_sub h
/-- a set of numbers below k, as bits -/
def bset (f : Nat → Bool) : Nat → Nat
  | 0 => 0
  | k + 1 => bset f k ||| (if f k then 2 ^ k else 0)
theorem bset_lt (f : Nat → Bool) : ∀ k, bset f k < 2 ^ k := by
  intro k
  induction k with
  | zero => exact Nat.one_pos
  | succ k ih =>
    have h1 : bset f k < 2 ^ (k + 1) := Nat.lt_of_lt_of_le ih (Nat.pow_le_pow_right (by decide) (Nat.le_succ k))
    show bset f k ||| (if f k then 2 ^ k else 0) < 2 ^ (k + 1)
    refine Nat.or_lt_two_pow h1 ?_
    split
    · exact Nat.pow_lt_pow_right (by decide) (Nat.lt_succ_self k)
    · exact Nat.two_pow_pos _
theorem bset_bit (f : Nat → Bool) : ∀ k i, (bset f k).testBit i = (decide (i < k) && f i) := by
  intro k
  induction k with
  | zero => intro i; simp [bset]
  | succ k ih =>
    intro i
    show (bset f k ||| (if f k then 2 ^ k else 0)).testBit i = _
    rw [Nat.testBit_or, ih]
    by_cases hk : f k = true
    · rw [if_pos hk, Nat.testBit_two_pow]
      by_cases hi : i = k
      · subst hi; simp [hk]
      · have : ¬ k = i := fun z => hi z.symm
        by_cases hl : i < k
        · simp [hl, Nat.lt_succ_of_lt hl, this]
        · have : ¬ i < k + 1 := by omega
          simp [hl, this]; omega
    · rw [if_neg hk, Nat.zero_testBit]
      by_cases hi : i = k
      · subst hi; simp at hk; simp [hk]
      · by_cases hl : i < k
        · simp [hl, Nat.lt_succ_of_lt hl]
        · have : ¬ i < k + 1 := by omega
          simp [hl, this]
theorem bset_cong {f g : Nat → Bool} : ∀ {k}, (∀ i, i < k → f i = g i) → bset f k = bset g k := by
  intro k
  induction k with
  | zero => intro _; rfl
  | succ k ih => intro h; unfold bset; rw [ih (fun i hi => h i (Nat.lt_succ_of_lt hi)), h k (Nat.lt_succ_self k)]
theorem bset_add (f : Nat → Bool) (k : Nat) : nI (bset f k) ||| (nI 1 <<< (nI k &&& 31)) = nI (bset f k ||| 2 ^ k) ∨ 31 ≤ k := by
  by_cases h : k < 31
  · left; rw [shl_nI k h, or_nI]
  · right; omega
theorem bset_t {f : Nat → Bool} {k : Nat} (hk : k < 31) (h : f k = true) : nI (bset f k) ||| (nI 1 <<< (nI k &&& 31)) = nI (bset f (k + 1)) := by
  rw [shl_nI k hk, or_nI]
  show nI (bset f k ||| 2 ^ k) = nI (bset f k ||| (if f k then 2 ^ k else 0))
  rw [if_pos h]
theorem bset_f {f : Nat → Bool} {k : Nat} (h : f k = false) : nI (bset f k) = nI (bset f (k + 1)) := by
  show nI (bset f k) = nI (bset f k ||| (if f k then 2 ^ k else 0))
  rw [h]; simp
theorem bset_f0 {f : Nat → Bool} {k : Nat} (h : f k = false) : nI (bset f k) ||| nI 0 = nI (bset f (k + 1)) := by
  rw [or_nI, Nat.or_zero]; exact bset_f h
/-! steps, as both sides know them -/
def ahB (th : Nat → Nat) (s u : Nat) : Bool := decide (s < u) && decide (th s = th u)
def cfB (th ce : Nat → Nat) (wr : Nat → Bool) (s u : Nat) : Bool := !decide (th s = th u) && decide (ce s = ce u) && (wr s || wr u)
def kdN (wr : Nat → Bool) (s u : Nat) : Nat := bif wr s then (bif wr u then 1 else 0) else (bif wr u then 3 else 2)
theorem kdN_lt (wr : Nat → Bool) (s u : Nat) : kdN wr s u < 4 := by unfold kdN; cases wr s <;> cases wr u <;> decide
/-- must wait, fences aside -/
def bdB (ce : Nat → Nat) (wr : Nat → Bool) (K s u : Nat) : Bool := decide (ce s = ce u) || !K.testBit (kdN wr s u)
def btw (s u : Nat) : Nat := 2 ^ (u + 1) - 2 ^ (s + 1)
def wtB (th ce : Nat → Nat) (wr : Nat → Bool) (F K u s : Nat) : Bool := ahB th s u && (bdB ce wr K s u || decide (F &&& btw s u ≠ 0))
end
section
/-! the reference: steps, conflicts, waits -/
def RPm (I : Nat → Nat → Int32) (n : Nat) (th ce : Nat → Nat) (wr : Nat → Bool) : Prop := I 0 1 = nI n ∧ n ≤ 8 ∧ ∀ s, s < n → I 1 s = nI (th s) ∧ I 2 s = nI (ce s) ∧ I 3 s = tI (wr s) ∧ th s < 3 ∧ ce s < 3
theorem RPm.cong {I I' : Nat → Nat → Int32} {n : Nat} {th ce : Nat → Nat} {wr : Nat → Bool} (h : RPm I n th ce wr) (h0 : I' 0 1 = I 0 1) (h1 : I' 1 = I 1) (h2 : I' 2 = I 2) (h3 : I' 3 = I 3) : RPm I' n th ce wr := by
  refine ⟨h0.trans h.1, h.2.1, fun s hs => ?_⟩
  rw [h1, h2, h3]
  exact h.2.2 s hs
section MP
variable {I : Nat → Nat → Int32} {J : Nat → Nat → Int64} {n : Nat} {th ce : Nat → Nat} {wr : Nat → Bool} {s u F K : Nat}
theorem mAh (h : RPm I n th ce wr) (hs : s < n) (hu : u < n) : fX12_isAhead [.ref 0, .int (nI s), .int (nI u)] (mH I J) = some (some (.int (tI (ahB th s u))), mH I J) := by
  have hn := h.2.1
  obtain ⟨a1, -, -, a4, -⟩ := h.2.2 s hs
  obtain ⟨b1, -, -, b4, -⟩ := h.2.2 u hu
  rw [eX12_isAhead]
  simp (disch := omega) only [nI_lt', nI_le', nI_eq', inb_nI, clp, nI_add, nI_mul', cond_true, cond_false, a1, b1]
  unfold ahB
  by_cases x : s < u
  · rw [if_neg (by omega)]
    by_cases y : th s = th u <;> simp [x, y, tI]
  · rw [if_pos (by omega)]; simp [x, tI]
theorem hasM : ∀ k, k < 31 → ∀ {F : Nat}, F < 2147483648 → (nI F >>> (nI k &&& 31)) &&& nI 1 = nI (F.testBit k).toNat := by
  intro k hk F hF
  have e : nI F >>> (nI k &&& 31) = nI (F / 2 ^ k) := pk_shrN hF (nI k &&& 31) k (s_l k (by omega))
  rw [e, and_nI]
  congr 1
  rw [Nat.testBit_eq_decide_div_mod_eq, Nat.and_one_is_mod]
  rcases Nat.mod_two_eq_zero_or_one (F / 2 ^ k) with z | z <;> simp [z]
theorem mHas (hF : F < 2147483648) {k : Nat} (hk : k < 31) : fX12_has [.int (nI F), .int (nI k)] (mH I J) = some (some (.int (tI (F.testBit k))), mH I J) := by
  rw [eX12_has, hasM k hk hF]
  cases F.testBit k <;> rfl
theorem mKind (h : RPm I n th ce wr) (hs : s < n) (hu : u < n) : fX12_kind [.ref 0, .int (nI s), .int (nI u)] (mH I J) = some (some (.int (nI (kdN wr s u))), mH I J) := by
  have hn := h.2.1
  obtain ⟨-, -, a3, -⟩ := h.2.2 s hs
  obtain ⟨-, -, b3, -⟩ := h.2.2 u hu
  rw [eX12_kind]
  simp (disch := omega) only [nI_lt', nI_le', nI_eq', inb_nI, clp, nI_add, nI_mul', cond_true, cond_false, a3, b3, ite_tI]
  unfold kdN
  cases wr s <;> cases wr u <;> rfl
theorem mBd (h : RPm I n th ce wr) (hK : I 0 7 = nI K) (hKl : K < 16) (hs : s < n) (hu : u < n) : fX12_isBound [.ref 0, .int (nI s), .int (nI u)] (mH I J) = some (some (.int (tI (bdB ce wr K s u))), mH I J) := by
  have hn := h.2.1
  obtain ⟨-, a2, -, -, a5⟩ := h.2.2 s hs
  obtain ⟨-, b2, -, -, b5⟩ := h.2.2 u hu
  have hk := kdN_lt wr s u
  rw [eX12_isBound]
  simp (disch := omega) only [nI_lt', nI_le', nI_eq', inb_nI, clp, nI_add, nI_mul', cond_true, cond_false, callK_some, Option.toList_some, Option.toList_none, List.cons_append, List.nil_append, a2, b2, mKind h hs hu, bX12_isBound_25, hK, mHas, bX12_isBound_28, ite_tI]
  unfold bdB
  by_cases x : ce s = ce u
  · simp [x, tI]
  · rw [if_neg x]
    cases hq : K.testBit (kdN wr s u) <;> simp [x, tI]
theorem btw_I : ∀ s, s < 8 → ∀ u, u < 8 → s < u → (nI 1 <<< ((nI u + nI 1) &&& 31)) - (nI 1 <<< ((nI s + nI 1) &&& 31)) = nI (btw s u) := by decide +kernel
theorem btw_lt : ∀ s, s < 8 → ∀ u, u < 8 → btw s u < 512 := by decide +kernel
theorem mBtw (hs : s < u) (hu : u < 8) : fX12_between [.int (nI s), .int (nI u)] (mH I J) = some (some (.int (nI (btw s u))), mH I J) := by
  rw [eX12_between, btw_I s (by omega) u hu hs]
theorem and_lt {a b m : Nat} (h : b < m) : a &&& b < m := Nat.lt_of_le_of_lt Nat.and_le_right h
theorem mWt_loop (h : RPm I n th ce wr) (hF : I 0 6 = nI F) (hK : I 0 7 = nI K) (hKl : K < 16) (hu : u < n) : ∀ d k, k + d = u → run mX12_waits (4, 0, 0, [.ref 0, .int (nI u), .int (nI (bset (wtB th ce wr F K u) k)), .int (nI k)], [], mH I J) = some (some (.int (nI (bset (wtB th ce wr F K u) u))), mH I J) := by
  have hn := h.2.1
  intro d
  induction d with
  | zero =>
    intro k hk
    have : k = u := by omega
    subst this
    rw [bX12_waits_4]
    simp (disch := omega) only [nI_lt', nI_le', nI_eq', inb_nI, clp, nI_add, nI_mul', cond_true, cond_false, Nat.le_refl, if_true]
  | succ d ih =>
    intro k hk
    have hb := btw_lt k (by omega) u (by omega)
    have ih' := ih (k + 1) (by omega)
    rw [bX12_waits_4]
    simp (disch := omega) only [nI_lt', nI_le', nI_eq', inb_nI, clp, nI_add, nI_mul', cond_true, cond_false, callK_some, Option.toList_some, Option.toList_none, List.cons_append, List.nil_append, mAh h (show k < n by omega) hu, bX12_waits_15, ite_tI]
    rw [if_neg (by omega)]
    cases ha : ahB th k u with
    | false =>
      have hf : wtB th ce wr F K u k = false := by unfold wtB; rw [ha]; rfl
      rw [bset_f hf]
      exact ih'
    | true =>
      have hku : k < u := by omega
      simp (disch := omega) only [if_true, callK_some, Option.toList_some, Option.toList_none, List.cons_append, List.nil_append, nI_add, mBd h hK hKl (show k < n by omega) hu, bX12_waits_24, ite_tI]
      cases hbd : bdB ce wr K k u with
      | true =>
        have hf : wtB th ce wr F K u k = true := by unfold wtB; rw [ha, hbd]; rfl
        simp only [if_true]
        rw [bset_t (by omega) hf]
        exact ih'
      | false =>
        have hlt : F &&& btw k u < 512 := and_lt hb
        simp (disch := omega) only [Bool.false_eq_true, if_false, callK_some, Option.toList_some, Option.toList_none, List.cons_append, List.nil_append, nI_add, mBtw, bX12_waits_36, hF, and_nI, nI_eq']
        by_cases hz : F &&& btw k u = 0
        · have hf : wtB th ce wr F K u k = false := by unfold wtB; rw [ha, hbd]; simp [hz]
          rw [if_pos hz, bset_f hf]
          exact ih'
        · have hf : wtB th ce wr F K u k = true := by unfold wtB; rw [ha, hbd]; simp [hz]
          rw [if_neg hz, bset_t (by omega) hf]
          exact ih'
theorem mWt (h : RPm I n th ce wr) (hF : I 0 6 = nI F) (hK : I 0 7 = nI K) (hKl : K < 16) (hu : u < n) : fX12_waits [.ref 0, .int (nI u)] (mH I J) = some (some (.int (nI (bset (wtB th ce wr F K u) u))), mH I J) := by
  rw [eX12_waits]
  exact mWt_loop h hF hK hKl hu u 0 (by omega)
theorem mCf (h : RPm I n th ce wr) (hs : s < n) (hu : u < n) : fX12_isConflict [.ref 0, .int (nI s), .int (nI u)] (mH I J) = some (some (.int (tI (cfB th ce wr s u))), mH I J) := by
  have hn := h.2.1
  obtain ⟨a1, a2, a3, a4, a5⟩ := h.2.2 s hs
  obtain ⟨b1, b2, b3, b4, b5⟩ := h.2.2 u hu
  rw [eX12_isConflict]
  simp (disch := omega) only [nI_lt', nI_le', nI_eq', inb_nI, clp, nI_add, nI_mul', cond_true, cond_false, a1, b1, a2, b2, a3, b3, ite_tI]
  unfold cfB
  by_cases x : th s = th u
  · simp [x, tI]
  · by_cases y : ce s = ce u
    · cases wr s <;> cases wr u <;> simp [x, y, tI]
    · simp [x, y, tI]
theorem mCs_loop (h : RPm I n th ce wr) (hs : s < n) : ∀ d k, k + d = n → run mX12_conflicts (4, 0, 0, [.ref 0, .int (nI s), .int (nI (bset (cfB th ce wr s) k)), .int (nI k)], [], mH I J) = some (some (.int (nI (bset (cfB th ce wr s) n))), mH I J) := by
  have hn := h.2.1
  intro d
  induction d with
  | zero =>
    intro k hk
    have : k = n := by omega
    subst this
    rw [bX12_conflicts_4]
    simp (disch := omega) only [nI_lt', nI_le', nI_eq', inb_nI, clp, nI_add, nI_mul', cond_true, cond_false, h.1, Nat.le_refl, if_true]
  | succ d ih =>
    intro k hk
    have ih' := ih (k + 1) (by omega)
    rw [bX12_conflicts_4]
    simp (disch := omega) only [nI_lt', nI_le', nI_eq', inb_nI, clp, nI_add, nI_mul', cond_true, cond_false, callK_some, Option.toList_some, Option.toList_none, List.cons_append, List.nil_append, h.1, mCf h hs (show k < n by omega), bX12_conflicts_19, ite_tI]
    rw [if_neg (by omega)]
    cases hc : cfB th ce wr s k with
    | false =>
      simp only [Bool.false_eq_true, if_false]
      rw [bset_f0 hc]
      exact ih'
    | true =>
      simp only [if_true]
      rw [bset_t (by omega) hc]
      exact ih'
theorem mCs (h : RPm I n th ce wr) (hs : s < n) : fX12_conflicts [.ref 0, .int (nI s)] (mH I J) = some (some (.int (nI (bset (cfB th ce wr s) n))), mH I J) := by
  rw [eX12_conflicts]
  exact mCs_loop h hs n 0 (by omega)
end MP
end
section
/-! the class: steps, conflicts, waits -/
def gpB (th : Nat → Nat) (g : Nat) : Bool := decide (0 < g) && decide (th g = th (g - 1))
def RPx (I : Nat → Nat → Int32) (P n : Nat) (th ce : Nat → Nat) (wr : Nat → Bool) : Prop := I P 3 = nI n ∧ n ≤ 8 ∧ (∀ s, s < n → I (P + 1) s = nI (th s) ∧ I (P + 2) s = nI (ce s) ∧ th s < 3 ∧ ce s < 3) ∧ I P 4 = nI (bset wr n) ∧ I P 5 = nI (bset (gpB th) n)
theorem RPx.cong {I I' : Nat → Nat → Int32} {P : Nat} {n : Nat} {th ce : Nat → Nat} {wr : Nat → Bool} (h : RPx I P n th ce wr) (h0 : I' P 3 = I P 3) (h4 : I' P 4 = I P 4) (h5 : I' P 5 = I P 5) (h1 : I' (P + 1) = I (P + 1)) (h2 : I' (P + 2) = I (P + 2)) : RPx I' P n th ce wr := by
  refine ⟨h0.trans h.1, h.2.1, fun s hs => ?_, h4.trans h.2.2.2.1, h5.trans h.2.2.2.2⟩
  rw [h1, h2]
  exact h.2.2.1 s hs
theorem bset_small (f : Nat → Bool) {k : Nat} (h : k ≤ 8) : bset f k < 256 := Nat.lt_of_lt_of_le (bset_lt f k) (Nat.pow_le_pow_right (by decide) h)
theorem bitU : ∀ k, k < 31 → ∀ {F : Nat}, F < 2147483648 → ((Int32.toUInt32 (nI F) >>> (Int32.toUInt32 (nI k) &&& Int32.toUInt32 31)).toInt32) &&& nI 1 = nI (F.testBit k).toNat := by
  intro k hk F hF
  have e : ((nI F).toUInt32 >>> ((nI k).toUInt32 &&& Int32.toUInt32 31)).toInt32 = nI (F / 2 ^ k) := pk_ushrN (by omega) (nI k) k (s_u k (by omega))
  rw [e, and_nI]
  congr 1
  rw [Nat.testBit_eq_decide_div_mod_eq, Nat.and_one_is_mod]
  rcases Nat.mod_two_eq_zero_or_one (F / 2 ^ k) with z | z <;> simp [z]
section CP
variable {I : Nat → Nat → Int32} {J : Nat → Nat → Int64} {pl st : Bool} {n : Nat} {th ce : Nat → Nat} {wr : Nat → Bool} {s u F K P : Nat}
theorem cHas (hF : F < 2147483648) {k : Nat} (hk : k < 31) : fX11_has [.int (nI F), .int (nI k)] (cH I J pl st) = some (some (.int (tI (F.testBit k))), cH I J pl st) := by
  rw [eX11_has]
  simp (disch := omega) only [nI_lt', nI_le', nI_eq', inb_nI, clp, nI_add, nI_mul', cond_true, cond_false, bitU k hk hF, Nat.not_lt_zero, if_false]
  rw [if_neg (by omega)]
  cases F.testBit k <;> rfl
theorem cTh (hP : P = 4 ∨ P = 7) (h : RPx I P n th ce wr) (hs : s < n) : fX6_threadOf [.ref P, .int (nI s)] (cH I J pl st) = some (some (.int (nI (th s))), cH I J pl st) := by
  have hn := h.2.1
  obtain ⟨a1, -, -, -⟩ := h.2.2.1 s hs
  rw [eX6_threadOf (hP := hP)]
  simp (disch := omega) only [nI_lt', nI_le', nI_eq', inb_nI, clp, nI_add, nI_mul', cond_true, cond_false, a1, Nat.not_lt_zero, if_false]
  rw [if_neg (by omega)]
theorem cCe (hP : P = 4 ∨ P = 7) (h : RPx I P n th ce wr) (hs : s < n) : fX6_cellOf [.ref P, .int (nI s)] (cH I J pl st) = some (some (.int (nI (ce s))), cH I J pl st) := by
  have hn := h.2.1
  obtain ⟨-, a1, -, -⟩ := h.2.2.1 s hs
  rw [eX6_cellOf (hP := hP)]
  simp (disch := omega) only [nI_lt', nI_le', nI_eq', inb_nI, clp, nI_add, nI_mul', cond_true, cond_false, a1, Nat.not_lt_zero, if_false]
  rw [if_neg (by omega)]
theorem cWr (hP : P = 4 ∨ P = 7) (h : RPx I P n th ce wr) (hs : s < n) : fX6_isWriter [.ref P, .int (nI s)] (cH I J pl st) = some (some (.int (tI (wr s))), cH I J pl st) := by
  have hn := h.2.1
  have hb := bset_small wr hn
  rw [eX6_isWriter (hP := hP), h.2.2.2.1, bitU s (by omega) (by omega), bset_bit]
  simp (disch := omega) only [nI_lt', nI_le', Nat.not_lt_zero, if_false]
  rw [if_neg (by omega)]
  simp only [hs, decide_true, Bool.true_and]
  cases wr s <;> rfl
theorem cAh (hP : P = 4 ∨ P = 7) (h : RPx I P n th ce wr) (hs : s < n) (hu : u < n) : fX6_isAhead [.ref P, .int (nI s), .int (nI u)] (cH I J pl st) = some (some (.int (tI (ahB th s u))), cH I J pl st) := by
  have hn := h.2.1
  obtain ⟨-, -, a4, -⟩ := h.2.2.1 s hs
  obtain ⟨-, -, b4, -⟩ := h.2.2.1 u hu
  rw [eX6_isAhead (hP := hP)]
  simp (disch := omega) only [nI_lt', nI_le', nI_eq', inb_nI, clp, nI_add, nI_mul', cond_true, cond_false, callK_some, Option.toList_some, Option.toList_none, List.cons_append, List.nil_append, cTh hP h hs, cTh hP h hu, bX6_isAhead_10 (hP := hP), bX6_isAhead_15 (hP := hP)]
  unfold ahB
  by_cases x : s < u
  · rw [if_neg (by omega)]
    by_cases y : th s = th u <;> simp [x, y, tI]
  · rw [if_pos (by omega)]; simp [x, tI]
theorem cCf (hP : P = 4 ∨ P = 7) (h : RPx I P n th ce wr) (hs : s < n) (hu : u < n) : fX6_areInConflict [.ref P, .int (nI s), .int (nI u)] (cH I J pl st) = some (some (.int (tI (cfB th ce wr s u))), cH I J pl st) := by
  have hn := h.2.1
  obtain ⟨-, -, a4, a5⟩ := h.2.2.1 s hs
  obtain ⟨-, -, b4, b5⟩ := h.2.2.1 u hu
  rw [eX6_areInConflict (hP := hP)]
  simp (disch := omega) only [nI_lt', nI_le', nI_eq', inb_nI, clp, nI_add, nI_mul', cond_true, cond_false, callK_some, Option.toList_some, Option.toList_none, List.cons_append, List.nil_append, cTh hP h hs, cTh hP h hu, cCe hP h hs, cCe hP h hu, cWr hP h hs, cWr hP h hu, bX6_areInConflict_5 (hP := hP), bX6_areInConflict_10 (hP := hP), bX6_areInConflict_18 (hP := hP), bX6_areInConflict_23 (hP := hP), bX6_areInConflict_31 (hP := hP), bX6_areInConflict_39 (hP := hP), ite_tI]
  unfold cfB
  by_cases x : th s = th u
  · simp [x, tI]
  · by_cases y : ce s = ce u
    · cases wr s <;> cases wr u <;> simp [x, y, tI]
    · simp [x, y, tI]
theorem cCs_loop (hP : P = 4 ∨ P = 7) (h : RPx I P n th ce wr) (hs : s < n) : ∀ d k, k + d = n → run mX6_conflictsOf (4, 0, 0, [.ref P, .int (nI s), .int (nI (bset (cfB th ce wr s) k)), .int (nI k)], [], cH I J pl st) = some (some (.int (nI (bset (cfB th ce wr s) n))), cH I J pl st) := by
  have hn := h.2.1
  intro d
  induction d with
  | zero =>
    intro k hk
    have : k = n := by omega
    subst this
    rw [bX6_conflictsOf_4 (hP := hP)]
    simp (disch := omega) only [nI_lt', nI_le', nI_eq', inb_nI, clp, nI_add, nI_mul', cond_true, cond_false, h.1, Nat.le_refl, if_true]
  | succ d ih =>
    intro k hk
    have ih' := ih (k + 1) (by omega)
    rw [bX6_conflictsOf_4 (hP := hP)]
    simp (disch := omega) only [nI_lt', nI_le', nI_eq', inb_nI, clp, nI_add, nI_mul', cond_true, cond_false, callK_some, Option.toList_some, Option.toList_none, List.cons_append, List.nil_append, h.1, cCf hP h hs (show k < n by omega), bX6_conflictsOf_18 (hP := hP), ite_tI]
    rw [if_neg (by omega)]
    cases hc : cfB th ce wr s k with
    | false =>
      simp only [Bool.false_eq_true, if_false]
      rw [bset_f hc]
      exact ih'
    | true =>
      simp only [if_true]
      rw [bset_t (by omega) hc]
      exact ih'
theorem cCs (hP : P = 4 ∨ P = 7) (h : RPx I P n th ce wr) (hs : s < n) : fX6_conflictsOf [.ref P, .int (nI s)] (cH I J pl st) = some (some (.int (nI (bset (cfB th ce wr s) n))), cH I J pl st) := by
  rw [eX6_conflictsOf (hP := hP)]
  exact cCs_loop hP h hs n 0 (by omega)
theorem cKd (hP : P = 4 ∨ P = 7) (h : RPx I P n th ce wr) (hs : s < n) (hu : u < n) : fX6_kindOf [.ref P, .int (nI s), .int (nI u)] (cH I J pl st) = some (some (.int (nI (kdN wr s u))), cH I J pl st) := by
  rw [eX6_kindOf (hP := hP)]
  simp (disch := omega) only [callK_some, Option.toList_some, Option.toList_none, List.cons_append, List.nil_append, cWr hP h hs, cWr hP h hu, bX6_kindOf_5 (hP := hP), bX6_kindOf_27 (hP := hP), bX6_kindOf_13 (hP := hP), ite_tI]
  unfold kdN
  cases wr s <;> cases wr u <;> rfl
theorem cMo (hP : P = 4 ∨ P = 7) (h : RPx I P n th ce wr) (hKl : K < 16) (hs : s < n) (hu : u < n) : fX6_mayOvertake [.ref P, .int (nI s), .int (nI u), .int (nI K)] (cH I J pl st) = some (some (.int (tI (!bdB ce wr K s u))), cH I J pl st) := by
  have hn := h.2.1
  obtain ⟨-, -, a4, a5⟩ := h.2.2.1 s hs
  obtain ⟨-, -, b4, b5⟩ := h.2.2.1 u hu
  have hk := kdN_lt wr s u
  rw [eX6_mayOvertake (hP := hP)]
  simp (disch := omega) only [nI_lt', nI_le', nI_eq', inb_nI, clp, nI_add, nI_mul', cond_true, cond_false, callK_some, Option.toList_some, Option.toList_none, List.cons_append, List.nil_append, cCe hP h hs, cCe hP h hu, cKd hP h hs hu, cHas, bX6_mayOvertake_5 (hP := hP), bX6_mayOvertake_10 (hP := hP), bX6_mayOvertake_20 (hP := hP), bX6_mayOvertake_23 (hP := hP), ite_tI]
  unfold bdB
  by_cases x : ce s = ce u
  · simp [x, tI]
  · rw [if_neg x]
    cases hq : K.testBit (kdN wr s u) <;> simp [x, tI]
theorem gb_step : ∀ s, s < 8 → ∀ g, g < 8 → s < g → nI (2 ^ g - 2 ^ (s + 1)) ||| (nI 1 <<< (nI g &&& 31)) = nI (2 ^ (g + 1) - 2 ^ (s + 1)) := by decide +kernel
theorem cGb_loop (hs : s < u) (hu : u < 8) {z : Value} : ∀ d g, g + d = u + 1 → s < g → run mX11_gapsBetween (6, 0, 0, [z, .int (nI u), .int (nI (2 ^ g - 2 ^ (s + 1))), .int (nI g)], [], cH I J pl st) = some (some (.int (nI (btw s u))), cH I J pl st) := by
  intro d
  induction d generalizing z with
  | zero =>
    intro g hg _
    have : g = u + 1 := by omega
    subst this
    rw [bX11_gapsBetween_6]
    simp (disch := omega) only [nI_lt', nI_le', nI_eq', inb_nI, clp, nI_add, nI_mul', cond_true, cond_false]
    rw [if_pos (by omega)]
    rfl
  | succ d ih =>
    intro g hg hsg
    rw [bX11_gapsBetween_6]
    simp (disch := omega) only [nI_lt', nI_le', nI_eq', inb_nI, clp, nI_add, nI_mul', cond_true, cond_false]
    rw [if_neg (by omega), if_neg (by omega), gb_step s (by omega) g (by omega) hsg]
    exact ih (g + 1) (by omega) (by omega)
theorem cGb (hs : s < u) (hu : u < 8) : fX11_gapsBetween [.int (nI s), .int (nI u)] (cH I J pl st) = some (some (.int (nI (btw s u))), cH I J pl st) := by
  rw [eX11_gapsBetween, nI_add]
  have := cGb_loop (I := I) (J := J) (pl := pl) (st := st) (z := .int (nI s)) hs hu (u - s) (s + 1) (by omega) (by omega)
  rw [Nat.sub_self] at this
  exact this
theorem cWt_loop (hP : P = 4 ∨ P = 7) (h : RPx I P n th ce wr) (hFl : F < 256) (hKl : K < 16) (hu : u < n) : ∀ d k (z : Value), k + d = u → run mX6_waitsOf (6, 0, 0, [.ref P, .int (nI u), .int (nI F), .int (nI K), .int (nI (bset (wtB th ce wr F K u) k)), .int (nI k), z], [], cH I J pl st) = some (some (.int (nI (bset (wtB th ce wr F K u) u))), cH I J pl st) := by
  have hn := h.2.1
  intro d
  induction d with
  | zero =>
    intro k z hk
    have : k = u := by omega
    subst this
    rw [bX6_waitsOf_6 (hP := hP)]
    simp (disch := omega) only [nI_lt', nI_le', nI_eq', inb_nI, clp, nI_add, nI_mul', cond_true, cond_false, Nat.le_refl, if_true]
  | succ d ih =>
    intro k z hk
    have hb := btw_lt k (by omega) u (by omega)
    have hlt : F &&& btw k u < 512 := and_lt hb
    have hku : k < u := by omega
    have hkn : k < n := by omega
    rw [bX6_waitsOf_6 (hP := hP)]
    simp (disch := omega) only [nI_lt', nI_le', nI_eq', inb_nI, clp, nI_add, nI_mul', cond_true, cond_false, callK_some, Option.toList_some, Option.toList_none, List.cons_append, List.nil_append, h.1, cGb hku (show u < 8 by omega), bX6_waitsOf_28 (hP := hP), and_nI, cAh hP h hkn hu, bX6_waitsOf_46 (hP := hP), ite_tI, cMo hP h hKl hkn hu, bX6_waitsOf_62 (hP := hP), if_true]
    rw [if_neg (by omega), if_neg (by omega)]
    cases ha : ahB th k u with
    | false =>
      have hf : wtB th ce wr F K u k = false := by unfold wtB; rw [ha]; rfl
      simp only [Bool.false_eq_true, if_false]
      rw [bset_f hf]
      split <;> exact ih (k + 1) _ (by omega)
    | true =>
      simp only [if_true]
      by_cases hz : F &&& btw k u = 0
      · rw [if_pos hz]
        cases hbd : bdB ce wr K k u with
        | true =>
          have hf : wtB th ce wr F K u k = true := by unfold wtB; rw [ha, hbd]; rfl
          simp only [Bool.not_true, Bool.false_eq_true, if_false]
          rw [bset_t (by omega) hf]
          exact ih (k + 1) _ (by omega)
        | false =>
          have hf : wtB th ce wr F K u k = false := by unfold wtB; rw [ha, hbd]; simp [hz]
          simp only [Bool.not_false, if_true]
          rw [bset_f hf]
          exact ih (k + 1) _ (by omega)
      · rw [if_neg hz]
        have hf : wtB th ce wr F K u k = true := by unfold wtB; rw [ha]; simp [hz]
        rw [bset_t (by omega) hf]
        rw [if_neg (by omega)]
        exact ih (k + 1) _ (by omega)
theorem cWt (hP : P = 4 ∨ P = 7) (h : RPx I P n th ce wr) (hFl : F < 256) (hKl : K < 16) (hu : u < n) : fX6_waitsOf [.ref P, .int (nI u), .int (nI F), .int (nI K)] (cH I J pl st) = some (some (.int (nI (bset (wtB th ce wr F K u) u))), cH I J pl st) := by
  rw [eX6_waitsOf (hP := hP)]
  exact cWt_loop hP h hFl hKl hu u 0 _ (by omega)
end CP
end
section
/-! what threads may give: the same list on both sides; sums of ints -/
def gfB (th ce : Nat → Nat) (wr : Nat → Bool) (s u : Nat) : Bool := if s = u then wr s else (ahB th s u && !decide (ce s = ce u))
def gU (th ce : Nat → Nat) (wr : Nat → Bool) (s : Nat) : Nat → List (Nat × Nat)
  | 0 => []
  | k + 1 => gU th ce wr s k ++ (if s ≤ k ∧ gfB th ce wr s k = true then [(s, k)] else [])
def gS (th ce : Nat → Nat) (wr : Nat → Bool) (n : Nat) : Nat → List (Nat × Nat)
  | 0 => []
  | s + 1 => gS th ce wr n s ++ gU th ce wr s n
def tri (n : Nat) : Nat → Nat
  | 0 => 0
  | s + 1 => tri n s + (n - s)
section GL
variable {th ce : Nat → Nat} {wr : Nat → Bool} {n s u k : Nat}
theorem gU_0 : ∀ {k}, k ≤ s → gU th ce wr s k = [] := by
  intro k
  induction k with
  | zero => intro _; rfl
  | succ k ih =>
    intro h
    show gU th ce wr s k ++ _ = []
    rw [ih (by omega), if_neg (by omega)]
    rfl
theorem gU_len : ∀ k, (gU th ce wr s k).length ≤ k - s := by
  intro k
  induction k with
  | zero => exact Nat.zero_le _
  | succ k ih =>
    show (gU th ce wr s k ++ _).length ≤ _
    rw [List.length_append]
    split
    · rename_i h
      have : ([(s, k)] : List (Nat × Nat)).length = 1 := rfl
      omega
    · have : ([] : List (Nat × Nat)).length = 0 := rfl
      omega
theorem gS_len : ∀ s, (gS th ce wr n s).length ≤ tri n s := by
  intro s
  induction s with
  | zero => exact Nat.le_refl _
  | succ s ih =>
    show (gS th ce wr n s ++ gU th ce wr s n).length ≤ tri n s + (n - s)
    rw [List.length_append]
    have := gU_len (th := th) (ce := ce) (wr := wr) (s := s) n
    omega
theorem tri_lt : ∀ n, n ≤ 8 → ∀ s, s < n → ∀ u, u < n → s ≤ u → tri n s + (u - s) < 36 := by decide +kernel
theorem tri_le : ∀ n, n ≤ 8 → tri n n ≤ 36 := by decide +kernel
theorem gSU_lt (hn : n ≤ 8) (hs : s < n) (hu : u < n) (h : s ≤ u) : (gS th ce wr n s ++ gU th ce wr s u).length < 36 := by
  rw [List.length_append]
  have h1 := gS_len (th := th) (ce := ce) (wr := wr) (n := n) s
  have h2 := gU_len (th := th) (ce := ce) (wr := wr) (s := s) u
  have h3 := tri_lt n hn s hs u hu h
  omega
theorem gS_le (hn : n ≤ 8) : (gS th ce wr n n).length ≤ 36 := Nat.le_trans (gS_len n) (tri_le n hn)
theorem gU_mem : ∀ {k} {a : Nat × Nat}, a ∈ gU th ce wr s k → a.1 = s ∧ s ≤ a.2 ∧ a.2 < k ∧ gfB th ce wr s a.2 = true := by
  intro k
  induction k with
  | zero => intro a h; exact absurd h List.not_mem_nil
  | succ k ih =>
    intro a h
    rcases List.mem_append.mp h with z | z
    · obtain ⟨h1, h2, h3, h4⟩ := ih z
      exact ⟨h1, h2, by omega, h4⟩
    · split at z
      · rename_i hc
        have e := List.mem_singleton.mp z
        subst e
        exact ⟨rfl, hc.1, Nat.lt_succ_self _, hc.2⟩
      · exact absurd z List.not_mem_nil
theorem gS_mem : ∀ {s} {a : Nat × Nat}, s ≤ n → a ∈ gS th ce wr n s → a.1 < n ∧ a.1 ≤ a.2 ∧ a.2 < n ∧ gfB th ce wr a.1 a.2 = true := by
  intro s
  induction s with
  | zero => intro a _ h; exact absurd h List.not_mem_nil
  | succ s ih =>
    intro a hs h
    rcases List.mem_append.mp h with z | z
    · exact ih (by omega) z
    · obtain ⟨h1, h2, h3, h4⟩ := gU_mem z
      rw [h1]
      exact ⟨by omega, h2, h3, h4⟩
end GL
def gAt (L : List (Nat × Nat)) (i : Nat) : Nat × Nat := (L[i]?).getD (0, 0)
theorem gAt_mem {L : List (Nat × Nat)} {i : Nat} (h : i < L.length) : gAt L i ∈ L := by
  unfold gAt
  rw [List.getElem?_eq_getElem h]
  exact List.getElem_mem h
def sI (f : Nat → Int32) : Nat → Int32
  | 0 => nI 0
  | n + 1 => sI f n + f n
theorem add_z (x : Int32) : x + nI 0 = x := Int32.add_zero x
theorem z_add (x : Int32) : nI 0 + x = x := Int32.zero_add x
theorem sI_add (f g : Nat → Int32) : ∀ n, sI (fun k => f k + g k) n = sI f n + sI g n := by
  intro n
  induction n with
  | zero => exact (add_z _).symm
  | succ n ih =>
    show sI (fun k => f k + g k) n + (f n + g n) = (sI f n + f n) + (sI g n + g n)
    rw [ih]
    simp only [Int32.add_assoc]
    congr 1
    simp only [← Int32.add_assoc]
    congr 1
    exact Int32.add_comm _ _
theorem sI_cong {f g : Nat → Int32} : ∀ {n}, (∀ k, k < n → f k = g k) → sI f n = sI g n := by
  intro n
  induction n with
  | zero => intro _; rfl
  | succ n ih => intro h; unfold sI; rw [ih (fun k hk => h k (Nat.lt_succ_of_lt hk)), h n (Nat.lt_succ_self n)]
theorem sI_zero {f : Nat → Int32} {n : Nat} (h : ∀ k, k < n → f k = nI 0) : sI f n = nI 0 := by
  rw [sI_cong h]
  induction n with
  | zero => rfl
  | succ n ih => unfold sI; rw [ih (fun k hk => h k (Nat.lt_succ_of_lt hk)), add_z]
def adk (k : Nat) (c : Int32) (q : Nat) : Int32 := if q = k then c else nI 0
theorem up1_add (f : Nat → Int32) (k : Nat) (c : Int32) : up1 f k (f k + c) = fun q => f q + adk k c q := by
  funext q
  unfold up1 adk
  by_cases h : q = k
  · rw [if_pos h, if_pos h, h]
  · rw [if_neg h, if_neg h, add_z]
theorem up1_add' {f : Nat → Int32} {k : Nat} {c x : Int32} (hx : x = f k + c) : up1 f k x = fun q => f q + adk k c q := by rw [hx, up1_add]
def kyN (a : Nat × Nat) : Nat := 8 * a.1 + a.2
def alB (a : Nat × Nat) : Bool := decide (a.1 = a.2)
/-! the reference's rings -/
def lsf {α β : Type} (L : List α) (f : α → β) (g : Nat → β) (k : Nat) : β := match L[k]? with
  | some a => f a
  | none => g k
theorem lsf_in {α β : Type} {L : List α} {f : α → β} {g : Nat → β} {k : Nat} (h : k < L.length) : lsf L f g k = f L[k] := by
  unfold lsf
  rw [List.getElem?_eq_getElem h]
theorem lsf_out {α β : Type} {L : List α} {f : α → β} {g : Nat → β} {k : Nat} (h : L.length ≤ k) : lsf L f g k = g k := by
  unfold lsf
  rw [List.getElem?_eq_none h]
def gsI (I : Nat → Nat → Int32) (L : List (Nat × Nat)) : Nat → Nat → Int32 := fun p k => if p = 13 then lsf L (fun a => nI a.1) (I 13) k else if p = 14 then lsf L (fun a => nI a.2) (I 14) k else if p = 0 then (if k = 22 then nI L.length else I 0 k) else I p k
theorem lst_push {α β : Type} (L : List α) (x : α) (f : α → β) (g : Nat → β) : up1 (lsf L f g) L.length (f x) = lsf (L ++ [x]) f g := by
  funext k
  unfold up1
  by_cases h : k = L.length
  · subst h
    rw [if_pos rfl]
    unfold lsf
    simp
  · rw [if_neg h]
    by_cases hl : k < L.length
    · unfold lsf
      rw [List.getElem?_append_left hl]
    · rw [lsf_out (by omega), lsf_out (by rw [List.length_append, List.length_singleton]; omega)]
theorem gsI_push (I : Nat → Nat → Int32) (L : List (Nat × Nat)) (s u : Nat) : up2 (up2 (up2 (gsI I L) 13 L.length (nI s)) 14 L.length (nI u)) 0 22 (nI L.length + nI 1) = gsI I (L ++ [(s, u)]) := by
  funext p
  by_cases h13 : p = 13
  · subst h13
    rw [up2_ne (by decide), up2_ne (by decide), up2_eq]
    exact lst_push L (s, u) (fun a => nI a.1) (I 13)
  by_cases h14 : p = 14
  · subst h14
    rw [up2_ne (by decide), up2_eq, up2_ne (by decide)]
    exact lst_push L (s, u) (fun a => nI a.2) (I 14)
  by_cases h0 : p = 0
  · subst h0
    rw [up2_eq, up2_ne (by decide), up2_ne (by decide)]
    funext k
    unfold up1
    by_cases hk : k = 22
    · subst hk
      rw [if_pos rfl]
      simp [gsI, nI_add]
    · rw [if_neg hk]
      simp [gsI, hk]
  · rw [up2_ne h0, up2_ne h14, up2_ne h13]
    funext k
    simp [gsI, h13, h14, h0]
theorem gsI_nil {I : Nat → Nat → Int32} : up2 I 0 22 (nI 0) = gsI I [] := by
  funext p
  by_cases h0 : p = 0
  · subst h0
    rw [up2_eq]
    funext k
    unfold up1
    by_cases hk : k = 22
    · subst hk; rfl
    · rw [if_neg hk]; simp [gsI, hk]
  · rw [up2_ne h0]
    funext k
    by_cases h13 : p = 13
    · subst h13; rfl
    · by_cases h14 : p = 14
      · subst h14; rfl
      · simp [gsI, h13, h14, h0]
section MR
variable {I : Nat → Nat → Int32} {J : Nat → Nat → Int64} {n : Nat} {th ce : Nat → Nat} {wr : Nat → Bool}
theorem RPm.gs (h : RPm I n th ce wr) (L : List (Nat × Nat)) : RPm (gsI I L) n th ce wr := h.cong rfl rfl rfl rfl
theorem gU_t {s u : Nat} (h : s ≤ u) (hg : gfB th ce wr s u = true) : gU th ce wr s (u + 1) = gU th ce wr s u ++ [(s, u)] := by
  show gU th ce wr s u ++ _ = _
  rw [if_pos ⟨h, hg⟩]
theorem gU_f {s u : Nat} (hg : gfB th ce wr s u = false) : gU th ce wr s (u + 1) = gU th ce wr s u := by
  show gU th ce wr s u ++ _ = _
  rw [if_neg (fun z => by rw [hg] at z; cases z.2), List.append_nil]
theorem mLg_in (h : RPm I n th ce wr) {s : Nat} (hs : s < n) : ∀ d u, u + d = n → s ≤ u → run mX12_laysGifts (17, 0, 0, [.ref 0, .int (nI s), .int (nI u)], [], mH (gsI I (gS th ce wr n s ++ gU th ce wr s u)) J) = run mX12_laysGifts (7, 0, 0, [.ref 0, .int (nI (s + 1)), .int (nI n)], [], mH (gsI I (gS th ce wr n (s + 1))) J) := by
  have hn := h.2.1
  intro d
  induction d with
  | zero =>
    intro u hu _
    have : u = n := by omega
    subst this
    have h' := h.gs (gS th ce wr u s ++ gU th ce wr s u)
    rw [bX12_laysGifts_17]
    simp (disch := omega) only [nI_lt', nI_le', nI_eq', inb_nI, clp, nI_add, nI_mul', cond_true, cond_false, h'.1, Nat.le_refl, if_true]
    rfl
  | succ d ih =>
    intro u hu hsu
    have hun : u < n := by omega
    have h' := h.gs (gS th ce wr n s ++ gU th ce wr s u)
    have hlen := gSU_lt (th := th) (ce := ce) (wr := wr) hn hs hun hsu
    have ih' := ih (u + 1) (by omega) (by omega)
    obtain ⟨a1, a2, a3, a4, a5⟩ := h'.2.2 s hs
    obtain ⟨b1, b2, b3, b4, b5⟩ := h'.2.2 u hun
    have hc : gsI I (gS th ce wr n s ++ gU th ce wr s u) 0 22 = nI (gS th ce wr n s ++ gU th ce wr s u).length := rfl
    rw [bX12_laysGifts_17]
    simp (disch := omega) only [nI_lt', nI_le', nI_eq', inb_nI, clp, nI_add, nI_mul', cond_true, cond_false, callK_some, Option.toList_some, Option.toList_none, List.cons_append, List.nil_append, h'.1, a3, hc, ite_tI, mAh h' hs hun, bX12_laysGifts_48, a2, b2]
    rw [if_neg (by omega)]
    rw [← nI_add (gS th ce wr n s ++ gU th ce wr s u).length 1, gsI_push, List.append_assoc]
    by_cases e : s = u
    · subst e
      rw [if_pos rfl]
      cases hw : wr s with
      | true =>
        rw [if_pos rfl, ← gU_t (Nat.le_refl s) (by unfold gfB; rw [if_pos rfl]; exact hw)]
        exact ih'
      | false =>
        rw [if_neg (by decide)]
        rw [gU_f (by unfold gfB; rw [if_pos rfl]; exact hw)] at ih'
        exact ih'
    · rw [if_neg e]
      cases ha : ahB th s u with
      | false =>
        rw [if_neg (by decide)]
        rw [gU_f (by unfold gfB; rw [if_neg e, ha]; rfl)] at ih'
        exact ih'
      | true =>
        rw [if_pos rfl]
        by_cases hce : ce s = ce u
        · rw [if_pos hce]
          rw [gU_f (by unfold gfB; rw [if_neg e, ha]; simp [hce])] at ih'
          exact ih'
        · rw [if_neg hce, ← gU_t hsu (by unfold gfB; rw [if_neg e, ha]; simp [hce])]
          exact ih'
theorem mLg_out (h : RPm I n th ce wr) : ∀ d s (z : Value), s + d = n → run mX12_laysGifts (7, 0, 0, [.ref 0, .int (nI s), z], [], mH (gsI I (gS th ce wr n s)) J) = some (none, mH (gsI I (gS th ce wr n n)) J) := by
  have hn := h.2.1
  intro d
  induction d with
  | zero =>
    intro s z hs
    have : s = n := by omega
    subst this
    have h' := h.gs (gS th ce wr s s)
    rw [bX12_laysGifts_7]
    simp (disch := omega) only [nI_lt', nI_le', nI_eq', inb_nI, clp, nI_add, nI_mul', cond_true, cond_false, h'.1, Nat.le_refl, if_true]
  | succ d ih =>
    intro s z hs
    have h' := h.gs (gS th ce wr n s)
    rw [bX12_laysGifts_7]
    simp (disch := omega) only [nI_lt', nI_le', nI_eq', inb_nI, clp, nI_add, nI_mul', cond_true, cond_false, h'.1]
    rw [if_neg (by omega)]
    have e := mLg_in (J := J) h (show s < n by omega) (n - s) s (by omega) (Nat.le_refl s)
    rw [gU_0 (Nat.le_refl s), List.append_nil] at e
    rw [e]
    exact ih (s + 1) _ (by omega)
theorem mLg (h : RPm I n th ce wr) : fX12_laysGifts [.ref 0] (mH I J) = some (none, mH (gsI I (gS th ce wr n n)) J) := by
  rw [eX12_laysGifts, gsI_nil]
  exact mLg_out h n 0 _ (by omega)
end MR
end
section
/-! the reference: rings counted -/
def GRm (I : Nat → Nat → Int32) (n : Nat) (G : List (Nat × Nat)) : Prop := I 0 22 = nI G.length ∧ G.length ≤ 36 ∧ ∀ i, i < G.length → I 13 i = nI (gAt G i).1 ∧ I 14 i = nI (gAt G i).2 ∧ (gAt G i).1 < n ∧ (gAt G i).2 < n
def rgI (I : Nat → Nat → Int32) (r : Int32) (v : Nat → Int32) : Nat → Nat → Int32 := fun p k => if p = 12 then v k else if p = 0 then (if k = 18 then r else I 0 k) else I p k
theorem rgI_12 (I : Nat → Nat → Int32) (r : Int32) (v : Nat → Int32) (k : Nat) (x : Int32) : up2 (rgI I r v) 12 k x = rgI I r (up1 v k x) := by
  funext p
  by_cases h : p = 12
  · subst h; rw [up2_eq]; rfl
  · rw [up2_ne h]; funext q; simp [rgI, h]
theorem rgI_r (I : Nat → Nat → Int32) (r : Int32) (v : Nat → Int32) (x : Int32) : up2 (rgI I r v) 0 18 x = rgI I x v := by
  funext p
  by_cases h : p = 0
  · subst h; rw [up2_eq]; funext q; unfold up1
    by_cases hq : q = 18
    · subst hq; rfl
    · rw [if_neg hq]; simp [rgI, hq]
  · rw [up2_ne h]; funext q; simp [rgI, h]
theorem RPm.rg {I : Nat → Nat → Int32} {n : Nat} {th ce : Nat → Nat} {wr : Nat → Bool} (h : RPm I n th ce wr) (r : Int32) (v : Nat → Int32) : RPm (rgI I r v) n th ce wr := h.cong rfl rfl rfl rfl
theorem GRm.rg {I : Nat → Nat → Int32} {n : Nat} {G : List (Nat × Nat)} (h : GRm I n G) (r : Int32) (v : Nat → Int32) : GRm (rgI I r v) n G := h
theorem gsI_GR {I : Nat → Nat → Int32} {n : Nat} {th ce : Nat → Nat} {wr : Nat → Bool} (hn : n ≤ 8) : GRm (gsI I (gS th ce wr n n)) n (gS th ce wr n n) := by
  refine ⟨rfl, gS_le hn, fun i hi => ?_⟩
  obtain ⟨h1, h2, h3, h4⟩ := gS_mem (Nat.le_refl n) (gAt_mem hi)
  have e : gAt (gS th ce wr n n) i = (gS th ce wr n n)[i] := by unfold gAt; rw [List.getElem?_eq_getElem hi]; rfl
  refine ⟨?_, ?_, h1, h3⟩
  · rw [e]; show (if 13 = 13 then lsf (gS th ce wr n n) (fun a => nI a.1) (I 13) i else _) = _; rw [if_pos rfl, lsf_in hi]
  · rw [e]; show lsf (gS th ce wr n n) (fun a => nI a.2) (I 14) i = _; rw [lsf_in hi]
def twB (th ce : Nat → Nat) (wr : Nat → Bool) (a b : Nat × Nat) : Bool := !alB a && !alB b && decide (th a.1 < th b.1) && cfB th ce wr a.2 b.1 && cfB th ce wr b.2 a.1
def ftB (wr : Nat → Bool) (x a b : Nat × Nat) : Bool := !alB a || (!wr x.2 && !wr b.1)
def t3B (th ce : Nat → Nat) (wr : Nat → Bool) (a b c : Nat × Nat) : Bool := !decide (th c.1 = 0) && !decide (th c.1 = th b.1) && cfB th ce wr b.2 c.1 && cfB th ce wr c.2 a.1 && ftB wr c a b && ftB wr a b c && ftB wr b c a
def p3B (th ce : Nat → Nat) (wr : Nat → Bool) (a b : Nat × Nat) : Bool := decide (th a.1 = 0) && decide (0 < th b.1) && cfB th ce wr a.2 b.1
def cM (a : Nat × Nat) : Int32 := bif alB a then nI 0 else nI 1
def bI (b : Bool) (x : Int32) : Int32 := bif b then x else nI 0
section MRC
variable {I : Nat → Nat → Int32} {J : Nat → Nat → Int64} {n : Nat} {th ce : Nat → Nat} {wr : Nat → Bool} {G : List (Nat × Nat)} {i j k : Nat}
theorem mOne (hG : GRm I n G) (hn : n ≤ 8) (hi : i < G.length) : fX12_isOne [.ref 0, .int (nI i)] (mH I J) = some (some (.int (tI (alB (gAt G i)))), mH I J) := by
  have hl := hG.2.1
  obtain ⟨a1, a2, a3, a4⟩ := hG.2.2 i hi
  rw [eX12_isOne]
  simp (disch := omega) only [nI_lt', nI_le', nI_eq', inb_nI, clp, nI_add, nI_mul', cond_true, cond_false, a1, a2]
  unfold alB
  by_cases h : (gAt G i).1 = (gAt G i).2 <;> simp [h, tI]
theorem mMeets (h : RPm I n th ce wr) (hG : GRm I n G) (hi : i < G.length) (hj : j < G.length) : fX12_meets [.ref 0, .int (nI i), .int (nI j)] (mH I J) = some (some (.int (tI (cfB th ce wr (gAt G i).2 (gAt G j).1))), mH I J) := by
  have hl := hG.2.1
  obtain ⟨a1, a2, a3, a4⟩ := hG.2.2 i hi
  obtain ⟨b1, b2, b3, b4⟩ := hG.2.2 j hj
  rw [eX12_meets]
  simp (disch := omega) only [nI_lt', nI_le', nI_eq', inb_nI, clp, nI_add, nI_mul', cond_true, cond_false, callK_some, Option.toList_some, Option.toList_none, List.cons_append, List.nil_append, a2, b1, mCf h a4 b3, bX12_meets_16, tI_B]
theorem mFits (h : RPm I n th ce wr) (hG : GRm I n G) (hi : i < G.length) (hj : j < G.length) (hk : k < G.length) : fX12_fits [.ref 0, .int (nI i), .int (nI j), .int (nI k)] (mH I J) = some (some (.int (tI (ftB wr (gAt G i) (gAt G j) (gAt G k)))), mH I J) := by
  have hl := hG.2.1
  have hn := h.2.1
  obtain ⟨a1, a2, a3, a4⟩ := hG.2.2 i hi
  obtain ⟨b1, b2, b3, b4⟩ := hG.2.2 k hk
  obtain ⟨-, -, c3, -⟩ := h.2.2 _ a4
  obtain ⟨-, -, d3, -⟩ := h.2.2 _ b3
  rw [eX12_fits]
  simp (disch := omega) only [nI_lt', nI_le', nI_eq', inb_nI, clp, nI_add, nI_mul', cond_true, cond_false, callK_some, Option.toList_some, Option.toList_none, List.cons_append, List.nil_append, mOne hG hn hj, bX12_fits_5, ite_tI, a2, b1, c3, d3]
  unfold ftB
  cases alB (gAt G j) <;> cases wr (gAt G i).2 <;> cases wr (gAt G k).1 <;> rfl
theorem mGives {r : Int32} {v : Nat → Int32} (hn : n ≤ 8) (hG : GRm I n G) (hi : i < G.length) : fX12_gives [.ref 0, .int (nI i)] (mH (rgI I r v) J) = some (none, mH (rgI I r (fun q => v q + adk (kyN (gAt G i)) (cM (gAt G i)) q)) J) := by
  have hG' := hG.rg r v
  have hl := hG.2.1
  obtain ⟨a1, a2, a3, a4⟩ := hG'.2.2 i hi
  have hk : 8 * (gAt G i).1 + (gAt G i).2 < 64 := by omega
  have e12 : rgI I r v 12 = v := rfl
  rw [eX12_gives]
  simp (disch := omega) only [nI_lt', nI_le', nI_eq', inb_nI, clp, nI_add, nI_mul', cond_true, cond_false, callK_some, Option.toList_some, Option.toList_none, List.cons_append, List.nil_append, a1, a2, mOne hG' hn hi, bX12_gives_27, ite_tI, rgI_12, e12]
  cases ha : alB (gAt G i) with
  | false =>
    rw [if_neg (by decide)]
    have : cM (gAt G i) = nI 1 := by unfold cM; rw [ha]; rfl
    rw [this]
    show some (none, mH (rgI I r (up1 v (kyN (gAt G i)) (v (kyN (gAt G i)) + nI 1))) J) = _
    rw [up1_add]
  | true =>
    rw [if_pos rfl]
    have : cM (gAt G i) = nI 0 := by unfold cM; rw [ha]; rfl
    rw [this]
    show some (none, mH (rgI I r (up1 v (kyN (gAt G i)) (v (kyN (gAt G i)) + nI 0))) J) = _
    rw [up1_add]
/-- what a ring of two adds -/
def a2 (th ce : Nat → Nat) (wr : Nat → Bool) (G : List (Nat × Nat)) (i j : Nat) : Int32 := bI (twB th ce wr (gAt G i) (gAt G j)) (nI 1)
def g2 (th ce : Nat → Nat) (wr : Nat → Bool) (G : List (Nat × Nat)) (i j q : Nat) : Int32 := bI (twB th ce wr (gAt G i) (gAt G j)) (adk (kyN (gAt G i)) (nI 1) q + adk (kyN (gAt G j)) (nI 1) q)
def a3 (th ce : Nat → Nat) (wr : Nat → Bool) (G : List (Nat × Nat)) (i j k : Nat) : Int32 := bI (t3B th ce wr (gAt G i) (gAt G j) (gAt G k)) (nI 1)
def g3 (th ce : Nat → Nat) (wr : Nat → Bool) (G : List (Nat × Nat)) (i j k q : Nat) : Int32 := bI (t3B th ce wr (gAt G i) (gAt G j) (gAt G k)) (adk (kyN (gAt G i)) (cM (gAt G i)) q + (adk (kyN (gAt G j)) (cM (gAt G j)) q + adk (kyN (gAt G k)) (cM (gAt G k)) q))
theorem st_same {r : Int32} {v : Nat → Int32} {r' : Int32} {v' : Nat → Int32} (h1 : r = r') (h2 : ∀ q, v q = v' q) : rgI I r v = rgI I r' v' := by rw [h1, funext h2]
theorem cM_1 {a : Nat × Nat} (h : alB a = false) : cM a = nI 1 := by unfold cM; rw [h]; rfl
theorem mTw_in (h : RPm I n th ce wr) (hG : GRm I n G) (hi : i < G.length) {r : Int32} {v : Nat → Int32} : ∀ d j (z : Value), j + d = G.length → run mX12_laysTwos (12, 0, 0, [.ref 0, .int (nI i), .int (nI j), z], [], mH (rgI I (r + sI (a2 th ce wr G i) j) (fun q => v q + sI (fun j' => g2 th ce wr G i j' q) j)) J) = run mX12_laysTwos (2, 0, 0, [.ref 0, .int (nI (i + 1)), .int (nI G.length), .null], [], mH (rgI I (r + sI (a2 th ce wr G i) G.length) (fun q => v q + sI (fun j' => g2 th ce wr G i j' q) G.length)) J) := by
  have hn := h.2.1
  have hl := hG.2.1
  intro d
  induction d with
  | zero =>
    intro j z hj
    have : j = G.length := by omega
    subst this
    have hG' := hG.rg (r + sI (a2 th ce wr G i) G.length) (fun q => v q + sI (fun j' => g2 th ce wr G i j' q) G.length)
    rw [bX12_laysTwos_12]
    simp (disch := omega) only [nI_lt', nI_le', nI_eq', inb_nI, clp, nI_add, nI_mul', cond_true, cond_false, hG'.1, Nat.le_refl, if_true]
  | succ d ih =>
    intro j z hj
    have hjl : j < G.length := by omega
    have ih' := ih (j + 1) .null (by omega)
    -- the state here
    have key : ∀ (R : Int32) (V : Nat → Int32), R = r + sI (a2 th ce wr G i) j → V = (fun q => v q + sI (fun j' => g2 th ce wr G i j' q) j) → run mX12_laysTwos (12, 0, 0, [.ref 0, .int (nI i), .int (nI j), z], [], mH (rgI I R V) J) = run mX12_laysTwos (12, 0, 0, [.ref 0, .int (nI i), .int (nI (j + 1)), .null], [], mH (rgI I (R + a2 th ce wr G i j) (fun q => V q + g2 th ce wr G i j q)) J) := by
      intro R V _ _
      have h' := h.rg R V
      have hG' := hG.rg R V
      obtain ⟨a1, -, a3, -⟩ := hG'.2.2 i hi
      obtain ⟨b1, -, b3, -⟩ := hG'.2.2 j hjl
      obtain ⟨c1, -, -, c4, -⟩ := h'.2.2 _ a3
      obtain ⟨d1, -, -, d4, -⟩ := h'.2.2 _ b3
      have e18 : rgI I R V 0 18 = R := rfl
      rw [bX12_laysTwos_12]
      simp (disch := omega) only [nI_lt', nI_le', nI_eq', inb_nI, clp, nI_add, nI_mul', cond_true, cond_false, callK_some, Option.toList_some, Option.toList_none, List.cons_append, List.nil_append, hG'.1, mOne hG' hn hi, mOne hG' hn hjl, bX12_laysTwos_25, bX12_laysTwos_33, ite_tI, a1, b1, c1, d1, mMeets h' hG' hi hjl, mMeets h' hG' hjl hi, bX12_laysTwos_77, bX12_laysTwos_86, rgI_r, e18, mGives hn hG hi, mGives hn hG hjl, bX12_laysTwos_104, bX12_laysTwos_109]
      rw [if_neg (by omega)]
      unfold a2 g2
      have hfalse : twB th ce wr (gAt G i) (gAt G j) = false → rgI I R V = rgI I (R + bI (twB th ce wr (gAt G i) (gAt G j)) (nI 1)) (fun q => V q + bI (twB th ce wr (gAt G i) (gAt G j)) (adk (kyN (gAt G i)) (nI 1) q + adk (kyN (gAt G j)) (nI 1) q)) := by
        intro hz
        rw [hz]
        exact st_same (add_z R).symm (fun q => (add_z (V q)).symm)
      cases ha : alB (gAt G i) with
      | true =>
        rw [if_pos rfl]
        rw [← hfalse (by unfold twB; rw [ha]; rfl)]
      | false =>
        rw [if_neg (by decide)]
        cases hb : alB (gAt G j) with
        | true =>
          rw [if_pos rfl]
          rw [← hfalse (by unfold twB; rw [ha, hb]; rfl)]
        | false =>
          rw [if_neg (by decide)]
          by_cases hth : th (gAt G j).1 ≤ th (gAt G i).1
          · rw [if_pos hth]
            rw [← hfalse (by unfold twB; rw [ha, hb]; have : ¬ th (gAt G i).1 < th (gAt G j).1 := by omega
                             simp [this])]
          · rw [if_neg hth]
            have hth' : th (gAt G i).1 < th (gAt G j).1 := by omega
            cases hm : cfB th ce wr (gAt G i).2 (gAt G j).1 with
            | false =>
              rw [if_neg (by decide)]
              rw [← hfalse (by unfold twB; rw [ha, hb, hm]; simp [hth'])]
            | true =>
              rw [if_pos rfl]
              cases hm2 : cfB th ce wr (gAt G j).2 (gAt G i).1 with
              | false =>
                rw [if_neg (by decide)]
                rw [← hfalse (by unfold twB; rw [ha, hb, hm, hm2]; simp [hth'])]
              | true =>
                rw [if_pos rfl]
                have ht : twB th ce wr (gAt G i) (gAt G j) = true := by unfold twB; rw [ha, hb, hm, hm2]; simp [hth']
                rw [ht, cM_1 ha, cM_1 hb]
                congr 7
                exact st_same rfl (fun q => Int32.add_assoc _ _ _)
    rw [key _ _ rfl rfl]
    rw [show rgI I (r + sI (a2 th ce wr G i) j + a2 th ce wr G i j) (fun q => v q + sI (fun j' => g2 th ce wr G i j' q) j + g2 th ce wr G i j q) = rgI I (r + sI (a2 th ce wr G i) (j + 1)) (fun q => v q + sI (fun j' => g2 th ce wr G i j' q) (j + 1)) from st_same (Int32.add_assoc _ _ _) (fun q => Int32.add_assoc _ _ _)]
    exact ih'
theorem mTw_out (h : RPm I n th ce wr) (hG : GRm I n G) {r : Int32} {v : Nat → Int32} : ∀ d i (z1 z2 : Value), i + d = G.length → run mX12_laysTwos (2, 0, 0, [.ref 0, .int (nI i), z1, z2], [], mH (rgI I (r + sI (fun i => sI (a2 th ce wr G i) G.length) i) (fun q => v q + sI (fun i => sI (fun j' => g2 th ce wr G i j' q) G.length) i)) J) = some (none, mH (rgI I (r + sI (fun i => sI (a2 th ce wr G i) G.length) G.length) (fun q => v q + sI (fun i => sI (fun j' => g2 th ce wr G i j' q) G.length) G.length)) J) := by
  have hl := hG.2.1
  intro d
  induction d with
  | zero =>
    intro i z1 z2 hi
    have : i = G.length := by omega
    subst this
    rw [bX12_laysTwos_2]
    have e22 : ∀ R V, rgI I R V 0 22 = nI G.length := fun R V => hG.1
    simp (disch := omega) only [nI_lt', nI_le', nI_eq', inb_nI, clp, nI_add, nI_mul', cond_true, cond_false, e22, Nat.le_refl, if_true]
  | succ d ih =>
    intro i z1 z2 hi
    have e22 : ∀ R V, rgI I R V 0 22 = nI G.length := fun R V => hG.1
    rw [bX12_laysTwos_2]
    simp (disch := omega) only [nI_lt', nI_le', nI_eq', inb_nI, clp, nI_add, nI_mul', cond_true, cond_false, e22]
    rw [if_neg (by omega)]
    have e := mTw_in (J := J) h hG (show i < G.length by omega) (r := r + sI (fun i => sI (a2 th ce wr G i) G.length) i) (v := fun q => v q + sI (fun i => sI (fun j' => g2 th ce wr G i j' q) G.length) i) G.length 0 .null (by omega)
    rw [show rgI I (r + sI (fun i => sI (a2 th ce wr G i) G.length) i + sI (a2 th ce wr G i) 0) (fun q => v q + sI (fun i => sI (fun j' => g2 th ce wr G i j' q) G.length) i + sI (fun j' => g2 th ce wr G i j' q) 0) = rgI I (r + sI (fun i => sI (a2 th ce wr G i) G.length) i) (fun q => v q + sI (fun i => sI (fun j' => g2 th ce wr G i j' q) G.length) i) from st_same (add_z _) (fun q => add_z _)] at e
    rw [e]
    rw [show rgI I (r + sI (fun i => sI (a2 th ce wr G i) G.length) i + sI (a2 th ce wr G i) G.length) (fun q => v q + sI (fun i => sI (fun j' => g2 th ce wr G i j' q) G.length) i + sI (fun j' => g2 th ce wr G i j' q) G.length) = rgI I (r + sI (fun i => sI (a2 th ce wr G i) G.length) (i + 1)) (fun q => v q + sI (fun i => sI (fun j' => g2 th ce wr G i j' q) G.length) (i + 1)) from st_same (Int32.add_assoc _ _ _) (fun q => Int32.add_assoc _ _ _)]
    exact ih (i + 1) _ _ (by omega)
end MRC
end
section
/-! the reference: rings of three, all rings -/
section MRD
variable {I : Nat → Nat → Int32} {J : Nat → Nat → Int64} {n : Nat} {th ce : Nat → Nat} {wr : Nat → Bool} {G : List (Nat × Nat)} {i j k : Nat}
theorem mTh_loop (h : RPm I n th ce wr) (hG : GRm I n G) (hi : i < G.length) (hj : j < G.length) {r : Int32} {v : Nat → Int32} : ∀ d k (z : Value), k + d = G.length → run mX12_laysThrees (2, 0, 0, [.ref 0, .int (nI i), .int (nI j), .int (nI k), z], [], mH (rgI I (r + sI (a3 th ce wr G i j) k) (fun q => v q + sI (fun k' => g3 th ce wr G i j k' q) k)) J) = some (none, mH (rgI I (r + sI (a3 th ce wr G i j) G.length) (fun q => v q + sI (fun k' => g3 th ce wr G i j k' q) G.length)) J) := by
  have hn := h.2.1
  have hl := hG.2.1
  intro d
  induction d with
  | zero =>
    intro k z hk
    have : k = G.length := by omega
    subst this
    have e22 : ∀ R V, rgI I R V 0 22 = nI G.length := fun R V => hG.1
    rw [bX12_laysThrees_2]
    simp (disch := omega) only [nI_lt', nI_le', nI_eq', inb_nI, clp, nI_add, nI_mul', cond_true, cond_false, e22, Nat.le_refl, if_true]
  | succ d ih =>
    intro k z hk
    have hkl : k < G.length := by omega
    have ih' := ih (k + 1) .null (by omega)
    have key : ∀ (R : Int32) (V : Nat → Int32), run mX12_laysThrees (2, 0, 0, [.ref 0, .int (nI i), .int (nI j), .int (nI k), z], [], mH (rgI I R V) J) = run mX12_laysThrees (2, 0, 0, [.ref 0, .int (nI i), .int (nI j), .int (nI (k + 1)), .null], [], mH (rgI I (R + a3 th ce wr G i j k) (fun q => V q + g3 th ce wr G i j k q)) J) := by
      intro R V
      have h' := h.rg R V
      have hG' := hG.rg R V
      obtain ⟨a1, -, x3, -⟩ := hG'.2.2 k hkl
      obtain ⟨b1, -, b3, -⟩ := hG'.2.2 j hj
      obtain ⟨c1, -, -, c4, -⟩ := h'.2.2 _ x3
      obtain ⟨d1, -, -, d4, -⟩ := h'.2.2 _ b3
      have e18 : rgI I R V 0 18 = R := rfl
      rw [bX12_laysThrees_2]
      simp (disch := omega) only [nI_lt', nI_le', nI_eq', inb_nI, clp, nI_add, nI_mul', cond_true, cond_false, callK_some, Option.toList_some, Option.toList_none, List.cons_append, List.nil_append, hG'.1, bX12_laysThrees_55, bX12_laysThrees_64, bX12_laysThrees_86, bX12_laysThrees_96, bX12_laysThrees_106, bX12_laysThrees_124, bX12_laysThrees_129, bX12_laysThrees_134, ite_tI, a1, b1, c1, d1, mMeets h' hG' hj hkl, mMeets h' hG' hkl hi, mFits h' hG' hkl hi hj, mFits h' hG' hi hj hkl, mFits h' hG' hj hkl hi, rgI_r, e18, mGives hn hG hi, mGives hn hG hj, mGives hn hG hkl]
      rw [if_neg (by omega)]
      unfold a3 g3
      have hfalse : t3B th ce wr (gAt G i) (gAt G j) (gAt G k) = false → rgI I R V = rgI I (R + bI (t3B th ce wr (gAt G i) (gAt G j) (gAt G k)) (nI 1)) (fun q => V q + bI (t3B th ce wr (gAt G i) (gAt G j) (gAt G k)) (adk (kyN (gAt G i)) (cM (gAt G i)) q + (adk (kyN (gAt G j)) (cM (gAt G j)) q + adk (kyN (gAt G k)) (cM (gAt G k)) q))) := by
        intro hz
        rw [hz]
        exact st_same (add_z R).symm (fun q => (add_z (V q)).symm)
      by_cases h0 : th (gAt G k).1 = 0
      · rw [if_pos h0, ← hfalse (by unfold t3B; simp [h0])]
      rw [if_neg h0]
      by_cases h1 : th (gAt G k).1 = th (gAt G j).1
      · rw [if_pos h1, ← hfalse (by unfold t3B; simp [h1])]
      rw [if_neg h1]
      cases m1 : cfB th ce wr (gAt G j).2 (gAt G k).1 with
      | false => rw [if_neg (by decide), ← hfalse (by unfold t3B; rw [m1]; simp)]
      | true =>
      rw [if_pos rfl]
      cases m2 : cfB th ce wr (gAt G k).2 (gAt G i).1 with
      | false => rw [if_neg (by decide), ← hfalse (by unfold t3B; rw [m2]; simp)]
      | true =>
      rw [if_pos rfl]
      cases f1 : ftB wr (gAt G k) (gAt G i) (gAt G j) with
      | false => rw [if_neg (by decide), ← hfalse (by unfold t3B; rw [f1]; simp)]
      | true =>
      rw [if_pos rfl]
      cases f2 : ftB wr (gAt G i) (gAt G j) (gAt G k) with
      | false => rw [if_neg (by decide), ← hfalse (by unfold t3B; rw [f2]; simp)]
      | true =>
      rw [if_pos rfl]
      cases f3 : ftB wr (gAt G j) (gAt G k) (gAt G i) with
      | false => rw [if_neg (by decide), ← hfalse (by unfold t3B; rw [f3]; simp)]
      | true =>
      rw [if_pos rfl]
      have ht : t3B th ce wr (gAt G i) (gAt G j) (gAt G k) = true := by unfold t3B; rw [m1, m2, f1, f2, f3]; simp [h0, h1]
      rw [ht]
      congr 7
      exact st_same rfl (fun q => by show V q + _ + _ + _ = V q + (_ + (_ + _)); simp only [Int32.add_assoc])
    rw [key]
    rw [show rgI I (r + sI (a3 th ce wr G i j) k + a3 th ce wr G i j k) (fun q => v q + sI (fun k' => g3 th ce wr G i j k' q) k + g3 th ce wr G i j k q) = rgI I (r + sI (a3 th ce wr G i j) (k + 1)) (fun q => v q + sI (fun k' => g3 th ce wr G i j k' q) (k + 1)) from st_same (Int32.add_assoc _ _ _) (fun q => Int32.add_assoc _ _ _)]
    exact ih'
theorem mTh (h : RPm I n th ce wr) (hG : GRm I n G) (hi : i < G.length) (hj : j < G.length) {r : Int32} {v : Nat → Int32} : fX12_laysThrees [.ref 0, .int (nI i), .int (nI j)] (mH (rgI I r v) J) = some (none, mH (rgI I (r + sI (a3 th ce wr G i j) G.length) (fun q => v q + sI (fun k' => g3 th ce wr G i j k' q) G.length)) J) := by
  rw [eX12_laysThrees]
  have e := mTh_loop (J := J) h hG hi hj (r := r) (v := v) G.length 0 .null (by omega)
  rw [show rgI I (r + sI (a3 th ce wr G i j) 0) (fun q => v q + sI (fun k' => g3 th ce wr G i j k' q) 0) = rgI I r v from st_same (add_z _) (fun q => add_z _)] at e
  exact e
def a3' (th ce : Nat → Nat) (wr : Nat → Bool) (G : List (Nat × Nat)) (i j : Nat) : Int32 := bI (p3B th ce wr (gAt G i) (gAt G j)) (sI (a3 th ce wr G i j) G.length)
def g3' (th ce : Nat → Nat) (wr : Nat → Bool) (G : List (Nat × Nat)) (i j q : Nat) : Int32 := bI (p3B th ce wr (gAt G i) (gAt G j)) (sI (fun k' => g3 th ce wr G i j k' q) G.length)
theorem mR3_in (h : RPm I n th ce wr) (hG : GRm I n G) (hi : i < G.length) {r : Int32} {v : Nat → Int32} : ∀ d j, j + d = G.length → run mX12_laysRings (46, 0, 0, [.ref 0, .int (nI i), .int (nI j)], [], mH (rgI I (r + sI (a3' th ce wr G i) j) (fun q => v q + sI (fun j' => g3' th ce wr G i j' q) j)) J) = run mX12_laysRings (36, 0, 0, [.ref 0, .int (nI (i + 1)), .int (nI G.length)], [], mH (rgI I (r + sI (a3' th ce wr G i) G.length) (fun q => v q + sI (fun j' => g3' th ce wr G i j' q) G.length)) J) := by
  have hn := h.2.1
  have hl := hG.2.1
  intro d
  induction d with
  | zero =>
    intro j hj
    have : j = G.length := by omega
    subst this
    have e22 : ∀ R V, rgI I R V 0 22 = nI G.length := fun R V => hG.1
    rw [bX12_laysRings_46]
    simp (disch := omega) only [nI_lt', nI_le', nI_eq', inb_nI, clp, nI_add, nI_mul', cond_true, cond_false, e22, Nat.le_refl, if_true]
  | succ d ih =>
    intro j hj
    have hjl : j < G.length := by omega
    have ih' := ih (j + 1) (by omega)
    have key : ∀ (R : Int32) (V : Nat → Int32), run mX12_laysRings (46, 0, 0, [.ref 0, .int (nI i), .int (nI j)], [], mH (rgI I R V) J) = run mX12_laysRings (46, 0, 0, [.ref 0, .int (nI i), .int (nI (j + 1))], [], mH (rgI I (R + a3' th ce wr G i j) (fun q => V q + g3' th ce wr G i j q)) J) := by
      intro R V
      have h' := h.rg R V
      have hG' := hG.rg R V
      obtain ⟨a1, -, x3, -⟩ := hG'.2.2 i hi
      obtain ⟨b1, -, b3, -⟩ := hG'.2.2 j hjl
      obtain ⟨c1, -, -, c4, -⟩ := h'.2.2 _ x3
      obtain ⟨d1, -, -, d4, -⟩ := h'.2.2 _ b3
      rw [bX12_laysRings_46]
      simp (disch := omega) only [nI_lt', nI_le', nI_eq', inb_nI, clp, nI_add, nI_mul', cond_true, cond_false, callK_some, Option.toList_some, Option.toList_none, List.cons_append, List.nil_append, hG'.1, a1, b1, c1, d1, mMeets h' hG' hi hjl, bX12_laysRings_88, bX12_laysRings_97, ite_tI, mTh h hG hi hjl]
      rw [if_neg (by omega)]
      unfold a3' g3'
      have hfalse : p3B th ce wr (gAt G i) (gAt G j) = false → rgI I R V = rgI I (R + bI (p3B th ce wr (gAt G i) (gAt G j)) (sI (a3 th ce wr G i j) G.length)) (fun q => V q + bI (p3B th ce wr (gAt G i) (gAt G j)) (sI (fun k' => g3 th ce wr G i j k' q) G.length)) := by
        intro hz
        rw [hz]
        exact st_same (add_z R).symm (fun q => (add_z (V q)).symm)
      by_cases h0 : th (gAt G i).1 = 0
      · rw [if_pos h0]
        by_cases h1 : th (gAt G j).1 ≤ 0
        · rw [if_pos h1, ← hfalse (by unfold p3B; have : ¬ 0 < th (gAt G j).1 := by omega
                                      simp [this])]
        rw [if_neg h1]
        have h1' : 0 < th (gAt G j).1 := by omega
        cases m1 : cfB th ce wr (gAt G i).2 (gAt G j).1 with
        | false => rw [if_neg (by decide), ← hfalse (by unfold p3B; rw [m1]; simp)]
        | true =>
          rw [if_pos rfl]
          have ht : p3B th ce wr (gAt G i) (gAt G j) = true := by unfold p3B; rw [m1]; simp [h0, h1']
          rw [ht]
          rfl
      · rw [if_neg h0, ← hfalse (by unfold p3B; simp [h0])]
    rw [key]
    rw [show rgI I (r + sI (a3' th ce wr G i) j + a3' th ce wr G i j) (fun q => v q + sI (fun j' => g3' th ce wr G i j' q) j + g3' th ce wr G i j q) = rgI I (r + sI (a3' th ce wr G i) (j + 1)) (fun q => v q + sI (fun j' => g3' th ce wr G i j' q) (j + 1)) from st_same (Int32.add_assoc _ _ _) (fun q => Int32.add_assoc _ _ _)]
    exact ih'
theorem mR3_out (h : RPm I n th ce wr) (hG : GRm I n G) {r : Int32} {v : Nat → Int32} : ∀ d i (z : Value), i + d = G.length → run mX12_laysRings (36, 0, 0, [.ref 0, .int (nI i), z], [], mH (rgI I (r + sI (fun i => sI (a3' th ce wr G i) G.length) i) (fun q => v q + sI (fun i => sI (fun j' => g3' th ce wr G i j' q) G.length) i)) J) = some (none, mH (rgI I (r + sI (fun i => sI (a3' th ce wr G i) G.length) G.length) (fun q => v q + sI (fun i => sI (fun j' => g3' th ce wr G i j' q) G.length) G.length)) J) := by
  have hl := hG.2.1
  have e22 : ∀ R V, rgI I R V 0 22 = nI G.length := fun R V => hG.1
  intro d
  induction d with
  | zero =>
    intro i z hi
    have : i = G.length := by omega
    subst this
    rw [bX12_laysRings_36]
    simp (disch := omega) only [nI_lt', nI_le', nI_eq', inb_nI, clp, nI_add, nI_mul', cond_true, cond_false, e22, Nat.le_refl, if_true]
  | succ d ih =>
    intro i z hi
    rw [bX12_laysRings_36]
    simp (disch := omega) only [nI_lt', nI_le', nI_eq', inb_nI, clp, nI_add, nI_mul', cond_true, cond_false, e22]
    rw [if_neg (by omega)]
    have e := mR3_in (J := J) h hG (show i < G.length by omega) (r := r + sI (fun i => sI (a3' th ce wr G i) G.length) i) (v := fun q => v q + sI (fun i => sI (fun j' => g3' th ce wr G i j' q) G.length) i) G.length 0 (by omega)
    rw [show rgI I (r + sI (fun i => sI (a3' th ce wr G i) G.length) i + sI (a3' th ce wr G i) 0) (fun q => v q + sI (fun i => sI (fun j' => g3' th ce wr G i j' q) G.length) i + sI (fun j' => g3' th ce wr G i j' q) 0) = rgI I (r + sI (fun i => sI (a3' th ce wr G i) G.length) i) (fun q => v q + sI (fun i => sI (fun j' => g3' th ce wr G i j' q) G.length) i) from st_same (add_z _) (fun q => add_z _)] at e
    rw [e]
    rw [show rgI I (r + sI (fun i => sI (a3' th ce wr G i) G.length) i + sI (a3' th ce wr G i) G.length) (fun q => v q + sI (fun i => sI (fun j' => g3' th ce wr G i j' q) G.length) i + sI (fun j' => g3' th ce wr G i j' q) G.length) = rgI I (r + sI (fun i => sI (a3' th ce wr G i) G.length) (i + 1)) (fun q => v q + sI (fun i => sI (fun j' => g3' th ce wr G i j' q) G.length) (i + 1)) from st_same (Int32.add_assoc _ _ _) (fun q => Int32.add_assoc _ _ _)]
    exact ih (i + 1) _ (by omega)
/-- how many rings, and to how many a pair is given -/
def nR (th ce : Nat → Nat) (wr : Nat → Bool) (G : List (Nat × Nat)) : Int32 := sI (fun i => sI (a2 th ce wr G i) G.length) G.length + sI (fun i => sI (a3' th ce wr G i) G.length) G.length
def nV (th ce : Nat → Nat) (wr : Nat → Bool) (G : List (Nat × Nat)) (q : Nat) : Int32 := sI (fun i => sI (fun j' => g2 th ce wr G i j' q) G.length) G.length + sI (fun i => sI (fun j' => g3' th ce wr G i j' q) G.length) G.length
theorem mClr (J : Nat → Nat → Int64) : ∀ d k (I : Nat → Nat → Int32) (z : Value), k + d = 64 → (∀ q, q < k → I 12 q = nI 0) → ∃ I' : Nat → Nat → Int32, run mX12_laysRings (7, 0, 0, [.ref 0, .int (nI k), z], [], mH I J) = (callK (fX12_laysGifts [.ref 0] (mH I' J)) (fun r h' => run mX12_laysRings (30, 0, 0, [.ref 0, .int (nI 64), .null], r.toList ++ [], h'))) ∧ (∀ p, p ≠ 12 → I' p = I p) ∧ (∀ q, q < 64 → I' 12 q = nI 0) := by
  intro d
  induction d with
  | zero =>
    intro k I z hk hI
    have : k = 64 := by omega
    subst this
    refine ⟨I, ?_, fun _ _ => rfl, hI⟩
    rw [bX12_laysRings_7]
    simp (disch := omega) only [nI_lt', nI_le', nI_eq', inb_nI, clp, nI_add, nI_mul', cond_true, cond_false, Nat.le_refl, if_true]
  | succ d ih =>
    intro k I z hk hI
    obtain ⟨I', h1, h2, h3⟩ := ih (k + 1) (up2 I 12 k (nI 0)) .null (by omega) (fun q hq => by
      rw [up2_eq]; unfold up1
      by_cases hqk : q = k
      · rw [if_pos hqk]
      · rw [if_neg hqk]; exact hI q (by omega))
    refine ⟨I', ?_, fun p hp => by rw [h2 p hp, up2_ne hp], h3⟩
    rw [bX12_laysRings_7]
    simp (disch := omega) only [nI_lt', nI_le', nI_eq', inb_nI, clp, nI_add, nI_mul', cond_true, cond_false]
    rw [if_neg (by omega)]
    exact h1
theorem mRings (h : RPm I n th ce wr) : ∃ I' : Nat → Nat → Int32, fX12_laysRings [.ref 0] (mH I J) = some (none, mH I' J) ∧ (∀ p, p ≠ 0 → p ≠ 12 → p ≠ 13 → p ≠ 14 → I' p = I p) ∧ (∀ k, k ≠ 18 → k ≠ 22 → I' 0 k = I 0 k) ∧ I' 0 18 = nR th ce wr (gS th ce wr n n) ∧ (∀ q, q < 64 → I' 12 q = nV th ce wr (gS th ce wr n n) q) := by
  have hn := h.2.1
  obtain ⟨I1, e1, h1, h2⟩ := mClr J 64 0 (up2 I 0 18 (nI 0)) .null (by omega) (fun q hq => absurd hq (Nat.not_lt_zero q))
  have h01 : I1 0 = up1 (I 0) 18 (nI 0) := by rw [h1 0 (by decide), up2_eq]
  have hR1 : RPm I1 n th ce wr := h.cong (by rw [h01]; rfl) (by rw [h1 1 (by decide), up2_ne (by decide)]) (by rw [h1 2 (by decide), up2_ne (by decide)]) (by rw [h1 3 (by decide), up2_ne (by decide)])
  have hG : GRm (gsI I1 (gS th ce wr n n)) n (gS th ce wr n n) := gsI_GR hn
  have hR2 := hR1.gs (gS th ce wr n n)
  -- the world behind the gifts is one of rings
  have eW : gsI I1 (gS th ce wr n n) = rgI (gsI I1 (gS th ce wr n n)) (nI 0) (I1 12) := by
    funext p
    by_cases hp : p = 12
    · subst hp; rfl
    · by_cases hp0 : p = 0
      · subst hp0
        funext k
        by_cases hk : k = 18
        · subst hk
          show I1 0 18 = nI 0
          rw [h01]; rfl
        · simp [rgI, hk]
      · funext k; simp [rgI, hp, hp0]
  refine ⟨rgI (gsI I1 (gS th ce wr n n)) (nI 0 + sI (fun i => sI (a2 th ce wr (gS th ce wr n n) i) (gS th ce wr n n).length) (gS th ce wr n n).length + sI (fun i => sI (a3' th ce wr (gS th ce wr n n) i) (gS th ce wr n n).length) (gS th ce wr n n).length) (fun q => I1 12 q + sI (fun i => sI (fun j' => g2 th ce wr (gS th ce wr n n) i j' q) (gS th ce wr n n).length) (gS th ce wr n n).length + sI (fun i => sI (fun j' => g3' th ce wr (gS th ce wr n n) i j' q) (gS th ce wr n n).length) (gS th ce wr n n).length), ?_, ?_⟩
  · rw [eX12_laysRings, e1, mLg hR1]
    simp only [callK_some, Option.toList_some, Option.toList_none, List.cons_append, List.nil_append, bX12_laysRings_30]
    rw [eX12_laysTwos, show mH (gsI I1 (gS th ce wr n n)) J = mH (rgI (gsI I1 (gS th ce wr n n)) (nI 0) (I1 12)) J from congrArg (fun x => mH x J) eW]
    have e2 := mTw_out (J := J) hR2 hG (r := nI 0) (v := I1 12) (gS th ce wr n n).length 0 .null .null (by omega)
    rw [show rgI (gsI I1 (gS th ce wr n n)) (nI 0 + sI (fun i => sI (a2 th ce wr (gS th ce wr n n) i) (gS th ce wr n n).length) 0) (fun q => I1 12 q + sI (fun i => sI (fun j' => g2 th ce wr (gS th ce wr n n) i j' q) (gS th ce wr n n).length) 0) = rgI (gsI I1 (gS th ce wr n n)) (nI 0) (I1 12) from st_same (add_z _) (fun q => add_z _)] at e2
    rw [e2]
    simp only [callK_some, Option.toList_some, Option.toList_none, List.cons_append, List.nil_append, bX12_laysRings_34]
    have e3 := mR3_out (J := J) hR2 hG (r := nI 0 + sI (fun i => sI (a2 th ce wr (gS th ce wr n n) i) (gS th ce wr n n).length) (gS th ce wr n n).length) (v := fun q => I1 12 q + sI (fun i => sI (fun j' => g2 th ce wr (gS th ce wr n n) i j' q) (gS th ce wr n n).length) (gS th ce wr n n).length) (gS th ce wr n n).length 0 .null (by omega)
    rw [show ∀ (X : Int32) (Y : Nat → Int32), rgI (gsI I1 (gS th ce wr n n)) (X + sI (fun i => sI (a3' th ce wr (gS th ce wr n n) i) (gS th ce wr n n).length) 0) (fun q => Y q + sI (fun i => sI (fun j' => g3' th ce wr (gS th ce wr n n) i j' q) (gS th ce wr n n).length) 0) = rgI (gsI I1 (gS th ce wr n n)) X Y from fun X Y => st_same (add_z _) (fun q => add_z _)] at e3
    exact e3
  · refine ⟨fun p p0 p12 p13 p14 => ?_, fun k k18 k22 => ?_, ?_, fun q hq => ?_⟩
    · funext k
      have : gsI I1 (gS th ce wr n n) p k = I1 p k := by simp [gsI, p0, p13, p14]
      simp only [rgI, p12, p0, if_false, this]
      rw [h1 p p12, up2_ne p0]
    · have : gsI I1 (gS th ce wr n n) 0 k = I1 0 k := by simp [gsI, k22]
      simp only [rgI, k18, if_false, if_true, this]
      rw [h01, up1_ne k18]
      rfl
    · show nI 0 + _ + _ = _
      rw [z_add]; rfl
    · show I1 12 q + _ + _ = _
      rw [h2 q hq, z_add]; rfl
end MRD
end
section
/-! the class: gifts and rings -/
def gxI (I : Nat → Nat → Int32) (L : List (Nat × Nat)) : Nat → Nat → Int32 := fun p k => if p = 11 then lsf L (fun a => nI (kyN a)) (I 11) k else if p = 10 then (if k = 2 then nI L.length else I 10 k) else I p k
theorem gxI_push (I : Nat → Nat → Int32) (L : List (Nat × Nat)) (s u : Nat) : up2 (up2 (gxI I L) 11 L.length (nI (kyN (s, u)))) 10 2 (nI L.length + nI 1) = gxI I (L ++ [(s, u)]) := by
  funext p
  by_cases h11 : p = 11
  · subst h11
    rw [up2_ne (by decide), up2_eq]
    exact lst_push L (s, u) (fun a => nI (kyN a)) (I 11)
  by_cases h10 : p = 10
  · subst h10
    rw [up2_eq, up2_ne (by decide)]
    funext k
    unfold up1
    by_cases hk : k = 2
    · subst hk
      rw [if_pos rfl]
      simp [gxI, nI_add]
    · rw [if_neg hk]
      simp [gxI, hk]
  · rw [up2_ne h10, up2_ne h11]
    funext k
    simp [gxI, h11, h10]
theorem gxI_nil {I : Nat → Nat → Int32} : up2 I 10 2 (nI 0) = gxI I [] := by
  funext p
  by_cases h10 : p = 10
  · subst h10
    rw [up2_eq]
    funext k
    unfold up1
    by_cases hk : k = 2
    · subst hk; rfl
    · rw [if_neg hk]; simp [gxI, hk]
  · rw [up2_ne h10]
    funext k
    by_cases h11 : p = 11
    · subst h11; rfl
    · simp [gxI, h11, h10]
def ldB (th ce : Nat → Nat) (wr : Nat → Bool) (a b : Nat × Nat) : Bool := cfB th ce wr a.2 b.1 && !(alB a && wr b.1) && !(alB b && wr a.2)
def GRx (I : Nat → Nat → Int32) (n : Nat) (G : List (Nat × Nat)) : Prop := I 10 2 = nI G.length ∧ G.length ≤ 36 ∧ ∀ i, i < G.length → I 11 i = nI (kyN (gAt G i)) ∧ (gAt G i).1 < n ∧ (gAt G i).2 < n
def rxI (I : Nat → Nat → Int32) (r : Int32) (v : Nat → Int32) : Nat → Nat → Int32 := fun p k => if p = 12 then v k else if p = 10 then (if k = 3 then r else I 10 k) else I p k
theorem rxI_12 (I : Nat → Nat → Int32) (r : Int32) (v : Nat → Int32) (k : Nat) (x : Int32) : up2 (rxI I r v) 12 k x = rxI I r (up1 v k x) := by
  funext p
  by_cases h : p = 12
  · subst h; rw [up2_eq]; rfl
  · rw [up2_ne h]; funext q; simp [rxI, h]
theorem rxI_r (I : Nat → Nat → Int32) (r : Int32) (v : Nat → Int32) (x : Int32) : up2 (rxI I r v) 10 3 x = rxI I x v := by
  funext p
  by_cases h : p = 10
  · subst h; rw [up2_eq]; funext q; unfold up1
    by_cases hq : q = 3
    · subst hq; rfl
    · rw [if_neg hq]; simp [rxI, hq]
  · rw [up2_ne h]; funext q; simp [rxI, h]
theorem sx_same {I : Nat → Nat → Int32} {r : Int32} {v : Nat → Int32} {r' : Int32} {v' : Nat → Int32} (h1 : r = r') (h2 : ∀ q, v q = v' q) : rxI I r v = rxI I r' v' := by rw [h1, funext h2]
theorem RPx.gx {I : Nat → Nat → Int32} {P : Nat} {n : Nat} {th ce : Nat → Nat} {wr : Nat → Bool} (hP : P = 4 ∨ P = 7) (h : RPx I P n th ce wr) (L : List (Nat × Nat)) : RPx (gxI I L) P n th ce wr := by
  rcases hP with rfl | rfl <;> exact h.cong rfl rfl rfl rfl rfl
theorem RPx.rx {I : Nat → Nat → Int32} {P : Nat} {n : Nat} {th ce : Nat → Nat} {wr : Nat → Bool} (hP : P = 4 ∨ P = 7) (h : RPx I P n th ce wr) (r : Int32) (v : Nat → Int32) : RPx (rxI I r v) P n th ce wr := by
  rcases hP with rfl | rfl <;> exact h.cong rfl rfl rfl rfl rfl
theorem GRx.rx {I : Nat → Nat → Int32} {n : Nat} {G : List (Nat × Nat)} (h : GRx I n G) (r : Int32) (v : Nat → Int32) : GRx (rxI I r v) n G := h
theorem gxI_GR {I : Nat → Nat → Int32} {n : Nat} {th ce : Nat → Nat} {wr : Nat → Bool} (hn : n ≤ 8) : GRx (gxI I (gS th ce wr n n)) n (gS th ce wr n n) := by
  refine ⟨rfl, gS_le hn, fun i hi => ?_⟩
  obtain ⟨h1, h2, h3, h4⟩ := gS_mem (Nat.le_refl n) (gAt_mem hi)
  have e : gAt (gS th ce wr n n) i = (gS th ce wr n n)[i] := by unfold gAt; rw [List.getElem?_eq_getElem hi]; rfl
  refine ⟨?_, h1, h3⟩
  rw [e]; show lsf (gS th ce wr n n) (fun a => nI (kyN a)) (I 11) i = _; rw [lsf_in hi]
section CR
variable {I : Nat → Nat → Int32} {J : Nat → Nat → Int64} {pl st : Bool} {n : Nat} {th ce : Nat → Nat} {wr : Nat → Bool} {G : List (Nat × Nat)} {i j k P : Nat} {a b : Nat × Nat}
theorem cGO {s u : Nat} : fX8_giftOf [.int (nI s), .int (nI u)] (cH I J pl st) = some (some (.int (nI (kyN (s, u)))), cH I J pl st) := by
  rw [eX8_giftOf, nI_mul', nI_add, Nat.mul_comm]
  rfl
theorem cFi (h : a.1 < 8) (h2 : a.2 < 8) : fX8_firstOf [.int (nI (kyN a))] (cH I J pl st) = some (some (.int (nI a.1)), cH I J pl st) := by
  have e : kyN a / 8 = a.1 := by unfold kyN; omega
  have hl : kyN a < 2 ^ 31 := by unfold kyN; omega
  rw [eX8_firstOf, pk_div hl (by decide) (by decide), e]
theorem cLa (h : a.1 < 8) (h2 : a.2 < 8) : fX8_lastOf [.int (nI (kyN a))] (cH I J pl st) = some (some (.int (nI a.2)), cH I J pl st) := by
  have e : kyN a % 8 = a.2 := by unfold kyN; omega
  have hl : kyN a < 2 ^ 31 := by unfold kyN; omega
  rw [eX8_lastOf, pk_rem hl (by decide) (by decide), e]
theorem cAl (h : a.1 < 8) (h2 : a.2 < 8) : fX8_isAlone [.int (nI (kyN a))] (cH I J pl st) = some (some (.int (tI (alB a))), cH I J pl st) := by
  rw [eX8_isAlone]
  simp (disch := omega) only [nI_lt', nI_le', nI_eq', inb_nI, clp, nI_add, nI_mul', cond_true, cond_false, callK_some, Option.toList_some, Option.toList_none, List.cons_append, List.nil_append, cFi h h2, cLa h h2, bX8_isAlone_4, bX8_isAlone_8]
  unfold alB
  by_cases e : a.1 = a.2 <;> simp [e, tI]
theorem cAdd {L : List (Nat × Nat)} {s u : Nat} (hL : L.length < 36) : fX8_addGift [.ref 10, .int (nI (kyN (s, u)))] (cH (gxI I L) J pl st) = some (none, cH (gxI I (L ++ [(s, u)])) J pl st) := by
  have e : gxI I L 10 2 = nI L.length := rfl
  rw [eX8_addGift]
  simp (disch := omega) only [nI_lt', nI_le', inb_nI, clp, cond_true, e, gxI_push, Nat.not_lt_zero, if_false]
  rw [if_neg (by omega)]
theorem cGg_in (hP : P = 4 ∨ P = 7) (h : RPx I P n th ce wr) {s : Nat} (hs : s < n) : ∀ d u, u + d = n → s < u → run mX8_gatherGifts (36, 0, 0, [.ref 10, .ref P, .int (nI s), .int (nI u)], [], cH (gxI I (gS th ce wr n s ++ gU th ce wr s u)) J pl st) = run mX8_gatherGifts (7, 0, 0, [.ref 10, .ref P, .int (nI (s + 1)), .int (nI n)], [], cH (gxI I (gS th ce wr n (s + 1))) J pl st) := by
  have hn := h.2.1
  intro d
  induction d with
  | zero =>
    intro u hu _
    have : u = n := by omega
    subst this
    have h' := h.gx hP (gS th ce wr u s ++ gU th ce wr s u)
    rw [bX8_gatherGifts_36 (hP := hP)]
    simp (disch := omega) only [nI_lt', nI_le', nI_eq', inb_nI, clp, nI_add, nI_mul', cond_true, cond_false, h'.1, Nat.le_refl, if_true]
    rfl
  | succ d ih =>
    intro u hu hsu
    have hun : u < n := by omega
    have h' := h.gx hP (gS th ce wr n s ++ gU th ce wr s u)
    have hlen := gSU_lt (th := th) (ce := ce) (wr := wr) hn hs hun (Nat.le_of_lt hsu)
    have ih' := ih (u + 1) (by omega) (by omega)
    have e : ¬ s = u := by omega
    obtain ⟨-, -, -, a5⟩ := h'.2.2.1 s hs
    obtain ⟨-, -, -, b5⟩ := h'.2.2.1 u hun
    rw [bX8_gatherGifts_36 (hP := hP)]
    simp (disch := omega) only [nI_lt', nI_le', nI_eq', inb_nI, clp, nI_add, nI_mul', cond_true, cond_false, callK_some, Option.toList_some, Option.toList_none, List.cons_append, List.nil_append, h'.1, cAh hP h' hs hun, bX8_gatherGifts_50 (hP := hP), ite_tI, cCe hP h' hs, cCe hP h' hun, bX8_gatherGifts_58 (hP := hP), bX8_gatherGifts_63 (hP := hP), cGO, bX8_gatherGifts_72 (hP := hP), cAdd hlen, bX8_gatherGifts_75 (hP := hP)]
    rw [if_neg (by omega), List.append_assoc]
    cases ha : ahB th s u with
    | false =>
      rw [if_neg (by decide)]
      rw [gU_f (by unfold gfB; rw [if_neg e, ha]; rfl)] at ih'
      exact ih'
    | true =>
      rw [if_pos rfl]
      by_cases hce : ce s = ce u
      · rw [if_pos hce]
        rw [gU_f (by unfold gfB; rw [if_neg e, ha]; simp [hce])] at ih'
        exact ih'
      · rw [if_neg hce, ← gU_t (Nat.le_of_lt hsu) (by unfold gfB; rw [if_neg e, ha]; simp [hce])]
        exact ih'
theorem cGg_out (hP : P = 4 ∨ P = 7) (h : RPx I P n th ce wr) : ∀ d s (z : Value), s + d = n → run mX8_gatherGifts (7, 0, 0, [.ref 10, .ref P, .int (nI s), z], [], cH (gxI I (gS th ce wr n s)) J pl st) = some (none, cH (gxI I (gS th ce wr n n)) J pl st) := by
  have hn := h.2.1
  intro d
  induction d with
  | zero =>
    intro s z hs
    have : s = n := by omega
    subst this
    have h' := h.gx hP (gS th ce wr s s)
    rw [bX8_gatherGifts_7 (hP := hP)]
    simp (disch := omega) only [nI_lt', nI_le', nI_eq', inb_nI, clp, nI_add, nI_mul', cond_true, cond_false, h'.1, Nat.le_refl, if_true]
  | succ d ih =>
    intro s z hs
    have hsn : s < n := by omega
    have h' := h.gx hP (gS th ce wr n s)
    have ih' := ih (s + 1) (.int (nI n)) (by omega)
    have hlen : (gS th ce wr n s).length < 36 := by
      have := gSU_lt (th := th) (ce := ce) (wr := wr) hn hsn hsn (Nat.le_refl s)
      rw [gU_0 (Nat.le_refl s), List.append_nil] at this
      exact this
    have e := cGg_in (J := J) (pl := pl) (st := st) hP h hsn (n - (s + 1)) (s + 1) (by omega) (by omega)
    rw [bX8_gatherGifts_7 (hP := hP)]
    simp (disch := omega) only [nI_lt', nI_le', nI_eq', inb_nI, clp, nI_add, nI_mul', cond_true, cond_false, callK_some, Option.toList_some, Option.toList_none, List.cons_append, List.nil_append, h'.1, cWr hP h' hsn, bX8_gatherGifts_20 (hP := hP), ite_tI, cGO, bX8_gatherGifts_29 (hP := hP), cAdd hlen, bX8_gatherGifts_32 (hP := hP)]
    rw [if_neg (by omega)]
    cases hw : wr s with
    | true =>
      rw [if_pos rfl]
      rw [gU_t (Nat.le_refl s) (by unfold gfB; rw [if_pos rfl]; exact hw), gU_0 (Nat.le_refl s), List.nil_append] at e
      rw [e]
      exact ih'
    | false =>
      rw [if_neg (by decide)]
      rw [gU_f (by unfold gfB; rw [if_pos rfl]; exact hw), gU_0 (Nat.le_refl s), List.append_nil] at e
      rw [e]
      exact ih'
theorem cGg (hP : P = 4 ∨ P = 7) (h : RPx I P n th ce wr) : fX8_gatherGifts [.ref 10, .ref P] (cH I J pl st) = some (none, cH (gxI I (gS th ce wr n n)) J pl st) := by
  rw [eX8_gatherGifts (hP := hP), gxI_nil]
  exact cGg_out hP h n 0 _ (by omega)
theorem cLd (hP : P = 4 ∨ P = 7) (h : RPx I P n th ce wr) (ha1 : a.1 < n) (ha2 : a.2 < n) (hb1 : b.1 < n) (hb2 : b.2 < n) : fX8_leadsTo [.ref 10, .ref P, .int (nI (kyN a)), .int (nI (kyN b))] (cH I J pl st) = some (some (.int (tI (ldB th ce wr a b))), cH I J pl st) := by
  have hn := h.2.1
  rw [eX8_leadsTo (hP := hP)]
  simp (disch := omega) only [callK_some, Option.toList_some, Option.toList_none, List.cons_append, List.nil_append, cLa (a := a) (show a.1 < 8 by omega) (show a.2 < 8 by omega), cFi (a := b) (show b.1 < 8 by omega) (show b.2 < 8 by omega), cAl (a := a) (show a.1 < 8 by omega) (show a.2 < 8 by omega), cAl (a := b) (show b.1 < 8 by omega) (show b.2 < 8 by omega), cCf hP h ha2 hb1, cWr hP h hb1, cWr hP h ha2, bX8_leadsTo_4 (hP := hP), bX8_leadsTo_10 (hP := hP), bX8_leadsTo_20 (hP := hP), bX8_leadsTo_29 (hP := hP), bX8_leadsTo_45 (hP := hP), bX8_leadsTo_38 (hP := hP), bX8_leadsTo_54 (hP := hP), ite_tI]
  unfold ldB
  cases cfB th ce wr a.2 b.1 <;> cases alB a <;> cases alB b <;> cases wr b.1 <;> cases wr a.2 <;> rfl
theorem cGa (hG : GRx I n G) (hi : i < G.length) : fX8_giftAt [.ref 10, .int (nI i)] (cH I J pl st) = some (some (.int (nI (kyN (gAt G i)))), cH I J pl st) := by
  have hl := hG.2.1
  rw [eX8_giftAt]
  simp (disch := omega) only [nI_lt', nI_le', nI_eq', inb_nI, clp, nI_add, nI_mul', cond_true, cond_false, (hG.2.2 i hi).1, Nat.not_lt_zero, if_false]
  rw [if_neg (by omega)]
theorem cCg {r : Int32} {v : Nat → Int32} (h1 : a.1 < 8) (h2 : a.2 < 8) : fX8_countGiven [.ref 10, .int (nI (kyN a))] (cH (rxI I r v) J pl st) = some (none, cH (rxI I r (fun q => v q + adk (kyN a) (nI 1) q)) J pl st) := by
  have hk : kyN a < 64 := by unfold kyN; omega
  have e12 : rxI I r v 12 = v := rfl
  rw [eX8_countGiven]
  simp (disch := omega) only [nI_lt', nI_le', inb_nI, clp, cond_true, rxI_12, e12, up1_add, Nat.not_lt_zero, if_false]
  rw [if_neg (by omega)]
end CR
end
section
/-! the class: rings counted; the same numbers as the reference's -/
def c3B (th ce : Nat → Nat) (wr : Nat → Bool) (a b c : Nat × Nat) : Bool := decide (th a.1 < th c.1) && !decide (th b.1 = th c.1) && ldB th ce wr b c && ldB th ce wr c a
def c2B (th ce : Nat → Nat) (wr : Nat → Bool) (a b : Nat × Nat) : Bool := !alB a && !alB b && ldB th ce wr b a
def c0B (th ce : Nat → Nat) (wr : Nat → Bool) (a b : Nat × Nat) : Bool := decide (th a.1 < th b.1) && ldB th ce wr a b
def ca3 (th ce : Nat → Nat) (wr : Nat → Bool) (G : List (Nat × Nat)) (a b : Nat × Nat) (k : Nat) : Int32 := bI (c3B th ce wr a b (gAt G k)) (nI 1)
def cg3 (th ce : Nat → Nat) (wr : Nat → Bool) (G : List (Nat × Nat)) (a b : Nat × Nat) (k q : Nat) : Int32 := bI (c3B th ce wr a b (gAt G k)) (adk (kyN a) (nI 1) q + (adk (kyN b) (nI 1) q + adk (kyN (gAt G k)) (nI 1) q))
def cA (th ce : Nat → Nat) (wr : Nat → Bool) (G : List (Nat × Nat)) (a b : Nat × Nat) : Int32 := bI (c0B th ce wr a b) (bI (c2B th ce wr a b) (nI 1) + sI (ca3 th ce wr G a b) G.length)
def cB (th ce : Nat → Nat) (wr : Nat → Bool) (G : List (Nat × Nat)) (a b : Nat × Nat) (q : Nat) : Int32 := bI (c0B th ce wr a b) (bI (c2B th ce wr a b) (adk (kyN a) (nI 1) q + adk (kyN b) (nI 1) q) + sI (fun k => cg3 th ce wr G a b k q) G.length)
section CRD
variable {I : Nat → Nat → Int32} {J : Nat → Nat → Int64} {pl st : Bool} {n : Nat} {th ce : Nat → Nat} {wr : Nat → Bool} {G : List (Nat × Nat)} {i j P : Nat} {a b : Nat × Nat}
theorem cFb_loop (hP : P = 4 ∨ P = 7) (h : RPx I P n th ce wr) (hG : GRx I n G) (ha1 : a.1 < n) (ha2 : a.2 < n) (hb1 : b.1 < n) (hb2 : b.2 < n) {r : Int32} {v : Nat → Int32} : ∀ d k (z1 z2 : Value), k + d = G.length → run mX8_findBegunWith (85, 0, 0, [.ref 10, .ref P, .int (nI (kyN a)), .int (nI (kyN b)), .int (nI (th a.1)), .int (nI (th b.1)), .int (nI k), z1, z2], [], cH (rxI I (r + sI (ca3 th ce wr G a b) k) (fun q => v q + sI (fun k' => cg3 th ce wr G a b k' q) k)) J pl st) = some (none, cH (rxI I (r + sI (ca3 th ce wr G a b) G.length) (fun q => v q + sI (fun k' => cg3 th ce wr G a b k' q) G.length)) J pl st) := by
  have hn := h.2.1
  have hl := hG.2.1
  intro d
  induction d with
  | zero =>
    intro k z1 z2 hk
    have : k = G.length := by omega
    subst this
    have e2 : ∀ R V, rxI I R V 10 2 = nI G.length := fun R V => hG.1
    rw [bX8_findBegunWith_85 (hP := hP)]
    simp (disch := omega) only [nI_lt', nI_le', nI_eq', inb_nI, clp, nI_add, nI_mul', cond_true, cond_false, e2, Nat.le_refl, if_true]
  | succ d ih =>
    intro k z1 z2 hk
    have hkl : k < G.length := by omega
    have ih' := ih (k + 1) .null .null (by omega)
    have key : ∀ (R : Int32) (V : Nat → Int32), run mX8_findBegunWith (85, 0, 0, [.ref 10, .ref P, .int (nI (kyN a)), .int (nI (kyN b)), .int (nI (th a.1)), .int (nI (th b.1)), .int (nI k), z1, z2], [], cH (rxI I R V) J pl st) = run mX8_findBegunWith (85, 0, 0, [.ref 10, .ref P, .int (nI (kyN a)), .int (nI (kyN b)), .int (nI (th a.1)), .int (nI (th b.1)), .int (nI (k + 1)), .null, .null], [], cH (rxI I (R + ca3 th ce wr G a b k) (fun q => V q + cg3 th ce wr G a b k q)) J pl st) := by
      intro R V
      have h' := h.rx hP R V
      have hG' := hG.rx R V
      obtain ⟨-, c1, c2⟩ := hG'.2.2 k hkl
      obtain ⟨-, -, d4, -⟩ := h'.2.2.1 _ c1
      obtain ⟨-, -, e4, -⟩ := h'.2.2.1 _ ha1
      obtain ⟨-, -, f4, -⟩ := h'.2.2.1 _ hb1
      have e3 : rxI I R V 10 3 = R := rfl
      rw [bX8_findBegunWith_85 (hP := hP)]
      simp (disch := omega) only [nI_lt', nI_le', nI_eq', inb_nI, clp, nI_add, nI_mul', cond_true, cond_false, callK_some, Option.toList_some, Option.toList_none, List.cons_append, List.nil_append, hG'.1, cGa hG' hkl, bX8_findBegunWith_100 (hP := hP), cFi (a := gAt G k) (show (gAt G k).1 < 8 by omega) (show (gAt G k).2 < 8 by omega), bX8_findBegunWith_108 (hP := hP), cTh hP h' c1, bX8_findBegunWith_111 (hP := hP), cLd hP h' hb1 hb2 c1 c2, cLd hP h' c1 c2 ha1 ha2, bX8_findBegunWith_135 (hP := hP), bX8_findBegunWith_146 (hP := hP), ite_tI, rxI_r, e3, cCg (a := a) (show a.1 < 8 by omega) (show a.2 < 8 by omega), cCg (a := b) (show b.1 < 8 by omega) (show b.2 < 8 by omega), cCg (a := gAt G k) (show (gAt G k).1 < 8 by omega) (show (gAt G k).2 < 8 by omega), bX8_findBegunWith_164 (hP := hP), bX8_findBegunWith_169 (hP := hP), bX8_findBegunWith_175 (hP := hP)]
      rw [if_neg (by omega)]
      unfold ca3 cg3
      have hfalse : c3B th ce wr a b (gAt G k) = false → rxI I R V = rxI I (R + bI (c3B th ce wr a b (gAt G k)) (nI 1)) (fun q => V q + bI (c3B th ce wr a b (gAt G k)) (adk (kyN a) (nI 1) q + (adk (kyN b) (nI 1) q + adk (kyN (gAt G k)) (nI 1) q))) := by
        intro hz
        rw [hz]
        exact sx_same (add_z R).symm (fun q => (add_z (V q)).symm)
      by_cases h0 : th (gAt G k).1 ≤ th a.1
      · rw [if_pos h0, ← hfalse (by unfold c3B; have : ¬ th a.1 < th (gAt G k).1 := by omega
                                    simp [this])]
      rw [if_neg h0]
      have h0' : th a.1 < th (gAt G k).1 := by omega
      by_cases h1 : th b.1 = th (gAt G k).1
      · rw [if_pos h1, ← hfalse (by unfold c3B; simp [h1])]
      rw [if_neg h1]
      cases m1 : ldB th ce wr b (gAt G k) with
      | false => rw [if_neg (by decide), ← hfalse (by unfold c3B; rw [m1]; simp)]
      | true =>
      rw [if_pos rfl]
      cases m2 : ldB th ce wr (gAt G k) a with
      | false => rw [if_neg (by decide), ← hfalse (by unfold c3B; rw [m2]; simp)]
      | true =>
      rw [if_pos rfl]
      have ht : c3B th ce wr a b (gAt G k) = true := by unfold c3B; rw [m1, m2]; simp [h0', h1]
      rw [ht]
      congr 7
      exact sx_same rfl (fun q => by show V q + _ + _ + _ = V q + (_ + (_ + _)); simp only [Int32.add_assoc])
    rw [key]
    rw [show rxI I (r + sI (ca3 th ce wr G a b) k + ca3 th ce wr G a b k) (fun q => v q + sI (fun k' => cg3 th ce wr G a b k' q) k + cg3 th ce wr G a b k q) = rxI I (r + sI (ca3 th ce wr G a b) (k + 1)) (fun q => v q + sI (fun k' => cg3 th ce wr G a b k' q) (k + 1)) from sx_same (Int32.add_assoc _ _ _) (fun q => Int32.add_assoc _ _ _)]
    exact ih'
theorem cFb (hP : P = 4 ∨ P = 7) (h : RPx I P n th ce wr) (hG : GRx I n G) (ha1 : a.1 < n) (ha2 : a.2 < n) (hb1 : b.1 < n) (hb2 : b.2 < n) {r : Int32} {v : Nat → Int32} : fX8_findBegunWith [.ref 10, .ref P, .int (nI (kyN a)), .int (nI (kyN b))] (cH (rxI I r v) J pl st) = some (none, cH (rxI I (r + cA th ce wr G a b) (fun q => v q + cB th ce wr G a b q)) J pl st) := by
  have hn := h.2.1
  have h' := h.rx hP r v
  obtain ⟨-, -, e4, -⟩ := h'.2.2.1 _ ha1
  obtain ⟨-, -, f4, -⟩ := h'.2.2.1 _ hb1
  have e3 : rxI I r v 10 3 = r := rfl
  have lp : ∀ (R : Int32) (V : Nat → Int32), run mX8_findBegunWith (85, 0, 0, [.ref 10, .ref P, .int (nI (kyN a)), .int (nI (kyN b)), .int (nI (th a.1)), .int (nI (th b.1)), .int (nI 0), .null, .null], [], cH (rxI I R V) J pl st) = some (none, cH (rxI I (R + sI (ca3 th ce wr G a b) G.length) (fun q => V q + sI (fun k' => cg3 th ce wr G a b k' q) G.length)) J pl st) := by
    intro R V
    have e := cFb_loop (J := J) (pl := pl) (st := st) hP h hG ha1 ha2 hb1 hb2 (r := R) (v := V) G.length 0 .null .null (by omega)
    rw [show rxI I (R + sI (ca3 th ce wr G a b) 0) (fun q => V q + sI (fun k' => cg3 th ce wr G a b k' q) 0) = rxI I R V from sx_same (add_z _) (fun q => add_z _)] at e
    exact e
  rw [eX8_findBegunWith (hP := hP)]
  simp (disch := omega) only [nI_lt', nI_le', nI_eq', inb_nI, clp, nI_add, nI_mul', cond_true, cond_false, callK_some, Option.toList_some, Option.toList_none, List.cons_append, List.nil_append, cFi (a := a) (show a.1 < 8 by omega) (show a.2 < 8 by omega), cFi (a := b) (show b.1 < 8 by omega) (show b.2 < 8 by omega), bX8_findBegunWith_5 (hP := hP), cTh hP h' ha1, bX8_findBegunWith_8 (hP := hP), bX8_findBegunWith_15 (hP := hP), cTh hP h' hb1, bX8_findBegunWith_18 (hP := hP), cLd hP h' ha1 ha2 hb1 hb2, cLd hP h' hb1 hb2 ha1 ha2, bX8_findBegunWith_34 (hP := hP), ite_tI, cAl (a := a) (show a.1 < 8 by omega) (show a.2 < 8 by omega), cAl (a := b) (show b.1 < 8 by omega) (show b.2 < 8 by omega), bX8_findBegunWith_42 (hP := hP), bX8_findBegunWith_49 (hP := hP), bX8_findBegunWith_59 (hP := hP), rxI_r, e3, cCg (a := a) (show a.1 < 8 by omega) (show a.2 < 8 by omega), cCg (a := b) (show b.1 < 8 by omega) (show b.2 < 8 by omega), bX8_findBegunWith_77 (hP := hP), bX8_findBegunWith_82 (hP := hP), lp]
  unfold cA cB
  have hfalse : c0B th ce wr a b = false → rxI I r v = rxI I (r + bI (c0B th ce wr a b) (bI (c2B th ce wr a b) (nI 1) + sI (ca3 th ce wr G a b) G.length)) (fun q => v q + bI (c0B th ce wr a b) (bI (c2B th ce wr a b) (adk (kyN a) (nI 1) q + adk (kyN b) (nI 1) q) + sI (fun k => cg3 th ce wr G a b k q) G.length)) := by
    intro hz
    rw [hz]
    exact sx_same (add_z r).symm (fun q => (add_z (v q)).symm)
  by_cases h0 : th b.1 ≤ th a.1
  · rw [if_pos h0, ← hfalse (by unfold c0B; have : ¬ th a.1 < th b.1 := by omega
                                simp [this])]
  rw [if_neg h0]
  have h0' : th a.1 < th b.1 := by omega
  cases m1 : ldB th ce wr a b with
  | false => rw [if_neg (by decide), ← hfalse (by unfold c0B; rw [m1]; simp)]
  | true =>
  rw [if_pos rfl]
  have ht : c0B th ce wr a b = true := by unfold c0B; rw [m1]; simp [h0']
  rw [ht]
  have hno : c2B th ce wr a b = false → rxI I (r + sI (ca3 th ce wr G a b) G.length) (fun q => v q + sI (fun k' => cg3 th ce wr G a b k' q) G.length) = rxI I (r + bI true (bI (c2B th ce wr a b) (nI 1) + sI (ca3 th ce wr G a b) G.length)) (fun q => v q + bI true (bI (c2B th ce wr a b) (adk (kyN a) (nI 1) q + adk (kyN b) (nI 1) q) + sI (fun k => cg3 th ce wr G a b k q) G.length)) := by
    intro hz
    rw [hz]
    exact sx_same (by show _ = r + (nI 0 + _); rw [z_add]) (fun q => by show _ = v q + (nI 0 + _); rw [z_add])
  cases n1 : alB a with
  | true => rw [if_pos rfl, ← hno (by unfold c2B; rw [n1]; rfl)]
  | false =>
  rw [if_neg (by decide)]
  cases n2 : alB b with
  | true => rw [if_pos rfl, ← hno (by unfold c2B; rw [n1, n2]; rfl)]
  | false =>
  rw [if_neg (by decide)]
  cases n3 : ldB th ce wr b a with
  | false => rw [if_neg (by decide), ← hno (by unfold c2B; rw [n1, n2, n3]; rfl)]
  | true =>
  rw [if_pos rfl]
  have h2 : c2B th ce wr a b = true := by unfold c2B; rw [n1, n2, n3]; rfl
  rw [h2]
  refine congrArg (fun x => some ((none : Option Value), cH x J pl st)) (sx_same ?_ (fun q => ?_))
  · show r + nI 1 + sI (ca3 th ce wr G a b) G.length = r + (nI 1 + sI (ca3 th ce wr G a b) G.length)
    exact Int32.add_assoc _ _ _
  · show v q + adk (kyN a) (nI 1) q + adk (kyN b) (nI 1) q + sI (fun k' => cg3 th ce wr G a b k' q) G.length = v q + ((adk (kyN a) (nI 1) q + adk (kyN b) (nI 1) q) + sI (fun k' => cg3 th ce wr G a b k' q) G.length)
    simp only [Int32.add_assoc]
theorem cFd_in (hP : P = 4 ∨ P = 7) (h : RPx I P n th ce wr) (hG : GRx I n G) (hi : i < G.length) {r : Int32} {v : Nat → Int32} : ∀ d j, j + d = G.length → run mX8_find (30, 0, 0, [.ref 10, .ref P, .int (nI i), .int (nI j)], [], cH (rxI I (r + sI (fun j => cA th ce wr G (gAt G i) (gAt G j)) j) (fun q => v q + sI (fun j => cB th ce wr G (gAt G i) (gAt G j) q) j)) J pl st) = run mX8_find (20, 0, 0, [.ref 10, .ref P, .int (nI (i + 1)), .int (nI G.length)], [], cH (rxI I (r + sI (fun j => cA th ce wr G (gAt G i) (gAt G j)) G.length) (fun q => v q + sI (fun j => cB th ce wr G (gAt G i) (gAt G j) q) G.length)) J pl st) := by
  have hl := hG.2.1
  have e2 : ∀ R V, rxI I R V 10 2 = nI G.length := fun R V => hG.1
  intro d
  induction d with
  | zero =>
    intro j hj
    have : j = G.length := by omega
    subst this
    rw [bX8_find_30 (hP := hP)]
    simp (disch := omega) only [nI_lt', nI_le', nI_eq', inb_nI, clp, nI_add, nI_mul', cond_true, cond_false, e2, Nat.le_refl, if_true]
  | succ d ih =>
    intro j hj
    have hjl : j < G.length := by omega
    have ih' := ih (j + 1) (by omega)
    obtain ⟨-, a1, a2⟩ := hG.2.2 i hi
    obtain ⟨-, b1, b2⟩ := hG.2.2 j hjl
    have key : ∀ (R : Int32) (V : Nat → Int32), run mX8_find (30, 0, 0, [.ref 10, .ref P, .int (nI i), .int (nI j)], [], cH (rxI I R V) J pl st) = run mX8_find (30, 0, 0, [.ref 10, .ref P, .int (nI i), .int (nI (j + 1))], [], cH (rxI I (R + cA th ce wr G (gAt G i) (gAt G j)) (fun q => V q + cB th ce wr G (gAt G i) (gAt G j) q)) J pl st) := by
      intro R V
      have hG' := hG.rx R V
      rw [bX8_find_30 (hP := hP)]
      simp (disch := omega) only [nI_lt', nI_le', nI_eq', inb_nI, clp, nI_add, nI_mul', cond_true, cond_false, callK_some, Option.toList_some, Option.toList_none, List.cons_append, List.nil_append, hG'.1, cGa hG' hi, bX8_find_45 (hP := hP), cGa hG' hjl, bX8_find_50 (hP := hP), cFb hP h hG a1 a2 b1 b2, bX8_find_53 (hP := hP)]
      rw [if_neg (by omega)]
    rw [key]
    rw [show rxI I (r + sI (fun j => cA th ce wr G (gAt G i) (gAt G j)) j + cA th ce wr G (gAt G i) (gAt G j)) (fun q => v q + sI (fun j => cB th ce wr G (gAt G i) (gAt G j) q) j + cB th ce wr G (gAt G i) (gAt G j) q) = rxI I (r + sI (fun j => cA th ce wr G (gAt G i) (gAt G j)) (j + 1)) (fun q => v q + sI (fun j => cB th ce wr G (gAt G i) (gAt G j) q) (j + 1)) from sx_same (Int32.add_assoc _ _ _) (fun q => Int32.add_assoc _ _ _)]
    exact ih'
theorem cFd_out (hP : P = 4 ∨ P = 7) (h : RPx I P n th ce wr) (hG : GRx I n G) {r : Int32} {v : Nat → Int32} : ∀ d i (z : Value), i + d = G.length → run mX8_find (20, 0, 0, [.ref 10, .ref P, .int (nI i), z], [], cH (rxI I (r + sI (fun i => sI (fun j => cA th ce wr G (gAt G i) (gAt G j)) G.length) i) (fun q => v q + sI (fun i => sI (fun j => cB th ce wr G (gAt G i) (gAt G j) q) G.length) i)) J pl st) = some (none, cH (rxI I (r + sI (fun i => sI (fun j => cA th ce wr G (gAt G i) (gAt G j)) G.length) G.length) (fun q => v q + sI (fun i => sI (fun j => cB th ce wr G (gAt G i) (gAt G j) q) G.length) G.length)) J pl st) := by
  have hl := hG.2.1
  have e2 : ∀ R V, rxI I R V 10 2 = nI G.length := fun R V => hG.1
  intro d
  induction d with
  | zero =>
    intro i z hi
    have : i = G.length := by omega
    subst this
    rw [bX8_find_20 (hP := hP)]
    simp (disch := omega) only [nI_lt', nI_le', nI_eq', inb_nI, clp, nI_add, nI_mul', cond_true, cond_false, e2, Nat.le_refl, if_true]
  | succ d ih =>
    intro i z hi
    rw [bX8_find_20 (hP := hP)]
    simp (disch := omega) only [nI_lt', nI_le', nI_eq', inb_nI, clp, nI_add, nI_mul', cond_true, cond_false, e2]
    rw [if_neg (by omega)]
    have e := cFd_in (J := J) (pl := pl) (st := st) hP h hG (show i < G.length by omega) (r := r + sI (fun i => sI (fun j => cA th ce wr G (gAt G i) (gAt G j)) G.length) i) (v := fun q => v q + sI (fun i => sI (fun j => cB th ce wr G (gAt G i) (gAt G j) q) G.length) i) G.length 0 (by omega)
    rw [show rxI I (r + sI (fun i => sI (fun j => cA th ce wr G (gAt G i) (gAt G j)) G.length) i + sI (fun j => cA th ce wr G (gAt G i) (gAt G j)) 0) (fun q => v q + sI (fun i => sI (fun j => cB th ce wr G (gAt G i) (gAt G j) q) G.length) i + sI (fun j => cB th ce wr G (gAt G i) (gAt G j) q) 0) = rxI I (r + sI (fun i => sI (fun j => cA th ce wr G (gAt G i) (gAt G j)) G.length) i) (fun q => v q + sI (fun i => sI (fun j => cB th ce wr G (gAt G i) (gAt G j) q) G.length) i) from sx_same (add_z _) (fun q => add_z _)] at e
    rw [e]
    rw [show rxI I (r + sI (fun i => sI (fun j => cA th ce wr G (gAt G i) (gAt G j)) G.length) i + sI (fun j => cA th ce wr G (gAt G i) (gAt G j)) G.length) (fun q => v q + sI (fun i => sI (fun j => cB th ce wr G (gAt G i) (gAt G j) q) G.length) i + sI (fun j => cB th ce wr G (gAt G i) (gAt G j) q) G.length) = rxI I (r + sI (fun i => sI (fun j => cA th ce wr G (gAt G i) (gAt G j)) G.length) (i + 1)) (fun q => v q + sI (fun i => sI (fun j => cB th ce wr G (gAt G i) (gAt G j) q) G.length) (i + 1)) from sx_same (Int32.add_assoc _ _ _) (fun q => Int32.add_assoc _ _ _)]
    exact ih (i + 1) _ (by omega)
end CRD
end
section
/-! the class's numbers are the reference's -/
section CRE
variable {I : Nat → Nat → Int32} {J : Nat → Nat → Int64} {pl st : Bool} {n : Nat} {th ce : Nat → Nat} {wr : Nat → Bool} {G : List (Nat × Nat)} {i j P : Nat} {a b c : Nat × Nat}
theorem cfB_th {s u : Nat} (h : cfB th ce wr s u = true) : th s ≠ th u := by
  unfold cfB at h
  intro z
  simp [z] at h
/-- a gift's steps are of one thread -/
def gOk (th : Nat → Nat) (a : Nat × Nat) : Prop := th a.1 = th a.2 ∧ th a.1 < 3
theorem tw_same : (c0B th ce wr a b && c2B th ce wr a b) = twB th ce wr a b := by
  unfold c0B c2B twB ldB
  cases alB a <;> cases alB b <;> cases cfB th ce wr a.2 b.1 <;> cases cfB th ce wr b.2 a.1 <;> simp
theorem th_same (ha : gOk th a) (hb : gOk th b) (hc : gOk th c) : (c0B th ce wr a b && c3B th ce wr a b c) = (p3B th ce wr a b && t3B th ce wr a b c) := by
  obtain ⟨-, a2⟩ := ha
  obtain ⟨-, b2⟩ := hb
  obtain ⟨-, c2⟩ := hc
  have key : (decide (th a.1 < th b.1) && (decide (th a.1 < th c.1) && !decide (th b.1 = th c.1))) = (decide (th a.1 = 0) && decide (0 < th b.1) && (!decide (th c.1 = 0) && !decide (th c.1 = th b.1))) := by
    rw [Bool.eq_iff_iff]
    simp only [Bool.and_eq_true, decide_eq_true_eq, Bool.not_eq_true', decide_eq_false_iff_not]
    constructor
    · rintro ⟨h1, h2, h3⟩; exact ⟨⟨by omega, by omega⟩, by omega, by omega⟩
    · rintro ⟨⟨h1, h2⟩, h3, h4⟩; exact ⟨by omega, by omega, by omega⟩
  have rest : ∀ x y : Bool, x = y → (x && (ldB th ce wr a b && (ldB th ce wr b c && ldB th ce wr c a))) = (y && (cfB th ce wr a.2 b.1 && (cfB th ce wr b.2 c.1 && cfB th ce wr c.2 a.1 && ftB wr c a b && ftB wr a b c && ftB wr b c a))) := by
    rintro x y rfl
    unfold ldB ftB
    cases x
    · rfl
    · cases cfB th ce wr a.2 b.1 <;> cases cfB th ce wr b.2 c.1 <;> cases cfB th ce wr c.2 a.1 <;> cases alB a <;> cases alB b <;> cases alB c <;> cases wr a.1 <;> cases wr a.2 <;> cases wr b.1 <;> cases wr b.2 <;> cases wr c.1 <;> cases wr c.2 <;> rfl
  have e1 : (c0B th ce wr a b && c3B th ce wr a b c) = ((decide (th a.1 < th b.1) && (decide (th a.1 < th c.1) && !decide (th b.1 = th c.1))) && (ldB th ce wr a b && (ldB th ce wr b c && ldB th ce wr c a))) := by
    unfold c0B c3B
    cases decide (th a.1 < th b.1) <;> cases ldB th ce wr a b <;> cases decide (th a.1 < th c.1) <;> cases decide (th b.1 = th c.1) <;> cases ldB th ce wr b c <;> cases ldB th ce wr c a <;> rfl
  have e2 : (p3B th ce wr a b && t3B th ce wr a b c) = ((decide (th a.1 = 0) && decide (0 < th b.1) && (!decide (th c.1 = 0) && !decide (th c.1 = th b.1))) && (cfB th ce wr a.2 b.1 && (cfB th ce wr b.2 c.1 && cfB th ce wr c.2 a.1 && ftB wr c a b && ftB wr a b c && ftB wr b c a))) := by
    unfold p3B t3B
    cases decide (th a.1 = 0) <;> cases decide (0 < th b.1) <;> cases cfB th ce wr a.2 b.1 <;> cases decide (th c.1 = 0) <;> cases decide (th c.1 = th b.1) <;> simp
  rw [e1, e2]
  exact rest _ _ key
theorem bI_bI (x y : Bool) (z : Int32) : bI x (bI y z) = bI (x && y) z := by cases x <;> rfl
theorem bI_add (x : Bool) (y z : Int32) : bI x (y + z) = bI x y + bI x z := by
  cases x
  · exact (add_z _).symm
  · rfl
theorem bI_sI (x : Bool) (f : Nat → Int32) : ∀ n, bI x (sI f n) = sI (fun k => bI x (f k)) n := by
  intro n
  induction n with
  | zero => cases x <;> rfl
  | succ n ih =>
    show bI x (sI f n + f n) = sI (fun k => bI x (f k)) n + bI x (f n)
    rw [bI_add, ih]
theorem cA_eq (hG : ∀ i, i < G.length → gOk th (gAt G i)) (hi : i < G.length) (hj : j < G.length) : cA th ce wr G (gAt G i) (gAt G j) = a2 th ce wr G i j + a3' th ce wr G i j := by
  unfold cA a2 a3'
  rw [bI_add, bI_bI, tw_same, bI_sI, bI_sI]
  congr 1
  refine sI_cong fun k hk => ?_
  unfold ca3 a3
  rw [bI_bI, bI_bI, th_same (hG i hi) (hG j hj) (hG k hk)]
/-- the key of a pair of steps -/
theorem adk_cM {q s u : Nat} (hq : q = 8 * s + u) (hsu : s < u) (hu : u < 8) (h2 : a.2 < 8) : adk (kyN a) (nI 1) q = adk (kyN a) (cM a) q := by
  unfold adk
  by_cases h : q = kyN a
  · rw [if_pos h, if_pos h]
    have : alB a = false := by
      unfold alB
      apply decide_eq_false
      unfold kyN at h
      omega
    rw [cM_1 this]
  · rw [if_neg h, if_neg h]
theorem cB_eq (hG : ∀ i, i < G.length → gOk th (gAt G i) ∧ (gAt G i).2 < 8) (hi : i < G.length) (hj : j < G.length) {q s u : Nat} (hq : q = 8 * s + u) (hsu : s < u) (hu : u < 8) : cB th ce wr G (gAt G i) (gAt G j) q = g2 th ce wr G i j q + g3' th ce wr G i j q := by
  unfold cB g2 g3'
  rw [bI_add, bI_bI, tw_same, bI_sI, bI_sI]
  congr 1
  refine sI_cong fun k hk => ?_
  unfold cg3 g3
  rw [bI_bI, bI_bI, th_same (hG i hi).1 (hG j hj).1 (hG k hk).1, adk_cM hq hsu hu (hG i hi).2, adk_cM hq hsu hu (hG j hj).2, adk_cM hq hsu hu (hG k hk).2]
theorem cT_eq (hG : ∀ i, i < G.length → gOk th (gAt G i)) : sI (fun i => sI (fun j => cA th ce wr G (gAt G i) (gAt G j)) G.length) G.length = nR th ce wr G := by
  unfold nR
  rw [← sI_add]
  refine sI_cong fun i hi => ?_
  rw [← sI_add]
  exact sI_cong fun j hj => cA_eq hG hi hj
theorem cV_eq (hG : ∀ i, i < G.length → gOk th (gAt G i) ∧ (gAt G i).2 < 8) {q s u : Nat} (hq : q = 8 * s + u) (hsu : s < u) (hu : u < 8) : sI (fun i => sI (fun j => cB th ce wr G (gAt G i) (gAt G j) q) G.length) G.length = nV th ce wr G q := by
  unfold nV
  rw [← sI_add]
  refine sI_cong fun i hi => ?_
  rw [← sI_add]
  exact sI_cong fun j hj => cB_eq hG hi hj hq hsu hu
theorem gS_ok (hth : ∀ s, s < n → th s < 3) (hn : n ≤ 8) : ∀ i, i < (gS th ce wr n n).length → gOk th (gAt (gS th ce wr n n) i) ∧ (gAt (gS th ce wr n n) i).2 < 8 := by
  intro i hi
  obtain ⟨h1, h2, h3, h4⟩ := gS_mem (Nat.le_refl n) (gAt_mem hi)
  refine ⟨⟨?_, hth _ h1⟩, by omega⟩
  unfold gfB at h4
  split at h4
  · rename_i e; rw [e]
  · unfold ahB at h4
    simp at h4
    exact h4.1.2
/-- the array of counts put back to nothing -/
theorem cFill {x : Int32} : ∀ d k (I : Nat → Nat → Int32), k + d = 64 → (∀ q, q < k → I 12 q = x) → ∃ I' : Nat → Nat → Int32, run mJ7_fill_53178 (5, 0, 0, [.ref 12, .int x, .int (nI k), .int (nI 64)], [], cH I J pl st) = some (none, cH I' J pl st) ∧ (∀ p, p ≠ 12 → I' p = I p) ∧ (∀ q, q < 64 → I' 12 q = x) := by
  intro d
  induction d with
  | zero =>
    intro k I hk hI
    have : k = 64 := by omega
    subst this
    refine ⟨I, ?_, fun _ _ => rfl, hI⟩
    rw [bJ7_fill_53178_5_r]
    simp (disch := omega) only [nI_lt', nI_le', nI_eq', inb_nI, clp, nI_add, nI_mul', cond_true, cond_false, Nat.le_refl, if_true]
  | succ d ih =>
    intro k I hk hI
    obtain ⟨I', h1, h2, h3⟩ := ih (k + 1) (up2 I 12 k x) (by omega) (fun q hq => by
      rw [up2_eq]; unfold up1
      by_cases hqk : q = k
      · rw [if_pos hqk]
      · rw [if_neg hqk]; exact hI q (by omega))
    refine ⟨I', ?_, fun p hp => by rw [h2 p hp, up2_ne hp], h3⟩
    rw [bJ7_fill_53178_5_r]
    simp (disch := omega) only [nI_lt', nI_le', nI_eq', inb_nI, clp, nI_add, nI_mul', cond_true, cond_false]
    rw [if_neg (by omega)]
    exact h1
theorem cRings (hP : P = 4 ∨ P = 7) (h : RPx I P n th ce wr) : ∃ I' : Nat → Nat → Int32, fX8_find [.ref 10, .ref P] (cH I J pl st) = some (none, cH I' J pl st) ∧ (∀ p, p ≠ 10 → p ≠ 11 → p ≠ 12 → I' p = I p) ∧ I' 10 3 = nR th ce wr (gS th ce wr n n) ∧ (∀ s u, s < u → u < 8 → I' 12 (8 * s + u) = nV th ce wr (gS th ce wr n n) (8 * s + u)) := by
  have hn := h.2.1
  have hgs := gS_ok (ce := ce) (wr := wr) (fun s hs => (h.2.2.1 s hs).2.2.1) hn
  obtain ⟨I1, e1, h1, h2⟩ := cFill (x := nI 0) (J := J) (pl := pl) (st := st) 64 0 I (by omega) (fun q hq => absurd hq (Nat.not_lt_zero q))
  have hR0 : RPx (up2 I1 10 3 (nI 0)) P n th ce wr := by
    rcases hP with rfl | rfl
    · exact h.cong (by rw [up2_ne (by decide), h1 4 (by decide)]) (by rw [up2_ne (by decide), h1 4 (by decide)]) (by rw [up2_ne (by decide), h1 4 (by decide)]) (by rw [up2_ne (by decide), h1 (4 + 1) (by decide)]) (by rw [up2_ne (by decide), h1 (4 + 2) (by decide)])
    · exact h.cong (by rw [up2_ne (by decide), h1 7 (by decide)]) (by rw [up2_ne (by decide), h1 7 (by decide)]) (by rw [up2_ne (by decide), h1 7 (by decide)]) (by rw [up2_ne (by decide), h1 (7 + 1) (by decide)]) (by rw [up2_ne (by decide), h1 (7 + 2) (by decide)])
  have hR1 := hR0.gx hP (gS th ce wr n n)
  have hG : GRx (gxI (up2 I1 10 3 (nI 0)) (gS th ce wr n n)) n (gS th ce wr n n) := gxI_GR hn
  have eW : gxI (up2 I1 10 3 (nI 0)) (gS th ce wr n n) = rxI (gxI (up2 I1 10 3 (nI 0)) (gS th ce wr n n)) (nI 0) (I1 12) := by
    funext p
    by_cases hp : p = 12
    · subst hp; rfl
    · by_cases hp0 : p = 10
      · subst hp0
        funext k
        by_cases hk : k = 3
        · subst hk; rfl
        · simp [rxI, hk]
      · funext k; simp [rxI, hp, hp0]
  refine ⟨rxI (gxI (up2 I1 10 3 (nI 0)) (gS th ce wr n n)) (nI 0 + sI (fun i => sI (fun j => cA th ce wr (gS th ce wr n n) (gAt (gS th ce wr n n) i) (gAt (gS th ce wr n n) j)) (gS th ce wr n n).length) (gS th ce wr n n).length) (fun q => I1 12 q + sI (fun i => sI (fun j => cB th ce wr (gS th ce wr n n) (gAt (gS th ce wr n n) i) (gAt (gS th ce wr n n) j) q) (gS th ce wr n n).length) (gS th ce wr n n).length), ?_, ?_, ?_, ?_⟩
  · rw [eX8_find (hP := hP), eJ7_fill_53178_r, e1]
    simp only [callK_some, Option.toList_some, Option.toList_none, List.cons_append, List.nil_append, bX8_find_8 (hP := hP), cGg hP hR0, bX8_find_18 (hP := hP)]
    rw [show cH (gxI (up2 I1 10 3 (nI 0)) (gS th ce wr n n)) J pl st = cH (rxI (gxI (up2 I1 10 3 (nI 0)) (gS th ce wr n n)) (nI 0) (I1 12)) J pl st from congrArg (fun x => cH x J pl st) eW]
    have e2 := cFd_out (J := J) (pl := pl) (st := st) hP hR1 hG (r := nI 0) (v := I1 12) (gS th ce wr n n).length 0 .null (by omega)
    rw [show ∀ (X : Int32) (Y : Nat → Int32), rxI (gxI (up2 I1 10 3 (nI 0)) (gS th ce wr n n)) (X + sI (fun i => sI (fun j => cA th ce wr (gS th ce wr n n) (gAt (gS th ce wr n n) i) (gAt (gS th ce wr n n) j)) (gS th ce wr n n).length) 0) (fun q => Y q + sI (fun i => sI (fun j => cB th ce wr (gS th ce wr n n) (gAt (gS th ce wr n n) i) (gAt (gS th ce wr n n) j) q) (gS th ce wr n n).length) 0) = rxI (gxI (up2 I1 10 3 (nI 0)) (gS th ce wr n n)) X Y from fun X Y => sx_same (add_z _) (fun q => add_z _)] at e2
    exact e2
  · intro p p10 p11 p12
    funext k
    have : gxI (up2 I1 10 3 (nI 0)) (gS th ce wr n n) p k = I1 p k := by simp only [gxI, p11, p10, if_false]; rw [up2_ne p10]
    simp only [rxI, p12, p10, if_false, this]
    rw [h1 p p12]
  · show nI 0 + _ = _
    rw [z_add]
    exact cT_eq (fun i hi => (hgs i hi).1)
  · intro s u hsu hu
    show I1 12 (8 * s + u) + _ = _
    rw [h2 _ (by omega), z_add]
    exact cV_eq hgs rfl hsu hu
end CRE
end
section
/-! steps and gaps by any number; sets; prices -/
theorem xor_nI (a b : Nat) : nI a ^^^ nI b = nI (a ^^^ b) := by
  apply Int32.toBitVec_inj.1
  show BitVec.ofNat 32 a ^^^ BitVec.ofNat 32 b = BitVec.ofNat 32 (a ^^^ b)
  apply BitVec.eq_of_getLsbD_eq
  intro i hi
  simp [hi]
theorem m1_nI' : Int32.ofInt (-1) = nI 4294967295 := by decide
/-- what is in the first and not in the second -/
def adn (a b : Nat) : Nat := a &&& (b ^^^ 4294967295)
theorem adn_I (a b : Nat) : nI a &&& (nI b ^^^ Int32.ofInt (-1)) = nI (adn a b) := by
  rw [m1_nI', xor_nI, and_nI]; rfl
theorem adn_bit {a b : Nat} (ha : a < 4294967296) (i : Nat) : (adn a b).testBit i = (a.testBit i && !b.testBit i) := by
  unfold adn
  rw [Nat.testBit_and, Nat.testBit_xor]
  have e : (4294967295 : Nat) = 2 ^ 32 - 1 := rfl
  rw [e, Nat.testBit_two_pow_sub_one]
  by_cases hi : i < 32
  · simp [hi]
  · have : a.testBit i = false := Nat.testBit_lt_two_pow (Nat.lt_of_lt_of_le ha (Nat.pow_le_pow_right (n := 2) (i := 32) (j := i) (by decide) (by omega)))
    simp [this]
theorem adn_le (a b : Nat) : adn a b ≤ a := Nat.and_le_left
theorem adn_0 {a b : Nat} (ha : a < 4294967296) : adn a b = 0 ↔ ∀ i, a.testBit i = true → b.testBit i = true := by
  constructor
  · intro h i hi
    have := adn_bit (b := b) ha i
    rw [h, hi, Nat.zero_testBit] at this
    cases hb : b.testBit i
    · rw [hb] at this; cases this
    · rfl
  · intro h
    apply Nat.eq_of_testBit_eq
    intro i
    rw [adn_bit ha, Nat.zero_testBit]
    cases hi : a.testBit i
    · rfl
    · rw [h i hi]; rfl
def stX (n : Nat) (x : Int32) : Bool := !decide (x < nI 0) && !decide (nI n ≤ x)
def gpX (n : Nat) (th : Nat → Nat) (x : Int32) : Bool := stX n x && gpB th x.toNatClampNeg
theorem stX_nI {n k : Nat} (hn : n ≤ 8) (hk : k < n) : stX n (nI k) = true := by
  unfold stX
  simp (disch := omega) only [nI_lt', nI_le', nI_eq', inb_nI, clp, nI_add, nI_mul', cond_true, cond_false]
  simp [hk]
theorem stX_of {n : Nat} {x : Int32} (hn : n ≤ 8) (h : stX n x = true) : ∃ k, k < n ∧ x = nI k := by
  unfold stX at h
  rcases pk_ix x (n := n) (by omega) with a | a | a
  · rw [decide_eq_true (show x < nI 0 from a)] at h; cases h
  · rw [decide_eq_true a] at h; simp at h
  · exact a
theorem gpX_nI {n k : Nat} {th : Nat → Nat} (hn : n ≤ 8) (hk : k < n) : gpX n th (nI k) = gpB th k := by
  unfold gpX
  rw [stX_nI hn hk, clp (by omega)]
  rfl
theorem gpX_of {n : Nat} {th : Nat → Nat} {x : Int32} (hn : n ≤ 8) (h : gpX n th x = true) : ∃ k, k < n ∧ x = nI k ∧ gpB th k = true := by
  unfold gpX at h
  rw [Bool.and_eq_true] at h
  obtain ⟨k, hk, rfl⟩ := stX_of hn h.1
  refine ⟨k, hk, rfl, ?_⟩
  have := h.2
  rwa [clp (by omega)] at this
/-- all gaps -/
def gpS (th : Nat → Nat) (n : Nat) : Nat := bset (gpB th) n
/-- gaps alone -/
def sbG (th : Nat → Nat) (n F : Nat) : Prop := ∀ i, F.testBit i = true → i < n ∧ gpB th i = true
theorem gpS_bit {th : Nat → Nat} {n : Nat} (i : Nat) : (gpS th n).testBit i = true ↔ i < n ∧ gpB th i = true := by
  unfold gpS
  rw [bset_bit, Bool.and_eq_true, decide_eq_true_eq]
theorem sbG_S (th : Nat → Nat) (n : Nat) : sbG th n (gpS th n) := fun i h => (gpS_bit i).mp h
theorem sbG_lt {th : Nat → Nat} {n F : Nat} (hn : n ≤ 8) (h : sbG th n F) : F < 256 := by
  have : F < 2 ^ 8 := by
    apply Nat.lt_pow_two_of_testBit
    intro i hi
    cases hq : F.testBit i
    · rfl
    · have := (h i hq).1
      omega
  exact this
theorem sbG_adn {th : Nat → Nat} {n F : Nat} (hF : F < 256) : adn F (gpS th n) = 0 ↔ sbG th n F := by
  rw [adn_0 (by omega)]
  constructor
  · intro h i hi; exact (gpS_bit i).mp (h i hi)
  · intro h i hi; exact (gpS_bit i).mpr (h i hi)
/-- what a set costs -/
def prN (c : Nat → Nat) (F : Nat) : Nat → Nat
  | 0 => 0
  | k + 1 => prN c F k + (if F.testBit k then c k else 0)
theorem prN_le {c : Nat → Nat} {F : Nat} (h : ∀ i, F.testBit i = true → c i ≤ 9) : ∀ k, prN c F k ≤ 9 * k := by
  intro k
  induction k with
  | zero => exact Nat.le_refl 0
  | succ k ih =>
    show prN c F k + (if F.testBit k then c k else 0) ≤ _
    split
    · rename_i hq; have := h k hq; omega
    · omega
theorem prN_mono {c : Nat → Nat} {F G : Nat} (h : ∀ i, F.testBit i = true → G.testBit i = true) : ∀ k, prN c F k ≤ prN c G k := by
  intro k
  induction k with
  | zero => exact Nat.le_refl 0
  | succ k ih =>
    show prN c F k + (if F.testBit k then c k else 0) ≤ prN c G k + (if G.testBit k then c k else 0)
    by_cases hq : F.testBit k = true
    · rw [if_pos hq, if_pos (h k hq)]; omega
    · rw [if_neg hq]; omega
theorem prN_strict {c : Nat → Nat} {F G : Nat} (h : ∀ i, F.testBit i = true → G.testBit i = true) (hc : ∀ i, G.testBit i = true → 0 < c i) : ∀ k, (∃ i, i < k ∧ G.testBit i = true ∧ F.testBit i = false) → prN c F k < prN c G k := by
  intro k
  induction k with
  | zero => rintro ⟨i, hi, -⟩; omega
  | succ k ih =>
    rintro ⟨i, hi, h1, h2⟩
    show prN c F k + (if F.testBit k then c k else 0) < prN c G k + (if G.testBit k then c k else 0)
    by_cases hik : i = k
    · subst hik
      have := hc i h1
      have h3 := prN_mono (c := c) h i
      rw [if_pos h1, h2]
      simp only [Bool.false_eq_true, if_false]
      omega
    · have h3 := ih ⟨i, by omega, h1, h2⟩
      by_cases hq : F.testBit k = true
      · rw [if_pos hq, if_pos (h k hq)]; omega
      · rw [if_neg hq]; omega
/-- costs of gaps -/
def cOk (I : Nat → Nat → Int32) (P n : Nat) (th c : Nat → Nat) : Prop := ∀ g, g < n → gpB th g = true → I P g = nI (c g) ∧ 1 ≤ c g ∧ c g ≤ 9
section MG
variable {I : Nat → Nat → Int32} {J : Nat → Nat → Int64} {pl st : Bool} {n : Nat} {th ce c : Nat → Nat} {wr : Nat → Bool} {s u F K P : Nat}
theorem mSt (h : RPm I n th ce wr) (x : Int32) : fX12_isStep [.ref 0, .int x] (mH I J) = some (some (.int (tI (stX n x))), mH I J) := by
  rw [eX12_isStep, h.1]
  unfold stX
  by_cases a : x < nI 0 <;> by_cases b : nI n ≤ x <;> simp [a, b, tI]
theorem cSt (hP : P = 4 ∨ P = 7) (h : RPx I P n th ce wr) (x : Int32) : fX6_hasStep [.ref P, .int x] (cH I J pl st) = some (some (.int (tI (stX n x))), cH I J pl st) := by
  rw [eX6_hasStep (hP := hP), h.1]
  unfold stX
  by_cases a : x < nI 0 <;> by_cases b : nI n ≤ x <;> simp [a, b, tI]
theorem mGp (h : RPm I n th ce wr) (x : Int32) : fX12_isGap [.ref 0, .int x] (mH I J) = some (some (.int (tI (gpX n th x))), mH I J) := by
  have hn := h.2.1
  rcases pk_ix x (n := n) (by omega) with a | a | ⟨k, hk, rfl⟩
  · have e : gpX n th x = false := by unfold gpX stX; rw [decide_eq_true (show x < nI 0 from a)]; rfl
    rw [eX12_isGap, if_pos (show x ≤ nI 0 from Int32.le_of_lt a), e]; rfl
  · have e : gpX n th x = false := by unfold gpX stX; rw [decide_eq_true a]; simp
    rw [eX12_isGap, h.1, if_pos a, ite_self, e]; rfl
  · rw [gpX_nI hn hk, eX12_isGap, h.1]
    obtain ⟨a1, -, -, a4, -⟩ := h.2.2 k hk
    unfold gpB
    cases k with
    | zero => simp (disch := omega) only [nI_lt', nI_le', nI_eq', inb_nI, clp, nI_add, nI_mul', cond_true, cond_false]; simp [tI]
    | succ k =>
      obtain ⟨b1, -, -, b4, -⟩ := h.2.2 k (by omega)
      simp (disch := omega) only [nI_lt', nI_le', nI_eq', inb_nI, clp, nI_add, nI_mul', cond_true, cond_false, sub1_nI, Nat.add_sub_cancel, a1, b1]
      rw [if_neg (by omega), if_neg (by omega)]
      by_cases y : th (k + 1) = th k <;> simp [y, tI]
theorem cGp (hP : P = 4 ∨ P = 7) (h : RPx I P n th ce wr) (x : Int32) : fX6_hasGap [.ref P, .int x] (cH I J pl st) = some (some (.int (tI (gpX n th x))), cH I J pl st) := by
  have hn := h.2.1
  have hb := bset_small (gpB th) hn
  rw [eX6_hasGap (hP := hP)]
  simp (disch := omega) only [callK_some, Option.toList_some, Option.toList_none, List.cons_append, List.nil_append, cSt hP h x, bX6_hasGap_5 (hP := hP), ite_tI]
  cases hs : stX n x with
  | false =>
    have e : gpX n th x = false := by unfold gpX; rw [hs]; rfl
    rw [e]; rfl
  | true =>
    obtain ⟨k, hk, rfl⟩ := stX_of hn hs
    simp (disch := omega) only [if_true, callK_some, Option.toList_some, Option.toList_none, List.cons_append, List.nil_append, h.2.2.2.2, cHas, bX6_hasGap_16 (hP := hP), ite_tI, gpX_nI hn hk, bset_bit]
    rw [decide_eq_true hk, Bool.true_and]
    cases gpB th k <;> rfl
theorem mGs_loop (h : RPm I n th ce wr) : ∀ d k, k + d = n → run mX12_gaps (4, 0, 0, [.ref 0, .int (nI (bset (gpB th) k)), .int (nI k)], [], mH I J) = some (some (.int (nI (gpS th n))), mH I J) := by
  have hn := h.2.1
  intro d
  induction d with
  | zero =>
    intro k hk
    have : k = n := by omega
    subst this
    rw [bX12_gaps_4]
    simp (disch := omega) only [nI_lt', nI_le', nI_eq', inb_nI, clp, nI_add, nI_mul', cond_true, cond_false, h.1, Nat.le_refl, if_true]
    rfl
  | succ d ih =>
    intro k hk
    have ih' := ih (k + 1) (by omega)
    rw [bX12_gaps_4]
    simp (disch := omega) only [nI_lt', nI_le', nI_eq', inb_nI, clp, nI_add, nI_mul', cond_true, cond_false, callK_some, Option.toList_some, Option.toList_none, List.cons_append, List.nil_append, h.1, mGp h (nI k), bX12_gaps_18, ite_tI, gpX_nI hn (show k < n by omega)]
    rw [if_neg (by omega)]
    cases hc : gpB th k with
    | false =>
      simp only [Bool.false_eq_true, if_false]
      rw [bset_f0 hc]
      exact ih'
    | true =>
      simp only [if_true]
      rw [bset_t (by omega) hc]
      exact ih'
theorem mGs (h : RPm I n th ce wr) : fX12_gaps [.ref 0] (mH I J) = some (some (.int (nI (gpS th n))), mH I J) := by
  have hn := h.2.1
  rw [eX12_gaps]
  have e : nI 0 = nI (bset (gpB th) 1) := by
    have z : gpB th 0 = false := rfl
    rw [← bset_f z]
    rfl
  by_cases h0 : n = 0
  · subst h0
    rw [bX12_gaps_4, h.1]
    simp (disch := omega) only [nI_lt', nI_le', nI_eq', inb_nI, clp, nI_add, nI_mul', cond_true, cond_false]
    rfl
  · have := mGs_loop (J := J) h (n - 1) 1 (by omega)
    rw [← e] at this
    exact this
theorem mPr_loop (hn : n ≤ 8) (hF : sbG th n F) (hc : cOk I 4 n th c) : ∀ d k, k + d = 8 → run mX12_price (4, 0, 0, [.ref 0, .int (nI F), .int (nI (prN c F k)), .int (nI k)], [], mH I J) = some (some (.int (nI (prN c F 8))), mH I J) := by
  have hFl := sbG_lt hn hF
  intro d
  induction d with
  | zero =>
    intro k hk
    have : k = 8 := by omega
    subst this
    rw [bX12_price_4]
    simp (disch := omega) only [nI_lt', nI_le', nI_eq', inb_nI, clp, nI_add, nI_mul', cond_true, cond_false, Nat.le_refl, if_true]
  | succ d ih =>
    intro k hk
    have ih' := ih (k + 1) (by omega)
    have e : prN c F (k + 1) = prN c F k + (if F.testBit k then c k else 0) := rfl
    rw [e] at ih'
    rw [bX12_price_4]
    simp (disch := omega) only [nI_lt', nI_le', nI_eq', inb_nI, clp, nI_add, nI_mul', cond_true, cond_false, callK_some, Option.toList_some, Option.toList_none, List.cons_append, List.nil_append, mHas, bX12_price_16, ite_tI]
    rw [if_neg (by omega)]
    cases hq : F.testBit k with
    | false =>
      rw [hq] at ih'
      exact ih'
    | true =>
      rw [hq] at ih'
      obtain ⟨h1, h2⟩ := hF k hq
      simp only [if_true, (hc k h1 h2).1, nI_add]
      exact ih'
theorem mPr (hn : n ≤ 8) (hF : sbG th n F) (hc : cOk I 4 n th c) : fX12_price [.ref 0, .int (nI F)] (mH I J) = some (some (.int (nI (prN c F 8))), mH I J) := by
  rw [eX12_price]
  exact mPr_loop hn hF hc 8 0 rfl
theorem cPr_loop (hn : n ≤ 8) (hF : sbG th n F) (hc : cOk I 16 n th c) : ∀ d k, k + d = 8 → run mX9_costOfSet (4, 0, 0, [.ref 15, .int (nI F), .int (nI (prN c F k)), .int (nI k)], [], cH I J pl st) = some (some (.int (nI (prN c F 8))), cH I J pl st) := by
  have hFl := sbG_lt hn hF
  intro d
  induction d with
  | zero =>
    intro k hk
    have : k = 8 := by omega
    subst this
    rw [bX9_costOfSet_4]
    simp (disch := omega) only [nI_lt', nI_le', nI_eq', inb_nI, clp, nI_add, nI_mul', cond_true, cond_false, Nat.le_refl, if_true]
  | succ d ih =>
    intro k hk
    have ih' := ih (k + 1) (by omega)
    have e : prN c F (k + 1) = prN c F k + (if F.testBit k then c k else 0) := rfl
    rw [e] at ih'
    rw [bX9_costOfSet_4]
    simp (disch := omega) only [nI_lt', nI_le', nI_eq', inb_nI, clp, nI_add, nI_mul', cond_true, cond_false, callK_some, Option.toList_some, Option.toList_none, List.cons_append, List.nil_append, cHas, bX9_costOfSet_18, ite_tI]
    rw [if_neg (by omega)]
    cases hq : F.testBit k with
    | false =>
      rw [hq] at ih'
      exact ih'
    | true =>
      rw [hq] at ih'
      obtain ⟨h1, h2⟩ := hF k hq
      simp only [if_true, (hc k h1 h2).1, nI_add]
      exact ih'
theorem cPr (hn : n ≤ 8) (hF : sbG th n F) (hc : cOk I 16 n th c) : fX9_costOfSet [.ref 15, .int (nI F)] (cH I J pl st) = some (some (.int (nI (prN c F 8))), cH I J pl st) := by
  rw [eX9_costOfSet]
  exact cPr_loop hn hF hc 8 0 rfl
end MG
end
section
/-! loose pairs -/
/-- what stands between the steps of the pairs that f names -/
def pU (f : Nat → Nat → Bool) (s : Nat) : Nat → List Nat
  | 0 => []
  | k + 1 => pU f s k ++ (if s < k ∧ f s k = true then [btw s k] else [])
def pS (f : Nat → Nat → Bool) (n : Nat) : Nat → List Nat
  | 0 => []
  | s + 1 => pS f n s ++ pU f s n
theorem pU_t {f : Nat → Nat → Bool} {s k : Nat} (h : s < k) (hf : f s k = true) : pU f s (k + 1) = pU f s k ++ [btw s k] := by
  show pU f s k ++ (if s < k ∧ f s k = true then [btw s k] else []) = _
  rw [if_pos ⟨h, hf⟩]
theorem pU_f {f : Nat → Nat → Bool} {s k : Nat} (h : ¬ (s < k ∧ f s k = true)) : pU f s (k + 1) = pU f s k := by
  show pU f s k ++ (if s < k ∧ f s k = true then [btw s k] else []) = _
  rw [if_neg h, List.append_nil]
theorem pU_0 {f : Nat → Nat → Bool} {s : Nat} : ∀ {k}, k ≤ s + 1 → pU f s k = [] := by
  intro k
  induction k with
  | zero => intro _; rfl
  | succ k ih => intro h; rw [pU_f (by omega), ih (by omega)]
theorem pU_len {f : Nat → Nat → Bool} {s : Nat} : ∀ k, (pU f s k).length ≤ k - 1 - s := by
  intro k
  induction k with
  | zero => exact Nat.zero_le _
  | succ k ih =>
    by_cases h : s < k ∧ f s k = true
    · rw [pU_t h.1 h.2, List.length_append]
      show _ + 1 ≤ _
      omega
    · rw [pU_f h]; omega
def trp (n : Nat) : Nat → Nat
  | 0 => 0
  | s + 1 => trp n s + (n - 1 - s)
theorem pS_len {f : Nat → Nat → Bool} {n : Nat} : ∀ s, (pS f n s).length ≤ trp n s := by
  intro s
  induction s with
  | zero => exact Nat.le_refl 0
  | succ s ih =>
    show (pS f n s ++ pU f s n).length ≤ trp n s + (n - 1 - s)
    rw [List.length_append]
    have := pU_len (f := f) (s := s) n
    omega
theorem trp_lt : ∀ n, n ≤ 8 → ∀ s, s < n → ∀ u, u < n → s < u → trp n s + (u - 1 - s) < 28 := by decide +kernel
theorem trp_le : ∀ n, n ≤ 8 → trp n n ≤ 28 := by decide +kernel
theorem pSU_lt {f : Nat → Nat → Bool} {n s u : Nat} (hn : n ≤ 8) (hs : s < n) (hu : u < n) (h : s < u) : (pS f n s ++ pU f s u).length < 28 := by
  rw [List.length_append]
  have h1 := pS_len (f := f) (n := n) s
  have h2 := pU_len (f := f) (s := s) u
  have h3 := trp_lt n hn s hs u hu h
  omega
theorem pS_le {f : Nat → Nat → Bool} {n : Nat} (hn : n ≤ 8) : (pS f n n).length ≤ 28 := Nat.le_trans (pS_len n) (trp_le n hn)
theorem pU_mem {f : Nat → Nat → Bool} {s : Nat} : ∀ {k x}, x ∈ pU f s k → ∃ u, s < u ∧ u < k ∧ f s u = true ∧ x = btw s u := by
  intro k
  induction k with
  | zero => intro x h; cases h
  | succ k ih =>
    intro x h
    by_cases hc : s < k ∧ f s k = true
    · rw [pU_t hc.1 hc.2, List.mem_append] at h
      rcases h with h | h
      · obtain ⟨u, h1, h2, h3⟩ := ih h; exact ⟨u, h1, by omega, h3⟩
      · exact ⟨k, hc.1, by omega, hc.2, List.mem_singleton.mp h⟩
    · rw [pU_f hc] at h
      obtain ⟨u, h1, h2, h3⟩ := ih h; exact ⟨u, h1, by omega, h3⟩
theorem pS_mem {f : Nat → Nat → Bool} {n : Nat} : ∀ {s x}, x ∈ pS f n s → ∃ t u, t < s ∧ t < u ∧ u < n ∧ f t u = true ∧ x = btw t u := by
  intro s
  induction s with
  | zero => intro x h; cases h
  | succ s ih =>
    intro x h
    have h' : x ∈ pS f n s ++ pU f s n := h
    rw [List.mem_append] at h'
    rcases h' with h' | h'
    · obtain ⟨t, u, h1, h2⟩ := ih h'; exact ⟨t, u, by omega, h2⟩
    · obtain ⟨u, h1, h2, h3⟩ := pU_mem h'; exact ⟨s, u, by omega, h1, h2, h3⟩
/-- a pair is in a ring and may be overtaken -/
def loB (V : Nat → Int32) (ce : Nat → Nat) (wr : Nat → Bool) (K s u : Nat) : Bool := !decide (V (8 * s + u) ≤ nI 0) && !bdB ce wr K s u
/-- the row of loose pairs -/
def loL (V : Nat → Int32) (ce : Nat → Nat) (wr : Nat → Bool) (K n : Nat) : List Nat := pS (loB V ce wr K) n n
/-- how many a set holds -/
def hdB (F x : Nat) : Bool := decide (x &&& F ≠ 0)
def hdN (L : List Nat) (F : Nat) : Nat := L.countP (hdB F)
theorem btw_pos : ∀ s, s < 8 → ∀ u, u < 8 → s < u → btw s u ≠ 0 := by decide +kernel
/-- the counts of pairs, as a heap has them -/
def vOk (I : Nat → Nat → Int32) (V : Nat → Int32) : Prop := ∀ s u, s < u → u < 8 → I 12 (8 * s + u) = V (8 * s + u)
section LO
variable {I : Nat → Nat → Int32} {J : Nat → Nat → Int64} {pl st : Bool} {n : Nat} {th ce c : Nat → Nat} {wr : Nat → Bool} {s u F K P : Nat} {V : Nat → Int32}
theorem mPa (hV : vOk I V) (hs : s < u) (hu : u < 8) : fX12_isPair [.ref 0, .int (nI s), .int (nI u)] (mH I J) = some (some (.int (tI (!decide (V (8 * s + u) ≤ nI 0)))), mH I J) := by
  rw [eX12_isPair]
  simp (disch := omega) only [nI_lt', nI_le', nI_eq', inb_nI, clp, nI_add, nI_mul', cond_true, cond_false, hV s u hs hu]
  by_cases h : V (8 * s + u) ≤ nI 0 <;> simp [h, tI]
theorem mLo (h : RPm I n th ce wr) (hK : I 0 7 = nI K) (hKl : K < 16) (hV : vOk I V) (hs : s < u) (hu : u < n) : fX12_isLoose [.ref 0, .int (nI s), .int (nI u)] (mH I J) = some (some (.int (tI (loB V ce wr K s u))), mH I J) := by
  have hn := h.2.1
  rw [eX12_isLoose]
  simp (disch := omega) only [callK_some, Option.toList_some, Option.toList_none, List.cons_append, List.nil_append, mPa hV hs (show u < 8 by omega), bX12_isLoose_6, ite_tI]
  unfold loB
  cases decide (V (8 * s + u) ≤ nI 0) with
  | true => rfl
  | false =>
    simp (disch := omega) only [callK_some, Option.toList_some, Option.toList_none, List.cons_append, List.nil_append, Bool.not_false, if_true, mBd h hK hKl (show s < n by omega) hu, bX12_isLoose_15, ite_tI]
    cases bdB ce wr K s u <;> rfl
theorem mHo_in (h : RPm I n th ce wr) (hK : I 0 7 = nI K) (hKl : K < 16) (hV : vOk I V) {x : Int32} {q : Nat → Bool} (hq : ∀ s u, s < u → u < 8 → ((x &&& nI (btw s u)) = nI 0) = (q (btw s u) = false)) (hs : s < n) : ∀ d u, u + d = n → s < u → ∀ m, run mX12_holds (17, 0, 0, [.ref 0, .int x, .int (nI (m + (pU (loB V ce wr K) s u).countP q)), .int (nI s), .int (nI u)], [], mH I J) = run mX12_holds (4, 0, 0, [.ref 0, .int x, .int (nI (m + (pU (loB V ce wr K) s n).countP q)), .int (nI (s + 1)), .int (nI n)], [], mH I J) := by
  have hn := h.2.1
  intro d
  induction d with
  | zero =>
    intro u hu _ m
    have : u = n := by omega
    subst this
    rw [bX12_holds_17]
    simp (disch := omega) only [nI_lt', nI_le', nI_eq', inb_nI, clp, nI_add, nI_mul', cond_true, cond_false, h.1, Nat.le_refl, if_true]
  | succ d ih =>
    intro u hu hsu m
    have ih' := ih (u + 1) (by omega) (by omega) m
    rw [bX12_holds_17]
    simp (disch := omega) only [nI_lt', nI_le', nI_eq', inb_nI, clp, nI_add, nI_mul', cond_true, cond_false, callK_some, Option.toList_some, Option.toList_none, List.cons_append, List.nil_append, h.1, mLo h hK hKl hV hsu (show u < n by omega), bX12_holds_34, ite_tI]
    rw [if_neg (by omega)]
    cases hl : loB V ce wr K s u with
    | false =>
      rw [pU_f (by rw [hl]; simp)] at ih'
      exact ih'
    | true =>
      rw [pU_t hsu hl, List.countP_append] at ih'
      simp (disch := omega) only [if_true, callK_some, Option.toList_some, Option.toList_none, List.cons_append, List.nil_append, mBtw hsu (show u < 8 by omega), bX12_holds_44, hq s u hsu (show u < 8 by omega)]
      cases hb : q (btw s u) with
      | false =>
        have e : List.countP q [btw s u] = 0 := by rw [List.countP_cons_of_neg (by rw [hb]; simp)]; rfl
        rw [e] at ih'
        simp only [if_true, nI_add]
        exact ih'
      | true =>
        have e : List.countP q [btw s u] = 1 := by rw [List.countP_cons_of_pos hb]; rfl
        rw [e] at ih'
        simp only [Bool.true_eq_false, if_false, nI_add]
        exact ih'
theorem mHo_out (h : RPm I n th ce wr) (hK : I 0 7 = nI K) (hKl : K < 16) (hV : vOk I V) {x : Int32} {q : Nat → Bool} (hq : ∀ s u, s < u → u < 8 → ((x &&& nI (btw s u)) = nI 0) = (q (btw s u) = false)) : ∀ d s (z : Value), s + d = n → run mX12_holds (4, 0, 0, [.ref 0, .int x, .int (nI ((pS (loB V ce wr K) n s).countP q)), .int (nI s), z], [], mH I J) = some (some (.int (nI ((loL V ce wr K n).countP q))), mH I J) := by
  have hn := h.2.1
  intro d
  induction d with
  | zero =>
    intro s z hs
    have : s = n := by omega
    subst this
    rw [bX12_holds_4]
    simp (disch := omega) only [nI_lt', nI_le', nI_eq', inb_nI, clp, nI_add, nI_mul', cond_true, cond_false, h.1, Nat.le_refl, if_true]
    rfl
  | succ d ih =>
    intro s z hs
    have ih' := ih (s + 1) (.int (nI n)) (by omega)
    have e : pS (loB V ce wr K) n (s + 1) = pS (loB V ce wr K) n s ++ pU (loB V ce wr K) s n := rfl
    rw [e, List.countP_append] at ih'
    rw [bX12_holds_4]
    simp (disch := omega) only [nI_lt', nI_le', nI_eq', inb_nI, clp, nI_add, nI_mul', cond_true, cond_false, h.1]
    rw [if_neg (by omega)]
    have := mHo_in (J := J) h hK hKl hV hq (show s < n by omega) (n - (s + 1)) (s + 1) (by omega) (by omega) ((pS (loB V ce wr K) n s).countP q)
    rw [pU_0 (Nat.le_refl _)] at this
    exact this.trans ih'
theorem mHoX (h : RPm I n th ce wr) (hK : I 0 7 = nI K) (hKl : K < 16) (hV : vOk I V) {x : Int32} {q : Nat → Bool} (hq : ∀ s u, s < u → u < 8 → ((x &&& nI (btw s u)) = nI 0) = (q (btw s u) = false)) : fX12_holds [.ref 0, .int x] (mH I J) = some (some (.int (nI ((loL V ce wr K n).countP q))), mH I J) := by
  rw [eX12_holds]
  exact mHo_out h hK hKl hV hq n 0 _ (by omega)
theorem mHo (h : RPm I n th ce wr) (hK : I 0 7 = nI K) (hKl : K < 16) (hV : vOk I V) : fX12_holds [.ref 0, .int (nI F)] (mH I J) = some (some (.int (nI (hdN (loL V ce wr K n) F))), mH I J) := by
  refine mHoX h hK hKl hV (q := hdB F) fun s u hs hu => ?_
  have hb := btw_lt s (by omega) u hu
  have hlt : F &&& btw s u < 512 := and_lt hb
  rw [and_nI, nI_eq' (by omega) (by omega), Nat.and_comm]
  unfold hdB
  simp
theorem mLp (h : RPm I n th ce wr) (hK : I 0 7 = nI K) (hKl : K < 16) (hV : vOk I V) : fX12_loosePairs [.ref 0] (mH I J) = some (some (.int (nI (loL V ce wr K n).length)), mH I J) := by
  rw [eX12_loosePairs, mHoX h hK hKl hV (q := fun _ => true) (fun s u hs hu => by
    have hb := btw_lt s (by omega) u hu
    have hp := btw_pos s (by omega) u hu hs
    have e : Int32.ofInt (-1) &&& nI (btw s u) = nI (btw s u) := Int32.neg_one_and
    rw [e, nI_eq' (by omega) (by omega)]
    simp [hp])]
  simp only [callK_some, Option.toList_some, Option.toList_none, List.cons_append, List.nil_append, bX12_loosePairs_5]
  rw [List.countP_eq_length.mpr (fun _ _ => rfl)]
/-! the class's row -/
def lpI (I : Nat → Nat → Int32) (L : List Nat) : Nat → Nat → Int32 := fun p k => if p = 14 then lsf L nI (I 14) k else if p = 13 then (if k = 1 then nI L.length else I 13 k) else I p k
theorem lpI_push (I : Nat → Nat → Int32) (L : List Nat) (x : Nat) : up2 (up2 (lpI I L) 14 L.length (nI x)) 13 1 (nI L.length + nI 1) = lpI I (L ++ [x]) := by
  have e := lst_push L x nI (I 14)
  funext p k
  by_cases h14 : p = 14
  · subst h14
    rw [up2_ne (by decide), up2_eq]
    show up1 (lsf L nI (I 14)) L.length (nI x) k = _
    rw [e]; rfl
  · by_cases h13 : p = 13
    · subst h13
      rw [up2_eq, up2_ne (by decide)]
      show up1 (fun k => if k = 1 then nI L.length else I 13 k) 1 (nI L.length + nI 1) k = if k = 1 then nI (L ++ [x]).length else I 13 k
      unfold up1
      by_cases hk : k = 1
      · rw [if_pos hk, if_pos hk, nI_add, List.length_append]; rfl
      · rw [if_neg hk, if_neg hk]; exact if_neg hk
    · rw [up2_ne h13, up2_ne h14]
      show (if p = 14 then _ else if p = 13 then _ else I p k) = (if p = 14 then _ else if p = 13 then _ else I p k)
      rw [if_neg h14, if_neg h13, if_neg h14, if_neg h13]
theorem lpI_nil (I : Nat → Nat → Int32) : up2 I 13 1 (nI 0) = lpI I [] := by
  funext p k
  by_cases h13 : p = 13
  · subst h13; rw [up2_eq]; rfl
  · rw [up2_ne h13]
    show I p k = (if p = 14 then lsf [] nI (I 14) k else if p = 13 then _ else I p k)
    by_cases h14 : p = 14
    · subst h14; rfl
    · rw [if_neg h14, if_neg h13]
theorem lpI_o (I : Nat → Nat → Int32) (L : List Nat) {p : Nat} (h1 : p ≠ 13) (h2 : p ≠ 14) : lpI I L p = I p := by
  funext k
  show (if p = 14 then _ else if p = 13 then _ else I p k) = I p k
  rw [if_neg h2, if_neg h1]
theorem RPx.lp (hP : P = 4 ∨ P = 7) (h : RPx I P n th ce wr) (L : List Nat) : RPx (lpI I L) P n th ce wr := by
  rcases hP with rfl | rfl <;> exact h.cong rfl rfl rfl rfl rfl
theorem cCw (hs : s < u) (hu : u < 8) (hV : vOk I V) : fX8_countWith [.ref 10, .int (nI s), .int (nI u)] (cH I J pl st) = some (some (.int (V (8 * s + u))), cH I J pl st) := by
  rw [eX8_countWith]
  simp (disch := omega) only [callK_some, Option.toList_some, Option.toList_none, List.cons_append, List.nil_append, cGO, bX8_countWith_5]
  unfold kyN
  simp (disch := omega) only [nI_lt', nI_le', nI_eq', inb_nI, clp, nI_add, nI_mul', cond_true, cond_false, hV s u hs hu, Nat.not_lt_zero, if_false]
  rw [if_neg (by omega)]
theorem cLAdd {L : List Nat} {x : Nat} (hL : L.length < 28) : fX3_add [.ref 13, .int (nI x)] (cH (lpI I L) J pl st) = some (none, cH (lpI I (L ++ [x])) J pl st) := by
  have e : lpI I L 13 1 = nI L.length := rfl
  rw [eX3_add, e]
  simp (disch := omega) only [nI_lt', nI_le', nI_eq', inb_nI, clp, nI_add, nI_mul', cond_true, cond_false, Nat.not_lt_zero, if_false]
  rw [if_neg (by omega), ← lpI_push, nI_add]
theorem cGt_in (hP : P = 4 ∨ P = 7) (h : RPx I P n th ce wr) (hKl : K < 16) (hV : vOk I V) (hs : s < n) : ∀ d u, u + d = n → s < u → run mX3_gather (23, 0, 0, [.ref 13, .ref P, .ref 10, .int (nI K), .int (nI s), .int (nI u)], [], cH (lpI I (pS (loB V ce wr K) n s ++ pU (loB V ce wr K) s u)) J pl st) = run mX3_gather (8, 0, 0, [.ref 13, .ref P, .ref 10, .int (nI K), .int (nI (s + 1)), .int (nI n)], [], cH (lpI I (pS (loB V ce wr K) n (s + 1))) J pl st) := by
  have hn := h.2.1
  intro d
  induction d with
  | zero =>
    intro u hu _
    have : u = n := by omega
    subst this
    rw [bX3_gather_23 (hP := hP), (RPx.lp hP h _).1]
    simp (disch := omega) only [nI_lt', nI_le', nI_eq', inb_nI, clp, nI_add, nI_mul', cond_true, cond_false, Nat.le_refl, if_true]
    rfl
  | succ d ih =>
    intro u hu hsu
    have ih' := ih (u + 1) (by omega) (by omega)
    have hV' : ∀ L, vOk (lpI I L) V := fun L s u h1 h2 => hV s u h1 h2
    have hlt := pSU_lt (f := loB V ce wr K) hn hs (show u < n by omega) hsu
    rw [bX3_gather_23 (hP := hP), (RPx.lp hP h _).1]
    simp (disch := omega) only [nI_lt', nI_le', nI_eq', inb_nI, clp, nI_add, nI_mul', cond_true, cond_false, callK_some, Option.toList_some, Option.toList_none, List.cons_append, List.nil_append, cCw hsu (show u < 8 by omega) (hV' _), bX3_gather_40 (hP := hP)]
    rw [if_neg (by omega)]
    by_cases hv : V (8 * s + u) ≤ nI 0
    · rw [if_pos hv]
      have hl : loB V ce wr K s u = false := by unfold loB; simp [hv]
      rw [pU_f (by rw [hl]; simp)] at ih'
      exact ih'
    · rw [if_neg hv]
      simp (disch := omega) only [callK_some, Option.toList_some, Option.toList_none, List.cons_append, List.nil_append, cMo hP (RPx.lp hP h _) hKl hs (show u < n by omega), bX3_gather_52 (hP := hP), ite_tI]
      cases hb : bdB ce wr K s u with
      | true =>
        have hl : loB V ce wr K s u = false := by unfold loB; simp [hb]
        rw [pU_f (by rw [hl]; simp)] at ih'
        simp only [Bool.not_true, Bool.false_eq_true, if_false, nI_add]
        exact ih'
      | false =>
        have hl : loB V ce wr K s u = true := by unfold loB; simp [hb, hv]
        rw [pU_t hsu hl, ← List.append_assoc] at ih'
        simp (disch := omega) only [Bool.not_false, if_true, callK_some, Option.toList_some, Option.toList_none, List.cons_append, List.nil_append, cGb hsu (show u < 8 by omega), bX3_gather_63 (hP := hP), cLAdd hlt, bX3_gather_66 (hP := hP), nI_add]
        exact ih'
theorem cGt_out (hP : P = 4 ∨ P = 7) (h : RPx I P n th ce wr) (hKl : K < 16) (hV : vOk I V) : ∀ d s (z : Value), s + d = n → run mX3_gather (8, 0, 0, [.ref 13, .ref P, .ref 10, .int (nI K), .int (nI s), z], [], cH (lpI I (pS (loB V ce wr K) n s)) J pl st) = some (none, cH (lpI I (loL V ce wr K n)) J pl st) := by
  have hn := h.2.1
  intro d
  induction d with
  | zero =>
    intro s z hs
    have : s = n := by omega
    subst this
    rw [bX3_gather_8 (hP := hP), (RPx.lp hP h _).1]
    simp (disch := omega) only [nI_lt', nI_le', nI_eq', inb_nI, clp, nI_add, nI_mul', cond_true, cond_false, Nat.le_refl, if_true]
    rfl
  | succ d ih =>
    intro s z hs
    have ih' := ih (s + 1) (.int (nI n)) (by omega)
    rw [bX3_gather_8 (hP := hP), (RPx.lp hP h _).1]
    simp (disch := omega) only [nI_lt', nI_le', nI_eq', inb_nI, clp, nI_add, nI_mul', cond_true, cond_false]
    rw [if_neg (by omega)]
    have := cGt_in (J := J) (pl := pl) (st := st) hP h hKl hV (show s < n by omega) (n - (s + 1)) (s + 1) (by omega) (by omega)
    rw [pU_0 (Nat.le_refl _), List.append_nil] at this
    exact this.trans ih'
theorem cGt (hP : P = 4 ∨ P = 7) (h : RPx I P n th ce wr) (hKl : K < 16) (hV : vOk I V) : fX3_gather [.ref 13, .ref P, .ref 10, .int (nI K)] (cH I J pl st) = some (none, cH (lpI I (loL V ce wr K n)) J pl st) := by
  rw [eX3_gather (hP := hP), lpI_nil]
  exact cGt_out hP h hKl hV n 0 _ (by omega)
end LO
end
section
/-! what fences hold; the needed ones; the cheapest set -/
def LPx (I : Nat → Nat → Int32) (L : List Nat) : Prop := I 13 1 = nI L.length ∧ L.length ≤ 28 ∧ (∀ i (h : i < L.length), I 14 i = nI L[i]) ∧ ∀ x, x ∈ L → x < 512
theorem loL_512 {V : Nat → Int32} {ce : Nat → Nat} {wr : Nat → Bool} {K n : Nat} (hn : n ≤ 8) : ∀ x, x ∈ loL V ce wr K n → x < 512 := by
  intro x hx
  obtain ⟨t, u, h1, h2, h3, h4, rfl⟩ := pS_mem hx
  exact btw_lt t (by omega) u (by omega)
theorem lpI_LP {I : Nat → Nat → Int32} {V : Nat → Int32} {ce : Nat → Nat} {wr : Nat → Bool} {K n : Nat} (hn : n ≤ 8) : LPx (lpI I (loL V ce wr K n)) (loL V ce wr K n) := by
  refine ⟨rfl, pS_le hn, fun i h => ?_, loL_512 hn⟩
  show lsf (loL V ce wr K n) nI (I 14) i = _
  exact lsf_in h
theorem cntLt {α : Type} {p q : α → Bool} : ∀ {L : List α}, (∀ x, x ∈ L → p x = true → q x = true) → L.countP p ≤ L.countP q ∧ (L.countP p < L.countP q ↔ ∃ x, x ∈ L ∧ q x = true ∧ p x = false) := by
  intro L
  induction L with
  | nil =>
    intro _
    refine ⟨Nat.le_refl _, ?_⟩
    constructor
    · intro h; exact absurd h (Nat.lt_irrefl _)
    · rintro ⟨x, h, -⟩; cases h
  | cons a L ih =>
    intro h
    obtain ⟨i1, i2⟩ := ih (fun x hx => h x (List.mem_cons_of_mem _ hx))
    have ha := h a (List.mem_cons_self)
    cases hp : p a with
    | true =>
      have hq := ha hp
      rw [List.countP_cons_of_pos hp, List.countP_cons_of_pos hq]
      refine ⟨by omega, ?_⟩
      constructor
      · intro hl
        obtain ⟨x, h1, h2⟩ := i2.mp (by omega)
        exact ⟨x, List.mem_cons_of_mem _ h1, h2⟩
      · rintro ⟨x, h1, h2, h3⟩
        rcases List.mem_cons.mp h1 with rfl | h1
        · rw [hp] at h3; cases h3
        · have := i2.mpr ⟨x, h1, h2, h3⟩; omega
    | false =>
      have np : ¬ p a = true := by rw [hp]; simp
      cases hq : q a with
      | true =>
        rw [List.countP_cons_of_neg np, List.countP_cons_of_pos hq]
        refine ⟨by omega, ?_⟩
        constructor
        · intro _; exact ⟨a, List.mem_cons_self, hq, hp⟩
        · intro _; omega
      | false =>
        have nq : ¬ q a = true := by rw [hq]; simp
        rw [List.countP_cons_of_neg np, List.countP_cons_of_neg nq]
        refine ⟨i1, ?_⟩
        constructor
        · intro hl
          obtain ⟨x, h1, h2⟩ := i2.mp hl
          exact ⟨x, List.mem_cons_of_mem _ h1, h2⟩
        · rintro ⟨x, h1, h2, h3⟩
          rcases List.mem_cons.mp h1 with rfl | h1
          · rw [hq] at h2; cases h2
          · exact i2.mpr ⟨x, h1, h2, h3⟩
/-- bits of a small set -/
def bcN (v : Nat) : Nat := v % 2 + v / 2 % 2 + v / 4 % 2 + v / 8 % 2 + v / 16 % 2 + v / 32 % 2 + v / 64 % 2 + v / 128 % 2
theorem bcN_1 : ∀ v, v < 256 → ∀ g, g < 8 → (bcN v = 1 ∧ v.testBit g = true ↔ v = 2 ^ g) := by decide +kernel
/-- the sets of one fence that hold a pair alone -/
def ndL (F : Nat) : List Nat → Nat
  | [] => 0
  | x :: r => (if bcN (x &&& F) = 1 then x &&& F else 0) ||| ndL F r
theorem ndL_bit {F g : Nat} : ∀ L, (ndL F L).testBit g = true ↔ ∃ x, x ∈ L ∧ bcN (x &&& F) = 1 ∧ (x &&& F).testBit g = true := by
  intro L
  induction L with
  | nil =>
    show (0 : Nat).testBit g = true ↔ _
    rw [Nat.zero_testBit]
    constructor
    · intro h; cases h
    · rintro ⟨x, h, -⟩; cases h
  | cons a L ih =>
    show ((if bcN (a &&& F) = 1 then a &&& F else 0) ||| ndL F L).testBit g = true ↔ _
    rw [Nat.testBit_or, Bool.or_eq_true, ih]
    constructor
    · rintro (h | ⟨x, h1, h2⟩)
      · split at h
        · rename_i hb; exact ⟨a, List.mem_cons_self, hb, h⟩
        · rw [Nat.zero_testBit] at h; cases h
      · exact ⟨x, List.mem_cons_of_mem _ h1, h2⟩
    · rintro ⟨x, h1, h2, h3⟩
      rcases List.mem_cons.mp h1 with rfl | h1
      · left; rw [if_pos h2]; exact h3
      · right; exact ⟨x, h1, h2, h3⟩
def ndB (L : List Nat) (F g : Nat) : Bool := F.testBit g && decide (hdN L (adn F (2 ^ g)) < hdN L F)
theorem hdB_t {F x : Nat} : hdB F x = true ↔ ∃ i, x.testBit i = true ∧ F.testBit i = true := by
  unfold hdB
  rw [decide_eq_true_eq]
  constructor
  · intro h
    by_cases hz : ∃ i, x.testBit i = true ∧ F.testBit i = true
    · exact hz
    · exfalso
      apply h
      apply Nat.eq_of_testBit_eq
      intro i
      rw [Nat.testBit_and, Nat.zero_testBit]
      cases h1 : x.testBit i
      · rfl
      · cases h2 : F.testBit i
        · rfl
        · exact absurd ⟨i, h1, h2⟩ hz
  · rintro ⟨i, h1, h2⟩ hz
    have : (x &&& F).testBit i = true := by rw [Nat.testBit_and, h1, h2]; rfl
    rw [hz, Nat.zero_testBit] at this
    cases this
theorem hdB_f {F x : Nat} : hdB F x = false ↔ ∀ i, x.testBit i = true → F.testBit i = false := by
  constructor
  · intro h i hx
    cases hF : F.testBit i
    · rfl
    · have := hdB_t.mpr ⟨i, hx, hF⟩
      rw [h] at this; cases this
  · intro h
    cases hh : hdB F x
    · rfl
    · obtain ⟨i, h1, h2⟩ := hdB_t.mp hh
      rw [h i h1] at h2; cases h2
theorem pow_bit (g i : Nat) : (2 ^ g).testBit i = decide (g = i) := Nat.testBit_two_pow
theorem nd_same {L : List Nat} {F n : Nat} (hF : ∀ i, F.testBit i = true → i < n) (hn : n ≤ 8) : bset (ndB L F) n = ndL F L := by
  have hF8 : F < 2 ^ 8 := by
    apply Nat.lt_pow_two_of_testBit
    intro i hi
    cases hq : F.testBit i
    · rfl
    · have := hF i hq; omega
  apply Nat.eq_of_testBit_eq
  intro g
  rw [Bool.eq_iff_iff, ndL_bit, bset_bit]
  have hv : ∀ x, x &&& F < 256 := fun x => Nat.lt_of_le_of_lt Nat.and_le_right hF8
  have hsub : ∀ x, x ∈ L → hdB (adn F (2 ^ g)) x = true → hdB F x = true := by
    intro x _ h
    obtain ⟨i, h1, h2⟩ := hdB_t.mp h
    rw [adn_bit (by omega), Bool.and_eq_true] at h2
    exact hdB_t.mpr ⟨i, h1, h2.1⟩
  unfold ndB hdN
  rw [Bool.and_eq_true, Bool.and_eq_true, decide_eq_true_eq, decide_eq_true_eq, (cntLt hsub).2]
  constructor
  · rintro ⟨h1, h2, x, h3, h4, h5⟩
    refine ⟨x, h3, ?_⟩
    rw [bcN_1 _ (hv x) g (by omega)]
    apply Nat.eq_of_testBit_eq
    intro i
    rw [pow_bit, Nat.testBit_and]
    rw [hdB_f] at h5
    obtain ⟨j, j1, j2⟩ := hdB_t.mp h4
    have key : ∀ i, x.testBit i = true → F.testBit i = true → g = i := by
      intro i a b
      have := h5 i a
      rw [adn_bit (by omega), b, pow_bit] at this
      simpa using this
    have hj := key j j1 j2
    subst hj
    by_cases hi : g = i
    · subst hi; rw [j1, j2]; simp
    · rw [decide_eq_false hi]
      cases a : x.testBit i
      · rfl
      · cases b : F.testBit i
        · rfl
        · exact absurd (key i a b) hi
  · rintro ⟨x, h1, h2, h3⟩
    have hFg : F.testBit g = true := by rw [Nat.testBit_and, Bool.and_eq_true] at h3; exact h3.2
    have hg := hF g hFg
    have e := (bcN_1 _ (hv x) g (by omega)).mp ⟨h2, h3⟩
    refine ⟨hg, hFg, x, h1, ?_, ?_⟩
    · unfold hdB
      rw [decide_eq_true_eq, e]
      exact Nat.ne_of_gt (Nat.two_pow_pos g)
    · rw [hdB_f]
      intro i hi
      rw [adn_bit (by omega), pow_bit]
      cases b : F.testBit i
      · rfl
      · have : (x &&& F).testBit i = true := by rw [Nat.testBit_and, hi, b]; rfl
        rw [e, pow_bit] at this
        rw [this]; rfl
section HD
variable {I : Nat → Nat → Int32} {J : Nat → Nat → Int64} {pl st : Bool} {n : Nat} {th ce c : Nat → Nat} {wr : Nat → Bool} {s u F K P : Nat} {V : Nat → Int32} {L : List Nat}
theorem cHa {i : Nat} (h : LPx I L) (hi : i < L.length) : fX3_holdersAt [.ref 13, .int (nI i)] (cH I J pl st) = some (some (.int (nI L[i])), cH I J pl st) := by
  have h2 := h.2.1
  rw [eX3_holdersAt]
  simp (disch := omega) only [nI_lt', nI_le', nI_eq', inb_nI, clp, nI_add, nI_mul', cond_true, cond_false, h.2.2.1 i hi, Nat.not_lt_zero, if_false]
  rw [if_neg (by omega)]
theorem cHd_loop (h : LPx I L) : ∀ d k m, k + d = L.length → run mX3_countHeld (4, 0, 0, [.ref 13, .int (nI F), .int (nI m), .int (nI k)], [], cH I J pl st) = some (some (.int (nI (m + hdN (L.drop k) F))), cH I J pl st) := by
  have h2 := h.2.1
  intro d
  induction d with
  | zero =>
    intro k m hk
    have : k = L.length := by omega
    subst this
    rw [bX3_countHeld_4, h.1]
    simp (disch := omega) only [nI_lt', nI_le', nI_eq', inb_nI, clp, nI_add, nI_mul', cond_true, cond_false, Nat.le_refl, if_true]
    rw [List.drop_length]
    rfl
  | succ d ih =>
    intro k m hk
    have hkl : k < L.length := by omega
    have hx := h.2.2.2 _ (List.getElem_mem hkl)
    have hlt : L[k] &&& F < 512 := Nat.lt_of_le_of_lt Nat.and_le_left hx
    rw [bX3_countHeld_4, h.1]
    simp (disch := omega) only [nI_lt', nI_le', nI_eq', inb_nI, clp, nI_add, nI_mul', cond_true, cond_false, callK_some, Option.toList_some, Option.toList_none, List.cons_append, List.nil_append, cHa h hkl, bX3_countHeld_17, and_nI]
    rw [if_neg (by omega), List.drop_eq_getElem_cons hkl]
    unfold hdN
    by_cases hz : L[k] &&& F = 0
    · rw [if_pos hz, List.countP_cons_of_neg (by unfold hdB; simp [hz])]
      exact ih (k + 1) m (by omega)
    · rw [if_neg hz, List.countP_cons_of_pos (by unfold hdB; simp [hz])]
      have := ih (k + 1) (m + 1) (by omega)
      rw [this]
      unfold hdN
      rw [show m + 1 + List.countP (hdB F) (List.drop (k + 1) L) = m + (List.countP (hdB F) (List.drop (k + 1) L) + 1) by omega]
theorem cHd (h : LPx I L) : fX3_countHeld [.ref 13, .int (nI F)] (cH I J pl st) = some (some (.int (nI (hdN L F))), cH I J pl st) := by
  rw [eX3_countHeld]
  have := cHd_loop (J := J) (pl := pl) (st := st) (F := F) h L.length 0 0 (by omega)
  rw [Nat.zero_add, List.drop_zero] at this
  exact this
theorem hdN_le (L : List Nat) (F : Nat) : hdN L F ≤ L.length := List.countP_le_length
theorem cAa (h : LPx I L) : fX3_areAllHeld [.ref 13, .int (nI F)] (cH I J pl st) = some (some (.int (tI (decide (hdN L F = L.length)))), cH I J pl st) := by
  have h2 := h.2.1
  have h3 := hdN_le L F
  rw [eX3_areAllHeld, cHd h]
  simp (disch := omega) only [nI_lt', nI_le', nI_eq', inb_nI, clp, nI_add, nI_mul', cond_true, cond_false, callK_some, Option.toList_some, Option.toList_none, List.cons_append, List.nil_append, bX3_areAllHeld_5, h.1]
  by_cases hz : hdN L F = L.length <;> simp [hz, tI]
theorem cBc {v : Nat} (hv : v < 256) : fJ6_bitCount_0f7a4 [.int (nI v)] (cH I J pl st) = some (some (.int (nI (bcN v))), cH I J pl st) := by
  rw [eJ6_bitCount_0f7a4]
  refine congrArg (fun z => some (some (Value.int z), cH I J pl st)) (?_ : _ = nI (bcN v))
  revert v
  decide +kernel
theorem bcN_lt (v : Nat) : bcN v < 9 := by unfold bcN; omega
theorem cNd_loop (h : LPx I L) (hF : F < 256) : ∀ d k m (z : Value), k + d = L.length → run mX3_neededOf (4, 0, 0, [.ref 13, .int (nI F), .int (nI m), .int (nI k), z], [], cH I J pl st) = some (some (.int (nI (m ||| ndL F (L.drop k)))), cH I J pl st) := by
  have h2 := h.2.1
  intro d
  induction d with
  | zero =>
    intro k m z hk
    have : k = L.length := by omega
    subst this
    rw [bX3_neededOf_4, h.1]
    simp (disch := omega) only [nI_lt', nI_le', nI_eq', inb_nI, clp, nI_add, nI_mul', cond_true, cond_false, Nat.le_refl, if_true]
    rw [List.drop_length]
    show _ = some (some (Value.int (nI (m ||| 0))), _)
    rw [Nat.or_zero]
  | succ d ih =>
    intro k m z hk
    have hkl : k < L.length := by omega
    have hlt : L[k] &&& F < 256 := Nat.lt_of_le_of_lt Nat.and_le_right hF
    have hb := bcN_lt (L[k] &&& F)
    rw [bX3_neededOf_4, h.1]
    simp (disch := omega) only [nI_lt', nI_le', nI_eq', inb_nI, clp, nI_add, nI_mul', cond_true, cond_false, callK_some, Option.toList_some, Option.toList_none, List.cons_append, List.nil_append, cHa h hkl, bX3_neededOf_17, and_nI, cBc hlt, bX3_neededOf_26, or_nI]
    rw [if_neg (by omega), List.drop_eq_getElem_cons hkl]
    show _ = some (some (Value.int (nI (m ||| ((if bcN (L[k] &&& F) = 1 then L[k] &&& F else 0) ||| ndL F (L.drop (k + 1)))))), _)
    by_cases hz : bcN (L[k] &&& F) = 1
    · rw [if_pos hz, if_pos hz, ← Nat.or_assoc]
      exact ih (k + 1) _ _ (by omega)
    · rw [if_neg hz, if_neg hz, Nat.zero_or]
      exact ih (k + 1) _ _ (by omega)
theorem cNd (h : LPx I L) (hF : F < 256) : fX3_neededOf [.ref 13, .int (nI F)] (cH I J pl st) = some (some (.int (nI (ndL F L))), cH I J pl st) := by
  rw [eX3_neededOf]
  have := cNd_loop (J := J) (pl := pl) (st := st) h hF L.length 0 0 .null (by omega)
  rw [Nat.zero_or, List.drop_zero] at this
  exact this
theorem mNd_loop (h : RPm I n th ce wr) (hF : I 0 6 = nI F) (hFl : F < 256) (hK : I 0 7 = nI K) (hKl : K < 16) (hV : vOk I V) : ∀ d k, k + d = n → run mX12_needed (4, 0, 0, [.ref 0, .int (nI (bset (ndB (loL V ce wr K n) F) k)), .int (nI k)], [], mH I J) = some (some (.int (nI (bset (ndB (loL V ce wr K n) F) n))), mH I J) := by
  have hn := h.2.1
  have hl := pS_le (f := loB V ce wr K) hn
  intro d
  induction d with
  | zero =>
    intro k hk
    have : k = n := by omega
    subst this
    rw [bX12_needed_4]
    simp (disch := omega) only [nI_lt', nI_le', nI_eq', inb_nI, clp, nI_add, nI_mul', cond_true, cond_false, h.1, Nat.le_refl, if_true]
  | succ d ih =>
    intro k hk
    have ih' := ih (k + 1) (by omega)
    have h1 := hdN_le (loL V ce wr K n) F
    have h2 := hdN_le (loL V ce wr K n) (adn F (2 ^ k))
    have h3 : (loL V ce wr K n).length ≤ 28 := hl
    rw [bX12_needed_4]
    simp (disch := omega) only [nI_lt', nI_le', nI_eq', inb_nI, clp, nI_add, nI_mul', cond_true, cond_false, callK_some, Option.toList_some, Option.toList_none, List.cons_append, List.nil_append, h.1, hF, mHas, bX12_needed_21, ite_tI]
    rw [if_neg (by omega)]
    cases hq : F.testBit k with
    | false =>
      have hc : ndB (loL V ce wr K n) F k = false := by unfold ndB; rw [hq]; rfl
      simp only [Bool.false_eq_true, if_false]
      rw [bset_f0 hc]
      exact ih'
    | true =>
      simp (disch := omega) only [if_true, callK_some, Option.toList_some, Option.toList_none, List.cons_append, List.nil_append, nI_lt', nI_le', nI_eq', inb_nI, clp, nI_add, nI_mul', cond_true, cond_false, shl_nI, adn_I, mHo h hK hKl hV, bX12_needed_38, bX12_needed_46, hF]
      by_cases hz : hdN (loL V ce wr K n) F ≤ hdN (loL V ce wr K n) (adn F (2 ^ k))
      · have hc : ndB (loL V ce wr K n) F k = false := by unfold ndB; rw [hq, decide_eq_false (by omega)]; rfl
        rw [if_pos hz, bset_f0 hc]
        exact ih'
      · have hc : ndB (loL V ce wr K n) F k = true := by unfold ndB; rw [hq, decide_eq_true (by omega)]; rfl
        have := bset_t (f := ndB (loL V ce wr K n) F) (k := k) (by omega) hc
        rw [shl_nI k (by omega)] at this
        rw [if_neg hz, this]
        exact ih'
theorem mNd (h : RPm I n th ce wr) (hF : I 0 6 = nI F) (hFg : sbG th n F) (hK : I 0 7 = nI K) (hKl : K < 16) (hV : vOk I V) : fX12_needed [.ref 0] (mH I J) = some (some (.int (nI (ndL F (loL V ce wr K n)))), mH I J) := by
  have hn := h.2.1
  have hFl := sbG_lt hn hFg
  rw [eX12_needed, ← nd_same (n := n) (fun i hi => (hFg i hi).1) hn]
  have z : ndB (loL V ce wr K n) F 0 = false := by
    unfold ndB
    cases hq : F.testBit 0
    · rfl
    · have := (hFg 0 hq).2; cases this
  have e : nI 0 = nI (bset (ndB (loL V ce wr K n) F) 1) := by
    rw [← bset_f z]; rfl
  by_cases h0 : n = 0
  · subst h0
    rw [bX12_needed_4, h.1]
    simp (disch := omega) only [nI_lt', nI_le', nI_eq', inb_nI, clp, nI_add, nI_mul', cond_true, cond_false]
    rfl
  · have := mNd_loop (J := J) h hF hFl hK hKl hV (n - 1) 1 (by omega)
    rw [← e] at this
    exact this
end HD
end
section
/-! the cheapest set -/
/-- the one that best puts -/
def bstP (th c : Nat → Nat) (n : Nat) (L : List Nat) (b : Nat) : Prop := sbG th n b ∧ hdN L b = L.length ∧ ∀ s, s < 256 → sbG th n s → hdN L s = L.length → prN c b 8 ≤ prN c s 8 ∧ (s < b → prN c b 8 < prN c s 8)
theorem bstP_one {th c : Nat → Nat} {n : Nat} {L : List Nat} {a b : Nat} (hn : n ≤ 8) (ha : bstP th c n L a) (hb : bstP th c n L b) : a = b := by
  obtain ⟨a1, a2, a3⟩ := ha
  obtain ⟨b1, b2, b3⟩ := hb
  have h1 := a3 b (sbG_lt hn b1) b1 b2
  have h2 := b3 a (sbG_lt hn a1) a1 a2
  rcases Nat.lt_trichotomy a b with h | h | h
  · have := h2.2 h; omega
  · exact h
  · have := h1.2 h; omega
theorem m1_ne : ∀ b, b < 256 → ¬ nI b = Int32.ofInt (-1) := by decide +kernel
def oI (o : Option Nat) : Int32 := match o with
  | none => Int32.ofInt (-1)
  | some b => nI b
/-- the best so far -/
def bsM (th c : Nat → Nat) (n : Nat) (L : List Nat) (k : Nat) : Option Nat → Prop
  | none => ∀ s, s < k → sbG th n s → hdN L s ≠ L.length
  | some b => b < k ∧ sbG th n b ∧ hdN L b = L.length ∧ ∀ s, s < k → sbG th n s → hdN L s = L.length → prN c b 8 ≤ prN c s 8 ∧ (s < b → prN c b 8 < prN c s 8)
theorem bsM_skip {th c : Nat → Nat} {n : Nat} {L : List Nat} {k : Nat} {o : Option Nat} (h : bsM th c n L k o) (hk : ¬ (sbG th n k ∧ hdN L k = L.length)) : bsM th c n L (k + 1) o := by
  cases o with
  | none =>
    intro s hs h1 h2
    by_cases e : s = k
    · subst e; exact hk ⟨h1, h2⟩
    · exact h s (by omega) h1 h2
  | some b =>
    obtain ⟨a1, a2, a3, a4⟩ := h
    refine ⟨by omega, a2, a3, fun s hs h1 h2 => ?_⟩
    by_cases e : s = k
    · subst e; exact absurd ⟨h1, h2⟩ hk
    · exact a4 s (by omega) h1 h2
theorem bsM_dear {th c : Nat → Nat} {n : Nat} {L : List Nat} {k b : Nat} (h : bsM th c n L k (some b)) (hk : prN c b 8 ≤ prN c k 8) : bsM th c n L (k + 1) (some b) := by
  obtain ⟨a1, a2, a3, a4⟩ := h
  refine ⟨by omega, a2, a3, fun s hs h1 h2 => ?_⟩
  by_cases e : s = k
  · subst e; exact ⟨hk, fun q => by omega⟩
  · exact a4 s (by omega) h1 h2
theorem bsM_take {th c : Nat → Nat} {n : Nat} {L : List Nat} {k : Nat} {o : Option Nat} (h : bsM th c n L k o) (h1 : sbG th n k) (h2 : hdN L k = L.length) (h3 : ∀ b, o = some b → prN c k 8 < prN c b 8) : bsM th c n L (k + 1) (some k) := by
  refine ⟨by omega, h1, h2, fun s hs g1 g2 => ?_⟩
  by_cases e : s = k
  · subst e; exact ⟨Nat.le_refl _, fun q => by omega⟩
  · cases o with
    | none => exact absurd g2 (h s (by omega) g1)
    | some b =>
      have := h3 b rfl
      have := (h.2.2.2 s (by omega) g1 g2).1
      exact ⟨by omega, fun _ => by omega⟩
/-- all gaps hold all loose pairs -/
def feas (th : Nat → Nat) (n : Nat) (L : List Nat) : Prop := hdN L (gpS th n) = L.length
section CE
variable {I : Nat → Nat → Int32} {J : Nat → Nat → Int64} {pl st : Bool} {n : Nat} {th ce c : Nat → Nat} {wr : Nat → Bool} {s u F K P : Nat} {V : Nat → Int32} {L : List Nat}
theorem mCh_loop (h : RPm I n th ce wr) (hK : I 0 7 = nI K) (hKl : K < 16) (hV : vOk I V) (hc : cOk I 4 n th c) : ∀ d k o (z : Value), k + d = 256 → bsM th c n (loL V ce wr K n) k o → ∃ o', bsM th c n (loL V ce wr K n) 256 o' ∧ run mX12_cheapest (9, 0, 0, [.ref 0, .int (nI (loL V ce wr K n).length), .int (oI o), .int (nI k), z], [], mH I J) = some (some (.int (oI o')), mH I J) := by
  have hn := h.2.1
  have hl : (loL V ce wr K n).length ≤ 28 := pS_le hn
  intro d
  induction d with
  | zero =>
    intro k o z hk hb
    have : k = 256 := by omega
    subst this
    refine ⟨o, hb, ?_⟩
    rw [bX12_cheapest_9]
    simp (disch := omega) only [nI_lt', nI_le', nI_eq', inb_nI, clp, nI_add, nI_mul', cond_true, cond_false, Nat.le_refl, if_true]
  | succ d ih =>
    intro k o z hk hb
    have hle := adn_le k (gpS th n)
    have hlh := hdN_le (loL V ce wr K n) k
    by_cases hs : sbG th n k
    · have hz : adn k (gpS th n) = 0 := (sbG_adn (by omega)).mpr hs
      by_cases hh : hdN (loL V ce wr K n) k = (loL V ce wr K n).length
      · cases o with
        | none =>
          obtain ⟨o', b1, b2⟩ := ih (k + 1) (some k) .null (by omega) (bsM_take hb hs hh (fun b e => by cases e))
          refine ⟨o', b1, ?_⟩
          rw [bX12_cheapest_9]
          simp (disch := omega) only [nI_lt', nI_le', nI_eq', inb_nI, clp, nI_add, nI_mul', cond_true, cond_false, callK_some, Option.toList_some, Option.toList_none, List.cons_append, List.nil_append, mGs h, bX12_cheapest_21, adn_I, hz]
          rw [if_neg (by omega), if_pos trivial]
          simp (disch := omega) only [oI, if_true, callK_some, Option.toList_some, Option.toList_none, List.cons_append, List.nil_append, nI_lt', nI_le', nI_eq', inb_nI, clp, nI_add, nI_mul', cond_true, cond_false, mHo h hK hKl hV, bX12_cheapest_62, hh]
          exact b2
        | some b =>
          have hb2 : b < 256 := sbG_lt hn hb.2.1
          have hp1 := prN_le (c := c) (F := k) (fun i hi => (hc i (hs i hi).1 (hs i hi).2).2.2) 8
          have hp2 := prN_le (c := c) (F := b) (fun i hi => (hc i (hb.2.1 i hi).1 (hb.2.1 i hi).2).2.2) 8
          by_cases hp : prN c b 8 ≤ prN c k 8
          · obtain ⟨o', b1, b2⟩ := ih (k + 1) (some b) (.int (nI 0)) (by omega) (bsM_dear hb hp)
            refine ⟨o', b1, ?_⟩
            rw [bX12_cheapest_9]
            simp (disch := omega) only [nI_lt', nI_le', nI_eq', inb_nI, clp, nI_add, nI_mul', cond_true, cond_false, callK_some, Option.toList_some, Option.toList_none, List.cons_append, List.nil_append, mGs h, bX12_cheapest_21, adn_I, hz]
            rw [if_neg (by omega), if_pos trivial]
            simp (disch := omega) only [oI, m1_ne b hb2, if_false, callK_some, Option.toList_some, Option.toList_none, List.cons_append, List.nil_append, nI_lt', nI_le', nI_eq', inb_nI, clp, nI_add, nI_mul', cond_true, cond_false, mPr hn hs hc, bX12_cheapest_37, mPr hn hb.2.1 hc, bX12_cheapest_42]
            rw [if_pos hp]
            exact b2
          · obtain ⟨o', b1, b2⟩ := ih (k + 1) (some k) .null (by omega) (bsM_take hb hs hh (fun b' e => by cases e; omega))
            refine ⟨o', b1, ?_⟩
            rw [bX12_cheapest_9]
            simp (disch := omega) only [nI_lt', nI_le', nI_eq', inb_nI, clp, nI_add, nI_mul', cond_true, cond_false, callK_some, Option.toList_some, Option.toList_none, List.cons_append, List.nil_append, mGs h, bX12_cheapest_21, adn_I, hz]
            rw [if_neg (by omega), if_pos trivial]
            simp (disch := omega) only [oI, m1_ne b hb2, if_false, callK_some, Option.toList_some, Option.toList_none, List.cons_append, List.nil_append, nI_lt', nI_le', nI_eq', inb_nI, clp, nI_add, nI_mul', cond_true, cond_false, mPr hn hs hc, bX12_cheapest_37, mPr hn hb.2.1 hc, bX12_cheapest_42]
            rw [if_neg hp]
            simp (disch := omega) only [if_true, callK_some, Option.toList_some, Option.toList_none, List.cons_append, List.nil_append, nI_lt', nI_le', nI_eq', inb_nI, clp, nI_add, nI_mul', cond_true, cond_false, mHo h hK hKl hV, bX12_cheapest_62, hh]
            exact b2
      · have hsk := bsM_skip hb (fun q => hh q.2)
        obtain ⟨o1, b1, b2⟩ := ih (k + 1) o .null (by omega) hsk
        obtain ⟨o2, b3, b4⟩ := ih (k + 1) o (.int (nI 0)) (by omega) hsk
        cases o with
        | none =>
          refine ⟨o1, b1, ?_⟩
          rw [bX12_cheapest_9]
          simp (disch := omega) only [nI_lt', nI_le', nI_eq', inb_nI, clp, nI_add, nI_mul', cond_true, cond_false, callK_some, Option.toList_some, Option.toList_none, List.cons_append, List.nil_append, mGs h, bX12_cheapest_21, adn_I, hz]
          rw [if_neg (by omega), if_pos trivial]
          simp (disch := omega) only [oI, if_true, callK_some, Option.toList_some, Option.toList_none, List.cons_append, List.nil_append, nI_lt', nI_le', nI_eq', inb_nI, clp, nI_add, nI_mul', cond_true, cond_false, mHo h hK hKl hV, bX12_cheapest_62]
          rw [if_neg hh]
          exact b2
        | some b =>
          have hb2 : b < 256 := sbG_lt hn hb.2.1
          have hp1 := prN_le (c := c) (F := k) (fun i hi => (hc i (hs i hi).1 (hs i hi).2).2.2) 8
          have hp2 := prN_le (c := c) (F := b) (fun i hi => (hc i (hb.2.1 i hi).1 (hb.2.1 i hi).2).2.2) 8
          by_cases hp : prN c b 8 ≤ prN c k 8
          · refine ⟨o2, b3, ?_⟩
            rw [bX12_cheapest_9]
            simp (disch := omega) only [nI_lt', nI_le', nI_eq', inb_nI, clp, nI_add, nI_mul', cond_true, cond_false, callK_some, Option.toList_some, Option.toList_none, List.cons_append, List.nil_append, mGs h, bX12_cheapest_21, adn_I, hz]
            rw [if_neg (by omega), if_pos trivial]
            simp (disch := omega) only [oI, m1_ne b hb2, if_false, callK_some, Option.toList_some, Option.toList_none, List.cons_append, List.nil_append, nI_lt', nI_le', nI_eq', inb_nI, clp, nI_add, nI_mul', cond_true, cond_false, mPr hn hs hc, bX12_cheapest_37, mPr hn hb.2.1 hc, bX12_cheapest_42]
            rw [if_pos hp]
            exact b4
          · refine ⟨o1, b1, ?_⟩
            rw [bX12_cheapest_9]
            simp (disch := omega) only [nI_lt', nI_le', nI_eq', inb_nI, clp, nI_add, nI_mul', cond_true, cond_false, callK_some, Option.toList_some, Option.toList_none, List.cons_append, List.nil_append, mGs h, bX12_cheapest_21, adn_I, hz]
            rw [if_neg (by omega), if_pos trivial]
            simp (disch := omega) only [oI, m1_ne b hb2, if_false, callK_some, Option.toList_some, Option.toList_none, List.cons_append, List.nil_append, nI_lt', nI_le', nI_eq', inb_nI, clp, nI_add, nI_mul', cond_true, cond_false, mPr hn hs hc, bX12_cheapest_37, mPr hn hb.2.1 hc, bX12_cheapest_42]
            rw [if_neg hp]
            simp (disch := omega) only [callK_some, Option.toList_some, Option.toList_none, List.cons_append, List.nil_append, nI_lt', nI_le', nI_eq', inb_nI, clp, nI_add, nI_mul', cond_true, cond_false, mHo h hK hKl hV, bX12_cheapest_62]
            rw [if_neg hh]
            exact b2
    · have hz : ¬ adn k (gpS th n) = 0 := fun q => hs ((sbG_adn (by omega)).mp q)
      obtain ⟨o', b1, b2⟩ := ih (k + 1) o (.int (nI 0)) (by omega) (bsM_skip hb (fun q => hs q.1))
      refine ⟨o', b1, ?_⟩
      rw [bX12_cheapest_9]
      simp (disch := omega) only [nI_lt', nI_le', nI_eq', inb_nI, clp, nI_add, nI_mul', cond_true, cond_false, callK_some, Option.toList_some, Option.toList_none, List.cons_append, List.nil_append, mGs h, bX12_cheapest_21, adn_I]
      rw [if_neg (by omega), if_neg hz]
      exact b2
theorem mCh (h : RPm I n th ce wr) (hK : I 0 7 = nI K) (hKl : K < 16) (hV : vOk I V) (hc : cOk I 4 n th c) (hfe : feas th n (loL V ce wr K n)) : ∃ b, bstP th c n (loL V ce wr K n) b ∧ fX12_cheapest [.ref 0] (mH I J) = some (some (.int (nI b)), mH I J) := by
  have hn := h.2.1
  obtain ⟨o, h1, h2⟩ := mCh_loop (J := J) h hK hKl hV hc 256 0 none .null rfl (fun s hs => absurd hs (Nat.not_lt_zero s))
  cases o with
  | none => exact absurd hfe (h1 _ (sbG_lt hn (sbG_S th n)) (sbG_S th n))
  | some b =>
    refine ⟨b, ⟨h1.2.1, h1.2.2.1, h1.2.2.2⟩, ?_⟩
    rw [eX12_cheapest, mLp h hK hKl hV]
    simp only [callK_some, Option.toList_some, Option.toList_none, List.cons_append, List.nil_append, bX12_cheapest_4]
    exact h2
/-- the class's best so far -/
def bsX (th c : Nat → Nat) (n : Nat) (L : List Nat) (k b : Nat) : Prop := sbG th n b ∧ hdN L b = L.length ∧ ((b = gpS th n ∧ ∀ s, s < k → sbG th n s → hdN L s = L.length → prN c b 8 ≤ prN c s 8) ∨ (b < k ∧ ∀ s, s < k → sbG th n s → hdN L s = L.length → prN c b 8 ≤ prN c s 8 ∧ (s < b → prN c b 8 < prN c s 8)))
theorem bsX_skip {k b : Nat} (h : bsX th c n L k b) (hk : ¬ (sbG th n k ∧ hdN L k = L.length ∧ prN c k 8 < prN c b 8)) : bsX th c n L (k + 1) b := by
  obtain ⟨h1, h2, h3⟩ := h
  refine ⟨h1, h2, ?_⟩
  rcases h3 with ⟨e, h3⟩ | ⟨e, h3⟩
  · left
    refine ⟨e, fun s hs a1 a2 => ?_⟩
    by_cases q : s = k
    · subst q
      by_cases w : prN c s 8 < prN c b 8
      · exact absurd ⟨a1, a2, w⟩ hk
      · omega
    · exact h3 s (by omega) a1 a2
  · right
    refine ⟨by omega, fun s hs a1 a2 => ?_⟩
    by_cases q : s = k
    · subst q
      by_cases w : prN c s 8 < prN c b 8
      · exact absurd ⟨a1, a2, w⟩ hk
      · exact ⟨by omega, fun _ => by omega⟩
    · exact h3 s (by omega) a1 a2
theorem bsX_take {k b : Nat} (h : bsX th c n L k b) (h1 : sbG th n k) (h2 : hdN L k = L.length) (h3 : prN c k 8 < prN c b 8) : bsX th c n L (k + 1) k := by
  obtain ⟨-, -, g3⟩ := h
  refine ⟨h1, h2, Or.inr ⟨by omega, fun s hs a1 a2 => ?_⟩⟩
  by_cases q : s = k
  · subst q; exact ⟨Nat.le_refl _, fun _ => by omega⟩
  · have : prN c b 8 ≤ prN c s 8 := by
      rcases g3 with ⟨e, g3⟩ | ⟨e, g3⟩
      · exact g3 s (by omega) a1 a2
      · exact (g3 s (by omega) a1 a2).1
    exact ⟨by omega, fun _ => by omega⟩
theorem sbG_le {F : Nat} (h : sbG th n F) : F ≤ gpS th n := by
  have e : F &&& gpS th n = F := by
    apply Nat.eq_of_testBit_eq
    intro i
    rw [Nat.testBit_and]
    cases hq : F.testBit i
    · rfl
    · rw [(gpS_bit i).mpr (h i hq)]; rfl
  rw [← e]
  exact Nat.and_le_right
theorem bsX_end {b : Nat} (hn : n ≤ 8) (hc : ∀ g, g < n → gpB th g = true → 1 ≤ c g) (h : bsX th c n L (gpS th n + 1) b) : bstP th c n L b := by
  obtain ⟨h1, h2, h3⟩ := h
  refine ⟨h1, h2, fun s hs a1 a2 => ?_⟩
  have hle := sbG_le a1
  rcases h3 with ⟨e, h3⟩ | ⟨e, h3⟩
  · refine ⟨h3 s (by omega) a1 a2, fun hlt => ?_⟩
    exfalso
    have hg := h3 s (by omega) a1 a2
    have hx : ∃ i, i < 8 ∧ (gpS th n).testBit i = true ∧ s.testBit i = false := by
      by_cases hz : ∃ i, i < 8 ∧ (gpS th n).testBit i = true ∧ s.testBit i = false
      · exact hz
      · exfalso
        have : s = gpS th n := by
          apply Nat.eq_of_testBit_eq
          intro i
          cases hq : (gpS th n).testBit i
          · cases hw : s.testBit i
            · rfl
            · have := (gpS_bit i).mpr (a1 i hw); rw [hq] at this; cases this
          · cases hw : s.testBit i
            · exact absurd ⟨i, by have := ((gpS_bit i).mp hq).1; omega, hq, hw⟩ hz
            · rfl
        omega
    have := prN_strict (c := c) (F := s) (G := gpS th n) (fun i hi => (gpS_bit i).mpr (a1 i hi)) (fun i hi => hc i ((gpS_bit i).mp hi).1 ((gpS_bit i).mp hi).2) 8 hx
    rw [e] at hg
    omega
  · exact h3 s (by omega) a1 a2
theorem cCh_loop (hn : n ≤ 8) (h : LPx I L) (hc : cOk I 16 n th c) : ∀ d k b, k + d = gpS th n + 1 → bsX th c n L k b → ∃ b', bsX th c n L (gpS th n + 1) b' ∧ run mX3_cheapestSet (12, 0, 0, [.ref 13, .int (nI (gpS th n)), .ref 15, .int (nI b), .int (nI (prN c b 8)), .int (nI k)], [], cH I J pl st) = some (some (.int (nI b')), cH I J pl st) := by
  have hl := h.2.1
  have hG := sbG_lt hn (sbG_S th n)
  intro d
  induction d with
  | zero =>
    intro k b hk hb
    have : k = gpS th n + 1 := by omega
    subst this
    refine ⟨b, hb, ?_⟩
    rw [bX3_cheapestSet_12]
    simp (disch := omega) only [nI_lt', nI_le', nI_eq', inb_nI, clp, nI_add, nI_mul', cond_true, cond_false]
    rw [if_pos (by omega)]
  | succ d ih =>
    intro k b hk hb
    have hle := adn_le k (gpS th n)
    have hlh := hdN_le L k
    by_cases hs : sbG th n k
    · have hz : adn k (gpS th n) = 0 := (sbG_adn (by omega)).mpr hs
      have hp1 := prN_le (c := c) (F := k) (fun i hi => (hc i (hs i hi).1 (hs i hi).2).2.2) 8
      have hp2 := prN_le (c := c) (F := b) (fun i hi => (hc i (hb.1 i hi).1 (hb.1 i hi).2).2.2) 8
      by_cases hp : prN c b 8 ≤ prN c k 8
      · obtain ⟨b', b1, b2⟩ := ih (k + 1) b (by omega) (bsX_skip hb (fun q => by have := q.2.2; omega))
        refine ⟨b', b1, ?_⟩
        rw [bX3_cheapestSet_12]
        simp (disch := omega) only [nI_lt', nI_le', nI_eq', inb_nI, clp, nI_add, nI_mul', cond_true, cond_false, callK_some, Option.toList_some, Option.toList_none, List.cons_append, List.nil_append, adn_I, hz, cPr hn hs hc, bX3_cheapestSet_33]
        rw [if_neg (by omega), if_pos trivial, if_pos hp]
        exact b2
      · by_cases hh : hdN L k = L.length
        · obtain ⟨b', b1, b2⟩ := ih (k + 1) k (by omega) (bsX_take hb hs hh (by omega))
          refine ⟨b', b1, ?_⟩
          rw [bX3_cheapestSet_12]
          simp (disch := omega) only [nI_lt', nI_le', nI_eq', inb_nI, clp, nI_add, nI_mul', cond_true, cond_false, callK_some, Option.toList_some, Option.toList_none, List.cons_append, List.nil_append, adn_I, hz, cPr hn hs hc, bX3_cheapestSet_33]
          rw [if_neg (by omega), if_pos trivial, if_neg hp]
          simp (disch := omega) only [callK_some, Option.toList_some, Option.toList_none, List.cons_append, List.nil_append, cAa h, bX3_cheapestSet_44, ite_tI, hh, decide_true, if_true, cPr hn hs hc, bX3_cheapestSet_56, nI_add]
          exact b2
        · obtain ⟨b', b1, b2⟩ := ih (k + 1) b (by omega) (bsX_skip hb (fun q => hh q.2.1))
          refine ⟨b', b1, ?_⟩
          rw [bX3_cheapestSet_12]
          simp (disch := omega) only [nI_lt', nI_le', nI_eq', inb_nI, clp, nI_add, nI_mul', cond_true, cond_false, callK_some, Option.toList_some, Option.toList_none, List.cons_append, List.nil_append, adn_I, hz, cPr hn hs hc, bX3_cheapestSet_33]
          rw [if_neg (by omega), if_pos trivial, if_neg hp]
          simp (disch := omega) only [callK_some, Option.toList_some, Option.toList_none, List.cons_append, List.nil_append, cAa h, bX3_cheapestSet_44, ite_tI, hh, decide_false, Bool.false_eq_true, if_false, nI_add]
          exact b2
    · have hz : ¬ adn k (gpS th n) = 0 := fun q => hs ((sbG_adn (by omega)).mp q)
      obtain ⟨b', b1, b2⟩ := ih (k + 1) b (by omega) (bsX_skip hb (fun q => hs q.1))
      refine ⟨b', b1, ?_⟩
      rw [bX3_cheapestSet_12]
      simp (disch := omega) only [nI_lt', nI_le', nI_eq', inb_nI, clp, nI_add, nI_mul', cond_true, cond_false, adn_I]
      rw [if_neg (by omega), if_neg hz]
      exact b2
theorem cCh (hn : n ≤ 8) (h : LPx I L) (hc : cOk I 16 n th c) (hfe : feas th n L) : ∃ b, bstP th c n L b ∧ fX3_cheapestSet [.ref 13, .int (nI (gpS th n)), .ref 15] (cH I J pl st) = some (some (.int (nI b)), cH I J pl st) := by
  obtain ⟨b, h1, h2⟩ := cCh_loop (J := J) (pl := pl) (st := st) hn h hc (gpS th n + 1) 0 (gpS th n) (by omega) ⟨sbG_S th n, hfe, Or.inl ⟨rfl, fun s hs => absurd hs (Nat.not_lt_zero s)⟩⟩
  refine ⟨b, bsX_end hn (fun g a1 a2 => (hc g a1 a2).2.1) h1, ?_⟩
  rw [eX3_cheapestSet, cPr hn (sbG_S th n) hc]
  simp only [callK_some, Option.toList_some, Option.toList_none, List.cons_append, List.nil_append, bX3_cheapestSet_7]
  exact h2
end CE
end
section
/-! all gaps hold all loose pairs -/
section FE
variable {n : Nat} {th ce : Nat → Nat} {wr : Nat → Bool} {s u K : Nat}
theorem bI_0 (b : Bool) : bI b (nI 0) = nI 0 := by cases b <;> rfl
theorem kyN_inj {a : Nat × Nat} {s u : Nat} (h : kyN a = 8 * s + u) (ha : a.2 < 8) (hu : u < 8) : a.1 = s ∧ a.2 = u := by
  unfold kyN at h
  omega
theorem adk_no {a : Nat × Nat} {c : Int32} (hn : n ≤ 8) (ha : a ∈ gS th ce wr n n) (hu : u < 8) (hg : gfB th ce wr s u = false) : adk (kyN a) c (8 * s + u) = nI 0 := by
  obtain ⟨h1, h2, h3, h4⟩ := gS_mem (Nat.le_refl n) ha
  unfold adk
  refine if_neg fun e => ?_
  obtain ⟨e1, e2⟩ := kyN_inj e.symm (by omega) hu
  rw [e1, e2, hg] at h4
  cases h4
theorem nV_0 (hn : n ≤ 8) (hu : u < 8) (hg : gfB th ce wr s u = false) : nV th ce wr (gS th ce wr n n) (8 * s + u) = nI 0 := by
  have hk : ∀ i, i < (gS th ce wr n n).length → ∀ c, adk (kyN (gAt (gS th ce wr n n) i)) c (8 * s + u) = nI 0 := fun i hi c => adk_no hn (gAt_mem hi) hu hg
  have e1 : sI (fun i => sI (fun j' => g2 th ce wr (gS th ce wr n n) i j' (8 * s + u)) (gS th ce wr n n).length) (gS th ce wr n n).length = nI 0 := by
    refine sI_zero fun i hi => sI_zero fun j hj => ?_
    unfold g2
    rw [hk i hi, hk j hj, add_z, bI_0]
  have e2 : sI (fun i => sI (fun j' => g3' th ce wr (gS th ce wr n n) i j' (8 * s + u)) (gS th ce wr n n).length) (gS th ce wr n n).length = nI 0 := by
    refine sI_zero fun i hi => sI_zero fun j hj => ?_
    unfold g3'
    have e3 : sI (fun k' => g3 th ce wr (gS th ce wr n n) i j k' (8 * s + u)) (gS th ce wr n n).length = nI 0 := by
      refine sI_zero fun k hk' => ?_
      unfold g3
      rw [hk i hi, hk j hj, hk k hk', add_z, add_z, bI_0]
    rw [e3, bI_0]
  unfold nV
  rw [e1, e2, add_z]
theorem nV_ah (hn : n ≤ 8) (hs : s < u) (hu : u < 8) (h : ¬ nV th ce wr (gS th ce wr n n) (8 * s + u) ≤ nI 0) : ahB th s u = true := by
  cases hg : gfB th ce wr s u with
  | false => rw [nV_0 hn hu hg] at h; exact absurd (by decide) h
  | true =>
    unfold gfB at hg
    rw [if_neg (by omega), Bool.and_eq_true] at hg
    exact hg.1
theorem btw_bit : ∀ s, s < 8 → ∀ u, u < 8 → s < u → (btw s u).testBit u = true := by decide +kernel
/-- threads come one behind the other -/
def mono (th : Nat → Nat) (n : Nat) : Prop := ∀ s u, s ≤ u → u < n → th s ≤ th u
theorem feas_of (hn : n ≤ 8) (hm : mono th n) : feas th n (loL (nV th ce wr (gS th ce wr n n)) ce wr K n) := by
  unfold feas hdN
  rw [List.countP_eq_length]
  intro x hx
  obtain ⟨t, u, h1, h2, h3, h4, rfl⟩ := pS_mem hx
  unfold loB at h4
  rw [Bool.and_eq_true, Bool.not_eq_true', decide_eq_false_iff_not] at h4
  have ha := nV_ah hn h2 (by omega) h4.1
  unfold ahB at ha
  rw [Bool.and_eq_true, decide_eq_true_eq, decide_eq_true_eq] at ha
  rw [hdB_t]
  refine ⟨u, btw_bit t (by omega) u (by omega) h2, (gpS_bit u).mpr ⟨h3, ?_⟩⟩
  unfold gpB
  rw [Bool.and_eq_true, decide_eq_true_eq, decide_eq_true_eq]
  have m1 := hm t (u - 1) (by omega) (by omega)
  have m2 := hm (u - 1) u (by omega) h3
  exact ⟨by omega, by omega⟩
end FE
end
