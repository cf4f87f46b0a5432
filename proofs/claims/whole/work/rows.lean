section
-- ===== PART A: goes FIRST, ahead of the names: the tables' words, and 'selects' of the private methods out of them =====
/-- a private method of a class that the tables say can be made, by its rows of tables_1 -/
def lw_okq (q : MethodName × Nat) : Prop := (q.1.cls ≠ "java/lang/invoke/MethodHandle" ∧ q.1.cls ≠ "java/lang/invoke/VarHandle") ∧ Cond.instantiable q.1.cls q.2 ∈ tables_1 ∧ Cond.privateMethod q.1 ∈ tables_1 ∧ Cond.instanceMethod q.1 ∈ tables_1
theorem lw_p0 : lw_okq (⟨"FenceWays$Parser", "take", "(ILFenceWays$Plan;)I"⟩, 3) := ⟨⟨by decide +kernel, by decide +kernel⟩, List.mem_of_getElem? (i := 42) (by decide +kernel), List.mem_of_getElem? (i := 337) (by decide +kernel), List.mem_of_getElem? (i := 338) (by decide +kernel)⟩
theorem lw_p1 : lw_okq (⟨"FenceWays$Parser", "takeWord", "(ILFenceWays$Plan;)I"⟩, 3) := ⟨⟨by decide +kernel, by decide +kernel⟩, List.mem_of_getElem? (i := 42) (by decide +kernel), List.mem_of_getElem? (i := 341) (by decide +kernel), List.mem_of_getElem? (i := 342) (by decide +kernel)⟩
theorem lw_p2 : lw_okq (⟨"FenceWays$Parser", "takeCell", "(ILFenceWays$Plan;)I"⟩, 3) := ⟨⟨by decide +kernel, by decide +kernel⟩, List.mem_of_getElem? (i := 42) (by decide +kernel), List.mem_of_getElem? (i := 349) (by decide +kernel), List.mem_of_getElem? (i := 350) (by decide +kernel)⟩
theorem lw_p3 : lw_okq (⟨"FenceWays", "startAnew", "()V"⟩, 19) := ⟨⟨by decide +kernel, by decide +kernel⟩, List.mem_of_getElem? (i := 18) (by decide +kernel), List.mem_of_getElem? (i := 365) (by decide +kernel), List.mem_of_getElem? (i := 366) (by decide +kernel)⟩
theorem lw_p4 : lw_okq (⟨"FenceWays$Rings", "gatherGifts", "(LFenceWays$Plan;)V"⟩, 4) := ⟨⟨by decide +kernel, by decide +kernel⟩, List.mem_of_getElem? (i := 92) (by decide +kernel), List.mem_of_getElem? (i := 374) (by decide +kernel), List.mem_of_getElem? (i := 375) (by decide +kernel)⟩
theorem lw_p5 : lw_okq (⟨"FenceWays$Rings", "addGift", "(I)V"⟩, 4) := ⟨⟨by decide +kernel, by decide +kernel⟩, List.mem_of_getElem? (i := 92) (by decide +kernel), List.mem_of_getElem? (i := 385) (by decide +kernel), List.mem_of_getElem? (i := 386) (by decide +kernel)⟩
theorem lw_p6 : lw_okq (⟨"FenceWays$Rings", "giftAt", "(I)I"⟩, 4) := ⟨⟨by decide +kernel, by decide +kernel⟩, List.mem_of_getElem? (i := 92) (by decide +kernel), List.mem_of_getElem? (i := 397) (by decide +kernel), List.mem_of_getElem? (i := 398) (by decide +kernel)⟩
theorem lw_p7 : lw_okq (⟨"FenceWays$Rings", "findBegunWith", "(LFenceWays$Plan;II)V"⟩, 4) := ⟨⟨by decide +kernel, by decide +kernel⟩, List.mem_of_getElem? (i := 92) (by decide +kernel), List.mem_of_getElem? (i := 401) (by decide +kernel), List.mem_of_getElem? (i := 402) (by decide +kernel)⟩
theorem lw_p8 : lw_okq (⟨"FenceWays$Rings", "leadsTo", "(LFenceWays$Plan;II)Z"⟩, 4) := ⟨⟨by decide +kernel, by decide +kernel⟩, List.mem_of_getElem? (i := 92) (by decide +kernel), List.mem_of_getElem? (i := 409) (by decide +kernel), List.mem_of_getElem? (i := 410) (by decide +kernel)⟩
theorem lw_p9 : lw_okq (⟨"FenceWays$Rings", "countGiven", "(I)V"⟩, 4) := ⟨⟨by decide +kernel, by decide +kernel⟩, List.mem_of_getElem? (i := 92) (by decide +kernel), List.mem_of_getElem? (i := 425) (by decide +kernel), List.mem_of_getElem? (i := 426) (by decide +kernel)⟩
theorem lw_p10 : lw_okq (⟨"FenceWays", "readingsNow", "()LFenceWays$ReadingList;"⟩, 19) := ⟨⟨by decide +kernel, by decide +kernel⟩, List.mem_of_getElem? (i := 18) (by decide +kernel), List.mem_of_getElem? (i := 453) (by decide +kernel), List.mem_of_getElem? (i := 454) (by decide +kernel)⟩
theorem lw_p11 : lw_okq (⟨"FenceWays$Orders", "weigh", "(LFenceWays$Plan;)V"⟩, 7) := ⟨⟨by decide +kernel, by decide +kernel⟩, List.mem_of_getElem? (i := 210) (by decide +kernel), List.mem_of_getElem? (i := 461) (by decide +kernel), List.mem_of_getElem? (i := 462) (by decide +kernel)⟩
theorem lw_p12 : lw_okq (⟨"FenceWays$Plan", "kindOf", "(II)I"⟩, 6) := ⟨⟨by decide +kernel, by decide +kernel⟩, List.mem_of_getElem? (i := 59) (by decide +kernel), List.mem_of_getElem? (i := 482) (by decide +kernel), List.mem_of_getElem? (i := 483) (by decide +kernel)⟩
theorem lw_p13 : lw_okq (⟨"FenceWays$Orders", "doOneMore", "(LFenceWays$Plan;)V"⟩, 7) := ⟨⟨by decide +kernel, by decide +kernel⟩, List.mem_of_getElem? (i := 210) (by decide +kernel), List.mem_of_getElem? (i := 487) (by decide +kernel), List.mem_of_getElem? (i := 488) (by decide +kernel)⟩
theorem lw_p14 : lw_okq (⟨"FenceWays$Orders", "doEach", "(LFenceWays$Plan;J)V"⟩, 7) := ⟨⟨by decide +kernel, by decide +kernel⟩, List.mem_of_getElem? (i := 210) (by decide +kernel), List.mem_of_getElem? (i := 492) (by decide +kernel), List.mem_of_getElem? (i := 493) (by decide +kernel)⟩
theorem lw_p15 : lw_okq (⟨"FenceWays$Orders", "behind", "(LFenceWays$Plan;JI)J"⟩, 7) := ⟨⟨by decide +kernel, by decide +kernel⟩, List.mem_of_getElem? (i := 210) (by decide +kernel), List.mem_of_getElem? (i := 497) (by decide +kernel), List.mem_of_getElem? (i := 498) (by decide +kernel)⟩
def lw_privs_1 : List (MethodName × Nat) := [(⟨"FenceWays$Parser", "take", "(ILFenceWays$Plan;)I"⟩, 3), (⟨"FenceWays$Parser", "takeWord", "(ILFenceWays$Plan;)I"⟩, 3), (⟨"FenceWays$Parser", "takeCell", "(ILFenceWays$Plan;)I"⟩, 3), (⟨"FenceWays", "startAnew", "()V"⟩, 19), (⟨"FenceWays$Rings", "gatherGifts", "(LFenceWays$Plan;)V"⟩, 4), (⟨"FenceWays$Rings", "addGift", "(I)V"⟩, 4), (⟨"FenceWays$Rings", "giftAt", "(I)I"⟩, 4), (⟨"FenceWays$Rings", "findBegunWith", "(LFenceWays$Plan;II)V"⟩, 4), (⟨"FenceWays$Rings", "leadsTo", "(LFenceWays$Plan;II)Z"⟩, 4), (⟨"FenceWays$Rings", "countGiven", "(I)V"⟩, 4), (⟨"FenceWays", "readingsNow", "()LFenceWays$ReadingList;"⟩, 19), (⟨"FenceWays$Orders", "weigh", "(LFenceWays$Plan;)V"⟩, 7), (⟨"FenceWays$Plan", "kindOf", "(II)I"⟩, 6), (⟨"FenceWays$Orders", "doOneMore", "(LFenceWays$Plan;)V"⟩, 7), (⟨"FenceWays$Orders", "doEach", "(LFenceWays$Plan;J)V"⟩, 7), (⟨"FenceWays$Orders", "behind", "(LFenceWays$Plan;JI)J"⟩, 7)]
theorem lw_r1 : ∀ q ∈ lw_privs_1, lw_okq q := List.forall_mem_cons.mpr ⟨lw_p0, List.forall_mem_cons.mpr ⟨lw_p1, List.forall_mem_cons.mpr ⟨lw_p2, List.forall_mem_cons.mpr ⟨lw_p3, List.forall_mem_cons.mpr ⟨lw_p4, List.forall_mem_cons.mpr ⟨lw_p5, List.forall_mem_cons.mpr ⟨lw_p6, List.forall_mem_cons.mpr ⟨lw_p7, List.forall_mem_cons.mpr ⟨lw_p8, List.forall_mem_cons.mpr ⟨lw_p9, List.forall_mem_cons.mpr ⟨lw_p10, List.forall_mem_cons.mpr ⟨lw_p11, List.forall_mem_cons.mpr ⟨lw_p12, List.forall_mem_cons.mpr ⟨lw_p13, List.forall_mem_cons.mpr ⟨lw_p14, List.forall_mem_cons.mpr ⟨lw_p15, fun _ h => absurd h List.not_mem_nil⟩⟩⟩⟩⟩⟩⟩⟩⟩⟩⟩⟩⟩⟩⟩⟩
theorem lw_p16 : lw_okq (⟨"FenceWays$Orders", "addNext", "(J)V"⟩, 7) := ⟨⟨by decide +kernel, by decide +kernel⟩, List.mem_of_getElem? (i := 210) (by decide +kernel), List.mem_of_getElem? (i := 504) (by decide +kernel), List.mem_of_getElem? (i := 505) (by decide +kernel)⟩
theorem lw_p17 : lw_okq (⟨"FenceWays$Orders", "putNext", "(IJ)V"⟩, 7) := ⟨⟨by decide +kernel, by decide +kernel⟩, List.mem_of_getElem? (i := 210) (by decide +kernel), List.mem_of_getElem? (i := 509) (by decide +kernel), List.mem_of_getElem? (i := 510) (by decide +kernel)⟩
theorem lw_p18 : lw_okq (⟨"FenceWays$ReadingList", "placeOf", "(I)I"⟩, 2) := ⟨⟨by decide +kernel, by decide +kernel⟩, List.mem_of_getElem? (i := 239) (by decide +kernel), List.mem_of_getElem? (i := 521) (by decide +kernel), List.mem_of_getElem? (i := 522) (by decide +kernel)⟩
theorem lw_p19 : lw_okq (⟨"FenceWays", "strictNow", "()LFenceWays$ReadingList;"⟩, 19) := ⟨⟨by decide +kernel, by decide +kernel⟩, List.mem_of_getElem? (i := 18) (by decide +kernel), List.mem_of_getElem? (i := 529) (by decide +kernel), List.mem_of_getElem? (i := 530) (by decide +kernel)⟩
theorem lw_p20 : lw_okq (⟨"FenceWays", "looseNow", "()LFenceWays$LoosePairs;"⟩, 19) := ⟨⟨by decide +kernel, by decide +kernel⟩, List.mem_of_getElem? (i := 18) (by decide +kernel), List.mem_of_getElem? (i := 541) (by decide +kernel), List.mem_of_getElem? (i := 542) (by decide +kernel)⟩
theorem lw_p21 : lw_okq (⟨"FenceWays$LoosePairs", "add", "(I)V"⟩, 2) := ⟨⟨by decide +kernel, by decide +kernel⟩, List.mem_of_getElem? (i := 112) (by decide +kernel), List.mem_of_getElem? (i := 555) (by decide +kernel), List.mem_of_getElem? (i := 556) (by decide +kernel)⟩
theorem lw_p22 : lw_okq (⟨"FenceWays$LoosePairs", "holdersAt", "(I)I"⟩, 2) := ⟨⟨by decide +kernel, by decide +kernel⟩, List.mem_of_getElem? (i := 112) (by decide +kernel), List.mem_of_getElem? (i := 563) (by decide +kernel), List.mem_of_getElem? (i := 564) (by decide +kernel)⟩
theorem lw_p23 : lw_okq (⟨"FenceWays", "bestSet", "()I"⟩, 19) := ⟨⟨by decide +kernel, by decide +kernel⟩, List.mem_of_getElem? (i := 18) (by decide +kernel), List.mem_of_getElem? (i := 572) (by decide +kernel), List.mem_of_getElem? (i := 573) (by decide +kernel)⟩
theorem lw_p24 : lw_okq (⟨"FenceWays$History", "settingAt", "(I)LFenceWays$Setting;"⟩, 3) := ⟨⟨by decide +kernel, by decide +kernel⟩, List.mem_of_getElem? (i := 151) (by decide +kernel), List.mem_of_getElem? (i := 653) (by decide +kernel), List.mem_of_getElem? (i := 654) (by decide +kernel)⟩
theorem lw_p25 : lw_okq (⟨"FenceWays", "driftOnce", "()V"⟩, 19) := ⟨⟨by decide +kernel, by decide +kernel⟩, List.mem_of_getElem? (i := 18) (by decide +kernel), List.mem_of_getElem? (i := 689) (by decide +kernel), List.mem_of_getElem? (i := 690) (by decide +kernel)⟩
theorem lw_p26 : lw_okq (⟨"FenceWays", "draw", "(I)I"⟩, 19) := ⟨⟨by decide +kernel, by decide +kernel⟩, List.mem_of_getElem? (i := 18) (by decide +kernel), List.mem_of_getElem? (i := 693) (by decide +kernel), List.mem_of_getElem? (i := 694) (by decide +kernel)⟩
theorem lw_p27 : lw_okq (⟨"FenceWaysModel", "goes", "([IZ)I"⟩, 45) := ⟨⟨by decide +kernel, by decide +kernel⟩, List.mem_of_getElem? (i := 740) (by decide +kernel), List.mem_of_getElem? (i := 746) (by decide +kernel), List.mem_of_getElem? (i := 747) (by decide +kernel)⟩
theorem lw_p28 : lw_okq (⟨"FenceWaysModel", "ahead", "(I)I"⟩, 45) := ⟨⟨by decide +kernel, by decide +kernel⟩, List.mem_of_getElem? (i := 740) (by decide +kernel), List.mem_of_getElem? (i := 750) (by decide +kernel), List.mem_of_getElem? (i := 751) (by decide +kernel)⟩
theorem lw_p29 : lw_okq (⟨"FenceWaysModel", "isAhead", "(II)Z"⟩, 45) := ⟨⟨by decide +kernel, by decide +kernel⟩, List.mem_of_getElem? (i := 740) (by decide +kernel), List.mem_of_getElem? (i := 754) (by decide +kernel), List.mem_of_getElem? (i := 755) (by decide +kernel)⟩
theorem lw_p30 : lw_okq (⟨"FenceWaysModel", "waits", "(I)I"⟩, 45) := ⟨⟨by decide +kernel, by decide +kernel⟩, List.mem_of_getElem? (i := 740) (by decide +kernel), List.mem_of_getElem? (i := 758) (by decide +kernel), List.mem_of_getElem? (i := 759) (by decide +kernel)⟩
theorem lw_p31 : lw_okq (⟨"FenceWaysModel", "isBound", "(II)Z"⟩, 45) := ⟨⟨by decide +kernel, by decide +kernel⟩, List.mem_of_getElem? (i := 740) (by decide +kernel), List.mem_of_getElem? (i := 762) (by decide +kernel), List.mem_of_getElem? (i := 763) (by decide +kernel)⟩
def lw_privs_2 : List (MethodName × Nat) := [(⟨"FenceWays$Orders", "addNext", "(J)V"⟩, 7), (⟨"FenceWays$Orders", "putNext", "(IJ)V"⟩, 7), (⟨"FenceWays$ReadingList", "placeOf", "(I)I"⟩, 2), (⟨"FenceWays", "strictNow", "()LFenceWays$ReadingList;"⟩, 19), (⟨"FenceWays", "looseNow", "()LFenceWays$LoosePairs;"⟩, 19), (⟨"FenceWays$LoosePairs", "add", "(I)V"⟩, 2), (⟨"FenceWays$LoosePairs", "holdersAt", "(I)I"⟩, 2), (⟨"FenceWays", "bestSet", "()I"⟩, 19), (⟨"FenceWays$History", "settingAt", "(I)LFenceWays$Setting;"⟩, 3), (⟨"FenceWays", "driftOnce", "()V"⟩, 19), (⟨"FenceWays", "draw", "(I)I"⟩, 19), (⟨"FenceWaysModel", "goes", "([IZ)I"⟩, 45), (⟨"FenceWaysModel", "ahead", "(I)I"⟩, 45), (⟨"FenceWaysModel", "isAhead", "(II)Z"⟩, 45), (⟨"FenceWaysModel", "waits", "(I)I"⟩, 45), (⟨"FenceWaysModel", "isBound", "(II)Z"⟩, 45)]
theorem lw_r2 : ∀ q ∈ lw_privs_2, lw_okq q := List.forall_mem_cons.mpr ⟨lw_p16, List.forall_mem_cons.mpr ⟨lw_p17, List.forall_mem_cons.mpr ⟨lw_p18, List.forall_mem_cons.mpr ⟨lw_p19, List.forall_mem_cons.mpr ⟨lw_p20, List.forall_mem_cons.mpr ⟨lw_p21, List.forall_mem_cons.mpr ⟨lw_p22, List.forall_mem_cons.mpr ⟨lw_p23, List.forall_mem_cons.mpr ⟨lw_p24, List.forall_mem_cons.mpr ⟨lw_p25, List.forall_mem_cons.mpr ⟨lw_p26, List.forall_mem_cons.mpr ⟨lw_p27, List.forall_mem_cons.mpr ⟨lw_p28, List.forall_mem_cons.mpr ⟨lw_p29, List.forall_mem_cons.mpr ⟨lw_p30, List.forall_mem_cons.mpr ⟨lw_p31, fun _ h => absurd h List.not_mem_nil⟩⟩⟩⟩⟩⟩⟩⟩⟩⟩⟩⟩⟩⟩⟩⟩
theorem lw_p32 : lw_okq (⟨"FenceWaysModel", "kind", "(II)I"⟩, 45) := ⟨⟨by decide +kernel, by decide +kernel⟩, List.mem_of_getElem? (i := 740) (by decide +kernel), List.mem_of_getElem? (i := 766) (by decide +kernel), List.mem_of_getElem? (i := 767) (by decide +kernel)⟩
theorem lw_p33 : lw_okq (⟨"FenceWaysModel", "does", "(II)V"⟩, 45) := ⟨⟨by decide +kernel, by decide +kernel⟩, List.mem_of_getElem? (i := 740) (by decide +kernel), List.mem_of_getElem? (i := 779) (by decide +kernel), List.mem_of_getElem? (i := 780) (by decide +kernel)⟩
theorem lw_p34 : lw_okq (⟨"FenceWaysModel", "weight", "(I)I"⟩, 45) := ⟨⟨by decide +kernel, by decide +kernel⟩, List.mem_of_getElem? (i := 740) (by decide +kernel), List.mem_of_getElem? (i := 783) (by decide +kernel), List.mem_of_getElem? (i := 784) (by decide +kernel)⟩
theorem lw_p35 : lw_okq (⟨"FenceWaysModel", "stray", "(I)I"⟩, 45) := ⟨⟨by decide +kernel, by decide +kernel⟩, List.mem_of_getElem? (i := 740) (by decide +kernel), List.mem_of_getElem? (i := 929) (by decide +kernel), List.mem_of_getElem? (i := 930) (by decide +kernel)⟩
theorem lw_p36 : lw_okq (⟨"FenceWaysModel", "readings", "()I"⟩, 45) := ⟨⟨by decide +kernel, by decide +kernel⟩, List.mem_of_getElem? (i := 740) (by decide +kernel), List.mem_of_getElem? (i := 933) (by decide +kernel), List.mem_of_getElem? (i := 934) (by decide +kernel)⟩
theorem lw_p37 : lw_okq (⟨"FenceWaysModel", "isStep", "(I)Z"⟩, 45) := ⟨⟨by decide +kernel, by decide +kernel⟩, List.mem_of_getElem? (i := 740) (by decide +kernel), List.mem_of_getElem? (i := 948) (by decide +kernel), List.mem_of_getElem? (i := 949) (by decide +kernel)⟩
theorem lw_p38 : lw_okq (⟨"FenceWaysModel", "isGap", "(I)Z"⟩, 45) := ⟨⟨by decide +kernel, by decide +kernel⟩, List.mem_of_getElem? (i := 740) (by decide +kernel), List.mem_of_getElem? (i := 953) (by decide +kernel), List.mem_of_getElem? (i := 954) (by decide +kernel)⟩
theorem lw_p39 : lw_okq (⟨"FenceWaysModel", "holds", "(I)I"⟩, 45) := ⟨⟨by decide +kernel, by decide +kernel⟩, List.mem_of_getElem? (i := 740) (by decide +kernel), List.mem_of_getElem? (i := 957) (by decide +kernel), List.mem_of_getElem? (i := 958) (by decide +kernel)⟩
theorem lw_p40 : lw_okq (⟨"FenceWaysModel", "isLoose", "(II)Z"⟩, 45) := ⟨⟨by decide +kernel, by decide +kernel⟩, List.mem_of_getElem? (i := 740) (by decide +kernel), List.mem_of_getElem? (i := 961) (by decide +kernel), List.mem_of_getElem? (i := 962) (by decide +kernel)⟩
theorem lw_p41 : lw_okq (⟨"FenceWaysModel", "isPair", "(II)Z"⟩, 45) := ⟨⟨by decide +kernel, by decide +kernel⟩, List.mem_of_getElem? (i := 740) (by decide +kernel), List.mem_of_getElem? (i := 965) (by decide +kernel), List.mem_of_getElem? (i := 966) (by decide +kernel)⟩
theorem lw_p42 : lw_okq (⟨"FenceWaysModel", "conflicts", "(I)I"⟩, 45) := ⟨⟨by decide +kernel, by decide +kernel⟩, List.mem_of_getElem? (i := 740) (by decide +kernel), List.mem_of_getElem? (i := 969) (by decide +kernel), List.mem_of_getElem? (i := 970) (by decide +kernel)⟩
theorem lw_p43 : lw_okq (⟨"FenceWaysModel", "isConflict", "(II)Z"⟩, 45) := ⟨⟨by decide +kernel, by decide +kernel⟩, List.mem_of_getElem? (i := 740) (by decide +kernel), List.mem_of_getElem? (i := 973) (by decide +kernel), List.mem_of_getElem? (i := 974) (by decide +kernel)⟩
theorem lw_p44 : lw_okq (⟨"FenceWaysModel", "reads", "()I"⟩, 45) := ⟨⟨by decide +kernel, by decide +kernel⟩, List.mem_of_getElem? (i := 740) (by decide +kernel), List.mem_of_getElem? (i := 991) (by decide +kernel), List.mem_of_getElem? (i := 992) (by decide +kernel)⟩
theorem lw_p45 : lw_okq (⟨"FenceWaysModel", "sign", "()I"⟩, 45) := ⟨⟨by decide +kernel, by decide +kernel⟩, List.mem_of_getElem? (i := 740) (by decide +kernel), List.mem_of_getElem? (i := 995) (by decide +kernel), List.mem_of_getElem? (i := 996) (by decide +kernel)⟩
theorem lw_p46 : lw_okq (⟨"FenceWaysModel", "readsThread", "()I"⟩, 45) := ⟨⟨by decide +kernel, by decide +kernel⟩, List.mem_of_getElem? (i := 740) (by decide +kernel), List.mem_of_getElem? (i := 999) (by decide +kernel), List.mem_of_getElem? (i := 1000) (by decide +kernel)⟩
theorem lw_p47 : lw_okq (⟨"FenceWaysModel", "ends", "()I"⟩, 45) := ⟨⟨by decide +kernel, by decide +kernel⟩, List.mem_of_getElem? (i := 740) (by decide +kernel), List.mem_of_getElem? (i := 1003) (by decide +kernel), List.mem_of_getElem? (i := 1004) (by decide +kernel)⟩
def lw_privs_3 : List (MethodName × Nat) := [(⟨"FenceWaysModel", "kind", "(II)I"⟩, 45), (⟨"FenceWaysModel", "does", "(II)V"⟩, 45), (⟨"FenceWaysModel", "weight", "(I)I"⟩, 45), (⟨"FenceWaysModel", "stray", "(I)I"⟩, 45), (⟨"FenceWaysModel", "readings", "()I"⟩, 45), (⟨"FenceWaysModel", "isStep", "(I)Z"⟩, 45), (⟨"FenceWaysModel", "isGap", "(I)Z"⟩, 45), (⟨"FenceWaysModel", "holds", "(I)I"⟩, 45), (⟨"FenceWaysModel", "isLoose", "(II)Z"⟩, 45), (⟨"FenceWaysModel", "isPair", "(II)Z"⟩, 45), (⟨"FenceWaysModel", "conflicts", "(I)I"⟩, 45), (⟨"FenceWaysModel", "isConflict", "(II)Z"⟩, 45), (⟨"FenceWaysModel", "reads", "()I"⟩, 45), (⟨"FenceWaysModel", "sign", "()I"⟩, 45), (⟨"FenceWaysModel", "readsThread", "()I"⟩, 45), (⟨"FenceWaysModel", "ends", "()I"⟩, 45)]
theorem lw_r3 : ∀ q ∈ lw_privs_3, lw_okq q := List.forall_mem_cons.mpr ⟨lw_p32, List.forall_mem_cons.mpr ⟨lw_p33, List.forall_mem_cons.mpr ⟨lw_p34, List.forall_mem_cons.mpr ⟨lw_p35, List.forall_mem_cons.mpr ⟨lw_p36, List.forall_mem_cons.mpr ⟨lw_p37, List.forall_mem_cons.mpr ⟨lw_p38, List.forall_mem_cons.mpr ⟨lw_p39, List.forall_mem_cons.mpr ⟨lw_p40, List.forall_mem_cons.mpr ⟨lw_p41, List.forall_mem_cons.mpr ⟨lw_p42, List.forall_mem_cons.mpr ⟨lw_p43, List.forall_mem_cons.mpr ⟨lw_p44, List.forall_mem_cons.mpr ⟨lw_p45, List.forall_mem_cons.mpr ⟨lw_p46, List.forall_mem_cons.mpr ⟨lw_p47, fun _ h => absurd h List.not_mem_nil⟩⟩⟩⟩⟩⟩⟩⟩⟩⟩⟩⟩⟩⟩⟩⟩
theorem lw_p48 : lw_okq (⟨"FenceWaysModel", "readsStep", "(Z)I"⟩, 45) := ⟨⟨by decide +kernel, by decide +kernel⟩, List.mem_of_getElem? (i := 740) (by decide +kernel), List.mem_of_getElem? (i := 1007) (by decide +kernel), List.mem_of_getElem? (i := 1008) (by decide +kernel)⟩
theorem lw_p49 : lw_okq (⟨"FenceWaysModel", "laysRings", "()V"⟩, 45) := ⟨⟨by decide +kernel, by decide +kernel⟩, List.mem_of_getElem? (i := 740) (by decide +kernel), List.mem_of_getElem? (i := 1011) (by decide +kernel), List.mem_of_getElem? (i := 1012) (by decide +kernel)⟩
theorem lw_p50 : lw_okq (⟨"FenceWaysModel", "laysGifts", "()V"⟩, 45) := ⟨⟨by decide +kernel, by decide +kernel⟩, List.mem_of_getElem? (i := 740) (by decide +kernel), List.mem_of_getElem? (i := 1015) (by decide +kernel), List.mem_of_getElem? (i := 1016) (by decide +kernel)⟩
theorem lw_p51 : lw_okq (⟨"FenceWaysModel", "laysTwos", "()V"⟩, 45) := ⟨⟨by decide +kernel, by decide +kernel⟩, List.mem_of_getElem? (i := 740) (by decide +kernel), List.mem_of_getElem? (i := 1019) (by decide +kernel), List.mem_of_getElem? (i := 1020) (by decide +kernel)⟩
theorem lw_p52 : lw_okq (⟨"FenceWaysModel", "isOne", "(I)Z"⟩, 45) := ⟨⟨by decide +kernel, by decide +kernel⟩, List.mem_of_getElem? (i := 740) (by decide +kernel), List.mem_of_getElem? (i := 1023) (by decide +kernel), List.mem_of_getElem? (i := 1024) (by decide +kernel)⟩
theorem lw_p53 : lw_okq (⟨"FenceWaysModel", "meets", "(II)Z"⟩, 45) := ⟨⟨by decide +kernel, by decide +kernel⟩, List.mem_of_getElem? (i := 740) (by decide +kernel), List.mem_of_getElem? (i := 1027) (by decide +kernel), List.mem_of_getElem? (i := 1028) (by decide +kernel)⟩
theorem lw_p54 : lw_okq (⟨"FenceWaysModel", "gives", "(I)V"⟩, 45) := ⟨⟨by decide +kernel, by decide +kernel⟩, List.mem_of_getElem? (i := 740) (by decide +kernel), List.mem_of_getElem? (i := 1031) (by decide +kernel), List.mem_of_getElem? (i := 1032) (by decide +kernel)⟩
theorem lw_p55 : lw_okq (⟨"FenceWaysModel", "laysThrees", "(II)V"⟩, 45) := ⟨⟨by decide +kernel, by decide +kernel⟩, List.mem_of_getElem? (i := 740) (by decide +kernel), List.mem_of_getElem? (i := 1035) (by decide +kernel), List.mem_of_getElem? (i := 1036) (by decide +kernel)⟩
theorem lw_p56 : lw_okq (⟨"FenceWaysModel", "fits", "(III)Z"⟩, 45) := ⟨⟨by decide +kernel, by decide +kernel⟩, List.mem_of_getElem? (i := 740) (by decide +kernel), List.mem_of_getElem? (i := 1039) (by decide +kernel), List.mem_of_getElem? (i := 1040) (by decide +kernel)⟩
theorem lw_p57 : lw_okq (⟨"FenceWaysModel", "marks", "()V"⟩, 45) := ⟨⟨by decide +kernel, by decide +kernel⟩, List.mem_of_getElem? (i := 740) (by decide +kernel), List.mem_of_getElem? (i := 1051) (by decide +kernel), List.mem_of_getElem? (i := 1052) (by decide +kernel)⟩
theorem lw_p58 : lw_okq (⟨"FenceWaysModel", "price", "(I)I"⟩, 45) := ⟨⟨by decide +kernel, by decide +kernel⟩, List.mem_of_getElem? (i := 740) (by decide +kernel), List.mem_of_getElem? (i := 1055) (by decide +kernel), List.mem_of_getElem? (i := 1056) (by decide +kernel)⟩
theorem lw_p59 : lw_okq (⟨"FenceWaysModel", "cheapest", "()I"⟩, 45) := ⟨⟨by decide +kernel, by decide +kernel⟩, List.mem_of_getElem? (i := 740) (by decide +kernel), List.mem_of_getElem? (i := 1071) (by decide +kernel), List.mem_of_getElem? (i := 1072) (by decide +kernel)⟩
theorem lw_p60 : lw_okq (⟨"FenceWaysModel", "loosePairs", "()I"⟩, 45) := ⟨⟨by decide +kernel, by decide +kernel⟩, List.mem_of_getElem? (i := 740) (by decide +kernel), List.mem_of_getElem? (i := 1075) (by decide +kernel), List.mem_of_getElem? (i := 1076) (by decide +kernel)⟩
theorem lw_p61 : lw_okq (⟨"FenceWaysModel", "gaps", "()I"⟩, 45) := ⟨⟨by decide +kernel, by decide +kernel⟩, List.mem_of_getElem? (i := 740) (by decide +kernel), List.mem_of_getElem? (i := 1079) (by decide +kernel), List.mem_of_getElem? (i := 1080) (by decide +kernel)⟩
theorem lw_p62 : lw_okq (⟨"FenceWaysModel", "drawn", "()V"⟩, 45) := ⟨⟨by decide +kernel, by decide +kernel⟩, List.mem_of_getElem? (i := 740) (by decide +kernel), List.mem_of_getElem? (i := 1087) (by decide +kernel), List.mem_of_getElem? (i := 1088) (by decide +kernel)⟩
theorem lw_p63 : lw_okq (⟨"FenceWaysModel", "draw", "(I)I"⟩, 45) := ⟨⟨by decide +kernel, by decide +kernel⟩, List.mem_of_getElem? (i := 740) (by decide +kernel), List.mem_of_getElem? (i := 1091) (by decide +kernel), List.mem_of_getElem? (i := 1092) (by decide +kernel)⟩
def lw_privs_4 : List (MethodName × Nat) := [(⟨"FenceWaysModel", "readsStep", "(Z)I"⟩, 45), (⟨"FenceWaysModel", "laysRings", "()V"⟩, 45), (⟨"FenceWaysModel", "laysGifts", "()V"⟩, 45), (⟨"FenceWaysModel", "laysTwos", "()V"⟩, 45), (⟨"FenceWaysModel", "isOne", "(I)Z"⟩, 45), (⟨"FenceWaysModel", "meets", "(II)Z"⟩, 45), (⟨"FenceWaysModel", "gives", "(I)V"⟩, 45), (⟨"FenceWaysModel", "laysThrees", "(II)V"⟩, 45), (⟨"FenceWaysModel", "fits", "(III)Z"⟩, 45), (⟨"FenceWaysModel", "marks", "()V"⟩, 45), (⟨"FenceWaysModel", "price", "(I)I"⟩, 45), (⟨"FenceWaysModel", "cheapest", "()I"⟩, 45), (⟨"FenceWaysModel", "loosePairs", "()I"⟩, 45), (⟨"FenceWaysModel", "gaps", "()I"⟩, 45), (⟨"FenceWaysModel", "drawn", "()V"⟩, 45), (⟨"FenceWaysModel", "draw", "(I)I"⟩, 45)]
theorem lw_r4 : ∀ q ∈ lw_privs_4, lw_okq q := List.forall_mem_cons.mpr ⟨lw_p48, List.forall_mem_cons.mpr ⟨lw_p49, List.forall_mem_cons.mpr ⟨lw_p50, List.forall_mem_cons.mpr ⟨lw_p51, List.forall_mem_cons.mpr ⟨lw_p52, List.forall_mem_cons.mpr ⟨lw_p53, List.forall_mem_cons.mpr ⟨lw_p54, List.forall_mem_cons.mpr ⟨lw_p55, List.forall_mem_cons.mpr ⟨lw_p56, List.forall_mem_cons.mpr ⟨lw_p57, List.forall_mem_cons.mpr ⟨lw_p58, List.forall_mem_cons.mpr ⟨lw_p59, List.forall_mem_cons.mpr ⟨lw_p60, List.forall_mem_cons.mpr ⟨lw_p61, List.forall_mem_cons.mpr ⟨lw_p62, List.forall_mem_cons.mpr ⟨lw_p63, fun _ h => absurd h List.not_mem_nil⟩⟩⟩⟩⟩⟩⟩⟩⟩⟩⟩⟩⟩⟩⟩⟩
theorem lw_p64 : lw_okq (⟨"FenceWaysModel", "toldMore", "(I)I"⟩, 45) := ⟨⟨by decide +kernel, by decide +kernel⟩, List.mem_of_getElem? (i := 740) (by decide +kernel), List.mem_of_getElem? (i := 1128) (by decide +kernel), List.mem_of_getElem? (i := 1129) (by decide +kernel)⟩
theorem lw_p65 : lw_okq (⟨"FenceWaysModel", "needed", "()I"⟩, 45) := ⟨⟨by decide +kernel, by decide +kernel⟩, List.mem_of_getElem? (i := 740) (by decide +kernel), List.mem_of_getElem? (i := 1132) (by decide +kernel), List.mem_of_getElem? (i := 1133) (by decide +kernel)⟩
theorem lw_p66 : lw_okq (⟨"FenceWaysModel", "wrong", "()I"⟩, 45) := ⟨⟨by decide +kernel, by decide +kernel⟩, List.mem_of_getElem? (i := 740) (by decide +kernel), List.mem_of_getElem? (i := 1136) (by decide +kernel), List.mem_of_getElem? (i := 1137) (by decide +kernel)⟩
def lw_privs_5 : List (MethodName × Nat) := [(⟨"FenceWaysModel", "toldMore", "(I)I"⟩, 45), (⟨"FenceWaysModel", "needed", "()I"⟩, 45), (⟨"FenceWaysModel", "wrong", "()I"⟩, 45)]
theorem lw_r5 : ∀ q ∈ lw_privs_5, lw_okq q := List.forall_mem_cons.mpr ⟨lw_p64, List.forall_mem_cons.mpr ⟨lw_p65, List.forall_mem_cons.mpr ⟨lw_p66, fun _ h => absurd h List.not_mem_nil⟩⟩⟩
def lw_privs : List (MethodName × Nat) := lw_privs_1 ++ (lw_privs_2 ++ (lw_privs_3 ++ (lw_privs_4 ++ (lw_privs_5))))
def lw_tbl : List Cond := k2_sels lw_privs ++ tables_1
theorem lw_privs_ok : ∀ q ∈ lw_privs, lw_okq q := by
  show ∀ q ∈ lw_privs_1 ++ (lw_privs_2 ++ (lw_privs_3 ++ (lw_privs_4 ++ (lw_privs_5)))), lw_okq q
  exact List.forall_mem_append.mpr ⟨lw_r1, List.forall_mem_append.mpr ⟨lw_r2, List.forall_mem_append.mpr ⟨lw_r3, List.forall_mem_append.mpr ⟨lw_r4, lw_r5⟩⟩⟩⟩
end
section
def RX0 : String := "FenceWays$Book"
def TX0 : u_T := fun k => match k with
  | 0 => ("FenceWays$Book", "numbers", "[I", true)
  | 1 => ("FenceWays$Book", "thatCan", "I", false)
  | _ => ("FenceWays$Book", "count", "I", false)
def tyX0 : Nat → FieldType := fun k => match k with
  | 0 => .array .int
  | 1 => .int
  | _ => .int
abbrev wsX00 : List Cond := u_ws RX0 TX0 3
theorem nmX0 : ∀ a, a < 3 → ∀ b, b < 3 → a ≠ b → (TX0 a).2.1 ≠ (TX0 b).2.1 := by decide +kernel
theorem tyX0_ok : ∀ k, k < 3 → parseFieldDescriptor (TX0 k).2.2.1 = some (tyX0 k) := by decide +kernel
abbrev cX0_init : ByteArray := prog_2_method_1_code
def yX0_init : MethodName := ⟨RX0, "<init>", "()V"⟩
abbrev cX0_clear : ByteArray := prog_2_method_2_code
def yX0_clear : MethodName := ⟨RX0, "clear", "()V"⟩
abbrev cX0_add : ByteArray := prog_2_method_3_code
def yX0_add : MethodName := ⟨RX0, "add", "(IZ)Z"⟩
abbrev cX0_firstWrong : ByteArray := prog_2_method_4_code
def yX0_firstWrong : MethodName := ⟨RX0, "firstWrong", "(LFenceWays$ReadingList;)I"⟩
def RX1 : String := "FenceWays$History"
def TX1 : u_T := fun k => match k with
  | 0 => ("FenceWays$History", "settings", "[LFenceWays$Setting;", true)
  | 1 => ("FenceWays$History", "oldest", "I", false)
  | _ => ("FenceWays$History", "count", "I", false)
def tyX1 : Nat → FieldType := fun k => match k with
  | 0 => .array (.object "FenceWays$Setting")
  | 1 => .int
  | _ => .int
abbrev wsX10 : List Cond := u_ws RX1 TX1 3
theorem nmX1 : ∀ a, a < 3 → ∀ b, b < 3 → a ≠ b → (TX1 a).2.1 ≠ (TX1 b).2.1 := by decide +kernel
theorem tyX1_ok : ∀ k, k < 3 → parseFieldDescriptor (TX1 k).2.2.1 = some (tyX1 k) := by decide +kernel
abbrev cX1_init : ByteArray := prog_3_method_1_code
def yX1_init : MethodName := ⟨RX1, "<init>", "()V"⟩
abbrev cX1_clear : ByteArray := prog_3_method_2_code
def yX1_clear : MethodName := ⟨RX1, "clear", "()V"⟩
abbrev cX1_add : ByteArray := prog_3_method_3_code
def yX1_add : MethodName := ⟨RX1, "add", "(LFenceWays$Setting;)V"⟩
abbrev cX1_takeBack : ByteArray := prog_3_method_4_code
def yX1_takeBack : MethodName := ⟨RX1, "takeBack", "(ILFenceWays$Setting;)V"⟩
abbrev cX1_settingAt : ByteArray := prog_3_method_5_code
def yX1_settingAt : MethodName := ⟨RX1, "settingAt", "(I)LFenceWays$Setting;"⟩
def RX2 : String := "FenceWays$Image"
def TX2 : u_T := fun k => match k with
  | 0 => ("FenceWays$Image", "setting", "LFenceWays$Setting;", true)
  | 1 => ("FenceWays$Image", "seedThen", "I", false)
  | _ => ("FenceWays$Image", "isKept", "Z", false)
def tyX2 : Nat → FieldType := fun k => match k with
  | 0 => .object "FenceWays$Setting"
  | 1 => .int
  | _ => .boolean
abbrev wsX20 : List Cond := u_ws RX2 TX2 3
theorem nmX2 : ∀ a, a < 3 → ∀ b, b < 3 → a ≠ b → (TX2 a).2.1 ≠ (TX2 b).2.1 := by decide +kernel
theorem tyX2_ok : ∀ k, k < 3 → parseFieldDescriptor (TX2 k).2.2.1 = some (tyX2 k) := by decide +kernel
abbrev cX2_init : ByteArray := prog_4_method_1_code
def yX2_init : MethodName := ⟨RX2, "<init>", "()V"⟩
abbrev cX2_hold : ByteArray := prog_4_method_2_code
def yX2_hold : MethodName := ⟨RX2, "hold", "(LFenceWays$Setting;I)V"⟩
def RX3 : String := "FenceWays$LoosePairs"
def TX3 : u_T := fun k => match k with
  | 0 => ("FenceWays$LoosePairs", "holders", "[I", true)
  | _ => ("FenceWays$LoosePairs", "count", "I", false)
def tyX3 : Nat → FieldType := fun k => match k with
  | 0 => .array .int
  | _ => .int
abbrev wsX30 : List Cond := u_ws RX3 TX3 2
theorem nmX3 : ∀ a, a < 2 → ∀ b, b < 2 → a ≠ b → (TX3 a).2.1 ≠ (TX3 b).2.1 := by decide +kernel
theorem tyX3_ok : ∀ k, k < 2 → parseFieldDescriptor (TX3 k).2.2.1 = some (tyX3 k) := by decide +kernel
abbrev cX3_init : ByteArray := prog_5_method_1_code
def yX3_init : MethodName := ⟨RX3, "<init>", "()V"⟩
abbrev cX3_gather : ByteArray := prog_5_method_2_code
def yX3_gather : MethodName := ⟨RX3, "gather", "(LFenceWays$Plan;LFenceWays$Rings;I)V"⟩
abbrev cX3_countHeld : ByteArray := prog_5_method_3_code
def yX3_countHeld : MethodName := ⟨RX3, "countHeld", "(I)I"⟩
abbrev cX3_areAllHeld : ByteArray := prog_5_method_4_code
def yX3_areAllHeld : MethodName := ⟨RX3, "areAllHeld", "(I)Z"⟩
abbrev cX3_neededOf : ByteArray := prog_5_method_5_code
def yX3_neededOf : MethodName := ⟨RX3, "neededOf", "(I)I"⟩
abbrev cX3_cheapestSet : ByteArray := prog_5_method_6_code
def yX3_cheapestSet : MethodName := ⟨RX3, "cheapestSet", "(ILFenceWays$Setting;)I"⟩
abbrev cX3_add : ByteArray := prog_5_method_7_code
def yX3_add : MethodName := ⟨RX3, "add", "(I)V"⟩
abbrev cX3_holdersAt : ByteArray := prog_5_method_8_code
def yX3_holdersAt : MethodName := ⟨RX3, "holdersAt", "(I)I"⟩
def RX4 : String := "FenceWays$Orders"
def TX4 : u_T := fun k => match k with
  | 0 => ("FenceWays$Orders", "states", "[J", false)
  | 1 => ("FenceWays$Orders", "nextStates", "[J", false)
  | 2 => ("FenceWays$Orders", "slots", "[I", true)
  | 3 => ("FenceWays$Orders", "waits", "[I", true)
  | 4 => ("FenceWays$Orders", "weights", "[I", true)
  | 5 => ("FenceWays$Orders", "count", "I", false)
  | _ => ("FenceWays$Orders", "nextCount", "I", false)
def tyX4 : Nat → FieldType := fun k => match k with
  | 0 => .array .long
  | 1 => .array .long
  | 2 => .array .int
  | 3 => .array .int
  | 4 => .array .int
  | 5 => .int
  | _ => .int
abbrev wsX40 : List Cond := u_ws RX4 TX4 7
theorem nmX4 : ∀ a, a < 7 → ∀ b, b < 7 → a ≠ b → (TX4 a).2.1 ≠ (TX4 b).2.1 := by decide +kernel
theorem tyX4_ok : ∀ k, k < 7 → parseFieldDescriptor (TX4 k).2.2.1 = some (tyX4 k) := by decide +kernel
abbrev cX4_init : ByteArray := prog_6_method_1_code
def yX4_init : MethodName := ⟨RX4, "<init>", "()V"⟩
abbrev cX4_findReadings : ByteArray := prog_6_method_2_code
def yX4_findReadings : MethodName := ⟨RX4, "findReadings", "(LFenceWays$Plan;IILFenceWays$ReadingList;)V"⟩
abbrev cX4_weigh : ByteArray := prog_6_method_3_code
def yX4_weigh : MethodName := ⟨RX4, "weigh", "(LFenceWays$Plan;)V"⟩
abbrev cX4_doOneMore : ByteArray := prog_6_method_4_code
def yX4_doOneMore : MethodName := ⟨RX4, "doOneMore", "(LFenceWays$Plan;)V"⟩
abbrev cX4_doEach : ByteArray := prog_6_method_5_code
def yX4_doEach : MethodName := ⟨RX4, "doEach", "(LFenceWays$Plan;J)V"⟩
abbrev cX4_behind : ByteArray := prog_6_method_6_code
def yX4_behind : MethodName := ⟨RX4, "behind", "(LFenceWays$Plan;JI)J"⟩
abbrev cX4_addNext : ByteArray := prog_6_method_7_code
def yX4_addNext : MethodName := ⟨RX4, "addNext", "(J)V"⟩
abbrev cX4_putNext : ByteArray := prog_6_method_8_code
def yX4_putNext : MethodName := ⟨RX4, "putNext", "(IJ)V"⟩
def RX5 : String := "FenceWays$Parser"
def TX5 : u_T := fun k => match k with
  | 0 => ("FenceWays$Parser", "faultPlace", "I", false)
  | 1 => ("FenceWays$Parser", "state", "I", false)
  | _ => ("FenceWays$Parser", "stepWrites", "Z", false)
def tyX5 : Nat → FieldType := fun k => match k with
  | 0 => .int
  | 1 => .int
  | _ => .boolean
abbrev wsX50 : List Cond := u_ws RX5 TX5 3
theorem nmX5 : ∀ a, a < 3 → ∀ b, b < 3 → a ≠ b → (TX5 a).2.1 ≠ (TX5 b).2.1 := by decide +kernel
theorem tyX5_ok : ∀ k, k < 3 → parseFieldDescriptor (TX5 k).2.2.1 = some (tyX5 k) := by decide +kernel
abbrev cX5_init : ByteArray := prog_7_method_1_code
def yX5_init : MethodName := ⟨RX5, "<init>", "()V"⟩
abbrev cX5_parse : ByteArray := prog_7_method_2_code
def yX5_parse : MethodName := ⟨RX5, "parse", "(LFenceWays$Text;LFenceWays$Plan;)I"⟩
abbrev cX5_take : ByteArray := prog_7_method_3_code
def yX5_take : MethodName := ⟨RX5, "take", "(ILFenceWays$Plan;)I"⟩
abbrev cX5_takeWord : ByteArray := prog_7_method_4_code
def yX5_takeWord : MethodName := ⟨RX5, "takeWord", "(ILFenceWays$Plan;)I"⟩
abbrev cX5_takeCell : ByteArray := prog_7_method_5_code
def yX5_takeCell : MethodName := ⟨RX5, "takeCell", "(ILFenceWays$Plan;)I"⟩
def RX6 : String := "FenceWays$Plan"
def TX6 : u_T := fun k => match k with
  | 0 => ("FenceWays$Plan", "threads", "[I", true)
  | 1 => ("FenceWays$Plan", "cells", "[I", true)
  | 2 => ("FenceWays$Plan", "threadCount", "I", false)
  | 3 => ("FenceWays$Plan", "stepCount", "I", false)
  | 4 => ("FenceWays$Plan", "writers", "I", false)
  | _ => ("FenceWays$Plan", "gaps", "I", false)
def tyX6 : Nat → FieldType := fun k => match k with
  | 0 => .array .int
  | 1 => .array .int
  | 2 => .int
  | 3 => .int
  | 4 => .int
  | _ => .int
abbrev wsX60 : List Cond := u_ws RX6 TX6 6
theorem nmX6 : ∀ a, a < 6 → ∀ b, b < 6 → a ≠ b → (TX6 a).2.1 ≠ (TX6 b).2.1 := by decide +kernel
theorem tyX6_ok : ∀ k, k < 6 → parseFieldDescriptor (TX6 k).2.2.1 = some (tyX6 k) := by decide +kernel
abbrev cX6_init : ByteArray := prog_8_method_1_code
def yX6_init : MethodName := ⟨RX6, "<init>", "()V"⟩
abbrev cX6_clear : ByteArray := prog_8_method_2_code
def yX6_clear : MethodName := ⟨RX6, "clear", "()V"⟩
abbrev cX6_addThread : ByteArray := prog_8_method_3_code
def yX6_addThread : MethodName := ⟨RX6, "addThread", "()Z"⟩
abbrev cX6_addStep : ByteArray := prog_8_method_4_code
def yX6_addStep : MethodName := ⟨RX6, "addStep", "(IZ)V"⟩
abbrev cX6_hasStep : ByteArray := prog_8_method_5_code
def yX6_hasStep : MethodName := ⟨RX6, "hasStep", "(I)Z"⟩
abbrev cX6_hasGap : ByteArray := prog_8_method_6_code
def yX6_hasGap : MethodName := ⟨RX6, "hasGap", "(I)Z"⟩
abbrev cX6_threadOf : ByteArray := prog_8_method_7_code
def yX6_threadOf : MethodName := ⟨RX6, "threadOf", "(I)I"⟩
abbrev cX6_cellOf : ByteArray := prog_8_method_8_code
def yX6_cellOf : MethodName := ⟨RX6, "cellOf", "(I)I"⟩
abbrev cX6_isWriter : ByteArray := prog_8_method_9_code
def yX6_isWriter : MethodName := ⟨RX6, "isWriter", "(I)Z"⟩
abbrev cX6_isAhead : ByteArray := prog_8_method_10_code
def yX6_isAhead : MethodName := ⟨RX6, "isAhead", "(II)Z"⟩
abbrev cX6_areInConflict : ByteArray := prog_8_method_11_code
def yX6_areInConflict : MethodName := ⟨RX6, "areInConflict", "(II)Z"⟩
abbrev cX6_conflictsOf : ByteArray := prog_8_method_12_code
def yX6_conflictsOf : MethodName := ⟨RX6, "conflictsOf", "(I)I"⟩
abbrev cX6_mayOvertake : ByteArray := prog_8_method_13_code
def yX6_mayOvertake : MethodName := ⟨RX6, "mayOvertake", "(III)Z"⟩
abbrev cX6_waitsOf : ByteArray := prog_8_method_14_code
def yX6_waitsOf : MethodName := ⟨RX6, "waitsOf", "(III)I"⟩
abbrev cX6_kindOf : ByteArray := prog_8_method_15_code
def yX6_kindOf : MethodName := ⟨RX6, "kindOf", "(II)I"⟩
def RX7 : String := "FenceWays$ReadingList"
def TX7 : u_T := fun k => match k with
  | 0 => ("FenceWays$ReadingList", "numbers", "[I", true)
  | _ => ("FenceWays$ReadingList", "count", "I", false)
def tyX7 : Nat → FieldType := fun k => match k with
  | 0 => .array .int
  | _ => .int
abbrev wsX70 : List Cond := u_ws RX7 TX7 2
theorem nmX7 : ∀ a, a < 2 → ∀ b, b < 2 → a ≠ b → (TX7 a).2.1 ≠ (TX7 b).2.1 := by decide +kernel
theorem tyX7_ok : ∀ k, k < 2 → parseFieldDescriptor (TX7 k).2.2.1 = some (tyX7 k) := by decide +kernel
abbrev cX7_init : ByteArray := prog_9_method_1_code
def yX7_init : MethodName := ⟨RX7, "<init>", "()V"⟩
abbrev cX7_clear : ByteArray := prog_9_method_2_code
def yX7_clear : MethodName := ⟨RX7, "clear", "()V"⟩
abbrev cX7_add : ByteArray := prog_9_method_3_code
def yX7_add : MethodName := ⟨RX7, "add", "(I)V"⟩
abbrev cX7_at : ByteArray := prog_9_method_4_code
def yX7_at : MethodName := ⟨RX7, "at", "(I)I"⟩
abbrev cX7_holds : ByteArray := prog_9_method_5_code
def yX7_holds : MethodName := ⟨RX7, "holds", "(I)Z"⟩
abbrev cX7_countWithout : ByteArray := prog_9_method_6_code
def yX7_countWithout : MethodName := ⟨RX7, "countWithout", "(LFenceWays$ReadingList;)I"⟩
abbrev cX7_atWithout : ByteArray := prog_9_method_7_code
def yX7_atWithout : MethodName := ⟨RX7, "atWithout", "(ILFenceWays$ReadingList;)I"⟩
abbrev cX7_placeOf : ByteArray := prog_9_method_8_code
def yX7_placeOf : MethodName := ⟨RX7, "placeOf", "(I)I"⟩
def RX8 : String := "FenceWays$Rings"
def TX8 : u_T := fun k => match k with
  | 0 => ("FenceWays$Rings", "gifts", "[I", true)
  | 1 => ("FenceWays$Rings", "countOf", "[I", true)
  | 2 => ("FenceWays$Rings", "giftCount", "I", false)
  | _ => ("FenceWays$Rings", "count", "I", false)
def tyX8 : Nat → FieldType := fun k => match k with
  | 0 => .array .int
  | 1 => .array .int
  | 2 => .int
  | _ => .int
abbrev wsX80 : List Cond := u_ws RX8 TX8 4
theorem nmX8 : ∀ a, a < 4 → ∀ b, b < 4 → a ≠ b → (TX8 a).2.1 ≠ (TX8 b).2.1 := by decide +kernel
theorem tyX8_ok : ∀ k, k < 4 → parseFieldDescriptor (TX8 k).2.2.1 = some (tyX8 k) := by decide +kernel
abbrev cX8_init : ByteArray := prog_10_method_1_code
def yX8_init : MethodName := ⟨RX8, "<init>", "()V"⟩
abbrev cX8_find : ByteArray := prog_10_method_2_code
def yX8_find : MethodName := ⟨RX8, "find", "(LFenceWays$Plan;)V"⟩
abbrev cX8_countWith : ByteArray := prog_10_method_3_code
def yX8_countWith : MethodName := ⟨RX8, "countWith", "(II)I"⟩
abbrev cX8_gatherGifts : ByteArray := prog_10_method_4_code
def yX8_gatherGifts : MethodName := ⟨RX8, "gatherGifts", "(LFenceWays$Plan;)V"⟩
abbrev cX8_addGift : ByteArray := prog_10_method_5_code
def yX8_addGift : MethodName := ⟨RX8, "addGift", "(I)V"⟩
abbrev cX8_findBegunWith : ByteArray := prog_10_method_6_code
def yX8_findBegunWith : MethodName := ⟨RX8, "findBegunWith", "(LFenceWays$Plan;II)V"⟩
abbrev cX8_leadsTo : ByteArray := prog_10_method_7_code
def yX8_leadsTo : MethodName := ⟨RX8, "leadsTo", "(LFenceWays$Plan;II)Z"⟩
abbrev cX8_countGiven : ByteArray := prog_10_method_8_code
def yX8_countGiven : MethodName := ⟨RX8, "countGiven", "(I)V"⟩
abbrev cX8_giftAt : ByteArray := prog_10_method_9_code
def yX8_giftAt : MethodName := ⟨RX8, "giftAt", "(I)I"⟩
abbrev cX8_giftOf : ByteArray := prog_10_method_10_code
def yX8_giftOf : MethodName := ⟨RX8, "giftOf", "(II)I"⟩
abbrev cX8_firstOf : ByteArray := prog_10_method_11_code
def yX8_firstOf : MethodName := ⟨RX8, "firstOf", "(I)I"⟩
abbrev cX8_lastOf : ByteArray := prog_10_method_12_code
def yX8_lastOf : MethodName := ⟨RX8, "lastOf", "(I)I"⟩
abbrev cX8_isAlone : ByteArray := prog_10_method_13_code
def yX8_isAlone : MethodName := ⟨RX8, "isAlone", "(I)Z"⟩
def RX9 : String := "FenceWays$Setting"
def TX9 : u_T := fun k => match k with
  | 0 => ("FenceWays$Setting", "costs", "[I", true)
  | 1 => ("FenceWays$Setting", "fences", "I", false)
  | _ => ("FenceWays$Setting", "kinds", "I", false)
def tyX9 : Nat → FieldType := fun k => match k with
  | 0 => .array .int
  | 1 => .int
  | _ => .int
abbrev wsX90 : List Cond := u_ws RX9 TX9 3
theorem nmX9 : ∀ a, a < 3 → ∀ b, b < 3 → a ≠ b → (TX9 a).2.1 ≠ (TX9 b).2.1 := by decide +kernel
theorem tyX9_ok : ∀ k, k < 3 → parseFieldDescriptor (TX9 k).2.2.1 = some (tyX9 k) := by decide +kernel
abbrev cX9_init : ByteArray := prog_11_method_1_code
def yX9_init : MethodName := ⟨RX9, "<init>", "()V"⟩
abbrev cX9_clear : ByteArray := prog_11_method_2_code
def yX9_clear : MethodName := ⟨RX9, "clear", "()V"⟩
abbrev cX9_copy : ByteArray := prog_11_method_3_code
def yX9_copy : MethodName := ⟨RX9, "copy", "(LFenceWays$Setting;)V"⟩
abbrev cX9_setFence : ByteArray := prog_11_method_4_code
def yX9_setFence : MethodName := ⟨RX9, "setFence", "(IZ)V"⟩
abbrev cX9_setCost : ByteArray := prog_11_method_5_code
def yX9_setCost : MethodName := ⟨RX9, "setCost", "(II)V"⟩
abbrev cX9_costOf : ByteArray := prog_11_method_6_code
def yX9_costOf : MethodName := ⟨RX9, "costOf", "(I)I"⟩
abbrev cX9_costOfSet : ByteArray := prog_11_method_7_code
def yX9_costOfSet : MethodName := ⟨RX9, "costOfSet", "(I)I"⟩
def RX10 : String := "FenceWays$Text"
def TX10 : u_T := fun k => match k with
  | 0 => ("FenceWays$Text", "letters", "[I", true)
  | _ => ("FenceWays$Text", "length", "I", false)
def tyX10 : Nat → FieldType := fun k => match k with
  | 0 => .array .int
  | _ => .int
abbrev wsX100 : List Cond := u_ws RX10 TX10 2
theorem nmX10 : ∀ a, a < 2 → ∀ b, b < 2 → a ≠ b → (TX10 a).2.1 ≠ (TX10 b).2.1 := by decide +kernel
theorem tyX10_ok : ∀ k, k < 2 → parseFieldDescriptor (TX10 k).2.2.1 = some (tyX10 k) := by decide +kernel
abbrev cX10_init : ByteArray := prog_12_method_1_code
def yX10_init : MethodName := ⟨RX10, "<init>", "()V"⟩
abbrev cX10_add : ByteArray := prog_12_method_2_code
def yX10_add : MethodName := ⟨RX10, "add", "(I)Z"⟩
abbrev cX10_letterAt : ByteArray := prog_12_method_3_code
def yX10_letterAt : MethodName := ⟨RX10, "letterAt", "(I)I"⟩
abbrev cX10_clear : ByteArray := prog_12_method_4_code
def yX10_clear : MethodName := ⟨RX10, "clear", "()V"⟩
def RX11 : String := "FenceWays"
def TX11 : u_T := fun k => match k with
  | 0 => ("FenceWays", "text", "LFenceWays$Text;", true)
  | 1 => ("FenceWays", "parser", "LFenceWays$Parser;", true)
  | 2 => ("FenceWays", "plan", "LFenceWays$Plan;", false)
  | 3 => ("FenceWays", "draft", "LFenceWays$Plan;", false)
  | 4 => ("FenceWays", "rings", "LFenceWays$Rings;", true)
  | 5 => ("FenceWays", "loosePairs", "LFenceWays$LoosePairs;", true)
  | 6 => ("FenceWays", "setting", "LFenceWays$Setting;", true)
  | 7 => ("FenceWays", "history", "LFenceWays$History;", true)
  | 8 => ("FenceWays", "images", "[LFenceWays$Image;", true)
  | 9 => ("FenceWays", "book", "LFenceWays$Book;", true)
  | 10 => ("FenceWays", "orders", "LFenceWays$Orders;", true)
  | 11 => ("FenceWays", "readings", "LFenceWays$ReadingList;", true)
  | 12 => ("FenceWays", "strictReadings", "LFenceWays$ReadingList;", true)
  | 13 => ("FenceWays", "readingsAreKnown", "Z", false)
  | 14 => ("FenceWays", "fencesOfReadings", "I", false)
  | 15 => ("FenceWays", "kindsOfReadings", "I", false)
  | 16 => ("FenceWays", "strictAreKnown", "Z", false)
  | 17 => ("FenceWays", "seedNow", "I", false)
  | _ => ("FenceWays", "faultPlace", "I", false)
def tyX11 : Nat → FieldType := fun k => match k with
  | 0 => .object "FenceWays$Text"
  | 1 => .object "FenceWays$Parser"
  | 2 => .object "FenceWays$Plan"
  | 3 => .object "FenceWays$Plan"
  | 4 => .object "FenceWays$Rings"
  | 5 => .object "FenceWays$LoosePairs"
  | 6 => .object "FenceWays$Setting"
  | 7 => .object "FenceWays$History"
  | 8 => .array (.object "FenceWays$Image")
  | 9 => .object "FenceWays$Book"
  | 10 => .object "FenceWays$Orders"
  | 11 => .object "FenceWays$ReadingList"
  | 12 => .object "FenceWays$ReadingList"
  | 13 => .boolean
  | 14 => .int
  | 15 => .int
  | 16 => .boolean
  | 17 => .int
  | _ => .int
abbrev wsX110 : List Cond := u_ws RX11 TX11 19
theorem nmX11 : ∀ a, a < 19 → ∀ b, b < 19 → a ≠ b → (TX11 a).2.1 ≠ (TX11 b).2.1 := by decide +kernel
theorem tyX11_ok : ∀ k, k < 19 → parseFieldDescriptor (TX11 k).2.2.1 = some (tyX11 k) := by decide +kernel
abbrev cX11_init : ByteArray := prog_1_method_1_code
def yX11_init : MethodName := ⟨RX11, "<init>", "()V"⟩
abbrev cX11_feed : ByteArray := prog_1_method_2_code
def yX11_feed : MethodName := ⟨RX11, "feed", "(I)I"⟩
abbrev cX11_threads : ByteArray := prog_1_method_3_code
def yX11_threads : MethodName := ⟨RX11, "threads", "()I"⟩
abbrev cX11_fault : ByteArray := prog_1_method_4_code
def yX11_fault : MethodName := ⟨RX11, "fault", "()I"⟩
abbrev cX11_told : ByteArray := prog_1_method_5_code
def yX11_told : MethodName := ⟨RX11, "told", "(I)I"⟩
abbrev cX11_step : ByteArray := prog_1_method_6_code
def yX11_step : MethodName := ⟨RX11, "step", "(II)I"⟩
abbrev cX11_pair : ByteArray := prog_1_method_7_code
def yX11_pair : MethodName := ⟨RX11, "pair", "(III)I"⟩
abbrev cX11_reading : ByteArray := prog_1_method_8_code
def yX11_reading : MethodName := ⟨RX11, "reading", "(II)I"⟩
abbrev cX11_can : ByteArray := prog_1_method_9_code
def yX11_can : MethodName := ⟨RX11, "can", "(I)I"⟩
abbrev cX11_fence : ByteArray := prog_1_method_10_code
def yX11_fence : MethodName := ⟨RX11, "fence", "(IZ)I"⟩
abbrev cX11_cost : ByteArray := prog_1_method_11_code
def yX11_cost : MethodName := ⟨RX11, "cost", "(II)I"⟩
abbrev cX11_overtaking : ByteArray := prog_1_method_12_code
def yX11_overtaking : MethodName := ⟨RX11, "overtaking", "(I)I"⟩
abbrev cX11_best : ByteArray := prog_1_method_13_code
def yX11_best : MethodName := ⟨RX11, "best", "()I"⟩
abbrev cX11_drift : ByteArray := prog_1_method_14_code
def yX11_drift : MethodName := ⟨RX11, "drift", "(I)I"⟩
abbrev cX11_undo : ByteArray := prog_1_method_15_code
def yX11_undo : MethodName := ⟨RX11, "undo", "(I)I"⟩
abbrev cX11_write : ByteArray := prog_1_method_16_code
def yX11_write : MethodName := ⟨RX11, "write", "(IZ)I"⟩
abbrev cX11_tear : ByteArray := prog_1_method_17_code
def yX11_tear : MethodName := ⟨RX11, "tear", "()I"⟩
abbrev cX11_seed : ByteArray := prog_1_method_18_code
def yX11_seed : MethodName := ⟨RX11, "seed", "(I)I"⟩
abbrev cX11_keep : ByteArray := prog_1_method_19_code
def yX11_keep : MethodName := ⟨RX11, "keep", "(I)I"⟩
abbrev cX11_goBack : ByteArray := prog_1_method_20_code
def yX11_goBack : MethodName := ⟨RX11, "goBack", "(I)I"⟩
abbrev cX11_startAnew : ByteArray := prog_1_method_21_code
def yX11_startAnew : MethodName := ⟨RX11, "startAnew", "()V"⟩
abbrev cX11_driftOnce : ByteArray := prog_1_method_22_code
def yX11_driftOnce : MethodName := ⟨RX11, "driftOnce", "()V"⟩
abbrev cX11_draw : ByteArray := prog_1_method_23_code
def yX11_draw : MethodName := ⟨RX11, "draw", "(I)I"⟩
abbrev cX11_readingsNow : ByteArray := prog_1_method_24_code
def yX11_readingsNow : MethodName := ⟨RX11, "readingsNow", "()LFenceWays$ReadingList;"⟩
abbrev cX11_strictNow : ByteArray := prog_1_method_25_code
def yX11_strictNow : MethodName := ⟨RX11, "strictNow", "()LFenceWays$ReadingList;"⟩
abbrev cX11_looseNow : ByteArray := prog_1_method_26_code
def yX11_looseNow : MethodName := ⟨RX11, "looseNow", "()LFenceWays$LoosePairs;"⟩
abbrev cX11_bestSet : ByteArray := prog_1_method_27_code
def yX11_bestSet : MethodName := ⟨RX11, "bestSet", "()I"⟩
abbrev cX11_has : ByteArray := prog_1_method_28_code
def yX11_has : MethodName := ⟨RX11, "has", "(II)Z"⟩
abbrev cX11_gapsBetween : ByteArray := prog_1_method_29_code
def yX11_gapsBetween : MethodName := ⟨RX11, "gapsBetween", "(II)I"⟩
def RX12 : String := "FenceWaysModel"
def TX12 : u_T := fun k => match k with
  | 0 => ("FenceWaysModel", "threads", "I", false)
  | 1 => ("FenceWaysModel", "steps", "I", false)
  | 2 => ("FenceWaysModel", "thread", "[I", true)
  | 3 => ("FenceWaysModel", "cell", "[I", true)
  | 4 => ("FenceWaysModel", "writes", "[Z", true)
  | 5 => ("FenceWaysModel", "costs", "[I", true)
  | 6 => ("FenceWaysModel", "fences", "I", false)
  | 7 => ("FenceWaysModel", "over", "I", false)
  | 8 => ("FenceWaysModel", "strict", "[I", true)
  | 9 => ("FenceWaysModel", "loose", "[I", true)
  | 10 => ("FenceWaysModel", "strictMany", "I", false)
  | 11 => ("FenceWaysModel", "looseMany", "I", false)
  | 12 => ("FenceWaysModel", "isLaid", "Z", false)
  | 13 => ("FenceWaysModel", "wait", "[I", true)
  | 14 => ("FenceWaysModel", "next", "[I", true)
  | 15 => ("FenceWaysModel", "picked", "[I", true)
  | 16 => ("FenceWaysModel", "told", "[I", true)
  | 17 => ("FenceWaysModel", "held", "[I", true)
  | 18 => ("FenceWaysModel", "rings", "I", false)
  | 19 => ("FenceWaysModel", "given", "[I", true)
  | 20 => ("FenceWaysModel", "firsts", "[I", true)
  | 21 => ("FenceWaysModel", "lasts", "[I", true)
  | 22 => ("FenceWaysModel", "gifts", "I", false)
  | 23 => ("FenceWaysModel", "text", "[I", true)
  | 24 => ("FenceWaysModel", "letters", "I", false)
  | 25 => ("FenceWaysModel", "faultAt", "I", false)
  | 26 => ("FenceWaysModel", "readAt", "I", false)
  | 27 => ("FenceWaysModel", "newThreads", "I", false)
  | 28 => ("FenceWaysModel", "newSteps", "I", false)
  | 29 => ("FenceWaysModel", "newThread", "[I", true)
  | 30 => ("FenceWaysModel", "newCell", "[I", true)
  | 31 => ("FenceWaysModel", "newWrites", "[Z", true)
  | 32 => ("FenceWaysModel", "past", "I", false)
  | 33 => ("FenceWaysModel", "pastFences", "[I", true)
  | 34 => ("FenceWaysModel", "pastOver", "[I", true)
  | 35 => ("FenceWaysModel", "pastCosts", "[I", true)
  | 36 => ("FenceWaysModel", "seed", "J", false)
  | 37 => ("FenceWaysModel", "entries", "I", false)
  | 38 => ("FenceWaysModel", "numbers", "[I", true)
  | 39 => ("FenceWaysModel", "says", "[Z", true)
  | 40 => ("FenceWaysModel", "isKept", "[Z", true)
  | 41 => ("FenceWaysModel", "keptFences", "[I", true)
  | 42 => ("FenceWaysModel", "keptOver", "[I", true)
  | 43 => ("FenceWaysModel", "keptCosts", "[I", true)
  | _ => ("FenceWaysModel", "keptSeed", "[J", true)
def tyX12 : Nat → FieldType := fun k => match k with
  | 0 => .int
  | 1 => .int
  | 2 => .array .int
  | 3 => .array .int
  | 4 => .array .boolean
  | 5 => .array .int
  | 6 => .int
  | 7 => .int
  | 8 => .array .int
  | 9 => .array .int
  | 10 => .int
  | 11 => .int
  | 12 => .boolean
  | 13 => .array .int
  | 14 => .array .int
  | 15 => .array .int
  | 16 => .array .int
  | 17 => .array .int
  | 18 => .int
  | 19 => .array .int
  | 20 => .array .int
  | 21 => .array .int
  | 22 => .int
  | 23 => .array .int
  | 24 => .int
  | 25 => .int
  | 26 => .int
  | 27 => .int
  | 28 => .int
  | 29 => .array .int
  | 30 => .array .int
  | 31 => .array .boolean
  | 32 => .int
  | 33 => .array .int
  | 34 => .array .int
  | 35 => .array .int
  | 36 => .long
  | 37 => .int
  | 38 => .array .int
  | 39 => .array .boolean
  | 40 => .array .boolean
  | 41 => .array .int
  | 42 => .array .int
  | 43 => .array .int
  | _ => .array .long
abbrev wsX120 : List Cond := u_ws RX12 TX12 45
theorem nmX12 : ∀ a, a < 45 → ∀ b, b < 45 → a ≠ b → (TX12 a).2.1 ≠ (TX12 b).2.1 := by decide +kernel
theorem tyX12_ok : ∀ k, k < 45 → parseFieldDescriptor (TX12 k).2.2.1 = some (tyX12 k) := by decide +kernel
abbrev cX12_init : ByteArray := prog_14_method_1_code
def yX12_init : MethodName := ⟨RX12, "<init>", "()V"⟩
abbrev cX12_isStep : ByteArray := prog_14_method_2_code
def yX12_isStep : MethodName := ⟨RX12, "isStep", "(I)Z"⟩
abbrev cX12_isGap : ByteArray := prog_14_method_3_code
def yX12_isGap : MethodName := ⟨RX12, "isGap", "(I)Z"⟩
abbrev cX12_isAhead : ByteArray := prog_14_method_4_code
def yX12_isAhead : MethodName := ⟨RX12, "isAhead", "(II)Z"⟩
abbrev cX12_has : ByteArray := prog_14_method_5_code
def yX12_has : MethodName := ⟨RX12, "has", "(II)Z"⟩
abbrev cX12_kind : ByteArray := prog_14_method_7_code
def yX12_kind : MethodName := ⟨RX12, "kind", "(II)I"⟩
abbrev cX12_between : ByteArray := prog_14_method_8_code
def yX12_between : MethodName := ⟨RX12, "between", "(II)I"⟩
abbrev cX12_isBound : ByteArray := prog_14_method_9_code
def yX12_isBound : MethodName := ⟨RX12, "isBound", "(II)Z"⟩
abbrev cX12_waits : ByteArray := prog_14_method_10_code
def yX12_waits : MethodName := ⟨RX12, "waits", "(I)I"⟩
abbrev cX12_isConflict : ByteArray := prog_14_method_11_code
def yX12_isConflict : MethodName := ⟨RX12, "isConflict", "(II)Z"⟩
abbrev cX12_conflicts : ByteArray := prog_14_method_12_code
def yX12_conflicts : MethodName := ⟨RX12, "conflicts", "(I)I"⟩
abbrev cX12_weight : ByteArray := prog_14_method_13_code
def yX12_weight : MethodName := ⟨RX12, "weight", "(I)I"⟩
abbrev cX12_comes : ByteArray := prog_14_method_14_code
def yX12_comes : MethodName := ⟨RX12, "comes", "([III)I"⟩
abbrev cX12_does : ByteArray := prog_14_method_15_code
def yX12_does : MethodName := ⟨RX12, "does", "(II)V"⟩
abbrev cX12_goes : ByteArray := prog_14_method_16_code
def yX12_goes : MethodName := ⟨RX12, "goes", "([IZ)I"⟩
abbrev cX12_ahead : ByteArray := prog_14_method_17_code
def yX12_ahead : MethodName := ⟨RX12, "ahead", "(I)I"⟩
abbrev cX12_readings : ByteArray := prog_14_method_18_code
def yX12_readings : MethodName := ⟨RX12, "readings", "()I"⟩
abbrev cX12_isIn : ByteArray := prog_14_method_19_code
def yX12_isIn : MethodName := ⟨RX12, "isIn", "([III)Z"⟩
abbrev cX12_stray : ByteArray := prog_14_method_20_code
def yX12_stray : MethodName := ⟨RX12, "stray", "(I)I"⟩
abbrev cX12_reading : ByteArray := prog_14_method_21_code
def yX12_reading : MethodName := ⟨RX12, "reading", "(II)I"⟩
abbrev cX12_can : ByteArray := prog_14_method_22_code
def yX12_can : MethodName := ⟨RX12, "can", "(I)I"⟩
abbrev cX12_laysGifts : ByteArray := prog_14_method_23_code
def yX12_laysGifts : MethodName := ⟨RX12, "laysGifts", "()V"⟩
abbrev cX12_isOne : ByteArray := prog_14_method_24_code
def yX12_isOne : MethodName := ⟨RX12, "isOne", "(I)Z"⟩
abbrev cX12_meets : ByteArray := prog_14_method_25_code
def yX12_meets : MethodName := ⟨RX12, "meets", "(II)Z"⟩
abbrev cX12_fits : ByteArray := prog_14_method_26_code
def yX12_fits : MethodName := ⟨RX12, "fits", "(III)Z"⟩
abbrev cX12_gives : ByteArray := prog_14_method_27_code
def yX12_gives : MethodName := ⟨RX12, "gives", "(I)V"⟩
abbrev cX12_laysTwos : ByteArray := prog_14_method_28_code
def yX12_laysTwos : MethodName := ⟨RX12, "laysTwos", "()V"⟩
abbrev cX12_laysThrees : ByteArray := prog_14_method_29_code
def yX12_laysThrees : MethodName := ⟨RX12, "laysThrees", "(II)V"⟩
abbrev cX12_laysRings : ByteArray := prog_14_method_30_code
def yX12_laysRings : MethodName := ⟨RX12, "laysRings", "()V"⟩
abbrev cX12_isPair : ByteArray := prog_14_method_31_code
def yX12_isPair : MethodName := ⟨RX12, "isPair", "(II)Z"⟩
abbrev cX12_isLoose : ByteArray := prog_14_method_32_code
def yX12_isLoose : MethodName := ⟨RX12, "isLoose", "(II)Z"⟩
abbrev cX12_holds : ByteArray := prog_14_method_33_code
def yX12_holds : MethodName := ⟨RX12, "holds", "(I)I"⟩
abbrev cX12_loosePairs : ByteArray := prog_14_method_34_code
def yX12_loosePairs : MethodName := ⟨RX12, "loosePairs", "()I"⟩
abbrev cX12_gaps : ByteArray := prog_14_method_35_code
def yX12_gaps : MethodName := ⟨RX12, "gaps", "()I"⟩
abbrev cX12_price : ByteArray := prog_14_method_36_code
def yX12_price : MethodName := ⟨RX12, "price", "(I)I"⟩
abbrev cX12_cheapest : ByteArray := prog_14_method_37_code
def yX12_cheapest : MethodName := ⟨RX12, "cheapest", "()I"⟩
abbrev cX12_needed : ByteArray := prog_14_method_38_code
def yX12_needed : MethodName := ⟨RX12, "needed", "()I"⟩
abbrev cX12_step : ByteArray := prog_14_method_39_code
def yX12_step : MethodName := ⟨RX12, "step", "(II)I"⟩
abbrev cX12_pair : ByteArray := prog_14_method_40_code
def yX12_pair : MethodName := ⟨RX12, "pair", "(III)I"⟩
abbrev cX12_feed : ByteArray := prog_14_method_41_code
def yX12_feed : MethodName := ⟨RX12, "feed", "(I)I"⟩
abbrev cX12_sign : ByteArray := prog_14_method_42_code
def yX12_sign : MethodName := ⟨RX12, "sign", "()I"⟩
abbrev cX12_ends : ByteArray := prog_14_method_43_code
def yX12_ends : MethodName := ⟨RX12, "ends", "()I"⟩
abbrev cX12_readsThread : ByteArray := prog_14_method_44_code
def yX12_readsThread : MethodName := ⟨RX12, "readsThread", "()I"⟩
abbrev cX12_readsStep : ByteArray := prog_14_method_45_code
def yX12_readsStep : MethodName := ⟨RX12, "readsStep", "(Z)I"⟩
abbrev cX12_reads : ByteArray := prog_14_method_46_code
def yX12_reads : MethodName := ⟨RX12, "reads", "()I"⟩
abbrev cX12_threads : ByteArray := prog_14_method_47_code
def yX12_threads : MethodName := ⟨RX12, "threads", "()I"⟩
abbrev cX12_fault : ByteArray := prog_14_method_48_code
def yX12_fault : MethodName := ⟨RX12, "fault", "()I"⟩
abbrev cX12_marks : ByteArray := prog_14_method_49_code
def yX12_marks : MethodName := ⟨RX12, "marks", "()V"⟩
abbrev cX12_fence : ByteArray := prog_14_method_50_code
def yX12_fence : MethodName := ⟨RX12, "fence", "(IZ)I"⟩
abbrev cX12_cost : ByteArray := prog_14_method_51_code
def yX12_cost : MethodName := ⟨RX12, "cost", "(II)I"⟩
abbrev cX12_overtaking : ByteArray := prog_14_method_52_code
def yX12_overtaking : MethodName := ⟨RX12, "overtaking", "(I)I"⟩
abbrev cX12_best : ByteArray := prog_14_method_53_code
def yX12_best : MethodName := ⟨RX12, "best", "()I"⟩
abbrev cX12_draw : ByteArray := prog_14_method_54_code
def yX12_draw : MethodName := ⟨RX12, "draw", "(I)I"⟩
abbrev cX12_drawn : ByteArray := prog_14_method_55_code
def yX12_drawn : MethodName := ⟨RX12, "drawn", "()V"⟩
abbrev cX12_drift : ByteArray := prog_14_method_56_code
def yX12_drift : MethodName := ⟨RX12, "drift", "(I)I"⟩
abbrev cX12_undo : ByteArray := prog_14_method_57_code
def yX12_undo : MethodName := ⟨RX12, "undo", "(I)I"⟩
abbrev cX12_write : ByteArray := prog_14_method_58_code
def yX12_write : MethodName := ⟨RX12, "write", "(IZ)I"⟩
abbrev cX12_tear : ByteArray := prog_14_method_59_code
def yX12_tear : MethodName := ⟨RX12, "tear", "()I"⟩
abbrev cX12_wrong : ByteArray := prog_14_method_60_code
def yX12_wrong : MethodName := ⟨RX12, "wrong", "()I"⟩
abbrev cX12_seed : ByteArray := prog_14_method_61_code
def yX12_seed : MethodName := ⟨RX12, "seed", "(I)I"⟩
abbrev cX12_keep : ByteArray := prog_14_method_62_code
def yX12_keep : MethodName := ⟨RX12, "keep", "(I)I"⟩
abbrev cX12_goBack : ByteArray := prog_14_method_63_code
def yX12_goBack : MethodName := ⟨RX12, "goBack", "(I)I"⟩
abbrev cX12_toldMore : ByteArray := prog_14_method_64_code
def yX12_toldMore : MethodName := ⟨RX12, "toldMore", "(I)I"⟩
abbrev cX12_told : ByteArray := prog_14_method_65_code
def yX12_told : MethodName := ⟨RX12, "told", "(I)I"⟩
def RJ6 : String := "java/lang/Integer"
def TJ6 : u_T := fun k => match k with
  | _ => ("", "", "", false)
def tyJ6 : Nat → FieldType := fun k => match k with
  | _ => .int
abbrev cJ6_bitCount_0f7a4 : ByteArray := prog_15_method_49_code
def yJ6_bitCount_0f7a4 : MethodName := ⟨RJ6, "bitCount", "(I)I"⟩
def RJ9 : String := "java/lang/Math"
def TJ9 : u_T := fun k => match k with
  | _ => ("", "", "", false)
def tyJ9 : Nat → FieldType := fun k => match k with
  | _ => .int
abbrev cJ9_floorMod_7cf53 : ByteArray := prog_16_method_50_code
def yJ9_floorMod_7cf53 : MethodName := ⟨RJ9, "floorMod", "(II)I"⟩
def RJ7 : String := "java/util/Arrays"
def TJ7 : u_T := fun k => match k with
  | _ => ("", "", "", false)
def tyJ7 : Nat → FieldType := fun k => match k with
  | _ => .int
abbrev cJ7_fill_53178 : ByteArray := prog_17_method_103_code
def yJ7_fill_53178 : MethodName := ⟨RJ7, "fill", "([II)V"⟩
def RL : String := "FenceWaysLaw"
abbrev cL_law : ByteArray := code
def yL_law : MethodName := ⟨RL, "law", "([I)Z"⟩
abbrev vwCl : List vw_C := [(RX0, TX0, 3), (RX1, TX1, 3), (RX2, TX2, 3), (RX3, TX3, 2), (RX4, TX4, 7), (RX5, TX5, 3), (RX6, TX6, 6), (RX7, TX7, 2), (RX8, TX8, 4), (RX9, TX9, 3), (RX10, TX10, 2), (RX11, TX11, 19), (RX12, TX12, 45)]
end
section
/-! THE SMALL MACHINE: a heap of typed rows by place, a step as a function of what comes behind it; its runs; stretches of code by evaluation -/
/-- how many cells; kind and length by place; ints, longs, places by place and index -/
abbrev HP : Type := Nat × (Nat → Nat × Nat) × (Nat → Nat → Int32) × (Nat → Nat → Int64) × (Nat → Nat → Nat)
abbrev MR : Type := Option Value × HP
abbrev CF : Type := List Value → HP → Option MR
/-- pc, cells and slots made, locals, stack, heap -/
abbrev MS : Type := Nat × Nat × Nat × List Value × List Value × HP
/-- instructions; fields; constants; calls (arguments, cells, slots, meaning); classes to make; what may be made; kind of the answer; whether it is a constructor -/
abbrev MI : Type := List (Nat × Instr × Nat) × List (Nat × Nat × Nat) × List (Nat × Value) × List (Nat × Nat × Nat × Nat × CF) × List (Nat × Nat) × (Nat × Nat) × Nat
def mNul : Nat := 999999
def lkp {α : Type} (k : Nat) : List (Nat × α) → Option α
  | [] => none
  | (q, a) :: r => bif Nat.beq k q then some a else lkp k r
def up1 {α : Type} (f : Nat → α) (k : Nat) (x : α) : Nat → α := fun j => if j = k then x else f j
def up2 {α : Type} (f : Nat → Nat → α) (p k : Nat) (x : α) : Nat → Nat → α := fun q => if q = p then up1 (f p) k x else f q
def inb (i : Int32) (n : Nat) : Bool := !(decide (i < 0)) && !(Nat.ble n i.toNatClampNeg)
def isB (x : Int32) : Bool := decide (x = 0) || decide (x = 1)
/-- a field's type by class and place: 0 int, 1 boolean, 2 long, 3 a reference -/
def ftyc (t : FieldType) : Nat := match t with
  | .int => 0
  | .boolean => 1
  | .long => 2
  | _ => 3
def ftyT (ci : Nat) : Nat → FieldType := match ci with
  | 0 => tyX0 | 1 => tyX1 | 2 => tyX2 | 3 => tyX3 | 4 => tyX4 | 5 => tyX5 | 6 => tyX6 | 7 => tyX7 | 8 => tyX8 | 9 => tyX9 | 10 => tyX10 | 11 => tyX11 | _ => tyX12
def nfd (ci : Nat) : Nat := match ci with
  | 0 => 3 | 1 => 3 | 2 => 3 | 3 => 2 | 4 => 7 | 5 => 3 | 6 => 6 | 7 => 2 | 8 => 4 | 9 => 3 | 10 => 2 | 11 => 19 | _ => 45
/-- the kind of an array of objects of a class -/
def akd (ci : Nat) : Nat := match ci with
  | 2 => 3
  | 9 => 4
  | _ => 5
def kill (ls : List Value) (i : Nat) : List Value := match i with
  | 0 => ls
  | j + 1 => match ls[j]? with
    | some v => bif Nat.beq v.category 2 then ls.set j .null else ls
    | none => ls
def swk {ρ : Type} (k : Int → Option ρ) (d : Int) (x : Int32) : Int → List Int → Option ρ
  | _, [] => k d
  | lo, t :: r => if x = Int32.ofInt lo then k t else swk k d x (lo + 1) r
def jmp {ρ : Type} (pc : Nat) (off : Int) (k : Nat → Option ρ) : Option ρ := match (pc : Int) + off with
  | .ofNat t => k t
  | .negSucc _ => none
/-- a new cell -/
def alc (h : HP) (kd n : Nat) : HP := (h.1 + 1, up1 h.2.1 h.1 (kd, n), up1 h.2.2.1 h.1 (fun _ => 0), up1 h.2.2.2.1 h.1 (fun _ => 0), up1 h.2.2.2.2 h.1 (fun _ => mNul))
def hI (h : HP) (p k : Nat) (x : Int32) : HP := (h.1, h.2.1, up2 h.2.2.1 p k x, h.2.2.2.1, h.2.2.2.2)
def hJ (h : HP) (p k : Nat) (x : Int64) : HP := (h.1, h.2.1, h.2.2.1, up2 h.2.2.2.1 p k x, h.2.2.2.2)
def hR (h : HP) (p k : Nat) (x : Nat) : HP := (h.1, h.2.1, h.2.2.1, h.2.2.2.1, up2 h.2.2.2.2 p k x)
/-- one step: k is what comes behind, e the end -/
def stpI {ρ : Type} (M : MI) (k : MS → Option ρ) (e : MR → Option ρ) (pc c s : Nat) (ls st : List Value) (h : HP) (i : Instr) : Option ρ :=
  match i with
  | .iconst v => k (pc + 1, c, s, ls, .int (Int32.ofInt v) :: st, h)
  | .bipush v => k (pc + 2, c, s, ls, .int (Int8.ofInt v).toInt32 :: st, h)
  | .sipush v => k (pc + 3, c, s, ls, .int (Int16.ofInt v).toInt32 :: st, h)
  | .lconst v => k (pc + 1, c, s, ls, .long (Int64.ofNat (v : Nat)) :: st, h)
  | .ldc x => match lkp x M.2.2.1 with
    | some (.int v) => k (pc + 2, c, s, ls, .int v :: st, h)
    | _ => none
  | .ldc_w x => match lkp x M.2.2.1 with
    | some (.int v) => k (pc + 3, c, s, ls, .int v :: st, h)
    | _ => none
  | .ldc2_w x => match lkp x M.2.2.1 with
    | some (.long v) => k (pc + 3, c, s, ls, .long v :: st, h)
    | _ => none
  | .iload x => match ls[x]? with
    | some (.int v) => k (pc + 2, c, s, ls, .int v :: st, h)
    | _ => none
  | .iload_n x => match ls[(x : Nat)]? with
    | some (.int v) => k (pc + 1, c, s, ls, .int v :: st, h)
    | _ => none
  | .lload x => match ls[x]? with
    | some (.long v) => k (pc + 2, c, s, ls, .long v :: st, h)
    | _ => none
  | .lload_n x => match ls[(x : Nat)]? with
    | some (.long v) => k (pc + 1, c, s, ls, .long v :: st, h)
    | _ => none
  | .aload x => match ls[x]? with
    | some (.ref v) => k (pc + 2, c, s, ls, .ref v :: st, h)
    | _ => none
  | .aload_n x => match ls[(x : Nat)]? with
    | some (.ref v) => k (pc + 1, c, s, ls, .ref v :: st, h)
    | _ => none
  | .istore x => match st with
    | .int v :: r => bif Nat.blt x ls.length then k (pc + 2, c, s, (kill ls x).set x (.int v), r, h) else none
    | _ => none
  | .istore_n x => match st with
    | .int v :: r => bif Nat.blt (x : Nat) ls.length then k (pc + 1, c, s, (kill ls (x : Nat)).set (x : Nat) (.int v), r, h) else none
    | _ => none
  | .astore x => match st with
    | .ref v :: r => bif Nat.blt x ls.length then k (pc + 2, c, s, (kill ls x).set x (.ref v), r, h) else none
    | _ => none
  | .astore_n x => match st with
    | .ref v :: r => bif Nat.blt (x : Nat) ls.length then k (pc + 1, c, s, (kill ls (x : Nat)).set (x : Nat) (.ref v), r, h) else none
    | _ => none
  | .lstore x => match st with
    | .long v :: r => bif Nat.blt (x + 1) ls.length then k (pc + 2, c, s, ((kill ls x).set x (.long v)).set (x + 1) .null, r, h) else none
    | _ => none
  | .lstore_n x => match st with
    | .long v :: r => bif Nat.blt ((x : Nat) + 1) ls.length then k (pc + 1, c, s, ((kill ls (x : Nat)).set (x : Nat) (.long v)).set ((x : Nat) + 1) .null, r, h) else none
    | _ => none
  | .iinc x n => match ls[x]? with
    | some (.int v) => k (pc + 3, c, s, (kill ls x).set x (.int (v + Int32.ofInt n)), st, h)
    | _ => none
  | .iadd => match st with
    | .int y :: .int x :: r => k (pc + 1, c, s, ls, .int (x + y) :: r, h)
    | _ => none
  | .isub => match st with
    | .int y :: .int x :: r => k (pc + 1, c, s, ls, .int (x - y) :: r, h)
    | _ => none
  | .imul => match st with
    | .int y :: .int x :: r => k (pc + 1, c, s, ls, .int (x * y) :: r, h)
    | _ => none
  | .iand => match st with
    | .int y :: .int x :: r => k (pc + 1, c, s, ls, .int (x &&& y) :: r, h)
    | _ => none
  | .ior => match st with
    | .int y :: .int x :: r => k (pc + 1, c, s, ls, .int (x ||| y) :: r, h)
    | _ => none
  | .ixor => match st with
    | .int y :: .int x :: r => k (pc + 1, c, s, ls, .int (x ^^^ y) :: r, h)
    | _ => none
  | .ishl => match st with
    | .int y :: .int x :: r => k (pc + 1, c, s, ls, .int (x <<< (y &&& 31)) :: r, h)
    | _ => none
  | .ishr => match st with
    | .int y :: .int x :: r => k (pc + 1, c, s, ls, .int (x >>> (y &&& 31)) :: r, h)
    | _ => none
  | .iushr => match st with
    | .int y :: .int x :: r => k (pc + 1, c, s, ls, .int ((x.toUInt32 >>> (y.toUInt32 &&& Int32.toUInt32 31)).toInt32) :: r, h)
    | _ => none
  | .idiv => match st with
    | .int y :: .int x :: r => if y = 0 then none else k (pc + 1, c, s, ls, .int (x / y) :: r, h)
    | _ => none
  | .irem => match st with
    | .int y :: .int x :: r => if y = 0 then none else k (pc + 1, c, s, ls, .int (x - x / y * y) :: r, h)
    | _ => none
  | .ladd => match st with
    | .long y :: .long x :: r => k (pc + 1, c, s, ls, .long (x + y) :: r, h)
    | _ => none
  | .lmul => match st with
    | .long y :: .long x :: r => k (pc + 1, c, s, ls, .long (x * y) :: r, h)
    | _ => none
  | .land => match st with
    | .long y :: .long x :: r => k (pc + 1, c, s, ls, .long (x &&& y) :: r, h)
    | _ => none
  | .lor => match st with
    | .long y :: .long x :: r => k (pc + 1, c, s, ls, .long (x ||| y) :: r, h)
    | _ => none
  | .lxor => match st with
    | .long y :: .long x :: r => k (pc + 1, c, s, ls, .long (x ^^^ y) :: r, h)
    | _ => none
  | .lshl => match st with
    | .int y :: .long x :: r => k (pc + 1, c, s, ls, .long (x <<< (y.toInt64 &&& 63)) :: r, h)
    | _ => none
  | .lushr => match st with
    | .int y :: .long x :: r => k (pc + 1, c, s, ls, .long ((x.toUInt64 >>> (y.toInt64.toUInt64 &&& Int64.toUInt64 63)).toInt64) :: r, h)
    | _ => none
  | .ldiv => match st with
    | .long y :: .long x :: r => if y = 0 then none else k (pc + 1, c, s, ls, .long (x / y) :: r, h)
    | _ => none
  | .lrem => match st with
    | .long y :: .long x :: r => if y = 0 then none else k (pc + 1, c, s, ls, .long (x - x / y * y) :: r, h)
    | _ => none
  | .lcmp => match st with
    | .long y :: .long x :: r => k (pc + 1, c, s, ls, .int (lg_cmp x y) :: r, h)
    | _ => none
  | .i2l => match st with
    | .int x :: r => k (pc + 1, c, s, ls, .long x.toInt64 :: r, h)
    | _ => none
  | .l2i => match st with
    | .long x :: r => k (pc + 1, c, s, ls, .int x.toInt32 :: r, h)
    | _ => none
  | .dup => match st with
    | .int x :: r => k (pc + 1, c, s, ls, .int x :: .int x :: r, h)
    | .ref x :: r => k (pc + 1, c, s, ls, .ref x :: .ref x :: r, h)
    | _ => none
  | .dup2 => match st with
    | .int x :: .ref y :: r => k (pc + 1, c, s, ls, .int x :: .ref y :: .int x :: .ref y :: r, h)
    | _ => none
  | .goto off => jmp pc off (fun t => k (t, c, s, ls, st, h))
  | .ifCond q off => match st with
    | .int x :: r => match q with
      | .eq => if x = 0 then jmp pc off (fun t => k (t, c, s, ls, r, h)) else k (pc + 3, c, s, ls, r, h)
      | .ne => if x = 0 then k (pc + 3, c, s, ls, r, h) else jmp pc off (fun t => k (t, c, s, ls, r, h))
      | .lt => if x < 0 then jmp pc off (fun t => k (t, c, s, ls, r, h)) else k (pc + 3, c, s, ls, r, h)
      | .ge => if 0 ≤ x then jmp pc off (fun t => k (t, c, s, ls, r, h)) else k (pc + 3, c, s, ls, r, h)
      | .gt => if 0 < x then jmp pc off (fun t => k (t, c, s, ls, r, h)) else k (pc + 3, c, s, ls, r, h)
      | .le => if x ≤ 0 then jmp pc off (fun t => k (t, c, s, ls, r, h)) else k (pc + 3, c, s, ls, r, h)
    | _ => none
  | .if_icmp q off => match st with
    | .int y :: .int x :: r => match q with
      | .eq => if x = y then jmp pc off (fun t => k (t, c, s, ls, r, h)) else k (pc + 3, c, s, ls, r, h)
      | .ne => if x = y then k (pc + 3, c, s, ls, r, h) else jmp pc off (fun t => k (t, c, s, ls, r, h))
      | .lt => if x < y then jmp pc off (fun t => k (t, c, s, ls, r, h)) else k (pc + 3, c, s, ls, r, h)
      | .ge => if y ≤ x then jmp pc off (fun t => k (t, c, s, ls, r, h)) else k (pc + 3, c, s, ls, r, h)
      | .gt => if y < x then jmp pc off (fun t => k (t, c, s, ls, r, h)) else k (pc + 3, c, s, ls, r, h)
      | .le => if x ≤ y then jmp pc off (fun t => k (t, c, s, ls, r, h)) else k (pc + 3, c, s, ls, r, h)
    | _ => none
  | .tableswitch d lo hi offs => match st with
    | .int x :: r => if -2147483648 ≤ lo ∧ lo + offs.size ≤ 2147483648 ∧ hi + 1 = lo + offs.size then swk (fun off => jmp pc off (fun t => k (t, c, s, ls, r, h))) d x lo offs.toList else none
    | _ => none
  | .getfield x => match st with
    | .ref p :: r => match lkp x M.2.1 with
      | some (ci, j) => if (h.2.1 p).1 = 10 + ci ∧ p < h.1 ∧ j < nfd ci then
          match ftyc (ftyT ci j) with
          | 0 => k (pc + 3, c, s, ls, .int (h.2.2.1 p j) :: r, h)
          | 1 => k (pc + 3, c, s, ls, .int (h.2.2.1 p j) :: r, h)
          | 2 => k (pc + 3, c, s, ls, .long (h.2.2.2.1 p j) :: r, h)
          | _ => if h.2.2.2.2 p j < h.1 then k (pc + 3, c, s, ls, .ref (h.2.2.2.2 p j) :: r, h) else none
        else none
      | none => none
    | _ => none
  | .putfield x => match st with
    | .int v :: .ref p :: r => match lkp x M.2.1 with
      | some (ci, j) => if (h.2.1 p).1 = 10 + ci ∧ p < h.1 ∧ j < nfd ci then
          match ftyc (ftyT ci j) with
          | 0 => k (pc + 3, c, s, ls, r, hI h p j v)
          | 1 => bif isB v then k (pc + 3, c, s, ls, r, hI h p j v) else none
          | _ => none
        else none
      | none => none
    | .long v :: .ref p :: r => match lkp x M.2.1 with
      | some (ci, j) => if (h.2.1 p).1 = 10 + ci ∧ p < h.1 ∧ j < nfd ci then
          match ftyc (ftyT ci j) with
          | 2 => k (pc + 3, c, s, ls, r, hJ h p j v)
          | _ => none
        else none
      | none => none
    | .ref v :: .ref p :: r => match lkp x M.2.1 with
      | some (ci, j) => if (h.2.1 p).1 = 10 + ci ∧ p < h.1 ∧ j < nfd ci ∧ v < h.1 then
          match ftyc (ftyT ci j) with
          | 3 => k (pc + 3, c, s, ls, r, hR h p j v)
          | _ => none
        else none
      | none => none
    | _ => none
  | .iaload => match st with
    | .int i :: .ref p :: r => if (h.2.1 p).1 = 0 ∧ p < h.1 then bif inb i (h.2.1 p).2 then k (pc + 1, c, s, ls, .int (h.2.2.1 p i.toNatClampNeg) :: r, h) else none else none
    | _ => none
  | .baload => match st with
    | .int i :: .ref p :: r => if (h.2.1 p).1 = 1 ∧ p < h.1 then bif inb i (h.2.1 p).2 then k (pc + 1, c, s, ls, .int (h.2.2.1 p i.toNatClampNeg) :: r, h) else none else none
    | _ => none
  | .laload => match st with
    | .int i :: .ref p :: r => if (h.2.1 p).1 = 2 ∧ p < h.1 then bif inb i (h.2.1 p).2 then k (pc + 1, c, s, ls, .long (h.2.2.2.1 p i.toNatClampNeg) :: r, h) else none else none
    | _ => none
  | .aaload => match st with
    | .int i :: .ref p :: r => if ((h.2.1 p).1 = 3 ∨ (h.2.1 p).1 = 4) ∧ p < h.1 then bif inb i (h.2.1 p).2 then if h.2.2.2.2 p i.toNatClampNeg < h.1 then k (pc + 1, c, s, ls, .ref (h.2.2.2.2 p i.toNatClampNeg) :: r, h) else none else none else none
    | _ => none
  | .iastore => match st with
    | .int v :: .int i :: .ref p :: r => if (h.2.1 p).1 = 0 ∧ p < h.1 then bif inb i (h.2.1 p).2 then k (pc + 1, c, s, ls, r, hI h p i.toNatClampNeg v) else none else none
    | _ => none
  | .bastore => match st with
    | .int v :: .int i :: .ref p :: r => if (h.2.1 p).1 = 1 ∧ p < h.1 then bif inb i (h.2.1 p).2 && isB v then k (pc + 1, c, s, ls, r, hI h p i.toNatClampNeg v) else none else none
    | _ => none
  | .lastore => match st with
    | .long v :: .int i :: .ref p :: r => if (h.2.1 p).1 = 2 ∧ p < h.1 then bif inb i (h.2.1 p).2 then k (pc + 1, c, s, ls, r, hJ h p i.toNatClampNeg v) else none else none
    | _ => none
  | .aastore => match st with
    | .ref v :: .int i :: .ref p :: r => if ((h.2.1 p).1 = 3 ∧ (h.2.1 v).1 = 12 ∨ (h.2.1 p).1 = 4 ∧ (h.2.1 v).1 = 19) ∧ p < h.1 ∧ v < h.1 then bif inb i (h.2.1 p).2 then k (pc + 1, c, s, ls, r, hR h p i.toNatClampNeg v) else none else none
    | _ => none
  | .arraylength => match st with
    | .ref p :: r => if (h.2.1 p).1 < 5 ∧ p < h.1 then k (pc + 1, c, s, ls, .int (Int32.ofNat (h.2.1 p).2) :: r, h) else none
    | _ => none
  | .new x => match lkp x M.2.2.2.2.1 with
    | some ci => if c + 1 ≤ M.2.2.2.2.2.1.1 ∧ s + nfd ci ≤ M.2.2.2.2.2.1.2 ∧ h.1 + 1 ≤ mNul then k (pc + 3, c + 1, s + nfd ci, ls, .ref h.1 :: st, alc h (10 + ci) 0) else none
    | none => none
  | .newarray ty => match st with
    | .int n :: r => if ¬ n < 0 ∧ n.toNatClampNeg ≤ 4096 ∧ c + 1 ≤ M.2.2.2.2.2.1.1 ∧ s + n.toNatClampNeg ≤ M.2.2.2.2.2.1.2 ∧ h.1 + 1 ≤ mNul then
        match ty with
        | .int => k (pc + 2, c + 1, s + n.toNatClampNeg, ls, .ref h.1 :: r, alc h 0 n.toNatClampNeg)
        | .boolean => k (pc + 2, c + 1, s + n.toNatClampNeg, ls, .ref h.1 :: r, alc h 1 n.toNatClampNeg)
        | .long => k (pc + 2, c + 1, s + n.toNatClampNeg, ls, .ref h.1 :: r, alc h 2 n.toNatClampNeg)
        | _ => none
      else none
    | _ => none
  | .anewarray x => match st with
    | .int n :: r => match lkp x M.2.2.2.2.1 with
      | some ci => if ¬ n < 0 ∧ n.toNatClampNeg ≤ 4096 ∧ c + 1 ≤ M.2.2.2.2.2.1.1 ∧ s + n.toNatClampNeg ≤ M.2.2.2.2.2.1.2 ∧ h.1 + 1 ≤ mNul ∧ (ci = 2 ∨ ci = 9) then
          k (pc + 3, c + 1, s + n.toNatClampNeg, ls, .ref h.1 :: r, alc h (akd ci) n.toNatClampNeg) else none
      | none => none
    | _ => none
  | .invokevirtual x => match lkp x M.2.2.2.1 with
    | some (n, mc, ms, f) => if n ≤ st.length ∧ ((st.drop n).map (fun v => v.category)).sum ≤ 8 ∧ c + mc ≤ M.2.2.2.2.2.1.1 ∧ s + ms ≤ M.2.2.2.2.2.1.2 then
        match f (st.take n).reverse h with
        | some (r, h') => k (pc + 3, c + mc, s + ms, ls, r.toList ++ st.drop n, h')
        | none => none
      else none
    | none => none
  | .invokespecial x => match lkp x M.2.2.2.1 with
    | some (n, mc, ms, f) => if n ≤ st.length ∧ ((st.drop n).map (fun v => v.category)).sum ≤ 8 ∧ c + mc ≤ M.2.2.2.2.2.1.1 ∧ s + ms ≤ M.2.2.2.2.2.1.2 then
        match f (st.take n).reverse h with
        | some (r, h') => k (pc + 3, c + mc, s + ms, ls, r.toList ++ st.drop n, h')
        | none => none
      else none
    | none => none
  | .invokestatic x => match lkp x M.2.2.2.1 with
    | some (n, mc, ms, f) => if n ≤ st.length ∧ ((st.drop n).map (fun v => v.category)).sum ≤ 8 ∧ c + mc ≤ M.2.2.2.2.2.1.1 ∧ s + ms ≤ M.2.2.2.2.2.1.2 then
        match f (st.take n).reverse h with
        | some (r, h') => k (pc + 3, c + mc, s + ms, ls, r.toList ++ st.drop n, h')
        | none => none
      else none
    | none => none
  | .ireturn => match st with
    | [.int v] => match M.2.2.2.2.2.2 with
      | 1 => e (some (.int v), h)
      | 2 => bif isB v then e (some (.int v), h) else none
      | _ => none
    | _ => none
  | .lreturn => match st with
    | [.long v] => match M.2.2.2.2.2.2 with
      | 3 => e (some (.long v), h)
      | _ => none
    | _ => none
  | .areturn => match st with
    | [.ref v] => match M.2.2.2.2.2.2 with
      | 4 => e (some (.ref v), h)
      | _ => none
    | _ => none
  | .return_ => match st with
    | [] => match M.2.2.2.2.2.2 with
      | 0 => e (none, h)
      | _ => none
    | _ => none
  | _ => none
def stp {ρ : Type} (M : MI) (k : MS → Option ρ) (e : MR → Option ρ) (σ : MS) : Option ρ :=
  match lkp σ.1 M.1 with
  | some (i, _) => stpI M k e σ.1 σ.2.1 σ.2.2.1 σ.2.2.2.1 σ.2.2.2.2.1 σ.2.2.2.2.2 i
  | none => none
def runN (M : MI) : Nat → MS → Option MR
  | 0, _ => none
  | n + 1, σ => stp M (runN M n) some σ
end
section
/-! the small machine's runs: a step by what comes behind it; a run is one step and the rest; stretches -/
theorem jmp_nf {ρ τ : Type} {pc : Nat} {off : Int} {k : Nat → Option ρ} {g : Nat → Option τ} {f : τ → Option ρ} (h : ∀ t, k t = (g t).bind f) : jmp pc off k = (jmp pc off g).bind f := by
  unfold jmp
  split
  · exact h _
  · rfl
theorem swk_nf {ρ τ : Type} {d : Int} {x : Int32} {k : Int → Option ρ} {g : Int → Option τ} {f : τ → Option ρ} (h : ∀ t, k t = (g t).bind f) : ∀ (r : List Int) (lo : Int), swk k d x lo r = (swk g d x lo r).bind f := by
  intro r
  induction r with
  | nil => intro lo; exact h _
  | cons t r ih =>
    intro lo
    unfold swk
    split
    · exact h _
    · exact ih _
set_option maxHeartbeats 4000000 in
theorem stpI_nf {ρ : Type} (M : MI) (k : MS → Option ρ) (e : MR → Option ρ) (pc c s : Nat) (ls st : List Value) (h : HP) (i : Instr) :
    stpI M k e pc c s ls st h i = (stpI M (fun σ => some (Sum.inl σ)) (fun r => some (Sum.inr r)) pc c s ls st h i).bind (fun x => Sum.elim k e x) := by
  cases i <;> first
    | rfl
    | (simp only [stpI]; exact jmp_nf (fun t => rfl))
    | (simp only [stpI]; (repeat' split) <;> first | rfl | exact jmp_nf (fun t => rfl) | (refine swk_nf ?_ _ _; intro off; exact jmp_nf (fun t => rfl)) | (cases hq : inb _ _ <;> rfl) | (cases hq : isB _ <;> rfl) | (cases hq : Nat.blt _ _ <;> rfl) | (cases hq : inb _ _ <;> cases hq2 : isB _ <;> rfl))
theorem stp_nf {ρ : Type} (M : MI) (k : MS → Option ρ) (e : MR → Option ρ) (σ : MS) :
    stp M k e σ = (stp M (fun σ => some (Sum.inl σ)) (fun r => some (Sum.inr r)) σ).bind (fun x => Sum.elim k e x) := by
  unfold stp
  split
  · exact stpI_nf ..
  · rfl
theorem stp_some {ρ : Type} {M : MI} {k : MS → Option ρ} {e : MR → Option ρ} {σ : MS} {r : ρ} (h : stp M k e σ = some r) : (∃ σ', stp M (fun σ => some (Sum.inl σ)) (fun r => some (Sum.inr r)) σ = some (Sum.inl σ') ∧ k σ' = some r) ∨ ∃ x : MR, stp M (fun σ => some (Sum.inl σ)) (fun r => some (Sum.inr r)) σ = some (Sum.inr x) ∧ e x = some r := by
  rw [stp_nf] at h
  cases hq : stp M (fun σ => some (Sum.inl σ)) (fun r => some (Sum.inr r)) σ with
  | none => rw [hq] at h; cases h
  | some x =>
    rw [hq] at h
    cases x with
    | inl σ' => exact Or.inl ⟨σ', rfl, h⟩
    | inr x => exact Or.inr ⟨x, rfl, h⟩
theorem stp_mono {ρ : Type} {M : MI} {k k' : MS → Option ρ} {e : MR → Option ρ} (hk : ∀ σ r, k σ = some r → k' σ = some r) {σ : MS} {r : ρ} (h : stp M k e σ = some r) : stp M k' e σ = some r := by
  rw [stp_nf]
  rcases stp_some h with ⟨σ', h1, h2⟩ | ⟨x, h1, h2⟩
  · rw [h1]; exact hk _ _ h2
  · rw [h1]; exact h2
theorem runN_mono1 (M : MI) : ∀ (n : Nat) (σ : MS) (r : MR), runN M n σ = some r → runN M (n + 1) σ = some r := by
  intro n
  induction n with
  | zero => intro σ r h; cases h
  | succ n ih => intro σ r h; exact stp_mono (k := runN M n) (k' := runN M (n + 1)) (fun σ r => ih σ r) h
theorem runN_mono (M : MI) {n m : Nat} (hnm : n ≤ m) {σ : MS} {r : MR} (h : runN M n σ = some r) : runN M m σ = some r := by
  induction hnm with
  | refl => exact h
  | step _ ih => exact runN_mono1 M _ _ _ ih
noncomputable def run (M : MI) (σ : MS) : Option MR := @dite _ (∃ r, ∃ n, runN M n σ = some r) (Classical.propDecidable _) (fun h => some (Classical.choose h)) (fun _ => none)
theorem run_of {M : MI} {n : Nat} {σ : MS} {r : MR} (h : runN M n σ = some r) : run M σ = some r := by
  have hx : ∃ r, ∃ n, runN M n σ = some r := ⟨r, n, h⟩
  unfold run
  rw [dif_pos hx]
  obtain ⟨m, hm⟩ := Classical.choose_spec hx
  have h1 := runN_mono M (Nat.le_max_left n m) h
  have h2 := runN_mono M (Nat.le_max_right n m) hm
  rw [h1] at h2
  exact h2.symm
theorem run_ex {M : MI} {σ : MS} {r : MR} (h : run M σ = some r) : ∃ n, runN M n σ = some r := by
  unfold run at h
  by_cases hx : ∃ r, ∃ n, runN M n σ = some r
  · rw [dif_pos hx] at h
    have := Classical.choose_spec hx
    rw [Option.some.inj h] at this
    exact this
  · rw [dif_neg hx] at h
    cases h
theorem run_eq (M : MI) (σ : MS) : run M σ = stp M (run M) some σ := by
  cases hq : stp M (run M) some σ with
  | some r =>
    rcases stp_some hq with ⟨σ', h1, h2⟩ | ⟨x, h1, h2⟩
    · obtain ⟨n, hn⟩ := run_ex h2
      refine run_of (n := n + 1) ?_
      show stp M (runN M n) some σ = some r
      rw [stp_nf, h1]
      exact hn
    · refine run_of (n := 1) ?_
      show stp M (runN M 0) some σ = some r
      rw [stp_nf, h1]
      exact h2
  | none =>
    cases hr : run M σ with
    | none => rfl
    | some r =>
      obtain ⟨n, hn⟩ := run_ex hr
      cases n with
      | zero => cases hn
      | succ n =>
        have h1 := stp_mono (k := runN M n) (k' := run M) (fun σ r h => run_of h) hn
        rw [h1] at hq
        cases hq
/-- a stretch of at most n steps, up to the places where it stops -/
noncomputable def exK (M : MI) (stop : List Nat) : Nat → MS → Option MR
  | 0, σ => run M σ
  | n + 1, σ => stp M (fun σ' => bif stop.elem σ'.1 then run M σ' else exK M stop n σ') some σ
theorem exK_eq (M : MI) (stop : List Nat) : ∀ (n : Nat) (σ : MS), exK M stop n σ = run M σ := by
  intro n
  induction n with
  | zero => intro σ; rfl
  | succ n ih =>
    intro σ
    rw [run_eq]
    show stp M (fun σ' => bif stop.elem σ'.1 then run M σ' else exK M stop n σ') some σ = _
    have : (fun σ' : MS => bif stop.elem σ'.1 then run M σ' else exK M stop n σ') = run M := by
      funext σ'
      cases stop.elem σ'.1
      · exact ih σ'
      · rfl
    rw [this]
/-- a method's meaning: its run from its entry, with n locals -/
def mLoc : Nat → List Value → List Value
  | n, [] => List.replicate n .null
  | n, .long v :: r => .long v :: .null :: mLoc (n - 2) r
  | n, v :: r => v :: mLoc (n - 1) r
noncomputable def mth (M : MI) (n : Nat) : CF := fun as h => run M (0, 0, 0, mLoc n as, [], h)
end
section
/-! EACH METHOD as data of the small machine, leaves first (by program) -/
def fObj : CF := fun _ h => some (none, h)
def iX0_init : List (Nat × Instr × Nat) := [(0, .aload_n 0, 1), (1, .invokespecial 3, 3), (4, .aload_n 0, 1), (5, .bipush 20, 2), (7, .newarray .int, 2), (9, .putfield 9, 3), (12, .aload_n 0, 1), (13, .iconst 0, 1), (14, .putfield 15, 3), (17, .aload_n 0, 1), (18, .iconst 0, 1), (19, .putfield 19, 3), (22, .return_, 1)]
noncomputable def mX0_init : MI := (iX0_init, [(9, 0, 0), (15, 0, 1), (19, 0, 2)], [], [(3, 1, 0, 0, fObj)], [], (1, 20), 0)
noncomputable def fX0_init : CF := mth mX0_init 1
def iX0_clear : List (Nat × Instr × Nat) := [(0, .aload_n 0, 1), (1, .iconst 0, 1), (2, .putfield 15, 3), (5, .aload_n 0, 1), (6, .iconst 0, 1), (7, .putfield 19, 3), (10, .return_, 1)]
noncomputable def mX0_clear : MI := (iX0_clear, [(15, 0, 1), (19, 0, 2)], [], [], [], (0, 0), 0)
noncomputable def fX0_clear : CF := mth mX0_clear 1
def iX0_add : List (Nat × Instr × Nat) := [(0, .aload_n 0, 1), (1, .getfield 19, 3), (4, .ifCond .lt 15, 3), (7, .aload_n 0, 1), (8, .getfield 19, 3), (11, .aload_n 0, 1), (12, .getfield 9, 3), (15, .arraylength, 1), (16, .if_icmp .lt 5, 3), (19, .iconst 0, 1), (20, .ireturn, 1), (21, .aload_n 0, 1), (22, .getfield 9, 3), (25, .aload_n 0, 1), (26, .getfield 19, 3), (29, .iload_n 1, 1), (30, .iastore, 1), (31, .iload_n 2, 1), (32, .ifCond .eq 18, 3), (35, .aload_n 0, 1), (36, .dup, 1), (37, .getfield 15, 3), (40, .iconst 1, 1), (41, .aload_n 0, 1), (42, .getfield 19, 3), (45, .ishl, 1), (46, .ior, 1), (47, .putfield 15, 3), (50, .aload_n 0, 1), (51, .dup, 1), (52, .getfield 19, 3), (55, .iconst 1, 1), (56, .iadd, 1), (57, .putfield 19, 3), (60, .iconst 1, 1), (61, .ireturn, 1)]
noncomputable def mX0_add : MI := (iX0_add, [(9, 0, 0), (15, 0, 1), (19, 0, 2)], [], [], [], (0, 0), 2)
noncomputable def fX0_add : CF := mth mX0_add 3
def iX7_at : List (Nat × Instr × Nat) := [(0, .iload_n 1, 1), (1, .ifCond .lt 29, 3), (4, .iload_n 1, 1), (5, .aload_n 0, 1), (6, .getfield 15, 3), (9, .if_icmp .ge 21, 3), (12, .iload_n 1, 1), (13, .aload_n 0, 1), (14, .getfield 11, 3), (17, .arraylength, 1), (18, .if_icmp .ge 12, 3), (21, .aload_n 0, 1), (22, .getfield 11, 3), (25, .iload_n 1, 1), (26, .iaload, 1), (27, .goto 4, 3), (30, .iconst (-1), 1), (31, .ireturn, 1)]
noncomputable def mX7_at : MI := (iX7_at, [(11, 7, 0), (15, 7, 1)], [], [], [], (0, 0), 1)
noncomputable def fX7_at : CF := mth mX7_at 2
def iX7_placeOf : List (Nat × Instr × Nat) := [(0, .iconst 0, 1), (1, .istore_n 2, 1), (2, .aload_n 0, 1), (3, .getfield 15, 3), (6, .istore_n 3, 1), (7, .iconst 0, 1), (8, .istore 4, 2), (10, .iload_n 2, 1), (11, .iload_n 3, 1), (12, .if_icmp .ge 45, 3), (15, .iload 4, 2), (17, .sipush 256, 3), (20, .if_icmp .ge 37, 3), (23, .iload_n 2, 1), (24, .iload_n 3, 1), (25, .iadd, 1), (26, .iconst 2, 1), (27, .idiv, 1), (28, .istore 5, 2), (30, .aload_n 0, 1), (31, .iload 5, 2), (33, .invokevirtual 23, 3), (36, .iload_n 1, 1), (37, .if_icmp .ge 11, 3), (40, .iload 5, 2), (42, .iconst 1, 1), (43, .iadd, 1), (44, .istore_n 2, 1), (45, .goto 6, 3), (48, .iload 5, 2), (50, .istore_n 3, 1), (51, .iinc 4 1, 3), (54, .goto (-44), 3), (57, .iload_n 2, 1), (58, .ireturn, 1)]
noncomputable def mX7_placeOf : MI := (iX7_placeOf, [(15, 7, 1)], [], [(23, 2, 0, 0, fX7_at)], [], (0, 0), 1)
noncomputable def fX7_placeOf : CF := mth mX7_placeOf 6
def iX7_holds : List (Nat × Instr × Nat) := [(0, .iload_n 1, 1), (1, .ifCond .lt 20, 3), (4, .aload_n 0, 1), (5, .aload_n 0, 1), (6, .iload_n 1, 1), (7, .invokevirtual 19, 3), (10, .invokevirtual 23, 3), (13, .iload_n 1, 1), (14, .if_icmp .ne 7, 3), (17, .iconst 1, 1), (18, .goto 4, 3), (21, .iconst 0, 1), (22, .ireturn, 1)]
noncomputable def mX7_holds : MI := (iX7_holds, [], [], [(19, 2, 0, 0, fX7_placeOf), (23, 2, 0, 0, fX7_at)], [], (0, 0), 2)
noncomputable def fX7_holds : CF := mth mX7_holds 2
def iX11_has : List (Nat × Instr × Nat) := [(0, .iload_n 1, 1), (1, .ifCond .lt 21, 3), (4, .iload_n 1, 1), (5, .bipush 31, 2), (7, .if_icmp .ge 15, 3), (10, .iload_n 0, 1), (11, .iload_n 1, 1), (12, .iushr, 1), (13, .iconst 1, 1), (14, .iand, 1), (15, .ifCond .eq 7, 3), (18, .iconst 1, 1), (19, .goto 4, 3), (22, .iconst 0, 1), (23, .ireturn, 1)]
noncomputable def mX11_has : MI := (iX11_has, [], [], [], [], (0, 0), 2)
noncomputable def fX11_has : CF := mth mX11_has 2
def iX0_firstWrong : List (Nat × Instr × Nat) := [(0, .iconst 0, 1), (1, .istore_n 2, 1), (2, .iload_n 2, 1), (3, .aload_n 0, 1), (4, .getfield 19, 3), (7, .if_icmp .ge 41, 3), (10, .iload_n 2, 1), (11, .aload_n 0, 1), (12, .getfield 9, 3), (15, .arraylength, 1), (16, .if_icmp .ge 32, 3), (19, .aload_n 1, 1), (20, .aload_n 0, 1), (21, .getfield 9, 3), (24, .iload_n 2, 1), (25, .iaload, 1), (26, .invokevirtual 22, 3), (29, .aload_n 0, 1), (30, .getfield 15, 3), (33, .iload_n 2, 1), (34, .invokestatic 28, 3), (37, .if_icmp .eq 5, 3), (40, .iload_n 2, 1), (41, .ireturn, 1), (42, .iinc 2 1, 3), (45, .goto (-43), 3), (48, .iconst (-1), 1), (49, .ireturn, 1)]
noncomputable def mX0_firstWrong : MI := (iX0_firstWrong, [(9, 0, 0), (15, 0, 1), (19, 0, 2)], [], [(22, 2, 0, 0, fX7_holds), (28, 2, 0, 0, fX11_has)], [], (0, 0), 1)
noncomputable def fX0_firstWrong : CF := mth mX0_firstWrong 3
def iJ7_fill_53178 : List (Nat × Instr × Nat) := [(0, .iconst 0, 1), (1, .istore_n 2, 1), (2, .aload_n 0, 1), (3, .arraylength, 1), (4, .istore_n 3, 1), (5, .iload_n 2, 1), (6, .iload_n 3, 1), (7, .if_icmp .ge 13, 3), (10, .aload_n 0, 1), (11, .iload_n 2, 1), (12, .iload_n 1, 1), (13, .iastore, 1), (14, .iinc 2 1, 3), (17, .goto (-12), 3), (20, .return_, 1)]
noncomputable def mJ7_fill_53178 : MI := (iJ7_fill_53178, [], [], [], [], (0, 0), 0)
noncomputable def fJ7_fill_53178 : CF := mth mJ7_fill_53178 4
def iX9_clear : List (Nat × Instr × Nat) := [(0, .aload_n 0, 1), (1, .getfield 9, 3), (4, .iconst 1, 1), (5, .invokestatic 18, 3), (8, .aload_n 0, 1), (9, .iconst 0, 1), (10, .putfield 24, 3), (13, .aload_n 0, 1), (14, .bipush 15, 2), (16, .putfield 28, 3), (19, .return_, 1)]
noncomputable def mX9_clear : MI := (iX9_clear, [(9, 9, 0), (24, 9, 1), (28, 9, 2)], [], [(18, 2, 0, 0, fJ7_fill_53178)], [], (0, 0), 0)
noncomputable def fX9_clear : CF := mth mX9_clear 1
def iX9_init : List (Nat × Instr × Nat) := [(0, .aload_n 0, 1), (1, .invokespecial 3, 3), (4, .aload_n 0, 1), (5, .bipush 8, 2), (7, .newarray .int, 2), (9, .putfield 9, 3), (12, .aload_n 0, 1), (13, .invokevirtual 15, 3), (16, .return_, 1)]
noncomputable def mX9_init : MI := (iX9_init, [(9, 9, 0)], [], [(3, 1, 0, 0, fObj), (15, 1, 0, 0, fX9_clear)], [], (1, 8), 0)
noncomputable def fX9_init : CF := mth mX9_init 1
def iX1_init : List (Nat × Instr × Nat) := [(0, .aload_n 0, 1), (1, .invokespecial 3, 3), (4, .aload_n 0, 1), (5, .bipush 20, 2), (7, .anewarray 9, 3), (10, .putfield 11, 3), (13, .iconst 0, 1), (14, .istore_n 1, 1), (15, .iload_n 1, 1), (16, .aload_n 0, 1), (17, .getfield 11, 3), (20, .arraylength, 1), (21, .if_icmp .ge 22, 3), (24, .aload_n 0, 1), (25, .getfield 11, 3), (28, .iload_n 1, 1), (29, .new 9, 3), (32, .dup, 1), (33, .invokespecial 17, 3), (36, .aastore, 1), (37, .iinc 1 1, 3), (40, .goto (-25), 3), (43, .aload_n 0, 1), (44, .iconst 0, 1), (45, .putfield 18, 3), (48, .aload_n 0, 1), (49, .iconst 0, 1), (50, .putfield 22, 3), (53, .return_, 1)]
noncomputable def mX1_init : MI := (iX1_init, [(11, 1, 0), (18, 1, 1), (22, 1, 2)], [], [(3, 1, 0, 0, fObj), (17, 1, 1, 8, fX9_init)], [(9, 9)], (41, 240), 0)
noncomputable def fX1_init : CF := mth mX1_init 2
def iX1_clear : List (Nat × Instr × Nat) := [(0, .aload_n 0, 1), (1, .iconst 0, 1), (2, .putfield 18, 3), (5, .aload_n 0, 1), (6, .iconst 0, 1), (7, .putfield 22, 3), (10, .return_, 1)]
noncomputable def mX1_clear : MI := (iX1_clear, [(18, 1, 1), (22, 1, 2)], [], [], [], (0, 0), 0)
noncomputable def fX1_clear : CF := mth mX1_clear 1
def iJ9_floorMod_7cf53 : List (Nat × Instr × Nat) := [(0, .iload_n 0, 1), (1, .iload_n 1, 1), (2, .irem, 1), (3, .istore_n 2, 1), (4, .iload_n 0, 1), (5, .iload_n 1, 1), (6, .ixor, 1), (7, .ifCond .ge 11, 3), (10, .iload_n 2, 1), (11, .ifCond .eq 7, 3), (14, .iload_n 2, 1), (15, .iload_n 1, 1), (16, .iadd, 1), (17, .ireturn, 1), (18, .iload_n 2, 1), (19, .ireturn, 1)]
noncomputable def mJ9_floorMod_7cf53 : MI := (iJ9_floorMod_7cf53, [], [], [], [], (0, 0), 1)
noncomputable def fJ9_floorMod_7cf53 : CF := mth mJ9_floorMod_7cf53 3
def iX1_settingAt : List (Nat × Instr × Nat) := [(0, .aload_n 0, 1), (1, .getfield 18, 3), (4, .iload_n 1, 1), (5, .iadd, 1), (6, .bipush 20, 2), (8, .invokestatic 33, 3), (11, .istore_n 2, 1), (12, .aload_n 0, 1), (13, .getfield 11, 3), (16, .iload_n 2, 1), (17, .aload_n 0, 1), (18, .getfield 11, 3), (21, .arraylength, 1), (22, .if_icmp .ge 7, 3), (25, .iload_n 2, 1), (26, .goto 4, 3), (29, .iconst 0, 1), (30, .aaload, 1), (31, .areturn, 1)]
noncomputable def mX1_settingAt : MI := (iX1_settingAt, [(11, 1, 0), (18, 1, 1)], [], [(33, 2, 0, 0, fJ9_floorMod_7cf53)], [], (0, 0), 4)
noncomputable def fX1_settingAt : CF := mth mX1_settingAt 3
def iX9_costOf : List (Nat × Instr × Nat) := [(0, .iload_n 1, 1), (1, .ifCond .lt 21, 3), (4, .iload_n 1, 1), (5, .aload_n 0, 1), (6, .getfield 9, 3), (9, .arraylength, 1), (10, .if_icmp .ge 12, 3), (13, .aload_n 0, 1), (14, .getfield 9, 3), (17, .iload_n 1, 1), (18, .iaload, 1), (19, .goto 4, 3), (22, .iconst 0, 1), (23, .ireturn, 1)]
noncomputable def mX9_costOf : MI := (iX9_costOf, [(9, 9, 0)], [], [], [], (0, 0), 1)
noncomputable def fX9_costOf : CF := mth mX9_costOf 2
def iX9_copy : List (Nat × Instr × Nat) := [(0, .iconst 0, 1), (1, .istore_n 2, 1), (2, .iload_n 2, 1), (3, .aload_n 0, 1), (4, .getfield 9, 3), (7, .arraylength, 1), (8, .if_icmp .ge 20, 3), (11, .aload_n 0, 1), (12, .getfield 9, 3), (15, .iload_n 2, 1), (16, .aload_n 1, 1), (17, .iload_n 2, 1), (18, .invokevirtual 31, 3), (21, .iastore, 1), (22, .iinc 2 1, 3), (25, .goto (-23), 3), (28, .aload_n 0, 1), (29, .aload_n 1, 1), (30, .getfield 24, 3), (33, .putfield 24, 3), (36, .aload_n 0, 1), (37, .aload_n 1, 1), (38, .getfield 28, 3), (41, .putfield 28, 3), (44, .return_, 1)]
noncomputable def mX9_copy : MI := (iX9_copy, [(9, 9, 0), (24, 9, 1), (28, 9, 2)], [], [(31, 2, 0, 0, fX9_costOf)], [], (0, 0), 0)
noncomputable def fX9_copy : CF := mth mX9_copy 3
def iX1_add : List (Nat × Instr × Nat) := [(0, .aload_n 0, 1), (1, .aload_n 0, 1), (2, .getfield 22, 3), (5, .invokevirtual 25, 3), (8, .aload_n 1, 1), (9, .invokevirtual 29, 3), (12, .aload_n 0, 1), (13, .getfield 22, 3), (16, .bipush 20, 2), (18, .if_icmp .ge 16, 3), (21, .aload_n 0, 1), (22, .dup, 1), (23, .getfield 22, 3), (26, .iconst 1, 1), (27, .iadd, 1), (28, .putfield 22, 3), (31, .goto 16, 3), (34, .aload_n 0, 1), (35, .aload_n 0, 1), (36, .getfield 18, 3), (39, .iconst 1, 1), (40, .iadd, 1), (41, .bipush 20, 2), (43, .irem, 1), (44, .putfield 18, 3), (47, .return_, 1)]
noncomputable def mX1_add : MI := (iX1_add, [(18, 1, 1), (22, 1, 2)], [], [(25, 2, 0, 0, fX1_settingAt), (29, 2, 0, 0, fX9_copy)], [], (0, 0), 0)
noncomputable def fX1_add : CF := mth mX1_add 2
def iX1_takeBack : List (Nat × Instr × Nat) := [(0, .iload_n 1, 1), (1, .iconst 1, 1), (2, .if_icmp .lt 11, 3), (5, .iload_n 1, 1), (6, .aload_n 0, 1), (7, .getfield 22, 3), (10, .if_icmp .le 4, 3), (13, .return_, 1), (14, .aload_n 0, 1), (15, .dup, 1), (16, .getfield 22, 3), (19, .iload_n 1, 1), (20, .isub, 1), (21, .putfield 22, 3), (24, .aload_n 2, 1), (25, .aload_n 0, 1), (26, .aload_n 0, 1), (27, .getfield 22, 3), (30, .invokevirtual 25, 3), (33, .invokevirtual 29, 3), (36, .return_, 1)]
noncomputable def mX1_takeBack : MI := (iX1_takeBack, [(22, 1, 2)], [], [(25, 2, 0, 0, fX1_settingAt), (29, 2, 0, 0, fX9_copy)], [], (0, 0), 0)
noncomputable def fX1_takeBack : CF := mth mX1_takeBack 3
def iX2_init : List (Nat × Instr × Nat) := [(0, .aload_n 0, 1), (1, .invokespecial 1, 3), (4, .aload_n 0, 1), (5, .new 7, 3), (8, .dup, 1), (9, .invokespecial 9, 3), (12, .putfield 10, 3), (15, .aload_n 0, 1), (16, .iconst 0, 1), (17, .putfield 16, 3), (20, .aload_n 0, 1), (21, .iconst 0, 1), (22, .putfield 20, 3), (25, .return_, 1)]
noncomputable def mX2_init : MI := (iX2_init, [(10, 2, 0), (16, 2, 1), (20, 2, 2)], [], [(1, 1, 0, 0, fObj), (9, 1, 1, 8, fX9_init)], [(7, 9)], (2, 11), 0)
noncomputable def fX2_init : CF := mth mX2_init 1
def iX2_hold : List (Nat × Instr × Nat) := [(0, .aload_n 0, 1), (1, .getfield 10, 3), (4, .aload_n 1, 1), (5, .invokevirtual 24, 3), (8, .aload_n 0, 1), (9, .iload_n 2, 1), (10, .putfield 16, 3), (13, .aload_n 0, 1), (14, .iconst 1, 1), (15, .putfield 20, 3), (18, .return_, 1)]
noncomputable def mX2_hold : MI := (iX2_hold, [(10, 2, 0), (16, 2, 1), (20, 2, 2)], [], [(24, 2, 0, 0, fX9_copy)], [], (0, 0), 0)
noncomputable def fX2_hold : CF := mth mX2_hold 3
def iX3_init : List (Nat × Instr × Nat) := [(0, .aload_n 0, 1), (1, .invokespecial 1, 3), (4, .aload_n 0, 1), (5, .bipush 28, 2), (7, .newarray .int, 2), (9, .putfield 9, 3), (12, .aload_n 0, 1), (13, .iconst 0, 1), (14, .putfield 13, 3), (17, .return_, 1)]
noncomputable def mX3_init : MI := (iX3_init, [(9, 3, 0), (13, 3, 1)], [], [(1, 1, 0, 0, fObj)], [], (1, 28), 0)
noncomputable def fX3_init : CF := mth mX3_init 1
def iX8_giftOf : List (Nat × Instr × Nat) := [(0, .iload_n 0, 1), (1, .bipush 8, 2), (3, .imul, 1), (4, .iload_n 1, 1), (5, .iadd, 1), (6, .ireturn, 1)]
noncomputable def mX8_giftOf : MI := (iX8_giftOf, [], [], [], [], (0, 0), 1)
noncomputable def fX8_giftOf : CF := mth mX8_giftOf 2
def iX8_countWith : List (Nat × Instr × Nat) := [(0, .iload_n 1, 1), (1, .iload_n 2, 1), (2, .invokestatic 43, 3), (5, .istore_n 3, 1), (6, .iload_n 3, 1), (7, .ifCond .lt 21, 3), (10, .iload_n 3, 1), (11, .aload_n 0, 1), (12, .getfield 15, 3), (15, .arraylength, 1), (16, .if_icmp .ge 12, 3), (19, .aload_n 0, 1), (20, .getfield 15, 3), (23, .iload_n 3, 1), (24, .iaload, 1), (25, .goto 4, 3), (28, .iconst 0, 1), (29, .ireturn, 1)]
noncomputable def mX8_countWith : MI := (iX8_countWith, [(15, 8, 1)], [], [(43, 2, 0, 0, fX8_giftOf)], [], (0, 0), 1)
noncomputable def fX8_countWith : CF := mth mX8_countWith 4
def iX6_cellOf : List (Nat × Instr × Nat) := [(0, .iload_n 1, 1), (1, .ifCond .lt 21, 3), (4, .iload_n 1, 1), (5, .aload_n 0, 1), (6, .getfield 15, 3), (9, .arraylength, 1), (10, .if_icmp .ge 12, 3), (13, .aload_n 0, 1), (14, .getfield 15, 3), (17, .iload_n 1, 1), (18, .iaload, 1), (19, .goto 4, 3), (22, .iconst (-1), 1), (23, .ireturn, 1)]
noncomputable def mX6_cellOf : MI := (iX6_cellOf, [(15, 6, 1)], [], [], [], (0, 0), 1)
noncomputable def fX6_cellOf : CF := mth mX6_cellOf 2
def iX6_isWriter : List (Nat × Instr × Nat) := [(0, .iload_n 1, 1), (1, .ifCond .lt 24, 3), (4, .iload_n 1, 1), (5, .bipush 8, 2), (7, .if_icmp .ge 18, 3), (10, .aload_n 0, 1), (11, .getfield 25, 3), (14, .iload_n 1, 1), (15, .iushr, 1), (16, .iconst 1, 1), (17, .iand, 1), (18, .ifCond .eq 7, 3), (21, .iconst 1, 1), (22, .goto 4, 3), (25, .iconst 0, 1), (26, .ireturn, 1)]
noncomputable def mX6_isWriter : MI := (iX6_isWriter, [(25, 6, 4)], [], [], [], (0, 0), 2)
noncomputable def fX6_isWriter : CF := mth mX6_isWriter 2
def iX6_kindOf : List (Nat × Instr × Nat) := [(0, .aload_n 0, 1), (1, .iload_n 1, 1), (2, .invokevirtual 46, 3), (5, .ifCond .eq 17, 3), (8, .aload_n 0, 1), (9, .iload_n 2, 1), (10, .invokevirtual 46, 3), (13, .ifCond .eq 7, 3), (16, .iconst 1, 1), (17, .goto 4, 3), (20, .iconst 0, 1), (21, .ireturn, 1), (22, .aload_n 0, 1), (23, .iload_n 2, 1), (24, .invokevirtual 46, 3), (27, .ifCond .eq 7, 3), (30, .iconst 3, 1), (31, .goto 4, 3), (34, .iconst 2, 1), (35, .ireturn, 1)]
noncomputable def mX6_kindOf : MI := (iX6_kindOf, [], [], [(46, 2, 0, 0, fX6_isWriter)], [], (0, 0), 1)
noncomputable def fX6_kindOf : CF := mth mX6_kindOf 3
def iX6_mayOvertake : List (Nat × Instr × Nat) := [(0, .aload_n 0, 1), (1, .iload_n 1, 1), (2, .invokevirtual 43, 3), (5, .aload_n 0, 1), (6, .iload_n 2, 1), (7, .invokevirtual 43, 3), (10, .if_icmp .eq 20, 3), (13, .iload_n 3, 1), (14, .aload_n 0, 1), (15, .iload_n 1, 1), (16, .iload_n 2, 1), (17, .invokevirtual 52, 3), (20, .invokestatic 39, 3), (23, .ifCond .eq 7, 3), (26, .iconst 1, 1), (27, .goto 4, 3), (30, .iconst 0, 1), (31, .ireturn, 1)]
noncomputable def mX6_mayOvertake : MI := (iX6_mayOvertake, [], [], [(39, 2, 0, 0, fX11_has), (43, 2, 0, 0, fX6_cellOf), (52, 3, 0, 0, fX6_kindOf)], [], (0, 0), 2)
noncomputable def fX6_mayOvertake : CF := mth mX6_mayOvertake 4
def iX11_gapsBetween : List (Nat × Instr × Nat) := [(0, .iconst 0, 1), (1, .istore_n 2, 1), (2, .iload_n 0, 1), (3, .iconst 1, 1), (4, .iadd, 1), (5, .istore_n 3, 1), (6, .iload_n 3, 1), (7, .iload_n 1, 1), (8, .if_icmp .gt 21, 3), (11, .iload_n 3, 1), (12, .bipush 8, 2), (14, .if_icmp .ge 15, 3), (17, .iload_n 2, 1), (18, .iconst 1, 1), (19, .iload_n 3, 1), (20, .ishl, 1), (21, .ior, 1), (22, .istore_n 2, 1), (23, .iinc 3 1, 3), (26, .goto (-20), 3), (29, .iload_n 2, 1), (30, .ireturn, 1)]
noncomputable def mX11_gapsBetween : MI := (iX11_gapsBetween, [], [], [], [], (0, 0), 1)
noncomputable def fX11_gapsBetween : CF := mth mX11_gapsBetween 4
def iX3_add : List (Nat × Instr × Nat) := [(0, .aload_n 0, 1), (1, .getfield 13, 3), (4, .ifCond .lt 35, 3), (7, .aload_n 0, 1), (8, .getfield 13, 3), (11, .aload_n 0, 1), (12, .getfield 9, 3), (15, .arraylength, 1), (16, .if_icmp .ge 23, 3), (19, .aload_n 0, 1), (20, .getfield 9, 3), (23, .aload_n 0, 1), (24, .getfield 13, 3), (27, .iload_n 1, 1), (28, .iastore, 1), (29, .aload_n 0, 1), (30, .dup, 1), (31, .getfield 13, 3), (34, .iconst 1, 1), (35, .iadd, 1), (36, .putfield 13, 3), (39, .return_, 1)]
noncomputable def mX3_add : MI := (iX3_add, [(9, 3, 0), (13, 3, 1)], [], [], [], (0, 0), 0)
noncomputable def fX3_add : CF := mth mX3_add 2
def iX3_gather : List (Nat × Instr × Nat) := [(0, .aload_n 0, 1), (1, .iconst 0, 1), (2, .putfield 13, 3), (5, .iconst 0, 1), (6, .istore 4, 2), (8, .iload 4, 2), (10, .aload_n 1, 1), (11, .getfield 17, 3), (14, .if_icmp .ge 64, 3), (17, .iload 4, 2), (19, .iconst 1, 1), (20, .iadd, 1), (21, .istore 5, 2), (23, .iload 5, 2), (25, .aload_n 1, 1), (26, .getfield 17, 3), (29, .if_icmp .ge 43, 3), (32, .aload_n 2, 1), (33, .iload 4, 2), (35, .iload 5, 2), (37, .invokevirtual 22, 3), (40, .ifCond .le 26, 3), (43, .aload_n 1, 1), (44, .iload 4, 2), (46, .iload 5, 2), (48, .iload_n 3, 1), (49, .invokevirtual 28, 3), (52, .ifCond .eq 14, 3), (55, .aload_n 0, 1), (56, .iload 4, 2), (58, .iload 5, 2), (60, .invokestatic 32, 3), (63, .invokevirtual 37, 3), (66, .iinc 5 1, 3), (69, .goto (-46), 3), (72, .iinc 4 1, 3), (75, .goto (-67), 3), (78, .return_, 1)]
noncomputable def mX3_gather : MI := (iX3_gather, [(13, 3, 1), (17, 6, 3)], [], [(22, 3, 0, 0, fX8_countWith), (28, 4, 0, 0, fX6_mayOvertake), (32, 2, 0, 0, fX11_gapsBetween), (37, 2, 0, 0, fX3_add)], [], (0, 0), 0)
noncomputable def fX3_gather : CF := mth mX3_gather 6
def iX3_holdersAt : List (Nat × Instr × Nat) := [(0, .iload_n 1, 1), (1, .ifCond .lt 21, 3), (4, .iload_n 1, 1), (5, .aload_n 0, 1), (6, .getfield 9, 3), (9, .arraylength, 1), (10, .if_icmp .ge 12, 3), (13, .aload_n 0, 1), (14, .getfield 9, 3), (17, .iload_n 1, 1), (18, .iaload, 1), (19, .goto 4, 3), (22, .iconst 0, 1), (23, .ireturn, 1)]
noncomputable def mX3_holdersAt : MI := (iX3_holdersAt, [(9, 3, 0)], [], [], [], (0, 0), 1)
noncomputable def fX3_holdersAt : CF := mth mX3_holdersAt 2
def iX3_countHeld : List (Nat × Instr × Nat) := [(0, .iconst 0, 1), (1, .istore_n 2, 1), (2, .iconst 0, 1), (3, .istore_n 3, 1), (4, .iload_n 3, 1), (5, .aload_n 0, 1), (6, .getfield 13, 3), (9, .if_icmp .ge 22, 3), (12, .aload_n 0, 1), (13, .iload_n 3, 1), (14, .invokevirtual 41, 3), (17, .iload_n 1, 1), (18, .iand, 1), (19, .ifCond .eq 6, 3), (22, .iinc 2 1, 3), (25, .iinc 3 1, 3), (28, .goto (-24), 3), (31, .iload_n 2, 1), (32, .ireturn, 1)]
noncomputable def mX3_countHeld : MI := (iX3_countHeld, [(13, 3, 1)], [], [(41, 2, 0, 0, fX3_holdersAt)], [], (0, 0), 1)
noncomputable def fX3_countHeld : CF := mth mX3_countHeld 4
def iX3_areAllHeld : List (Nat × Instr × Nat) := [(0, .aload_n 0, 1), (1, .iload_n 1, 1), (2, .invokevirtual 45, 3), (5, .aload_n 0, 1), (6, .getfield 13, 3), (9, .if_icmp .ne 7, 3), (12, .iconst 1, 1), (13, .goto 4, 3), (16, .iconst 0, 1), (17, .ireturn, 1)]
noncomputable def mX3_areAllHeld : MI := (iX3_areAllHeld, [(13, 3, 1)], [], [(45, 2, 0, 0, fX3_countHeld)], [], (0, 0), 2)
noncomputable def fX3_areAllHeld : CF := mth mX3_areAllHeld 2
def iJ6_bitCount_0f7a4 : List (Nat × Instr × Nat) := [(0, .iload_n 0, 1), (1, .iload_n 0, 1), (2, .iconst 1, 1), (3, .iushr, 1), (4, .ldc_w 265, 3), (7, .iand, 1), (8, .isub, 1), (9, .istore_n 0, 1), (10, .iload_n 0, 1), (11, .ldc_w 266, 3), (14, .iand, 1), (15, .iload_n 0, 1), (16, .iconst 2, 1), (17, .iushr, 1), (18, .ldc_w 266, 3), (21, .iand, 1), (22, .iadd, 1), (23, .istore_n 0, 1), (24, .iload_n 0, 1), (25, .iload_n 0, 1), (26, .iconst 4, 1), (27, .iushr, 1), (28, .iadd, 1), (29, .ldc_w 267, 3), (32, .iand, 1), (33, .istore_n 0, 1), (34, .iload_n 0, 1), (35, .iload_n 0, 1), (36, .bipush 8, 2), (38, .iushr, 1), (39, .iadd, 1), (40, .istore_n 0, 1), (41, .iload_n 0, 1), (42, .iload_n 0, 1), (43, .bipush 16, 2), (45, .iushr, 1), (46, .iadd, 1), (47, .istore_n 0, 1), (48, .iload_n 0, 1), (49, .bipush 63, 2), (51, .iand, 1), (52, .ireturn, 1)]
noncomputable def mJ6_bitCount_0f7a4 : MI := (iJ6_bitCount_0f7a4, [], [(265, .int (1431655765)), (266, .int (858993459)), (267, .int (252645135))], [], [], (0, 0), 1)
noncomputable def fJ6_bitCount_0f7a4 : CF := mth mJ6_bitCount_0f7a4 1
def iX3_neededOf : List (Nat × Instr × Nat) := [(0, .iconst 0, 1), (1, .istore_n 2, 1), (2, .iconst 0, 1), (3, .istore_n 3, 1), (4, .iload_n 3, 1), (5, .aload_n 0, 1), (6, .getfield 13, 3), (9, .if_icmp .ge 32, 3), (12, .aload_n 0, 1), (13, .iload_n 3, 1), (14, .invokevirtual 41, 3), (17, .iload_n 1, 1), (18, .iand, 1), (19, .istore 4, 2), (21, .iload 4, 2), (23, .invokestatic 48, 3), (26, .iconst 1, 1), (27, .if_icmp .ne 8, 3), (30, .iload_n 2, 1), (31, .iload 4, 2), (33, .ior, 1), (34, .istore_n 2, 1), (35, .iinc 3 1, 3), (38, .goto (-34), 3), (41, .iload_n 2, 1), (42, .ireturn, 1)]
noncomputable def mX3_neededOf : MI := (iX3_neededOf, [(13, 3, 1)], [], [(41, 2, 0, 0, fX3_holdersAt), (48, 1, 0, 0, fJ6_bitCount_0f7a4)], [], (0, 0), 1)
noncomputable def fX3_neededOf : CF := mth mX3_neededOf 5
def iX9_costOfSet : List (Nat × Instr × Nat) := [(0, .iconst 0, 1), (1, .istore_n 2, 1), (2, .iconst 0, 1), (3, .istore_n 3, 1), (4, .iload_n 3, 1), (5, .aload_n 0, 1), (6, .getfield 9, 3), (9, .arraylength, 1), (10, .if_icmp .ge 26, 3), (13, .iload_n 1, 1), (14, .iload_n 3, 1), (15, .invokestatic 35, 3), (18, .ifCond .eq 12, 3), (21, .iload_n 2, 1), (22, .aload_n 0, 1), (23, .getfield 9, 3), (26, .iload_n 3, 1), (27, .iaload, 1), (28, .iadd, 1), (29, .istore_n 2, 1), (30, .iinc 3 1, 3), (33, .goto (-29), 3), (36, .iload_n 2, 1), (37, .ireturn, 1)]
noncomputable def mX9_costOfSet : MI := (iX9_costOfSet, [(9, 9, 0)], [], [(35, 2, 0, 0, fX11_has)], [], (0, 0), 1)
noncomputable def fX9_costOfSet : CF := mth mX9_costOfSet 4
def iX3_cheapestSet : List (Nat × Instr × Nat) := [(0, .iload_n 1, 1), (1, .istore_n 3, 1), (2, .aload_n 2, 1), (3, .iload_n 1, 1), (4, .invokevirtual 53, 3), (7, .istore 4, 2), (9, .iconst 0, 1), (10, .istore 5, 2), (12, .iload 5, 2), (14, .iload_n 1, 1), (15, .if_icmp .gt 49, 3), (18, .iload 5, 2), (20, .iload_n 1, 1), (21, .iconst (-1), 1), (22, .ixor, 1), (23, .iand, 1), (24, .ifCond .ne 34, 3), (27, .aload_n 2, 1), (28, .iload 5, 2), (30, .invokevirtual 53, 3), (33, .iload 4, 2), (35, .if_icmp .ge 23, 3), (38, .aload_n 0, 1), (39, .iload 5, 2), (41, .invokevirtual 58, 3), (44, .ifCond .eq 14, 3), (47, .iload 5, 2), (49, .istore_n 3, 1), (50, .aload_n 2, 1), (51, .iload 5, 2), (53, .invokevirtual 53, 3), (56, .istore 4, 2), (58, .iinc 5 1, 3), (61, .goto (-49), 3), (64, .iload_n 3, 1), (65, .ireturn, 1)]
noncomputable def mX3_cheapestSet : MI := (iX3_cheapestSet, [], [], [(53, 2, 0, 0, fX9_costOfSet), (58, 2, 0, 0, fX3_areAllHeld)], [], (0, 0), 1)
noncomputable def fX3_cheapestSet : CF := mth mX3_cheapestSet 6
def iX4_init : List (Nat × Instr × Nat) := [(0, .aload_n 0, 1), (1, .invokespecial 3, 3), (4, .aload_n 0, 1), (5, .sipush 512, 3), (8, .newarray .long, 2), (10, .putfield 11, 3), (13, .aload_n 0, 1), (14, .sipush 512, 3), (17, .newarray .long, 2), (19, .putfield 15, 3), (22, .aload_n 0, 1), (23, .sipush 1024, 3), (26, .newarray .int, 2), (28, .putfield 18, 3), (31, .aload_n 0, 1), (32, .bipush 8, 2), (34, .newarray .int, 2), (36, .putfield 22, 3), (39, .aload_n 0, 1), (40, .bipush 8, 2), (42, .newarray .int, 2), (44, .putfield 25, 3), (47, .aload_n 0, 1), (48, .iconst 0, 1), (49, .putfield 28, 3), (52, .aload_n 0, 1), (53, .iconst 0, 1), (54, .putfield 32, 3), (57, .return_, 1)]
noncomputable def mX4_init : MI := (iX4_init, [(11, 4, 0), (15, 4, 1), (18, 4, 2), (22, 4, 3), (25, 4, 4), (28, 4, 5), (32, 4, 6)], [], [(3, 1, 0, 0, fObj)], [], (5, 2064), 0)
noncomputable def fX4_init : CF := mth mX4_init 1
def iX6_hasStep : List (Nat × Instr × Nat) := [(0, .iload_n 1, 1), (1, .ifCond .lt 15, 3), (4, .iload_n 1, 1), (5, .aload_n 0, 1), (6, .getfield 22, 3), (9, .if_icmp .ge 7, 3), (12, .iconst 1, 1), (13, .goto 4, 3), (16, .iconst 0, 1), (17, .ireturn, 1)]
noncomputable def mX6_hasStep : MI := (iX6_hasStep, [(22, 6, 3)], [], [], [], (0, 0), 2)
noncomputable def fX6_hasStep : CF := mth mX6_hasStep 2
def iX4_weigh : List (Nat × Instr × Nat) := [(0, .iconst 1, 1), (1, .istore_n 2, 1), (2, .aload_n 0, 1), (3, .getfield 25, 3), (6, .arraylength, 1), (7, .iconst 1, 1), (8, .isub, 1), (9, .istore_n 3, 1), (10, .iload_n 3, 1), (11, .ifCond .lt 37, 3), (14, .aload_n 0, 1), (15, .getfield 25, 3), (18, .iload_n 3, 1), (19, .iload_n 2, 1), (20, .iastore, 1), (21, .aload_n 1, 1), (22, .iload_n 3, 1), (23, .invokevirtual 60, 3), (26, .ifCond .eq 16, 3), (29, .aload_n 1, 1), (30, .iload_n 3, 1), (31, .invokevirtual 64, 3), (34, .ifCond .ne 8, 3), (37, .iload_n 2, 1), (38, .bipush 9, 2), (40, .imul, 1), (41, .istore_n 2, 1), (42, .iinc 3 (-1), 3), (45, .goto (-35), 3), (48, .return_, 1)]
noncomputable def mX4_weigh : MI := (iX4_weigh, [(25, 4, 4)], [], [(60, 2, 0, 0, fX6_hasStep), (64, 2, 0, 0, fX6_isWriter)], [], (0, 0), 0)
noncomputable def fX4_weigh : CF := mth mX4_weigh 4
def iX6_threadOf : List (Nat × Instr × Nat) := [(0, .iload_n 1, 1), (1, .ifCond .lt 21, 3), (4, .iload_n 1, 1), (5, .aload_n 0, 1), (6, .getfield 9, 3), (9, .arraylength, 1), (10, .if_icmp .ge 12, 3), (13, .aload_n 0, 1), (14, .getfield 9, 3), (17, .iload_n 1, 1), (18, .iaload, 1), (19, .goto 4, 3), (22, .iconst (-1), 1), (23, .ireturn, 1)]
noncomputable def mX6_threadOf : MI := (iX6_threadOf, [(9, 6, 0)], [], [], [], (0, 0), 1)
noncomputable def fX6_threadOf : CF := mth mX6_threadOf 2
def iX6_isAhead : List (Nat × Instr × Nat) := [(0, .iload_n 1, 1), (1, .iload_n 2, 1), (2, .if_icmp .ge 20, 3), (5, .aload_n 0, 1), (6, .iload_n 1, 1), (7, .invokevirtual 31, 3), (10, .aload_n 0, 1), (11, .iload_n 2, 1), (12, .invokevirtual 31, 3), (15, .if_icmp .ne 7, 3), (18, .iconst 1, 1), (19, .goto 4, 3), (22, .iconst 0, 1), (23, .ireturn, 1)]
noncomputable def mX6_isAhead : MI := (iX6_isAhead, [], [], [(31, 2, 0, 0, fX6_threadOf)], [], (0, 0), 2)
noncomputable def fX6_isAhead : CF := mth mX6_isAhead 3
def iX6_waitsOf : List (Nat × Instr × Nat) := [(0, .iconst 0, 1), (1, .istore 4, 2), (3, .iconst 0, 1), (4, .istore 5, 2), (6, .iload 5, 2), (8, .iload_n 1, 1), (9, .if_icmp .ge 71, 3), (12, .iload 5, 2), (14, .aload_n 0, 1), (15, .getfield 22, 3), (18, .if_icmp .ge 62, 3), (21, .iload_n 2, 1), (22, .iload 5, 2), (24, .iload_n 1, 1), (25, .invokestatic 56, 3), (28, .iand, 1), (29, .ifCond .eq 7, 3), (32, .iconst 1, 1), (33, .goto 4, 3), (36, .iconst 0, 1), (37, .istore 6, 2), (39, .aload_n 0, 1), (40, .iload 5, 2), (42, .iload_n 1, 1), (43, .invokevirtual 59, 3), (46, .ifCond .eq 28, 3), (49, .iload 6, 2), (51, .ifCond .ne 14, 3), (54, .aload_n 0, 1), (55, .iload 5, 2), (57, .iload_n 1, 1), (58, .iload_n 3, 1), (59, .invokevirtual 62, 3), (62, .ifCond .ne 12, 3), (65, .iload 4, 2), (67, .iconst 1, 1), (68, .iload 5, 2), (70, .ishl, 1), (71, .ior, 1), (72, .istore 4, 2), (74, .iinc 5 1, 3), (77, .goto (-71), 3), (80, .iload 4, 2), (82, .ireturn, 1)]
noncomputable def mX6_waitsOf : MI := (iX6_waitsOf, [(22, 6, 3)], [], [(56, 2, 0, 0, fX11_gapsBetween), (59, 3, 0, 0, fX6_isAhead), (62, 4, 0, 0, fX6_mayOvertake)], [], (0, 0), 1)
noncomputable def fX6_waitsOf : CF := mth mX6_waitsOf 7
def iX4_behind : List (Nat × Instr × Nat) := [(0, .lload_n 2, 1), (1, .lconst 1, 1), (2, .iload 4, 2), (4, .lshl, 1), (5, .lor, 1), (6, .lstore 5, 2), (8, .bipush 8, 2), (10, .iconst 4, 1), (11, .aload_n 1, 1), (12, .iload 4, 2), (14, .invokevirtual 89, 3), (17, .imul, 1), (18, .iadd, 1), (19, .istore 7, 2), (21, .aload_n 1, 1), (22, .iload 4, 2), (24, .invokevirtual 64, 3), (27, .ifCond .eq 26, 3), (30, .lload 5, 2), (32, .ldc2_w 93, 3), (35, .iload 7, 2), (37, .lshl, 1), (38, .ldc2_w 95, 3), (41, .lxor, 1), (42, .land, 1), (43, .iload 4, 2), (45, .iconst 1, 1), (46, .iadd, 1), (47, .i2l, 1), (48, .iload 7, 2), (50, .lshl, 1), (51, .lor, 1), (52, .lreturn, 1), (53, .iload 4, 2), (55, .ifCond .lt 23, 3), (58, .iload 4, 2), (60, .aload_n 0, 1), (61, .getfield 25, 3), (64, .arraylength, 1), (65, .if_icmp .ge 13, 3), (68, .aload_n 0, 1), (69, .getfield 25, 3), (72, .iload 4, 2), (74, .iaload, 1), (75, .goto 4, 3), (78, .iconst 0, 1), (79, .istore 8, 2), (81, .lload_n 2, 1), (82, .iload 7, 2), (84, .lushr, 1), (85, .ldc2_w 93, 3), (88, .land, 1), (89, .lstore 9, 2), (91, .lload 5, 2), (93, .lload 9, 2), (95, .iload 8, 2), (97, .i2l, 1), (98, .lmul, 1), (99, .bipush 20, 2), (101, .lshl, 1), (102, .ladd, 1), (103, .lreturn, 1)]
noncomputable def mX4_behind : MI := (iX4_behind, [(25, 4, 4)], [(93, .long (15)), (95, .long (-1))], [(64, 2, 0, 0, fX6_isWriter), (89, 2, 0, 0, fX6_cellOf)], [], (0, 0), 3)
noncomputable def fX4_behind : CF := mth mX4_behind 11
def iX4_putNext : List (Nat × Instr × Nat) := [(0, .aload_n 0, 1), (1, .getfield 32, 3), (4, .ifCond .lt 58, 3), (7, .aload_n 0, 1), (8, .getfield 32, 3), (11, .aload_n 0, 1), (12, .getfield 15, 3), (15, .arraylength, 1), (16, .if_icmp .ge 46, 3), (19, .iload_n 1, 1), (20, .ifCond .lt 42, 3), (23, .iload_n 1, 1), (24, .aload_n 0, 1), (25, .getfield 18, 3), (28, .arraylength, 1), (29, .if_icmp .ge 33, 3), (32, .aload_n 0, 1), (33, .getfield 15, 3), (36, .aload_n 0, 1), (37, .getfield 32, 3), (40, .lload_n 2, 1), (41, .lastore, 1), (42, .aload_n 0, 1), (43, .dup, 1), (44, .getfield 32, 3), (47, .iconst 1, 1), (48, .iadd, 1), (49, .putfield 32, 3), (52, .aload_n 0, 1), (53, .getfield 18, 3), (56, .iload_n 1, 1), (57, .aload_n 0, 1), (58, .getfield 32, 3), (61, .iastore, 1), (62, .return_, 1)]
noncomputable def mX4_putNext : MI := (iX4_putNext, [(15, 4, 1), (18, 4, 2), (32, 4, 6)], [], [], [], (0, 0), 0)
noncomputable def fX4_putNext : CF := mth mX4_putNext 4
def iX4_addNext : List (Nat × Instr × Nat) := [(0, .lload_n 1, 1), (1, .ldc2_w 97, 3), (4, .lmul, 1), (5, .bipush 54, 2), (7, .lushr, 1), (8, .l2i, 1), (9, .istore_n 3, 1), (10, .iconst 0, 1), (11, .istore 4, 2), (13, .iload 4, 2), (15, .sipush 1024, 3), (18, .if_icmp .ge 66, 3), (21, .iload_n 3, 1), (22, .iload 4, 2), (24, .iadd, 1), (25, .sipush 1023, 3), (28, .iand, 1), (29, .istore 5, 2), (31, .aload_n 0, 1), (32, .getfield 18, 3), (35, .iload 5, 2), (37, .iaload, 1), (38, .iconst 1, 1), (39, .isub, 1), (40, .istore 6, 2), (42, .iload 6, 2), (44, .ifCond .lt 13, 3), (47, .iload 6, 2), (49, .aload_n 0, 1), (50, .getfield 15, 3), (53, .arraylength, 1), (54, .if_icmp .lt 11, 3), (57, .aload_n 0, 1), (58, .iload 5, 2), (60, .lload_n 1, 1), (61, .invokevirtual 99, 3), (64, .return_, 1), (65, .aload_n 0, 1), (66, .getfield 15, 3), (69, .iload 6, 2), (71, .laload, 1), (72, .lload_n 1, 1), (73, .lcmp, 1), (74, .ifCond .ne 4, 3), (77, .return_, 1), (78, .iinc 4 1, 3), (81, .goto (-68), 3), (84, .return_, 1)]
noncomputable def mX4_addNext : MI := (iX4_addNext, [(15, 4, 1), (18, 4, 2)], [(97, .long (-7046029254386353131))], [(99, 3, 0, 0, fX4_putNext)], [], (0, 0), 0)
noncomputable def fX4_addNext : CF := mth mX4_addNext 7
def iX4_doEach : List (Nat × Instr × Nat) := [(0, .lload_n 2, 1), (1, .l2i, 1), (2, .iconst (-1), 1), (3, .ixor, 1), (4, .sipush 255, 3), (7, .iand, 1), (8, .istore 4, 2), (10, .iconst 0, 1), (11, .istore 5, 2), (13, .iload 5, 2), (15, .aload_n 1, 1), (16, .getfield 39, 3), (19, .if_icmp .ge 54, 3), (22, .iload 5, 2), (24, .aload_n 0, 1), (25, .getfield 22, 3), (28, .arraylength, 1), (29, .if_icmp .ge 44, 3), (32, .iload 4, 2), (34, .iload 5, 2), (36, .invokestatic 77, 3), (39, .ifCond .eq 28, 3), (42, .aload_n 0, 1), (43, .getfield 22, 3), (46, .iload 5, 2), (48, .iaload, 1), (49, .iload 4, 2), (51, .iand, 1), (52, .ifCond .ne 15, 3), (55, .aload_n 0, 1), (56, .aload_n 0, 1), (57, .aload_n 1, 1), (58, .lload_n 2, 1), (59, .iload 5, 2), (61, .invokevirtual 81, 3), (64, .invokevirtual 85, 3), (67, .iinc 5 1, 3), (70, .goto (-57), 3), (73, .return_, 1)]
noncomputable def mX4_doEach : MI := (iX4_doEach, [(22, 4, 3), (39, 6, 3)], [], [(77, 2, 0, 0, fX11_has), (81, 4, 0, 0, fX4_behind), (85, 2, 0, 0, fX4_addNext)], [], (0, 0), 0)
noncomputable def fX4_doEach : CF := mth mX4_doEach 6
def iX4_doOneMore : List (Nat × Instr × Nat) := [(0, .aload_n 0, 1), (1, .getfield 18, 3), (4, .iconst 0, 1), (5, .invokestatic 67, 3), (8, .aload_n 0, 1), (9, .iconst 0, 1), (10, .putfield 32, 3), (13, .iconst 0, 1), (14, .istore_n 2, 1), (15, .iload_n 2, 1), (16, .aload_n 0, 1), (17, .getfield 28, 3), (20, .if_icmp .ge 29, 3), (23, .iload_n 2, 1), (24, .aload_n 0, 1), (25, .getfield 11, 3), (28, .arraylength, 1), (29, .if_icmp .ge 20, 3), (32, .aload_n 0, 1), (33, .aload_n 1, 1), (34, .aload_n 0, 1), (35, .getfield 11, 3), (38, .iload_n 2, 1), (39, .laload, 1), (40, .invokevirtual 73, 3), (43, .iinc 2 1, 3), (46, .goto (-31), 3), (49, .aload_n 0, 1), (50, .getfield 11, 3), (53, .astore_n 2, 1), (54, .aload_n 0, 1), (55, .aload_n 0, 1), (56, .getfield 15, 3), (59, .putfield 11, 3), (62, .aload_n 0, 1), (63, .aload_n 2, 1), (64, .putfield 15, 3), (67, .aload_n 0, 1), (68, .aload_n 0, 1), (69, .getfield 32, 3), (72, .putfield 28, 3), (75, .return_, 1)]
noncomputable def mX4_doOneMore : MI := (iX4_doOneMore, [(11, 4, 0), (15, 4, 1), (18, 4, 2), (28, 4, 5), (32, 4, 6)], [], [(67, 2, 0, 0, fJ7_fill_53178), (73, 3, 0, 0, fX4_doEach)], [], (0, 0), 0)
noncomputable def fX4_doOneMore : CF := mth mX4_doOneMore 3
def iX7_clear : List (Nat × Instr × Nat) := [(0, .aload_n 0, 1), (1, .iconst 0, 1), (2, .putfield 15, 3), (5, .return_, 1)]
noncomputable def mX7_clear : MI := (iX7_clear, [(15, 7, 1)], [], [], [], (0, 0), 0)
noncomputable def fX7_clear : CF := mth mX7_clear 1
def iX7_add : List (Nat × Instr × Nat) := [(0, .aload_n 0, 1), (1, .iload_n 1, 1), (2, .invokevirtual 19, 3), (5, .istore_n 2, 1), (6, .aload_n 0, 1), (7, .iload_n 2, 1), (8, .invokevirtual 23, 3), (11, .iload_n 1, 1), (12, .if_icmp .eq 27, 3), (15, .iload_n 2, 1), (16, .ifCond .lt 23, 3), (19, .iload_n 2, 1), (20, .aload_n 0, 1), (21, .getfield 15, 3), (24, .if_icmp .gt 15, 3), (27, .aload_n 0, 1), (28, .getfield 15, 3), (31, .aload_n 0, 1), (32, .getfield 11, 3), (35, .arraylength, 1), (36, .if_icmp .lt 4, 3), (39, .return_, 1), (40, .aload_n 0, 1), (41, .getfield 15, 3), (44, .istore_n 3, 1), (45, .iload_n 3, 1), (46, .iload_n 2, 1), (47, .if_icmp .le 23, 3), (50, .aload_n 0, 1), (51, .getfield 11, 3), (54, .iload_n 3, 1), (55, .aload_n 0, 1), (56, .getfield 11, 3), (59, .iload_n 3, 1), (60, .iconst 1, 1), (61, .isub, 1), (62, .iaload, 1), (63, .iastore, 1), (64, .iinc 3 (-1), 3), (67, .goto (-22), 3), (70, .aload_n 0, 1), (71, .getfield 11, 3), (74, .iload_n 2, 1), (75, .iload_n 1, 1), (76, .iastore, 1), (77, .aload_n 0, 1), (78, .dup, 1), (79, .getfield 15, 3), (82, .iconst 1, 1), (83, .iadd, 1), (84, .putfield 15, 3), (87, .return_, 1)]
noncomputable def mX7_add : MI := (iX7_add, [(11, 7, 0), (15, 7, 1)], [], [(19, 2, 0, 0, fX7_placeOf), (23, 2, 0, 0, fX7_at)], [], (0, 0), 0)
noncomputable def fX7_add : CF := mth mX7_add 4
def iX4_findReadings : List (Nat × Instr × Nat) := [(0, .aload_n 0, 1), (1, .aload_n 1, 1), (2, .invokevirtual 35, 3), (5, .iconst 0, 1), (6, .istore 5, 2), (8, .iload 5, 2), (10, .aload_n 1, 1), (11, .getfield 39, 3), (14, .if_icmp .ge 34, 3), (17, .iload 5, 2), (19, .aload_n 0, 1), (20, .getfield 22, 3), (23, .arraylength, 1), (24, .if_icmp .ge 24, 3), (27, .aload_n 0, 1), (28, .getfield 22, 3), (31, .iload 5, 2), (33, .aload_n 1, 1), (34, .iload 5, 2), (36, .iload_n 2, 1), (37, .iload_n 3, 1), (38, .invokevirtual 44, 3), (41, .iastore, 1), (42, .iinc 5 1, 3), (45, .goto (-37), 3), (48, .aload_n 0, 1), (49, .getfield 11, 3), (52, .iconst 0, 1), (53, .lconst 0, 1), (54, .lastore, 1), (55, .aload_n 0, 1), (56, .iconst 1, 1), (57, .putfield 28, 3), (60, .iconst 0, 1), (61, .istore 5, 2), (63, .iload 5, 2), (65, .aload_n 1, 1), (66, .getfield 39, 3), (69, .if_icmp .ge 14, 3), (72, .aload_n 0, 1), (73, .aload_n 1, 1), (74, .invokevirtual 48, 3), (77, .iinc 5 1, 3), (80, .goto (-17), 3), (83, .aload 4, 2), (85, .invokevirtual 51, 3), (88, .iconst 0, 1), (89, .istore 5, 2), (91, .iload 5, 2), (93, .aload_n 0, 1), (94, .getfield 28, 3), (97, .if_icmp .ge 35, 3), (100, .iload 5, 2), (102, .aload_n 0, 1), (103, .getfield 11, 3), (106, .arraylength, 1), (107, .if_icmp .ge 25, 3), (110, .aload 4, 2), (112, .aload_n 0, 1), (113, .getfield 11, 3), (116, .iload 5, 2), (118, .laload, 1), (119, .bipush 20, 2), (121, .lushr, 1), (122, .l2i, 1), (123, .invokevirtual 56, 3), (126, .iinc 5 1, 3), (129, .goto (-38), 3), (132, .return_, 1)]
noncomputable def mX4_findReadings : MI := (iX4_findReadings, [(11, 4, 0), (22, 4, 3), (28, 4, 5), (39, 6, 3)], [], [(35, 2, 0, 0, fX4_weigh), (44, 4, 0, 0, fX6_waitsOf), (48, 2, 0, 0, fX4_doOneMore), (51, 1, 0, 0, fX7_clear), (56, 2, 0, 0, fX7_add)], [], (0, 0), 0)
noncomputable def fX4_findReadings : CF := mth mX4_findReadings 6
def iX5_init : List (Nat × Instr × Nat) := [(0, .aload_n 0, 1), (1, .invokespecial 3, 3), (4, .aload_n 0, 1), (5, .iconst (-1), 1), (6, .putfield 9, 3), (9, .aload_n 0, 1), (10, .iconst 0, 1), (11, .putfield 15, 3), (14, .aload_n 0, 1), (15, .iconst 0, 1), (16, .putfield 18, 3), (19, .return_, 1)]
noncomputable def mX5_init : MI := (iX5_init, [(9, 5, 0), (15, 5, 1), (18, 5, 2)], [], [(3, 1, 0, 0, fObj)], [], (0, 0), 0)
noncomputable def fX5_init : CF := mth mX5_init 1
def iX6_clear : List (Nat × Instr × Nat) := [(0, .aload_n 0, 1), (1, .iconst 0, 1), (2, .putfield 18, 3), (5, .aload_n 0, 1), (6, .iconst 0, 1), (7, .putfield 22, 3), (10, .aload_n 0, 1), (11, .iconst 0, 1), (12, .putfield 25, 3), (15, .aload_n 0, 1), (16, .iconst 0, 1), (17, .putfield 28, 3), (20, .return_, 1)]
noncomputable def mX6_clear : MI := (iX6_clear, [(18, 6, 2), (22, 6, 3), (25, 6, 4), (28, 6, 5)], [], [], [], (0, 0), 0)
noncomputable def fX6_clear : CF := mth mX6_clear 1
def iX10_letterAt : List (Nat × Instr × Nat) := [(0, .iload_n 1, 1), (1, .ifCond .lt 21, 3), (4, .iload_n 1, 1), (5, .aload_n 0, 1), (6, .getfield 9, 3), (9, .arraylength, 1), (10, .if_icmp .ge 12, 3), (13, .aload_n 0, 1), (14, .getfield 9, 3), (17, .iload_n 1, 1), (18, .iaload, 1), (19, .goto 4, 3), (22, .iconst (-1), 1), (23, .ireturn, 1)]
noncomputable def mX10_letterAt : MI := (iX10_letterAt, [(9, 10, 0)], [], [], [], (0, 0), 1)
noncomputable def fX10_letterAt : CF := mth mX10_letterAt 2
def iX6_addThread : List (Nat × Instr × Nat) := [(0, .aload_n 0, 1), (1, .getfield 18, 3), (4, .iconst 3, 1), (5, .if_icmp .lt 5, 3), (8, .iconst 0, 1), (9, .ireturn, 1), (10, .aload_n 0, 1), (11, .dup, 1), (12, .getfield 18, 3), (15, .iconst 1, 1), (16, .iadd, 1), (17, .putfield 18, 3), (20, .iconst 1, 1), (21, .ireturn, 1)]
noncomputable def mX6_addThread : MI := (iX6_addThread, [(18, 6, 2)], [], [], [], (0, 0), 2)
noncomputable def fX6_addThread : CF := mth mX6_addThread 1
def iX5_takeWord : List (Nat × Instr × Nat) := [(0, .iload_n 1, 1), (1, .bipush 116, 2), (3, .if_icmp .ne 21, 3), (6, .aload_n 0, 1), (7, .iconst 2, 1), (8, .putfield 15, 3), (11, .aload_n 2, 1), (12, .invokevirtual 46, 3), (15, .ifCond .eq 7, 3), (18, .iconst 0, 1), (19, .goto 4, 3), (22, .iconst 3, 1), (23, .ireturn, 1), (24, .iload_n 1, 1), (25, .bipush 114, 2), (27, .if_icmp .eq 9, 3), (30, .iload_n 1, 1), (31, .bipush 119, 2), (33, .if_icmp .ne 10, 3), (36, .aload_n 2, 1), (37, .getfield 50, 3), (40, .ifCond .ne 5, 3), (43, .iconst 1, 1), (44, .ireturn, 1), (45, .aload_n 2, 1), (46, .getfield 53, 3), (49, .bipush 8, 2), (51, .if_icmp .lt 5, 3), (54, .iconst 3, 1), (55, .ireturn, 1), (56, .aload_n 0, 1), (57, .iload_n 1, 1), (58, .bipush 119, 2), (60, .if_icmp .ne 7, 3), (63, .iconst 1, 1), (64, .goto 4, 3), (67, .iconst 0, 1), (68, .putfield 18, 3), (71, .aload_n 0, 1), (72, .iconst 1, 1), (73, .putfield 15, 3), (76, .iconst 0, 1), (77, .ireturn, 1)]
noncomputable def mX5_takeWord : MI := (iX5_takeWord, [(15, 5, 1), (18, 5, 2), (50, 6, 2), (53, 6, 3)], [], [(46, 1, 0, 0, fX6_addThread)], [], (0, 0), 1)
noncomputable def fX5_takeWord : CF := mth mX5_takeWord 3
def iX6_addStep : List (Nat × Instr × Nat) := [(0, .aload_n 0, 1), (1, .getfield 22, 3), (4, .istore_n 3, 1), (5, .iload_n 3, 1), (6, .ifCond .lt 21, 3), (9, .iload_n 3, 1), (10, .aload_n 0, 1), (11, .getfield 9, 3), (14, .arraylength, 1), (15, .if_icmp .ge 12, 3), (18, .iload_n 3, 1), (19, .aload_n 0, 1), (20, .getfield 15, 3), (23, .arraylength, 1), (24, .if_icmp .lt 4, 3), (27, .return_, 1), (28, .aload_n 0, 1), (29, .getfield 9, 3), (32, .iload_n 3, 1), (33, .aload_n 0, 1), (34, .getfield 18, 3), (37, .iconst 1, 1), (38, .isub, 1), (39, .iastore, 1), (40, .aload_n 0, 1), (41, .getfield 15, 3), (44, .iload_n 3, 1), (45, .iload_n 1, 1), (46, .iastore, 1), (47, .aload_n 0, 1), (48, .dup, 1), (49, .getfield 22, 3), (52, .iconst 1, 1), (53, .iadd, 1), (54, .putfield 22, 3), (57, .iload_n 2, 1), (58, .ifCond .eq 15, 3), (61, .aload_n 0, 1), (62, .dup, 1), (63, .getfield 25, 3), (66, .iconst 1, 1), (67, .iload_n 3, 1), (68, .ishl, 1), (69, .ior, 1), (70, .putfield 25, 3), (73, .iload_n 3, 1), (74, .ifCond .le 30, 3), (77, .aload_n 0, 1), (78, .iload_n 3, 1), (79, .iconst 1, 1), (80, .isub, 1), (81, .invokevirtual 31, 3), (84, .aload_n 0, 1), (85, .iload_n 3, 1), (86, .invokevirtual 31, 3), (89, .if_icmp .ne 15, 3), (92, .aload_n 0, 1), (93, .dup, 1), (94, .getfield 28, 3), (97, .iconst 1, 1), (98, .iload_n 3, 1), (99, .ishl, 1), (100, .ior, 1), (101, .putfield 28, 3), (104, .return_, 1)]
noncomputable def mX6_addStep : MI := (iX6_addStep, [(9, 6, 0), (15, 6, 1), (18, 6, 2), (22, 6, 3), (25, 6, 4), (28, 6, 5)], [], [(31, 2, 0, 0, fX6_threadOf)], [], (0, 0), 0)
noncomputable def fX6_addStep : CF := mth mX6_addStep 4
def iX5_takeCell : List (Nat × Instr × Nat) := [(0, .iload_n 1, 1), (1, .bipush 48, 2), (3, .if_icmp .lt 9, 3), (6, .iload_n 1, 1), (7, .bipush 57, 2), (9, .if_icmp .le 5, 3), (12, .iconst 1, 1), (13, .ireturn, 1), (14, .iload_n 1, 1), (15, .bipush 48, 2), (17, .isub, 1), (18, .iconst 2, 1), (19, .if_icmp .le 5, 3), (22, .iconst 2, 1), (23, .ireturn, 1), (24, .aload_n 2, 1), (25, .iload_n 1, 1), (26, .bipush 48, 2), (28, .isub, 1), (29, .aload_n 0, 1), (30, .getfield 18, 3), (33, .invokevirtual 56, 3), (36, .aload_n 0, 1), (37, .iconst 2, 1), (38, .putfield 15, 3), (41, .iconst 0, 1), (42, .ireturn, 1)]
noncomputable def mX5_takeCell : MI := (iX5_takeCell, [(15, 5, 1), (18, 5, 2)], [], [(56, 3, 0, 0, fX6_addStep)], [], (0, 0), 1)
noncomputable def fX5_takeCell : CF := mth mX5_takeCell 3
def iX5_take : List (Nat × Instr × Nat) := [(0, .aload_n 0, 1), (1, .getfield 15, 3), (4, .ifCond .ne 10, 3), (7, .aload_n 0, 1), (8, .iload_n 1, 1), (9, .aload_n 2, 1), (10, .invokevirtual 40, 3), (13, .ireturn, 1), (14, .aload_n 0, 1), (15, .getfield 15, 3), (18, .iconst 1, 1), (19, .if_icmp .ne 10, 3), (22, .aload_n 0, 1), (23, .iload_n 1, 1), (24, .aload_n 2, 1), (25, .invokevirtual 43, 3), (28, .ireturn, 1), (29, .iload_n 1, 1), (30, .bipush 59, 2), (32, .if_icmp .eq 5, 3), (35, .iconst 1, 1), (36, .ireturn, 1), (37, .aload_n 0, 1), (38, .iconst 0, 1), (39, .putfield 15, 3), (42, .iconst 0, 1), (43, .ireturn, 1)]
noncomputable def mX5_take : MI := (iX5_take, [(15, 5, 1)], [], [(40, 3, 0, 0, fX5_takeWord), (43, 3, 0, 0, fX5_takeCell)], [], (0, 0), 1)
noncomputable def fX5_take : CF := mth mX5_take 3
def iX5_parse : List (Nat × Instr × Nat) := [(0, .aload_n 2, 1), (1, .invokevirtual 22, 3), (4, .aload_n 0, 1), (5, .iconst 0, 1), (6, .putfield 15, 3), (9, .iconst 0, 1), (10, .istore_n 3, 1), (11, .iload_n 3, 1), (12, .aload_n 1, 1), (13, .getfield 27, 3), (16, .if_icmp .ge 49, 3), (19, .aload_n 1, 1), (20, .iload_n 3, 1), (21, .invokevirtual 32, 3), (24, .istore 4, 2), (26, .iload 4, 2), (28, .bipush 32, 2), (30, .if_icmp .ne 7, 3), (33, .iconst 0, 1), (34, .goto 10, 3), (37, .aload_n 0, 1), (38, .iload 4, 2), (40, .aload_n 2, 1), (41, .invokevirtual 36, 3), (44, .istore 5, 2), (46, .iload 5, 2), (48, .ifCond .eq 11, 3), (51, .aload_n 0, 1), (52, .iload_n 3, 1), (53, .putfield 9, 3), (56, .iload 5, 2), (58, .ireturn, 1), (59, .iinc 3 1, 3), (62, .goto (-51), 3), (65, .aload_n 0, 1), (66, .getfield 15, 3), (69, .ifCond .eq 13, 3), (72, .aload_n 0, 1), (73, .aload_n 1, 1), (74, .getfield 27, 3), (77, .putfield 9, 3), (80, .iconst 1, 1), (81, .ireturn, 1), (82, .aload_n 0, 1), (83, .iconst (-1), 1), (84, .putfield 9, 3), (87, .iconst 0, 1), (88, .ireturn, 1)]
noncomputable def mX5_parse : MI := (iX5_parse, [(9, 5, 0), (15, 5, 1), (27, 10, 1)], [], [(22, 1, 0, 0, fX6_clear), (32, 2, 0, 0, fX10_letterAt), (36, 3, 0, 0, fX5_take)], [], (0, 0), 1)
noncomputable def fX5_parse : CF := mth mX5_parse 6
def iX6_init : List (Nat × Instr × Nat) := [(0, .aload_n 0, 1), (1, .invokespecial 3, 3), (4, .aload_n 0, 1), (5, .bipush 8, 2), (7, .newarray .int, 2), (9, .putfield 9, 3), (12, .aload_n 0, 1), (13, .bipush 8, 2), (15, .newarray .int, 2), (17, .putfield 15, 3), (20, .aload_n 0, 1), (21, .iconst 0, 1), (22, .putfield 18, 3), (25, .aload_n 0, 1), (26, .iconst 0, 1), (27, .putfield 22, 3), (30, .aload_n 0, 1), (31, .iconst 0, 1), (32, .putfield 25, 3), (35, .aload_n 0, 1), (36, .iconst 0, 1), (37, .putfield 28, 3), (40, .return_, 1)]
noncomputable def mX6_init : MI := (iX6_init, [(9, 6, 0), (15, 6, 1), (18, 6, 2), (22, 6, 3), (25, 6, 4), (28, 6, 5)], [], [(3, 1, 0, 0, fObj)], [], (2, 16), 0)
noncomputable def fX6_init : CF := mth mX6_init 1
def iX6_hasGap : List (Nat × Instr × Nat) := [(0, .aload_n 0, 1), (1, .iload_n 1, 1), (2, .invokevirtual 35, 3), (5, .ifCond .eq 18, 3), (8, .aload_n 0, 1), (9, .getfield 28, 3), (12, .iload_n 1, 1), (13, .invokestatic 39, 3), (16, .ifCond .eq 7, 3), (19, .iconst 1, 1), (20, .goto 4, 3), (23, .iconst 0, 1), (24, .ireturn, 1)]
noncomputable def mX6_hasGap : MI := (iX6_hasGap, [(28, 6, 5)], [], [(35, 2, 0, 0, fX6_hasStep), (39, 2, 0, 0, fX11_has)], [], (0, 0), 2)
noncomputable def fX6_hasGap : CF := mth mX6_hasGap 2
def iX6_areInConflict : List (Nat × Instr × Nat) := [(0, .aload_n 0, 1), (1, .iload_n 1, 1), (2, .invokevirtual 31, 3), (5, .aload_n 0, 1), (6, .iload_n 2, 1), (7, .invokevirtual 31, 3), (10, .if_icmp .eq 36, 3), (13, .aload_n 0, 1), (14, .iload_n 1, 1), (15, .invokevirtual 43, 3), (18, .aload_n 0, 1), (19, .iload_n 2, 1), (20, .invokevirtual 43, 3), (23, .if_icmp .ne 23, 3), (26, .aload_n 0, 1), (27, .iload_n 1, 1), (28, .invokevirtual 46, 3), (31, .ifCond .ne 11, 3), (34, .aload_n 0, 1), (35, .iload_n 2, 1), (36, .invokevirtual 46, 3), (39, .ifCond .eq 7, 3), (42, .iconst 1, 1), (43, .goto 4, 3), (46, .iconst 0, 1), (47, .ireturn, 1)]
noncomputable def mX6_areInConflict : MI := (iX6_areInConflict, [], [], [(31, 2, 0, 0, fX6_threadOf), (43, 2, 0, 0, fX6_cellOf), (46, 2, 0, 0, fX6_isWriter)], [], (0, 0), 2)
noncomputable def fX6_areInConflict : CF := mth mX6_areInConflict 3
def iX6_conflictsOf : List (Nat × Instr × Nat) := [(0, .iconst 0, 1), (1, .istore_n 2, 1), (2, .iconst 0, 1), (3, .istore_n 3, 1), (4, .iload_n 3, 1), (5, .aload_n 0, 1), (6, .getfield 22, 3), (9, .if_icmp .ge 24, 3), (12, .aload_n 0, 1), (13, .iload_n 1, 1), (14, .iload_n 3, 1), (15, .invokevirtual 49, 3), (18, .ifCond .eq 9, 3), (21, .iload_n 2, 1), (22, .iconst 1, 1), (23, .iload_n 3, 1), (24, .ishl, 1), (25, .ior, 1), (26, .istore_n 2, 1), (27, .iinc 3 1, 3), (30, .goto (-26), 3), (33, .iload_n 2, 1), (34, .ireturn, 1)]
noncomputable def mX6_conflictsOf : MI := (iX6_conflictsOf, [(22, 6, 3)], [], [(49, 3, 0, 0, fX6_areInConflict)], [], (0, 0), 1)
noncomputable def fX6_conflictsOf : CF := mth mX6_conflictsOf 4
def iX7_init : List (Nat × Instr × Nat) := [(0, .aload_n 0, 1), (1, .invokespecial 3, 3), (4, .aload_n 0, 1), (5, .sipush 256, 3), (8, .newarray .int, 2), (10, .putfield 11, 3), (13, .aload_n 0, 1), (14, .iconst 0, 1), (15, .putfield 15, 3), (18, .return_, 1)]
noncomputable def mX7_init : MI := (iX7_init, [(11, 7, 0), (15, 7, 1)], [], [(3, 1, 0, 0, fObj)], [], (1, 256), 0)
noncomputable def fX7_init : CF := mth mX7_init 1
def iX7_countWithout : List (Nat × Instr × Nat) := [(0, .iconst 0, 1), (1, .istore_n 2, 1), (2, .iconst 0, 1), (3, .istore_n 3, 1), (4, .iload_n 3, 1), (5, .aload_n 0, 1), (6, .getfield 15, 3), (9, .if_icmp .ge 24, 3), (12, .aload_n 1, 1), (13, .aload_n 0, 1), (14, .iload_n 3, 1), (15, .invokevirtual 23, 3), (18, .invokevirtual 26, 3), (21, .ifCond .ne 6, 3), (24, .iinc 2 1, 3), (27, .iinc 3 1, 3), (30, .goto (-26), 3), (33, .iload_n 2, 1), (34, .ireturn, 1)]
noncomputable def mX7_countWithout : MI := (iX7_countWithout, [(15, 7, 1)], [], [(23, 2, 0, 0, fX7_at), (26, 2, 0, 0, fX7_holds)], [], (0, 0), 1)
noncomputable def fX7_countWithout : CF := mth mX7_countWithout 4
def iX7_atWithout : List (Nat × Instr × Nat) := [(0, .iconst 0, 1), (1, .istore_n 3, 1), (2, .iconst 0, 1), (3, .istore 4, 2), (5, .iload 4, 2), (7, .aload_n 0, 1), (8, .getfield 15, 3), (11, .if_icmp .ge 37, 3), (14, .aload_n 2, 1), (15, .aload_n 0, 1), (16, .iload 4, 2), (18, .invokevirtual 23, 3), (21, .invokevirtual 26, 3), (24, .ifCond .ne 18, 3), (27, .iload_n 3, 1), (28, .iload_n 1, 1), (29, .if_icmp .ne 10, 3), (32, .aload_n 0, 1), (33, .iload 4, 2), (35, .invokevirtual 23, 3), (38, .ireturn, 1), (39, .iinc 3 1, 3), (42, .iinc 4 1, 3), (45, .goto (-40), 3), (48, .iconst (-1), 1), (49, .ireturn, 1)]
noncomputable def mX7_atWithout : MI := (iX7_atWithout, [(15, 7, 1)], [], [(23, 2, 0, 0, fX7_at), (26, 2, 0, 0, fX7_holds)], [], (0, 0), 1)
noncomputable def fX7_atWithout : CF := mth mX7_atWithout 5
def iX8_init : List (Nat × Instr × Nat) := [(0, .aload_n 0, 1), (1, .invokespecial 3, 3), (4, .aload_n 0, 1), (5, .bipush 36, 2), (7, .newarray .int, 2), (9, .putfield 11, 3), (12, .aload_n 0, 1), (13, .bipush 64, 2), (15, .newarray .int, 2), (17, .putfield 15, 3), (20, .aload_n 0, 1), (21, .iconst 0, 1), (22, .putfield 18, 3), (25, .aload_n 0, 1), (26, .iconst 0, 1), (27, .putfield 22, 3), (30, .return_, 1)]
noncomputable def mX8_init : MI := (iX8_init, [(11, 8, 0), (15, 8, 1), (18, 8, 2), (22, 8, 3)], [], [(3, 1, 0, 0, fObj)], [], (2, 100), 0)
noncomputable def fX8_init : CF := mth mX8_init 1
def iX8_addGift : List (Nat × Instr × Nat) := [(0, .aload_n 0, 1), (1, .getfield 18, 3), (4, .ifCond .lt 35, 3), (7, .aload_n 0, 1), (8, .getfield 18, 3), (11, .aload_n 0, 1), (12, .getfield 11, 3), (15, .arraylength, 1), (16, .if_icmp .ge 23, 3), (19, .aload_n 0, 1), (20, .getfield 11, 3), (23, .aload_n 0, 1), (24, .getfield 18, 3), (27, .iload_n 1, 1), (28, .iastore, 1), (29, .aload_n 0, 1), (30, .dup, 1), (31, .getfield 18, 3), (34, .iconst 1, 1), (35, .iadd, 1), (36, .putfield 18, 3), (39, .return_, 1)]
noncomputable def mX8_addGift : MI := (iX8_addGift, [(11, 8, 0), (18, 8, 2)], [], [], [], (0, 0), 0)
noncomputable def fX8_addGift : CF := mth mX8_addGift 2
def iX8_gatherGifts : List (Nat × Instr × Nat) := [(0, .aload_n 0, 1), (1, .iconst 0, 1), (2, .putfield 18, 3), (5, .iconst 0, 1), (6, .istore_n 2, 1), (7, .iload_n 2, 1), (8, .aload_n 1, 1), (9, .getfield 47, 3), (12, .if_icmp .ge 75, 3), (15, .aload_n 1, 1), (16, .iload_n 2, 1), (17, .invokevirtual 52, 3), (20, .ifCond .eq 12, 3), (23, .aload_n 0, 1), (24, .iload_n 2, 1), (25, .iload_n 2, 1), (26, .invokestatic 43, 3), (29, .invokevirtual 56, 3), (32, .iload_n 2, 1), (33, .iconst 1, 1), (34, .iadd, 1), (35, .istore_n 3, 1), (36, .iload_n 3, 1), (37, .aload_n 1, 1), (38, .getfield 47, 3), (41, .if_icmp .ge 40, 3), (44, .aload_n 1, 1), (45, .iload_n 2, 1), (46, .iload_n 3, 1), (47, .invokevirtual 60, 3), (50, .ifCond .eq 25, 3), (53, .aload_n 1, 1), (54, .iload_n 2, 1), (55, .invokevirtual 64, 3), (58, .aload_n 1, 1), (59, .iload_n 3, 1), (60, .invokevirtual 64, 3), (63, .if_icmp .eq 12, 3), (66, .aload_n 0, 1), (67, .iload_n 2, 1), (68, .iload_n 3, 1), (69, .invokestatic 43, 3), (72, .invokevirtual 56, 3), (75, .iinc 3 1, 3), (78, .goto (-42), 3), (81, .iinc 2 1, 3), (84, .goto (-77), 3), (87, .return_, 1)]
noncomputable def mX8_gatherGifts : MI := (iX8_gatherGifts, [(18, 8, 2), (47, 6, 3)], [], [(43, 2, 0, 0, fX8_giftOf), (52, 2, 0, 0, fX6_isWriter), (56, 2, 0, 0, fX8_addGift), (60, 3, 0, 0, fX6_isAhead), (64, 2, 0, 0, fX6_cellOf)], [], (0, 0), 0)
noncomputable def fX8_gatherGifts : CF := mth mX8_gatherGifts 4
def iX8_giftAt : List (Nat × Instr × Nat) := [(0, .iload_n 1, 1), (1, .ifCond .lt 21, 3), (4, .iload_n 1, 1), (5, .aload_n 0, 1), (6, .getfield 11, 3), (9, .arraylength, 1), (10, .if_icmp .ge 12, 3), (13, .aload_n 0, 1), (14, .getfield 11, 3), (17, .iload_n 1, 1), (18, .iaload, 1), (19, .goto 4, 3), (22, .iconst 0, 1), (23, .ireturn, 1)]
noncomputable def mX8_giftAt : MI := (iX8_giftAt, [(11, 8, 0)], [], [], [], (0, 0), 1)
noncomputable def fX8_giftAt : CF := mth mX8_giftAt 2
def iX8_firstOf : List (Nat × Instr × Nat) := [(0, .iload_n 0, 1), (1, .bipush 8, 2), (3, .idiv, 1), (4, .ireturn, 1)]
noncomputable def mX8_firstOf : MI := (iX8_firstOf, [], [], [], [], (0, 0), 1)
noncomputable def fX8_firstOf : CF := mth mX8_firstOf 1
def iX8_lastOf : List (Nat × Instr × Nat) := [(0, .iload_n 0, 1), (1, .bipush 8, 2), (3, .irem, 1), (4, .ireturn, 1)]
noncomputable def mX8_lastOf : MI := (iX8_lastOf, [], [], [], [], (0, 0), 1)
noncomputable def fX8_lastOf : CF := mth mX8_lastOf 1
def iX8_isAlone : List (Nat × Instr × Nat) := [(0, .iload_n 0, 1), (1, .invokestatic 67, 3), (4, .iload_n 0, 1), (5, .invokestatic 83, 3), (8, .if_icmp .ne 7, 3), (11, .iconst 1, 1), (12, .goto 4, 3), (15, .iconst 0, 1), (16, .ireturn, 1)]
noncomputable def mX8_isAlone : MI := (iX8_isAlone, [], [], [(67, 1, 0, 0, fX8_firstOf), (83, 1, 0, 0, fX8_lastOf)], [], (0, 0), 2)
noncomputable def fX8_isAlone : CF := mth mX8_isAlone 1
def iX8_leadsTo : List (Nat × Instr × Nat) := [(0, .iload_n 2, 1), (1, .invokestatic 83, 3), (4, .istore 4, 2), (6, .iload_n 3, 1), (7, .invokestatic 67, 3), (10, .istore 5, 2), (12, .aload_n 1, 1), (13, .iload 4, 2), (15, .iload 5, 2), (17, .invokevirtual 86, 3), (20, .ifCond .ne 5, 3), (23, .iconst 0, 1), (24, .ireturn, 1), (25, .iload_n 2, 1), (26, .invokestatic 77, 3), (29, .ifCond .eq 12, 3), (32, .aload_n 1, 1), (33, .iload 5, 2), (35, .invokevirtual 52, 3), (38, .ifCond .ne 23, 3), (41, .iload_n 3, 1), (42, .invokestatic 77, 3), (45, .ifCond .eq 12, 3), (48, .aload_n 1, 1), (49, .iload 4, 2), (51, .invokevirtual 52, 3), (54, .ifCond .ne 7, 3), (57, .iconst 1, 1), (58, .goto 4, 3), (61, .iconst 0, 1), (62, .ireturn, 1)]
noncomputable def mX8_leadsTo : MI := (iX8_leadsTo, [], [], [(52, 2, 0, 0, fX6_isWriter), (67, 1, 0, 0, fX8_firstOf), (77, 1, 0, 0, fX8_isAlone), (83, 1, 0, 0, fX8_lastOf), (86, 3, 0, 0, fX6_areInConflict)], [], (0, 0), 2)
noncomputable def fX8_leadsTo : CF := mth mX8_leadsTo 6
def iX8_countGiven : List (Nat × Instr × Nat) := [(0, .iload_n 1, 1), (1, .ifCond .lt 22, 3), (4, .iload_n 1, 1), (5, .aload_n 0, 1), (6, .getfield 15, 3), (9, .arraylength, 1), (10, .if_icmp .ge 13, 3), (13, .aload_n 0, 1), (14, .getfield 15, 3), (17, .iload_n 1, 1), (18, .dup2, 1), (19, .iaload, 1), (20, .iconst 1, 1), (21, .iadd, 1), (22, .iastore, 1), (23, .return_, 1)]
noncomputable def mX8_countGiven : MI := (iX8_countGiven, [(15, 8, 1)], [], [], [], (0, 0), 0)
noncomputable def fX8_countGiven : CF := mth mX8_countGiven 2
def iX8_findBegunWith : List (Nat × Instr × Nat) := [(0, .aload_n 1, 1), (1, .iload_n 2, 1), (2, .invokestatic 67, 3), (5, .invokevirtual 70, 3), (8, .istore 4, 2), (10, .aload_n 1, 1), (11, .iload_n 3, 1), (12, .invokestatic 67, 3), (15, .invokevirtual 70, 3), (18, .istore 5, 2), (20, .iload 4, 2), (22, .iload 5, 2), (24, .if_icmp .ge 13, 3), (27, .aload_n 0, 1), (28, .aload_n 1, 1), (29, .iload_n 2, 1), (30, .iload_n 3, 1), (31, .invokevirtual 73, 3), (34, .ifCond .ne 4, 3), (37, .return_, 1), (38, .iload_n 2, 1), (39, .invokestatic 77, 3), (42, .ifCond .ne 40, 3), (45, .iload_n 3, 1), (46, .invokestatic 77, 3), (49, .ifCond .ne 33, 3), (52, .aload_n 0, 1), (53, .aload_n 1, 1), (54, .iload_n 3, 1), (55, .iload_n 2, 1), (56, .invokevirtual 73, 3), (59, .ifCond .eq 23, 3), (62, .aload_n 0, 1), (63, .dup, 1), (64, .getfield 22, 3), (67, .iconst 1, 1), (68, .iadd, 1), (69, .putfield 22, 3), (72, .aload_n 0, 1), (73, .iload_n 2, 1), (74, .invokevirtual 80, 3), (77, .aload_n 0, 1), (78, .iload_n 3, 1), (79, .invokevirtual 80, 3), (82, .iconst 0, 1), (83, .istore 6, 2), (85, .iload 6, 2), (87, .aload_n 0, 1), (88, .getfield 18, 3), (91, .if_icmp .ge 90, 3), (94, .aload_n 0, 1), (95, .iload 6, 2), (97, .invokevirtual 35, 3), (100, .istore 7, 2), (102, .aload_n 1, 1), (103, .iload 7, 2), (105, .invokestatic 67, 3), (108, .invokevirtual 70, 3), (111, .istore 8, 2), (113, .iload 4, 2), (115, .iload 8, 2), (117, .if_icmp .ge 58, 3), (120, .iload 5, 2), (122, .iload 8, 2), (124, .if_icmp .eq 51, 3), (127, .aload_n 0, 1), (128, .aload_n 1, 1), (129, .iload_n 3, 1), (130, .iload 7, 2), (132, .invokevirtual 73, 3), (135, .ifCond .eq 40, 3), (138, .aload_n 0, 1), (139, .aload_n 1, 1), (140, .iload 7, 2), (142, .iload_n 2, 1), (143, .invokevirtual 73, 3), (146, .ifCond .eq 29, 3), (149, .aload_n 0, 1), (150, .dup, 1), (151, .getfield 22, 3), (154, .iconst 1, 1), (155, .iadd, 1), (156, .putfield 22, 3), (159, .aload_n 0, 1), (160, .iload_n 2, 1), (161, .invokevirtual 80, 3), (164, .aload_n 0, 1), (165, .iload_n 3, 1), (166, .invokevirtual 80, 3), (169, .aload_n 0, 1), (170, .iload 7, 2), (172, .invokevirtual 80, 3), (175, .iinc 6 1, 3), (178, .goto (-93), 3), (181, .return_, 1)]
noncomputable def mX8_findBegunWith : MI := (iX8_findBegunWith, [(18, 8, 2), (22, 8, 3)], [], [(35, 2, 0, 0, fX8_giftAt), (67, 1, 0, 0, fX8_firstOf), (70, 2, 0, 0, fX6_threadOf), (73, 4, 0, 0, fX8_leadsTo), (77, 1, 0, 0, fX8_isAlone), (80, 2, 0, 0, fX8_countGiven)], [], (0, 0), 0)
noncomputable def fX8_findBegunWith : CF := mth mX8_findBegunWith 9
def iX8_find : List (Nat × Instr × Nat) := [(0, .aload_n 0, 1), (1, .getfield 15, 3), (4, .iconst 0, 1), (5, .invokestatic 25, 3), (8, .aload_n 0, 1), (9, .iconst 0, 1), (10, .putfield 22, 3), (13, .aload_n 0, 1), (14, .aload_n 1, 1), (15, .invokevirtual 31, 3), (18, .iconst 0, 1), (19, .istore_n 2, 1), (20, .iload_n 2, 1), (21, .aload_n 0, 1), (22, .getfield 18, 3), (25, .if_icmp .ge 40, 3), (28, .iconst 0, 1), (29, .istore_n 3, 1), (30, .iload_n 3, 1), (31, .aload_n 0, 1), (32, .getfield 18, 3), (35, .if_icmp .ge 24, 3), (38, .aload_n 0, 1), (39, .aload_n 1, 1), (40, .aload_n 0, 1), (41, .iload_n 2, 1), (42, .invokevirtual 35, 3), (45, .aload_n 0, 1), (46, .iload_n 3, 1), (47, .invokevirtual 35, 3), (50, .invokevirtual 39, 3), (53, .iinc 3 1, 3), (56, .goto (-26), 3), (59, .iinc 2 1, 3), (62, .goto (-42), 3), (65, .return_, 1)]
noncomputable def mX8_find : MI := (iX8_find, [(15, 8, 1), (18, 8, 2), (22, 8, 3)], [], [(25, 2, 0, 0, fJ7_fill_53178), (31, 2, 0, 0, fX8_gatherGifts), (35, 2, 0, 0, fX8_giftAt), (39, 4, 0, 0, fX8_findBegunWith)], [], (0, 0), 0)
noncomputable def fX8_find : CF := mth mX8_find 4
def iX9_setFence : List (Nat × Instr × Nat) := [(0, .aload_n 0, 1), (1, .iload_n 2, 1), (2, .ifCond .eq 14, 3), (5, .aload_n 0, 1), (6, .getfield 24, 3), (9, .iconst 1, 1), (10, .iload_n 1, 1), (11, .ishl, 1), (12, .ior, 1), (13, .goto 13, 3), (16, .aload_n 0, 1), (17, .getfield 24, 3), (20, .iconst 1, 1), (21, .iload_n 1, 1), (22, .ishl, 1), (23, .iconst (-1), 1), (24, .ixor, 1), (25, .iand, 1), (26, .putfield 24, 3), (29, .return_, 1)]
noncomputable def mX9_setFence : MI := (iX9_setFence, [(24, 9, 1)], [], [], [], (0, 0), 0)
noncomputable def fX9_setFence : CF := mth mX9_setFence 3
def iX9_setCost : List (Nat × Instr × Nat) := [(0, .iload_n 1, 1), (1, .ifCond .lt 19, 3), (4, .iload_n 1, 1), (5, .aload_n 0, 1), (6, .getfield 9, 3), (9, .arraylength, 1), (10, .if_icmp .ge 10, 3), (13, .aload_n 0, 1), (14, .getfield 9, 3), (17, .iload_n 1, 1), (18, .iload_n 2, 1), (19, .iastore, 1), (20, .return_, 1)]
noncomputable def mX9_setCost : MI := (iX9_setCost, [(9, 9, 0)], [], [], [], (0, 0), 0)
noncomputable def fX9_setCost : CF := mth mX9_setCost 3
def iX10_init : List (Nat × Instr × Nat) := [(0, .aload_n 0, 1), (1, .invokespecial 3, 3), (4, .aload_n 0, 1), (5, .bipush 120, 2), (7, .newarray .int, 2), (9, .putfield 9, 3), (12, .aload_n 0, 1), (13, .iconst 0, 1), (14, .putfield 15, 3), (17, .return_, 1)]
noncomputable def mX10_init : MI := (iX10_init, [(9, 10, 0), (15, 10, 1)], [], [(3, 1, 0, 0, fObj)], [], (1, 120), 0)
noncomputable def fX10_init : CF := mth mX10_init 1
def iX10_add : List (Nat × Instr × Nat) := [(0, .aload_n 0, 1), (1, .getfield 15, 3), (4, .ifCond .lt 15, 3), (7, .aload_n 0, 1), (8, .getfield 15, 3), (11, .aload_n 0, 1), (12, .getfield 9, 3), (15, .arraylength, 1), (16, .if_icmp .lt 5, 3), (19, .iconst 0, 1), (20, .ireturn, 1), (21, .aload_n 0, 1), (22, .getfield 9, 3), (25, .aload_n 0, 1), (26, .getfield 15, 3), (29, .iload_n 1, 1), (30, .iastore, 1), (31, .aload_n 0, 1), (32, .dup, 1), (33, .getfield 15, 3), (36, .iconst 1, 1), (37, .iadd, 1), (38, .putfield 15, 3), (41, .iconst 1, 1), (42, .ireturn, 1)]
noncomputable def mX10_add : MI := (iX10_add, [(9, 10, 0), (15, 10, 1)], [], [], [], (0, 0), 2)
noncomputable def fX10_add : CF := mth mX10_add 2
def iX10_clear : List (Nat × Instr × Nat) := [(0, .aload_n 0, 1), (1, .iconst 0, 1), (2, .putfield 15, 3), (5, .return_, 1)]
noncomputable def mX10_clear : MI := (iX10_clear, [(15, 10, 1)], [], [], [], (0, 0), 0)
noncomputable def fX10_clear : CF := mth mX10_clear 1
def iX11_init : List (Nat × Instr × Nat) := [(0, .aload_n 0, 1), (1, .invokespecial 1, 3), (4, .aload_n 0, 1), (5, .new 7, 3), (8, .dup, 1), (9, .invokespecial 9, 3), (12, .putfield 10, 3), (15, .aload_n 0, 1), (16, .new 16, 3), (19, .dup, 1), (20, .invokespecial 18, 3), (23, .putfield 19, 3), (26, .aload_n 0, 1), (27, .new 23, 3), (30, .dup, 1), (31, .invokespecial 25, 3), (34, .putfield 26, 3), (37, .aload_n 0, 1), (38, .new 23, 3), (41, .dup, 1), (42, .invokespecial 25, 3), (45, .putfield 30, 3), (48, .aload_n 0, 1), (49, .new 33, 3), (52, .dup, 1), (53, .invokespecial 35, 3), (56, .putfield 36, 3), (59, .aload_n 0, 1), (60, .new 40, 3), (63, .dup, 1), (64, .invokespecial 42, 3), (67, .putfield 43, 3), (70, .aload_n 0, 1), (71, .new 47, 3), (74, .dup, 1), (75, .invokespecial 49, 3), (78, .putfield 50, 3), (81, .aload_n 0, 1), (82, .new 54, 3), (85, .dup, 1), (86, .invokespecial 56, 3), (89, .putfield 57, 3), (92, .aload_n 0, 1), (93, .iconst 2, 1), (94, .anewarray 61, 3), (97, .putfield 63, 3), (100, .iconst 0, 1), (101, .istore_n 1, 1), (102, .iload_n 1, 1), (103, .aload_n 0, 1), (104, .getfield 63, 3), (107, .arraylength, 1), (108, .if_icmp .ge 22, 3), (111, .aload_n 0, 1), (112, .getfield 63, 3), (115, .iload_n 1, 1), (116, .new 61, 3), (119, .dup, 1), (120, .invokespecial 67, 3), (123, .aastore, 1), (124, .iinc 1 1, 3), (127, .goto (-25), 3), (130, .aload_n 0, 1), (131, .new 68, 3), (134, .dup, 1), (135, .invokespecial 70, 3), (138, .putfield 71, 3), (141, .aload_n 0, 1), (142, .new 75, 3), (145, .dup, 1), (146, .invokespecial 77, 3), (149, .putfield 78, 3), (152, .aload_n 0, 1), (153, .new 82, 3), (156, .dup, 1), (157, .invokespecial 84, 3), (160, .putfield 85, 3), (163, .aload_n 0, 1), (164, .new 82, 3), (167, .dup, 1), (168, .invokespecial 84, 3), (171, .putfield 89, 3), (174, .aload_n 0, 1), (175, .iconst 0, 1), (176, .putfield 92, 3), (179, .aload_n 0, 1), (180, .iconst 0, 1), (181, .putfield 96, 3), (184, .aload_n 0, 1), (185, .iconst 0, 1), (186, .putfield 100, 3), (189, .aload_n 0, 1), (190, .iconst 0, 1), (191, .putfield 103, 3), (194, .aload_n 0, 1), (195, .iconst 0, 1), (196, .putfield 106, 3), (199, .aload_n 0, 1), (200, .iconst (-1), 1), (201, .putfield 109, 3), (204, .return_, 1)]
noncomputable def mX11_init : MI := (iX11_init, [(10, 11, 0), (19, 11, 1), (26, 11, 2), (30, 11, 3), (36, 11, 4), (43, 11, 5), (50, 11, 6), (57, 11, 7), (63, 11, 8), (71, 11, 9), (78, 11, 10), (85, 11, 11), (89, 11, 12), (92, 11, 13), (96, 11, 14), (100, 11, 15), (103, 11, 16), (106, 11, 17), (109, 11, 18)], [], [(1, 1, 0, 0, fObj), (9, 1, 1, 120, fX10_init), (18, 1, 0, 0, fX5_init), (25, 1, 2, 16, fX6_init), (35, 1, 2, 100, fX8_init), (42, 1, 1, 28, fX3_init), (49, 1, 1, 8, fX9_init), (56, 1, 41, 240, fX1_init), (67, 1, 2, 11, fX2_init), (70, 1, 1, 20, fX0_init), (77, 1, 5, 2064, fX4_init), (84, 1, 1, 256, fX7_init)], [(7, 10), (16, 5), (23, 6), (33, 8), (40, 3), (47, 9), (54, 1), (61, 2), (68, 0), (75, 4), (82, 7)], (77, 3197), 0)
noncomputable def fX11_init : CF := mth mX11_init 2
def iX11_feed : List (Nat × Instr × Nat) := [(0, .iload_n 1, 1), (1, .ifCond .lt 10, 3), (4, .iload_n 1, 1), (5, .sipush 255, 3), (8, .if_icmp .le 6, 3), (11, .ldc 112, 2), (13, .ireturn, 1), (14, .aload_n 0, 1), (15, .getfield 10, 3), (18, .iload_n 1, 1), (19, .invokevirtual 113, 3), (22, .ifCond .eq 13, 3), (25, .aload_n 0, 1), (26, .getfield 10, 3), (29, .getfield 117, 3), (32, .goto 5, 3), (35, .ldc 120, 2), (37, .ireturn, 1)]
noncomputable def mX11_feed : MI := (iX11_feed, [(10, 11, 0), (117, 10, 1)], [(112, .int (-1000000002)), (120, .int (-1000000004))], [(113, 2, 0, 0, fX10_add)], [], (0, 0), 1)
noncomputable def fX11_feed : CF := mth mX11_feed 2
def iX11_startAnew : List (Nat × Instr × Nat) := [(0, .aload_n 0, 1), (1, .getfield 36, 3), (4, .aload_n 0, 1), (5, .getfield 26, 3), (8, .invokevirtual 276, 3), (11, .aload_n 0, 1), (12, .getfield 50, 3), (15, .invokevirtual 280, 3), (18, .aload_n 0, 1), (19, .getfield 57, 3), (22, .invokevirtual 265, 3), (25, .iconst 0, 1), (26, .istore_n 1, 1), (27, .iload_n 1, 1), (28, .aload_n 0, 1), (29, .getfield 63, 3), (32, .arraylength, 1), (33, .if_icmp .ge 19, 3), (36, .aload_n 0, 1), (37, .getfield 63, 3), (40, .iload_n 1, 1), (41, .aaload, 1), (42, .iconst 0, 1), (43, .putfield 266, 3), (46, .iinc 1 1, 3), (49, .goto (-22), 3), (52, .aload_n 0, 1), (53, .getfield 71, 3), (56, .invokevirtual 260, 3), (59, .aload_n 0, 1), (60, .iconst 0, 1), (61, .putfield 92, 3), (64, .aload_n 0, 1), (65, .iconst 0, 1), (66, .putfield 103, 3), (69, .return_, 1)]
noncomputable def mX11_startAnew : MI := (iX11_startAnew, [(26, 11, 2), (36, 11, 4), (50, 11, 6), (57, 11, 7), (63, 11, 8), (71, 11, 9), (92, 11, 13), (103, 11, 16), (266, 2, 2)], [], [(260, 1, 0, 0, fX0_clear), (265, 1, 0, 0, fX1_clear), (276, 2, 0, 0, fX8_find), (280, 1, 0, 0, fX9_clear)], [], (0, 0), 0)
noncomputable def fX11_startAnew : CF := mth mX11_startAnew 2
def iX11_threads : List (Nat × Instr × Nat) := [(0, .aload_n 0, 1), (1, .getfield 19, 3), (4, .aload_n 0, 1), (5, .getfield 10, 3), (8, .aload_n 0, 1), (9, .getfield 30, 3), (12, .invokevirtual 121, 3), (15, .istore_n 1, 1), (16, .aload_n 0, 1), (17, .aload_n 0, 1), (18, .getfield 19, 3), (21, .getfield 125, 3), (24, .putfield 109, 3), (27, .aload_n 0, 1), (28, .getfield 10, 3), (31, .invokevirtual 126, 3), (34, .iload_n 1, 1), (35, .ifCond .eq 8, 3), (38, .bipush (-10), 2), (40, .iload_n 1, 1), (41, .isub, 1), (42, .ireturn, 1), (43, .aload_n 0, 1), (44, .getfield 26, 3), (47, .astore_n 2, 1), (48, .aload_n 0, 1), (49, .aload_n 0, 1), (50, .getfield 30, 3), (53, .putfield 26, 3), (56, .aload_n 0, 1), (57, .aload_n 2, 1), (58, .putfield 30, 3), (61, .aload_n 0, 1), (62, .invokevirtual 129, 3), (65, .aload_n 0, 1), (66, .getfield 26, 3), (69, .getfield 132, 3), (72, .ireturn, 1)]
noncomputable def mX11_threads : MI := (iX11_threads, [(10, 11, 0), (19, 11, 1), (26, 11, 2), (30, 11, 3), (109, 11, 18), (125, 5, 0), (132, 6, 3)], [], [(121, 3, 0, 0, fX5_parse), (126, 1, 0, 0, fX10_clear), (129, 1, 0, 0, fX11_startAnew)], [], (0, 0), 1)
noncomputable def fX11_threads : CF := mth mX11_threads 3
def iX11_fault : List (Nat × Instr × Nat) := [(0, .aload_n 0, 1), (1, .getfield 109, 3), (4, .ireturn, 1)]
noncomputable def mX11_fault : MI := (iX11_fault, [(109, 11, 18)], [], [], [], (0, 0), 1)
noncomputable def fX11_fault : CF := mth mX11_fault 1
def iX11_readingsNow : List (Nat × Instr × Nat) := [(0, .aload_n 0, 1), (1, .getfield 92, 3), (4, .ifCond .eq 31, 3), (7, .aload_n 0, 1), (8, .getfield 96, 3), (11, .aload_n 0, 1), (12, .getfield 50, 3), (15, .getfield 141, 3), (18, .if_icmp .ne 17, 3), (21, .aload_n 0, 1), (22, .getfield 100, 3), (25, .aload_n 0, 1), (26, .getfield 50, 3), (29, .getfield 138, 3), (32, .if_icmp .eq 59, 3), (35, .aload_n 0, 1), (36, .getfield 78, 3), (39, .aload_n 0, 1), (40, .getfield 26, 3), (43, .aload_n 0, 1), (44, .getfield 50, 3), (47, .getfield 141, 3), (50, .aload_n 0, 1), (51, .getfield 50, 3), (54, .getfield 138, 3), (57, .aload_n 0, 1), (58, .getfield 85, 3), (61, .invokevirtual 293, 3), (64, .aload_n 0, 1), (65, .iconst 1, 1), (66, .putfield 92, 3), (69, .aload_n 0, 1), (70, .aload_n 0, 1), (71, .getfield 50, 3), (74, .getfield 141, 3), (77, .putfield 96, 3), (80, .aload_n 0, 1), (81, .aload_n 0, 1), (82, .getfield 50, 3), (85, .getfield 138, 3), (88, .putfield 100, 3), (91, .aload_n 0, 1), (92, .getfield 85, 3), (95, .areturn, 1)]
noncomputable def mX11_readingsNow : MI := (iX11_readingsNow, [(26, 11, 2), (50, 11, 6), (78, 11, 10), (85, 11, 11), (92, 11, 13), (96, 11, 14), (100, 11, 15), (138, 9, 2), (141, 9, 1)], [], [(293, 5, 0, 0, fX4_findReadings)], [], (0, 0), 4)
noncomputable def fX11_readingsNow : CF := mth mX11_readingsNow 1
def iX11_strictNow : List (Nat × Instr × Nat) := [(0, .aload_n 0, 1), (1, .getfield 103, 3), (4, .ifCond .ne 25, 3), (7, .aload_n 0, 1), (8, .getfield 78, 3), (11, .aload_n 0, 1), (12, .getfield 26, 3), (15, .iconst 0, 1), (16, .iconst 0, 1), (17, .aload_n 0, 1), (18, .getfield 89, 3), (21, .invokevirtual 293, 3), (24, .aload_n 0, 1), (25, .iconst 1, 1), (26, .putfield 103, 3), (29, .aload_n 0, 1), (30, .getfield 89, 3), (33, .areturn, 1)]
noncomputable def mX11_strictNow : MI := (iX11_strictNow, [(26, 11, 2), (78, 11, 10), (89, 11, 12), (103, 11, 16)], [], [(293, 5, 0, 0, fX4_findReadings)], [], (0, 0), 4)
noncomputable def fX11_strictNow : CF := mth mX11_strictNow 1
def iX11_looseNow : List (Nat × Instr × Nat) := [(0, .aload_n 0, 1), (1, .getfield 43, 3), (4, .aload_n 0, 1), (5, .getfield 26, 3), (8, .aload_n 0, 1), (9, .getfield 36, 3), (12, .aload_n 0, 1), (13, .getfield 50, 3), (16, .getfield 138, 3), (19, .invokevirtual 297, 3), (22, .aload_n 0, 1), (23, .getfield 43, 3), (26, .areturn, 1)]
noncomputable def mX11_looseNow : MI := (iX11_looseNow, [(26, 11, 2), (36, 11, 4), (43, 11, 5), (50, 11, 6), (138, 9, 2)], [], [(297, 4, 0, 0, fX3_gather)], [], (0, 0), 4)
noncomputable def fX11_looseNow : CF := mth mX11_looseNow 1
def iX11_bestSet : List (Nat × Instr × Nat) := [(0, .aload_n 0, 1), (1, .invokevirtual 163, 3), (4, .aload_n 0, 1), (5, .getfield 26, 3), (8, .getfield 301, 3), (11, .aload_n 0, 1), (12, .getfield 50, 3), (15, .invokevirtual 304, 3), (18, .ireturn, 1)]
noncomputable def mX11_bestSet : MI := (iX11_bestSet, [(26, 11, 2), (50, 11, 6), (301, 6, 5)], [], [(163, 1, 0, 0, fX11_looseNow), (304, 3, 0, 0, fX3_cheapestSet)], [], (0, 0), 1)
noncomputable def fX11_bestSet : CF := mth mX11_bestSet 1
def iX11_told : List (Nat × Instr × Nat) := [(0, .iload_n 1, 1), (1, .tableswitch 288 0 18 #[91, 99, 107, 115, 123, 131, 146, 154, 162, 174, 182, 190, 205, 228, 233, 245, 260, 268, 280], 91), (92, .aload_n 0, 1), (93, .getfield 26, 3), (96, .getfield 135, 3), (99, .ireturn, 1), (100, .aload_n 0, 1), (101, .getfield 26, 3), (104, .getfield 132, 3), (107, .ireturn, 1), (108, .aload_n 0, 1), (109, .getfield 10, 3), (112, .getfield 117, 3), (115, .ireturn, 1), (116, .aload_n 0, 1), (117, .getfield 50, 3), (120, .getfield 138, 3), (123, .ireturn, 1), (124, .aload_n 0, 1), (125, .getfield 50, 3), (128, .getfield 141, 3), (131, .ireturn, 1), (132, .aload_n 0, 1), (133, .getfield 50, 3), (136, .aload_n 0, 1), (137, .getfield 50, 3), (140, .getfield 141, 3), (143, .invokevirtual 144, 3), (146, .ireturn, 1), (147, .aload_n 0, 1), (148, .invokevirtual 148, 3), (151, .getfield 152, 3), (154, .ireturn, 1), (155, .aload_n 0, 1), (156, .invokevirtual 155, 3), (159, .getfield 152, 3), (162, .ireturn, 1), (163, .aload_n 0, 1), (164, .invokevirtual 148, 3), (167, .aload_n 0, 1), (168, .invokevirtual 155, 3), (171, .invokevirtual 158, 3), (174, .ireturn, 1), (175, .aload_n 0, 1), (176, .getfield 36, 3), (179, .getfield 162, 3), (182, .ireturn, 1), (183, .aload_n 0, 1), (184, .invokevirtual 163, 3), (187, .getfield 167, 3), (190, .ireturn, 1), (191, .aload_n 0, 1), (192, .invokevirtual 163, 3), (195, .aload_n 0, 1), (196, .getfield 50, 3), (199, .getfield 141, 3), (202, .invokevirtual 168, 3), (205, .ireturn, 1), (206, .aload_n 0, 1), (207, .invokevirtual 163, 3), (210, .aload_n 0, 1), (211, .getfield 50, 3), (214, .getfield 141, 3), (217, .invokevirtual 171, 3), (220, .ifCond .eq 7, 3), (223, .iconst 1, 1), (224, .goto 4, 3), (227, .iconst 0, 1), (228, .ireturn, 1), (229, .aload_n 0, 1), (230, .invokevirtual 174, 3), (233, .ireturn, 1), (234, .aload_n 0, 1), (235, .getfield 50, 3), (238, .aload_n 0, 1), (239, .invokevirtual 174, 3), (242, .invokevirtual 144, 3), (245, .ireturn, 1), (246, .aload_n 0, 1), (247, .invokevirtual 163, 3), (250, .aload_n 0, 1), (251, .getfield 50, 3), (254, .getfield 141, 3), (257, .invokevirtual 178, 3), (260, .ireturn, 1), (261, .aload_n 0, 1), (262, .getfield 71, 3), (265, .getfield 181, 3), (268, .ireturn, 1), (269, .aload_n 0, 1), (270, .getfield 71, 3), (273, .aload_n 0, 1), (274, .invokevirtual 148, 3), (277, .invokevirtual 182, 3), (280, .ireturn, 1), (281, .aload_n 0, 1), (282, .getfield 57, 3), (285, .getfield 185, 3), (288, .ireturn, 1), (289, .ldc 112, 2), (291, .ireturn, 1)]
noncomputable def mX11_told : MI := (iX11_told, [(10, 11, 0), (26, 11, 2), (36, 11, 4), (50, 11, 6), (57, 11, 7), (71, 11, 9), (117, 10, 1), (132, 6, 3), (135, 6, 2), (138, 9, 2), (141, 9, 1), (152, 7, 1), (162, 8, 3), (167, 3, 1), (181, 0, 2), (185, 1, 2)], [(112, .int (-1000000002))], [(144, 2, 0, 0, fX9_costOfSet), (148, 1, 0, 0, fX11_readingsNow), (155, 1, 0, 0, fX11_strictNow), (158, 2, 0, 0, fX7_countWithout), (163, 1, 0, 0, fX11_looseNow), (168, 2, 0, 0, fX3_countHeld), (171, 2, 0, 0, fX3_areAllHeld), (174, 1, 0, 0, fX11_bestSet), (178, 2, 0, 0, fX3_neededOf), (182, 2, 0, 0, fX0_firstWrong)], [], (0, 0), 1)
noncomputable def fX11_told : CF := mth mX11_told 2
def iX11_step : List (Nat × Instr × Nat) := [(0, .aload_n 0, 1), (1, .getfield 26, 3), (4, .iload_n 1, 1), (5, .invokevirtual 186, 3), (8, .ifCond .ne 6, 3), (11, .ldc 189, 2), (13, .ireturn, 1), (14, .iload_n 2, 1), (15, .tableswitch 158 0 6 #[41, 50, 59, 76, 100, 126, 149], 41), (56, .aload_n 0, 1), (57, .getfield 26, 3), (60, .iload_n 1, 1), (61, .invokevirtual 190, 3), (64, .ireturn, 1), (65, .aload_n 0, 1), (66, .getfield 26, 3), (69, .iload_n 1, 1), (70, .invokevirtual 193, 3), (73, .ireturn, 1), (74, .aload_n 0, 1), (75, .getfield 26, 3), (78, .iload_n 1, 1), (79, .invokevirtual 196, 3), (82, .ifCond .eq 7, 3), (85, .iconst 1, 1), (86, .goto 4, 3), (89, .iconst 0, 1), (90, .ireturn, 1), (91, .aload_n 0, 1), (92, .getfield 26, 3), (95, .iload_n 1, 1), (96, .invokevirtual 199, 3), (99, .ifCond .eq 14, 3), (102, .aload_n 0, 1), (103, .getfield 50, 3), (106, .iload_n 1, 1), (107, .invokevirtual 202, 3), (110, .goto 4, 3), (113, .iconst (-1), 1), (114, .ireturn, 1), (115, .aload_n 0, 1), (116, .getfield 26, 3), (119, .iload_n 1, 1), (120, .invokevirtual 199, 3), (123, .ifCond .eq 16, 3), (126, .aload_n 0, 1), (127, .invokevirtual 163, 3), (130, .iconst 1, 1), (131, .iload_n 1, 1), (132, .ishl, 1), (133, .invokevirtual 168, 3), (136, .goto 4, 3), (139, .iconst (-1), 1), (140, .ireturn, 1), (141, .aload_n 0, 1), (142, .getfield 26, 3), (145, .iload_n 1, 1), (146, .aload_n 0, 1), (147, .getfield 50, 3), (150, .getfield 141, 3), (153, .aload_n 0, 1), (154, .getfield 50, 3), (157, .getfield 138, 3), (160, .invokevirtual 205, 3), (163, .ireturn, 1), (164, .aload_n 0, 1), (165, .getfield 26, 3), (168, .iload_n 1, 1), (169, .invokevirtual 209, 3), (172, .ireturn, 1), (173, .ldc 112, 2), (175, .ireturn, 1)]
noncomputable def mX11_step : MI := (iX11_step, [(26, 11, 2), (50, 11, 6), (138, 9, 2), (141, 9, 1)], [(112, .int (-1000000002)), (189, .int (-1000000001))], [(163, 1, 0, 0, fX11_looseNow), (168, 2, 0, 0, fX3_countHeld), (186, 2, 0, 0, fX6_hasStep), (190, 2, 0, 0, fX6_threadOf), (193, 2, 0, 0, fX6_cellOf), (196, 2, 0, 0, fX6_isWriter), (199, 2, 0, 0, fX6_hasGap), (202, 2, 0, 0, fX9_costOf), (205, 4, 0, 0, fX6_waitsOf), (209, 2, 0, 0, fX6_conflictsOf)], [], (0, 0), 1)
noncomputable def fX11_step : CF := mth mX11_step 3
def iX11_pair : List (Nat × Instr × Nat) := [(0, .aload_n 0, 1), (1, .getfield 26, 3), (4, .iload_n 1, 1), (5, .invokevirtual 186, 3), (8, .ifCond .eq 19, 3), (11, .aload_n 0, 1), (12, .getfield 26, 3), (15, .iload_n 2, 1), (16, .invokevirtual 186, 3), (19, .ifCond .eq 8, 3), (22, .iload_n 1, 1), (23, .iload_n 2, 1), (24, .if_icmp .ne 6, 3), (27, .ldc 189, 2), (29, .ireturn, 1), (30, .iload_n 3, 1), (31, .ifCond .lt 8, 3), (34, .iload_n 3, 1), (35, .iconst 3, 1), (36, .if_icmp .le 6, 3), (39, .ldc 112, 2), (41, .ireturn, 1), (42, .aload_n 0, 1), (43, .getfield 26, 3), (46, .iload_n 1, 1), (47, .iload_n 2, 1), (48, .invokevirtual 212, 3), (51, .ifCond .ne 6, 3), (54, .ldc 216, 2), (56, .ireturn, 1), (57, .aload_n 0, 1), (58, .getfield 36, 3), (61, .iload_n 1, 1), (62, .iload_n 2, 1), (63, .invokevirtual 217, 3), (66, .istore 4, 2), (68, .iload_n 3, 1), (69, .tableswitch 95 0 2 #[27, 38, 68], 27), (96, .iload 4, 2), (98, .ifCond .le 7, 3), (101, .iconst 1, 1), (102, .goto 4, 3), (105, .iconst 0, 1), (106, .ireturn, 1), (107, .iload 4, 2), (109, .ifCond .le 26, 3), (112, .aload_n 0, 1), (113, .getfield 26, 3), (116, .iload_n 1, 1), (117, .iload_n 2, 1), (118, .aload_n 0, 1), (119, .getfield 50, 3), (122, .getfield 138, 3), (125, .invokevirtual 221, 3), (128, .ifCond .eq 7, 3), (131, .iconst 1, 1), (132, .goto 4, 3), (135, .iconst 0, 1), (136, .ireturn, 1), (137, .iload 4, 2), (139, .ifCond .le 23, 3), (142, .aload_n 0, 1), (143, .getfield 50, 3), (146, .getfield 141, 3), (149, .iload_n 1, 1), (150, .iload_n 2, 1), (151, .invokestatic 225, 3), (154, .iand, 1), (155, .ifCond .eq 7, 3), (158, .iconst 1, 1), (159, .goto 4, 3), (162, .iconst 0, 1), (163, .ireturn, 1), (164, .iload 4, 2), (166, .ireturn, 1)]
noncomputable def mX11_pair : MI := (iX11_pair, [(26, 11, 2), (36, 11, 4), (50, 11, 6), (138, 9, 2), (141, 9, 1)], [(112, .int (-1000000002)), (189, .int (-1000000001)), (216, .int (-1000000003))], [(186, 2, 0, 0, fX6_hasStep), (212, 3, 0, 0, fX6_isAhead), (217, 3, 0, 0, fX8_countWith), (221, 4, 0, 0, fX6_mayOvertake), (225, 2, 0, 0, fX11_gapsBetween)], [], (0, 0), 1)
noncomputable def fX11_pair : CF := mth mX11_pair 5
def iX11_reading : List (Nat × Instr × Nat) := [(0, .iload_n 2, 1), (1, .tableswitch 58 0 2 #[27, 36, 45], 27), (28, .aload_n 0, 1), (29, .invokevirtual 148, 3), (32, .iload_n 1, 1), (33, .invokevirtual 228, 3), (36, .ireturn, 1), (37, .aload_n 0, 1), (38, .invokevirtual 155, 3), (41, .iload_n 1, 1), (42, .invokevirtual 228, 3), (45, .ireturn, 1), (46, .aload_n 0, 1), (47, .invokevirtual 148, 3), (50, .iload_n 1, 1), (51, .aload_n 0, 1), (52, .invokevirtual 155, 3), (55, .invokevirtual 231, 3), (58, .ireturn, 1), (59, .ldc 112, 2), (61, .ireturn, 1)]
noncomputable def mX11_reading : MI := (iX11_reading, [], [(112, .int (-1000000002))], [(148, 1, 0, 0, fX11_readingsNow), (155, 1, 0, 0, fX11_strictNow), (228, 2, 0, 0, fX7_at), (231, 3, 0, 0, fX7_atWithout)], [], (0, 0), 1)
noncomputable def fX11_reading : CF := mth mX11_reading 3
def iX11_can : List (Nat × Instr × Nat) := [(0, .aload_n 0, 1), (1, .invokevirtual 155, 3), (4, .iload_n 1, 1), (5, .invokevirtual 235, 3), (8, .ifCond .eq 5, 3), (11, .iconst 2, 1), (12, .ireturn, 1), (13, .aload_n 0, 1), (14, .invokevirtual 148, 3), (17, .iload_n 1, 1), (18, .invokevirtual 235, 3), (21, .ifCond .eq 7, 3), (24, .iconst 1, 1), (25, .goto 4, 3), (28, .iconst 0, 1), (29, .ireturn, 1)]
noncomputable def mX11_can : MI := (iX11_can, [], [], [(148, 1, 0, 0, fX11_readingsNow), (155, 1, 0, 0, fX11_strictNow), (235, 2, 0, 0, fX7_holds)], [], (0, 0), 1)
noncomputable def fX11_can : CF := mth mX11_can 2
def iX11_fence : List (Nat × Instr × Nat) := [(0, .aload_n 0, 1), (1, .getfield 26, 3), (4, .iload_n 1, 1), (5, .invokevirtual 199, 3), (8, .ifCond .ne 6, 3), (11, .ldc 189, 2), (13, .ireturn, 1), (14, .aload_n 0, 1), (15, .getfield 57, 3), (18, .aload_n 0, 1), (19, .getfield 50, 3), (22, .invokevirtual 238, 3), (25, .aload_n 0, 1), (26, .getfield 50, 3), (29, .iload_n 1, 1), (30, .iload_n 2, 1), (31, .invokevirtual 241, 3), (34, .aload_n 0, 1), (35, .getfield 50, 3), (38, .aload_n 0, 1), (39, .getfield 50, 3), (42, .getfield 141, 3), (45, .invokevirtual 144, 3), (48, .ireturn, 1)]
noncomputable def mX11_fence : MI := (iX11_fence, [(26, 11, 2), (50, 11, 6), (57, 11, 7), (141, 9, 1)], [(189, .int (-1000000001))], [(144, 2, 0, 0, fX9_costOfSet), (199, 2, 0, 0, fX6_hasGap), (238, 2, 0, 0, fX1_add), (241, 3, 0, 0, fX9_setFence)], [], (0, 0), 1)
noncomputable def fX11_fence : CF := mth mX11_fence 3
def iX11_cost : List (Nat × Instr × Nat) := [(0, .aload_n 0, 1), (1, .getfield 26, 3), (4, .iload_n 1, 1), (5, .invokevirtual 199, 3), (8, .ifCond .ne 6, 3), (11, .ldc 189, 2), (13, .ireturn, 1), (14, .iload_n 2, 1), (15, .iconst 1, 1), (16, .if_icmp .lt 9, 3), (19, .iload_n 2, 1), (20, .bipush 9, 2), (22, .if_icmp .le 6, 3), (25, .ldc 112, 2), (27, .ireturn, 1), (28, .aload_n 0, 1), (29, .getfield 50, 3), (32, .iload_n 1, 1), (33, .invokevirtual 202, 3), (36, .istore_n 3, 1), (37, .aload_n 0, 1), (38, .getfield 57, 3), (41, .aload_n 0, 1), (42, .getfield 50, 3), (45, .invokevirtual 238, 3), (48, .aload_n 0, 1), (49, .getfield 50, 3), (52, .iload_n 1, 1), (53, .iload_n 2, 1), (54, .invokevirtual 245, 3), (57, .iload_n 3, 1), (58, .ireturn, 1)]
noncomputable def mX11_cost : MI := (iX11_cost, [(26, 11, 2), (50, 11, 6), (57, 11, 7)], [(112, .int (-1000000002)), (189, .int (-1000000001))], [(199, 2, 0, 0, fX6_hasGap), (202, 2, 0, 0, fX9_costOf), (238, 2, 0, 0, fX1_add), (245, 3, 0, 0, fX9_setCost)], [], (0, 0), 1)
noncomputable def fX11_cost : CF := mth mX11_cost 4
def iX11_overtaking : List (Nat × Instr × Nat) := [(0, .iload_n 1, 1), (1, .ifCond .lt 9, 3), (4, .iload_n 1, 1), (5, .bipush 15, 2), (7, .if_icmp .le 6, 3), (10, .ldc 112, 2), (12, .ireturn, 1), (13, .aload_n 0, 1), (14, .getfield 57, 3), (17, .aload_n 0, 1), (18, .getfield 50, 3), (21, .invokevirtual 238, 3), (24, .aload_n 0, 1), (25, .getfield 50, 3), (28, .iload_n 1, 1), (29, .putfield 138, 3), (32, .aload_n 0, 1), (33, .invokevirtual 148, 3), (36, .getfield 152, 3), (39, .ireturn, 1)]
noncomputable def mX11_overtaking : MI := (iX11_overtaking, [(50, 11, 6), (57, 11, 7), (138, 9, 2), (152, 7, 1)], [(112, .int (-1000000002))], [(148, 1, 0, 0, fX11_readingsNow), (238, 2, 0, 0, fX1_add)], [], (0, 0), 1)
noncomputable def fX11_overtaking : CF := mth mX11_overtaking 2
def iX11_best : List (Nat × Instr × Nat) := [(0, .aload_n 0, 1), (1, .invokevirtual 174, 3), (4, .istore_n 1, 1), (5, .aload_n 0, 1), (6, .getfield 57, 3), (9, .aload_n 0, 1), (10, .getfield 50, 3), (13, .invokevirtual 238, 3), (16, .aload_n 0, 1), (17, .getfield 50, 3), (20, .iload_n 1, 1), (21, .putfield 141, 3), (24, .aload_n 0, 1), (25, .getfield 50, 3), (28, .iload_n 1, 1), (29, .invokevirtual 144, 3), (32, .ireturn, 1)]
noncomputable def mX11_best : MI := (iX11_best, [(50, 11, 6), (57, 11, 7), (141, 9, 1)], [], [(144, 2, 0, 0, fX9_costOfSet), (174, 1, 0, 0, fX11_bestSet), (238, 2, 0, 0, fX1_add)], [], (0, 0), 1)
noncomputable def fX11_best : CF := mth mX11_best 2
def iX11_draw : List (Nat × Instr × Nat) := [(0, .aload_n 0, 1), (1, .aload_n 0, 1), (2, .getfield 106, 3), (5, .i2l, 1), (6, .ldc2_w 287, 3), (9, .lmul, 1), (10, .ldc2_w 289, 3), (13, .ladd, 1), (14, .ldc2_w 291, 3), (17, .land, 1), (18, .l2i, 1), (19, .putfield 106, 3), (22, .iload_n 1, 1), (23, .ifCond .le 15, 3), (26, .aload_n 0, 1), (27, .getfield 106, 3), (30, .bipush 16, 2), (32, .iushr, 1), (33, .iload_n 1, 1), (34, .irem, 1), (35, .goto 4, 3), (38, .iconst 0, 1), (39, .ireturn, 1)]
noncomputable def mX11_draw : MI := (iX11_draw, [(106, 11, 17)], [(287, .long (1103515245)), (289, .long (12345)), (291, .long (2147483647))], [], [], (0, 0), 1)
noncomputable def fX11_draw : CF := mth mX11_draw 2
def iX11_driftOnce : List (Nat × Instr × Nat) := [(0, .aload_n 0, 1), (1, .iconst 4, 1), (2, .invokevirtual 281, 3), (5, .istore_n 1, 1), (6, .aload_n 0, 1), (7, .aload_n 0, 1), (8, .getfield 26, 3), (11, .getfield 132, 3), (14, .invokevirtual 281, 3), (17, .istore_n 2, 1), (18, .aload_n 0, 1), (19, .bipush 9, 2), (21, .invokevirtual 281, 3), (24, .istore_n 3, 1), (25, .aload_n 0, 1), (26, .bipush 16, 2), (28, .invokevirtual 281, 3), (31, .istore 4, 2), (33, .aload_n 0, 1), (34, .getfield 57, 3), (37, .aload_n 0, 1), (38, .getfield 50, 3), (41, .invokevirtual 238, 3), (44, .iload_n 1, 1), (45, .iconst 3, 1), (46, .if_icmp .ne 15, 3), (49, .aload_n 0, 1), (50, .getfield 50, 3), (53, .iload 4, 2), (55, .putfield 138, 3), (58, .goto 60, 3), (61, .aload_n 0, 1), (62, .getfield 26, 3), (65, .iload_n 2, 1), (66, .invokevirtual 199, 3), (69, .ifCond .eq 49, 3), (72, .iload_n 1, 1), (73, .iconst 2, 1), (74, .if_icmp .ne 17, 3), (77, .aload_n 0, 1), (78, .getfield 50, 3), (81, .iload_n 2, 1), (82, .iload_n 3, 1), (83, .iconst 1, 1), (84, .iadd, 1), (85, .invokevirtual 245, 3), (88, .goto 30, 3), (91, .aload_n 0, 1), (92, .getfield 50, 3), (95, .iload_n 2, 1), (96, .aload_n 0, 1), (97, .getfield 50, 3), (100, .getfield 141, 3), (103, .iload_n 2, 1), (104, .invokestatic 284, 3), (107, .ifCond .ne 7, 3), (110, .iconst 1, 1), (111, .goto 4, 3), (114, .iconst 0, 1), (115, .invokevirtual 241, 3), (118, .return_, 1)]
noncomputable def mX11_driftOnce : MI := (iX11_driftOnce, [(26, 11, 2), (50, 11, 6), (57, 11, 7), (132, 6, 3), (138, 9, 2), (141, 9, 1)], [], [(199, 2, 0, 0, fX6_hasGap), (238, 2, 0, 0, fX1_add), (241, 3, 0, 0, fX9_setFence), (245, 3, 0, 0, fX9_setCost), (281, 2, 0, 0, fX11_draw), (284, 2, 0, 0, fX11_has)], [], (0, 0), 0)
noncomputable def fX11_driftOnce : CF := mth mX11_driftOnce 5
def iX11_drift : List (Nat × Instr × Nat) := [(0, .iload_n 1, 1), (1, .iconst 1, 1), (2, .if_icmp .lt 9, 3), (5, .iload_n 1, 1), (6, .bipush 20, 2), (8, .if_icmp .le 6, 3), (11, .ldc 112, 2), (13, .ireturn, 1), (14, .aload_n 0, 1), (15, .getfield 26, 3), (18, .getfield 132, 3), (21, .ifCond .le 20, 3), (24, .iconst 0, 1), (25, .istore_n 2, 1), (26, .iload_n 2, 1), (27, .iload_n 1, 1), (28, .if_icmp .ge 13, 3), (31, .aload_n 0, 1), (32, .invokevirtual 249, 3), (35, .iinc 2 1, 3), (38, .goto (-12), 3), (41, .aload_n 0, 1), (42, .getfield 50, 3), (45, .getfield 141, 3), (48, .ireturn, 1)]
noncomputable def mX11_drift : MI := (iX11_drift, [(26, 11, 2), (50, 11, 6), (132, 6, 3), (141, 9, 1)], [(112, .int (-1000000002))], [(249, 1, 0, 0, fX11_driftOnce)], [], (0, 0), 1)
noncomputable def fX11_drift : CF := mth mX11_drift 3
def iX11_undo : List (Nat × Instr × Nat) := [(0, .iload_n 1, 1), (1, .iconst 1, 1), (2, .if_icmp .lt 9, 3), (5, .iload_n 1, 1), (6, .bipush 20, 2), (8, .if_icmp .le 6, 3), (11, .ldc 112, 2), (13, .ireturn, 1), (14, .iload_n 1, 1), (15, .aload_n 0, 1), (16, .getfield 57, 3), (19, .getfield 185, 3), (22, .if_icmp .le 6, 3), (25, .ldc 216, 2), (27, .ireturn, 1), (28, .aload_n 0, 1), (29, .getfield 57, 3), (32, .iload_n 1, 1), (33, .aload_n 0, 1), (34, .getfield 50, 3), (37, .invokevirtual 252, 3), (40, .aload_n 0, 1), (41, .getfield 57, 3), (44, .getfield 185, 3), (47, .ireturn, 1)]
noncomputable def mX11_undo : MI := (iX11_undo, [(50, 11, 6), (57, 11, 7), (185, 1, 2)], [(112, .int (-1000000002)), (216, .int (-1000000003))], [(252, 3, 0, 0, fX1_takeBack)], [], (0, 0), 1)
noncomputable def fX11_undo : CF := mth mX11_undo 2
def iX11_write : List (Nat × Instr × Nat) := [(0, .iload_n 1, 1), (1, .ifCond .lt 10, 3), (4, .iload_n 1, 1), (5, .ldc_w 256, 3), (8, .if_icmp .le 6, 3), (11, .ldc 112, 2), (13, .ireturn, 1), (14, .aload_n 0, 1), (15, .getfield 71, 3), (18, .iload_n 1, 1), (19, .iload_n 2, 1), (20, .invokevirtual 257, 3), (23, .ifCond .eq 13, 3), (26, .aload_n 0, 1), (27, .getfield 71, 3), (30, .getfield 181, 3), (33, .goto 5, 3), (36, .ldc 120, 2), (38, .ireturn, 1)]
noncomputable def mX11_write : MI := (iX11_write, [(71, 11, 9), (181, 0, 2)], [(112, .int (-1000000002)), (120, .int (-1000000004)), (256, .int (43046720))], [(257, 3, 0, 0, fX0_add)], [], (0, 0), 1)
noncomputable def fX11_write : CF := mth mX11_write 3
def iX11_tear : List (Nat × Instr × Nat) := [(0, .aload_n 0, 1), (1, .getfield 71, 3), (4, .getfield 181, 3), (7, .istore_n 1, 1), (8, .aload_n 0, 1), (9, .getfield 71, 3), (12, .invokevirtual 260, 3), (15, .iload_n 1, 1), (16, .ireturn, 1)]
noncomputable def mX11_tear : MI := (iX11_tear, [(71, 11, 9), (181, 0, 2)], [], [(260, 1, 0, 0, fX0_clear)], [], (0, 0), 1)
noncomputable def fX11_tear : CF := mth mX11_tear 2
def iX11_seed : List (Nat × Instr × Nat) := [(0, .iload_n 1, 1), (1, .ifCond .ge 6, 3), (4, .ldc 112, 2), (6, .ireturn, 1), (7, .aload_n 0, 1), (8, .getfield 106, 3), (11, .istore_n 2, 1), (12, .aload_n 0, 1), (13, .iload_n 1, 1), (14, .putfield 106, 3), (17, .iload_n 2, 1), (18, .ireturn, 1)]
noncomputable def mX11_seed : MI := (iX11_seed, [(106, 11, 17)], [(112, .int (-1000000002))], [], [], (0, 0), 1)
noncomputable def fX11_seed : CF := mth mX11_seed 3
def iX11_keep : List (Nat × Instr × Nat) := [(0, .iload_n 1, 1), (1, .ifCond .lt 12, 3), (4, .iload_n 1, 1), (5, .aload_n 0, 1), (6, .getfield 63, 3), (9, .arraylength, 1), (10, .if_icmp .lt 6, 3), (13, .ldc 189, 2), (15, .ireturn, 1), (16, .aload_n 0, 1), (17, .getfield 63, 3), (20, .iload_n 1, 1), (21, .aaload, 1), (22, .aload_n 0, 1), (23, .getfield 50, 3), (26, .aload_n 0, 1), (27, .getfield 106, 3), (30, .invokevirtual 261, 3), (33, .aload_n 0, 1), (34, .getfield 57, 3), (37, .invokevirtual 265, 3), (40, .iconst 1, 1), (41, .ireturn, 1)]
noncomputable def mX11_keep : MI := (iX11_keep, [(50, 11, 6), (57, 11, 7), (63, 11, 8), (106, 11, 17)], [(189, .int (-1000000001))], [(261, 3, 0, 0, fX2_hold), (265, 1, 0, 0, fX1_clear)], [], (0, 0), 1)
noncomputable def fX11_keep : CF := mth mX11_keep 2
def iX11_goBack : List (Nat × Instr × Nat) := [(0, .iload_n 1, 1), (1, .ifCond .lt 12, 3), (4, .iload_n 1, 1), (5, .aload_n 0, 1), (6, .getfield 63, 3), (9, .arraylength, 1), (10, .if_icmp .lt 6, 3), (13, .ldc 189, 2), (15, .ireturn, 1), (16, .aload_n 0, 1), (17, .getfield 63, 3), (20, .iload_n 1, 1), (21, .aaload, 1), (22, .astore_n 2, 1), (23, .aload_n 2, 1), (24, .getfield 266, 3), (27, .ifCond .ne 6, 3), (30, .ldc 216, 2), (32, .ireturn, 1), (33, .aload_n 0, 1), (34, .getfield 50, 3), (37, .aload_n 2, 1), (38, .getfield 269, 3), (41, .invokevirtual 270, 3), (44, .aload_n 0, 1), (45, .aload_n 2, 1), (46, .getfield 273, 3), (49, .putfield 106, 3), (52, .aload_n 0, 1), (53, .getfield 57, 3), (56, .invokevirtual 265, 3), (59, .iconst 1, 1), (60, .ireturn, 1)]
noncomputable def mX11_goBack : MI := (iX11_goBack, [(50, 11, 6), (57, 11, 7), (63, 11, 8), (106, 11, 17), (266, 2, 2), (269, 2, 0), (273, 2, 1)], [(189, .int (-1000000001)), (216, .int (-1000000003))], [(265, 1, 0, 0, fX1_clear), (270, 2, 0, 0, fX9_copy)], [], (0, 0), 1)
noncomputable def fX11_goBack : CF := mth mX11_goBack 3
def iX12_has : List (Nat × Instr × Nat) := [(0, .iload_n 0, 1), (1, .iload_n 1, 1), (2, .ishr, 1), (3, .iconst 1, 1), (4, .iand, 1), (5, .iconst 1, 1), (6, .if_icmp .ne 7, 3), (9, .iconst 1, 1), (10, .goto 4, 3), (13, .iconst 0, 1), (14, .ireturn, 1)]
noncomputable def mX12_has : MI := (iX12_has, [], [], [], [], (0, 0), 2)
noncomputable def fX12_has : CF := mth mX12_has 2
def iX12_isAhead : List (Nat × Instr × Nat) := [(0, .iload_n 1, 1), (1, .iload_n 2, 1), (2, .if_icmp .ge 22, 3), (5, .aload_n 0, 1), (6, .getfield 7, 3), (9, .iload_n 1, 1), (10, .iaload, 1), (11, .aload_n 0, 1), (12, .getfield 7, 3), (15, .iload_n 2, 1), (16, .iaload, 1), (17, .if_icmp .ne 7, 3), (20, .iconst 1, 1), (21, .goto 4, 3), (24, .iconst 0, 1), (25, .ireturn, 1)]
noncomputable def mX12_isAhead : MI := (iX12_isAhead, [(7, 12, 2)], [], [], [], (0, 0), 2)
noncomputable def fX12_isAhead : CF := mth mX12_isAhead 3
def iX12_ahead : List (Nat × Instr × Nat) := [(0, .iconst 0, 1), (1, .istore_n 2, 1), (2, .iconst 0, 1), (3, .istore_n 3, 1), (4, .iload_n 3, 1), (5, .iload_n 1, 1), (6, .if_icmp .ge 28, 3), (9, .iload_n 2, 1), (10, .aload_n 0, 1), (11, .iload_n 3, 1), (12, .iload_n 1, 1), (13, .invokevirtual 121, 3), (16, .ifCond .eq 9, 3), (19, .iconst 1, 1), (20, .iload_n 3, 1), (21, .ishl, 1), (22, .goto 4, 3), (25, .iconst 0, 1), (26, .ior, 1), (27, .istore_n 2, 1), (28, .iinc 3 1, 3), (31, .goto (-27), 3), (34, .iload_n 2, 1), (35, .ireturn, 1)]
noncomputable def mX12_ahead : MI := (iX12_ahead, [], [], [(121, 3, 0, 0, fX12_isAhead)], [], (0, 0), 1)
noncomputable def fX12_ahead : CF := mth mX12_ahead 4
def iX12_kind : List (Nat × Instr × Nat) := [(0, .aload_n 0, 1), (1, .getfield 16, 3), (4, .iload_n 1, 1), (5, .baload, 1), (6, .ifCond .eq 20, 3), (9, .aload_n 0, 1), (10, .getfield 16, 3), (13, .iload_n 2, 1), (14, .baload, 1), (15, .ifCond .eq 7, 3), (18, .iconst 1, 1), (19, .goto 21, 3), (22, .iconst 0, 1), (23, .goto 17, 3), (26, .aload_n 0, 1), (27, .getfield 16, 3), (30, .iload_n 2, 1), (31, .baload, 1), (32, .ifCond .eq 7, 3), (35, .iconst 3, 1), (36, .goto 4, 3), (39, .iconst 2, 1), (40, .ireturn, 1)]
noncomputable def mX12_kind : MI := (iX12_kind, [(16, 12, 4)], [], [], [], (0, 0), 1)
noncomputable def fX12_kind : CF := mth mX12_kind 3
def iX12_isBound : List (Nat × Instr × Nat) := [(0, .aload_n 0, 1), (1, .getfield 13, 3), (4, .iload_n 1, 1), (5, .iaload, 1), (6, .aload_n 0, 1), (7, .getfield 13, 3), (10, .iload_n 2, 1), (11, .iaload, 1), (12, .if_icmp .eq 19, 3), (15, .aload_n 0, 1), (16, .getfield 23, 3), (19, .aload_n 0, 1), (20, .iload_n 1, 1), (21, .iload_n 2, 1), (22, .invokevirtual 113, 3), (25, .invokestatic 117, 3), (28, .ifCond .ne 7, 3), (31, .iconst 1, 1), (32, .goto 4, 3), (35, .iconst 0, 1), (36, .ireturn, 1)]
noncomputable def mX12_isBound : MI := (iX12_isBound, [(13, 12, 3), (23, 12, 7)], [], [(113, 3, 0, 0, fX12_kind), (117, 2, 0, 0, fX12_has)], [], (0, 0), 2)
noncomputable def fX12_isBound : CF := mth mX12_isBound 3
def iX12_between : List (Nat × Instr × Nat) := [(0, .iconst 1, 1), (1, .iload_n 1, 1), (2, .iconst 1, 1), (3, .iadd, 1), (4, .ishl, 1), (5, .iconst 1, 1), (6, .iload_n 0, 1), (7, .iconst 1, 1), (8, .iadd, 1), (9, .ishl, 1), (10, .isub, 1), (11, .ireturn, 1)]
noncomputable def mX12_between : MI := (iX12_between, [], [], [], [], (0, 0), 1)
noncomputable def fX12_between : CF := mth mX12_between 2
def iX12_waits : List (Nat × Instr × Nat) := [(0, .iconst 0, 1), (1, .istore_n 2, 1), (2, .iconst 0, 1), (3, .istore_n 3, 1), (4, .iload_n 3, 1), (5, .iload_n 1, 1), (6, .if_icmp .ge 46, 3), (9, .aload_n 0, 1), (10, .iload_n 3, 1), (11, .iload_n 1, 1), (12, .invokevirtual 121, 3), (15, .ifCond .eq 31, 3), (18, .aload_n 0, 1), (19, .iload_n 3, 1), (20, .iload_n 1, 1), (21, .invokevirtual 124, 3), (24, .ifCond .ne 16, 3), (27, .aload_n 0, 1), (28, .getfield 127, 3), (31, .iload_n 3, 1), (32, .iload_n 1, 1), (33, .invokestatic 130, 3), (36, .iand, 1), (37, .ifCond .eq 9, 3), (40, .iload_n 2, 1), (41, .iconst 1, 1), (42, .iload_n 3, 1), (43, .ishl, 1), (44, .ior, 1), (45, .istore_n 2, 1), (46, .iinc 3 1, 3), (49, .goto (-45), 3), (52, .iload_n 2, 1), (53, .ireturn, 1)]
noncomputable def mX12_waits : MI := (iX12_waits, [(127, 12, 6)], [], [(121, 3, 0, 0, fX12_isAhead), (124, 3, 0, 0, fX12_isBound), (130, 2, 0, 0, fX12_between)], [], (0, 0), 1)
noncomputable def fX12_waits : CF := mth mX12_waits 4
def iX12_comes : List (Nat × Instr × Nat) := [(0, .iconst 0, 1), (1, .istore_n 3, 1), (2, .iload_n 1, 1), (3, .istore 4, 2), (5, .iload_n 3, 1), (6, .iload 4, 2), (8, .if_icmp .ge 34, 3), (11, .iload_n 3, 1), (12, .iload 4, 2), (14, .iadd, 1), (15, .iconst 2, 1), (16, .idiv, 1), (17, .istore 5, 2), (19, .aload_n 0, 1), (20, .iload 5, 2), (22, .iaload, 1), (23, .iload_n 2, 1), (24, .if_icmp .ge 11, 3), (27, .iload 5, 2), (29, .iconst 1, 1), (30, .iadd, 1), (31, .istore_n 3, 1), (32, .goto 7, 3), (35, .iload 5, 2), (37, .istore 4, 2), (39, .goto (-34), 3), (42, .iload_n 3, 1), (43, .iload_n 1, 1), (44, .if_icmp .ge 10, 3), (47, .aload_n 0, 1), (48, .iload_n 3, 1), (49, .iaload, 1), (50, .iload_n 2, 1), (51, .if_icmp .eq 10, 3), (54, .iload_n 1, 1), (55, .sipush 1024, 3), (58, .if_icmp .ne 5, 3), (61, .iload_n 1, 1), (62, .ireturn, 1), (63, .iload_n 1, 1), (64, .istore 5, 2), (66, .iload 5, 2), (68, .iload_n 3, 1), (69, .if_icmp .le 19, 3), (72, .aload_n 0, 1), (73, .iload 5, 2), (75, .aload_n 0, 1), (76, .iload 5, 2), (78, .iconst 1, 1), (79, .isub, 1), (80, .iaload, 1), (81, .iastore, 1), (82, .iinc 5 (-1), 3), (85, .goto (-19), 3), (88, .aload_n 0, 1), (89, .iload_n 3, 1), (90, .iload_n 2, 1), (91, .iastore, 1), (92, .iload_n 1, 1), (93, .iconst 1, 1), (94, .iadd, 1), (95, .ireturn, 1)]
noncomputable def mX12_comes : MI := (iX12_comes, [], [], [], [], (0, 0), 1)
noncomputable def fX12_comes : CF := mth mX12_comes 6
def iX12_weight : List (Nat × Instr × Nat) := [(0, .iconst 1, 1), (1, .istore_n 2, 1), (2, .iload_n 1, 1), (3, .iconst 1, 1), (4, .iadd, 1), (5, .istore_n 3, 1), (6, .iload_n 3, 1), (7, .aload_n 0, 1), (8, .getfield 110, 3), (11, .if_icmp .ge 27, 3), (14, .iload_n 2, 1), (15, .aload_n 0, 1), (16, .getfield 16, 3), (19, .iload_n 3, 1), (20, .baload, 1), (21, .ifCond .eq 7, 3), (24, .iconst 1, 1), (25, .goto 5, 3), (28, .bipush 9, 2), (30, .imul, 1), (31, .istore_n 2, 1), (32, .iinc 3 1, 3), (35, .goto (-29), 3), (38, .iload_n 2, 1), (39, .ireturn, 1)]
noncomputable def mX12_weight : MI := (iX12_weight, [(16, 12, 4), (110, 12, 1)], [], [], [], (0, 0), 1)
noncomputable def fX12_weight : CF := mth mX12_weight 4
def iX12_does : List (Nat × Instr × Nat) := [(0, .aload_n 0, 1), (1, .getfield 39, 3), (4, .iload_n 1, 1), (5, .iload_n 2, 1), (6, .iastore, 1), (7, .iconst 0, 1), (8, .istore_n 3, 1), (9, .iload_n 3, 1), (10, .iconst 3, 1), (11, .if_icmp .ge 31, 3), (14, .aload_n 0, 1), (15, .getfield 45, 3), (18, .iconst 3, 1), (19, .iload_n 1, 1), (20, .imul, 1), (21, .iconst 3, 1), (22, .iadd, 1), (23, .iload_n 3, 1), (24, .iadd, 1), (25, .aload_n 0, 1), (26, .getfield 45, 3), (29, .iconst 3, 1), (30, .iload_n 1, 1), (31, .imul, 1), (32, .iload_n 3, 1), (33, .iadd, 1), (34, .iaload, 1), (35, .iastore, 1), (36, .iinc 3 1, 3), (39, .goto (-30), 3), (42, .aload_n 0, 1), (43, .getfield 42, 3), (46, .iload_n 1, 1), (47, .iconst 1, 1), (48, .iadd, 1), (49, .aload_n 0, 1), (50, .getfield 42, 3), (53, .iload_n 1, 1), (54, .iaload, 1), (55, .iastore, 1), (56, .aload_n 0, 1), (57, .getfield 16, 3), (60, .iload_n 2, 1), (61, .baload, 1), (62, .ifCond .eq 26, 3), (65, .aload_n 0, 1), (66, .getfield 45, 3), (69, .iconst 3, 1), (70, .iload_n 1, 1), (71, .imul, 1), (72, .iconst 3, 1), (73, .iadd, 1), (74, .aload_n 0, 1), (75, .getfield 13, 3), (78, .iload_n 2, 1), (79, .iaload, 1), (80, .iadd, 1), (81, .iload_n 2, 1), (82, .iconst 1, 1), (83, .iadd, 1), (84, .iastore, 1), (85, .goto 35, 3), (88, .aload_n 0, 1), (89, .getfield 42, 3), (92, .iload_n 1, 1), (93, .iconst 1, 1), (94, .iadd, 1), (95, .dup2, 1), (96, .iaload, 1), (97, .aload_n 0, 1), (98, .getfield 45, 3), (101, .iconst 3, 1), (102, .iload_n 1, 1), (103, .imul, 1), (104, .aload_n 0, 1), (105, .getfield 13, 3), (108, .iload_n 2, 1), (109, .iaload, 1), (110, .iadd, 1), (111, .iaload, 1), (112, .aload_n 0, 1), (113, .iload_n 2, 1), (114, .invokevirtual 136, 3), (117, .imul, 1), (118, .iadd, 1), (119, .iastore, 1), (120, .return_, 1)]
noncomputable def mX12_does : MI := (iX12_does, [(13, 12, 3), (16, 12, 4), (39, 12, 15), (42, 12, 16), (45, 12, 17)], [], [(136, 2, 0, 0, fX12_weight)], [], (0, 0), 0)
noncomputable def fX12_does : CF := mth mX12_does 4
def iX12_goes : List (Nat × Instr × Nat) := [(0, .iconst 0, 1), (1, .istore_n 3, 1), (2, .iload_n 3, 1), (3, .aload_n 0, 1), (4, .getfield 110, 3), (7, .if_icmp .ge 32, 3), (10, .aload_n 0, 1), (11, .getfield 33, 3), (14, .iload_n 3, 1), (15, .iload_n 2, 1), (16, .ifCond .eq 11, 3), (19, .aload_n 0, 1), (20, .iload_n 3, 1), (21, .invokevirtual 140, 3), (24, .goto 8, 3), (27, .aload_n 0, 1), (28, .iload_n 3, 1), (29, .invokevirtual 143, 3), (32, .iastore, 1), (33, .iinc 3 1, 3), (36, .goto (-34), 3), (39, .iconst 0, 1), (40, .istore_n 3, 1), (41, .iconst 0, 1), (42, .istore 4, 2), (44, .iconst 0, 1), (45, .istore 5, 2), (47, .aload_n 0, 1), (48, .getfield 36, 3), (51, .iconst 0, 1), (52, .iconst 0, 1), (53, .iastore, 1), (54, .iload 5, 2), (56, .ifCond .lt 157, 3), (59, .iload 5, 2), (61, .aload_n 0, 1), (62, .getfield 110, 3), (65, .if_icmp .ne 16, 3), (68, .aload_n 1, 1), (69, .iload_n 3, 1), (70, .aload_n 0, 1), (71, .getfield 42, 3), (74, .iload 5, 2), (76, .iaload, 1), (77, .invokestatic 146, 3), (80, .istore_n 3, 1), (81, .iload 5, 2), (83, .aload_n 0, 1), (84, .getfield 110, 3), (87, .if_icmp .ne 10, 3), (90, .aload_n 0, 1), (91, .getfield 110, 3), (94, .goto 10, 3), (97, .aload_n 0, 1), (98, .getfield 36, 3), (101, .iload 5, 2), (103, .iaload, 1), (104, .istore 6, 2), (106, .iload 6, 2), (108, .aload_n 0, 1), (109, .getfield 110, 3), (112, .if_icmp .ne 34, 3), (115, .iinc 5 (-1), 3), (118, .iload 4, 2), (120, .iload 5, 2), (122, .ifCond .ge 7, 3), (125, .iconst 0, 1), (126, .goto 14, 3), (129, .iconst 1, 1), (130, .aload_n 0, 1), (131, .getfield 39, 3), (134, .iload 5, 2), (136, .iaload, 1), (137, .ishl, 1), (138, .iconst (-1), 1), (139, .ixor, 1), (140, .iand, 1), (141, .istore 4, 2), (143, .goto 67, 3), (146, .aload_n 0, 1), (147, .getfield 36, 3), (150, .iload 5, 2), (152, .dup2, 1), (153, .iaload, 1), (154, .iconst 1, 1), (155, .iadd, 1), (156, .iastore, 1), (157, .iload 4, 2), (159, .iload 6, 2), (161, .invokestatic 117, 3), (164, .ifCond .ne 46, 3), (167, .aload_n 0, 1), (168, .getfield 33, 3), (171, .iload 6, 2), (173, .iaload, 1), (174, .iload 4, 2), (176, .iconst (-1), 1), (177, .ixor, 1), (178, .iand, 1), (179, .ifCond .ne 31, 3), (182, .aload_n 0, 1), (183, .iload 5, 2), (185, .iload 6, 2), (187, .invokevirtual 150, 3), (190, .iload 4, 2), (192, .iconst 1, 1), (193, .iload 6, 2), (195, .ishl, 1), (196, .ior, 1), (197, .istore 4, 2), (199, .iinc 5 1, 3), (202, .aload_n 0, 1), (203, .getfield 36, 3), (206, .iload 5, 2), (208, .iconst 0, 1), (209, .iastore, 1), (210, .goto (-156), 3), (213, .iload_n 3, 1), (214, .ireturn, 1)]
noncomputable def mX12_goes : MI := (iX12_goes, [(33, 12, 13), (36, 12, 14), (39, 12, 15), (42, 12, 16), (110, 12, 1)], [], [(117, 2, 0, 0, fX12_has), (140, 2, 0, 0, fX12_ahead), (143, 2, 0, 0, fX12_waits), (146, 3, 0, 0, fX12_comes), (150, 3, 0, 0, fX12_does)], [], (0, 0), 1)
noncomputable def fX12_goes : CF := mth mX12_goes 7
def iX12_init : List (Nat × Instr × Nat) := [(0, .aload_n 0, 1), (1, .invokespecial 1, 3), (4, .aload_n 0, 1), (5, .bipush 8, 2), (7, .newarray .int, 2), (9, .putfield 7, 3), (12, .aload_n 0, 1), (13, .bipush 8, 2), (15, .newarray .int, 2), (17, .putfield 13, 3), (20, .aload_n 0, 1), (21, .bipush 8, 2), (23, .newarray .boolean, 2), (25, .putfield 16, 3), (28, .aload_n 0, 1), (29, .bipush 8, 2), (31, .newarray .int, 2), (33, .putfield 20, 3), (36, .aload_n 0, 1), (37, .bipush 15, 2), (39, .putfield 23, 3), (42, .aload_n 0, 1), (43, .sipush 1024, 3), (46, .newarray .int, 2), (48, .putfield 27, 3), (51, .aload_n 0, 1), (52, .sipush 1024, 3), (55, .newarray .int, 2), (57, .putfield 30, 3), (60, .aload_n 0, 1), (61, .bipush 8, 2), (63, .newarray .int, 2), (65, .putfield 33, 3), (68, .aload_n 0, 1), (69, .bipush 9, 2), (71, .newarray .int, 2), (73, .putfield 36, 3), (76, .aload_n 0, 1), (77, .bipush 9, 2), (79, .newarray .int, 2), (81, .putfield 39, 3), (84, .aload_n 0, 1), (85, .bipush 9, 2), (87, .newarray .int, 2), (89, .putfield 42, 3), (92, .aload_n 0, 1), (93, .bipush 27, 2), (95, .newarray .int, 2), (97, .putfield 45, 3), (100, .aload_n 0, 1), (101, .bipush 64, 2), (103, .newarray .int, 2), (105, .putfield 48, 3), (108, .aload_n 0, 1), (109, .bipush 36, 2), (111, .newarray .int, 2), (113, .putfield 51, 3), (116, .aload_n 0, 1), (117, .bipush 36, 2), (119, .newarray .int, 2), (121, .putfield 54, 3), (124, .aload_n 0, 1), (125, .bipush 120, 2), (127, .newarray .int, 2), (129, .putfield 57, 3), (132, .aload_n 0, 1), (133, .iconst (-1), 1), (134, .putfield 60, 3), (137, .aload_n 0, 1), (138, .bipush 8, 2), (140, .newarray .int, 2), (142, .putfield 63, 3), (145, .aload_n 0, 1), (146, .bipush 8, 2), (148, .newarray .int, 2), (150, .putfield 66, 3), (153, .aload_n 0, 1), (154, .bipush 8, 2), (156, .newarray .boolean, 2), (158, .putfield 69, 3), (161, .aload_n 0, 1), (162, .bipush 20, 2), (164, .newarray .int, 2), (166, .putfield 72, 3), (169, .aload_n 0, 1), (170, .bipush 20, 2), (172, .newarray .int, 2), (174, .putfield 75, 3), (177, .aload_n 0, 1), (178, .sipush 160, 3), (181, .newarray .int, 2), (183, .putfield 78, 3), (186, .aload_n 0, 1), (187, .bipush 20, 2), (189, .newarray .int, 2), (191, .putfield 81, 3), (194, .aload_n 0, 1), (195, .bipush 20, 2), (197, .newarray .boolean, 2), (199, .putfield 84, 3), (202, .aload_n 0, 1), (203, .iconst 2, 1), (204, .newarray .boolean, 2), (206, .putfield 87, 3), (209, .aload_n 0, 1), (210, .iconst 2, 1), (211, .newarray .int, 2), (213, .putfield 90, 3), (216, .aload_n 0, 1), (217, .iconst 2, 1), (218, .newarray .int, 2), (220, .putfield 93, 3), (223, .aload_n 0, 1), (224, .bipush 16, 2), (226, .newarray .int, 2), (228, .putfield 96, 3), (231, .aload_n 0, 1), (232, .iconst 2, 1), (233, .newarray .long, 2), (235, .putfield 99, 3), (238, .aload_n 0, 1), (239, .aload_n 0, 1), (240, .aload_n 0, 1), (241, .getfield 27, 3), (244, .iconst 1, 1), (245, .invokevirtual 103, 3), (248, .putfield 107, 3), (251, .return_, 1)]
noncomputable def mX12_init : MI := (iX12_init, [(7, 12, 2), (13, 12, 3), (16, 12, 4), (20, 12, 5), (23, 12, 7), (27, 12, 8), (30, 12, 9), (33, 12, 13), (36, 12, 14), (39, 12, 15), (42, 12, 16), (45, 12, 17), (48, 12, 19), (51, 12, 20), (54, 12, 21), (57, 12, 23), (60, 12, 25), (63, 12, 29), (66, 12, 30), (69, 12, 31), (72, 12, 33), (75, 12, 34), (78, 12, 35), (81, 12, 38), (84, 12, 39), (87, 12, 40), (90, 12, 41), (93, 12, 42), (96, 12, 43), (99, 12, 44), (107, 12, 10)], [], [(1, 1, 0, 0, fObj), (103, 3, 0, 0, fX12_goes)], [], (28, 2686), 0)
noncomputable def fX12_init : CF := mth mX12_init 1
def iX12_isStep : List (Nat × Instr × Nat) := [(0, .iload_n 1, 1), (1, .ifCond .lt 15, 3), (4, .iload_n 1, 1), (5, .aload_n 0, 1), (6, .getfield 110, 3), (9, .if_icmp .ge 7, 3), (12, .iconst 1, 1), (13, .goto 4, 3), (16, .iconst 0, 1), (17, .ireturn, 1)]
noncomputable def mX12_isStep : MI := (iX12_isStep, [(110, 12, 1)], [], [], [], (0, 0), 2)
noncomputable def fX12_isStep : CF := mth mX12_isStep 2
def iX12_isGap : List (Nat × Instr × Nat) := [(0, .iload_n 1, 1), (1, .ifCond .le 32, 3), (4, .iload_n 1, 1), (5, .aload_n 0, 1), (6, .getfield 110, 3), (9, .if_icmp .ge 24, 3), (12, .aload_n 0, 1), (13, .getfield 7, 3), (16, .iload_n 1, 1), (17, .iaload, 1), (18, .aload_n 0, 1), (19, .getfield 7, 3), (22, .iload_n 1, 1), (23, .iconst 1, 1), (24, .isub, 1), (25, .iaload, 1), (26, .if_icmp .ne 7, 3), (29, .iconst 1, 1), (30, .goto 4, 3), (33, .iconst 0, 1), (34, .ireturn, 1)]
noncomputable def mX12_isGap : MI := (iX12_isGap, [(7, 12, 2), (110, 12, 1)], [], [], [], (0, 0), 2)
noncomputable def fX12_isGap : CF := mth mX12_isGap 2
def iX12_isConflict : List (Nat × Instr × Nat) := [(0, .aload_n 0, 1), (1, .getfield 7, 3), (4, .iload_n 1, 1), (5, .iaload, 1), (6, .aload_n 0, 1), (7, .getfield 7, 3), (10, .iload_n 2, 1), (11, .iaload, 1), (12, .if_icmp .eq 40, 3), (15, .aload_n 0, 1), (16, .getfield 13, 3), (19, .iload_n 1, 1), (20, .iaload, 1), (21, .aload_n 0, 1), (22, .getfield 13, 3), (25, .iload_n 2, 1), (26, .iaload, 1), (27, .if_icmp .ne 25, 3), (30, .aload_n 0, 1), (31, .getfield 16, 3), (34, .iload_n 1, 1), (35, .baload, 1), (36, .ifCond .ne 12, 3), (39, .aload_n 0, 1), (40, .getfield 16, 3), (43, .iload_n 2, 1), (44, .baload, 1), (45, .ifCond .eq 7, 3), (48, .iconst 1, 1), (49, .goto 4, 3), (52, .iconst 0, 1), (53, .ireturn, 1)]
noncomputable def mX12_isConflict : MI := (iX12_isConflict, [(7, 12, 2), (13, 12, 3), (16, 12, 4)], [], [], [], (0, 0), 2)
noncomputable def fX12_isConflict : CF := mth mX12_isConflict 3
def iX12_conflicts : List (Nat × Instr × Nat) := [(0, .iconst 0, 1), (1, .istore_n 2, 1), (2, .iconst 0, 1), (3, .istore_n 3, 1), (4, .iload_n 3, 1), (5, .aload_n 0, 1), (6, .getfield 110, 3), (9, .if_icmp .ge 28, 3), (12, .iload_n 2, 1), (13, .aload_n 0, 1), (14, .iload_n 1, 1), (15, .iload_n 3, 1), (16, .invokevirtual 133, 3), (19, .ifCond .eq 9, 3), (22, .iconst 1, 1), (23, .iload_n 3, 1), (24, .ishl, 1), (25, .goto 4, 3), (28, .iconst 0, 1), (29, .ior, 1), (30, .istore_n 2, 1), (31, .iinc 3 1, 3), (34, .goto (-30), 3), (37, .iload_n 2, 1), (38, .ireturn, 1)]
noncomputable def mX12_conflicts : MI := (iX12_conflicts, [(110, 12, 1)], [], [(133, 3, 0, 0, fX12_isConflict)], [], (0, 0), 1)
noncomputable def fX12_conflicts : CF := mth mX12_conflicts 4
def iX12_readings : List (Nat × Instr × Nat) := [(0, .aload_n 0, 1), (1, .getfield 154, 3), (4, .ifCond .ne 21, 3), (7, .aload_n 0, 1), (8, .aload_n 0, 1), (9, .aload_n 0, 1), (10, .getfield 30, 3), (13, .iconst 0, 1), (14, .invokevirtual 103, 3), (17, .putfield 158, 3), (20, .aload_n 0, 1), (21, .iconst 1, 1), (22, .putfield 154, 3), (25, .aload_n 0, 1), (26, .getfield 158, 3), (29, .ireturn, 1)]
noncomputable def mX12_readings : MI := (iX12_readings, [(30, 12, 9), (154, 12, 12), (158, 12, 11)], [], [(103, 3, 0, 0, fX12_goes)], [], (0, 0), 1)
noncomputable def fX12_readings : CF := mth mX12_readings 1
def iX12_isIn : List (Nat × Instr × Nat) := [(0, .iconst 0, 1), (1, .istore_n 3, 1), (2, .iconst 0, 1), (3, .istore 4, 2), (5, .iload 4, 2), (7, .iload_n 1, 1), (8, .if_icmp .ge 27, 3), (11, .iload_n 3, 1), (12, .ifCond .ne 23, 3), (15, .aload_n 0, 1), (16, .iload 4, 2), (18, .iaload, 1), (19, .iload_n 2, 1), (20, .if_icmp .ne 7, 3), (23, .iconst 1, 1), (24, .goto 4, 3), (27, .iconst 0, 1), (28, .istore_n 3, 1), (29, .iinc 4 1, 3), (32, .goto (-27), 3), (35, .iload_n 3, 1), (36, .ireturn, 1)]
noncomputable def mX12_isIn : MI := (iX12_isIn, [], [], [], [], (0, 0), 2)
noncomputable def fX12_isIn : CF := mth mX12_isIn 5
def iX12_stray : List (Nat × Instr × Nat) := [(0, .iload_n 1, 1), (1, .istore_n 2, 1), (2, .iconst 0, 1), (3, .istore_n 3, 1), (4, .iload_n 3, 1), (5, .aload_n 0, 1), (6, .invokevirtual 161, 3), (9, .if_icmp .ge 43, 3), (12, .aload_n 0, 1), (13, .getfield 27, 3), (16, .aload_n 0, 1), (17, .getfield 107, 3), (20, .aload_n 0, 1), (21, .getfield 30, 3), (24, .iload_n 3, 1), (25, .iaload, 1), (26, .invokestatic 165, 3), (29, .ifCond .ne 17, 3), (32, .iload_n 2, 1), (33, .ifCond .ne 10, 3), (36, .aload_n 0, 1), (37, .getfield 30, 3), (40, .iload_n 3, 1), (41, .iaload, 1), (42, .ireturn, 1), (43, .iinc 2 (-1), 3), (46, .iinc 3 1, 3), (49, .goto (-45), 3), (52, .iconst (-1), 1), (53, .ireturn, 1)]
noncomputable def mX12_stray : MI := (iX12_stray, [(27, 12, 8), (30, 12, 9), (107, 12, 10)], [], [(161, 1, 0, 0, fX12_readings), (165, 3, 0, 0, fX12_isIn)], [], (0, 0), 1)
noncomputable def fX12_stray : CF := mth mX12_stray 4
def iX12_reading : List (Nat × Instr × Nat) := [(0, .iload_n 2, 1), (1, .ifCond .lt 8, 3), (4, .iload_n 2, 1), (5, .iconst 2, 1), (6, .if_icmp .le 6, 3), (9, .ldc 169, 2), (11, .ireturn, 1), (12, .iload_n 1, 1), (13, .ifCond .ge 5, 3), (16, .iconst (-1), 1), (17, .ireturn, 1), (18, .iload_n 2, 1), (19, .iconst 2, 1), (20, .if_icmp .ne 9, 3), (23, .aload_n 0, 1), (24, .iload_n 1, 1), (25, .invokevirtual 170, 3), (28, .ireturn, 1), (29, .iload_n 2, 1), (30, .ifCond .ne 10, 3), (33, .aload_n 0, 1), (34, .invokevirtual 161, 3), (37, .goto 7, 3), (40, .aload_n 0, 1), (41, .getfield 107, 3), (44, .istore_n 3, 1), (45, .iload_n 1, 1), (46, .iload_n 3, 1), (47, .if_icmp .lt 7, 3), (50, .iconst (-1), 1), (51, .goto 22, 3), (54, .iload_n 2, 1), (55, .ifCond .ne 12, 3), (58, .aload_n 0, 1), (59, .getfield 30, 3), (62, .iload_n 1, 1), (63, .iaload, 1), (64, .goto 9, 3), (67, .aload_n 0, 1), (68, .getfield 27, 3), (71, .iload_n 1, 1), (72, .iaload, 1), (73, .ireturn, 1)]
noncomputable def mX12_reading : MI := (iX12_reading, [(27, 12, 8), (30, 12, 9), (107, 12, 10)], [(169, .int (-1000000002))], [(161, 1, 0, 0, fX12_readings), (170, 2, 0, 0, fX12_stray)], [], (0, 0), 1)
noncomputable def fX12_reading : CF := mth mX12_reading 4
def iX12_can : List (Nat × Instr × Nat) := [(0, .aload_n 0, 1), (1, .getfield 27, 3), (4, .aload_n 0, 1), (5, .getfield 107, 3), (8, .iload_n 1, 1), (9, .invokestatic 165, 3), (12, .ifCond .eq 5, 3), (15, .iconst 2, 1), (16, .ireturn, 1), (17, .aload_n 0, 1), (18, .getfield 30, 3), (21, .aload_n 0, 1), (22, .invokevirtual 161, 3), (25, .iload_n 1, 1), (26, .invokestatic 165, 3), (29, .ifCond .eq 7, 3), (32, .iconst 1, 1), (33, .goto 4, 3), (36, .iconst 0, 1), (37, .ireturn, 1)]
noncomputable def mX12_can : MI := (iX12_can, [(27, 12, 8), (30, 12, 9), (107, 12, 10)], [], [(161, 1, 0, 0, fX12_readings), (165, 3, 0, 0, fX12_isIn)], [], (0, 0), 1)
noncomputable def fX12_can : CF := mth mX12_can 2
def iX12_laysGifts : List (Nat × Instr × Nat) := [(0, .aload_n 0, 1), (1, .iconst 0, 1), (2, .putfield 173, 3), (5, .iconst 0, 1), (6, .istore_n 1, 1), (7, .iload_n 1, 1), (8, .aload_n 0, 1), (9, .getfield 110, 3), (12, .if_icmp .ge 96, 3), (15, .iload_n 1, 1), (16, .istore_n 2, 1), (17, .iload_n 2, 1), (18, .aload_n 0, 1), (19, .getfield 110, 3), (22, .if_icmp .ge 80, 3), (25, .iload_n 1, 1), (26, .iload_n 2, 1), (27, .if_icmp .ne 15, 3), (30, .aload_n 0, 1), (31, .getfield 16, 3), (34, .iload_n 1, 1), (35, .baload, 1), (36, .ifCond .eq 60, 3), (39, .goto 27, 3), (42, .aload_n 0, 1), (43, .iload_n 1, 1), (44, .iload_n 2, 1), (45, .invokevirtual 121, 3), (48, .ifCond .eq 48, 3), (51, .aload_n 0, 1), (52, .getfield 13, 3), (55, .iload_n 1, 1), (56, .iaload, 1), (57, .aload_n 0, 1), (58, .getfield 13, 3), (61, .iload_n 2, 1), (62, .iaload, 1), (63, .if_icmp .eq 33, 3), (66, .aload_n 0, 1), (67, .getfield 51, 3), (70, .aload_n 0, 1), (71, .getfield 173, 3), (74, .iload_n 1, 1), (75, .iastore, 1), (76, .aload_n 0, 1), (77, .getfield 54, 3), (80, .aload_n 0, 1), (81, .getfield 173, 3), (84, .iload_n 2, 1), (85, .iastore, 1), (86, .aload_n 0, 1), (87, .dup, 1), (88, .getfield 173, 3), (91, .iconst 1, 1), (92, .iadd, 1), (93, .putfield 173, 3), (96, .iinc 2 1, 3), (99, .goto (-82), 3), (102, .iinc 1 1, 3), (105, .goto (-98), 3), (108, .return_, 1)]
noncomputable def mX12_laysGifts : MI := (iX12_laysGifts, [(13, 12, 3), (16, 12, 4), (51, 12, 20), (54, 12, 21), (110, 12, 1), (173, 12, 22)], [], [(121, 3, 0, 0, fX12_isAhead)], [], (0, 0), 0)
noncomputable def fX12_laysGifts : CF := mth mX12_laysGifts 3
def iX12_isOne : List (Nat × Instr × Nat) := [(0, .aload_n 0, 1), (1, .getfield 51, 3), (4, .iload_n 1, 1), (5, .iaload, 1), (6, .aload_n 0, 1), (7, .getfield 54, 3), (10, .iload_n 1, 1), (11, .iaload, 1), (12, .if_icmp .ne 7, 3), (15, .iconst 1, 1), (16, .goto 4, 3), (19, .iconst 0, 1), (20, .ireturn, 1)]
noncomputable def mX12_isOne : MI := (iX12_isOne, [(51, 12, 20), (54, 12, 21)], [], [], [], (0, 0), 2)
noncomputable def fX12_isOne : CF := mth mX12_isOne 2
def iX12_meets : List (Nat × Instr × Nat) := [(0, .aload_n 0, 1), (1, .aload_n 0, 1), (2, .getfield 54, 3), (5, .iload_n 1, 1), (6, .iaload, 1), (7, .aload_n 0, 1), (8, .getfield 51, 3), (11, .iload_n 2, 1), (12, .iaload, 1), (13, .invokevirtual 133, 3), (16, .ireturn, 1)]
noncomputable def mX12_meets : MI := (iX12_meets, [(51, 12, 20), (54, 12, 21)], [], [(133, 3, 0, 0, fX12_isConflict)], [], (0, 0), 2)
noncomputable def fX12_meets : CF := mth mX12_meets 3
def iX12_fits : List (Nat × Instr × Nat) := [(0, .aload_n 0, 1), (1, .iload_n 2, 1), (2, .invokevirtual 176, 3), (5, .ifCond .eq 31, 3), (8, .aload_n 0, 1), (9, .getfield 16, 3), (12, .aload_n 0, 1), (13, .getfield 54, 3), (16, .iload_n 1, 1), (17, .iaload, 1), (18, .baload, 1), (19, .ifCond .ne 21, 3), (22, .aload_n 0, 1), (23, .getfield 16, 3), (26, .aload_n 0, 1), (27, .getfield 51, 3), (30, .iload_n 3, 1), (31, .iaload, 1), (32, .baload, 1), (33, .ifCond .ne 7, 3), (36, .iconst 1, 1), (37, .goto 4, 3), (40, .iconst 0, 1), (41, .ireturn, 1)]
noncomputable def mX12_fits : MI := (iX12_fits, [(16, 12, 4), (51, 12, 20), (54, 12, 21)], [], [(176, 2, 0, 0, fX12_isOne)], [], (0, 0), 2)
noncomputable def fX12_fits : CF := mth mX12_fits 4
def iX12_gives : List (Nat × Instr × Nat) := [(0, .aload_n 0, 1), (1, .getfield 48, 3), (4, .bipush 8, 2), (6, .aload_n 0, 1), (7, .getfield 51, 3), (10, .iload_n 1, 1), (11, .iaload, 1), (12, .imul, 1), (13, .aload_n 0, 1), (14, .getfield 54, 3), (17, .iload_n 1, 1), (18, .iaload, 1), (19, .iadd, 1), (20, .dup2, 1), (21, .iaload, 1), (22, .aload_n 0, 1), (23, .iload_n 1, 1), (24, .invokevirtual 176, 3), (27, .ifCond .eq 7, 3), (30, .iconst 0, 1), (31, .goto 4, 3), (34, .iconst 1, 1), (35, .iadd, 1), (36, .iastore, 1), (37, .return_, 1)]
noncomputable def mX12_gives : MI := (iX12_gives, [(48, 12, 19), (51, 12, 20), (54, 12, 21)], [], [(176, 2, 0, 0, fX12_isOne)], [], (0, 0), 0)
noncomputable def fX12_gives : CF := mth mX12_gives 2
def iX12_laysTwos : List (Nat × Instr × Nat) := [(0, .iconst 0, 1), (1, .istore_n 1, 1), (2, .iload_n 1, 1), (3, .aload_n 0, 1), (4, .getfield 173, 3), (7, .if_icmp .ge 114, 3), (10, .iconst 0, 1), (11, .istore_n 2, 1), (12, .iload_n 2, 1), (13, .aload_n 0, 1), (14, .getfield 173, 3), (17, .if_icmp .ge 98, 3), (20, .aload_n 0, 1), (21, .iload_n 1, 1), (22, .invokevirtual 176, 3), (25, .ifCond .ne 40, 3), (28, .aload_n 0, 1), (29, .iload_n 2, 1), (30, .invokevirtual 176, 3), (33, .ifCond .ne 32, 3), (36, .aload_n 0, 1), (37, .getfield 7, 3), (40, .aload_n 0, 1), (41, .getfield 51, 3), (44, .iload_n 1, 1), (45, .iaload, 1), (46, .iaload, 1), (47, .aload_n 0, 1), (48, .getfield 7, 3), (51, .aload_n 0, 1), (52, .getfield 51, 3), (55, .iload_n 2, 1), (56, .iaload, 1), (57, .iaload, 1), (58, .if_icmp .ge 7, 3), (61, .iconst 1, 1), (62, .goto 4, 3), (65, .iconst 0, 1), (66, .istore_n 3, 1), (67, .iload_n 3, 1), (68, .ifCond .eq 41, 3), (71, .aload_n 0, 1), (72, .iload_n 1, 1), (73, .iload_n 2, 1), (74, .invokevirtual 180, 3), (77, .ifCond .eq 32, 3), (80, .aload_n 0, 1), (81, .iload_n 2, 1), (82, .iload_n 1, 1), (83, .invokevirtual 180, 3), (86, .ifCond .eq 23, 3), (89, .aload_n 0, 1), (90, .dup, 1), (91, .getfield 183, 3), (94, .iconst 1, 1), (95, .iadd, 1), (96, .putfield 183, 3), (99, .aload_n 0, 1), (100, .iload_n 1, 1), (101, .invokevirtual 186, 3), (104, .aload_n 0, 1), (105, .iload_n 2, 1), (106, .invokevirtual 186, 3), (109, .iinc 2 1, 3), (112, .goto (-100), 3), (115, .iinc 1 1, 3), (118, .goto (-116), 3), (121, .return_, 1)]
noncomputable def mX12_laysTwos : MI := (iX12_laysTwos, [(7, 12, 2), (51, 12, 20), (173, 12, 22), (183, 12, 18)], [], [(176, 2, 0, 0, fX12_isOne), (180, 3, 0, 0, fX12_meets), (186, 2, 0, 0, fX12_gives)], [], (0, 0), 0)
noncomputable def fX12_laysTwos : CF := mth mX12_laysTwos 4
def iX12_laysThrees : List (Nat × Instr × Nat) := [(0, .iconst 0, 1), (1, .istore_n 3, 1), (2, .iload_n 3, 1), (3, .aload_n 0, 1), (4, .getfield 173, 3), (7, .if_icmp .ge 133, 3), (10, .aload_n 0, 1), (11, .getfield 7, 3), (14, .aload_n 0, 1), (15, .getfield 51, 3), (18, .iload_n 3, 1), (19, .iaload, 1), (20, .iaload, 1), (21, .ifCond .eq 50, 3), (24, .aload_n 0, 1), (25, .getfield 7, 3), (28, .aload_n 0, 1), (29, .getfield 51, 3), (32, .iload_n 3, 1), (33, .iaload, 1), (34, .iaload, 1), (35, .aload_n 0, 1), (36, .getfield 7, 3), (39, .aload_n 0, 1), (40, .getfield 51, 3), (43, .iload_n 2, 1), (44, .iaload, 1), (45, .iaload, 1), (46, .if_icmp .eq 25, 3), (49, .aload_n 0, 1), (50, .iload_n 2, 1), (51, .iload_n 3, 1), (52, .invokevirtual 180, 3), (55, .ifCond .eq 16, 3), (58, .aload_n 0, 1), (59, .iload_n 3, 1), (60, .iload_n 1, 1), (61, .invokevirtual 180, 3), (64, .ifCond .eq 7, 3), (67, .iconst 1, 1), (68, .goto 4, 3), (71, .iconst 0, 1), (72, .istore 4, 2), (74, .iload 4, 2), (76, .ifCond .eq 58, 3), (79, .aload_n 0, 1), (80, .iload_n 3, 1), (81, .iload_n 1, 1), (82, .iload_n 2, 1), (83, .invokevirtual 190, 3), (86, .ifCond .eq 48, 3), (89, .aload_n 0, 1), (90, .iload_n 1, 1), (91, .iload_n 2, 1), (92, .iload_n 3, 1), (93, .invokevirtual 190, 3), (96, .ifCond .eq 38, 3), (99, .aload_n 0, 1), (100, .iload_n 2, 1), (101, .iload_n 3, 1), (102, .iload_n 1, 1), (103, .invokevirtual 190, 3), (106, .ifCond .eq 28, 3), (109, .aload_n 0, 1), (110, .dup, 1), (111, .getfield 183, 3), (114, .iconst 1, 1), (115, .iadd, 1), (116, .putfield 183, 3), (119, .aload_n 0, 1), (120, .iload_n 1, 1), (121, .invokevirtual 186, 3), (124, .aload_n 0, 1), (125, .iload_n 2, 1), (126, .invokevirtual 186, 3), (129, .aload_n 0, 1), (130, .iload_n 3, 1), (131, .invokevirtual 186, 3), (134, .iinc 3 1, 3), (137, .goto (-135), 3), (140, .return_, 1)]
noncomputable def mX12_laysThrees : MI := (iX12_laysThrees, [(7, 12, 2), (51, 12, 20), (173, 12, 22), (183, 12, 18)], [], [(180, 3, 0, 0, fX12_meets), (186, 2, 0, 0, fX12_gives), (190, 4, 0, 0, fX12_fits)], [], (0, 0), 0)
noncomputable def fX12_laysThrees : CF := mth mX12_laysThrees 5
def iX12_laysRings : List (Nat × Instr × Nat) := [(0, .aload_n 0, 1), (1, .iconst 0, 1), (2, .putfield 183, 3), (5, .iconst 0, 1), (6, .istore_n 1, 1), (7, .iload_n 1, 1), (8, .bipush 64, 2), (10, .if_icmp .ge 16, 3), (13, .aload_n 0, 1), (14, .getfield 48, 3), (17, .iload_n 1, 1), (18, .iconst 0, 1), (19, .iastore, 1), (20, .iinc 1 1, 3), (23, .goto (-16), 3), (26, .aload_n 0, 1), (27, .invokevirtual 194, 3), (30, .aload_n 0, 1), (31, .invokevirtual 197, 3), (34, .iconst 0, 1), (35, .istore_n 1, 1), (36, .iload_n 1, 1), (37, .aload_n 0, 1), (38, .getfield 173, 3), (41, .if_icmp .ge 68, 3), (44, .iconst 0, 1), (45, .istore_n 2, 1), (46, .iload_n 2, 1), (47, .aload_n 0, 1), (48, .getfield 173, 3), (51, .if_icmp .ge 52, 3), (54, .aload_n 0, 1), (55, .getfield 7, 3), (58, .aload_n 0, 1), (59, .getfield 51, 3), (62, .iload_n 1, 1), (63, .iaload, 1), (64, .iaload, 1), (65, .ifCond .ne 32, 3), (68, .aload_n 0, 1), (69, .getfield 7, 3), (72, .aload_n 0, 1), (73, .getfield 51, 3), (76, .iload_n 2, 1), (77, .iaload, 1), (78, .iaload, 1), (79, .ifCond .le 18, 3), (82, .aload_n 0, 1), (83, .iload_n 1, 1), (84, .iload_n 2, 1), (85, .invokevirtual 180, 3), (88, .ifCond .eq 9, 3), (91, .aload_n 0, 1), (92, .iload_n 1, 1), (93, .iload_n 2, 1), (94, .invokevirtual 200, 3), (97, .iinc 2 1, 3), (100, .goto (-54), 3), (103, .iinc 1 1, 3), (106, .goto (-70), 3), (109, .return_, 1)]
noncomputable def mX12_laysRings : MI := (iX12_laysRings, [(7, 12, 2), (48, 12, 19), (51, 12, 20), (173, 12, 22), (183, 12, 18)], [], [(180, 3, 0, 0, fX12_meets), (194, 1, 0, 0, fX12_laysGifts), (197, 1, 0, 0, fX12_laysTwos), (200, 3, 0, 0, fX12_laysThrees)], [], (0, 0), 0)
noncomputable def fX12_laysRings : CF := mth mX12_laysRings 3
def iX12_isPair : List (Nat × Instr × Nat) := [(0, .aload_n 0, 1), (1, .getfield 48, 3), (4, .bipush 8, 2), (6, .iload_n 1, 1), (7, .imul, 1), (8, .iload_n 2, 1), (9, .iadd, 1), (10, .iaload, 1), (11, .ifCond .le 7, 3), (14, .iconst 1, 1), (15, .goto 4, 3), (18, .iconst 0, 1), (19, .ireturn, 1)]
noncomputable def mX12_isPair : MI := (iX12_isPair, [(48, 12, 19)], [], [], [], (0, 0), 2)
noncomputable def fX12_isPair : CF := mth mX12_isPair 3
def iX12_isLoose : List (Nat × Instr × Nat) := [(0, .aload_n 0, 1), (1, .iload_n 1, 1), (2, .iload_n 2, 1), (3, .invokevirtual 203, 3), (6, .ifCond .eq 16, 3), (9, .aload_n 0, 1), (10, .iload_n 1, 1), (11, .iload_n 2, 1), (12, .invokevirtual 124, 3), (15, .ifCond .ne 7, 3), (18, .iconst 1, 1), (19, .goto 4, 3), (22, .iconst 0, 1), (23, .ireturn, 1)]
noncomputable def mX12_isLoose : MI := (iX12_isLoose, [], [], [(124, 3, 0, 0, fX12_isBound), (203, 3, 0, 0, fX12_isPair)], [], (0, 0), 2)
noncomputable def fX12_isLoose : CF := mth mX12_isLoose 3
def iX12_holds : List (Nat × Instr × Nat) := [(0, .iconst 0, 1), (1, .istore_n 2, 1), (2, .iconst 0, 1), (3, .istore_n 3, 1), (4, .iload_n 3, 1), (5, .aload_n 0, 1), (6, .getfield 110, 3), (9, .if_icmp .ge 58, 3), (12, .iload_n 3, 1), (13, .iconst 1, 1), (14, .iadd, 1), (15, .istore 4, 2), (17, .iload 4, 2), (19, .aload_n 0, 1), (20, .getfield 110, 3), (23, .if_icmp .ge 38, 3), (26, .iload_n 2, 1), (27, .aload_n 0, 1), (28, .iload_n 3, 1), (29, .iload 4, 2), (31, .invokevirtual 206, 3), (34, .ifCond .eq 18, 3), (37, .iload_n 1, 1), (38, .iload_n 3, 1), (39, .iload 4, 2), (41, .invokestatic 130, 3), (44, .iand, 1), (45, .ifCond .eq 7, 3), (48, .iconst 1, 1), (49, .goto 4, 3), (52, .iconst 0, 1), (53, .iadd, 1), (54, .istore_n 2, 1), (55, .iinc 4 1, 3), (58, .goto (-41), 3), (61, .iinc 3 1, 3), (64, .goto (-60), 3), (67, .iload_n 2, 1), (68, .ireturn, 1)]
noncomputable def mX12_holds : MI := (iX12_holds, [(110, 12, 1)], [], [(130, 2, 0, 0, fX12_between), (206, 3, 0, 0, fX12_isLoose)], [], (0, 0), 1)
noncomputable def fX12_holds : CF := mth mX12_holds 5
def iX12_loosePairs : List (Nat × Instr × Nat) := [(0, .aload_n 0, 1), (1, .iconst (-1), 1), (2, .invokevirtual 209, 3), (5, .ireturn, 1)]
noncomputable def mX12_loosePairs : MI := (iX12_loosePairs, [], [], [(209, 2, 0, 0, fX12_holds)], [], (0, 0), 1)
noncomputable def fX12_loosePairs : CF := mth mX12_loosePairs 1
def iX12_gaps : List (Nat × Instr × Nat) := [(0, .iconst 0, 1), (1, .istore_n 1, 1), (2, .iconst 1, 1), (3, .istore_n 2, 1), (4, .iload_n 2, 1), (5, .aload_n 0, 1), (6, .getfield 110, 3), (9, .if_icmp .ge 27, 3), (12, .iload_n 1, 1), (13, .aload_n 0, 1), (14, .iload_n 2, 1), (15, .invokevirtual 212, 3), (18, .ifCond .eq 9, 3), (21, .iconst 1, 1), (22, .iload_n 2, 1), (23, .ishl, 1), (24, .goto 4, 3), (27, .iconst 0, 1), (28, .ior, 1), (29, .istore_n 1, 1), (30, .iinc 2 1, 3), (33, .goto (-29), 3), (36, .iload_n 1, 1), (37, .ireturn, 1)]
noncomputable def mX12_gaps : MI := (iX12_gaps, [(110, 12, 1)], [], [(212, 2, 0, 0, fX12_isGap)], [], (0, 0), 1)
noncomputable def fX12_gaps : CF := mth mX12_gaps 3
def iX12_price : List (Nat × Instr × Nat) := [(0, .iconst 0, 1), (1, .istore_n 2, 1), (2, .iconst 0, 1), (3, .istore_n 3, 1), (4, .iload_n 3, 1), (5, .bipush 8, 2), (7, .if_icmp .ge 30, 3), (10, .iload_n 2, 1), (11, .iload_n 1, 1), (12, .iload_n 3, 1), (13, .invokestatic 117, 3), (16, .ifCond .eq 12, 3), (19, .aload_n 0, 1), (20, .getfield 20, 3), (23, .iload_n 3, 1), (24, .iaload, 1), (25, .goto 4, 3), (28, .iconst 0, 1), (29, .iadd, 1), (30, .istore_n 2, 1), (31, .iinc 3 1, 3), (34, .goto (-30), 3), (37, .iload_n 2, 1), (38, .ireturn, 1)]
noncomputable def mX12_price : MI := (iX12_price, [(20, 12, 5)], [], [(117, 2, 0, 0, fX12_has)], [], (0, 0), 1)
noncomputable def fX12_price : CF := mth mX12_price 4
def iX12_cheapest : List (Nat × Instr × Nat) := [(0, .aload_n 0, 1), (1, .invokevirtual 215, 3), (4, .istore_n 1, 1), (5, .iconst (-1), 1), (6, .istore_n 2, 1), (7, .iconst 0, 1), (8, .istore_n 3, 1), (9, .iload_n 3, 1), (10, .sipush 256, 3), (13, .if_icmp .ge 61, 3), (16, .iload_n 3, 1), (17, .aload_n 0, 1), (18, .invokevirtual 218, 3), (21, .iconst (-1), 1), (22, .ixor, 1), (23, .iand, 1), (24, .ifCond .ne 25, 3), (27, .iload_n 2, 1), (28, .iconst (-1), 1), (29, .if_icmp .eq 16, 3), (32, .aload_n 0, 1), (33, .iload_n 3, 1), (34, .invokevirtual 221, 3), (37, .aload_n 0, 1), (38, .iload_n 2, 1), (39, .invokevirtual 221, 3), (42, .if_icmp .ge 7, 3), (45, .iconst 1, 1), (46, .goto 4, 3), (49, .iconst 0, 1), (50, .istore 4, 2), (52, .iload 4, 2), (54, .ifCond .eq 14, 3), (57, .aload_n 0, 1), (58, .iload_n 3, 1), (59, .invokevirtual 209, 3), (62, .iload_n 1, 1), (63, .if_icmp .ne 5, 3), (66, .iload_n 3, 1), (67, .istore_n 2, 1), (68, .iinc 3 1, 3), (71, .goto (-62), 3), (74, .iload_n 2, 1), (75, .ireturn, 1)]
noncomputable def mX12_cheapest : MI := (iX12_cheapest, [], [], [(209, 2, 0, 0, fX12_holds), (215, 1, 0, 0, fX12_loosePairs), (218, 1, 0, 0, fX12_gaps), (221, 2, 0, 0, fX12_price)], [], (0, 0), 1)
noncomputable def fX12_cheapest : CF := mth mX12_cheapest 5
def iX12_needed : List (Nat × Instr × Nat) := [(0, .iconst 0, 1), (1, .istore_n 1, 1), (2, .iconst 1, 1), (3, .istore_n 2, 1), (4, .iload_n 2, 1), (5, .aload_n 0, 1), (6, .getfield 110, 3), (9, .if_icmp .ge 55, 3), (12, .iload_n 1, 1), (13, .aload_n 0, 1), (14, .getfield 127, 3), (17, .iload_n 2, 1), (18, .invokestatic 117, 3), (21, .ifCond .eq 34, 3), (24, .aload_n 0, 1), (25, .aload_n 0, 1), (26, .getfield 127, 3), (29, .iconst 1, 1), (30, .iload_n 2, 1), (31, .ishl, 1), (32, .iconst (-1), 1), (33, .ixor, 1), (34, .iand, 1), (35, .invokevirtual 209, 3), (38, .aload_n 0, 1), (39, .aload_n 0, 1), (40, .getfield 127, 3), (43, .invokevirtual 209, 3), (46, .if_icmp .ge 9, 3), (49, .iconst 1, 1), (50, .iload_n 2, 1), (51, .ishl, 1), (52, .goto 4, 3), (55, .iconst 0, 1), (56, .ior, 1), (57, .istore_n 1, 1), (58, .iinc 2 1, 3), (61, .goto (-57), 3), (64, .iload_n 1, 1), (65, .ireturn, 1)]
noncomputable def mX12_needed : MI := (iX12_needed, [(110, 12, 1), (127, 12, 6)], [], [(117, 2, 0, 0, fX12_has), (209, 2, 0, 0, fX12_holds)], [], (0, 0), 1)
noncomputable def fX12_needed : CF := mth mX12_needed 3
def iX12_step : List (Nat × Instr × Nat) := [(0, .aload_n 0, 1), (1, .iload_n 1, 1), (2, .invokevirtual 224, 3), (5, .ifCond .ne 6, 3), (8, .ldc 227, 2), (10, .ireturn, 1), (11, .iload_n 2, 1), (12, .tableswitch 124 0 6 #[44, 51, 58, 73, 92, 112, 118], 44), (56, .aload_n 0, 1), (57, .getfield 7, 3), (60, .iload_n 1, 1), (61, .iaload, 1), (62, .ireturn, 1), (63, .aload_n 0, 1), (64, .getfield 13, 3), (67, .iload_n 1, 1), (68, .iaload, 1), (69, .ireturn, 1), (70, .aload_n 0, 1), (71, .getfield 16, 3), (74, .iload_n 1, 1), (75, .baload, 1), (76, .ifCond .eq 7, 3), (79, .iconst 1, 1), (80, .goto 4, 3), (83, .iconst 0, 1), (84, .ireturn, 1), (85, .aload_n 0, 1), (86, .iload_n 1, 1), (87, .invokevirtual 212, 3), (90, .ifCond .eq 12, 3), (93, .aload_n 0, 1), (94, .getfield 20, 3), (97, .iload_n 1, 1), (98, .iaload, 1), (99, .goto 4, 3), (102, .iconst (-1), 1), (103, .ireturn, 1), (104, .aload_n 0, 1), (105, .iload_n 1, 1), (106, .invokevirtual 212, 3), (109, .ifCond .eq 13, 3), (112, .aload_n 0, 1), (113, .iconst 1, 1), (114, .iload_n 1, 1), (115, .ishl, 1), (116, .invokevirtual 209, 3), (119, .goto 4, 3), (122, .iconst (-1), 1), (123, .ireturn, 1), (124, .aload_n 0, 1), (125, .iload_n 1, 1), (126, .invokevirtual 143, 3), (129, .ireturn, 1), (130, .aload_n 0, 1), (131, .iload_n 1, 1), (132, .invokevirtual 228, 3), (135, .ireturn, 1), (136, .ldc 169, 2), (138, .ireturn, 1)]
noncomputable def mX12_step : MI := (iX12_step, [(7, 12, 2), (13, 12, 3), (16, 12, 4), (20, 12, 5)], [(169, .int (-1000000002)), (227, .int (-1000000001))], [(143, 2, 0, 0, fX12_waits), (209, 2, 0, 0, fX12_holds), (212, 2, 0, 0, fX12_isGap), (224, 2, 0, 0, fX12_isStep), (228, 2, 0, 0, fX12_conflicts)], [], (0, 0), 1)
noncomputable def fX12_step : CF := mth mX12_step 3
def iX12_pair : List (Nat × Instr × Nat) := [(0, .aload_n 0, 1), (1, .iload_n 1, 1), (2, .invokevirtual 224, 3), (5, .ifCond .eq 16, 3), (8, .aload_n 0, 1), (9, .iload_n 2, 1), (10, .invokevirtual 224, 3), (13, .ifCond .eq 8, 3), (16, .iload_n 1, 1), (17, .iload_n 2, 1), (18, .if_icmp .ne 6, 3), (21, .ldc 227, 2), (23, .ireturn, 1), (24, .iload_n 3, 1), (25, .ifCond .lt 8, 3), (28, .iload_n 3, 1), (29, .iconst 3, 1), (30, .if_icmp .le 6, 3), (33, .ldc 169, 2), (35, .ireturn, 1), (36, .aload_n 0, 1), (37, .iload_n 1, 1), (38, .iload_n 2, 1), (39, .invokevirtual 121, 3), (42, .ifCond .ne 6, 3), (45, .ldc 231, 2), (47, .ireturn, 1), (48, .iload_n 3, 1), (49, .tableswitch 85 0 2 #[27, 42, 57], 27), (76, .aload_n 0, 1), (77, .iload_n 1, 1), (78, .iload_n 2, 1), (79, .invokevirtual 203, 3), (82, .ifCond .eq 7, 3), (85, .iconst 1, 1), (86, .goto 4, 3), (89, .iconst 0, 1), (90, .ireturn, 1), (91, .aload_n 0, 1), (92, .iload_n 1, 1), (93, .iload_n 2, 1), (94, .invokevirtual 206, 3), (97, .ifCond .eq 7, 3), (100, .iconst 1, 1), (101, .goto 4, 3), (104, .iconst 0, 1), (105, .ireturn, 1), (106, .aload_n 0, 1), (107, .iload_n 1, 1), (108, .iload_n 2, 1), (109, .invokevirtual 203, 3), (112, .ifCond .eq 20, 3), (115, .aload_n 0, 1), (116, .getfield 127, 3), (119, .iload_n 1, 1), (120, .iload_n 2, 1), (121, .invokestatic 130, 3), (124, .iand, 1), (125, .ifCond .eq 7, 3), (128, .iconst 1, 1), (129, .goto 4, 3), (132, .iconst 0, 1), (133, .ireturn, 1), (134, .aload_n 0, 1), (135, .getfield 48, 3), (138, .bipush 8, 2), (140, .iload_n 1, 1), (141, .imul, 1), (142, .iload_n 2, 1), (143, .iadd, 1), (144, .iaload, 1), (145, .ireturn, 1)]
noncomputable def mX12_pair : MI := (iX12_pair, [(48, 12, 19), (127, 12, 6)], [(169, .int (-1000000002)), (227, .int (-1000000001)), (231, .int (-1000000003))], [(121, 3, 0, 0, fX12_isAhead), (130, 2, 0, 0, fX12_between), (203, 3, 0, 0, fX12_isPair), (206, 3, 0, 0, fX12_isLoose), (224, 2, 0, 0, fX12_isStep)], [], (0, 0), 1)
noncomputable def fX12_pair : CF := mth mX12_pair 4
def iX12_feed : List (Nat × Instr × Nat) := [(0, .iload_n 1, 1), (1, .ifCond .lt 10, 3), (4, .iload_n 1, 1), (5, .sipush 255, 3), (8, .if_icmp .le 6, 3), (11, .ldc 169, 2), (13, .ireturn, 1), (14, .aload_n 0, 1), (15, .getfield 232, 3), (18, .bipush 120, 2), (20, .if_icmp .ne 6, 3), (23, .ldc 235, 2), (25, .ireturn, 1), (26, .aload_n 0, 1), (27, .getfield 57, 3), (30, .aload_n 0, 1), (31, .getfield 232, 3), (34, .iload_n 1, 1), (35, .iastore, 1), (36, .aload_n 0, 1), (37, .dup, 1), (38, .getfield 232, 3), (41, .iconst 1, 1), (42, .iadd, 1), (43, .putfield 232, 3), (46, .aload_n 0, 1), (47, .getfield 232, 3), (50, .ireturn, 1)]
noncomputable def mX12_feed : MI := (iX12_feed, [(57, 12, 23), (232, 12, 24)], [(169, .int (-1000000002)), (235, .int (-1000000004))], [], [], (0, 0), 1)
noncomputable def fX12_feed : CF := mth mX12_feed 2
def iX12_sign : List (Nat × Instr × Nat) := [(0, .aload_n 0, 1), (1, .getfield 236, 3), (4, .aload_n 0, 1), (5, .getfield 232, 3), (8, .if_icmp .ge 30, 3), (11, .aload_n 0, 1), (12, .getfield 57, 3), (15, .aload_n 0, 1), (16, .getfield 236, 3), (19, .iaload, 1), (20, .bipush 32, 2), (22, .if_icmp .ne 16, 3), (25, .aload_n 0, 1), (26, .dup, 1), (27, .getfield 236, 3), (30, .iconst 1, 1), (31, .iadd, 1), (32, .putfield 236, 3), (35, .goto (-35), 3), (38, .aload_n 0, 1), (39, .getfield 236, 3), (42, .aload_n 0, 1), (43, .getfield 232, 3), (46, .if_icmp .ge 15, 3), (49, .aload_n 0, 1), (50, .getfield 57, 3), (53, .aload_n 0, 1), (54, .getfield 236, 3), (57, .iaload, 1), (58, .goto 4, 3), (61, .iconst (-1), 1), (62, .ireturn, 1)]
noncomputable def mX12_sign : MI := (iX12_sign, [(57, 12, 23), (232, 12, 24), (236, 12, 26)], [], [], [], (0, 0), 1)
noncomputable def fX12_sign : CF := mth mX12_sign 1
def iX12_ends : List (Nat × Instr × Nat) := [(0, .aload_n 0, 1), (1, .invokevirtual 239, 3), (4, .bipush 59, 2), (6, .if_icmp .eq 5, 3), (9, .iconst 1, 1), (10, .ireturn, 1), (11, .aload_n 0, 1), (12, .dup, 1), (13, .getfield 236, 3), (16, .iconst 1, 1), (17, .iadd, 1), (18, .putfield 236, 3), (21, .iconst 0, 1), (22, .ireturn, 1)]
noncomputable def mX12_ends : MI := (iX12_ends, [(236, 12, 26)], [], [(239, 1, 0, 0, fX12_sign)], [], (0, 0), 1)
noncomputable def fX12_ends : CF := mth mX12_ends 1
def iX12_readsThread : List (Nat × Instr × Nat) := [(0, .aload_n 0, 1), (1, .getfield 242, 3), (4, .iconst 3, 1), (5, .if_icmp .ne 5, 3), (8, .iconst 3, 1), (9, .ireturn, 1), (10, .aload_n 0, 1), (11, .dup, 1), (12, .getfield 242, 3), (15, .iconst 1, 1), (16, .iadd, 1), (17, .putfield 242, 3), (20, .aload_n 0, 1), (21, .dup, 1), (22, .getfield 236, 3), (25, .iconst 1, 1), (26, .iadd, 1), (27, .putfield 236, 3), (30, .aload_n 0, 1), (31, .invokevirtual 245, 3), (34, .ireturn, 1)]
noncomputable def mX12_readsThread : MI := (iX12_readsThread, [(236, 12, 26), (242, 12, 27)], [], [(245, 1, 0, 0, fX12_ends)], [], (0, 0), 1)
noncomputable def fX12_readsThread : CF := mth mX12_readsThread 1
def iX12_readsStep : List (Nat × Instr × Nat) := [(0, .aload_n 0, 1), (1, .getfield 242, 3), (4, .ifCond .ne 5, 3), (7, .iconst 1, 1), (8, .ireturn, 1), (9, .aload_n 0, 1), (10, .getfield 248, 3), (13, .bipush 8, 2), (15, .if_icmp .ne 5, 3), (18, .iconst 3, 1), (19, .ireturn, 1), (20, .aload_n 0, 1), (21, .dup, 1), (22, .getfield 236, 3), (25, .iconst 1, 1), (26, .iadd, 1), (27, .putfield 236, 3), (30, .aload_n 0, 1), (31, .invokevirtual 239, 3), (34, .istore_n 2, 1), (35, .iload_n 2, 1), (36, .bipush 48, 2), (38, .if_icmp .lt 9, 3), (41, .iload_n 2, 1), (42, .bipush 57, 2), (44, .if_icmp .le 5, 3), (47, .iconst 1, 1), (48, .ireturn, 1), (49, .iload_n 2, 1), (50, .bipush 50, 2), (52, .if_icmp .le 5, 3), (55, .iconst 2, 1), (56, .ireturn, 1), (57, .aload_n 0, 1), (58, .dup, 1), (59, .getfield 236, 3), (62, .iconst 1, 1), (63, .iadd, 1), (64, .putfield 236, 3), (67, .aload_n 0, 1), (68, .getfield 63, 3), (71, .aload_n 0, 1), (72, .getfield 248, 3), (75, .aload_n 0, 1), (76, .getfield 242, 3), (79, .iconst 1, 1), (80, .isub, 1), (81, .iastore, 1), (82, .aload_n 0, 1), (83, .getfield 66, 3), (86, .aload_n 0, 1), (87, .getfield 248, 3), (90, .iload_n 2, 1), (91, .bipush 48, 2), (93, .isub, 1), (94, .iastore, 1), (95, .aload_n 0, 1), (96, .getfield 69, 3), (99, .aload_n 0, 1), (100, .getfield 248, 3), (103, .iload_n 1, 1), (104, .bastore, 1), (105, .aload_n 0, 1), (106, .dup, 1), (107, .getfield 248, 3), (110, .iconst 1, 1), (111, .iadd, 1), (112, .putfield 248, 3), (115, .aload_n 0, 1), (116, .invokevirtual 245, 3), (119, .ireturn, 1)]
noncomputable def mX12_readsStep : MI := (iX12_readsStep, [(63, 12, 29), (66, 12, 30), (69, 12, 31), (236, 12, 26), (242, 12, 27), (248, 12, 28)], [], [(239, 1, 0, 0, fX12_sign), (245, 1, 0, 0, fX12_ends)], [], (0, 0), 1)
noncomputable def fX12_readsStep : CF := mth mX12_readsStep 3
def iX12_reads : List (Nat × Instr × Nat) := [(0, .aload_n 0, 1), (1, .iconst 0, 1), (2, .putfield 236, 3), (5, .aload_n 0, 1), (6, .iconst 0, 1), (7, .putfield 242, 3), (10, .aload_n 0, 1), (11, .iconst 0, 1), (12, .putfield 248, 3), (15, .iconst 0, 1), (16, .istore_n 1, 1), (17, .iload_n 1, 1), (18, .ifCond .ne 64, 3), (21, .aload_n 0, 1), (22, .invokevirtual 239, 3), (25, .iconst (-1), 1), (26, .if_icmp .eq 56, 3), (29, .aload_n 0, 1), (30, .invokevirtual 239, 3), (33, .istore_n 2, 1), (34, .iload_n 2, 1), (35, .bipush 116, 2), (37, .if_icmp .ne 10, 3), (40, .aload_n 0, 1), (41, .invokevirtual 251, 3), (44, .goto 34, 3), (47, .iload_n 2, 1), (48, .bipush 114, 2), (50, .if_icmp .eq 9, 3), (53, .iload_n 2, 1), (54, .bipush 119, 2), (56, .if_icmp .ne 21, 3), (59, .aload_n 0, 1), (60, .iload_n 2, 1), (61, .bipush 119, 2), (63, .if_icmp .ne 7, 3), (66, .iconst 1, 1), (67, .goto 4, 3), (70, .iconst 0, 1), (71, .invokevirtual 254, 3), (74, .goto 4, 3), (77, .iconst 1, 1), (78, .istore_n 1, 1), (79, .goto (-62), 3), (82, .iload_n 1, 1), (83, .ireturn, 1)]
noncomputable def mX12_reads : MI := (iX12_reads, [(236, 12, 26), (242, 12, 27), (248, 12, 28)], [], [(239, 1, 0, 0, fX12_sign), (251, 1, 0, 0, fX12_readsThread), (254, 2, 0, 0, fX12_readsStep)], [], (0, 0), 1)
noncomputable def fX12_reads : CF := mth mX12_reads 3
def iX12_threads : List (Nat × Instr × Nat) := [(0, .aload_n 0, 1), (1, .invokevirtual 258, 3), (4, .istore_n 1, 1), (5, .aload_n 0, 1), (6, .iconst 0, 1), (7, .putfield 232, 3), (10, .iload_n 1, 1), (11, .ifCond .le 16, 3), (14, .aload_n 0, 1), (15, .aload_n 0, 1), (16, .getfield 236, 3), (19, .putfield 60, 3), (22, .bipush (-10), 2), (24, .iload_n 1, 1), (25, .isub, 1), (26, .ireturn, 1), (27, .aload_n 0, 1), (28, .iconst (-1), 1), (29, .putfield 60, 3), (32, .aload_n 0, 1), (33, .aload_n 0, 1), (34, .getfield 242, 3), (37, .putfield 261, 3), (40, .aload_n 0, 1), (41, .aload_n 0, 1), (42, .getfield 248, 3), (45, .putfield 110, 3), (48, .iconst 0, 1), (49, .istore_n 2, 1), (50, .iload_n 2, 1), (51, .aload_n 0, 1), (52, .getfield 110, 3), (55, .if_icmp .ge 45, 3), (58, .aload_n 0, 1), (59, .getfield 7, 3), (62, .iload_n 2, 1), (63, .aload_n 0, 1), (64, .getfield 63, 3), (67, .iload_n 2, 1), (68, .iaload, 1), (69, .iastore, 1), (70, .aload_n 0, 1), (71, .getfield 13, 3), (74, .iload_n 2, 1), (75, .aload_n 0, 1), (76, .getfield 66, 3), (79, .iload_n 2, 1), (80, .iaload, 1), (81, .iastore, 1), (82, .aload_n 0, 1), (83, .getfield 16, 3), (86, .iload_n 2, 1), (87, .aload_n 0, 1), (88, .getfield 69, 3), (91, .iload_n 2, 1), (92, .baload, 1), (93, .bastore, 1), (94, .iinc 2 1, 3), (97, .goto (-47), 3), (100, .iconst 0, 1), (101, .istore_n 2, 1), (102, .iload_n 2, 1), (103, .bipush 8, 2), (105, .if_icmp .ge 16, 3), (108, .aload_n 0, 1), (109, .getfield 20, 3), (112, .iload_n 2, 1), (113, .iconst 1, 1), (114, .iastore, 1), (115, .iinc 2 1, 3), (118, .goto (-16), 3), (121, .aload_n 0, 1), (122, .iconst 0, 1), (123, .putfield 127, 3), (126, .aload_n 0, 1), (127, .bipush 15, 2), (129, .putfield 23, 3), (132, .aload_n 0, 1), (133, .iconst 0, 1), (134, .putfield 154, 3), (137, .aload_n 0, 1), (138, .aload_n 0, 1), (139, .aload_n 0, 1), (140, .getfield 27, 3), (143, .iconst 1, 1), (144, .invokevirtual 103, 3), (147, .putfield 107, 3), (150, .aload_n 0, 1), (151, .invokevirtual 264, 3), (154, .aload_n 0, 1), (155, .iconst 0, 1), (156, .putfield 267, 3), (159, .aload_n 0, 1), (160, .iconst 0, 1), (161, .putfield 270, 3), (164, .aload_n 0, 1), (165, .getfield 87, 3), (168, .iconst 0, 1), (169, .iconst 0, 1), (170, .bastore, 1), (171, .aload_n 0, 1), (172, .getfield 87, 3), (175, .iconst 1, 1), (176, .iconst 0, 1), (177, .bastore, 1), (178, .aload_n 0, 1), (179, .getfield 110, 3), (182, .ireturn, 1)]
noncomputable def mX12_threads : MI := (iX12_threads, [(7, 12, 2), (13, 12, 3), (16, 12, 4), (20, 12, 5), (23, 12, 7), (27, 12, 8), (60, 12, 25), (63, 12, 29), (66, 12, 30), (69, 12, 31), (87, 12, 40), (107, 12, 10), (110, 12, 1), (127, 12, 6), (154, 12, 12), (232, 12, 24), (236, 12, 26), (242, 12, 27), (248, 12, 28), (261, 12, 0), (267, 12, 37), (270, 12, 32)], [], [(103, 3, 0, 0, fX12_goes), (258, 1, 0, 0, fX12_reads), (264, 1, 0, 0, fX12_laysRings)], [], (0, 0), 1)
noncomputable def fX12_threads : CF := mth mX12_threads 3
def iX12_fault : List (Nat × Instr × Nat) := [(0, .aload_n 0, 1), (1, .getfield 60, 3), (4, .ireturn, 1)]
noncomputable def mX12_fault : MI := (iX12_fault, [(60, 12, 25)], [], [], [], (0, 0), 1)
noncomputable def fX12_fault : CF := mth mX12_fault 1
def iX12_marks : List (Nat × Instr × Nat) := [(0, .aload_n 0, 1), (1, .getfield 270, 3), (4, .bipush 20, 2), (6, .if_icmp .ne 86, 3), (9, .iconst 1, 1), (10, .istore_n 1, 1), (11, .iload_n 1, 1), (12, .bipush 20, 2), (14, .if_icmp .ge 37, 3), (17, .aload_n 0, 1), (18, .getfield 72, 3), (21, .iload_n 1, 1), (22, .iconst 1, 1), (23, .isub, 1), (24, .aload_n 0, 1), (25, .getfield 72, 3), (28, .iload_n 1, 1), (29, .iaload, 1), (30, .iastore, 1), (31, .aload_n 0, 1), (32, .getfield 75, 3), (35, .iload_n 1, 1), (36, .iconst 1, 1), (37, .isub, 1), (38, .aload_n 0, 1), (39, .getfield 75, 3), (42, .iload_n 1, 1), (43, .iaload, 1), (44, .iastore, 1), (45, .iinc 1 1, 3), (48, .goto (-37), 3), (51, .bipush 8, 2), (53, .istore_n 1, 1), (54, .iload_n 1, 1), (55, .sipush 160, 3), (58, .if_icmp .ge 24, 3), (61, .aload_n 0, 1), (62, .getfield 78, 3), (65, .iload_n 1, 1), (66, .bipush 8, 2), (68, .isub, 1), (69, .aload_n 0, 1), (70, .getfield 78, 3), (73, .iload_n 1, 1), (74, .iaload, 1), (75, .iastore, 1), (76, .iinc 1 1, 3), (79, .goto (-25), 3), (82, .aload_n 0, 1), (83, .dup, 1), (84, .getfield 270, 3), (87, .iconst 1, 1), (88, .isub, 1), (89, .putfield 270, 3), (92, .aload_n 0, 1), (93, .getfield 72, 3), (96, .aload_n 0, 1), (97, .getfield 270, 3), (100, .aload_n 0, 1), (101, .getfield 127, 3), (104, .iastore, 1), (105, .aload_n 0, 1), (106, .getfield 75, 3), (109, .aload_n 0, 1), (110, .getfield 270, 3), (113, .aload_n 0, 1), (114, .getfield 23, 3), (117, .iastore, 1), (118, .iconst 0, 1), (119, .istore_n 1, 1), (120, .iload_n 1, 1), (121, .bipush 8, 2), (123, .if_icmp .ge 29, 3), (126, .aload_n 0, 1), (127, .getfield 78, 3), (130, .bipush 8, 2), (132, .aload_n 0, 1), (133, .getfield 270, 3), (136, .imul, 1), (137, .iload_n 1, 1), (138, .iadd, 1), (139, .aload_n 0, 1), (140, .getfield 20, 3), (143, .iload_n 1, 1), (144, .iaload, 1), (145, .iastore, 1), (146, .iinc 1 1, 3), (149, .goto (-29), 3), (152, .aload_n 0, 1), (153, .dup, 1), (154, .getfield 270, 3), (157, .iconst 1, 1), (158, .iadd, 1), (159, .putfield 270, 3), (162, .aload_n 0, 1), (163, .iconst 0, 1), (164, .putfield 154, 3), (167, .return_, 1)]
noncomputable def mX12_marks : MI := (iX12_marks, [(20, 12, 5), (23, 12, 7), (72, 12, 33), (75, 12, 34), (78, 12, 35), (127, 12, 6), (154, 12, 12), (270, 12, 32)], [], [], [], (0, 0), 0)
noncomputable def fX12_marks : CF := mth mX12_marks 2
def iX12_fence : List (Nat × Instr × Nat) := [(0, .aload_n 0, 1), (1, .iload_n 1, 1), (2, .invokevirtual 212, 3), (5, .ifCond .ne 6, 3), (8, .ldc 227, 2), (10, .ireturn, 1), (11, .aload_n 0, 1), (12, .invokevirtual 273, 3), (15, .aload_n 0, 1), (16, .iload_n 2, 1), (17, .ifCond .eq 14, 3), (20, .aload_n 0, 1), (21, .getfield 127, 3), (24, .iconst 1, 1), (25, .iload_n 1, 1), (26, .ishl, 1), (27, .ior, 1), (28, .goto 13, 3), (31, .aload_n 0, 1), (32, .getfield 127, 3), (35, .iconst 1, 1), (36, .iload_n 1, 1), (37, .ishl, 1), (38, .iconst (-1), 1), (39, .ixor, 1), (40, .iand, 1), (41, .putfield 127, 3), (44, .aload_n 0, 1), (45, .aload_n 0, 1), (46, .getfield 127, 3), (49, .invokevirtual 221, 3), (52, .ireturn, 1)]
noncomputable def mX12_fence : MI := (iX12_fence, [(127, 12, 6)], [(227, .int (-1000000001))], [(212, 2, 0, 0, fX12_isGap), (221, 2, 0, 0, fX12_price), (273, 1, 0, 0, fX12_marks)], [], (0, 0), 1)
noncomputable def fX12_fence : CF := mth mX12_fence 3
def iX12_cost : List (Nat × Instr × Nat) := [(0, .aload_n 0, 1), (1, .iload_n 1, 1), (2, .invokevirtual 212, 3), (5, .ifCond .ne 6, 3), (8, .ldc 227, 2), (10, .ireturn, 1), (11, .iload_n 2, 1), (12, .iconst 1, 1), (13, .if_icmp .lt 9, 3), (16, .iload_n 2, 1), (17, .bipush 9, 2), (19, .if_icmp .le 6, 3), (22, .ldc 169, 2), (24, .ireturn, 1), (25, .aload_n 0, 1), (26, .invokevirtual 273, 3), (29, .aload_n 0, 1), (30, .getfield 20, 3), (33, .iload_n 1, 1), (34, .iaload, 1), (35, .istore_n 3, 1), (36, .aload_n 0, 1), (37, .getfield 20, 3), (40, .iload_n 1, 1), (41, .iload_n 2, 1), (42, .iastore, 1), (43, .iload_n 3, 1), (44, .ireturn, 1)]
noncomputable def mX12_cost : MI := (iX12_cost, [(20, 12, 5)], [(169, .int (-1000000002)), (227, .int (-1000000001))], [(212, 2, 0, 0, fX12_isGap), (273, 1, 0, 0, fX12_marks)], [], (0, 0), 1)
noncomputable def fX12_cost : CF := mth mX12_cost 4
def iX12_overtaking : List (Nat × Instr × Nat) := [(0, .iload_n 1, 1), (1, .ifCond .lt 9, 3), (4, .iload_n 1, 1), (5, .bipush 15, 2), (7, .if_icmp .le 6, 3), (10, .ldc 169, 2), (12, .ireturn, 1), (13, .aload_n 0, 1), (14, .invokevirtual 273, 3), (17, .aload_n 0, 1), (18, .iload_n 1, 1), (19, .putfield 23, 3), (22, .aload_n 0, 1), (23, .invokevirtual 161, 3), (26, .ireturn, 1)]
noncomputable def mX12_overtaking : MI := (iX12_overtaking, [(23, 12, 7)], [(169, .int (-1000000002))], [(161, 1, 0, 0, fX12_readings), (273, 1, 0, 0, fX12_marks)], [], (0, 0), 1)
noncomputable def fX12_overtaking : CF := mth mX12_overtaking 2
def iX12_best : List (Nat × Instr × Nat) := [(0, .aload_n 0, 1), (1, .invokevirtual 273, 3), (4, .aload_n 0, 1), (5, .aload_n 0, 1), (6, .invokevirtual 276, 3), (9, .putfield 127, 3), (12, .aload_n 0, 1), (13, .aload_n 0, 1), (14, .getfield 127, 3), (17, .invokevirtual 221, 3), (20, .ireturn, 1)]
noncomputable def mX12_best : MI := (iX12_best, [(127, 12, 6)], [], [(221, 2, 0, 0, fX12_price), (273, 1, 0, 0, fX12_marks), (276, 1, 0, 0, fX12_cheapest)], [], (0, 0), 1)
noncomputable def fX12_best : CF := mth mX12_best 1
def iX12_draw : List (Nat × Instr × Nat) := [(0, .aload_n 0, 1), (1, .aload_n 0, 1), (2, .getfield 279, 3), (5, .ldc2_w 283, 3), (8, .lmul, 1), (9, .ldc2_w 285, 3), (12, .ladd, 1), (13, .ldc2_w 287, 3), (16, .lrem, 1), (17, .putfield 279, 3), (20, .aload_n 0, 1), (21, .getfield 279, 3), (24, .ldc2_w 289, 3), (27, .ldiv, 1), (28, .iload_n 1, 1), (29, .i2l, 1), (30, .lrem, 1), (31, .l2i, 1), (32, .ireturn, 1)]
noncomputable def mX12_draw : MI := (iX12_draw, [(279, 12, 36)], [(283, .long (1103515245)), (285, .long (12345)), (287, .long (2147483648)), (289, .long (65536))], [], [], (0, 0), 1)
noncomputable def fX12_draw : CF := mth mX12_draw 2
def iX12_drawn : List (Nat × Instr × Nat) := [(0, .aload_n 0, 1), (1, .iconst 4, 1), (2, .invokevirtual 291, 3), (5, .istore_n 1, 1), (6, .aload_n 0, 1), (7, .aload_n 0, 1), (8, .getfield 110, 3), (11, .invokevirtual 291, 3), (14, .istore_n 2, 1), (15, .aload_n 0, 1), (16, .bipush 9, 2), (18, .invokevirtual 291, 3), (21, .istore_n 3, 1), (22, .aload_n 0, 1), (23, .bipush 16, 2), (25, .invokevirtual 291, 3), (28, .istore 4, 2), (30, .aload_n 0, 1), (31, .invokevirtual 273, 3), (34, .iload_n 1, 1), (35, .iconst 3, 1), (36, .if_icmp .ne 12, 3), (39, .aload_n 0, 1), (40, .iload 4, 2), (42, .putfield 23, 3), (45, .goto 48, 3), (48, .aload_n 0, 1), (49, .iload_n 2, 1), (50, .invokevirtual 212, 3), (53, .ifCond .eq 20, 3), (56, .iload_n 1, 1), (57, .iconst 2, 1), (58, .if_icmp .ne 15, 3), (61, .aload_n 0, 1), (62, .getfield 20, 3), (65, .iload_n 2, 1), (66, .iload_n 3, 1), (67, .iconst 1, 1), (68, .iadd, 1), (69, .iastore, 1), (70, .goto 23, 3), (73, .aload_n 0, 1), (74, .iload_n 2, 1), (75, .invokevirtual 212, 3), (78, .ifCond .eq 15, 3), (81, .aload_n 0, 1), (82, .dup, 1), (83, .getfield 127, 3), (86, .iconst 1, 1), (87, .iload_n 2, 1), (88, .ishl, 1), (89, .ixor, 1), (90, .putfield 127, 3), (93, .return_, 1)]
noncomputable def mX12_drawn : MI := (iX12_drawn, [(20, 12, 5), (23, 12, 7), (110, 12, 1), (127, 12, 6)], [], [(212, 2, 0, 0, fX12_isGap), (273, 1, 0, 0, fX12_marks), (291, 2, 0, 0, fX12_draw)], [], (0, 0), 0)
noncomputable def fX12_drawn : CF := mth mX12_drawn 5
def iX12_drift : List (Nat × Instr × Nat) := [(0, .iload_n 1, 1), (1, .iconst 1, 1), (2, .if_icmp .lt 9, 3), (5, .iload_n 1, 1), (6, .bipush 20, 2), (8, .if_icmp .le 6, 3), (11, .ldc 169, 2), (13, .ireturn, 1), (14, .iconst 0, 1), (15, .istore_n 2, 1), (16, .iload_n 2, 1), (17, .iload_n 1, 1), (18, .if_icmp .ge 20, 3), (21, .aload_n 0, 1), (22, .getfield 110, 3), (25, .ifCond .le 13, 3), (28, .aload_n 0, 1), (29, .invokevirtual 294, 3), (32, .iinc 2 1, 3), (35, .goto (-19), 3), (38, .aload_n 0, 1), (39, .getfield 127, 3), (42, .ireturn, 1)]
noncomputable def mX12_drift : MI := (iX12_drift, [(110, 12, 1), (127, 12, 6)], [(169, .int (-1000000002))], [(294, 1, 0, 0, fX12_drawn)], [], (0, 0), 1)
noncomputable def fX12_drift : CF := mth mX12_drift 3
def iX12_undo : List (Nat × Instr × Nat) := [(0, .iload_n 1, 1), (1, .iconst 1, 1), (2, .if_icmp .lt 9, 3), (5, .iload_n 1, 1), (6, .bipush 20, 2), (8, .if_icmp .le 6, 3), (11, .ldc 169, 2), (13, .ireturn, 1), (14, .iload_n 1, 1), (15, .aload_n 0, 1), (16, .getfield 270, 3), (19, .if_icmp .le 6, 3), (22, .ldc 231, 2), (24, .ireturn, 1), (25, .aload_n 0, 1), (26, .dup, 1), (27, .getfield 270, 3), (30, .iload_n 1, 1), (31, .isub, 1), (32, .putfield 270, 3), (35, .aload_n 0, 1), (36, .aload_n 0, 1), (37, .getfield 72, 3), (40, .aload_n 0, 1), (41, .getfield 270, 3), (44, .iaload, 1), (45, .putfield 127, 3), (48, .aload_n 0, 1), (49, .aload_n 0, 1), (50, .getfield 75, 3), (53, .aload_n 0, 1), (54, .getfield 270, 3), (57, .iaload, 1), (58, .putfield 23, 3), (61, .iconst 0, 1), (62, .istore_n 2, 1), (63, .iload_n 2, 1), (64, .bipush 8, 2), (66, .if_icmp .ge 29, 3), (69, .aload_n 0, 1), (70, .getfield 20, 3), (73, .iload_n 2, 1), (74, .aload_n 0, 1), (75, .getfield 78, 3), (78, .bipush 8, 2), (80, .aload_n 0, 1), (81, .getfield 270, 3), (84, .imul, 1), (85, .iload_n 2, 1), (86, .iadd, 1), (87, .iaload, 1), (88, .iastore, 1), (89, .iinc 2 1, 3), (92, .goto (-29), 3), (95, .aload_n 0, 1), (96, .iconst 0, 1), (97, .putfield 154, 3), (100, .aload_n 0, 1), (101, .getfield 270, 3), (104, .ireturn, 1)]
noncomputable def mX12_undo : MI := (iX12_undo, [(20, 12, 5), (23, 12, 7), (72, 12, 33), (75, 12, 34), (78, 12, 35), (127, 12, 6), (154, 12, 12), (270, 12, 32)], [(169, .int (-1000000002)), (231, .int (-1000000003))], [], [], (0, 0), 1)
noncomputable def fX12_undo : CF := mth mX12_undo 3
def iX12_write : List (Nat × Instr × Nat) := [(0, .iload_n 1, 1), (1, .ifCond .lt 10, 3), (4, .iload_n 1, 1), (5, .ldc_w 297, 3), (8, .if_icmp .le 6, 3), (11, .ldc 169, 2), (13, .ireturn, 1), (14, .aload_n 0, 1), (15, .getfield 267, 3), (18, .bipush 20, 2), (20, .if_icmp .ne 6, 3), (23, .ldc 235, 2), (25, .ireturn, 1), (26, .aload_n 0, 1), (27, .getfield 81, 3), (30, .aload_n 0, 1), (31, .getfield 267, 3), (34, .iload_n 1, 1), (35, .iastore, 1), (36, .aload_n 0, 1), (37, .getfield 84, 3), (40, .aload_n 0, 1), (41, .getfield 267, 3), (44, .iload_n 2, 1), (45, .bastore, 1), (46, .aload_n 0, 1), (47, .dup, 1), (48, .getfield 267, 3), (51, .iconst 1, 1), (52, .iadd, 1), (53, .putfield 267, 3), (56, .aload_n 0, 1), (57, .getfield 267, 3), (60, .ireturn, 1)]
noncomputable def mX12_write : MI := (iX12_write, [(81, 12, 38), (84, 12, 39), (267, 12, 37)], [(169, .int (-1000000002)), (235, .int (-1000000004)), (297, .int (43046720))], [], [], (0, 0), 1)
noncomputable def fX12_write : CF := mth mX12_write 3
def iX12_tear : List (Nat × Instr × Nat) := [(0, .aload_n 0, 1), (1, .getfield 267, 3), (4, .istore_n 1, 1), (5, .aload_n 0, 1), (6, .iconst 0, 1), (7, .putfield 267, 3), (10, .iload_n 1, 1), (11, .ireturn, 1)]
noncomputable def mX12_tear : MI := (iX12_tear, [(267, 12, 37)], [], [], [], (0, 0), 1)
noncomputable def fX12_tear : CF := mth mX12_tear 2
def iX12_wrong : List (Nat × Instr × Nat) := [(0, .iconst 0, 1), (1, .istore_n 1, 1), (2, .iload_n 1, 1), (3, .aload_n 0, 1), (4, .getfield 267, 3), (7, .if_icmp .ge 38, 3), (10, .aload_n 0, 1), (11, .aload_n 0, 1), (12, .getfield 81, 3), (15, .iload_n 1, 1), (16, .iaload, 1), (17, .invokevirtual 298, 3), (20, .ifCond .le 7, 3), (23, .iconst 1, 1), (24, .goto 4, 3), (27, .iconst 0, 1), (28, .aload_n 0, 1), (29, .getfield 84, 3), (32, .iload_n 1, 1), (33, .baload, 1), (34, .if_icmp .eq 5, 3), (37, .iload_n 1, 1), (38, .ireturn, 1), (39, .iinc 1 1, 3), (42, .goto (-40), 3), (45, .iconst (-1), 1), (46, .ireturn, 1)]
noncomputable def mX12_wrong : MI := (iX12_wrong, [(81, 12, 38), (84, 12, 39), (267, 12, 37)], [], [(298, 2, 0, 0, fX12_can)], [], (0, 0), 1)
noncomputable def fX12_wrong : CF := mth mX12_wrong 2
def iX12_seed : List (Nat × Instr × Nat) := [(0, .iload_n 1, 1), (1, .ifCond .ge 6, 3), (4, .ldc 169, 2), (6, .ireturn, 1), (7, .aload_n 0, 1), (8, .getfield 279, 3), (11, .l2i, 1), (12, .istore_n 2, 1), (13, .aload_n 0, 1), (14, .iload_n 1, 1), (15, .i2l, 1), (16, .putfield 279, 3), (19, .iload_n 2, 1), (20, .ireturn, 1)]
noncomputable def mX12_seed : MI := (iX12_seed, [(279, 12, 36)], [(169, .int (-1000000002))], [], [], (0, 0), 1)
noncomputable def fX12_seed : CF := mth mX12_seed 3
def iX12_keep : List (Nat × Instr × Nat) := [(0, .iload_n 1, 1), (1, .ifCond .lt 8, 3), (4, .iload_n 1, 1), (5, .iconst 1, 1), (6, .if_icmp .le 6, 3), (9, .ldc 227, 2), (11, .ireturn, 1), (12, .aload_n 0, 1), (13, .getfield 87, 3), (16, .iload_n 1, 1), (17, .iconst 1, 1), (18, .bastore, 1), (19, .aload_n 0, 1), (20, .getfield 90, 3), (23, .iload_n 1, 1), (24, .aload_n 0, 1), (25, .getfield 127, 3), (28, .iastore, 1), (29, .aload_n 0, 1), (30, .getfield 93, 3), (33, .iload_n 1, 1), (34, .aload_n 0, 1), (35, .getfield 23, 3), (38, .iastore, 1), (39, .aload_n 0, 1), (40, .getfield 99, 3), (43, .iload_n 1, 1), (44, .aload_n 0, 1), (45, .getfield 279, 3), (48, .lastore, 1), (49, .iconst 0, 1), (50, .istore_n 2, 1), (51, .iload_n 2, 1), (52, .bipush 8, 2), (54, .if_icmp .ge 26, 3), (57, .aload_n 0, 1), (58, .getfield 96, 3), (61, .bipush 8, 2), (63, .iload_n 1, 1), (64, .imul, 1), (65, .iload_n 2, 1), (66, .iadd, 1), (67, .aload_n 0, 1), (68, .getfield 20, 3), (71, .iload_n 2, 1), (72, .iaload, 1), (73, .iastore, 1), (74, .iinc 2 1, 3), (77, .goto (-26), 3), (80, .aload_n 0, 1), (81, .iconst 0, 1), (82, .putfield 270, 3), (85, .iconst 1, 1), (86, .ireturn, 1)]
noncomputable def mX12_keep : MI := (iX12_keep, [(20, 12, 5), (23, 12, 7), (87, 12, 40), (90, 12, 41), (93, 12, 42), (96, 12, 43), (99, 12, 44), (127, 12, 6), (270, 12, 32), (279, 12, 36)], [(227, .int (-1000000001))], [], [], (0, 0), 1)
noncomputable def fX12_keep : CF := mth mX12_keep 3
def iX12_goBack : List (Nat × Instr × Nat) := [(0, .iload_n 1, 1), (1, .ifCond .lt 8, 3), (4, .iload_n 1, 1), (5, .iconst 1, 1), (6, .if_icmp .le 6, 3), (9, .ldc 227, 2), (11, .ireturn, 1), (12, .aload_n 0, 1), (13, .getfield 87, 3), (16, .iload_n 1, 1), (17, .baload, 1), (18, .ifCond .ne 6, 3), (21, .ldc 231, 2), (23, .ireturn, 1), (24, .aload_n 0, 1), (25, .aload_n 0, 1), (26, .getfield 90, 3), (29, .iload_n 1, 1), (30, .iaload, 1), (31, .putfield 127, 3), (34, .aload_n 0, 1), (35, .aload_n 0, 1), (36, .getfield 93, 3), (39, .iload_n 1, 1), (40, .iaload, 1), (41, .putfield 23, 3), (44, .aload_n 0, 1), (45, .aload_n 0, 1), (46, .getfield 99, 3), (49, .iload_n 1, 1), (50, .laload, 1), (51, .putfield 279, 3), (54, .iconst 0, 1), (55, .istore_n 2, 1), (56, .iload_n 2, 1), (57, .bipush 8, 2), (59, .if_icmp .ge 26, 3), (62, .aload_n 0, 1), (63, .getfield 20, 3), (66, .iload_n 2, 1), (67, .aload_n 0, 1), (68, .getfield 96, 3), (71, .bipush 8, 2), (73, .iload_n 1, 1), (74, .imul, 1), (75, .iload_n 2, 1), (76, .iadd, 1), (77, .iaload, 1), (78, .iastore, 1), (79, .iinc 2 1, 3), (82, .goto (-26), 3), (85, .aload_n 0, 1), (86, .iconst 0, 1), (87, .putfield 270, 3), (90, .aload_n 0, 1), (91, .iconst 0, 1), (92, .putfield 154, 3), (95, .iconst 1, 1), (96, .ireturn, 1)]
noncomputable def mX12_goBack : MI := (iX12_goBack, [(20, 12, 5), (23, 12, 7), (87, 12, 40), (90, 12, 41), (93, 12, 42), (96, 12, 43), (99, 12, 44), (127, 12, 6), (154, 12, 12), (270, 12, 32), (279, 12, 36)], [(227, .int (-1000000001)), (231, .int (-1000000003))], [], [], (0, 0), 1)
noncomputable def fX12_goBack : CF := mth mX12_goBack 3
def iX12_toldMore : List (Nat × Instr × Nat) := [(0, .iload_n 1, 1), (1, .tableswitch 120 10 18 #[51, 56, 65, 86, 91, 100, 105, 110, 115], 51), (52, .aload_n 0, 1), (53, .invokevirtual 215, 3), (56, .ireturn, 1), (57, .aload_n 0, 1), (58, .aload_n 0, 1), (59, .getfield 127, 3), (62, .invokevirtual 209, 3), (65, .ireturn, 1), (66, .aload_n 0, 1), (67, .aload_n 0, 1), (68, .getfield 127, 3), (71, .invokevirtual 209, 3), (74, .aload_n 0, 1), (75, .invokevirtual 215, 3), (78, .if_icmp .ne 7, 3), (81, .iconst 1, 1), (82, .goto 4, 3), (85, .iconst 0, 1), (86, .ireturn, 1), (87, .aload_n 0, 1), (88, .invokevirtual 276, 3), (91, .ireturn, 1), (92, .aload_n 0, 1), (93, .aload_n 0, 1), (94, .invokevirtual 276, 3), (97, .invokevirtual 221, 3), (100, .ireturn, 1), (101, .aload_n 0, 1), (102, .invokevirtual 301, 3), (105, .ireturn, 1), (106, .aload_n 0, 1), (107, .getfield 267, 3), (110, .ireturn, 1), (111, .aload_n 0, 1), (112, .invokevirtual 304, 3), (115, .ireturn, 1), (116, .aload_n 0, 1), (117, .getfield 270, 3), (120, .ireturn, 1), (121, .ldc 169, 2), (123, .ireturn, 1)]
noncomputable def mX12_toldMore : MI := (iX12_toldMore, [(127, 12, 6), (267, 12, 37), (270, 12, 32)], [(169, .int (-1000000002))], [(209, 2, 0, 0, fX12_holds), (215, 1, 0, 0, fX12_loosePairs), (221, 2, 0, 0, fX12_price), (276, 1, 0, 0, fX12_cheapest), (301, 1, 0, 0, fX12_needed), (304, 1, 0, 0, fX12_wrong)], [], (0, 0), 1)
noncomputable def fX12_toldMore : CF := mth mX12_toldMore 2
def iX12_told : List (Nat × Instr × Nat) := [(0, .iload_n 1, 1), (1, .tableswitch 114 0 9 #[55, 60, 65, 70, 75, 80, 89, 94, 99, 109], 55), (56, .aload_n 0, 1), (57, .getfield 261, 3), (60, .ireturn, 1), (61, .aload_n 0, 1), (62, .getfield 110, 3), (65, .ireturn, 1), (66, .aload_n 0, 1), (67, .getfield 232, 3), (70, .ireturn, 1), (71, .aload_n 0, 1), (72, .getfield 23, 3), (75, .ireturn, 1), (76, .aload_n 0, 1), (77, .getfield 127, 3), (80, .ireturn, 1), (81, .aload_n 0, 1), (82, .aload_n 0, 1), (83, .getfield 127, 3), (86, .invokevirtual 221, 3), (89, .ireturn, 1), (90, .aload_n 0, 1), (91, .invokevirtual 161, 3), (94, .ireturn, 1), (95, .aload_n 0, 1), (96, .getfield 107, 3), (99, .ireturn, 1), (100, .aload_n 0, 1), (101, .invokevirtual 161, 3), (104, .aload_n 0, 1), (105, .getfield 107, 3), (108, .isub, 1), (109, .ireturn, 1), (110, .aload_n 0, 1), (111, .getfield 183, 3), (114, .ireturn, 1), (115, .aload_n 0, 1), (116, .iload_n 1, 1), (117, .invokevirtual 307, 3), (120, .ireturn, 1)]
noncomputable def mX12_told : MI := (iX12_told, [(23, 12, 7), (107, 12, 10), (110, 12, 1), (127, 12, 6), (183, 12, 18), (232, 12, 24), (261, 12, 0)], [], [(161, 1, 0, 0, fX12_readings), (221, 2, 0, 0, fX12_price), (307, 2, 0, 0, fX12_toldMore)], [], (0, 0), 1)
noncomputable def fX12_told : CF := mth mX12_told 2
end
