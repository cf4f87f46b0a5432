section
-- ===== PART A: goes FIRST, ahead of the names: the tables' words, and 'selects' of the private methods out of them =====
/-- a private method of a class that the tables say can be made, by its rows of tables_1 -/
def lw_okq (q : MethodName × Nat) : Prop := (q.1.cls ≠ "java/lang/invoke/MethodHandle" ∧ q.1.cls ≠ "java/lang/invoke/VarHandle") ∧ Cond.instantiable q.1.cls q.2 ∈ tables_1 ∧ Cond.privateMethod q.1 ∈ tables_1 ∧ Cond.instanceMethod q.1 ∈ tables_1
theorem lw_p0 : lw_okq (⟨"FenceWays$Parser", "take", "(ILFenceWays$Plan;)I"⟩, 3) := ⟨⟨by decide +kernel, by decide +kernel⟩, List.mem_of_getElem? (i := 42) (by decide +kernel), List.mem_of_getElem? (i := 337) (by decide +kernel), List.mem_of_getElem? (i := 338) (by decide +kernel)⟩
theorem lw_p1 : lw_okq (⟨"FenceWays$Parser", "takeWord", "(ILFenceWays$Plan;)I"⟩, 3) := ⟨⟨by decide +kernel, by decide +kernel⟩, List.mem_of_getElem? (i := 42) (by decide +kernel), List.mem_of_getElem? (i := 341) (by decide +kernel), List.mem_of_getElem? (i := 342) (by decide +kernel)⟩
theorem lw_p2 : lw_okq (⟨"FenceWays$Parser", "takeCell", "(ILFenceWays$Plan;)I"⟩, 3) := ⟨⟨by decide +kernel, by decide +kernel⟩, List.mem_of_getElem? (i := 42) (by decide +kernel), List.mem_of_getElem? (i := 349) (by decide +kernel), List.mem_of_getElem? (i := 350) (by decide +kernel)⟩
theorem lw_p3 : lw_okq (⟨"FenceWays", "startAnew", "()V"⟩, 19) := ⟨⟨by decide +kernel, by decide +kernel⟩, List.mem_of_getElem? (i := 18) (by decide +kernel), List.mem_of_getElem? (i := 365) (by decide +kernel), List.mem_of_getElem? (i := 366) (by decide +kernel)⟩
theorem lw_p4 : lw_okq (⟨"FenceWays$Rings", "gatherGifts", "(LFenceWays$Plan;)V"⟩, 4) := ⟨⟨by decide +kernel, by decide +kernel⟩, List.mem_of_getElem? (i := 92) (by decide +kernel), List.mem_of_getElem? (i := 374) (by decide +kernel), List.mem_of_getElem? (i := 375) (by decide +kernel)⟩
theorem lw_p5 : lw_okq (⟨"FenceWays$Rings", "addGift", "(I)V"⟩, 4) := ⟨⟨by decide +kernel, by decide +kernel⟩, List.mem_of_getElem? (i := 92) (by decide +kernel), List.mem_of_getElem? (i := 385) (by decide +kernel), List.mem_of_getElem? (i := 386) (by decide +kernel)⟩
theorem lw_p6 : lw_okq (⟨"FenceWays$Rings", "giftAt", "(I)I"⟩, 4) := ⟨⟨by decide +kernel, by decide +kernel⟩, List.mem_of_getElem? (i := 92) (by decide +kernel), List.mem_of_getElem? (i := 397) (by decide +kernel), List.mem_of_getElem? (i := 398) (by decide +kernel)⟩
theorem lw_p7 : lw_okq (⟨"FenceWays$Rings", "findBegunWith", "(LFenceWays$Plan;II)V"⟩, 4) := ⟨⟨by decide +kernel, by decide +kernel⟩, List.mem_of_getElem? (i := 92) (by decide +kernel), List.mem_of_getElem? (i := 401) (by decide +kernel), List.mem_of_getElem? (i := 402) (by decide +kernel)⟩
theorem lw_p8 : lw_okq (⟨"FenceWays$Rings", "leadsTo", "(LFenceWays$Plan;II)Z"⟩, 4) := ⟨⟨by decide +kernel, by decide +kernel⟩, List.mem_of_getElem? (i := 92) (by decide +kernel), List.mem_of_getElem? (i := 409) (by decide +kernel), List.mem_of_getElem? (i := 410) (by decide +kernel)⟩
theorem lw_p9 : lw_okq (⟨"FenceWays$Rings", "countGiven", "(I)V"⟩, 4) := ⟨⟨by decide +kernel, by decide +kernel⟩, List.mem_of_getElem? (i := 92) (by decide +kernel), List.mem_of_getElem? (i := 425) (by decide +kernel), List.mem_of_getElem? (i := 426) (by decide +kernel)⟩
theorem lw_p10 : lw_okq (⟨"FenceWays", "readingsNow", "()LFenceWays$ReadingList;"⟩, 19) := ⟨⟨by decide +kernel, by decide +kernel⟩, List.mem_of_getElem? (i := 18) (by decide +kernel), List.mem_of_getElem? (i := 453) (by decide +kernel), List.mem_of_getElem? (i := 454) (by decide +kernel)⟩
theorem lw_p11 : lw_okq (⟨"FenceWays$Orders", "weigh", "(LFenceWays$Plan;)V"⟩, 7) := ⟨⟨by decide +kernel, by decide +kernel⟩, List.mem_of_getElem? (i := 210) (by decide +kernel), List.mem_of_getElem? (i := 461) (by decide +kernel), List.mem_of_getElem? (i := 462) (by decide +kernel)⟩
theorem lw_p12 : lw_okq (⟨"FenceWays$Plan", "kindOf", "(II)I"⟩, 6) := ⟨⟨by decide +kernel, by decide +kernel⟩, List.mem_of_getElem? (i := 59) (by decide +kernel), List.mem_of_getElem? (i := 482) (by decide +kernel), List.mem_of_getElem? (i := 483) (by decide +kernel)⟩
theorem lw_p13 : lw_okq (⟨"FenceWays$Orders", "doOneMore", "(LFenceWays$Plan;)V"⟩, 7) := ⟨⟨by decide +kernel, by decide +kernel⟩, List.mem_of_getElem? (i := 210) (by decide +kernel), List.mem_of_getElem? (i := 487) (by decide +kernel), List.mem_of_getElem? (i := 488) (by decide +kernel)⟩
theorem lw_p14 : lw_okq (⟨"FenceWays$Orders", "doEach", "(LFenceWays$Plan;J)V"⟩, 7) := ⟨⟨by decide +kernel, by decide +kernel⟩, List.mem_of_getElem? (i := 210) (by decide +kernel), List.mem_of_getElem? (i := 492) (by decide +kernel), List.mem_of_getElem? (i := 493) (by decide +kernel)⟩
theorem lw_p15 : lw_okq (⟨"FenceWays$Orders", "behind", "(LFenceWays$Plan;JI)J"⟩, 7) := ⟨⟨by decide +kernel, by decide +kernel⟩, List.mem_of_getElem? (i := 210) (by decide +kernel), List.mem_of_getElem? (i := 497) (by decide +kernel), List.mem_of_getElem? (i := 498) (by decide +kernel)⟩
def lw_privs_1 : List (MethodName × Nat) := [(⟨"FenceWays$Parser", "take", "(ILFenceWays$Plan;)I"⟩, 3), (⟨"FenceWays$Parser", "takeWord", "(ILFenceWays$Plan;)I"⟩, 3), (⟨"FenceWays$Parser", "takeCell", "(ILFenceWays$Plan;)I"⟩, 3), (⟨"FenceWays", "startAnew", "()V"⟩, 19), (⟨"FenceWays$Rings", "gatherGifts", "(LFenceWays$Plan;)V"⟩, 4), (⟨"FenceWays$Rings", "addGift", "(I)V"⟩, 4), (⟨"FenceWays$Rings", "giftAt", "(I)I"⟩, 4), (⟨"FenceWays$Rings", "findBegunWith", "(LFenceWays$Plan;II)V"⟩, 4), (⟨"FenceWays$Rings", "leadsTo", "(LFenceWays$Plan;II)Z"⟩, 4), (⟨"FenceWays$Rings", "countGiven", "(I)V"⟩, 4), (⟨"FenceWays", "readingsNow", "()LFenceWays$ReadingList;"⟩, 19), (⟨"FenceWays$Orders", "weigh", "(LFenceWays$Plan;)V"⟩, 7), (⟨"FenceWays$Plan", "kindOf", "(II)I"⟩, 6), (⟨"FenceWays$Orders", "doOneMore", "(LFenceWays$Plan;)V"⟩, 7), (⟨"FenceWays$Orders", "doEach", "(LFenceWays$Plan;J)V"⟩, 7), (⟨"FenceWays$Orders", "behind", "(LFenceWays$Plan;JI)J"⟩, 7)]
theorem lw_r1 : ∀ q ∈ lw_privs_1, lw_okq q := List.forall_mem_cons.mpr ⟨lw_p0, List.forall_mem_cons.mpr ⟨lw_p1, List.forall_mem_cons.mpr ⟨lw_p2, List.forall_mem_cons.mpr ⟨lw_p3, List.forall_mem_cons.mpr ⟨lw_p4, List.forall_mem_cons.mpr ⟨lw_p5, List.forall_mem_cons.mpr ⟨lw_p6, List.forall_mem_cons.mpr ⟨lw_p7, List.forall_mem_cons.mpr ⟨lw_p8, List.forall_mem_cons.mpr ⟨lw_p9, List.forall_mem_cons.mpr ⟨lw_p10, List.forall_mem_cons.mpr ⟨lw_p11, List.forall_mem_cons.mpr ⟨lw_p12, List.forall_mem_cons.mpr ⟨lw_p13, List.forall_mem_cons.mpr ⟨lw_p14, List.forall_mem_cons.mpr ⟨lw_p15, fun _ h => absurd h List.not_mem_nil⟩⟩⟩⟩⟩⟩⟩⟩⟩⟩⟩⟩⟩⟩⟩⟩
theorem lw_p16 : lw_okq (⟨"FenceWays$Orders", "addNext", "(J)V"⟩, 7) := ⟨⟨by decide +kernel, by decide +kernel⟩, List.mem_of_getElem? (i := 210) (by decide +kernel), List.mem_of_getElem? (i := 504) (by decide +kernel), List.mem_of_getElem? (i := 505) (by decide +kernel)⟩
theorem lw_p17 : lw_okq (⟨"FenceWays$Orders", "putNext", "(IJ)V"⟩, 7) := ⟨⟨by decide +kernel, by decide +kernel⟩, List.mem_of_getElem? (i := 210) (by decide +kernel), List.mem_of_getElem? (i := 509) (by decide +kernel), List.mem_of_getElem? (i := 510) (by decide +kernel)⟩
theorem lw_p18 : lw_okq (⟨"FenceWays$ReadingList", "placeOf", "(I)I"⟩, 2) := ⟨⟨by decide +kernel, by decide +kernel⟩, List.mem_of_getElem? (i := 239) (by decide +kernel), List.mem_of_getElem? (i := 521) (by decide +kernel), List.mem_of_getElem? (i := 522) (by decide +kernel)⟩
theorem lw_p19 : lw_okq (⟨"FenceWays", "strictNow", "()LFenceWays$ReadingList;"⟩, 19) := ⟨⟨by decide +kernel, by decide +kernel⟩, List.mem_of_getElem? (i := 18) (by decide +kernel), List.mem_of_getElem? (i := 529) (by decide +kernel), List.mem_of_getElem? (i := 530) (by decide +kernel)⟩
theorem lw_p20 : lw_okq (⟨"FenceWays", "looseNow", "()LFenceWays$LoosePairs;"⟩, 19) := ⟨⟨by decide +kernel, by decide +kernel⟩, List.mem_of_getElem? (i := 18) (by decide +kernel), List.mem_of_getElem? (i := 541) (by decide +kernel), List.mem_of_getElem? (i := 542) (by decide +kernel)⟩
theorem lw_p21 : lw_okq (⟨"FenceWays$LoosePairs", "add", "(I)V"⟩, 2) := ⟨⟨by decide +kernel, by decide +kernel⟩, List.mem_of_getElem? (i := 112) (by decide +kernel), List.mem_of_getElem? (i := 555) (by decide +kernel), List.mem_of_getElem? (i := 556) (by decide +kernel)⟩
theorem lw_p22 : lw_okq (⟨"FenceWays$LoosePairs", "holdersAt", "(I)I"⟩, 2) := ⟨⟨by decide +kernel, by decide +kernel⟩, List.mem_of_getElem? (i := 112) (by decide +kernel), List.mem_of_getElem? (i := 563) (by decide +kernel), List.mem_of_getElem? (i := 564) (by decide +kernel)⟩
theorem lw_p23 : lw_okq (⟨"FenceWays", "bestSet", "()I"⟩, 19) := ⟨⟨by decide +kernel, by decide +kernel⟩, List.mem_of_getElem? (i := 18) (by decide +kernel), List.mem_of_getElem? (i := 572) (by decide +kernel), List.mem_of_getElem? (i := 573) (by decide +kernel)⟩
theorem lw_p24 : lw_okq (⟨"FenceWays$History", "settingAt", "(I)LFenceWays$Setting;"⟩, 3) := ⟨⟨by decide +kernel, by decide +kernel⟩, List.mem_of_getElem? (i := 151) (by decide +kernel), List.mem_of_getElem? (i := 653) (by decide +kernel), List.mem_of_getElem? (i := 654) (by decide +kernel)⟩
theorem lw_p25 : lw_okq (⟨"FenceWays", "driftOnce", "()V"⟩, 19) := ⟨⟨by decide +kernel, by decide +kernel⟩, List.mem_of_getElem? (i := 18) (by decide +kernel), List.mem_of_getElem? (i := 689) (by decide +kernel), List.mem_of_getElem? (i := 690) (by decide +kernel)⟩
theorem lw_p26 : lw_okq (⟨"FenceWays", "draw", "(I)I"⟩, 19) := ⟨⟨by decide +kernel, by decide +kernel⟩, List.mem_of_getElem? (i := 18) (by decide +kernel), List.mem_of_getElem? (i := 693) (by decide +kernel), List.mem_of_getElem? (i := 694) (by decide +kernel)⟩
theorem lw_p27 : lw_okq (⟨"FenceWaysModel", "goes", "([IZ)I"⟩, 45) := ⟨⟨by decide +kernel, by decide +kernel⟩, List.mem_of_getElem? (i := 740) (by decide +kernel), List.mem_of_getElem? (i := 746) (by decide +kernel), List.mem_of_getElem? (i := 747) (by decide +kernel)⟩
theorem lw_p28 : lw_okq (⟨"FenceWaysModel", "ahead", "(I)I"⟩, 45) := ⟨⟨by decide +kernel, by decide +kernel⟩, List.mem_of_getElem? (i := 740) (by decide +kernel), List.mem_of_getElem? (i := 750) (by decide +kernel), List.mem_of_getElem? (i := 751) (by decide +kernel)⟩
theorem lw_p29 : lw_okq (⟨"FenceWaysModel", "isAhead", "(II)Z"⟩, 45) := ⟨⟨by decide +kernel, by decide +kernel⟩, List.mem_of_getElem? (i := 740) (by decide +kernel), List.mem_of_getElem? (i := 754) (by decide +kernel), List.mem_of_getElem? (i := 755) (by decide +kernel)⟩
theorem lw_p30 : lw_okq (⟨"FenceWaysModel", "waits", "(I)I"⟩, 45) := ⟨⟨by decide +kernel, by decide +kernel⟩, List.mem_of_getElem? (i := 740) (by decide +kernel), List.mem_of_getElem? (i := 758) (by decide +kernel), List.mem_of_getElem? (i := 759) (by decide +kernel)⟩
theorem lw_p31 : lw_okq (⟨"FenceWaysModel", "isBound", "(II)Z"⟩, 45) := ⟨⟨by decide +kernel, by decide +kernel⟩, List.mem_of_getElem? (i := 740) (by decide +kernel), List.mem_of_getElem? (i := 762) (by decide +kernel), List.mem_of_getElem? (i := 763) (by decide +kernel)⟩
def lw_privs_2 : List (MethodName × Nat) := [(⟨"FenceWays$Orders", "addNext", "(J)V"⟩, 7), (⟨"FenceWays$Orders", "putNext", "(IJ)V"⟩, 7), (⟨"FenceWays$ReadingList", "placeOf", "(I)I"⟩, 2), (⟨"FenceWays", "strictNow", "()LFenceWays$ReadingList;"⟩, 19), (⟨"FenceWays", "looseNow", "()LFenceWays$LoosePairs;"⟩, 19), (⟨"FenceWays$LoosePairs", "add", "(I)V"⟩, 2), (⟨"FenceWays$LoosePairs", "holdersAt", "(I)I"⟩, 2), (⟨"FenceWays", "bestSet", "()I"⟩, 19), (⟨"FenceWays$History", "settingAt", "(I)LFenceWays$Setting;"⟩, 3), (⟨"FenceWays", "driftOnce", "()V"⟩, 19), (⟨"FenceWays", "draw", "(I)I"⟩, 19), (⟨"FenceWaysModel", "goes", "([IZ)I"⟩, 45), (⟨"FenceWaysModel", "ahead", "(I)I"⟩, 45), (⟨"FenceWaysModel", "isAhead", "(II)Z"⟩, 45), (⟨"FenceWaysModel", "waits", "(I)I"⟩, 45), (⟨"FenceWaysModel", "isBound", "(II)Z"⟩, 45)]
theorem lw_r2 : ∀ q ∈ lw_privs_2, lw_okq q := List.forall_mem_cons.mpr ⟨lw_p16, List.forall_mem_cons.mpr ⟨lw_p17, List.forall_mem_cons.mpr ⟨lw_p18, List.forall_mem_cons.mpr ⟨lw_p19, List.forall_mem_cons.mpr ⟨lw_p20, List.forall_mem_cons.mpr ⟨lw_p21, List.forall_mem_cons.mpr ⟨lw_p22, List.forall_mem_cons.mpr ⟨lw_p23, List.forall_mem_cons.mpr ⟨lw_p24, List.forall_mem_cons.mpr ⟨lw_p25, List.forall_mem_cons.mpr ⟨lw_p26, List.forall_mem_cons.mpr ⟨lw_p27, List.forall_mem_cons.mpr ⟨lw_p28, List.forall_mem_cons.mpr ⟨lw_p29, List.forall_mem_cons.mpr ⟨lw_p30, List.forall_mem_cons.mpr ⟨lw_p31, fun _ h => absurd h List.not_mem_nil⟩⟩⟩⟩⟩⟩⟩⟩⟩⟩⟩⟩⟩⟩⟩⟩
theorem lw_p32 : lw_okq (⟨"FenceWaysModel", "kind", "(II)I"⟩, 45) := ⟨⟨by decide +kernel, by decide +kernel⟩, List.mem_of_getElem? (i := 740) (by decide +kernel), List.mem_of_getElem? (i := 766) (by decide +kernel), List.mem_of_getElem? (i := 767) (by decide +kernel)⟩
theorem lw_p33 : lw_okq (⟨"FenceWaysModel", "does", "(II)V"⟩, 45) := ⟨⟨by decide +kernel, by decide +kernel⟩, List.mem_of_getElem? (i := 740) (by decide +kernel), List.mem_of_getElem? (i := 779) (by decide +kernel), List.mem_of_getElem? (i := 780) (by decide +kernel)⟩
theorem lw_p34 : lw_okq (⟨"FenceWaysModel", "weight", "(I)I"⟩, 45) := ⟨⟨by decide +kernel, by decide +kernel⟩, List.mem_of_getElem? (i := 740) (by decide +kernel), List.mem_of_getElem? (i := 783) (by decide +kernel), List.mem_of_getElem? (i := 784) (by decide +kernel)⟩
theorem lw_p35 : lw_okq (⟨"FenceWaysModel", "stray", "(I)I"⟩, 45) := ⟨⟨by decide +kernel, by decide +kernel⟩, List.mem_of_getElem? (i := 740) (by decide +kernel), List.mem_of_getElem? (i := 929) (by decide +kernel), List.mem_of_getElem? (i := 930) (by decide +kernel)⟩
theorem lw_p36 : lw_okq (⟨"FenceWaysModel", "readings", "()I"⟩, 45) := ⟨⟨by decide +kernel, by decide +kernel⟩, List.mem_of_getElem? (i := 740) (by decide +kernel), List.mem_of_getElem? (i := 933) (by decide +kernel), List.mem_of_getElem? (i := 934) (by decide +kernel)⟩
theorem lw_p37 : lw_okq (⟨"FenceWaysModel", "isStep", "(I)Z"⟩, 45) := ⟨⟨by decide +kernel, by decide +kernel⟩, List.mem_of_getElem? (i := 740) (by decide +kernel), List.mem_of_getElem? (i := 948) (by decide +kernel), List.mem_of_getElem? (i := 949) (by decide +kernel)⟩
theorem lw_p38 : lw_okq (⟨"FenceWaysModel", "isGap", "(I)Z"⟩, 45) := ⟨⟨by decide +kernel, by decide +kernel⟩, List.mem_of_getElem? (i := 740) (by decide +kernel), List.mem_of_getElem? (i := 953) (by decide +kernel), List.mem_of_getElem? (i := 954) (by decide +kernel)⟩
theorem lw_p39 : lw_okq (⟨"FenceWaysModel", "holds", "(I)I"⟩, 45) := ⟨⟨by decide +kernel, by decide +kernel⟩, List.mem_of_getElem? (i := 740) (by decide +kernel), List.mem_of_getElem? (i := 957) (by decide +kernel), List.mem_of_getElem? (i := 958) (by decide +kernel)⟩
theorem lw_p40 : lw_okq (⟨"FenceWaysModel", "isLoose", "(II)Z"⟩, 45) := ⟨⟨by decide +kernel, by decide +kernel⟩, List.mem_of_getElem? (i := 740) (by decide +kernel), List.mem_of_getElem? (i := 961) (by decide +kernel), List.mem_of_getElem? (i := 962) (by decide +kernel)⟩
theorem lw_p41 : lw_okq (⟨"FenceWaysModel", "isPair", "(II)Z"⟩, 45) := ⟨⟨by decide +kernel, by decide +kernel⟩, List.mem_of_getElem? (i := 740) (by decide +kernel), List.mem_of_getElem? (i := 965) (by decide +kernel), List.mem_of_getElem? (i := 966) (by decide +kernel)⟩
theorem lw_p42 : lw_okq (⟨"FenceWaysModel", "conflicts", "(I)I"⟩, 45) := ⟨⟨by decide +kernel, by decide +kernel⟩, List.mem_of_getElem? (i := 740) (by decide +kernel), List.mem_of_getElem? (i := 969) (by decide +kernel), List.mem_of_getElem? (i := 970) (by decide +kernel)⟩
theorem lw_p43 : lw_okq (⟨"FenceWaysModel", "isConflict", "(II)Z"⟩, 45) := ⟨⟨by decide +kernel, by decide +kernel⟩, List.mem_of_getElem? (i := 740) (by decide +kernel), List.mem_of_getElem? (i := 973) (by decide +kernel), List.mem_of_getElem? (i := 974) (by decide +kernel)⟩
theorem lw_p44 : lw_okq (⟨"FenceWaysModel", "reads", "()I"⟩, 45) := ⟨⟨by decide +kernel, by decide +kernel⟩, List.mem_of_getElem? (i := 740) (by decide +kernel), List.mem_of_getElem? (i := 991) (by decide +kernel), List.mem_of_getElem? (i := 992) (by decide +kernel)⟩
theorem lw_p45 : lw_okq (⟨"FenceWaysModel", "sign", "()I"⟩, 45) := ⟨⟨by decide +kernel, by decide +kernel⟩, List.mem_of_getElem? (i := 740) (by decide +kernel), List.mem_of_getElem? (i := 995) (by decide +kernel), List.mem_of_getElem? (i := 996) (by decide +kernel)⟩
theorem lw_p46 : lw_okq (⟨"FenceWaysModel", "readsThread", "()I"⟩, 45) := ⟨⟨by decide +kernel, by decide +kernel⟩, List.mem_of_getElem? (i := 740) (by decide +kernel), List.mem_of_getElem? (i := 999) (by decide +kernel), List.mem_of_getElem? (i := 1000) (by decide +kernel)⟩
theorem lw_p47 : lw_okq (⟨"FenceWaysModel", "ends", "()I"⟩, 45) := ⟨⟨by decide +kernel, by decide +kernel⟩, List.mem_of_getElem? (i := 740) (by decide +kernel), List.mem_of_getElem? (i := 1003) (by decide +kernel), List.mem_of_getElem? (i := 1004) (by decide +kernel)⟩
def lw_privs_3 : List (MethodName × Nat) := [(⟨"FenceWaysModel", "kind", "(II)I"⟩, 45), (⟨"FenceWaysModel", "does", "(II)V"⟩, 45), (⟨"FenceWaysModel", "weight", "(I)I"⟩, 45), (⟨"FenceWaysModel", "stray", "(I)I"⟩, 45), (⟨"FenceWaysModel", "readings", "()I"⟩, 45), (⟨"FenceWaysModel", "isStep", "(I)Z"⟩, 45), (⟨"FenceWaysModel", "isGap", "(I)Z"⟩, 45), (⟨"FenceWaysModel", "holds", "(I)I"⟩, 45), (⟨"FenceWaysModel", "isLoose", "(II)Z"⟩, 45), (⟨"FenceWaysModel", "isPair", "(II)Z"⟩, 45), (⟨"FenceWaysModel", "conflicts", "(I)I"⟩, 45), (⟨"FenceWaysModel", "isConflict", "(II)Z"⟩, 45), (⟨"FenceWaysModel", "reads", "()I"⟩, 45), (⟨"FenceWaysModel", "sign", "()I"⟩, 45), (⟨"FenceWaysModel", "readsThread", "()I"⟩, 45), (⟨"FenceWaysModel", "ends", "()I"⟩, 45)]
theorem lw_r3 : ∀ q ∈ lw_privs_3, lw_okq q := List.forall_mem_cons.mpr ⟨lw_p32, List.forall_mem_cons.mpr ⟨lw_p33, List.forall_mem_cons.mpr ⟨lw_p34, List.forall_mem_cons.mpr ⟨lw_p35, List.forall_mem_cons.mpr ⟨lw_p36, List.forall_mem_cons.mpr ⟨lw_p37, List.forall_mem_cons.mpr ⟨lw_p38, List.forall_mem_cons.mpr ⟨lw_p39, List.forall_mem_cons.mpr ⟨lw_p40, List.forall_mem_cons.mpr ⟨lw_p41, List.forall_mem_cons.mpr ⟨lw_p42, List.forall_mem_cons.mpr ⟨lw_p43, List.forall_mem_cons.mpr ⟨lw_p44, List.forall_mem_cons.mpr ⟨lw_p45, List.forall_mem_cons.mpr ⟨lw_p46, List.forall_mem_cons.mpr ⟨lw_p47, fun _ h => absurd h List.not_mem_nil⟩⟩⟩⟩⟩⟩⟩⟩⟩⟩⟩⟩⟩⟩⟩⟩
theorem lw_p48 : lw_okq (⟨"FenceWaysModel", "readsStep", "(Z)I"⟩, 45) := ⟨⟨by decide +kernel, by decide +kernel⟩, List.mem_of_getElem? (i := 740) (by decide +kernel), List.mem_of_getElem? (i := 1007) (by decide +kernel), List.mem_of_getElem? (i := 1008) (by decide +kernel)⟩
theorem lw_p49 : lw_okq (⟨"FenceWaysModel", "laysRings", "()V"⟩, 45) := ⟨⟨by decide +kernel, by decide +kernel⟩, List.mem_of_getElem? (i := 740) (by decide +kernel), List.mem_of_getElem? (i := 1011) (by decide +kernel), List.mem_of_getElem? (i := 1012) (by decide +kernel)⟩
theorem lw_p50 : lw_okq (⟨"FenceWaysModel", "laysGifts", "()V"⟩, 45) := ⟨⟨by decide +kernel, by decide +kernel⟩, List.mem_of_getElem? (i := 740) (by decide +kernel), List.mem_of_getElem? (i := 1015) (by decide +kernel), List.mem_of_getElem? (i := 1016) (by decide +kernel)⟩
theorem lw_p51 : lw_okq (⟨"FenceWaysModel", "laysTwos", "()V"⟩, 45) := ⟨⟨by decide +kernel, by decide +kernel⟩, List.mem_of_getElem? (i := 740) (by decide +kernel), List.mem_of_getElem? (i := 1019) (by decide +kernel), List.mem_of_getElem? (i := 1020) (by decide +kernel)⟩
theorem lw_p52 : lw_okq (⟨"FenceWaysModel", "isOne", "(I)Z"⟩, 45) := ⟨⟨by decide +kernel, by decide +kernel⟩, List.mem_of_getElem? (i := 740) (by decide +kernel), List.mem_of_getElem? (i := 1023) (by decide +kernel), List.mem_of_getElem? (i := 1024) (by decide +kernel)⟩
theorem lw_p53 : lw_okq (⟨"FenceWaysModel", "meets", "(II)Z"⟩, 45) := ⟨⟨by decide +kernel, by decide +kernel⟩, List.mem_of_getElem? (i := 740) (by decide +kernel), List.mem_of_getElem? (i := 1027) (by decide +kernel), List.mem_of_getElem? (i := 1028) (by decide +kernel)⟩
theorem lw_p54 : lw_okq (⟨"FenceWaysModel", "gives", "(I)V"⟩, 45) := ⟨⟨by decide +kernel, by decide +kernel⟩, List.mem_of_getElem? (i := 740) (by decide +kernel), List.mem_of_getElem? (i := 1031) (by decide +kernel), List.mem_of_getElem? (i := 1032) (by decide +kernel)⟩
theorem lw_p55 : lw_okq (⟨"FenceWaysModel", "laysThrees", "(II)V"⟩, 45) := ⟨⟨by decide +kernel, by decide +kernel⟩, List.mem_of_getElem? (i := 740) (by decide +kernel), List.mem_of_getElem? (i := 1035) (by decide +kernel), List.mem_of_getElem? (i := 1036) (by decide +kernel)⟩
theorem lw_p56 : lw_okq (⟨"FenceWaysModel", "fits", "(III)Z"⟩, 45) := ⟨⟨by decide +kernel, by decide +kernel⟩, List.mem_of_getElem? (i := 740) (by decide +kernel), List.mem_of_getElem? (i := 1039) (by decide +kernel), List.mem_of_getElem? (i := 1040) (by decide +kernel)⟩
theorem lw_p57 : lw_okq (⟨"FenceWaysModel", "marks", "()V"⟩, 45) := ⟨⟨by decide +kernel, by decide +kernel⟩, List.mem_of_getElem? (i := 740) (by decide +kernel), List.mem_of_getElem? (i := 1051) (by decide +kernel), List.mem_of_getElem? (i := 1052) (by decide +kernel)⟩
theorem lw_p58 : lw_okq (⟨"FenceWaysModel", "price", "(I)I"⟩, 45) := ⟨⟨by decide +kernel, by decide +kernel⟩, List.mem_of_getElem? (i := 740) (by decide +kernel), List.mem_of_getElem? (i := 1055) (by decide +kernel), List.mem_of_getElem? (i := 1056) (by decide +kernel)⟩
theorem lw_p59 : lw_okq (⟨"FenceWaysModel", "cheapest", "()I"⟩, 45) := ⟨⟨by decide +kernel, by decide +kernel⟩, List.mem_of_getElem? (i := 740) (by decide +kernel), List.mem_of_getElem? (i := 1071) (by decide +kernel), List.mem_of_getElem? (i := 1072) (by decide +kernel)⟩
theorem lw_p60 : lw_okq (⟨"FenceWaysModel", "loosePairs", "()I"⟩, 45) := ⟨⟨by decide +kernel, by decide +kernel⟩, List.mem_of_getElem? (i := 740) (by decide +kernel), List.mem_of_getElem? (i := 1075) (by decide +kernel), List.mem_of_getElem? (i := 1076) (by decide +kernel)⟩
theorem lw_p61 : lw_okq (⟨"FenceWaysModel", "gaps", "()I"⟩, 45) := ⟨⟨by decide +kernel, by decide +kernel⟩, List.mem_of_getElem? (i := 740) (by decide +kernel), List.mem_of_getElem? (i := 1079) (by decide +kernel), List.mem_of_getElem? (i := 1080) (by decide +kernel)⟩
theorem lw_p62 : lw_okq (⟨"FenceWaysModel", "drawn", "()V"⟩, 45) := ⟨⟨by decide +kernel, by decide +kernel⟩, List.mem_of_getElem? (i := 740) (by decide +kernel), List.mem_of_getElem? (i := 1087) (by decide +kernel), List.mem_of_getElem? (i := 1088) (by decide +kernel)⟩
theorem lw_p63 : lw_okq (⟨"FenceWaysModel", "draw", "(I)I"⟩, 45) := ⟨⟨by decide +kernel, by decide +kernel⟩, List.mem_of_getElem? (i := 740) (by decide +kernel), List.mem_of_getElem? (i := 1091) (by decide +kernel), List.mem_of_getElem? (i := 1092) (by decide +kernel)⟩
def lw_privs_4 : List (MethodName × Nat) := [(⟨"FenceWaysModel", "readsStep", "(Z)I"⟩, 45), (⟨"FenceWaysModel", "laysRings", "()V"⟩, 45), (⟨"FenceWaysModel", "laysGifts", "()V"⟩, 45), (⟨"FenceWaysModel", "laysTwos", "()V"⟩, 45), (⟨"FenceWaysModel", "isOne", "(I)Z"⟩, 45), (⟨"FenceWaysModel", "meets", "(II)Z"⟩, 45), (⟨"FenceWaysModel", "gives", "(I)V"⟩, 45), (⟨"FenceWaysModel", "laysThrees", "(II)V"⟩, 45), (⟨"FenceWaysModel", "fits", "(III)Z"⟩, 45), (⟨"FenceWaysModel", "marks", "()V"⟩, 45), (⟨"FenceWaysModel", "price", "(I)I"⟩, 45), (⟨"FenceWaysModel", "cheapest", "()I"⟩, 45), (⟨"FenceWaysModel", "loosePairs", "()I"⟩, 45), (⟨"FenceWaysModel", "gaps", "()I"⟩, 45), (⟨"FenceWaysModel", "drawn", "()V"⟩, 45), (⟨"FenceWaysModel", "draw", "(I)I"⟩, 45)]
theorem lw_r4 : ∀ q ∈ lw_privs_4, lw_okq q := List.forall_mem_cons.mpr ⟨lw_p48, List.forall_mem_cons.mpr ⟨lw_p49, List.forall_mem_cons.mpr ⟨lw_p50, List.forall_mem_cons.mpr ⟨lw_p51, List.forall_mem_cons.mpr ⟨lw_p52, List.forall_mem_cons.mpr ⟨lw_p53, List.forall_mem_cons.mpr ⟨lw_p54, List.forall_mem_cons.mpr ⟨lw_p55, List.forall_mem_cons.mpr ⟨lw_p56, List.forall_mem_cons.mpr ⟨lw_p57, List.forall_mem_cons.mpr ⟨lw_p58, List.forall_mem_cons.mpr ⟨lw_p59, List.forall_mem_cons.mpr ⟨lw_p60, List.forall_mem_cons.mpr ⟨lw_p61, List.forall_mem_cons.mpr ⟨lw_p62, List.forall_mem_cons.mpr ⟨lw_p63, fun _ h => absurd h List.not_mem_nil⟩⟩⟩⟩⟩⟩⟩⟩⟩⟩⟩⟩⟩⟩⟩⟩
theorem lw_p64 : lw_okq (⟨"FenceWaysModel", "toldMore", "(I)I"⟩, 45) := ⟨⟨by decide +kernel, by decide +kernel⟩, List.mem_of_getElem? (i := 740) (by decide +kernel), List.mem_of_getElem? (i := 1128) (by decide +kernel), List.mem_of_getElem? (i := 1129) (by decide +kernel)⟩
theorem lw_p65 : lw_okq (⟨"FenceWaysModel", "needed", "()I"⟩, 45) := ⟨⟨by decide +kernel, by decide +kernel⟩, List.mem_of_getElem? (i := 740) (by decide +kernel), List.mem_of_getElem? (i := 1132) (by decide +kernel), List.mem_of_getElem? (i := 1133) (by decide +kernel)⟩
theorem lw_p66 : lw_okq (⟨"FenceWaysModel", "wrong", "()I"⟩, 45) := ⟨⟨by decide +kernel, by decide +kernel⟩, List.mem_of_getElem? (i := 740) (by decide +kernel), List.mem_of_getElem? (i := 1136) (by decide +kernel), List.mem_of_getElem? (i := 1137) (by decide +kernel)⟩
def lw_privs_5 : List (MethodName × Nat) := [(⟨"FenceWaysModel", "toldMore", "(I)I"⟩, 45), (⟨"FenceWaysModel", "needed", "()I"⟩, 45), (⟨"FenceWaysModel", "wrong", "()I"⟩, 45)]
theorem lw_r5 : ∀ q ∈ lw_privs_5, lw_okq q := List.forall_mem_cons.mpr ⟨lw_p64, List.forall_mem_cons.mpr ⟨lw_p65, List.forall_mem_cons.mpr ⟨lw_p66, fun _ h => absurd h List.not_mem_nil⟩⟩⟩
def lw_privs : List (MethodName × Nat) := lw_privs_1 ++ (lw_privs_2 ++ (lw_privs_3 ++ (lw_privs_4 ++ (lw_privs_5))))
def lw_tbl : List Cond := k2_sels lw_privs ++ tables_1
theorem lw_privs_ok : ∀ q ∈ lw_privs, lw_okq q := by
  show ∀ q ∈ lw_privs_1 ++ (lw_privs_2 ++ (lw_privs_3 ++ (lw_privs_4 ++ (lw_privs_5)))), lw_okq q
  exact List.forall_mem_append.mpr ⟨lw_r1, List.forall_mem_append.mpr ⟨lw_r2, List.forall_mem_append.mpr ⟨lw_r3, List.forall_mem_append.mpr ⟨lw_r4, lw_r5⟩⟩⟩⟩
end
section
def RX0 : String := "FenceWays$Book"
def TX0 : u_T := fun k => match k with
  | 0 => ("FenceWays$Book", "numbers", "[I", true)
  | 1 => ("FenceWays$Book", "thatCan", "I", false)
  | _ => ("FenceWays$Book", "count", "I", false)
def tyX0 : Nat → FieldType := fun k => match k with
  | 0 => .array .int
  | 1 => .int
  | _ => .int
abbrev wsX00 : List Cond := u_ws RX0 TX0 3
theorem nmX0 : ∀ a, a < 3 → ∀ b, b < 3 → a ≠ b → (TX0 a).2.1 ≠ (TX0 b).2.1 := by decide +kernel
theorem tyX0_ok : ∀ k, k < 3 → parseFieldDescriptor (TX0 k).2.2.1 = some (tyX0 k) := by decide +kernel
abbrev cX0_init : ByteArray := prog_2_method_1_code
def yX0_init : MethodName := ⟨RX0, "<init>", "()V"⟩
abbrev cX0_clear : ByteArray := prog_2_method_2_code
def yX0_clear : MethodName := ⟨RX0, "clear", "()V"⟩
abbrev cX0_add : ByteArray := prog_2_method_3_code
def yX0_add : MethodName := ⟨RX0, "add", "(IZ)Z"⟩
abbrev cX0_firstWrong : ByteArray := prog_2_method_4_code
def yX0_firstWrong : MethodName := ⟨RX0, "firstWrong", "(LFenceWays$ReadingList;)I"⟩
def RX1 : String := "FenceWays$History"
def TX1 : u_T := fun k => match k with
  | 0 => ("FenceWays$History", "settings", "[LFenceWays$Setting;", true)
  | 1 => ("FenceWays$History", "oldest", "I", false)
  | _ => ("FenceWays$History", "count", "I", false)
def tyX1 : Nat → FieldType := fun k => match k with
  | 0 => .array (.object "FenceWays$Setting")
  | 1 => .int
  | _ => .int
abbrev wsX10 : List Cond := u_ws RX1 TX1 3
theorem nmX1 : ∀ a, a < 3 → ∀ b, b < 3 → a ≠ b → (TX1 a).2.1 ≠ (TX1 b).2.1 := by decide +kernel
theorem tyX1_ok : ∀ k, k < 3 → parseFieldDescriptor (TX1 k).2.2.1 = some (tyX1 k) := by decide +kernel
abbrev cX1_init : ByteArray := prog_3_method_1_code
def yX1_init : MethodName := ⟨RX1, "<init>", "()V"⟩
abbrev cX1_clear : ByteArray := prog_3_method_2_code
def yX1_clear : MethodName := ⟨RX1, "clear", "()V"⟩
abbrev cX1_add : ByteArray := prog_3_method_3_code
def yX1_add : MethodName := ⟨RX1, "add", "(LFenceWays$Setting;)V"⟩
abbrev cX1_takeBack : ByteArray := prog_3_method_4_code
def yX1_takeBack : MethodName := ⟨RX1, "takeBack", "(ILFenceWays$Setting;)V"⟩
abbrev cX1_settingAt : ByteArray := prog_3_method_5_code
def yX1_settingAt : MethodName := ⟨RX1, "settingAt", "(I)LFenceWays$Setting;"⟩
def RX2 : String := "FenceWays$Image"
def TX2 : u_T := fun k => match k with
  | 0 => ("FenceWays$Image", "setting", "LFenceWays$Setting;", true)
  | 1 => ("FenceWays$Image", "seedThen", "I", false)
  | _ => ("FenceWays$Image", "isKept", "Z", false)
def tyX2 : Nat → FieldType := fun k => match k with
  | 0 => .object "FenceWays$Setting"
  | 1 => .int
  | _ => .boolean
abbrev wsX20 : List Cond := u_ws RX2 TX2 3
theorem nmX2 : ∀ a, a < 3 → ∀ b, b < 3 → a ≠ b → (TX2 a).2.1 ≠ (TX2 b).2.1 := by decide +kernel
theorem tyX2_ok : ∀ k, k < 3 → parseFieldDescriptor (TX2 k).2.2.1 = some (tyX2 k) := by decide +kernel
abbrev cX2_init : ByteArray := prog_4_method_1_code
def yX2_init : MethodName := ⟨RX2, "<init>", "()V"⟩
abbrev cX2_hold : ByteArray := prog_4_method_2_code
def yX2_hold : MethodName := ⟨RX2, "hold", "(LFenceWays$Setting;I)V"⟩
def RX3 : String := "FenceWays$LoosePairs"
def TX3 : u_T := fun k => match k with
  | 0 => ("FenceWays$LoosePairs", "holders", "[I", true)
  | _ => ("FenceWays$LoosePairs", "count", "I", false)
def tyX3 : Nat → FieldType := fun k => match k with
  | 0 => .array .int
  | _ => .int
abbrev wsX30 : List Cond := u_ws RX3 TX3 2
theorem nmX3 : ∀ a, a < 2 → ∀ b, b < 2 → a ≠ b → (TX3 a).2.1 ≠ (TX3 b).2.1 := by decide +kernel
theorem tyX3_ok : ∀ k, k < 2 → parseFieldDescriptor (TX3 k).2.2.1 = some (tyX3 k) := by decide +kernel
abbrev cX3_init : ByteArray := prog_5_method_1_code
def yX3_init : MethodName := ⟨RX3, "<init>", "()V"⟩
abbrev cX3_gather : ByteArray := prog_5_method_2_code
def yX3_gather : MethodName := ⟨RX3, "gather", "(LFenceWays$Plan;LFenceWays$Rings;I)V"⟩
abbrev cX3_countHeld : ByteArray := prog_5_method_3_code
def yX3_countHeld : MethodName := ⟨RX3, "countHeld", "(I)I"⟩
abbrev cX3_areAllHeld : ByteArray := prog_5_method_4_code
def yX3_areAllHeld : MethodName := ⟨RX3, "areAllHeld", "(I)Z"⟩
abbrev cX3_neededOf : ByteArray := prog_5_method_5_code
def yX3_neededOf : MethodName := ⟨RX3, "neededOf", "(I)I"⟩
abbrev cX3_cheapestSet : ByteArray := prog_5_method_6_code
def yX3_cheapestSet : MethodName := ⟨RX3, "cheapestSet", "(ILFenceWays$Setting;)I"⟩
abbrev cX3_add : ByteArray := prog_5_method_7_code
def yX3_add : MethodName := ⟨RX3, "add", "(I)V"⟩
abbrev cX3_holdersAt : ByteArray := prog_5_method_8_code
def yX3_holdersAt : MethodName := ⟨RX3, "holdersAt", "(I)I"⟩
def RX4 : String := "FenceWays$Orders"
def TX4 : u_T := fun k => match k with
  | 0 => ("FenceWays$Orders", "states", "[J", false)
  | 1 => ("FenceWays$Orders", "nextStates", "[J", false)
  | 2 => ("FenceWays$Orders", "slots", "[I", true)
  | 3 => ("FenceWays$Orders", "waits", "[I", true)
  | 4 => ("FenceWays$Orders", "weights", "[I", true)
  | 5 => ("FenceWays$Orders", "count", "I", false)
  | _ => ("FenceWays$Orders", "nextCount", "I", false)
def tyX4 : Nat → FieldType := fun k => match k with
  | 0 => .array .long
  | 1 => .array .long
  | 2 => .array .int
  | 3 => .array .int
  | 4 => .array .int
  | 5 => .int
  | _ => .int
abbrev wsX40 : List Cond := u_ws RX4 TX4 7
theorem nmX4 : ∀ a, a < 7 → ∀ b, b < 7 → a ≠ b → (TX4 a).2.1 ≠ (TX4 b).2.1 := by decide +kernel
theorem tyX4_ok : ∀ k, k < 7 → parseFieldDescriptor (TX4 k).2.2.1 = some (tyX4 k) := by decide +kernel
abbrev cX4_init : ByteArray := prog_6_method_1_code
def yX4_init : MethodName := ⟨RX4, "<init>", "()V"⟩
abbrev cX4_findReadings : ByteArray := prog_6_method_2_code
def yX4_findReadings : MethodName := ⟨RX4, "findReadings", "(LFenceWays$Plan;IILFenceWays$ReadingList;)V"⟩
abbrev cX4_weigh : ByteArray := prog_6_method_3_code
def yX4_weigh : MethodName := ⟨RX4, "weigh", "(LFenceWays$Plan;)V"⟩
abbrev cX4_doOneMore : ByteArray := prog_6_method_4_code
def yX4_doOneMore : MethodName := ⟨RX4, "doOneMore", "(LFenceWays$Plan;)V"⟩
abbrev cX4_doEach : ByteArray := prog_6_method_5_code
def yX4_doEach : MethodName := ⟨RX4, "doEach", "(LFenceWays$Plan;J)V"⟩
abbrev cX4_behind : ByteArray := prog_6_method_6_code
def yX4_behind : MethodName := ⟨RX4, "behind", "(LFenceWays$Plan;JI)J"⟩
abbrev cX4_addNext : ByteArray := prog_6_method_7_code
def yX4_addNext : MethodName := ⟨RX4, "addNext", "(J)V"⟩
abbrev cX4_putNext : ByteArray := prog_6_method_8_code
def yX4_putNext : MethodName := ⟨RX4, "putNext", "(IJ)V"⟩
def RX5 : String := "FenceWays$Parser"
def TX5 : u_T := fun k => match k with
  | 0 => ("FenceWays$Parser", "faultPlace", "I", false)
  | 1 => ("FenceWays$Parser", "state", "I", false)
  | _ => ("FenceWays$Parser", "stepWrites", "Z", false)
def tyX5 : Nat → FieldType := fun k => match k with
  | 0 => .int
  | 1 => .int
  | _ => .boolean
abbrev wsX50 : List Cond := u_ws RX5 TX5 3
theorem nmX5 : ∀ a, a < 3 → ∀ b, b < 3 → a ≠ b → (TX5 a).2.1 ≠ (TX5 b).2.1 := by decide +kernel
theorem tyX5_ok : ∀ k, k < 3 → parseFieldDescriptor (TX5 k).2.2.1 = some (tyX5 k) := by decide +kernel
abbrev cX5_init : ByteArray := prog_7_method_1_code
def yX5_init : MethodName := ⟨RX5, "<init>", "()V"⟩
abbrev cX5_parse : ByteArray := prog_7_method_2_code
def yX5_parse : MethodName := ⟨RX5, "parse", "(LFenceWays$Text;LFenceWays$Plan;)I"⟩
abbrev cX5_take : ByteArray := prog_7_method_3_code
def yX5_take : MethodName := ⟨RX5, "take", "(ILFenceWays$Plan;)I"⟩
abbrev cX5_takeWord : ByteArray := prog_7_method_4_code
def yX5_takeWord : MethodName := ⟨RX5, "takeWord", "(ILFenceWays$Plan;)I"⟩
abbrev cX5_takeCell : ByteArray := prog_7_method_5_code
def yX5_takeCell : MethodName := ⟨RX5, "takeCell", "(ILFenceWays$Plan;)I"⟩
def RX6 : String := "FenceWays$Plan"
def TX6 : u_T := fun k => match k with
  | 0 => ("FenceWays$Plan", "threads", "[I", true)
  | 1 => ("FenceWays$Plan", "cells", "[I", true)
  | 2 => ("FenceWays$Plan", "threadCount", "I", false)
  | 3 => ("FenceWays$Plan", "stepCount", "I", false)
  | 4 => ("FenceWays$Plan", "writers", "I", false)
  | _ => ("FenceWays$Plan", "gaps", "I", false)
def tyX6 : Nat → FieldType := fun k => match k with
  | 0 => .array .int
  | 1 => .array .int
  | 2 => .int
  | 3 => .int
  | 4 => .int
  | _ => .int
abbrev wsX60 : List Cond := u_ws RX6 TX6 6
theorem nmX6 : ∀ a, a < 6 → ∀ b, b < 6 → a ≠ b → (TX6 a).2.1 ≠ (TX6 b).2.1 := by decide +kernel
theorem tyX6_ok : ∀ k, k < 6 → parseFieldDescriptor (TX6 k).2.2.1 = some (tyX6 k) := by decide +kernel
abbrev cX6_init : ByteArray := prog_8_method_1_code
def yX6_init : MethodName := ⟨RX6, "<init>", "()V"⟩
abbrev cX6_clear : ByteArray := prog_8_method_2_code
def yX6_clear : MethodName := ⟨RX6, "clear", "()V"⟩
abbrev cX6_addThread : ByteArray := prog_8_method_3_code
def yX6_addThread : MethodName := ⟨RX6, "addThread", "()Z"⟩
abbrev cX6_addStep : ByteArray := prog_8_method_4_code
def yX6_addStep : MethodName := ⟨RX6, "addStep", "(IZ)V"⟩
abbrev cX6_hasStep : ByteArray := prog_8_method_5_code
def yX6_hasStep : MethodName := ⟨RX6, "hasStep", "(I)Z"⟩
abbrev cX6_hasGap : ByteArray := prog_8_method_6_code
def yX6_hasGap : MethodName := ⟨RX6, "hasGap", "(I)Z"⟩
abbrev cX6_threadOf : ByteArray := prog_8_method_7_code
def yX6_threadOf : MethodName := ⟨RX6, "threadOf", "(I)I"⟩
abbrev cX6_cellOf : ByteArray := prog_8_method_8_code
def yX6_cellOf : MethodName := ⟨RX6, "cellOf", "(I)I"⟩
abbrev cX6_isWriter : ByteArray := prog_8_method_9_code
def yX6_isWriter : MethodName := ⟨RX6, "isWriter", "(I)Z"⟩
abbrev cX6_isAhead : ByteArray := prog_8_method_10_code
def yX6_isAhead : MethodName := ⟨RX6, "isAhead", "(II)Z"⟩
abbrev cX6_areInConflict : ByteArray := prog_8_method_11_code
def yX6_areInConflict : MethodName := ⟨RX6, "areInConflict", "(II)Z"⟩
abbrev cX6_conflictsOf : ByteArray := prog_8_method_12_code
def yX6_conflictsOf : MethodName := ⟨RX6, "conflictsOf", "(I)I"⟩
abbrev cX6_mayOvertake : ByteArray := prog_8_method_13_code
def yX6_mayOvertake : MethodName := ⟨RX6, "mayOvertake", "(III)Z"⟩
abbrev cX6_waitsOf : ByteArray := prog_8_method_14_code
def yX6_waitsOf : MethodName := ⟨RX6, "waitsOf", "(III)I"⟩
abbrev cX6_kindOf : ByteArray := prog_8_method_15_code
def yX6_kindOf : MethodName := ⟨RX6, "kindOf", "(II)I"⟩
def RX7 : String := "FenceWays$ReadingList"
def TX7 : u_T := fun k => match k with
  | 0 => ("FenceWays$ReadingList", "numbers", "[I", true)
  | _ => ("FenceWays$ReadingList", "count", "I", false)
def tyX7 : Nat → FieldType := fun k => match k with
  | 0 => .array .int
  | _ => .int
abbrev wsX70 : List Cond := u_ws RX7 TX7 2
theorem nmX7 : ∀ a, a < 2 → ∀ b, b < 2 → a ≠ b → (TX7 a).2.1 ≠ (TX7 b).2.1 := by decide +kernel
theorem tyX7_ok : ∀ k, k < 2 → parseFieldDescriptor (TX7 k).2.2.1 = some (tyX7 k) := by decide +kernel
abbrev cX7_init : ByteArray := prog_9_method_1_code
def yX7_init : MethodName := ⟨RX7, "<init>", "()V"⟩
abbrev cX7_clear : ByteArray := prog_9_method_2_code
def yX7_clear : MethodName := ⟨RX7, "clear", "()V"⟩
abbrev cX7_add : ByteArray := prog_9_method_3_code
def yX7_add : MethodName := ⟨RX7, "add", "(I)V"⟩
abbrev cX7_at : ByteArray := prog_9_method_4_code
def yX7_at : MethodName := ⟨RX7, "at", "(I)I"⟩
abbrev cX7_holds : ByteArray := prog_9_method_5_code
def yX7_holds : MethodName := ⟨RX7, "holds", "(I)Z"⟩
abbrev cX7_countWithout : ByteArray := prog_9_method_6_code
def yX7_countWithout : MethodName := ⟨RX7, "countWithout", "(LFenceWays$ReadingList;)I"⟩
abbrev cX7_atWithout : ByteArray := prog_9_method_7_code
def yX7_atWithout : MethodName := ⟨RX7, "atWithout", "(ILFenceWays$ReadingList;)I"⟩
abbrev cX7_placeOf : ByteArray := prog_9_method_8_code
def yX7_placeOf : MethodName := ⟨RX7, "placeOf", "(I)I"⟩
def RX8 : String := "FenceWays$Rings"
def TX8 : u_T := fun k => match k with
  | 0 => ("FenceWays$Rings", "gifts", "[I", true)
  | 1 => ("FenceWays$Rings", "countOf", "[I", true)
  | 2 => ("FenceWays$Rings", "giftCount", "I", false)
  | _ => ("FenceWays$Rings", "count", "I", false)
def tyX8 : Nat → FieldType := fun k => match k with
  | 0 => .array .int
  | 1 => .array .int
  | 2 => .int
  | _ => .int
abbrev wsX80 : List Cond := u_ws RX8 TX8 4
theorem nmX8 : ∀ a, a < 4 → ∀ b, b < 4 → a ≠ b → (TX8 a).2.1 ≠ (TX8 b).2.1 := by decide +kernel
theorem tyX8_ok : ∀ k, k < 4 → parseFieldDescriptor (TX8 k).2.2.1 = some (tyX8 k) := by decide +kernel
abbrev cX8_init : ByteArray := prog_10_method_1_code
def yX8_init : MethodName := ⟨RX8, "<init>", "()V"⟩
abbrev cX8_find : ByteArray := prog_10_method_2_code
def yX8_find : MethodName := ⟨RX8, "find", "(LFenceWays$Plan;)V"⟩
abbrev cX8_countWith : ByteArray := prog_10_method_3_code
def yX8_countWith : MethodName := ⟨RX8, "countWith", "(II)I"⟩
abbrev cX8_gatherGifts : ByteArray := prog_10_method_4_code
def yX8_gatherGifts : MethodName := ⟨RX8, "gatherGifts", "(LFenceWays$Plan;)V"⟩
abbrev cX8_addGift : ByteArray := prog_10_method_5_code
def yX8_addGift : MethodName := ⟨RX8, "addGift", "(I)V"⟩
abbrev cX8_findBegunWith : ByteArray := prog_10_method_6_code
def yX8_findBegunWith : MethodName := ⟨RX8, "findBegunWith", "(LFenceWays$Plan;II)V"⟩
abbrev cX8_leadsTo : ByteArray := prog_10_method_7_code
def yX8_leadsTo : MethodName := ⟨RX8, "leadsTo", "(LFenceWays$Plan;II)Z"⟩
abbrev cX8_countGiven : ByteArray := prog_10_method_8_code
def yX8_countGiven : MethodName := ⟨RX8, "countGiven", "(I)V"⟩
abbrev cX8_giftAt : ByteArray := prog_10_method_9_code
def yX8_giftAt : MethodName := ⟨RX8, "giftAt", "(I)I"⟩
abbrev cX8_giftOf : ByteArray := prog_10_method_10_code
def yX8_giftOf : MethodName := ⟨RX8, "giftOf", "(II)I"⟩
abbrev cX8_firstOf : ByteArray := prog_10_method_11_code
def yX8_firstOf : MethodName := ⟨RX8, "firstOf", "(I)I"⟩
abbrev cX8_lastOf : ByteArray := prog_10_method_12_code
def yX8_lastOf : MethodName := ⟨RX8, "lastOf", "(I)I"⟩
abbrev cX8_isAlone : ByteArray := prog_10_method_13_code
def yX8_isAlone : MethodName := ⟨RX8, "isAlone", "(I)Z"⟩
def RX9 : String := "FenceWays$Setting"
def TX9 : u_T := fun k => match k with
  | 0 => ("FenceWays$Setting", "costs", "[I", true)
  | 1 => ("FenceWays$Setting", "fences", "I", false)
  | _ => ("FenceWays$Setting", "kinds", "I", false)
def tyX9 : Nat → FieldType := fun k => match k with
  | 0 => .array .int
  | 1 => .int
  | _ => .int
abbrev wsX90 : List Cond := u_ws RX9 TX9 3
theorem nmX9 : ∀ a, a < 3 → ∀ b, b < 3 → a ≠ b → (TX9 a).2.1 ≠ (TX9 b).2.1 := by decide +kernel
theorem tyX9_ok : ∀ k, k < 3 → parseFieldDescriptor (TX9 k).2.2.1 = some (tyX9 k) := by decide +kernel
abbrev cX9_init : ByteArray := prog_11_method_1_code
def yX9_init : MethodName := ⟨RX9, "<init>", "()V"⟩
abbrev cX9_clear : ByteArray := prog_11_method_2_code
def yX9_clear : MethodName := ⟨RX9, "clear", "()V"⟩
abbrev cX9_copy : ByteArray := prog_11_method_3_code
def yX9_copy : MethodName := ⟨RX9, "copy", "(LFenceWays$Setting;)V"⟩
abbrev cX9_setFence : ByteArray := prog_11_method_4_code
def yX9_setFence : MethodName := ⟨RX9, "setFence", "(IZ)V"⟩
abbrev cX9_setCost : ByteArray := prog_11_method_5_code
def yX9_setCost : MethodName := ⟨RX9, "setCost", "(II)V"⟩
abbrev cX9_costOf : ByteArray := prog_11_method_6_code
def yX9_costOf : MethodName := ⟨RX9, "costOf", "(I)I"⟩
abbrev cX9_costOfSet : ByteArray := prog_11_method_7_code
def yX9_costOfSet : MethodName := ⟨RX9, "costOfSet", "(I)I"⟩
def RX10 : String := "FenceWays$Text"
def TX10 : u_T := fun k => match k with
  | 0 => ("FenceWays$Text", "letters", "[I", true)
  | _ => ("FenceWays$Text", "length", "I", false)
def tyX10 : Nat → FieldType := fun k => match k with
  | 0 => .array .int
  | _ => .int
abbrev wsX100 : List Cond := u_ws RX10 TX10 2
theorem nmX10 : ∀ a, a < 2 → ∀ b, b < 2 → a ≠ b → (TX10 a).2.1 ≠ (TX10 b).2.1 := by decide +kernel
theorem tyX10_ok : ∀ k, k < 2 → parseFieldDescriptor (TX10 k).2.2.1 = some (tyX10 k) := by decide +kernel
abbrev cX10_init : ByteArray := prog_12_method_1_code
def yX10_init : MethodName := ⟨RX10, "<init>", "()V"⟩
abbrev cX10_add : ByteArray := prog_12_method_2_code
def yX10_add : MethodName := ⟨RX10, "add", "(I)Z"⟩
abbrev cX10_letterAt : ByteArray := prog_12_method_3_code
def yX10_letterAt : MethodName := ⟨RX10, "letterAt", "(I)I"⟩
abbrev cX10_clear : ByteArray := prog_12_method_4_code
def yX10_clear : MethodName := ⟨RX10, "clear", "()V"⟩
def RX11 : String := "FenceWays"
def TX11 : u_T := fun k => match k with
  | 0 => ("FenceWays", "text", "LFenceWays$Text;", true)
  | 1 => ("FenceWays", "parser", "LFenceWays$Parser;", true)
  | 2 => ("FenceWays", "plan", "LFenceWays$Plan;", false)
  | 3 => ("FenceWays", "draft", "LFenceWays$Plan;", false)
  | 4 => ("FenceWays", "rings", "LFenceWays$Rings;", true)
  | 5 => ("FenceWays", "loosePairs", "LFenceWays$LoosePairs;", true)
  | 6 => ("FenceWays", "setting", "LFenceWays$Setting;", true)
  | 7 => ("FenceWays", "history", "LFenceWays$History;", true)
  | 8 => ("FenceWays", "images", "[LFenceWays$Image;", true)
  | 9 => ("FenceWays", "book", "LFenceWays$Book;", true)
  | 10 => ("FenceWays", "orders", "LFenceWays$Orders;", true)
  | 11 => ("FenceWays", "readings", "LFenceWays$ReadingList;", true)
  | 12 => ("FenceWays", "strictReadings", "LFenceWays$ReadingList;", true)
  | 13 => ("FenceWays", "readingsAreKnown", "Z", false)
  | 14 => ("FenceWays", "fencesOfReadings", "I", false)
  | 15 => ("FenceWays", "kindsOfReadings", "I", false)
  | 16 => ("FenceWays", "strictAreKnown", "Z", false)
  | 17 => ("FenceWays", "seedNow", "I", false)
  | _ => ("FenceWays", "faultPlace", "I", false)
def tyX11 : Nat → FieldType := fun k => match k with
  | 0 => .object "FenceWays$Text"
  | 1 => .object "FenceWays$Parser"
  | 2 => .object "FenceWays$Plan"
  | 3 => .object "FenceWays$Plan"
  | 4 => .object "FenceWays$Rings"
  | 5 => .object "FenceWays$LoosePairs"
  | 6 => .object "FenceWays$Setting"
  | 7 => .object "FenceWays$History"
  | 8 => .array (.object "FenceWays$Image")
  | 9 => .object "FenceWays$Book"
  | 10 => .object "FenceWays$Orders"
  | 11 => .object "FenceWays$ReadingList"
  | 12 => .object "FenceWays$ReadingList"
  | 13 => .boolean
  | 14 => .int
  | 15 => .int
  | 16 => .boolean
  | 17 => .int
  | _ => .int
abbrev wsX110 : List Cond := u_ws RX11 TX11 19
theorem nmX11 : ∀ a, a < 19 → ∀ b, b < 19 → a ≠ b → (TX11 a).2.1 ≠ (TX11 b).2.1 := by decide +kernel
theorem tyX11_ok : ∀ k, k < 19 → parseFieldDescriptor (TX11 k).2.2.1 = some (tyX11 k) := by decide +kernel
abbrev cX11_init : ByteArray := prog_1_method_1_code
def yX11_init : MethodName := ⟨RX11, "<init>", "()V"⟩
abbrev cX11_feed : ByteArray := prog_1_method_2_code
def yX11_feed : MethodName := ⟨RX11, "feed", "(I)I"⟩
abbrev cX11_threads : ByteArray := prog_1_method_3_code
def yX11_threads : MethodName := ⟨RX11, "threads", "()I"⟩
abbrev cX11_fault : ByteArray := prog_1_method_4_code
def yX11_fault : MethodName := ⟨RX11, "fault", "()I"⟩
abbrev cX11_told : ByteArray := prog_1_method_5_code
def yX11_told : MethodName := ⟨RX11, "told", "(I)I"⟩
abbrev cX11_step : ByteArray := prog_1_method_6_code
def yX11_step : MethodName := ⟨RX11, "step", "(II)I"⟩
abbrev cX11_pair : ByteArray := prog_1_method_7_code
def yX11_pair : MethodName := ⟨RX11, "pair", "(III)I"⟩
abbrev cX11_reading : ByteArray := prog_1_method_8_code
def yX11_reading : MethodName := ⟨RX11, "reading", "(II)I"⟩
abbrev cX11_can : ByteArray := prog_1_method_9_code
def yX11_can : MethodName := ⟨RX11, "can", "(I)I"⟩
abbrev cX11_fence : ByteArray := prog_1_method_10_code
def yX11_fence : MethodName := ⟨RX11, "fence", "(IZ)I"⟩
abbrev cX11_cost : ByteArray := prog_1_method_11_code
def yX11_cost : MethodName := ⟨RX11, "cost", "(II)I"⟩
abbrev cX11_overtaking : ByteArray := prog_1_method_12_code
def yX11_overtaking : MethodName := ⟨RX11, "overtaking", "(I)I"⟩
abbrev cX11_best : ByteArray := prog_1_method_13_code
def yX11_best : MethodName := ⟨RX11, "best", "()I"⟩
abbrev cX11_drift : ByteArray := prog_1_method_14_code
def yX11_drift : MethodName := ⟨RX11, "drift", "(I)I"⟩
abbrev cX11_undo : ByteArray := prog_1_method_15_code
def yX11_undo : MethodName := ⟨RX11, "undo", "(I)I"⟩
abbrev cX11_write : ByteArray := prog_1_method_16_code
def yX11_write : MethodName := ⟨RX11, "write", "(IZ)I"⟩
abbrev cX11_tear : ByteArray := prog_1_method_17_code
def yX11_tear : MethodName := ⟨RX11, "tear", "()I"⟩
abbrev cX11_seed : ByteArray := prog_1_method_18_code
def yX11_seed : MethodName := ⟨RX11, "seed", "(I)I"⟩
abbrev cX11_keep : ByteArray := prog_1_method_19_code
def yX11_keep : MethodName := ⟨RX11, "keep", "(I)I"⟩
abbrev cX11_goBack : ByteArray := prog_1_method_20_code
def yX11_goBack : MethodName := ⟨RX11, "goBack", "(I)I"⟩
abbrev cX11_startAnew : ByteArray := prog_1_method_21_code
def yX11_startAnew : MethodName := ⟨RX11, "startAnew", "()V"⟩
abbrev cX11_driftOnce : ByteArray := prog_1_method_22_code
def yX11_driftOnce : MethodName := ⟨RX11, "driftOnce", "()V"⟩
abbrev cX11_draw : ByteArray := prog_1_method_23_code
def yX11_draw : MethodName := ⟨RX11, "draw", "(I)I"⟩
abbrev cX11_readingsNow : ByteArray := prog_1_method_24_code
def yX11_readingsNow : MethodName := ⟨RX11, "readingsNow", "()LFenceWays$ReadingList;"⟩
abbrev cX11_strictNow : ByteArray := prog_1_method_25_code
def yX11_strictNow : MethodName := ⟨RX11, "strictNow", "()LFenceWays$ReadingList;"⟩
abbrev cX11_looseNow : ByteArray := prog_1_method_26_code
def yX11_looseNow : MethodName := ⟨RX11, "looseNow", "()LFenceWays$LoosePairs;"⟩
abbrev cX11_bestSet : ByteArray := prog_1_method_27_code
def yX11_bestSet : MethodName := ⟨RX11, "bestSet", "()I"⟩
abbrev cX11_has : ByteArray := prog_1_method_28_code
def yX11_has : MethodName := ⟨RX11, "has", "(II)Z"⟩
abbrev cX11_gapsBetween : ByteArray := prog_1_method_29_code
def yX11_gapsBetween : MethodName := ⟨RX11, "gapsBetween", "(II)I"⟩
def RX12 : String := "FenceWaysModel"
def TX12 : u_T := fun k => match k with
  | 0 => ("FenceWaysModel", "threads", "I", false)
  | 1 => ("FenceWaysModel", "steps", "I", false)
  | 2 => ("FenceWaysModel", "thread", "[I", true)
  | 3 => ("FenceWaysModel", "cell", "[I", true)
  | 4 => ("FenceWaysModel", "writes", "[Z", true)
  | 5 => ("FenceWaysModel", "costs", "[I", true)
  | 6 => ("FenceWaysModel", "fences", "I", false)
  | 7 => ("FenceWaysModel", "over", "I", false)
  | 8 => ("FenceWaysModel", "strict", "[I", true)
  | 9 => ("FenceWaysModel", "loose", "[I", true)
  | 10 => ("FenceWaysModel", "strictMany", "I", false)
  | 11 => ("FenceWaysModel", "looseMany", "I", false)
  | 12 => ("FenceWaysModel", "isLaid", "Z", false)
  | 13 => ("FenceWaysModel", "wait", "[I", true)
  | 14 => ("FenceWaysModel", "next", "[I", true)
  | 15 => ("FenceWaysModel", "picked", "[I", true)
  | 16 => ("FenceWaysModel", "told", "[I", true)
  | 17 => ("FenceWaysModel", "held", "[I", true)
  | 18 => ("FenceWaysModel", "rings", "I", false)
  | 19 => ("FenceWaysModel", "given", "[I", true)
  | 20 => ("FenceWaysModel", "firsts", "[I", true)
  | 21 => ("FenceWaysModel", "lasts", "[I", true)
  | 22 => ("FenceWaysModel", "gifts", "I", false)
  | 23 => ("FenceWaysModel", "text", "[I", true)
  | 24 => ("FenceWaysModel", "letters", "I", false)
  | 25 => ("FenceWaysModel", "faultAt", "I", false)
  | 26 => ("FenceWaysModel", "readAt", "I", false)
  | 27 => ("FenceWaysModel", "newThreads", "I", false)
  | 28 => ("FenceWaysModel", "newSteps", "I", false)
  | 29 => ("FenceWaysModel", "newThread", "[I", true)
  | 30 => ("FenceWaysModel", "newCell", "[I", true)
  | 31 => ("FenceWaysModel", "newWrites", "[Z", true)
  | 32 => ("FenceWaysModel", "past", "I", false)
  | 33 => ("FenceWaysModel", "pastFences", "[I", true)
  | 34 => ("FenceWaysModel", "pastOver", "[I", true)
  | 35 => ("FenceWaysModel", "pastCosts", "[I", true)
  | 36 => ("FenceWaysModel", "seed", "J", false)
  | 37 => ("FenceWaysModel", "entries", "I", false)
  | 38 => ("FenceWaysModel", "numbers", "[I", true)
  | 39 => ("FenceWaysModel", "says", "[Z", true)
  | 40 => ("FenceWaysModel", "isKept", "[Z", true)
  | 41 => ("FenceWaysModel", "keptFences", "[I", true)
  | 42 => ("FenceWaysModel", "keptOver", "[I", true)
  | 43 => ("FenceWaysModel", "keptCosts", "[I", true)
  | _ => ("FenceWaysModel", "keptSeed", "[J", true)
def tyX12 : Nat → FieldType := fun k => match k with
  | 0 => .int
  | 1 => .int
  | 2 => .array .int
  | 3 => .array .int
  | 4 => .array .boolean
  | 5 => .array .int
  | 6 => .int
  | 7 => .int
  | 8 => .array .int
  | 9 => .array .int
  | 10 => .int
  | 11 => .int
  | 12 => .boolean
  | 13 => .array .int
  | 14 => .array .int
  | 15 => .array .int
  | 16 => .array .int
  | 17 => .array .int
  | 18 => .int
  | 19 => .array .int
  | 20 => .array .int
  | 21 => .array .int
  | 22 => .int
  | 23 => .array .int
  | 24 => .int
  | 25 => .int
  | 26 => .int
  | 27 => .int
  | 28 => .int
  | 29 => .array .int
  | 30 => .array .int
  | 31 => .array .boolean
  | 32 => .int
  | 33 => .array .int
  | 34 => .array .int
  | 35 => .array .int
  | 36 => .long
  | 37 => .int
  | 38 => .array .int
  | 39 => .array .boolean
  | 40 => .array .boolean
  | 41 => .array .int
  | 42 => .array .int
  | 43 => .array .int
  | _ => .array .long
abbrev wsX120 : List Cond := u_ws RX12 TX12 45
theorem nmX12 : ∀ a, a < 45 → ∀ b, b < 45 → a ≠ b → (TX12 a).2.1 ≠ (TX12 b).2.1 := by decide +kernel
theorem tyX12_ok : ∀ k, k < 45 → parseFieldDescriptor (TX12 k).2.2.1 = some (tyX12 k) := by decide +kernel
abbrev cX12_init : ByteArray := prog_14_method_1_code
def yX12_init : MethodName := ⟨RX12, "<init>", "()V"⟩
abbrev cX12_isStep : ByteArray := prog_14_method_2_code
def yX12_isStep : MethodName := ⟨RX12, "isStep", "(I)Z"⟩
abbrev cX12_isGap : ByteArray := prog_14_method_3_code
def yX12_isGap : MethodName := ⟨RX12, "isGap", "(I)Z"⟩
abbrev cX12_isAhead : ByteArray := prog_14_method_4_code
def yX12_isAhead : MethodName := ⟨RX12, "isAhead", "(II)Z"⟩
abbrev cX12_has : ByteArray := prog_14_method_5_code
def yX12_has : MethodName := ⟨RX12, "has", "(II)Z"⟩
abbrev cX12_kind : ByteArray := prog_14_method_7_code
def yX12_kind : MethodName := ⟨RX12, "kind", "(II)I"⟩
abbrev cX12_between : ByteArray := prog_14_method_8_code
def yX12_between : MethodName := ⟨RX12, "between", "(II)I"⟩
abbrev cX12_isBound : ByteArray := prog_14_method_9_code
def yX12_isBound : MethodName := ⟨RX12, "isBound", "(II)Z"⟩
abbrev cX12_waits : ByteArray := prog_14_method_10_code
def yX12_waits : MethodName := ⟨RX12, "waits", "(I)I"⟩
abbrev cX12_isConflict : ByteArray := prog_14_method_11_code
def yX12_isConflict : MethodName := ⟨RX12, "isConflict", "(II)Z"⟩
abbrev cX12_conflicts : ByteArray := prog_14_method_12_code
def yX12_conflicts : MethodName := ⟨RX12, "conflicts", "(I)I"⟩
abbrev cX12_weight : ByteArray := prog_14_method_13_code
def yX12_weight : MethodName := ⟨RX12, "weight", "(I)I"⟩
abbrev cX12_comes : ByteArray := prog_14_method_14_code
def yX12_comes : MethodName := ⟨RX12, "comes", "([III)I"⟩
abbrev cX12_does : ByteArray := prog_14_method_15_code
def yX12_does : MethodName := ⟨RX12, "does", "(II)V"⟩
abbrev cX12_goes : ByteArray := prog_14_method_16_code
def yX12_goes : MethodName := ⟨RX12, "goes", "([IZ)I"⟩
abbrev cX12_ahead : ByteArray := prog_14_method_17_code
def yX12_ahead : MethodName := ⟨RX12, "ahead", "(I)I"⟩
abbrev cX12_readings : ByteArray := prog_14_method_18_code
def yX12_readings : MethodName := ⟨RX12, "readings", "()I"⟩
abbrev cX12_isIn : ByteArray := prog_14_method_19_code
def yX12_isIn : MethodName := ⟨RX12, "isIn", "([III)Z"⟩
abbrev cX12_stray : ByteArray := prog_14_method_20_code
def yX12_stray : MethodName := ⟨RX12, "stray", "(I)I"⟩
abbrev cX12_reading : ByteArray := prog_14_method_21_code
def yX12_reading : MethodName := ⟨RX12, "reading", "(II)I"⟩
abbrev cX12_can : ByteArray := prog_14_method_22_code
def yX12_can : MethodName := ⟨RX12, "can", "(I)I"⟩
abbrev cX12_laysGifts : ByteArray := prog_14_method_23_code
def yX12_laysGifts : MethodName := ⟨RX12, "laysGifts", "()V"⟩
abbrev cX12_isOne : ByteArray := prog_14_method_24_code
def yX12_isOne : MethodName := ⟨RX12, "isOne", "(I)Z"⟩
abbrev cX12_meets : ByteArray := prog_14_method_25_code
def yX12_meets : MethodName := ⟨RX12, "meets", "(II)Z"⟩
abbrev cX12_fits : ByteArray := prog_14_method_26_code
def yX12_fits : MethodName := ⟨RX12, "fits", "(III)Z"⟩
abbrev cX12_gives : ByteArray := prog_14_method_27_code
def yX12_gives : MethodName := ⟨RX12, "gives", "(I)V"⟩
abbrev cX12_laysTwos : ByteArray := prog_14_method_28_code
def yX12_laysTwos : MethodName := ⟨RX12, "laysTwos", "()V"⟩
abbrev cX12_laysThrees : ByteArray := prog_14_method_29_code
def yX12_laysThrees : MethodName := ⟨RX12, "laysThrees", "(II)V"⟩
abbrev cX12_laysRings : ByteArray := prog_14_method_30_code
def yX12_laysRings : MethodName := ⟨RX12, "laysRings", "()V"⟩
abbrev cX12_isPair : ByteArray := prog_14_method_31_code
def yX12_isPair : MethodName := ⟨RX12, "isPair", "(II)Z"⟩
abbrev cX12_isLoose : ByteArray := prog_14_method_32_code
def yX12_isLoose : MethodName := ⟨RX12, "isLoose", "(II)Z"⟩
abbrev cX12_holds : ByteArray := prog_14_method_33_code
def yX12_holds : MethodName := ⟨RX12, "holds", "(I)I"⟩
abbrev cX12_loosePairs : ByteArray := prog_14_method_34_code
def yX12_loosePairs : MethodName := ⟨RX12, "loosePairs", "()I"⟩
abbrev cX12_gaps : ByteArray := prog_14_method_35_code
def yX12_gaps : MethodName := ⟨RX12, "gaps", "()I"⟩
abbrev cX12_price : ByteArray := prog_14_method_36_code
def yX12_price : MethodName := ⟨RX12, "price", "(I)I"⟩
abbrev cX12_cheapest : ByteArray := prog_14_method_37_code
def yX12_cheapest : MethodName := ⟨RX12, "cheapest", "()I"⟩
abbrev cX12_needed : ByteArray := prog_14_method_38_code
def yX12_needed : MethodName := ⟨RX12, "needed", "()I"⟩
abbrev cX12_step : ByteArray := prog_14_method_39_code
def yX12_step : MethodName := ⟨RX12, "step", "(II)I"⟩
abbrev cX12_pair : ByteArray := prog_14_method_40_code
def yX12_pair : MethodName := ⟨RX12, "pair", "(III)I"⟩
abbrev cX12_feed : ByteArray := prog_14_method_41_code
def yX12_feed : MethodName := ⟨RX12, "feed", "(I)I"⟩
abbrev cX12_sign : ByteArray := prog_14_method_42_code
def yX12_sign : MethodName := ⟨RX12, "sign", "()I"⟩
abbrev cX12_ends : ByteArray := prog_14_method_43_code
def yX12_ends : MethodName := ⟨RX12, "ends", "()I"⟩
abbrev cX12_readsThread : ByteArray := prog_14_method_44_code
def yX12_readsThread : MethodName := ⟨RX12, "readsThread", "()I"⟩
abbrev cX12_readsStep : ByteArray := prog_14_method_45_code
def yX12_readsStep : MethodName := ⟨RX12, "readsStep", "(Z)I"⟩
abbrev cX12_reads : ByteArray := prog_14_method_46_code
def yX12_reads : MethodName := ⟨RX12, "reads", "()I"⟩
abbrev cX12_threads : ByteArray := prog_14_method_47_code
def yX12_threads : MethodName := ⟨RX12, "threads", "()I"⟩
abbrev cX12_fault : ByteArray := prog_14_method_48_code
def yX12_fault : MethodName := ⟨RX12, "fault", "()I"⟩
abbrev cX12_marks : ByteArray := prog_14_method_49_code
def yX12_marks : MethodName := ⟨RX12, "marks", "()V"⟩
abbrev cX12_fence : ByteArray := prog_14_method_50_code
def yX12_fence : MethodName := ⟨RX12, "fence", "(IZ)I"⟩
abbrev cX12_cost : ByteArray := prog_14_method_51_code
def yX12_cost : MethodName := ⟨RX12, "cost", "(II)I"⟩
abbrev cX12_overtaking : ByteArray := prog_14_method_52_code
def yX12_overtaking : MethodName := ⟨RX12, "overtaking", "(I)I"⟩
abbrev cX12_best : ByteArray := prog_14_method_53_code
def yX12_best : MethodName := ⟨RX12, "best", "()I"⟩
abbrev cX12_draw : ByteArray := prog_14_method_54_code
def yX12_draw : MethodName := ⟨RX12, "draw", "(I)I"⟩
abbrev cX12_drawn : ByteArray := prog_14_method_55_code
def yX12_drawn : MethodName := ⟨RX12, "drawn", "()V"⟩
abbrev cX12_drift : ByteArray := prog_14_method_56_code
def yX12_drift : MethodName := ⟨RX12, "drift", "(I)I"⟩
abbrev cX12_undo : ByteArray := prog_14_method_57_code
def yX12_undo : MethodName := ⟨RX12, "undo", "(I)I"⟩
abbrev cX12_write : ByteArray := prog_14_method_58_code
def yX12_write : MethodName := ⟨RX12, "write", "(IZ)I"⟩
abbrev cX12_tear : ByteArray := prog_14_method_59_code
def yX12_tear : MethodName := ⟨RX12, "tear", "()I"⟩
abbrev cX12_wrong : ByteArray := prog_14_method_60_code
def yX12_wrong : MethodName := ⟨RX12, "wrong", "()I"⟩
abbrev cX12_seed : ByteArray := prog_14_method_61_code
def yX12_seed : MethodName := ⟨RX12, "seed", "(I)I"⟩
abbrev cX12_keep : ByteArray := prog_14_method_62_code
def yX12_keep : MethodName := ⟨RX12, "keep", "(I)I"⟩
abbrev cX12_goBack : ByteArray := prog_14_method_63_code
def yX12_goBack : MethodName := ⟨RX12, "goBack", "(I)I"⟩
abbrev cX12_toldMore : ByteArray := prog_14_method_64_code
def yX12_toldMore : MethodName := ⟨RX12, "toldMore", "(I)I"⟩
abbrev cX12_told : ByteArray := prog_14_method_65_code
def yX12_told : MethodName := ⟨RX12, "told", "(I)I"⟩
def RJ6 : String := "java/lang/Integer"
def TJ6 : u_T := fun k => match k with
  | _ => ("", "", "", false)
def tyJ6 : Nat → FieldType := fun k => match k with
  | _ => .int
abbrev cJ6_bitCount_0f7a4 : ByteArray := prog_15_method_49_code
def yJ6_bitCount_0f7a4 : MethodName := ⟨RJ6, "bitCount", "(I)I"⟩
def RJ9 : String := "java/lang/Math"
def TJ9 : u_T := fun k => match k with
  | _ => ("", "", "", false)
def tyJ9 : Nat → FieldType := fun k => match k with
  | _ => .int
abbrev cJ9_floorMod_7cf53 : ByteArray := prog_16_method_50_code
def yJ9_floorMod_7cf53 : MethodName := ⟨RJ9, "floorMod", "(II)I"⟩
def RJ7 : String := "java/util/Arrays"
def TJ7 : u_T := fun k => match k with
  | _ => ("", "", "", false)
def tyJ7 : Nat → FieldType := fun k => match k with
  | _ => .int
abbrev cJ7_fill_53178 : ByteArray := prog_17_method_103_code
def yJ7_fill_53178 : MethodName := ⟨RJ7, "fill", "([II)V"⟩
def RL : String := "FenceWaysLaw"
abbrev cL_law : ByteArray := code
def yL_law : MethodName := ⟨RL, "law", "([I)Z"⟩
abbrev vwCl : List vw_C := [(RX0, TX0, 3), (RX1, TX1, 3), (RX2, TX2, 3), (RX3, TX3, 2), (RX4, TX4, 7), (RX5, TX5, 3), (RX6, TX6, 6), (RX7, TX7, 2), (RX8, TX8, 4), (RX9, TX9, 3), (RX10, TX10, 2), (RX11, TX11, 19), (RX12, TX12, 45)]
end
section
/-! THE SMALL MACHINE: a heap of typed rows by place, a step as a function of what comes behind it; its runs; stretches of code by evaluation -/
/-- how many cells; kind and length by place; ints, longs, places by place and index -/
abbrev HP : Type := Nat × (Nat → Nat × Nat) × (Nat → Nat → Int32) × (Nat → Nat → Int64) × (Nat → Nat → Nat)
abbrev MR : Type := Option Value × HP
abbrev CF : Type := List Value → HP → Option MR
/-- pc, cells and slots made, locals, stack, heap -/
abbrev MS : Type := Nat × Nat × Nat × List Value × List Value × HP
/-- instructions; fields; constants; calls (arguments, the receiver's class, cells, slots, meaning); classes to make; what may be made; kind of the answer; whether it is a constructor -/
abbrev MI : Type := List (Nat × Instr × Nat) × List (Nat × Nat × Nat) × List (Nat × Value) × List (Nat × Nat × Nat × Nat × Nat × CF) × List (Nat × Nat) × (Nat × Nat) × Nat
def mNul : Nat := 999999
def lkp {α : Type} (k : Nat) : List (Nat × α) → Option α
  | [] => none
  | (q, a) :: r => bif Nat.beq k q then some a else lkp k r
def up1 {α : Type} (f : Nat → α) (k : Nat) (x : α) : Nat → α := fun j => if j = k then x else f j
def up2 {α : Type} (f : Nat → Nat → α) (p k : Nat) (x : α) : Nat → Nat → α := fun q => if q = p then up1 (f p) k x else f q
def inb (i : Int32) (n : Nat) : Bool := !(decide (i < 0)) && !(Nat.ble n i.toNatClampNeg)
def isB (x : Int32) : Bool := decide (x = 0) || decide (x = 1)
/-- a field's type by class and place: 0 int, 1 boolean, 2 long, 3 a reference -/
def ftyc (t : FieldType) : Nat := match t with
  | .int => 0
  | .boolean => 1
  | .long => 2
  | _ => 3
def ftyT (ci : Nat) : Nat → FieldType := match ci with
  | 0 => tyX0 | 1 => tyX1 | 2 => tyX2 | 3 => tyX3 | 4 => tyX4 | 5 => tyX5 | 6 => tyX6 | 7 => tyX7 | 8 => tyX8 | 9 => tyX9 | 10 => tyX10 | 11 => tyX11 | _ => tyX12
def nfd (ci : Nat) : Nat := match ci with
  | 0 => 3 | 1 => 3 | 2 => 3 | 3 => 2 | 4 => 7 | 5 => 3 | 6 => 6 | 7 => 2 | 8 => 4 | 9 => 3 | 10 => 2 | 11 => 19 | _ => 45
/-- the kind of an array of objects of a class -/
def akd (ci : Nat) : Nat := match ci with
  | 2 => 3
  | 9 => 4
  | _ => 5
def killv (ls : List Value) (j : Nat) : Option Value → List Value
  | some v => bif Nat.beq v.category 2 then ls.set j .null else ls
  | none => ls
def kill (ls : List Value) : Nat → List Value
  | 0 => ls
  | j + 1 => killv ls j ls[j]?
def swk {ρ : Type} (k : Int → Option ρ) (d : Int) (x : Int32) : Int → List Int → Option ρ
  | _, [] => k d
  | lo, t :: r => if x = Int32.ofInt lo then k t else swk k d x (lo + 1) r
def jmp {ρ : Type} (pc : Nat) (off : Int) (k : Nat → Option ρ) : Option ρ := match (pc : Int) + off with
  | .ofNat t => k t
  | .negSucc _ => none
def jtgt (pc : Nat) (off : Int) : Option Nat := match (pc : Int) + off with
  | .ofNat t => some t
  | .negSucc _ => none
/-- a new cell -/
def alc (h : HP) (kd n : Nat) : HP := (h.1 + 1, up1 h.2.1 h.1 (kd, n), up1 h.2.2.1 h.1 (fun _ => 0), up1 h.2.2.2.1 h.1 (fun _ => 0), up1 h.2.2.2.2 h.1 (fun _ => mNul))
def hI (h : HP) (p k : Nat) (x : Int32) : HP := (h.1, h.2.1, up2 h.2.2.1 p k x, h.2.2.2.1, h.2.2.2.2)
def hJ (h : HP) (p k : Nat) (x : Int64) : HP := (h.1, h.2.1, h.2.2.1, up2 h.2.2.2.1 p k x, h.2.2.2.2)
def hR (h : HP) (p k : Nat) (x : Nat) : HP := (h.1, h.2.1, h.2.2.1, h.2.2.2.1, up2 h.2.2.2.2 p k x)
/-- one step: k is what comes behind, e the end -/
def stpI {ρ : Type} (M : MI) (k : MS → Option ρ) (e : MR → Option ρ) (pc c s : Nat) (ls st : List Value) (h : HP) (i : Instr) : Option ρ :=
  match i with
  | .iconst v => k (pc + 1, c, s, ls, .int (Int32.ofInt v) :: st, h)
  | .bipush v => k (pc + 2, c, s, ls, .int (Int8.ofInt v).toInt32 :: st, h)
  | .sipush v => k (pc + 3, c, s, ls, .int (Int16.ofInt v).toInt32 :: st, h)
  | .lconst v => k (pc + 1, c, s, ls, .long (Int64.ofNat (v : Nat)) :: st, h)
  | .ldc x => match lkp x M.2.2.1 with
    | some (.int v) => k (pc + 2, c, s, ls, .int v :: st, h)
    | _ => none
  | .ldc_w x => match lkp x M.2.2.1 with
    | some (.int v) => k (pc + 3, c, s, ls, .int v :: st, h)
    | _ => none
  | .ldc2_w x => match lkp x M.2.2.1 with
    | some (.long v) => k (pc + 3, c, s, ls, .long v :: st, h)
    | _ => none
  | .iload x => match ls[x]? with
    | some (.int v) => k (pc + 2, c, s, ls, .int v :: st, h)
    | _ => none
  | .iload_n x => match ls[(x : Nat)]? with
    | some (.int v) => k (pc + 1, c, s, ls, .int v :: st, h)
    | _ => none
  | .lload x => match ls[x]? with
    | some (.long v) => k (pc + 2, c, s, ls, .long v :: st, h)
    | _ => none
  | .lload_n x => match ls[(x : Nat)]? with
    | some (.long v) => k (pc + 1, c, s, ls, .long v :: st, h)
    | _ => none
  | .aload x => match ls[x]? with
    | some (.ref v) => k (pc + 2, c, s, ls, .ref v :: st, h)
    | _ => none
  | .aload_n x => match ls[(x : Nat)]? with
    | some (.ref v) => k (pc + 1, c, s, ls, .ref v :: st, h)
    | _ => none
  | .istore x => match st with
    | .int v :: r => bif Nat.blt x ls.length then k (pc + 2, c, s, (kill ls x).set x (.int v), r, h) else none
    | _ => none
  | .istore_n x => match st with
    | .int v :: r => bif Nat.blt (x : Nat) ls.length then k (pc + 1, c, s, (kill ls (x : Nat)).set (x : Nat) (.int v), r, h) else none
    | _ => none
  | .astore x => match st with
    | .ref v :: r => bif Nat.blt x ls.length then k (pc + 2, c, s, (kill ls x).set x (.ref v), r, h) else none
    | _ => none
  | .astore_n x => match st with
    | .ref v :: r => bif Nat.blt (x : Nat) ls.length then k (pc + 1, c, s, (kill ls (x : Nat)).set (x : Nat) (.ref v), r, h) else none
    | _ => none
  | .lstore x => match st with
    | .long v :: r => bif Nat.blt (x + 1) ls.length then k (pc + 2, c, s, ((kill ls x).set x (.long v)).set (x + 1) .null, r, h) else none
    | _ => none
  | .lstore_n x => match st with
    | .long v :: r => bif Nat.blt ((x : Nat) + 1) ls.length then k (pc + 1, c, s, ((kill ls (x : Nat)).set (x : Nat) (.long v)).set ((x : Nat) + 1) .null, r, h) else none
    | _ => none
  | .iinc x n => match ls[x]? with
    | some (.int v) => k (pc + 3, c, s, (kill ls x).set x (.int (v + Int32.ofInt n)), st, h)
    | _ => none
  | .iadd => match st with
    | .int y :: .int x :: r => k (pc + 1, c, s, ls, .int (x + y) :: r, h)
    | _ => none
  | .isub => match st with
    | .int y :: .int x :: r => k (pc + 1, c, s, ls, .int (x - y) :: r, h)
    | _ => none
  | .imul => match st with
    | .int y :: .int x :: r => k (pc + 1, c, s, ls, .int (x * y) :: r, h)
    | _ => none
  | .iand => match st with
    | .int y :: .int x :: r => k (pc + 1, c, s, ls, .int (x &&& y) :: r, h)
    | _ => none
  | .ior => match st with
    | .int y :: .int x :: r => k (pc + 1, c, s, ls, .int (x ||| y) :: r, h)
    | _ => none
  | .ixor => match st with
    | .int y :: .int x :: r => k (pc + 1, c, s, ls, .int (x ^^^ y) :: r, h)
    | _ => none
  | .ishl => match st with
    | .int y :: .int x :: r => k (pc + 1, c, s, ls, .int (x <<< (y &&& 31)) :: r, h)
    | _ => none
  | .ishr => match st with
    | .int y :: .int x :: r => k (pc + 1, c, s, ls, .int (x >>> (y &&& 31)) :: r, h)
    | _ => none
  | .iushr => match st with
    | .int y :: .int x :: r => k (pc + 1, c, s, ls, .int ((x.toUInt32 >>> (y.toUInt32 &&& Int32.toUInt32 31)).toInt32) :: r, h)
    | _ => none
  | .idiv => match st with
    | .int y :: .int x :: r => if y = 0 then none else k (pc + 1, c, s, ls, .int (x / y) :: r, h)
    | _ => none
  | .irem => match st with
    | .int y :: .int x :: r => if y = 0 then none else k (pc + 1, c, s, ls, .int (x - x / y * y) :: r, h)
    | _ => none
  | .ladd => match st with
    | .long y :: .long x :: r => k (pc + 1, c, s, ls, .long (x + y) :: r, h)
    | _ => none
  | .lmul => match st with
    | .long y :: .long x :: r => k (pc + 1, c, s, ls, .long (x * y) :: r, h)
    | _ => none
  | .land => match st with
    | .long y :: .long x :: r => k (pc + 1, c, s, ls, .long (x &&& y) :: r, h)
    | _ => none
  | .lor => match st with
    | .long y :: .long x :: r => k (pc + 1, c, s, ls, .long (x ||| y) :: r, h)
    | _ => none
  | .lxor => match st with
    | .long y :: .long x :: r => k (pc + 1, c, s, ls, .long (x ^^^ y) :: r, h)
    | _ => none
  | .lshl => match st with
    | .int y :: .long x :: r => k (pc + 1, c, s, ls, .long (x <<< (y.toInt64 &&& 63)) :: r, h)
    | _ => none
  | .lushr => match st with
    | .int y :: .long x :: r => k (pc + 1, c, s, ls, .long ((x.toUInt64 >>> (y.toInt64.toUInt64 &&& Int64.toUInt64 63)).toInt64) :: r, h)
    | _ => none
  | .ldiv => match st with
    | .long y :: .long x :: r => if y = 0 then none else k (pc + 1, c, s, ls, .long (x / y) :: r, h)
    | _ => none
  | .lrem => match st with
    | .long y :: .long x :: r => if y = 0 then none else k (pc + 1, c, s, ls, .long (x - x / y * y) :: r, h)
    | _ => none
  | .lcmp => match st with
    | .long y :: .long x :: r => k (pc + 1, c, s, ls, .int (lg_cmp x y) :: r, h)
    | _ => none
  | .i2l => match st with
    | .int x :: r => k (pc + 1, c, s, ls, .long x.toInt64 :: r, h)
    | _ => none
  | .l2i => match st with
    | .long x :: r => k (pc + 1, c, s, ls, .int x.toInt32 :: r, h)
    | _ => none
  | .dup => match st with
    | .int x :: r => k (pc + 1, c, s, ls, .int x :: .int x :: r, h)
    | .ref x :: r => k (pc + 1, c, s, ls, .ref x :: .ref x :: r, h)
    | _ => none
  | .dup2 => match st with
    | .int x :: .ref y :: r => k (pc + 1, c, s, ls, .int x :: .ref y :: .int x :: .ref y :: r, h)
    | _ => none
  | .goto off => jmp pc off (fun t => k (t, c, s, ls, st, h))
  | .ifCond q off => match st with
    | .int x :: r => match q with
      | .eq => match jtgt pc off with
        | some t => if x = 0 then k (t, c, s, ls, r, h) else k (pc + 3, c, s, ls, r, h)
        | none => none
      | .ne => match jtgt pc off with
        | some t => if x = 0 then k (pc + 3, c, s, ls, r, h) else k (t, c, s, ls, r, h)
        | none => none
      | .lt => match jtgt pc off with
        | some t => if x < 0 then k (t, c, s, ls, r, h) else k (pc + 3, c, s, ls, r, h)
        | none => none
      | .ge => match jtgt pc off with
        | some t => if 0 ≤ x then k (t, c, s, ls, r, h) else k (pc + 3, c, s, ls, r, h)
        | none => none
      | .gt => match jtgt pc off with
        | some t => if 0 < x then k (t, c, s, ls, r, h) else k (pc + 3, c, s, ls, r, h)
        | none => none
      | .le => match jtgt pc off with
        | some t => if x ≤ 0 then k (t, c, s, ls, r, h) else k (pc + 3, c, s, ls, r, h)
        | none => none
    | _ => none
  | .if_icmp q off => match st with
    | .int y :: .int x :: r => match q with
      | .eq => match jtgt pc off with
        | some t => if x = y then k (t, c, s, ls, r, h) else k (pc + 3, c, s, ls, r, h)
        | none => none
      | .ne => match jtgt pc off with
        | some t => if x = y then k (pc + 3, c, s, ls, r, h) else k (t, c, s, ls, r, h)
        | none => none
      | .lt => match jtgt pc off with
        | some t => if x < y then k (t, c, s, ls, r, h) else k (pc + 3, c, s, ls, r, h)
        | none => none
      | .ge => match jtgt pc off with
        | some t => if y ≤ x then k (t, c, s, ls, r, h) else k (pc + 3, c, s, ls, r, h)
        | none => none
      | .gt => match jtgt pc off with
        | some t => if y < x then k (t, c, s, ls, r, h) else k (pc + 3, c, s, ls, r, h)
        | none => none
      | .le => match jtgt pc off with
        | some t => if x ≤ y then k (t, c, s, ls, r, h) else k (pc + 3, c, s, ls, r, h)
        | none => none
    | _ => none
  | .tableswitch d lo hi offs => match st with
    | .int x :: r => if -2147483648 ≤ lo ∧ lo + offs.size ≤ 2147483648 ∧ hi + 1 = lo + offs.size then swk (fun off => jmp pc off (fun t => k (t, c, s, ls, r, h))) d x lo offs.toList else none
    | _ => none
  | .getfield x => match st with
    | .ref p :: r => match lkp x M.2.1 with
      | some (ci, j) => if (h.2.1 p).1 = 10 + ci ∧ p < h.1 ∧ j < nfd ci then
          match ftyc (ftyT ci j) with
          | 0 => k (pc + 3, c, s, ls, .int (h.2.2.1 p j) :: r, h)
          | 1 => k (pc + 3, c, s, ls, .int (h.2.2.1 p j) :: r, h)
          | 2 => k (pc + 3, c, s, ls, .long (h.2.2.2.1 p j) :: r, h)
          | _ => if h.2.2.2.2 p j < h.1 then k (pc + 3, c, s, ls, .ref (h.2.2.2.2 p j) :: r, h) else none
        else none
      | none => none
    | _ => none
  | .putfield x => match st with
    | .int v :: .ref p :: r => match lkp x M.2.1 with
      | some (ci, j) => if (h.2.1 p).1 = 10 + ci ∧ p < h.1 ∧ j < nfd ci then
          match ftyc (ftyT ci j) with
          | 0 => k (pc + 3, c, s, ls, r, hI h p j v)
          | 1 => bif isB v then k (pc + 3, c, s, ls, r, hI h p j v) else none
          | _ => none
        else none
      | none => none
    | .long v :: .ref p :: r => match lkp x M.2.1 with
      | some (ci, j) => if (h.2.1 p).1 = 10 + ci ∧ p < h.1 ∧ j < nfd ci then
          match ftyc (ftyT ci j) with
          | 2 => k (pc + 3, c, s, ls, r, hJ h p j v)
          | _ => none
        else none
      | none => none
    | .ref v :: .ref p :: r => match lkp x M.2.1 with
      | some (ci, j) => if (h.2.1 p).1 = 10 + ci ∧ p < h.1 ∧ j < nfd ci ∧ v < h.1 then
          match ftyc (ftyT ci j) with
          | 3 => k (pc + 3, c, s, ls, r, hR h p j v)
          | _ => none
        else none
      | none => none
    | _ => none
  | .iaload => match st with
    | .int i :: .ref p :: r => if (h.2.1 p).1 = 0 ∧ p < h.1 then bif inb i (h.2.1 p).2 then k (pc + 1, c, s, ls, .int (h.2.2.1 p i.toNatClampNeg) :: r, h) else none else none
    | _ => none
  | .baload => match st with
    | .int i :: .ref p :: r => if (h.2.1 p).1 = 1 ∧ p < h.1 then bif inb i (h.2.1 p).2 then k (pc + 1, c, s, ls, .int (h.2.2.1 p i.toNatClampNeg) :: r, h) else none else none
    | _ => none
  | .laload => match st with
    | .int i :: .ref p :: r => if (h.2.1 p).1 = 2 ∧ p < h.1 then bif inb i (h.2.1 p).2 then k (pc + 1, c, s, ls, .long (h.2.2.2.1 p i.toNatClampNeg) :: r, h) else none else none
    | _ => none
  | .aaload => match st with
    | .int i :: .ref p :: r => if ((h.2.1 p).1 = 3 ∨ (h.2.1 p).1 = 4) ∧ p < h.1 then bif inb i (h.2.1 p).2 then if h.2.2.2.2 p i.toNatClampNeg < h.1 then k (pc + 1, c, s, ls, .ref (h.2.2.2.2 p i.toNatClampNeg) :: r, h) else none else none else none
    | _ => none
  | .iastore => match st with
    | .int v :: .int i :: .ref p :: r => if (h.2.1 p).1 = 0 ∧ p < h.1 then bif inb i (h.2.1 p).2 then k (pc + 1, c, s, ls, r, hI h p i.toNatClampNeg v) else none else none
    | _ => none
  | .bastore => match st with
    | .int v :: .int i :: .ref p :: r => if (h.2.1 p).1 = 1 ∧ p < h.1 then bif inb i (h.2.1 p).2 && isB v then k (pc + 1, c, s, ls, r, hI h p i.toNatClampNeg v) else none else none
    | _ => none
  | .lastore => match st with
    | .long v :: .int i :: .ref p :: r => if (h.2.1 p).1 = 2 ∧ p < h.1 then bif inb i (h.2.1 p).2 then k (pc + 1, c, s, ls, r, hJ h p i.toNatClampNeg v) else none else none
    | _ => none
  | .aastore => match st with
    | .ref v :: .int i :: .ref p :: r => if ((h.2.1 p).1 = 3 ∧ (h.2.1 v).1 = 12 ∨ (h.2.1 p).1 = 4 ∧ (h.2.1 v).1 = 19) ∧ p < h.1 ∧ v < h.1 then bif inb i (h.2.1 p).2 then k (pc + 1, c, s, ls, r, hR h p i.toNatClampNeg v) else none else none
    | _ => none
  | .arraylength => match st with
    | .ref p :: r => if (h.2.1 p).1 < 5 ∧ p < h.1 then k (pc + 1, c, s, ls, .int (Int32.ofNat (h.2.1 p).2) :: r, h) else none
    | _ => none
  | .new x => match lkp x M.2.2.2.2.1 with
    | some ci => if c + 1 ≤ M.2.2.2.2.2.1.1 ∧ s + nfd ci ≤ M.2.2.2.2.2.1.2 ∧ h.1 + 1 ≤ mNul then k (pc + 3, c + 1, s + nfd ci, ls, .ref h.1 :: st, alc h (10 + ci) 0) else none
    | none => none
  | .newarray ty => match st with
    | .int n :: r => if ¬ n < 0 ∧ n.toNatClampNeg ≤ 4096 ∧ c + 1 ≤ M.2.2.2.2.2.1.1 ∧ s + n.toNatClampNeg ≤ M.2.2.2.2.2.1.2 ∧ h.1 + 1 ≤ mNul then
        match ty with
        | .int => k (pc + 2, c + 1, s + n.toNatClampNeg, ls, .ref h.1 :: r, alc h 0 n.toNatClampNeg)
        | .boolean => k (pc + 2, c + 1, s + n.toNatClampNeg, ls, .ref h.1 :: r, alc h 1 n.toNatClampNeg)
        | .long => k (pc + 2, c + 1, s + n.toNatClampNeg, ls, .ref h.1 :: r, alc h 2 n.toNatClampNeg)
        | _ => none
      else none
    | _ => none
  | .anewarray x => match st with
    | .int n :: r => match lkp x M.2.2.2.2.1 with
      | some ci => if ¬ n < 0 ∧ n.toNatClampNeg ≤ 4096 ∧ c + 1 ≤ M.2.2.2.2.2.1.1 ∧ s + n.toNatClampNeg ≤ M.2.2.2.2.2.1.2 ∧ h.1 + 1 ≤ mNul ∧ (ci = 2 ∨ ci = 9) then
          k (pc + 3, c + 1, s + n.toNatClampNeg, ls, .ref h.1 :: r, alc h (akd ci) n.toNatClampNeg) else none
      | none => none
    | _ => none
  | .invokevirtual x => match lkp x M.2.2.2.1 with
    | some (n, rc, mc, ms, f) => match (st.take n).reverse with
      | .ref p :: as => if n ≤ st.length ∧ ((st.drop n).map (fun v => v.category)).sum ≤ 8 ∧ c + mc ≤ M.2.2.2.2.2.1.1 ∧ s + ms ≤ M.2.2.2.2.2.1.2 ∧ (h.2.1 p).1 = 10 + rc ∧ p < h.1 then
          match f (.ref p :: as) h with
          | some (r, h') => k (pc + 3, c + mc, s + ms, ls, r.toList ++ st.drop n, h')
          | none => none
        else none
      | _ => none
    | none => none
  | .invokespecial x => match lkp x M.2.2.2.1 with
    | some (n, _, mc, ms, f) => match (st.take n).reverse with
      | .ref p :: as => if n ≤ st.length ∧ ((st.drop n).map (fun v => v.category)).sum ≤ 8 ∧ c + mc ≤ M.2.2.2.2.2.1.1 ∧ s + ms ≤ M.2.2.2.2.2.1.2 then
          match f (.ref p :: as) h with
          | some (r, h') => k (pc + 3, c + mc, s + ms, ls, r.toList ++ st.drop n, h')
          | none => none
        else none
      | _ => none
    | none => none
  | .invokestatic x => match lkp x M.2.2.2.1 with
    | some (n, _, mc, ms, f) => if n ≤ st.length ∧ ((st.drop n).map (fun v => v.category)).sum ≤ 8 ∧ c + mc ≤ M.2.2.2.2.2.1.1 ∧ s + ms ≤ M.2.2.2.2.2.1.2 then
        match f (st.take n).reverse h with
        | some (r, h') => k (pc + 3, c + mc, s + ms, ls, r.toList ++ st.drop n, h')
        | none => none
      else none
    | none => none
  | .ireturn => match st with
    | [.int v] => match M.2.2.2.2.2.2 with
      | 1 => e (some (.int v), h)
      | 2 => bif isB v then e (some (.int v), h) else none
      | _ => none
    | _ => none
  | .lreturn => match st with
    | [.long v] => match M.2.2.2.2.2.2 with
      | 3 => e (some (.long v), h)
      | _ => none
    | _ => none
  | .areturn => match st with
    | [.ref v] => match M.2.2.2.2.2.2 with
      | 4 => e (some (.ref v), h)
      | _ => none
    | _ => none
  | .return_ => match st with
    | [] => match M.2.2.2.2.2.2 with
      | 0 => e (none, h)
      | _ => none
    | _ => none
  | _ => none
def stp {ρ : Type} (M : MI) (k : MS → Option ρ) (e : MR → Option ρ) (σ : MS) : Option ρ :=
  match lkp σ.1 M.1 with
  | some (i, _) => stpI M k e σ.1 σ.2.1 σ.2.2.1 σ.2.2.2.1 σ.2.2.2.2.1 σ.2.2.2.2.2 i
  | none => none
def runN (M : MI) : Nat → MS → Option MR
  | 0, _ => none
  | n + 1, σ => stp M (runN M n) some σ
end
section
/-! the small machine's runs: a step by what comes behind it; a run is one step and the rest; stretches -/
theorem jmp_nf {ρ τ : Type} {pc : Nat} {off : Int} {k : Nat → Option ρ} {g : Nat → Option τ} {f : τ → Option ρ} (h : ∀ t, k t = (g t).bind f) : jmp pc off k = (jmp pc off g).bind f := by
  unfold jmp
  split
  · exact h _
  · rfl
theorem swk_nf {ρ τ : Type} {d : Int} {x : Int32} {k : Int → Option ρ} {g : Int → Option τ} {f : τ → Option ρ} (h : ∀ t, k t = (g t).bind f) : ∀ (r : List Int) (lo : Int), swk k d x lo r = (swk g d x lo r).bind f := by
  intro r
  induction r with
  | nil => intro lo; exact h _
  | cons t r ih =>
    intro lo
    unfold swk
    split
    · exact h _
    · exact ih _
set_option maxHeartbeats 4000000 in
theorem stpI_nf {ρ : Type} (M : MI) (k : MS → Option ρ) (e : MR → Option ρ) (pc c s : Nat) (ls st : List Value) (h : HP) (i : Instr) :
    stpI M k e pc c s ls st h i = (stpI M (fun σ => some (Sum.inl σ)) (fun r => some (Sum.inr r)) pc c s ls st h i).bind (fun x => Sum.elim k e x) := by
  cases i <;> first
    | rfl
    | (simp only [stpI]; exact jmp_nf (fun t => rfl))
    | (simp only [stpI]; (repeat' split) <;> first | rfl | exact jmp_nf (fun t => rfl) | (refine swk_nf ?_ _ _; intro off; exact jmp_nf (fun t => rfl)) | (cases hq : inb _ _ <;> rfl) | (cases hq : isB _ <;> rfl) | (cases hq : Nat.blt _ _ <;> rfl) | (cases hq : inb _ _ <;> cases hq2 : isB _ <;> rfl))
theorem stp_nf {ρ : Type} (M : MI) (k : MS → Option ρ) (e : MR → Option ρ) (σ : MS) :
    stp M k e σ = (stp M (fun σ => some (Sum.inl σ)) (fun r => some (Sum.inr r)) σ).bind (fun x => Sum.elim k e x) := by
  unfold stp
  split
  · exact stpI_nf ..
  · rfl
theorem stp_some {ρ : Type} {M : MI} {k : MS → Option ρ} {e : MR → Option ρ} {σ : MS} {r : ρ} (h : stp M k e σ = some r) : (∃ σ', stp M (fun σ => some (Sum.inl σ)) (fun r => some (Sum.inr r)) σ = some (Sum.inl σ') ∧ k σ' = some r) ∨ ∃ x : MR, stp M (fun σ => some (Sum.inl σ)) (fun r => some (Sum.inr r)) σ = some (Sum.inr x) ∧ e x = some r := by
  rw [stp_nf] at h
  cases hq : stp M (fun σ => some (Sum.inl σ)) (fun r => some (Sum.inr r)) σ with
  | none => rw [hq] at h; cases h
  | some x =>
    rw [hq] at h
    cases x with
    | inl σ' => exact Or.inl ⟨σ', rfl, h⟩
    | inr x => exact Or.inr ⟨x, rfl, h⟩
theorem stp_mono {ρ : Type} {M : MI} {k k' : MS → Option ρ} {e : MR → Option ρ} (hk : ∀ σ r, k σ = some r → k' σ = some r) {σ : MS} {r : ρ} (h : stp M k e σ = some r) : stp M k' e σ = some r := by
  rw [stp_nf]
  rcases stp_some h with ⟨σ', h1, h2⟩ | ⟨x, h1, h2⟩
  · rw [h1]; exact hk _ _ h2
  · rw [h1]; exact h2
theorem runN_mono1 (M : MI) : ∀ (n : Nat) (σ : MS) (r : MR), runN M n σ = some r → runN M (n + 1) σ = some r := by
  intro n
  induction n with
  | zero => intro σ r h; cases h
  | succ n ih => intro σ r h; exact stp_mono (k := runN M n) (k' := runN M (n + 1)) (fun σ r => ih σ r) h
theorem runN_mono (M : MI) {n m : Nat} (hnm : n ≤ m) {σ : MS} {r : MR} (h : runN M n σ = some r) : runN M m σ = some r := by
  induction hnm with
  | refl => exact h
  | step _ ih => exact runN_mono1 M _ _ _ ih
noncomputable def run (M : MI) (σ : MS) : Option MR := @dite _ (∃ r, ∃ n, runN M n σ = some r) (Classical.propDecidable _) (fun h => some (Classical.choose h)) (fun _ => none)
theorem run_of {M : MI} {n : Nat} {σ : MS} {r : MR} (h : runN M n σ = some r) : run M σ = some r := by
  have hx : ∃ r, ∃ n, runN M n σ = some r := ⟨r, n, h⟩
  unfold run
  rw [dif_pos hx]
  obtain ⟨m, hm⟩ := Classical.choose_spec hx
  have h1 := runN_mono M (Nat.le_max_left n m) h
  have h2 := runN_mono M (Nat.le_max_right n m) hm
  rw [h1] at h2
  exact h2.symm
theorem run_ex {M : MI} {σ : MS} {r : MR} (h : run M σ = some r) : ∃ n, runN M n σ = some r := by
  unfold run at h
  by_cases hx : ∃ r, ∃ n, runN M n σ = some r
  · rw [dif_pos hx] at h
    have := Classical.choose_spec hx
    rw [Option.some.inj h] at this
    exact this
  · rw [dif_neg hx] at h
    cases h
theorem run_eq (M : MI) (σ : MS) : run M σ = stp M (run M) some σ := by
  cases hq : stp M (run M) some σ with
  | some r =>
    rcases stp_some hq with ⟨σ', h1, h2⟩ | ⟨x, h1, h2⟩
    · obtain ⟨n, hn⟩ := run_ex h2
      refine run_of (n := n + 1) ?_
      show stp M (runN M n) some σ = some r
      rw [stp_nf, h1]
      exact hn
    · refine run_of (n := 1) ?_
      show stp M (runN M 0) some σ = some r
      rw [stp_nf, h1]
      exact h2
  | none =>
    cases hr : run M σ with
    | none => rfl
    | some r =>
      obtain ⟨n, hn⟩ := run_ex hr
      cases n with
      | zero => cases hn
      | succ n =>
        have h1 := stp_mono (k := runN M n) (k' := run M) (fun σ r h => run_of h) hn
        rw [h1] at hq
        cases hq
/-- a stretch of at most n steps, up to the places where it stops -/
noncomputable def exK (M : MI) (stop : List Nat) : Nat → MS → Option MR
  | 0, σ => run M σ
  | n + 1, σ => stp M (fun σ' => bif stop.elem σ'.1 then run M σ' else exK M stop n σ') some σ
theorem exK_eq (M : MI) (stop : List Nat) : ∀ (n : Nat) (σ : MS), exK M stop n σ = run M σ := by
  intro n
  induction n with
  | zero => intro σ; rfl
  | succ n ih =>
    intro σ
    rw [run_eq]
    show stp M (fun σ' => bif stop.elem σ'.1 then run M σ' else exK M stop n σ') some σ = _
    have : (fun σ' : MS => bif stop.elem σ'.1 then run M σ' else exK M stop n σ') = run M := by
      funext σ'
      cases stop.elem σ'.1
      · exact ih σ'
      · rfl
    rw [this]
/-- a method's meaning: its run from its entry, with n locals -/
def mLoc : Nat → List Value → List Value
  | n, [] => List.replicate n .null
  | n, .long v :: r => .long v :: .null :: mLoc (n - 2) r
  | n, v :: r => v :: mLoc (n - 1) r
noncomputable def mth (M : MI) (n : Nat) : CF := fun as h => run M (0, 0, 0, mLoc n as, [], h)
end
section
/-! the small machine's heap and the machine's: what stands at a place -/
def mv (ad : Nat → Nat) : Value → Value
  | .ref p => .ref (ad p)
  | v => v
def rvv (ad : Nat → Nat) (r : Nat) : Value := if r = mNul then .null else .ref (ad r)
def rvo (ad : Nat → Nat) (r : Nat) : Option Nat := if r = mNul then none else some (ad r)
def fvv (ad : Nat → Nat) (h : HP) (p ci j : Nat) : Value := match ftyc (ftyT ci j) with
  | 0 => .int (h.2.2.1 p j)
  | 1 => .int (h.2.2.1 p j)
  | 2 => .long (h.2.2.2.1 p j)
  | _ => rvv ad (h.2.2.2.2 p j)
def cel (aC : Nat → ClassId) (ad : Nat → Nat) (h : HP) (p : Nat) : va_E := match (h.2.1 p).1 with
  | 0 => .inl (aC 0, (h.2.1 p).2, .inl (h.2.2.1 p))
  | 1 => .inl (aC 1, (h.2.1 p).2, .inl (h.2.2.1 p))
  | 2 => .inl (aC 2, (h.2.1 p).2, .inr (.inl (h.2.2.2.1 p)))
  | 3 => .inl (aC 3, (h.2.1 p).2, .inr (.inr (.inr (.inr (fun i => rvo ad (h.2.2.2.2 p i))))))
  | 4 => .inl (aC 4, (h.2.1 p).2, .inr (.inr (.inr (.inr (fun i => rvo ad (h.2.2.2.2 p i))))))
  | k => .inr (k - 10, (List.range (nfd (k - 10))).map (fvv ad h p (k - 10)))
def wof (aC : Nat → ClassId) (ad : Nat → Nat) (h : HP) : va_W := (List.range h.1).map (fun p => (ad p, cel aC ad h p))
theorem wof_get {aC : Nat → ClassId} {ad : Nat → Nat} {h : HP} {p : Nat} (hp : p < h.1) : (wof aC ad h)[p]? = some (ad p, cel aC ad h p) := by
  simp [wof, hp]
theorem wof_len {aC : Nat → ClassId} {ad : Nat → Nat} {h : HP} : (wof aC ad h).length = h.1 := by simp [wof]
theorem cel_congr {aC : Nat → ClassId} {ad ad' : Nat → Nat} {h h' : HP} {p : Nat} (h1 : h'.2.1 p = h.2.1 p) (h2 : h'.2.2.1 p = h.2.2.1 p) (h3 : h'.2.2.2.1 p = h.2.2.2.1 p) (h4 : h'.2.2.2.2 p = h.2.2.2.2 p) (h5 : ∀ j, h.2.2.2.2 p j = mNul ∨ ad' (h.2.2.2.2 p j) = ad (h.2.2.2.2 p j)) : cel aC ad' h' p = cel aC ad h p := by
  have e1 : ∀ j, rvv ad' (h'.2.2.2.2 p j) = rvv ad (h.2.2.2.2 p j) := fun j => by
    rw [h4]; unfold rvv
    split
    · rfl
    · rcases h5 j with q | q
      · contradiction
      · rw [q]
  have e2 : ∀ j, rvo ad' (h'.2.2.2.2 p j) = rvo ad (h.2.2.2.2 p j) := fun j => by
    rw [h4]; unfold rvo
    split
    · rfl
    · rcases h5 j with q | q
      · contradiction
      · rw [q]
  have e3 : ∀ ci, fvv ad' h' p ci = fvv ad h p ci := fun ci => by
    funext j
    unfold fvv
    rw [h2, h3, e1]
  unfold cel
  simp only [h1, h2, h3, e2, e3]
theorem wof_set {aC : Nat → ClassId} {ad : Nat → Nat} {h h' : HP} {p : Nat} {E : va_E} (hn : h'.1 = h.1) (hp : cel aC ad h' p = E) (ho : ∀ q, q ≠ p → cel aC ad h' q = cel aC ad h q) : (wof aC ad h).set p (ad p, E) = wof aC ad h' := by
  apply List.ext_getElem?
  intro k
  rw [List.getElem?_set]
  by_cases hk : p = k
  · subst hk
    rw [if_pos rfl]
    by_cases hl : p < h.1
    · rw [if_pos (by rw [wof_len]; exact hl), wof_get (by rw [hn]; exact hl), hp]
    · rw [if_neg (by rw [wof_len]; exact hl)]
      symm
      apply List.getElem?_eq_none
      rw [wof_len, hn]; omega
  · rw [if_neg hk]
    by_cases hl : k < h.1
    · rw [wof_get hl, wof_get (by rw [hn]; exact hl), ho k (fun q => hk q.symm)]
    · rw [List.getElem?_eq_none (by rw [wof_len]; omega), List.getElem?_eq_none (by rw [wof_len, hn]; omega)]
theorem up2_ne {α : Type} {f : Nat → Nat → α} {p k : Nat} {x : α} {q : Nat} (h : q ≠ p) : up2 f p k x q = f q := by unfold up2; rw [if_neg h]
theorem up2_eq {α : Type} {f : Nat → Nat → α} {p k : Nat} {x : α} : up2 f p k x p = up1 (f p) k x := by unfold up2; rw [if_pos rfl]
theorem up1_ne {α : Type} {f : Nat → α} {p : Nat} {x : α} {q : Nat} (h : q ≠ p) : up1 f p x q = f q := by unfold up1; rw [if_neg h]
theorem up1_eq {α : Type} {f : Nat → α} {p : Nat} {x : α} : up1 f p x p = x := by unfold up1; rw [if_pos rfl]
theorem cel_hI {aC : Nat → ClassId} {ad : Nat → Nat} {h : HP} {p k : Nat} {x : Int32} {q : Nat} (hq : q ≠ p) : cel aC ad (hI h p k x) q = cel aC ad h q := cel_congr rfl (up2_ne hq) rfl rfl (fun _ => Or.inr rfl)
theorem cel_hJ {aC : Nat → ClassId} {ad : Nat → Nat} {h : HP} {p k : Nat} {x : Int64} {q : Nat} (hq : q ≠ p) : cel aC ad (hJ h p k x) q = cel aC ad h q := cel_congr rfl rfl (up2_ne hq) rfl (fun _ => Or.inr rfl)
theorem cel_hR {aC : Nat → ClassId} {ad : Nat → Nat} {h : HP} {p k : Nat} {x : Nat} {q : Nat} (hq : q ≠ p) : cel aC ad (hR h p k x) q = cel aC ad h q := by
  have e : (hR h p k x).2.2.2.2 q = h.2.2.2.2 q := up2_ne hq
  exact cel_congr rfl rfl rfl e (fun _ => Or.inr rfl)
/-- what a class number says -/
theorem cel_obj {aC : Nat → ClassId} {ad : Nat → Nat} {h : HP} {p ci : Nat} (hk : (h.2.1 p).1 = 10 + ci) : cel aC ad h p = .inr (ci, (List.range (nfd ci)).map (fvv ad h p ci)) := by
  unfold cel
  rw [hk]
  have e : 10 + ci = (ci + 5) + 5 := by omega
  rw [e]
  show Sum.inr ((ci + 5) + 5 - 10, _) = _
  have e2 : (ci + 5) + 5 - 10 = ci := by omega
  rw [e2]
theorem cel_0 {aC : Nat → ClassId} {ad : Nat → Nat} {h : HP} {p : Nat} (hk : (h.2.1 p).1 = 0) : cel aC ad h p = .inl (aC 0, (h.2.1 p).2, .inl (h.2.2.1 p)) := by unfold cel; rw [hk]; rfl
theorem cel_1 {aC : Nat → ClassId} {ad : Nat → Nat} {h : HP} {p : Nat} (hk : (h.2.1 p).1 = 1) : cel aC ad h p = .inl (aC 1, (h.2.1 p).2, .inl (h.2.2.1 p)) := by unfold cel; rw [hk]; rfl
theorem cel_2 {aC : Nat → ClassId} {ad : Nat → Nat} {h : HP} {p : Nat} (hk : (h.2.1 p).1 = 2) : cel aC ad h p = .inl (aC 2, (h.2.1 p).2, .inr (.inl (h.2.2.2.1 p))) := by unfold cel; rw [hk]; rfl
theorem cel_3 {aC : Nat → ClassId} {ad : Nat → Nat} {h : HP} {p : Nat} (hk : (h.2.1 p).1 = 3) : cel aC ad h p = .inl (aC 3, (h.2.1 p).2, .inr (.inr (.inr (.inr (fun i => rvo ad (h.2.2.2.2 p i)))))) := by unfold cel; rw [hk]; rfl
theorem cel_4 {aC : Nat → ClassId} {ad : Nat → Nat} {h : HP} {p : Nat} (hk : (h.2.1 p).1 = 4) : cel aC ad h p = .inl (aC 4, (h.2.1 p).2, .inr (.inr (.inr (.inr (fun i => rvo ad (h.2.2.2.2 p i)))))) := by unfold cel; rw [hk]; rfl
theorem map_set_range {α : Type} {n j : Nat} {f g : Nat → α} {v : α} (hj : g j = v) (ho : ∀ i, i ≠ j → g i = f i) : ((List.range n).map f).set j v = (List.range n).map g := by
  apply List.ext_getElem?
  intro k
  rw [List.getElem?_set]
  by_cases hk : j = k
  · subst hk
    rw [if_pos rfl]
    by_cases hl : j < n
    · rw [if_pos (by simp; exact hl)]; simp [hl, hj]
    · rw [if_neg (by simp; omega)]; symm; apply List.getElem?_eq_none; simp; omega
  · rw [if_neg hk]
    by_cases hl : k < n
    · simp [hl, ho k (fun q => hk q.symm)]
    · rw [List.getElem?_eq_none (by simp; omega), List.getElem?_eq_none (by simp; omega)]
theorem fvv_ne {ad : Nat → Nat} {h h' : HP} {p ci j i : Nat} (h1 : h'.2.2.1 p i = h.2.2.1 p i) (h2 : h'.2.2.2.1 p i = h.2.2.2.1 p i) (h3 : h'.2.2.2.2 p i = h.2.2.2.2 p i) : fvv ad h' p ci i = fvv ad h p ci i := by
  unfold fvv; rw [h1, h2, h3]
/-- the values a heap holds are places that there are -/
def okv (n : Nat) : Value → Prop
  | .ref p => p < n
  | _ => True
def okS (n : Nat) (st : List Value) : Prop := ∀ v ∈ st, okv n v
def okH (h : HP) : Prop := ∀ p j, h.2.2.2.2 p j = mNul ∨ h.2.2.2.2 p j < h.1
theorem okS.nil {n : Nat} : okS n [] := fun _ h => absurd h List.not_mem_nil
theorem okS.cons {n : Nat} {v : Value} {st : List Value} (h : okv n v) (hs : okS n st) : okS n (v :: st) := fun w hw => (List.mem_cons.mp hw).elim (fun e => e ▸ h) (hs w)
theorem okS.hd {n : Nat} {v : Value} {st : List Value} (h : okS n (v :: st)) : okv n v := h v List.mem_cons_self
theorem okS.tl {n : Nat} {v : Value} {st : List Value} (h : okS n (v :: st)) : okS n st := fun w hw => h w (List.mem_cons_of_mem _ hw)
theorem okv.up {n n' : Nat} (hn : n ≤ n') {v : Value} (h : okv n v) : okv n' v := by
  cases v <;> first | trivial | exact Nat.lt_of_lt_of_le h hn
theorem okS.up {n n' : Nat} (hn : n ≤ n') {st : List Value} (h : okS n st) : okS n' st := fun v hv => (h v hv).up hn
theorem mv_congr {ad ad' : Nat → Nat} {n : Nat} (ha : ∀ p, p < n → ad' p = ad p) {v : Value} (h : okv n v) : mv ad' v = mv ad v := by
  cases v <;> first | rfl | (show Value.ref _ = Value.ref _; rw [ha _ h])
theorem mvs_congr {ad ad' : Nat → Nat} {n : Nat} (ha : ∀ p, p < n → ad' p = ad p) {st : List Value} (h : okS n st) : st.map (mv ad') = st.map (mv ad) := List.map_congr_left fun v hv => mv_congr ha (h v hv)
theorem mv_cat {ad : Nat → Nat} {v : Value} : (mv ad v).category = v.category := by cases v <;> rfl
/-- a new cell -/
theorem wof_alc {aC : Nat → ClassId} {ad : Nat → Nat} {h : HP} {kd n q : Nat} {E : va_E} (hok : okH h) (hE : cel aC (up1 ad h.1 q) (alc h kd n) h.1 = E) : wof aC ad h ++ [(q, E)] = wof aC (up1 ad h.1 q) (alc h kd n) := by
  have e : wof aC (up1 ad h.1 q) (alc h kd n) = (List.range h.1).map (fun p => (up1 ad h.1 q p, cel aC (up1 ad h.1 q) (alc h kd n) p)) ++ [(up1 ad h.1 q h.1, cel aC (up1 ad h.1 q) (alc h kd n) h.1)] := by
    show List.map _ (List.range (h.1 + 1)) = _
    rw [List.range_succ, List.map_append]
    rfl
  rw [e, hE, up1_eq]
  congr 1
  unfold wof
  apply List.map_congr_left
  intro p hp
  have hlt : p < h.1 := List.mem_range.mp hp
  have hne : p ≠ h.1 := by omega
  have e1 : cel aC (up1 ad h.1 q) (alc h kd n) p = cel aC ad h p := by
    refine cel_congr (up1_ne hne) (up1_ne hne) (up1_ne hne) (up1_ne hne) fun j => ?_
    rcases hok p j with z | z
    · exact Or.inl z
    · exact Or.inr (up1_ne (by omega))
  rw [e1, up1_ne hne]
theorem okH.alc {h : HP} {kd n : Nat} (hok : okH h) : okH (alc h kd n) := by
  intro p j
  show up1 h.2.2.2.2 h.1 (fun _ => mNul) p j = mNul ∨ up1 h.2.2.2.2 h.1 (fun _ => mNul) p j < h.1 + 1
  by_cases hp : p = h.1
  · subst hp; rw [up1_eq]; exact Or.inl rfl
  · rw [up1_ne hp]
    rcases hok p j with z | z
    · exact Or.inl z
    · exact Or.inr (by omega)
theorem okH.hI {h : HP} {p k : Nat} {x : Int32} (hok : okH h) : okH (hI h p k x) := hok
theorem okH.hJ {h : HP} {p k : Nat} {x : Int64} (hok : okH h) : okH (hJ h p k x) := hok
theorem okH.hR {h : HP} {p k : Nat} {x : Nat} (hok : okH h) (hx : x < h.1) : okH (hR h p k x) := by
  intro q j
  show up2 h.2.2.2.2 p k x q j = mNul ∨ up2 h.2.2.2.2 p k x q j < h.1
  by_cases hq : q = p
  · subst hq
    rw [up2_eq]
    by_cases hj : j = k
    · subst hj; rw [up1_eq]; exact Or.inr hx
    · rw [up1_ne hj]; exact hok q j
  · rw [up2_ne hq]; exact hok q j
/-! locals -/
def lv1 (ad : Nat → Nat) (i : Nat) : Option Value → Option (Nat × Value)
  | some Value.null => none
  | some v => some (i, mv ad v)
  | none => none
theorem lv1_some {ad : Nat → Nat} {i : Nat} {v : Value} (h : v ≠ .null) : lv1 ad i (some v) = some (i, mv ad v) := by
  cases v <;> first | rfl | exact absurd rfl h
def lvl (ad : Nat → Nat) (vs : List Value) : List (Nat × Value) := (List.range vs.length).filterMap (fun i => lv1 ad i vs[i]?)
theorem lvl_mem {ad : Nat → Nat} {vs : List Value} {q : Nat × Value} : q ∈ lvl ad vs ↔ ∃ v, vs[q.1]? = some v ∧ v ≠ .null ∧ q.2 = mv ad v := by
  unfold lvl
  rw [List.mem_filterMap]
  constructor
  · rintro ⟨i, hi, h⟩
    cases hv : vs[i]? with
    | none => rw [hv] at h; cases h
    | some v =>
      rw [hv] at h
      by_cases hn : v = .null
      · subst hn; cases h
      · rw [lv1_some hn] at h
        cases h
        exact ⟨v, hv, hn, rfl⟩
  · rintro ⟨v, h1, h2, h3⟩
    refine ⟨q.1, List.mem_range.mpr (List.getElem?_eq_some_iff.mp h1).1, ?_⟩
    rw [h1, lv1_some h2, ← h3]
def LV (ad : Nat → Nat) (ls : Array Slot) (nL : Nat) (vs : List Value) : Prop := lv_has ls nL (lvl ad vs) ∧ vs.length = nL
theorem LV.at {ad : Nat → Nat} {ls : Array Slot} {nL : Nat} {vs : List Value} (h : LV ad ls nL vs) {i : Nat} {v : Value} (hv : vs[i]? = some v) (hn : v ≠ .null) : ls[i]? = some (.val (mv ad v)) := h.1.2.2 (i, mv ad v) (lvl_mem.mpr ⟨v, hv, hn, rfl⟩)
theorem LV.congr {ad ad' : Nat → Nat} {ls : Array Slot} {nL n : Nat} {vs : List Value} (ha : ∀ p, p < n → ad' p = ad p) (ho : okS n vs) (h : LV ad ls nL vs) : LV ad' ls nL vs := by
  refine ⟨⟨h.1.1, h.1.2.1, fun q hq => ?_⟩, h.2⟩
  obtain ⟨v, h1, h2, h3⟩ := lvl_mem.mp hq
  rw [h3, mv_congr ha (ho v (List.mem_of_getElem? h1))]
  exact h.at h1 h2
theorem kill_len {ls : List Value} {i : Nat} : (kill ls i).length = ls.length := by
  cases i with
  | zero => rfl
  | succ j =>
    show (killv ls j ls[j]?).length = _
    cases ls[j]? with
    | none => rfl
    | some v =>
      show (bif Nat.beq v.category 2 then ls.set j .null else ls).length = _
      cases Nat.beq v.category 2
      · rfl
      · exact List.length_set
theorem kill_get {ls : List Value} {i k : Nat} {v : Value} (h : (kill ls i)[k]? = some v) (hn : v ≠ .null) : ls[k]? = some v ∧ ¬ (k + 1 = i ∧ v.category = 2) := by
  cases i with
  | zero => exact ⟨h, fun q => by omega⟩
  | succ j =>
    replace h : (killv ls j ls[j]?)[k]? = some v := h
    cases hv : ls[j]? with
    | none =>
      rw [hv] at h
      replace h : ls[k]? = some v := h
      refine ⟨h, fun q => ?_⟩
      have : k = j := by omega
      subst this
      rw [h] at hv
      cases hv
    | some w =>
      rw [hv] at h
      replace h : (bif Nat.beq w.category 2 then ls.set j .null else ls)[k]? = some v := h
      cases hb : Nat.beq w.category 2 with
      | false =>
        rw [hb] at h
        replace h : ls[k]? = some v := h
        refine ⟨h, fun q => ?_⟩
        have : k = j := by omega
        subst this
        rw [h] at hv; cases hv
        rw [q.2] at hb; cases hb
      | true =>
        rw [hb] at h
        replace h : (ls.set j .null)[k]? = some v := h
        rw [List.getElem?_set] at h
        by_cases hk : j = k
        · rw [if_pos hk] at h
          by_cases hl : j < ls.length
          · rw [if_pos hl] at h; cases h; exact absurd rfl hn
          · rw [if_neg hl] at h; cases h
        · rw [if_neg hk] at h
          exact ⟨h, fun q => by omega⟩
theorem kill_ok {n : Nat} {ls : List Value} {i : Nat} (h : okS n ls) : okS n (kill ls i) := by
  intro v hv
  by_cases hn : v = .null
  · subst hn; trivial
  · obtain ⟨k, hk⟩ := List.getElem?_of_mem hv
    exact h v (List.mem_of_getElem? (kill_get hk hn).1)
theorem set_ok {n : Nat} {ls : List Value} {i : Nat} {x : Value} (h : okS n ls) (hx : okv n x) : okS n (ls.set i x) := by
  intro v hv
  rcases List.mem_or_eq_of_mem_set hv with q | q
  · exact h v q
  · subst q; exact hx
theorem LV.st1 {ad : Nat → Nat} {ls' : Array Slot} {nL : Nat} {vs : List Value} {i : Nat} {x : Value} (hlen : vs.length = nL) (hi : i < nL) (h : lv_has ls' nL ((i, mv ad x) :: (lvl ad vs).filter (fun q => !(q.1 == i) && !(q.1 + 1 == i && q.2.category == 2)))) : LV ad ls' nL ((kill vs i).set i x) := by
  refine ⟨⟨h.1, h.2.1, fun q hq => ?_⟩, by rw [List.length_set, kill_len]; exact hlen⟩
  obtain ⟨v, h1, h2, h3⟩ := lvl_mem.mp hq
  apply h.2.2
  rw [List.getElem?_set] at h1
  by_cases hk : i = q.1
  · rw [if_pos hk] at h1
    rw [if_pos (by rw [kill_len, hlen]; exact hi)] at h1
    cases h1
    refine List.mem_cons.mpr (Or.inl ?_)
    rw [hk, ← h3]
  · rw [if_neg hk] at h1
    obtain ⟨g1, g2⟩ := kill_get h1 h2
    refine List.mem_cons.mpr (Or.inr (List.mem_filter.mpr ⟨lvl_mem.mpr ⟨v, g1, h2, h3⟩, ?_⟩))
    rw [h3, mv_cat]
    have e1 : (q.1 == i) = false := by simp; exact fun z => hk z.symm
    rw [e1]
    cases e2 : (q.1 + 1 == i && v.category == 2) with
    | false => rfl
    | true =>
      simp only [Bool.and_eq_true, beq_iff_eq] at e2
      exact absurd e2 g2
theorem LV.st2 {ad : Nat → Nat} {ls' : Array Slot} {nL : Nat} {vs : List Value} {i : Nat} {x : Value} (hlen : vs.length = nL) (hi : i + 1 < nL) (h : lv_has ls' nL ((i, mv ad x) :: (lvl ad vs).filter (fun q => !(q.1 == i) && (!(q.1 == i + 1) && !(q.1 + 1 == i && q.2.category == 2))))) : LV ad ls' nL (((kill vs i).set i x).set (i + 1) .null) := by
  refine ⟨⟨h.1, h.2.1, fun q hq => ?_⟩, by rw [List.length_set, List.length_set, kill_len]; exact hlen⟩
  obtain ⟨v, h1, h2, h3⟩ := lvl_mem.mp hq
  apply h.2.2
  rw [List.getElem?_set] at h1
  by_cases hk1 : i + 1 = q.1
  · rw [if_pos hk1] at h1
    rw [if_pos (by rw [List.length_set, kill_len, hlen]; exact hi)] at h1
    cases h1
    exact absurd rfl h2
  rw [if_neg hk1, List.getElem?_set] at h1
  by_cases hk : i = q.1
  · rw [if_pos hk] at h1
    rw [if_pos (by rw [kill_len, hlen]; omega)] at h1
    cases h1
    refine List.mem_cons.mpr (Or.inl ?_)
    rw [hk, ← h3]
  · rw [if_neg hk] at h1
    obtain ⟨g1, g2⟩ := kill_get h1 h2
    refine List.mem_cons.mpr (Or.inr (List.mem_filter.mpr ⟨lvl_mem.mpr ⟨v, g1, h2, h3⟩, ?_⟩))
    rw [h3, mv_cat]
    have e1 : (q.1 == i) = false := by simp; exact fun z => hk z.symm
    have e3 : (q.1 == i + 1) = false := by simp; exact fun z => hk1 z.symm
    rw [e1, e3]
    cases e2 : (q.1 + 1 == i && v.category == 2) with
    | false => rfl
    | true =>
      simp only [Bool.and_eq_true, beq_iff_eq] at e2
      exact absurd e2 g2
end
section
/-! what the small machine does, the machine does (laid by wip/whole/gen_sound.py) -/
def tyL (aC : Nat → ClassId) : List (ClassId × FieldType) := [(aC 0, .int), (aC 1, .boolean), (aC 2, .long), (aC 3, .object RX2), (aC 4, .object RX9)]
def nst : Cond → Bool
  | .fieldLinkNest .. => true
  | .methodLinkNest .. => true
  | _ => false
def nsW : List Cond := lw_tbl.filter nst
def gdW : List Cond := lw_tbl.filter goodWord
def KS (D : va_G) (aC : Nat → ClassId) (U : State) : Prop := va_K D vwCl (tyL aC) U ∧ (∀ w ∈ nsW, va_Nw w U) ∧ va_AO RX2 U ∧ va_AO RX9 U
theorem KS.warm {D : va_G} {aC : Nat → ClassId} {s U : State} (hW : s.WarmedH U.vm) (h : KS D aC s) : KS D aC U := by
  refine ⟨va_K.moved hW.alike h.1, fun w hw => ?_, va_AO.moved hW.alike h.2.2.1, va_AO.moved hW.alike h.2.2.2⟩
  have hz := h.2.1 w hw
  have hn : nst w = true := (List.mem_filter.mp hw).2
  cases w <;> first | exact va_Nw.warmF hW hz | exact va_Nw.warmM hW hz | cases hn
theorem KS.same {D : va_G} {aC : Nat → ClassId} {u U : State} (hv : u.vm = U.vm) (h : KS D aC u) : KS D aC U := by
  refine ⟨va_K.moved (hv ▸ Vm.Alike.refl u.vm) h.1, fun w hw => ?_, va_AO.moved (hv ▸ Vm.Alike.refl u.vm) h.2.2.1, va_AO.moved (hv ▸ Vm.Alike.refl u.vm) h.2.2.2⟩
  have hz := h.2.1 w hw
  have hn : nst w = true := (List.mem_filter.mp hw).2
  refine va_Nw.same ?_ hv hz
  cases w <;> first | rfl | cases hn
def clN (ci : Nat) : String := match ci with
  | 0 => RX0 | 1 => RX1 | 2 => RX2 | 3 => RX3 | 4 => RX4 | 5 => RX5 | 6 => RX6 | 7 => RX7 | 8 => RX8 | 9 => RX9 | 10 => RX10 | 11 => RX11 | _ => RX12
def clT (ci : Nat) : u_T := match ci with
  | 0 => TX0 | 1 => TX1 | 2 => TX2 | 3 => TX3 | 4 => TX4 | 5 => TX5 | 6 => TX6 | 7 => TX7 | 8 => TX8 | 9 => TX9 | 10 => TX10 | 11 => TX11 | _ => TX12
theorem clsL {ci : Nat} (h : ci < 13) : vwCl[ci]? = some (clN ci, clT ci, nfd ci) := by
  match ci, h with
  | 0, _ => rfl
  | 1, _ => rfl
  | 2, _ => rfl
  | 3, _ => rfl
  | 4, _ => rfl
  | 5, _ => rfl
  | 6, _ => rfl
  | 7, _ => rfl
  | 8, _ => rfl
  | 9, _ => rfl
  | 10, _ => rfl
  | 11, _ => rfl
  | 12, _ => rfl
  | k + 13, h => omega
theorem clsT {ci : Nat} (h : ci < 13) : ∀ k, k < nfd ci → parseFieldDescriptor (clT ci k).2.2.1 = some (ftyT ci k) := by
  match ci, h with
  | 0, _ => exact tyX0_ok
  | 1, _ => exact tyX1_ok
  | 2, _ => exact tyX2_ok
  | 3, _ => exact tyX3_ok
  | 4, _ => exact tyX4_ok
  | 5, _ => exact tyX5_ok
  | 6, _ => exact tyX6_ok
  | 7, _ => exact tyX7_ok
  | 8, _ => exact tyX8_ok
  | 9, _ => exact tyX9_ok
  | 10, _ => exact tyX10_ok
  | 11, _ => exact tyX11_ok
  | 12, _ => exact tyX12_ok
  | k + 13, h => omega
theorem clsM {ci : Nat} (h : ci < 13) : ∀ a, a < nfd ci → ∀ b, b < nfd ci → a ≠ b → (clT ci a).2.1 ≠ (clT ci b).2.1 := by
  match ci, h with
  | 0, _ => exact nmX0
  | 1, _ => exact nmX1
  | 2, _ => exact nmX2
  | 3, _ => exact nmX3
  | 4, _ => exact nmX4
  | 5, _ => exact nmX5
  | 6, _ => exact nmX6
  | 7, _ => exact nmX7
  | 8, _ => exact nmX8
  | 9, _ => exact nmX9
  | 10, _ => exact nmX10
  | 11, _ => exact nmX11
  | 12, _ => exact nmX12
  | k + 13, h => omega
/-- a field's link: its class's own, or a nest mate's -/
def FOK (own : String) (args : Array Value) (s : State) (x ci j : Nat) : Prop := (Cond.fieldLink own x (clT ci j).1 (clT ci j).2.1 (clT ci j).2.2.1).before args s = true ∨ ∃ host, (Cond.fieldLinkNest own x (clT ci j).1 (clT ci j).2.1 (clT ci j).2.2.1 host).before args s = true
def PFK (own : String) (meth : Method) (args : Array Value) (s : State) (x ci j : Nat) : Prop := ((clT ci j).2.2.2 = false ∧ FOK own args s x ci j) ∨ ((clT ci j).2.2.2 = true ∧ meth.name = "<init>" ∧ (clT ci j).1 = own ∧ (Cond.fieldLink own x (clT ci j).1 (clT ci j).2.1 (clT ci j).2.2.1).before args s = true)
def lenOk (i : Instr) (n : Nat) : Bool := match i with
  | .tableswitch .. => true
  | .bipush _ => n == 2
  | .ldc _ => n == 2
  | .iload _ => n == 2
  | .lload _ => n == 2
  | .aload _ => n == 2
  | .istore _ => n == 2
  | .lstore _ => n == 2
  | .astore _ => n == 2
  | .newarray _ => n == 2
  | .sipush _ => n == 3
  | .ldc_w _ => n == 3
  | .ldc2_w _ => n == 3
  | .iinc .. => n == 3
  | .goto _ => n == 3
  | .ifCond .. => n == 3
  | .if_icmp .. => n == 3
  | .getfield _ => n == 3
  | .putfield _ => n == 3
  | .new _ => n == 3
  | .anewarray _ => n == 3
  | .invokevirtual _ => n == 3
  | .invokespecial _ => n == 3
  | .invokestatic _ => n == 3
  | _ => n == 1
def MOK (own : String) (cc : ByteArray) (M : MI) (meth : Method) (args : Array Value) (s : State) : Prop :=
  (∀ pc i n, lkp pc M.1 = some (i, n) → decode cc pc = .ok (i, n) ∧ lenOk i n = true) ∧
  (∀ x ci j, lkp x M.2.1 = some (ci, j) → ci < 13 ∧ FOK own args s x ci j) ∧
  (∀ pc x n ci j, lkp pc M.1 = some (.putfield x, n) → lkp x M.2.1 = some (ci, j) → PFK own meth args s x ci j) ∧
  (∀ x v, lkp x M.2.2.1 = some (.int v) → (Cond.constant own x v).before args s = true) ∧
  (∀ x v, lkp x M.2.2.1 = some (.long v) → (Cond.constantLong own x v).before args s = true) ∧
  (∀ x ci, lkp x M.2.2.2.2.1 = some ci → ci < 13 ∧ (Cond.classLink own x (clN ci)).before args s = true)
/-- what all methods know of the classes -/
def COK (args : Array Value) (s : State) : Prop := (∀ w ∈ gdW, w.before args s = true) ∧ (∀ ci, ci < 13 → (∀ w ∈ u_ws (clN ci) (clT ci) (nfd ci), w ∈ gdW) ∧ (Cond.instantiable (clN ci) (nfd ci)).before args s = true ∧ (Cond.initialized (clN ci)).before args s = true) ∧ (Cond.arrayClass .int).before args s = true ∧ (Cond.arrayClass .boolean).before args s = true ∧ (Cond.arrayClass .long).before args s = true
def RTY (k : Nat) (o : Option FieldType) : Prop := match k with
  | 0 => o = none
  | 1 => o = some .int
  | 2 => o = some .boolean
  | 3 => o = some .long
  | _ => ∃ n, o = some (.object n)
def Hp (D : va_G) (aC : Nat → ClassId) (A : Nat → Prop) (s : State) (ad0 : Nat → Nat) (N0 : Nat) (ad : Nat → Nat) (h : HP) (H : Heap) (locs : List Loc) : Prop :=
  va_P D vwCl (wof aC ad h) H ∧ va_D A (wof aC ad h) ∧ va_S A s.heap H locs ∧ h.1 ≤ mNul ∧ N0 ≤ h.1 ∧ (∀ p, p < N0 → ad p = ad0 p) ∧ okH h
def Qm (D : va_G) (aC : Nat → ClassId) (A : Nat → Prop) (ad0 : Nat → Nat) (N0 : Nat) (r : Option Value) (hF : HP) : Array Value → State → Outcome → State → Prop := fun _ st oc t =>
  (∃ ad : Nat → Nat, oc = .returned (r.map (mv ad)) ∧ va_P D vwCl (wof aC ad hF) t.heap ∧ va_D A (wof aC ad hF) ∧ hF.1 ≤ mNul ∧ N0 ≤ hF.1 ∧ (∀ p, p < N0 → ad p = ad0 p) ∧ okH hF ∧ (∀ v, r = some v → okv hF.1 v)) ∧ va_F A st t
theorem inb_in {i : Int32} {n : Nat} (h : inb i n = true) : vp_in i n := by
  unfold inb at h
  simp only [Bool.and_eq_true, Bool.not_eq_true', decide_eq_false_iff_not] at h
  rintro (q | q)
  · exact h.1 q
  · have := Nat.ble_eq.mpr q
    rw [this] at h
    cases h.2
theorem isB_nar {x : Int32} (h : isB x = true) : narrow .boolean (.int x) = .int x ∧ fits .boolean (.int x) = true ∧ vp_nar .boolean x = x := by
  unfold isB at h
  simp only [Bool.or_eq_true, decide_eq_true_eq] at h
  rcases h with rfl | rfl <;> exact ⟨rfl, rfl, rfl⟩
theorem arr_uniq {D : va_G} {cl : List vw_C} {tys tys' : List (ClassId × FieldType)} {s : State} {a b : ClassId} {ty : FieldType} {i j : Nat} (h1 : va_K D cl tys s) (h2 : va_K D cl tys' s) (hi : tys[i]? = some (a, ty)) (hj : tys'[j]? = some (b, ty)) : a = b := by
  have e1 := (h1.2 i _ hi).2
  have e2 := (h2.2 j _ hj).2
  cases ty with
  | object C =>
    obtain ⟨_, _, _, _, _, g1⟩ := e1
    obtain ⟨_, _, _, _, _, g2⟩ := e2
    exact Option.some.inj (g1.symm.trans g2)
  | _ => exact Option.some.inj (e1.symm.trans e2)
theorem swk_some {ρ : Type} {k : Int → Option ρ} {d : Int} {x : Int32} {r : ρ} : ∀ (ts : List Int) (lo : Int), swk k d x lo ts = some r → (∃ (i : Nat) (t : Int), ts[i]? = some t ∧ x = Int32.ofInt (lo + i) ∧ k t = some r) ∨ ((∀ i : Nat, i < ts.length → x ≠ Int32.ofInt (lo + i)) ∧ k d = some r) := by
  intro ts
  induction ts with
  | nil => intro lo h; exact Or.inr ⟨fun i hi => absurd hi (Nat.not_lt_zero i), h⟩
  | cons t ts ih =>
    intro lo h
    unfold swk at h
    split at h
    · rename_i hx
      exact Or.inl ⟨0, t, rfl, by simpa using hx, h⟩
    · rename_i hx
      rcases ih (lo + 1) h with ⟨i, t', h1, h2, h3⟩ | ⟨h1, h2⟩
      · refine Or.inl ⟨i + 1, t', h1, ?_, h3⟩
        rw [h2]; congr 1; push_cast; omega
      · refine Or.inr ⟨fun i hi => ?_, h2⟩
        cases i with
        | zero => simpa using hx
        | succ i =>
          have := h1 i (by simpa using hi)
          intro z
          apply this
          rw [z]; congr 1; push_cast; omega
theorem jmp_some {ρ : Type} {pc : Nat} {off : Int} {k : Nat → Option ρ} {r : ρ} (h : jmp pc off k = some r) : ∃ t : Nat, (pc : Int) + off = (t : Int) ∧ k t = some r := by
  unfold jmp at h
  split at h
  · rename_i t ht
    exact ⟨t, ht, h⟩
  · cases h
/-- where a branch goes -/
theorem jtgt_ok {pc : Nat} {off : Int} {t : Nat} (h : jtgt pc off = some t) : (pc : Int) + off = (t : Int) := by
  unfold jtgt at h
  split at h
  · rename_i z hz; cases h; exact hz
  · cases h
theorem fty_ref {ci j : Nat} {a : Nat} (hci : ci < 13) (hj : j < nfd ci) : ftyc (ftyT ci j) = 3 → narrow (ftyT ci j) (.ref a) = .ref a ∧ fits (ftyT ci j) (.ref a) = true := by
  intro h
  have hk : ∀ ci, ci < 13 → ∀ j, j < nfd ci → (ftyc (ftyT ci j) = 3 → ((match ftyT ci j with | .object _ => true | .array _ => true | _ => false) = true)) := by decide +kernel
  have h2 := hk ci hci j hj h
  cases hq : ftyT ci j with
  | object n => exact ⟨rfl, rfl⟩
  | array t => exact ⟨rfl, rfl⟩
  | _ => rw [hq] at h2; cases h2
theorem fty_dflt {ci j : Nat} {ad : Nat → Nat} (hci : ci < 13) (hj : j < nfd ci) : (match ftyc (ftyT ci j) with | 0 => Value.int 0 | 1 => .int 0 | 2 => .long 0 | _ => rvv ad mNul) = defaultValue (ftyT ci j) := by
  have hn : rvv ad mNul = .null := by unfold rvv; rw [if_pos rfl]
  rw [hn]
  have hk : ∀ ci, ci < 13 → ∀ j, j < nfd ci → (match ftyc (ftyT ci j) with | 0 => Value.int 0 | 1 => .int 0 | 2 => .long 0 | _ => Value.null) = defaultValue (ftyT ci j) := by decide +kernel
  exact hk ci hci j hj
section SND
variable {p : Program} {l : Launch} {e : Env} {R : Room} {s : State} {m : MethodId} {args : Array Value} {below : List Frame} {meth : Method} {c : Code} {cc : ByteArray} {nL : Nat} {own : String} {D : va_G} {aC : Nat → ClassId} {A : Nat → Prop} {ad0 : Nat → Nat} {N0 : Nat}
/-- a call: the callee's meaning is what happens -/
def CLK (p : Program) (l : Launch) (e : Env) (R : Room) (s : State) (m : MethodId) (args : Array Value) (below : List Frame) (meth : Method) (c : Code) (cc : ByteArray) (nL : Nat) (D : va_G) (aC : Nat → ClassId) (A : Nat → Prop) (ad0 : Nat → Nat) (N0 : Nat) (op : Instr) (n : Nat) (rc : Option Nat) (mc ms : Nat) (f : CF) : Prop :=
  ∀ (Q : State → Prop) (pc : Nat) (ls : Array Slot) (rest : List Value) (As : List Value) (h h' : HP) (r : Option Value) (ad : Nat → Nat) (H : Heap) (locs : List Loc) (cells slots : Nat),
    As.length = n → f As h = some (r, h') → decode cc pc = .ok (op, 3) → ls.size = nL → (rest.map fun v => v.category).sum ≤ 8 → cells + mc ≤ R.cells → slots + ms ≤ R.slots → Hp D aC A s ad0 N0 ad h H locs → okS h.1 As →
    (∀ ci, rc = some ci → ∃ q as, As = .ref q :: as ∧ (h.2.1 q).1 = 10 + ci ∧ q < h.1) →
    (∀ (ad' : Nat → Nat) (H' : Heap) (locs' : List Loc), Hp D aC A s ad0 N0 ad' h' H' locs' → (∀ q, q < h.1 → ad' q = ad q) → h.1 ≤ h'.1 → (∀ v, r = some v → okv h'.1 v) → W p l e R s m args below meth c H' locs' (cells + mc) (slots + ms) Q (F0 m (pc + 3) ls (r.toList.map (mv ad') ++ rest))) →
    W p l e R s m args below meth c H locs cells slots Q (F0 m pc ls ((As.map (mv ad)).reverse ++ rest))
def CLS (p : Program) (l : Launch) (e : Env) (R : Room) (s : State) (m : MethodId) (args : Array Value) (below : List Frame) (meth : Method) (c : Code) (cc : ByteArray) (nL : Nat) (D : va_G) (aC : Nat → ClassId) (A : Nat → Prop) (ad0 : Nat → Nat) (N0 : Nat) (M : MI) : Prop :=
  (∀ pc x k n rc mc ms f, lkp pc M.1 = some (.invokevirtual x, k) → lkp x M.2.2.2.1 = some (n, rc, mc, ms, f) → CLK p l e R s m args below meth c cc nL D aC A ad0 N0 (.invokevirtual x) n (some rc) mc ms f) ∧
  (∀ pc x k n rc mc ms f, lkp pc M.1 = some (.invokespecial x, k) → lkp x M.2.2.2.1 = some (n, rc, mc, ms, f) → CLK p l e R s m args below meth c cc nL D aC A ad0 N0 (.invokespecial x) n none mc ms f) ∧
  (∀ pc x k n rc mc ms f, lkp pc M.1 = some (.invokestatic x, k) → lkp x M.2.2.2.1 = some (n, rc, mc, ms, f) → CLK p l e R s m args below meth c cc nL D aC A ad0 N0 (.invokestatic x) n none mc ms f)
/-- putfield, whatever its link -/
theorem snd_put {Q : State → Prop} {H : Heap} {locs : List Loc} {cl sl pc : Nat} {ls : Array Slot} {rest : List Value} {ad : Nat → Nat} {h h' : HP} {q x ci j : Nat} {v : Value} (hx : p.tables.exec = Jvm.exec) (hb : c.code = cc) (hown : s.vm.findClass own = some m.cls) (hC : COK args s) (hK : KS D aC s)
    (hP : va_P D vwCl (wof aC ad h) H) (hD : va_D A (wof aC ad h)) (hS : va_S A s.heap H locs) (hci : ci < 13) (hg : (h.2.1 q).1 = 10 + ci ∧ q < h.1 ∧ j < nfd ci) (hpf : PFK own meth args s x ci j) (hd : decode cc pc = .ok (.putfield x, 3))
    (hn : narrow (ftyT ci j) v = v) (hfit : fits (ftyT ci j) v = true) (hsame : (wof aC ad h).set q (ad q, .inr (ci, ((List.range (nfd ci)).map (fvv ad h q ci)).set j v)) = wof aC ad h')
    (kk : ∀ (H1 : Heap) (locs1 : List Loc), va_P D vwCl (wof aC ad h') H1 → va_D A (wof aC ad h') → va_S A s.heap H1 locs1 → W p l e R s m args below meth c H1 locs1 cl sl Q (F0 m (pc + 3) ls rest)) :
    W p l e R s m args below meth c H locs cl sl Q (F0 m pc ls (v :: .ref (ad q) :: rest)) := by
  have he : (wof aC ad h)[q]? = some (ad q, .inr (ci, (List.range (nfd ci)).map (fvv ad h q ci))) := by rw [wof_get hg.2.1, cel_obj hg.1]
  have hl : j < ((List.range (nfd ci)).map (fvv ad h q ci)).length := by simp; exact hg.2.2
  have kk' : ∀ (H1 : Heap) (locs1 : List Loc), va_P D vwCl ((wof aC ad h).set q (ad q, .inr (ci, ((List.range (nfd ci)).map (fvv ad h q ci)).set j v))) H1 → va_D A ((wof aC ad h).set q (ad q, .inr (ci, ((List.range (nfd ci)).map (fvv ad h q ci)).set j v))) → va_S A s.heap H1 locs1 → W p l e R s m args below meth c H1 locs1 cl sl Q (F0 m (pc + 3) ls rest) := by
    rw [hsame]; exact kk
  rcases hpf with ⟨hfin, hf | ⟨host, hf⟩⟩ | ⟨hfin, hini, hdecl, hf⟩
  · exact va_put (C := clN ci) (T := clT ci) (N := nfd ci) hx hb hC.1 (hC.2.1 ci hci).1 (ftyT ci) (clsT hci) (clsM hci) hown hK.1 hP hD hS q he (clsL hci) j hg.2.2 hf (fun _ z => z) hfin (clsT hci j hg.2.2) hn hfit hl hd kk'
  · exact va_putN (C := clN ci) (T := clT ci) (N := nfd ci) hx hb hC.1 (hC.2.1 ci hci).1 (ftyT ci) (clsT hci) (clsM hci) hown hK.1 hP hD hS q he (clsL hci) j hg.2.2 hf (fun _ z => z) hfin (clsT hci j hg.2.2) hn hfit hl hd kk'
  · exact va_putF (C := clN ci) (T := clT ci) (N := nfd ci) hx hb hC.1 (hC.2.1 ci hci).1 (ftyT ci) (clsT hci) (clsM hci) hown hK.1 hP hD hS q he (clsL hci) j hg.2.2 hf (fun _ z => z) hfin hini hdecl (clsT hci j hg.2.2) hn hfit hl hd kk'
set_option maxHeartbeats 40000000 in
set_option maxRecDepth 100000 in
theorem snd_run {M : MI} {r : Option Value} {hF : HP} (hx : p.tables.exec = Jvm.exec) (hb : c.code = cc) (hml : c.maxLocals = nL) (hown : s.vm.findClass own = some m.cls) (hlocks : meth.locks = false) (hret : RTY M.2.2.2.2.2.2 meth.sig.returnType)
    (hRc : R.cells = M.2.2.2.2.2.1.1) (hRs : R.slots = M.2.2.2.2.2.1.2) (hC : COK args s) (hK : KS D aC s) (hA : ∀ q, s.heap.size ≤ q → A q) (hM : MOK own cc M meth args s) (hcal : CLS p l e R s m args below meth c cc nL D aC A ad0 N0 M) :
    ∀ (n pc cl sl : Nat) (vs st : List Value) (h : HP), runN M n (pc, cl, sl, vs, st, h) = some (r, hF) → ∀ (ad : Nat → Nat) (H : Heap) (locs : List Loc) (ls : Array Slot), Hp D aC A s ad0 N0 ad h H locs → cl ≤ M.2.2.2.2.2.1.1 → sl ≤ M.2.2.2.2.2.1.2 → LV ad ls nL vs → okS h.1 vs → okS h.1 st →
      W p l e R s m args below meth c H locs cl sl (MQ below (Qm D aC A ad0 N0 r hF) args s M.2.2.2.2.2.1.1 M.2.2.2.2.2.1.2 A) (F0 m pc ls (st.map (mv ad))) := by
  intro n
  induction n with
  | zero => intro pc cl sl vs st h hr; cases hr
  | succ n ih =>
  intro pc cl sl vs st h hrun ad H locs ls hH hcl hsl hL hokL hokS
  replace hrun : stp M (runN M n) some (pc, cl, sl, vs, st, h) = some (r, hF) := hrun
  unfold stp at hrun
  cases hi : lkp pc M.1 with
  | none => rw [hi] at hrun; cases hrun
  | some ii =>
  obtain ⟨i, k⟩ := ii
  rw [hi] at hrun
  obtain ⟨hd, hlen⟩ := hM.1 pc i k hi
  replace hrun : stpI M (runN M n) some pc cl sl vs st h i = some (r, hF) := hrun
  obtain ⟨hP, hD, hS, hmx, hN0, had, hok⟩ := id hH
  cases i with
  | iconst v =>
    obtain rfl : k = 1 := by simpa [lenOk] using hlen
    simp only [stpI] at hrun
    refine lv_iconst hx hb hd rfl ?_
    exact ih _ _ _ _ _ _ hrun ad H locs ls hH hcl hsl hL hokL (hokS.cons trivial)
  | bipush v =>
    obtain rfl : k = 2 := by simpa [lenOk] using hlen
    simp only [stpI] at hrun
    refine lv_bipush hx hb hd rfl ?_
    exact ih _ _ _ _ _ _ hrun ad H locs ls hH hcl hsl hL hokL (hokS.cons trivial)
  | sipush v =>
    obtain rfl : k = 3 := by simpa [lenOk] using hlen
    simp only [stpI] at hrun
    refine lv_sipush hx hb hd rfl ?_
    exact ih _ _ _ _ _ _ hrun ad H locs ls hH hcl hsl hL hokL (hokS.cons trivial)
  | lconst v =>
    obtain rfl : k = 1 := by simpa [lenOk] using hlen
    simp only [stpI] at hrun
    refine lv_lconst hx hb hd rfl ?_
    exact ih _ _ _ _ _ _ hrun ad H locs ls hH hcl hsl hL hokL (hokS.cons trivial)
  | ldc x =>
    obtain rfl : k = 2 := by simpa [lenOk] using hlen
    simp only [stpI] at hrun
    split at hrun
    · rename_i v hv
      refine lv_ldc hx hb hown (hM.2.2.2.1 x v hv) hd ?_
      exact ih _ _ _ _ _ _ hrun ad H locs ls hH hcl hsl hL hokL (hokS.cons trivial)
    · cases hrun
  | ldc_w x =>
    obtain rfl : k = 3 := by simpa [lenOk] using hlen
    simp only [stpI] at hrun
    split at hrun
    · rename_i v hv
      refine lv_ldcw hx hb hown (hM.2.2.2.1 x v hv) hd ?_
      exact ih _ _ _ _ _ _ hrun ad H locs ls hH hcl hsl hL hokL (hokS.cons trivial)
    · cases hrun
  | ldc2_w x =>
    obtain rfl : k = 3 := by simpa [lenOk] using hlen
    simp only [stpI] at hrun
    split at hrun
    · rename_i v hv
      refine lv_ldc2 hx hb hown (hM.2.2.2.2.1 x v hv) hd ?_
      exact ih _ _ _ _ _ _ hrun ad H locs ls hH hcl hsl hL hokL (hokS.cons trivial)
    · cases hrun
  | iload x =>
    obtain rfl : k = 2 := by simpa [lenOk] using hlen
    simp only [stpI] at hrun
    split at hrun
    · rename_i v hv
      refine lv_iload hx hb hd (hL.at hv (fun z => by cases z)) ?_
      exact ih _ _ _ _ _ _ hrun ad H locs ls hH hcl hsl hL hokL (hokS.cons trivial)
    · cases hrun
  | iload_n x =>
    obtain rfl : k = 1 := by simpa [lenOk] using hlen
    simp only [stpI] at hrun
    split at hrun
    · rename_i v hv
      refine lv_iload_n hx hb hd rfl (hL.at hv (fun z => by cases z)) ?_
      exact ih _ _ _ _ _ _ hrun ad H locs ls hH hcl hsl hL hokL (hokS.cons trivial)
    · cases hrun
  | lload x =>
    obtain rfl : k = 2 := by simpa [lenOk] using hlen
    simp only [stpI] at hrun
    split at hrun
    · rename_i v hv
      refine lv_lload hx hb hd (hL.at hv (fun z => by cases z)) ?_
      exact ih _ _ _ _ _ _ hrun ad H locs ls hH hcl hsl hL hokL (hokS.cons trivial)
    · cases hrun
  | lload_n x =>
    obtain rfl : k = 1 := by simpa [lenOk] using hlen
    simp only [stpI] at hrun
    split at hrun
    · rename_i v hv
      refine lv_lload_n hx hb hd rfl (hL.at hv (fun z => by cases z)) ?_
      exact ih _ _ _ _ _ _ hrun ad H locs ls hH hcl hsl hL hokL (hokS.cons trivial)
    · cases hrun
  | aload x =>
    obtain rfl : k = 2 := by simpa [lenOk] using hlen
    simp only [stpI] at hrun
    split at hrun
    · rename_i v hv
      refine lv_aload hx hb hd (hL.at hv (fun z => by cases z)) ?_
      exact ih _ _ _ _ _ _ hrun ad H locs ls hH hcl hsl hL hokL (hokS.cons (hokL _ (List.mem_of_getElem? hv)))
    · cases hrun
  | aload_n x =>
    obtain rfl : k = 1 := by simpa [lenOk] using hlen
    simp only [stpI] at hrun
    split at hrun
    · rename_i v hv
      refine lv_aload_n hx hb hd rfl (hL.at hv (fun z => by cases z)) ?_
      exact ih _ _ _ _ _ _ hrun ad H locs ls hH hcl hsl hL hokL (hokS.cons (hokL _ (List.mem_of_getElem? hv)))
    · cases hrun
  | istore x =>
    obtain rfl : k = 2 := by simpa [lenOk] using hlen
    simp only [stpI] at hrun
    split at hrun
    · rename_i v r'
      cases hq : Nat.blt x vs.length with
      | false => rw [hq] at hrun; cases hrun
      | true =>
        rw [hq] at hrun
        have hlt : x < nL := by rw [← hL.2]; exact Nat.blt_eq.mp hq
        refine lv_istore hx hb hd hL.1 hlt rfl (fun ls' hl' => ?_)
        exact ih _ _ _ _ _ _ hrun ad H locs ls' hH hcl hsl (LV.st1 (x := .int v) hL.2 hlt hl') (set_ok (kill_ok hokL) hokS.hd) hokS.tl
    · cases hrun
  | istore_n x =>
    obtain rfl : k = 1 := by simpa [lenOk] using hlen
    simp only [stpI] at hrun
    split at hrun
    · rename_i v r'
      cases hq : Nat.blt (x : Nat) vs.length with
      | false => rw [hq] at hrun; cases hrun
      | true =>
        rw [hq] at hrun
        have hlt : (x : Nat) < nL := by rw [← hL.2]; exact Nat.blt_eq.mp hq
        refine lv_istore_n hx hb hd rfl hL.1 hlt rfl (fun ls' hl' => ?_)
        exact ih _ _ _ _ _ _ hrun ad H locs ls' hH hcl hsl (LV.st1 (x := .int v) hL.2 hlt hl') (set_ok (kill_ok hokL) hokS.hd) hokS.tl
    · cases hrun
  | astore x =>
    obtain rfl : k = 2 := by simpa [lenOk] using hlen
    simp only [stpI] at hrun
    split at hrun
    · rename_i v r'
      cases hq : Nat.blt x vs.length with
      | false => rw [hq] at hrun; cases hrun
      | true =>
        rw [hq] at hrun
        have hlt : x < nL := by rw [← hL.2]; exact Nat.blt_eq.mp hq
        refine lv_astore hx hb hd hL.1 hlt rfl (fun ls' hl' => ?_)
        exact ih _ _ _ _ _ _ hrun ad H locs ls' hH hcl hsl (LV.st1 (x := .ref v) hL.2 hlt hl') (set_ok (kill_ok hokL) hokS.hd) hokS.tl
    · cases hrun
  | astore_n x =>
    obtain rfl : k = 1 := by simpa [lenOk] using hlen
    simp only [stpI] at hrun
    split at hrun
    · rename_i v r'
      cases hq : Nat.blt (x : Nat) vs.length with
      | false => rw [hq] at hrun; cases hrun
      | true =>
        rw [hq] at hrun
        have hlt : (x : Nat) < nL := by rw [← hL.2]; exact Nat.blt_eq.mp hq
        refine lv_astore_n hx hb hd rfl hL.1 hlt rfl (fun ls' hl' => ?_)
        exact ih _ _ _ _ _ _ hrun ad H locs ls' hH hcl hsl (LV.st1 (x := .ref v) hL.2 hlt hl') (set_ok (kill_ok hokL) hokS.hd) hokS.tl
    · cases hrun
  | lstore x =>
    obtain rfl : k = 2 := by simpa [lenOk] using hlen
    simp only [stpI] at hrun
    split at hrun
    · rename_i v r'
      cases hq : Nat.blt (x + 1) vs.length with
      | false => rw [hq] at hrun; cases hrun
      | true =>
        rw [hq] at hrun
        have hlt : x + 1 < nL := by rw [← hL.2]; exact Nat.blt_eq.mp hq
        refine lv_lstore hx hb hd hL.1 hlt rfl (fun ls' hl' => ?_)
        exact ih _ _ _ _ _ _ hrun ad H locs ls' hH hcl hsl (LV.st2 (x := .long v) hL.2 hlt hl') (set_ok (set_ok (kill_ok hokL) trivial) trivial) hokS.tl
    · cases hrun
  | lstore_n x =>
    obtain rfl : k = 1 := by simpa [lenOk] using hlen
    simp only [stpI] at hrun
    split at hrun
    · rename_i v r'
      cases hq : Nat.blt ((x : Nat) + 1) vs.length with
      | false => rw [hq] at hrun; cases hrun
      | true =>
        rw [hq] at hrun
        have hlt : (x : Nat) + 1 < nL := by rw [← hL.2]; exact Nat.blt_eq.mp hq
        refine lv_lstore_n hx hb hd rfl hL.1 hlt rfl (fun ls' hl' => ?_)
        exact ih _ _ _ _ _ _ hrun ad H locs ls' hH hcl hsl (LV.st2 (x := .long v) hL.2 hlt hl') (set_ok (set_ok (kill_ok hokL) trivial) trivial) hokS.tl
    · cases hrun
  | iinc x n0 =>
    obtain rfl : k = 3 := by simpa [lenOk] using hlen
    simp only [stpI] at hrun
    split at hrun
    · rename_i v hv
      have hlt : x < nL := by rw [← hL.2]; exact (List.getElem?_eq_some_iff.mp hv).1
      obtain ⟨kk, hkk⟩ := List.getElem?_of_mem (lvl_mem (ad := ad) (q := (x, Value.int v)) |>.mpr ⟨_, hv, (fun z => by cases z), rfl⟩)
      refine lv_iinc hx hb hd hL.1 hkk rfl hlt rfl (fun ls' hl' => ?_)
      exact ih _ _ _ _ _ _ hrun ad H locs ls' hH hcl hsl (LV.st1 (x := .int _) hL.2 hlt hl') (set_ok (kill_ok hokL) trivial) hokS
    · cases hrun
  | iadd =>
    obtain rfl : k = 1 := by simpa [lenOk] using hlen
    simp only [stpI] at hrun
    split at hrun
    · refine lv_iadd hx hb hd ?_
      exact ih _ _ _ _ _ _ hrun ad H locs ls hH hcl hsl hL hokL (hokS.tl.tl.cons trivial)
    · cases hrun
  | isub =>
    obtain rfl : k = 1 := by simpa [lenOk] using hlen
    simp only [stpI] at hrun
    split at hrun
    · refine lv_isub hx hb hd ?_
      exact ih _ _ _ _ _ _ hrun ad H locs ls hH hcl hsl hL hokL (hokS.tl.tl.cons trivial)
    · cases hrun
  | imul =>
    obtain rfl : k = 1 := by simpa [lenOk] using hlen
    simp only [stpI] at hrun
    split at hrun
    · refine lv_imul hx hb hd ?_
      exact ih _ _ _ _ _ _ hrun ad H locs ls hH hcl hsl hL hokL (hokS.tl.tl.cons trivial)
    · cases hrun
  | iand =>
    obtain rfl : k = 1 := by simpa [lenOk] using hlen
    simp only [stpI] at hrun
    split at hrun
    · refine lv_iand hx hb hd ?_
      exact ih _ _ _ _ _ _ hrun ad H locs ls hH hcl hsl hL hokL (hokS.tl.tl.cons trivial)
    · cases hrun
  | ior =>
    obtain rfl : k = 1 := by simpa [lenOk] using hlen
    simp only [stpI] at hrun
    split at hrun
    · refine lv_ior hx hb hd ?_
      exact ih _ _ _ _ _ _ hrun ad H locs ls hH hcl hsl hL hokL (hokS.tl.tl.cons trivial)
    · cases hrun
  | ixor =>
    obtain rfl : k = 1 := by simpa [lenOk] using hlen
    simp only [stpI] at hrun
    split at hrun
    · refine lv_ixor hx hb hd ?_
      exact ih _ _ _ _ _ _ hrun ad H locs ls hH hcl hsl hL hokL (hokS.tl.tl.cons trivial)
    · cases hrun
  | ishl =>
    obtain rfl : k = 1 := by simpa [lenOk] using hlen
    simp only [stpI] at hrun
    split at hrun
    · refine lv_ishl hx hb hd ?_
      exact ih _ _ _ _ _ _ hrun ad H locs ls hH hcl hsl hL hokL (hokS.tl.tl.cons trivial)
    · cases hrun
  | ishr =>
    obtain rfl : k = 1 := by simpa [lenOk] using hlen
    simp only [stpI] at hrun
    split at hrun
    · refine lv_ishr hx hb hd ?_
      exact ih _ _ _ _ _ _ hrun ad H locs ls hH hcl hsl hL hokL (hokS.tl.tl.cons trivial)
    · cases hrun
  | ladd =>
    obtain rfl : k = 1 := by simpa [lenOk] using hlen
    simp only [stpI] at hrun
    split at hrun
    · refine lv_ladd hx hb hd ?_
      exact ih _ _ _ _ _ _ hrun ad H locs ls hH hcl hsl hL hokL (hokS.tl.tl.cons trivial)
    · cases hrun
  | lmul =>
    obtain rfl : k = 1 := by simpa [lenOk] using hlen
    simp only [stpI] at hrun
    split at hrun
    · refine lv_lmul hx hb hd ?_
      exact ih _ _ _ _ _ _ hrun ad H locs ls hH hcl hsl hL hokL (hokS.tl.tl.cons trivial)
    · cases hrun
  | land =>
    obtain rfl : k = 1 := by simpa [lenOk] using hlen
    simp only [stpI] at hrun
    split at hrun
    · refine lv_land hx hb hd ?_
      exact ih _ _ _ _ _ _ hrun ad H locs ls hH hcl hsl hL hokL (hokS.tl.tl.cons trivial)
    · cases hrun
  | lor =>
    obtain rfl : k = 1 := by simpa [lenOk] using hlen
    simp only [stpI] at hrun
    split at hrun
    · refine lv_lor hx hb hd ?_
      exact ih _ _ _ _ _ _ hrun ad H locs ls hH hcl hsl hL hokL (hokS.tl.tl.cons trivial)
    · cases hrun
  | lxor =>
    obtain rfl : k = 1 := by simpa [lenOk] using hlen
    simp only [stpI] at hrun
    split at hrun
    · refine lv_lxor hx hb hd ?_
      exact ih _ _ _ _ _ _ hrun ad H locs ls hH hcl hsl hL hokL (hokS.tl.tl.cons trivial)
    · cases hrun
  | iushr =>
    obtain rfl : k = 1 := by simpa [lenOk] using hlen
    simp only [stpI] at hrun
    split at hrun
    · refine lv_iushr hx hb hd rfl ?_
      exact ih _ _ _ _ _ _ hrun ad H locs ls hH hcl hsl hL hokL (hokS.tl.tl.cons trivial)
    · cases hrun
  | lshl =>
    obtain rfl : k = 1 := by simpa [lenOk] using hlen
    simp only [stpI] at hrun
    split at hrun
    · refine lv_lshl hx hb hd rfl ?_
      exact ih _ _ _ _ _ _ hrun ad H locs ls hH hcl hsl hL hokL (hokS.tl.tl.cons trivial)
    · cases hrun
  | lushr =>
    obtain rfl : k = 1 := by simpa [lenOk] using hlen
    simp only [stpI] at hrun
    split at hrun
    · refine lv_lushr hx hb hd rfl ?_
      exact ih _ _ _ _ _ _ hrun ad H locs ls hH hcl hsl hL hokL (hokS.tl.tl.cons trivial)
    · cases hrun
  | idiv =>
    obtain rfl : k = 1 := by simpa [lenOk] using hlen
    simp only [stpI] at hrun
    split at hrun
    · split at hrun
      · cases hrun
      · rename_i hne
        refine lv_idiv hx hb hd hne ?_
        exact ih _ _ _ _ _ _ hrun ad H locs ls hH hcl hsl hL hokL (hokS.tl.tl.cons trivial)
    · cases hrun
  | irem =>
    obtain rfl : k = 1 := by simpa [lenOk] using hlen
    simp only [stpI] at hrun
    split at hrun
    · split at hrun
      · cases hrun
      · rename_i hne
        refine lv_irem hx hb hd hne ?_
        exact ih _ _ _ _ _ _ hrun ad H locs ls hH hcl hsl hL hokL (hokS.tl.tl.cons trivial)
    · cases hrun
  | ldiv =>
    obtain rfl : k = 1 := by simpa [lenOk] using hlen
    simp only [stpI] at hrun
    split at hrun
    · split at hrun
      · cases hrun
      · rename_i hne
        refine lv_ldiv hx hb hd hne ?_
        exact ih _ _ _ _ _ _ hrun ad H locs ls hH hcl hsl hL hokL (hokS.tl.tl.cons trivial)
    · cases hrun
  | lrem =>
    obtain rfl : k = 1 := by simpa [lenOk] using hlen
    simp only [stpI] at hrun
    split at hrun
    · split at hrun
      · cases hrun
      · rename_i hne
        refine lv_lrem hx hb hd hne ?_
        exact ih _ _ _ _ _ _ hrun ad H locs ls hH hcl hsl hL hokL (hokS.tl.tl.cons trivial)
    · cases hrun
  | lcmp =>
    obtain rfl : k = 1 := by simpa [lenOk] using hlen
    simp only [stpI] at hrun
    split at hrun
    · refine W.lcmp hx hb hd ?_
      exact ih _ _ _ _ _ _ hrun ad H locs ls hH hcl hsl hL hokL (hokS.tl.tl.cons trivial)
    · cases hrun
  | i2l =>
    obtain rfl : k = 1 := by simpa [lenOk] using hlen
    simp only [stpI] at hrun
    split at hrun
    · refine lv_i2l hx hb hd rfl ?_
      exact ih _ _ _ _ _ _ hrun ad H locs ls hH hcl hsl hL hokL (hokS.tl.cons trivial)
    · cases hrun
  | l2i =>
    obtain rfl : k = 1 := by simpa [lenOk] using hlen
    simp only [stpI] at hrun
    split at hrun
    · refine lv_l2i hx hb hd rfl ?_
      exact ih _ _ _ _ _ _ hrun ad H locs ls hH hcl hsl hL hokL (hokS.tl.cons trivial)
    · cases hrun
  | dup =>
    obtain rfl : k = 1 := by simpa [lenOk] using hlen
    simp only [stpI] at hrun
    split at hrun
    · refine lv_dup hx hb hd rfl ?_
      exact ih _ _ _ _ _ _ hrun ad H locs ls hH hcl hsl hL hokL (hokS.cons trivial)
    · refine lv_dup hx hb hd rfl ?_
      exact ih _ _ _ _ _ _ hrun ad H locs ls hH hcl hsl hL hokL (hokS.cons hokS.hd)
    · cases hrun
  | dup2 =>
    obtain rfl : k = 1 := by simpa [lenOk] using hlen
    simp only [stpI] at hrun
    split at hrun
    · refine lv_dup2_11 hx hb hd rfl rfl ?_
      exact ih _ _ _ _ _ _ hrun ad H locs ls hH hcl hsl hL hokL ((hokS.cons hokS.tl.hd).cons trivial)
    · cases hrun
  | goto off =>
    obtain rfl : k = 3 := by simpa [lenOk] using hlen
    simp only [stpI] at hrun
    obtain ⟨t, ht, hrun⟩ := jmp_some hrun
    refine lv_goto hx hb hd ht ?_
    exact ih _ _ _ _ _ _ hrun ad H locs ls hH hcl hsl hL hokL hokS
  | ifCond q off =>
    obtain rfl : k = 3 := by simpa [lenOk] using hlen
    simp only [stpI] at hrun
    split at hrun
    · cases q with
      | eq =>
        simp only at hrun
        cases ht : jtgt pc off with
        | none => rw [ht] at hrun; cases hrun
        | some t =>
          rw [ht] at hrun
          simp only at hrun
          split at hrun
          · rename_i hq
            refine lv_if_eq hx hb hd (jtgt_ok ht) (fun _ => ?_) (fun z => absurd hq z)
            exact ih _ _ _ _ _ _ hrun ad H locs ls hH hcl hsl hL hokL hokS.tl
          · rename_i hq
            refine lv_if_eq hx hb hd (jtgt_ok ht) (fun z => absurd z hq) (fun _ => ?_)
            exact ih _ _ _ _ _ _ hrun ad H locs ls hH hcl hsl hL hokL hokS.tl
      | ne =>
        simp only at hrun
        cases ht : jtgt pc off with
        | none => rw [ht] at hrun; cases hrun
        | some t =>
          rw [ht] at hrun
          simp only at hrun
          split at hrun
          · rename_i hq
            refine lv_if_ne hx hb hd (jtgt_ok ht) (fun z => absurd hq z) (fun _ => ?_)
            exact ih _ _ _ _ _ _ hrun ad H locs ls hH hcl hsl hL hokL hokS.tl
          · rename_i hq
            refine lv_if_ne hx hb hd (jtgt_ok ht) (fun _ => ?_) (fun z => absurd z hq)
            exact ih _ _ _ _ _ _ hrun ad H locs ls hH hcl hsl hL hokL hokS.tl
      | lt =>
        simp only at hrun
        cases ht : jtgt pc off with
        | none => rw [ht] at hrun; cases hrun
        | some t =>
          rw [ht] at hrun
          simp only at hrun
          split at hrun
          · rename_i hq
            refine lv_if_lt hx hb hd (jtgt_ok ht) (fun _ => ?_) (fun z => absurd hq z)
            exact ih _ _ _ _ _ _ hrun ad H locs ls hH hcl hsl hL hokL hokS.tl
          · rename_i hq
            refine lv_if_lt hx hb hd (jtgt_ok ht) (fun z => absurd z hq) (fun _ => ?_)
            exact ih _ _ _ _ _ _ hrun ad H locs ls hH hcl hsl hL hokL hokS.tl
      | ge =>
        simp only at hrun
        cases ht : jtgt pc off with
        | none => rw [ht] at hrun; cases hrun
        | some t =>
          rw [ht] at hrun
          simp only at hrun
          split at hrun
          · rename_i hq
            refine lv_if_ge hx hb hd (jtgt_ok ht) (fun _ => ?_) (fun z => absurd hq z)
            exact ih _ _ _ _ _ _ hrun ad H locs ls hH hcl hsl hL hokL hokS.tl
          · rename_i hq
            refine lv_if_ge hx hb hd (jtgt_ok ht) (fun z => absurd z hq) (fun _ => ?_)
            exact ih _ _ _ _ _ _ hrun ad H locs ls hH hcl hsl hL hokL hokS.tl
      | gt =>
        simp only at hrun
        cases ht : jtgt pc off with
        | none => rw [ht] at hrun; cases hrun
        | some t =>
          rw [ht] at hrun
          simp only at hrun
          split at hrun
          · rename_i hq
            refine lv_if_gt hx hb hd (jtgt_ok ht) (fun _ => ?_) (fun z => absurd hq z)
            exact ih _ _ _ _ _ _ hrun ad H locs ls hH hcl hsl hL hokL hokS.tl
          · rename_i hq
            refine lv_if_gt hx hb hd (jtgt_ok ht) (fun z => absurd z hq) (fun _ => ?_)
            exact ih _ _ _ _ _ _ hrun ad H locs ls hH hcl hsl hL hokL hokS.tl
      | le =>
        simp only at hrun
        cases ht : jtgt pc off with
        | none => rw [ht] at hrun; cases hrun
        | some t =>
          rw [ht] at hrun
          simp only at hrun
          split at hrun
          · rename_i hq
            refine lv_if_le hx hb hd (jtgt_ok ht) (fun _ => ?_) (fun z => absurd hq z)
            exact ih _ _ _ _ _ _ hrun ad H locs ls hH hcl hsl hL hokL hokS.tl
          · rename_i hq
            refine lv_if_le hx hb hd (jtgt_ok ht) (fun z => absurd z hq) (fun _ => ?_)
            exact ih _ _ _ _ _ _ hrun ad H locs ls hH hcl hsl hL hokL hokS.tl
    · cases hrun
  | if_icmp q off =>
    obtain rfl : k = 3 := by simpa [lenOk] using hlen
    simp only [stpI] at hrun
    split at hrun
    · cases q with
      | eq =>
        simp only at hrun
        cases ht : jtgt pc off with
        | none => rw [ht] at hrun; cases hrun
        | some t =>
          rw [ht] at hrun
          simp only at hrun
          split at hrun
          · rename_i hq
            refine lv_icmp_eq hx hb hd (jtgt_ok ht) (fun _ => ?_) (fun z => absurd hq z)
            exact ih _ _ _ _ _ _ hrun ad H locs ls hH hcl hsl hL hokL hokS.tl.tl
          · rename_i hq
            refine lv_icmp_eq hx hb hd (jtgt_ok ht) (fun z => absurd z hq) (fun _ => ?_)
            exact ih _ _ _ _ _ _ hrun ad H locs ls hH hcl hsl hL hokL hokS.tl.tl
      | ne =>
        simp only at hrun
        cases ht : jtgt pc off with
        | none => rw [ht] at hrun; cases hrun
        | some t =>
          rw [ht] at hrun
          simp only at hrun
          split at hrun
          · rename_i hq
            refine lv_icmp_ne hx hb hd (jtgt_ok ht) (fun z => absurd hq z) (fun _ => ?_)
            exact ih _ _ _ _ _ _ hrun ad H locs ls hH hcl hsl hL hokL hokS.tl.tl
          · rename_i hq
            refine lv_icmp_ne hx hb hd (jtgt_ok ht) (fun _ => ?_) (fun z => absurd z hq)
            exact ih _ _ _ _ _ _ hrun ad H locs ls hH hcl hsl hL hokL hokS.tl.tl
      | lt =>
        simp only at hrun
        cases ht : jtgt pc off with
        | none => rw [ht] at hrun; cases hrun
        | some t =>
          rw [ht] at hrun
          simp only at hrun
          split at hrun
          · rename_i hq
            refine lv_icmp_lt hx hb hd (jtgt_ok ht) (fun _ => ?_) (fun z => absurd hq z)
            exact ih _ _ _ _ _ _ hrun ad H locs ls hH hcl hsl hL hokL hokS.tl.tl
          · rename_i hq
            refine lv_icmp_lt hx hb hd (jtgt_ok ht) (fun z => absurd z hq) (fun _ => ?_)
            exact ih _ _ _ _ _ _ hrun ad H locs ls hH hcl hsl hL hokL hokS.tl.tl
      | ge =>
        simp only at hrun
        cases ht : jtgt pc off with
        | none => rw [ht] at hrun; cases hrun
        | some t =>
          rw [ht] at hrun
          simp only at hrun
          split at hrun
          · rename_i hq
            refine lv_icmp_ge hx hb hd (jtgt_ok ht) (fun _ => ?_) (fun z => absurd hq z)
            exact ih _ _ _ _ _ _ hrun ad H locs ls hH hcl hsl hL hokL hokS.tl.tl
          · rename_i hq
            refine lv_icmp_ge hx hb hd (jtgt_ok ht) (fun z => absurd z hq) (fun _ => ?_)
            exact ih _ _ _ _ _ _ hrun ad H locs ls hH hcl hsl hL hokL hokS.tl.tl
      | gt =>
        simp only at hrun
        cases ht : jtgt pc off with
        | none => rw [ht] at hrun; cases hrun
        | some t =>
          rw [ht] at hrun
          simp only at hrun
          split at hrun
          · rename_i hq
            refine lv_icmp_gt hx hb hd (jtgt_ok ht) (fun _ => ?_) (fun z => absurd hq z)
            exact ih _ _ _ _ _ _ hrun ad H locs ls hH hcl hsl hL hokL hokS.tl.tl
          · rename_i hq
            refine lv_icmp_gt hx hb hd (jtgt_ok ht) (fun z => absurd z hq) (fun _ => ?_)
            exact ih _ _ _ _ _ _ hrun ad H locs ls hH hcl hsl hL hokL hokS.tl.tl
      | le =>
        simp only at hrun
        cases ht : jtgt pc off with
        | none => rw [ht] at hrun; cases hrun
        | some t =>
          rw [ht] at hrun
          simp only at hrun
          split at hrun
          · rename_i hq
            refine lv_icmp_le hx hb hd (jtgt_ok ht) (fun _ => ?_) (fun z => absurd hq z)
            exact ih _ _ _ _ _ _ hrun ad H locs ls hH hcl hsl hL hokL hokS.tl.tl
          · rename_i hq
            refine lv_icmp_le hx hb hd (jtgt_ok ht) (fun z => absurd z hq) (fun _ => ?_)
            exact ih _ _ _ _ _ _ hrun ad H locs ls hH hcl hsl hL hokL hokS.tl.tl
    · cases hrun
  | tableswitch d lo hi0 offs =>
    simp only [stpI] at hrun
    split at hrun
    · rename_i x r'
      split at hrun
      · rename_i hg
        obtain ⟨hg1, hg2, hg3⟩ := hg
        rcases swk_some _ _ hrun with ⟨i, t, h1, h2, h3⟩ | ⟨h1, h3⟩
        · obtain ⟨tg, ht, hrun⟩ := jmp_some h3
          have hil : i < offs.size := by
            have := (List.getElem?_eq_some_iff.mp h1).1
            simpa using this
          have hxi : x.toInt = lo + i := by rw [h2]; exact Int32.toInt_ofInt_of_le (by omega) (by omega)
          refine lv_tableIn hx hb hd (by omega) (by omega) (off := t) ?_ ht ?_
          · rw [hxi, show (lo + (i : Int) - lo).toNat = i by omega, ← Array.getElem?_toList]; exact h1
          · exact ih _ _ _ _ _ _ hrun ad H locs ls hH hcl hsl hL hokL hokS.tl
        · obtain ⟨tg, ht, hrun⟩ := jmp_some h3
          refine lv_tableOut hx hb hd ?_ ht ?_
          · rcases Int.lt_or_le x.toInt lo with z | z
            · exact Or.inl z
            · right
              rcases Int.lt_or_le hi0 x.toInt with z2 | z2
              · exact z2
              · exfalso
                refine h1 (x.toInt - lo).toNat (by rw [Array.length_toList]; omega) ?_
                rw [show lo + ((x.toInt - lo).toNat : Int) = x.toInt by omega]
                exact (Int32.ofInt_toInt x).symm
          · exact ih _ _ _ _ _ _ hrun ad H locs ls hH hcl hsl hL hokL hokS.tl
      · cases hrun
    · cases hrun
  | getfield x =>
    obtain rfl : k = 3 := by simpa [lenOk] using hlen
    simp only [stpI] at hrun
    split at hrun
    · rename_i q r'
      cases hf0 : lkp x M.2.1 with
      | none => rw [hf0] at hrun; cases hrun
      | some cj =>
      obtain ⟨ci, j⟩ := cj
      rw [hf0] at hrun
      simp only at hrun
      obtain ⟨hci, hfo⟩ := hM.2.1 x ci j hf0
      split at hrun
      · rename_i hg
        split at hrun
        · rename_i hty
          have hv : ((List.range (nfd ci)).map (fvv ad h q ci))[j]? = some (.int (h.2.2.1 q j)) := by simp [hg.2.2, fvv, hty]
          rcases hfo with hf | ⟨host, hf⟩
          · refine va_get (C := clN ci) (T := clT ci) (N := nfd ci) hx hb hC.1 (hC.2.1 ci hci).1 hown hK.1 hP q (by rw [wof_get hg.2.1, cel_obj hg.1]) (clsL hci) j hg.2.2 hf (fun _ z => z) hv hd ?_
            exact ih _ _ _ _ _ _ hrun ad H locs ls hH hcl hsl hL hokL (hokS.tl.cons trivial)
          · refine va_getN (C := clN ci) (T := clT ci) (N := nfd ci) hx hb hC.1 (hC.2.1 ci hci).1 hown hK.1 hP q (by rw [wof_get hg.2.1, cel_obj hg.1]) (clsL hci) j hg.2.2 hf (fun _ z => z) hv hd ?_
            exact ih _ _ _ _ _ _ hrun ad H locs ls hH hcl hsl hL hokL (hokS.tl.cons trivial)
        · rename_i hty
          have hv : ((List.range (nfd ci)).map (fvv ad h q ci))[j]? = some (.int (h.2.2.1 q j)) := by simp [hg.2.2, fvv, hty]
          rcases hfo with hf | ⟨host, hf⟩
          · refine va_get (C := clN ci) (T := clT ci) (N := nfd ci) hx hb hC.1 (hC.2.1 ci hci).1 hown hK.1 hP q (by rw [wof_get hg.2.1, cel_obj hg.1]) (clsL hci) j hg.2.2 hf (fun _ z => z) hv hd ?_
            exact ih _ _ _ _ _ _ hrun ad H locs ls hH hcl hsl hL hokL (hokS.tl.cons trivial)
          · refine va_getN (C := clN ci) (T := clT ci) (N := nfd ci) hx hb hC.1 (hC.2.1 ci hci).1 hown hK.1 hP q (by rw [wof_get hg.2.1, cel_obj hg.1]) (clsL hci) j hg.2.2 hf (fun _ z => z) hv hd ?_
            exact ih _ _ _ _ _ _ hrun ad H locs ls hH hcl hsl hL hokL (hokS.tl.cons trivial)
        · rename_i hty
          have hv : ((List.range (nfd ci)).map (fvv ad h q ci))[j]? = some (.long (h.2.2.2.1 q j)) := by simp [hg.2.2, fvv, hty]
          rcases hfo with hf | ⟨host, hf⟩
          · refine va_get (C := clN ci) (T := clT ci) (N := nfd ci) hx hb hC.1 (hC.2.1 ci hci).1 hown hK.1 hP q (by rw [wof_get hg.2.1, cel_obj hg.1]) (clsL hci) j hg.2.2 hf (fun _ z => z) hv hd ?_
            exact ih _ _ _ _ _ _ hrun ad H locs ls hH hcl hsl hL hokL (hokS.tl.cons trivial)
          · refine va_getN (C := clN ci) (T := clT ci) (N := nfd ci) hx hb hC.1 (hC.2.1 ci hci).1 hown hK.1 hP q (by rw [wof_get hg.2.1, cel_obj hg.1]) (clsL hci) j hg.2.2 hf (fun _ z => z) hv hd ?_
            exact ih _ _ _ _ _ _ hrun ad H locs ls hH hcl hsl hL hokL (hokS.tl.cons trivial)
        · rename_i hn0 hn1 hn2
          split at hrun
          · rename_i hlt
            have hne : h.2.2.2.2 q j ≠ mNul := by omega
            have hv : ((List.range (nfd ci)).map (fvv ad h q ci))[j]? = some (.ref (ad (h.2.2.2.2 q j))) := by
              have e9 : fvv ad h q ci j = .ref (ad (h.2.2.2.2 q j)) := by
                unfold fvv
                split <;> first | contradiction | (rename_i z; first | exact absurd z hn0 | exact absurd z hn1 | exact absurd z hn2) | (unfold rvv; rw [if_neg hne])
              simp [hg.2.2, e9]
            rcases hfo with hf | ⟨host, hf⟩
            · refine va_get (C := clN ci) (T := clT ci) (N := nfd ci) hx hb hC.1 (hC.2.1 ci hci).1 hown hK.1 hP q (by rw [wof_get hg.2.1, cel_obj hg.1]) (clsL hci) j hg.2.2 hf (fun _ z => z) hv hd ?_
              exact ih _ _ _ _ _ _ hrun ad H locs ls hH hcl hsl hL hokL (hokS.tl.cons hlt)
            · refine va_getN (C := clN ci) (T := clT ci) (N := nfd ci) hx hb hC.1 (hC.2.1 ci hci).1 hown hK.1 hP q (by rw [wof_get hg.2.1, cel_obj hg.1]) (clsL hci) j hg.2.2 hf (fun _ z => z) hv hd ?_
              exact ih _ _ _ _ _ _ hrun ad H locs ls hH hcl hsl hL hokL (hokS.tl.cons hlt)
          · cases hrun
      · cases hrun
    · cases hrun
  | putfield x =>
    obtain rfl : k = 3 := by simpa [lenOk] using hlen
    simp only [stpI] at hrun
    split at hrun
    · rename_i v q r'
      cases hf0 : lkp x M.2.1 with
      | none => rw [hf0] at hrun; cases hrun
      | some cj =>
      obtain ⟨ci, j⟩ := cj
      rw [hf0] at hrun
      simp only at hrun
      have hci := (hM.2.1 x ci j hf0).1
      have hpf := hM.2.2.1 pc x _ ci j hi hf0
      split at hrun
      · rename_i hg
        have key : ftyc (ftyT ci j) = 0 ∨ ftyc (ftyT ci j) = 1 → narrow (ftyT ci j) (.int v) = .int v → fits (ftyT ci j) (.int v) = true → runN M n (pc + 3, cl, sl, vs, r', hI h q j v) = some (r, hF) → W p l e R s m args below meth c H locs cl sl (MQ below (Qm D aC A ad0 N0 r hF) args s M.2.2.2.2.2.1.1 M.2.2.2.2.2.1.2 A) (F0 m pc ls (List.map (mv ad) (.int v :: .ref q :: r'))) := by
          intro hty hn hfit hrun
          refine snd_put (h' := hI h q j v) hx hb hown hC hK hP hD hS hci hg hpf hd hn hfit ?_ (fun H1 locs1 hP1 hD1 hS1 => ?_)
          · refine wof_set rfl ?_ (fun q' hq' => cel_hI hq')
            rw [cel_obj (h := hI h q j v) hg.1]
            congr 2
            refine (map_set_range ?_ (fun i hne => ?_)).symm
            · unfold fvv
              rcases hty with z | z <;> rw [z] <;> (show Value.int (up2 h.2.2.1 q j v q j) = _; rw [up2_eq, up1_eq]; rfl)
            · refine fvv_ne (j := j) ?_ rfl rfl
              show up2 h.2.2.1 q j v q i = _
              rw [up2_eq, up1_ne hne]
          · exact ih _ _ _ _ _ _ hrun ad H1 locs1 ls ⟨hP1, hD1, hS1, hmx, hN0, had, hok⟩ hcl hsl hL hokL hokS.tl.tl
        split at hrun
        · rename_i hty
          have hint : ftyT ci j = .int := by
            revert hty; unfold ftyc; split <;> first | (intro _; assumption) | (intro z; cases z)
          exact key (Or.inl hty) (by rw [hint]; rfl) (by rw [hint]; rfl) hrun
        · rename_i hty
          have hbo : ftyT ci j = .boolean := by
            revert hty; unfold ftyc; split <;> first | (intro _; assumption) | (intro z; cases z)
          cases hq : isB v with
          | false => rw [hq] at hrun; cases hrun
          | true =>
            rw [hq] at hrun
            exact key (Or.inr hty) (by rw [hbo]; exact (isB_nar hq).1) (by rw [hbo]; exact (isB_nar hq).2.1) hrun
        · cases hrun
      · cases hrun
    · rename_i v q r'
      cases hf0 : lkp x M.2.1 with
      | none => rw [hf0] at hrun; cases hrun
      | some cj =>
      obtain ⟨ci, j⟩ := cj
      rw [hf0] at hrun
      simp only at hrun
      have hci := (hM.2.1 x ci j hf0).1
      have hpf := hM.2.2.1 pc x _ ci j hi hf0
      split at hrun
      · rename_i hg
        split at hrun
        · rename_i hty
          have hlo : ftyT ci j = .long := by
            revert hty; unfold ftyc; split <;> first | (intro _; assumption) | (intro z; cases z)
          refine snd_put (h' := hJ h q j v) hx hb hown hC hK hP hD hS hci hg hpf hd (by rw [hlo]; rfl) (by rw [hlo]; rfl) ?_ (fun H1 locs1 hP1 hD1 hS1 => ?_)
          · refine wof_set rfl ?_ (fun q' hq' => cel_hJ hq')
            rw [cel_obj (h := hJ h q j v) hg.1]
            congr 2
            refine (map_set_range ?_ (fun i hne => ?_)).symm
            · unfold fvv
              rw [hty]
              show Value.long (up2 h.2.2.2.1 q j v q j) = _
              rw [up2_eq, up1_eq]
              rfl
            · refine fvv_ne (j := j) rfl ?_ rfl
              show up2 h.2.2.2.1 q j v q i = _
              rw [up2_eq, up1_ne hne]
          · exact ih _ _ _ _ _ _ hrun ad H1 locs1 ls ⟨hP1, hD1, hS1, hmx, hN0, had, hok⟩ hcl hsl hL hokL hokS.tl.tl
        · cases hrun
      · cases hrun
    · rename_i v q r'
      cases hf0 : lkp x M.2.1 with
      | none => rw [hf0] at hrun; cases hrun
      | some cj =>
      obtain ⟨ci, j⟩ := cj
      rw [hf0] at hrun
      simp only at hrun
      have hci := (hM.2.1 x ci j hf0).1
      have hpf := hM.2.2.1 pc x _ ci j hi hf0
      split at hrun
      · rename_i hg
        have hvm : v ≠ mNul := Nat.ne_of_lt (Nat.lt_of_lt_of_le hg.2.2.2 hmx)
        split at hrun
        · rename_i hty
          have hre : narrow (ftyT ci j) (.ref (ad v)) = .ref (ad v) ∧ fits (ftyT ci j) (.ref (ad v)) = true := by
            revert hty
            exact fty_ref hci hg.2.2.1
          refine snd_put (h' := hR h q j v) hx hb hown hC hK hP hD hS hci ⟨hg.1, hg.2.1, hg.2.2.1⟩ hpf hd hre.1 hre.2 ?_ (fun H1 locs1 hP1 hD1 hS1 => ?_)
          · refine wof_set rfl ?_ (fun q' hq' => cel_hR hq')
            rw [cel_obj (h := hR h q j v) hg.1]
            congr 2
            refine (map_set_range ?_ (fun i hne => ?_)).symm
            · unfold fvv
              rw [hty]
              show rvv ad (up2 h.2.2.2.2 q j v q j) = _
              rw [up2_eq, up1_eq]
              unfold rvv
              rw [if_neg hvm]
              rfl
            · refine fvv_ne (j := j) rfl rfl ?_
              show up2 h.2.2.2.2 q j v q i = _
              rw [up2_eq, up1_ne hne]
          · exact ih _ _ _ _ _ _ hrun ad H1 locs1 ls ⟨hP1, hD1, hS1, hmx, hN0, had, hok.hR hg.2.2.2⟩ hcl hsl hL hokL hokS.tl.tl
        · cases hrun
      · cases hrun
    · cases hrun
  | iaload =>
    obtain rfl : k = 1 := by simpa [lenOk] using hlen
    simp only [stpI] at hrun
    split at hrun
    · rename_i i q r'
      split at hrun
      · rename_i hg
        cases hq : inb i (h.2.1 q).2 with
        | false => rw [hq] at hrun; cases hrun
        | true =>
          rw [hq] at hrun
          refine va_iald hx hb hK.1 hP q 0 (by rw [wof_get hg.2, cel_0 hg.1]) rfl (inb_in hq) hd ?_
          exact ih _ _ _ _ _ _ hrun ad H locs ls hH hcl hsl hL hokL (hokS.tl.tl.cons trivial)
      · cases hrun
    · cases hrun
  | baload =>
    obtain rfl : k = 1 := by simpa [lenOk] using hlen
    simp only [stpI] at hrun
    split at hrun
    · rename_i i q r'
      split at hrun
      · rename_i hg
        cases hq : inb i (h.2.1 q).2 with
        | false => rw [hq] at hrun; cases hrun
        | true =>
          rw [hq] at hrun
          refine va_zald hx hb hK.1 hP q 1 (by rw [wof_get hg.2, cel_1 hg.1]) rfl (inb_in hq) hd ?_
          exact ih _ _ _ _ _ _ hrun ad H locs ls hH hcl hsl hL hokL (hokS.tl.tl.cons trivial)
      · cases hrun
    · cases hrun
  | laload =>
    obtain rfl : k = 1 := by simpa [lenOk] using hlen
    simp only [stpI] at hrun
    split at hrun
    · rename_i i q r'
      split at hrun
      · rename_i hg
        cases hq : inb i (h.2.1 q).2 with
        | false => rw [hq] at hrun; cases hrun
        | true =>
          rw [hq] at hrun
          refine va_lald hx hb hK.1 hP q 2 (by rw [wof_get hg.2, cel_2 hg.1]) rfl (inb_in hq) hd ?_
          exact ih _ _ _ _ _ _ hrun ad H locs ls hH hcl hsl hL hokL (hokS.tl.tl.cons trivial)
      · cases hrun
    · cases hrun
  | aaload =>
    obtain rfl : k = 1 := by simpa [lenOk] using hlen
    simp only [stpI] at hrun
    split at hrun
    · rename_i i q r'
      split at hrun
      · rename_i hg
        cases hq : inb i (h.2.1 q).2 with
        | false => rw [hq] at hrun; cases hrun
        | true =>
          rw [hq] at hrun
          simp only [cond_true] at hrun
          split at hrun
          · rename_i hlt
            have hne : h.2.2.2.2 q i.toNatClampNeg ≠ mNul := by omega
            have hv : va_rf (rvo ad (h.2.2.2.2 q i.toNatClampNeg)) = .ref (ad (h.2.2.2.2 q i.toNatClampNeg)) := by unfold rvo; rw [if_neg hne]; rfl
            rcases hg.1 with hk | hk
            · refine va_aldq (C := RX2) hx hb hK.1 hP q 3 (by rw [wof_get hg.2, cel_3 hk]) rfl (inb_in hq) hd ?_
              rw [hv]
              exact ih _ _ _ _ _ _ hrun ad H locs ls hH hcl hsl hL hokL (hokS.tl.tl.cons hlt)
            · refine va_aldq (C := RX9) hx hb hK.1 hP q 4 (by rw [wof_get hg.2, cel_4 hk]) rfl (inb_in hq) hd ?_
              rw [hv]
              exact ih _ _ _ _ _ _ hrun ad H locs ls hH hcl hsl hL hokL (hokS.tl.tl.cons hlt)
          · cases hrun
      · cases hrun
    · cases hrun
  | iastore =>
    obtain rfl : k = 1 := by simpa [lenOk] using hlen
    simp only [stpI] at hrun
    split at hrun
    · rename_i v i q r'
      split at hrun
      · rename_i hg
        cases hq : inb i (h.2.1 q).2 with
        | false => rw [hq] at hrun; cases hrun
        | true =>
          rw [hq] at hrun
          skip
          have hset : (wof aC ad h).set q (ad q, .inl (aC 0, (h.2.1 q).2, .inl (upd (h.2.2.1 q) i.toNatClampNeg v))) = wof aC ad (hI h q i.toNatClampNeg v) := by
            refine wof_set rfl ?_ (fun q' hq' => cel_hI hq')
            rw [cel_0 (h := hI h q i.toNatClampNeg v) hg.1]
            show Sum.inl (aC 0, (h.2.1 q).2, Sum.inl (up2 h.2.2.1 q i.toNatClampNeg v q)) = _; rw [up2_eq]; rfl
          refine va_iast hx hb hK.1 hP hD hS q 0 (by rw [wof_get hg.2, cel_0 hg.1]) rfl (inb_in hq) hd (fun H1 locs1 hP1 hD1 hS1 => ?_)
          skip
          rw [hset] at hP1 hD1
          exact ih _ _ _ _ _ _ hrun ad H1 locs1 ls ⟨hP1, hD1, hS1, hmx, hN0, had, hok⟩ hcl hsl hL hokL hokS.tl.tl.tl
      · cases hrun
    · cases hrun
  | bastore =>
    obtain rfl : k = 1 := by simpa [lenOk] using hlen
    simp only [stpI] at hrun
    split at hrun
    · rename_i v i q r'
      split at hrun
      · rename_i hg
        cases hq : (inb i (h.2.1 q).2 && isB v) with
        | false => rw [hq] at hrun; cases hrun
        | true =>
          rw [hq] at hrun
          simp only [Bool.and_eq_true] at hq
          have hset : (wof aC ad h).set q (ad q, .inl (aC 1, (h.2.1 q).2, .inl (upd (h.2.2.1 q) i.toNatClampNeg v))) = wof aC ad (hI h q i.toNatClampNeg v) := by
            refine wof_set rfl ?_ (fun q' hq' => cel_hI hq')
            rw [cel_1 (h := hI h q i.toNatClampNeg v) hg.1]
            show Sum.inl (aC 1, (h.2.1 q).2, Sum.inl (up2 h.2.2.1 q i.toNatClampNeg v q)) = _; rw [up2_eq]; rfl
          refine va_zast hx hb hK.1 hP hD hS q 1 (by rw [wof_get hg.2, cel_1 hg.1]) rfl (inb_in hq.1) hd (fun H1 locs1 hP1 hD1 hS1 => ?_)
          rw [(isB_nar hq.2).2.2] at hP1 hD1
          rw [hset] at hP1 hD1
          exact ih _ _ _ _ _ _ hrun ad H1 locs1 ls ⟨hP1, hD1, hS1, hmx, hN0, had, hok⟩ hcl hsl hL hokL hokS.tl.tl.tl
      · cases hrun
    · cases hrun
  | lastore =>
    obtain rfl : k = 1 := by simpa [lenOk] using hlen
    simp only [stpI] at hrun
    split at hrun
    · rename_i v i q r'
      split at hrun
      · rename_i hg
        cases hq : inb i (h.2.1 q).2 with
        | false => rw [hq] at hrun; cases hrun
        | true =>
          rw [hq] at hrun
          skip
          have hset : (wof aC ad h).set q (ad q, .inl (aC 2, (h.2.1 q).2, .inr (.inl (vp_updL (h.2.2.2.1 q) i.toNatClampNeg v)))) = wof aC ad (hJ h q i.toNatClampNeg v) := by
            refine wof_set rfl ?_ (fun q' hq' => cel_hJ hq')
            rw [cel_2 (h := hJ h q i.toNatClampNeg v) hg.1]
            show Sum.inl (aC 2, (h.2.1 q).2, Sum.inr (Sum.inl (up2 h.2.2.2.1 q i.toNatClampNeg v q))) = _; rw [up2_eq]; rfl
          refine va_last hx hb hK.1 hP hD hS q 2 (by rw [wof_get hg.2, cel_2 hg.1]) rfl (inb_in hq) hd (fun H1 locs1 hP1 hD1 hS1 => ?_)
          skip
          rw [hset] at hP1 hD1
          exact ih _ _ _ _ _ _ hrun ad H1 locs1 ls ⟨hP1, hD1, hS1, hmx, hN0, had, hok⟩ hcl hsl hL hokL hokS.tl.tl.tl
      · cases hrun
    · cases hrun
  | aastore =>
    obtain rfl : k = 1 := by simpa [lenOk] using hlen
    simp only [stpI] at hrun
    split at hrun
    · rename_i v i q r'
      split at hrun
      · rename_i hg
        have hvm : v ≠ mNul := Nat.ne_of_lt (Nat.lt_of_lt_of_le hg.2.2 hmx)
        cases hq : inb i (h.2.1 q).2 with
        | false => rw [hq] at hrun; cases hrun
        | true =>
        rw [hq] at hrun
        rcases hg.1 with ⟨hk, hk2⟩ | ⟨hk, hk2⟩
        ·
          have hset : (wof aC ad h).set q (ad q, .inl (aC 3, (h.2.1 q).2, .inr (.inr (.inr (.inr (va_up (fun i => rvo ad (h.2.2.2.2 q i)) i.toNatClampNeg (some (ad v)))))))) = wof aC ad (hR h q i.toNatClampNeg v) := by
            refine wof_set rfl ?_ (fun q' hq' => cel_hR hq')
            rw [cel_3 (h := hR h q i.toNatClampNeg v) hk]
            congr 7
            funext i'
            show rvo ad (up2 h.2.2.2.2 q i.toNatClampNeg v q i') = va_up _ _ _ _
            rw [up2_eq]
            unfold va_up
            by_cases hz : i' = i.toNatClampNeg
            · rw [if_pos hz, hz, up1_eq]; unfold rvo; rw [if_neg hvm]
            · rw [if_neg hz, up1_ne hz]
          refine va_astq (r := (clN 2, clT 2, nfd 2)) hx hb hK.1 hP hD hS q 3 v 2 (by rw [wof_get hg.2.1, cel_3 hk]) rfl (by rw [wof_get hg.2.2, cel_obj (ci := 2) hk2]) (clsL (by decide)) (inb_in hq) hd (fun H1 locs1 hP1 hD1 hS1 => ?_)
          rw [hset] at hP1 hD1
          exact ih _ _ _ _ _ _ hrun ad H1 locs1 ls ⟨hP1, hD1, hS1, hmx, hN0, had, hok.hR hg.2.2⟩ hcl hsl hL hokL hokS.tl.tl.tl
        ·
          have hset : (wof aC ad h).set q (ad q, .inl (aC 4, (h.2.1 q).2, .inr (.inr (.inr (.inr (va_up (fun i => rvo ad (h.2.2.2.2 q i)) i.toNatClampNeg (some (ad v)))))))) = wof aC ad (hR h q i.toNatClampNeg v) := by
            refine wof_set rfl ?_ (fun q' hq' => cel_hR hq')
            rw [cel_4 (h := hR h q i.toNatClampNeg v) hk]
            congr 7
            funext i'
            show rvo ad (up2 h.2.2.2.2 q i.toNatClampNeg v q i') = va_up _ _ _ _
            rw [up2_eq]
            unfold va_up
            by_cases hz : i' = i.toNatClampNeg
            · rw [if_pos hz, hz, up1_eq]; unfold rvo; rw [if_neg hvm]
            · rw [if_neg hz, up1_ne hz]
          refine va_astq (r := (clN 9, clT 9, nfd 9)) hx hb hK.1 hP hD hS q 4 v 9 (by rw [wof_get hg.2.1, cel_4 hk]) rfl (by rw [wof_get hg.2.2, cel_obj (ci := 9) hk2]) (clsL (by decide)) (inb_in hq) hd (fun H1 locs1 hP1 hD1 hS1 => ?_)
          rw [hset] at hP1 hD1
          exact ih _ _ _ _ _ _ hrun ad H1 locs1 ls ⟨hP1, hD1, hS1, hmx, hN0, had, hok.hR hg.2.2⟩ hcl hsl hL hokL hokS.tl.tl.tl
      · cases hrun
    · cases hrun
  | arraylength =>
    obtain rfl : k = 1 := by simpa [lenOk] using hlen
    simp only [stpI] at hrun
    split at hrun
    · rename_i q r'
      split at hrun
      · rename_i hg
        have hlt : ∀ (k : Nat) (E : vp_A) (ty : FieldType), (wof aC ad h)[q]? = some (ad q, .inl (aC k, E)) → E.1 = (h.2.1 q).2 → (tyL aC)[k]? = some (aC k, ty) → W p l e R s m args below meth c H locs cl sl (MQ below (Qm D aC A ad0 N0 r hF) args s M.2.2.2.2.2.1.1 M.2.2.2.2.2.1.2 A) (F0 m pc ls (List.map (mv ad) (.ref q :: r'))) := by
          intro k E ty h1 h2 h3
          refine va_alen hx hb hK.1 hP q k h1 h3 (by rw [h2]) hd ?_
          exact ih _ _ _ _ _ _ hrun ad H locs ls hH hcl hsl hL hokL (hokS.tl.cons trivial)
        obtain ⟨hg1, hg2⟩ := hg
        rcases (show (h.2.1 q).1 = 0 ∨ (h.2.1 q).1 = 1 ∨ (h.2.1 q).1 = 2 ∨ (h.2.1 q).1 = 3 ∨ (h.2.1 q).1 = 4 by omega) with z | z | z | z | z
        · exact hlt 0 _ .int (by rw [wof_get hg2, cel_0 z]) rfl rfl
        · exact hlt 1 _ .boolean (by rw [wof_get hg2, cel_1 z]) rfl rfl
        · exact hlt 2 _ .long (by rw [wof_get hg2, cel_2 z]) rfl rfl
        · exact hlt 3 _ (.object RX2) (by rw [wof_get hg2, cel_3 z]) rfl rfl
        · exact hlt 4 _ (.object RX9) (by rw [wof_get hg2, cel_4 z]) rfl rfl
      · cases hrun
    · cases hrun
  | new x =>
    obtain rfl : k = 3 := by simpa [lenOk] using hlen
    simp only [stpI] at hrun
    cases hf0 : lkp x M.2.2.2.2.1 with
    | none => rw [hf0] at hrun; cases hrun
    | some ci =>
    rw [hf0] at hrun
    simp only at hrun
    obtain ⟨hci, hcl0⟩ := hM.2.2.2.2.2 x ci hf0
    split at hrun
    · rename_i hg
      obtain ⟨hin, hinst, hini⟩ := hC.2.1 ci hci
      refine va_new (C := clN ci) (T := clT ci) (N := nfd ci) (ci := ci) (fs := (List.range (nfd ci)).map (fun j => defaultValue (ftyT ci j))) hx hb hC.1 hin (ftyT ci) (clsT hci) hown hcl0 hinst hini hK.1 hP hD hS hA (clsL hci) (fun j hj => by simp [vp_V, hj]) (by rw [hRc]; exact hg.1) (by rw [hRs]; exact hg.2.1) hd (fun q H1 hP1 hD1 hS1 => ?_)
      have hset := wof_alc (aC := aC) (ad := ad) (kd := 10 + ci) (n := 0) (q := q) (E := .inr (ci, (List.range (nfd ci)).map (fun j => defaultValue (ftyT ci j)))) hok (by
        rw [cel_obj (ci := ci) (show ((alc h (10 + ci) 0).2.1 h.1).1 = 10 + ci from by show (up1 h.2.1 h.1 (10 + ci, 0) h.1).1 = _; rw [up1_eq])]
        congr 2
        apply List.map_congr_left
        intro j hj
        unfold fvv
        have e1 : (alc h (10 + ci) 0).2.2.1 h.1 j = 0 := by show up1 h.2.2.1 h.1 (fun _ => 0) h.1 j = 0; rw [up1_eq]
        have e2 : (alc h (10 + ci) 0).2.2.2.1 h.1 j = 0 := by show up1 h.2.2.2.1 h.1 (fun _ => 0) h.1 j = 0; rw [up1_eq]
        have e3 : (alc h (10 + ci) 0).2.2.2.2 h.1 j = mNul := by show up1 h.2.2.2.2 h.1 (fun _ => mNul) h.1 j = mNul; rw [up1_eq]
        rw [e1, e2, e3]
        exact fty_dflt hci (List.mem_range.mp hj))
      rw [hset] at hP1 hD1
      have hfr := ih _ _ _ _ _ _ hrun (up1 ad h.1 q) H1 locs ls ⟨hP1, hD1, hS1, hg.2.2, Nat.le_succ_of_le hN0, (fun p0 hp0 => by rw [up1_ne (by omega)]; exact had p0 hp0), hok.alc⟩ hg.1 hg.2.1 (hL.congr (fun p0 hp0 => up1_ne (by omega)) hokL) (hokL.up (Nat.le_succ _)) ((hokS.up (Nat.le_succ _)).cons (Nat.lt_succ_self _))
      rw [List.map_cons, mvs_congr (fun p0 (hp0 : p0 < h.1) => up1_ne (by omega)) hokS] at hfr
      have e9 : mv (up1 ad h.1 q) (.ref h.1) = .ref q := by show Value.ref (up1 ad h.1 q h.1) = _; rw [up1_eq]
      rw [e9] at hfr
      exact hfr
    · cases hrun
  | newarray ty =>
    obtain rfl : k = 2 := by simpa [lenOk] using hlen
    simp only [stpI] at hrun
    split at hrun
    · rename_i n0 r'
      split at hrun
      · rename_i hg
        split at hrun
        · refine va_newa (atype := .int) (ty := .int) (a0 := (n0.toNatClampNeg, .inl (fun _ => 0))) hx hb hC.2.2.1 rfl hK.1 hP hD hS hA (fun cA => rfl) hg.1 rfl ?_ (by rw [hRc]; exact hg.2.2.1) (by rw [hRs]; exact hg.2.2.2.1) hd (fun q cA H1 hK1 hP1 hD1 hS1 => ?_)
          · have := hg.2.1
            show n0.toNatClampNeg * 4 ≤ 536870912
            omega
          have hcA : cA = aC 0 := arr_uniq (i := 5) (j := 0) hK1 hK.1 rfl rfl
          subst hcA
          have hset := wof_alc (aC := aC) (ad := ad) (kd := 0) (n := n0.toNatClampNeg) (q := q) (E := .inl (aC 0, n0.toNatClampNeg, .inl (fun _ => 0))) hok (by
            rw [cel_0 (show ((alc h 0 n0.toNatClampNeg).2.1 h.1).1 = 0 from by show (up1 h.2.1 h.1 (0, n0.toNatClampNeg) h.1).1 = _; rw [up1_eq])]
            have e0 : (alc h 0 n0.toNatClampNeg).2.1 h.1 = (0, n0.toNatClampNeg) := by show up1 h.2.1 h.1 (0, n0.toNatClampNeg) h.1 = _; rw [up1_eq]
            have e1 : (alc h 0 n0.toNatClampNeg).2.2.1 h.1 = (fun _ => 0) := by show up1 h.2.2.1 h.1 (fun _ => 0) h.1 = _; rw [up1_eq]
            have e2 : (alc h 0 n0.toNatClampNeg).2.2.2.1 h.1 = (fun _ => 0) := by show up1 h.2.2.2.1 h.1 (fun _ => 0) h.1 = _; rw [up1_eq]
            simp only [e0, e1, e2])
          rw [hset] at hP1 hD1
          have hfr := ih _ _ _ _ _ _ hrun (up1 ad h.1 q) H1 locs ls ⟨hP1, hD1, hS1, hg.2.2.2.2, Nat.le_succ_of_le hN0, (fun p0 hp0 => by rw [up1_ne (by omega)]; exact had p0 hp0), hok.alc⟩ hg.2.2.1 hg.2.2.2.1 (hL.congr (fun p0 hp0 => up1_ne (by omega)) hokL) (hokL.up (Nat.le_succ _)) ((hokS.tl.up (Nat.le_succ _)).cons (Nat.lt_succ_self _))
          rw [List.map_cons, mvs_congr (fun p0 (hp0 : p0 < h.1) => up1_ne (by omega)) hokS.tl] at hfr
          have e9 : mv (up1 ad h.1 q) (.ref h.1) = .ref q := by show Value.ref (up1 ad h.1 q h.1) = _; rw [up1_eq]
          rw [e9] at hfr
          exact hfr
        · refine va_newa (atype := .boolean) (ty := .boolean) (a0 := (n0.toNatClampNeg, .inl (fun _ => 0))) hx hb hC.2.2.2.1 rfl hK.1 hP hD hS hA (fun cA => rfl) hg.1 rfl ?_ (by rw [hRc]; exact hg.2.2.1) (by rw [hRs]; exact hg.2.2.2.1) hd (fun q cA H1 hK1 hP1 hD1 hS1 => ?_)
          · have := hg.2.1
            show n0.toNatClampNeg * 1 ≤ 536870912
            omega
          have hcA : cA = aC 1 := arr_uniq (i := 5) (j := 1) hK1 hK.1 rfl rfl
          subst hcA
          have hset := wof_alc (aC := aC) (ad := ad) (kd := 1) (n := n0.toNatClampNeg) (q := q) (E := .inl (aC 1, n0.toNatClampNeg, .inl (fun _ => 0))) hok (by
            rw [cel_1 (show ((alc h 1 n0.toNatClampNeg).2.1 h.1).1 = 1 from by show (up1 h.2.1 h.1 (1, n0.toNatClampNeg) h.1).1 = _; rw [up1_eq])]
            have e0 : (alc h 1 n0.toNatClampNeg).2.1 h.1 = (1, n0.toNatClampNeg) := by show up1 h.2.1 h.1 (1, n0.toNatClampNeg) h.1 = _; rw [up1_eq]
            have e1 : (alc h 1 n0.toNatClampNeg).2.2.1 h.1 = (fun _ => 0) := by show up1 h.2.2.1 h.1 (fun _ => 0) h.1 = _; rw [up1_eq]
            have e2 : (alc h 1 n0.toNatClampNeg).2.2.2.1 h.1 = (fun _ => 0) := by show up1 h.2.2.2.1 h.1 (fun _ => 0) h.1 = _; rw [up1_eq]
            simp only [e0, e1, e2])
          rw [hset] at hP1 hD1
          have hfr := ih _ _ _ _ _ _ hrun (up1 ad h.1 q) H1 locs ls ⟨hP1, hD1, hS1, hg.2.2.2.2, Nat.le_succ_of_le hN0, (fun p0 hp0 => by rw [up1_ne (by omega)]; exact had p0 hp0), hok.alc⟩ hg.2.2.1 hg.2.2.2.1 (hL.congr (fun p0 hp0 => up1_ne (by omega)) hokL) (hokL.up (Nat.le_succ _)) ((hokS.tl.up (Nat.le_succ _)).cons (Nat.lt_succ_self _))
          rw [List.map_cons, mvs_congr (fun p0 (hp0 : p0 < h.1) => up1_ne (by omega)) hokS.tl] at hfr
          have e9 : mv (up1 ad h.1 q) (.ref h.1) = .ref q := by show Value.ref (up1 ad h.1 q h.1) = _; rw [up1_eq]
          rw [e9] at hfr
          exact hfr
        · refine va_newa (atype := .long) (ty := .long) (a0 := (n0.toNatClampNeg, .inr (.inl (fun _ => 0)))) hx hb hC.2.2.2.2 rfl hK.1 hP hD hS hA (fun cA => rfl) hg.1 rfl ?_ (by rw [hRc]; exact hg.2.2.1) (by rw [hRs]; exact hg.2.2.2.1) hd (fun q cA H1 hK1 hP1 hD1 hS1 => ?_)
          · have := hg.2.1
            show n0.toNatClampNeg * 8 ≤ 536870912
            omega
          have hcA : cA = aC 2 := arr_uniq (i := 5) (j := 2) hK1 hK.1 rfl rfl
          subst hcA
          have hset := wof_alc (aC := aC) (ad := ad) (kd := 2) (n := n0.toNatClampNeg) (q := q) (E := .inl (aC 2, n0.toNatClampNeg, .inr (.inl (fun _ => 0)))) hok (by
            rw [cel_2 (show ((alc h 2 n0.toNatClampNeg).2.1 h.1).1 = 2 from by show (up1 h.2.1 h.1 (2, n0.toNatClampNeg) h.1).1 = _; rw [up1_eq])]
            have e0 : (alc h 2 n0.toNatClampNeg).2.1 h.1 = (2, n0.toNatClampNeg) := by show up1 h.2.1 h.1 (2, n0.toNatClampNeg) h.1 = _; rw [up1_eq]
            have e1 : (alc h 2 n0.toNatClampNeg).2.2.1 h.1 = (fun _ => 0) := by show up1 h.2.2.1 h.1 (fun _ => 0) h.1 = _; rw [up1_eq]
            have e2 : (alc h 2 n0.toNatClampNeg).2.2.2.1 h.1 = (fun _ => 0) := by show up1 h.2.2.2.1 h.1 (fun _ => 0) h.1 = _; rw [up1_eq]
            simp only [e0, e1, e2])
          rw [hset] at hP1 hD1
          have hfr := ih _ _ _ _ _ _ hrun (up1 ad h.1 q) H1 locs ls ⟨hP1, hD1, hS1, hg.2.2.2.2, Nat.le_succ_of_le hN0, (fun p0 hp0 => by rw [up1_ne (by omega)]; exact had p0 hp0), hok.alc⟩ hg.2.2.1 hg.2.2.2.1 (hL.congr (fun p0 hp0 => up1_ne (by omega)) hokL) (hokL.up (Nat.le_succ _)) ((hokS.tl.up (Nat.le_succ _)).cons (Nat.lt_succ_self _))
          rw [List.map_cons, mvs_congr (fun p0 (hp0 : p0 < h.1) => up1_ne (by omega)) hokS.tl] at hfr
          have e9 : mv (up1 ad h.1 q) (.ref h.1) = .ref q := by show Value.ref (up1 ad h.1 q h.1) = _; rw [up1_eq]
          rw [e9] at hfr
          exact hfr
        · cases hrun
      · cases hrun
    · cases hrun
  | anewarray x =>
    obtain rfl : k = 3 := by simpa [lenOk] using hlen
    simp only [stpI] at hrun
    split at hrun
    · rename_i n0 r'
      cases hf0 : lkp x M.2.2.2.2.1 with
      | none => rw [hf0] at hrun; cases hrun
      | some ci =>
      rw [hf0] at hrun
      simp only at hrun
      obtain ⟨hci, hcl0⟩ := hM.2.2.2.2.2 x ci hf0
      split at hrun
      · rename_i hg
        rcases hg.2.2.2.2.2 with rfl | rfl
        ·
          refine va_newq (C := clN 2) hx hb hown hcl0 hK.2.2.1 hK.1 hP hD hS hA hg.1 rfl (by have := hg.2.1; omega) (by rw [hRc]; exact hg.2.2.1) (by rw [hRs]; exact hg.2.2.2.1) hd (fun q cA H1 hK1 hP1 hD1 hS1 => ?_)
          have hcA : cA = aC 3 := arr_uniq (i := 5) (j := 3) hK1 hK.1 rfl rfl
          subst hcA
          have hset := wof_alc (aC := aC) (ad := ad) (kd := 3) (n := n0.toNatClampNeg) (q := q) (E := .inl (aC 3, n0.toNatClampNeg, .inr (.inr (.inr (.inr (fun _ => none)))))) hok (by
            rw [cel_3 (show ((alc h 3 n0.toNatClampNeg).2.1 h.1).1 = 3 from by show (up1 h.2.1 h.1 (3, n0.toNatClampNeg) h.1).1 = _; rw [up1_eq])]
            have e0 : (alc h 3 n0.toNatClampNeg).2.1 h.1 = (3, n0.toNatClampNeg) := by show up1 h.2.1 h.1 (3, n0.toNatClampNeg) h.1 = _; rw [up1_eq]
            have e3 : (alc h 3 n0.toNatClampNeg).2.2.2.2 h.1 = (fun _ => mNul) := by show up1 h.2.2.2.2 h.1 (fun _ => mNul) h.1 = _; rw [up1_eq]
            simp only [e0, e3]
            congr 7)
          rw [hset] at hP1 hD1
          have hfr := ih _ _ _ _ _ _ hrun (up1 ad h.1 q) H1 locs ls ⟨hP1, hD1, hS1, hg.2.2.2.2.1, Nat.le_succ_of_le hN0, (fun p0 hp0 => by rw [up1_ne (by omega)]; exact had p0 hp0), hok.alc⟩ hg.2.2.1 hg.2.2.2.1 (hL.congr (fun p0 hp0 => up1_ne (by omega)) hokL) (hokL.up (Nat.le_succ _)) ((hokS.tl.up (Nat.le_succ _)).cons (Nat.lt_succ_self _))
          rw [List.map_cons, mvs_congr (fun p0 (hp0 : p0 < h.1) => up1_ne (by omega)) hokS.tl] at hfr
          have e9 : mv (up1 ad h.1 q) (.ref h.1) = .ref q := by show Value.ref (up1 ad h.1 q h.1) = _; rw [up1_eq]
          rw [e9] at hfr
          exact hfr
        ·
          refine va_newq (C := clN 9) hx hb hown hcl0 hK.2.2.2 hK.1 hP hD hS hA hg.1 rfl (by have := hg.2.1; omega) (by rw [hRc]; exact hg.2.2.1) (by rw [hRs]; exact hg.2.2.2.1) hd (fun q cA H1 hK1 hP1 hD1 hS1 => ?_)
          have hcA : cA = aC 4 := arr_uniq (i := 5) (j := 4) hK1 hK.1 rfl rfl
          subst hcA
          have hset := wof_alc (aC := aC) (ad := ad) (kd := 4) (n := n0.toNatClampNeg) (q := q) (E := .inl (aC 4, n0.toNatClampNeg, .inr (.inr (.inr (.inr (fun _ => none)))))) hok (by
            rw [cel_4 (show ((alc h 4 n0.toNatClampNeg).2.1 h.1).1 = 4 from by show (up1 h.2.1 h.1 (4, n0.toNatClampNeg) h.1).1 = _; rw [up1_eq])]
            have e0 : (alc h 4 n0.toNatClampNeg).2.1 h.1 = (4, n0.toNatClampNeg) := by show up1 h.2.1 h.1 (4, n0.toNatClampNeg) h.1 = _; rw [up1_eq]
            have e3 : (alc h 4 n0.toNatClampNeg).2.2.2.2 h.1 = (fun _ => mNul) := by show up1 h.2.2.2.2 h.1 (fun _ => mNul) h.1 = _; rw [up1_eq]
            simp only [e0, e3]
            congr 7)
          rw [hset] at hP1 hD1
          have hfr := ih _ _ _ _ _ _ hrun (up1 ad h.1 q) H1 locs ls ⟨hP1, hD1, hS1, hg.2.2.2.2.1, Nat.le_succ_of_le hN0, (fun p0 hp0 => by rw [up1_ne (by omega)]; exact had p0 hp0), hok.alc⟩ hg.2.2.1 hg.2.2.2.1 (hL.congr (fun p0 hp0 => up1_ne (by omega)) hokL) (hokL.up (Nat.le_succ _)) ((hokS.tl.up (Nat.le_succ _)).cons (Nat.lt_succ_self _))
          rw [List.map_cons, mvs_congr (fun p0 (hp0 : p0 < h.1) => up1_ne (by omega)) hokS.tl] at hfr
          have e9 : mv (up1 ad h.1 q) (.ref h.1) = .ref q := by show Value.ref (up1 ad h.1 q h.1) = _; rw [up1_eq]
          rw [e9] at hfr
          exact hfr
      · cases hrun
    · cases hrun
  | invokevirtual x =>
    obtain rfl : k = 3 := by simpa [lenOk] using hlen
    simp only [stpI] at hrun
    cases hf0 : lkp x M.2.2.2.1 with
    | none => rw [hf0] at hrun; cases hrun
    | some w =>
    obtain ⟨na, rc, mc, ms, f⟩ := w
    rw [hf0] at hrun
    simp only at hrun
    have hclk := hcal.1 pc x _ na rc mc ms f hi hf0
    split at hrun
    · rename_i q as hta
      split at hrun
      · rename_i hg
        split at hrun
        · rename_i r1 h1 hfr
          have hlen2 : ((st.take na).reverse).length = na := by simp; omega
          have hst : st.map (mv ad) = ((Value.ref q :: as).map (mv ad)).reverse ++ (st.drop na).map (mv ad) := by
            rw [← hta]; rw [← List.map_reverse, List.reverse_reverse, ← List.map_append, List.take_append_drop]
          rw [hst]
          refine hclk _ pc ls _ (Value.ref q :: as) h h1 r1 ad H locs cl sl (by rw [← hta]; exact hlen2) hfr hd (hL.1.1) ?_ ?_ ?_ hH ?_ ?_ ?_
          · rw [List.map_map, show ((fun v : Value => v.category) ∘ mv ad) = (fun v => v.category) from funext fun v => mv_cat]; exact hg.2.1
          · rw [hRc]; exact hg.2.2.1
          · rw [hRs]; exact hg.2.2.2.1
          · intro v hv
            rw [← hta] at hv
            exact hokS v (List.mem_of_mem_take (List.mem_reverse.mp hv))
          · intro ci hci; cases hci; exact ⟨q, as, rfl, hg.2.2.2.2.1, hg.2.2.2.2.2⟩
          · intro ad' H' locs' hH' had' hle hr1
            have hfin := ih _ _ _ _ _ _ hrun ad' H' locs' ls hH' hg.2.2.1 hg.2.2.2.1 (hL.congr had' hokL) (hokL.up hle) (fun v hv => by
              rcases List.mem_append.mp hv with z | z
              · cases r1 with
                | none => cases z
                | some v1 => rw [List.mem_singleton.mp z]; exact hr1 v1 rfl
              · exact okv.up hle (hokS v (List.mem_of_mem_drop z)))
            rw [List.map_append, mvs_congr had' (fun v hv => hokS v (List.mem_of_mem_drop hv))] at hfin
            exact hfin
        · cases hrun
      · cases hrun
    · cases hrun
  | invokespecial x =>
    obtain rfl : k = 3 := by simpa [lenOk] using hlen
    simp only [stpI] at hrun
    cases hf0 : lkp x M.2.2.2.1 with
    | none => rw [hf0] at hrun; cases hrun
    | some w =>
    obtain ⟨na, rc, mc, ms, f⟩ := w
    rw [hf0] at hrun
    simp only at hrun
    have hclk := hcal.2.1 pc x _ na rc mc ms f hi hf0
    split at hrun
    · rename_i q as hta
      split at hrun
      · rename_i hg
        split at hrun
        · rename_i r1 h1 hfr
          have hlen2 : ((st.take na).reverse).length = na := by simp; omega
          have hst : st.map (mv ad) = ((Value.ref q :: as).map (mv ad)).reverse ++ (st.drop na).map (mv ad) := by
            rw [← hta]; rw [← List.map_reverse, List.reverse_reverse, ← List.map_append, List.take_append_drop]
          rw [hst]
          refine hclk _ pc ls _ (Value.ref q :: as) h h1 r1 ad H locs cl sl (by rw [← hta]; exact hlen2) hfr hd (hL.1.1) ?_ ?_ ?_ hH ?_ ?_ ?_
          · rw [List.map_map, show ((fun v : Value => v.category) ∘ mv ad) = (fun v => v.category) from funext fun v => mv_cat]; exact hg.2.1
          · rw [hRc]; exact hg.2.2.1
          · rw [hRs]; exact hg.2.2.2
          · intro v hv
            rw [← hta] at hv
            exact hokS v (List.mem_of_mem_take (List.mem_reverse.mp hv))
          · intro ci hci; cases hci
          · intro ad' H' locs' hH' had' hle hr1
            have hfin := ih _ _ _ _ _ _ hrun ad' H' locs' ls hH' hg.2.2.1 hg.2.2.2 (hL.congr had' hokL) (hokL.up hle) (fun v hv => by
              rcases List.mem_append.mp hv with z | z
              · cases r1 with
                | none => cases z
                | some v1 => rw [List.mem_singleton.mp z]; exact hr1 v1 rfl
              · exact okv.up hle (hokS v (List.mem_of_mem_drop z)))
            rw [List.map_append, mvs_congr had' (fun v hv => hokS v (List.mem_of_mem_drop hv))] at hfin
            exact hfin
        · cases hrun
      · cases hrun
    · cases hrun
  | invokestatic x =>
    obtain rfl : k = 3 := by simpa [lenOk] using hlen
    simp only [stpI] at hrun
    cases hf0 : lkp x M.2.2.2.1 with
    | none => rw [hf0] at hrun; cases hrun
    | some w =>
    obtain ⟨na, rc, mc, ms, f⟩ := w
    rw [hf0] at hrun
    simp only at hrun
    have hclk := hcal.2.2 pc x _ na rc mc ms f hi hf0
    split at hrun
    · rename_i hg
      split at hrun
      · rename_i r1 h1 hfr
        have hlen2 : ((st.take na).reverse).length = na := by simp; omega
        have hst : st.map (mv ad) = (((st.take na).reverse).map (mv ad)).reverse ++ (st.drop na).map (mv ad) := by
          rw [← List.map_reverse, List.reverse_reverse, ← List.map_append, List.take_append_drop]
        rw [hst]
        refine hclk _ pc ls _ ((st.take na).reverse) h h1 r1 ad H locs cl sl (by exact hlen2) hfr hd (hL.1.1) ?_ ?_ ?_ hH ?_ ?_ ?_
        · rw [List.map_map, show ((fun v : Value => v.category) ∘ mv ad) = (fun v => v.category) from funext fun v => mv_cat]; exact hg.2.1
        · rw [hRc]; exact hg.2.2.1
        · rw [hRs]; exact hg.2.2.2
        · intro v hv
          skip
          exact hokS v (List.mem_of_mem_take (List.mem_reverse.mp hv))
        · intro ci hci; cases hci
        · intro ad' H' locs' hH' had' hle hr1
          have hfin := ih _ _ _ _ _ _ hrun ad' H' locs' ls hH' hg.2.2.1 hg.2.2.2 (hL.congr had' hokL) (hokL.up hle) (fun v hv => by
            rcases List.mem_append.mp hv with z | z
            · cases r1 with
              | none => cases z
              | some v1 => rw [List.mem_singleton.mp z]; exact hr1 v1 rfl
            · exact okv.up hle (hokS v (List.mem_of_mem_drop z)))
          rw [List.map_append, mvs_congr had' (fun v hv => hokS v (List.mem_of_mem_drop hv))] at hfin
          exact hfin
      · cases hrun
    · cases hrun
  | ireturn =>
    obtain rfl : k = 1 := by simpa [lenOk] using hlen
    simp only [stpI] at hrun
    split at hrun
    · rename_i v
      split at hrun
      · rename_i hrk
        cases hrun
        have hr' : meth.sig.returnType = some .int := by rw [hrk] at hret; exact hret
        refine W.widen hcl hsl ?_
        exact W.iret hx hb hr' (fun t ht hW => ⟨⟨ad, rfl, by rw [ht]; exact hP, hD, hmx, hN0, had, hok, (fun w hw => by cases hw; trivial)⟩, hS.F ht⟩) hS.2.2 hd hlocks
      · rename_i hrk
        have hr' : meth.sig.returnType = some .boolean := by rw [hrk] at hret; exact hret
        cases hq : isB v with
        | false => rw [hq] at hrun; cases hrun
        | true =>
          rw [hq] at hrun
          cases hrun
          refine W.widen hcl hsl ?_
          exact W.zret hx hb hr' (isB_nar hq).1 (fun t ht hW => ⟨⟨ad, rfl, by rw [ht]; exact hP, hD, hmx, hN0, had, hok, (fun w hw => by cases hw; trivial)⟩, hS.F ht⟩) hS.2.2 hd hlocks
      · cases hrun
    · cases hrun
  | lreturn =>
    obtain rfl : k = 1 := by simpa [lenOk] using hlen
    simp only [stpI] at hrun
    split at hrun
    · rename_i v
      split at hrun
      · rename_i hrk
        cases hrun
        have hr' : meth.sig.returnType = some .long := by rw [hrk] at hret; exact hret
        refine W.widen hcl hsl ?_
        exact W.lret hx hb hr' (fun t ht hW => ⟨⟨ad, rfl, by rw [ht]; exact hP, hD, hmx, hN0, had, hok, (fun w hw => by cases hw; trivial)⟩, hS.F ht⟩) hS.2.2 hd hlocks
      · cases hrun
    · cases hrun
  | areturn =>
    obtain rfl : k = 1 := by simpa [lenOk] using hlen
    simp only [stpI] at hrun
    split at hrun
    · rename_i v
      split at hrun
      · rename_i hrk
        cases hrun
        obtain ⟨nm, hr'⟩ : ∃ nm, meth.sig.returnType = some (.object nm) := by rw [hrk] at hret; exact hret
        refine W.widen hcl hsl ?_
        exact W.aret hx hb hr' (Or.inl ⟨nm, rfl⟩) (Or.inr ⟨ad v, rfl⟩) (fun t ht hW => ⟨⟨ad, rfl, by rw [ht]; exact hP, hD, hmx, hN0, had, hok, (fun w hw => by cases hw; exact hokS.hd)⟩, hS.F ht⟩) hS.2.2 hd hlocks
      · cases hrun
    · cases hrun
  | return_ =>
    obtain rfl : k = 1 := by simpa [lenOk] using hlen
    simp only [stpI] at hrun
    split at hrun
    · split at hrun
      · rename_i hrk
        cases hrun
        have hr' : meth.sig.returnType = none := by rw [hrk] at hret; exact hret
        refine W.widen hcl hsl ?_
        exact W.vret hx hb hr' (fun t ht hW => ⟨⟨ad, rfl, by rw [ht]; exact hP, hD, hmx, hN0, had, hok, (fun w hw => by cases hw)⟩, hS.F ht⟩) hS.2.2 hd hlocks
      · cases hrun
    · cases hrun
  | _ => simp only [stpI] at hrun; cases hrun
end SND
end
