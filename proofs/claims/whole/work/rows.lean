section
-- ===== PART A: goes FIRST, ahead of the names: the tables' words, and 'selects' of the private methods out of them =====
/-- a private method of a class that the tables say can be made, by its rows of tables_1 -/
def lw_okq (q : MethodName × Nat) : Prop := (q.1.cls ≠ "java/lang/invoke/MethodHandle" ∧ q.1.cls ≠ "java/lang/invoke/VarHandle") ∧ Cond.instantiable q.1.cls q.2 ∈ tables_1 ∧ Cond.privateMethod q.1 ∈ tables_1 ∧ Cond.instanceMethod q.1 ∈ tables_1
theorem lw_p0 : lw_okq (⟨"SortUtility$Reader", "hasMore", "()Z"⟩, 5) := ⟨⟨by decide +kernel, by decide +kernel⟩, List.mem_of_getElem? (i := 213) (by decide +kernel), List.mem_of_getElem? (i := 245) (by decide +kernel), List.mem_of_getElem? (i := 246) (by decide +kernel)⟩
theorem lw_p1 : lw_okq (⟨"SortUtility$Reader", "nextSign", "()I"⟩, 5) := ⟨⟨by decide +kernel, by decide +kernel⟩, List.mem_of_getElem? (i := 213) (by decide +kernel), List.mem_of_getElem? (i := 249) (by decide +kernel), List.mem_of_getElem? (i := 250) (by decide +kernel)⟩
theorem lw_p2 : lw_okq (⟨"SortUtility$Reader", "readWord", "()LSortUtility$Word;"⟩, 5) := ⟨⟨by decide +kernel, by decide +kernel⟩, List.mem_of_getElem? (i := 213) (by decide +kernel), List.mem_of_getElem? (i := 253) (by decide +kernel), List.mem_of_getElem? (i := 254) (by decide +kernel)⟩
theorem lw_p3 : lw_okq (⟨"SortUtility$Reader", "spells", "(Ljava/lang/String;I)Z"⟩, 5) := ⟨⟨by decide +kernel, by decide +kernel⟩, List.mem_of_getElem? (i := 213) (by decide +kernel), List.mem_of_getElem? (i := 262) (by decide +kernel), List.mem_of_getElem? (i := 263) (by decide +kernel)⟩
theorem lw_p4 : lw_okq (⟨"java/lang/Throwable", "fillInStackTrace", "(I)Ljava/lang/Throwable;"⟩, 6) := ⟨⟨by decide +kernel, by decide +kernel⟩, List.mem_of_getElem? (i := 351) (by decide +kernel), List.mem_of_getElem? (i := 349) (by decide +kernel), List.mem_of_getElem? (i := 350) (by decide +kernel)⟩
theorem lw_p5 : lw_okq (⟨"SortUtility$Reader", "readSaid", "(LSortUtility$Word;)V"⟩, 5) := ⟨⟨by decide +kernel, by decide +kernel⟩, List.mem_of_getElem? (i := 213) (by decide +kernel), List.mem_of_getElem? (i := 380) (by decide +kernel), List.mem_of_getElem? (i := 381) (by decide +kernel)⟩
theorem lw_p6 : lw_okq (⟨"SortUtility$Reader", "readKeys", "()V"⟩, 5) := ⟨⟨by decide +kernel, by decide +kernel⟩, List.mem_of_getElem? (i := 213) (by decide +kernel), List.mem_of_getElem? (i := 392) (by decide +kernel), List.mem_of_getElem? (i := 393) (by decide +kernel)⟩
theorem lw_p7 : lw_okq (⟨"SortUtility$Reader", "readField", "(I)LSortUtility$Part;"⟩, 5) := ⟨⟨by decide +kernel, by decide +kernel⟩, List.mem_of_getElem? (i := 213) (by decide +kernel), List.mem_of_getElem? (i := 396) (by decide +kernel), List.mem_of_getElem? (i := 397) (by decide +kernel)⟩
theorem lw_p8 : lw_okq (⟨"SortUtility$Reader", "readNumber", "(II)I"⟩, 5) := ⟨⟨by decide +kernel, by decide +kernel⟩, List.mem_of_getElem? (i := 213) (by decide +kernel), List.mem_of_getElem? (i := 400) (by decide +kernel), List.mem_of_getElem? (i := 401) (by decide +kernel)⟩
theorem lw_p9 : lw_okq (⟨"SortUtility$Reader", "take", "(Ljava/lang/String;)I"⟩, 5) := ⟨⟨by decide +kernel, by decide +kernel⟩, List.mem_of_getElem? (i := 213) (by decide +kernel), List.mem_of_getElem? (i := 409) (by decide +kernel), List.mem_of_getElem? (i := 410) (by decide +kernel)⟩
theorem lw_p10 : lw_okq (⟨"java/util/ArrayList", "add", "(Ljava/lang/Object;[Ljava/lang/Object;I)V"⟩, 3) := ⟨⟨by decide +kernel, by decide +kernel⟩, List.mem_of_getElem? (i := 44) (by decide +kernel), List.mem_of_getElem? (i := 461) (by decide +kernel), List.mem_of_getElem? (i := 462) (by decide +kernel)⟩
theorem lw_p11 : lw_okq (⟨"java/util/ArrayList", "grow", "()[Ljava/lang/Object;"⟩, 3) := ⟨⟨by decide +kernel, by decide +kernel⟩, List.mem_of_getElem? (i := 44) (by decide +kernel), List.mem_of_getElem? (i := 465) (by decide +kernel), List.mem_of_getElem? (i := 466) (by decide +kernel)⟩
theorem lw_p12 : lw_okq (⟨"java/util/ArrayList", "grow", "(I)[Ljava/lang/Object;"⟩, 3) := ⟨⟨by decide +kernel, by decide +kernel⟩, List.mem_of_getElem? (i := 44) (by decide +kernel), List.mem_of_getElem? (i := 469) (by decide +kernel), List.mem_of_getElem? (i := 470) (by decide +kernel)⟩
theorem lw_p13 : lw_okq (⟨"SortUtility$Reader", "readTests", "()V"⟩, 5) := ⟨⟨by decide +kernel, by decide +kernel⟩, List.mem_of_getElem? (i := 213) (by decide +kernel), List.mem_of_getElem? (i := 519) (by decide +kernel), List.mem_of_getElem? (i := 520) (by decide +kernel)⟩
theorem lw_p14 : lw_okq (⟨"SortUtility$Reader", "readText", "()LSortUtility$Part;"⟩, 5) := ⟨⟨by decide +kernel, by decide +kernel⟩, List.mem_of_getElem? (i := 213) (by decide +kernel), List.mem_of_getElem? (i := 524) (by decide +kernel), List.mem_of_getElem? (i := 525) (by decide +kernel)⟩
theorem lw_p15 : lw_okq (⟨"SortUtility$Reader", "readSums", "()V"⟩, 5) := ⟨⟨by decide +kernel, by decide +kernel⟩, List.mem_of_getElem? (i := 213) (by decide +kernel), List.mem_of_getElem? (i := 558) (by decide +kernel), List.mem_of_getElem? (i := 559) (by decide +kernel)⟩
def lw_privs_1 : List (MethodName × Nat) := [(⟨"SortUtility$Reader", "hasMore", "()Z"⟩, 5), (⟨"SortUtility$Reader", "nextSign", "()I"⟩, 5), (⟨"SortUtility$Reader", "readWord", "()LSortUtility$Word;"⟩, 5), (⟨"SortUtility$Reader", "spells", "(Ljava/lang/String;I)Z"⟩, 5), (⟨"java/lang/Throwable", "fillInStackTrace", "(I)Ljava/lang/Throwable;"⟩, 6), (⟨"SortUtility$Reader", "readSaid", "(LSortUtility$Word;)V"⟩, 5), (⟨"SortUtility$Reader", "readKeys", "()V"⟩, 5), (⟨"SortUtility$Reader", "readField", "(I)LSortUtility$Part;"⟩, 5), (⟨"SortUtility$Reader", "readNumber", "(II)I"⟩, 5), (⟨"SortUtility$Reader", "take", "(Ljava/lang/String;)I"⟩, 5), (⟨"java/util/ArrayList", "add", "(Ljava/lang/Object;[Ljava/lang/Object;I)V"⟩, 3), (⟨"java/util/ArrayList", "grow", "()[Ljava/lang/Object;"⟩, 3), (⟨"java/util/ArrayList", "grow", "(I)[Ljava/lang/Object;"⟩, 3), (⟨"SortUtility$Reader", "readTests", "()V"⟩, 5), (⟨"SortUtility$Reader", "readText", "()LSortUtility$Part;"⟩, 5), (⟨"SortUtility$Reader", "readSums", "()V"⟩, 5)]
theorem lw_r1 : ∀ q ∈ lw_privs_1, lw_okq q := List.forall_mem_cons.mpr ⟨lw_p0, List.forall_mem_cons.mpr ⟨lw_p1, List.forall_mem_cons.mpr ⟨lw_p2, List.forall_mem_cons.mpr ⟨lw_p3, List.forall_mem_cons.mpr ⟨lw_p4, List.forall_mem_cons.mpr ⟨lw_p5, List.forall_mem_cons.mpr ⟨lw_p6, List.forall_mem_cons.mpr ⟨lw_p7, List.forall_mem_cons.mpr ⟨lw_p8, List.forall_mem_cons.mpr ⟨lw_p9, List.forall_mem_cons.mpr ⟨lw_p10, List.forall_mem_cons.mpr ⟨lw_p11, List.forall_mem_cons.mpr ⟨lw_p12, List.forall_mem_cons.mpr ⟨lw_p13, List.forall_mem_cons.mpr ⟨lw_p14, List.forall_mem_cons.mpr ⟨lw_p15, fun _ h => absurd h List.not_mem_nil⟩⟩⟩⟩⟩⟩⟩⟩⟩⟩⟩⟩⟩⟩⟩⟩
theorem lw_p16 : lw_okq (⟨"SortUtility$Reader", "readPieces", "()V"⟩, 5) := ⟨⟨by decide +kernel, by decide +kernel⟩, List.mem_of_getElem? (i := 213) (by decide +kernel), List.mem_of_getElem? (i := 562) (by decide +kernel), List.mem_of_getElem? (i := 563) (by decide +kernel)⟩
theorem lw_p17 : lw_okq (⟨"SortUtility$Reader", "readBlanks", "()LSortUtility$Part;"⟩, 5) := ⟨⟨by decide +kernel, by decide +kernel⟩, List.mem_of_getElem? (i := 213) (by decide +kernel), List.mem_of_getElem? (i := 566) (by decide +kernel), List.mem_of_getElem? (i := 567) (by decide +kernel)⟩
theorem lw_p18 : lw_okq (⟨"SortUtility", "pickRecords", "()V"⟩, 15) := ⟨⟨by decide +kernel, by decide +kernel⟩, List.mem_of_getElem? (i := 30) (by decide +kernel), List.mem_of_getElem? (i := 614) (by decide +kernel), List.mem_of_getElem? (i := 615) (by decide +kernel)⟩
theorem lw_p19 : lw_okq (⟨"SortUtility", "insertSorted", "(LSortUtility$Row;)V"⟩, 15) := ⟨⟨by decide +kernel, by decide +kernel⟩, List.mem_of_getElem? (i := 30) (by decide +kernel), List.mem_of_getElem? (i := 653) (by decide +kernel), List.mem_of_getElem? (i := 654) (by decide +kernel)⟩
theorem lw_p20 : lw_okq (⟨"java/util/ArrayList", "rangeCheckForAdd", "(I)V"⟩, 3) := ⟨⟨by decide +kernel, by decide +kernel⟩, List.mem_of_getElem? (i := 44) (by decide +kernel), List.mem_of_getElem? (i := 669) (by decide +kernel), List.mem_of_getElem? (i := 670) (by decide +kernel)⟩
theorem lw_p21 : lw_okq (⟨"SortUtility", "refuse", "(LSortUtility$Row;)V"⟩, 15) := ⟨⟨by decide +kernel, by decide +kernel⟩, List.mem_of_getElem? (i := 30) (by decide +kernel), List.mem_of_getElem? (i := 674) (by decide +kernel), List.mem_of_getElem? (i := 675) (by decide +kernel)⟩
theorem lw_p22 : lw_okq (⟨"SortUtility", "sumAndDeliver", "()V"⟩, 15) := ⟨⟨by decide +kernel, by decide +kernel⟩, List.mem_of_getElem? (i := 30) (by decide +kernel), List.mem_of_getElem? (i := 683) (by decide +kernel), List.mem_of_getElem? (i := 684) (by decide +kernel)⟩
theorem lw_p23 : lw_okq (⟨"SortUtility", "heldTakesUp", "(LSortUtility$Row;)Z"⟩, 15) := ⟨⟨by decide +kernel, by decide +kernel⟩, List.mem_of_getElem? (i := 30) (by decide +kernel), List.mem_of_getElem? (i := 687) (by decide +kernel), List.mem_of_getElem? (i := 688) (by decide +kernel)⟩
theorem lw_p24 : lw_okq (⟨"SortUtility", "sumsHavePlace", "(LSortUtility$Row;)Z"⟩, 15) := ⟨⟨by decide +kernel, by decide +kernel⟩, List.mem_of_getElem? (i := 30) (by decide +kernel), List.mem_of_getElem? (i := 692) (by decide +kernel), List.mem_of_getElem? (i := 693) (by decide +kernel)⟩
theorem lw_p25 : lw_okq (⟨"SortUtility", "deliverHeld", "()V"⟩, 15) := ⟨⟨by decide +kernel, by decide +kernel⟩, List.mem_of_getElem? (i := 30) (by decide +kernel), List.mem_of_getElem? (i := 718) (by decide +kernel), List.mem_of_getElem? (i := 719) (by decide +kernel)⟩
theorem lw_p26 : lw_okq (⟨"SortUtility", "layOutHeld", "(LSortUtility$Row;)V"⟩, 15) := ⟨⟨by decide +kernel, by decide +kernel⟩, List.mem_of_getElem? (i := 30) (by decide +kernel), List.mem_of_getElem? (i := 727) (by decide +kernel), List.mem_of_getElem? (i := 728) (by decide +kernel)⟩
theorem lw_p27 : lw_okq (⟨"SortUtility", "outputRow", "(II)LSortUtility$Row;"⟩, 15) := ⟨⟨by decide +kernel, by decide +kernel⟩, List.mem_of_getElem? (i := 30) (by decide +kernel), List.mem_of_getElem? (i := 740) (by decide +kernel), List.mem_of_getElem? (i := 741) (by decide +kernel)⟩
theorem lw_p28 : lw_okq (⟨"SortUtility", "outputRows", "(I)LSortUtility$Rows;"⟩, 15) := ⟨⟨by decide +kernel, by decide +kernel⟩, List.mem_of_getElem? (i := 30) (by decide +kernel), List.mem_of_getElem? (i := 744) (by decide +kernel), List.mem_of_getElem? (i := 745) (by decide +kernel)⟩
theorem lw_p29 : lw_okq (⟨"SortUtility", "longestOf", "(I)I"⟩, 15) := ⟨⟨by decide +kernel, by decide +kernel⟩, List.mem_of_getElem? (i := 30) (by decide +kernel), List.mem_of_getElem? (i := 756) (by decide +kernel), List.mem_of_getElem? (i := 757) (by decide +kernel)⟩
theorem lw_p30 : lw_okq (⟨"SortUtility", "joinWithAll", "(LSortUtility$Row;II)Z"⟩, 15) := ⟨⟨by decide +kernel, by decide +kernel⟩, List.mem_of_getElem? (i := 30) (by decide +kernel), List.mem_of_getElem? (i := 760) (by decide +kernel), List.mem_of_getElem? (i := 761) (by decide +kernel)⟩
theorem lw_p31 : lw_okq (⟨"SortUtility", "addJoined", "(LSortUtility$Row;LSortUtility$Row;I)V"⟩, 15) := ⟨⟨by decide +kernel, by decide +kernel⟩, List.mem_of_getElem? (i := 30) (by decide +kernel), List.mem_of_getElem? (i := 766) (by decide +kernel), List.mem_of_getElem? (i := 767) (by decide +kernel)⟩
def lw_privs_2 : List (MethodName × Nat) := [(⟨"SortUtility$Reader", "readPieces", "()V"⟩, 5), (⟨"SortUtility$Reader", "readBlanks", "()LSortUtility$Part;"⟩, 5), (⟨"SortUtility", "pickRecords", "()V"⟩, 15), (⟨"SortUtility", "insertSorted", "(LSortUtility$Row;)V"⟩, 15), (⟨"java/util/ArrayList", "rangeCheckForAdd", "(I)V"⟩, 3), (⟨"SortUtility", "refuse", "(LSortUtility$Row;)V"⟩, 15), (⟨"SortUtility", "sumAndDeliver", "()V"⟩, 15), (⟨"SortUtility", "heldTakesUp", "(LSortUtility$Row;)Z"⟩, 15), (⟨"SortUtility", "sumsHavePlace", "(LSortUtility$Row;)Z"⟩, 15), (⟨"SortUtility", "deliverHeld", "()V"⟩, 15), (⟨"SortUtility", "layOutHeld", "(LSortUtility$Row;)V"⟩, 15), (⟨"SortUtility", "outputRow", "(II)LSortUtility$Row;"⟩, 15), (⟨"SortUtility", "outputRows", "(I)LSortUtility$Rows;"⟩, 15), (⟨"SortUtility", "longestOf", "(I)I"⟩, 15), (⟨"SortUtility", "joinWithAll", "(LSortUtility$Row;II)Z"⟩, 15), (⟨"SortUtility", "addJoined", "(LSortUtility$Row;LSortUtility$Row;I)V"⟩, 15)]
theorem lw_r2 : ∀ q ∈ lw_privs_2, lw_okq q := List.forall_mem_cons.mpr ⟨lw_p16, List.forall_mem_cons.mpr ⟨lw_p17, List.forall_mem_cons.mpr ⟨lw_p18, List.forall_mem_cons.mpr ⟨lw_p19, List.forall_mem_cons.mpr ⟨lw_p20, List.forall_mem_cons.mpr ⟨lw_p21, List.forall_mem_cons.mpr ⟨lw_p22, List.forall_mem_cons.mpr ⟨lw_p23, List.forall_mem_cons.mpr ⟨lw_p24, List.forall_mem_cons.mpr ⟨lw_p25, List.forall_mem_cons.mpr ⟨lw_p26, List.forall_mem_cons.mpr ⟨lw_p27, List.forall_mem_cons.mpr ⟨lw_p28, List.forall_mem_cons.mpr ⟨lw_p29, List.forall_mem_cons.mpr ⟨lw_p30, List.forall_mem_cons.mpr ⟨lw_p31, fun _ h => absurd h List.not_mem_nil⟩⟩⟩⟩⟩⟩⟩⟩⟩⟩⟩⟩⟩⟩⟩⟩
theorem lw_p32 : lw_okq (⟨"SortUtilityModel", "keepOld", "()V"⟩, 42) := ⟨⟨by decide +kernel, by decide +kernel⟩, List.mem_of_getElem? (i := 825) (by decide +kernel), List.mem_of_getElem? (i := 971) (by decide +kernel), List.mem_of_getElem? (i := 972) (by decide +kernel)⟩
theorem lw_p33 : lw_okq (⟨"SortUtilityModel", "sign", "()I"⟩, 42) := ⟨⟨by decide +kernel, by decide +kernel⟩, List.mem_of_getElem? (i := 825) (by decide +kernel), List.mem_of_getElem? (i := 978) (by decide +kernel), List.mem_of_getElem? (i := 979) (by decide +kernel)⟩
theorem lw_p34 : lw_okq (⟨"SortUtilityModel", "at", "(I)I"⟩, 42) := ⟨⟨by decide +kernel, by decide +kernel⟩, List.mem_of_getElem? (i := 825) (by decide +kernel), List.mem_of_getElem? (i := 982) (by decide +kernel), List.mem_of_getElem? (i := 983) (by decide +kernel)⟩
theorem lw_p35 : lw_okq (⟨"SortUtilityModel", "statement", "()Z"⟩, 42) := ⟨⟨by decide +kernel, by decide +kernel⟩, List.mem_of_getElem? (i := 825) (by decide +kernel), List.mem_of_getElem? (i := 986) (by decide +kernel), List.mem_of_getElem? (i := 987) (by decide +kernel)⟩
theorem lw_p36 : lw_okq (⟨"SortUtilityModel", "isSmall", "(I)Z"⟩, 42) := ⟨⟨by decide +kernel, by decide +kernel⟩, List.mem_of_getElem? (i := 825) (by decide +kernel), List.mem_of_getElem? (i := 990) (by decide +kernel), List.mem_of_getElem? (i := 991) (by decide +kernel)⟩
theorem lw_p37 : lw_okq (⟨"SortUtilityModel", "word", "()I"⟩, 42) := ⟨⟨by decide +kernel, by decide +kernel⟩, List.mem_of_getElem? (i := 825) (by decide +kernel), List.mem_of_getElem? (i := 994) (by decide +kernel), List.mem_of_getElem? (i := 995) (by decide +kernel)⟩
theorem lw_p38 : lw_okq (⟨"SortUtilityModel", "isInclude", "(I)Z"⟩, 42) := ⟨⟨by decide +kernel, by decide +kernel⟩, List.mem_of_getElem? (i := 825) (by decide +kernel), List.mem_of_getElem? (i := 998) (by decide +kernel), List.mem_of_getElem? (i := 999) (by decide +kernel)⟩
theorem lw_p39 : lw_okq (⟨"SortUtilityModel", "key", "()Z"⟩, 42) := ⟨⟨by decide +kernel, by decide +kernel⟩, List.mem_of_getElem? (i := 825) (by decide +kernel), List.mem_of_getElem? (i := 1006) (by decide +kernel), List.mem_of_getElem? (i := 1007) (by decide +kernel)⟩
theorem lw_p40 : lw_okq (⟨"SortUtilityModel", "field", "([III)Z"⟩, 42) := ⟨⟨by decide +kernel, by decide +kernel⟩, List.mem_of_getElem? (i := 825) (by decide +kernel), List.mem_of_getElem? (i := 1010) (by decide +kernel), List.mem_of_getElem? (i := 1011) (by decide +kernel)⟩
theorem lw_p41 : lw_okq (⟨"SortUtilityModel", "number", "(II)I"⟩, 42) := ⟨⟨by decide +kernel, by decide +kernel⟩, List.mem_of_getElem? (i := 825) (by decide +kernel), List.mem_of_getElem? (i := 1014) (by decide +kernel), List.mem_of_getElem? (i := 1015) (by decide +kernel)⟩
theorem lw_p42 : lw_okq (⟨"SortUtilityModel", "isDigit", "(I)Z"⟩, 42) := ⟨⟨by decide +kernel, by decide +kernel⟩, List.mem_of_getElem? (i := 825) (by decide +kernel), List.mem_of_getElem? (i := 1018) (by decide +kernel), List.mem_of_getElem? (i := 1019) (by decide +kernel)⟩
theorem lw_p43 : lw_okq (⟨"SortUtilityModel", "meets", "(I)Z"⟩, 42) := ⟨⟨by decide +kernel, by decide +kernel⟩, List.mem_of_getElem? (i := 825) (by decide +kernel), List.mem_of_getElem? (i := 1022) (by decide +kernel), List.mem_of_getElem? (i := 1023) (by decide +kernel)⟩
theorem lw_p44 : lw_okq (⟨"SortUtilityModel", "testing", "()Z"⟩, 42) := ⟨⟨by decide +kernel, by decide +kernel⟩, List.mem_of_getElem? (i := 825) (by decide +kernel), List.mem_of_getElem? (i := 1026) (by decide +kernel), List.mem_of_getElem? (i := 1027) (by decide +kernel)⟩
theorem lw_p45 : lw_okq (⟨"SortUtilityModel", "test", "(I)Z"⟩, 42) := ⟨⟨by decide +kernel, by decide +kernel⟩, List.mem_of_getElem? (i := 825) (by decide +kernel), List.mem_of_getElem? (i := 1030) (by decide +kernel), List.mem_of_getElem? (i := 1031) (by decide +kernel)⟩
theorem lw_p46 : lw_okq (⟨"SortUtilityModel", "letters", "(I)I"⟩, 42) := ⟨⟨by decide +kernel, by decide +kernel⟩, List.mem_of_getElem? (i := 825) (by decide +kernel), List.mem_of_getElem? (i := 1034) (by decide +kernel), List.mem_of_getElem? (i := 1035) (by decide +kernel)⟩
theorem lw_p47 : lw_okq (⟨"SortUtilityModel", "sumField", "()Z"⟩, 42) := ⟨⟨by decide +kernel, by decide +kernel⟩, List.mem_of_getElem? (i := 825) (by decide +kernel), List.mem_of_getElem? (i := 1038) (by decide +kernel), List.mem_of_getElem? (i := 1039) (by decide +kernel)⟩
def lw_privs_3 : List (MethodName × Nat) := [(⟨"SortUtilityModel", "keepOld", "()V"⟩, 42), (⟨"SortUtilityModel", "sign", "()I"⟩, 42), (⟨"SortUtilityModel", "at", "(I)I"⟩, 42), (⟨"SortUtilityModel", "statement", "()Z"⟩, 42), (⟨"SortUtilityModel", "isSmall", "(I)Z"⟩, 42), (⟨"SortUtilityModel", "word", "()I"⟩, 42), (⟨"SortUtilityModel", "isInclude", "(I)Z"⟩, 42), (⟨"SortUtilityModel", "key", "()Z"⟩, 42), (⟨"SortUtilityModel", "field", "([III)Z"⟩, 42), (⟨"SortUtilityModel", "number", "(II)I"⟩, 42), (⟨"SortUtilityModel", "isDigit", "(I)Z"⟩, 42), (⟨"SortUtilityModel", "meets", "(I)Z"⟩, 42), (⟨"SortUtilityModel", "testing", "()Z"⟩, 42), (⟨"SortUtilityModel", "test", "(I)Z"⟩, 42), (⟨"SortUtilityModel", "letters", "(I)I"⟩, 42), (⟨"SortUtilityModel", "sumField", "()Z"⟩, 42)]
theorem lw_r3 : ∀ q ∈ lw_privs_3, lw_okq q := List.forall_mem_cons.mpr ⟨lw_p32, List.forall_mem_cons.mpr ⟨lw_p33, List.forall_mem_cons.mpr ⟨lw_p34, List.forall_mem_cons.mpr ⟨lw_p35, List.forall_mem_cons.mpr ⟨lw_p36, List.forall_mem_cons.mpr ⟨lw_p37, List.forall_mem_cons.mpr ⟨lw_p38, List.forall_mem_cons.mpr ⟨lw_p39, List.forall_mem_cons.mpr ⟨lw_p40, List.forall_mem_cons.mpr ⟨lw_p41, List.forall_mem_cons.mpr ⟨lw_p42, List.forall_mem_cons.mpr ⟨lw_p43, List.forall_mem_cons.mpr ⟨lw_p44, List.forall_mem_cons.mpr ⟨lw_p45, List.forall_mem_cons.mpr ⟨lw_p46, List.forall_mem_cons.mpr ⟨lw_p47, fun _ h => absurd h List.not_mem_nil⟩⟩⟩⟩⟩⟩⟩⟩⟩⟩⟩⟩⟩⟩⟩⟩
theorem lw_p48 : lw_okq (⟨"SortUtilityModel", "piece", "()Z"⟩, 42) := ⟨⟨by decide +kernel, by decide +kernel⟩, List.mem_of_getElem? (i := 825) (by decide +kernel), List.mem_of_getElem? (i := 1042) (by decide +kernel), List.mem_of_getElem? (i := 1043) (by decide +kernel)⟩
theorem lw_p49 : lw_okq (⟨"SortUtilityModel", "takeOld", "()V"⟩, 42) := ⟨⟨by decide +kernel, by decide +kernel⟩, List.mem_of_getElem? (i := 825) (by decide +kernel), List.mem_of_getElem? (i := 1046) (by decide +kernel), List.mem_of_getElem? (i := 1047) (by decide +kernel)⟩
theorem lw_p50 : lw_okq (⟨"SortUtilityModel", "comes", "(I)Z"⟩, 42) := ⟨⟨by decide +kernel, by decide +kernel⟩, List.mem_of_getElem? (i := 825) (by decide +kernel), List.mem_of_getElem? (i := 1062) (by decide +kernel), List.mem_of_getElem? (i := 1063) (by decide +kernel)⟩
theorem lw_p51 : lw_okq (⟨"SortUtilityModel", "holds", "(II)Z"⟩, 42) := ⟨⟨by decide +kernel, by decide +kernel⟩, List.mem_of_getElem? (i := 825) (by decide +kernel), List.mem_of_getElem? (i := 1066) (by decide +kernel), List.mem_of_getElem? (i := 1067) (by decide +kernel)⟩
theorem lw_p52 : lw_okq (⟨"SortUtilityModel", "begin", "(I)V"⟩, 42) := ⟨⟨by decide +kernel, by decide +kernel⟩, List.mem_of_getElem? (i := 825) (by decide +kernel), List.mem_of_getElem? (i := 1073) (by decide +kernel), List.mem_of_getElem? (i := 1074) (by decide +kernel)⟩
theorem lw_p53 : lw_okq (⟨"SortUtilityModel", "put", "(II)V"⟩, 42) := ⟨⟨by decide +kernel, by decide +kernel⟩, List.mem_of_getElem? (i := 825) (by decide +kernel), List.mem_of_getElem? (i := 1077) (by decide +kernel), List.mem_of_getElem? (i := 1078) (by decide +kernel)⟩
theorem lw_p54 : lw_okq (⟨"SortUtilityModel", "byKeys", "([I[II[I[II)I"⟩, 42) := ⟨⟨by decide +kernel, by decide +kernel⟩, List.mem_of_getElem? (i := 825) (by decide +kernel), List.mem_of_getElem? (i := 1081) (by decide +kernel), List.mem_of_getElem? (i := 1082) (by decide +kernel)⟩
theorem lw_p55 : lw_okq (⟨"SortUtilityModel", "byKey", "(I[I[II[I[II)I"⟩, 42) := ⟨⟨by decide +kernel, by decide +kernel⟩, List.mem_of_getElem? (i := 825) (by decide +kernel), List.mem_of_getElem? (i := 1085) (by decide +kernel), List.mem_of_getElem? (i := 1086) (by decide +kernel)⟩
theorem lw_p56 : lw_okq (⟨"SortUtilityModel", "takesUp", "(II)Z"⟩, 42) := ⟨⟨by decide +kernel, by decide +kernel⟩, List.mem_of_getElem? (i := 825) (by decide +kernel), List.mem_of_getElem? (i := 1092) (by decide +kernel), List.mem_of_getElem? (i := 1093) (by decide +kernel)⟩
theorem lw_p57 : lw_okq (⟨"SortUtilityModel", "summed", "(III)J"⟩, 42) := ⟨⟨by decide +kernel, by decide +kernel⟩, List.mem_of_getElem? (i := 825) (by decide +kernel), List.mem_of_getElem? (i := 1096) (by decide +kernel), List.mem_of_getElem? (i := 1097) (by decide +kernel)⟩
theorem lw_p58 : lw_okq (⟨"SortUtilityModel", "lay", "(I)V"⟩, 42) := ⟨⟨by decide +kernel, by decide +kernel⟩, List.mem_of_getElem? (i := 825) (by decide +kernel), List.mem_of_getElem? (i := 1105) (by decide +kernel), List.mem_of_getElem? (i := 1106) (by decide +kernel)⟩
theorem lw_p59 : lw_okq (⟨"SortUtilityModel", "isOut", "(II)Z"⟩, 42) := ⟨⟨by decide +kernel, by decide +kernel⟩, List.mem_of_getElem? (i := 825) (by decide +kernel), List.mem_of_getElem? (i := 1117) (by decide +kernel), List.mem_of_getElem? (i := 1118) (by decide +kernel)⟩
def lw_privs_4 : List (MethodName × Nat) := [(⟨"SortUtilityModel", "piece", "()Z"⟩, 42), (⟨"SortUtilityModel", "takeOld", "()V"⟩, 42), (⟨"SortUtilityModel", "comes", "(I)Z"⟩, 42), (⟨"SortUtilityModel", "holds", "(II)Z"⟩, 42), (⟨"SortUtilityModel", "begin", "(I)V"⟩, 42), (⟨"SortUtilityModel", "put", "(II)V"⟩, 42), (⟨"SortUtilityModel", "byKeys", "([I[II[I[II)I"⟩, 42), (⟨"SortUtilityModel", "byKey", "(I[I[II[I[II)I"⟩, 42), (⟨"SortUtilityModel", "takesUp", "(II)Z"⟩, 42), (⟨"SortUtilityModel", "summed", "(III)J"⟩, 42), (⟨"SortUtilityModel", "lay", "(I)V"⟩, 42), (⟨"SortUtilityModel", "isOut", "(II)Z"⟩, 42)]
theorem lw_r4 : ∀ q ∈ lw_privs_4, lw_okq q := List.forall_mem_cons.mpr ⟨lw_p48, List.forall_mem_cons.mpr ⟨lw_p49, List.forall_mem_cons.mpr ⟨lw_p50, List.forall_mem_cons.mpr ⟨lw_p51, List.forall_mem_cons.mpr ⟨lw_p52, List.forall_mem_cons.mpr ⟨lw_p53, List.forall_mem_cons.mpr ⟨lw_p54, List.forall_mem_cons.mpr ⟨lw_p55, List.forall_mem_cons.mpr ⟨lw_p56, List.forall_mem_cons.mpr ⟨lw_p57, List.forall_mem_cons.mpr ⟨lw_p58, List.forall_mem_cons.mpr ⟨lw_p59, fun _ h => absurd h List.not_mem_nil⟩⟩⟩⟩⟩⟩⟩⟩⟩⟩⟩⟩
def lw_privs : List (MethodName × Nat) := lw_privs_1 ++ (lw_privs_2 ++ (lw_privs_3 ++ (lw_privs_4)))
def lw_tbl : List Cond := k2_sels lw_privs ++ tables_1
theorem lw_privs_ok : ∀ q ∈ lw_privs, lw_okq q := by
  show ∀ q ∈ lw_privs_1 ++ (lw_privs_2 ++ (lw_privs_3 ++ (lw_privs_4))), lw_okq q
  exact List.forall_mem_append.mpr ⟨lw_r1, List.forall_mem_append.mpr ⟨lw_r2, List.forall_mem_append.mpr ⟨lw_r3, lw_r4⟩⟩⟩
end
section
-- the classes: fields in the order of their slots, their types
def zt_Key : u_T := fun k => match k with
  | 0 => ("SortUtility$Key", "field", "LSortUtility$Part;", true)
  | 1 => ("SortUtility$Key", "down", "Z", true)
  | _ => ("SortUtility$Key", "asNumber", "Z", true)
def zy_Key : Nat → FieldType := fun k => match k with
  | 0 => .object "SortUtility$Part"
  | 1 => .boolean
  | _ => .boolean
theorem zn_Key : ∀ a, a < 3 → ∀ b, b < 3 → a ≠ b → (zt_Key a).2.1 ≠ (zt_Key b).2.1 := by decide +kernel
theorem zyo_Key : ∀ k, k < 3 → parseFieldDescriptor (zt_Key k).2.2.1 = some (zy_Key k) := by decide +kernel
theorem zin_Key : ∀ w ∈ u_ws "SortUtility$Key" zt_Key 3, w ∈ tables_1 := by decide +kernel
def zt_Part : u_T := fun k => match k with
  | 0 => ("SortUtility$Part", "text", "[B", true)
  | 1 => ("SortUtility$Part", "from", "I", true)
  | _ => ("SortUtility$Part", "length", "I", true)
def zy_Part : Nat → FieldType := fun k => match k with
  | 0 => .array .byte
  | 1 => .int
  | _ => .int
theorem zn_Part : ∀ a, a < 3 → ∀ b, b < 3 → a ≠ b → (zt_Part a).2.1 ≠ (zt_Part b).2.1 := by decide +kernel
theorem zyo_Part : ∀ k, k < 3 → parseFieldDescriptor (zt_Part k).2.2.1 = some (zy_Part k) := by decide +kernel
theorem zin_Part : ∀ w ∈ u_ws "SortUtility$Part" zt_Part 3, w ∈ tables_1 := by decide +kernel
def zt_Reader : u_T := fun k => match k with
  | 0 => ("SortUtility$Reader", "signs", "[I", true)
  | 1 => ("SortUtility$Reader", "end", "I", true)
  | 2 => ("SortUtility$Reader", "found", "LSortUtility$Statements;", true)
  | 3 => ("SortUtility$Reader", "wordsSeen", "I", false)
  | _ => ("SortUtility$Reader", "at", "I", false)
def zy_Reader : Nat → FieldType := fun k => match k with
  | 0 => .array .int
  | 1 => .int
  | 2 => .object "SortUtility$Statements"
  | 3 => .int
  | _ => .int
theorem zn_Reader : ∀ a, a < 5 → ∀ b, b < 5 → a ≠ b → (zt_Reader a).2.1 ≠ (zt_Reader b).2.1 := by decide +kernel
theorem zyo_Reader : ∀ k, k < 5 → parseFieldDescriptor (zt_Reader k).2.2.1 = some (zy_Reader k) := by decide +kernel
theorem zin_Reader : ∀ w ∈ u_ws "SortUtility$Reader" zt_Reader 5, w ∈ tables_1 := by decide +kernel
def zt_Row : u_T := fun k => match k with
  | 0 => ("SortUtility$Row", "bytes", "[B", true)
  | 1 => ("SortUtility$Row", "length", "I", false)
  | 2 => ("SortUtility$Row", "input", "I", false)
  | 3 => ("SortUtility$Row", "number", "I", false)
  | _ => ("SortUtility$Row", "madeOf", "I", false)
def zy_Row : Nat → FieldType := fun k => match k with
  | 0 => .array .byte
  | 1 => .int
  | 2 => .int
  | 3 => .int
  | _ => .int
theorem zn_Row : ∀ a, a < 5 → ∀ b, b < 5 → a ≠ b → (zt_Row a).2.1 ≠ (zt_Row b).2.1 := by decide +kernel
theorem zyo_Row : ∀ k, k < 5 → parseFieldDescriptor (zt_Row k).2.2.1 = some (zy_Row k) := by decide +kernel
theorem zin_Row : ∀ w ∈ u_ws "SortUtility$Row" zt_Row 5, w ∈ tables_1 := by decide +kernel
def zt_Rows : u_T := fun k => match k with
  | 0 => ("SortUtility$Rows", "made", "Ljava/util/ArrayList;", true)
  | _ => ("SortUtility$Rows", "size", "I", false)
def zy_Rows : Nat → FieldType := fun k => match k with
  | 0 => .object "java/util/ArrayList"
  | _ => .int
theorem zn_Rows : ∀ a, a < 2 → ∀ b, b < 2 → a ≠ b → (zt_Rows a).2.1 ≠ (zt_Rows b).2.1 := by decide +kernel
theorem zyo_Rows : ∀ k, k < 2 → parseFieldDescriptor (zt_Rows k).2.2.1 = some (zy_Rows k) := by decide +kernel
theorem zin_Rows : ∀ w ∈ u_ws "SortUtility$Rows" zt_Rows 2, w ∈ tables_1 := by decide +kernel
def zt_Statements : u_T := fun k => match k with
  | 0 => ("SortUtility$Statements", "keys", "Ljava/util/ArrayList;", true)
  | 1 => ("SortUtility$Statements", "tests", "Ljava/util/ArrayList;", true)
  | 2 => ("SortUtility$Statements", "sums", "Ljava/util/ArrayList;", true)
  | 3 => ("SortUtility$Statements", "pieces", "Ljava/util/ArrayList;", true)
  | 4 => ("SortUtility$Statements", "omits", "Z", false)
  | 5 => ("SortUtility$Statements", "skip", "I", false)
  | 6 => ("SortUtility$Statements", "stop", "I", false)
  | _ => ("SortUtility$Statements", "size", "I", false)
def zy_Statements : Nat → FieldType := fun k => match k with
  | 0 => .object "java/util/ArrayList"
  | 1 => .object "java/util/ArrayList"
  | 2 => .object "java/util/ArrayList"
  | 3 => .object "java/util/ArrayList"
  | 4 => .boolean
  | 5 => .int
  | 6 => .int
  | _ => .int
theorem zn_Statements : ∀ a, a < 8 → ∀ b, b < 8 → a ≠ b → (zt_Statements a).2.1 ≠ (zt_Statements b).2.1 := by decide +kernel
theorem zyo_Statements : ∀ k, k < 8 → parseFieldDescriptor (zt_Statements k).2.2.1 = some (zy_Statements k) := by decide +kernel
theorem zin_Statements : ∀ w ∈ u_ws "SortUtility$Statements" zt_Statements 8, w ∈ tables_1 := by decide +kernel
def zt_Test : u_T := fun k => match k with
  | 0 => ("SortUtility$Test", "isOr", "Z", true)
  | 1 => ("SortUtility$Test", "left", "LSortUtility$Part;", true)
  | 2 => ("SortUtility$Test", "relation", "I", true)
  | _ => ("SortUtility$Test", "right", "LSortUtility$Part;", true)
def zy_Test : Nat → FieldType := fun k => match k with
  | 0 => .boolean
  | 1 => .object "SortUtility$Part"
  | 2 => .int
  | _ => .object "SortUtility$Part"
theorem zn_Test : ∀ a, a < 4 → ∀ b, b < 4 → a ≠ b → (zt_Test a).2.1 ≠ (zt_Test b).2.1 := by decide +kernel
theorem zyo_Test : ∀ k, k < 4 → parseFieldDescriptor (zt_Test k).2.2.1 = some (zy_Test k) := by decide +kernel
theorem zin_Test : ∀ w ∈ u_ws "SortUtility$Test" zt_Test 4, w ∈ tables_1 := by decide +kernel
def zt_SortUtility : u_T := fun k => match k with
  | 0 => ("SortUtility", "signs", "[I", true)
  | 1 => ("SortUtility", "signCount", "I", false)
  | 2 => ("SortUtility", "statements", "LSortUtility$Statements;", false)
  | 3 => ("SortUtility", "records", "LSortUtility$Rows;", true)
  | 4 => ("SortUtility", "laidOut", "LSortUtility$Rows;", true)
  | 5 => ("SortUtility", "refused", "LSortUtility$Rows;", true)
  | 6 => ("SortUtility", "joined", "LSortUtility$Rows;", true)
  | 7 => ("SortUtility", "unmatched", "Ljava/util/ArrayList;", true)
  | 8 => ("SortUtility", "exitDoes", "I", false)
  | 9 => ("SortUtility", "exitStops", "Z", false)
  | 10 => ("SortUtility", "picked", "Ljava/util/ArrayList;", true)
  | 11 => ("SortUtility", "held", "LSortUtility$Row;", true)
  | 12 => ("SortUtility", "newSums", "[J", true)
  | 13 => ("SortUtility", "arrivedAtExit", "I", false)
  | _ => ("SortUtility", "latestCode", "I", false)
def zy_SortUtility : Nat → FieldType := fun k => match k with
  | 0 => .array .int
  | 1 => .int
  | 2 => .object "SortUtility$Statements"
  | 3 => .object "SortUtility$Rows"
  | 4 => .object "SortUtility$Rows"
  | 5 => .object "SortUtility$Rows"
  | 6 => .object "SortUtility$Rows"
  | 7 => .object "java/util/ArrayList"
  | 8 => .int
  | 9 => .boolean
  | 10 => .object "java/util/ArrayList"
  | 11 => .object "SortUtility$Row"
  | 12 => .array .long
  | 13 => .int
  | _ => .int
theorem zn_SortUtility : ∀ a, a < 15 → ∀ b, b < 15 → a ≠ b → (zt_SortUtility a).2.1 ≠ (zt_SortUtility b).2.1 := by decide +kernel
theorem zyo_SortUtility : ∀ k, k < 15 → parseFieldDescriptor (zt_SortUtility k).2.2.1 = some (zy_SortUtility k) := by decide +kernel
theorem zin_SortUtility : ∀ w ∈ u_ws "SortUtility" zt_SortUtility 15, w ∈ tables_1 := by decide +kernel
def zt_Model : u_T := fun k => match k with
  | 0 => ("SortUtilityModel", "code", "I", false)
  | 1 => ("SortUtilityModel", "text", "[I", true)
  | 2 => ("SortUtilityModel", "length", "I", false)
  | 3 => ("SortUtilityModel", "place", "I", false)
  | 4 => ("SortUtilityModel", "words", "[I", true)
  | 5 => ("SortUtilityModel", "counts", "[I", true)
  | 6 => ("SortUtilityModel", "limits", "[I", true)
  | 7 => ("SortUtilityModel", "keys", "[I", true)
  | 8 => ("SortUtilityModel", "tests", "[I", true)
  | 9 => ("SortUtilityModel", "sums", "[I", true)
  | 10 => ("SortUtilityModel", "pieces", "[I", true)
  | 11 => ("SortUtilityModel", "letters", "[I", true)
  | 12 => ("SortUtilityModel", "bytes", "[I", true)
  | 13 => ("SortUtilityModel", "lengths", "[I", true)
  | 14 => ("SortUtilityModel", "inputs", "[I", true)
  | 15 => ("SortUtilityModel", "records", "I", false)
  | 16 => ("SortUtilityModel", "does", "I", false)
  | 17 => ("SortUtilityModel", "result", "I", false)
  | 18 => ("SortUtilityModel", "stops", "Z", false)
  | 19 => ("SortUtilityModel", "copy", "[I", true)
  | 20 => ("SortUtilityModel", "copyLengths", "[I", true)
  | 21 => ("SortUtilityModel", "made", "[I", true)
  | 22 => ("SortUtilityModel", "firsts", "[I", true)
  | 23 => ("SortUtilityModel", "order", "[I", true)
  | 24 => ("SortUtilityModel", "out", "[I", true)
  | 25 => ("SortUtilityModel", "outLengths", "[I", true)
  | 26 => ("SortUtilityModel", "outs", "[I", true)
  | 27 => ("SortUtilityModel", "madeOf", "[I", true)
  | 28 => ("SortUtilityModel", "firstOf", "[I", true)
  | 29 => ("SortUtilityModel", "lefts", "[I", true)
  | 30 => ("SortUtilityModel", "left", "I", false)
  | 31 => ("SortUtilityModel", "oldWords", "[I", true)
  | 32 => ("SortUtilityModel", "oldCounts", "[I", true)
  | 33 => ("SortUtilityModel", "oldLimits", "[I", true)
  | 34 => ("SortUtilityModel", "oldKeys", "[I", true)
  | 35 => ("SortUtilityModel", "oldTests", "[I", true)
  | 36 => ("SortUtilityModel", "oldSums", "[I", true)
  | 37 => ("SortUtilityModel", "oldPieces", "[I", true)
  | 38 => ("SortUtilityModel", "oldLetters", "[I", true)
  | 39 => ("SortUtilityModel", "total", "[J", true)
  | 40 => ("SortUtilityModel", "one", "[I", true)
  | _ => ("SortUtilityModel", "oneLengths", "[I", true)
def zy_Model : Nat → FieldType := fun k => match k with
  | 0 => .int
  | 1 => .array .int
  | 2 => .int
  | 3 => .int
  | 4 => .array .int
  | 5 => .array .int
  | 6 => .array .int
  | 7 => .array .int
  | 8 => .array .int
  | 9 => .array .int
  | 10 => .array .int
  | 11 => .array .int
  | 12 => .array .int
  | 13 => .array .int
  | 14 => .array .int
  | 15 => .int
  | 16 => .int
  | 17 => .int
  | 18 => .boolean
  | 19 => .array .int
  | 20 => .array .int
  | 21 => .array .int
  | 22 => .array .int
  | 23 => .array .int
  | 24 => .array .int
  | 25 => .array .int
  | 26 => .array .int
  | 27 => .array .int
  | 28 => .array .int
  | 29 => .array .int
  | 30 => .int
  | 31 => .array .int
  | 32 => .array .int
  | 33 => .array .int
  | 34 => .array .int
  | 35 => .array .int
  | 36 => .array .int
  | 37 => .array .int
  | 38 => .array .int
  | 39 => .array .long
  | 40 => .array .int
  | _ => .array .int
theorem zn_Model : ∀ a, a < 42 → ∀ b, b < 42 → a ≠ b → (zt_Model a).2.1 ≠ (zt_Model b).2.1 := by decide +kernel
theorem zyo_Model : ∀ k, k < 42 → parseFieldDescriptor (zt_Model k).2.2.1 = some (zy_Model k) := by decide +kernel
theorem zin_Model : ∀ w ∈ u_ws "SortUtilityModel" zt_Model 42, w ∈ tables_1 := by decide +kernel
def zt_ArrayList : u_T := fun k => match k with
  | 0 => ("java/util/AbstractList", "modCount", "I", false)
  | 1 => ("java/util/ArrayList", "elementData", "[Ljava/lang/Object;", false)
  | _ => ("java/util/ArrayList", "size", "I", false)
def zy_ArrayList : Nat → FieldType := fun k => match k with
  | 0 => .int
  | 1 => .array (.object "java/lang/Object")
  | _ => .int
theorem zn_ArrayList : ∀ a, a < 3 → ∀ b, b < 3 → a ≠ b → (zt_ArrayList a).2.1 ≠ (zt_ArrayList b).2.1 := by decide +kernel
theorem zyo_ArrayList : ∀ k, k < 3 → parseFieldDescriptor (zt_ArrayList k).2.2.1 = some (zy_ArrayList k) := by decide +kernel
theorem zin_ArrayList : ∀ w ∈ u_ws "java/util/ArrayList" zt_ArrayList 3, w ∈ tables_1 := by decide +kernel
abbrev zcl : List vw_C := [("SortUtility$Key", zt_Key, 3), ("SortUtility$Part", zt_Part, 3), ("SortUtility$Reader", zt_Reader, 5), ("SortUtility$Row", zt_Row, 5), ("SortUtility$Rows", zt_Rows, 2), ("SortUtility$Statements", zt_Statements, 8), ("SortUtility$Test", zt_Test, 4), ("SortUtility", zt_SortUtility, 15), ("SortUtilityModel", zt_Model, 42), ("java/util/ArrayList", zt_ArrayList, 3)]
/-- what the k-th kind of object holds, by its int fields and its references -/
def zfs (k : Nat) (i : Nat → Int32) (f : Nat → Option Nat) : List Value := match k with
  | 1 => [va_rf (f 0), .int (i 1), .int (i 2)]
  | 2 => [va_rf (f 0), .int (i 1), .int (i 2)]
  | 3 => [va_rf (f 0), .int (i 1), va_rf (f 2), .int (i 3), .int (i 4)]
  | 4 => [va_rf (f 0), .int (i 1), .int (i 2), .int (i 3), .int (i 4)]
  | 5 => [va_rf (f 0), .int (i 1)]
  | 6 => [va_rf (f 0), va_rf (f 1), va_rf (f 2), va_rf (f 3), .int (i 4), .int (i 5), .int (i 6), .int (i 7)]
  | 7 => [.int (i 0), va_rf (f 1), .int (i 2), va_rf (f 3)]
  | 8 => [va_rf (f 0), .int (i 1), va_rf (f 2), va_rf (f 3), va_rf (f 4), va_rf (f 5), va_rf (f 6), va_rf (f 7), .int (i 8), .int (i 9), va_rf (f 10), va_rf (f 11), va_rf (f 12), .int (i 13), .int (i 14)]
  | 9 => [.int (i 0), va_rf (f 1), .int (i 2), .int (i 3), va_rf (f 4), va_rf (f 5), va_rf (f 6), va_rf (f 7), va_rf (f 8), va_rf (f 9), va_rf (f 10), va_rf (f 11), va_rf (f 12), va_rf (f 13), va_rf (f 14), .int (i 15), .int (i 16), .int (i 17), .int (i 18), va_rf (f 19), va_rf (f 20), va_rf (f 21), va_rf (f 22), va_rf (f 23), va_rf (f 24), va_rf (f 25), va_rf (f 26), va_rf (f 27), va_rf (f 28), va_rf (f 29), .int (i 30), va_rf (f 31), va_rf (f 32), va_rf (f 33), va_rf (f 34), va_rf (f 35), va_rf (f 36), va_rf (f 37), va_rf (f 38), va_rf (f 39), va_rf (f 40), va_rf (f 41)]
  | 10 => [.int (i 0), va_rf (f 1), .int (i 2)]
  | _ => []
/-- a method: its name, code, number of local variables, return type, frames and words of stack that it needs, its handlers -/
abbrev zM : Type := MethodName × ByteArray × Nat × Option FieldType × Nat × Nat × List (Nat × Nat × Nat × Nat)
/-- the tables' numbers of classes and slots; numbers (of array classes, of constants); the heap at the law's entry -/
abbrev zE : Type := va_G × (Nat → Nat) × Heap
/-- the heap: kinds, lengths, ints, references, longs, by address and place -/
abbrev zH : Type := (Nat → Nat) × (Nat → Nat) × (Nat → Nat → Int32) × (Nat → Nat → Option Nat) × (Nat → Nat → Int64)
/-- how a method ends: a value or none, or an exception of this class -/
abbrev zO : Type := Option Value ⊕ String
def zcell (E : zE) (h : zH) (a : Nat) : va_E :=
  if h.1 a = 20 then .inl (E.2.1 0, h.2.1 a, .inl (h.2.2.1 a)) else
  if h.1 a = 21 then .inl (E.2.1 1, h.2.1 a, .inl (h.2.2.1 a)) else
  if h.1 a = 22 then .inl (E.2.1 2, h.2.1 a, .inr (.inl (h.2.2.2.2 a))) else
  if h.1 a = 23 then .inl (E.2.1 3, h.2.1 a, .inr (.inr (.inr (.inr (h.2.2.2.1 a))))) else
  .inr (h.1 a - 1, zfs (h.1 a) (h.2.2.1 a) (h.2.2.2.1 a))
def zRep (E : zE) (h : zH) (H : Heap) : Prop :=
  (∀ q : Nat, q < E.2.2.size → H[q]? = E.2.2[q]?) ∧ E.2.2.size ≤ H.size ∧ ∀ a : Nat, h.1 a ≠ 0 → E.2.2.size ≤ a ∧ va_at E.1 zcl (a, zcell E h a) H
def zty (E : zE) : List (ClassId × FieldType) := [(E.2.1 0, .byte), (E.2.1 1, .int), (E.2.1 2, .long), (E.2.1 3, .object "java/lang/Object")]
/-- words that stay when the tables grow warmer -/
def zgd : Cond → Bool
  | .methodLinkNest .. => true
  | .fieldLinkNest .. => true
  | w => goodWord w
/-- all such words of the tables -/
def zT (U : State) : Prop := ∀ w ∈ lw_tbl, zgd w = true → ∀ a : Array Value, w.before a U = true
theorem zgd_warm {u U : State} (hW : u.WarmedH U.vm) {w : Cond} (hg : zgd w = true) (h : w.before #[] u = true) (a : Array Value) : w.before a U = true := by
  by_cases hq : goodWord w = true
  · exact word_at hW (good_of_word hq) h
  · cases w <;> first | exact absurd hg hq | exact va_Nw.use rfl (va_Nw.warmM hW h) | exact va_Nw.use rfl (va_Nw.warmF hW h)
theorem zT.warm {u U : State} (hW : u.WarmedH U.vm) (h : zT u) : zT U := fun w hw hg a => zgd_warm hW hg (h w hw hg #[]) a
theorem zT.t {U : State} (h : zT U) (i : Nat) {w : Cond} (hi : tables_1[i]? = some w) (hg : zgd w = true) {a : Array Value} : w.before a U = true := h w (List.mem_append_right _ (List.mem_of_getElem? hi)) hg a
theorem zT.p {U : State} (h : zT U) (i : Nat) {q : MethodName × Nat} (hi : lw_privs[i]? = some q) {a : Array Value} : (Cond.selects q.1.cls q.1 q.1).before a U = true :=
  h _ (List.mem_append_left _ (List.mem_map.mpr ⟨q, List.mem_of_getElem? hi, rfl⟩)) rfl a
/-- the constants, by number -/
def zkon (E : zE) (U : State) : Nat → Prop
  | 0 => va_Z "java/util/ArrayList" "DEFAULTCAPACITY_EMPTY_ELEMENTDATA" "[Ljava/lang/Object;" (.ref (E.2.1 10)) (fun q => E.2.2.size ≤ q) U E.2.2
  | 1 => va_T (.object "java/lang/Object") (E.2.1 10) 0 (fun _ => .null) (fun q => E.2.2.size ≤ q) U E.2.2
  | 2 => va_O "[Ljava/lang/Object;" (E.2.1 10) (fun q => E.2.2.size ≤ q) U E.2.2
  | _ => True
def zS (E : zE) (U : State) : Prop := zT U ∧ va_K E.1 zcl (zty E) U ∧ ∀ i, zkon E U i
theorem zkon.warm {E : zE} {u U : State} (hW : u.WarmedH U.vm) (h : ∀ i, zkon E u i) : ∀ i, zkon E U i
  | 0 => va_Z.moved hW.alike (h 0)
  | 1 => va_T.moved hW.alike (h 1)
  | 2 => va_O.moved hW.alike (h 2)
  | _ + 3 => trivial
theorem zS.warm {E : zE} {u U : State} (hW : u.WarmedH U.vm) (h : zS E u) : zS E U := ⟨h.1.warm hW, va_K.moved hW.alike h.2.1, zkon.warm hW h.2.2⟩
def zOk (E : zE) (M : zM) (p : Program) (R : Room) (s : State) (m : MethodId) (meth : Method) (c : Code) : Prop :=
  p.tables.exec = Jvm.exec ∧ c.code = M.2.1 ∧ c.maxLocals = M.2.2.1 ∧ meth.sig.returnType = M.2.2.2.1 ∧ meth.locks = false ∧ s.vm.findClass M.1.cls = some m.cls ∧ meth.name = M.1.name ∧
  M.2.2.2.2.1 ≤ R.frames ∧ M.2.2.2.2.2.1 ≤ R.locals ∧ c.exceptionTable.toList.map (fun h => (h.startPc, h.endPc, h.handlerPc, h.catchType)) = M.2.2.2.2.2.2 ∧ zS E s
/-- the local variables that are known -/
def zL (ls : Array Slot) (n : Nat) (lv : List (Option Value)) : Prop := ls.size = n ∧ lv_wf ls ∧ ∀ (i : Nat) (v : Value), lv[i]? = some (some v) → ls[i]? = some (.val v)
def zas (lv : List (Option Value)) : List (Nat × Value) := (List.range lv.length).filterMap (fun i => ((lv[i]?).join).map (fun v => (i, v)))
theorem zas_mem {lv : List (Option Value)} {i : Nat} {v : Value} : (i, v) ∈ zas lv ↔ lv[i]? = some (some v) := by
  unfold zas
  rw [List.mem_filterMap]
  constructor
  · rintro ⟨j, hj, h⟩
    cases hq : lv[j]? with
    | none => simp [hq] at h
    | some o =>
      cases o with
      | none => simp [hq] at h
      | some w =>
        simp [hq] at h
        obtain ⟨rfl, rfl⟩ := h
        exact hq
  · intro h
    refine ⟨i, List.mem_range.mpr (List.getElem?_eq_some_iff.mp h).1, ?_⟩
    simp [h]
theorem zas_at {lv : List (Option Value)} {i : Nat} {v : Value} (h : lv[i]? = some (some v)) : ∃ j : Nat, (zas lv)[j]? = some (i, v) := List.mem_iff_getElem?.mp (zas_mem.mpr h)
theorem zL.has {ls : Array Slot} {n : Nat} {lv : List (Option Value)} (h : zL ls n lv) : lv_has ls n (zas lv) := ⟨h.1, h.2.1, fun q hq => h.2.2 q.1 q.2 (zas_mem.mp hq)⟩
def zkill (lv : List (Option Value)) (i : Nat) : List (Option Value) := match i with
  | 0 => lv
  | j + 1 => match lv[j]? with
    | some (some (.long _)) => lv.set j none
    | some (some (.double _)) => lv.set j none
    | _ => lv
def zst (lv : List (Option Value)) (i : Nat) (v : Value) : List (Option Value) := (zkill lv i).set i (some v)
def zst2 (lv : List (Option Value)) (i : Nat) (v : Value) : List (Option Value) := ((zkill lv i).set i (some v)).set (i + 1) none
theorem zkill_at {lv : List (Option Value)} {i j : Nat} {w : Value} (h : (zkill lv i)[j]? = some (some w)) : lv[j]? = some (some w) ∧ ¬ (j + 1 = i ∧ w.category = 2) := by
  unfold zkill at h
  cases i with
  | zero => exact ⟨h, fun q => by omega⟩
  | succ k =>
    dsimp only at h
    split at h
    · rename_i x hx
      by_cases hj : k = j
      · subst hj
        rw [List.getElem?_set] at h
        simp at h
      · rw [List.getElem?_set, if_neg hj] at h
        exact ⟨h, fun q => hj (by omega)⟩
    · rename_i x hx
      by_cases hj : k = j
      · subst hj
        rw [List.getElem?_set] at h
        simp at h
      · rw [List.getElem?_set, if_neg hj] at h
        exact ⟨h, fun q => hj (by omega)⟩
    · rename_i h1 h2
      refine ⟨h, fun q => ?_⟩
      obtain ⟨q1, q2⟩ := q
      have hk : k = j := by omega
      subst hk
      cases w <;> simp [Value.category] at q2
      · exact h1 _ h
      · exact h2 _ h
theorem zL.of1 {ls ls2 : Array Slot} {n i : Nat} {lv : List (Option Value)} {v : Value} (h0 : zL ls n lv) (h : lv_has ls2 n ((i, v) :: (zas lv).filter (fun q => !(q.1 == i) && !(q.1 + 1 == i && q.2.category == 2)))) : zL ls2 n (zst lv i v) := by
  refine ⟨h.1, h.2.1, fun j w hw => ?_⟩
  unfold zst at hw
  by_cases hj : i = j
  · subst hj
    rw [List.getElem?_set] at hw
    simp at hw
    obtain ⟨-, rfl⟩ := hw
    exact h.2.2 (i, v) List.mem_cons_self
  · rw [List.getElem?_set, if_neg hj] at hw
    obtain ⟨a, b⟩ := zkill_at hw
    refine h.2.2 (j, w) (List.mem_cons_of_mem _ (List.mem_filter.mpr ⟨zas_mem.mpr a, ?_⟩))
    have h1 : (j == i) = false := by simp; omega
    by_cases h3 : j + 1 = i
    · have h4 : ¬ w.category = 2 := fun q => b ⟨h3, q⟩
      simp [h1, h4]
    · simp [h1, h3]
theorem zL.of2 {ls ls2 : Array Slot} {n i : Nat} {lv : List (Option Value)} {v : Value} (h0 : zL ls n lv) (h : lv_has ls2 n ((i, v) :: (zas lv).filter (fun q => !(q.1 == i) && (!(q.1 == i + 1) && !(q.1 + 1 == i && q.2.category == 2))))) : zL ls2 n (zst2 lv i v) := by
  refine ⟨h.1, h.2.1, fun j w hw => ?_⟩
  unfold zst2 at hw
  by_cases hj2 : i + 1 = j
  · subst hj2
    rw [List.getElem?_set] at hw
    simp at hw
  rw [List.getElem?_set, if_neg hj2] at hw
  by_cases hj : i = j
  · subst hj
    rw [List.getElem?_set] at hw
    simp at hw
    obtain ⟨-, rfl⟩ := hw
    exact h.2.2 (i, v) List.mem_cons_self
  · rw [List.getElem?_set, if_neg hj] at hw
    obtain ⟨a, b⟩ := zkill_at hw
    refine h.2.2 (j, w) (List.mem_cons_of_mem _ (List.mem_filter.mpr ⟨zas_mem.mpr a, ?_⟩))
    have h1 : (j == i) = false := by simp; omega
    have h2 : (j == i + 1) = false := by simp; omega
    by_cases h3 : j + 1 = i
    · have h4 : ¬ w.category = 2 := fun q => b ⟨h3, q⟩
      simp [h1, h2, h4]
    · simp [h1, h2, h3]
/-- fewer are known -/
def zle : List (Option Value) → List (Option Value) → Prop
  | [], _ => True
  | none :: a, _ :: b => zle a b
  | some v :: a, some w :: b => v = w ∧ zle a b
  | none :: a, [] => zle a []
  | some _ :: _, none :: _ => False
  | some _ :: _, [] => False
theorem zle_at : ∀ (a b : List (Option Value)), zle a b → ∀ (i : Nat) (v : Value), a[i]? = some (some v) → b[i]? = some (some v)
  | [], _, _, i, v, h => by simp at h
  | none :: a, y :: b, hz, 0, v, h => by simp at h
  | none :: a, y :: b, hz, i + 1, v, h => by
    simp only [List.getElem?_cons_succ] at h ⊢
    exact zle_at a b hz i v h
  | some x :: a, some y :: b, hz, 0, v, h => by
    obtain ⟨rfl, -⟩ := hz
    simpa using h
  | some x :: a, some y :: b, hz, i + 1, v, h => by
    simp only [List.getElem?_cons_succ] at h ⊢
    exact zle_at a b hz.2 i v h
  | none :: a, [], hz, 0, v, h => by simp at h
  | none :: a, [], hz, i + 1, v, h => by
    simp only [List.getElem?_cons_succ] at h
    have := zle_at a [] hz i v h
    simp at this
def zOut (s t : State) (o : Outcome) (r : zO) : Prop := match r with
  | .inl v => o = .returned v
  | .inr X => ∃ (q : Nat) (ce : Cell), o = .threw q ∧ t.heap[q]? = some ce ∧ ce.vm = .none ∧ s.vm.findClass X = some ce.cls
def zEnd (E : zE) (R : Room) (s : State) (below : List Frame) (Q : zO → zH → Prop) : State → Prop := fun t =>
  ∃ (o : Outcome) (L : List Loc) (r : zO) (h' : zH), t.status = .running ∧ Ended t below o ∧ s.WarmedH t.vm ∧ s.sameButNew ({ t with vm := s.vm } : State) L R.cells R.slots ∧ (∀ q ∈ L, E.2.2.size ≤ q.base) ∧ zRep E h' t.heap ∧ zOut s t o r ∧ Q r h'
/-- THE JUDGEMENT: from pc, with these known local variables and this stack, in a heap that holds h, with cb cells and sb slots to make, the method ends, and Q holds of its end -/
def AW (E : zE) (M : zM) (h : zH) (cb sb : Nat) (Q : zO → zH → Prop) (pc : Nat) (lv : List (Option Value)) (st : List Value) : Prop :=
  ∀ (p : Program) (l : Launch) (e : Env) (R : Room) (s : State) (m : MethodId) (args : Array Value) (below : List Frame) (meth : Method) (c : Code) (H : Heap) (locs : List Loc) (cells slots : Nat) (ls : Array Slot),
    zOk E M p R s m meth c → zRep E h H → (∀ q ∈ locs, E.2.2.size ≤ q.base) → cells + cb ≤ R.cells → slots + sb ≤ R.slots → zL ls M.2.2.1 lv → W p l e R s m args below meth c H locs cells slots (zEnd E R s below Q) (F0 m pc ls st)
theorem aw_weak {E : zE} {M : zM} {h : zH} {cb sb : Nat} {Q : zO → zH → Prop} {pc : Nat} {lv lv' : List (Option Value)} {st : List Value} (hz : zle lv' lv) (kk : AW E M h cb sb Q pc lv' st) : AW E M h cb sb Q pc lv st :=
  fun p l e R s m args below meth c H locs cells slots ls ok hR hL hc hs hl => kk p l e R s m args below meth c H locs cells slots ls ok hR hL hc hs ⟨hl.1, hl.2.1, fun i v hv => hl.2.2 i v (zle_at _ _ hz i v hv)⟩
theorem aw_room {E : zE} {M : zM} {h : zH} {cb sb cb' sb' : Nat} {Q : zO → zH → Prop} {pc : Nat} {lv : List (Option Value)} {st : List Value} (h1 : cb' ≤ cb) (h2 : sb' ≤ sb) (kk : AW E M h cb' sb' Q pc lv st) : AW E M h cb sb Q pc lv st :=
  fun p l e R s m args below meth c H locs cells slots ls ok hR hL hc hs hl => kk p l e R s m args below meth c H locs cells slots ls ok hR hL (by omega) (by omega) hl
theorem zEnd.mono {E : zE} {R : Room} {s t : State} {below : List Frame} {Q Q' : zO → zH → Prop} (h : ∀ r h', Q r h' → Q' r h') (k : zEnd E R s below Q t) : zEnd E R s below Q' t := by
  obtain ⟨o, L, r, h', a1, a2, a3, a4, a5, a6, a7, a8⟩ := k
  exact ⟨o, L, r, h', a1, a2, a3, a4, a5, a6, a7, h r h' a8⟩
theorem aw_mono {E : zE} {M : zM} {h : zH} {cb sb : Nat} {Q Q' : zO → zH → Prop} {pc : Nat} {lv : List (Option Value)} {st : List Value} (hq : ∀ r h', Q r h' → Q' r h') (kk : AW E M h cb sb Q pc lv st) : AW E M h cb sb Q' pc lv st :=
  fun p l e R s m args below meth c H locs cells slots ls ok hR hL hc hs hl T hT X => by
    obtain ⟨t, a, b⟩ := kk p l e R s m args below meth c H locs cells slots ls ok hR hL hc hs hl T hT X
    exact ⟨t, a, b.mono hq⟩

section

theorem aw_iconst {E : zE} {M : zM} {h : zH} {cb sb : Nat} {Q : zO → zH → Prop} {pc : Nat} {lv : List (Option Value)} {st : List Value} {n : Int} {v : Int32} (hd : decode M.2.1 pc = .ok (.iconst n, 1)) (hv : Int32.ofInt n = v) (kk : AW E M h cb sb Q (pc + 1) lv (.int v :: st)) : AW E M h cb sb Q pc lv st := fun p l e R s m args below meth c H locs cells slots ls ok hR hL hc hs hl => lv_iconst ok.1 ok.2.1 hd hv (kk p l e R s m args below meth c H locs cells slots ls ok hR hL hc hs hl)
theorem aw_bipush {E : zE} {M : zM} {h : zH} {cb sb : Nat} {Q : zO → zH → Prop} {pc : Nat} {lv : List (Option Value)} {st : List Value} {n : Int} {v : Int32} (hd : decode M.2.1 pc = .ok (.bipush n, 2)) (hv : (Int8.ofInt n).toInt32 = v) (kk : AW E M h cb sb Q (pc + 2) lv (.int v :: st)) : AW E M h cb sb Q pc lv st := fun p l e R s m args below meth c H locs cells slots ls ok hR hL hc hs hl => lv_bipush ok.1 ok.2.1 hd hv (kk p l e R s m args below meth c H locs cells slots ls ok hR hL hc hs hl)
theorem aw_sipush {E : zE} {M : zM} {h : zH} {cb sb : Nat} {Q : zO → zH → Prop} {pc : Nat} {lv : List (Option Value)} {st : List Value} {n : Int} {v : Int32} (hd : decode M.2.1 pc = .ok (.sipush n, 3)) (hv : (Int16.ofInt n).toInt32 = v) (kk : AW E M h cb sb Q (pc + 3) lv (.int v :: st)) : AW E M h cb sb Q pc lv st := fun p l e R s m args below meth c H locs cells slots ls ok hR hL hc hs hl => lv_sipush ok.1 ok.2.1 hd hv (kk p l e R s m args below meth c H locs cells slots ls ok hR hL hc hs hl)
theorem aw_lconst {E : zE} {M : zM} {h : zH} {cb sb : Nat} {Q : zO → zH → Prop} {pc : Nat} {lv : List (Option Value)} {st : List Value} {n : Fin 2} {v : Int64} (hd : decode M.2.1 pc = .ok (.lconst n, 1)) (hv : Int64.ofNat (n : Nat) = v) (kk : AW E M h cb sb Q (pc + 1) lv (.long v :: st)) : AW E M h cb sb Q pc lv st := fun p l e R s m args below meth c H locs cells slots ls ok hR hL hc hs hl => lv_lconst ok.1 ok.2.1 hd hv (kk p l e R s m args below meth c H locs cells slots ls ok hR hL hc hs hl)
theorem aw_null {E : zE} {M : zM} {h : zH} {cb sb : Nat} {Q : zO → zH → Prop} {pc : Nat} {lv : List (Option Value)} {st : List Value} (hd : decode M.2.1 pc = .ok (.aconst_null, 1)) (kk : AW E M h cb sb Q (pc + 1) lv (.null :: st)) : AW E M h cb sb Q pc lv st := fun p l e R s m args below meth c H locs cells slots ls ok hR hL hc hs hl => lv_null ok.1 ok.2.1 hd (kk p l e R s m args below meth c H locs cells slots ls ok hR hL hc hs hl)
theorem aw_iload_n {E : zE} {M : zM} {h : zH} {cb sb : Nat} {Q : zO → zH → Prop} {pc : Nat} {lv : List (Option Value)} {st : List Value} {k : Fin 4} {x : Int32} (hd : decode M.2.1 pc = .ok (.iload_n k, 1)) (hv : lv[(k : Nat)]? = some (some (.int x))) (kk : AW E M h cb sb Q (pc + 1) lv (.int x :: st)) : AW E M h cb sb Q pc lv st := fun p l e R s m args below meth c H locs cells slots ls ok hR hL hc hs hl => lv_iload_n ok.1 ok.2.1 hd rfl (hl.2.2 _ _ hv) (kk p l e R s m args below meth c H locs cells slots ls ok hR hL hc hs hl)
theorem aw_iload {E : zE} {M : zM} {h : zH} {cb sb : Nat} {Q : zO → zH → Prop} {pc : Nat} {lv : List (Option Value)} {st : List Value} {k : Nat} {x : Int32} (hd : decode M.2.1 pc = .ok (.iload k, 2)) (hv : lv[k]? = some (some (.int x))) (kk : AW E M h cb sb Q (pc + 2) lv (.int x :: st)) : AW E M h cb sb Q pc lv st := fun p l e R s m args below meth c H locs cells slots ls ok hR hL hc hs hl => lv_iload ok.1 ok.2.1 hd (hl.2.2 _ _ hv) (kk p l e R s m args below meth c H locs cells slots ls ok hR hL hc hs hl)
theorem aw_lload_n {E : zE} {M : zM} {h : zH} {cb sb : Nat} {Q : zO → zH → Prop} {pc : Nat} {lv : List (Option Value)} {st : List Value} {k : Fin 4} {x : Int64} (hd : decode M.2.1 pc = .ok (.lload_n k, 1)) (hv : lv[(k : Nat)]? = some (some (.long x))) (kk : AW E M h cb sb Q (pc + 1) lv (.long x :: st)) : AW E M h cb sb Q pc lv st := fun p l e R s m args below meth c H locs cells slots ls ok hR hL hc hs hl => lv_lload_n ok.1 ok.2.1 hd rfl (hl.2.2 _ _ hv) (kk p l e R s m args below meth c H locs cells slots ls ok hR hL hc hs hl)
theorem aw_lload {E : zE} {M : zM} {h : zH} {cb sb : Nat} {Q : zO → zH → Prop} {pc : Nat} {lv : List (Option Value)} {st : List Value} {k : Nat} {x : Int64} (hd : decode M.2.1 pc = .ok (.lload k, 2)) (hv : lv[k]? = some (some (.long x))) (kk : AW E M h cb sb Q (pc + 2) lv (.long x :: st)) : AW E M h cb sb Q pc lv st := fun p l e R s m args below meth c H locs cells slots ls ok hR hL hc hs hl => lv_lload ok.1 ok.2.1 hd (hl.2.2 _ _ hv) (kk p l e R s m args below meth c H locs cells slots ls ok hR hL hc hs hl)
theorem aw_aload_n {E : zE} {M : zM} {h : zH} {cb sb : Nat} {Q : zO → zH → Prop} {pc : Nat} {lv : List (Option Value)} {st : List Value} {k : Fin 4} {x : Nat} (hd : decode M.2.1 pc = .ok (.aload_n k, 1)) (hv : lv[(k : Nat)]? = some (some (.ref x))) (kk : AW E M h cb sb Q (pc + 1) lv (.ref x :: st)) : AW E M h cb sb Q pc lv st := fun p l e R s m args below meth c H locs cells slots ls ok hR hL hc hs hl => lv_aload_n ok.1 ok.2.1 hd rfl (hl.2.2 _ _ hv) (kk p l e R s m args below meth c H locs cells slots ls ok hR hL hc hs hl)
theorem aw_aload {E : zE} {M : zM} {h : zH} {cb sb : Nat} {Q : zO → zH → Prop} {pc : Nat} {lv : List (Option Value)} {st : List Value} {k : Nat} {x : Nat} (hd : decode M.2.1 pc = .ok (.aload k, 2)) (hv : lv[k]? = some (some (.ref x))) (kk : AW E M h cb sb Q (pc + 2) lv (.ref x :: st)) : AW E M h cb sb Q pc lv st := fun p l e R s m args below meth c H locs cells slots ls ok hR hL hc hs hl => lv_aload ok.1 ok.2.1 hd (hl.2.2 _ _ hv) (kk p l e R s m args below meth c H locs cells slots ls ok hR hL hc hs hl)
theorem aw_aload_nN {E : zE} {M : zM} {h : zH} {cb sb : Nat} {Q : zO → zH → Prop} {pc : Nat} {lv : List (Option Value)} {st : List Value} {k : Fin 4} (hd : decode M.2.1 pc = .ok (.aload_n k, 1)) (hv : lv[(k : Nat)]? = some (some .null)) (kk : AW E M h cb sb Q (pc + 1) lv (.null :: st)) : AW E M h cb sb Q pc lv st := fun p l e R s m args below meth c H locs cells slots ls ok hR hL hc hs hl => lv_aload_nN ok.1 ok.2.1 hd rfl (hl.2.2 _ _ hv) (kk p l e R s m args below meth c H locs cells slots ls ok hR hL hc hs hl)
theorem aw_aloadN {E : zE} {M : zM} {h : zH} {cb sb : Nat} {Q : zO → zH → Prop} {pc : Nat} {lv : List (Option Value)} {st : List Value} {k : Nat} (hd : decode M.2.1 pc = .ok (.aload k, 2)) (hv : lv[k]? = some (some .null)) (kk : AW E M h cb sb Q (pc + 2) lv (.null :: st)) : AW E M h cb sb Q pc lv st := fun p l e R s m args below meth c H locs cells slots ls ok hR hL hc hs hl => lv_aloadN ok.1 ok.2.1 hd (hl.2.2 _ _ hv) (kk p l e R s m args below meth c H locs cells slots ls ok hR hL hc hs hl)
theorem aw_istore_n {E : zE} {M : zM} {h : zH} {cb sb : Nat} {Q : zO → zH → Prop} {pc : Nat} {lv : List (Option Value)} {st : List Value} {k : Fin 4} {x : Int32} (hd : decode M.2.1 pc = .ok (.istore_n k, 1)) (hk : (k : Nat) < M.2.2.1) (kk : AW E M h cb sb Q (pc + 1) (zst lv k (.int x)) st) : AW E M h cb sb Q pc lv (.int x :: st) := fun p l e R s m args below meth c H locs cells slots ls ok hR hL hc hs hl => lv_istore_n ok.1 ok.2.1 hd rfl hl.has hk rfl (fun ls2 h2 => kk p l e R s m args below meth c H locs cells slots ls2 ok hR hL hc hs (hl.of1 h2))
theorem aw_istore {E : zE} {M : zM} {h : zH} {cb sb : Nat} {Q : zO → zH → Prop} {pc : Nat} {lv : List (Option Value)} {st : List Value} {k : Nat} {x : Int32} (hd : decode M.2.1 pc = .ok (.istore k, 2)) (hk : k < M.2.2.1) (kk : AW E M h cb sb Q (pc + 2) (zst lv k (.int x)) st) : AW E M h cb sb Q pc lv (.int x :: st) := fun p l e R s m args below meth c H locs cells slots ls ok hR hL hc hs hl => lv_istore ok.1 ok.2.1 hd hl.has hk rfl (fun ls2 h2 => kk p l e R s m args below meth c H locs cells slots ls2 ok hR hL hc hs (hl.of1 h2))
theorem aw_astore_n {E : zE} {M : zM} {h : zH} {cb sb : Nat} {Q : zO → zH → Prop} {pc : Nat} {lv : List (Option Value)} {st : List Value} {k : Fin 4} {x : Nat} (hd : decode M.2.1 pc = .ok (.astore_n k, 1)) (hk : (k : Nat) < M.2.2.1) (kk : AW E M h cb sb Q (pc + 1) (zst lv k (.ref x)) st) : AW E M h cb sb Q pc lv (.ref x :: st) := fun p l e R s m args below meth c H locs cells slots ls ok hR hL hc hs hl => lv_astore_n ok.1 ok.2.1 hd rfl hl.has hk rfl (fun ls2 h2 => kk p l e R s m args below meth c H locs cells slots ls2 ok hR hL hc hs (hl.of1 h2))
theorem aw_astore {E : zE} {M : zM} {h : zH} {cb sb : Nat} {Q : zO → zH → Prop} {pc : Nat} {lv : List (Option Value)} {st : List Value} {k : Nat} {x : Nat} (hd : decode M.2.1 pc = .ok (.astore k, 2)) (hk : k < M.2.2.1) (kk : AW E M h cb sb Q (pc + 2) (zst lv k (.ref x)) st) : AW E M h cb sb Q pc lv (.ref x :: st) := fun p l e R s m args below meth c H locs cells slots ls ok hR hL hc hs hl => lv_astore ok.1 ok.2.1 hd hl.has hk rfl (fun ls2 h2 => kk p l e R s m args below meth c H locs cells slots ls2 ok hR hL hc hs (hl.of1 h2))
theorem aw_astore_nN {E : zE} {M : zM} {h : zH} {cb sb : Nat} {Q : zO → zH → Prop} {pc : Nat} {lv : List (Option Value)} {st : List Value} {k : Fin 4} (hd : decode M.2.1 pc = .ok (.astore_n k, 1)) (hk : (k : Nat) < M.2.2.1) (kk : AW E M h cb sb Q (pc + 1) (zst lv k .null) st) : AW E M h cb sb Q pc lv (.null :: st) := fun p l e R s m args below meth c H locs cells slots ls ok hR hL hc hs hl => lv_astore_nN ok.1 ok.2.1 hd rfl hl.has hk rfl (fun ls2 h2 => kk p l e R s m args below meth c H locs cells slots ls2 ok hR hL hc hs (hl.of1 h2))
theorem aw_astoreN {E : zE} {M : zM} {h : zH} {cb sb : Nat} {Q : zO → zH → Prop} {pc : Nat} {lv : List (Option Value)} {st : List Value} {k : Nat} (hd : decode M.2.1 pc = .ok (.astore k, 2)) (hk : k < M.2.2.1) (kk : AW E M h cb sb Q (pc + 2) (zst lv k .null) st) : AW E M h cb sb Q pc lv (.null :: st) := fun p l e R s m args below meth c H locs cells slots ls ok hR hL hc hs hl => lv_astoreN ok.1 ok.2.1 hd hl.has hk rfl (fun ls2 h2 => kk p l e R s m args below meth c H locs cells slots ls2 ok hR hL hc hs (hl.of1 h2))
theorem aw_lstore_n {E : zE} {M : zM} {h : zH} {cb sb : Nat} {Q : zO → zH → Prop} {pc : Nat} {lv : List (Option Value)} {st : List Value} {k : Fin 4} {x : Int64} (hd : decode M.2.1 pc = .ok (.lstore_n k, 1)) (hk : (k : Nat) + 1 < M.2.2.1) (kk : AW E M h cb sb Q (pc + 1) (zst2 lv k (.long x)) st) : AW E M h cb sb Q pc lv (.long x :: st) := fun p l e R s m args below meth c H locs cells slots ls ok hR hL hc hs hl => lv_lstore_n ok.1 ok.2.1 hd rfl hl.has hk rfl (fun ls2 h2 => kk p l e R s m args below meth c H locs cells slots ls2 ok hR hL hc hs (hl.of2 h2))
theorem aw_lstore {E : zE} {M : zM} {h : zH} {cb sb : Nat} {Q : zO → zH → Prop} {pc : Nat} {lv : List (Option Value)} {st : List Value} {k : Nat} {x : Int64} (hd : decode M.2.1 pc = .ok (.lstore k, 2)) (hk : k + 1 < M.2.2.1) (kk : AW E M h cb sb Q (pc + 2) (zst2 lv k (.long x)) st) : AW E M h cb sb Q pc lv (.long x :: st) := fun p l e R s m args below meth c H locs cells slots ls ok hR hL hc hs hl => lv_lstore ok.1 ok.2.1 hd hl.has hk rfl (fun ls2 h2 => kk p l e R s m args below meth c H locs cells slots ls2 ok hR hL hc hs (hl.of2 h2))
theorem aw_iinc {E : zE} {M : zM} {h : zH} {cb sb : Nat} {Q : zO → zH → Prop} {pc : Nat} {lv : List (Option Value)} {st : List Value} {k : Nat} {n : Int} {x v : Int32} (hd : decode M.2.1 pc = .ok (.iinc k n, 3)) (hx : lv[k]? = some (some (.int x))) (hv : x + Int32.ofInt n = v) (hk : k < M.2.2.1) (kk : AW E M h cb sb Q (pc + 3) (zst lv k (.int v)) st) : AW E M h cb sb Q pc lv st := by
  intro p l e R s m args below meth c H locs cells slots ls ok hR hL hc hs hl
  obtain ⟨j, hj⟩ := zas_at hx
  exact lv_iinc ok.1 ok.2.1 hd hl.has hj hv hk rfl (fun ls2 h2 => kk p l e R s m args below meth c H locs cells slots ls2 ok hR hL hc hs (hl.of1 h2))
theorem aw_iadd {E : zE} {M : zM} {h : zH} {cb sb : Nat} {Q : zO → zH → Prop} {pc : Nat} {lv : List (Option Value)} {st : List Value} {x y : Int32} (hd : decode M.2.1 pc = .ok (.iadd, 1)) (kk : AW E M h cb sb Q (pc + 1) lv (.int (x + y) :: st)) : AW E M h cb sb Q pc lv (.int y :: .int x :: st) := fun p l e R s m args below meth c H locs cells slots ls ok hR hL hc hs hl => lv_iadd ok.1 ok.2.1 hd (kk p l e R s m args below meth c H locs cells slots ls ok hR hL hc hs hl)
theorem aw_isub {E : zE} {M : zM} {h : zH} {cb sb : Nat} {Q : zO → zH → Prop} {pc : Nat} {lv : List (Option Value)} {st : List Value} {x y : Int32} (hd : decode M.2.1 pc = .ok (.isub, 1)) (kk : AW E M h cb sb Q (pc + 1) lv (.int (x - y) :: st)) : AW E M h cb sb Q pc lv (.int y :: .int x :: st) := fun p l e R s m args below meth c H locs cells slots ls ok hR hL hc hs hl => lv_isub ok.1 ok.2.1 hd (kk p l e R s m args below meth c H locs cells slots ls ok hR hL hc hs hl)
theorem aw_imul {E : zE} {M : zM} {h : zH} {cb sb : Nat} {Q : zO → zH → Prop} {pc : Nat} {lv : List (Option Value)} {st : List Value} {x y : Int32} (hd : decode M.2.1 pc = .ok (.imul, 1)) (kk : AW E M h cb sb Q (pc + 1) lv (.int (x * y) :: st)) : AW E M h cb sb Q pc lv (.int y :: .int x :: st) := fun p l e R s m args below meth c H locs cells slots ls ok hR hL hc hs hl => lv_imul ok.1 ok.2.1 hd (kk p l e R s m args below meth c H locs cells slots ls ok hR hL hc hs hl)
theorem aw_iand {E : zE} {M : zM} {h : zH} {cb sb : Nat} {Q : zO → zH → Prop} {pc : Nat} {lv : List (Option Value)} {st : List Value} {x y : Int32} (hd : decode M.2.1 pc = .ok (.iand, 1)) (kk : AW E M h cb sb Q (pc + 1) lv (.int (x &&& y) :: st)) : AW E M h cb sb Q pc lv (.int y :: .int x :: st) := fun p l e R s m args below meth c H locs cells slots ls ok hR hL hc hs hl => lv_iand ok.1 ok.2.1 hd (kk p l e R s m args below meth c H locs cells slots ls ok hR hL hc hs hl)
theorem aw_ior {E : zE} {M : zM} {h : zH} {cb sb : Nat} {Q : zO → zH → Prop} {pc : Nat} {lv : List (Option Value)} {st : List Value} {x y : Int32} (hd : decode M.2.1 pc = .ok (.ior, 1)) (kk : AW E M h cb sb Q (pc + 1) lv (.int (x ||| y) :: st)) : AW E M h cb sb Q pc lv (.int y :: .int x :: st) := fun p l e R s m args below meth c H locs cells slots ls ok hR hL hc hs hl => lv_ior ok.1 ok.2.1 hd (kk p l e R s m args below meth c H locs cells slots ls ok hR hL hc hs hl)
theorem aw_ixor {E : zE} {M : zM} {h : zH} {cb sb : Nat} {Q : zO → zH → Prop} {pc : Nat} {lv : List (Option Value)} {st : List Value} {x y : Int32} (hd : decode M.2.1 pc = .ok (.ixor, 1)) (kk : AW E M h cb sb Q (pc + 1) lv (.int (x ^^^ y) :: st)) : AW E M h cb sb Q pc lv (.int y :: .int x :: st) := fun p l e R s m args below meth c H locs cells slots ls ok hR hL hc hs hl => lv_ixor ok.1 ok.2.1 hd (kk p l e R s m args below meth c H locs cells slots ls ok hR hL hc hs hl)
theorem aw_ineg {E : zE} {M : zM} {h : zH} {cb sb : Nat} {Q : zO → zH → Prop} {pc : Nat} {lv : List (Option Value)} {st : List Value} {x : Int32} (hd : decode M.2.1 pc = .ok (.ineg, 1)) (kk : AW E M h cb sb Q (pc + 1) lv (.int (-x) :: st)) : AW E M h cb sb Q pc lv (.int x :: st) := fun p l e R s m args below meth c H locs cells slots ls ok hR hL hc hs hl => lv_ineg ok.1 ok.2.1 hd (kk p l e R s m args below meth c H locs cells slots ls ok hR hL hc hs hl)
theorem aw_ladd {E : zE} {M : zM} {h : zH} {cb sb : Nat} {Q : zO → zH → Prop} {pc : Nat} {lv : List (Option Value)} {st : List Value} {x y : Int64} (hd : decode M.2.1 pc = .ok (.ladd, 1)) (kk : AW E M h cb sb Q (pc + 1) lv (.long (x + y) :: st)) : AW E M h cb sb Q pc lv (.long y :: .long x :: st) := fun p l e R s m args below meth c H locs cells slots ls ok hR hL hc hs hl => lv_ladd ok.1 ok.2.1 hd (kk p l e R s m args below meth c H locs cells slots ls ok hR hL hc hs hl)
theorem aw_lsub {E : zE} {M : zM} {h : zH} {cb sb : Nat} {Q : zO → zH → Prop} {pc : Nat} {lv : List (Option Value)} {st : List Value} {x y : Int64} (hd : decode M.2.1 pc = .ok (.lsub, 1)) (kk : AW E M h cb sb Q (pc + 1) lv (.long (x - y) :: st)) : AW E M h cb sb Q pc lv (.long y :: .long x :: st) := fun p l e R s m args below meth c H locs cells slots ls ok hR hL hc hs hl => lv_lsub ok.1 ok.2.1 hd (kk p l e R s m args below meth c H locs cells slots ls ok hR hL hc hs hl)
theorem aw_lmul {E : zE} {M : zM} {h : zH} {cb sb : Nat} {Q : zO → zH → Prop} {pc : Nat} {lv : List (Option Value)} {st : List Value} {x y : Int64} (hd : decode M.2.1 pc = .ok (.lmul, 1)) (kk : AW E M h cb sb Q (pc + 1) lv (.long (x * y) :: st)) : AW E M h cb sb Q pc lv (.long y :: .long x :: st) := fun p l e R s m args below meth c H locs cells slots ls ok hR hL hc hs hl => lv_lmul ok.1 ok.2.1 hd (kk p l e R s m args below meth c H locs cells slots ls ok hR hL hc hs hl)
theorem aw_ishl {E : zE} {M : zM} {h : zH} {cb sb : Nat} {Q : zO → zH → Prop} {pc : Nat} {lv : List (Option Value)} {st : List Value} {x y : Int32} (hd : decode M.2.1 pc = .ok (.ishl, 1)) (kk : AW E M h cb sb Q (pc + 1) lv (.int (x <<< (y &&& 31)) :: st)) : AW E M h cb sb Q pc lv (.int y :: .int x :: st) := fun p l e R s m args below meth c H locs cells slots ls ok hR hL hc hs hl => lv_ishl ok.1 ok.2.1 hd (kk p l e R s m args below meth c H locs cells slots ls ok hR hL hc hs hl)
theorem aw_ishr {E : zE} {M : zM} {h : zH} {cb sb : Nat} {Q : zO → zH → Prop} {pc : Nat} {lv : List (Option Value)} {st : List Value} {x y : Int32} (hd : decode M.2.1 pc = .ok (.ishr, 1)) (kk : AW E M h cb sb Q (pc + 1) lv (.int (x >>> (y &&& 31)) :: st)) : AW E M h cb sb Q pc lv (.int y :: .int x :: st) := fun p l e R s m args below meth c H locs cells slots ls ok hR hL hc hs hl => lv_ishr ok.1 ok.2.1 hd (kk p l e R s m args below meth c H locs cells slots ls ok hR hL hc hs hl)
theorem aw_idiv {E : zE} {M : zM} {h : zH} {cb sb : Nat} {Q : zO → zH → Prop} {pc : Nat} {lv : List (Option Value)} {st : List Value} {x y : Int32} (hd : decode M.2.1 pc = .ok (.idiv, 1)) (hne : ¬ y = 0) (kk : AW E M h cb sb Q (pc + 1) lv (.int (x / y) :: st)) : AW E M h cb sb Q pc lv (.int y :: .int x :: st) := fun p l e R s m args below meth c H locs cells slots ls ok hR hL hc hs hl => lv_idiv ok.1 ok.2.1 hd hne (kk p l e R s m args below meth c H locs cells slots ls ok hR hL hc hs hl)
theorem aw_irem {E : zE} {M : zM} {h : zH} {cb sb : Nat} {Q : zO → zH → Prop} {pc : Nat} {lv : List (Option Value)} {st : List Value} {x y : Int32} (hd : decode M.2.1 pc = .ok (.irem, 1)) (hne : ¬ y = 0) (kk : AW E M h cb sb Q (pc + 1) lv (.int (x - x / y * y) :: st)) : AW E M h cb sb Q pc lv (.int y :: .int x :: st) := fun p l e R s m args below meth c H locs cells slots ls ok hR hL hc hs hl => lv_irem ok.1 ok.2.1 hd hne (kk p l e R s m args below meth c H locs cells slots ls ok hR hL hc hs hl)
theorem aw_ldiv {E : zE} {M : zM} {h : zH} {cb sb : Nat} {Q : zO → zH → Prop} {pc : Nat} {lv : List (Option Value)} {st : List Value} {x y : Int64} (hd : decode M.2.1 pc = .ok (.ldiv, 1)) (hne : ¬ y = 0) (kk : AW E M h cb sb Q (pc + 1) lv (.long (x / y) :: st)) : AW E M h cb sb Q pc lv (.long y :: .long x :: st) := fun p l e R s m args below meth c H locs cells slots ls ok hR hL hc hs hl => lv_ldiv ok.1 ok.2.1 hd hne (kk p l e R s m args below meth c H locs cells slots ls ok hR hL hc hs hl)
theorem aw_lrem {E : zE} {M : zM} {h : zH} {cb sb : Nat} {Q : zO → zH → Prop} {pc : Nat} {lv : List (Option Value)} {st : List Value} {x y : Int64} (hd : decode M.2.1 pc = .ok (.lrem, 1)) (hne : ¬ y = 0) (kk : AW E M h cb sb Q (pc + 1) lv (.long (x - x / y * y) :: st)) : AW E M h cb sb Q pc lv (.long y :: .long x :: st) := fun p l e R s m args below meth c H locs cells slots ls ok hR hL hc hs hl => lv_lrem ok.1 ok.2.1 hd hne (kk p l e R s m args below meth c H locs cells slots ls ok hR hL hc hs hl)
theorem aw_i2l {E : zE} {M : zM} {h : zH} {cb sb : Nat} {Q : zO → zH → Prop} {pc : Nat} {lv : List (Option Value)} {st : List Value} {x : Int32} {v : Int64} (hd : decode M.2.1 pc = .ok (.i2l, 1)) (hv : x.toInt64 = v) (kk : AW E M h cb sb Q (pc + 1) lv (.long v :: st)) : AW E M h cb sb Q pc lv (.int x :: st) := fun p l e R s m args below meth c H locs cells slots ls ok hR hL hc hs hl => lv_i2l ok.1 ok.2.1 hd hv (kk p l e R s m args below meth c H locs cells slots ls ok hR hL hc hs hl)
theorem aw_l2i {E : zE} {M : zM} {h : zH} {cb sb : Nat} {Q : zO → zH → Prop} {pc : Nat} {lv : List (Option Value)} {st : List Value} {x : Int64} {v : Int32} (hd : decode M.2.1 pc = .ok (.l2i, 1)) (hv : x.toInt32 = v) (kk : AW E M h cb sb Q (pc + 1) lv (.int v :: st)) : AW E M h cb sb Q pc lv (.long x :: st) := fun p l e R s m args below meth c H locs cells slots ls ok hR hL hc hs hl => lv_l2i ok.1 ok.2.1 hd hv (kk p l e R s m args below meth c H locs cells slots ls ok hR hL hc hs hl)
theorem aw_i2b {E : zE} {M : zM} {h : zH} {cb sb : Nat} {Q : zO → zH → Prop} {pc : Nat} {lv : List (Option Value)} {st : List Value} {x : Int32} {v : Int32} (hd : decode M.2.1 pc = .ok (.i2b, 1)) (hv : x.toInt8.toInt32 = v) (kk : AW E M h cb sb Q (pc + 1) lv (.int v :: st)) : AW E M h cb sb Q pc lv (.int x :: st) := fun p l e R s m args below meth c H locs cells slots ls ok hR hL hc hs hl => lv_i2b ok.1 ok.2.1 hd hv (kk p l e R s m args below meth c H locs cells slots ls ok hR hL hc hs hl)
theorem aw_i2c {E : zE} {M : zM} {h : zH} {cb sb : Nat} {Q : zO → zH → Prop} {pc : Nat} {lv : List (Option Value)} {st : List Value} {x : Int32} {v : Int32} (hd : decode M.2.1 pc = .ok (.i2c, 1)) (hv : (x.toUInt32 % 65536).toInt32 = v) (kk : AW E M h cb sb Q (pc + 1) lv (.int v :: st)) : AW E M h cb sb Q pc lv (.int x :: st) := fun p l e R s m args below meth c H locs cells slots ls ok hR hL hc hs hl => lv_i2c ok.1 ok.2.1 hd hv (kk p l e R s m args below meth c H locs cells slots ls ok hR hL hc hs hl)
theorem aw_lcmp {E : zE} {M : zM} {h : zH} {cb sb : Nat} {Q : zO → zH → Prop} {pc : Nat} {lv : List (Option Value)} {st : List Value} {x y : Int64} (hd : decode M.2.1 pc = .ok (.lcmp, 1)) (kk : AW E M h cb sb Q (pc + 1) lv (.int (lg_cmp x y) :: st)) : AW E M h cb sb Q pc lv (.long y :: .long x :: st) := fun p l e R s m args below meth c H locs cells slots ls ok hR hL hc hs hl => W.lcmp ok.1 ok.2.1 hd (kk p l e R s m args below meth c H locs cells slots ls ok hR hL hc hs hl)
theorem aw_dup {E : zE} {M : zM} {h : zH} {cb sb : Nat} {Q : zO → zH → Prop} {pc : Nat} {lv : List (Option Value)} {st : List Value} {va : Value} (hd : decode M.2.1 pc = .ok (.dup, 1)) (hva : va.category = 1) (kk : AW E M h cb sb Q (pc + 1) lv (va :: va :: st)) : AW E M h cb sb Q pc lv (va :: st) := fun p l e R s m args below meth c H locs cells slots ls ok hR hL hc hs hl => lv_dup ok.1 ok.2.1 hd hva (kk p l e R s m args below meth c H locs cells slots ls ok hR hL hc hs hl)
theorem aw_pop {E : zE} {M : zM} {h : zH} {cb sb : Nat} {Q : zO → zH → Prop} {pc : Nat} {lv : List (Option Value)} {st : List Value} {va : Value} (hd : decode M.2.1 pc = .ok (.pop, 1)) (hva : va.category = 1) (kk : AW E M h cb sb Q (pc + 1) lv st) : AW E M h cb sb Q pc lv (va :: st) := fun p l e R s m args below meth c H locs cells slots ls ok hR hL hc hs hl => lv_pop ok.1 ok.2.1 hd hva (kk p l e R s m args below meth c H locs cells slots ls ok hR hL hc hs hl)
theorem aw_dup_x1 {E : zE} {M : zM} {h : zH} {cb sb : Nat} {Q : zO → zH → Prop} {pc : Nat} {lv : List (Option Value)} {st : List Value} {va vb : Value} (hd : decode M.2.1 pc = .ok (.dup_x1, 1)) (hva : va.category = 1) (hvb : vb.category = 1) (kk : AW E M h cb sb Q (pc + 1) lv (va :: vb :: va :: st)) : AW E M h cb sb Q pc lv (va :: vb :: st) := fun p l e R s m args below meth c H locs cells slots ls ok hR hL hc hs hl => lv_dup_x1 ok.1 ok.2.1 hd hva hvb (kk p l e R s m args below meth c H locs cells slots ls ok hR hL hc hs hl)
theorem aw_dup_x2 {E : zE} {M : zM} {h : zH} {cb sb : Nat} {Q : zO → zH → Prop} {pc : Nat} {lv : List (Option Value)} {st : List Value} {va vb vd : Value} (hd : decode M.2.1 pc = .ok (.dup_x2, 1)) (hva : va.category = 1) (hvb : vb.category = 1) (hvd : vd.category = 1) (kk : AW E M h cb sb Q (pc + 1) lv (va :: vb :: vd :: va :: st)) : AW E M h cb sb Q pc lv (va :: vb :: vd :: st) := fun p l e R s m args below meth c H locs cells slots ls ok hR hL hc hs hl => lv_dup_x2 ok.1 ok.2.1 hd hva hvb hvd (kk p l e R s m args below meth c H locs cells slots ls ok hR hL hc hs hl)
theorem aw_dup2 {E : zE} {M : zM} {h : zH} {cb sb : Nat} {Q : zO → zH → Prop} {pc : Nat} {lv : List (Option Value)} {st : List Value} {va vb : Value} (hd : decode M.2.1 pc = .ok (.dup2, 1)) (hva : va.category = 1) (hvb : vb.category = 1) (kk : AW E M h cb sb Q (pc + 1) lv (va :: vb :: va :: vb :: st)) : AW E M h cb sb Q pc lv (va :: vb :: st) := fun p l e R s m args below meth c H locs cells slots ls ok hR hL hc hs hl => lv_dup2_11 ok.1 ok.2.1 hd hva hvb (kk p l e R s m args below meth c H locs cells slots ls ok hR hL hc hs hl)
theorem aw_if_eq {E : zE} {M : zM} {h : zH} {cb sb : Nat} {Q : zO → zH → Prop} {pc : Nat} {lv : List (Option Value)} {st : List Value} {x : Int32} {off : Int} {tgt : Nat} (hd : decode M.2.1 pc = .ok (.ifCond .eq off, 3)) (ht : (pc : Int) + off = (tgt : Int)) (kt : x = 0 → AW E M h cb sb Q tgt lv st) (kf : ¬ x = 0 → AW E M h cb sb Q (pc + 3) lv st) : AW E M h cb sb Q pc lv (.int x :: st) := fun p l e R s m args below meth c H locs cells slots ls ok hR hL hc hs hl => lv_if_eq ok.1 ok.2.1 hd ht (fun q => kt q p l e R s m args below meth c H locs cells slots ls ok hR hL hc hs hl) (fun q => kf q p l e R s m args below meth c H locs cells slots ls ok hR hL hc hs hl)
theorem aw_icmp_eq {E : zE} {M : zM} {h : zH} {cb sb : Nat} {Q : zO → zH → Prop} {pc : Nat} {lv : List (Option Value)} {st : List Value} {x y : Int32} {off : Int} {tgt : Nat} (hd : decode M.2.1 pc = .ok (.if_icmp .eq off, 3)) (ht : (pc : Int) + off = (tgt : Int)) (kt : x = y → AW E M h cb sb Q tgt lv st) (kf : ¬ x = y → AW E M h cb sb Q (pc + 3) lv st) : AW E M h cb sb Q pc lv (.int y :: .int x :: st) := fun p l e R s m args below meth c H locs cells slots ls ok hR hL hc hs hl => lv_icmp_eq ok.1 ok.2.1 hd ht (fun q => kt q p l e R s m args below meth c H locs cells slots ls ok hR hL hc hs hl) (fun q => kf q p l e R s m args below meth c H locs cells slots ls ok hR hL hc hs hl)
theorem aw_if_ne {E : zE} {M : zM} {h : zH} {cb sb : Nat} {Q : zO → zH → Prop} {pc : Nat} {lv : List (Option Value)} {st : List Value} {x : Int32} {off : Int} {tgt : Nat} (hd : decode M.2.1 pc = .ok (.ifCond .ne off, 3)) (ht : (pc : Int) + off = (tgt : Int)) (kt : ¬ x = 0 → AW E M h cb sb Q tgt lv st) (kf : x = 0 → AW E M h cb sb Q (pc + 3) lv st) : AW E M h cb sb Q pc lv (.int x :: st) := fun p l e R s m args below meth c H locs cells slots ls ok hR hL hc hs hl => lv_if_ne ok.1 ok.2.1 hd ht (fun q => kt q p l e R s m args below meth c H locs cells slots ls ok hR hL hc hs hl) (fun q => kf q p l e R s m args below meth c H locs cells slots ls ok hR hL hc hs hl)
theorem aw_icmp_ne {E : zE} {M : zM} {h : zH} {cb sb : Nat} {Q : zO → zH → Prop} {pc : Nat} {lv : List (Option Value)} {st : List Value} {x y : Int32} {off : Int} {tgt : Nat} (hd : decode M.2.1 pc = .ok (.if_icmp .ne off, 3)) (ht : (pc : Int) + off = (tgt : Int)) (kt : ¬ x = y → AW E M h cb sb Q tgt lv st) (kf : x = y → AW E M h cb sb Q (pc + 3) lv st) : AW E M h cb sb Q pc lv (.int y :: .int x :: st) := fun p l e R s m args below meth c H locs cells slots ls ok hR hL hc hs hl => lv_icmp_ne ok.1 ok.2.1 hd ht (fun q => kt q p l e R s m args below meth c H locs cells slots ls ok hR hL hc hs hl) (fun q => kf q p l e R s m args below meth c H locs cells slots ls ok hR hL hc hs hl)
theorem aw_if_lt {E : zE} {M : zM} {h : zH} {cb sb : Nat} {Q : zO → zH → Prop} {pc : Nat} {lv : List (Option Value)} {st : List Value} {x : Int32} {off : Int} {tgt : Nat} (hd : decode M.2.1 pc = .ok (.ifCond .lt off, 3)) (ht : (pc : Int) + off = (tgt : Int)) (kt : x < 0 → AW E M h cb sb Q tgt lv st) (kf : ¬ x < 0 → AW E M h cb sb Q (pc + 3) lv st) : AW E M h cb sb Q pc lv (.int x :: st) := fun p l e R s m args below meth c H locs cells slots ls ok hR hL hc hs hl => lv_if_lt ok.1 ok.2.1 hd ht (fun q => kt q p l e R s m args below meth c H locs cells slots ls ok hR hL hc hs hl) (fun q => kf q p l e R s m args below meth c H locs cells slots ls ok hR hL hc hs hl)
theorem aw_icmp_lt {E : zE} {M : zM} {h : zH} {cb sb : Nat} {Q : zO → zH → Prop} {pc : Nat} {lv : List (Option Value)} {st : List Value} {x y : Int32} {off : Int} {tgt : Nat} (hd : decode M.2.1 pc = .ok (.if_icmp .lt off, 3)) (ht : (pc : Int) + off = (tgt : Int)) (kt : x < y → AW E M h cb sb Q tgt lv st) (kf : ¬ x < y → AW E M h cb sb Q (pc + 3) lv st) : AW E M h cb sb Q pc lv (.int y :: .int x :: st) := fun p l e R s m args below meth c H locs cells slots ls ok hR hL hc hs hl => lv_icmp_lt ok.1 ok.2.1 hd ht (fun q => kt q p l e R s m args below meth c H locs cells slots ls ok hR hL hc hs hl) (fun q => kf q p l e R s m args below meth c H locs cells slots ls ok hR hL hc hs hl)
theorem aw_if_ge {E : zE} {M : zM} {h : zH} {cb sb : Nat} {Q : zO → zH → Prop} {pc : Nat} {lv : List (Option Value)} {st : List Value} {x : Int32} {off : Int} {tgt : Nat} (hd : decode M.2.1 pc = .ok (.ifCond .ge off, 3)) (ht : (pc : Int) + off = (tgt : Int)) (kt : 0 ≤ x → AW E M h cb sb Q tgt lv st) (kf : ¬ 0 ≤ x → AW E M h cb sb Q (pc + 3) lv st) : AW E M h cb sb Q pc lv (.int x :: st) := fun p l e R s m args below meth c H locs cells slots ls ok hR hL hc hs hl => lv_if_ge ok.1 ok.2.1 hd ht (fun q => kt q p l e R s m args below meth c H locs cells slots ls ok hR hL hc hs hl) (fun q => kf q p l e R s m args below meth c H locs cells slots ls ok hR hL hc hs hl)
theorem aw_icmp_ge {E : zE} {M : zM} {h : zH} {cb sb : Nat} {Q : zO → zH → Prop} {pc : Nat} {lv : List (Option Value)} {st : List Value} {x y : Int32} {off : Int} {tgt : Nat} (hd : decode M.2.1 pc = .ok (.if_icmp .ge off, 3)) (ht : (pc : Int) + off = (tgt : Int)) (kt : y ≤ x → AW E M h cb sb Q tgt lv st) (kf : ¬ y ≤ x → AW E M h cb sb Q (pc + 3) lv st) : AW E M h cb sb Q pc lv (.int y :: .int x :: st) := fun p l e R s m args below meth c H locs cells slots ls ok hR hL hc hs hl => lv_icmp_ge ok.1 ok.2.1 hd ht (fun q => kt q p l e R s m args below meth c H locs cells slots ls ok hR hL hc hs hl) (fun q => kf q p l e R s m args below meth c H locs cells slots ls ok hR hL hc hs hl)
theorem aw_if_gt {E : zE} {M : zM} {h : zH} {cb sb : Nat} {Q : zO → zH → Prop} {pc : Nat} {lv : List (Option Value)} {st : List Value} {x : Int32} {off : Int} {tgt : Nat} (hd : decode M.2.1 pc = .ok (.ifCond .gt off, 3)) (ht : (pc : Int) + off = (tgt : Int)) (kt : 0 < x → AW E M h cb sb Q tgt lv st) (kf : ¬ 0 < x → AW E M h cb sb Q (pc + 3) lv st) : AW E M h cb sb Q pc lv (.int x :: st) := fun p l e R s m args below meth c H locs cells slots ls ok hR hL hc hs hl => lv_if_gt ok.1 ok.2.1 hd ht (fun q => kt q p l e R s m args below meth c H locs cells slots ls ok hR hL hc hs hl) (fun q => kf q p l e R s m args below meth c H locs cells slots ls ok hR hL hc hs hl)
theorem aw_icmp_gt {E : zE} {M : zM} {h : zH} {cb sb : Nat} {Q : zO → zH → Prop} {pc : Nat} {lv : List (Option Value)} {st : List Value} {x y : Int32} {off : Int} {tgt : Nat} (hd : decode M.2.1 pc = .ok (.if_icmp .gt off, 3)) (ht : (pc : Int) + off = (tgt : Int)) (kt : y < x → AW E M h cb sb Q tgt lv st) (kf : ¬ y < x → AW E M h cb sb Q (pc + 3) lv st) : AW E M h cb sb Q pc lv (.int y :: .int x :: st) := fun p l e R s m args below meth c H locs cells slots ls ok hR hL hc hs hl => lv_icmp_gt ok.1 ok.2.1 hd ht (fun q => kt q p l e R s m args below meth c H locs cells slots ls ok hR hL hc hs hl) (fun q => kf q p l e R s m args below meth c H locs cells slots ls ok hR hL hc hs hl)
theorem aw_if_le {E : zE} {M : zM} {h : zH} {cb sb : Nat} {Q : zO → zH → Prop} {pc : Nat} {lv : List (Option Value)} {st : List Value} {x : Int32} {off : Int} {tgt : Nat} (hd : decode M.2.1 pc = .ok (.ifCond .le off, 3)) (ht : (pc : Int) + off = (tgt : Int)) (kt : x ≤ 0 → AW E M h cb sb Q tgt lv st) (kf : ¬ x ≤ 0 → AW E M h cb sb Q (pc + 3) lv st) : AW E M h cb sb Q pc lv (.int x :: st) := fun p l e R s m args below meth c H locs cells slots ls ok hR hL hc hs hl => lv_if_le ok.1 ok.2.1 hd ht (fun q => kt q p l e R s m args below meth c H locs cells slots ls ok hR hL hc hs hl) (fun q => kf q p l e R s m args below meth c H locs cells slots ls ok hR hL hc hs hl)
theorem aw_icmp_le {E : zE} {M : zM} {h : zH} {cb sb : Nat} {Q : zO → zH → Prop} {pc : Nat} {lv : List (Option Value)} {st : List Value} {x y : Int32} {off : Int} {tgt : Nat} (hd : decode M.2.1 pc = .ok (.if_icmp .le off, 3)) (ht : (pc : Int) + off = (tgt : Int)) (kt : x ≤ y → AW E M h cb sb Q tgt lv st) (kf : ¬ x ≤ y → AW E M h cb sb Q (pc + 3) lv st) : AW E M h cb sb Q pc lv (.int y :: .int x :: st) := fun p l e R s m args below meth c H locs cells slots ls ok hR hL hc hs hl => lv_icmp_le ok.1 ok.2.1 hd ht (fun q => kt q p l e R s m args below meth c H locs cells slots ls ok hR hL hc hs hl) (fun q => kf q p l e R s m args below meth c H locs cells slots ls ok hR hL hc hs hl)
theorem aw_acmp_eq {E : zE} {M : zM} {h : zH} {cb sb : Nat} {Q : zO → zH → Prop} {pc : Nat} {lv : List (Option Value)} {st : List Value} {rx ry : Option Nat} {off : Int} {tgt : Nat} (hd : decode M.2.1 pc = .ok (.if_acmp .eq off, 3)) (ht : (pc : Int) + off = (tgt : Int)) (kt : rx = ry → AW E M h cb sb Q tgt lv st) (kf : ¬ rx = ry → AW E M h cb sb Q (pc + 3) lv st) : AW E M h cb sb Q pc lv (va_rf ry :: va_rf rx :: st) := fun p l e R s m args below meth c H locs cells slots ls ok hR hL hc hs hl => lv_acmp_eq ok.1 ok.2.1 hd ht (fun q => kt q p l e R s m args below meth c H locs cells slots ls ok hR hL hc hs hl) (fun q => kf q p l e R s m args below meth c H locs cells slots ls ok hR hL hc hs hl)
theorem aw_acmp_ne {E : zE} {M : zM} {h : zH} {cb sb : Nat} {Q : zO → zH → Prop} {pc : Nat} {lv : List (Option Value)} {st : List Value} {rx ry : Option Nat} {off : Int} {tgt : Nat} (hd : decode M.2.1 pc = .ok (.if_acmp .ne off, 3)) (ht : (pc : Int) + off = (tgt : Int)) (kt : ¬ rx = ry → AW E M h cb sb Q tgt lv st) (kf : rx = ry → AW E M h cb sb Q (pc + 3) lv st) : AW E M h cb sb Q pc lv (va_rf ry :: va_rf rx :: st) := fun p l e R s m args below meth c H locs cells slots ls ok hR hL hc hs hl => lv_acmp_ne ok.1 ok.2.1 hd ht (fun q => kt q p l e R s m args below meth c H locs cells slots ls ok hR hL hc hs hl) (fun q => kf q p l e R s m args below meth c H locs cells slots ls ok hR hL hc hs hl)
theorem aw_goto {E : zE} {M : zM} {h : zH} {cb sb : Nat} {Q : zO → zH → Prop} {pc : Nat} {lv : List (Option Value)} {st : List Value} {off : Int} {tgt : Nat} (hd : decode M.2.1 pc = .ok (.goto off, 3)) (ht : (pc : Int) + off = (tgt : Int)) (kk : AW E M h cb sb Q tgt lv st) : AW E M h cb sb Q pc lv st := fun p l e R s m args below meth c H locs cells slots ls ok hR hL hc hs hl => lv_goto ok.1 ok.2.1 hd ht (kk p l e R s m args below meth c H locs cells slots ls ok hR hL hc hs hl)
/-- a reference or null is tested -/
theorem aw_ifnull {E : zE} {M : zM} {h : zH} {cb sb : Nat} {Q : zO → zH → Prop} {pc : Nat} {lv : List (Option Value)} {st : List Value} {r : Option Nat} {off : Int} {tgt : Nat} (hd : decode M.2.1 pc = .ok (.ifnull off, 3)) (ht : (pc : Int) + off = (tgt : Int)) (kt : r = none → AW E M h cb sb Q tgt lv st) (kf : ∀ a, r = some a → AW E M h cb sb Q (pc + 3) lv st) : AW E M h cb sb Q pc lv (va_rf r :: st) := by
  intro p l e R s m args below meth c H locs cells slots ls ok hR hL hc hs hl
  cases r with
  | none => exact lv_ifnullN ok.1 ok.2.1 hd ht (kt rfl p l e R s m args below meth c H locs cells slots ls ok hR hL hc hs hl)
  | some a => exact lv_ifnull (x := a) ok.1 ok.2.1 hd (kf a rfl p l e R s m args below meth c H locs cells slots ls ok hR hL hc hs hl)
theorem aw_ifnonnull {E : zE} {M : zM} {h : zH} {cb sb : Nat} {Q : zO → zH → Prop} {pc : Nat} {lv : List (Option Value)} {st : List Value} {r : Option Nat} {off : Int} {tgt : Nat} (hd : decode M.2.1 pc = .ok (.ifnonnull off, 3)) (ht : (pc : Int) + off = (tgt : Int)) (kt : ∀ a, r = some a → AW E M h cb sb Q tgt lv st) (kf : r = none → AW E M h cb sb Q (pc + 3) lv st) : AW E M h cb sb Q pc lv (va_rf r :: st) := by
  intro p l e R s m args below meth c H locs cells slots ls ok hR hL hc hs hl
  cases r with
  | none => exact lv_ifnonnullN ok.1 ok.2.1 hd (kf rfl p l e R s m args below meth c H locs cells slots ls ok hR hL hc hs hl)
  | some a => exact lv_ifnonnull (x := a) ok.1 ok.2.1 hd ht (kt a rfl p l e R s m args below meth c H locs cells slots ls ok hR hL hc hs hl)
theorem aw_lookup {E : zE} {M : zM} {h : zH} {cb sb : Nat} {Q : zO → zH → Prop} {pc : Nat} {lv : List (Option Value)} {st : List Value} {dflt : Int} {ps : Array (Int × Int)} {len : Nat} {x : Int32} {off : Int} {tgt : Nat} (hd : decode M.2.1 pc = .ok (.lookupswitch dflt ps, len)) (hp : (ps.toList.zip (ps.toList.drop 1)).all (fun (a, next) => a.1 < next.1) = true) (ho : Op.lookupswitch.offset ps.toList dflt x.toInt = off) (ht : (pc : Int) + off = (tgt : Int)) (kk : AW E M h cb sb Q tgt lv st) : AW E M h cb sb Q pc lv (.int x :: st) := fun p l e R s m args below meth c H locs cells slots ls ok hR hL hc hs hl => lv_lookup ok.1 ok.2.1 hd hp ho ht (kk p l e R s m args below meth c H locs cells slots ls ok hR hL hc hs hl)
theorem aw_tableOut {E : zE} {M : zM} {h : zH} {cb sb : Nat} {Q : zO → zH → Prop} {pc : Nat} {lv : List (Option Value)} {st : List Value} {dflt lo hi : Int} {offs : Array Int} {len : Nat} {x : Int32} {tgt : Nat} (hd : decode M.2.1 pc = .ok (.tableswitch dflt lo hi offs, len)) (hx : x.toInt < lo ∨ hi < x.toInt) (ht : (pc : Int) + dflt = (tgt : Int)) (kk : AW E M h cb sb Q tgt lv st) : AW E M h cb sb Q pc lv (.int x :: st) := fun p l e R s m args below meth c H locs cells slots ls ok hR hL hc hs hl => lv_tableOut ok.1 ok.2.1 hd hx ht (kk p l e R s m args below meth c H locs cells slots ls ok hR hL hc hs hl)
theorem aw_tableIn {E : zE} {M : zM} {h : zH} {cb sb : Nat} {Q : zO → zH → Prop} {pc : Nat} {lv : List (Option Value)} {st : List Value} {dflt lo hi : Int} {offs : Array Int} {len : Nat} {x : Int32} {off : Int} {tgt : Nat} (hd : decode M.2.1 pc = .ok (.tableswitch dflt lo hi offs, len)) (h1 : ¬ x.toInt < lo) (h2 : ¬ hi < x.toInt) (ho : offs[(x.toInt - lo).toNat]? = some off) (ht : (pc : Int) + off = (tgt : Int)) (kk : AW E M h cb sb Q tgt lv st) : AW E M h cb sb Q pc lv (.int x :: st) := fun p l e R s m args below meth c H locs cells slots ls ok hR hL hc hs hl => lv_tableIn ok.1 ok.2.1 hd h1 h2 ho ht (kk p l e R s m args below meth c H locs cells slots ls ok hR hL hc hs hl)
end
end
section
-- ===== the heap's rows =====
def zup {α : Type} (f : Nat → Nat → α) (a k : Nat) (x : α) : Nat → Nat → α := va_up f a (va_up (f a) k x)
theorem zup_self {α : Type} (f : Nat → Nat → α) (a k : Nat) (x : α) : zup f a k x a = va_up (f a) k x := by simp [zup, va_up]
theorem zup_ne {α : Type} (f : Nat → Nat → α) {a b : Nat} (k : Nat) (x : α) (hb : b ≠ a) : zup f a k x b = f b := by simp [zup, va_up, hb]
theorem zup_at {α : Type} (f : Nat → Nat → α) (a k : Nat) (x : α) (p q : Nat) : zup f a k x p q = if p = a ∧ q = k then x else f p q := by
  unfold zup va_up
  by_cases h1 : p = a
  · subst h1
    by_cases h2 : q = k <;> simp [h2]
  · simp [h1]
theorem zRep.at {E : zE} {h : zH} {H : Heap} (hR : zRep E h H) {a : Nat} (ha : h.1 a ≠ 0) : va_P E.1 zcl [(a, zcell E h a)] H := fun k q hq => by
  have hz : k < 1 := (List.getElem?_eq_some_iff.mp hq).1
  rw [show k = 0 by omega] at hq
  cases hq
  exact (hR.2.2 a ha).2
theorem zRep.put {E : zE} {h h' : zH} {H H' : Heap} {a : Nat} (hR : zRep E h H) (ha : h.1 a ≠ 0) (hK : h'.1 = h.1) (hz : H'.size = H.size) (ho : ∀ q : Nat, q ≠ a → H'[q]? = H[q]?) (hc : va_at E.1 zcl (a, zcell E h' a) H') (hs : ∀ b : Nat, b ≠ a → zcell E h' b = zcell E h b) : zRep E h' H' := by
  have hB := (hR.2.2 a ha).1
  refine ⟨fun q hq => by rw [ho q (by omega)]; exact hR.1 q hq, by rw [hz]; exact hR.2.1, fun b hb => ?_⟩
  rw [hK] at hb
  refine ⟨(hR.2.2 b hb).1, ?_⟩
  by_cases e : b = a
  · subst e; exact hc
  · rw [hs b e]
    exact (hR.2.2 b hb).2.kept (ho b e)
theorem zRep.new {E : zE} {h h' : zH} {H H' : Heap} {k : Nat} (hR : zRep E h H) (hK : h'.1 = va_up h.1 H.size k) (hz : H'.size = H.size + 1) (ho : ∀ q : Nat, q < H.size → H'[q]? = H[q]?) (hc : va_at E.1 zcl (H.size, zcell E h' H.size) H') (hs : ∀ b : Nat, b ≠ H.size → zcell E h' b = zcell E h b) : zRep E h' H' := by
  refine ⟨fun q hq => by rw [ho q (Nat.lt_of_lt_of_le hq hR.2.1)]; exact hR.1 q hq, by rw [hz]; exact Nat.le_succ_of_le hR.2.1, fun b hb => ?_⟩
  by_cases e : b = H.size
  · subst e; exact ⟨hR.2.1, hc⟩
  · rw [hK, va_up_ne _ _ e] at hb
    have hb2 := hR.2.2 b hb
    refine ⟨hb2.1, ?_⟩
    rw [hs b e]
    exact hb2.2.kept (ho b hb2.2.lt)
theorem zRep.fresh {E : zE} {h : zH} {H : Heap} (hR : zRep E h H) : h.1 H.size = 0 := by
  by_cases e : h.1 H.size = 0
  · exact e
  · exact absurd (hR.2.2 _ e).2.lt (Nat.lt_irrefl _)
theorem zcell_o {E : zE} {h : zH} {a k : Nat} (hk : h.1 a = k) (h20 : k < 20) : zcell E h a = .inr (k - 1, zfs k (h.2.2.1 a) (h.2.2.2.1 a)) := by
  unfold zcell
  rw [hk, if_neg (by omega), if_neg (by omega), if_neg (by omega), if_neg (by omega)]
theorem zcell_b {E : zE} {h : zH} {a : Nat} (hk : h.1 a = 20) : zcell E h a = .inl (E.2.1 0, h.2.1 a, .inl (h.2.2.1 a)) := by simp [zcell, hk]
theorem zcell_i {E : zE} {h : zH} {a : Nat} (hk : h.1 a = 21) : zcell E h a = .inl (E.2.1 1, h.2.1 a, .inl (h.2.2.1 a)) := by simp [zcell, hk]
theorem zcell_j {E : zE} {h : zH} {a : Nat} (hk : h.1 a = 22) : zcell E h a = .inl (E.2.1 2, h.2.1 a, .inr (.inl (h.2.2.2.2 a))) := by simp [zcell, hk]
theorem zcell_r {E : zE} {h : zH} {a : Nat} (hk : h.1 a = 23) : zcell E h a = .inl (E.2.1 3, h.2.1 a, .inr (.inr (.inr (.inr (h.2.2.2.1 a))))) := by simp [zcell, hk]
abbrev ztb : List Cond := tables_1.filter zgd
theorem zT.all {U : State} (h : zT U) {a : Array Value} : ∀ w ∈ ztb, w.before a U = true := fun w hw => h w (List.mem_append_right _ (List.mem_filter.mp hw).1) (List.mem_filter.mp hw).2 a
theorem zin_good {C : String} {T : u_T} {N : Nat} (hin : ∀ w ∈ u_ws C T N, w ∈ tables_1) : ∀ w ∈ u_ws C T N, w ∈ ztb := fun w hw => List.mem_filter.mpr ⟨hin w hw, by
  obtain ⟨j, -, rfl⟩ := List.mem_map.mp hw
  unfold u_lay
  split <;> rfl⟩
section
variable {E : zE} {M : zM} {K n : Nat → Nat} {I : Nat → Nat → Int32} {F : Nat → Nat → Option Nat} {J : Nat → Nat → Int64} {h : zH} {cb sb : Nat} {Q : zO → zH → Prop} {pc : Nat} {lv : List (Option Value)} {st : List Value} {a : Nat}
theorem aw_get {idx N : Nat} (ci k : Nat) {C ref : String} {T : u_T} {v : Value} (hcl : zcl[ci]? = some (C, T, N)) (hci : ci < 10) (hkN : k < N) (hin : ∀ w ∈ u_ws C T N, w ∈ tables_1) (i : Nat) (hlink : tables_1[i]? = some (.fieldLink M.1.cls idx ref (T k).2.1 (T k).2.2.1)) (hsame : ∀ s : State, zT s → ∀ x, s.fieldFound? (T k).1 (T k).2.1 (T k).2.2.1 = some x → s.fieldFound? ref (T k).2.1 (T k).2.2.1 = some x) (hk : h.1 a = ci + 1) (hv : (zfs (ci + 1) (h.2.2.1 a) (h.2.2.2.1 a))[k]? = some v) (hd : decode M.2.1 pc = .ok (.getfield idx, 3))
    (kk : AW E M h cb sb Q (pc + 3) lv (v :: st)) : AW E M h cb sb Q pc lv (.ref a :: st) := by
  intro p l e R s m args below meth c H locs cells slots ls ok hR hL hc hs hl
  obtain ⟨hx, hb, -, -, -, hown, -, -, -, -, hT, hK, -⟩ := id ok
  have hP := hR.at (a := a) (by omega)
  rw [zcell_o hk (by omega)] at hP
  exact va_get (D := E.1) (cl := zcl) (ci := ci) hx hb hT.all (zin_good hin) hown hK hP 0 rfl hcl k hkN (hT.t i hlink rfl) (hsame s hT) hv hd (kk p l e R s m args below meth c H locs cells slots ls ok hR hL hc hs hl)
/-- a field is written: fin: it is final, and this is its class's constructor -/
theorem aw_put {idx N : Nat} (ci k : Nat) {C ref : String} {T : u_T} {v : Value} {I' : Nat → Nat → Int32} {F' : Nat → Nat → Option Nat} (ty0 : Nat → FieldType) (hcl : zcl[ci]? = some (C, T, N)) (hci : ci < 10) (hkN : k < N) (hin : ∀ w ∈ u_ws C T N, w ∈ tables_1) (hty : ∀ k, k < N → parseFieldDescriptor (T k).2.2.1 = some (ty0 k)) (hnm : ∀ a, a < N → ∀ b, b < N → a ≠ b → (T a).2.1 ≠ (T b).2.1) (i : Nat) (hlink : tables_1[i]? = some (.fieldLink M.1.cls idx ref (T k).2.1 (T k).2.2.1)) (hsame : ∀ s : State, zT s → ∀ x, s.fieldFound? (T k).1 (T k).2.1 (T k).2.2.1 = some x → s.fieldFound? ref (T k).2.1 (T k).2.2.1 = some x)
    (hfin : (T k).2.2.2 = false ∨ ((T k).2.2.2 = true ∧ M.1.name = "<init>" ∧ (T k).1 = M.1.cls)) (hl9 : k < (zfs (ci + 1) (I a) (F a)).length)
    (hIo : ∀ b, b ≠ a → I' b = I b) (hFo : ∀ b, b ≠ a → F' b = F b) (hset : zfs (ci + 1) (I' a) (F' a) = (zfs (ci + 1) (I a) (F a)).set k v) (hk : K a = ci + 1) (hn : narrow (ty0 k) v = v) (hfit : fits (ty0 k) v = true)
    (hd : decode M.2.1 pc = .ok (.putfield idx, 3)) (kk : AW E M (K, n, I', F', J) cb sb Q (pc + 3) lv st) : AW E M (K, n, I, F, J) cb sb Q pc lv (v :: .ref a :: st) := by
  intro p l e R s m args below meth c H locs cells slots ls ok hR hL hc hs hl
  obtain ⟨hx, hb, -, -, -, hown, hmn, -, -, -, hT, hK, -⟩ := id ok
  have ha : (K, n, I, F, J).1 a ≠ 0 := by show K a ≠ 0; omega
  have hP := hR.at ha
  rw [zcell_o (h := (K, n, I, F, J)) (k := ci + 1) hk (by omega)] at hP
  have hap := va_apart (own := M.1.cls) hT.all (zin_good hin) ty0 hty hnm hK hcl (args := args)
  obtain ⟨r, h1, cell, q1, q2, q3, q4⟩ := hP 0 _ rfl
  have hr : r = (C, T, N) := Option.some.inj (h1.symm.trans hcl)
  subst hr
  obtain ⟨hS, hfc, kC, hkC, hkind⟩ := hK.1 ci _ hcl
  obtain ⟨cf, kf, fi, f, hi, hsl⟩ := hS k hkN
  have hlay := hT.all (a := args) _ (zin_good hin _ (u_in_lay hkN))
  unfold u_lay at hlay
  have hst := (u_facts hfc hkC (u_lays (args := args) hT.all (zin_good hin) hkN) hi).1
  have hgo : ∀ H' : Heap, H'[a]? = some (cell.setSlot f.slot v) → H'.size = H.size → (∀ q, q ≠ a → H'[q]? = H[q]?) → W p l e R s m args below meth c H' (locs ++ [⟨a, f.slot⟩]) cells slots (zEnd E R s below Q) (F0 m (pc + 3) ls st) := by
    intro H' e1 e2 e3
    rw [hsl] at e1
    refine kk p l e R s m args below meth c H' _ cells slots ls ok (hR.put ha rfl e2 e3 ?_ ?_) ?_ hc hs hl
    · rw [zcell_o (h := (K, n, I', F', J)) (k := ci + 1) hk (by omega)]
      show va_at E.1 zcl (a, .inr (ci, zfs (ci + 1) (I' a) (F' a))) H'
      rw [hset]
      exact ⟨_, hcl, t_OB.to (V := updV (vp_V (zfs (ci + 1) (I a) (F a))) k v) ⟨_, e1, q2, q3, t_set q4 hap hkN v⟩ (fun j _ => vp_updV_set hl9 v j)⟩
    · intro b hb2
      show zcell E (K, n, I', F', J) b = zcell E (K, n, I, F, J) b
      unfold zcell
      show _ = _
      simp only [hIo b hb2, hFo b hb2]
    · intro q hq
      rcases List.mem_append.mp hq with h5 | h5
      · exact hL q h5
      · rw [List.mem_singleton.mp h5]
        exact (hR.2.2 a ha).1
  rcases hfin with hf | ⟨hf, hf2, hf3⟩
  · rw [if_neg (by rw [hf]; decide)] at hlay
    have h6 := u_store hfc hkC hkind hlay hi (hty k hkN) hn hfit
    exact W.putK hx hb (f := f) ⟨hown, hT.t i hlink rfl, ⟨_, _, _, hsame s hT _ hi⟩, hst⟩ (by rw [q2]; exact h6) q1 q3 (by rw [hsl]; exact k2_hasslot (q4 k hkN)) rfl rfl hd hgo
  · rw [if_pos hf] at hlay
    have hcf : m.cls = cf := by
      obtain ⟨_, _, c', _, _, _, -, -, hf', -, -, -, hown2, -⟩ := Cond.laysFinal_spec hlay
      have e1 : c' = cf := by have := hi.symm.trans hf'; simp at this; exact this.1.symm
      rw [hf3] at hown2
      rw [← e1]; exact Option.some.inj (hown.symm.trans hown2)
    have h6 := u_fits hfc hkC hkind (Or.inr hlay) hi (hty k hkN) hn hfit
    exact W.putFinK hx hb hown (hT.t i hlink rfl) (hsame s hT _ hi) hst hcf (hmn.trans hf2) (by rw [q2]; exact h6) q1 q3 (by rw [hsl]; exact k2_hasslot (q4 k hkN)) rfl rfl hd hgo
theorem zin_ix {x : Int32} {j N : Nat} (hj : x = nI j) (hlt : j < N) (h31 : j < 2147483648) : vp_in x N ∧ x.toNatClampNeg = j := by
  subst hj
  have hc : (nI j).toNatClampNeg = j := nI_clamp h31
  refine ⟨fun q => ?_, hc⟩
  rcases q with q | q
  · exact nI_pos h31 q
  · rw [hc] at q; omega
theorem aw_iaload {x : Int32} (j : Nat) (hk : K a = 21) (hj : x = nI j) (hlt : j < n a) (h31 : j < 2147483648) (hd : decode M.2.1 pc = .ok (.iaload, 1))
    (kk : AW E M (K, n, I, F, J) cb sb Q (pc + 1) lv (.int (I a j) :: st)) : AW E M (K, n, I, F, J) cb sb Q pc lv (.int x :: .ref a :: st) := by
  intro p l e R s m args below meth c H locs cells slots ls ok hR hL hc hs hl
  obtain ⟨hx, hb, -, -, -, hown, hmn, -, -, -, hT, hK, -⟩ := id ok
  have hP := hR.at (a := a) (by show K a ≠ 0; omega)
  rw [zcell_i (h := (K, n, I, F, J)) hk] at hP
  obtain ⟨h1, h2⟩ := zin_ix hj hlt h31
  have := va_iald (D := E.1) (cl := zcl) (pc := pc) (ls := ls) (rest := st) (Q := zEnd E R s below Q) (locs := locs) (cells := cells) (slots := slots) (below := below) (p := p) (l := l) (e := e) (R := R) (m := m) (args := args) (meth := meth) (c := c) hx hb hK hP 0 1 rfl rfl h1 hd
  rw [h2] at this
  exact this (kk p l e R s m args below meth c H locs cells slots ls ok hR hL hc hs hl)
theorem aw_baload {x : Int32} (j : Nat) (hk : K a = 20) (hj : x = nI j) (hlt : j < n a) (h31 : j < 2147483648) (hd : decode M.2.1 pc = .ok (.baload, 1))
    (kk : AW E M (K, n, I, F, J) cb sb Q (pc + 1) lv (.int (I a j) :: st)) : AW E M (K, n, I, F, J) cb sb Q pc lv (.int x :: .ref a :: st) := by
  intro p l e R s m args below meth c H locs cells slots ls ok hR hL hc hs hl
  obtain ⟨hx, hb, -, -, -, hown, hmn, -, -, -, hT, hK, -⟩ := id ok
  have hP := hR.at (a := a) (by show K a ≠ 0; omega)
  rw [zcell_b (h := (K, n, I, F, J)) hk] at hP
  obtain ⟨h1, h2⟩ := zin_ix hj hlt h31
  have := va_bald (D := E.1) (cl := zcl) (pc := pc) (ls := ls) (rest := st) (Q := zEnd E R s below Q) (locs := locs) (cells := cells) (slots := slots) (below := below) (p := p) (l := l) (e := e) (R := R) (m := m) (args := args) (meth := meth) (c := c) hx hb hK hP 0 0 rfl rfl h1 hd
  rw [h2] at this
  exact this (kk p l e R s m args below meth c H locs cells slots ls ok hR hL hc hs hl)
theorem aw_laload {x : Int32} (j : Nat) (hk : K a = 22) (hj : x = nI j) (hlt : j < n a) (h31 : j < 2147483648) (hd : decode M.2.1 pc = .ok (.laload, 1))
    (kk : AW E M (K, n, I, F, J) cb sb Q (pc + 1) lv (.long (J a j) :: st)) : AW E M (K, n, I, F, J) cb sb Q pc lv (.int x :: .ref a :: st) := by
  intro p l e R s m args below meth c H locs cells slots ls ok hR hL hc hs hl
  obtain ⟨hx, hb, -, -, -, hown, hmn, -, -, -, hT, hK, -⟩ := id ok
  have hP := hR.at (a := a) (by show K a ≠ 0; omega)
  rw [zcell_j (h := (K, n, I, F, J)) hk] at hP
  obtain ⟨h1, h2⟩ := zin_ix hj hlt h31
  have := va_lald (D := E.1) (cl := zcl) (pc := pc) (ls := ls) (rest := st) (Q := zEnd E R s below Q) (locs := locs) (cells := cells) (slots := slots) (below := below) (p := p) (l := l) (e := e) (R := R) (m := m) (args := args) (meth := meth) (c := c) hx hb hK hP 0 2 rfl rfl h1 hd
  rw [h2] at this
  exact this (kk p l e R s m args below meth c H locs cells slots ls ok hR hL hc hs hl)
theorem aw_aaload {x : Int32} (j : Nat) (hk : K a = 23) (hj : x = nI j) (hlt : j < n a) (h31 : j < 2147483648) (hd : decode M.2.1 pc = .ok (.aaload, 1))
    (kk : AW E M (K, n, I, F, J) cb sb Q (pc + 1) lv (va_rf (F a j) :: st)) : AW E M (K, n, I, F, J) cb sb Q pc lv (.int x :: .ref a :: st) := by
  intro p l e R s m args below meth c H locs cells slots ls ok hR hL hc hs hl
  obtain ⟨hx, hb, -, -, -, hown, hmn, -, -, -, hT, hK, -⟩ := id ok
  have hP := hR.at (a := a) (by show K a ≠ 0; omega)
  rw [zcell_r (h := (K, n, I, F, J)) hk] at hP
  obtain ⟨h1, h2⟩ := zin_ix hj hlt h31
  have := va_aldq (D := E.1) (cl := zcl) (pc := pc) (ls := ls) (rest := st) (Q := zEnd E R s below Q) (locs := locs) (cells := cells) (slots := slots) (below := below) (p := p) (l := l) (e := e) (R := R) (m := m) (args := args) (meth := meth) (c := c) hx hb hK hP 0 3 rfl rfl h1 hd
  rw [h2] at this
  exact this (kk p l e R s m args below meth c H locs cells slots ls ok hR hL hc hs hl)
theorem aw_alen (hk : 20 ≤ K a) (hk2 : K a ≤ 23) (hd : decode M.2.1 pc = .ok (.arraylength, 1))
    (kk : AW E M (K, n, I, F, J) cb sb Q (pc + 1) lv (.int (nI (n a)) :: st)) : AW E M (K, n, I, F, J) cb sb Q pc lv (.ref a :: st) := by
  intro p l e R s m args below meth c H locs cells slots ls ok hR hL hc hs hl
  obtain ⟨hx, hb, -, -, -, hown, hmn, -, -, -, hT, hK, -⟩ := id ok
  have hP := hR.at (a := a) (by show K a ≠ 0; omega)
  have hgo := kk p l e R s m args below meth c H locs cells slots ls ok hR hL hc hs hl
  rcases (show K a = 20 ∨ K a = 21 ∨ K a = 22 ∨ K a = 23 by omega) with h1 | h1 | h1 | h1
  · rw [zcell_b (h := (K, n, I, F, J)) h1] at hP
    exact va_alen (D := E.1) (cl := zcl) hx hb hK hP 0 0 rfl rfl rfl hd hgo
  · rw [zcell_i (h := (K, n, I, F, J)) h1] at hP
    exact va_alen (D := E.1) (cl := zcl) hx hb hK hP 0 1 rfl rfl rfl hd hgo
  · rw [zcell_j (h := (K, n, I, F, J)) h1] at hP
    exact va_alen (D := E.1) (cl := zcl) hx hb hK hP 0 2 rfl rfl rfl hd hgo
  · rw [zcell_r (h := (K, n, I, F, J)) h1] at hP
    exact va_alen (D := E.1) (cl := zcl) hx hb hK hP 0 3 rfl rfl rfl hd hgo
theorem zupd_va (f : Nat → Int32) (k : Nat) (x : Int32) : (fun j => (.int (va_up f k x j) : Value)) = updV (fun j => .int (f j)) k (.int x) := by
  funext q
  by_cases hq : q = k <;> simp [updV, va_up, hq]
theorem zupd_vl (f : Nat → Int64) (k : Nat) (x : Int64) : (fun j => (.long (va_up f k x j) : Value)) = updV (fun j => .long (f j)) k (.long x) := by
  funext q
  by_cases hq : q = k <;> simp [updV, va_up, hq]
theorem zupd_vr (f : Nat → Option Nat) (k : Nat) (x : Option Nat) : (fun j => va_rf (va_up f k x j)) = updV (fun j => va_rf (f j)) k (va_rf x) := by
  funext q
  by_cases hq : q = k <;> simp [updV, va_up, hq]
theorem zL9 {E : zE} {h : zH} {H : Heap} {locs : List Loc} {a k : Nat} (hR : zRep E h H) (ha : h.1 a ≠ 0) (hL : ∀ q ∈ locs, E.2.2.size ≤ q.base) : ∀ q ∈ locs ++ [⟨a, k⟩], E.2.2.size ≤ q.base := by
  intro q hq
  rcases List.mem_append.mp hq with h5 | h5
  · exact hL q h5
  · rw [List.mem_singleton.mp h5]
    exact (hR.2.2 a ha).1
theorem aw_iastore {x y : Int32} (j : Nat) (hk : K a = 21) (hj : x = nI j) (hlt : j < n a) (h31 : j < 2147483648) (hd : decode M.2.1 pc = .ok (.iastore, 1))
    (kk : AW E M (K, n, zup I a j y, F, J) cb sb Q (pc + 1) lv st) : AW E M (K, n, I, F, J) cb sb Q pc lv (.int y :: .int x :: .ref a :: st) := by
  intro p l e R s m args below meth c H locs cells slots ls ok hR hL hc hs hl
  obtain ⟨hx, hb, -, -, -, hown, hmn, -, -, -, hT, hK, -⟩ := id ok
  have ha : (K, n, I, F, J).1 a ≠ 0 := by show K a ≠ 0; omega
  have hP := hR.at ha
  rw [zcell_i (h := (K, n, I, F, J)) hk] at hP
  obtain ⟨h1, h2⟩ := zin_ix hj hlt h31
  refine W.iast hx hb (hP 0 _ rfl) ((hK.2 1 _ rfl).1 (n a) (fun j => .int (I a j))) (fun q => by cases q) (by show ¬ (x < 0 ∨ (arrV _ _ _).slots.size ≤ _); rw [arrV_size]; exact h1) rfl rfl hd fun H1 e1 z oq => ?_
  rw [h2] at e1
  refine kk p l e R s m args below meth c H1 _ cells slots ls ok (hR.put ha rfl z oq ?_ ?_) (zL9 hR ha hL) hc hs hl
  · rw [zcell_i (h := (K, n, zup I a j y, F, J)) hk]
    show H1[a]? = some (vp_cell (E.2.1 1) (n a, .inl (zup I a j y a)))
    rw [e1, zup_self]
    show some ((arrV (E.2.1 1) (n a) (fun q => .int (I a q))).setSlot j (.int y)) = some (arrV (E.2.1 1) (n a) (fun q => .int (va_up (I a) j y q)))
    rw [zupd_va, arrV_store]
  · intro b hb2
    unfold zcell
    show _ = _
    simp only [zup_ne I j y hb2]
theorem aw_bastore {x y : Int32} (j : Nat) (hk : K a = 20) (hj : x = nI j) (hlt : j < n a) (h31 : j < 2147483648) (hd : decode M.2.1 pc = .ok (.bastore, 1))
    (kk : AW E M (K, n, zup I a j y.toInt8.toInt32, F, J) cb sb Q (pc + 1) lv st) : AW E M (K, n, I, F, J) cb sb Q pc lv (.int y :: .int x :: .ref a :: st) := by
  intro p l e R s m args below meth c H locs cells slots ls ok hR hL hc hs hl
  obtain ⟨hx, hb, -, -, -, hown, hmn, -, -, -, hT, hK, -⟩ := id ok
  have ha : (K, n, I, F, J).1 a ≠ 0 := by show K a ≠ 0; omega
  have hP := hR.at ha
  rw [zcell_b (h := (K, n, I, F, J)) hk] at hP
  obtain ⟨h1, h2⟩ := zin_ix hj hlt h31
  refine W.bast hx hb (hP 0 _ rfl) ((hK.2 0 _ rfl).1 (n a) (fun j => .int (I a j))) (fun q => by cases q) (by show ¬ (x < 0 ∨ (arrV _ _ _).slots.size ≤ _); rw [arrV_size]; exact h1) rfl rfl hd fun H1 e1 z oq => ?_
  rw [h2] at e1
  refine kk p l e R s m args below meth c H1 _ cells slots ls ok (hR.put ha rfl z oq ?_ ?_) (zL9 hR ha hL) hc hs hl
  · rw [zcell_b (h := (K, n, zup I a j y.toInt8.toInt32, F, J)) hk]
    show H1[a]? = some (vp_cell (E.2.1 0) (n a, .inl (zup I a j y.toInt8.toInt32 a)))
    rw [e1, zup_self]
    show some ((arrV (E.2.1 0) (n a) (fun q => .int (I a q))).setSlot j (.int y.toInt8.toInt32)) = some (arrV (E.2.1 0) (n a) (fun q => .int (va_up (I a) j y.toInt8.toInt32 q)))
    rw [zupd_va, arrV_store]
  · intro b hb2
    unfold zcell
    show _ = _
    simp only [zup_ne I j y.toInt8.toInt32 hb2]
theorem aw_lastore {x : Int32} {y : Int64} (j : Nat) (hk : K a = 22) (hj : x = nI j) (hlt : j < n a) (h31 : j < 2147483648) (hd : decode M.2.1 pc = .ok (.lastore, 1))
    (kk : AW E M (K, n, I, F, zup J a j y) cb sb Q (pc + 1) lv st) : AW E M (K, n, I, F, J) cb sb Q pc lv (.long y :: .int x :: .ref a :: st) := by
  intro p l e R s m args below meth c H locs cells slots ls ok hR hL hc hs hl
  obtain ⟨hx, hb, -, -, -, hown, hmn, -, -, -, hT, hK, -⟩ := id ok
  have ha : (K, n, I, F, J).1 a ≠ 0 := by show K a ≠ 0; omega
  have hP := hR.at ha
  rw [zcell_j (h := (K, n, I, F, J)) hk] at hP
  obtain ⟨h1, h2⟩ := zin_ix hj hlt h31
  refine W.last hx hb (hP 0 _ rfl) ((hK.2 2 _ rfl).1 (n a) (fun j => .long (J a j))) (fun q => by cases q) (by show ¬ (x < 0 ∨ (arrV _ _ _).slots.size ≤ _); rw [arrV_size]; exact h1) rfl rfl hd fun H1 e1 z oq => ?_
  rw [h2] at e1
  refine kk p l e R s m args below meth c H1 _ cells slots ls ok (hR.put ha rfl z oq ?_ ?_) (zL9 hR ha hL) hc hs hl
  · rw [zcell_j (h := (K, n, I, F, zup J a j y)) hk]
    show H1[a]? = some (vp_cell (E.2.1 2) (n a, .inr (.inl (zup J a j y a))))
    rw [e1, zup_self]
    show some ((arrV (E.2.1 2) (n a) (fun q => .long (J a q))).setSlot j (.long y)) = some (arrV (E.2.1 2) (n a) (fun q => .long (va_up (J a) j y q)))
    rw [zupd_vl, arrV_store]
  · intro b hb2
    unfold zcell
    show _ = _
    simp only [zup_ne J j y hb2]
theorem aw_new {idx N : Nat} (ci : Nat) {C : String} {T : u_T} (ty : Nat → FieldType) (hcl : zcl[ci]? = some (C, T, N)) (hci : ci < 10) (hin : ∀ w ∈ u_ws C T N, w ∈ tables_1) (hty : ∀ k, k < N → parseFieldDescriptor (T k).2.2.1 = some (ty k)) (i1 i2 i3 : Nat) (hlink : tables_1[i1]? = some (.classLink M.1.cls idx C)) (hinst : tables_1[i2]? = some (.instantiable C N)) (hini : tables_1[i3]? = some (.initialized C)) (hfs : ∀ j, j < N → defaultValue (ty j) = vp_V (zfs (ci + 1) (fun _ => 0) (fun _ => none)) j) (hd : decode M.2.1 pc = .ok (.new idx, 3))
    (kk : ∀ q : Nat, K q = 0 → AW E M (va_up K q (ci + 1), n, va_up I q (fun _ => 0), va_up F q (fun _ => none), J) cb sb Q (pc + 3) lv (.ref q :: st)) : AW E M (K, n, I, F, J) (cb + 1) (sb + N) Q pc lv st := by
  intro p l e R s m args below meth c H locs cells slots ls ok hR hL hc hs hl
  obtain ⟨hx, hb, -, -, -, hown, hmn, -, -, -, hT, hK, -⟩ := id ok
  have hKn := hK.1 ci _ hcl
  refine W.newcK hx hb hown (hT.t i1 hlink rfl) (hT.t i2 hinst rfl) (hT.t i3 hini rfl) rfl hd (by omega) (by omega) hKn.2.1 rfl fun H1 kC hkC e1 z1 o1 => ?_
  refine kk H.size hR.fresh p l e R s m args below meth c H1 locs (cells + 1) (slots + N) ls ok (hR.new (k := ci + 1) rfl z1 o1 ?_ ?_) hL (by omega) (by omega) hl
  · rw [zcell_o (k := ci + 1) (va_up_self K H.size (ci + 1)) (by omega)]
    show va_at E.1 zcl (H.size, .inr (ci, zfs (ci + 1) (va_up I H.size (fun _ => 0) H.size) (va_up F H.size (fun _ => none) H.size))) H1
    rw [va_up_self, va_up_self]
    exact ⟨_, hcl, (u_born ty (hT.all (a := args)) (zin_good hin) hKn hkC e1 hty).to hfs⟩
  · intro b hb2
    unfold zcell
    show _ = _
    simp only [va_up_ne K (ci + 1) hb2, va_up_ne I (fun _ => (0 : Int32)) hb2, va_up_ne F (fun _ => (none : Option Nat)) hb2]
theorem aw_newI {x : Int32} (N : Nat) (hx0 : x = nI N) (hN : N ≤ 100000) (i1 : Nat) (harr : tables_1[i1]? = some (.arrayClass .int)) (hd : decode M.2.1 pc = .ok (.newarray .int, 2))
    (kk : ∀ q : Nat, K q = 0 → AW E M (va_up K q 21, va_up n q N, va_up I q (fun _ => 0), F, J) cb sb Q (pc + 2) lv (.ref q :: st)) : AW E M (K, n, I, F, J) (cb + 1) (sb + N) Q pc lv (.int x :: st) := by
  intro p l e R s m args below meth c H locs cells slots ls ok hR hL hc hs hl
  obtain ⟨hx, hb, -, -, -, hown, hmn, -, -, -, hT, hK, -⟩ := id ok
  subst hx0
  refine va_newaK (atype := .int) (N := N) hx hb (hT.t i1 harr rfl) rfl hd rfl (nI_pos (by omega)) (nI_clamp (by omega)) (by show N * 4 ≤ _; omega) (by omega) (by omega) rfl fun H1 cA e1 z1 o1 hAr hNm => ?_
  have hcA : cA = E.2.1 1 := by
    have h1 := (hK.2 1 _ rfl).2
    exact Option.some.inj (hNm.symm.trans h1)
  subst hcA
  refine kk H.size hR.fresh p l e R s m args below meth c H1 locs (cells + 1) (slots + N) ls ok (hR.new (k := 21) rfl z1 o1 ?_ ?_) hL (by omega) (by omega) hl
  · rw [zcell_i (h := (va_up K H.size 21, va_up n H.size N, va_up I H.size (fun _ => 0), F, J)) (va_up_self K H.size 21)]
    show H1[H.size]? = some (vp_cell (E.2.1 1) (va_up n H.size N H.size, .inl (va_up I H.size (fun _ => 0) H.size)))
    rw [va_up_self, va_up_self, e1]
    rfl
  · intro b hb2
    unfold zcell
    show _ = _
    simp only [va_up_ne K 21 hb2, va_up_ne n N hb2, va_up_ne I (fun _ => (0 : Int32)) hb2]
theorem aw_newB {x : Int32} (N : Nat) (hx0 : x = nI N) (hN : N ≤ 100000) (i1 : Nat) (harr : tables_1[i1]? = some (.arrayClass .byte)) (hd : decode M.2.1 pc = .ok (.newarray .byte, 2))
    (kk : ∀ q : Nat, K q = 0 → AW E M (va_up K q 20, va_up n q N, va_up I q (fun _ => 0), F, J) cb sb Q (pc + 2) lv (.ref q :: st)) : AW E M (K, n, I, F, J) (cb + 1) (sb + N) Q pc lv (.int x :: st) := by
  intro p l e R s m args below meth c H locs cells slots ls ok hR hL hc hs hl
  obtain ⟨hx, hb, -, -, -, hown, hmn, -, -, -, hT, hK, -⟩ := id ok
  subst hx0
  refine va_newaK (atype := .byte) (N := N) hx hb (hT.t i1 harr rfl) rfl hd rfl (nI_pos (by omega)) (nI_clamp (by omega)) (by show N * 1 ≤ _; omega) (by omega) (by omega) rfl fun H1 cA e1 z1 o1 hAr hNm => ?_
  have hcA : cA = E.2.1 0 := by
    have h1 := (hK.2 0 _ rfl).2
    exact Option.some.inj (hNm.symm.trans h1)
  subst hcA
  refine kk H.size hR.fresh p l e R s m args below meth c H1 locs (cells + 1) (slots + N) ls ok (hR.new (k := 20) rfl z1 o1 ?_ ?_) hL (by omega) (by omega) hl
  · rw [zcell_b (h := (va_up K H.size 20, va_up n H.size N, va_up I H.size (fun _ => 0), F, J)) (va_up_self K H.size 20)]
    show H1[H.size]? = some (vp_cell (E.2.1 0) (va_up n H.size N H.size, .inl (va_up I H.size (fun _ => 0) H.size)))
    rw [va_up_self, va_up_self, e1]
    rfl
  · intro b hb2
    unfold zcell
    show _ = _
    simp only [va_up_ne K 20 hb2, va_up_ne n N hb2, va_up_ne I (fun _ => (0 : Int32)) hb2]
theorem aw_newJ {x : Int32} (N : Nat) (hx0 : x = nI N) (hN : N ≤ 100000) (i1 : Nat) (harr : tables_1[i1]? = some (.arrayClass .long)) (hd : decode M.2.1 pc = .ok (.newarray .long, 2))
    (kk : ∀ q : Nat, K q = 0 → AW E M (va_up K q 22, va_up n q N, I, F, va_up J q (fun _ => 0)) cb sb Q (pc + 2) lv (.ref q :: st)) : AW E M (K, n, I, F, J) (cb + 1) (sb + N) Q pc lv (.int x :: st) := by
  intro p l e R s m args below meth c H locs cells slots ls ok hR hL hc hs hl
  obtain ⟨hx, hb, -, -, -, hown, hmn, -, -, -, hT, hK, -⟩ := id ok
  subst hx0
  refine va_newaK (atype := .long) (N := N) hx hb (hT.t i1 harr rfl) rfl hd rfl (nI_pos (by omega)) (nI_clamp (by omega)) (by show N * 8 ≤ _; omega) (by omega) (by omega) rfl fun H1 cA e1 z1 o1 hAr hNm => ?_
  have hcA : cA = E.2.1 2 := by
    have h1 := (hK.2 2 _ rfl).2
    exact Option.some.inj (hNm.symm.trans h1)
  subst hcA
  refine kk H.size hR.fresh p l e R s m args below meth c H1 locs (cells + 1) (slots + N) ls ok (hR.new (k := 22) rfl z1 o1 ?_ ?_) hL (by omega) (by omega) hl
  · rw [zcell_j (h := (va_up K H.size 22, va_up n H.size N, I, F, va_up J H.size (fun _ => 0))) (va_up_self K H.size 22)]
    show H1[H.size]? = some (vp_cell (E.2.1 2) (va_up n H.size N H.size, .inr (.inl (va_up J H.size (fun _ => 0) H.size))))
    rw [va_up_self, va_up_self, e1]
    rfl
  · intro b hb2
    unfold zcell
    show _ = _
    simp only [va_up_ne K 22 hb2, va_up_ne n N hb2, va_up_ne J (fun _ => (0 : Int64)) hb2]
theorem aw_ldc {idx : Nat} {v : Int32} (i : Nat) (hw : tables_1[i]? = some (.constant M.1.cls idx v)) (hd : decode M.2.1 pc = .ok (.ldc idx, 2)) (kk : AW E M h cb sb Q (pc + 2) lv (.int v :: st)) : AW E M h cb sb Q pc lv st :=
  fun p l e R s m args below meth c H locs cells slots ls ok hR hL hc hs hl => lv_ldc ok.1 ok.2.1 ok.2.2.2.2.2.1 (ok.2.2.2.2.2.2.2.2.2.2.1.t i hw rfl) hd (kk p l e R s m args below meth c H locs cells slots ls ok hR hL hc hs hl)
theorem aw_ldcw {idx : Nat} {v : Int32} (i : Nat) (hw : tables_1[i]? = some (.constant M.1.cls idx v)) (hd : decode M.2.1 pc = .ok (.ldc_w idx, 3)) (kk : AW E M h cb sb Q (pc + 3) lv (.int v :: st)) : AW E M h cb sb Q pc lv st :=
  fun p l e R s m args below meth c H locs cells slots ls ok hR hL hc hs hl => lv_ldcw ok.1 ok.2.1 ok.2.2.2.2.2.1 (ok.2.2.2.2.2.2.2.2.2.2.1.t i hw rfl) hd (kk p l e R s m args below meth c H locs cells slots ls ok hR hL hc hs hl)
theorem aw_ldc2 {idx : Nat} {v : Int64} (i : Nat) (hw : tables_1[i]? = some (.constantLong M.1.cls idx v)) (hd : decode M.2.1 pc = .ok (.ldc2_w idx, 3)) (kk : AW E M h cb sb Q (pc + 3) lv (.long v :: st)) : AW E M h cb sb Q pc lv st :=
  fun p l e R s m args below meth c H locs cells slots ls ok hR hL hc hs hl => lv_ldc2 ok.1 ok.2.1 ok.2.2.2.2.2.1 (ok.2.2.2.2.2.2.2.2.2.2.1.t i hw rfl) hd (kk p l e R s m args below meth c H locs cells slots ls ok hR hL hc hs hl)
/-- a reference or null out of a local variable, into one -/
theorem aw_aload_nR {k : Fin 4} {r : Option Nat} (hd : decode M.2.1 pc = .ok (.aload_n k, 1)) (hv : lv[(k : Nat)]? = some (some (va_rf r))) (kk : AW E M h cb sb Q (pc + 1) lv (va_rf r :: st)) : AW E M h cb sb Q pc lv st := by
  cases r with
  | none => exact aw_aload_nN hd hv kk
  | some b => exact aw_aload_n hd hv kk
theorem aw_aloadR {k : Nat} {r : Option Nat} (hd : decode M.2.1 pc = .ok (.aload k, 2)) (hv : lv[k]? = some (some (va_rf r))) (kk : AW E M h cb sb Q (pc + 2) lv (va_rf r :: st)) : AW E M h cb sb Q pc lv st := by
  cases r with
  | none => exact aw_aloadN hd hv kk
  | some b => exact aw_aload hd hv kk
theorem aw_astore_nR {k : Fin 4} {r : Option Nat} (hd : decode M.2.1 pc = .ok (.astore_n k, 1)) (hk : (k : Nat) < M.2.2.1) (kk : AW E M h cb sb Q (pc + 1) (zst lv k (va_rf r)) st) : AW E M h cb sb Q pc lv (va_rf r :: st) := by
  cases r with
  | none => exact aw_astore_nN hd hk kk
  | some b => exact aw_astore_n hd hk kk
theorem aw_astoreR {k : Nat} {r : Option Nat} (hd : decode M.2.1 pc = .ok (.astore k, 2)) (hk : k < M.2.2.1) (kk : AW E M h cb sb Q (pc + 2) (zst lv k (va_rf r)) st) : AW E M h cb sb Q pc lv (va_rf r :: st) := by
  cases r with
  | none => exact aw_astoreN hd hk kk
  | some b => exact aw_astore hd hk kk
/-- the returns -/
theorem aw_ireturn {x : Int32} (ty : FieldType) (hr : M.2.2.2.1 = some ty) (hn : narrow ty (.int x) = .int x) (hd : decode M.2.1 pc = .ok (.ireturn, 1)) (hq : Q (.inl (some (.int x))) h) : AW E M h cb sb Q pc lv [.int x] := by
  intro p l e R s m args below meth c H locs cells slots ls ok hR hL hc hs hl T hT X0
  have X := stand_widen X0 (k := R.cells) (n := R.slots) (by omega) (by omega)
  obtain ⟨hx, hb, -, hret9, hlocks, -⟩ := ok
  rw [hr] at hret9
  obtain ⟨fs, hret, hrun, hended, hW, hframe⟩ := X.leave (v := some (.int x)) (fun q => by rw [hret9] at q; cases q) hlocks
  have hmeth' : T.vm.method? m = some meth := X.method'
  refine ⟨T.setFrames fs, ?_, .returned (some (.int x)), locs, .inl (some (.int x)), h, hrun, hended, hW, hframe, hL, ?_, rfl, hq⟩
  · jvm_step X.here [X.here.top, hx, hb, hd, hmeth', hret9, hn]
    (try refine ⟨rfl, ?_⟩); (try refine ⟨rfl, ?_⟩)
    first | (intro acts; rw [hret _ acts rfl rfl rfl]) | rw [hret _ _ rfl rfl rfl]
    exact Steps.refl _
  · show zRep E h T.heap
    rw [hT]; exact hR
theorem aw_lreturn {x : Int64} (hr : M.2.2.2.1 = some .long) (hd : decode M.2.1 pc = .ok (.lreturn, 1)) (hq : Q (.inl (some (.long x))) h) : AW E M h cb sb Q pc lv [.long x] := by
  intro p l e R s m args below meth c H locs cells slots ls ok hR hL hc hs hl T hT X0
  have X := stand_widen X0 (k := R.cells) (n := R.slots) (by omega) (by omega)
  obtain ⟨hx, hb, -, hret9, hlocks, -⟩ := ok
  rw [hr] at hret9
  obtain ⟨fs, hret, hrun, hended, hW, hframe⟩ := X.leave (v := some (.long x)) (fun q => by rw [hret9] at q; cases q) hlocks
  have hmeth' : T.vm.method? m = some meth := X.method'
  refine ⟨T.setFrames fs, ?_, .returned (some (.long x)), locs, .inl (some (.long x)), h, hrun, hended, hW, hframe, hL, ?_, rfl, hq⟩
  · jvm_step X.here [X.here.top, hx, hb, hd, hmeth', hret9, narrow]
    (try refine ⟨rfl, ?_⟩); (try refine ⟨rfl, ?_⟩)
    first | (intro acts; rw [hret _ acts rfl rfl rfl]) | rw [hret _ _ rfl rfl rfl]
    exact Steps.refl _
  · show zRep E h T.heap
    rw [hT]; exact hR
theorem aw_return (hr : M.2.2.2.1 = none) (hd : decode M.2.1 pc = .ok (.return_, 1)) (hq : Q (.inl none) h) : AW E M h cb sb Q pc lv [] := by
  intro p l e R s m args below meth c H locs cells slots ls ok hR hL hc hs hl T hT X0
  have X := stand_widen X0 (k := R.cells) (n := R.slots) (by omega) (by omega)
  obtain ⟨hx, hb, -, hret9, hlocks, -⟩ := ok
  rw [hr] at hret9
  obtain ⟨fs, hret, hrun, hended, hW, hframe⟩ := X.leave (v := none) (fun q => rfl) hlocks
  have hmeth' : T.vm.method? m = some meth := X.method'
  refine ⟨T.setFrames fs, ?_, .returned none, locs, .inl none, h, hrun, hended, hW, hframe, hL, ?_, rfl, hq⟩
  · jvm_step X.here [X.here.top, hx, hb, hd, hmeth', hret9]
    (try refine ⟨rfl, ?_⟩); (try refine ⟨rfl, ?_⟩)
    first | (intro acts; rw [hret _ acts rfl rfl rfl]) | rw [hret _ _ rfl rfl rfl]
    exact Steps.refl _
  · show zRep E h T.heap
    rw [hT]; exact hR
theorem aw_areturn {r : Option Nat} (rt : FieldType) (hr : M.2.2.2.1 = some rt) (hrt : rt.isReference = true) (hd : decode M.2.1 pc = .ok (.areturn, 1)) (hq : Q (.inl (some (va_rf r))) h) : AW E M h cb sb Q pc lv [va_rf r] := by
  intro p l e R s m args below meth c H locs cells slots ls ok hR hL hc hs hl T hT X0
  have X := stand_widen X0 (k := R.cells) (n := R.slots) (by omega) (by omega)
  obtain ⟨hx, hb, -, hret9, hlocks, -⟩ := ok
  rw [hr] at hret9
  obtain ⟨fs, hret, hrun, hended, hW, hframe⟩ := X.leave (v := some (va_rf r)) (fun q => by rw [hret9] at q; cases q) hlocks
  have hmeth' : T.vm.method? m = some meth := X.method'
  refine ⟨T.setFrames fs, ?_, .returned (some (va_rf r)), locs, .inl (some (va_rf r)), h, hrun, hended, hW, hframe, hL, ?_, rfl, hq⟩
  · have hg9 : ∀ acts, (doReturn e (T.setTop { method := m, pc := pc, locals := ls, stack := [], locked := none }) acts (some (va_rf r))).1 = T.setFrames fs := fun acts => hret _ acts rfl rfl rfl
    cases r with
    | none =>
      jvm_step X.here [X.here.top, hx, hb, hd, hmeth', hret9, va_rf]
      refine ⟨rfl, hrt, fun acts => ?_⟩
      have := hg9 acts
      rw [show va_rf none = Value.null from rfl] at this
      rw [this]
      exact Steps.refl _
    | some b =>
      jvm_step X.here [X.here.top, hx, hb, hd, hmeth', hret9, va_rf]
      refine ⟨rfl, hrt, fun acts => ?_⟩
      have := hg9 acts
      rw [show va_rf (some b) = Value.ref b from rfl] at this
      rw [this]
      exact Steps.refl _
  · show zRep E h T.heap
    rw [hT]; exact hR
end
end
section
-- ===== calls =====
theorem zSteps_weaken {tb : Tables} {e : Env} {mid below : List Frame} {a b : State} (h : Steps tb e (mid ++ below) a b) : Steps tb e below a b := by
  obtain ⟨n, hn, w⟩ := h
  exact ⟨n, hn, fun k hk => (w k hk).weaken⟩
def zar (vs : List Value) : List (Option Value) := (lg_sl vs).map (fun s => match s with | .val v => some v | _ => none)
theorem zar_L (vs : List Value) {n : Nat} (h : (lg_sl vs).length ≤ n) : zL ((lg_sl vs ++ List.replicate (n - (lg_sl vs).length) Slot.unset).toArray) n (zar vs) := by
  obtain ⟨h1, h2, -⟩ := lv_entry vs h
  refine ⟨h1, h2, fun i v hv => ?_⟩
  unfold zar at hv
  rw [List.getElem?_map] at hv
  cases hq : (lg_sl vs)[i]? with
  | none => simp [hq] at hv
  | some y =>
    rw [hq] at hv
    have hi : i < (lg_sl vs).length := (List.getElem?_eq_some_iff.mp hq).1
    rw [List.getElem?_toArray, List.getElem?_append_left hi, hq]
    cases y with
    | val w => simp at hv; rw [hv]
    | unset => simp at hv
    | second => simp at hv
/-- what the tables say of the code of M -/
def zCd (M : zM) (s : State) (mk : MethodId) : Prop := ∃ (methk : Method) (ck : Code), s.methodNamed? M.1 = some mk ∧ s.vm.method? mk = some methk ∧ methk.code = some ck ∧ ck.code = M.2.1 ∧ ck.maxLocals = M.2.2.1 ∧ methk.sig.returnType = M.2.2.2.1 ∧ methk.locks = false ∧
  ck.exceptionTable.toList.map (fun h => (h.startPc, h.endPc, h.handlerPc, h.catchType)) = M.2.2.2.2.2.2 ∧ parseMethodDescriptor M.1.desc = some methk.sig
theorem zCd.of {M : zM} {s : State} {mk : MethodId} {a : Array Value} (hn : s.methodNamed? M.1 = some mk) (h : (Cond.code M.1 M.2.1 M.2.2.1 M.2.2.2.1).before a s = true) (hh : M.2.2.2.2.2.2 = []) : zCd M s mk := by
  obtain ⟨meth, c, h1, h2, h3, h4, h5, h6, h7, h8⟩ := Cond.code_spec hn h
  refine ⟨meth, c, hn, h1, h2, h3, h4, h5, h6, ?_, h8⟩
  rw [hh]
  have : c.exceptionTable = #[] := by simpa using h7
  rw [this]
  rfl
theorem zCd.ofW {M : zM} {s : State} {mk : MethodId} {a : Array Value} (hn : s.methodNamed? M.1 = some mk) (h : (Cond.codeWith M.1 M.2.1 M.2.2.1 M.2.2.2.1 M.2.2.2.2.2.2).before a s = true) : zCd M s mk := by
  obtain ⟨m8, meth, c, hn8, h1, h2, h3, h4, h5, h6, h7, h8⟩ := Cond.codeWith_spec h
  cases Option.some.inj (hn8.symm.trans hn)
  exact ⟨meth, c, hn, h1, h2, h3, h4, h6, h7, h5, h8⟩
section
variable {p : Program} {l : Launch} {e : Env} {R : Room} {s : State} {m : MethodId} {args : Array Value} {below : List Frame} {meth : Method} {c : Code} {T : State} {locs : List Loc} {cells slots : Nat}
/-- into a method and out of it again -/
theorem z_call {E : zE} {M : zM} {h : zH} {c1 s1 : Nat} {Q : zO → zH → Prop} {lv0 : List (Option Value)} (X : Stand p l e R s m args below meth c T locs cells slots) (hx : p.tables.exec = Jvm.exec) (hS : zS E s) (hR : zRep E h T.heap) {g : JFrame} (hg : g.method = m) (hsize : g.locals.size = c.maxLocals) {ig : Instr} {len : Nat} (hdg : decode c.code g.pc = .ok (ig, len))
    {mk : MethodId} (a : List Value) (hcd : zCd M s mk) (hpl : plainFor M.1 = true) (hlen9 : (lg_sl a).length ≤ M.2.2.1) (hlv : zle lv0 (zar a)) (hfr : M.2.2.2.2.1 + 1 ≤ R.frames) (hlo : 2 * g.monitorRoom + (g.stack.map fun v => v.category).sum + (M.2.2.1 + 11) + M.2.2.2.2.2.1 ≤ R.locals) (hcells : cells + c1 ≤ R.cells) (hslots : slots + s1 ≤ R.slots)
    (kk : AW E M h c1 s1 Q 0 lv0 []) :
    ∃ (T' : State) (L : List Loc) (r : zO) (h' : zH), Stand p l e R s m args below meth c T' (locs ++ L) (cells + c1) (slots + s1) ∧ (∀ q ∈ L, E.2.2.size ≤ q.base) ∧ zRep E h' T'.heap ∧ Q r h' ∧
      (match r with
        | .inl v => Steps p.tables e below (doInvoke e (T.setTop g) [] mk a.toArray).1 (T'.setTop { g with pc := g.pc + len, stack := v.toList ++ g.stack })
        | .inr Y => ∃ (q : Nat) (ce : Cell), T'.heap[q]? = some ce ∧ ce.vm = .none ∧ s.vm.findClass Y = some ce.cls ∧ Steps p.tables e below (doInvoke e (T.setTop g) [] mk a.toArray).1 ((T'.setTop g).pushFrame (.throwing q))) := by
  obtain ⟨methk, ck, hn, hm, hck, h1, h2, h3, h4, h5, -⟩ := hcd
  have hnT := X.named hn
  have hmT : T.vm.method? mk = some methk := by rw [X.warmed.alike.method?]; exact hm
  obtain ⟨Y, hin⟩ := X.into hg hsize hdg a.toArray (R' := { frames := M.2.2.2.2.1, cells := c1, slots := s1, locals := M.2.2.2.2.2.1 }) hmT hck h4 (State.plainMethod.of_named hpl hnT hmT) hfr (by rw [h2]; exact hlo) hcells hslots
  have hUn : (T.calling g mk a.toArray).methodNamed? M.1 = some mk := hnT
  have hok : zOk E M p { frames := M.2.2.2.2.1, cells := c1, slots := s1, locals := M.2.2.2.2.2.1 } (T.calling g mk a.toArray) mk methk ck :=
    ⟨hx, h1, h2, h3, h4, findClass_of_methodNamed hUn, (name_of_methodNamed hUn hmT).1, Nat.le_refl _, Nat.le_refl _, h5, hS.warm (U := T.calling g mk a.toArray) X.warmed⟩
  rw [h2, lg_entry_eq] at hin Y
  have hT2 : ((T.setTop g).pushFrame (.java (F0 mk 0 (lg_sl a ++ List.replicate (M.2.2.1 - (lg_sl a).length) Slot.unset).toArray []))).heap = T.heap := rfl
  generalize (T.setTop g).pushFrame (.java (F0 mk 0 (lg_sl a ++ List.replicate (M.2.2.1 - (lg_sl a).length) Slot.unset).toArray [])) = T2 at hin Y hT2
  obtain ⟨t, st, o, L, r, h', hrun, hend, hW, hsame, hL, hR', hout, hq⟩ := aw_weak hlv kk p l e _ _ mk a.toArray (.java g :: below) methk ck T.heap [] 0 0 _ hok hR (fun q hq => by cases hq) (by simp) (by simp) (zar_L a hlen9) T2 hT2 Y
  cases r with
  | inl v =>
    have ho : o = .returned v := hout
    subst ho
    obtain ⟨T', X', hW', -, ht⟩ := X.outOf hg hdg hend hW hsame
    refine ⟨T', L, .inl v, h', X', hL, ?_, hq, ?_⟩
    · rw [ht] at hR'; exact hR'
    · show Steps p.tables e below _ (T'.setTop { g with pc := g.pc + len, stack := v.toList ++ g.stack })
      rw [← ht, hin]
      exact zSteps_weaken (mid := [.java g]) st
  | inr Z =>
    obtain ⟨q, ce, ho, hce, hcv, hcl⟩ := hout
    subst ho
    obtain ⟨T', X', hW', -, ht⟩ := X.outOfThrown hg hend hW hsame
    have hhp : T'.heap = t.heap := by rw [ht, Stand.throwing_heap]
    refine ⟨T', L, .inr Z, h', X', hL, by rw [hhp]; exact hR', hq, q, ce, by rw [hhp]; exact hce, hcv, ?_, ?_⟩
    · have hcl' : T.vm.findClass Z = some ce.cls := hcl
      rw [X.warmed.alike.findClass] at hcl'
      exact hcl'
    · rw [← ht, hin]
      exact zSteps_weaken (mid := [.java g]) st

/-- behind the call: the caller goes on, or the exception goes on to its caller -/
theorem z_back {E : zE} {M : zM} {h : zH} {c1 s1 c2 s2 : Nat} {Q Q' : zO → zH → Prop} {pc : Nat} {lv : List (Option Value)} {rest : List Value} {ls : Array Slot} {mk : MethodId} {a : Array Value} {T0 : State}
    (ok : zOk E M p R s m meth c) (hMh : M.2.2.2.2.2.2 = []) (hL : ∀ q ∈ locs, E.2.2.size ≤ q.base) (hc : cells + (c1 + c2) ≤ R.cells) (hs : slots + (s1 + s2) ≤ R.slots) (hl : zL ls M.2.2.1 lv)
    (hcall : ∃ (T' : State) (L : List Loc) (r : zO) (h' : zH), Stand p l e R s m args below meth c T' (locs ++ L) (cells + c1) (slots + s1) ∧ (∀ q ∈ L, E.2.2.size ≤ q.base) ∧ zRep E h' T'.heap ∧ Q' r h' ∧
      (match r with
        | .inl v => Steps p.tables e below (doInvoke e (T.setTop (F0 m pc ls rest)) [] mk a).1 (T'.setTop { F0 m pc ls rest with pc := (F0 m pc ls rest).pc + 3, stack := v.toList ++ (F0 m pc ls rest).stack })
        | .inr Y => ∃ (q : Nat) (ce : Cell), T'.heap[q]? = some ce ∧ ce.vm = .none ∧ s.vm.findClass Y = some ce.cls ∧ Steps p.tables e below (doInvoke e (T.setTop (F0 m pc ls rest)) [] mk a).1 ((T'.setTop (F0 m pc ls rest)).pushFrame (.throwing q))))
    (hstep : ∀ target, Steps p.tables e below (doInvoke e (T.setTop (F0 m pc ls rest)) [] mk a).1 target → Steps p.tables e below T0 target)
    (hQ : ∀ r h', Q' r h' → match r with | .inl v => AW E M h' c2 s2 Q (pc + 3) lv (v.toList ++ rest) | .inr Y => Q (.inr Y) h') : ∃ t, Steps p.tables e below T0 t ∧ zEnd E R s below Q t := by
  obtain ⟨T', L, r, h', X', hL', hR', hq, hst⟩ := hcall
  have hLL : ∀ q ∈ locs ++ L, E.2.2.size ≤ q.base := fun q hq9 => (List.mem_append.mp hq9).elim (hL q) (hL' q)
  cases r with
  | inl v =>
    have k := hQ _ _ hq
    obtain ⟨t, a1, b1⟩ := k p l e R s m args below meth c T'.heap _ _ _ ls ok hR' hLL (by omega) (by omega) hl T' rfl X'
    exact ⟨t, hstep t (hst.trans a1), b1⟩
  | inr Y =>
    obtain ⟨q, ce, hce, hcv, hcl, hst⟩ := hst
    have k := hQ _ _ hq
    have X2 := stand_widen X' (k := R.cells) (n := R.slots) (by omega) (by omega)
    obtain ⟨-, -, -, -, hlocks, -, -, -, -, hh, -⟩ := ok
    obtain ⟨b1, b2, b3, b4, b5⟩ := X2.leaveThrown q (g := F0 m pc ls rest) rfl rfl rfl (fun x hx => by
      rw [hMh] at hh
      have : x ∈ ([] : List ClassFile.ExceptionTableEntry) := by
        rw [List.map_eq_nil_iff.mp hh] at hx
        exact hx
      cases this) hlocks
    exact ⟨_, hstep _ (hst.trans b1), .threw q, _, .inr Y, h', b2, b3, b4, b5, hLL, hR', ⟨q, ce, rfl, hce, hcv, hcl⟩, k⟩
end
theorem zcat (v : Value) : v.category ≤ 2 := by cases v <;> simp [Value.category]
theorem zcats : ∀ st : List Value, (st.map fun v => v.category).sum ≤ 2 * st.length
  | [] => by simp
  | v :: st => by
    have := zcats st
    have := zcat v
    simp only [List.map_cons, List.sum_cons, List.length_cons]
    omega
def zAft (E : zE) (M : zM) (c2 s2 : Nat) (Q : zO → zH → Prop) (pc : Nat) (lv : List (Option Value)) (rest : List Value) : zO → zH → Prop := fun r h' => match r with
  | .inl v => AW E M h' c2 s2 Q (pc + 3) lv (v.toList ++ rest)
  | .inr Y => Q (.inr Y) h'
/-- numbers and words of a call -/
def zFit (M M' : zM) (na nr : Nat) : Prop := M'.1.cls ≠ "java/lang/invoke/MethodHandle" ∧ M'.1.cls ≠ "java/lang/invoke/VarHandle" ∧ (parseMethodDescriptor M'.1.desc).map (fun d => d.parameters.length) = some na ∧ plainFor M'.1 = true ∧ M'.2.2.2.2.1 + 1 ≤ M.2.2.2.2.1 ∧ 2 * nr + (M'.2.2.1 + 11) + M'.2.2.2.2.2.1 ≤ M.2.2.2.2.2.1
section
variable {E : zE} {M M' : zM} {h : zH} {c1 s1 c2 s2 : Nat} {Q : zO → zH → Prop} {pc idx : Nat} {lv lv0 : List (Option Value)} {st As rest : List Value}
theorem aw_callS (iL iS iC iI : Nat) (hL9 : tables_1[iL]? = some (.methodLink M.1.cls idx M'.1)) (hS9 : tables_1[iS]? = some (.static M'.1)) (hC9 : tables_1[iC]? = some (.code M'.1 M'.2.1 M'.2.2.1 M'.2.2.2.1)) (hI9 : tables_1[iI]? = some (.initialized M'.1.cls)) (hh : M'.2.2.2.2.2.2 = []) (hMh : M.2.2.2.2.2.2 = []) (hf : zFit M M' As.length rest.length) (hlen9 : (lg_sl As).length ≤ M'.2.2.1) (hlv : zle lv0 (zar As)) (hst : st = As.reverse ++ rest) (hd : decode M.2.1 pc = .ok (.invokestatic idx, 3))
    (kk : AW E M' h c1 s1 (zAft E M c2 s2 Q pc lv rest) 0 lv0 []) : AW E M h (c1 + c2) (s1 + s2) Q pc lv st := by
  subst hst
  intro p l e R s m args below meth c H locs cells slots ls ok hR hL hc hs hl T hT X
  subst hT
  obtain ⟨hx, hb, hml, -, -, hown, -, hfr, hlo, -, hS⟩ := id ok
  obtain ⟨hy1, hy2, hna, hpl, hf1, hf2⟩ := hf
  have hcode := hS.1.t iC hC9 rfl (a := args)
  obtain ⟨mk, hnamed⟩ := Cond.code_named hcode
  have hcd := zCd.of hnamed hcode hh
  obtain ⟨methM, cM, -, hmethM, -, -, -, -, -, -, hsigM⟩ := id hcd
  have hstatic : methM.isStatic = true := Cond.static_spec hnamed hmethM (hS.1.t iS hS9 rfl (a := args))
  obtain ⟨kP, hkP, -⟩ := className_of_methodNamed hnamed
  have hinitP : kP.init = .initialized := Cond.initialized_spec (findClass_of_methodNamed hnamed) hkP (hS.1.t iI hI9 rfl (a := args))
  have hlen : As.length = methM.sig.parameters.length := by rw [hsigM] at hna; exact (Option.some.inj hna).symm
  obtain ⟨vm₁, X₁, hstep₁⟩ := X.invokestatic hx hown (hS.1.t iL hL9 rfl) hnamed hmethM hstatic hkP hinitP ⟨hy1, hy2⟩ (g := F0 m pc ls (As.reverse ++ rest)) rfl (argsL := As) (rest := rest) hlen rfl (by rw [hb]; exact hd)
  have hz := zcats rest
  refine z_back (T := T.setVm vm₁) (h := h) ok hMh hL (c1 := c1) (s1 := s1) hc hs hl (z_call X₁ hx hS hR (g := F0 m pc ls rest) rfl (by rw [hml]; exact hl.1) (by rw [hb]; exact hd) As hcd hpl hlen9 hlv (by omega) (by show 2 * 0 + (rest.map fun v => v.category).sum + _ + _ ≤ _; omega) (by omega) (by omega) kk) (fun target hq => hstep₁ target fun acts => by rw [doInvoke_state]; exact hq) (fun r h' hq => hq)
theorem aw_callSN (iL iS iC iI : Nat) (host : String) (hL9 : tables_1[iL]? = some (.methodLinkNest M.1.cls idx M'.1 host)) (hS9 : tables_1[iS]? = some (.static M'.1)) (hC9 : tables_1[iC]? = some (.code M'.1 M'.2.1 M'.2.2.1 M'.2.2.2.1)) (hI9 : tables_1[iI]? = some (.initialized M'.1.cls)) (hh : M'.2.2.2.2.2.2 = []) (hMh : M.2.2.2.2.2.2 = []) (hf : zFit M M' As.length rest.length) (hlen9 : (lg_sl As).length ≤ M'.2.2.1) (hlv : zle lv0 (zar As)) (hst : st = As.reverse ++ rest) (hd : decode M.2.1 pc = .ok (.invokestatic idx, 3))
    (kk : AW E M' h c1 s1 (zAft E M c2 s2 Q pc lv rest) 0 lv0 []) : AW E M h (c1 + c2) (s1 + s2) Q pc lv st := by
  subst hst
  intro p l e R s m args below meth c H locs cells slots ls ok hR hL hc hs hl T hT X
  subst hT
  obtain ⟨hx, hb, hml, -, -, hown, -, hfr, hlo, -, hS⟩ := id ok
  obtain ⟨hy1, hy2, hna, hpl, hf1, hf2⟩ := hf
  have hcode := hS.1.t iC hC9 rfl (a := args)
  obtain ⟨mk, hnamed⟩ := Cond.code_named hcode
  have hcd := zCd.of hnamed hcode hh
  obtain ⟨methM, cM, -, hmethM, -, -, -, -, -, -, hsigM⟩ := id hcd
  have hstatic : methM.isStatic = true := Cond.static_spec hnamed hmethM (hS.1.t iS hS9 rfl (a := args))
  obtain ⟨kP, hkP, -⟩ := className_of_methodNamed hnamed
  have hinitP : kP.init = .initialized := Cond.initialized_spec (findClass_of_methodNamed hnamed) hkP (hS.1.t iI hI9 rfl (a := args))
  have hlen : As.length = methM.sig.parameters.length := by rw [hsigM] at hna; exact (Option.some.inj hna).symm
  obtain ⟨vm₁, X₁, hstep₁⟩ := X.invokestaticNest hx hown (hS.1.t iL hL9 rfl) hnamed hmethM hstatic hkP hinitP ⟨hy1, hy2⟩ (g := F0 m pc ls (As.reverse ++ rest)) rfl (argsL := As) (rest := rest) hlen rfl (by rw [hb]; exact hd)
  have hz := zcats rest
  refine z_back (T := T.setVm vm₁) (h := h) ok hMh hL (c1 := c1) (s1 := s1) hc hs hl (z_call X₁ hx hS hR (g := F0 m pc ls rest) rfl (by rw [hml]; exact hl.1) (by rw [hb]; exact hd) As hcd hpl hlen9 hlv (by omega) (by show 2 * 0 + (rest.map fun v => v.category).sum + _ + _ ≤ _; omega) (by omega) (by omega) kk) (fun target hq => hstep₁ target fun acts => by rw [doInvoke_state]; exact hq) (fun r h' hq => hq)
/-- a receiver of the ci-th class -/
theorem z_recv {E : zE} {h : zH} {H : Heap} {s : State} {b ci : Nat} {q : vw_C} (hR : zRep E h H) (hK : va_K E.1 zcl (zty E) s) (hcl : zcl[ci]? = some q) (hci : ci < 10) (hk : h.1 b = ci + 1) : ∃ cell : Cell, H[b]? = some cell ∧ cell.vm.isStatics = false ∧ s.vm.findClass q.1 = some cell.cls := by
  have hP := hR.at (a := b) (by omega)
  rw [zcell_o hk (by omega)] at hP
  exact va_recv hK hP (ci := ci) (q0 := 0) hcl rfl
theorem aw_callV {b : Nat} {q : vw_C} (ci : Nat) (iL iS iC : Nat) (hcl : zcl[ci]? = some q) (hci : ci < 10) (hq : q.1 = M'.1.cls) (hk : h.1 b = ci + 1) (hL9 : tables_1[iL]? = some (.methodLink M.1.cls idx M'.1)) (hS9 : tables_1[iS]? = some (.instanceMethod M'.1)) (hC9 : tables_1[iC]? = some (.code M'.1 M'.2.1 M'.2.2.1 M'.2.2.2.1)) (hsel9 : ∀ U, zT U → (Cond.selects M'.1.cls M'.1 M'.1).before #[] U = true) (hh : M'.2.2.2.2.2.2 = []) (hMh : M.2.2.2.2.2.2 = []) (hf : zFit M M' As.length rest.length) (hlen9 : (lg_sl (.ref b :: As)).length ≤ M'.2.2.1) (hlv : zle lv0 (zar (.ref b :: As))) (hst : st = As.reverse ++ .ref b :: rest) (hd : decode M.2.1 pc = .ok (.invokevirtual idx, 3))
    (kk : AW E M' h c1 s1 (zAft E M c2 s2 Q pc lv rest) 0 lv0 []) : AW E M h (c1 + c2) (s1 + s2) Q pc lv st := by
  subst hst
  intro p l e R s m args below meth c H locs cells slots ls ok hR hL hc hs hl T hT X
  subst hT
  obtain ⟨hx, hb, hml, -, -, hown, -, hfr, hlo, -, hS⟩ := id ok
  obtain ⟨hy1, hy2, hna, hpl, hf1, hf2⟩ := hf
  obtain ⟨cellB, hcell, hobj, hcls⟩ := z_recv hR hS.2.1 hcl hci hk
  rw [hq] at hcls
  have hcode := hS.1.t iC hC9 rfl (a := args)
  obtain ⟨mk, methM, hnamed, hmethM, hstM, habM⟩ := Cond.instanceMethod_spec (hS.1.t iS hS9 rfl (a := args))
  have hcd := zCd.of hnamed hcode hh
  obtain ⟨methM', cM, -, hmethM', -, -, -, -, -, -, hsigM⟩ := id hcd
  cases hmethM.symm.trans hmethM'
  obtain ⟨c2', r2, m2, q1, q2, q3, q4, kP, hkP, hkPi⟩ := Cond.selects_spec (hsel9 s hS.1)
  cases hcls.symm.trans q1
  cases (State.methodFound?_of_named hnamed ⟨hy1, hy2⟩).symm.trans q2
  cases hnamed.symm.trans q3
  have hselP : selectMethod e.platform s.vm cellB.cls mk = .method mk := by rw [Launch.admits_selectMethod X.admits]; exact q4
  have hlen : As.length = methM.sig.parameters.length := by rw [hsigM] at hna; exact (Option.some.inj hna).symm
  obtain ⟨vm₁, X₁, hstep₁⟩ := X.invokevirtual hx hown (hS.1.t iL hL9 rfl) hnamed hmethM hstM hkP hkPi ⟨hy1, hy2⟩ (a := b) (cell := cellB) hcell
    (fun z h => by rw [h] at hobj; cases hobj) hselP hmethM habM hkP hkPi (g := F0 m pc ls (As.reverse ++ .ref b :: rest)) rfl (argsL := As) (rest := rest) hlen rfl (by rw [hb]; exact hd)
  have hz := zcats rest
  refine z_back (T := T.setVm vm₁) (h := h) ok hMh hL (c1 := c1) (s1 := s1) hc hs hl (z_call X₁ hx hS hR (g := F0 m pc ls rest) rfl (by rw [hml]; exact hl.1) (by rw [hb]; exact hd) (.ref b :: As) hcd hpl hlen9 hlv (by omega) (by show 2 * 0 + (rest.map fun v => v.category).sum + _ + _ ≤ _; omega) (by omega) (by omega) kk) (fun target hq => hstep₁ target fun acts => by rw [doInvoke_state]; exact hq) (fun r h' hq => hq)
theorem aw_callI {b : Nat} (iL iS iC : Nat) (hL9 : tables_1[iL]? = some (.methodLink M.1.cls idx M'.1)) (hS9 : tables_1[iS]? = some (.instanceMethod M'.1)) (hC9 : tables_1[iC]? = some (.code M'.1 M'.2.1 M'.2.2.1 none)) (hr9 : M'.2.2.2.1 = none) (hnm : M'.1.name = "<init>") (hh : M'.2.2.2.2.2.2 = []) (hMh : M.2.2.2.2.2.2 = []) (hf : zFit M M' As.length rest.length) (hlen9 : (lg_sl (.ref b :: As)).length ≤ M'.2.2.1) (hlv : zle lv0 (zar (.ref b :: As))) (hst : st = As.reverse ++ .ref b :: rest) (hd : decode M.2.1 pc = .ok (.invokespecial idx, 3))
    (kk : AW E M' h c1 s1 (zAft E M c2 s2 Q pc lv rest) 0 lv0 []) : AW E M h (c1 + c2) (s1 + s2) Q pc lv st := by
  subst hst
  intro p l e R s m args below meth c H locs cells slots ls ok hR hL hc hs hl T hT X
  subst hT
  obtain ⟨hx, hb, hml, -, -, hown, -, hfr, hlo, -, hS⟩ := id ok
  obtain ⟨hy1, hy2, hna, hpl, hf1, hf2⟩ := hf
  have hcode := hS.1.t iC hC9 rfl (a := args)
  have hlen : ∀ sig, parseMethodDescriptor M'.1.desc = some sig → As.length = sig.parameters.length := fun sig h9 => by rw [h9] at hna; exact (Option.some.inj hna).symm
  have hpl9 : e.platform.magicAccessors = ({} : Platform).magicAccessors := by rw [X.admits.platform]
  obtain ⟨mk, methM, cM, kP, vm₁, hnamed, hmethM, hcodeM, -, hlocalsM, -, hkP, -, hW₁, hstep₁⟩ := Steps.initColdArgs (e := e) X.here hx X.warmed hpl9 hown hnm ⟨hy1, hy2⟩ (hS.1.t iL hL9 rfl) (hS.1.t iS hS9 rfl) hcode (f := F0 m pc ls (As.reverse ++ .ref b :: rest)) rfl hlen rfl (by rw [hb]; exact hd)
  have X₁ := X.noted hW₁
  have hcd : zCd M' s mk := zCd.of hnamed (a := args) (by rw [hr9]; exact hcode) hh
  have hz := zcats rest
  refine z_back (T := T.setVm vm₁) (h := h) ok hMh hL (c1 := c1) (s1 := s1) hc hs hl (z_call X₁ hx hS hR (g := F0 m pc ls rest) rfl (by rw [hml]; exact hl.1) (by rw [hb]; exact hd) (.ref b :: As) hcd hpl hlen9 hlv (by omega) (by show 2 * 0 + (rest.map fun v => v.category).sum + _ + _ ≤ _; omega) (by omega) (by omega) kk) (fun target hq => hstep₁ target fun acts => by rw [doInvoke_state]; exact hq) (fun r h' hq => hq)
theorem aw_callIN {b : Nat} (iL iS iC : Nat) (host : String) (hL9 : tables_1[iL]? = some (.methodLinkNest M.1.cls idx M'.1 host)) (hS9 : tables_1[iS]? = some (.instanceMethod M'.1)) (hC9 : tables_1[iC]? = some (.code M'.1 M'.2.1 M'.2.2.1 none)) (hr9 : M'.2.2.2.1 = none) (hnm : M'.1.name = "<init>") (hh : M'.2.2.2.2.2.2 = []) (hMh : M.2.2.2.2.2.2 = []) (hf : zFit M M' As.length rest.length) (hlen9 : (lg_sl (.ref b :: As)).length ≤ M'.2.2.1) (hlv : zle lv0 (zar (.ref b :: As))) (hst : st = As.reverse ++ .ref b :: rest) (hd : decode M.2.1 pc = .ok (.invokespecial idx, 3))
    (kk : AW E M' h c1 s1 (zAft E M c2 s2 Q pc lv rest) 0 lv0 []) : AW E M h (c1 + c2) (s1 + s2) Q pc lv st := by
  subst hst
  intro p l e R s m args below meth c H locs cells slots ls ok hR hL hc hs hl T hT X
  subst hT
  obtain ⟨hx, hb, hml, -, -, hown, -, hfr, hlo, -, hS⟩ := id ok
  obtain ⟨hy1, hy2, hna, hpl, hf1, hf2⟩ := hf
  have hcode := hS.1.t iC hC9 rfl (a := args)
  have hlen : ∀ sig, parseMethodDescriptor M'.1.desc = some sig → As.length = sig.parameters.length := fun sig h9 => by rw [h9] at hna; exact (Option.some.inj hna).symm
  have hpl9 : e.platform.magicAccessors = ({} : Platform).magicAccessors := by rw [X.admits.platform]
  obtain ⟨mk, methM, cM, kP, vm₁, hnamed, hmethM, hcodeM, -, hlocalsM, -, hkP, -, hW₁, hstep₁⟩ := Steps.initColdArgsNest (e := e) X.here hx X.warmed hpl9 hown hnm ⟨hy1, hy2⟩ (hS.1.t iL hL9 rfl) (hS.1.t iS hS9 rfl) hcode (f := F0 m pc ls (As.reverse ++ .ref b :: rest)) rfl hlen rfl (by rw [hb]; exact hd)
  have X₁ := X.noted hW₁
  have hcd : zCd M' s mk := zCd.of hnamed (a := args) (by rw [hr9]; exact hcode) hh
  have hz := zcats rest
  refine z_back (T := T.setVm vm₁) (h := h) ok hMh hL (c1 := c1) (s1 := s1) hc hs hl (z_call X₁ hx hS hR (g := F0 m pc ls rest) rfl (by rw [hml]; exact hl.1) (by rw [hb]; exact hd) (.ref b :: As) hcd hpl hlen9 hlv (by omega) (by show 2 * 0 + (rest.map fun v => v.category).sum + _ + _ ≤ _; omega) (by omega) (by omega) kk) (fun target hq => hstep₁ target fun acts => by rw [doInvoke_state]; exact hq) (fun r h' hq => hq)
/-- Object's own constructor -/
theorem aw_objInit {b cb sb : Nat} (iL : Nat) (hL9 : tables_1[iL]? = some (.methodLink M.1.cls idx objectInit)) (hfr : 1 ≤ M.2.2.2.2.1) (hlo : 2 * rest.length + 12 ≤ M.2.2.2.2.2.1) (hd : decode M.2.1 pc = .ok (.invokespecial idx, 3)) (kk : AW E M h cb sb Q (pc + 3) lv rest) : AW E M h cb sb Q pc lv (.ref b :: rest) := by
  intro p l e R s m args below meth c H locs cells slots ls ok hR hL hc hs hl
  obtain ⟨hx, hb, hml, -, -, hown, -, hfr9, hlo9, -, hS⟩ := id ok
  have hz := zcats rest
  exact W.objInit hx hb hown (hS.1.t iL hL9 rfl) (hS.1.t 35 rfl rfl) (hS.1.t 36 rfl rfl) rfl (by rw [hml]; exact hl.1) rfl hd (by omega) (by show 2 * 0 + (rest.map fun v => v.category).sum + 12 ≤ _; omega) (kk p l e R s m args below meth c H locs cells slots ls ok hR hL hc hs hl)
end
end
