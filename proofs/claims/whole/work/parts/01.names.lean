-- ===== PART A: goes FIRST, ahead of the names: the tables' words, and 'selects' of the private methods out of them =====
/-- a private method of a class that the tables say can be made, by its rows of tables_1 -/
def lw_okq (q : MethodName × Nat) : Prop := (q.1.cls ≠ "java/lang/invoke/MethodHandle" ∧ q.1.cls ≠ "java/lang/invoke/VarHandle") ∧ Cond.instantiable q.1.cls q.2 ∈ tables_1 ∧ Cond.privateMethod q.1 ∈ tables_1 ∧ Cond.instanceMethod q.1 ∈ tables_1
theorem lw_p0 : lw_okq (⟨"BlockTruths$Question", "await", "(I)V"⟩, 9) := ⟨⟨by decide +kernel, by decide +kernel⟩, List.mem_of_getElem? (i := 107) (by decide +kernel), List.mem_of_getElem? (i := 118) (by decide +kernel), List.mem_of_getElem? (i := 119) (by decide +kernel)⟩
theorem lw_p1 : lw_okq (⟨"BlockTruths$Summary", "enlist", "(I)V"⟩, 7) := ⟨⟨by decide +kernel, by decide +kernel⟩, List.mem_of_getElem? (i := 38) (by decide +kernel), List.mem_of_getElem? (i := 292) (by decide +kernel), List.mem_of_getElem? (i := 293) (by decide +kernel)⟩
theorem lw_p2 : lw_okq (⟨"BlockTruths$Summary", "placeOf", "(I)I"⟩, 7) := ⟨⟨by decide +kernel, by decide +kernel⟩, List.mem_of_getElem? (i := 38) (by decide +kernel), List.mem_of_getElem? (i := 296) (by decide +kernel), List.mem_of_getElem? (i := 297) (by decide +kernel)⟩
theorem lw_p3 : lw_okq (⟨"BlockTruths", "isRow", "(II)Z"⟩, 9) := ⟨⟨by decide +kernel, by decide +kernel⟩, List.mem_of_getElem? (i := 14) (by decide +kernel), List.mem_of_getElem? (i := 304) (by decide +kernel), List.mem_of_getElem? (i := 305) (by decide +kernel)⟩
theorem lw_p4 : lw_okq (⟨"BlockTruths$Block", "makeFresh", "(I)V"⟩, 4) := ⟨⟨by decide +kernel, by decide +kernel⟩, List.mem_of_getElem? (i := 29) (by decide +kernel), List.mem_of_getElem? (i := 331) (by decide +kernel), List.mem_of_getElem? (i := 332) (by decide +kernel)⟩
theorem lw_p5 : lw_okq (⟨"BlockTruths$Question", "canStand", "(I)Z"⟩, 9) := ⟨⟨by decide +kernel, by decide +kernel⟩, List.mem_of_getElem? (i := 107) (by decide +kernel), List.mem_of_getElem? (i := 372) (by decide +kernel), List.mem_of_getElem? (i := 373) (by decide +kernel)⟩
theorem lw_p6 : lw_okq (⟨"BlockTruths$Question", "beginsTruth", "(I)Z"⟩, 9) := ⟨⟨by decide +kernel, by decide +kernel⟩, List.mem_of_getElem? (i := 107) (by decide +kernel), List.mem_of_getElem? (i := 376) (by decide +kernel), List.mem_of_getElem? (i := 377) (by decide +kernel)⟩
theorem lw_p7 : lw_okq (⟨"BlockTruths$Question", "beginsTerm", "(I)Z"⟩, 9) := ⟨⟨by decide +kernel, by decide +kernel⟩, List.mem_of_getElem? (i := 107) (by decide +kernel), List.mem_of_getElem? (i := 380) (by decide +kernel), List.mem_of_getElem? (i := 381) (by decide +kernel)⟩
theorem lw_p8 : lw_okq (⟨"BlockTruths$Question", "findParts", "()V"⟩, 9) := ⟨⟨by decide +kernel, by decide +kernel⟩, List.mem_of_getElem? (i := 107) (by decide +kernel), List.mem_of_getElem? (i := 394) (by decide +kernel), List.mem_of_getElem? (i := 395) (by decide +kernel)⟩
theorem lw_p9 : lw_okq (⟨"BlockTruths$Question", "numberAt", "(I)I"⟩, 9) := ⟨⟨by decide +kernel, by decide +kernel⟩, List.mem_of_getElem? (i := 107) (by decide +kernel), List.mem_of_getElem? (i := 401) (by decide +kernel), List.mem_of_getElem? (i := 402) (by decide +kernel)⟩
theorem lw_p10 : lw_okq (⟨"BlockTruths$Question", "figureAt", "(I)I"⟩, 9) := ⟨⟨by decide +kernel, by decide +kernel⟩, List.mem_of_getElem? (i := 107) (by decide +kernel), List.mem_of_getElem? (i := 405) (by decide +kernel), List.mem_of_getElem? (i := 406) (by decide +kernel)⟩
theorem lw_p11 : lw_okq (⟨"BlockTruths$RowJudge", "truthAt", "(I[I)I"⟩, 2) := ⟨⟨by decide +kernel, by decide +kernel⟩, List.mem_of_getElem? (i := 162) (by decide +kernel), List.mem_of_getElem? (i := 437) (by decide +kernel), List.mem_of_getElem? (i := 438) (by decide +kernel)⟩
theorem lw_p12 : lw_okq (⟨"BlockTruths$RowJudge", "termAt", "(I[I)I"⟩, 2) := ⟨⟨by decide +kernel, by decide +kernel⟩, List.mem_of_getElem? (i := 162) (by decide +kernel), List.mem_of_getElem? (i := 452) (by decide +kernel), List.mem_of_getElem? (i := 453) (by decide +kernel)⟩
theorem lw_p13 : lw_okq (⟨"BlockTruths", "isPlace", "(I)Z"⟩, 9) := ⟨⟨by decide +kernel, by decide +kernel⟩, List.mem_of_getElem? (i := 14) (by decide +kernel), List.mem_of_getElem? (i := 469) (by decide +kernel), List.mem_of_getElem? (i := 470) (by decide +kernel)⟩
theorem lw_p14 : lw_okq (⟨"BlockTruths$RangeJudge", "chancesAt", "(ILBlockTruths$Block;)I"⟩, 4) := ⟨⟨by decide +kernel, by decide +kernel⟩, List.mem_of_getElem? (i := 175) (by decide +kernel), List.mem_of_getElem? (i := 479) (by decide +kernel), List.mem_of_getElem? (i := 480) (by decide +kernel)⟩
theorem lw_p15 : lw_okq (⟨"BlockTruths$RangeJudge", "comparedChances", "(III)I"⟩, 4) := ⟨⟨by decide +kernel, by decide +kernel⟩, List.mem_of_getElem? (i := 175) (by decide +kernel), List.mem_of_getElem? (i := 488) (by decide +kernel), List.mem_of_getElem? (i := 489) (by decide +kernel)⟩
def lw_privs_1 : List (MethodName × Nat) := [(⟨"BlockTruths$Question", "await", "(I)V"⟩, 9), (⟨"BlockTruths$Summary", "enlist", "(I)V"⟩, 7), (⟨"BlockTruths$Summary", "placeOf", "(I)I"⟩, 7), (⟨"BlockTruths", "isRow", "(II)Z"⟩, 9), (⟨"BlockTruths$Block", "makeFresh", "(I)V"⟩, 4), (⟨"BlockTruths$Question", "canStand", "(I)Z"⟩, 9), (⟨"BlockTruths$Question", "beginsTruth", "(I)Z"⟩, 9), (⟨"BlockTruths$Question", "beginsTerm", "(I)Z"⟩, 9), (⟨"BlockTruths$Question", "findParts", "()V"⟩, 9), (⟨"BlockTruths$Question", "numberAt", "(I)I"⟩, 9), (⟨"BlockTruths$Question", "figureAt", "(I)I"⟩, 9), (⟨"BlockTruths$RowJudge", "truthAt", "(I[I)I"⟩, 2), (⟨"BlockTruths$RowJudge", "termAt", "(I[I)I"⟩, 2), (⟨"BlockTruths", "isPlace", "(I)Z"⟩, 9), (⟨"BlockTruths$RangeJudge", "chancesAt", "(ILBlockTruths$Block;)I"⟩, 4), (⟨"BlockTruths$RangeJudge", "comparedChances", "(III)I"⟩, 4)]
theorem lw_r1 : ∀ q ∈ lw_privs_1, lw_okq q := List.forall_mem_cons.mpr ⟨lw_p0, List.forall_mem_cons.mpr ⟨lw_p1, List.forall_mem_cons.mpr ⟨lw_p2, List.forall_mem_cons.mpr ⟨lw_p3, List.forall_mem_cons.mpr ⟨lw_p4, List.forall_mem_cons.mpr ⟨lw_p5, List.forall_mem_cons.mpr ⟨lw_p6, List.forall_mem_cons.mpr ⟨lw_p7, List.forall_mem_cons.mpr ⟨lw_p8, List.forall_mem_cons.mpr ⟨lw_p9, List.forall_mem_cons.mpr ⟨lw_p10, List.forall_mem_cons.mpr ⟨lw_p11, List.forall_mem_cons.mpr ⟨lw_p12, List.forall_mem_cons.mpr ⟨lw_p13, List.forall_mem_cons.mpr ⟨lw_p14, List.forall_mem_cons.mpr ⟨lw_p15, fun _ h => absurd h List.not_mem_nil⟩⟩⟩⟩⟩⟩⟩⟩⟩⟩⟩⟩⟩⟩⟩⟩
theorem lw_p16 : lw_okq (⟨"BlockTruths$RangeJudge", "kindAt", "(ILBlockTruths$Block;)I"⟩, 4) := ⟨⟨by decide +kernel, by decide +kernel⟩, List.mem_of_getElem? (i := 175) (by decide +kernel), List.mem_of_getElem? (i := 504) (by decide +kernel), List.mem_of_getElem? (i := 505) (by decide +kernel)⟩
theorem lw_p17 : lw_okq (⟨"BlockTruths$RangeJudge", "findBounds", "(ILBlockTruths$Block;)V"⟩, 4) := ⟨⟨by decide +kernel, by decide +kernel⟩, List.mem_of_getElem? (i := 175) (by decide +kernel), List.mem_of_getElem? (i := 511) (by decide +kernel), List.mem_of_getElem? (i := 512) (by decide +kernel)⟩
theorem lw_p18 : lw_okq (⟨"BlockTruths$RangeJudge", "setBounds", "(III)V"⟩, 4) := ⟨⟨by decide +kernel, by decide +kernel⟩, List.mem_of_getElem? (i := 175) (by decide +kernel), List.mem_of_getElem? (i := 516) (by decide +kernel), List.mem_of_getElem? (i := 517) (by decide +kernel)⟩
theorem lw_p19 : lw_okq (⟨"BlockTruths$RangeJudge", "byteBounds", "(III)V"⟩, 4) := ⟨⟨by decide +kernel, by decide +kernel⟩, List.mem_of_getElem? (i := 175) (by decide +kernel), List.mem_of_getElem? (i := 520) (by decide +kernel), List.mem_of_getElem? (i := 521) (by decide +kernel)⟩
theorem lw_p20 : lw_okq (⟨"BlockTruths$RangeJudge", "leftOverBounds", "(IIII)V"⟩, 4) := ⟨⟨by decide +kernel, by decide +kernel⟩, List.mem_of_getElem? (i := 175) (by decide +kernel), List.mem_of_getElem? (i := 524) (by decide +kernel), List.mem_of_getElem? (i := 525) (by decide +kernel)⟩
theorem lw_p21 : lw_okq (⟨"BlockTruths$RangeJudge", "sumBounds", "(III)V"⟩, 4) := ⟨⟨by decide +kernel, by decide +kernel⟩, List.mem_of_getElem? (i := 175) (by decide +kernel), List.mem_of_getElem? (i := 530) (by decide +kernel), List.mem_of_getElem? (i := 531) (by decide +kernel)⟩
theorem lw_p22 : lw_okq (⟨"BlockTruths$RangeJudge", "productBounds", "(II)V"⟩, 4) := ⟨⟨by decide +kernel, by decide +kernel⟩, List.mem_of_getElem? (i := 175) (by decide +kernel), List.mem_of_getElem? (i := 535) (by decide +kernel), List.mem_of_getElem? (i := 536) (by decide +kernel)⟩
theorem lw_p23 : lw_okq (⟨"BlockTruths", "chancesIn", "(LBlockTruths$Block;)I"⟩, 9) := ⟨⟨by decide +kernel, by decide +kernel⟩, List.mem_of_getElem? (i := 14) (by decide +kernel), List.mem_of_getElem? (i := 547) (by decide +kernel), List.mem_of_getElem? (i := 548) (by decide +kernel)⟩
theorem lw_p24 : lw_okq (⟨"BlockTruths", "chancesByList", "(LBlockTruths$Summary;I)I"⟩, 9) := ⟨⟨by decide +kernel, by decide +kernel⟩, List.mem_of_getElem? (i := 14) (by decide +kernel), List.mem_of_getElem? (i := 555) (by decide +kernel), List.mem_of_getElem? (i := 556) (by decide +kernel)⟩
theorem lw_p25 : lw_okq (⟨"BlockTruths", "countMatches", "()I"⟩, 9) := ⟨⟨by decide +kernel, by decide +kernel⟩, List.mem_of_getElem? (i := 14) (by decide +kernel), List.mem_of_getElem? (i := 567) (by decide +kernel), List.mem_of_getElem? (i := 568) (by decide +kernel)⟩
theorem lw_p26 : lw_okq (⟨"BlockTruths", "isMatch", "([I)Z"⟩, 9) := ⟨⟨by decide +kernel, by decide +kernel⟩, List.mem_of_getElem? (i := 14) (by decide +kernel), List.mem_of_getElem? (i := 571) (by decide +kernel), List.mem_of_getElem? (i := 572) (by decide +kernel)⟩
theorem lw_p27 : lw_okq (⟨"BlockTruths", "countUnlikeMatches", "()I"⟩, 9) := ⟨⟨by decide +kernel, by decide +kernel⟩, List.mem_of_getElem? (i := 14) (by decide +kernel), List.mem_of_getElem? (i := 575) (by decide +kernel), List.mem_of_getElem? (i := 576) (by decide +kernel)⟩
theorem lw_p28 : lw_okq (⟨"BlockTruths", "weighBlocks", "()V"⟩, 9) := ⟨⟨by decide +kernel, by decide +kernel⟩, List.mem_of_getElem? (i := 14) (by decide +kernel), List.mem_of_getElem? (i := 589) (by decide +kernel), List.mem_of_getElem? (i := 590) (by decide +kernel)⟩
theorem lw_p29 : lw_okq (⟨"BlockTruths", "countScannedRows", "()I"⟩, 9) := ⟨⟨by decide +kernel, by decide +kernel⟩, List.mem_of_getElem? (i := 14) (by decide +kernel), List.mem_of_getElem? (i := 593) (by decide +kernel), List.mem_of_getElem? (i := 594) (by decide +kernel)⟩
theorem lw_p30 : lw_okq (⟨"BlockTruths", "blocksRuled", "(I)I"⟩, 9) := ⟨⟨by decide +kernel, by decide +kernel⟩, List.mem_of_getElem? (i := 14) (by decide +kernel), List.mem_of_getElem? (i := 597) (by decide +kernel), List.mem_of_getElem? (i := 598) (by decide +kernel)⟩
theorem lw_p31 : lw_okq (⟨"BlockTruths", "countRowsToRead", "(I)I"⟩, 9) := ⟨⟨by decide +kernel, by decide +kernel⟩, List.mem_of_getElem? (i := 14) (by decide +kernel), List.mem_of_getElem? (i := 605) (by decide +kernel), List.mem_of_getElem? (i := 606) (by decide +kernel)⟩
def lw_privs_2 : List (MethodName × Nat) := [(⟨"BlockTruths$RangeJudge", "kindAt", "(ILBlockTruths$Block;)I"⟩, 4), (⟨"BlockTruths$RangeJudge", "findBounds", "(ILBlockTruths$Block;)V"⟩, 4), (⟨"BlockTruths$RangeJudge", "setBounds", "(III)V"⟩, 4), (⟨"BlockTruths$RangeJudge", "byteBounds", "(III)V"⟩, 4), (⟨"BlockTruths$RangeJudge", "leftOverBounds", "(IIII)V"⟩, 4), (⟨"BlockTruths$RangeJudge", "sumBounds", "(III)V"⟩, 4), (⟨"BlockTruths$RangeJudge", "productBounds", "(II)V"⟩, 4), (⟨"BlockTruths", "chancesIn", "(LBlockTruths$Block;)I"⟩, 9), (⟨"BlockTruths", "chancesByList", "(LBlockTruths$Summary;I)I"⟩, 9), (⟨"BlockTruths", "countMatches", "()I"⟩, 9), (⟨"BlockTruths", "isMatch", "([I)Z"⟩, 9), (⟨"BlockTruths", "countUnlikeMatches", "()I"⟩, 9), (⟨"BlockTruths", "weighBlocks", "()V"⟩, 9), (⟨"BlockTruths", "countScannedRows", "()I"⟩, 9), (⟨"BlockTruths", "blocksRuled", "(I)I"⟩, 9), (⟨"BlockTruths", "countRowsToRead", "(I)I"⟩, 9)]
theorem lw_r2 : ∀ q ∈ lw_privs_2, lw_okq q := List.forall_mem_cons.mpr ⟨lw_p16, List.forall_mem_cons.mpr ⟨lw_p17, List.forall_mem_cons.mpr ⟨lw_p18, List.forall_mem_cons.mpr ⟨lw_p19, List.forall_mem_cons.mpr ⟨lw_p20, List.forall_mem_cons.mpr ⟨lw_p21, List.forall_mem_cons.mpr ⟨lw_p22, List.forall_mem_cons.mpr ⟨lw_p23, List.forall_mem_cons.mpr ⟨lw_p24, List.forall_mem_cons.mpr ⟨lw_p25, List.forall_mem_cons.mpr ⟨lw_p26, List.forall_mem_cons.mpr ⟨lw_p27, List.forall_mem_cons.mpr ⟨lw_p28, List.forall_mem_cons.mpr ⟨lw_p29, List.forall_mem_cons.mpr ⟨lw_p30, List.forall_mem_cons.mpr ⟨lw_p31, fun _ h => absurd h List.not_mem_nil⟩⟩⟩⟩⟩⟩⟩⟩⟩⟩⟩⟩⟩⟩⟩⟩
theorem lw_p32 : lw_okq (⟨"BlockTruths", "tallyMatches", "(I)V"⟩, 9) := ⟨⟨by decide +kernel, by decide +kernel⟩, List.mem_of_getElem? (i := 14) (by decide +kernel), List.mem_of_getElem? (i := 609) (by decide +kernel), List.mem_of_getElem? (i := 610) (by decide +kernel)⟩
theorem lw_p33 : lw_okq (⟨"BlockTruths", "countUnlike", "(LBlockTruths$Block;)I"⟩, 9) := ⟨⟨by decide +kernel, by decide +kernel⟩, List.mem_of_getElem? (i := 14) (by decide +kernel), List.mem_of_getElem? (i := 647) (by decide +kernel), List.mem_of_getElem? (i := 648) (by decide +kernel)⟩
theorem lw_p34 : lw_okq (⟨"BlockTruthsModel", "clear", "(I)V"⟩, 18) := ⟨⟨by decide +kernel, by decide +kernel⟩, List.mem_of_getElem? (i := 651) (by decide +kernel), List.mem_of_getElem? (i := 657) (by decide +kernel), List.mem_of_getElem? (i := 658) (by decide +kernel)⟩
theorem lw_p35 : lw_okq (⟨"BlockTruthsModel", "come", "(II)V"⟩, 18) := ⟨⟨by decide +kernel, by decide +kernel⟩, List.mem_of_getElem? (i := 651) (by decide +kernel), List.mem_of_getElem? (i := 728) (by decide +kernel), List.mem_of_getElem? (i := 729) (by decide +kernel)⟩
theorem lw_p36 : lw_okq (⟨"BlockTruthsModel", "placeOf", "(II)I"⟩, 18) := ⟨⟨by decide +kernel, by decide +kernel⟩, List.mem_of_getElem? (i := 651) (by decide +kernel), List.mem_of_getElem? (i := 732) (by decide +kernel), List.mem_of_getElem? (i := 733) (by decide +kernel)⟩
theorem lw_p37 : lw_okq (⟨"BlockTruthsModel", "isRow", "(II)Z"⟩, 18) := ⟨⟨by decide +kernel, by decide +kernel⟩, List.mem_of_getElem? (i := 651) (by decide +kernel), List.mem_of_getElem? (i := 740) (by decide +kernel), List.mem_of_getElem? (i := 741) (by decide +kernel)⟩
theorem lw_p38 : lw_okq (⟨"BlockTruthsModel", "at", "(III)I"⟩, 18) := ⟨⟨by decide +kernel, by decide +kernel⟩, List.mem_of_getElem? (i := 651) (by decide +kernel), List.mem_of_getElem? (i := 744) (by decide +kernel), List.mem_of_getElem? (i := 745) (by decide +kernel)⟩
theorem lw_p39 : lw_okq (⟨"BlockTruthsModel", "isStale", "(II)Z"⟩, 18) := ⟨⟨by decide +kernel, by decide +kernel⟩, List.mem_of_getElem? (i := 651) (by decide +kernel), List.mem_of_getElem? (i := 752) (by decide +kernel), List.mem_of_getElem? (i := 753) (by decide +kernel)⟩
theorem lw_p40 : lw_okq (⟨"BlockTruthsModel", "makeAnew", "(II)V"⟩, 18) := ⟨⟨by decide +kernel, by decide +kernel⟩, List.mem_of_getElem? (i := 651) (by decide +kernel), List.mem_of_getElem? (i := 756) (by decide +kernel), List.mem_of_getElem? (i := 757) (by decide +kernel)⟩
theorem lw_p41 : lw_okq (⟨"BlockTruthsModel", "read", "()I"⟩, 18) := ⟨⟨by decide +kernel, by decide +kernel⟩, List.mem_of_getElem? (i := 651) (by decide +kernel), List.mem_of_getElem? (i := 789) (by decide +kernel), List.mem_of_getElem? (i := 790) (by decide +kernel)⟩
theorem lw_p42 : lw_okq (⟨"BlockTruthsModel", "truthOfRow", "(II)I"⟩, 18) := ⟨⟨by decide +kernel, by decide +kernel⟩, List.mem_of_getElem? (i := 651) (by decide +kernel), List.mem_of_getElem? (i := 806) (by decide +kernel), List.mem_of_getElem? (i := 807) (by decide +kernel)⟩
theorem lw_p43 : lw_okq (⟨"BlockTruthsModel", "layRow", "()V"⟩, 18) := ⟨⟨by decide +kernel, by decide +kernel⟩, List.mem_of_getElem? (i := 651) (by decide +kernel), List.mem_of_getElem? (i := 810) (by decide +kernel), List.mem_of_getElem? (i := 811) (by decide +kernel)⟩
theorem lw_p44 : lw_okq (⟨"BlockTruthsModel", "isTerm", "(I)Z"⟩, 18) := ⟨⟨by decide +kernel, by decide +kernel⟩, List.mem_of_getElem? (i := 651) (by decide +kernel), List.mem_of_getElem? (i := 814) (by decide +kernel), List.mem_of_getElem? (i := 815) (by decide +kernel)⟩
theorem lw_p45 : lw_okq (⟨"BlockTruthsModel", "number", "(I)I"⟩, 18) := ⟨⟨by decide +kernel, by decide +kernel⟩, List.mem_of_getElem? (i := 651) (by decide +kernel), List.mem_of_getElem? (i := 818) (by decide +kernel), List.mem_of_getElem? (i := 819) (by decide +kernel)⟩
theorem lw_p46 : lw_okq (⟨"BlockTruthsModel", "three", "(I)I"⟩, 18) := ⟨⟨by decide +kernel, by decide +kernel⟩, List.mem_of_getElem? (i := 651) (by decide +kernel), List.mem_of_getElem? (i := 822) (by decide +kernel), List.mem_of_getElem? (i := 823) (by decide +kernel)⟩
theorem lw_p47 : lw_okq (⟨"BlockTruthsModel", "truthAt", "(I)I"⟩, 18) := ⟨⟨by decide +kernel, by decide +kernel⟩, List.mem_of_getElem? (i := 651) (by decide +kernel), List.mem_of_getElem? (i := 836) (by decide +kernel), List.mem_of_getElem? (i := 837) (by decide +kernel)⟩
def lw_privs_3 : List (MethodName × Nat) := [(⟨"BlockTruths", "tallyMatches", "(I)V"⟩, 9), (⟨"BlockTruths", "countUnlike", "(LBlockTruths$Block;)I"⟩, 9), (⟨"BlockTruthsModel", "clear", "(I)V"⟩, 18), (⟨"BlockTruthsModel", "come", "(II)V"⟩, 18), (⟨"BlockTruthsModel", "placeOf", "(II)I"⟩, 18), (⟨"BlockTruthsModel", "isRow", "(II)Z"⟩, 18), (⟨"BlockTruthsModel", "at", "(III)I"⟩, 18), (⟨"BlockTruthsModel", "isStale", "(II)Z"⟩, 18), (⟨"BlockTruthsModel", "makeAnew", "(II)V"⟩, 18), (⟨"BlockTruthsModel", "read", "()I"⟩, 18), (⟨"BlockTruthsModel", "truthOfRow", "(II)I"⟩, 18), (⟨"BlockTruthsModel", "layRow", "()V"⟩, 18), (⟨"BlockTruthsModel", "isTerm", "(I)Z"⟩, 18), (⟨"BlockTruthsModel", "number", "(I)I"⟩, 18), (⟨"BlockTruthsModel", "three", "(I)I"⟩, 18), (⟨"BlockTruthsModel", "truthAt", "(I)I"⟩, 18)]
theorem lw_r3 : ∀ q ∈ lw_privs_3, lw_okq q := List.forall_mem_cons.mpr ⟨lw_p32, List.forall_mem_cons.mpr ⟨lw_p33, List.forall_mem_cons.mpr ⟨lw_p34, List.forall_mem_cons.mpr ⟨lw_p35, List.forall_mem_cons.mpr ⟨lw_p36, List.forall_mem_cons.mpr ⟨lw_p37, List.forall_mem_cons.mpr ⟨lw_p38, List.forall_mem_cons.mpr ⟨lw_p39, List.forall_mem_cons.mpr ⟨lw_p40, List.forall_mem_cons.mpr ⟨lw_p41, List.forall_mem_cons.mpr ⟨lw_p42, List.forall_mem_cons.mpr ⟨lw_p43, List.forall_mem_cons.mpr ⟨lw_p44, List.forall_mem_cons.mpr ⟨lw_p45, List.forall_mem_cons.mpr ⟨lw_p46, List.forall_mem_cons.mpr ⟨lw_p47, fun _ h => absurd h List.not_mem_nil⟩⟩⟩⟩⟩⟩⟩⟩⟩⟩⟩⟩⟩⟩⟩⟩
theorem lw_p48 : lw_okq (⟨"BlockTruthsModel", "layBlock", "(I)V"⟩, 18) := ⟨⟨by decide +kernel, by decide +kernel⟩, List.mem_of_getElem? (i := 651) (by decide +kernel), List.mem_of_getElem? (i := 855) (by decide +kernel), List.mem_of_getElem? (i := 856) (by decide +kernel)⟩
theorem lw_p49 : lw_okq (⟨"BlockTruthsModel", "layRange", "(II)V"⟩, 18) := ⟨⟨by decide +kernel, by decide +kernel⟩, List.mem_of_getElem? (i := 651) (by decide +kernel), List.mem_of_getElem? (i := 859) (by decide +kernel), List.mem_of_getElem? (i := 860) (by decide +kernel)⟩
theorem lw_p50 : lw_okq (⟨"BlockTruthsModel", "mayAt", "(II)I"⟩, 18) := ⟨⟨by decide +kernel, by decide +kernel⟩, List.mem_of_getElem? (i := 651) (by decide +kernel), List.mem_of_getElem? (i := 863) (by decide +kernel), List.mem_of_getElem? (i := 864) (by decide +kernel)⟩
theorem lw_p51 : lw_okq (⟨"BlockTruthsModel", "verdictOf", "(I)I"⟩, 18) := ⟨⟨by decide +kernel, by decide +kernel⟩, List.mem_of_getElem? (i := 651) (by decide +kernel), List.mem_of_getElem? (i := 878) (by decide +kernel), List.mem_of_getElem? (i := 879) (by decide +kernel)⟩
theorem lw_p52 : lw_okq (⟨"BlockTruthsModel", "mayOf", "(I)I"⟩, 18) := ⟨⟨by decide +kernel, by decide +kernel⟩, List.mem_of_getElem? (i := 651) (by decide +kernel), List.mem_of_getElem? (i := 882) (by decide +kernel), List.mem_of_getElem? (i := 883) (by decide +kernel)⟩
theorem lw_p53 : lw_okq (⟨"BlockTruthsModel", "onlyColumn", "()I"⟩, 18) := ⟨⟨by decide +kernel, by decide +kernel⟩, List.mem_of_getElem? (i := 651) (by decide +kernel), List.mem_of_getElem? (i := 886) (by decide +kernel), List.mem_of_getElem? (i := 887) (by decide +kernel)⟩
theorem lw_p54 : lw_okq (⟨"BlockTruthsModel", "isLike", "(IIII)Z"⟩, 18) := ⟨⟨by decide +kernel, by decide +kernel⟩, List.mem_of_getElem? (i := 651) (by decide +kernel), List.mem_of_getElem? (i := 894) (by decide +kernel), List.mem_of_getElem? (i := 895) (by decide +kernel)⟩
def lw_privs_4 : List (MethodName × Nat) := [(⟨"BlockTruthsModel", "layBlock", "(I)V"⟩, 18), (⟨"BlockTruthsModel", "layRange", "(II)V"⟩, 18), (⟨"BlockTruthsModel", "mayAt", "(II)I"⟩, 18), (⟨"BlockTruthsModel", "verdictOf", "(I)I"⟩, 18), (⟨"BlockTruthsModel", "mayOf", "(I)I"⟩, 18), (⟨"BlockTruthsModel", "onlyColumn", "()I"⟩, 18), (⟨"BlockTruthsModel", "isLike", "(IIII)Z"⟩, 18)]
theorem lw_r4 : ∀ q ∈ lw_privs_4, lw_okq q := List.forall_mem_cons.mpr ⟨lw_p48, List.forall_mem_cons.mpr ⟨lw_p49, List.forall_mem_cons.mpr ⟨lw_p50, List.forall_mem_cons.mpr ⟨lw_p51, List.forall_mem_cons.mpr ⟨lw_p52, List.forall_mem_cons.mpr ⟨lw_p53, List.forall_mem_cons.mpr ⟨lw_p54, fun _ h => absurd h List.not_mem_nil⟩⟩⟩⟩⟩⟩⟩
def lw_privs : List (MethodName × Nat) := lw_privs_1 ++ (lw_privs_2 ++ (lw_privs_3 ++ (lw_privs_4)))
def lw_tbl : List Cond := k2_sels lw_privs ++ tables_1
theorem lw_privs_ok : ∀ q ∈ lw_privs, lw_okq q := by
  show ∀ q ∈ lw_privs_1 ++ (lw_privs_2 ++ (lw_privs_3 ++ (lw_privs_4))), lw_okq q
  exact List.forall_mem_append.mpr ⟨lw_r1, List.forall_mem_append.mpr ⟨lw_r2, List.forall_mem_append.mpr ⟨lw_r3, lw_r4⟩⟩⟩
/-! ===== BEGIN printed: names, fields, word lists, decode rows ===== -/
def RX0 : String := "BlockTruths$Block"
def TX0 : u_T := fun k => match k with
  | 0 => ("BlockTruths$Block", "rows", "I", false)
  | 1 => ("BlockTruths$Block", "cells", "[[I", true)
  | 2 => ("BlockTruths$Block", "summaries", "[LBlockTruths$Summary;", true)
  | _ => ("BlockTruths$Block", "fresh", "LBlockTruths$Summary;", true)
def tyX0 : Nat → FieldType := fun k => match k with
  | 0 => .int
  | 1 => .array (.array .int)
  | 2 => .array (.object "BlockTruths$Summary")
  | _ => .object "BlockTruths$Summary"
abbrev wsX00 : List Cond := u_ws RX0 TX0 4
theorem nmX0 : ∀ a, a < 4 → ∀ b, b < 4 → a ≠ b → (TX0 a).2.1 ≠ (TX0 b).2.1 := by decide +kernel
theorem tyX0_ok : ∀ k, k < 4 → parseFieldDescriptor (TX0 k).2.2.1 = some (tyX0 k) := by decide +kernel
abbrev cX0_init : ByteArray := prog_2_method_1_code
def yX0_init : MethodName := ⟨RX0, "<init>", "()V"⟩
abbrev cX0_append : ByteArray := prog_2_method_2_code
def yX0_append : MethodName := ⟨RX0, "append", "(IIII)I"⟩
abbrev cX0_remove : ByteArray := prog_2_method_3_code
def yX0_remove : MethodName := ⟨RX0, "remove", "(I)I"⟩
abbrev cX0_makeFresh : ByteArray := prog_2_method_4_code
def yX0_makeFresh : MethodName := ⟨RX0, "makeFresh", "(I)V"⟩
abbrev cX0_isStale : ByteArray := prog_2_method_5_code
def yX0_isStale : MethodName := ⟨RX0, "isStale", "(I)Z"⟩
abbrev cX0_renew : ByteArray := prog_2_method_6_code
def yX0_renew : MethodName := ⟨RX0, "renew", "()I"⟩
abbrev cX0_copyFrom : ByteArray := prog_2_method_7_code
def yX0_copyFrom : MethodName := ⟨RX0, "copyFrom", "(LBlockTruths$Block;)V"⟩
def RX1 : String := "BlockTruths$Question"
def TX1 : u_T := fun k => match k with
  | 0 => ("BlockTruths$Question", "size", "I", false)
  | 1 => ("BlockTruths$Question", "signs", "[I", true)
  | 2 => ("BlockTruths$Question", "roles", "[I", true)
  | 3 => ("BlockTruths$Question", "seconds", "[I", true)
  | 4 => ("BlockTruths$Question", "numbers", "[I", true)
  | 5 => ("BlockTruths$Question", "ends", "[I", true)
  | 6 => ("BlockTruths$Question", "awaited", "[I", true)
  | 7 => ("BlockTruths$Question", "depth", "I", false)
  | _ => ("BlockTruths$Question", "wrongPlace", "I", false)
def tyX1 : Nat → FieldType := fun k => match k with
  | 0 => .int
  | 1 => .array .int
  | 2 => .array .int
  | 3 => .array .int
  | 4 => .array .int
  | 5 => .array .int
  | 6 => .array .int
  | 7 => .int
  | _ => .int
abbrev wsX10 : List Cond := u_ws RX1 TX1 9
theorem nmX1 : ∀ a, a < 9 → ∀ b, b < 9 → a ≠ b → (TX1 a).2.1 ≠ (TX1 b).2.1 := by decide +kernel
theorem tyX1_ok : ∀ k, k < 9 → parseFieldDescriptor (TX1 k).2.2.1 = some (tyX1 k) := by decide +kernel
abbrev cX1_init : ByteArray := prog_3_method_1_code
def yX1_init : MethodName := ⟨RX1, "<init>", "()V"⟩
abbrev cX1_clear : ByteArray := prog_3_method_2_code
def yX1_clear : MethodName := ⟨RX1, "clear", "()V"⟩
abbrev cX1_append : ByteArray := prog_3_method_3_code
def yX1_append : MethodName := ⟨RX1, "append", "(I)I"⟩
abbrev cX1_faultPlace : ByteArray := prog_3_method_4_code
def yX1_faultPlace : MethodName := ⟨RX1, "faultPlace", "()I"⟩
abbrev cX1_isFaulty : ByteArray := prog_3_method_5_code
def yX1_isFaulty : MethodName := ⟨RX1, "isFaulty", "()Z"⟩
abbrev cX1_await : ByteArray := prog_3_method_6_code
def yX1_await : MethodName := ⟨RX1, "await", "(I)V"⟩
abbrev cX1_canStand : ByteArray := prog_3_method_7_code
def yX1_canStand : MethodName := ⟨RX1, "canStand", "(I)Z"⟩
abbrev cX1_beginsTruth : ByteArray := prog_3_method_8_code
def yX1_beginsTruth : MethodName := ⟨RX1, "beginsTruth", "(I)Z"⟩
abbrev cX1_beginsTerm : ByteArray := prog_3_method_9_code
def yX1_beginsTerm : MethodName := ⟨RX1, "beginsTerm", "(I)Z"⟩
abbrev cX1_findParts : ByteArray := prog_3_method_10_code
def yX1_findParts : MethodName := ⟨RX1, "findParts", "()V"⟩
abbrev cX1_numberAt : ByteArray := prog_3_method_11_code
def yX1_numberAt : MethodName := ⟨RX1, "numberAt", "(I)I"⟩
abbrev cX1_figureAt : ByteArray := prog_3_method_12_code
def yX1_figureAt : MethodName := ⟨RX1, "figureAt", "(I)I"⟩
abbrev cX1_onlyColumn : ByteArray := prog_3_method_13_code
def yX1_onlyColumn : MethodName := ⟨RX1, "onlyColumn", "()I"⟩
def RX2 : String := "BlockTruths$RangeJudge"
def TX2 : u_T := fun k => match k with
  | 0 => ("BlockTruths$RangeJudge", "kinds", "[I", true)
  | 1 => ("BlockTruths$RangeJudge", "lows", "[I", true)
  | 2 => ("BlockTruths$RangeJudge", "highs", "[I", true)
  | _ => ("BlockTruths$RangeJudge", "question", "LBlockTruths$Question;", true)
def tyX2 : Nat → FieldType := fun k => match k with
  | 0 => .array .int
  | 1 => .array .int
  | 2 => .array .int
  | _ => .object "BlockTruths$Question"
abbrev wsX20 : List Cond := u_ws RX2 TX2 4
theorem nmX2 : ∀ a, a < 4 → ∀ b, b < 4 → a ≠ b → (TX2 a).2.1 ≠ (TX2 b).2.1 := by decide +kernel
theorem tyX2_ok : ∀ k, k < 4 → parseFieldDescriptor (TX2 k).2.2.1 = some (tyX2 k) := by decide +kernel
abbrev cX2_init : ByteArray := prog_4_method_1_code
def yX2_init : MethodName := ⟨RX2, "<init>", "(LBlockTruths$Question;)V"⟩
abbrev cX2_judge : ByteArray := prog_4_method_2_code
def yX2_judge : MethodName := ⟨RX2, "judge", "(LBlockTruths$Block;)V"⟩
abbrev cX2_chancesAt : ByteArray := prog_4_method_3_code
def yX2_chancesAt : MethodName := ⟨RX2, "chancesAt", "(ILBlockTruths$Block;)I"⟩
abbrev cX2_missingChances : ByteArray := prog_4_method_4_code
def yX2_missingChances : MethodName := ⟨RX2, "missingChances", "(ILBlockTruths$Block;)I"⟩
abbrev cX2_comparedChances : ByteArray := prog_4_method_5_code
def yX2_comparedChances : MethodName := ⟨RX2, "comparedChances", "(III)I"⟩
abbrev cX2_notChances : ByteArray := prog_4_method_6_code
def yX2_notChances : MethodName := ⟨RX2, "notChances", "(I)I"⟩
abbrev cX2_joinedChances : ByteArray := prog_4_method_7_code
def yX2_joinedChances : MethodName := ⟨RX2, "joinedChances", "(III)I"⟩
abbrev cX2_kindAt : ByteArray := prog_4_method_8_code
def yX2_kindAt : MethodName := ⟨RX2, "kindAt", "(ILBlockTruths$Block;)I"⟩
abbrev cX2_findBounds : ByteArray := prog_4_method_9_code
def yX2_findBounds : MethodName := ⟨RX2, "findBounds", "(ILBlockTruths$Block;)V"⟩
abbrev cX2_sumBounds : ByteArray := prog_4_method_10_code
def yX2_sumBounds : MethodName := ⟨RX2, "sumBounds", "(III)V"⟩
abbrev cX2_productBounds : ByteArray := prog_4_method_11_code
def yX2_productBounds : MethodName := ⟨RX2, "productBounds", "(II)V"⟩
abbrev cX2_byteBounds : ByteArray := prog_4_method_12_code
def yX2_byteBounds : MethodName := ⟨RX2, "byteBounds", "(III)V"⟩
abbrev cX2_leftOverBounds : ByteArray := prog_4_method_13_code
def yX2_leftOverBounds : MethodName := ⟨RX2, "leftOverBounds", "(IIII)V"⟩
abbrev cX2_setBounds : ByteArray := prog_4_method_14_code
def yX2_setBounds : MethodName := ⟨RX2, "setBounds", "(III)V"⟩
def RX3 : String := "BlockTruths$RowJudge"
def TX3 : u_T := fun k => match k with
  | 0 => ("BlockTruths$RowJudge", "question", "LBlockTruths$Question;", true)
  | _ => ("BlockTruths$RowJudge", "values", "[I", true)
def tyX3 : Nat → FieldType := fun k => match k with
  | 0 => .object "BlockTruths$Question"
  | _ => .array .int
abbrev wsX30 : List Cond := u_ws RX3 TX3 2
theorem nmX3 : ∀ a, a < 2 → ∀ b, b < 2 → a ≠ b → (TX3 a).2.1 ≠ (TX3 b).2.1 := by decide +kernel
theorem tyX3_ok : ∀ k, k < 2 → parseFieldDescriptor (TX3 k).2.2.1 = some (tyX3 k) := by decide +kernel
abbrev cX3_init : ByteArray := prog_5_method_1_code
def yX3_init : MethodName := ⟨RX3, "<init>", "(LBlockTruths$Question;)V"⟩
abbrev cX3_judge : ByteArray := prog_5_method_2_code
def yX3_judge : MethodName := ⟨RX3, "judge", "([I)I"⟩
abbrev cX3_truthAt : ByteArray := prog_5_method_3_code
def yX3_truthAt : MethodName := ⟨RX3, "truthAt", "(I[I)I"⟩
abbrev cX3_termAt : ByteArray := prog_5_method_4_code
def yX3_termAt : MethodName := ⟨RX3, "termAt", "(I[I)I"⟩
def RX4 : String := "BlockTruths$RowKeys"
def TX4 : u_T := fun k => match k with
  | 0 => ("BlockTruths$RowKeys", "size", "I", false)
  | _ => ("BlockTruths$RowKeys", "keys", "[J", true)
def tyX4 : Nat → FieldType := fun k => match k with
  | 0 => .int
  | _ => .array .long
abbrev wsX40 : List Cond := u_ws RX4 TX4 2
theorem nmX4 : ∀ a, a < 2 → ∀ b, b < 2 → a ≠ b → (TX4 a).2.1 ≠ (TX4 b).2.1 := by decide +kernel
theorem tyX4_ok : ∀ k, k < 2 → parseFieldDescriptor (TX4 k).2.2.1 = some (tyX4 k) := by decide +kernel
abbrev cX4_init : ByteArray := prog_6_method_1_code
def yX4_init : MethodName := ⟨RX4, "<init>", "()V"⟩
abbrev cX4_clear : ByteArray := prog_6_method_2_code
def yX4_clear : MethodName := ⟨RX4, "clear", "()V"⟩
abbrev cX4_note : ByteArray := prog_6_method_3_code
def yX4_note : MethodName := ⟨RX4, "note", "([I)V"⟩
def RX5 : String := "BlockTruths$Store"
def TX5 : u_T := fun k => match k with
  | _ => ("BlockTruths$Store", "blocks", "[LBlockTruths$Block;", true)
def tyX5 : Nat → FieldType := fun k => match k with
  | _ => .array (.object "BlockTruths$Block")
abbrev wsX50 : List Cond := u_ws RX5 TX5 1
theorem nmX5 : ∀ a, a < 1 → ∀ b, b < 1 → a ≠ b → (TX5 a).2.1 ≠ (TX5 b).2.1 := by decide +kernel
theorem tyX5_ok : ∀ k, k < 1 → parseFieldDescriptor (TX5 k).2.2.1 = some (tyX5 k) := by decide +kernel
abbrev cX5_init : ByteArray := prog_7_method_1_code
def yX5_init : MethodName := ⟨RX5, "<init>", "()V"⟩
abbrev cX5_countRows : ByteArray := prog_7_method_2_code
def yX5_countRows : MethodName := ⟨RX5, "countRows", "()I"⟩
abbrev cX5_copyFrom : ByteArray := prog_7_method_3_code
def yX5_copyFrom : MethodName := ⟨RX5, "copyFrom", "(LBlockTruths$Store;)V"⟩
def RX6 : String := "BlockTruths$Summary"
def TX6 : u_T := fun k => match k with
  | 0 => ("BlockTruths$Summary", "least", "I", false)
  | 1 => ("BlockTruths$Summary", "greatest", "I", false)
  | 2 => ("BlockTruths$Summary", "missing", "I", false)
  | 3 => ("BlockTruths$Summary", "size", "I", false)
  | 4 => ("BlockTruths$Summary", "lost", "Z", false)
  | 5 => ("BlockTruths$Summary", "numbers", "[I", true)
  | _ => ("BlockTruths$Summary", "counts", "[I", true)
def tyX6 : Nat → FieldType := fun k => match k with
  | 0 => .int
  | 1 => .int
  | 2 => .int
  | 3 => .int
  | 4 => .boolean
  | 5 => .array .int
  | _ => .array .int
abbrev wsX60 : List Cond := u_ws RX6 TX6 7
theorem nmX6 : ∀ a, a < 7 → ∀ b, b < 7 → a ≠ b → (TX6 a).2.1 ≠ (TX6 b).2.1 := by decide +kernel
theorem tyX6_ok : ∀ k, k < 7 → parseFieldDescriptor (TX6 k).2.2.1 = some (tyX6 k) := by decide +kernel
abbrev cX6_init : ByteArray := prog_8_method_1_code
def yX6_init : MethodName := ⟨RX6, "<init>", "()V"⟩
abbrev cX6_clear : ByteArray := prog_8_method_2_code
def yX6_clear : MethodName := ⟨RX6, "clear", "()V"⟩
abbrev cX6_come : ByteArray := prog_8_method_3_code
def yX6_come : MethodName := ⟨RX6, "come", "(I)V"⟩
abbrev cX6_enlist : ByteArray := prog_8_method_4_code
def yX6_enlist : MethodName := ⟨RX6, "enlist", "(I)V"⟩
abbrev cX6_leave : ByteArray := prog_8_method_5_code
def yX6_leave : MethodName := ⟨RX6, "leave", "(I)V"⟩
abbrev cX6_placeOf : ByteArray := prog_8_method_6_code
def yX6_placeOf : MethodName := ⟨RX6, "placeOf", "(I)I"⟩
abbrev cX6_differsFrom : ByteArray := prog_8_method_7_code
def yX6_differsFrom : MethodName := ⟨RX6, "differsFrom", "(LBlockTruths$Summary;)Z"⟩
abbrev cX6_copyFrom : ByteArray := prog_8_method_8_code
def yX6_copyFrom : MethodName := ⟨RX6, "copyFrom", "(LBlockTruths$Summary;)V"⟩
def RX7 : String := "BlockTruths$Tally"
def TX7 : u_T := fun k => match k with
  | 0 => ("BlockTruths$Tally", "least", "I", false)
  | 1 => ("BlockTruths$Tally", "greatest", "I", false)
  | 2 => ("BlockTruths$Tally", "sum", "I", false)
  | _ => ("BlockTruths$Tally", "missing", "I", false)
def tyX7 : Nat → FieldType := fun k => match k with
  | 0 => .int
  | 1 => .int
  | 2 => .int
  | _ => .int
abbrev wsX70 : List Cond := u_ws RX7 TX7 4
theorem nmX7 : ∀ a, a < 4 → ∀ b, b < 4 → a ≠ b → (TX7 a).2.1 ≠ (TX7 b).2.1 := by decide +kernel
theorem tyX7_ok : ∀ k, k < 4 → parseFieldDescriptor (TX7 k).2.2.1 = some (tyX7 k) := by decide +kernel
abbrev cX7_init : ByteArray := prog_9_method_1_code
def yX7_init : MethodName := ⟨RX7, "<init>", "()V"⟩
abbrev cX7_clear : ByteArray := prog_9_method_2_code
def yX7_clear : MethodName := ⟨RX7, "clear", "()V"⟩
abbrev cX7_note : ByteArray := prog_9_method_3_code
def yX7_note : MethodName := ⟨RX7, "note", "(I)V"⟩
def RX8 : String := "BlockTruths"
def TX8 : u_T := fun k => match k with
  | 0 => ("BlockTruths", "store", "LBlockTruths$Store;", true)
  | 1 => ("BlockTruths", "images", "[LBlockTruths$Store;", true)
  | 2 => ("BlockTruths", "question", "LBlockTruths$Question;", true)
  | 3 => ("BlockTruths", "rowJudge", "LBlockTruths$RowJudge;", true)
  | 4 => ("BlockTruths", "rangeJudge", "LBlockTruths$RangeJudge;", true)
  | 5 => ("BlockTruths", "listedRow", "[I", true)
  | 6 => ("BlockTruths", "chances", "[I", true)
  | 7 => ("BlockTruths", "keys", "LBlockTruths$RowKeys;", true)
  | _ => ("BlockTruths", "tally", "LBlockTruths$Tally;", true)
def tyX8 : Nat → FieldType := fun k => match k with
  | 0 => .object "BlockTruths$Store"
  | 1 => .array (.object "BlockTruths$Store")
  | 2 => .object "BlockTruths$Question"
  | 3 => .object "BlockTruths$RowJudge"
  | 4 => .object "BlockTruths$RangeJudge"
  | 5 => .array .int
  | 6 => .array .int
  | 7 => .object "BlockTruths$RowKeys"
  | _ => .object "BlockTruths$Tally"
abbrev wsX80 : List Cond := u_ws RX8 TX8 9
theorem nmX8 : ∀ a, a < 9 → ∀ b, b < 9 → a ≠ b → (TX8 a).2.1 ≠ (TX8 b).2.1 := by decide +kernel
theorem tyX8_ok : ∀ k, k < 9 → parseFieldDescriptor (TX8 k).2.2.1 = some (tyX8 k) := by decide +kernel
abbrev cX8_init : ByteArray := prog_1_method_1_code
def yX8_init : MethodName := ⟨RX8, "<init>", "()V"⟩
abbrev cX8_add : ByteArray := prog_1_method_2_code
def yX8_add : MethodName := ⟨RX8, "add", "(IIIII)I"⟩
abbrev cX8_drop : ByteArray := prog_1_method_3_code
def yX8_drop : MethodName := ⟨RX8, "drop", "(II)I"⟩
abbrev cX8_anew : ByteArray := prog_1_method_4_code
def yX8_anew : MethodName := ⟨RX8, "anew", "(I)I"⟩
abbrev cX8_cell : ByteArray := prog_1_method_5_code
def yX8_cell : MethodName := ⟨RX8, "cell", "(III)I"⟩
abbrev cX8_summary : ByteArray := prog_1_method_6_code
def yX8_summary : MethodName := ⟨RX8, "summary", "(III)I"⟩
abbrev cX8_listed : ByteArray := prog_1_method_7_code
def yX8_listed : MethodName := ⟨RX8, "listed", "(IIII)I"⟩
abbrev cX8_say : ByteArray := prog_1_method_8_code
def yX8_say : MethodName := ⟨RX8, "say", "(I)I"⟩
abbrev cX8_wipe : ByteArray := prog_1_method_9_code
def yX8_wipe : MethodName := ⟨RX8, "wipe", "()I"⟩
abbrev cX8_fault : ByteArray := prog_1_method_10_code
def yX8_fault : MethodName := ⟨RX8, "fault", "()I"⟩
abbrev cX8_truth : ByteArray := prog_1_method_11_code
def yX8_truth : MethodName := ⟨RX8, "truth", "(II)I"⟩
abbrev cX8_range : ByteArray := prog_1_method_12_code
def yX8_range : MethodName := ⟨RX8, "range", "(III)I"⟩
abbrev cX8_may : ByteArray := prog_1_method_13_code
def yX8_may : MethodName := ⟨RX8, "may", "(II)I"⟩
abbrev cX8_verdict : ByteArray := prog_1_method_14_code
def yX8_verdict : MethodName := ⟨RX8, "verdict", "(II)I"⟩
abbrev cX8_answer : ByteArray := prog_1_method_15_code
def yX8_answer : MethodName := ⟨RX8, "answer", "(I)I"⟩
abbrev cX8_total : ByteArray := prog_1_method_16_code
def yX8_total : MethodName := ⟨RX8, "total", "(II)I"⟩
abbrev cX8_image : ByteArray := prog_1_method_17_code
def yX8_image : MethodName := ⟨RX8, "image", "(I)I"⟩
abbrev cX8_restore : ByteArray := prog_1_method_18_code
def yX8_restore : MethodName := ⟨RX8, "restore", "(I)I"⟩
abbrev cX8_told : ByteArray := prog_1_method_19_code
def yX8_told : MethodName := ⟨RX8, "told", "(I)I"⟩
abbrev cX8_isRow : ByteArray := prog_1_method_20_code
def yX8_isRow : MethodName := ⟨RX8, "isRow", "(II)Z"⟩
abbrev cX8_isPlace : ByteArray := prog_1_method_21_code
def yX8_isPlace : MethodName := ⟨RX8, "isPlace", "(I)Z"⟩
abbrev cX8_isBlock : ByteArray := prog_1_method_22_code
def yX8_isBlock : MethodName := ⟨RX8, "isBlock", "(I)Z"⟩
abbrev cX8_isColumn : ByteArray := prog_1_method_23_code
def yX8_isColumn : MethodName := ⟨RX8, "isColumn", "(I)Z"⟩
abbrev cX8_isImage : ByteArray := prog_1_method_24_code
def yX8_isImage : MethodName := ⟨RX8, "isImage", "(I)Z"⟩
abbrev cX8_isEntry : ByteArray := prog_1_method_25_code
def yX8_isEntry : MethodName := ⟨RX8, "isEntry", "(I)Z"⟩
abbrev cX8_chancesIn : ByteArray := prog_1_method_26_code
def yX8_chancesIn : MethodName := ⟨RX8, "chancesIn", "(LBlockTruths$Block;)I"⟩
abbrev cX8_chancesByList : ByteArray := prog_1_method_27_code
def yX8_chancesByList : MethodName := ⟨RX8, "chancesByList", "(LBlockTruths$Summary;I)I"⟩
abbrev cX8_weighBlocks : ByteArray := prog_1_method_28_code
def yX8_weighBlocks : MethodName := ⟨RX8, "weighBlocks", "()V"⟩
abbrev cX8_rulingOf : ByteArray := prog_1_method_29_code
def yX8_rulingOf : MethodName := ⟨RX8, "rulingOf", "(I)I"⟩
abbrev cX8_blocksRuled : ByteArray := prog_1_method_30_code
def yX8_blocksRuled : MethodName := ⟨RX8, "blocksRuled", "(I)I"⟩
abbrev cX8_countScannedRows : ByteArray := prog_1_method_31_code
def yX8_countScannedRows : MethodName := ⟨RX8, "countScannedRows", "()I"⟩
abbrev cX8_countRowsToRead : ByteArray := prog_1_method_32_code
def yX8_countRowsToRead : MethodName := ⟨RX8, "countRowsToRead", "(I)I"⟩
abbrev cX8_isMatch : ByteArray := prog_1_method_33_code
def yX8_isMatch : MethodName := ⟨RX8, "isMatch", "([I)Z"⟩
abbrev cX8_countMatches : ByteArray := prog_1_method_34_code
def yX8_countMatches : MethodName := ⟨RX8, "countMatches", "()I"⟩
abbrev cX8_countUnlikeMatches : ByteArray := prog_1_method_35_code
def yX8_countUnlikeMatches : MethodName := ⟨RX8, "countUnlikeMatches", "()I"⟩
abbrev cX8_countUnlike : ByteArray := prog_1_method_36_code
def yX8_countUnlike : MethodName := ⟨RX8, "countUnlike", "(LBlockTruths$Block;)I"⟩
abbrev cX8_tallyMatches : ByteArray := prog_1_method_37_code
def yX8_tallyMatches : MethodName := ⟨RX8, "tallyMatches", "(I)V"⟩
abbrev cX8_isLetter : ByteArray := prog_1_method_38_code
def yX8_isLetter : MethodName := ⟨RX8, "isLetter", "(I)Z"⟩
abbrev cX8_isFigure : ByteArray := prog_1_method_39_code
def yX8_isFigure : MethodName := ⟨RX8, "isFigure", "(I)Z"⟩
abbrev cX8_isSum : ByteArray := prog_1_method_40_code
def yX8_isSum : MethodName := ⟨RX8, "isSum", "(I)Z"⟩
abbrev cX8_hasSecond : ByteArray := prog_1_method_41_code
def yX8_hasSecond : MethodName := ⟨RX8, "hasSecond", "(I)Z"⟩
abbrev cX8_at : ByteArray := prog_1_method_42_code
def yX8_at : MethodName := ⟨RX8, "at", "([II)I"⟩
abbrev cX8_sumOf : ByteArray := prog_1_method_43_code
def yX8_sumOf : MethodName := ⟨RX8, "sumOf", "(III)I"⟩
abbrev cX8_bothOf : ByteArray := prog_1_method_44_code
def yX8_bothOf : MethodName := ⟨RX8, "bothOf", "(II)I"⟩
abbrev cX8_eitherOf : ByteArray := prog_1_method_45_code
def yX8_eitherOf : MethodName := ⟨RX8, "eitherOf", "(II)I"⟩
abbrev cX8_notOf : ByteArray := prog_1_method_46_code
def yX8_notOf : MethodName := ⟨RX8, "notOf", "(I)I"⟩
abbrev cX8_chanceOf : ByteArray := prog_1_method_47_code
def yX8_chanceOf : MethodName := ⟨RX8, "chanceOf", "(I)I"⟩
def RX9 : String := "BlockTruthsModel"
def TX9 : u_T := fun k => match k with
  | 0 => ("BlockTruthsModel", "rows", "[I", true)
  | 1 => ("BlockTruthsModel", "many", "[I", true)
  | 2 => ("BlockTruthsModel", "known", "[I", true)
  | 3 => ("BlockTruthsModel", "fresh", "[I", true)
  | 4 => ("BlockTruthsModel", "signs", "I", false)
  | 5 => ("BlockTruthsModel", "pad", "[I", true)
  | 6 => ("BlockTruthsModel", "kind", "[I", true)
  | 7 => ("BlockTruthsModel", "first", "[I", true)
  | 8 => ("BlockTruthsModel", "second", "[I", true)
  | 9 => ("BlockTruthsModel", "end", "[I", true)
  | 10 => ("BlockTruthsModel", "must", "[I", true)
  | 11 => ("BlockTruthsModel", "worth", "[I", true)
  | 12 => ("BlockTruthsModel", "cells", "[I", true)
  | 13 => ("BlockTruthsModel", "maybe", "[I", true)
  | 14 => ("BlockTruthsModel", "low", "[I", true)
  | 15 => ("BlockTruthsModel", "high", "[I", true)
  | 16 => ("BlockTruthsModel", "image", "[I", true)
  | _ => ("BlockTruthsModel", "isKept", "[Z", true)
def tyX9 : Nat → FieldType := fun k => match k with
  | 0 => .array .int
  | 1 => .array .int
  | 2 => .array .int
  | 3 => .array .int
  | 4 => .int
  | 5 => .array .int
  | 6 => .array .int
  | 7 => .array .int
  | 8 => .array .int
  | 9 => .array .int
  | 10 => .array .int
  | 11 => .array .int
  | 12 => .array .int
  | 13 => .array .int
  | 14 => .array .int
  | 15 => .array .int
  | 16 => .array .int
  | _ => .array .boolean
abbrev wsX90 : List Cond := u_ws RX9 TX9 18
theorem nmX9 : ∀ a, a < 18 → ∀ b, b < 18 → a ≠ b → (TX9 a).2.1 ≠ (TX9 b).2.1 := by decide +kernel
theorem tyX9_ok : ∀ k, k < 18 → parseFieldDescriptor (TX9 k).2.2.1 = some (tyX9 k) := by decide +kernel
abbrev cX9_init : ByteArray := prog_11_method_1_code
def yX9_init : MethodName := ⟨RX9, "<init>", "()V"⟩
abbrev cX9_in : ByteArray := prog_11_method_2_code
def yX9_in : MethodName := ⟨RX9, "in", "(III)Z"⟩
abbrev cX9_isBlock : ByteArray := prog_11_method_3_code
def yX9_isBlock : MethodName := ⟨RX9, "isBlock", "(I)Z"⟩
abbrev cX9_isColumn : ByteArray := prog_11_method_4_code
def yX9_isColumn : MethodName := ⟨RX9, "isColumn", "(I)Z"⟩
abbrev cX9_isRow : ByteArray := prog_11_method_5_code
def yX9_isRow : MethodName := ⟨RX9, "isRow", "(II)Z"⟩
abbrev cX9_at : ByteArray := prog_11_method_6_code
def yX9_at : MethodName := ⟨RX9, "at", "(III)I"⟩
abbrev cX9_clear : ByteArray := prog_11_method_7_code
def yX9_clear : MethodName := ⟨RX9, "clear", "(I)V"⟩
abbrev cX9_placeOf : ByteArray := prog_11_method_8_code
def yX9_placeOf : MethodName := ⟨RX9, "placeOf", "(II)I"⟩
abbrev cX9_come : ByteArray := prog_11_method_9_code
def yX9_come : MethodName := ⟨RX9, "come", "(II)V"⟩
abbrev cX9_add : ByteArray := prog_11_method_10_code
def yX9_add : MethodName := ⟨RX9, "add", "(IIIII)I"⟩
abbrev cX9_drop : ByteArray := prog_11_method_11_code
def yX9_drop : MethodName := ⟨RX9, "drop", "(II)I"⟩
abbrev cX9_makeAnew : ByteArray := prog_11_method_12_code
def yX9_makeAnew : MethodName := ⟨RX9, "makeAnew", "(II)V"⟩
abbrev cX9_isStale : ByteArray := prog_11_method_13_code
def yX9_isStale : MethodName := ⟨RX9, "isStale", "(II)Z"⟩
abbrev cX9_anew : ByteArray := prog_11_method_14_code
def yX9_anew : MethodName := ⟨RX9, "anew", "(I)I"⟩
abbrev cX9_cell : ByteArray := prog_11_method_15_code
def yX9_cell : MethodName := ⟨RX9, "cell", "(III)I"⟩
abbrev cX9_summary : ByteArray := prog_11_method_16_code
def yX9_summary : MethodName := ⟨RX9, "summary", "(III)I"⟩
abbrev cX9_listed : ByteArray := prog_11_method_17_code
def yX9_listed : MethodName := ⟨RX9, "listed", "(IIII)I"⟩
abbrev cX9_say : ByteArray := prog_11_method_18_code
def yX9_say : MethodName := ⟨RX9, "say", "(I)I"⟩
abbrev cX9_wipe : ByteArray := prog_11_method_19_code
def yX9_wipe : MethodName := ⟨RX9, "wipe", "()I"⟩
abbrev cX9_termOf : ByteArray := prog_11_method_20_code
def yX9_termOf : MethodName := ⟨RX9, "termOf", "(I)I"⟩
abbrev cX9_truthOf : ByteArray := prog_11_method_21_code
def yX9_truthOf : MethodName := ⟨RX9, "truthOf", "(I)I"⟩
abbrev cX9_inner : ByteArray := prog_11_method_22_code
def yX9_inner : MethodName := ⟨RX9, "inner", "(I)I"⟩
abbrev cX9_read : ByteArray := prog_11_method_23_code
def yX9_read : MethodName := ⟨RX9, "read", "()I"⟩
abbrev cX9_fault : ByteArray := prog_11_method_24_code
def yX9_fault : MethodName := ⟨RX9, "fault", "()I"⟩
abbrev cX9_isTerm : ByteArray := prog_11_method_25_code
def yX9_isTerm : MethodName := ⟨RX9, "isTerm", "(I)Z"⟩
abbrev cX9_cut : ByteArray := prog_11_method_26_code
def yX9_cut : MethodName := ⟨RX9, "cut", "(J)I"⟩
abbrev cX9_byteOf : ByteArray := prog_11_method_27_code
def yX9_byteOf : MethodName := ⟨RX9, "byteOf", "(I)I"⟩
abbrev cX9_three : ByteArray := prog_11_method_28_code
def yX9_three : MethodName := ⟨RX9, "three", "(I)I"⟩
abbrev cX9_layRow : ByteArray := prog_11_method_29_code
def yX9_layRow : MethodName := ⟨RX9, "layRow", "()V"⟩
abbrev cX9_number : ByteArray := prog_11_method_30_code
def yX9_number : MethodName := ⟨RX9, "number", "(I)I"⟩
abbrev cX9_not : ByteArray := prog_11_method_31_code
def yX9_not : MethodName := ⟨RX9, "not", "(I)I"⟩
abbrev cX9_both : ByteArray := prog_11_method_32_code
def yX9_both : MethodName := ⟨RX9, "both", "(II)I"⟩
abbrev cX9_either : ByteArray := prog_11_method_33_code
def yX9_either : MethodName := ⟨RX9, "either", "(II)I"⟩
abbrev cX9_truthAt : ByteArray := prog_11_method_34_code
def yX9_truthAt : MethodName := ⟨RX9, "truthAt", "(I)I"⟩
abbrev cX9_truthOfRow : ByteArray := prog_11_method_35_code
def yX9_truthOfRow : MethodName := ⟨RX9, "truthOfRow", "(II)I"⟩
abbrev cX9_truth : ByteArray := prog_11_method_36_code
def yX9_truth : MethodName := ⟨RX9, "truth", "(II)I"⟩
abbrev cX9_layBlock : ByteArray := prog_11_method_37_code
def yX9_layBlock : MethodName := ⟨RX9, "layBlock", "(I)V"⟩
abbrev cX9_layRange : ByteArray := prog_11_method_38_code
def yX9_layRange : MethodName := ⟨RX9, "layRange", "(II)V"⟩
abbrev cX9_bit : ByteArray := prog_11_method_39_code
def yX9_bit : MethodName := ⟨RX9, "bit", "(I)I"⟩
abbrev cX9_mayAt : ByteArray := prog_11_method_40_code
def yX9_mayAt : MethodName := ⟨RX9, "mayAt", "(II)I"⟩
abbrev cX9_range : ByteArray := prog_11_method_41_code
def yX9_range : MethodName := ⟨RX9, "range", "(III)I"⟩
abbrev cX9_may : ByteArray := prog_11_method_42_code
def yX9_may : MethodName := ⟨RX9, "may", "(II)I"⟩
abbrev cX9_onlyColumn : ByteArray := prog_11_method_43_code
def yX9_onlyColumn : MethodName := ⟨RX9, "onlyColumn", "()I"⟩
abbrev cX9_mayOf : ByteArray := prog_11_method_44_code
def yX9_mayOf : MethodName := ⟨RX9, "mayOf", "(I)I"⟩
abbrev cX9_verdictOf : ByteArray := prog_11_method_45_code
def yX9_verdictOf : MethodName := ⟨RX9, "verdictOf", "(I)I"⟩
abbrev cX9_verdict : ByteArray := prog_11_method_46_code
def yX9_verdict : MethodName := ⟨RX9, "verdict", "(II)I"⟩
abbrev cX9_isLike : ByteArray := prog_11_method_47_code
def yX9_isLike : MethodName := ⟨RX9, "isLike", "(IIII)Z"⟩
abbrev cX9_answer : ByteArray := prog_11_method_48_code
def yX9_answer : MethodName := ⟨RX9, "answer", "(I)I"⟩
abbrev cX9_total : ByteArray := prog_11_method_49_code
def yX9_total : MethodName := ⟨RX9, "total", "(II)I"⟩
abbrev cX9_image : ByteArray := prog_11_method_50_code
def yX9_image : MethodName := ⟨RX9, "image", "(I)I"⟩
abbrev cX9_restore : ByteArray := prog_11_method_51_code
def yX9_restore : MethodName := ⟨RX9, "restore", "(I)I"⟩
abbrev cX9_told : ByteArray := prog_11_method_52_code
def yX9_told : MethodName := ⟨RX9, "told", "(I)I"⟩
def RJ9 : String := "java/lang/Math"
def TJ9 : u_T := fun k => match k with
  | _ => ("", "", "", false)
def tyJ9 : Nat → FieldType := fun k => match k with
  | _ => .int
abbrev wsJ90 : List Cond := u_ws RJ9 TJ9 0
theorem nmJ9 : ∀ a, a < 0 → ∀ b, b < 0 → a ≠ b → (TJ9 a).2.1 ≠ (TJ9 b).2.1 := by decide +kernel
theorem tyJ9_ok : ∀ k, k < 0 → parseFieldDescriptor (TJ9 k).2.2.1 = some (tyJ9 k) := by decide +kernel
abbrev cJ9_max_7cf53 : ByteArray := prog_12_method_65_code
def yJ9_max_7cf53 : MethodName := ⟨RJ9, "max", "(II)I"⟩
abbrev cJ9_min_7cf53 : ByteArray := prog_12_method_69_code
def yJ9_min_7cf53 : MethodName := ⟨RJ9, "min", "(II)I"⟩
def RJ10 : String := "java/lang/System"
def TJ10 : u_T := fun k => match k with
  | _ => ("", "", "", false)
def tyJ10 : Nat → FieldType := fun k => match k with
  | _ => .int
abbrev wsJ100 : List Cond := u_ws RJ10 TJ10 0
theorem nmJ10 : ∀ a, a < 0 → ∀ b, b < 0 → a ≠ b → (TJ10 a).2.1 ≠ (TJ10 b).2.1 := by decide +kernel
theorem tyJ10_ok : ∀ k, k < 0 → parseFieldDescriptor (TJ10 k).2.2.1 = some (tyJ10 k) := by decide +kernel
def RL : String := "BlockTruthsLaw"
abbrev cL_law : ByteArray := code
def yL_law : MethodName := ⟨RL, "law", "([I)Z"⟩
abbrev vwCl : List vw_C := [(RX0, TX0, 4), (RX1, TX1, 9), (RX2, TX2, 4), (RX3, TX3, 2), (RX4, TX4, 2), (RX5, TX5, 1), (RX6, TX6, 7), (RX7, TX7, 4), (RX8, TX8, 9), (RX9, TX9, 18)]
/-- one list of words for all methods: the tables that a callee may take -/
def WG : List Cond := lw_tbl.filter goodWord
theorem wg_in {w : Cond} {i : Nat} (h : lw_tbl[i]? = some w) (hg : goodWord w = true) : w ∈ WG := List.mem_filter.mpr ⟨List.mem_of_getElem? h, hg⟩
theorem wg_tbl {w : Cond} (h : w ∈ WG) : w ∈ lw_tbl := (List.mem_filter.mp h).1
theorem wg_good {w : Cond} (h : w ∈ WG) : (w.onTables && w.keeps) = true ∨ ∃ ty, w = .arrayClass ty := good_of_word (List.mem_filter.mp h).2
/-- a method's words: its own code, and WG -/
abbrev wW (y : MethodName) (c : ByteArray) (n : Nat) (r : Option FieldType) : List Cond := Cond.code y c n r :: WG
theorem wW_good {y y2 : MethodName} {c c2 : ByteArray} {n n2 : Nat} {r r2 : Option FieldType} (h : Cond.code y2 c2 n2 r2 ∈ WG) : GoodIn (wW y c n r) (wW y2 c2 n2 r2) := fun w hw => (List.mem_cons.mp hw).elim (fun e => by subst e; exact ⟨List.mem_cons_of_mem _ h, wg_good h⟩) (fun hw => ⟨List.mem_cons_of_mem _ hw, wg_good hw⟩)
theorem wW_wg {y : MethodName} {c : ByteArray} {n : Nat} {r : Option FieldType} {args : Array Value} {s : State} (h : ∀ w ∈ wW y c n r, w.before args s = true) : ∀ w ∈ WG, w.before args s = true := fun w hw => h w (List.mem_cons_of_mem _ hw)
theorem inX0 : ∀ w ∈ wsX00, w ∈ WG := by decide +kernel
theorem inX1 : ∀ w ∈ wsX10, w ∈ WG := by decide +kernel
theorem inX2 : ∀ w ∈ wsX20, w ∈ WG := by decide +kernel
theorem inX3 : ∀ w ∈ wsX30, w ∈ WG := by decide +kernel
theorem inX4 : ∀ w ∈ wsX40, w ∈ WG := by decide +kernel
theorem inX5 : ∀ w ∈ wsX50, w ∈ WG := by decide +kernel
theorem inX6 : ∀ w ∈ wsX60, w ∈ WG := by decide +kernel
theorem inX7 : ∀ w ∈ wsX70, w ∈ WG := by decide +kernel
theorem inX8 : ∀ w ∈ wsX80, w ∈ WG := by decide +kernel
theorem inX9 : ∀ w ∈ wsX90, w ∈ WG := by decide +kernel
